noncomputable section
/-! L3: runs of methods between cuts. -/
def hd_GoodsBookModel_take_94_6 (P : cm_G) (N : Nat) (H : fl_H) (a1 : Int) (Q : Option Int → fl_H → Prop) : Prop := ∀ lv : cm_Lv, cm_nth lv 0 = some (some (.index 94)) → cm_nth lv 1 = some (some (fl_t a1)) → vt P N cm_m198 6 lv [] H Q
theorem vh_GoodsBookModel_take_94_6 {X : Term} {xs : List Int32} {N : Nat} {H : fl_H} {a1 : Int} {Q : Option Int → fl_H → Prop} (W : ((fl_w (H 95 1) ≤ fl_w a1) → Q (some (H 94 8)) H) ∧ (¬ (fl_w (H 95 1) ≤ fl_w a1) → (0 ≤ fl_w a1 ∧ fl_w a1 < 6 → (0 ≤ fl_w (62 + a1) ∧ fl_w (62 + a1) < 152 → ∀ H3, H3 = fl_up H 95 (fl_w (62 + a1)).toNat (H 101 (fl_w a1).toNat) → ∀ m, m < N → hd_GoodsBookModel_take_94_6 (cm_pg X xs) m H3 (a1 + 1) Q)))) : hd_GoodsBookModel_take_94_6 (cm_pg X xs) N H a1 Q :=
 fun lv h0 h1 =>
 vt_iload_n rfl h1
 (vt_aload_n rfl h0 rfl
 (vt_getr rfl rfl rfl
 (vt_iconst rfl
 (vt_ialdN 1 rfl rfl rfl
 (vt_icmp rfl (fun hc1 => vt_aload_n rfl h0 rfl
 (vt_getf rfl rfl rfl
 (vt_ret rfl (W.1 hc1)))) (fun hc1 => vt_aload_n rfl h0 rfl
 (vt_getr rfl rfl rfl
 (vt_bipush (v := 62) rfl (by decide)
 (vt_iload_n rfl h1
 (vt_iadd rfl
 (vt_aload_n rfl h0 rfl
 (vt_getr rfl rfl rfl
 (vt_iload_n rfl h1
 (vt_iald rfl rfl (fun hf2 => vt_iast rfl rfl (fun hf5 => vt_nm (fun H3 e4 => vt_iincA rfl h1 (fun hl6 => vt_gotoS rfl (fun m hm => ((((W.2 hc1) hf2) hf5 H3 e4) m hm) _ (fl_lsn (by decide) h0) (fl_lse hl6))))))))))))))))))))
theorem ve_GoodsBookModel_take_94 {X : Term} {xs : List Int32} {N : Nat} {H : fl_H} {Q : Option Int → fl_H → Prop} (W : ∀ m, m < N → ck (cm_pg X xs) m cm_m196 [.index 94] H (fun r H1 => r = none ∧ (hd_GoodsBookModel_take_94_6 (cm_pg X xs) N H1 0 Q)))  : ck (cm_pg X xs) N cm_m198 [.index 94] H Q :=
  vt_aload_n rfl rfl rfl
 (vt_callV rfl rfl (fun _ => rfl) (fun m hm => vt_void (W m hm) (fun H1 w2 => vt_iconst rfl
 (vt_istore_n rfl
 (w2 _ rfl rfl)))))
theorem ve_GoodsBookModel_best_94 {X : Term} {xs : List Int32} {N : Nat} {H : fl_H} {a1 : Int} {Q : Option Int → fl_H → Prop} (W : ((fl_w a1 = (-1)) → ∀ m, m < N → ck (cm_pg X xs) m cm_m196 [.index 94] H (fun r H2 => r = none ∧ (((0 ≤ fl_w a1) → (0 ≤ fl_w a1 ∧ fl_w a1 < 6 → Q (some (H2 101 (fl_w a1).toNat)) H2)) ∧ (¬ (0 ≤ fl_w a1) → Q (some (H2 94 8)) H2)))) ∧ (¬ (fl_w a1 = (-1)) → ∀ m, m < N → ck (cm_pg X xs) m cm_m149 [.index 94, fl_t a1] H (fun r H6 => ∃ x8, r = some x8 ∧ ((fl_w x8 = 0 → Q (some (-1000000001)) H6) ∧ (¬ fl_w x8 = 0 → ∀ m, m < N → ck (cm_pg X xs) m cm_m196 [.index 94] H6 (fun r H10 => r = none ∧ (((0 ≤ fl_w a1) → (0 ≤ fl_w a1 ∧ fl_w a1 < 6 → Q (some (H10 101 (fl_w a1).toNat)) H10)) ∧ (¬ (0 ≤ fl_w a1) → Q (some (H10 94 8)) H10))))))))  : ck (cm_pg X xs) N cm_m197 [.index 94, fl_t a1] H Q :=
  vt_iload_n rfl rfl
 (vt_iconst rfl
 (vt_icmp rfl (fun hc1 => vt_aload_n rfl rfl rfl
 (vt_callV rfl rfl (fun _ => rfl) (fun m hm => vt_void ((W.1 hc1) m hm) (fun H2 w3 => vt_iload_n rfl rfl
 (vt_ifc rfl (fun hc4 => vt_aload_n rfl rfl rfl
 (vt_getr rfl rfl rfl
 (vt_iload_n rfl rfl
 (vt_iald rfl rfl (fun hf5 => vt_ret rfl ((w3.1 hc4) hf5)))))) (fun hc4 => vt_aload_n rfl rfl rfl
 (vt_getf rfl rfl rfl
 (vt_goto rfl
 (vt_ret rfl (w3.2 hc4)))))))))) (fun hc1 => vt_aload_n rfl rfl rfl
 (vt_iload_n rfl rfl
 (vt_callV rfl rfl (fun _ => rfl) (fun m hm => vt_int ((W.2 hc1) m hm) (fun x8 H6 w7 => vt_ifcN rfl (fun hc9 => vt_aload_n rfl rfl rfl
 (vt_callV rfl rfl (fun _ => rfl) (fun m hm => vt_void ((w7.2 hc9) m hm) (fun H10 w11 => vt_iload_n rfl rfl
 (vt_ifc rfl (fun hc12 => vt_aload_n rfl rfl rfl
 (vt_getr rfl rfl rfl
 (vt_iload_n rfl rfl
 (vt_iald rfl rfl (fun hf13 => vt_ret rfl ((w11.1 hc12) hf13)))))) (fun hc12 => vt_aload_n rfl rfl rfl
 (vt_getf rfl rfl rfl
 (vt_goto rfl
 (vt_ret rfl (w11.2 hc12)))))))))) (fun hc9 => vt_ldc (v := (-1000000001)) rfl (by decide)
 (vt_ret rfl (w7.1 hc9))))))))))
theorem ve_GoodsBookModel_fits_94 {X : Term} {xs : List Int32} {N : Nat} {H : fl_H} {a1 : Int} {Q : Option Int → fl_H → Prop} (W : ∀ m, m < N → ck (cm_pg X xs) m cm_m174 [.index 94] H (fun r H1 => ∃ x3, r = some x3 ∧ (((0 ≤ fl_w a1 ∧ fl_w a1 ≤ fl_w (x3 - 1)) → ∀ m, m < N → ck (cm_pg X xs) m cm_m173 [.index 94, fl_t a1] H1 (fun r H5 => ∃ x7, r = some x7 ∧ (((fl_w x7 = 0) → Q (some 0) H5) ∧ (¬ (fl_w x7 = 0) → Q (some 1) H5)))) ∧ (¬ (0 ≤ fl_w a1 ∧ fl_w a1 ≤ fl_w (x3 - 1)) → Q (some (-1)) H1))))  : ck (cm_pg X xs) N cm_m175 [.index 94, fl_t a1] H Q :=
  vt_iload_n rfl rfl
 (vt_i2l rfl
 (vt_lconst rfl (by decide)
 (vt_aload_n rfl rfl rfl
 (vt_callV rfl rfl (fun _ => rfl) (fun m hm => vt_int (W m hm) (fun x3 H1 w2 => vt_iconst rfl
 (vt_isub rfl
 (vt_i2l rfl
 (vt_callS rfl rfl (fun _ => rfl) (fun _ _ => vt_sum (sm_in (fl_lrw _) (fl_lrl (by decide) (by decide)) (fl_lrw _))
 (vt_ifn rfl (fun hc4 => vt_aload_n rfl rfl rfl
 (vt_iload_n rfl rfl
 (vt_callV rfl rfl (fun _ => rfl) (fun m hm => vt_int ((w2.1 hc4) m hm) (fun x7 H5 w6 => vt_ifc rfl (fun hc8 => vt_iconst rfl
 (vt_ret rfl (w6.1 hc8))) (fun hc8 => vt_iconst rfl
 (vt_goto rfl
 (vt_ret rfl (w6.2 hc8))))))))) (fun hc4 => vt_iconst rfl
 (vt_goto rfl
 (vt_ret rfl (w2.2 hc4)))))))))))))))
def hd_GoodsBookModel_judge_94_60 (P : cm_G) (N : Nat) (H : fl_H) (a1 : Int) (a6 : Int) (a7 : Int) (a8 : Int) (Q : Option Int → fl_H → Prop) : Prop := ∀ lv : cm_Lv, cm_nth lv 0 = some (some (.index 94)) → cm_nth lv 1 = some (some (fl_t a1)) → cm_nth lv 6 = some (some (fl_t a6)) → cm_nth lv 7 = some (some (fl_t a7)) → cm_nth lv 8 = some (some (fl_t a8)) → vt P N cm_m241 60 lv [] H Q
theorem vh_GoodsBookModel_judge_94_60 {X : Term} {xs : List Int32} {N : Nat} {H : fl_H} {a1 : Int} {a6 : Int} {a7 : Int} {a8 : Int} {Q : Option Int → fl_H → Prop} (W : ((fl_w (H 95 1) ≤ fl_w a8) → Q (some (-4)) H) ∧ (¬ (fl_w (H 95 1) ≤ fl_w a8) → (0 ≤ fl_w a8 ∧ fl_w a8 < 6 → ∀ m, m < N → ck (cm_pg X xs) m cm_m151 [fl_t (H 100 (fl_w a8).toNat)] H (fun r H3 => ∃ x5, r = some x5 ∧ ((fl_w x5 = fl_w a1 → (0 ≤ fl_w a7 ∧ fl_w a7 < 64 → ((0 ≤ fl_w (H3 109 (fl_w a7).toNat) ∧ fl_w (H3 109 (fl_w a7).toNat) ≤ 15) → (0 ≤ fl_w a8 ∧ fl_w a8 < 6 → (0 ≤ fl_w a7 ∧ fl_w a7 < 64 → ∀ m, m < N → ck (cm_pg X xs) m cm_m170 [.index 94, fl_t a8, fl_t (fl_rem ((H3 100 (fl_w a8).toNat) - 1) 2), fl_t (H3 109 (fl_w a7).toNat)] H3 (fun r H11 => ∃ x13, r = some x13 ∧ (((fl_w x13 = 0) → Q (some a8) H11) ∧ (¬ (fl_w x13 = 0) → ((fl_w (fl_and x13 a6) = 0) → ∀ m, m < N → hd_GoodsBookModel_judge_94_60 (cm_pg X xs) m H11 a1 (fl_or a6 x13) (a7 + 1) (a8 + 1) Q) ∧ (¬ (fl_w (fl_and x13 a6) = 0) → Q (some a8) H11))))))) ∧ (¬ (0 ≤ fl_w (H3 109 (fl_w a7).toNat) ∧ fl_w (H3 109 (fl_w a7).toNat) ≤ 15) → Q (some a8) H3))) ∧ (¬ fl_w x5 = fl_w a1 → ∀ m, m < N → hd_GoodsBookModel_judge_94_60 (cm_pg X xs) m H3 a1 a6 a7 (a8 + 1) Q)))))) : hd_GoodsBookModel_judge_94_60 (cm_pg X xs) N H a1 a6 a7 a8 Q :=
 fun lv h0 h1 h6 h7 h8 =>
 vt_iload rfl h8
 (vt_aload_n rfl h0 rfl
 (vt_getr rfl rfl rfl
 (vt_iconst rfl
 (vt_ialdN 1 rfl rfl rfl
 (vt_icmp rfl (fun hc1 => vt_bipush (v := (-4)) rfl (by decide)
 (vt_ret rfl (W.1 hc1))) (fun hc1 => vt_aload_n rfl h0 rfl
 (vt_getr rfl rfl rfl
 (vt_iload rfl h8
 (vt_iald rfl rfl (fun hf2 => vt_callS rfl rfl (fun _ => rfl) (fun m hm => vt_int (((W.2 hc1) hf2) m hm) (fun x5 H3 w4 => vt_iload_n rfl h1
 (vt_icmpN rfl (fun hc6 => vt_iincA rfl h8 (fun hl22 => vt_gotoS rfl (fun m hm => ((w4.2 hc6) m hm) _ (fl_lsn (by decide) h0) (fl_lsn (by decide) h1) (fl_lsn (by decide) h6) (fl_lsn (by decide) h7) (fl_lse hl22)))) (fun hc6 => vt_aload_n rfl h0 rfl
 (vt_getr rfl rfl rfl
 (vt_iload rfl h7
 (vt_iald rfl rfl (fun hf7 => vt_i2l rfl
 (vt_lconst rfl (by decide)
 (vt_ldc2 (v := 15) rfl (by decide)
 (vt_callS rfl rfl (fun _ => rfl) (fun _ _ => vt_sum (sm_in (fl_lrw _) (fl_lrl (by decide) (by decide)) (fl_lrl (by decide) (by decide)))
 (vt_ifb rfl (fun hc8 => vt_aload_n rfl h0 rfl
 (vt_iload rfl h8
 (vt_aload_n rfl h0 rfl
 (vt_getr rfl rfl rfl
 (vt_iload rfl h8
 (vt_iald rfl rfl (fun hf9 => vt_iconst rfl
 (vt_isub rfl
 (vt_iconst rfl
 (vt_irem rfl
 (vt_aload_n rfl h0 rfl
 (vt_getr rfl rfl rfl
 (vt_iload rfl h7
 (vt_iald rfl rfl (fun hf10 => vt_callV rfl rfl (fun _ => rfl) (fun m hm => vt_int ((((((w4.1 hc6) hf7).1 hc8) hf9) hf10) m hm) (fun x13 H11 w12 => vt_goto rfl
 (vt_istoreA rfl (fun hl14 => vt_iload rfl (fl_lse hl14)
 (vt_ifc rfl (fun hc15 => vt_iload rfl (fl_lsn (by decide) h8)
 (vt_ret rfl (w12.1 hc15))) (fun hc15 => vt_iload rfl (fl_lse hl14)
 (vt_iload rfl (fl_lsn (by decide) h6)
 (vt_iand rfl
 (vt_ifc rfl (fun hc16 => vt_iload rfl (fl_lsn (by decide) h6)
 (vt_iload rfl (fl_lse hl14)
 (vt_ior rfl
 (vt_istoreA rfl (fun hl17 => vt_iincA rfl (fl_lsn (by decide) (fl_lsn (by decide) h7)) (fun hl18 => vt_iincA rfl (fl_lsn (by decide) (fl_lsn (by decide) (fl_lsn (by decide) h8))) (fun hl19 => vt_gotoS rfl (fun m hm => (((w12.2 hc15).1 hc16) m hm) _ (fl_lsn (by decide) (fl_lsn (by decide) (fl_lsn (by decide) (fl_lsn (by decide) h0)))) (fl_lsn (by decide) (fl_lsn (by decide) (fl_lsn (by decide) (fl_lsn (by decide) h1)))) (fl_lsn (by decide) (fl_lsn (by decide) (fl_lse hl17))) (fl_lsn (by decide) (fl_lse hl18)) (fl_lse hl19))))))))) (fun hc16 => vt_iload rfl (fl_lsn (by decide) h8)
 (vt_ret rfl ((w12.2 hc15).2 hc16))))))))))))))))))))))))))) (fun hc8 => vt_iconst rfl
 (vt_istoreA rfl (fun hl20 => vt_iload rfl (fl_lse hl20)
 (vt_ifc (a := 0) rfl (fun _ => vt_iload rfl (fl_lsn (by decide) h8)
 (vt_ret rfl (((w4.1 hc6) hf7).2 hc8))) (fun hc21 => by exact absurd (show (0 : Int) = 0 by decide) hc21))))))))))))))))))))))))))))
theorem ve_GoodsBookModel_judge_94 {X : Term} {xs : List Int32} {N : Nat} {H : fl_H} {a1 a2 a3 a4 : Int} {Q : Option Int → fl_H → Prop} (W : ∀ m, m < N → ck (cm_pg X xs) m cm_m148 [.index 94, fl_t a1] H (fun r H1 => ∃ x3, r = some x3 ∧ (((fl_w x3 = 0) → Q (some (-1)) H1) ∧ (¬ (fl_w x3 = 0) → ∀ m, m < N → ck (cm_pg X xs) m cm_m235 [fl_t a2, fl_t a3] H1 (fun r H5 => ∃ x7, r = some x7 ∧ ((fl_w x7 = 0 → Q (some (-1)) H5) ∧ (¬ fl_w x7 = 0 → ∀ m, m < N → ck (cm_pg X xs) m cm_m176 [.index 94] H5 (fun r H9 => r = none ∧ (∀ m, m < N → ck (cm_pg X xs) m cm_m178 [.index 94, fl_t a1] H9 (fun r H11 => ∃ x13, r = some x13 ∧ (∀ m, m < N → ck (cm_pg X xs) m cm_m238 [.index 94, fl_t a2, fl_t a3, fl_t a4, fl_t x13] H11 (fun r H14 => ∃ x16, r = some x16 ∧ (((0 ≤ fl_w x16) → hd_GoodsBookModel_judge_94_60 (cm_pg X xs) N H14 a1 0 ((16 * a2) + a4) 0 Q) ∧ (¬ (0 ≤ fl_w x16) → Q (some x16) H14))))))))))))))  : ck (cm_pg X xs) N cm_m241 [.index 94, fl_t a1, fl_t a2, fl_t a3, fl_t a4] H Q :=
  vt_aload_n rfl rfl rfl
 (vt_iload_n rfl rfl
 (vt_callV rfl rfl (fun _ => rfl) (fun m hm => vt_int (W m hm) (fun x3 H1 w2 => vt_ifc rfl (fun hc4 => vt_iconst rfl
 (vt_ret rfl (w2.1 hc4))) (fun hc4 => vt_iload_n rfl rfl
 (vt_iload_n rfl rfl
 (vt_callS rfl rfl (fun _ => rfl) (fun m hm => vt_int ((w2.2 hc4) m hm) (fun x7 H5 w6 => vt_ifcN rfl (fun hc8 => vt_aload_n rfl rfl rfl
 (vt_callV rfl rfl (fun _ => rfl) (fun m hm => vt_void ((w6.2 hc8) m hm) (fun H9 w10 => vt_aload_n rfl rfl rfl
 (vt_iload_n rfl rfl
 (vt_iload_n rfl rfl
 (vt_iload rfl rfl
 (vt_aload_n rfl rfl rfl
 (vt_iload_n rfl rfl
 (vt_callV rfl rfl (fun _ => rfl) (fun m hm => vt_int (w10 m hm) (fun x13 H11 w12 => vt_callV rfl rfl (fun _ => rfl) (fun m hm => vt_int (w12 m hm) (fun x16 H14 w15 => vt_istore rfl
 (vt_iload rfl rfl
 (vt_ifc rfl (fun hc17 => vt_iconst rfl
 (vt_istore rfl
 (vt_bipush (v := 16) rfl (by decide)
 (vt_iload_n rfl rfl
 (vt_imul rfl
 (vt_iload rfl rfl
 (vt_iadd rfl
 (vt_istore rfl
 (vt_iconst rfl
 (vt_istore rfl
 ((w15.1 hc17) _ rfl rfl rfl rfl rfl))))))))))) (fun hc17 => vt_iload rfl rfl
 (vt_ret rfl (w15.2 hc17))))))))))))))))))) (fun hc8 => vt_iconst rfl
 (vt_ret rfl (w6.1 hc8))))))))))))
def hd_GoodsBookModel_square_94_59 (P : cm_G) (N : Nat) (H : fl_H) (a1 : Int) (a3 : Int) (Q : Option Int → fl_H → Prop) : Prop := ∀ lv : cm_Lv, cm_nth lv 0 = some (some (.index 94)) → cm_nth lv 1 = some (some (fl_t a1)) → cm_nth lv 3 = some (some (fl_t a3)) → vt P N cm_m192 59 lv [] H Q
theorem vh_GoodsBookModel_square_94_59 {X : Term} {xs : List Int32} {N : Nat} {H : fl_H} {a1 : Int} {a3 : Int} {Q : Option Int → fl_H → Prop} (W : (0 ≤ fl_w a3 ∧ fl_w a3 < 6 → ((fl_w (H 98 (fl_w a3).toNat) = fl_w a1) → (0 ≤ fl_w a3 ∧ fl_w a3 < 6 → Q (some (H 97 (fl_w a3).toNat)) H)) ∧ (¬ (fl_w (H 98 (fl_w a3).toNat) = fl_w a1) → ∀ m, m < N → hd_GoodsBookModel_square_94_59 (cm_pg X xs) m H a1 (a3 + 1) Q))) : hd_GoodsBookModel_square_94_59 (cm_pg X xs) N H a1 a3 Q :=
 fun lv h0 h1 h3 =>
 vt_aload_n rfl h0 rfl
 (vt_getr rfl rfl rfl
 (vt_iload_n rfl h3
 (vt_iald rfl rfl (fun hf1 => vt_iload_n rfl h1
 (vt_icmp rfl (fun hc2 => vt_aload_n rfl h0 rfl
 (vt_getr rfl rfl rfl
 (vt_iload_n rfl h3
 (vt_iald rfl rfl (fun hf3 => vt_ret rfl (((W hf1).1 hc2) hf3)))))) (fun hc2 => vt_iincA rfl h3 (fun hl4 => vt_gotoS rfl (fun m hm => (((W hf1).2 hc2) m hm) _ (fl_lsn (by decide) h0) (fl_lsn (by decide) h1) (fl_lse hl4)))))))))
theorem ve_GoodsBookModel_square_94 {X : Term} {xs : List Int32} {N : Nat} {H : fl_H} {a1 : Int} {Q : Option Int → fl_H → Prop} (W : ∀ m, m < N → ck (cm_pg X xs) m cm_m149 [.index 94, fl_t a1] H (fun r H1 => ∃ x3, r = some x3 ∧ ((fl_w x3 = 0 → Q (some (-1)) H1) ∧ (¬ fl_w x3 = 0 → ∀ m, m < N → ck (cm_pg X xs) m cm_m176 [.index 94] H1 (fun r H5 => r = none ∧ ((0 ≤ fl_w a1 ∧ fl_w a1 < 6 → (fl_w (H5 100 (fl_w a1).toNat) = 0 → Q (some (-2)) H5) ∧ (¬ fl_w (H5 100 (fl_w a1).toNat) = 0 → (0 ≤ fl_w a1 ∧ fl_w a1 < 6 → ∀ m, m < N → ck (cm_pg X xs) m cm_m151 [fl_t (H5 100 (fl_w a1).toNat)] H5 (fun r H10 => ∃ x12, r = some x12 ∧ (∀ m, m < N → ck (cm_pg X xs) m cm_m177 [.index 94, fl_t x12] H10 (fun r H13 => ∃ x15, r = some x15 ∧ (∀ m, m < N → ck (cm_pg X xs) m cm_m173 [.index 94, fl_t x15] H13 (fun r H16 => ∃ x18, r = some x18 ∧ ((fl_w x18 = 0 → Q (some (-4)) H16) ∧ (¬ fl_w x18 = 0 → ∀ m, m < N → ck (cm_pg X xs) m cm_m171 [.index 94, fl_t x15] H16 (fun r H20 => ∃ x22, r = some x22 ∧ (hd_GoodsBookModel_square_94_59 (cm_pg X xs) N H20 a1 0 Q))))))))))))))))))  : ck (cm_pg X xs) N cm_m192 [.index 94, fl_t a1] H Q :=
  vt_aload_n rfl rfl rfl
 (vt_iload_n rfl rfl
 (vt_callV rfl rfl (fun _ => rfl) (fun m hm => vt_int (W m hm) (fun x3 H1 w2 => vt_ifcN rfl (fun hc4 => vt_aload_n rfl rfl rfl
 (vt_callV rfl rfl (fun _ => rfl) (fun m hm => vt_void ((w2.2 hc4) m hm) (fun H5 w6 => vt_aload_n rfl rfl rfl
 (vt_getr rfl rfl rfl
 (vt_iload_n rfl rfl
 (vt_iald rfl rfl (fun hf7 => vt_ifcN rfl (fun hc8 => vt_aload_n rfl rfl rfl
 (vt_aload_n rfl rfl rfl
 (vt_getr rfl rfl rfl
 (vt_iload_n rfl rfl
 (vt_iald rfl rfl (fun hf9 => vt_callS rfl rfl (fun _ => rfl) (fun m hm => vt_int ((((w6 hf7).2 hc8) hf9) m hm) (fun x12 H10 w11 => vt_callV rfl rfl (fun _ => rfl) (fun m hm => vt_int (w11 m hm) (fun x15 H13 w14 => vt_istore_n rfl
 (vt_aload_n rfl rfl rfl
 (vt_iload_n rfl rfl
 (vt_callV rfl rfl (fun _ => rfl) (fun m hm => vt_int (w14 m hm) (fun x18 H16 w17 => vt_ifcN rfl (fun hc19 => vt_aload_n rfl rfl rfl
 (vt_iload_n rfl rfl
 (vt_callV rfl rfl (fun _ => rfl) (fun m hm => vt_int ((w17.2 hc19) m hm) (fun x22 H20 w21 => vt_mv (fun _ _ => rfl)
 (vt_iconst rfl
 (vt_istore_n rfl
 (w21 _ rfl rfl rfl)))))))) (fun hc19 => vt_bipush (v := (-4)) rfl (by decide)
 (vt_ret rfl (w17.1 hc19)))))))))))))))))) (fun hc8 => vt_bipush (v := (-2)) rfl (by decide)
 (vt_ret rfl ((w6 hf7).1 hc8))))))))))) (fun hc4 => vt_iconst rfl
 (vt_ret rfl (w2.1 hc4)))))))
theorem ve_GoodsBookModel_breaks_94 {X : Term} {xs : List Int32} {N : Nat} {H : fl_H} {a1 : Int} {Q : Option Int → fl_H → Prop} (W : ((0 ≤ fl_w a1 ∧ fl_w a1 ≤ 1) → ∀ m, m < N → ck (cm_pg X xs) m cm_m176 [.index 94] H (fun r H2 => r = none ∧ ((fl_w a1 = 0 → ∀ m, m < N → ck (cm_pg X xs) m cm_m185 [.index 94] H2 (fun r H5 => ∃ x7, r = some x7 ∧ (Q (some x7) H5))) ∧ (¬ fl_w a1 = 0 → ∀ m, m < N → ck (cm_pg X xs) m cm_m186 [.index 94] H2 (fun r H8 => ∃ x10, r = some x10 ∧ (Q (some x10) H8)))))) ∧ (¬ (0 ≤ fl_w a1 ∧ fl_w a1 ≤ 1) → Q (some (-1)) H))  : ck (cm_pg X xs) N cm_m191 [.index 94, fl_t a1] H Q :=
  vt_iload_n rfl rfl
 (vt_i2l rfl
 (vt_lconst rfl (by decide)
 (vt_lconst rfl (by decide)
 (vt_callS rfl rfl (fun _ => rfl) (fun _ _ => vt_sum (sm_in (fl_lrw _) (fl_lrl (by decide) (by decide)) (fl_lrl (by decide) (by decide)))
 (vt_ifn rfl (fun hc1 => vt_aload_n rfl rfl rfl
 (vt_callV rfl rfl (fun _ => rfl) (fun m hm => vt_void ((W.1 hc1) m hm) (fun H2 w3 => vt_iload_n rfl rfl
 (vt_ifcN rfl (fun hc4 => vt_aload_n rfl rfl rfl
 (vt_callV rfl rfl (fun _ => rfl) (fun m hm => vt_int ((w3.2 hc4) m hm) (fun x10 H8 w9 => vt_ret rfl w9)))) (fun hc4 => vt_aload_n rfl rfl rfl
 (vt_callV rfl rfl (fun _ => rfl) (fun m hm => vt_int ((w3.1 hc4) m hm) (fun x7 H5 w6 => vt_goto rfl
 (vt_ret rfl w6)))))))))) (fun hc1 => vt_iconst rfl
 (vt_ret rfl (W.2 hc1)))))))))
theorem ve_GoodsBookModel_worth_94 {X : Term} {xs : List Int32} {N : Nat} {H : fl_H} {Q : Option Int → fl_H → Prop} (W : ∀ m, m < N → ck (cm_pg X xs) m cm_m176 [.index 94] H (fun r H1 => r = none ∧ (∀ m, m < N → ck (cm_pg X xs) m cm_m183 [.index 94] H1 (fun r H3 => ∃ x5, r = some x5 ∧ (Q (some x5) H3)))))  : ck (cm_pg X xs) N cm_m190 [.index 94] H Q :=
  vt_aload_n rfl rfl rfl
 (vt_callV rfl rfl (fun _ => rfl) (fun m hm => vt_void (W m hm) (fun H1 w2 => vt_aload_n rfl rfl rfl
 (vt_callV rfl rfl (fun _ => rfl) (fun m hm => vt_int (w2 m hm) (fun x5 H3 w4 => vt_ret rfl w4))))))
theorem ve_GoodsBookModel_brings_94 {X : Term} {xs : List Int32} {N : Nat} {H : fl_H} {a1 : Int} {Q : Option Int → fl_H → Prop} (W : ∀ m, m < N → ck (cm_pg X xs) m cm_m149 [.index 94, fl_t a1] H (fun r H1 => ∃ x3, r = some x3 ∧ ((fl_w x3 = 0 → Q (some (-1)) H1) ∧ (¬ fl_w x3 = 0 → ∀ m, m < N → ck (cm_pg X xs) m cm_m176 [.index 94] H1 (fun r H5 => r = none ∧ ((0 ≤ fl_w a1 ∧ fl_w a1 < 6 → (fl_w (H5 100 (fl_w a1).toNat) = 0 → Q (some (-4)) H5) ∧ (¬ fl_w (H5 100 (fl_w a1).toNat) = 0 → ∀ m, m < N → ck (cm_pg X xs) m cm_m181 [.index 94, fl_t a1] H5 (fun r H9 => ∃ x11, r = some x11 ∧ (Q (some x11) H9))))))))))  : ck (cm_pg X xs) N cm_m189 [.index 94, fl_t a1] H Q :=
  vt_aload_n rfl rfl rfl
 (vt_iload_n rfl rfl
 (vt_callV rfl rfl (fun _ => rfl) (fun m hm => vt_int (W m hm) (fun x3 H1 w2 => vt_ifcN rfl (fun hc4 => vt_aload_n rfl rfl rfl
 (vt_callV rfl rfl (fun _ => rfl) (fun m hm => vt_void ((w2.2 hc4) m hm) (fun H5 w6 => vt_aload_n rfl rfl rfl
 (vt_getr rfl rfl rfl
 (vt_iload_n rfl rfl
 (vt_iald rfl rfl (fun hf7 => vt_ifcN rfl (fun hc8 => vt_aload_n rfl rfl rfl
 (vt_iload_n rfl rfl
 (vt_callV rfl rfl (fun _ => rfl) (fun m hm => vt_int (((w6 hf7).2 hc8) m hm) (fun x11 H9 w10 => vt_ret rfl w10))))) (fun hc8 => vt_bipush (v := (-4)) rfl (by decide)
 (vt_goto rfl
 (vt_ret rfl ((w6 hf7).1 hc8)))))))))))) (fun hc4 => vt_iconst rfl
 (vt_ret rfl (w2.1 hc4)))))))
def hd_GoodsBookModel_plan_94_36 (P : cm_G) (N : Nat) (H : fl_H) (a1 : Int) (a3 : Int) (a5 : Int) (Q : Option Int → fl_H → Prop) : Prop := ∀ lv : cm_Lv, cm_nth lv 0 = some (some (.index 94)) → cm_nth lv 1 = some (some (fl_t a1)) → cm_nth lv 3 = some (some (fl_t a3)) → cm_nth lv 5 = some (some (fl_t a5)) → vt P N cm_m240 36 lv [] H Q
def hd_GoodsBookModel_plan_94_80 (P : cm_G) (N : Nat) (H : fl_H) (a1 : Int) (a3 : Int) (a5 : Int) (Q : Option Int → fl_H → Prop) : Prop := ∀ lv : cm_Lv, cm_nth lv 0 = some (some (.index 94)) → cm_nth lv 1 = some (some (fl_t a1)) → cm_nth lv 3 = some (some (fl_t a3)) → cm_nth lv 5 = some (some (fl_t a5)) → vt P N cm_m240 80 lv [] H Q
theorem vh_GoodsBookModel_plan_94_36 {X : Term} {xs : List Int32} {N : Nat} {H : fl_H} {a1 : Int} {a3 : Int} {a5 : Int} {Q : Option Int → fl_H → Prop} (W : ((fl_w (H 95 1) ≤ fl_w a5) → hd_GoodsBookModel_plan_94_80 (cm_pg X xs) N H a1 a3 0 Q) ∧ (¬ (fl_w (H 95 1) ≤ fl_w a5) → (0 ≤ fl_w (((16 * a1) + a3) + a5) ∧ fl_w (((16 * a1) + a3) + a5) < 64 → ∀ m, m < N → ck (cm_pg X xs) m cm_m150 [.index 94, fl_t (H 109 (fl_w (((16 * a1) + a3) + a5)).toNat)] H (fun r H4 => ∃ x6, r = some x6 ∧ ((fl_w x6 = 0 → Q (some (-2)) H4) ∧ (¬ fl_w x6 = 0 → ∀ m, m < N → hd_GoodsBookModel_plan_94_36 (cm_pg X xs) m H4 a1 a3 (a5 + 1) Q)))))) : hd_GoodsBookModel_plan_94_36 (cm_pg X xs) N H a1 a3 a5 Q :=
 fun lv h0 h1 h3 h5 =>
 vt_iload rfl h5
 (vt_aload_n rfl h0 rfl
 (vt_getr rfl rfl rfl
 (vt_iconst rfl
 (vt_ialdN 1 rfl rfl rfl
 (vt_icmp rfl (fun hc1 => vt_iconst rfl
 (vt_istoreA rfl (fun hl2 => (W.1 hc1) _ (fl_lsn (by decide) h0) (fl_lsn (by decide) h1) (fl_lsn (by decide) h3) (fl_lse hl2)))) (fun hc1 => vt_aload_n rfl h0 rfl
 (vt_aload_n rfl h0 rfl
 (vt_getr rfl rfl rfl
 (vt_bipush (v := 16) rfl (by decide)
 (vt_iload_n rfl h1
 (vt_imul rfl
 (vt_iload_n rfl h3
 (vt_iadd rfl
 (vt_iload rfl h5
 (vt_iadd rfl
 (vt_iald rfl rfl (fun hf3 => vt_callV rfl rfl (fun _ => rfl) (fun m hm => vt_int (((W.2 hc1) hf3) m hm) (fun x6 H4 w5 => vt_ifcN rfl (fun hc7 => vt_iincA rfl h5 (fun hl8 => vt_gotoS rfl (fun m hm => ((w5.2 hc7) m hm) _ (fl_lsn (by decide) h0) (fl_lsn (by decide) h1) (fl_lsn (by decide) h3) (fl_lse hl8)))) (fun hc7 => vt_bipush (v := (-2)) rfl (by decide)
 (vt_ret rfl (w5.1 hc7))))))))))))))))))))))
theorem vh_GoodsBookModel_plan_94_80 {X : Term} {xs : List Int32} {N : Nat} {H : fl_H} {a1 : Int} {a3 : Int} {a5 : Int} {Q : Option Int → fl_H → Prop} (W : ((fl_w (H 95 1) ≤ fl_w a5) → ∀ m, m < N → ck (cm_pg X xs) m cm_m167 [.index 94, fl_t 4] H (fun r H2 => ∃ x4, r = some x4 ∧ (Q (some x4) H2))) ∧ (¬ (fl_w (H 95 1) ≤ fl_w a5) → (0 ≤ fl_w (((16 * a1) + a3) + a5) ∧ fl_w (((16 * a1) + a3) + a5) < 64 → (0 ≤ fl_w (62 + a5) ∧ fl_w (62 + a5) < 152 → ∀ H6, H6 = fl_up H 95 (fl_w (62 + a5)).toNat (H 109 (fl_w (((16 * a1) + a3) + a5)).toNat) → ∀ m, m < N → hd_GoodsBookModel_plan_94_80 (cm_pg X xs) m H6 a1 a3 (a5 + 1) Q)))) : hd_GoodsBookModel_plan_94_80 (cm_pg X xs) N H a1 a3 a5 Q :=
 fun lv h0 h1 h3 h5 =>
 vt_iload rfl h5
 (vt_aload_n rfl h0 rfl
 (vt_getr rfl rfl rfl
 (vt_iconst rfl
 (vt_ialdN 1 rfl rfl rfl
 (vt_icmp rfl (fun hc1 => vt_aload_n rfl h0 rfl
 (vt_iconst rfl
 (vt_callV rfl rfl (fun _ => rfl) (fun m hm => vt_int ((W.1 hc1) m hm) (fun x4 H2 w3 => vt_ret rfl w3))))) (fun hc1 => vt_aload_n rfl h0 rfl
 (vt_getr rfl rfl rfl
 (vt_bipush (v := 62) rfl (by decide)
 (vt_iload rfl h5
 (vt_iadd rfl
 (vt_aload_n rfl h0 rfl
 (vt_getr rfl rfl rfl
 (vt_bipush (v := 16) rfl (by decide)
 (vt_iload_n rfl h1
 (vt_imul rfl
 (vt_iload_n rfl h3
 (vt_iadd rfl
 (vt_iload rfl h5
 (vt_iadd rfl
 (vt_iald rfl rfl (fun hf5 => vt_iast rfl rfl (fun hf8 => vt_nm (fun H6 e7 => vt_iincA rfl h5 (fun hl9 => vt_gotoS rfl (fun m hm => ((((W.2 hc1) hf5) hf8 H6 e7) m hm) _ (fl_lsn (by decide) h0) (fl_lsn (by decide) h1) (fl_lsn (by decide) h3) (fl_lse hl9))))))))))))))))))))))))))
theorem ve_GoodsBookModel_plan_94 {X : Term} {xs : List Int32} {N : Nat} {H : fl_H} {a1 a2 a3 : Int} {Q : Option Int → fl_H → Prop} (W : ∀ m, m < N → ck (cm_pg X xs) m cm_m235 [fl_t a1, fl_t a2] H (fun r H1 => ∃ x3, r = some x3 ∧ ((fl_w x3 = 0 → Q (some (-1)) H1) ∧ (¬ fl_w x3 = 0 → ∀ m, m < N → ck (cm_pg X xs) m cm_m238 [.index 94, fl_t a1, fl_t a2, fl_t a3, fl_t (H1 95 1)] H1 (fun r H5 => ∃ x7, r = some x7 ∧ (((0 ≤ fl_w x7) → hd_GoodsBookModel_plan_94_36 (cm_pg X xs) N H5 a1 a3 0 Q) ∧ (¬ (0 ≤ fl_w x7) → Q (some x7) H5)))))))  : ck (cm_pg X xs) N cm_m240 [.index 94, fl_t a1, fl_t a2, fl_t a3] H Q :=
  vt_iload_n rfl rfl
 (vt_iload_n rfl rfl
 (vt_callS rfl rfl (fun _ => rfl) (fun m hm => vt_int (W m hm) (fun x3 H1 w2 => vt_ifcN rfl (fun hc4 => vt_aload_n rfl rfl rfl
 (vt_iload_n rfl rfl
 (vt_iload_n rfl rfl
 (vt_iload_n rfl rfl
 (vt_aload_n rfl rfl rfl
 (vt_getr rfl rfl rfl
 (vt_iconst rfl
 (vt_ialdN 1 rfl rfl rfl
 (vt_callV rfl rfl (fun _ => rfl) (fun m hm => vt_int ((w2.2 hc4) m hm) (fun x7 H5 w6 => vt_istore rfl
 (vt_iload rfl rfl
 (vt_ifc rfl (fun hc8 => vt_iconst rfl
 (vt_istore rfl
 ((w6.1 hc8) _ rfl rfl rfl rfl))) (fun hc8 => vt_iload rfl rfl
 (vt_ret rfl (w6.2 hc8)))))))))))))))) (fun hc4 => vt_iconst rfl
 (vt_ret rfl (w2.1 hc4)))))))
theorem ve_GoodsBookModel_isChoice_94 {X : Term} {xs : List Int32} {N : Nat} {H : fl_H} {a1 : Int} {Q : Option Int → fl_H → Prop} (W : Q (some (fl_b (0 ≤ fl_w a1 ∧ fl_w a1 ≤ fl_w (2 * (H 95 0))))) H)  : ck (cm_pg X xs) N cm_m150 [.index 94, fl_t a1] H Q :=
  vt_iload_n rfl rfl
 (vt_i2l rfl
 (vt_lconst rfl (by decide)
 (vt_iconst rfl
 (vt_aload_n rfl rfl rfl
 (vt_getr rfl rfl rfl
 (vt_iconst rfl
 (vt_ialdN 0 rfl rfl rfl
 (vt_imul rfl
 (vt_i2l rfl
 (vt_callS rfl rfl (fun _ => rfl) (fun _ _ => vt_sum (sm_in (fl_lrw _) (fl_lrl (by decide) (by decide)) (fl_lrw _))
 (vt_ret rfl W))))))))))))
theorem ve_GoodsBookModel_choose_94 {X : Term} {xs : List Int32} {N : Nat} {H : fl_H} {a1 a2 : Int} {Q : Option Int → fl_H → Prop} (W : ∀ m, m < N → ck (cm_pg X xs) m cm_m149 [.index 94, fl_t a1] H (fun r H1 => ∃ x3, r = some x3 ∧ (((fl_w x3 = 0) → Q (some (-1)) H1) ∧ (¬ (fl_w x3 = 0) → ∀ m, m < N → ck (cm_pg X xs) m cm_m150 [.index 94, fl_t a2] H1 (fun r H5 => ∃ x7, r = some x7 ∧ ((fl_w x7 = 0 → Q (some (-1)) H5) ∧ (¬ fl_w x7 = 0 → (0 ≤ fl_w (62 + a1) ∧ fl_w (62 + a1) < 152 → (0 ≤ fl_w (62 + a1) ∧ fl_w (62 + a1) < 152 → ∀ H10, H10 = fl_up H5 95 (fl_w (62 + a1)).toNat a2 → Q (some (H5 95 (fl_w (62 + a1)).toNat)) H10)))))))))  : ck (cm_pg X xs) N cm_m188 [.index 94, fl_t a1, fl_t a2] H Q :=
  vt_aload_n rfl rfl rfl
 (vt_iload_n rfl rfl
 (vt_callV rfl rfl (fun _ => rfl) (fun m hm => vt_int (W m hm) (fun x3 H1 w2 => vt_ifc rfl (fun hc4 => vt_iconst rfl
 (vt_ret rfl (w2.1 hc4))) (fun hc4 => vt_aload_n rfl rfl rfl
 (vt_iload_n rfl rfl
 (vt_callV rfl rfl (fun _ => rfl) (fun m hm => vt_int ((w2.2 hc4) m hm) (fun x7 H5 w6 => vt_ifcN rfl (fun hc8 => vt_aload_n rfl rfl rfl
 (vt_getr rfl rfl rfl
 (vt_bipush (v := 62) rfl (by decide)
 (vt_iload_n rfl rfl
 (vt_iadd rfl
 (vt_iald rfl rfl (fun hf9 => vt_istore_n rfl
 (vt_aload_n rfl rfl rfl
 (vt_getr rfl rfl rfl
 (vt_bipush (v := 62) rfl (by decide)
 (vt_iload_n rfl rfl
 (vt_iadd rfl
 (vt_iload_n rfl rfl
 (vt_iast rfl rfl (fun hf12 => vt_nm (fun H10 e11 => vt_iload_n rfl rfl
 (vt_ret rfl (((w6.2 hc8) hf9) hf12 H10 e11)))))))))))))))))) (fun hc8 => vt_iconst rfl
 (vt_ret rfl (w6.1 hc8))))))))))))
def hd_GoodsBookModel_count_94_18 (P : cm_G) (N : Nat) (H : fl_H) (a1 : Int) (a2 : Int) (a3 : Int) (Q : Option Int → fl_H → Prop) : Prop := ∀ lv : cm_Lv, cm_nth lv 0 = some (some (.index 94)) → cm_nth lv 1 = some (some (fl_t a1)) → cm_nth lv 2 = some (some (fl_t a2)) → cm_nth lv 3 = some (some (fl_t a3)) → vt P N cm_m167 18 lv [] H Q
theorem vh_GoodsBookModel_count_94_18 {X : Term} {xs : List Int32} {N : Nat} {H : fl_H} {a1 : Int} {a2 : Int} {a3 : Int} {Q : Option Int → fl_H → Prop} (W : ((fl_w (H 95 1) ≤ fl_w a3) → ((4 ≤ fl_w a1) → Q (some a2) H) ∧ (¬ (4 ≤ fl_w a1) → (0 ≤ fl_w a1 ∧ fl_w a1 < 152 → Q (some (H 95 (fl_w a1).toNat)) H))) ∧ (¬ (fl_w (H 95 1) ≤ fl_w a3) → (0 ≤ fl_w (62 + a3) ∧ fl_w (62 + a3) < 152 → ((fl_w (H 95 (fl_w (62 + a3)).toNat) ≤ 0) → ∀ m, m < N → hd_GoodsBookModel_count_94_18 (cm_pg X xs) m H a1 (a2 + 0) (a3 + 1) Q) ∧ (¬ (fl_w (H 95 (fl_w (62 + a3)).toNat) ≤ 0) → ∀ m, m < N → hd_GoodsBookModel_count_94_18 (cm_pg X xs) m H a1 (a2 + 1) (a3 + 1) Q)))) : hd_GoodsBookModel_count_94_18 (cm_pg X xs) N H a1 a2 a3 Q :=
 fun lv h0 h1 h2 h3 =>
 vt_iload_n rfl h3
 (vt_aload_n rfl h0 rfl
 (vt_getr rfl rfl rfl
 (vt_iconst rfl
 (vt_ialdN 1 rfl rfl rfl
 (vt_icmp rfl (fun hc1 => vt_iload_n rfl h1
 (vt_iconst rfl
 (vt_icmp rfl (fun hc2 => vt_iload_n rfl h2
 (vt_ret rfl ((W.1 hc1).1 hc2))) (fun hc2 => vt_aload_n rfl h0 rfl
 (vt_getr rfl rfl rfl
 (vt_iload_n rfl h1
 (vt_iald rfl rfl (fun hf3 => vt_goto rfl
 (vt_ret rfl (((W.1 hc1).2 hc2) hf3)))))))))) (fun hc1 => vt_iload_n rfl h2
 (vt_aload_n rfl h0 rfl
 (vt_getr rfl rfl rfl
 (vt_bipush (v := 62) rfl (by decide)
 (vt_iload_n rfl h3
 (vt_iadd rfl
 (vt_iald rfl rfl (fun hf4 => vt_ifc rfl (fun hc5 => vt_iconst rfl
 (vt_iadd rfl
 (vt_istore_nA rfl (fun hl6 => vt_iincA rfl (fl_lsn (by decide) h3) (fun hl7 => vt_gotoS rfl (fun m hm => ((((W.2 hc1) hf4).1 hc5) m hm) _ (fl_lsn (by decide) (fl_lsn (by decide) h0)) (fl_lsn (by decide) (fl_lsn (by decide) h1)) (fl_lsn (by decide) (fl_lse hl6)) (fl_lse hl7))))))) (fun hc5 => vt_iconst rfl
 (vt_goto rfl
 (vt_iadd rfl
 (vt_istore_nA rfl (fun hl8 => vt_iincA rfl (fl_lsn (by decide) h3) (fun hl9 => vt_gotoS rfl (fun m hm => ((((W.2 hc1) hf4).2 hc5) m hm) _ (fl_lsn (by decide) (fl_lsn (by decide) h0)) (fl_lsn (by decide) (fl_lsn (by decide) h1)) (fl_lsn (by decide) (fl_lse hl8)) (fl_lse hl9)))))))))))))))))))))
theorem ve_GoodsBookModel_count_94 {X : Term} {xs : List Int32} {N : Nat} {H : fl_H} {a1 : Int} {Q : Option Int → fl_H → Prop} (W : ((0 ≤ fl_w a1 ∧ fl_w a1 ≤ 4) → hd_GoodsBookModel_count_94_18 (cm_pg X xs) N H a1 0 0 Q) ∧ (¬ (0 ≤ fl_w a1 ∧ fl_w a1 ≤ 4) → Q (some (-1)) H))  : ck (cm_pg X xs) N cm_m167 [.index 94, fl_t a1] H Q :=
  vt_iload_n rfl rfl
 (vt_i2l rfl
 (vt_lconst rfl (by decide)
 (vt_ldc2 (v := 4) rfl (by decide)
 (vt_callS rfl rfl (fun _ => rfl) (fun _ _ => vt_sum (sm_in (fl_lrw _) (fl_lrl (by decide) (by decide)) (fl_lrl (by decide) (by decide)))
 (vt_ifn rfl (fun hc1 => vt_iconst rfl
 (vt_istore_n rfl
 (vt_iconst rfl
 (vt_istore_n rfl
 ((W.1 hc1) _ rfl rfl rfl rfl))))) (fun hc1 => vt_iconst rfl
 (vt_ret rfl (W.2 hc1)))))))))
def hd_GoodsBookModel_book_94_47 (P : cm_G) (N : Nat) (H : fl_H) (a2 : Int) (a3 : Int) (a4 : Int) (a5 : Int) (Q : Option Int → fl_H → Prop) : Prop := ∀ lv : cm_Lv, cm_nth lv 0 = some (some (.index 94)) → cm_nth lv 2 = some (some (fl_t a2)) → cm_nth lv 3 = some (some (fl_t a3)) → cm_nth lv 4 = some (some (fl_t a4)) → cm_nth lv 5 = some (some (fl_t a5)) → vt P N cm_m232 47 lv [] H Q
def hd_GoodsBookModel_book_94_153 (P : cm_G) (N : Nat) (H : fl_H) (a5 : Int) (Q : Option Int → fl_H → Prop) : Prop := ∀ lv : cm_Lv, cm_nth lv 0 = some (some (.index 94)) → cm_nth lv 5 = some (some (fl_t a5)) → vt P N cm_m232 153 lv [] H Q
theorem vh_GoodsBookModel_book_94_47 {X : Term} {xs : List Int32} {N : Nat} {H : fl_H} {a2 : Int} {a3 : Int} {a4 : Int} {a5 : Int} {Q : Option Int → fl_H → Prop} (W : ((fl_w (H 94 15) ≤ fl_w a5) → ((3 < fl_w a2) → Q (some (-3)) H) ∧ (¬ (3 < fl_w a2) → ((6 < fl_w a3) → Q (some (-3)) H) ∧ (¬ (6 < fl_w a3) → ((fl_w a4 ≤ 12) → hd_GoodsBookModel_book_94_153 (cm_pg X xs) N H 0 Q) ∧ (¬ (fl_w a4 ≤ 12) → Q (some (-3)) H)))) ∧ (¬ (fl_w (H 94 15) ≤ fl_w a5) → (0 ≤ fl_w (12 * a5) ∧ fl_w (12 * a5) < 144 → (fl_w (H 105 (fl_w (12 * a5)).toNat) = 0 → (0 ≤ fl_w (12 * a5) ∧ fl_w (12 * a5) < 144 → (fl_w (H 105 (fl_w (12 * a5)).toNat) = 1 → (0 ≤ fl_w (12 * a5) ∧ fl_w (12 * a5) < 144 → (fl_w (H 105 (fl_w (12 * a5)).toNat) = 2 → ∀ m, m < N → hd_GoodsBookModel_book_94_47 (cm_pg X xs) m H (a2 + 1) (a3 + 1) (a4 + 1) (a5 + 1) Q) ∧ (¬ fl_w (H 105 (fl_w (12 * a5)).toNat) = 2 → ∀ m, m < N → hd_GoodsBookModel_book_94_47 (cm_pg X xs) m H (a2 + 1) (a3 + 1) (a4 + 0) (a5 + 1) Q))) ∧ (¬ fl_w (H 105 (fl_w (12 * a5)).toNat) = 1 → (0 ≤ fl_w (12 * a5) ∧ fl_w (12 * a5) < 144 → (fl_w (H 105 (fl_w (12 * a5)).toNat) = 2 → ∀ m, m < N → hd_GoodsBookModel_book_94_47 (cm_pg X xs) m H (a2 + 1) (a3 + 0) (a4 + 1) (a5 + 1) Q) ∧ (¬ fl_w (H 105 (fl_w (12 * a5)).toNat) = 2 → ∀ m, m < N → hd_GoodsBookModel_book_94_47 (cm_pg X xs) m H (a2 + 1) (a3 + 0) (a4 + 0) (a5 + 1) Q))))) ∧ (¬ fl_w (H 105 (fl_w (12 * a5)).toNat) = 0 → (0 ≤ fl_w (12 * a5) ∧ fl_w (12 * a5) < 144 → (fl_w (H 105 (fl_w (12 * a5)).toNat) = 1 → (0 ≤ fl_w (12 * a5) ∧ fl_w (12 * a5) < 144 → (fl_w (H 105 (fl_w (12 * a5)).toNat) = 2 → ∀ m, m < N → hd_GoodsBookModel_book_94_47 (cm_pg X xs) m H (a2 + 0) (a3 + 1) (a4 + 1) (a5 + 1) Q) ∧ (¬ fl_w (H 105 (fl_w (12 * a5)).toNat) = 2 → ∀ m, m < N → hd_GoodsBookModel_book_94_47 (cm_pg X xs) m H (a2 + 0) (a3 + 1) (a4 + 0) (a5 + 1) Q))) ∧ (¬ fl_w (H 105 (fl_w (12 * a5)).toNat) = 1 → (0 ≤ fl_w (12 * a5) ∧ fl_w (12 * a5) < 144 → (fl_w (H 105 (fl_w (12 * a5)).toNat) = 2 → ∀ m, m < N → hd_GoodsBookModel_book_94_47 (cm_pg X xs) m H (a2 + 0) (a3 + 0) (a4 + 1) (a5 + 1) Q) ∧ (¬ fl_w (H 105 (fl_w (12 * a5)).toNat) = 2 → ∀ m, m < N → hd_GoodsBookModel_book_94_47 (cm_pg X xs) m H (a2 + 0) (a3 + 0) (a4 + 0) (a5 + 1) Q)))))))) : hd_GoodsBookModel_book_94_47 (cm_pg X xs) N H a2 a3 a4 a5 Q :=
 fun lv h0 h2 h3 h4 h5 =>
 vt_iload rfl h5
 (vt_aload_n rfl h0 rfl
 (vt_getf rfl rfl rfl
 (vt_icmp rfl (fun hc1 => vt_iload_n rfl h2
 (vt_iconst rfl
 (vt_icmp rfl (fun hc2 => vt_bipush (v := (-3)) rfl (by decide)
 (vt_ret rfl ((W.1 hc1).1 hc2))) (fun hc2 => vt_iload_n rfl h3
 (vt_bipush (v := 6) rfl (by decide)
 (vt_icmp rfl (fun hc3 => vt_bipush (v := (-3)) rfl (by decide)
 (vt_ret rfl (((W.1 hc1).2 hc2).1 hc3))) (fun hc3 => vt_iload rfl h4
 (vt_bipush (v := 12) rfl (by decide)
 (vt_icmp rfl (fun hc4 => vt_iconst rfl
 (vt_istoreA rfl (fun hl5 => ((((W.1 hc1).2 hc2).2 hc3).1 hc4) _ (fl_lsn (by decide) h0) (fl_lse hl5)))) (fun hc4 => vt_bipush (v := (-3)) rfl (by decide)
 (vt_ret rfl ((((W.1 hc1).2 hc2).2 hc3).2 hc4)))))))))))) (fun hc1 => vt_iload_n rfl h2
 (vt_aload_n rfl h0 rfl
 (vt_getr rfl rfl rfl
 (vt_bipush (v := 12) rfl (by decide)
 (vt_iload rfl h5
 (vt_imul rfl
 (vt_iald rfl rfl (fun hf6 => vt_ifcN rfl (fun hc7 => vt_iconst rfl
 (vt_iadd rfl
 (vt_istore_nA rfl (fun hl25 => vt_iload_n rfl (fl_lsn (by decide) h3)
 (vt_aload_n rfl (fl_lsn (by decide) h0) rfl
 (vt_getr rfl rfl rfl
 (vt_bipush (v := 12) rfl (by decide)
 (vt_iload rfl (fl_lsn (by decide) h5)
 (vt_imul rfl
 (vt_iald rfl rfl (fun hf26 => vt_iconst rfl
 (vt_icmpN rfl (fun hc27 => vt_iconst rfl
 (vt_iadd rfl
 (vt_istore_nA rfl (fun hl35 => vt_iload rfl (fl_lsn (by decide) (fl_lsn (by decide) h4))
 (vt_aload_n rfl (fl_lsn (by decide) (fl_lsn (by decide) h0)) rfl
 (vt_getr rfl rfl rfl
 (vt_bipush (v := 12) rfl (by decide)
 (vt_iload rfl (fl_lsn (by decide) (fl_lsn (by decide) h5))
 (vt_imul rfl
 (vt_iald rfl rfl (fun hf36 => vt_iconst rfl
 (vt_icmpN rfl (fun hc37 => vt_iconst rfl
 (vt_iadd rfl
 (vt_istoreA rfl (fun hl40 => vt_iincA rfl (fl_lsn (by decide) (fl_lsn (by decide) (fl_lsn (by decide) h5))) (fun hl41 => vt_gotoS rfl (fun m hm => ((((((((W.2 hc1) hf6).2 hc7) hf26).2 hc27) hf36).2 hc37) m hm) _ (fl_lsn (by decide) (fl_lsn (by decide) (fl_lsn (by decide) (fl_lsn (by decide) h0)))) (fl_lsn (by decide) (fl_lsn (by decide) (fl_lsn (by decide) (fl_lse hl25)))) (fl_lsn (by decide) (fl_lsn (by decide) (fl_lse hl35))) (fl_lsn (by decide) (fl_lse hl40)) (fl_lse hl41))))))) (fun hc37 => vt_iconst rfl
 (vt_goto rfl
 (vt_iadd rfl
 (vt_istoreA rfl (fun hl38 => vt_iincA rfl (fl_lsn (by decide) (fl_lsn (by decide) (fl_lsn (by decide) h5))) (fun hl39 => vt_gotoS rfl (fun m hm => ((((((((W.2 hc1) hf6).2 hc7) hf26).2 hc27) hf36).1 hc37) m hm) _ (fl_lsn (by decide) (fl_lsn (by decide) (fl_lsn (by decide) (fl_lsn (by decide) h0)))) (fl_lsn (by decide) (fl_lsn (by decide) (fl_lsn (by decide) (fl_lse hl25)))) (fl_lsn (by decide) (fl_lsn (by decide) (fl_lse hl35))) (fl_lsn (by decide) (fl_lse hl38)) (fl_lse hl39)))))))))))))))))))) (fun hc27 => vt_iconst rfl
 (vt_goto rfl
 (vt_iadd rfl
 (vt_istore_nA rfl (fun hl28 => vt_iload rfl (fl_lsn (by decide) (fl_lsn (by decide) h4))
 (vt_aload_n rfl (fl_lsn (by decide) (fl_lsn (by decide) h0)) rfl
 (vt_getr rfl rfl rfl
 (vt_bipush (v := 12) rfl (by decide)
 (vt_iload rfl (fl_lsn (by decide) (fl_lsn (by decide) h5))
 (vt_imul rfl
 (vt_iald rfl rfl (fun hf29 => vt_iconst rfl
 (vt_icmpN rfl (fun hc30 => vt_iconst rfl
 (vt_iadd rfl
 (vt_istoreA rfl (fun hl33 => vt_iincA rfl (fl_lsn (by decide) (fl_lsn (by decide) (fl_lsn (by decide) h5))) (fun hl34 => vt_gotoS rfl (fun m hm => ((((((((W.2 hc1) hf6).2 hc7) hf26).1 hc27) hf29).2 hc30) m hm) _ (fl_lsn (by decide) (fl_lsn (by decide) (fl_lsn (by decide) (fl_lsn (by decide) h0)))) (fl_lsn (by decide) (fl_lsn (by decide) (fl_lsn (by decide) (fl_lse hl25)))) (fl_lsn (by decide) (fl_lsn (by decide) (fl_lse hl28))) (fl_lsn (by decide) (fl_lse hl33)) (fl_lse hl34))))))) (fun hc30 => vt_iconst rfl
 (vt_goto rfl
 (vt_iadd rfl
 (vt_istoreA rfl (fun hl31 => vt_iincA rfl (fl_lsn (by decide) (fl_lsn (by decide) (fl_lsn (by decide) h5))) (fun hl32 => vt_gotoS rfl (fun m hm => ((((((((W.2 hc1) hf6).2 hc7) hf26).1 hc27) hf29).1 hc30) m hm) _ (fl_lsn (by decide) (fl_lsn (by decide) (fl_lsn (by decide) (fl_lsn (by decide) h0)))) (fl_lsn (by decide) (fl_lsn (by decide) (fl_lsn (by decide) (fl_lse hl25)))) (fl_lsn (by decide) (fl_lsn (by decide) (fl_lse hl28))) (fl_lsn (by decide) (fl_lse hl31)) (fl_lse hl32))))))))))))))))))))))))))))))))) (fun hc7 => vt_iconst rfl
 (vt_goto rfl
 (vt_iadd rfl
 (vt_istore_nA rfl (fun hl8 => vt_iload_n rfl (fl_lsn (by decide) h3)
 (vt_aload_n rfl (fl_lsn (by decide) h0) rfl
 (vt_getr rfl rfl rfl
 (vt_bipush (v := 12) rfl (by decide)
 (vt_iload rfl (fl_lsn (by decide) h5)
 (vt_imul rfl
 (vt_iald rfl rfl (fun hf9 => vt_iconst rfl
 (vt_icmpN rfl (fun hc10 => vt_iconst rfl
 (vt_iadd rfl
 (vt_istore_nA rfl (fun hl18 => vt_iload rfl (fl_lsn (by decide) (fl_lsn (by decide) h4))
 (vt_aload_n rfl (fl_lsn (by decide) (fl_lsn (by decide) h0)) rfl
 (vt_getr rfl rfl rfl
 (vt_bipush (v := 12) rfl (by decide)
 (vt_iload rfl (fl_lsn (by decide) (fl_lsn (by decide) h5))
 (vt_imul rfl
 (vt_iald rfl rfl (fun hf19 => vt_iconst rfl
 (vt_icmpN rfl (fun hc20 => vt_iconst rfl
 (vt_iadd rfl
 (vt_istoreA rfl (fun hl23 => vt_iincA rfl (fl_lsn (by decide) (fl_lsn (by decide) (fl_lsn (by decide) h5))) (fun hl24 => vt_gotoS rfl (fun m hm => ((((((((W.2 hc1) hf6).1 hc7) hf9).2 hc10) hf19).2 hc20) m hm) _ (fl_lsn (by decide) (fl_lsn (by decide) (fl_lsn (by decide) (fl_lsn (by decide) h0)))) (fl_lsn (by decide) (fl_lsn (by decide) (fl_lsn (by decide) (fl_lse hl8)))) (fl_lsn (by decide) (fl_lsn (by decide) (fl_lse hl18))) (fl_lsn (by decide) (fl_lse hl23)) (fl_lse hl24))))))) (fun hc20 => vt_iconst rfl
 (vt_goto rfl
 (vt_iadd rfl
 (vt_istoreA rfl (fun hl21 => vt_iincA rfl (fl_lsn (by decide) (fl_lsn (by decide) (fl_lsn (by decide) h5))) (fun hl22 => vt_gotoS rfl (fun m hm => ((((((((W.2 hc1) hf6).1 hc7) hf9).2 hc10) hf19).1 hc20) m hm) _ (fl_lsn (by decide) (fl_lsn (by decide) (fl_lsn (by decide) (fl_lsn (by decide) h0)))) (fl_lsn (by decide) (fl_lsn (by decide) (fl_lsn (by decide) (fl_lse hl8)))) (fl_lsn (by decide) (fl_lsn (by decide) (fl_lse hl18))) (fl_lsn (by decide) (fl_lse hl21)) (fl_lse hl22)))))))))))))))))))) (fun hc10 => vt_iconst rfl
 (vt_goto rfl
 (vt_iadd rfl
 (vt_istore_nA rfl (fun hl11 => vt_iload rfl (fl_lsn (by decide) (fl_lsn (by decide) h4))
 (vt_aload_n rfl (fl_lsn (by decide) (fl_lsn (by decide) h0)) rfl
 (vt_getr rfl rfl rfl
 (vt_bipush (v := 12) rfl (by decide)
 (vt_iload rfl (fl_lsn (by decide) (fl_lsn (by decide) h5))
 (vt_imul rfl
 (vt_iald rfl rfl (fun hf12 => vt_iconst rfl
 (vt_icmpN rfl (fun hc13 => vt_iconst rfl
 (vt_iadd rfl
 (vt_istoreA rfl (fun hl16 => vt_iincA rfl (fl_lsn (by decide) (fl_lsn (by decide) (fl_lsn (by decide) h5))) (fun hl17 => vt_gotoS rfl (fun m hm => ((((((((W.2 hc1) hf6).1 hc7) hf9).1 hc10) hf12).2 hc13) m hm) _ (fl_lsn (by decide) (fl_lsn (by decide) (fl_lsn (by decide) (fl_lsn (by decide) h0)))) (fl_lsn (by decide) (fl_lsn (by decide) (fl_lsn (by decide) (fl_lse hl8)))) (fl_lsn (by decide) (fl_lsn (by decide) (fl_lse hl11))) (fl_lsn (by decide) (fl_lse hl16)) (fl_lse hl17))))))) (fun hc13 => vt_iconst rfl
 (vt_goto rfl
 (vt_iadd rfl
 (vt_istoreA rfl (fun hl14 => vt_iincA rfl (fl_lsn (by decide) (fl_lsn (by decide) (fl_lsn (by decide) h5))) (fun hl15 => vt_gotoS rfl (fun m hm => ((((((((W.2 hc1) hf6).1 hc7) hf9).1 hc10) hf12).1 hc13) m hm) _ (fl_lsn (by decide) (fl_lsn (by decide) (fl_lsn (by decide) (fl_lsn (by decide) h0)))) (fl_lsn (by decide) (fl_lsn (by decide) (fl_lsn (by decide) (fl_lse hl8)))) (fl_lsn (by decide) (fl_lsn (by decide) (fl_lse hl11))) (fl_lsn (by decide) (fl_lse hl14)) (fl_lse hl15)))))))))))))))))))))))))))))))))))))))))))))
theorem vh_GoodsBookModel_book_94_153 {X : Term} {xs : List Int32} {N : Nat} {H : fl_H} {a5 : Int} {Q : Option Int → fl_H → Prop} (W : ((fl_w (H 94 15) ≤ fl_w a5) → Q (some (H 94 15)) H) ∧ (¬ (fl_w (H 94 15) ≤ fl_w a5) → ∀ m, m < N → ck (cm_pg X xs) m cm_m231 [.index 94, fl_t (12 * a5)] H (fun r H2 => r = none ∧ (∀ m, m < N → hd_GoodsBookModel_book_94_153 (cm_pg X xs) m H2 (a5 + 1) Q)))) : hd_GoodsBookModel_book_94_153 (cm_pg X xs) N H a5 Q :=
 fun lv h0 h5 =>
 vt_iload rfl h5
 (vt_aload_n rfl h0 rfl
 (vt_getf rfl rfl rfl
 (vt_icmp rfl (fun hc1 => vt_aload_n rfl h0 rfl
 (vt_getf rfl rfl rfl
 (vt_ret rfl (W.1 hc1)))) (fun hc1 => vt_aload_n rfl h0 rfl
 (vt_bipush (v := 12) rfl (by decide)
 (vt_iload rfl h5
 (vt_imul rfl
 (vt_callV rfl rfl (fun _ => rfl) (fun m hm => vt_void ((W.2 hc1) m hm) (fun H2 w3 => vt_iincA rfl h5 (fun hl4 => vt_gotoS rfl (fun m hm => (w3 m hm) _ (fl_lsn (by decide) h0) (fl_lse hl4)))))))))))))
theorem ve_GoodsBookModel_book_94 {X : Term} {xs : List Int32} {N : Nat} {H : fl_H} {Q : Option Int → fl_H → Prop} (W : ∀ m, m < N → ck (cm_pg X xs) m cm_m230 [.index 94] H (fun r H1 => ∃ x3, r = some x3 ∧ (∀ H4, H4 = fl_up H1 94 13 0 → ((fl_w x3 = 0 → Q (some ((-20) - (H4 94 14))) H4) ∧ (¬ fl_w x3 = 0 → hd_GoodsBookModel_book_94_47 (cm_pg X xs) N H4 (H4 95 0) (H4 95 1) (H4 95 2) 0 Q)))))  : ck (cm_pg X xs) N cm_m232 [.index 94] H Q :=
  vt_aload_n rfl rfl rfl
 (vt_callV rfl rfl (fun _ => rfl) (fun m hm => vt_int (W m hm) (fun x3 H1 w2 => vt_istore_n rfl
 (vt_aload_n rfl rfl rfl
 (vt_iconst rfl
 (vt_putf rfl rfl rfl (vt_nm (fun H4 e5 => vt_iload_n rfl rfl
 (vt_ifcN rfl (fun hc6 => vt_aload_n rfl rfl rfl
 (vt_getr rfl rfl rfl
 (vt_iconst rfl
 (vt_ialdN 0 rfl rfl rfl
 (vt_istore_n rfl
 (vt_aload_n rfl rfl rfl
 (vt_getr rfl rfl rfl
 (vt_iconst rfl
 (vt_ialdN 1 rfl rfl rfl
 (vt_istore_n rfl
 (vt_aload_n rfl rfl rfl
 (vt_getr rfl rfl rfl
 (vt_iconst rfl
 (vt_ialdN 2 rfl rfl rfl
 (vt_istore rfl
 (vt_iconst rfl
 (vt_istore rfl
 (((w2 H4 e5).2 hc6) _ rfl rfl rfl rfl rfl)))))))))))))))))) (fun hc6 => vt_bipush (v := (-20)) rfl (by decide)
 (vt_aload_n rfl rfl rfl
 (vt_getf rfl rfl rfl
 (vt_isub rfl
 (vt_ret rfl ((w2 H4 e5).1 hc6)))))))))))))))
theorem ve_GoodsBookModel_doClause_94 {X : Term} {xs : List Int32} {N : Nat} {H : fl_H} {a1 : Int} {Q : Option Int → fl_H → Prop} (W : (0 ≤ fl_w a1 ∧ fl_w a1 < 144 → (fl_w (H 105 (fl_w a1).toNat) = 0 → (0 ≤ fl_w (a1 + 1) ∧ fl_w (a1 + 1) < 144 → ∀ m, m < N → ck (cm_pg X xs) m cm_m156 [.index 94, fl_t (H 105 (fl_w (a1 + 1)).toNat)] H (fun r H4 => ∃ x6, r = some x6 ∧ (Q none H4)))) ∧ (¬ fl_w (H 105 (fl_w a1).toNat) = 0 → (0 ≤ fl_w a1 ∧ fl_w a1 < 144 → (fl_w (H 105 (fl_w a1).toNat) = 1 → (0 ≤ fl_w (a1 + 1) ∧ fl_w (a1 + 1) < 144 → (0 ≤ fl_w (a1 + 2) ∧ fl_w (a1 + 2) < 144 → ∀ m, m < N → ck (cm_pg X xs) m cm_m158 [.index 94, fl_t (H 105 (fl_w (a1 + 1)).toNat), fl_t (H 105 (fl_w (a1 + 2)).toNat)] H (fun r H11 => r = none ∧ ((0 ≤ fl_w (a1 + 3) ∧ fl_w (a1 + 3) < 144 → (0 ≤ fl_w (a1 + 4) ∧ fl_w (a1 + 4) < 144 → (0 ≤ fl_w (a1 + 5) ∧ fl_w (a1 + 5) < 144 → ∀ m, m < N → ck (cm_pg X xs) m cm_m160 [.index 94, fl_t (H 95 1), fl_t 0, fl_t (H11 105 (fl_w (a1 + 3)).toNat), fl_t (H11 105 (fl_w (a1 + 4)).toNat), fl_t (H11 105 (fl_w (a1 + 5)).toNat)] H11 (fun r H16 => ∃ x18, r = some x18 ∧ ((0 ≤ fl_w (a1 + 6) ∧ fl_w (a1 + 6) < 144 → (0 ≤ fl_w (a1 + 7) ∧ fl_w (a1 + 7) < 144 → (0 ≤ fl_w (a1 + 8) ∧ fl_w (a1 + 8) < 144 → ∀ m, m < N → ck (cm_pg X xs) m cm_m160 [.index 94, fl_t (H 95 1), fl_t 1, fl_t (H16 105 (fl_w (a1 + 6)).toNat), fl_t (H16 105 (fl_w (a1 + 7)).toNat), fl_t (H16 105 (fl_w (a1 + 8)).toNat)] H16 (fun r H22 => ∃ x24, r = some x24 ∧ (Q none H22))))))))))))))) ∧ (¬ fl_w (H 105 (fl_w a1).toNat) = 1 → (0 ≤ fl_w (a1 + 1) ∧ fl_w (a1 + 1) < 144 → (0 ≤ fl_w (a1 + 2) ∧ fl_w (a1 + 2) < 144 → (0 ≤ fl_w (a1 + 3) ∧ fl_w (a1 + 3) < 144 → (0 ≤ fl_w (a1 + 4) ∧ fl_w (a1 + 4) < 144 → ∀ m, m < N → ck (cm_pg X xs) m cm_m163 [.index 94, fl_t (H 105 (fl_w (a1 + 1)).toNat), fl_t (H 105 (fl_w (a1 + 2)).toNat), fl_t (H 105 (fl_w (a1 + 3)).toNat), fl_t (H 105 (fl_w (a1 + 4)).toNat)] H (fun r H29 => r = none ∧ (Q none H29)))))))))))  : ck (cm_pg X xs) N cm_m231 [.index 94, fl_t a1] H Q :=
  vt_aload_n rfl rfl rfl
 (vt_getr rfl rfl rfl
 (vt_iload_n rfl rfl
 (vt_iald rfl rfl (fun hf1 => vt_ifcN rfl (fun hc2 => vt_aload_n rfl rfl rfl
 (vt_getr rfl rfl rfl
 (vt_iload_n rfl rfl
 (vt_iald rfl rfl (fun hf7 => vt_iconst rfl
 (vt_icmpN rfl (fun hc8 => vt_aload_n rfl rfl rfl
 (vt_aload_n rfl rfl rfl
 (vt_getr rfl rfl rfl
 (vt_iload_n rfl rfl
 (vt_iconst rfl
 (vt_iadd rfl
 (vt_iald rfl rfl (fun hf25 => vt_aload_n rfl rfl rfl
 (vt_getr rfl rfl rfl
 (vt_iload_n rfl rfl
 (vt_iconst rfl
 (vt_iadd rfl
 (vt_iald rfl rfl (fun hf26 => vt_aload_n rfl rfl rfl
 (vt_getr rfl rfl rfl
 (vt_iload_n rfl rfl
 (vt_iconst rfl
 (vt_iadd rfl
 (vt_iald rfl rfl (fun hf27 => vt_aload_n rfl rfl rfl
 (vt_getr rfl rfl rfl
 (vt_iload_n rfl rfl
 (vt_iconst rfl
 (vt_iadd rfl
 (vt_iald rfl rfl (fun hf28 => vt_callV rfl rfl (fun _ => rfl) (fun m hm => vt_void (((((((((W hf1).2 hc2) hf7).2 hc8) hf25) hf26) hf27) hf28) m hm) (fun H29 w30 => vt_retv rfl w30)))))))))))))))))))))))))))) (fun hc8 => vt_aload_n rfl rfl rfl
 (vt_getr rfl rfl rfl
 (vt_iconst rfl
 (vt_ialdN 1 rfl rfl rfl
 (vt_istore_n rfl
 (vt_aload_n rfl rfl rfl
 (vt_aload_n rfl rfl rfl
 (vt_getr rfl rfl rfl
 (vt_iload_n rfl rfl
 (vt_iconst rfl
 (vt_iadd rfl
 (vt_iald rfl rfl (fun hf9 => vt_aload_n rfl rfl rfl
 (vt_getr rfl rfl rfl
 (vt_iload_n rfl rfl
 (vt_iconst rfl
 (vt_iadd rfl
 (vt_iald rfl rfl (fun hf10 => vt_callV rfl rfl (fun _ => rfl) (fun m hm => vt_void (((((((W hf1).2 hc2) hf7).1 hc8) hf9) hf10) m hm) (fun H11 w12 => vt_aload_n rfl rfl rfl
 (vt_iload_n rfl rfl
 (vt_iconst rfl
 (vt_aload_n rfl rfl rfl
 (vt_getr rfl rfl rfl
 (vt_iload_n rfl rfl
 (vt_iconst rfl
 (vt_iadd rfl
 (vt_iald rfl rfl (fun hf13 => vt_aload_n rfl rfl rfl
 (vt_getr rfl rfl rfl
 (vt_iload_n rfl rfl
 (vt_iconst rfl
 (vt_iadd rfl
 (vt_iald rfl rfl (fun hf14 => vt_aload_n rfl rfl rfl
 (vt_getr rfl rfl rfl
 (vt_iload_n rfl rfl
 (vt_iconst rfl
 (vt_iadd rfl
 (vt_iald rfl rfl (fun hf15 => vt_callV rfl rfl (fun _ => rfl) (fun m hm => vt_int ((((w12 hf13) hf14) hf15) m hm) (fun x18 H16 w17 => vt_mv (fun _ _ => rfl)
 (vt_aload_n rfl rfl rfl
 (vt_iload_n rfl rfl
 (vt_iconst rfl
 (vt_aload_n rfl rfl rfl
 (vt_getr rfl rfl rfl
 (vt_iload_n rfl rfl
 (vt_bipush (v := 6) rfl (by decide)
 (vt_iadd rfl
 (vt_iald rfl rfl (fun hf19 => vt_aload_n rfl rfl rfl
 (vt_getr rfl rfl rfl
 (vt_iload_n rfl rfl
 (vt_bipush (v := 7) rfl (by decide)
 (vt_iadd rfl
 (vt_iald rfl rfl (fun hf20 => vt_aload_n rfl rfl rfl
 (vt_getr rfl rfl rfl
 (vt_iload_n rfl rfl
 (vt_bipush (v := 8) rfl (by decide)
 (vt_iadd rfl
 (vt_iald rfl rfl (fun hf21 => vt_callV rfl rfl (fun _ => rfl) (fun m hm => vt_int ((((w17 hf19) hf20) hf21) m hm) (fun x24 H22 w23 => vt_mv (fun _ _ => rfl)
 (vt_goto rfl
 (vt_retv rfl w23)))))))))))))))))))))))))))))))))))))))))))))))))))))))))))))))))))))))))))) (fun hc2 => vt_aload_n rfl rfl rfl
 (vt_aload_n rfl rfl rfl
 (vt_getr rfl rfl rfl
 (vt_iload_n rfl rfl
 (vt_iconst rfl
 (vt_iadd rfl
 (vt_iald rfl rfl (fun hf3 => vt_callV rfl rfl (fun _ => rfl) (fun m hm => vt_int ((((W hf1).1 hc2) hf3) m hm) (fun x6 H4 w5 => vt_mv (fun _ _ => rfl)
 (vt_goto rfl
 (vt_retv rfl w5))))))))))))))))
theorem ve_GoodsBookModel_addBond_94 {X : Term} {xs : List Int32} {N : Nat} {H : fl_H} {a1 a2 a3 a4 : Int} {Q : Option Int → fl_H → Prop} (W : (0 ≤ fl_w (68 + (4 * (H 95 2))) ∧ fl_w (68 + (4 * (H 95 2))) < 152 → ∀ H1, H1 = fl_up H 95 (fl_w (68 + (4 * (H 95 2)))).toNat a1 → (0 ≤ fl_w ((68 + (4 * (H 95 2))) + 1) ∧ fl_w ((68 + (4 * (H 95 2))) + 1) < 152 → ∀ H4, H4 = fl_up H1 95 (fl_w ((68 + (4 * (H 95 2))) + 1)).toNat a2 → (0 ≤ fl_w ((68 + (4 * (H 95 2))) + 2) ∧ fl_w ((68 + (4 * (H 95 2))) + 2) < 152 → ∀ H7, H7 = fl_up H4 95 (fl_w ((68 + (4 * (H 95 2))) + 2)).toNat a3 → (0 ≤ fl_w ((68 + (4 * (H 95 2))) + 3) ∧ fl_w ((68 + (4 * (H 95 2))) + 3) < 152 → ∀ H10, H10 = fl_up H7 95 (fl_w ((68 + (4 * (H 95 2))) + 3)).toNat a4 → ∀ H13, H13 = fl_up H10 95 2 ((H10 95 2) + 1) → (Q none H13))))))  : ck (cm_pg X xs) N cm_m163 [.index 94, fl_t a1, fl_t a2, fl_t a3, fl_t a4] H Q :=
  vt_bipush (v := 68) rfl (by decide)
 (vt_iconst rfl
 (vt_aload_n rfl rfl rfl
 (vt_getr rfl rfl rfl
 (vt_iconst rfl
 (vt_ialdN 2 rfl rfl rfl
 (vt_imul rfl
 (vt_iadd rfl
 (vt_istore rfl
 (vt_aload_n rfl rfl rfl
 (vt_getr rfl rfl rfl
 (vt_iload rfl rfl
 (vt_iload_n rfl rfl
 (vt_iast rfl rfl (fun hf3 => vt_nm (fun H1 e2 => vt_aload_n rfl rfl rfl
 (vt_getr rfl rfl rfl
 (vt_iload rfl rfl
 (vt_iconst rfl
 (vt_iadd rfl
 (vt_iload_n rfl rfl
 (vt_iast rfl rfl (fun hf6 => vt_nm (fun H4 e5 => vt_aload_n rfl rfl rfl
 (vt_getr rfl rfl rfl
 (vt_iload rfl rfl
 (vt_iconst rfl
 (vt_iadd rfl
 (vt_iload_n rfl rfl
 (vt_iast rfl rfl (fun hf9 => vt_nm (fun H7 e8 => vt_aload_n rfl rfl rfl
 (vt_getr rfl rfl rfl
 (vt_iload rfl rfl
 (vt_iconst rfl
 (vt_iadd rfl
 (vt_iload rfl rfl
 (vt_iast rfl rfl (fun hf12 => vt_nm (fun H10 e11 => vt_aload_n rfl rfl rfl
 (vt_getr rfl rfl rfl
 (vt_iconst rfl
 (vt_mv (fun _ _ => rfl)
 (vt_ialdN 2 rfl rfl rfl
 (vt_iconst rfl
 (vt_iadd rfl
 (vt_iastN 2 rfl rfl rfl (vt_nm (fun H13 e14 => vt_retv rfl (((((W hf3 H1 e2) hf6 H4 e5) hf9 H7 e8) hf12 H10 e11) H13 e14)))))))))))))))))))))))))))))))))))))))))))))))))
theorem ve_GoodsBookModel_setSize_94 {X : Term} {xs : List Int32} {N : Nat} {H : fl_H} {a1 a2 a3 a4 a5 : Int} {Q : Option Int → fl_H → Prop} (W : (0 ≤ fl_w ((((14 + (8 * a1)) + 2) + (3 * a2)) + 2) ∧ fl_w ((((14 + (8 * a1)) + 2) + (3 * a2)) + 2) < 152 → (0 ≤ fl_w (((14 + (8 * a1)) + 2) + (3 * a2)) ∧ fl_w (((14 + (8 * a1)) + 2) + (3 * a2)) < 152 → ∀ H2, H2 = fl_up H 95 (fl_w (((14 + (8 * a1)) + 2) + (3 * a2))).toNat a3 → (0 ≤ fl_w ((((14 + (8 * a1)) + 2) + (3 * a2)) + 1) ∧ fl_w ((((14 + (8 * a1)) + 2) + (3 * a2)) + 1) < 152 → ∀ H5, H5 = fl_up H2 95 (fl_w ((((14 + (8 * a1)) + 2) + (3 * a2)) + 1)).toNat a4 → (0 ≤ fl_w ((((14 + (8 * a1)) + 2) + (3 * a2)) + 2) ∧ fl_w ((((14 + (8 * a1)) + 2) + (3 * a2)) + 2) < 152 → ∀ H8, H8 = fl_up H5 95 (fl_w ((((14 + (8 * a1)) + 2) + (3 * a2)) + 2)).toNat a5 → ∀ m, m < N → ck (cm_pg X xs) m cm_m168 [.index 94] H8 (fun r H11 => r = none ∧ (Q (some (H 95 (fl_w ((((14 + (8 * a1)) + 2) + (3 * a2)) + 2)).toNat)) H11)))))))  : ck (cm_pg X xs) N cm_m160 [.index 94, fl_t a1, fl_t a2, fl_t a3, fl_t a4, fl_t a5] H Q :=
  vt_bipush (v := 14) rfl (by decide)
 (vt_bipush (v := 8) rfl (by decide)
 (vt_iload_n rfl rfl
 (vt_imul rfl
 (vt_iadd rfl
 (vt_iconst rfl
 (vt_iadd rfl
 (vt_iconst rfl
 (vt_iload_n rfl rfl
 (vt_imul rfl
 (vt_iadd rfl
 (vt_istore rfl
 (vt_aload_n rfl rfl rfl
 (vt_getr rfl rfl rfl
 (vt_iload rfl rfl
 (vt_iconst rfl
 (vt_iadd rfl
 (vt_iald rfl rfl (fun hf1 => vt_istore rfl
 (vt_aload_n rfl rfl rfl
 (vt_getr rfl rfl rfl
 (vt_iload rfl rfl
 (vt_iload_n rfl rfl
 (vt_iast rfl rfl (fun hf4 => vt_nm (fun H2 e3 => vt_aload_n rfl rfl rfl
 (vt_getr rfl rfl rfl
 (vt_iload rfl rfl
 (vt_iconst rfl
 (vt_iadd rfl
 (vt_iload rfl rfl
 (vt_iast rfl rfl (fun hf7 => vt_nm (fun H5 e6 => vt_aload_n rfl rfl rfl
 (vt_getr rfl rfl rfl
 (vt_iload rfl rfl
 (vt_iconst rfl
 (vt_iadd rfl
 (vt_iload rfl rfl
 (vt_iast rfl rfl (fun hf10 => vt_nm (fun H8 e9 => vt_aload_n rfl rfl rfl
 (vt_callV rfl rfl (fun _ => rfl) (fun m hm => vt_void (((((W hf1) hf4 H2 e3) hf7 H5 e6) hf10 H8 e9) m hm) (fun H11 w12 => vt_iload rfl rfl
 (vt_ret rfl w12)))))))))))))))))))))))))))))))))))))))))))))
def hd_GoodsBookModel_addGood_94_32 (P : cm_G) (N : Nat) (H : fl_H) (a3 : Int) (a4 : Int) (Q : Option Int → fl_H → Prop) : Prop := ∀ lv : cm_Lv, cm_nth lv 0 = some (some (.index 94)) → cm_nth lv 3 = some (some (fl_t a3)) → cm_nth lv 4 = some (some (fl_t a4)) → vt P N cm_m158 32 lv [] H Q
theorem vh_GoodsBookModel_addGood_94_32 {X : Term} {xs : List Int32} {N : Nat} {H : fl_H} {a3 : Int} {a4 : Int} {Q : Option Int → fl_H → Prop} (W : ((8 ≤ fl_w a4) → (0 ≤ fl_w (62 + (H 95 1)) ∧ fl_w (62 + (H 95 1)) < 152 → ∀ H2, H2 = fl_up H 95 (fl_w (62 + (H 95 1))).toNat 0 → ∀ H5, H5 = fl_up H2 95 1 ((H2 95 1) + 1) → (∀ m, m < N → ck (cm_pg X xs) m cm_m168 [.index 94] H5 (fun r H7 => r = none ∧ (Q none H7))))) ∧ (¬ (8 ≤ fl_w a4) → ((fl_w a4 = 4) → (0 ≤ fl_w (a3 + a4) ∧ fl_w (a3 + a4) < 152 → ∀ H10, H10 = fl_up H 95 (fl_w (a3 + a4)).toNat 0 → ∀ m, m < N → hd_GoodsBookModel_addGood_94_32 (cm_pg X xs) m H10 a3 (a4 + 1) Q)) ∧ (¬ (fl_w a4 = 4) → (fl_w a4 = 7 → (0 ≤ fl_w (a3 + a4) ∧ fl_w (a3 + a4) < 152 → ∀ H15, H15 = fl_up H 95 (fl_w (a3 + a4)).toNat 0 → ∀ m, m < N → hd_GoodsBookModel_addGood_94_32 (cm_pg X xs) m H15 a3 (a4 + 1) Q)) ∧ (¬ fl_w a4 = 7 → (0 ≤ fl_w (a3 + a4) ∧ fl_w (a3 + a4) < 152 → ∀ H19, H19 = fl_up H 95 (fl_w (a3 + a4)).toNat 1 → ∀ m, m < N → hd_GoodsBookModel_addGood_94_32 (cm_pg X xs) m H19 a3 (a4 + 1) Q))))) : hd_GoodsBookModel_addGood_94_32 (cm_pg X xs) N H a3 a4 Q :=
 fun lv h0 h3 h4 =>
 vt_iload rfl h4
 (vt_bipush (v := 8) rfl (by decide)
 (vt_icmp rfl (fun hc1 => vt_aload_n rfl h0 rfl
 (vt_getr rfl rfl rfl
 (vt_bipush (v := 62) rfl (by decide)
 (vt_aload_n rfl h0 rfl
 (vt_getr rfl rfl rfl
 (vt_iconst rfl
 (vt_ialdN 1 rfl rfl rfl
 (vt_iadd rfl
 (vt_iconst rfl
 (vt_iast rfl rfl (fun hf4 => vt_nm (fun H2 e3 => vt_aload_n rfl h0 rfl
 (vt_getr rfl rfl rfl
 (vt_iconst rfl
 (vt_mv (fun _ _ => rfl)
 (vt_ialdN 1 rfl rfl rfl
 (vt_iconst rfl
 (vt_iadd rfl
 (vt_iastN 1 rfl rfl rfl (vt_nm (fun H5 e6 => vt_aload_n rfl h0 rfl
 (vt_callV rfl rfl (fun _ => rfl) (fun m hm => vt_void ((((W.1 hc1) hf4 H2 e3) H5 e6) m hm) (fun H7 w8 => vt_retv rfl w8)))))))))))))))))))))))) (fun hc1 => vt_aload_n rfl h0 rfl
 (vt_getr rfl rfl rfl
 (vt_iload_n rfl h3
 (vt_iload rfl h4
 (vt_iadd rfl
 (vt_iload rfl h4
 (vt_iconst rfl
 (vt_icmp rfl (fun hc9 => vt_iconst rfl
 (vt_goto rfl
 (vt_iast rfl rfl (fun hf12 => vt_nm (fun H10 e11 => vt_iincA rfl h4 (fun hl13 => vt_gotoS rfl (fun m hm => ((((W.2 hc1).1 hc9) hf12 H10 e11) m hm) _ (fl_lsn (by decide) h0) (fl_lsn (by decide) h3) (fl_lse hl13)))))))) (fun hc9 => vt_iload rfl h4
 (vt_bipush (v := 7) rfl (by decide)
 (vt_icmpN rfl (fun hc14 => vt_iconst rfl
 (vt_iast rfl rfl (fun hf21 => vt_nm (fun H19 e20 => vt_iincA rfl h4 (fun hl22 => vt_gotoS rfl (fun m hm => (((((W.2 hc1).2 hc9).2 hc14) hf21 H19 e20) m hm) _ (fl_lsn (by decide) h0) (fl_lsn (by decide) h3) (fl_lse hl22))))))) (fun hc14 => vt_iconst rfl
 (vt_goto rfl
 (vt_iast rfl rfl (fun hf17 => vt_nm (fun H15 e16 => vt_iincA rfl h4 (fun hl18 => vt_gotoS rfl (fun m hm => (((((W.2 hc1).2 hc9).1 hc14) hf17 H15 e16) m hm) _ (fl_lsn (by decide) h0) (fl_lsn (by decide) h3) (fl_lse hl18)))))))))))))))))))))
theorem ve_GoodsBookModel_addGood_94 {X : Term} {xs : List Int32} {N : Nat} {H : fl_H} {a1 a2 : Int} {Q : Option Int → fl_H → Prop} (W : (0 ≤ fl_w (14 + (8 * (H 95 1))) ∧ fl_w (14 + (8 * (H 95 1))) < 152 → ∀ H1, H1 = fl_up H 95 (fl_w (14 + (8 * (H 95 1)))).toNat a1 → (0 ≤ fl_w ((14 + (8 * (H 95 1))) + 1) ∧ fl_w ((14 + (8 * (H 95 1))) + 1) < 152 → ∀ H4, H4 = fl_up H1 95 (fl_w ((14 + (8 * (H 95 1))) + 1)).toNat a2 → hd_GoodsBookModel_addGood_94_32 (cm_pg X xs) N H4 (14 + (8 * (H 95 1))) 2 Q)))  : ck (cm_pg X xs) N cm_m158 [.index 94, fl_t a1, fl_t a2] H Q :=
  vt_bipush (v := 14) rfl (by decide)
 (vt_bipush (v := 8) rfl (by decide)
 (vt_aload_n rfl rfl rfl
 (vt_getr rfl rfl rfl
 (vt_iconst rfl
 (vt_ialdN 1 rfl rfl rfl
 (vt_imul rfl
 (vt_iadd rfl
 (vt_istore_n rfl
 (vt_aload_n rfl rfl rfl
 (vt_getr rfl rfl rfl
 (vt_iload_n rfl rfl
 (vt_iload_n rfl rfl
 (vt_iast rfl rfl (fun hf3 => vt_nm (fun H1 e2 => vt_aload_n rfl rfl rfl
 (vt_getr rfl rfl rfl
 (vt_iload_n rfl rfl
 (vt_iconst rfl
 (vt_iadd rfl
 (vt_iload_n rfl rfl
 (vt_iast rfl rfl (fun hf6 => vt_nm (fun H4 e5 => vt_iconst rfl
 (vt_istore rfl
 (((W hf3 H1 e2) hf6 H4 e5) _ rfl rfl rfl)))))))))))))))))))))))))
def hd_GoodsBookModel_readBook_94_17 (P : cm_G) (N : Nat) (H : fl_H) (a1 : Int) (Q : Option Int → fl_H → Prop) : Prop := ∀ lv : cm_Lv, cm_nth lv 0 = some (some (.index 94)) → cm_nth lv 1 = some (some (fl_t a1)) → vt P N cm_m230 17 lv [] H Q
theorem vh_GoodsBookModel_readBook_94_17 {X : Term} {xs : List Int32} {N : Nat} {H : fl_H} {a1 : Int} {Q : Option Int → fl_H → Prop} (W : ((12 ≤ fl_w a1) → Q (some 0) H) ∧ (¬ (12 ≤ fl_w a1) → ∀ m, m < N → ck (cm_pg X xs) m cm_m229 [.index 94, fl_t (12 * a1)] H (fun r H2 => ∃ x4, r = some x4 ∧ ((fl_w x4 = 0 → Q (some 0) H2) ∧ (¬ fl_w x4 = 0 → ∀ H6, H6 = fl_up H2 94 15 (a1 + 1) → (∀ m, m < N → ck (cm_pg X xs) m cm_m220 [.index 94] H6 (fun r H8 => ∃ x10, r = some x10 ∧ (((0 ≤ fl_w x10) → (fl_w x10 = 59 → (fl_w a1 = 11 → Q (some 0) H8) ∧ (¬ fl_w a1 = 11 → ∀ H15, H15 = fl_up H8 94 14 ((H8 94 14) + 1) → (∀ m, m < N → hd_GoodsBookModel_readBook_94_17 (cm_pg X xs) m H15 (a1 + 1) Q))) ∧ (¬ fl_w x10 = 59 → Q (some 0) H8)) ∧ (¬ (0 ≤ fl_w x10) → Q (some 1) H8))))))))) : hd_GoodsBookModel_readBook_94_17 (cm_pg X xs) N H a1 Q :=
 fun lv h0 h1 =>
 vt_iload_n rfl h1
 (vt_bipush (v := 12) rfl (by decide)
 (vt_icmp rfl (fun hc1 => vt_iconst rfl
 (vt_ret rfl (W.1 hc1))) (fun hc1 => vt_aload_n rfl h0 rfl
 (vt_bipush (v := 12) rfl (by decide)
 (vt_iload_n rfl h1
 (vt_imul rfl
 (vt_callV rfl rfl (fun _ => rfl) (fun m hm => vt_int ((W.2 hc1) m hm) (fun x4 H2 w3 => vt_ifcN rfl (fun hc5 => vt_aload_n rfl h0 rfl
 (vt_iload_n rfl h1
 (vt_iconst rfl
 (vt_iadd rfl
 (vt_putf rfl rfl rfl (vt_nm (fun H6 e7 => vt_aload_n rfl h0 rfl
 (vt_callV rfl rfl (fun _ => rfl) (fun m hm => vt_int (((w3.2 hc5) H6 e7) m hm) (fun x10 H8 w9 => vt_istore_nA rfl (fun hl11 => vt_iload_n rfl (fl_lse hl11)
 (vt_ifc rfl (fun hc12 => vt_iload_n rfl (fl_lse hl11)
 (vt_bipush (v := 59) rfl (by decide)
 (vt_icmpN rfl (fun hc13 => vt_iconst rfl
 (vt_ret rfl ((w9.1 hc12).2 hc13))) (fun hc13 => vt_iload_n rfl (fl_lsn (by decide) h1)
 (vt_bipush (v := 11) rfl (by decide)
 (vt_icmpN rfl (fun hc14 => vt_aload_n rfl (fl_lsn (by decide) h0) rfl
 (vt_mv (fun _ _ => rfl)
 (vt_getf rfl rfl rfl
 (vt_iconst rfl
 (vt_iadd rfl
 (vt_putf rfl rfl rfl (vt_nm (fun H15 e16 => vt_iincA rfl (fl_lsn (by decide) h1) (fun hl17 => vt_gotoS rfl (fun m hm => (((((w9.1 hc12).1 hc13).2 hc14) H15 e16) m hm) _ (fl_lsn (by decide) (fl_lsn (by decide) h0)) (fl_lse hl17))))))))))) (fun hc14 => vt_iconst rfl
 (vt_ret rfl (((w9.1 hc12).1 hc13).1 hc14))))))))) (fun hc12 => vt_iconst rfl
 (vt_ret rfl (w9.2 hc12))))))))))))))) (fun hc5 => vt_iconst rfl
 (vt_ret rfl (w3.1 hc5))))))))))))
theorem ve_GoodsBookModel_readBook_94 {X : Term} {xs : List Int32} {N : Nat} {H : fl_H} {Q : Option Int → fl_H → Prop} (W : ∀ H1, H1 = fl_up H 94 14 0 → (∀ H3, H3 = fl_up H1 94 17 (H1 95 1) → (hd_GoodsBookModel_readBook_94_17 (cm_pg X xs) N H3 0 Q)))  : ck (cm_pg X xs) N cm_m230 [.index 94] H Q :=
  vt_aload_n rfl rfl rfl
 (vt_iconst rfl
 (vt_putf rfl rfl rfl (vt_nm (fun H1 e2 => vt_aload_n rfl rfl rfl
 (vt_aload_n rfl rfl rfl
 (vt_getr rfl rfl rfl
 (vt_iconst rfl
 (vt_ialdN 1 rfl rfl rfl
 (vt_putf rfl rfl rfl (vt_nm (fun H3 e4 => vt_iconst rfl
 (vt_istore_n rfl
 (((W H1 e2) H3 e4) _ rfl rfl)))))))))))))
def hd_GoodsBookModel_nextByte_94_0 (P : cm_G) (N : Nat) (H : fl_H) (Q : Option Int → fl_H → Prop) : Prop := ∀ lv : cm_Lv, cm_nth lv 0 = some (some (.index 94)) → vt P N cm_m220 0 lv [] H Q
theorem vh_GoodsBookModel_nextByte_94_0 {X : Term} {xs : List Int32} {N : Nat} {H : fl_H} {Q : Option Int → fl_H → Prop} (W : ((fl_w (H 94 13) ≤ fl_w (H 94 14)) → ((fl_w (H 94 13) ≤ fl_w (H 94 14)) → Q (some (-1)) H) ∧ (¬ (fl_w (H 94 13) ≤ fl_w (H 94 14)) → (0 ≤ fl_w (H 94 14) ∧ fl_w (H 94 14) < 120 → Q (some (H 104 (fl_w (H 94 14)).toNat)) H))) ∧ (¬ (fl_w (H 94 13) ≤ fl_w (H 94 14)) → (0 ≤ fl_w (H 94 14) ∧ fl_w (H 94 14) < 120 → (fl_w (H 104 (fl_w (H 94 14)).toNat) = 32 → ∀ H6, H6 = fl_up H 94 14 ((H 94 14) + 1) → (∀ m, m < N → hd_GoodsBookModel_nextByte_94_0 (cm_pg X xs) m H6  Q)) ∧ (¬ fl_w (H 104 (fl_w (H 94 14)).toNat) = 32 → ((fl_w (H 94 13) ≤ fl_w (H 94 14)) → Q (some (-1)) H) ∧ (¬ (fl_w (H 94 13) ≤ fl_w (H 94 14)) → (0 ≤ fl_w (H 94 14) ∧ fl_w (H 94 14) < 120 → Q (some (H 104 (fl_w (H 94 14)).toNat)) H)))))) : hd_GoodsBookModel_nextByte_94_0 (cm_pg X xs) N H Q :=
 fun lv h0 =>
 vt_aload_n rfl h0 rfl
 (vt_getf rfl rfl rfl
 (vt_aload_n rfl h0 rfl
 (vt_getf rfl rfl rfl
 (vt_icmp rfl (fun hc1 => vt_aload_n rfl h0 rfl
 (vt_getf rfl rfl rfl
 (vt_aload_n rfl h0 rfl
 (vt_getf rfl rfl rfl
 (vt_icmp rfl (fun hc2 => vt_iconst rfl
 (vt_ret rfl ((W.1 hc1).1 hc2))) (fun hc2 => vt_aload_n rfl h0 rfl
 (vt_getr rfl rfl rfl
 (vt_aload_n rfl h0 rfl
 (vt_getf rfl rfl rfl
 (vt_iald rfl rfl (fun hf3 => vt_goto rfl
 (vt_ret rfl (((W.1 hc1).2 hc2) hf3))))))))))))) (fun hc1 => vt_aload_n rfl h0 rfl
 (vt_getr rfl rfl rfl
 (vt_aload_n rfl h0 rfl
 (vt_getf rfl rfl rfl
 (vt_iald rfl rfl (fun hf4 => vt_bipush (v := 32) rfl (by decide)
 (vt_icmpN rfl (fun hc5 => vt_aload_n rfl h0 rfl
 (vt_getf rfl rfl rfl
 (vt_aload_n rfl h0 rfl
 (vt_getf rfl rfl rfl
 (vt_icmp rfl (fun hc8 => vt_iconst rfl
 (vt_ret rfl ((((W.2 hc1) hf4).2 hc5).1 hc8))) (fun hc8 => vt_aload_n rfl h0 rfl
 (vt_getr rfl rfl rfl
 (vt_aload_n rfl h0 rfl
 (vt_getf rfl rfl rfl
 (vt_iald rfl rfl (fun hf9 => vt_goto rfl
 (vt_ret rfl (((((W.2 hc1) hf4).2 hc5).2 hc8) hf9))))))))))))) (fun hc5 => vt_aload_n rfl h0 rfl
 (vt_mv (fun _ _ => rfl)
 (vt_getf rfl rfl rfl
 (vt_iconst rfl
 (vt_iadd rfl
 (vt_putf rfl rfl rfl (vt_nm (fun H6 e7 => vt_gotoS rfl (fun m hm => (((((W.2 hc1) hf4).1 hc5) H6 e7) m hm) _ h0))))))))))))))))))))
theorem ve_GoodsBookModel_nextByte_94 {X : Term} {xs : List Int32} {N : Nat} {H : fl_H} {Q : Option Int → fl_H → Prop} (W : hd_GoodsBookModel_nextByte_94_0 (cm_pg X xs) N H  Q)  : ck (cm_pg X xs) N cm_m220 [.index 94] H Q :=
  W _ rfl
theorem ve_GoodsBookModel_readClause_94 {X : Term} {xs : List Int32} {N : Nat} {H : fl_H} {a1 : Int} {Q : Option Int → fl_H → Prop} (W : ∀ m, m < N → ck (cm_pg X xs) m cm_m220 [.index 94] H (fun r H1 => ∃ x3, r = some x3 ∧ ((fl_w x3 = 112 → ∀ H5, H5 = fl_up H1 94 14 ((H1 94 14) + 1) → ((0 ≤ fl_w a1 ∧ fl_w a1 < 144 → ∀ H7, H7 = fl_up H5 105 (fl_w a1).toNat 0 → ∀ m, m < N → ck (cm_pg X xs) m cm_m223 [.index 94, fl_t 60] H7 (fun r H10 => ∃ x12, r = some x12 ∧ ((0 ≤ fl_w (a1 + 1) ∧ fl_w (a1 + 1) < 144 → ∀ H13, H13 = fl_up H10 105 (fl_w (a1 + 1)).toNat x12 → (0 ≤ fl_w (a1 + 1) ∧ fl_w (a1 + 1) < 144 → ((fl_w (H13 105 (fl_w (a1 + 1)).toNat) < 0) → Q (some 0) H13) ∧ (¬ (fl_w (H13 105 (fl_w (a1 + 1)).toNat) < 0) → Q (some 1) H13)))))))) ∧ (¬ fl_w x3 = 112 → (fl_w x3 = 103 → ∀ H19, H19 = fl_up H1 94 14 ((H1 94 14) + 1) → ((0 ≤ fl_w a1 ∧ fl_w a1 < 144 → ∀ H21, H21 = fl_up H19 105 (fl_w a1).toNat 1 → ∀ m, m < N → ck (cm_pg X xs) m cm_m227 [.index 94, fl_t a1] H21 (fun r H24 => ∃ x26, r = some x26 ∧ (Q (some x26) H24))))) ∧ (¬ fl_w x3 = 103 → ((0 ≤ fl_w (x3 - 97) ∧ fl_w (x3 - 97) ≤ fl_w ((H1 94 17) - 1)) → ((fl_w (x3 - 97) < 6) → ∀ H29, H29 = fl_up H1 94 14 ((H1 94 14) + 1) → ((0 ≤ fl_w a1 ∧ fl_w a1 < 144 → ∀ H31, H31 = fl_up H29 105 (fl_w a1).toNat 2 → ∀ m, m < N → ck (cm_pg X xs) m cm_m228 [.index 94, fl_t a1, fl_t (x3 - 97)] H31 (fun r H34 => ∃ x36, r = some x36 ∧ (Q (some x36) H34))))) ∧ (¬ (fl_w (x3 - 97) < 6) → Q (some 0) H1)) ∧ (¬ (0 ≤ fl_w (x3 - 97) ∧ fl_w (x3 - 97) ≤ fl_w ((H1 94 17) - 1)) → Q (some 0) H1))))))  : ck (cm_pg X xs) N cm_m229 [.index 94, fl_t a1] H Q :=
  vt_aload_n rfl rfl rfl
 (vt_callV rfl rfl (fun _ => rfl) (fun m hm => vt_int (W m hm) (fun x3 H1 w2 => vt_istore_n rfl
 (vt_iload_n rfl rfl
 (vt_bipush (v := 112) rfl (by decide)
 (vt_icmpN rfl (fun hc4 => vt_iload_n rfl rfl
 (vt_bipush (v := 103) rfl (by decide)
 (vt_icmpN rfl (fun hc18 => vt_iload_n rfl rfl
 (vt_bipush (v := 97) rfl (by decide)
 (vt_isub rfl
 (vt_i2l rfl
 (vt_lconst rfl (by decide)
 (vt_aload_n rfl rfl rfl
 (vt_getf rfl rfl rfl
 (vt_iconst rfl
 (vt_isub rfl
 (vt_i2l rfl
 (vt_callS rfl rfl (fun _ => rfl) (fun _ _ => vt_sum (sm_in (fl_lrw _) (fl_lrl (by decide) (by decide)) (fl_lrw _))
 (vt_ifb rfl (fun hc27 => vt_iload_n rfl rfl
 (vt_bipush (v := 97) rfl (by decide)
 (vt_isub rfl
 (vt_bipush (v := 6) rfl (by decide)
 (vt_icmp rfl (fun hc28 => vt_aload_n rfl rfl rfl
 (vt_mv (fun _ _ => rfl)
 (vt_getf rfl rfl rfl
 (vt_iconst rfl
 (vt_iadd rfl
 (vt_putf rfl rfl rfl (vt_nm (fun H29 e30 => vt_aload_n rfl rfl rfl
 (vt_getr rfl rfl rfl
 (vt_iload_n rfl rfl
 (vt_iconst rfl
 (vt_iast rfl rfl (fun hf33 => vt_nm (fun H31 e32 => vt_aload_n rfl rfl rfl
 (vt_iload_n rfl rfl
 (vt_iload_n rfl rfl
 (vt_bipush (v := 97) rfl (by decide)
 (vt_isub rfl
 (vt_callV rfl rfl (fun _ => rfl) (fun m hm => vt_int (((((((w2.2 hc4).2 hc18).1 hc27).1 hc28) H29 e30) hf33 H31 e32) m hm) (fun x36 H34 w35 => vt_ret rfl w35))))))))))))))))))))) (fun hc28 => vt_iconst rfl
 (vt_ret rfl ((((w2.2 hc4).2 hc18).1 hc27).2 hc28)))))))) (fun hc27 => vt_iconst rfl
 (vt_ret rfl (((w2.2 hc4).2 hc18).2 hc27)))))))))))))))) (fun hc18 => vt_aload_n rfl rfl rfl
 (vt_mv (fun _ _ => rfl)
 (vt_getf rfl rfl rfl
 (vt_iconst rfl
 (vt_iadd rfl
 (vt_putf rfl rfl rfl (vt_nm (fun H19 e20 => vt_aload_n rfl rfl rfl
 (vt_getr rfl rfl rfl
 (vt_iload_n rfl rfl
 (vt_iconst rfl
 (vt_iast rfl rfl (fun hf23 => vt_nm (fun H21 e22 => vt_aload_n rfl rfl rfl
 (vt_iload_n rfl rfl
 (vt_callV rfl rfl (fun _ => rfl) (fun m hm => vt_int (((((w2.2 hc4).1 hc18) H19 e20) hf23 H21 e22) m hm) (fun x26 H24 w25 => vt_ret rfl w25))))))))))))))))))))) (fun hc4 => vt_aload_n rfl rfl rfl
 (vt_mv (fun _ _ => rfl)
 (vt_getf rfl rfl rfl
 (vt_iconst rfl
 (vt_iadd rfl
 (vt_putf rfl rfl rfl (vt_nm (fun H5 e6 => vt_aload_n rfl rfl rfl
 (vt_getr rfl rfl rfl
 (vt_iload_n rfl rfl
 (vt_iconst rfl
 (vt_iast rfl rfl (fun hf9 => vt_nm (fun H7 e8 => vt_aload_n rfl rfl rfl
 (vt_getr rfl rfl rfl
 (vt_iload_n rfl rfl
 (vt_iconst rfl
 (vt_iadd rfl
 (vt_aload_n rfl rfl rfl
 (vt_bipush (v := 60) rfl (by decide)
 (vt_callV rfl rfl (fun _ => rfl) (fun m hm => vt_int ((((w2.1 hc4) H5 e6) hf9 H7 e8) m hm) (fun x12 H10 w11 => vt_iast rfl rfl (fun hf15 => vt_nm (fun H13 e14 => vt_aload_n rfl rfl rfl
 (vt_getr rfl rfl rfl
 (vt_iload_n rfl rfl
 (vt_iconst rfl
 (vt_iadd rfl
 (vt_iald rfl rfl (fun hf16 => vt_ifc rfl (fun hc17 => vt_iconst rfl
 (vt_ret rfl (((w11 hf15 H13 e14) hf16).1 hc17))) (fun hc17 => vt_iconst rfl
 (vt_goto rfl
 (vt_ret rfl (((w11 hf15 H13 e14) hf16).2 hc17)))))))))))))))))))))))))))))))))))))))))
theorem ve_GoodsBookModel_readBond_94 {X : Term} {xs : List Int32} {N : Nat} {H : fl_H} {a1 a2 : Int} {Q : Option Int → fl_H → Prop} (W : ∀ m, m < N → ck (cm_pg X xs) m cm_m220 [.index 94] H (fun r H1 => ∃ x3, r = some x3 ∧ (((0 ≤ fl_w (x3 - 97) ∧ fl_w (x3 - 97) ≤ fl_w ((H1 94 17) - 1)) → ((6 ≤ fl_w (x3 - 97)) → Q (some 0) H1) ∧ (¬ (6 ≤ fl_w (x3 - 97)) → (fl_w (x3 - 97) = fl_w a2 → Q (some 0) H1) ∧ (¬ fl_w (x3 - 97) = fl_w a2 → ∀ H7, H7 = fl_up H1 94 14 ((H1 94 14) + 1) → (∀ m, m < N → ck (cm_pg X xs) m cm_m220 [.index 94] H7 (fun r H9 => ∃ x11, r = some x11 ∧ (∀ m, m < N → ck (cm_pg X xs) m cm_m226 [fl_t x11] H9 (fun r H12 => ∃ x14, r = some x14 ∧ (((0 ≤ fl_w x14) → ∀ H16, H16 = fl_up H12 94 14 ((H12 94 14) + 1) → ((0 ≤ fl_w (a1 + 1) ∧ fl_w (a1 + 1) < 144 → ∀ H18, H18 = fl_up H16 105 (fl_w (a1 + 1)).toNat x14 → (0 ≤ fl_w (a1 + 2) ∧ fl_w (a1 + 2) < 144 → ∀ H21, H21 = fl_up H18 105 (fl_w (a1 + 2)).toNat a2 → (0 ≤ fl_w (a1 + 3) ∧ fl_w (a1 + 3) < 144 → ∀ H24, H24 = fl_up H21 105 (fl_w (a1 + 3)).toNat (x3 - 97) → (0 ≤ fl_w (a1 + 4) ∧ fl_w (a1 + 4) < 144 → ∀ H27, H27 = fl_up H24 105 (fl_w (a1 + 4)).toNat 0 → ((3 ≤ fl_w x14) → Q (some 1) H27) ∧ (¬ (3 ≤ fl_w x14) → ∀ m, m < N → ck (cm_pg X xs) m cm_m220 [.index 94] H27 (fun r H31 => ∃ x33, r = some x33 ∧ (((fl_w x33 = 43) → ∀ H35, H35 = fl_up H31 94 14 ((H31 94 14) + 1) → (∀ m, m < N → ck (cm_pg X xs) m cm_m223 [.index 94, fl_t 99] H35 (fun r H37 => ∃ x39, r = some x39 ∧ (((0 ≤ fl_w x39) → (fl_w x33 = 43 → (0 ≤ fl_w (a1 + 4) ∧ fl_w (a1 + 4) < 144 → ∀ H42, H42 = fl_up H37 105 (fl_w (a1 + 4)).toNat x39 → Q (some 1) H42)) ∧ (¬ fl_w x33 = 43 → (0 ≤ fl_w (a1 + 4) ∧ fl_w (a1 + 4) < 144 → ∀ H45, H45 = fl_up H37 105 (fl_w (a1 + 4)).toNat (-x39) → Q (some 1) H45))) ∧ (¬ (0 ≤ fl_w x39) → Q (some 0) H37))))) ∧ (¬ (fl_w x33 = 43) → ((fl_w x33 = 45) → ∀ H49, H49 = fl_up H31 94 14 ((H31 94 14) + 1) → (∀ m, m < N → ck (cm_pg X xs) m cm_m223 [.index 94, fl_t 99] H49 (fun r H51 => ∃ x53, r = some x53 ∧ (((0 ≤ fl_w x53) → (fl_w x33 = 43 → (0 ≤ fl_w (a1 + 4) ∧ fl_w (a1 + 4) < 144 → ∀ H56, H56 = fl_up H51 105 (fl_w (a1 + 4)).toNat x53 → Q (some 1) H56)) ∧ (¬ fl_w x33 = 43 → (0 ≤ fl_w (a1 + 4) ∧ fl_w (a1 + 4) < 144 → ∀ H59, H59 = fl_up H51 105 (fl_w (a1 + 4)).toNat (-x53) → Q (some 1) H59))) ∧ (¬ (0 ≤ fl_w x53) → Q (some 0) H51))))) ∧ (¬ (fl_w x33 = 45) → Q (some 0) H31))))))))))) ∧ (¬ (0 ≤ fl_w x14) → Q (some 0) H12))))))))) ∧ (¬ (0 ≤ fl_w (x3 - 97) ∧ fl_w (x3 - 97) ≤ fl_w ((H1 94 17) - 1)) → Q (some 0) H1))))  : ck (cm_pg X xs) N cm_m228 [.index 94, fl_t a1, fl_t a2] H Q :=
  vt_aload_n rfl rfl rfl
 (vt_callV rfl rfl (fun _ => rfl) (fun m hm => vt_int (W m hm) (fun x3 H1 w2 => vt_bipush (v := 97) rfl (by decide)
 (vt_isub rfl
 (vt_istore_n rfl
 (vt_iload_n rfl rfl
 (vt_i2l rfl
 (vt_lconst rfl (by decide)
 (vt_aload_n rfl rfl rfl
 (vt_getf rfl rfl rfl
 (vt_iconst rfl
 (vt_isub rfl
 (vt_i2l rfl
 (vt_callS rfl rfl (fun _ => rfl) (fun _ _ => vt_sum (sm_in (fl_lrw _) (fl_lrl (by decide) (by decide)) (fl_lrw _))
 (vt_ifb rfl (fun hc4 => vt_iload_n rfl rfl
 (vt_bipush (v := 6) rfl (by decide)
 (vt_icmp rfl (fun hc5 => vt_iconst rfl
 (vt_ret rfl ((w2.1 hc4).1 hc5))) (fun hc5 => vt_iload_n rfl rfl
 (vt_iload_n rfl rfl
 (vt_icmpN rfl (fun hc6 => vt_aload_n rfl rfl rfl
 (vt_mv (fun _ _ => rfl)
 (vt_getf rfl rfl rfl
 (vt_iconst rfl
 (vt_iadd rfl
 (vt_putf rfl rfl rfl (vt_nm (fun H7 e8 => vt_aload_n rfl rfl rfl
 (vt_callV rfl rfl (fun _ => rfl) (fun m hm => vt_int (((((w2.1 hc4).2 hc5).2 hc6) H7 e8) m hm) (fun x11 H9 w10 => vt_callS rfl rfl (fun _ => rfl) (fun m hm => vt_int (w10 m hm) (fun x14 H12 w13 => vt_istore rfl
 (vt_iload rfl rfl
 (vt_ifc rfl (fun hc15 => vt_aload_n rfl rfl rfl
 (vt_mv (fun _ _ => rfl)
 (vt_getf rfl rfl rfl
 (vt_iconst rfl
 (vt_iadd rfl
 (vt_putf rfl rfl rfl (vt_nm (fun H16 e17 => vt_aload_n rfl rfl rfl
 (vt_getr rfl rfl rfl
 (vt_iload_n rfl rfl
 (vt_iconst rfl
 (vt_iadd rfl
 (vt_iload rfl rfl
 (vt_iast rfl rfl (fun hf20 => vt_nm (fun H18 e19 => vt_aload_n rfl rfl rfl
 (vt_getr rfl rfl rfl
 (vt_iload_n rfl rfl
 (vt_iconst rfl
 (vt_iadd rfl
 (vt_iload_n rfl rfl
 (vt_iast rfl rfl (fun hf23 => vt_nm (fun H21 e22 => vt_aload_n rfl rfl rfl
 (vt_getr rfl rfl rfl
 (vt_iload_n rfl rfl
 (vt_iconst rfl
 (vt_iadd rfl
 (vt_iload_n rfl rfl
 (vt_iast rfl rfl (fun hf26 => vt_nm (fun H24 e25 => vt_aload_n rfl rfl rfl
 (vt_getr rfl rfl rfl
 (vt_iload_n rfl rfl
 (vt_iconst rfl
 (vt_iadd rfl
 (vt_iconst rfl
 (vt_iast rfl rfl (fun hf29 => vt_nm (fun H27 e28 => vt_iload rfl rfl
 (vt_iconst rfl
 (vt_icmp rfl (fun hc30 => vt_iconst rfl
 (vt_ret rfl (((((((w13.1 hc15) H16 e17) hf20 H18 e19) hf23 H21 e22) hf26 H24 e25) hf29 H27 e28).1 hc30))) (fun hc30 => vt_aload_n rfl rfl rfl
 (vt_callV rfl rfl (fun _ => rfl) (fun m hm => vt_int ((((((((w13.1 hc15) H16 e17) hf20 H18 e19) hf23 H21 e22) hf26 H24 e25) hf29 H27 e28).2 hc30) m hm) (fun x33 H31 w32 => vt_istore rfl
 (vt_iload rfl rfl
 (vt_bipush (v := 43) rfl (by decide)
 (vt_icmp rfl (fun hc34 => vt_aload_n rfl rfl rfl
 (vt_mv (fun _ _ => rfl)
 (vt_getf rfl rfl rfl
 (vt_iconst rfl
 (vt_iadd rfl
 (vt_putf rfl rfl rfl (vt_nm (fun H35 e36 => vt_aload_n rfl rfl rfl
 (vt_bipush (v := 99) rfl (by decide)
 (vt_callV rfl rfl (fun _ => rfl) (fun m hm => vt_int (((w32.1 hc34) H35 e36) m hm) (fun x39 H37 w38 => vt_istore rfl
 (vt_iload rfl rfl
 (vt_ifc rfl (fun hc40 => vt_aload_n rfl rfl rfl
 (vt_getr rfl rfl rfl
 (vt_iload_n rfl rfl
 (vt_iconst rfl
 (vt_iadd rfl
 (vt_iload rfl rfl
 (vt_bipush (v := 43) rfl (by decide)
 (vt_icmpN rfl (fun hc41 => vt_iload rfl rfl
 (vt_ineg rfl
 (vt_iast rfl rfl (fun hf47 => vt_nm (fun H45 e46 => vt_iconst rfl
 (vt_ret rfl (((w38.1 hc40).2 hc41) hf47 H45 e46))))))) (fun hc41 => vt_iload rfl rfl
 (vt_goto rfl
 (vt_iast rfl rfl (fun hf44 => vt_nm (fun H42 e43 => vt_iconst rfl
 (vt_ret rfl (((w38.1 hc40).1 hc41) hf44 H42 e43))))))))))))))) (fun hc40 => vt_iconst rfl
 (vt_ret rfl (w38.2 hc40))))))))))))))))) (fun hc34 => vt_iload rfl rfl
 (vt_bipush (v := 45) rfl (by decide)
 (vt_icmp rfl (fun hc48 => vt_aload_n rfl rfl rfl
 (vt_mv (fun _ _ => rfl)
 (vt_getf rfl rfl rfl
 (vt_iconst rfl
 (vt_iadd rfl
 (vt_putf rfl rfl rfl (vt_nm (fun H49 e50 => vt_aload_n rfl rfl rfl
 (vt_bipush (v := 99) rfl (by decide)
 (vt_callV rfl rfl (fun _ => rfl) (fun m hm => vt_int ((((w32.2 hc34).1 hc48) H49 e50) m hm) (fun x53 H51 w52 => vt_istore rfl
 (vt_iload rfl rfl
 (vt_ifc rfl (fun hc54 => vt_aload_n rfl rfl rfl
 (vt_getr rfl rfl rfl
 (vt_iload_n rfl rfl
 (vt_iconst rfl
 (vt_iadd rfl
 (vt_iload rfl rfl
 (vt_bipush (v := 43) rfl (by decide)
 (vt_icmpN rfl (fun hc55 => vt_iload rfl rfl
 (vt_ineg rfl
 (vt_iast rfl rfl (fun hf61 => vt_nm (fun H59 e60 => vt_iconst rfl
 (vt_ret rfl (((w52.1 hc54).2 hc55) hf61 H59 e60))))))) (fun hc55 => vt_iload rfl rfl
 (vt_goto rfl
 (vt_iast rfl rfl (fun hf58 => vt_nm (fun H56 e57 => vt_iconst rfl
 (vt_ret rfl (((w52.1 hc54).1 hc55) hf58 H56 e57))))))))))))))) (fun hc54 => vt_iconst rfl
 (vt_ret rfl (w52.2 hc54))))))))))))))))) (fun hc48 => vt_iconst rfl
 (vt_ret rfl ((w32.2 hc34).2 hc48))))))))))))))))))))))))))))))))))))))))))))))))))))))) (fun hc15 => vt_iconst rfl
 (vt_ret rfl (w13.2 hc15)))))))))))))))))) (fun hc6 => vt_iconst rfl
 (vt_ret rfl (((w2.1 hc4).2 hc5).1 hc6))))))))) (fun hc4 => vt_iconst rfl
 (vt_ret rfl (w2.2 hc4)))))))))))))))))))
theorem ve_GoodsBookModel_bondOf {X : Term} {xs : List Int32} {N : Nat} {H : fl_H} {a0 : Int} {Q : Option Int → fl_H → Prop} (W : (fl_w a0 = 111 → Q (some 0) H) ∧ (¬ fl_w a0 = 111 → (fl_w a0 = 102 → Q (some 1) H) ∧ (¬ fl_w a0 = 102 → (fl_w a0 = 101 → Q (some 2) H) ∧ (¬ fl_w a0 = 101 → (fl_w a0 = 110 → Q (some 3) H) ∧ (¬ fl_w a0 = 110 → (fl_w a0 = 118 → Q (some 4) H) ∧ (¬ fl_w a0 = 118 → (fl_w a0 = 104 → Q (some 5) H) ∧ (¬ fl_w a0 = 104 → Q (some (-1)) H)))))))  : ck (cm_pg X xs) N cm_m226 [fl_t a0] H Q :=
  vt_iload_n rfl rfl
 (vt_bipush (v := 111) rfl (by decide)
 (vt_icmpN rfl (fun hc1 => vt_iload_n rfl rfl
 (vt_bipush (v := 102) rfl (by decide)
 (vt_icmpN rfl (fun hc2 => vt_iload_n rfl rfl
 (vt_bipush (v := 101) rfl (by decide)
 (vt_icmpN rfl (fun hc3 => vt_iload_n rfl rfl
 (vt_bipush (v := 110) rfl (by decide)
 (vt_icmpN rfl (fun hc4 => vt_iload_n rfl rfl
 (vt_bipush (v := 118) rfl (by decide)
 (vt_icmpN rfl (fun hc5 => vt_iload_n rfl rfl
 (vt_bipush (v := 104) rfl (by decide)
 (vt_icmpN rfl (fun hc6 => vt_iconst rfl
 (vt_ret rfl ((((((W.2 hc1).2 hc2).2 hc3).2 hc4).2 hc5).2 hc6))) (fun hc6 => vt_iconst rfl
 (vt_goto rfl
 (vt_ret rfl ((((((W.2 hc1).2 hc2).2 hc3).2 hc4).2 hc5).1 hc6))))))) (fun hc5 => vt_iconst rfl
 (vt_goto rfl
 (vt_ret rfl (((((W.2 hc1).2 hc2).2 hc3).2 hc4).1 hc5))))))) (fun hc4 => vt_iconst rfl
 (vt_goto rfl
 (vt_ret rfl ((((W.2 hc1).2 hc2).2 hc3).1 hc4))))))) (fun hc3 => vt_iconst rfl
 (vt_goto rfl
 (vt_ret rfl (((W.2 hc1).2 hc2).1 hc3))))))) (fun hc2 => vt_iconst rfl
 (vt_goto rfl
 (vt_ret rfl ((W.2 hc1).1 hc2))))))) (fun hc1 => vt_iconst rfl
 (vt_goto rfl
 (vt_ret rfl (W.1 hc1))))))
theorem ve_GoodsBookModel_readGood_94 {X : Term} {xs : List Int32} {N : Nat} {H : fl_H} {a1 : Int} {Q : Option Int → fl_H → Prop} (W : ∀ m, m < N → ck (cm_pg X xs) m cm_m220 [.index 94] H (fun r H1 => ∃ x3, r = some x3 ∧ (∀ m, m < N → ck (cm_pg X xs) m cm_m225 [fl_t x3] H1 (fun r H4 => ∃ x6, r = some x6 ∧ ((0 ≤ fl_w (a1 + 1) ∧ fl_w (a1 + 1) < 144 → ∀ H7, H7 = fl_up H4 105 (fl_w (a1 + 1)).toNat x6 → (0 ≤ fl_w (a1 + 1) ∧ fl_w (a1 + 1) < 144 → ((0 ≤ fl_w (H7 105 (fl_w (a1 + 1)).toNat)) → ∀ H12, H12 = fl_up H7 94 14 ((H7 94 14) + 1) → (∀ m, m < N → ck (cm_pg X xs) m cm_m222 [.index 94, fl_t 0, fl_t 3] H12 (fun r H14 => ∃ x16, r = some x16 ∧ ((0 ≤ fl_w (a1 + 2) ∧ fl_w (a1 + 2) < 144 → ∀ H17, H17 = fl_up H14 105 (fl_w (a1 + 2)).toNat x16 → (0 ≤ fl_w (a1 + 2) ∧ fl_w (a1 + 2) < 144 → ((fl_w (H17 105 (fl_w (a1 + 2)).toNat) < 0) → Q (some 0) H17) ∧ (¬ (fl_w (H17 105 (fl_w (a1 + 2)).toNat) < 0) → ∀ m, m < N → ck (cm_pg X xs) m cm_m224 [.index 94, fl_t (a1 + 3)] H17 (fun r H22 => ∃ x24, r = some x24 ∧ (((fl_w x24 = 0) → Q (some 0) H22) ∧ (¬ (fl_w x24 = 0) → ∀ m, m < N → ck (cm_pg X xs) m cm_m221 [.index 94, fl_t 44] H22 (fun r H26 => ∃ x28, r = some x28 ∧ (((fl_w x28 = 0) → Q (some 0) H26) ∧ (¬ (fl_w x28 = 0) → ∀ m, m < N → ck (cm_pg X xs) m cm_m224 [.index 94, fl_t (a1 + 6)] H26 (fun r H30 => ∃ x32, r = some x32 ∧ ((fl_w x32 = 0 → Q (some 0) H30) ∧ (¬ fl_w x32 = 0 → ∀ H34, H34 = fl_up H30 94 17 ((H30 94 17) + 1) → (Q (some 1) H34))))))))))))))))) ∧ (¬ (0 ≤ fl_w (H7 105 (fl_w (a1 + 1)).toNat)) → Q (some 0) H7))))))))  : ck (cm_pg X xs) N cm_m227 [.index 94, fl_t a1] H Q :=
  vt_aload_n rfl rfl rfl
 (vt_getr rfl rfl rfl
 (vt_iload_n rfl rfl
 (vt_iconst rfl
 (vt_iadd rfl
 (vt_aload_n rfl rfl rfl
 (vt_callV rfl rfl (fun _ => rfl) (fun m hm => vt_int (W m hm) (fun x3 H1 w2 => vt_callS rfl rfl (fun _ => rfl) (fun m hm => vt_int (w2 m hm) (fun x6 H4 w5 => vt_iast rfl rfl (fun hf9 => vt_nm (fun H7 e8 => vt_aload_n rfl rfl rfl
 (vt_getr rfl rfl rfl
 (vt_iload_n rfl rfl
 (vt_iconst rfl
 (vt_iadd rfl
 (vt_iald rfl rfl (fun hf10 => vt_ifc rfl (fun hc11 => vt_aload_n rfl rfl rfl
 (vt_mv (fun _ _ => rfl)
 (vt_getf rfl rfl rfl
 (vt_iconst rfl
 (vt_iadd rfl
 (vt_putf rfl rfl rfl (vt_nm (fun H12 e13 => vt_aload_n rfl rfl rfl
 (vt_getr rfl rfl rfl
 (vt_iload_n rfl rfl
 (vt_iconst rfl
 (vt_iadd rfl
 (vt_aload_n rfl rfl rfl
 (vt_iconst rfl
 (vt_iconst rfl
 (vt_callV rfl rfl (fun _ => rfl) (fun m hm => vt_int (((((w5 hf9 H7 e8) hf10).1 hc11) H12 e13) m hm) (fun x16 H14 w15 => vt_iast rfl rfl (fun hf19 => vt_nm (fun H17 e18 => vt_aload_n rfl rfl rfl
 (vt_getr rfl rfl rfl
 (vt_iload_n rfl rfl
 (vt_iconst rfl
 (vt_iadd rfl
 (vt_iald rfl rfl (fun hf20 => vt_ifc rfl (fun hc21 => vt_iconst rfl
 (vt_ret rfl (((w15 hf19 H17 e18) hf20).1 hc21))) (fun hc21 => vt_aload_n rfl rfl rfl
 (vt_iload_n rfl rfl
 (vt_iconst rfl
 (vt_iadd rfl
 (vt_callV rfl rfl (fun _ => rfl) (fun m hm => vt_int ((((w15 hf19 H17 e18) hf20).2 hc21) m hm) (fun x24 H22 w23 => vt_ifc rfl (fun hc25 => vt_iconst rfl
 (vt_ret rfl (w23.1 hc25))) (fun hc25 => vt_aload_n rfl rfl rfl
 (vt_bipush (v := 44) rfl (by decide)
 (vt_callV rfl rfl (fun _ => rfl) (fun m hm => vt_int ((w23.2 hc25) m hm) (fun x28 H26 w27 => vt_ifc rfl (fun hc29 => vt_iconst rfl
 (vt_ret rfl (w27.1 hc29))) (fun hc29 => vt_aload_n rfl rfl rfl
 (vt_iload_n rfl rfl
 (vt_bipush (v := 6) rfl (by decide)
 (vt_iadd rfl
 (vt_callV rfl rfl (fun _ => rfl) (fun m hm => vt_int ((w27.2 hc29) m hm) (fun x32 H30 w31 => vt_ifcN rfl (fun hc33 => vt_aload_n rfl rfl rfl
 (vt_mv (fun _ _ => rfl)
 (vt_getf rfl rfl rfl
 (vt_iconst rfl
 (vt_iadd rfl
 (vt_putf rfl rfl rfl (vt_nm (fun H34 e35 => vt_iconst rfl
 (vt_ret rfl ((w31.2 hc33) H34 e35)))))))))) (fun hc33 => vt_iconst rfl
 (vt_ret rfl (w31.1 hc33)))))))))))))))))))))))))))))))))))))))))))))))) (fun hc11 => vt_iconst rfl
 (vt_ret rfl (((w5 hf9 H7 e8) hf10).2 hc11)))))))))))))))))))))
theorem ve_GoodsBookModel_takes_94 {X : Term} {xs : List Int32} {N : Nat} {H : fl_H} {a1 : Int} {Q : Option Int → fl_H → Prop} (W : ∀ m, m < N → ck (cm_pg X xs) m cm_m220 [.index 94] H (fun r H1 => ∃ x3, r = some x3 ∧ ((fl_w x3 = fl_w a1 → ∀ H6, H6 = fl_up H1 94 14 ((H1 94 14) + 1) → (Q (some 1) H6)) ∧ (¬ fl_w x3 = fl_w a1 → ∀ H9, H9 = fl_up H1 94 14 ((H1 94 14) + 0) → (Q (some 0) H9)))))  : ck (cm_pg X xs) N cm_m221 [.index 94, fl_t a1] H Q :=
  vt_aload_n rfl rfl rfl
 (vt_callV rfl rfl (fun _ => rfl) (fun m hm => vt_int (W m hm) (fun x3 H1 w2 => vt_iload_n rfl rfl
 (vt_icmpN rfl (fun hc4 => vt_iconst rfl
 (vt_istore_n rfl
 (vt_aload_n rfl rfl rfl
 (vt_mv (fun _ _ => rfl)
 (vt_getf rfl rfl rfl
 (vt_iload_n rfl rfl
 (vt_ifc (a := 0) rfl (fun _ => vt_iconst rfl
 (vt_iadd rfl
 (vt_putf rfl rfl rfl (vt_nm (fun H9 e10 => vt_iload_n rfl rfl
 (vt_ret rfl ((w2.2 hc4) H9 e10))))))) (fun hc8 => by exact absurd (show (0 : Int) = 0 by decide) hc8)))))))) (fun hc4 => vt_iconst rfl
 (vt_goto rfl
 (vt_istore_n rfl
 (vt_aload_n rfl rfl rfl
 (vt_mv (fun _ _ => rfl)
 (vt_getf rfl rfl rfl
 (vt_iload_n rfl rfl
 (vt_ifc (a := 1) rfl (fun hc5 => by exact absurd (show (1 : Int) = 0 from hc5) (by decide)) (fun _ => vt_iconst rfl
 (vt_goto rfl
 (vt_iadd rfl
 (vt_putf rfl rfl rfl (vt_nm (fun H6 e7 => vt_iload_n rfl rfl
 (vt_ret rfl ((w2.1 hc4) H6 e7))))))))))))))))))))
theorem ve_GoodsBookModel_readSize_94 {X : Term} {xs : List Int32} {N : Nat} {H : fl_H} {a1 : Int} {Q : Option Int → fl_H → Prop} (W : ∀ m, m < N → ck (cm_pg X xs) m cm_m222 [.index 94, fl_t 1, fl_t 4] H (fun r H1 => ∃ x3, r = some x3 ∧ ((0 ≤ fl_w a1 ∧ fl_w a1 < 144 → ∀ H4, H4 = fl_up H1 105 (fl_w a1).toNat x3 → (0 ≤ fl_w a1 ∧ fl_w a1 < 144 → ((fl_w (H4 105 (fl_w a1).toNat) < 0) → Q (some 0) H4) ∧ (¬ (fl_w (H4 105 (fl_w a1).toNat) < 0) → ∀ m, m < N → ck (cm_pg X xs) m cm_m221 [.index 94, fl_t 120] H4 (fun r H9 => ∃ x11, r = some x11 ∧ ((fl_w x11 = 0 → Q (some 0) H9) ∧ (¬ fl_w x11 = 0 → ∀ m, m < N → ck (cm_pg X xs) m cm_m222 [.index 94, fl_t 1, fl_t 4] H9 (fun r H13 => ∃ x15, r = some x15 ∧ ((0 ≤ fl_w (a1 + 1) ∧ fl_w (a1 + 1) < 144 → ∀ H16, H16 = fl_up H13 105 (fl_w (a1 + 1)).toNat x15 → (0 ≤ fl_w (a1 + 1) ∧ fl_w (a1 + 1) < 144 → ((fl_w (H16 105 (fl_w (a1 + 1)).toNat) < 0) → Q (some 0) H16) ∧ (¬ (fl_w (H16 105 (fl_w (a1 + 1)).toNat) < 0) → ∀ m, m < N → ck (cm_pg X xs) m cm_m221 [.index 94, fl_t 61] H16 (fun r H21 => ∃ x23, r = some x23 ∧ ((fl_w x23 = 0 → Q (some 0) H21) ∧ (¬ fl_w x23 = 0 → ∀ m, m < N → ck (cm_pg X xs) m cm_m223 [.index 94, fl_t 999] H21 (fun r H25 => ∃ x27, r = some x27 ∧ ((0 ≤ fl_w (a1 + 2) ∧ fl_w (a1 + 2) < 144 → ∀ H28, H28 = fl_up H25 105 (fl_w (a1 + 2)).toNat x27 → (0 ≤ fl_w (a1 + 2) ∧ fl_w (a1 + 2) < 144 → ((fl_w (H28 105 (fl_w (a1 + 2)).toNat) < 0) → Q (some 0) H28) ∧ (¬ (fl_w (H28 105 (fl_w (a1 + 2)).toNat) < 0) → Q (some 1) H28))))))))))))))))))))))  : ck (cm_pg X xs) N cm_m224 [.index 94, fl_t a1] H Q :=
  vt_aload_n rfl rfl rfl
 (vt_getr rfl rfl rfl
 (vt_iload_n rfl rfl
 (vt_aload_n rfl rfl rfl
 (vt_iconst rfl
 (vt_iconst rfl
 (vt_callV rfl rfl (fun _ => rfl) (fun m hm => vt_int (W m hm) (fun x3 H1 w2 => vt_iast rfl rfl (fun hf6 => vt_nm (fun H4 e5 => vt_aload_n rfl rfl rfl
 (vt_getr rfl rfl rfl
 (vt_iload_n rfl rfl
 (vt_iald rfl rfl (fun hf7 => vt_ifc rfl (fun hc8 => vt_iconst rfl
 (vt_ret rfl (((w2 hf6 H4 e5) hf7).1 hc8))) (fun hc8 => vt_aload_n rfl rfl rfl
 (vt_bipush (v := 120) rfl (by decide)
 (vt_callV rfl rfl (fun _ => rfl) (fun m hm => vt_int ((((w2 hf6 H4 e5) hf7).2 hc8) m hm) (fun x11 H9 w10 => vt_ifcN rfl (fun hc12 => vt_aload_n rfl rfl rfl
 (vt_getr rfl rfl rfl
 (vt_iload_n rfl rfl
 (vt_iconst rfl
 (vt_iadd rfl
 (vt_aload_n rfl rfl rfl
 (vt_iconst rfl
 (vt_iconst rfl
 (vt_callV rfl rfl (fun _ => rfl) (fun m hm => vt_int ((w10.2 hc12) m hm) (fun x15 H13 w14 => vt_iast rfl rfl (fun hf18 => vt_nm (fun H16 e17 => vt_aload_n rfl rfl rfl
 (vt_getr rfl rfl rfl
 (vt_iload_n rfl rfl
 (vt_iconst rfl
 (vt_iadd rfl
 (vt_iald rfl rfl (fun hf19 => vt_ifc rfl (fun hc20 => vt_iconst rfl
 (vt_ret rfl (((w14 hf18 H16 e17) hf19).1 hc20))) (fun hc20 => vt_aload_n rfl rfl rfl
 (vt_bipush (v := 61) rfl (by decide)
 (vt_callV rfl rfl (fun _ => rfl) (fun m hm => vt_int ((((w14 hf18 H16 e17) hf19).2 hc20) m hm) (fun x23 H21 w22 => vt_ifcN rfl (fun hc24 => vt_aload_n rfl rfl rfl
 (vt_getr rfl rfl rfl
 (vt_iload_n rfl rfl
 (vt_iconst rfl
 (vt_iadd rfl
 (vt_aload_n rfl rfl rfl
 (vt_sipush (v := 999) rfl (by decide)
 (vt_callV rfl rfl (fun _ => rfl) (fun m hm => vt_int ((w22.2 hc24) m hm) (fun x27 H25 w26 => vt_iast rfl rfl (fun hf30 => vt_nm (fun H28 e29 => vt_aload_n rfl rfl rfl
 (vt_getr rfl rfl rfl
 (vt_iload_n rfl rfl
 (vt_iconst rfl
 (vt_iadd rfl
 (vt_iald rfl rfl (fun hf31 => vt_ifc rfl (fun hc32 => vt_iconst rfl
 (vt_ret rfl (((w26 hf30 H28 e29) hf31).1 hc32))) (fun hc32 => vt_iconst rfl
 (vt_goto rfl
 (vt_ret rfl (((w26 hf30 H28 e29) hf31).2 hc32)))))))))))))))))))))) (fun hc24 => vt_iconst rfl
 (vt_ret rfl (w22.1 hc24))))))))))))))))))))))))))) (fun hc12 => vt_iconst rfl
 (vt_ret rfl (w10.1 hc12))))))))))))))))))))))
theorem ve_GoodsBookModel_readDigit_94 {X : Term} {xs : List Int32} {N : Nat} {H : fl_H} {a1 a2 : Int} {Q : Option Int → fl_H → Prop} (W : ∀ m, m < N → ck (cm_pg X xs) m cm_m220 [.index 94] H (fun r H1 => ∃ x3, r = some x3 ∧ (((fl_w a1 ≤ fl_w (x3 - 48) ∧ fl_w (x3 - 48) ≤ fl_w a2) → ∀ H5, H5 = fl_up H1 94 14 ((H1 94 14) + 1) → (Q (some (x3 - 48)) H5)) ∧ (¬ (fl_w a1 ≤ fl_w (x3 - 48) ∧ fl_w (x3 - 48) ≤ fl_w a2) → Q (some (-1)) H1))))  : ck (cm_pg X xs) N cm_m222 [.index 94, fl_t a1, fl_t a2] H Q :=
  vt_aload_n rfl rfl rfl
 (vt_callV rfl rfl (fun _ => rfl) (fun m hm => vt_int (W m hm) (fun x3 H1 w2 => vt_bipush (v := 48) rfl (by decide)
 (vt_isub rfl
 (vt_istore_n rfl
 (vt_iload_n rfl rfl
 (vt_i2l rfl
 (vt_iload_n rfl rfl
 (vt_i2l rfl
 (vt_iload_n rfl rfl
 (vt_i2l rfl
 (vt_callS rfl rfl (fun _ => rfl) (fun _ _ => vt_sum (sm_in (fl_lrw _) (fl_lrw _) (fl_lrw _))
 (vt_ifn rfl (fun hc4 => vt_aload_n rfl rfl rfl
 (vt_mv (fun _ _ => rfl)
 (vt_getf rfl rfl rfl
 (vt_iconst rfl
 (vt_iadd rfl
 (vt_putf rfl rfl rfl (vt_nm (fun H5 e6 => vt_iload_n rfl rfl
 (vt_ret rfl ((w2.1 hc4) H5 e6)))))))))) (fun hc4 => vt_iconst rfl
 (vt_ret rfl (w2.2 hc4)))))))))))))))))
theorem ve_GoodsBookModel_kindOf {X : Term} {xs : List Int32} {N : Nat} {H : fl_H} {a0 : Int} {Q : Option Int → fl_H → Prop} (W : (fl_w a0 = 112 → Q (some 0) H) ∧ (¬ fl_w a0 = 112 → (fl_w a0 = 108 → Q (some 1) H) ∧ (¬ fl_w a0 = 108 → (fl_w a0 = 114 → Q (some 2) H) ∧ (¬ fl_w a0 = 114 → (fl_w a0 = 102 → Q (some 3) H) ∧ (¬ fl_w a0 = 102 → Q (some (-1)) H)))))  : ck (cm_pg X xs) N cm_m225 [fl_t a0] H Q :=
  vt_iload_n rfl rfl
 (vt_bipush (v := 112) rfl (by decide)
 (vt_icmpN rfl (fun hc1 => vt_iload_n rfl rfl
 (vt_bipush (v := 108) rfl (by decide)
 (vt_icmpN rfl (fun hc2 => vt_iload_n rfl rfl
 (vt_bipush (v := 114) rfl (by decide)
 (vt_icmpN rfl (fun hc3 => vt_iload_n rfl rfl
 (vt_bipush (v := 102) rfl (by decide)
 (vt_icmpN rfl (fun hc4 => vt_iconst rfl
 (vt_ret rfl ((((W.2 hc1).2 hc2).2 hc3).2 hc4))) (fun hc4 => vt_iconst rfl
 (vt_goto rfl
 (vt_ret rfl ((((W.2 hc1).2 hc2).2 hc3).1 hc4))))))) (fun hc3 => vt_iconst rfl
 (vt_goto rfl
 (vt_ret rfl (((W.2 hc1).2 hc2).1 hc3))))))) (fun hc2 => vt_iconst rfl
 (vt_goto rfl
 (vt_ret rfl ((W.2 hc1).1 hc2))))))) (fun hc1 => vt_iconst rfl
 (vt_goto rfl
 (vt_ret rfl (W.1 hc1))))))
def hd_GoodsBookModel_readNumber_94_12 (P : cm_G) (N : Nat) (H : fl_H) (a1 : Int) (a2 : Int) (a3 : Int) (Q : Option Int → fl_H → Prop) : Prop := ∀ lv : cm_Lv, cm_nth lv 0 = some (some (.index 94)) → cm_nth lv 1 = some (some (fl_t a1)) → cm_nth lv 2 = some (some (fl_t a2)) → cm_nth lv 3 = some (some (fl_t a3)) → vt P N cm_m223 12 lv [] H Q
theorem vh_GoodsBookModel_readNumber_94_12 {X : Term} {xs : List Int32} {N : Nat} {H : fl_H} {a1 : Int} {a2 : Int} {a3 : Int} {Q : Option Int → fl_H → Prop} (W : ((fl_w (H 94 13) ≤ fl_w (H 94 14)) → (fl_w (H 94 14) = fl_w a2 → Q (some (-1)) H) ∧ (¬ fl_w (H 94 14) = fl_w a2 → ((fl_w a3 ≤ fl_w a1) → Q (some a3) H) ∧ (¬ (fl_w a3 ≤ fl_w a1) → ∀ H4, H4 = fl_up H 94 14 a2 → (Q (some (-1)) H4)))) ∧ (¬ (fl_w (H 94 13) ≤ fl_w (H 94 14)) → (0 ≤ fl_w (H 94 14) ∧ fl_w (H 94 14) < 120 → ((48 ≤ fl_w (H 104 (fl_w (H 94 14)).toNat) ∧ fl_w (H 104 (fl_w (H 94 14)).toNat) ≤ 57) → ((fl_w a3 ≤ 9999) → (0 ≤ fl_w (H 94 14) ∧ fl_w (H 94 14) < 120 → ∀ H11, H11 = fl_up H 94 14 ((H 94 14) + 1) → (∀ m, m < N → hd_GoodsBookModel_readNumber_94_12 (cm_pg X xs) m H11 a1 a2 (((10 * a3) + (H 104 (fl_w (H 94 14)).toNat)) - 48) Q))) ∧ (¬ (fl_w a3 ≤ 9999) → ∀ H14, H14 = fl_up H 94 14 ((H 94 14) + 1) → (∀ m, m < N → hd_GoodsBookModel_readNumber_94_12 (cm_pg X xs) m H14 a1 a2 a3 Q))) ∧ (¬ (48 ≤ fl_w (H 104 (fl_w (H 94 14)).toNat) ∧ fl_w (H 104 (fl_w (H 94 14)).toNat) ≤ 57) → (fl_w (H 94 14) = fl_w a2 → Q (some (-1)) H) ∧ (¬ fl_w (H 94 14) = fl_w a2 → ((fl_w a3 ≤ fl_w a1) → Q (some a3) H) ∧ (¬ (fl_w a3 ≤ fl_w a1) → ∀ H18, H18 = fl_up H 94 14 a2 → (Q (some (-1)) H18))))))) : hd_GoodsBookModel_readNumber_94_12 (cm_pg X xs) N H a1 a2 a3 Q :=
 fun lv h0 h1 h2 h3 =>
 vt_aload_n rfl h0 rfl
 (vt_getf rfl rfl rfl
 (vt_aload_n rfl h0 rfl
 (vt_getf rfl rfl rfl
 (vt_icmp rfl (fun hc1 => vt_aload_n rfl h0 rfl
 (vt_getf rfl rfl rfl
 (vt_iload_n rfl h2
 (vt_icmpN rfl (fun hc2 => vt_iload_n rfl h3
 (vt_iload_n rfl h1
 (vt_icmp rfl (fun hc3 => vt_iload_n rfl h3
 (vt_ret rfl (((W.1 hc1).2 hc2).1 hc3))) (fun hc3 => vt_aload_n rfl h0 rfl
 (vt_iload_n rfl h2
 (vt_putf rfl rfl rfl (vt_nm (fun H4 e5 => vt_iconst rfl
 (vt_ret rfl ((((W.1 hc1).2 hc2).2 hc3) H4 e5)))))))))) (fun hc2 => vt_iconst rfl
 (vt_ret rfl ((W.1 hc1).1 hc2))))))) (fun hc1 => vt_aload_n rfl h0 rfl
 (vt_getr rfl rfl rfl
 (vt_aload_n rfl h0 rfl
 (vt_getf rfl rfl rfl
 (vt_iald rfl rfl (fun hf6 => vt_i2l rfl
 (vt_ldc2 (v := 48) rfl (by decide)
 (vt_ldc2 (v := 57) rfl (by decide)
 (vt_callS rfl rfl (fun _ => rfl) (fun _ _ => vt_sum (sm_in (fl_lrw _) (fl_lrl (by decide) (by decide)) (fl_lrl (by decide) (by decide)))
 (vt_ifb rfl (fun hc7 => vt_iload_n rfl h3
 (vt_sipush (v := 9999) rfl (by decide)
 (vt_icmp rfl (fun hc8 => vt_bipush (v := 10) rfl (by decide)
 (vt_iload_n rfl h3
 (vt_imul rfl
 (vt_aload_n rfl h0 rfl
 (vt_getr rfl rfl rfl
 (vt_aload_n rfl h0 rfl
 (vt_getf rfl rfl rfl
 (vt_iald rfl rfl (fun hf9 => vt_iadd rfl
 (vt_bipush (v := 48) rfl (by decide)
 (vt_isub rfl
 (vt_istore_nA rfl (fun hl10 => vt_aload_n rfl (fl_lsn (by decide) h0) rfl
 (vt_mv (fun _ _ => rfl)
 (vt_getf rfl rfl rfl
 (vt_iconst rfl
 (vt_iadd rfl
 (vt_putf rfl rfl rfl (vt_nm (fun H11 e12 => vt_gotoS rfl (fun m hm => (((((((W.2 hc1) hf6).1 hc7).1 hc8) hf9) H11 e12) m hm) _ (fl_lsn (by decide) h0) (fl_lsn (by decide) h1) (fl_lsn (by decide) h2) (fl_lse hl10)))))))))))))))))))))) (fun hc8 => vt_iload_n rfl h3
 (vt_goto rfl
 (vt_istore_nA rfl (fun hl13 => vt_aload_n rfl (fl_lsn (by decide) h0) rfl
 (vt_mv (fun _ _ => rfl)
 (vt_getf rfl rfl rfl
 (vt_iconst rfl
 (vt_iadd rfl
 (vt_putf rfl rfl rfl (vt_nm (fun H14 e15 => vt_gotoS rfl (fun m hm => ((((((W.2 hc1) hf6).1 hc7).2 hc8) H14 e15) m hm) _ (fl_lsn (by decide) h0) (fl_lsn (by decide) h1) (fl_lsn (by decide) h2) (fl_lse hl13)))))))))))))))) (fun hc7 => vt_aload_n rfl h0 rfl
 (vt_getf rfl rfl rfl
 (vt_iload_n rfl h2
 (vt_icmpN rfl (fun hc16 => vt_iload_n rfl h3
 (vt_iload_n rfl h1
 (vt_icmp rfl (fun hc17 => vt_iload_n rfl h3
 (vt_ret rfl (((((W.2 hc1) hf6).2 hc7).2 hc16).1 hc17))) (fun hc17 => vt_aload_n rfl h0 rfl
 (vt_iload_n rfl h2
 (vt_putf rfl rfl rfl (vt_nm (fun H18 e19 => vt_iconst rfl
 (vt_ret rfl ((((((W.2 hc1) hf6).2 hc7).2 hc16).2 hc17) H18 e19)))))))))) (fun hc16 => vt_iconst rfl
 (vt_ret rfl ((((W.2 hc1) hf6).2 hc7).1 hc16))))))))))))))))))))))
theorem ve_GoodsBookModel_readNumber_94 {X : Term} {xs : List Int32} {N : Nat} {H : fl_H} {a1 : Int} {Q : Option Int → fl_H → Prop} (W : ∀ m, m < N → ck (cm_pg X xs) m cm_m220 [.index 94] H (fun r H1 => ∃ x3, r = some x3 ∧ (hd_GoodsBookModel_readNumber_94_12 (cm_pg X xs) N H1 a1 (H1 94 14) 0 Q)))  : ck (cm_pg X xs) N cm_m223 [.index 94, fl_t a1] H Q :=
  vt_aload_n rfl rfl rfl
 (vt_callV rfl rfl (fun _ => rfl) (fun m hm => vt_int (W m hm) (fun x3 H1 w2 => vt_mv (fun _ _ => rfl)
 (vt_aload_n rfl rfl rfl
 (vt_getf rfl rfl rfl
 (vt_istore_n rfl
 (vt_iconst rfl
 (vt_istore_n rfl
 (w2 _ rfl rfl rfl rfl)))))))))
def hd_GoodsBookModel_type_94_19 (P : cm_G) (N : Nat) (H : fl_H) (a1 : Int) (a3 : Int) (a4 : Int) (Q : Option Int → fl_H → Prop) : Prop := ∀ lv : cm_Lv, cm_nth lv 0 = some (some (.index 94)) → cm_nth lv 1 = some (some (fl_l a1)) → cm_nth lv 3 = some (some (fl_t a3)) → cm_nth lv 4 = some (some (fl_t a4)) → vt P N cm_m219 19 lv [] H Q
def hd_GoodsBookModel_type_94_74 (P : cm_G) (N : Nat) (H : fl_H) (a1 : Int) (a4 : Int) (Q : Option Int → fl_H → Prop) : Prop := ∀ lv : cm_Lv, cm_nth lv 0 = some (some (.index 94)) → cm_nth lv 1 = some (some (fl_l a1)) → cm_nth lv 4 = some (some (fl_t a4)) → vt P N cm_m219 74 lv [] H Q
theorem vh_GoodsBookModel_type_94_19 {X : Term} {xs : List Int32} {N : Nat} {H : fl_H} {a1 : Int} {a3 : Int} {a4 : Int} {Q : Option Int → fl_H → Prop} (W : ((fl_w a4 < 0) → ((fl_w ((H 94 13) + a3) ≤ 120) → hd_GoodsBookModel_type_94_74 (cm_pg X xs) N H a1 (a3 - 1) Q) ∧ (¬ (fl_w ((H 94 13) + a3) ≤ 120) → Q (some (-3)) H)) ∧ (¬ (fl_w a4 < 0) → ((32 ≤ fl_land (fl_lshr a1 (8 * a4)) 255 ∧ fl_land (fl_lshr a1 (8 * a4)) 255 ≤ 126) → ∀ m, m < N → hd_GoodsBookModel_type_94_19 (cm_pg X xs) m H a1 a3 (a4 + (-1)) Q) ∧ (¬ (32 ≤ fl_land (fl_lshr a1 (8 * a4)) 255 ∧ fl_land (fl_lshr a1 (8 * a4)) 255 ≤ 126) → Q (some (-1)) H))) : hd_GoodsBookModel_type_94_19 (cm_pg X xs) N H a1 a3 a4 Q :=
 fun lv h0 h1 h3 h4 =>
 vt_iload rfl h4
 (vt_ifc rfl (fun hc1 => vt_aload_n rfl h0 rfl
 (vt_getf rfl rfl rfl
 (vt_iload_n rfl h3
 (vt_iadd rfl
 (vt_bipush (v := 120) rfl (by decide)
 (vt_icmp rfl (fun hc2 => vt_iload_n rfl h3
 (vt_iconst rfl
 (vt_isub rfl
 (vt_istoreA rfl (fun hl3 => ((W.1 hc1).1 hc2) _ (fl_lsn (by decide) h0) (fl_lsn (by decide) h1) (fl_lse hl3)))))) (fun hc2 => vt_bipush (v := (-3)) rfl (by decide)
 (vt_ret rfl ((W.1 hc1).2 hc2))))))))) (fun hc1 => vt_lload_n rfl h1
 (vt_bipush (v := 8) rfl (by decide)
 (vt_iload rfl h4
 (vt_imul rfl
 (vt_lshr rfl
 (vt_ldc2 (v := 255) rfl (by decide)
 (vt_land rfl
 (vt_ldc2 (v := 32) rfl (by decide)
 (vt_ldc2 (v := 126) rfl (by decide)
 (vt_callS rfl rfl (fun _ => rfl) (fun _ _ => vt_sum (sm_in (fl_lr_land _ _) (fl_lrl (by decide) (by decide)) (fl_lrl (by decide) (by decide)))
 (vt_ifn rfl (fun hc4 => vt_iincA rfl h4 (fun hl5 => vt_gotoS rfl (fun m hm => (((W.2 hc1).1 hc4) m hm) _ (fl_lsn (by decide) h0) (fl_lsn (by decide) h1) (fl_lsn (by decide) h3) (fl_lse hl5)))) (fun hc4 => vt_iconst rfl
 (vt_ret rfl ((W.2 hc1).2 hc4))))))))))))))))
theorem vh_GoodsBookModel_type_94_74 {X : Term} {xs : List Int32} {N : Nat} {H : fl_H} {a1 : Int} {a4 : Int} {Q : Option Int → fl_H → Prop} (W : ((fl_w a4 < 0) → Q (some (H 94 13)) H) ∧ (¬ (fl_w a4 < 0) → (0 ≤ fl_w (H 94 13) ∧ fl_w (H 94 13) < 120 → ∀ H2, H2 = fl_up H 104 (fl_w (H 94 13)).toNat (fl_l2i (fl_land (fl_lshr a1 (8 * a4)) 255)) → ∀ H5, H5 = fl_up H2 94 13 ((H2 94 13) + 1) → (∀ m, m < N → hd_GoodsBookModel_type_94_74 (cm_pg X xs) m H5 a1 (a4 + (-1)) Q)))) : hd_GoodsBookModel_type_94_74 (cm_pg X xs) N H a1 a4 Q :=
 fun lv h0 h1 h4 =>
 vt_iload rfl h4
 (vt_ifc rfl (fun hc1 => vt_aload_n rfl h0 rfl
 (vt_getf rfl rfl rfl
 (vt_ret rfl (W.1 hc1)))) (fun hc1 => vt_aload_n rfl h0 rfl
 (vt_getr rfl rfl rfl
 (vt_aload_n rfl h0 rfl
 (vt_getf rfl rfl rfl
 (vt_lload_n rfl h1
 (vt_bipush (v := 8) rfl (by decide)
 (vt_iload rfl h4
 (vt_imul rfl
 (vt_lshr rfl
 (vt_ldc2 (v := 255) rfl (by decide)
 (vt_land rfl
 (vt_l2i rfl
 (vt_iast rfl rfl (fun hf4 => vt_nm (fun H2 e3 => vt_aload_n rfl h0 rfl
 (vt_mv (fun _ _ => rfl)
 (vt_getf rfl rfl rfl
 (vt_iconst rfl
 (vt_iadd rfl
 (vt_putf rfl rfl rfl (vt_nm (fun H5 e6 => vt_iincA rfl h4 (fun hl7 => vt_gotoS rfl (fun m hm => ((((W.2 hc1) hf4 H2 e3) H5 e6) m hm) _ (fl_lsn (by decide) h0) (fl_lsn (by decide) h1) (fl_lse hl7))))))))))))))))))))))))))
theorem ve_GoodsBookModel_type_94 {X : Term} {xs : List Int32} {N : Nat} {H : fl_H} {a1 a3 : Int} {Q : Option Int → fl_H → Prop} (W : ((1 ≤ fl_w a3 ∧ fl_w a3 ≤ 8) → hd_GoodsBookModel_type_94_19 (cm_pg X xs) N H a1 a3 (a3 - 1) Q) ∧ (¬ (1 ≤ fl_w a3 ∧ fl_w a3 ≤ 8) → Q (some (-1)) H)) (ga1 : fl_lr a1) : ck (cm_pg X xs) N cm_m219 [.index 94, fl_l a1, fl_t a3] H Q :=
  vt_iload_n rfl rfl
 (vt_i2l rfl
 (vt_lconst rfl (by decide)
 (vt_ldc2 (v := 8) rfl (by decide)
 (vt_callS rfl rfl (fun _ => rfl) (fun _ _ => vt_sum (sm_in (fl_lrw _) (fl_lrl (by decide) (by decide)) (fl_lrl (by decide) (by decide)))
 (vt_ifn rfl (fun hc1 => vt_iload_n rfl rfl
 (vt_iconst rfl
 (vt_isub rfl
 (vt_istore rfl
 ((W.1 hc1) _ rfl rfl rfl rfl))))) (fun hc1 => vt_iconst rfl
 (vt_ret rfl (W.2 hc1)))))))))
theorem ve_GoodsBookModel_set_94 {X : Term} {xs : List Int32} {N : Nat} {H : fl_H} {a1 a2 : Int} {Q : Option Int → fl_H → Prop} (W : ((0 ≤ fl_w a1 ∧ fl_w a1 ≤ 2) → (fl_w a1 = 0 → ((0 ≤ fl_w a2 ∧ fl_w a2 ≤ 99) → (0 ≤ fl_w (4 + a1) ∧ fl_w (4 + a1) < 152 → (0 ≤ fl_w (4 + a1) ∧ fl_w (4 + a1) < 152 → ∀ H5, H5 = fl_up H 95 (fl_w (4 + a1)).toNat a2 → Q (some (H 95 (fl_w (4 + a1)).toNat)) H5))) ∧ (¬ (0 ≤ fl_w a2 ∧ fl_w a2 ≤ 99) → Q (some (-1)) H)) ∧ (¬ fl_w a1 = 0 → ((0 ≤ fl_w a2 ∧ fl_w a2 ≤ 999) → (0 ≤ fl_w (4 + a1) ∧ fl_w (4 + a1) < 152 → (0 ≤ fl_w (4 + a1) ∧ fl_w (4 + a1) < 152 → ∀ H10, H10 = fl_up H 95 (fl_w (4 + a1)).toNat a2 → Q (some (H 95 (fl_w (4 + a1)).toNat)) H10))) ∧ (¬ (0 ≤ fl_w a2 ∧ fl_w a2 ≤ 999) → Q (some (-1)) H))) ∧ (¬ (0 ≤ fl_w a1 ∧ fl_w a1 ≤ 2) → Q (some (-1)) H))  : ck (cm_pg X xs) N cm_m166 [.index 94, fl_t a1, fl_t a2] H Q :=
  vt_iload_n rfl rfl
 (vt_i2l rfl
 (vt_lconst rfl (by decide)
 (vt_ldc2 (v := 2) rfl (by decide)
 (vt_callS rfl rfl (fun _ => rfl) (fun _ _ => vt_sum (sm_in (fl_lrw _) (fl_lrl (by decide) (by decide)) (fl_lrl (by decide) (by decide)))
 (vt_ifb rfl (fun hc1 => vt_iload_n rfl rfl
 (vt_i2l rfl
 (vt_lconst rfl (by decide)
 (vt_iload_n rfl rfl
 (vt_ifcN rfl (fun hc2 => vt_ldc2 (v := 999) rfl (by decide)
 (vt_callS rfl rfl (fun _ => rfl) (fun _ _ => vt_sum (sm_in (fl_lrw _) (fl_lrl (by decide) (by decide)) (fl_lrl (by decide) (by decide)))
 (vt_ifn rfl (fun hc8 => vt_aload_n rfl rfl rfl
 (vt_getr rfl rfl rfl
 (vt_iconst rfl
 (vt_iload_n rfl rfl
 (vt_iadd rfl
 (vt_iald rfl rfl (fun hf9 => vt_istore_n rfl
 (vt_aload_n rfl rfl rfl
 (vt_getr rfl rfl rfl
 (vt_iconst rfl
 (vt_iload_n rfl rfl
 (vt_iadd rfl
 (vt_iload_n rfl rfl
 (vt_iast rfl rfl (fun hf12 => vt_nm (fun H10 e11 => vt_iload_n rfl rfl
 (vt_ret rfl (((((W.1 hc1).2 hc2).1 hc8) hf9) hf12 H10 e11)))))))))))))))))) (fun hc8 => vt_iconst rfl
 (vt_ret rfl (((W.1 hc1).2 hc2).2 hc8))))))) (fun hc2 => vt_ldc2 (v := 99) rfl (by decide)
 (vt_goto rfl
 (vt_callS rfl rfl (fun _ => rfl) (fun _ _ => vt_sum (sm_in (fl_lrw _) (fl_lrl (by decide) (by decide)) (fl_lrl (by decide) (by decide)))
 (vt_ifn rfl (fun hc3 => vt_aload_n rfl rfl rfl
 (vt_getr rfl rfl rfl
 (vt_iconst rfl
 (vt_iload_n rfl rfl
 (vt_iadd rfl
 (vt_iald rfl rfl (fun hf4 => vt_istore_n rfl
 (vt_aload_n rfl rfl rfl
 (vt_getr rfl rfl rfl
 (vt_iconst rfl
 (vt_iload_n rfl rfl
 (vt_iadd rfl
 (vt_iload_n rfl rfl
 (vt_iast rfl rfl (fun hf7 => vt_nm (fun H5 e6 => vt_iload_n rfl rfl
 (vt_ret rfl (((((W.1 hc1).1 hc2).1 hc3) hf4) hf7 H5 e6)))))))))))))))))) (fun hc3 => vt_iconst rfl
 (vt_ret rfl (((W.1 hc1).1 hc2).2 hc3))))))))))))) (fun hc1 => vt_iconst rfl
 (vt_ret rfl (W.2 hc1)))))))))
theorem ve_GoodsBookModel_extra_94 {X : Term} {xs : List Int32} {N : Nat} {H : fl_H} {a1 a2 : Int} {Q : Option Int → fl_H → Prop} (W : ((0 ≤ fl_w a1 ∧ fl_w a1 ≤ fl_w ((H 95 2) - 1)) → (((-99) ≤ fl_w a2 ∧ fl_w a2 ≤ 99) → (0 ≤ fl_w (68 + (4 * a1)) ∧ fl_w (68 + (4 * a1)) < 152 → ((fl_w (H 95 (fl_w (68 + (4 * a1))).toNat) < 3) → (0 ≤ fl_w ((68 + (4 * a1)) + 3) ∧ fl_w ((68 + (4 * a1)) + 3) < 152 → (0 ≤ fl_w ((68 + (4 * a1)) + 3) ∧ fl_w ((68 + (4 * a1)) + 3) < 152 → ∀ H6, H6 = fl_up H 95 (fl_w ((68 + (4 * a1)) + 3)).toNat a2 → Q (some (H 95 (fl_w ((68 + (4 * a1)) + 3)).toNat)) H6))) ∧ (¬ (fl_w (H 95 (fl_w (68 + (4 * a1))).toNat) < 3) → Q (some (-1000000012)) H))) ∧ (¬ ((-99) ≤ fl_w a2 ∧ fl_w a2 ≤ 99) → Q (some (-1000000001)) H)) ∧ (¬ (0 ≤ fl_w a1 ∧ fl_w a1 ≤ fl_w ((H 95 2) - 1)) → Q (some (-1000000001)) H))  : ck (cm_pg X xs) N cm_m165 [.index 94, fl_t a1, fl_t a2] H Q :=
  vt_iload_n rfl rfl
 (vt_i2l rfl
 (vt_lconst rfl (by decide)
 (vt_aload_n rfl rfl rfl
 (vt_getr rfl rfl rfl
 (vt_iconst rfl
 (vt_ialdN 2 rfl rfl rfl
 (vt_iconst rfl
 (vt_isub rfl
 (vt_i2l rfl
 (vt_callS rfl rfl (fun _ => rfl) (fun _ _ => vt_sum (sm_in (fl_lrw _) (fl_lrl (by decide) (by decide)) (fl_lrw _))
 (vt_ifb rfl (fun hc1 => vt_iload_n rfl rfl
 (vt_i2l rfl
 (vt_ldc2 (v := (-99)) rfl (by decide)
 (vt_ldc2 (v := 99) rfl (by decide)
 (vt_callS rfl rfl (fun _ => rfl) (fun _ _ => vt_sum (sm_in (fl_lrw _) (fl_lrl (by decide) (by decide)) (fl_lrl (by decide) (by decide)))
 (vt_ifn rfl (fun hc2 => vt_bipush (v := 68) rfl (by decide)
 (vt_iconst rfl
 (vt_iload_n rfl rfl
 (vt_imul rfl
 (vt_iadd rfl
 (vt_istore_n rfl
 (vt_aload_n rfl rfl rfl
 (vt_getr rfl rfl rfl
 (vt_iload_n rfl rfl
 (vt_iald rfl rfl (fun hf3 => vt_iconst rfl
 (vt_icmp rfl (fun hc4 => vt_aload_n rfl rfl rfl
 (vt_getr rfl rfl rfl
 (vt_iload_n rfl rfl
 (vt_iconst rfl
 (vt_iadd rfl
 (vt_iald rfl rfl (fun hf5 => vt_istore rfl
 (vt_aload_n rfl rfl rfl
 (vt_getr rfl rfl rfl
 (vt_iload_n rfl rfl
 (vt_iconst rfl
 (vt_iadd rfl
 (vt_iload_n rfl rfl
 (vt_iast rfl rfl (fun hf8 => vt_nm (fun H6 e7 => vt_iload rfl rfl
 (vt_ret rfl ((((((W.1 hc1).1 hc2) hf3).1 hc4) hf5) hf8 H6 e7)))))))))))))))))) (fun hc4 => vt_ldc (v := (-1000000012)) rfl (by decide)
 (vt_ret rfl ((((W.1 hc1).1 hc2) hf3).2 hc4))))))))))))))) (fun hc2 => vt_ldc (v := (-1000000001)) rfl (by decide)
 (vt_ret rfl ((W.1 hc1).2 hc2)))))))))) (fun hc1 => vt_ldc (v := (-1000000001)) rfl (by decide)
 (vt_ret rfl (W.2 hc1)))))))))))))))
theorem ve_GoodsBookModel_bond_94 {X : Term} {xs : List Int32} {N : Nat} {H : fl_H} {a1 a2 a3 a4 : Int} {Q : Option Int → fl_H → Prop} (W : ((0 ≤ fl_w a1 ∧ fl_w a1 ≤ 5) → ∀ m, m < N → ck (cm_pg X xs) m cm_m149 [.index 94, fl_t a2] H (fun r H2 => ∃ x4, r = some x4 ∧ (((fl_w x4 = 0) → Q (some (-1)) H2) ∧ (¬ (fl_w x4 = 0) → ∀ m, m < N → ck (cm_pg X xs) m cm_m149 [.index 94, fl_t a3] H2 (fun r H6 => ∃ x8, r = some x8 ∧ (((fl_w x8 = 0) → Q (some (-1)) H6) ∧ (¬ (fl_w x8 = 0) → ((fl_w a2 = fl_w a3) → Q (some (-1)) H6) ∧ (¬ (fl_w a2 = fl_w a3) → (((-99) ≤ fl_w a4 ∧ fl_w a4 ≤ 99) → ((fl_w a1 < 3) → (fl_w (H6 95 2) = 12 → Q (some (-3)) H6) ∧ (¬ fl_w (H6 95 2) = 12 → ∀ m, m < N → ck (cm_pg X xs) m cm_m163 [.index 94, fl_t a1, fl_t a2, fl_t a3, fl_t a4] H6 (fun r H14 => r = none ∧ (Q (some ((H14 95 2) - 1)) H14)))) ∧ (¬ (fl_w a1 < 3) → ((fl_w a4 = 0) → (fl_w (H6 95 2) = 12 → Q (some (-3)) H6) ∧ (¬ fl_w (H6 95 2) = 12 → ∀ m, m < N → ck (cm_pg X xs) m cm_m163 [.index 94, fl_t a1, fl_t a2, fl_t a3, fl_t a4] H6 (fun r H18 => r = none ∧ (Q (some ((H18 95 2) - 1)) H18)))) ∧ (¬ (fl_w a4 = 0) → Q (some (-1)) H6))) ∧ (¬ ((-99) ≤ fl_w a4 ∧ fl_w a4 ≤ 99) → Q (some (-1)) H6))))))))) ∧ (¬ (0 ≤ fl_w a1 ∧ fl_w a1 ≤ 5) → Q (some (-1)) H))  : ck (cm_pg X xs) N cm_m164 [.index 94, fl_t a1, fl_t a2, fl_t a3, fl_t a4] H Q :=
  vt_iload_n rfl rfl
 (vt_i2l rfl
 (vt_lconst rfl (by decide)
 (vt_ldc2 (v := 5) rfl (by decide)
 (vt_callS rfl rfl (fun _ => rfl) (fun _ _ => vt_sum (sm_in (fl_lrw _) (fl_lrl (by decide) (by decide)) (fl_lrl (by decide) (by decide)))
 (vt_ifb rfl (fun hc1 => vt_aload_n rfl rfl rfl
 (vt_iload_n rfl rfl
 (vt_callV rfl rfl (fun _ => rfl) (fun m hm => vt_int ((W.1 hc1) m hm) (fun x4 H2 w3 => vt_ifc rfl (fun hc5 => vt_iconst rfl
 (vt_ret rfl (w3.1 hc5))) (fun hc5 => vt_aload_n rfl rfl rfl
 (vt_iload_n rfl rfl
 (vt_callV rfl rfl (fun _ => rfl) (fun m hm => vt_int ((w3.2 hc5) m hm) (fun x8 H6 w7 => vt_ifc rfl (fun hc9 => vt_iconst rfl
 (vt_ret rfl (w7.1 hc9))) (fun hc9 => vt_iload_n rfl rfl
 (vt_iload_n rfl rfl
 (vt_icmp rfl (fun hc10 => vt_iconst rfl
 (vt_ret rfl ((w7.2 hc9).1 hc10))) (fun hc10 => vt_iload rfl rfl
 (vt_i2l rfl
 (vt_ldc2 (v := (-99)) rfl (by decide)
 (vt_ldc2 (v := 99) rfl (by decide)
 (vt_callS rfl rfl (fun _ => rfl) (fun _ _ => vt_sum (sm_in (fl_lrw _) (fl_lrl (by decide) (by decide)) (fl_lrl (by decide) (by decide)))
 (vt_ifb rfl (fun hc11 => vt_iload_n rfl rfl
 (vt_iconst rfl
 (vt_icmp rfl (fun hc12 => vt_aload_n rfl rfl rfl
 (vt_getr rfl rfl rfl
 (vt_iconst rfl
 (vt_ialdN 2 rfl rfl rfl
 (vt_bipush (v := 12) rfl (by decide)
 (vt_icmpN rfl (fun hc13 => vt_aload_n rfl rfl rfl
 (vt_iload_n rfl rfl
 (vt_iload_n rfl rfl
 (vt_iload_n rfl rfl
 (vt_iload rfl rfl
 (vt_callV rfl rfl (fun _ => rfl) (fun m hm => vt_void ((((((w7.2 hc9).2 hc10).1 hc11).1 hc12).2 hc13) m hm) (fun H14 w15 => vt_aload_n rfl rfl rfl
 (vt_getr rfl rfl rfl
 (vt_iconst rfl
 (vt_ialdN 2 rfl rfl rfl
 (vt_iconst rfl
 (vt_isub rfl
 (vt_ret rfl w15)))))))))))))) (fun hc13 => vt_bipush (v := (-3)) rfl (by decide)
 (vt_ret rfl (((((w7.2 hc9).2 hc10).1 hc11).1 hc12).1 hc13))))))))) (fun hc12 => vt_iload rfl rfl
 (vt_ifc rfl (fun hc16 => vt_aload_n rfl rfl rfl
 (vt_getr rfl rfl rfl
 (vt_iconst rfl
 (vt_ialdN 2 rfl rfl rfl
 (vt_bipush (v := 12) rfl (by decide)
 (vt_icmpN rfl (fun hc17 => vt_aload_n rfl rfl rfl
 (vt_iload_n rfl rfl
 (vt_iload_n rfl rfl
 (vt_iload_n rfl rfl
 (vt_iload rfl rfl
 (vt_callV rfl rfl (fun _ => rfl) (fun m hm => vt_void (((((((w7.2 hc9).2 hc10).1 hc11).2 hc12).1 hc16).2 hc17) m hm) (fun H18 w19 => vt_aload_n rfl rfl rfl
 (vt_getr rfl rfl rfl
 (vt_iconst rfl
 (vt_ialdN 2 rfl rfl rfl
 (vt_iconst rfl
 (vt_isub rfl
 (vt_ret rfl w19)))))))))))))) (fun hc17 => vt_bipush (v := (-3)) rfl (by decide)
 (vt_ret rfl ((((((w7.2 hc9).2 hc10).1 hc11).2 hc12).1 hc16).1 hc17))))))))) (fun hc16 => vt_iconst rfl
 (vt_ret rfl (((((w7.2 hc9).2 hc10).1 hc11).2 hc12).2 hc16)))))))) (fun hc11 => vt_iconst rfl
 (vt_ret rfl (((w7.2 hc9).2 hc10).2 hc11))))))))))))))))))))))) (fun hc1 => vt_iconst rfl
 (vt_ret rfl (W.2 hc1)))))))))
theorem ve_GoodsBookModel_told_94 {X : Term} {xs : List Int32} {N : Nat} {H : fl_H} {a1 a2 : Int} {Q : Option Int → fl_H → Prop} (W : ∀ m, m < N → ck (cm_pg X xs) m cm_m149 [.index 94, fl_t a1] H (fun r H1 => ∃ x3, r = some x3 ∧ (((fl_w x3 = 0) → Q (some (-1)) H1) ∧ (¬ (fl_w x3 = 0) → ((0 ≤ fl_w a2 ∧ fl_w a2 ≤ 7) → (0 ≤ fl_w ((14 + (8 * a1)) + a2) ∧ fl_w ((14 + (8 * a1)) + a2) < 152 → Q (some (H1 95 (fl_w ((14 + (8 * a1)) + a2)).toNat)) H1)) ∧ (¬ (0 ≤ fl_w a2 ∧ fl_w a2 ≤ 7) → Q (some (-1)) H1)))))  : ck (cm_pg X xs) N cm_m162 [.index 94, fl_t a1, fl_t a2] H Q :=
  vt_aload_n rfl rfl rfl
 (vt_iload_n rfl rfl
 (vt_callV rfl rfl (fun _ => rfl) (fun m hm => vt_int (W m hm) (fun x3 H1 w2 => vt_ifc rfl (fun hc4 => vt_iconst rfl
 (vt_ret rfl (w2.1 hc4))) (fun hc4 => vt_iload_n rfl rfl
 (vt_i2l rfl
 (vt_lconst rfl (by decide)
 (vt_ldc2 (v := 7) rfl (by decide)
 (vt_callS rfl rfl (fun _ => rfl) (fun _ _ => vt_sum (sm_in (fl_lrw _) (fl_lrl (by decide) (by decide)) (fl_lrl (by decide) (by decide)))
 (vt_ifb rfl (fun hc5 => vt_aload_n rfl rfl rfl
 (vt_getr rfl rfl rfl
 (vt_bipush (v := 14) rfl (by decide)
 (vt_bipush (v := 8) rfl (by decide)
 (vt_iload_n rfl rfl
 (vt_imul rfl
 (vt_iadd rfl
 (vt_iload_n rfl rfl
 (vt_iadd rfl
 (vt_iald rfl rfl (fun hf6 => vt_goto rfl
 (vt_ret rfl (((w2.2 hc4).1 hc5) hf6))))))))))))) (fun hc5 => vt_iconst rfl
 (vt_ret rfl ((w2.2 hc4).2 hc5))))))))))))))
theorem ve_GoodsBookModel_size_94 {X : Term} {xs : List Int32} {N : Nat} {H : fl_H} {a1 a2 a3 a4 a5 : Int} {Q : Option Int → fl_H → Prop} (W : ∀ m, m < N → ck (cm_pg X xs) m cm_m149 [.index 94, fl_t a1] H (fun r H1 => ∃ x3, r = some x3 ∧ (((fl_w x3 = 0) → Q (some (-1)) H1) ∧ (¬ (fl_w x3 = 0) → ((0 ≤ fl_w a2 ∧ fl_w a2 ≤ 1) → ((1 ≤ fl_w a3 ∧ fl_w a3 ≤ 4) → ((1 ≤ fl_w a4 ∧ fl_w a4 ≤ 4) → ((0 ≤ fl_w a5 ∧ fl_w a5 ≤ 999) → ∀ m, m < N → ck (cm_pg X xs) m cm_m160 [.index 94, fl_t a1, fl_t a2, fl_t a3, fl_t a4, fl_t a5] H1 (fun r H9 => ∃ x11, r = some x11 ∧ (Q (some x11) H9))) ∧ (¬ (0 ≤ fl_w a5 ∧ fl_w a5 ≤ 999) → Q (some (-1)) H1)) ∧ (¬ (1 ≤ fl_w a4 ∧ fl_w a4 ≤ 4) → Q (some (-1)) H1)) ∧ (¬ (1 ≤ fl_w a3 ∧ fl_w a3 ≤ 4) → Q (some (-1)) H1)) ∧ (¬ (0 ≤ fl_w a2 ∧ fl_w a2 ≤ 1) → Q (some (-1)) H1)))))  : ck (cm_pg X xs) N cm_m161 [.index 94, fl_t a1, fl_t a2, fl_t a3, fl_t a4, fl_t a5] H Q :=
  vt_aload_n rfl rfl rfl
 (vt_iload_n rfl rfl
 (vt_callV rfl rfl (fun _ => rfl) (fun m hm => vt_int (W m hm) (fun x3 H1 w2 => vt_ifc rfl (fun hc4 => vt_iconst rfl
 (vt_ret rfl (w2.1 hc4))) (fun hc4 => vt_iload_n rfl rfl
 (vt_i2l rfl
 (vt_lconst rfl (by decide)
 (vt_lconst rfl (by decide)
 (vt_callS rfl rfl (fun _ => rfl) (fun _ _ => vt_sum (sm_in (fl_lrw _) (fl_lrl (by decide) (by decide)) (fl_lrl (by decide) (by decide)))
 (vt_ifb rfl (fun hc5 => vt_iload_n rfl rfl
 (vt_i2l rfl
 (vt_lconst rfl (by decide)
 (vt_ldc2 (v := 4) rfl (by decide)
 (vt_callS rfl rfl (fun _ => rfl) (fun _ _ => vt_sum (sm_in (fl_lrw _) (fl_lrl (by decide) (by decide)) (fl_lrl (by decide) (by decide)))
 (vt_ifb rfl (fun hc6 => vt_iload rfl rfl
 (vt_i2l rfl
 (vt_lconst rfl (by decide)
 (vt_ldc2 (v := 4) rfl (by decide)
 (vt_callS rfl rfl (fun _ => rfl) (fun _ _ => vt_sum (sm_in (fl_lrw _) (fl_lrl (by decide) (by decide)) (fl_lrl (by decide) (by decide)))
 (vt_ifb rfl (fun hc7 => vt_iload rfl rfl
 (vt_i2l rfl
 (vt_lconst rfl (by decide)
 (vt_ldc2 (v := 999) rfl (by decide)
 (vt_callS rfl rfl (fun _ => rfl) (fun _ _ => vt_sum (sm_in (fl_lrw _) (fl_lrl (by decide) (by decide)) (fl_lrl (by decide) (by decide)))
 (vt_ifn rfl (fun hc8 => vt_aload_n rfl rfl rfl
 (vt_iload_n rfl rfl
 (vt_iload_n rfl rfl
 (vt_iload_n rfl rfl
 (vt_iload rfl rfl
 (vt_iload rfl rfl
 (vt_callV rfl rfl (fun _ => rfl) (fun m hm => vt_int ((((((w2.2 hc4).1 hc5).1 hc6).1 hc7).1 hc8) m hm) (fun x11 H9 w10 => vt_ret rfl w10))))))))) (fun hc8 => vt_iconst rfl
 (vt_ret rfl (((((w2.2 hc4).1 hc5).1 hc6).1 hc7).2 hc8)))))))))) (fun hc7 => vt_iconst rfl
 (vt_ret rfl ((((w2.2 hc4).1 hc5).1 hc6).2 hc7)))))))))) (fun hc6 => vt_iconst rfl
 (vt_ret rfl (((w2.2 hc4).1 hc5).2 hc6)))))))))) (fun hc5 => vt_iconst rfl
 (vt_ret rfl ((w2.2 hc4).2 hc5))))))))))))))
theorem ve_GoodsBookModel_good_94 {X : Term} {xs : List Int32} {N : Nat} {H : fl_H} {a1 a2 : Int} {Q : Option Int → fl_H → Prop} (W : ((0 ≤ fl_w a1 ∧ fl_w a1 ≤ 3) → ((0 ≤ fl_w a2 ∧ fl_w a2 ≤ 3) → (fl_w (H 95 1) = 6 → Q (some (-3)) H) ∧ (¬ fl_w (H 95 1) = 6 → ∀ m, m < N → ck (cm_pg X xs) m cm_m158 [.index 94, fl_t a1, fl_t a2] H (fun r H4 => r = none ∧ (Q (some ((H4 95 1) - 1)) H4)))) ∧ (¬ (0 ≤ fl_w a2 ∧ fl_w a2 ≤ 3) → Q (some (-1)) H)) ∧ (¬ (0 ≤ fl_w a1 ∧ fl_w a1 ≤ 3) → Q (some (-1)) H))  : ck (cm_pg X xs) N cm_m159 [.index 94, fl_t a1, fl_t a2] H Q :=
  vt_iload_n rfl rfl
 (vt_i2l rfl
 (vt_lconst rfl (by decide)
 (vt_ldc2 (v := 3) rfl (by decide)
 (vt_callS rfl rfl (fun _ => rfl) (fun _ _ => vt_sum (sm_in (fl_lrw _) (fl_lrl (by decide) (by decide)) (fl_lrl (by decide) (by decide)))
 (vt_ifb rfl (fun hc1 => vt_iload_n rfl rfl
 (vt_i2l rfl
 (vt_lconst rfl (by decide)
 (vt_ldc2 (v := 3) rfl (by decide)
 (vt_callS rfl rfl (fun _ => rfl) (fun _ _ => vt_sum (sm_in (fl_lrw _) (fl_lrl (by decide) (by decide)) (fl_lrl (by decide) (by decide)))
 (vt_ifn rfl (fun hc2 => vt_aload_n rfl rfl rfl
 (vt_getr rfl rfl rfl
 (vt_iconst rfl
 (vt_ialdN 1 rfl rfl rfl
 (vt_bipush (v := 6) rfl (by decide)
 (vt_icmpN rfl (fun hc3 => vt_aload_n rfl rfl rfl
 (vt_iload_n rfl rfl
 (vt_iload_n rfl rfl
 (vt_callV rfl rfl (fun _ => rfl) (fun m hm => vt_void ((((W.1 hc1).1 hc2).2 hc3) m hm) (fun H4 w5 => vt_aload_n rfl rfl rfl
 (vt_getr rfl rfl rfl
 (vt_iconst rfl
 (vt_ialdN 1 rfl rfl rfl
 (vt_iconst rfl
 (vt_isub rfl
 (vt_ret rfl w5)))))))))))) (fun hc3 => vt_bipush (v := (-3)) rfl (by decide)
 (vt_ret rfl (((W.1 hc1).1 hc2).1 hc3))))))))) (fun hc2 => vt_iconst rfl
 (vt_ret rfl ((W.1 hc1).2 hc2)))))))))) (fun hc1 => vt_iconst rfl
 (vt_ret rfl (W.2 hc1)))))))))
theorem ve_GoodsBookModel_seen_94 {X : Term} {xs : List Int32} {N : Nat} {H : fl_H} {a1 a2 : Int} {Q : Option Int → fl_H → Prop} (W : ∀ m, m < N → ck (cm_pg X xs) m cm_m148 [.index 94, fl_t a1] H (fun r H1 => ∃ x3, r = some x3 ∧ (((fl_w x3 = 0) → Q (some (-1)) H1) ∧ (¬ (fl_w x3 = 0) → ((0 ≤ fl_w a2 ∧ fl_w a2 ≤ 60) → (0 ≤ fl_w (10 + a1) ∧ fl_w (10 + a1) < 152 → (0 ≤ fl_w (10 + a1) ∧ fl_w (10 + a1) < 152 → ∀ H7, H7 = fl_up H1 95 (fl_w (10 + a1)).toNat a2 → Q (some (H1 95 (fl_w (10 + a1)).toNat)) H7))) ∧ (¬ (0 ≤ fl_w a2 ∧ fl_w a2 ≤ 60) → Q (some (-1)) H1)))))  : ck (cm_pg X xs) N cm_m157 [.index 94, fl_t a1, fl_t a2] H Q :=
  vt_aload_n rfl rfl rfl
 (vt_iload_n rfl rfl
 (vt_callV rfl rfl (fun _ => rfl) (fun m hm => vt_int (W m hm) (fun x3 H1 w2 => vt_ifc rfl (fun hc4 => vt_iconst rfl
 (vt_ret rfl (w2.1 hc4))) (fun hc4 => vt_iload_n rfl rfl
 (vt_i2l rfl
 (vt_lconst rfl (by decide)
 (vt_ldc2 (v := 60) rfl (by decide)
 (vt_callS rfl rfl (fun _ => rfl) (fun _ _ => vt_sum (sm_in (fl_lrw _) (fl_lrl (by decide) (by decide)) (fl_lrl (by decide) (by decide)))
 (vt_ifn rfl (fun hc5 => vt_aload_n rfl rfl rfl
 (vt_getr rfl rfl rfl
 (vt_bipush (v := 10) rfl (by decide)
 (vt_iload_n rfl rfl
 (vt_iadd rfl
 (vt_iald rfl rfl (fun hf6 => vt_istore_n rfl
 (vt_aload_n rfl rfl rfl
 (vt_getr rfl rfl rfl
 (vt_bipush (v := 10) rfl (by decide)
 (vt_iload_n rfl rfl
 (vt_iadd rfl
 (vt_iload_n rfl rfl
 (vt_iast rfl rfl (fun hf9 => vt_nm (fun H7 e8 => vt_iload_n rfl rfl
 (vt_ret rfl ((((w2.2 hc4).1 hc5) hf6) hf9 H7 e8)))))))))))))))))) (fun hc5 => vt_iconst rfl
 (vt_ret rfl ((w2.2 hc4).2 hc5))))))))))))))
theorem ve_GoodsBookModel_page_94 {X : Term} {xs : List Int32} {N : Nat} {H : fl_H} {a1 : Int} {Q : Option Int → fl_H → Prop} (W : ((0 ≤ fl_w a1 ∧ fl_w a1 ≤ 60) → (fl_w (H 95 0) = 3 → Q (some (-3)) H) ∧ (¬ fl_w (H 95 0) = 3 → (0 ≤ fl_w (10 + (H 95 0)) ∧ fl_w (10 + (H 95 0)) < 152 → ∀ H3, H3 = fl_up H 95 (fl_w (10 + (H 95 0))).toNat a1 → ∀ H6, H6 = fl_up H3 95 0 ((H3 95 0) + 1) → (Q (some ((H6 95 0) - 1)) H6)))) ∧ (¬ (0 ≤ fl_w a1 ∧ fl_w a1 ≤ 60) → Q (some (-1)) H))  : ck (cm_pg X xs) N cm_m156 [.index 94, fl_t a1] H Q :=
  vt_iload_n rfl rfl
 (vt_i2l rfl
 (vt_lconst rfl (by decide)
 (vt_ldc2 (v := 60) rfl (by decide)
 (vt_callS rfl rfl (fun _ => rfl) (fun _ _ => vt_sum (sm_in (fl_lrw _) (fl_lrl (by decide) (by decide)) (fl_lrl (by decide) (by decide)))
 (vt_ifn rfl (fun hc1 => vt_aload_n rfl rfl rfl
 (vt_getr rfl rfl rfl
 (vt_iconst rfl
 (vt_ialdN 0 rfl rfl rfl
 (vt_iconst rfl
 (vt_icmpN rfl (fun hc2 => vt_aload_n rfl rfl rfl
 (vt_getr rfl rfl rfl
 (vt_bipush (v := 10) rfl (by decide)
 (vt_aload_n rfl rfl rfl
 (vt_getr rfl rfl rfl
 (vt_iconst rfl
 (vt_ialdN 0 rfl rfl rfl
 (vt_iadd rfl
 (vt_iload_n rfl rfl
 (vt_iast rfl rfl (fun hf5 => vt_nm (fun H3 e4 => vt_aload_n rfl rfl rfl
 (vt_getr rfl rfl rfl
 (vt_iconst rfl
 (vt_mv (fun _ _ => rfl)
 (vt_ialdN 0 rfl rfl rfl
 (vt_iconst rfl
 (vt_iadd rfl
 (vt_iastN 0 rfl rfl rfl (vt_nm (fun H6 e7 => vt_aload_n rfl rfl rfl
 (vt_getr rfl rfl rfl
 (vt_iconst rfl
 (vt_ialdN 0 rfl rfl rfl
 (vt_iconst rfl
 (vt_isub rfl
 (vt_ret rfl ((((W.1 hc1).2 hc2) hf5 H3 e4) H6 e7)))))))))))))))))))))))))))) (fun hc2 => vt_bipush (v := (-3)) rfl (by decide)
 (vt_ret rfl ((W.1 hc1).1 hc2))))))))) (fun hc1 => vt_iconst rfl
 (vt_ret rfl (W.2 hc1)))))))))
theorem ve_GoodsBook_item_0 {X : Term} {xs : List Int32} {N : Nat} {H : fl_H} {a1 a2 a3 a4 : Int} {Q : Option Int → fl_H → Prop} (W : ∀ m, m < N → ck (cm_pg X xs) m cm_m70 [.index 60, fl_t a1, fl_t a2, fl_t a3, fl_t 1] H (fun r H1 => ∃ x3, r = some x3 ∧ (((fl_w x3 = 0) → ∀ m, m < N → ck (cm_pg X xs) m cm_m72 [.index 60, fl_t a1, fl_t a3, fl_t a4] H1 (fun r H5 => r = none ∧ (Q (some 1) H5))) ∧ (¬ (fl_w x3 = 0) → Q (some x3) H1))))  : ck (cm_pg X xs) N cm_m134 [.index 0, fl_t a1, fl_t a2, fl_t a3, fl_t a4] H Q :=
  vt_aload_n rfl rfl rfl
 (vt_getr rfl rfl rfl
 (vt_iload_n rfl rfl
 (vt_iload_n rfl rfl
 (vt_iload_n rfl rfl
 (vt_iconst rfl
 (vt_callV rfl rfl (fun _ => rfl) (fun m hm => vt_int (W m hm) (fun x3 H1 w2 => vt_istore rfl
 (vt_iload rfl rfl
 (vt_ifc rfl (fun hc4 => vt_aload_n rfl rfl rfl
 (vt_getr rfl rfl rfl
 (vt_iload_n rfl rfl
 (vt_iload_n rfl rfl
 (vt_iload rfl rfl
 (vt_callV rfl rfl (fun _ => rfl) (fun m hm => vt_void ((w2.1 hc4) m hm) (fun H5 w6 => vt_iconst rfl
 (vt_ret rfl w6))))))))) (fun hc4 => vt_iload rfl rfl
 (vt_ret rfl (w2.2 hc4)))))))))))))
theorem ve_Sheets_write_60 {X : Term} {xs : List Int32} {N : Nat} {H : fl_H} {a1 a2 a3 : Int} {Q : Option Int → fl_H → Prop} (W : (0 ≤ fl_w a1 ∧ fl_w a1 < 4 → (fl_w (H 61 (fl_w a1).toNat) = 0 → (0 ≤ fl_w ((a1 * 16) + a2) ∧ fl_w ((a1 * 16) + a2) < 64 → ∀ H3, H3 = fl_up H 63 (fl_w ((a1 * 16) + a2)).toNat (fl_i2b a3) → Q none H3)) ∧ (fl_w (H 61 (fl_w a1).toNat) = 1 → (0 ≤ fl_w ((a1 * 16) + a2) ∧ fl_w ((a1 * 16) + a2) < 64 → ∀ H7, H7 = fl_up H 63 (fl_w ((a1 * 16) + a2)).toNat (fl_i2s a3) → Q none H7)) ∧ (¬ fl_w (H 61 (fl_w a1).toNat) = 0 ∧ ¬ fl_w (H 61 (fl_w a1).toNat) = 1 → (0 ≤ fl_w ((a1 * 16) + a2) ∧ fl_w ((a1 * 16) + a2) < 64 → ∀ H12, H12 = fl_up H 63 (fl_w ((a1 * 16) + a2)).toNat a3 → Q none H12))))  : ck (cm_pg X xs) N cm_m72 [.index 60, fl_t a1, fl_t a2, fl_t a3] H Q :=
  vt_iload_n rfl rfl
 (vt_bipush (v := 16) rfl (by decide)
 (vt_imul rfl
 (vt_iload_n rfl rfl
 (vt_iadd rfl
 (vt_istore rfl
 (vt_aload_n rfl rfl rfl
 (vt_getr rfl rfl rfl
 (vt_iload_n rfl rfl
 (vt_iald rfl rfl (fun hf1 => if hs2 : fl_w (H 61 (fl_w a1).toNat) = 0 then vt_lsw (t := 40) rfl (by rw [hs2]; rfl) (vt_aload_n rfl rfl rfl
 (vt_getr rfl rfl rfl
 (vt_iload rfl rfl
 (vt_iload_n rfl rfl
 (vt_i2b rfl
 (vt_iast rfl rfl (fun hf5 => vt_nm (fun H3 e4 => vt_goto rfl
 (vt_retv rfl (((W hf1).1 hs2) hf5 H3 e4)))))))))) else if hs6 : fl_w (H 61 (fl_w a1).toNat) = 1 then vt_lsw (t := 52) rfl (by rw [hs6]; rfl) (vt_aload_n rfl rfl rfl
 (vt_getr rfl rfl rfl
 (vt_iload rfl rfl
 (vt_iload_n rfl rfl
 (vt_i2s rfl
 (vt_iast rfl rfl (fun hf9 => vt_nm (fun H7 e8 => vt_goto rfl
 (vt_retv rfl (((W hf1).2.1 hs6) hf9 H7 e8)))))))))) else vt_lsw (t := 64) rfl (by simp only [Array.toList, cm_find]; simp [*]) (vt_aload_n rfl rfl rfl
 (vt_getr rfl rfl rfl
 (vt_iload rfl rfl
 (vt_iload_n rfl rfl
 (vt_iast rfl rfl (fun hf14 => vt_nm (fun H12 e13 => vt_retv rfl (((W hf1).2.2 ⟨by assumption, by assumption⟩) hf14 H12 e13))))))))))))))))))
theorem ve_Sheets_refusal_60 {X : Term} {xs : List Int32} {N : Nat} {H : fl_H} {a1 a2 a3 a4 : Int} {Q : Option Int → fl_H → Prop} (W : ∀ m, m < N → ck (cm_pg X xs) m cm_m73 [fl_t a1, fl_t a2] H (fun r H1 => ∃ x3, r = some x3 ∧ ((fl_w x3 = 0 → Q (some (-1)) H1) ∧ (¬ fl_w x3 = 0 → (0 ≤ fl_w a1 ∧ fl_w a1 < 4 → (fl_w (H1 61 (fl_w a1).toNat) = (-1) → Q (some (-11)) H1) ∧ (¬ fl_w (H1 61 (fl_w a1).toNat) = (-1) → (0 ≤ fl_w a1 ∧ fl_w a1 < 4 → ((fl_w (H1 61 (fl_w a1).toNat) = fl_w a2) → ((fl_w a4 = 0) → Q (some 0) H1) ∧ (¬ (fl_w a4 = 0) → (0 ≤ fl_w a1 ∧ fl_w a1 < 4 → ((fl_w 0 ≤ fl_w a3 ∧ fl_w a3 ≤ fl_w ((H1 62 (fl_w a1).toNat) - a4)) → Q (some 0) H1) ∧ (¬ (fl_w 0 ≤ fl_w a3 ∧ fl_w a3 ≤ fl_w ((H1 62 (fl_w a1).toNat) - a4)) → Q (some (-13)) H1)))) ∧ (¬ (fl_w (H1 61 (fl_w a1).toNat) = fl_w a2) → Q (some (-12)) H1))))))))  : ck (cm_pg X xs) N cm_m70 [.index 60, fl_t a1, fl_t a2, fl_t a3, fl_t a4] H Q :=
  vt_iload_n rfl rfl
 (vt_iload_n rfl rfl
 (vt_callS rfl rfl (fun _ => rfl) (fun m hm => vt_int (W m hm) (fun x3 H1 w2 => vt_ifcN rfl (fun hc4 => vt_aload_n rfl rfl rfl
 (vt_getr rfl rfl rfl
 (vt_iload_n rfl rfl
 (vt_iald rfl rfl (fun hf5 => vt_iconst rfl
 (vt_icmpN rfl (fun hc6 => vt_aload_n rfl rfl rfl
 (vt_getr rfl rfl rfl
 (vt_iload_n rfl rfl
 (vt_iald rfl rfl (fun hf7 => vt_iload_n rfl rfl
 (vt_icmp rfl (fun hc8 => vt_iload rfl rfl
 (vt_ifc rfl (fun hc9 => vt_iconst rfl
 (vt_goto rfl
 (vt_ret rfl ((((((w2.2 hc4) hf5).2 hc6) hf7).1 hc8).1 hc9)))) (fun hc9 => vt_iload_n rfl rfl
 (vt_iconst rfl
 (vt_aload_n rfl rfl rfl
 (vt_getr rfl rfl rfl
 (vt_iload_n rfl rfl
 (vt_iald rfl rfl (fun hf10 => vt_iload rfl rfl
 (vt_isub rfl
 (vt_callS rfl rfl (fun _ => rfl) (fun _ _ => vt_sum (sm_within)
 (vt_ifb rfl (fun hc11 => vt_iconst rfl
 (vt_goto rfl
 (vt_ret rfl ((((((((w2.2 hc4) hf5).2 hc6) hf7).1 hc8).2 hc9) hf10).1 hc11)))) (fun hc11 => vt_bipush (v := (-13)) rfl (by decide)
 (vt_ret rfl ((((((((w2.2 hc4) hf5).2 hc6) hf7).1 hc8).2 hc9) hf10).2 hc11)))))))))))))))) (fun hc8 => vt_bipush (v := (-12)) rfl (by decide)
 (vt_ret rfl (((((w2.2 hc4) hf5).2 hc6) hf7).2 hc8))))))))) (fun hc6 => vt_bipush (v := (-11)) rfl (by decide)
 (vt_ret rfl (((w2.2 hc4) hf5).1 hc6))))))))) (fun hc4 => vt_iconst rfl
 (vt_ret rfl (w2.1 hc4)))))))
theorem ve_Sheets_isNamed {X : Term} {xs : List Int32} {N : Nat} {H : fl_H} {a0 a1 : Int} {Q : Option Int → fl_H → Prop} (W : ((fl_w 0 ≤ fl_w a0 ∧ fl_w a0 ≤ fl_w 3) → ((fl_w 0 ≤ fl_w a1 ∧ fl_w a1 ≤ fl_w 2) → Q (some 1) H) ∧ (¬ (fl_w 0 ≤ fl_w a1 ∧ fl_w a1 ≤ fl_w 2) → Q (some 0) H)) ∧ (¬ (fl_w 0 ≤ fl_w a0 ∧ fl_w a0 ≤ fl_w 3) → Q (some 0) H))  : ck (cm_pg X xs) N cm_m73 [fl_t a0, fl_t a1] H Q :=
  vt_iload_n rfl rfl
 (vt_iconst rfl
 (vt_iconst rfl
 (vt_callS rfl rfl (fun _ => rfl) (fun _ _ => vt_sum (sm_within)
 (vt_ifb rfl (fun hc1 => vt_iload_n rfl rfl
 (vt_iconst rfl
 (vt_iconst rfl
 (vt_callS rfl rfl (fun _ => rfl) (fun _ _ => vt_sum (sm_within)
 (vt_ifb rfl (fun hc2 => vt_iconst rfl
 (vt_goto rfl
 (vt_ret rfl ((W.1 hc1).1 hc2)))) (fun hc2 => vt_iconst rfl
 (vt_ret rfl ((W.1 hc1).2 hc2))))))))) (fun hc1 => vt_iconst rfl
 (vt_ret rfl (W.2 hc1))))))))
theorem ve_GoodsBook_drop_0 {X : Term} {xs : List Int32} {N : Nat} {H : fl_H} {a1 : Int} {Q : Option Int → fl_H → Prop} (W : ∀ m, m < N → ck (cm_pg X xs) m cm_m69 [.index 60, fl_t a1] H (fun r H1 => ∃ x3, r = some x3 ∧ (Q (some x3) H1)))  : ck (cm_pg X xs) N cm_m133 [.index 0, fl_t a1] H Q :=
  vt_aload_n rfl rfl rfl
 (vt_getr rfl rfl rfl
 (vt_iload_n rfl rfl
 (vt_callV rfl rfl (fun _ => rfl) (fun m hm => vt_int (W m hm) (fun x3 H1 w2 => vt_ret rfl w2)))))
end
