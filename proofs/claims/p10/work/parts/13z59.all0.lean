noncomputable section
/-! L3: runs of methods between cuts. -/
theorem ve_GoodsBookModel_item_94 {X : Term} {xs : List Int32} {N : Nat} {H : fl_H} {a1 a2 a3 a4 : Int} {Q : Option Int → fl_H → Prop} (W : ∀ m, m < N → ck (cm_pg X xs) m cm_m235 [fl_t a1, fl_t a2] H (fun r H1 => ∃ x3, r = some x3 ∧ ((fl_w x3 = 0 → Q (some (-1)) H1) ∧ (¬ fl_w x3 = 0 → ∀ m, m < N → ck (cm_pg X xs) m cm_m238 [.index 94, fl_t a1, fl_t a2, fl_t a3, fl_t 1] H1 (fun r H5 => ∃ x7, r = some x7 ∧ (((0 ≤ fl_w x7) → (fl_w a2 = 0 → (0 ≤ fl_w ((16 * a1) + a3) ∧ fl_w ((16 * a1) + a3) < 64 → ∀ H10, H10 = fl_up H5 109 (fl_w ((16 * a1) + a3)).toNat (fl_shr (fl_shl a4 24) 24) → Q (some 1) H10)) ∧ (¬ fl_w a2 = 0 → (fl_w a2 = 1 → (0 ≤ fl_w ((16 * a1) + a3) ∧ fl_w ((16 * a1) + a3) < 64 → ∀ H14, H14 = fl_up H5 109 (fl_w ((16 * a1) + a3)).toNat (fl_shr (fl_shl a4 16) 16) → Q (some 1) H14)) ∧ (¬ fl_w a2 = 1 → (0 ≤ fl_w ((16 * a1) + a3) ∧ fl_w ((16 * a1) + a3) < 64 → ∀ H17, H17 = fl_up H5 109 (fl_w ((16 * a1) + a3)).toNat a4 → Q (some 1) H17)))) ∧ (¬ (0 ≤ fl_w x7) → Q (some x7) H5)))))))  : ck (cm_pg X xs) N cm_m239 [.index 94, fl_t a1, fl_t a2, fl_t a3, fl_t a4] H Q :=
  vt_iload_n rfl rfl
 (vt_iload_n rfl rfl
 (vt_callS rfl rfl (fun _ => rfl) (fun m hm => vt_int (W m hm) (fun x3 H1 w2 => vt_ifcN rfl (fun hc4 => vt_aload_n rfl rfl rfl
 (vt_iload_n rfl rfl
 (vt_iload_n rfl rfl
 (vt_iload_n rfl rfl
 (vt_iconst rfl
 (vt_callV rfl rfl (fun _ => rfl) (fun m hm => vt_int ((w2.2 hc4) m hm) (fun x7 H5 w6 => vt_istore rfl
 (vt_iload rfl rfl
 (vt_ifc rfl (fun hc8 => vt_aload_n rfl rfl rfl
 (vt_getr rfl rfl rfl
 (vt_bipush (v := 16) rfl (by decide)
 (vt_iload_n rfl rfl
 (vt_imul rfl
 (vt_iload_n rfl rfl
 (vt_iadd rfl
 (vt_iload_n rfl rfl
 (vt_ifcN rfl (fun hc9 => vt_iload_n rfl rfl
 (vt_iconst rfl
 (vt_icmpN rfl (fun hc13 => vt_iload rfl rfl
 (vt_iast rfl rfl (fun hf19 => vt_nm (fun H17 e18 => vt_iconst rfl
 (vt_ret rfl ((((w6.1 hc8).2 hc9).2 hc13) hf19 H17 e18)))))) (fun hc13 => vt_iload rfl rfl
 (vt_bipush (v := 16) rfl (by decide)
 (vt_ishl rfl
 (vt_bipush (v := 16) rfl (by decide)
 (vt_ishr rfl
 (vt_goto rfl
 (vt_iast rfl rfl (fun hf16 => vt_nm (fun H14 e15 => vt_iconst rfl
 (vt_ret rfl ((((w6.1 hc8).2 hc9).1 hc13) hf16 H14 e15)))))))))))))) (fun hc9 => vt_iload rfl rfl
 (vt_bipush (v := 24) rfl (by decide)
 (vt_ishl rfl
 (vt_bipush (v := 24) rfl (by decide)
 (vt_ishr rfl
 (vt_goto rfl
 (vt_iast rfl rfl (fun hf12 => vt_nm (fun H10 e11 => vt_iconst rfl
 (vt_ret rfl (((w6.1 hc8).1 hc9) hf12 H10 e11)))))))))))))))))))) (fun hc8 => vt_iload rfl rfl
 (vt_ret rfl (w6.2 hc8))))))))))))) (fun hc4 => vt_iconst rfl
 (vt_ret rfl (w2.1 hc4)))))))
theorem ve_GoodsBookModel_lacksRow_94 {X : Term} {xs : List Int32} {N : Nat} {H : fl_H} {a1 a2 a3 a4 : Int} {Q : Option Int → fl_H → Prop} (W : (0 ≤ fl_w a1 ∧ fl_w a1 < 4 → ((fl_w (H 107 (fl_w a1).toNat) = fl_w a2) → (0 ≤ fl_w a1 ∧ fl_w a1 < 4 → ((0 ≤ fl_w a3 ∧ fl_w a3 ≤ fl_w ((H 108 (fl_w a1).toNat) - a4)) → Q (some 0) H) ∧ (¬ (0 ≤ fl_w a3 ∧ fl_w a3 ≤ fl_w ((H 108 (fl_w a1).toNat) - a4)) → Q (some (-13)) H))) ∧ (¬ (fl_w (H 107 (fl_w a1).toNat) = fl_w a2) → (0 ≤ fl_w a1 ∧ fl_w a1 < 4 → ((0 ≤ fl_w (H 107 (fl_w a1).toNat)) → Q (some (-12)) H) ∧ (¬ (0 ≤ fl_w (H 107 (fl_w a1).toNat)) → Q (some (-11)) H)))))  : ck (cm_pg X xs) N cm_m238 [.index 94, fl_t a1, fl_t a2, fl_t a3, fl_t a4] H Q :=
  vt_aload_n rfl rfl rfl
 (vt_getr rfl rfl rfl
 (vt_iload_n rfl rfl
 (vt_iald rfl rfl (fun hf1 => vt_iload_n rfl rfl
 (vt_icmp rfl (fun hc2 => vt_iload_n rfl rfl
 (vt_i2l rfl
 (vt_lconst rfl (by decide)
 (vt_aload_n rfl rfl rfl
 (vt_getr rfl rfl rfl
 (vt_iload_n rfl rfl
 (vt_iald rfl rfl (fun hf3 => vt_iload rfl rfl
 (vt_isub rfl
 (vt_i2l rfl
 (vt_callS rfl rfl (fun _ => rfl) (fun _ _ => vt_sum (sm_in (fl_lrw _) (fl_lrl (by decide) (by decide)) (fl_lrw _))
 (vt_ifb rfl (fun hc4 => vt_iconst rfl
 (vt_goto rfl
 (vt_ret rfl ((((W hf1).1 hc2) hf3).1 hc4)))) (fun hc4 => vt_bipush (v := (-13)) rfl (by decide)
 (vt_ret rfl ((((W hf1).1 hc2) hf3).2 hc4)))))))))))))))) (fun hc2 => vt_aload_n rfl rfl rfl
 (vt_getr rfl rfl rfl
 (vt_iload_n rfl rfl
 (vt_iald rfl rfl (fun hf5 => vt_ifc rfl (fun hc6 => vt_bipush (v := (-12)) rfl (by decide)
 (vt_ret rfl ((((W hf1).2 hc2) hf5).1 hc6))) (fun hc6 => vt_bipush (v := (-11)) rfl (by decide)
 (vt_goto rfl
 (vt_ret rfl ((((W hf1).2 hc2) hf5).2 hc6))))))))))))))
theorem ve_GoodsBookModel_isSheet {X : Term} {xs : List Int32} {N : Nat} {H : fl_H} {a0 a1 : Int} {Q : Option Int → fl_H → Prop} (W : ((0 ≤ fl_w a0 ∧ fl_w a0 ≤ 3) → ((0 ≤ fl_w a1 ∧ fl_w a1 ≤ 2) → Q (some 1) H) ∧ (¬ (0 ≤ fl_w a1 ∧ fl_w a1 ≤ 2) → Q (some 0) H)) ∧ (¬ (0 ≤ fl_w a0 ∧ fl_w a0 ≤ 3) → Q (some 0) H))  : ck (cm_pg X xs) N cm_m235 [fl_t a0, fl_t a1] H Q :=
  vt_iload_n rfl rfl
 (vt_i2l rfl
 (vt_lconst rfl (by decide)
 (vt_ldc2 (v := 3) rfl (by decide)
 (vt_callS rfl rfl (fun _ => rfl) (fun _ _ => vt_sum (sm_in (fl_lrw _) (fl_lrl (by decide) (by decide)) (fl_lrl (by decide) (by decide)))
 (vt_ifb rfl (fun hc1 => vt_iload_n rfl rfl
 (vt_i2l rfl
 (vt_lconst rfl (by decide)
 (vt_ldc2 (v := 2) rfl (by decide)
 (vt_callS rfl rfl (fun _ => rfl) (fun _ _ => vt_sum (sm_in (fl_lrw _) (fl_lrl (by decide) (by decide)) (fl_lrl (by decide) (by decide)))
 (vt_ifb rfl (fun hc2 => vt_iconst rfl
 (vt_goto rfl
 (vt_ret rfl ((W.1 hc1).1 hc2)))) (fun hc2 => vt_iconst rfl
 (vt_ret rfl ((W.1 hc1).2 hc2)))))))))) (fun hc1 => vt_iconst rfl
 (vt_ret rfl (W.2 hc1)))))))))
theorem ve_GoodsBookModel_drop_94 {X : Term} {xs : List Int32} {N : Nat} {H : fl_H} {a1 : Int} {Q : Option Int → fl_H → Prop} (W : ((0 ≤ fl_w a1 ∧ fl_w a1 ≤ 3) → (0 ≤ fl_w a1 ∧ fl_w a1 < 4 → ((0 ≤ fl_w (H 107 (fl_w a1).toNat)) → (0 ≤ fl_w a1 ∧ fl_w a1 < 4 → ∀ H4, H4 = fl_up H 107 (fl_w a1).toNat (-1) → (0 ≤ fl_w a1 ∧ fl_w a1 < 4 → Q (some (H4 108 (fl_w a1).toNat)) H4))) ∧ (¬ (0 ≤ fl_w (H 107 (fl_w a1).toNat)) → Q (some (-11)) H))) ∧ (¬ (0 ≤ fl_w a1 ∧ fl_w a1 ≤ 3) → Q (some (-1)) H))  : ck (cm_pg X xs) N cm_m237 [.index 94, fl_t a1] H Q :=
  vt_iload_n rfl rfl
 (vt_i2l rfl
 (vt_lconst rfl (by decide)
 (vt_ldc2 (v := 3) rfl (by decide)
 (vt_callS rfl rfl (fun _ => rfl) (fun _ _ => vt_sum (sm_in (fl_lrw _) (fl_lrl (by decide) (by decide)) (fl_lrl (by decide) (by decide)))
 (vt_ifn rfl (fun hc1 => vt_aload_n rfl rfl rfl
 (vt_getr rfl rfl rfl
 (vt_iload_n rfl rfl
 (vt_iald rfl rfl (fun hf2 => vt_ifc rfl (fun hc3 => vt_aload_n rfl rfl rfl
 (vt_getr rfl rfl rfl
 (vt_iload_n rfl rfl
 (vt_iconst rfl
 (vt_iast rfl rfl (fun hf6 => vt_nm (fun H4 e5 => vt_aload_n rfl rfl rfl
 (vt_getr rfl rfl rfl
 (vt_iload_n rfl rfl
 (vt_iald rfl rfl (fun hf7 => vt_ret rfl (((((W.1 hc1) hf2).1 hc3) hf6 H4 e5) hf7)))))))))))) (fun hc3 => vt_bipush (v := (-11)) rfl (by decide)
 (vt_ret rfl (((W.1 hc1) hf2).2 hc3)))))))) (fun hc1 => vt_iconst rfl
 (vt_ret rfl (W.2 hc1)))))))))
def hd_GoodsBookModel_sheet_94_40 (P : cm_G) (N : Nat) (H : fl_H) (a1 : Int) (a3 : Int) (a4 : Int) (Q : Option Int → fl_H → Prop) : Prop := ∀ lv : cm_Lv, cm_nth lv 0 = some (some (.index 94)) → cm_nth lv 1 = some (some (fl_t a1)) → cm_nth lv 3 = some (some (fl_t a3)) → cm_nth lv 4 = some (some (fl_t a4)) → vt P N cm_m236 40 lv [] H Q
theorem vh_GoodsBookModel_sheet_94_40 {X : Term} {xs : List Int32} {N : Nat} {H : fl_H} {a1 : Int} {a3 : Int} {a4 : Int} {Q : Option Int → fl_H → Prop} (W : ((16 ≤ fl_w a4) → Q (some a3) H) ∧ (¬ (16 ≤ fl_w a4) → (0 ≤ fl_w ((16 * a1) + a4) ∧ fl_w ((16 * a1) + a4) < 64 → ∀ H2, H2 = fl_up H 109 (fl_w ((16 * a1) + a4)).toNat 0 → ∀ m, m < N → hd_GoodsBookModel_sheet_94_40 (cm_pg X xs) m H2 a1 a3 (a4 + 1) Q))) : hd_GoodsBookModel_sheet_94_40 (cm_pg X xs) N H a1 a3 a4 Q :=
 fun lv h0 h1 h3 h4 =>
 vt_iload rfl h4
 (vt_bipush (v := 16) rfl (by decide)
 (vt_icmp rfl (fun hc1 => vt_iload_n rfl h3
 (vt_ret rfl (W.1 hc1))) (fun hc1 => vt_aload_n rfl h0 rfl
 (vt_getr rfl rfl rfl
 (vt_bipush (v := 16) rfl (by decide)
 (vt_iload_n rfl h1
 (vt_imul rfl
 (vt_iload rfl h4
 (vt_iadd rfl
 (vt_iconst rfl
 (vt_iast rfl rfl (fun hf4 => vt_nm (fun H2 e3 => vt_iincA rfl h4 (fun hl5 => vt_gotoS rfl (fun m hm => (((W.2 hc1) hf4 H2 e3) m hm) _ (fl_lsn (by decide) h0) (fl_lsn (by decide) h1) (fl_lsn (by decide) h3) (fl_lse hl5))))))))))))))))
theorem ve_GoodsBookModel_sheet_94 {X : Term} {xs : List Int32} {N : Nat} {H : fl_H} {a1 a2 a3 : Int} {Q : Option Int → fl_H → Prop} (W : ∀ m, m < N → ck (cm_pg X xs) m cm_m235 [fl_t a1, fl_t a2] H (fun r H1 => ∃ x3, r = some x3 ∧ (((fl_w x3 = 0) → Q (some (-1)) H1) ∧ (¬ (fl_w x3 = 0) → ((fl_w a3 ≤ 16) → ((0 ≤ fl_w a3) → (0 ≤ fl_w a1 ∧ fl_w a1 < 4 → ∀ H7, H7 = fl_up H1 107 (fl_w a1).toNat a2 → (0 ≤ fl_w a1 ∧ fl_w a1 < 4 → ∀ H10, H10 = fl_up H7 108 (fl_w a1).toNat a3 → hd_GoodsBookModel_sheet_94_40 (cm_pg X xs) N H10 a1 a3 0 Q))) ∧ (¬ (0 ≤ fl_w a3) → Q (some (-14)) H1)) ∧ (¬ (fl_w a3 ≤ 16) → Q (some (-1)) H1)))))  : ck (cm_pg X xs) N cm_m236 [.index 94, fl_t a1, fl_t a2, fl_t a3] H Q :=
  vt_iload_n rfl rfl
 (vt_iload_n rfl rfl
 (vt_callS rfl rfl (fun _ => rfl) (fun m hm => vt_int (W m hm) (fun x3 H1 w2 => vt_ifc rfl (fun hc4 => vt_iconst rfl
 (vt_ret rfl (w2.1 hc4))) (fun hc4 => vt_iload_n rfl rfl
 (vt_bipush (v := 16) rfl (by decide)
 (vt_icmp rfl (fun hc5 => vt_iload_n rfl rfl
 (vt_ifc rfl (fun hc6 => vt_aload_n rfl rfl rfl
 (vt_getr rfl rfl rfl
 (vt_iload_n rfl rfl
 (vt_iload_n rfl rfl
 (vt_iast rfl rfl (fun hf9 => vt_nm (fun H7 e8 => vt_aload_n rfl rfl rfl
 (vt_getr rfl rfl rfl
 (vt_iload_n rfl rfl
 (vt_iload_n rfl rfl
 (vt_iast rfl rfl (fun hf12 => vt_nm (fun H10 e11 => vt_iconst rfl
 (vt_istore rfl
 ((((((w2.2 hc4).1 hc5).1 hc6) hf9 H7 e8) hf12 H10 e11) _ rfl rfl rfl rfl))))))))))))))) (fun hc6 => vt_bipush (v := (-14)) rfl (by decide)
 (vt_ret rfl (((w2.2 hc4).1 hc5).2 hc6))))) (fun hc5 => vt_iconst rfl
 (vt_ret rfl ((w2.2 hc4).2 hc5))))))))))
def hd_GoodsBookModel_restore_94_12 (P : cm_G) (N : Nat) (H : fl_H) (a1 : Int) (Q : Option Int → fl_H → Prop) : Prop := ∀ lv : cm_Lv, cm_nth lv 0 = some (some (.index 94)) → cm_nth lv 1 = some (some (fl_t a1)) → vt P N cm_m234 12 lv [] H Q
theorem vh_GoodsBookModel_restore_94_12 {X : Term} {xs : List Int32} {N : Nat} {H : fl_H} {a1 : Int} {Q : Option Int → fl_H → Prop} (W : ((152 ≤ fl_w a1) → ∀ m, m < N → ck (cm_pg X xs) m cm_m168 [.index 94] H (fun r H2 => r = none ∧ (Q (some 1) H2))) ∧ (¬ (152 ≤ fl_w a1) → (0 ≤ fl_w a1 ∧ fl_w a1 < 152 → (0 ≤ fl_w a1 ∧ fl_w a1 < 152 → ∀ H5, H5 = fl_up H 95 (fl_w a1).toNat (H 106 (fl_w a1).toNat) → ∀ m, m < N → hd_GoodsBookModel_restore_94_12 (cm_pg X xs) m H5 (a1 + 1) Q)))) : hd_GoodsBookModel_restore_94_12 (cm_pg X xs) N H a1 Q :=
 fun lv h0 h1 =>
 vt_iload_n rfl h1
 (vt_sipush (v := 152) rfl (by decide)
 (vt_icmp rfl (fun hc1 => vt_aload_n rfl h0 rfl
 (vt_callV rfl rfl (fun _ => rfl) (fun m hm => vt_void ((W.1 hc1) m hm) (fun H2 w3 => vt_iconst rfl
 (vt_ret rfl w3))))) (fun hc1 => vt_aload_n rfl h0 rfl
 (vt_getr rfl rfl rfl
 (vt_iload_n rfl h1
 (vt_aload_n rfl h0 rfl
 (vt_getr rfl rfl rfl
 (vt_iload_n rfl h1
 (vt_iald rfl rfl (fun hf4 => vt_iast rfl rfl (fun hf7 => vt_nm (fun H5 e6 => vt_iincA rfl h1 (fun hl8 => vt_gotoS rfl (fun m hm => ((((W.2 hc1) hf4) hf7 H5 e6) m hm) _ (fl_lsn (by decide) h0) (fl_lse hl8)))))))))))))))
theorem ve_GoodsBookModel_restore_94 {X : Term} {xs : List Int32} {N : Nat} {H : fl_H} {Q : Option Int → fl_H → Prop} (W : (fl_w (H 94 18) = 0 → Q (some (-4)) H) ∧ (¬ fl_w (H 94 18) = 0 → hd_GoodsBookModel_restore_94_12 (cm_pg X xs) N H 0 Q))  : ck (cm_pg X xs) N cm_m234 [.index 94] H Q :=
  vt_aload_n rfl rfl rfl
 (vt_getf rfl rfl rfl
 (vt_ifcN rfl (fun hc1 => vt_iconst rfl
 (vt_istore_n rfl
 ((W.2 hc1) _ rfl rfl))) (fun hc1 => vt_bipush (v := (-4)) rfl (by decide)
 (vt_ret rfl (W.1 hc1)))))
def hd_GoodsBookModel_forgetFits_94_2 (P : cm_G) (N : Nat) (H : fl_H) (a1 : Int) (Q : Option Int → fl_H → Prop) : Prop := ∀ lv : cm_Lv, cm_nth lv 0 = some (some (.index 94)) → cm_nth lv 1 = some (some (fl_t a1)) → vt P N cm_m168 2 lv [] H Q
theorem vh_GoodsBookModel_forgetFits_94_2 {X : Term} {xs : List Int32} {N : Nat} {H : fl_H} {a1 : Int} {Q : Option Int → fl_H → Prop} (W : ((729 ≤ fl_w a1) → Q none H) ∧ (¬ (729 ≤ fl_w a1) → (0 ≤ fl_w a1 ∧ fl_w a1 < 729 → ∀ H2, H2 = fl_up H 96 (fl_w a1).toNat 0 → ∀ m, m < N → hd_GoodsBookModel_forgetFits_94_2 (cm_pg X xs) m H2 (a1 + 1) Q))) : hd_GoodsBookModel_forgetFits_94_2 (cm_pg X xs) N H a1 Q :=
 fun lv h0 h1 =>
 vt_iload_n rfl h1
 (vt_sipush (v := 729) rfl (by decide)
 (vt_icmp rfl (fun hc1 => vt_retv rfl (W.1 hc1)) (fun hc1 => vt_aload_n rfl h0 rfl
 (vt_getr rfl rfl rfl
 (vt_iload_n rfl h1
 (vt_iconst rfl
 (vt_iast rfl rfl (fun hf4 => vt_nm (fun H2 e3 => vt_iincA rfl h1 (fun hl5 => vt_gotoS rfl (fun m hm => (((W.2 hc1) hf4 H2 e3) m hm) _ (fl_lsn (by decide) h0) (fl_lse hl5))))))))))))
theorem ve_GoodsBookModel_forgetFits_94 {X : Term} {xs : List Int32} {N : Nat} {H : fl_H} {Q : Option Int → fl_H → Prop} (W : hd_GoodsBookModel_forgetFits_94_2 (cm_pg X xs) N H 0 Q)  : ck (cm_pg X xs) N cm_m168 [.index 94] H Q :=
  vt_iconst rfl
 (vt_istore_n rfl
 (W _ rfl rfl))
def hd_GoodsBookModel_image_94_2 (P : cm_G) (N : Nat) (H : fl_H) (a1 : Int) (Q : Option Int → fl_H → Prop) : Prop := ∀ lv : cm_Lv, cm_nth lv 0 = some (some (.index 94)) → cm_nth lv 1 = some (some (fl_t a1)) → vt P N cm_m233 2 lv [] H Q
theorem vh_GoodsBookModel_image_94_2 {X : Term} {xs : List Int32} {N : Nat} {H : fl_H} {a1 : Int} {Q : Option Int → fl_H → Prop} (W : ((152 ≤ fl_w a1) → ∀ H2, H2 = fl_up H 94 18 1 → (Q (some 1) H2)) ∧ (¬ (152 ≤ fl_w a1) → (0 ≤ fl_w a1 ∧ fl_w a1 < 152 → (0 ≤ fl_w a1 ∧ fl_w a1 < 152 → ∀ H5, H5 = fl_up H 106 (fl_w a1).toNat (H 95 (fl_w a1).toNat) → ∀ m, m < N → hd_GoodsBookModel_image_94_2 (cm_pg X xs) m H5 (a1 + 1) Q)))) : hd_GoodsBookModel_image_94_2 (cm_pg X xs) N H a1 Q :=
 fun lv h0 h1 =>
 vt_iload_n rfl h1
 (vt_sipush (v := 152) rfl (by decide)
 (vt_icmp rfl (fun hc1 => vt_aload_n rfl h0 rfl
 (vt_iconst rfl
 (vt_putf rfl rfl rfl (vt_nm (fun H2 e3 => vt_iconst rfl
 (vt_ret rfl ((W.1 hc1) H2 e3))))))) (fun hc1 => vt_aload_n rfl h0 rfl
 (vt_getr rfl rfl rfl
 (vt_iload_n rfl h1
 (vt_aload_n rfl h0 rfl
 (vt_getr rfl rfl rfl
 (vt_iload_n rfl h1
 (vt_iald rfl rfl (fun hf4 => vt_iast rfl rfl (fun hf7 => vt_nm (fun H5 e6 => vt_iincA rfl h1 (fun hl8 => vt_gotoS rfl (fun m hm => ((((W.2 hc1) hf4) hf7 H5 e6) m hm) _ (fl_lsn (by decide) h0) (fl_lse hl8)))))))))))))))
theorem ve_GoodsBookModel_image_94 {X : Term} {xs : List Int32} {N : Nat} {H : fl_H} {Q : Option Int → fl_H → Prop} (W : hd_GoodsBookModel_image_94_2 (cm_pg X xs) N H 0 Q)  : ck (cm_pg X xs) N cm_m233 [.index 94] H Q :=
  vt_iconst rfl
 (vt_istore_n rfl
 (W _ rfl rfl))
def hd_GoodsBookModel_learnt_94_27 (P : cm_G) (N : Nat) (H : fl_H) (a1 : Int) (a2 : Int) (a3 : Int) (a4 : Int) (Q : Option Int → fl_H → Prop) : Prop := ∀ lv : cm_Lv, cm_nth lv 0 = some (some (.index 94)) → cm_nth lv 1 = some (some (fl_t a1)) → cm_nth lv 2 = some (some (fl_t a2)) → cm_nth lv 3 = some (some (fl_t a3)) → cm_nth lv 4 = some (some (fl_t a4)) → vt P N cm_m218 27 lv [] H Q
def hd_GoodsBookModel_learnt_94_90 (P : cm_G) (N : Nat) (H : fl_H) (a1 : Int) (a2 : Int) (a4 : Int) (a5 : Int) (a6 : Int) (a7 : Int) (a8 : Int) (Q : Option Int → fl_H → Prop) : Prop := ∀ lv : cm_Lv, cm_nth lv 0 = some (some (.index 94)) → cm_nth lv 1 = some (some (fl_t a1)) → cm_nth lv 2 = some (some (fl_t a2)) → cm_nth lv 4 = some (some (fl_t a4)) → cm_nth lv 5 = some (some (fl_t a5)) → cm_nth lv 6 = some (some (fl_t a6)) → cm_nth lv 7 = some (some (fl_t a7)) → cm_nth lv 8 = some (some (fl_t a8)) → vt P N cm_m218 90 lv [] H Q
def hd_GoodsBookModel_learnt_94_99 (P : cm_G) (N : Nat) (H : fl_H) (a1 : Int) (a2 : Int) (a4 : Int) (a5 : Int) (a6 : Int) (a7 : Int) (a8 : Int) (a9 : Int) (Q : Option Int → fl_H → Prop) : Prop := ∀ lv : cm_Lv, cm_nth lv 0 = some (some (.index 94)) → cm_nth lv 1 = some (some (fl_t a1)) → cm_nth lv 2 = some (some (fl_t a2)) → cm_nth lv 4 = some (some (fl_t a4)) → cm_nth lv 5 = some (some (fl_t a5)) → cm_nth lv 6 = some (some (fl_t a6)) → cm_nth lv 7 = some (some (fl_t a7)) → cm_nth lv 8 = some (some (fl_t a8)) → cm_nth lv 9 = some (some (fl_t a9)) → vt P N cm_m218 99 lv [] H Q
theorem vh_GoodsBookModel_learnt_94_27 {X : Term} {xs : List Int32} {N : Nat} {H : fl_H} {a1 : Int} {a2 : Int} {a3 : Int} {a4 : Int} {Q : Option Int → fl_H → Prop} (W : ((fl_w (H 95 3) ≤ fl_w a4) → (fl_w a3 = 0 → Q (some (-2)) H) ∧ (¬ fl_w a3 = 0 → hd_GoodsBookModel_learnt_94_90 (cm_pg X xs) N H a1 a2 (-1) 0 0 0 0 Q)) ∧ (¬ (fl_w (H 95 3) ≤ fl_w a4) → (0 ≤ fl_w (116 + (3 * a4)) ∧ fl_w (116 + (3 * a4)) < 152 → (fl_w (H 95 (fl_w (116 + (3 * a4))).toNat) = fl_w a1 → ∀ m, m < N → hd_GoodsBookModel_learnt_94_27 (cm_pg X xs) m H a1 a2 (a3 + 1) (a4 + 1) Q) ∧ (¬ fl_w (H 95 (fl_w (116 + (3 * a4))).toNat) = fl_w a1 → ∀ m, m < N → hd_GoodsBookModel_learnt_94_27 (cm_pg X xs) m H a1 a2 (a3 + 0) (a4 + 1) Q)))) : hd_GoodsBookModel_learnt_94_27 (cm_pg X xs) N H a1 a2 a3 a4 Q :=
 fun lv h0 h1 h2 h3 h4 =>
 vt_iload rfl h4
 (vt_aload_n rfl h0 rfl
 (vt_getr rfl rfl rfl
 (vt_iconst rfl
 (vt_ialdN 3 rfl rfl rfl
 (vt_icmp rfl (fun hc1 => vt_iload_n rfl h3
 (vt_ifcN rfl (fun hc2 => vt_iconst rfl
 (vt_istoreA rfl (fun hl3 => vt_iconst rfl
 (vt_istoreA rfl (fun hl4 => vt_iconst rfl
 (vt_istoreA rfl (fun hl5 => vt_iconst rfl
 (vt_istoreA rfl (fun hl6 => vt_iconst rfl
 (vt_istoreA rfl (fun hl7 => ((W.1 hc1).2 hc2) _ (fl_lsn (by decide) (fl_lsn (by decide) (fl_lsn (by decide) (fl_lsn (by decide) (fl_lsn (by decide) h0))))) (fl_lsn (by decide) (fl_lsn (by decide) (fl_lsn (by decide) (fl_lsn (by decide) (fl_lsn (by decide) h1))))) (fl_lsn (by decide) (fl_lsn (by decide) (fl_lsn (by decide) (fl_lsn (by decide) (fl_lsn (by decide) h2))))) (fl_lsn (by decide) (fl_lsn (by decide) (fl_lsn (by decide) (fl_lsn (by decide) (fl_lse hl3))))) (fl_lsn (by decide) (fl_lsn (by decide) (fl_lsn (by decide) (fl_lse hl4)))) (fl_lsn (by decide) (fl_lsn (by decide) (fl_lse hl5))) (fl_lsn (by decide) (fl_lse hl6)) (fl_lse hl7)))))))))))) (fun hc2 => vt_bipush (v := (-2)) rfl (by decide)
 (vt_ret rfl ((W.1 hc1).1 hc2))))) (fun hc1 => vt_iload_n rfl h3
 (vt_aload_n rfl h0 rfl
 (vt_getr rfl rfl rfl
 (vt_bipush (v := 116) rfl (by decide)
 (vt_iconst rfl
 (vt_iload rfl h4
 (vt_imul rfl
 (vt_iadd rfl
 (vt_iald rfl rfl (fun hf8 => vt_iload_n rfl h1
 (vt_icmpN rfl (fun hc9 => vt_iconst rfl
 (vt_iadd rfl
 (vt_istore_nA rfl (fun hl12 => vt_iincA rfl (fl_lsn (by decide) h4) (fun hl13 => vt_gotoS rfl (fun m hm => ((((W.2 hc1) hf8).2 hc9) m hm) _ (fl_lsn (by decide) (fl_lsn (by decide) h0)) (fl_lsn (by decide) (fl_lsn (by decide) h1)) (fl_lsn (by decide) (fl_lsn (by decide) h2)) (fl_lsn (by decide) (fl_lse hl12)) (fl_lse hl13))))))) (fun hc9 => vt_iconst rfl
 (vt_goto rfl
 (vt_iadd rfl
 (vt_istore_nA rfl (fun hl10 => vt_iincA rfl (fl_lsn (by decide) h4) (fun hl11 => vt_gotoS rfl (fun m hm => ((((W.2 hc1) hf8).1 hc9) m hm) _ (fl_lsn (by decide) (fl_lsn (by decide) h0)) (fl_lsn (by decide) (fl_lsn (by decide) h1)) (fl_lsn (by decide) (fl_lsn (by decide) h2)) (fl_lsn (by decide) (fl_lse hl10)) (fl_lse hl11))))))))))))))))))))))))
theorem vh_GoodsBookModel_learnt_94_90 {X : Term} {xs : List Int32} {N : Nat} {H : fl_H} {a1 : Int} {a2 : Int} {a4 : Int} {a5 : Int} {a6 : Int} {a7 : Int} {a8 : Int} {Q : Option Int → fl_H → Prop} (W : ((3 ≤ fl_w a8) → (fl_w a2 = 0 → Q (some a5) H) ∧ (¬ fl_w a2 = 0 → (fl_w a2 = 1 → Q (some a6) H) ∧ (¬ fl_w a2 = 1 → (fl_w a2 = 2 → Q (some a4) H) ∧ (¬ fl_w a2 = 2 → Q (some a7) H)))) ∧ (¬ (3 ≤ fl_w a8) → hd_GoodsBookModel_learnt_94_99 (cm_pg X xs) N H a1 a2 a4 a5 a6 a7 a8 0 Q)) : hd_GoodsBookModel_learnt_94_90 (cm_pg X xs) N H a1 a2 a4 a5 a6 a7 a8 Q :=
 fun lv h0 h1 h2 h4 h5 h6 h7 h8 =>
 vt_iload rfl h8
 (vt_iconst rfl
 (vt_icmp rfl (fun hc1 => vt_iload_n rfl h2
 (vt_ifcN rfl (fun hc2 => vt_iload_n rfl h2
 (vt_iconst rfl
 (vt_icmpN rfl (fun hc3 => vt_iload_n rfl h2
 (vt_iconst rfl
 (vt_icmpN rfl (fun hc4 => vt_iload rfl h7
 (vt_ret rfl ((((W.1 hc1).2 hc2).2 hc3).2 hc4))) (fun hc4 => vt_iload rfl h4
 (vt_goto rfl
 (vt_ret rfl ((((W.1 hc1).2 hc2).2 hc3).1 hc4))))))) (fun hc3 => vt_iload rfl h6
 (vt_goto rfl
 (vt_ret rfl (((W.1 hc1).2 hc2).1 hc3))))))) (fun hc2 => vt_iload rfl h5
 (vt_goto rfl
 (vt_ret rfl ((W.1 hc1).1 hc2)))))) (fun hc1 => vt_iconst rfl
 (vt_istoreA rfl (fun hl5 => (W.2 hc1) _ (fl_lsn (by decide) h0) (fl_lsn (by decide) h1) (fl_lsn (by decide) h2) (fl_lsn (by decide) h4) (fl_lsn (by decide) h5) (fl_lsn (by decide) h6) (fl_lsn (by decide) h7) (fl_lsn (by decide) h8) (fl_lse hl5))))))
theorem vh_GoodsBookModel_learnt_94_99 {X : Term} {xs : List Int32} {N : Nat} {H : fl_H} {a1 : Int} {a2 : Int} {a4 : Int} {a5 : Int} {a6 : Int} {a7 : Int} {a8 : Int} {a9 : Int} {Q : Option Int → fl_H → Prop} (W : ((999 < fl_w a9) → ∀ m, m < N → hd_GoodsBookModel_learnt_94_90 (cm_pg X xs) m H a1 a2 a4 a5 a6 a7 (a8 + 1) Q) ∧ (¬ (999 < fl_w a9) → ∀ m, m < N → ck (cm_pg X xs) m cm_m217 [.index 94, fl_t a1, fl_t a8, fl_t a9] H (fun r H3 => ∃ x5, r = some x5 ∧ (((fl_w a4 < 0) → (fl_w x5 = fl_w x5 → ∀ m, m < N → hd_GoodsBookModel_learnt_94_99 (cm_pg X xs) m H3 a1 a2 x5 a8 a9 (fl_or 0 (fl_shl 1 a8)) a8 (a9 + 1) Q) ∧ (¬ fl_w x5 = fl_w x5 → ∀ m, m < N → hd_GoodsBookModel_learnt_94_99 (cm_pg X xs) m H3 a1 a2 x5 a8 a9 (fl_or 0 0) a8 (a9 + 1) Q)) ∧ (¬ (fl_w a4 < 0) → ((fl_w a4 ≤ fl_w x5) → (fl_w x5 = fl_w a4 → ∀ m, m < N → hd_GoodsBookModel_learnt_94_99 (cm_pg X xs) m H3 a1 a2 a4 a5 a6 (fl_or a7 (fl_shl 1 a8)) a8 (a9 + 1) Q) ∧ (¬ fl_w x5 = fl_w a4 → ∀ m, m < N → hd_GoodsBookModel_learnt_94_99 (cm_pg X xs) m H3 a1 a2 a4 a5 a6 (fl_or a7 0) a8 (a9 + 1) Q)) ∧ (¬ (fl_w a4 ≤ fl_w x5) → (fl_w x5 = fl_w x5 → ∀ m, m < N → hd_GoodsBookModel_learnt_94_99 (cm_pg X xs) m H3 a1 a2 x5 a8 a9 (fl_or 0 (fl_shl 1 a8)) a8 (a9 + 1) Q) ∧ (¬ fl_w x5 = fl_w x5 → ∀ m, m < N → hd_GoodsBookModel_learnt_94_99 (cm_pg X xs) m H3 a1 a2 x5 a8 a9 (fl_or 0 0) a8 (a9 + 1) Q))))))) : hd_GoodsBookModel_learnt_94_99 (cm_pg X xs) N H a1 a2 a4 a5 a6 a7 a8 a9 Q :=
 fun lv h0 h1 h2 h4 h5 h6 h7 h8 h9 =>
 vt_iload rfl h9
 (vt_sipush (v := 999) rfl (by decide)
 (vt_icmp rfl (fun hc1 => vt_iincA rfl h8 (fun hl2 => vt_gotoS rfl (fun m hm => ((W.1 hc1) m hm) _ (fl_lsn (by decide) h0) (fl_lsn (by decide) h1) (fl_lsn (by decide) h2) (fl_lsn (by decide) h4) (fl_lsn (by decide) h5) (fl_lsn (by decide) h6) (fl_lsn (by decide) h7) (fl_lse hl2)))) (fun hc1 => vt_aload_n rfl h0 rfl
 (vt_iload_n rfl h1
 (vt_iload rfl h8
 (vt_iload rfl h9
 (vt_callV rfl rfl (fun _ => rfl) (fun m hm => vt_int ((W.2 hc1) m hm) (fun x5 H3 w4 => vt_istoreA rfl (fun hl6 => vt_iload rfl (fl_lsn (by decide) h4)
 (vt_ifc rfl (fun hc7 => vt_iload rfl (fl_lse hl6)
 (vt_istoreA rfl (fun hl8 => vt_iload rfl (fl_lsn (by decide) (fl_lsn (by decide) h8))
 (vt_istoreA rfl (fun hl9 => vt_iload rfl (fl_lsn (by decide) (fl_lsn (by decide) (fl_lsn (by decide) h9)))
 (vt_istoreA rfl (fun hl10 => vt_iconst rfl
 (vt_istoreA rfl (fun hl11 => vt_iload rfl (fl_lse hl11)
 (vt_iload rfl (fl_lsn (by decide) (fl_lsn (by decide) (fl_lsn (by decide) (fl_lsn (by decide) (fl_lse hl6)))))
 (vt_iload rfl (fl_lsn (by decide) (fl_lsn (by decide) (fl_lsn (by decide) (fl_lse hl8))))
 (vt_icmpN rfl (fun hc12 => vt_iconst rfl
 (vt_ior rfl
 (vt_istoreA rfl (fun hl15 => vt_iincA rfl (fl_lsn (by decide) (fl_lsn (by decide) (fl_lsn (by decide) (fl_lsn (by decide) (fl_lsn (by decide) (fl_lsn (by decide) h9)))))) (fun hl16 => vt_gotoS rfl (fun m hm => (((w4.1 hc7).2 hc12) m hm) _ (fl_lsn (by decide) (fl_lsn (by decide) (fl_lsn (by decide) (fl_lsn (by decide) (fl_lsn (by decide) (fl_lsn (by decide) (fl_lsn (by decide) h0))))))) (fl_lsn (by decide) (fl_lsn (by decide) (fl_lsn (by decide) (fl_lsn (by decide) (fl_lsn (by decide) (fl_lsn (by decide) (fl_lsn (by decide) h1))))))) (fl_lsn (by decide) (fl_lsn (by decide) (fl_lsn (by decide) (fl_lsn (by decide) (fl_lsn (by decide) (fl_lsn (by decide) (fl_lsn (by decide) h2))))))) (fl_lsn (by decide) (fl_lsn (by decide) (fl_lsn (by decide) (fl_lsn (by decide) (fl_lsn (by decide) (fl_lse hl8)))))) (fl_lsn (by decide) (fl_lsn (by decide) (fl_lsn (by decide) (fl_lsn (by decide) (fl_lse hl9))))) (fl_lsn (by decide) (fl_lsn (by decide) (fl_lsn (by decide) (fl_lse hl10)))) (fl_lsn (by decide) (fl_lse hl15)) (fl_lsn (by decide) (fl_lsn (by decide) (fl_lsn (by decide) (fl_lsn (by decide) (fl_lsn (by decide) (fl_lsn (by decide) (fl_lsn (by decide) h8))))))) (fl_lse hl16))))))) (fun hc12 => vt_iconst rfl
 (vt_iload rfl (fl_lsn (by decide) (fl_lsn (by decide) (fl_lsn (by decide) (fl_lsn (by decide) (fl_lsn (by decide) h8)))))
 (vt_ishl rfl
 (vt_goto rfl
 (vt_ior rfl
 (vt_istoreA rfl (fun hl13 => vt_iincA rfl (fl_lsn (by decide) (fl_lsn (by decide) (fl_lsn (by decide) (fl_lsn (by decide) (fl_lsn (by decide) (fl_lsn (by decide) h9)))))) (fun hl14 => vt_gotoS rfl (fun m hm => (((w4.1 hc7).1 hc12) m hm) _ (fl_lsn (by decide) (fl_lsn (by decide) (fl_lsn (by decide) (fl_lsn (by decide) (fl_lsn (by decide) (fl_lsn (by decide) (fl_lsn (by decide) h0))))))) (fl_lsn (by decide) (fl_lsn (by decide) (fl_lsn (by decide) (fl_lsn (by decide) (fl_lsn (by decide) (fl_lsn (by decide) (fl_lsn (by decide) h1))))))) (fl_lsn (by decide) (fl_lsn (by decide) (fl_lsn (by decide) (fl_lsn (by decide) (fl_lsn (by decide) (fl_lsn (by decide) (fl_lsn (by decide) h2))))))) (fl_lsn (by decide) (fl_lsn (by decide) (fl_lsn (by decide) (fl_lsn (by decide) (fl_lsn (by decide) (fl_lse hl8)))))) (fl_lsn (by decide) (fl_lsn (by decide) (fl_lsn (by decide) (fl_lsn (by decide) (fl_lse hl9))))) (fl_lsn (by decide) (fl_lsn (by decide) (fl_lsn (by decide) (fl_lse hl10)))) (fl_lsn (by decide) (fl_lse hl13)) (fl_lsn (by decide) (fl_lsn (by decide) (fl_lsn (by decide) (fl_lsn (by decide) (fl_lsn (by decide) (fl_lsn (by decide) (fl_lsn (by decide) h8))))))) (fl_lse hl14)))))))))))))))))))))) (fun hc7 => vt_iload rfl (fl_lse hl6)
 (vt_iload rfl (fl_lsn (by decide) h4)
 (vt_icmp rfl (fun hc17 => vt_iload rfl (fl_lsn (by decide) h7)
 (vt_iload rfl (fl_lse hl6)
 (vt_iload rfl (fl_lsn (by decide) h4)
 (vt_icmpN rfl (fun hc18 => vt_iconst rfl
 (vt_ior rfl
 (vt_istoreA rfl (fun hl21 => vt_iincA rfl (fl_lsn (by decide) (fl_lsn (by decide) h9)) (fun hl22 => vt_gotoS rfl (fun m hm => ((((w4.2 hc7).1 hc17).2 hc18) m hm) _ (fl_lsn (by decide) (fl_lsn (by decide) (fl_lsn (by decide) h0))) (fl_lsn (by decide) (fl_lsn (by decide) (fl_lsn (by decide) h1))) (fl_lsn (by decide) (fl_lsn (by decide) (fl_lsn (by decide) h2))) (fl_lsn (by decide) (fl_lsn (by decide) (fl_lsn (by decide) h4))) (fl_lsn (by decide) (fl_lsn (by decide) (fl_lsn (by decide) h5))) (fl_lsn (by decide) (fl_lsn (by decide) (fl_lsn (by decide) h6))) (fl_lsn (by decide) (fl_lse hl21)) (fl_lsn (by decide) (fl_lsn (by decide) (fl_lsn (by decide) h8))) (fl_lse hl22))))))) (fun hc18 => vt_iconst rfl
 (vt_iload rfl (fl_lsn (by decide) h8)
 (vt_ishl rfl
 (vt_goto rfl
 (vt_ior rfl
 (vt_istoreA rfl (fun hl19 => vt_iincA rfl (fl_lsn (by decide) (fl_lsn (by decide) h9)) (fun hl20 => vt_gotoS rfl (fun m hm => ((((w4.2 hc7).1 hc17).1 hc18) m hm) _ (fl_lsn (by decide) (fl_lsn (by decide) (fl_lsn (by decide) h0))) (fl_lsn (by decide) (fl_lsn (by decide) (fl_lsn (by decide) h1))) (fl_lsn (by decide) (fl_lsn (by decide) (fl_lsn (by decide) h2))) (fl_lsn (by decide) (fl_lsn (by decide) (fl_lsn (by decide) h4))) (fl_lsn (by decide) (fl_lsn (by decide) (fl_lsn (by decide) h5))) (fl_lsn (by decide) (fl_lsn (by decide) (fl_lsn (by decide) h6))) (fl_lsn (by decide) (fl_lse hl19)) (fl_lsn (by decide) (fl_lsn (by decide) (fl_lsn (by decide) h8))) (fl_lse hl20)))))))))))))) (fun hc17 => vt_iload rfl (fl_lse hl6)
 (vt_istoreA rfl (fun hl23 => vt_iload rfl (fl_lsn (by decide) (fl_lsn (by decide) h8))
 (vt_istoreA rfl (fun hl24 => vt_iload rfl (fl_lsn (by decide) (fl_lsn (by decide) (fl_lsn (by decide) h9)))
 (vt_istoreA rfl (fun hl25 => vt_iconst rfl
 (vt_istoreA rfl (fun hl26 => vt_iload rfl (fl_lse hl26)
 (vt_iload rfl (fl_lsn (by decide) (fl_lsn (by decide) (fl_lsn (by decide) (fl_lsn (by decide) (fl_lse hl6)))))
 (vt_iload rfl (fl_lsn (by decide) (fl_lsn (by decide) (fl_lsn (by decide) (fl_lse hl23))))
 (vt_icmpN rfl (fun hc27 => vt_iconst rfl
 (vt_ior rfl
 (vt_istoreA rfl (fun hl30 => vt_iincA rfl (fl_lsn (by decide) (fl_lsn (by decide) (fl_lsn (by decide) (fl_lsn (by decide) (fl_lsn (by decide) (fl_lsn (by decide) h9)))))) (fun hl31 => vt_gotoS rfl (fun m hm => ((((w4.2 hc7).2 hc17).2 hc27) m hm) _ (fl_lsn (by decide) (fl_lsn (by decide) (fl_lsn (by decide) (fl_lsn (by decide) (fl_lsn (by decide) (fl_lsn (by decide) (fl_lsn (by decide) h0))))))) (fl_lsn (by decide) (fl_lsn (by decide) (fl_lsn (by decide) (fl_lsn (by decide) (fl_lsn (by decide) (fl_lsn (by decide) (fl_lsn (by decide) h1))))))) (fl_lsn (by decide) (fl_lsn (by decide) (fl_lsn (by decide) (fl_lsn (by decide) (fl_lsn (by decide) (fl_lsn (by decide) (fl_lsn (by decide) h2))))))) (fl_lsn (by decide) (fl_lsn (by decide) (fl_lsn (by decide) (fl_lsn (by decide) (fl_lsn (by decide) (fl_lse hl23)))))) (fl_lsn (by decide) (fl_lsn (by decide) (fl_lsn (by decide) (fl_lsn (by decide) (fl_lse hl24))))) (fl_lsn (by decide) (fl_lsn (by decide) (fl_lsn (by decide) (fl_lse hl25)))) (fl_lsn (by decide) (fl_lse hl30)) (fl_lsn (by decide) (fl_lsn (by decide) (fl_lsn (by decide) (fl_lsn (by decide) (fl_lsn (by decide) (fl_lsn (by decide) (fl_lsn (by decide) h8))))))) (fl_lse hl31))))))) (fun hc27 => vt_iconst rfl
 (vt_iload rfl (fl_lsn (by decide) (fl_lsn (by decide) (fl_lsn (by decide) (fl_lsn (by decide) (fl_lsn (by decide) h8)))))
 (vt_ishl rfl
 (vt_goto rfl
 (vt_ior rfl
 (vt_istoreA rfl (fun hl28 => vt_iincA rfl (fl_lsn (by decide) (fl_lsn (by decide) (fl_lsn (by decide) (fl_lsn (by decide) (fl_lsn (by decide) (fl_lsn (by decide) h9)))))) (fun hl29 => vt_gotoS rfl (fun m hm => ((((w4.2 hc7).2 hc17).1 hc27) m hm) _ (fl_lsn (by decide) (fl_lsn (by decide) (fl_lsn (by decide) (fl_lsn (by decide) (fl_lsn (by decide) (fl_lsn (by decide) (fl_lsn (by decide) h0))))))) (fl_lsn (by decide) (fl_lsn (by decide) (fl_lsn (by decide) (fl_lsn (by decide) (fl_lsn (by decide) (fl_lsn (by decide) (fl_lsn (by decide) h1))))))) (fl_lsn (by decide) (fl_lsn (by decide) (fl_lsn (by decide) (fl_lsn (by decide) (fl_lsn (by decide) (fl_lsn (by decide) (fl_lsn (by decide) h2))))))) (fl_lsn (by decide) (fl_lsn (by decide) (fl_lsn (by decide) (fl_lsn (by decide) (fl_lsn (by decide) (fl_lse hl23)))))) (fl_lsn (by decide) (fl_lsn (by decide) (fl_lsn (by decide) (fl_lsn (by decide) (fl_lse hl24))))) (fl_lsn (by decide) (fl_lsn (by decide) (fl_lsn (by decide) (fl_lse hl25)))) (fl_lsn (by decide) (fl_lse hl28)) (fl_lsn (by decide) (fl_lsn (by decide) (fl_lsn (by decide) (fl_lsn (by decide) (fl_lsn (by decide) (fl_lsn (by decide) (fl_lsn (by decide) h8))))))) (fl_lse hl29))))))))))))))))))))))))))))))))))))
theorem ve_GoodsBookModel_learnt_94 {X : Term} {xs : List Int32} {N : Nat} {H : fl_H} {a1 a2 : Int} {Q : Option Int → fl_H → Prop} (W : ∀ m, m < N → ck (cm_pg X xs) m cm_m149 [.index 94, fl_t a1] H (fun r H1 => ∃ x3, r = some x3 ∧ (((fl_w x3 = 0) → Q (some (-1)) H1) ∧ (¬ (fl_w x3 = 0) → ((0 ≤ fl_w a2 ∧ fl_w a2 ≤ 3) → hd_GoodsBookModel_learnt_94_27 (cm_pg X xs) N H1 a1 a2 0 0 Q) ∧ (¬ (0 ≤ fl_w a2 ∧ fl_w a2 ≤ 3) → Q (some (-1)) H1)))))  : ck (cm_pg X xs) N cm_m218 [.index 94, fl_t a1, fl_t a2] H Q :=
  vt_aload_n rfl rfl rfl
 (vt_iload_n rfl rfl
 (vt_callV rfl rfl (fun _ => rfl) (fun m hm => vt_int (W m hm) (fun x3 H1 w2 => vt_ifc rfl (fun hc4 => vt_iconst rfl
 (vt_ret rfl (w2.1 hc4))) (fun hc4 => vt_iload_n rfl rfl
 (vt_i2l rfl
 (vt_lconst rfl (by decide)
 (vt_ldc2 (v := 3) rfl (by decide)
 (vt_callS rfl rfl (fun _ => rfl) (fun _ _ => vt_sum (sm_in (fl_lrw _) (fl_lrl (by decide) (by decide)) (fl_lrl (by decide) (by decide)))
 (vt_ifn rfl (fun hc5 => vt_iconst rfl
 (vt_istore_n rfl
 (vt_iconst rfl
 (vt_istore rfl
 (((w2.2 hc4).1 hc5) _ rfl rfl rfl rfl rfl))))) (fun hc5 => vt_iconst rfl
 (vt_ret rfl ((w2.2 hc4).2 hc5))))))))))))))
def hd_GoodsBookModel_offBy_94_6 (P : cm_G) (N : Nat) (H : fl_H) (a1 : Int) (a2 : Int) (a3 : Int) (a4 : Int) (a5 : Int) (Q : Option Int → fl_H → Prop) : Prop := ∀ lv : cm_Lv, cm_nth lv 0 = some (some (.index 94)) → cm_nth lv 1 = some (some (fl_t a1)) → cm_nth lv 2 = some (some (fl_t a2)) → cm_nth lv 3 = some (some (fl_t a3)) → cm_nth lv 4 = some (some (fl_t a4)) → cm_nth lv 5 = some (some (fl_t a5)) → vt P N cm_m217 6 lv [] H Q
theorem vh_GoodsBookModel_offBy_94_6 {X : Term} {xs : List Int32} {N : Nat} {H : fl_H} {a1 : Int} {a2 : Int} {a3 : Int} {a4 : Int} {a5 : Int} {Q : Option Int → fl_H → Prop} (W : ((fl_w (H 95 3) ≤ fl_w a5) → Q (some a4) H) ∧ (¬ (fl_w (H 95 3) ≤ fl_w a5) → (0 ≤ fl_w (116 + (3 * a5)) ∧ fl_w (116 + (3 * a5)) < 152 → (fl_w (H 95 (fl_w (116 + (3 * a5))).toNat) = fl_w a1 → (0 ≤ fl_w ((116 + (3 * a5)) + 1) ∧ fl_w ((116 + (3 * a5)) + 1) < 152 → ((fl_w (H 95 (fl_w ((116 + (3 * a5)) + 1)).toNat) = 0) → (0 ≤ fl_w ((116 + (3 * a5)) + 2) ∧ fl_w ((116 + (3 * a5)) + 2) < 152 → ((fl_w a3 ≤ fl_w (H 95 (fl_w ((116 + (3 * a5)) + 2)).toNat)) → (0 ≤ fl_w ((116 + (3 * a5)) + 2) ∧ fl_w ((116 + (3 * a5)) + 2) < 152 → ∀ m, m < N → hd_GoodsBookModel_offBy_94_6 (cm_pg X xs) m H a1 a2 a3 (a4 + ((H 95 (fl_w ((116 + (3 * a5)) + 2)).toNat) - a3)) (a5 + 1) Q)) ∧ (¬ (fl_w a3 ≤ fl_w (H 95 (fl_w ((116 + (3 * a5)) + 2)).toNat)) → (0 ≤ fl_w ((116 + (3 * a5)) + 2) ∧ fl_w ((116 + (3 * a5)) + 2) < 152 → ∀ m, m < N → hd_GoodsBookModel_offBy_94_6 (cm_pg X xs) m H a1 a2 a3 (a4 + (a3 - (H 95 (fl_w ((116 + (3 * a5)) + 2)).toNat))) (a5 + 1) Q)))) ∧ (¬ (fl_w (H 95 (fl_w ((116 + (3 * a5)) + 1)).toNat) = 0) → (fl_w a2 = 0 → (0 ≤ fl_w ((116 + (3 * a5)) + 2) ∧ fl_w ((116 + (3 * a5)) + 2) < 152 → ((fl_w a3 ≤ fl_w (H 95 (fl_w ((116 + (3 * a5)) + 2)).toNat)) → (0 ≤ fl_w ((116 + (3 * a5)) + 2) ∧ fl_w ((116 + (3 * a5)) + 2) < 152 → ∀ m, m < N → hd_GoodsBookModel_offBy_94_6 (cm_pg X xs) m H a1 a2 a3 (a4 + ((H 95 (fl_w ((116 + (3 * a5)) + 2)).toNat) - a3)) (a5 + 1) Q)) ∧ (¬ (fl_w a3 ≤ fl_w (H 95 (fl_w ((116 + (3 * a5)) + 2)).toNat)) → (0 ≤ fl_w ((116 + (3 * a5)) + 2) ∧ fl_w ((116 + (3 * a5)) + 2) < 152 → ∀ m, m < N → hd_GoodsBookModel_offBy_94_6 (cm_pg X xs) m H a1 a2 a3 (a4 + (a3 - (H 95 (fl_w ((116 + (3 * a5)) + 2)).toNat))) (a5 + 1) Q)))) ∧ (¬ fl_w a2 = 0 → (fl_w a2 = 1 → (0 ≤ fl_w ((116 + (3 * a5)) + 2) ∧ fl_w ((116 + (3 * a5)) + 2) < 152 → ((fl_w (2 * a3) ≤ fl_w (H 95 (fl_w ((116 + (3 * a5)) + 2)).toNat)) → (0 ≤ fl_w ((116 + (3 * a5)) + 2) ∧ fl_w ((116 + (3 * a5)) + 2) < 152 → ∀ m, m < N → hd_GoodsBookModel_offBy_94_6 (cm_pg X xs) m H a1 a2 a3 (a4 + ((H 95 (fl_w ((116 + (3 * a5)) + 2)).toNat) - (2 * a3))) (a5 + 1) Q)) ∧ (¬ (fl_w (2 * a3) ≤ fl_w (H 95 (fl_w ((116 + (3 * a5)) + 2)).toNat)) → (0 ≤ fl_w ((116 + (3 * a5)) + 2) ∧ fl_w ((116 + (3 * a5)) + 2) < 152 → ∀ m, m < N → hd_GoodsBookModel_offBy_94_6 (cm_pg X xs) m H a1 a2 a3 (a4 + ((2 * a3) - (H 95 (fl_w ((116 + (3 * a5)) + 2)).toNat))) (a5 + 1) Q)))) ∧ (¬ fl_w a2 = 1 → (0 ≤ fl_w ((116 + (3 * a5)) + 2) ∧ fl_w ((116 + (3 * a5)) + 2) < 152 → ((fl_w (4 * a3) ≤ fl_w (H 95 (fl_w ((116 + (3 * a5)) + 2)).toNat)) → (0 ≤ fl_w ((116 + (3 * a5)) + 2) ∧ fl_w ((116 + (3 * a5)) + 2) < 152 → ∀ m, m < N → hd_GoodsBookModel_offBy_94_6 (cm_pg X xs) m H a1 a2 a3 (a4 + ((H 95 (fl_w ((116 + (3 * a5)) + 2)).toNat) - (4 * a3))) (a5 + 1) Q)) ∧ (¬ (fl_w (4 * a3) ≤ fl_w (H 95 (fl_w ((116 + (3 * a5)) + 2)).toNat)) → (0 ≤ fl_w ((116 + (3 * a5)) + 2) ∧ fl_w ((116 + (3 * a5)) + 2) < 152 → ∀ m, m < N → hd_GoodsBookModel_offBy_94_6 (cm_pg X xs) m H a1 a2 a3 (a4 + ((4 * a3) - (H 95 (fl_w ((116 + (3 * a5)) + 2)).toNat))) (a5 + 1) Q)))))))) ∧ (¬ fl_w (H 95 (fl_w (116 + (3 * a5))).toNat) = fl_w a1 → ∀ m, m < N → hd_GoodsBookModel_offBy_94_6 (cm_pg X xs) m H a1 a2 a3 a4 (a5 + 1) Q)))) : hd_GoodsBookModel_offBy_94_6 (cm_pg X xs) N H a1 a2 a3 a4 a5 Q :=
 fun lv h0 h1 h2 h3 h4 h5 =>
 vt_iload rfl h5
 (vt_aload_n rfl h0 rfl
 (vt_getr rfl rfl rfl
 (vt_iconst rfl
 (vt_ialdN 3 rfl rfl rfl
 (vt_icmp rfl (fun hc1 => vt_iload rfl h4
 (vt_ret rfl (W.1 hc1))) (fun hc1 => vt_bipush (v := 116) rfl (by decide)
 (vt_iconst rfl
 (vt_iload rfl h5
 (vt_imul rfl
 (vt_iadd rfl
 (vt_istoreA rfl (fun hl2 => vt_aload_n rfl (fl_lsn (by decide) h0) rfl
 (vt_getr rfl rfl rfl
 (vt_iload rfl (fl_lse hl2)
 (vt_iald rfl rfl (fun hf3 => vt_iload_n rfl (fl_lsn (by decide) h1)
 (vt_icmpN rfl (fun hc4 => vt_iincA rfl (fl_lsn (by decide) h5) (fun hl45 => vt_gotoS rfl (fun m hm => ((((W.2 hc1) hf3).2 hc4) m hm) _ (fl_lsn (by decide) (fl_lsn (by decide) h0)) (fl_lsn (by decide) (fl_lsn (by decide) h1)) (fl_lsn (by decide) (fl_lsn (by decide) h2)) (fl_lsn (by decide) (fl_lsn (by decide) h3)) (fl_lsn (by decide) (fl_lsn (by decide) h4)) (fl_lse hl45)))) (fun hc4 => vt_aload_n rfl (fl_lsn (by decide) h0) rfl
 (vt_getr rfl rfl rfl
 (vt_iload rfl (fl_lse hl2)
 (vt_iconst rfl
 (vt_iadd rfl
 (vt_iald rfl rfl (fun hf5 => vt_ifc rfl (fun hc6 => vt_iload_n rfl (fl_lsn (by decide) h3)
 (vt_goto rfl
 (vt_istoreA rfl (fun hl7 => vt_iload rfl (fl_lsn (by decide) (fl_lsn (by decide) h4))
 (vt_iload rfl (fl_lse hl7)
 (vt_aload_n rfl (fl_lsn (by decide) (fl_lsn (by decide) h0)) rfl
 (vt_getr rfl rfl rfl
 (vt_iload rfl (fl_lsn (by decide) (fl_lse hl2))
 (vt_iconst rfl
 (vt_iadd rfl
 (vt_iald rfl rfl (fun hf8 => vt_icmp rfl (fun hc9 => vt_aload_n rfl (fl_lsn (by decide) (fl_lsn (by decide) h0)) rfl
 (vt_getr rfl rfl rfl
 (vt_iload rfl (fl_lsn (by decide) (fl_lse hl2))
 (vt_iconst rfl
 (vt_iadd rfl
 (vt_iald rfl rfl (fun hf10 => vt_iload rfl (fl_lse hl7)
 (vt_isub rfl
 (vt_iadd rfl
 (vt_istoreA rfl (fun hl11 => vt_iincA rfl (fl_lsn (by decide) (fl_lsn (by decide) (fl_lsn (by decide) h5))) (fun hl12 => vt_gotoS rfl (fun m hm => (((((((((W.2 hc1) hf3).1 hc4) hf5).1 hc6) hf8).1 hc9) hf10) m hm) _ (fl_lsn (by decide) (fl_lsn (by decide) (fl_lsn (by decide) (fl_lsn (by decide) h0)))) (fl_lsn (by decide) (fl_lsn (by decide) (fl_lsn (by decide) (fl_lsn (by decide) h1)))) (fl_lsn (by decide) (fl_lsn (by decide) (fl_lsn (by decide) (fl_lsn (by decide) h2)))) (fl_lsn (by decide) (fl_lsn (by decide) (fl_lsn (by decide) (fl_lsn (by decide) h3)))) (fl_lsn (by decide) (fl_lse hl11)) (fl_lse hl12)))))))))))))) (fun hc9 => vt_iload rfl (fl_lse hl7)
 (vt_aload_n rfl (fl_lsn (by decide) (fl_lsn (by decide) h0)) rfl
 (vt_getr rfl rfl rfl
 (vt_iload rfl (fl_lsn (by decide) (fl_lse hl2))
 (vt_iconst rfl
 (vt_iadd rfl
 (vt_iald rfl rfl (fun hf13 => vt_isub rfl
 (vt_goto rfl
 (vt_iadd rfl
 (vt_istoreA rfl (fun hl14 => vt_iincA rfl (fl_lsn (by decide) (fl_lsn (by decide) (fl_lsn (by decide) h5))) (fun hl15 => vt_gotoS rfl (fun m hm => (((((((((W.2 hc1) hf3).1 hc4) hf5).1 hc6) hf8).2 hc9) hf13) m hm) _ (fl_lsn (by decide) (fl_lsn (by decide) (fl_lsn (by decide) (fl_lsn (by decide) h0)))) (fl_lsn (by decide) (fl_lsn (by decide) (fl_lsn (by decide) (fl_lsn (by decide) h1)))) (fl_lsn (by decide) (fl_lsn (by decide) (fl_lsn (by decide) (fl_lsn (by decide) h2)))) (fl_lsn (by decide) (fl_lsn (by decide) (fl_lsn (by decide) (fl_lsn (by decide) h3)))) (fl_lsn (by decide) (fl_lse hl14)) (fl_lse hl15))))))))))))))))))))))))))) (fun hc6 => vt_iload_n rfl (fl_lsn (by decide) h2)
 (vt_ifcN rfl (fun hc16 => vt_iload_n rfl (fl_lsn (by decide) h2)
 (vt_iconst rfl
 (vt_icmpN rfl (fun hc26 => vt_iconst rfl
 (vt_iload_n rfl (fl_lsn (by decide) h3)
 (vt_imul rfl
 (vt_istoreA rfl (fun hl36 => vt_iload rfl (fl_lsn (by decide) (fl_lsn (by decide) h4))
 (vt_iload rfl (fl_lse hl36)
 (vt_aload_n rfl (fl_lsn (by decide) (fl_lsn (by decide) h0)) rfl
 (vt_getr rfl rfl rfl
 (vt_iload rfl (fl_lsn (by decide) (fl_lse hl2))
 (vt_iconst rfl
 (vt_iadd rfl
 (vt_iald rfl rfl (fun hf37 => vt_icmp rfl (fun hc38 => vt_aload_n rfl (fl_lsn (by decide) (fl_lsn (by decide) h0)) rfl
 (vt_getr rfl rfl rfl
 (vt_iload rfl (fl_lsn (by decide) (fl_lse hl2))
 (vt_iconst rfl
 (vt_iadd rfl
 (vt_iald rfl rfl (fun hf39 => vt_iload rfl (fl_lse hl36)
 (vt_isub rfl
 (vt_iadd rfl
 (vt_istoreA rfl (fun hl40 => vt_iincA rfl (fl_lsn (by decide) (fl_lsn (by decide) (fl_lsn (by decide) h5))) (fun hl41 => vt_gotoS rfl (fun m hm => (((((((((((W.2 hc1) hf3).1 hc4) hf5).2 hc6).2 hc16).2 hc26) hf37).1 hc38) hf39) m hm) _ (fl_lsn (by decide) (fl_lsn (by decide) (fl_lsn (by decide) (fl_lsn (by decide) h0)))) (fl_lsn (by decide) (fl_lsn (by decide) (fl_lsn (by decide) (fl_lsn (by decide) h1)))) (fl_lsn (by decide) (fl_lsn (by decide) (fl_lsn (by decide) (fl_lsn (by decide) h2)))) (fl_lsn (by decide) (fl_lsn (by decide) (fl_lsn (by decide) (fl_lsn (by decide) h3)))) (fl_lsn (by decide) (fl_lse hl40)) (fl_lse hl41)))))))))))))) (fun hc38 => vt_iload rfl (fl_lse hl36)
 (vt_aload_n rfl (fl_lsn (by decide) (fl_lsn (by decide) h0)) rfl
 (vt_getr rfl rfl rfl
 (vt_iload rfl (fl_lsn (by decide) (fl_lse hl2))
 (vt_iconst rfl
 (vt_iadd rfl
 (vt_iald rfl rfl (fun hf42 => vt_isub rfl
 (vt_goto rfl
 (vt_iadd rfl
 (vt_istoreA rfl (fun hl43 => vt_iincA rfl (fl_lsn (by decide) (fl_lsn (by decide) (fl_lsn (by decide) h5))) (fun hl44 => vt_gotoS rfl (fun m hm => (((((((((((W.2 hc1) hf3).1 hc4) hf5).2 hc6).2 hc16).2 hc26) hf37).2 hc38) hf42) m hm) _ (fl_lsn (by decide) (fl_lsn (by decide) (fl_lsn (by decide) (fl_lsn (by decide) h0)))) (fl_lsn (by decide) (fl_lsn (by decide) (fl_lsn (by decide) (fl_lsn (by decide) h1)))) (fl_lsn (by decide) (fl_lsn (by decide) (fl_lsn (by decide) (fl_lsn (by decide) h2)))) (fl_lsn (by decide) (fl_lsn (by decide) (fl_lsn (by decide) (fl_lsn (by decide) h3)))) (fl_lsn (by decide) (fl_lse hl43)) (fl_lse hl44)))))))))))))))))))))))))))) (fun hc26 => vt_iconst rfl
 (vt_iload_n rfl (fl_lsn (by decide) h3)
 (vt_imul rfl
 (vt_goto rfl
 (vt_istoreA rfl (fun hl27 => vt_iload rfl (fl_lsn (by decide) (fl_lsn (by decide) h4))
 (vt_iload rfl (fl_lse hl27)
 (vt_aload_n rfl (fl_lsn (by decide) (fl_lsn (by decide) h0)) rfl
 (vt_getr rfl rfl rfl
 (vt_iload rfl (fl_lsn (by decide) (fl_lse hl2))
 (vt_iconst rfl
 (vt_iadd rfl
 (vt_iald rfl rfl (fun hf28 => vt_icmp rfl (fun hc29 => vt_aload_n rfl (fl_lsn (by decide) (fl_lsn (by decide) h0)) rfl
 (vt_getr rfl rfl rfl
 (vt_iload rfl (fl_lsn (by decide) (fl_lse hl2))
 (vt_iconst rfl
 (vt_iadd rfl
 (vt_iald rfl rfl (fun hf30 => vt_iload rfl (fl_lse hl27)
 (vt_isub rfl
 (vt_iadd rfl
 (vt_istoreA rfl (fun hl31 => vt_iincA rfl (fl_lsn (by decide) (fl_lsn (by decide) (fl_lsn (by decide) h5))) (fun hl32 => vt_gotoS rfl (fun m hm => (((((((((((W.2 hc1) hf3).1 hc4) hf5).2 hc6).2 hc16).1 hc26) hf28).1 hc29) hf30) m hm) _ (fl_lsn (by decide) (fl_lsn (by decide) (fl_lsn (by decide) (fl_lsn (by decide) h0)))) (fl_lsn (by decide) (fl_lsn (by decide) (fl_lsn (by decide) (fl_lsn (by decide) h1)))) (fl_lsn (by decide) (fl_lsn (by decide) (fl_lsn (by decide) (fl_lsn (by decide) h2)))) (fl_lsn (by decide) (fl_lsn (by decide) (fl_lsn (by decide) (fl_lsn (by decide) h3)))) (fl_lsn (by decide) (fl_lse hl31)) (fl_lse hl32)))))))))))))) (fun hc29 => vt_iload rfl (fl_lse hl27)
 (vt_aload_n rfl (fl_lsn (by decide) (fl_lsn (by decide) h0)) rfl
 (vt_getr rfl rfl rfl
 (vt_iload rfl (fl_lsn (by decide) (fl_lse hl2))
 (vt_iconst rfl
 (vt_iadd rfl
 (vt_iald rfl rfl (fun hf33 => vt_isub rfl
 (vt_goto rfl
 (vt_iadd rfl
 (vt_istoreA rfl (fun hl34 => vt_iincA rfl (fl_lsn (by decide) (fl_lsn (by decide) (fl_lsn (by decide) h5))) (fun hl35 => vt_gotoS rfl (fun m hm => (((((((((((W.2 hc1) hf3).1 hc4) hf5).2 hc6).2 hc16).1 hc26) hf28).2 hc29) hf33) m hm) _ (fl_lsn (by decide) (fl_lsn (by decide) (fl_lsn (by decide) (fl_lsn (by decide) h0)))) (fl_lsn (by decide) (fl_lsn (by decide) (fl_lsn (by decide) (fl_lsn (by decide) h1)))) (fl_lsn (by decide) (fl_lsn (by decide) (fl_lsn (by decide) (fl_lsn (by decide) h2)))) (fl_lsn (by decide) (fl_lsn (by decide) (fl_lsn (by decide) (fl_lsn (by decide) h3)))) (fl_lsn (by decide) (fl_lse hl34)) (fl_lse hl35)))))))))))))))))))))))))))))))) (fun hc16 => vt_iload_n rfl (fl_lsn (by decide) h3)
 (vt_goto rfl
 (vt_istoreA rfl (fun hl17 => vt_iload rfl (fl_lsn (by decide) (fl_lsn (by decide) h4))
 (vt_iload rfl (fl_lse hl17)
 (vt_aload_n rfl (fl_lsn (by decide) (fl_lsn (by decide) h0)) rfl
 (vt_getr rfl rfl rfl
 (vt_iload rfl (fl_lsn (by decide) (fl_lse hl2))
 (vt_iconst rfl
 (vt_iadd rfl
 (vt_iald rfl rfl (fun hf18 => vt_icmp rfl (fun hc19 => vt_aload_n rfl (fl_lsn (by decide) (fl_lsn (by decide) h0)) rfl
 (vt_getr rfl rfl rfl
 (vt_iload rfl (fl_lsn (by decide) (fl_lse hl2))
 (vt_iconst rfl
 (vt_iadd rfl
 (vt_iald rfl rfl (fun hf20 => vt_iload rfl (fl_lse hl17)
 (vt_isub rfl
 (vt_iadd rfl
 (vt_istoreA rfl (fun hl21 => vt_iincA rfl (fl_lsn (by decide) (fl_lsn (by decide) (fl_lsn (by decide) h5))) (fun hl22 => vt_gotoS rfl (fun m hm => ((((((((((W.2 hc1) hf3).1 hc4) hf5).2 hc6).1 hc16) hf18).1 hc19) hf20) m hm) _ (fl_lsn (by decide) (fl_lsn (by decide) (fl_lsn (by decide) (fl_lsn (by decide) h0)))) (fl_lsn (by decide) (fl_lsn (by decide) (fl_lsn (by decide) (fl_lsn (by decide) h1)))) (fl_lsn (by decide) (fl_lsn (by decide) (fl_lsn (by decide) (fl_lsn (by decide) h2)))) (fl_lsn (by decide) (fl_lsn (by decide) (fl_lsn (by decide) (fl_lsn (by decide) h3)))) (fl_lsn (by decide) (fl_lse hl21)) (fl_lse hl22)))))))))))))) (fun hc19 => vt_iload rfl (fl_lse hl17)
 (vt_aload_n rfl (fl_lsn (by decide) (fl_lsn (by decide) h0)) rfl
 (vt_getr rfl rfl rfl
 (vt_iload rfl (fl_lsn (by decide) (fl_lse hl2))
 (vt_iconst rfl
 (vt_iadd rfl
 (vt_iald rfl rfl (fun hf23 => vt_isub rfl
 (vt_goto rfl
 (vt_iadd rfl
 (vt_istoreA rfl (fun hl24 => vt_iincA rfl (fl_lsn (by decide) (fl_lsn (by decide) (fl_lsn (by decide) h5))) (fun hl25 => vt_gotoS rfl (fun m hm => ((((((((((W.2 hc1) hf3).1 hc4) hf5).2 hc6).1 hc16) hf18).2 hc19) hf23) m hm) _ (fl_lsn (by decide) (fl_lsn (by decide) (fl_lsn (by decide) (fl_lsn (by decide) h0)))) (fl_lsn (by decide) (fl_lsn (by decide) (fl_lsn (by decide) (fl_lsn (by decide) h1)))) (fl_lsn (by decide) (fl_lsn (by decide) (fl_lsn (by decide) (fl_lsn (by decide) h2)))) (fl_lsn (by decide) (fl_lsn (by decide) (fl_lsn (by decide) (fl_lsn (by decide) h3)))) (fl_lsn (by decide) (fl_lse hl24)) (fl_lse hl25)))))))))))))))))))))))))))))))))))))))))))))))))))))
theorem ve_GoodsBookModel_offBy_94 {X : Term} {xs : List Int32} {N : Nat} {H : fl_H} {a1 a2 a3 : Int} {Q : Option Int → fl_H → Prop} (W : hd_GoodsBookModel_offBy_94_6 (cm_pg X xs) N H a1 a2 a3 0 0 Q)  : ck (cm_pg X xs) N cm_m217 [.index 94, fl_t a1, fl_t a2, fl_t a3] H Q :=
  vt_iconst rfl
 (vt_istore rfl
 (vt_iconst rfl
 (vt_istore rfl
 (W _ rfl rfl rfl rfl rfl rfl))))
theorem ve_GoodsBookModel_isGood_94 {X : Term} {xs : List Int32} {N : Nat} {H : fl_H} {a1 : Int} {Q : Option Int → fl_H → Prop} (W : Q (some (fl_b (0 ≤ fl_w a1 ∧ fl_w a1 ≤ fl_w ((H 95 1) - 1)))) H)  : ck (cm_pg X xs) N cm_m149 [.index 94, fl_t a1] H Q :=
  vt_iload_n rfl rfl
 (vt_i2l rfl
 (vt_lconst rfl (by decide)
 (vt_aload_n rfl rfl rfl
 (vt_getr rfl rfl rfl
 (vt_iconst rfl
 (vt_ialdN 1 rfl rfl rfl
 (vt_iconst rfl
 (vt_isub rfl
 (vt_i2l rfl
 (vt_callS rfl rfl (fun _ => rfl) (fun _ _ => vt_sum (sm_in (fl_lrw _) (fl_lrl (by decide) (by decide)) (fl_lrw _))
 (vt_ret rfl W))))))))))))
theorem ve_GoodsBookModel_year_94 {X : Term} {xs : List Int32} {N : Nat} {H : fl_H} {a1 a2 a3 : Int} {Q : Option Int → fl_H → Prop} (W : ∀ m, m < N → ck (cm_pg X xs) m cm_m149 [.index 94, fl_t a1] H (fun r H1 => ∃ x3, r = some x3 ∧ (((fl_w x3 = 0) → Q (some (-1)) H1) ∧ (¬ (fl_w x3 = 0) → ((0 ≤ fl_w a2 ∧ fl_w a2 ≤ 1) → ((0 ≤ fl_w a3 ∧ fl_w a3 ≤ 999) → (fl_w (H1 95 3) = 12 → Q (some (-3)) H1) ∧ (¬ fl_w (H1 95 3) = 12 → (0 ≤ fl_w (116 + (3 * (H1 95 3))) ∧ fl_w (116 + (3 * (H1 95 3))) < 152 → ∀ H8, H8 = fl_up H1 95 (fl_w (116 + (3 * (H1 95 3)))).toNat a1 → (0 ≤ fl_w ((116 + (3 * (H1 95 3))) + 1) ∧ fl_w ((116 + (3 * (H1 95 3))) + 1) < 152 → ∀ H11, H11 = fl_up H8 95 (fl_w ((116 + (3 * (H1 95 3))) + 1)).toNat a2 → (0 ≤ fl_w ((116 + (3 * (H1 95 3))) + 2) ∧ fl_w ((116 + (3 * (H1 95 3))) + 2) < 152 → ∀ H14, H14 = fl_up H11 95 (fl_w ((116 + (3 * (H1 95 3))) + 2)).toNat a3 → ∀ H17, H17 = fl_up H14 95 3 ((H14 95 3) + 1) → (Q (some ((H17 95 3) - 1)) H17)))))) ∧ (¬ (0 ≤ fl_w a3 ∧ fl_w a3 ≤ 999) → Q (some (-1)) H1)) ∧ (¬ (0 ≤ fl_w a2 ∧ fl_w a2 ≤ 1) → Q (some (-1)) H1)))))  : ck (cm_pg X xs) N cm_m216 [.index 94, fl_t a1, fl_t a2, fl_t a3] H Q :=
  vt_aload_n rfl rfl rfl
 (vt_iload_n rfl rfl
 (vt_callV rfl rfl (fun _ => rfl) (fun m hm => vt_int (W m hm) (fun x3 H1 w2 => vt_ifc rfl (fun hc4 => vt_iconst rfl
 (vt_ret rfl (w2.1 hc4))) (fun hc4 => vt_iload_n rfl rfl
 (vt_i2l rfl
 (vt_lconst rfl (by decide)
 (vt_lconst rfl (by decide)
 (vt_callS rfl rfl (fun _ => rfl) (fun _ _ => vt_sum (sm_in (fl_lrw _) (fl_lrl (by decide) (by decide)) (fl_lrl (by decide) (by decide)))
 (vt_ifb rfl (fun hc5 => vt_iload_n rfl rfl
 (vt_i2l rfl
 (vt_lconst rfl (by decide)
 (vt_ldc2 (v := 999) rfl (by decide)
 (vt_callS rfl rfl (fun _ => rfl) (fun _ _ => vt_sum (sm_in (fl_lrw _) (fl_lrl (by decide) (by decide)) (fl_lrl (by decide) (by decide)))
 (vt_ifn rfl (fun hc6 => vt_aload_n rfl rfl rfl
 (vt_getr rfl rfl rfl
 (vt_iconst rfl
 (vt_ialdN 3 rfl rfl rfl
 (vt_bipush (v := 12) rfl (by decide)
 (vt_icmpN rfl (fun hc7 => vt_bipush (v := 116) rfl (by decide)
 (vt_iconst rfl
 (vt_aload_n rfl rfl rfl
 (vt_getr rfl rfl rfl
 (vt_iconst rfl
 (vt_ialdN 3 rfl rfl rfl
 (vt_imul rfl
 (vt_iadd rfl
 (vt_istore rfl
 (vt_aload_n rfl rfl rfl
 (vt_getr rfl rfl rfl
 (vt_iload rfl rfl
 (vt_iload_n rfl rfl
 (vt_iast rfl rfl (fun hf10 => vt_nm (fun H8 e9 => vt_aload_n rfl rfl rfl
 (vt_getr rfl rfl rfl
 (vt_iload rfl rfl
 (vt_iconst rfl
 (vt_iadd rfl
 (vt_iload_n rfl rfl
 (vt_iast rfl rfl (fun hf13 => vt_nm (fun H11 e12 => vt_aload_n rfl rfl rfl
 (vt_getr rfl rfl rfl
 (vt_iload rfl rfl
 (vt_iconst rfl
 (vt_iadd rfl
 (vt_iload_n rfl rfl
 (vt_iast rfl rfl (fun hf16 => vt_nm (fun H14 e15 => vt_aload_n rfl rfl rfl
 (vt_getr rfl rfl rfl
 (vt_iconst rfl
 (vt_mv (fun _ _ => rfl)
 (vt_ialdN 3 rfl rfl rfl
 (vt_iconst rfl
 (vt_iadd rfl
 (vt_iastN 3 rfl rfl rfl (vt_nm (fun H17 e18 => vt_aload_n rfl rfl rfl
 (vt_getr rfl rfl rfl
 (vt_iconst rfl
 (vt_ialdN 3 rfl rfl rfl
 (vt_iconst rfl
 (vt_isub rfl
 (vt_ret rfl ((((((((w2.2 hc4).1 hc5).1 hc6).2 hc7) hf10 H8 e9) hf13 H11 e12) hf16 H14 e15) H17 e18)))))))))))))))))))))))))))))))))))))))))))))))) (fun hc7 => vt_bipush (v := (-3)) rfl (by decide)
 (vt_ret rfl ((((w2.2 hc4).1 hc5).1 hc6).1 hc7))))))))) (fun hc6 => vt_iconst rfl
 (vt_ret rfl (((w2.2 hc4).1 hc5).2 hc6)))))))))) (fun hc5 => vt_iconst rfl
 (vt_ret rfl ((w2.2 hc4).2 hc5))))))))))))))
def hd_GoodsBookModel_mended_94_43 (P : cm_G) (N : Nat) (H : fl_H) (a1 : Int) (a2 : Int) (a3 : Int) (a4 : Int) (a5 : Int) (Q : Option Int → fl_H → Prop) : Prop := ∀ lv : cm_Lv, cm_nth lv 0 = some (some (.index 94)) → cm_nth lv 1 = some (some (fl_t a1)) → cm_nth lv 2 = some (some (fl_t a2)) → cm_nth lv 3 = some (some (fl_t a3)) → cm_nth lv 4 = some (some (fl_t a4)) → cm_nth lv 5 = some (some (fl_t a5)) → vt P N cm_m215 43 lv [] H Q
theorem vh_GoodsBookModel_mended_94_43 {X : Term} {xs : List Int32} {N : Nat} {H : fl_H} {a1 : Int} {a2 : Int} {a3 : Int} {a4 : Int} {a5 : Int} {Q : Option Int → fl_H → Prop} (W : ((fl_w a4 ≤ fl_w a5) → (fl_w a2 = (-2) → Q (some a3) H) ∧ (¬ fl_w a2 = (-2) → (fl_w a2 = (-1) → Q (some (H 94 8)) H) ∧ (¬ fl_w a2 = (-1) → (0 ≤ fl_w a2 ∧ fl_w a2 < 6 → Q (some (H 101 (fl_w a2).toNat)) H)))) ∧ (¬ (fl_w a4 ≤ fl_w a5) → ∀ m, m < N → ck (cm_pg X xs) m cm_m194 [.index 94, fl_t a5] H (fun r H5 => r = none ∧ (∀ m, m < N → ck (cm_pg X xs) m cm_m214 [.index 94, fl_t a1] H5 (fun r H7 => ∃ x9, r = some x9 ∧ ((0 ≤ fl_w a1 ∧ fl_w a1 < 6 → (fl_w (H7 100 (fl_w a1).toNat) = 0 → ((fl_w a3 < fl_w x9) → ∀ m, m < N → hd_GoodsBookModel_mended_94_43 (cm_pg X xs) m H7 a1 a2 a3 a4 (a5 + 1) Q) ∧ (¬ (fl_w a3 < fl_w x9) → ∀ m, m < N → ck (cm_pg X xs) m cm_m187 [.index 94] H7 (fun r H15 => ∃ x17, r = some x17 ∧ (((fl_w x17 = 0) → ∀ m, m < N → hd_GoodsBookModel_mended_94_43 (cm_pg X xs) m H15 a1 a2 a3 a4 (a5 + 1) Q) ∧ (¬ (fl_w x17 = 0) → ∀ m, m < N → ck (cm_pg X xs) m cm_m183 [.index 94] H15 (fun r H20 => ∃ x22, r = some x22 ∧ (((fl_w x9 < fl_w a3) → ∀ m, m < N → ck (cm_pg X xs) m cm_m195 [.index 94, fl_t x22] H20 (fun r H25 => r = none ∧ (∀ m, m < N → hd_GoodsBookModel_mended_94_43 (cm_pg X xs) m H25 a1 a2 x9 a4 (a5 + 1) Q))) ∧ (¬ (fl_w x9 < fl_w a3) → ((fl_w x22 ≤ fl_w (H20 94 8)) → ∀ m, m < N → hd_GoodsBookModel_mended_94_43 (cm_pg X xs) m H20 a1 a2 a3 a4 (a5 + 1) Q) ∧ (¬ (fl_w x22 ≤ fl_w (H20 94 8)) → ∀ m, m < N → ck (cm_pg X xs) m cm_m195 [.index 94, fl_t x22] H20 (fun r H31 => r = none ∧ (∀ m, m < N → hd_GoodsBookModel_mended_94_43 (cm_pg X xs) m H31 a1 a2 x9 a4 (a5 + 1) Q))))))))))) ∧ (¬ fl_w (H7 100 (fl_w a1).toNat) = 0 → ∀ m, m < N → hd_GoodsBookModel_mended_94_43 (cm_pg X xs) m H7 a1 a2 a3 a4 (a5 + 1) Q)))))))) : hd_GoodsBookModel_mended_94_43 (cm_pg X xs) N H a1 a2 a3 a4 a5 Q :=
 fun lv h0 h1 h2 h3 h4 h5 =>
 vt_iload rfl h5
 (vt_iload rfl h4
 (vt_icmp rfl (fun hc1 => vt_iload_n rfl h2
 (vt_bipush (v := (-2)) rfl (by decide)
 (vt_icmpN rfl (fun hc2 => vt_iload_n rfl h2
 (vt_iconst rfl
 (vt_icmpN rfl (fun hc3 => vt_aload_n rfl h0 rfl
 (vt_getr rfl rfl rfl
 (vt_iload_n rfl h2
 (vt_iald rfl rfl (fun hf4 => vt_ret rfl ((((W.1 hc1).2 hc2).2 hc3) hf4)))))) (fun hc3 => vt_aload_n rfl h0 rfl
 (vt_getf rfl rfl rfl
 (vt_goto rfl
 (vt_ret rfl (((W.1 hc1).2 hc2).1 hc3)))))))) (fun hc2 => vt_iload_n rfl h3
 (vt_goto rfl
 (vt_ret rfl ((W.1 hc1).1 hc2))))))) (fun hc1 => vt_aload_n rfl h0 rfl
 (vt_iload rfl h5
 (vt_callV rfl rfl (fun _ => rfl) (fun m hm => vt_void ((W.2 hc1) m hm) (fun H5 w6 => vt_aload_n rfl h0 rfl
 (vt_iload_n rfl h1
 (vt_callV rfl rfl (fun _ => rfl) (fun m hm => vt_int (w6 m hm) (fun x9 H7 w8 => vt_istoreA rfl (fun hl10 => vt_aload_n rfl (fl_lsn (by decide) h0) rfl
 (vt_getr rfl rfl rfl
 (vt_iload_n rfl (fl_lsn (by decide) h1)
 (vt_iald rfl rfl (fun hf11 => vt_ifcN rfl (fun hc12 => vt_iincA rfl (fl_lsn (by decide) h5) (fun hl35 => vt_gotoS rfl (fun m hm => (((w8 hf11).2 hc12) m hm) _ (fl_lsn (by decide) (fl_lsn (by decide) h0)) (fl_lsn (by decide) (fl_lsn (by decide) h1)) (fl_lsn (by decide) (fl_lsn (by decide) h2)) (fl_lsn (by decide) (fl_lsn (by decide) h3)) (fl_lsn (by decide) (fl_lsn (by decide) h4)) (fl_lse hl35)))) (fun hc12 => vt_iload rfl (fl_lse hl10)
 (vt_iload_n rfl (fl_lsn (by decide) h3)
 (vt_icmp rfl (fun hc13 => vt_iincA rfl (fl_lsn (by decide) h5) (fun hl14 => vt_gotoS rfl (fun m hm => ((((w8 hf11).1 hc12).1 hc13) m hm) _ (fl_lsn (by decide) (fl_lsn (by decide) h0)) (fl_lsn (by decide) (fl_lsn (by decide) h1)) (fl_lsn (by decide) (fl_lsn (by decide) h2)) (fl_lsn (by decide) (fl_lsn (by decide) h3)) (fl_lsn (by decide) (fl_lsn (by decide) h4)) (fl_lse hl14)))) (fun hc13 => vt_aload_n rfl (fl_lsn (by decide) h0) rfl
 (vt_callV rfl rfl (fun _ => rfl) (fun m hm => vt_int ((((w8 hf11).1 hc12).2 hc13) m hm) (fun x17 H15 w16 => vt_ifc rfl (fun hc18 => vt_iincA rfl (fl_lsn (by decide) h5) (fun hl19 => vt_gotoS rfl (fun m hm => ((w16.1 hc18) m hm) _ (fl_lsn (by decide) (fl_lsn (by decide) h0)) (fl_lsn (by decide) (fl_lsn (by decide) h1)) (fl_lsn (by decide) (fl_lsn (by decide) h2)) (fl_lsn (by decide) (fl_lsn (by decide) h3)) (fl_lsn (by decide) (fl_lsn (by decide) h4)) (fl_lse hl19)))) (fun hc18 => vt_aload_n rfl (fl_lsn (by decide) h0) rfl
 (vt_callV rfl rfl (fun _ => rfl) (fun m hm => vt_int ((w16.2 hc18) m hm) (fun x22 H20 w21 => vt_istoreA rfl (fun hl23 => vt_iload rfl (fl_lsn (by decide) (fl_lse hl10))
 (vt_iload_n rfl (fl_lsn (by decide) (fl_lsn (by decide) h3))
 (vt_icmp rfl (fun hc24 => vt_aload_n rfl (fl_lsn (by decide) (fl_lsn (by decide) h0)) rfl
 (vt_iload rfl (fl_lse hl23)
 (vt_callV rfl rfl (fun _ => rfl) (fun m hm => vt_void ((w21.1 hc24) m hm) (fun H25 w26 => vt_iload rfl (fl_lsn (by decide) (fl_lse hl10))
 (vt_istore_nA rfl (fun hl27 => vt_iincA rfl (fl_lsn (by decide) (fl_lsn (by decide) (fl_lsn (by decide) h5))) (fun hl28 => vt_gotoS rfl (fun m hm => (w26 m hm) _ (fl_lsn (by decide) (fl_lsn (by decide) (fl_lsn (by decide) (fl_lsn (by decide) h0)))) (fl_lsn (by decide) (fl_lsn (by decide) (fl_lsn (by decide) (fl_lsn (by decide) h1)))) (fl_lsn (by decide) (fl_lsn (by decide) (fl_lsn (by decide) (fl_lsn (by decide) h2)))) (fl_lsn (by decide) (fl_lse hl27)) (fl_lsn (by decide) (fl_lsn (by decide) (fl_lsn (by decide) (fl_lsn (by decide) h4)))) (fl_lse hl28)))))))))) (fun hc24 => vt_iload rfl (fl_lse hl23)
 (vt_aload_n rfl (fl_lsn (by decide) (fl_lsn (by decide) h0)) rfl
 (vt_getf rfl rfl rfl
 (vt_icmp rfl (fun hc29 => vt_iincA rfl (fl_lsn (by decide) (fl_lsn (by decide) h5)) (fun hl30 => vt_gotoS rfl (fun m hm => (((w21.2 hc24).1 hc29) m hm) _ (fl_lsn (by decide) (fl_lsn (by decide) (fl_lsn (by decide) h0))) (fl_lsn (by decide) (fl_lsn (by decide) (fl_lsn (by decide) h1))) (fl_lsn (by decide) (fl_lsn (by decide) (fl_lsn (by decide) h2))) (fl_lsn (by decide) (fl_lsn (by decide) (fl_lsn (by decide) h3))) (fl_lsn (by decide) (fl_lsn (by decide) (fl_lsn (by decide) h4))) (fl_lse hl30)))) (fun hc29 => vt_aload_n rfl (fl_lsn (by decide) (fl_lsn (by decide) h0)) rfl
 (vt_iload rfl (fl_lse hl23)
 (vt_callV rfl rfl (fun _ => rfl) (fun m hm => vt_void (((w21.2 hc24).2 hc29) m hm) (fun H31 w32 => vt_iload rfl (fl_lsn (by decide) (fl_lse hl10))
 (vt_istore_nA rfl (fun hl33 => vt_iincA rfl (fl_lsn (by decide) (fl_lsn (by decide) (fl_lsn (by decide) h5))) (fun hl34 => vt_gotoS rfl (fun m hm => (w32 m hm) _ (fl_lsn (by decide) (fl_lsn (by decide) (fl_lsn (by decide) (fl_lsn (by decide) h0)))) (fl_lsn (by decide) (fl_lsn (by decide) (fl_lsn (by decide) (fl_lsn (by decide) h1)))) (fl_lsn (by decide) (fl_lsn (by decide) (fl_lsn (by decide) (fl_lsn (by decide) h2)))) (fl_lsn (by decide) (fl_lse hl33)) (fl_lsn (by decide) (fl_lsn (by decide) (fl_lsn (by decide) (fl_lsn (by decide) h4)))) (fl_lse hl34))))))))))))))))))))))))))))))))))))))))))))
theorem ve_GoodsBookModel_mended_94 {X : Term} {xs : List Int32} {N : Nat} {H : fl_H} {a1 a2 : Int} {Q : Option Int → fl_H → Prop} (W : ∀ m, m < N → ck (cm_pg X xs) m cm_m149 [.index 94, fl_t a1] H (fun r H1 => ∃ x3, r = some x3 ∧ (((fl_w x3 = 0) → Q (some (-1000000001)) H1) ∧ (¬ (fl_w x3 = 0) → (((-2) ≤ fl_w a2 ∧ fl_w a2 ≤ fl_w ((H1 95 1) - 1)) → ∀ m, m < N → ck (cm_pg X xs) m cm_m193 [.index 94] H1 (fun r H6 => ∃ x8, r = some x8 ∧ (hd_GoodsBookModel_mended_94_43 (cm_pg X xs) N H6 a1 a2 7 x8 0 Q))) ∧ (¬ ((-2) ≤ fl_w a2 ∧ fl_w a2 ≤ fl_w ((H1 95 1) - 1)) → Q (some (-1000000001)) H1)))))  : ck (cm_pg X xs) N cm_m215 [.index 94, fl_t a1, fl_t a2] H Q :=
  vt_aload_n rfl rfl rfl
 (vt_iload_n rfl rfl
 (vt_callV rfl rfl (fun _ => rfl) (fun m hm => vt_int (W m hm) (fun x3 H1 w2 => vt_ifc rfl (fun hc4 => vt_ldc (v := (-1000000001)) rfl (by decide)
 (vt_ret rfl (w2.1 hc4))) (fun hc4 => vt_iload_n rfl rfl
 (vt_i2l rfl
 (vt_ldc2 (v := (-2)) rfl (by decide)
 (vt_aload_n rfl rfl rfl
 (vt_getr rfl rfl rfl
 (vt_iconst rfl
 (vt_ialdN 1 rfl rfl rfl
 (vt_iconst rfl
 (vt_isub rfl
 (vt_i2l rfl
 (vt_callS rfl rfl (fun _ => rfl) (fun _ _ => vt_sum (sm_in (fl_lrw _) (fl_lrl (by decide) (by decide)) (fl_lrw _))
 (vt_ifn rfl (fun hc5 => vt_bipush (v := 7) rfl (by decide)
 (vt_istore_n rfl
 (vt_aload_n rfl rfl rfl
 (vt_callV rfl rfl (fun _ => rfl) (fun m hm => vt_int (((w2.2 hc4).1 hc5) m hm) (fun x8 H6 w7 => vt_istore rfl
 (vt_iconst rfl
 (vt_istore rfl
 (w7 _ rfl rfl rfl rfl rfl rfl))))))))) (fun hc5 => vt_ldc (v := (-1000000001)) rfl (by decide)
 (vt_ret rfl ((w2.2 hc4).2 hc5))))))))))))))))))))
def hd_GoodsBookModel_keepBest_94_7 (P : cm_G) (N : Nat) (H : fl_H) (a2 : Int) (Q : Option Int → fl_H → Prop) : Prop := ∀ lv : cm_Lv, cm_nth lv 0 = some (some (.index 94)) → cm_nth lv 2 = some (some (fl_t a2)) → vt P N cm_m195 7 lv [] H Q
theorem vh_GoodsBookModel_keepBest_94_7 {X : Term} {xs : List Int32} {N : Nat} {H : fl_H} {a2 : Int} {Q : Option Int → fl_H → Prop} (W : ((6 ≤ fl_w a2) → Q none H) ∧ (¬ (6 ≤ fl_w a2) → (0 ≤ fl_w a2 ∧ fl_w a2 < 6 → (0 ≤ fl_w a2 ∧ fl_w a2 < 6 → ∀ H3, H3 = fl_up H 101 (fl_w a2).toNat (H 100 (fl_w a2).toNat) → ∀ m, m < N → hd_GoodsBookModel_keepBest_94_7 (cm_pg X xs) m H3 (a2 + 1) Q)))) : hd_GoodsBookModel_keepBest_94_7 (cm_pg X xs) N H a2 Q :=
 fun lv h0 h2 =>
 vt_iload_n rfl h2
 (vt_bipush (v := 6) rfl (by decide)
 (vt_icmp rfl (fun hc1 => vt_retv rfl (W.1 hc1)) (fun hc1 => vt_aload_n rfl h0 rfl
 (vt_getr rfl rfl rfl
 (vt_iload_n rfl h2
 (vt_aload_n rfl h0 rfl
 (vt_getr rfl rfl rfl
 (vt_iload_n rfl h2
 (vt_iald rfl rfl (fun hf2 => vt_iast rfl rfl (fun hf5 => vt_nm (fun H3 e4 => vt_iincA rfl h2 (fun hl6 => vt_gotoS rfl (fun m hm => ((((W.2 hc1) hf2) hf5 H3 e4) m hm) _ (fl_lsn (by decide) h0) (fl_lse hl6)))))))))))))))
theorem ve_GoodsBookModel_keepBest_94 {X : Term} {xs : List Int32} {N : Nat} {H : fl_H} {a1 : Int} {Q : Option Int → fl_H → Prop} (W : ∀ H1, H1 = fl_up H 94 8 a1 → (hd_GoodsBookModel_keepBest_94_7 (cm_pg X xs) N H1 0 Q))  : ck (cm_pg X xs) N cm_m195 [.index 94, fl_t a1] H Q :=
  vt_aload_n rfl rfl rfl
 (vt_iload_n rfl rfl
 (vt_putf rfl rfl rfl (vt_nm (fun H1 e2 => vt_iconst rfl
 (vt_istore_n rfl
 ((W H1 e2) _ rfl rfl))))))
def hd_GoodsBookModel_worthOf_94_4 (P : cm_G) (N : Nat) (H : fl_H) (a1 : Int) (a2 : Int) (Q : Option Int → fl_H → Prop) : Prop := ∀ lv : cm_Lv, cm_nth lv 0 = some (some (.index 94)) → cm_nth lv 1 = some (some (fl_t a1)) → cm_nth lv 2 = some (some (fl_t a2)) → vt P N cm_m183 4 lv [] H Q
def hd_GoodsBookModel_worthOf_94_30 (P : cm_G) (N : Nat) (H : fl_H) (a1 : Int) (a2 : Int) (Q : Option Int → fl_H → Prop) : Prop := ∀ lv : cm_Lv, cm_nth lv 0 = some (some (.index 94)) → cm_nth lv 1 = some (some (fl_t a1)) → cm_nth lv 2 = some (some (fl_t a2)) → vt P N cm_m183 30 lv [] H Q
def hd_GoodsBookModel_worthOf_94_63 (P : cm_G) (N : Nat) (H : fl_H) (a1 : Int) (a2 : Int) (a3 : Int) (Q : Option Int → fl_H → Prop) : Prop := ∀ lv : cm_Lv, cm_nth lv 0 = some (some (.index 94)) → cm_nth lv 1 = some (some (fl_t a1)) → cm_nth lv 2 = some (some (fl_t a2)) → cm_nth lv 3 = some (some (fl_t a3)) → vt P N cm_m183 63 lv [] H Q
theorem vh_GoodsBookModel_worthOf_94_4 {X : Term} {xs : List Int32} {N : Nat} {H : fl_H} {a1 : Int} {a2 : Int} {Q : Option Int → fl_H → Prop} (W : ((fl_w (H 95 1) ≤ fl_w a2) → hd_GoodsBookModel_worthOf_94_30 (cm_pg X xs) N H a1 0 Q) ∧ (¬ (fl_w (H 95 1) ≤ fl_w a2) → ∀ m, m < N → ck (cm_pg X xs) m cm_m181 [.index 94, fl_t a2] H (fun r H3 => ∃ x5, r = some x5 ∧ (∀ m, m < N → hd_GoodsBookModel_worthOf_94_4 (cm_pg X xs) m H3 (a1 + x5) (a2 + 1) Q)))) : hd_GoodsBookModel_worthOf_94_4 (cm_pg X xs) N H a1 a2 Q :=
 fun lv h0 h1 h2 =>
 vt_iload_n rfl h2
 (vt_aload_n rfl h0 rfl
 (vt_getr rfl rfl rfl
 (vt_iconst rfl
 (vt_ialdN 1 rfl rfl rfl
 (vt_icmp rfl (fun hc1 => vt_iconst rfl
 (vt_istore_nA rfl (fun hl2 => (W.1 hc1) _ (fl_lsn (by decide) h0) (fl_lsn (by decide) h1) (fl_lse hl2)))) (fun hc1 => vt_iload_n rfl h1
 (vt_aload_n rfl h0 rfl
 (vt_iload_n rfl h2
 (vt_callV rfl rfl (fun _ => rfl) (fun m hm => vt_int ((W.2 hc1) m hm) (fun x5 H3 w4 => vt_iadd rfl
 (vt_istore_nA rfl (fun hl6 => vt_iincA rfl (fl_lsn (by decide) h2) (fun hl7 => vt_gotoS rfl (fun m hm => (w4 m hm) _ (fl_lsn (by decide) (fl_lsn (by decide) h0)) (fl_lsn (by decide) (fl_lse hl6)) (fl_lse hl7))))))))))))))))
theorem vh_GoodsBookModel_worthOf_94_30 {X : Term} {xs : List Int32} {N : Nat} {H : fl_H} {a1 : Int} {a2 : Int} {Q : Option Int → fl_H → Prop} (W : ((fl_w (H 95 2) ≤ fl_w a2) → hd_GoodsBookModel_worthOf_94_63 (cm_pg X xs) N H a1 0 0 Q) ∧ (¬ (fl_w (H 95 2) ≤ fl_w a2) → ∀ m, m < N → ck (cm_pg X xs) m cm_m182 [.index 94, fl_t (68 + (4 * a2))] H (fun r H4 => ∃ x6, r = some x6 ∧ (∀ m, m < N → hd_GoodsBookModel_worthOf_94_30 (cm_pg X xs) m H4 (a1 + x6) (a2 + 1) Q)))) : hd_GoodsBookModel_worthOf_94_30 (cm_pg X xs) N H a1 a2 Q :=
 fun lv h0 h1 h2 =>
 vt_iload_n rfl h2
 (vt_aload_n rfl h0 rfl
 (vt_getr rfl rfl rfl
 (vt_iconst rfl
 (vt_ialdN 2 rfl rfl rfl
 (vt_icmp rfl (fun hc1 => vt_iconst rfl
 (vt_istore_nA rfl (fun hl2 => vt_iconst rfl
 (vt_istore_nA rfl (fun hl3 => (W.1 hc1) _ (fl_lsn (by decide) (fl_lsn (by decide) h0)) (fl_lsn (by decide) (fl_lsn (by decide) h1)) (fl_lsn (by decide) (fl_lse hl2)) (fl_lse hl3)))))) (fun hc1 => vt_iload_n rfl h1
 (vt_aload_n rfl h0 rfl
 (vt_bipush (v := 68) rfl (by decide)
 (vt_iconst rfl
 (vt_iload_n rfl h2
 (vt_imul rfl
 (vt_iadd rfl
 (vt_callV rfl rfl (fun _ => rfl) (fun m hm => vt_int ((W.2 hc1) m hm) (fun x6 H4 w5 => vt_iadd rfl
 (vt_istore_nA rfl (fun hl7 => vt_iincA rfl (fl_lsn (by decide) h2) (fun hl8 => vt_gotoS rfl (fun m hm => (w5 m hm) _ (fl_lsn (by decide) (fl_lsn (by decide) h0)) (fl_lsn (by decide) (fl_lse hl7)) (fl_lse hl8))))))))))))))))))))
theorem vh_GoodsBookModel_worthOf_94_63 {X : Term} {xs : List Int32} {N : Nat} {H : fl_H} {a1 : Int} {a2 : Int} {a3 : Int} {Q : Option Int → fl_H → Prop} (W : ((fl_w (H 95 0) ≤ fl_w a3) → Q (some ((a1 - ((60 * (H 95 5)) * a2)) - ((60 * (H 95 6)) * (fl_div (a2 + 1) 2)))) H) ∧ (¬ (fl_w (H 95 0) ≤ fl_w a3) → ∀ m, m < N → ck (cm_pg X xs) m cm_m178 [.index 94, fl_t a3] H (fun r H2 => ∃ x4, r = some x4 ∧ (((fl_w x4 ≤ 0) → ∀ m, m < N → hd_GoodsBookModel_worthOf_94_63 (cm_pg X xs) m H2 a1 (a2 + 0) (a3 + 1) Q) ∧ (¬ (fl_w x4 ≤ 0) → ∀ m, m < N → hd_GoodsBookModel_worthOf_94_63 (cm_pg X xs) m H2 a1 (a2 + 1) (a3 + 1) Q))))) : hd_GoodsBookModel_worthOf_94_63 (cm_pg X xs) N H a1 a2 a3 Q :=
 fun lv h0 h1 h2 h3 =>
 vt_iload_n rfl h3
 (vt_aload_n rfl h0 rfl
 (vt_getr rfl rfl rfl
 (vt_iconst rfl
 (vt_ialdN 0 rfl rfl rfl
 (vt_icmp rfl (fun hc1 => vt_iload_n rfl h1
 (vt_bipush (v := 60) rfl (by decide)
 (vt_aload_n rfl h0 rfl
 (vt_getr rfl rfl rfl
 (vt_iconst rfl
 (vt_ialdN 5 rfl rfl rfl
 (vt_imul rfl
 (vt_iload_n rfl h2
 (vt_imul rfl
 (vt_isub rfl
 (vt_bipush (v := 60) rfl (by decide)
 (vt_aload_n rfl h0 rfl
 (vt_getr rfl rfl rfl
 (vt_bipush (v := 6) rfl (by decide)
 (vt_ialdN 6 rfl rfl rfl
 (vt_imul rfl
 (vt_iload_n rfl h2
 (vt_iconst rfl
 (vt_iadd rfl
 (vt_iconst rfl
 (vt_idiv rfl
 (vt_imul rfl
 (vt_isub rfl
 (vt_ret rfl (W.1 hc1))))))))))))))))))))))))) (fun hc1 => vt_iload_n rfl h2
 (vt_aload_n rfl h0 rfl
 (vt_iload_n rfl h3
 (vt_callV rfl rfl (fun _ => rfl) (fun m hm => vt_int ((W.2 hc1) m hm) (fun x4 H2 w3 => vt_ifc rfl (fun hc5 => vt_iconst rfl
 (vt_iadd rfl
 (vt_istore_nA rfl (fun hl6 => vt_iincA rfl (fl_lsn (by decide) h3) (fun hl7 => vt_gotoS rfl (fun m hm => ((w3.1 hc5) m hm) _ (fl_lsn (by decide) (fl_lsn (by decide) h0)) (fl_lsn (by decide) (fl_lsn (by decide) h1)) (fl_lsn (by decide) (fl_lse hl6)) (fl_lse hl7))))))) (fun hc5 => vt_iconst rfl
 (vt_goto rfl
 (vt_iadd rfl
 (vt_istore_nA rfl (fun hl8 => vt_iincA rfl (fl_lsn (by decide) h3) (fun hl9 => vt_gotoS rfl (fun m hm => ((w3.2 hc5) m hm) _ (fl_lsn (by decide) (fl_lsn (by decide) h0)) (fl_lsn (by decide) (fl_lsn (by decide) h1)) (fl_lsn (by decide) (fl_lse hl8)) (fl_lse hl9)))))))))))))))))))
theorem ve_GoodsBookModel_worthOf_94 {X : Term} {xs : List Int32} {N : Nat} {H : fl_H} {Q : Option Int → fl_H → Prop} (W : hd_GoodsBookModel_worthOf_94_4 (cm_pg X xs) N H 0 0 Q)  : ck (cm_pg X xs) N cm_m183 [.index 94] H Q :=
  vt_iconst rfl
 (vt_istore_n rfl
 (vt_iconst rfl
 (vt_istore_n rfl
 (W _ rfl rfl rfl))))
def hd_GoodsBookModel_onPage_94_4 (P : cm_G) (N : Nat) (H : fl_H) (a1 : Int) (a2 : Int) (a3 : Int) (Q : Option Int → fl_H → Prop) : Prop := ∀ lv : cm_Lv, cm_nth lv 0 = some (some (.index 94)) → cm_nth lv 1 = some (some (fl_t a1)) → cm_nth lv 2 = some (some (fl_t a2)) → cm_nth lv 3 = some (some (fl_t a3)) → vt P N cm_m178 4 lv [] H Q
theorem vh_GoodsBookModel_onPage_94_4 {X : Term} {xs : List Int32} {N : Nat} {H : fl_H} {a1 : Int} {a2 : Int} {a3 : Int} {Q : Option Int → fl_H → Prop} (W : ((fl_w (H 95 1) ≤ fl_w a3) → Q (some a2) H) ∧ (¬ (fl_w (H 95 1) ≤ fl_w a3) → (0 ≤ fl_w a3 ∧ fl_w a3 < 6 → ∀ m, m < N → ck (cm_pg X xs) m cm_m151 [fl_t (H 100 (fl_w a3).toNat)] H (fun r H3 => ∃ x5, r = some x5 ∧ ((fl_w x5 = fl_w a1 → ∀ m, m < N → hd_GoodsBookModel_onPage_94_4 (cm_pg X xs) m H3 a1 (a2 + 1) (a3 + 1) Q) ∧ (¬ fl_w x5 = fl_w a1 → ∀ m, m < N → hd_GoodsBookModel_onPage_94_4 (cm_pg X xs) m H3 a1 (a2 + 0) (a3 + 1) Q)))))) : hd_GoodsBookModel_onPage_94_4 (cm_pg X xs) N H a1 a2 a3 Q :=
 fun lv h0 h1 h2 h3 =>
 vt_iload_n rfl h3
 (vt_aload_n rfl h0 rfl
 (vt_getr rfl rfl rfl
 (vt_iconst rfl
 (vt_ialdN 1 rfl rfl rfl
 (vt_icmp rfl (fun hc1 => vt_iload_n rfl h2
 (vt_ret rfl (W.1 hc1))) (fun hc1 => vt_iload_n rfl h2
 (vt_aload_n rfl h0 rfl
 (vt_getr rfl rfl rfl
 (vt_iload_n rfl h3
 (vt_iald rfl rfl (fun hf2 => vt_callS rfl rfl (fun _ => rfl) (fun m hm => vt_int (((W.2 hc1) hf2) m hm) (fun x5 H3 w4 => vt_iload_n rfl h1
 (vt_icmpN rfl (fun hc6 => vt_iconst rfl
 (vt_iadd rfl
 (vt_istore_nA rfl (fun hl9 => vt_iincA rfl (fl_lsn (by decide) h3) (fun hl10 => vt_gotoS rfl (fun m hm => ((w4.2 hc6) m hm) _ (fl_lsn (by decide) (fl_lsn (by decide) h0)) (fl_lsn (by decide) (fl_lsn (by decide) h1)) (fl_lsn (by decide) (fl_lse hl9)) (fl_lse hl10))))))) (fun hc6 => vt_iconst rfl
 (vt_goto rfl
 (vt_iadd rfl
 (vt_istore_nA rfl (fun hl7 => vt_iincA rfl (fl_lsn (by decide) h3) (fun hl8 => vt_gotoS rfl (fun m hm => ((w4.1 hc6) m hm) _ (fl_lsn (by decide) (fl_lsn (by decide) h0)) (fl_lsn (by decide) (fl_lsn (by decide) h1)) (fl_lsn (by decide) (fl_lse hl7)) (fl_lse hl8))))))))))))))))))))))
theorem ve_GoodsBookModel_onPage_94 {X : Term} {xs : List Int32} {N : Nat} {H : fl_H} {a1 : Int} {Q : Option Int → fl_H → Prop} (W : hd_GoodsBookModel_onPage_94_4 (cm_pg X xs) N H a1 0 0 Q)  : ck (cm_pg X xs) N cm_m178 [.index 94, fl_t a1] H Q :=
  vt_iconst rfl
 (vt_istore_n rfl
 (vt_iconst rfl
 (vt_istore_n rfl
 (W _ rfl rfl rfl rfl))))
theorem ve_GoodsBookModel_pageOf {X : Term} {xs : List Int32} {N : Nat} {H : fl_H} {a0 : Int} {Q : Option Int → fl_H → Prop} (W : (fl_w a0 = 0 → Q (some (-4)) H) ∧ (¬ fl_w a0 = 0 → Q (some (fl_div (a0 - 1) 2)) H))  : ck (cm_pg X xs) N cm_m151 [fl_t a0] H Q :=
  vt_iload_n rfl rfl
 (vt_ifcN rfl (fun hc1 => vt_iload_n rfl rfl
 (vt_iconst rfl
 (vt_isub rfl
 (vt_iconst rfl
 (vt_idiv rfl
 (vt_ret rfl (W.2 hc1))))))) (fun hc1 => vt_bipush (v := (-4)) rfl (by decide)
 (vt_goto rfl
 (vt_ret rfl (W.1 hc1)))))
theorem ve_GoodsBookModel_extraOf_94 {X : Term} {xs : List Int32} {N : Nat} {H : fl_H} {a1 : Int} {Q : Option Int → fl_H → Prop} (W : (0 ≤ fl_w (a1 + 1) ∧ fl_w (a1 + 1) < 152 → (0 ≤ fl_w (H 95 (fl_w (a1 + 1)).toNat) ∧ fl_w (H 95 (fl_w (a1 + 1)).toNat) < 6 → ∀ m, m < N → ck (cm_pg X xs) m cm_m151 [fl_t (H 100 (fl_w (H 95 (fl_w (a1 + 1)).toNat)).toNat)] H (fun r H3 => ∃ x5, r = some x5 ∧ ((0 ≤ fl_w (a1 + 2) ∧ fl_w (a1 + 2) < 152 → (0 ≤ fl_w (H3 95 (fl_w (a1 + 2)).toNat) ∧ fl_w (H3 95 (fl_w (a1 + 2)).toNat) < 6 → ∀ m, m < N → ck (cm_pg X xs) m cm_m151 [fl_t (H3 100 (fl_w (H3 95 (fl_w (a1 + 2)).toNat)).toNat)] H3 (fun r H8 => ∃ x10, r = some x10 ∧ ((0 ≤ fl_w a1 ∧ fl_w a1 < 152 → ((3 ≤ fl_w (H8 95 (fl_w a1).toNat)) → Q (some 0) H8) ∧ (¬ (3 ≤ fl_w (H8 95 (fl_w a1).toNat)) → ((fl_w x5 < 0) → Q (some 0) H8) ∧ (¬ (fl_w x5 < 0) → ((0 ≤ fl_w x10) → (0 ≤ fl_w a1 ∧ fl_w a1 < 152 → ((fl_w (H8 95 (fl_w a1).toNat) = 2) → (0 ≤ fl_w (10 + x5) ∧ fl_w (10 + x5) < 152 → (0 ≤ fl_w (10 + x10) ∧ fl_w (10 + x10) < 152 → ((fl_w (H8 95 (fl_w (10 + x10)).toNat) ≤ fl_w (H8 95 (fl_w (10 + x5)).toNat)) → (0 ≤ fl_w (10 + x10) ∧ fl_w (10 + x10) < 152 → (0 ≤ fl_w (a1 + 3) ∧ fl_w (a1 + 3) < 152 → Q (some ((H8 95 (fl_w (a1 + 3)).toNat) * (H8 95 (fl_w (10 + x10)).toNat))) H8))) ∧ (¬ (fl_w (H8 95 (fl_w (10 + x10)).toNat) ≤ fl_w (H8 95 (fl_w (10 + x5)).toNat)) → (0 ≤ fl_w (10 + x5) ∧ fl_w (10 + x5) < 152 → (0 ≤ fl_w (a1 + 3) ∧ fl_w (a1 + 3) < 152 → Q (some ((H8 95 (fl_w (a1 + 3)).toNat) * (H8 95 (fl_w (10 + x5)).toNat))) H8)))))) ∧ (¬ (fl_w (H8 95 (fl_w a1).toNat) = 2) → (0 ≤ fl_w a1 ∧ fl_w a1 < 152 → (fl_w (H8 95 (fl_w a1).toNat) = 1 → (fl_w (x5 + x10) = 3 → ((fl_w x5 = fl_w x10) → (0 ≤ fl_w (10 + x5) ∧ fl_w (10 + x5) < 152 → (0 ≤ fl_w (10 + x10) ∧ fl_w (10 + x10) < 152 → ((fl_w (H8 95 (fl_w (10 + x10)).toNat) ≤ fl_w (H8 95 (fl_w (10 + x5)).toNat)) → (0 ≤ fl_w (10 + x10) ∧ fl_w (10 + x10) < 152 → Q (some 0) H8)) ∧ (¬ (fl_w (H8 95 (fl_w (10 + x10)).toNat) ≤ fl_w (H8 95 (fl_w (10 + x5)).toNat)) → (0 ≤ fl_w (10 + x5) ∧ fl_w (10 + x5) < 152 → Q (some 0) H8))))) ∧ (¬ (fl_w x5 = fl_w x10) → ((fl_w x5 ≤ 0) → (0 ≤ fl_w (10 + x5) ∧ fl_w (10 + x5) < 152 → (0 ≤ fl_w (10 + x10) ∧ fl_w (10 + x10) < 152 → ((fl_w (H8 95 (fl_w (10 + x10)).toNat) ≤ fl_w (H8 95 (fl_w (10 + x5)).toNat)) → (0 ≤ fl_w (10 + x10) ∧ fl_w (10 + x10) < 152 → Q (some 0) H8)) ∧ (¬ (fl_w (H8 95 (fl_w (10 + x10)).toNat) ≤ fl_w (H8 95 (fl_w (10 + x5)).toNat)) → (0 ≤ fl_w (10 + x5) ∧ fl_w (10 + x5) < 152 → Q (some 0) H8))))) ∧ (¬ (fl_w x5 ≤ 0) → ((fl_w x10 ≤ 0) → (0 ≤ fl_w (10 + x5) ∧ fl_w (10 + x5) < 152 → (0 ≤ fl_w (10 + x10) ∧ fl_w (10 + x10) < 152 → ((fl_w (H8 95 (fl_w (10 + x10)).toNat) ≤ fl_w (H8 95 (fl_w (10 + x5)).toNat)) → (0 ≤ fl_w (10 + x10) ∧ fl_w (10 + x10) < 152 → Q (some 0) H8)) ∧ (¬ (fl_w (H8 95 (fl_w (10 + x10)).toNat) ≤ fl_w (H8 95 (fl_w (10 + x5)).toNat)) → (0 ≤ fl_w (10 + x5) ∧ fl_w (10 + x5) < 152 → Q (some 0) H8))))) ∧ (¬ (fl_w x10 ≤ 0) → (0 ≤ fl_w (10 + x5) ∧ fl_w (10 + x5) < 152 → (0 ≤ fl_w (10 + x10) ∧ fl_w (10 + x10) < 152 → ((fl_w (H8 95 (fl_w (10 + x10)).toNat) ≤ fl_w (H8 95 (fl_w (10 + x5)).toNat)) → (0 ≤ fl_w (10 + x10) ∧ fl_w (10 + x10) < 152 → (0 ≤ fl_w (a1 + 3) ∧ fl_w (a1 + 3) < 152 → Q (some ((H8 95 (fl_w (a1 + 3)).toNat) * (H8 95 (fl_w (10 + x10)).toNat))) H8))) ∧ (¬ (fl_w (H8 95 (fl_w (10 + x10)).toNat) ≤ fl_w (H8 95 (fl_w (10 + x5)).toNat)) → (0 ≤ fl_w (10 + x5) ∧ fl_w (10 + x5) < 152 → (0 ≤ fl_w (a1 + 3) ∧ fl_w (a1 + 3) < 152 → Q (some ((H8 95 (fl_w (a1 + 3)).toNat) * (H8 95 (fl_w (10 + x5)).toNat))) H8))))))))) ∧ (¬ fl_w (x5 + x10) = 3 → (0 ≤ fl_w (10 + x5) ∧ fl_w (10 + x5) < 152 → (0 ≤ fl_w (10 + x10) ∧ fl_w (10 + x10) < 152 → ((fl_w (H8 95 (fl_w (10 + x10)).toNat) ≤ fl_w (H8 95 (fl_w (10 + x5)).toNat)) → (0 ≤ fl_w (10 + x10) ∧ fl_w (10 + x10) < 152 → Q (some 0) H8)) ∧ (¬ (fl_w (H8 95 (fl_w (10 + x10)).toNat) ≤ fl_w (H8 95 (fl_w (10 + x5)).toNat)) → (0 ≤ fl_w (10 + x5) ∧ fl_w (10 + x5) < 152 → Q (some 0) H8)))))) ∧ (¬ fl_w (H8 95 (fl_w a1).toNat) = 1 → (fl_w x5 = fl_w x10 → (0 ≤ fl_w (10 + x5) ∧ fl_w (10 + x5) < 152 → (0 ≤ fl_w (10 + x10) ∧ fl_w (10 + x10) < 152 → ((fl_w (H8 95 (fl_w (10 + x10)).toNat) ≤ fl_w (H8 95 (fl_w (10 + x5)).toNat)) → (0 ≤ fl_w (10 + x10) ∧ fl_w (10 + x10) < 152 → (0 ≤ fl_w (a1 + 3) ∧ fl_w (a1 + 3) < 152 → Q (some ((H8 95 (fl_w (a1 + 3)).toNat) * (H8 95 (fl_w (10 + x10)).toNat))) H8))) ∧ (¬ (fl_w (H8 95 (fl_w (10 + x10)).toNat) ≤ fl_w (H8 95 (fl_w (10 + x5)).toNat)) → (0 ≤ fl_w (10 + x5) ∧ fl_w (10 + x5) < 152 → (0 ≤ fl_w (a1 + 3) ∧ fl_w (a1 + 3) < 152 → Q (some ((H8 95 (fl_w (a1 + 3)).toNat) * (H8 95 (fl_w (10 + x5)).toNat))) H8)))))) ∧ (¬ fl_w x5 = fl_w x10 → (0 ≤ fl_w (10 + x5) ∧ fl_w (10 + x5) < 152 → (0 ≤ fl_w (10 + x10) ∧ fl_w (10 + x10) < 152 → ((fl_w (H8 95 (fl_w (10 + x10)).toNat) ≤ fl_w (H8 95 (fl_w (10 + x5)).toNat)) → (0 ≤ fl_w (10 + x10) ∧ fl_w (10 + x10) < 152 → Q (some 0) H8)) ∧ (¬ (fl_w (H8 95 (fl_w (10 + x10)).toNat) ≤ fl_w (H8 95 (fl_w (10 + x5)).toNat)) → (0 ≤ fl_w (10 + x5) ∧ fl_w (10 + x5) < 152 → Q (some 0) H8)))))))))) ∧ (¬ (0 ≤ fl_w x10) → Q (some 0) H8)))))))))))))  : ck (cm_pg X xs) N cm_m182 [.index 94, fl_t a1] H Q :=
  vt_aload_n rfl rfl rfl
 (vt_getr rfl rfl rfl
 (vt_aload_n rfl rfl rfl
 (vt_getr rfl rfl rfl
 (vt_iload_n rfl rfl
 (vt_iconst rfl
 (vt_iadd rfl
 (vt_iald rfl rfl (fun hf1 => vt_iald rfl rfl (fun hf2 => vt_callS rfl rfl (fun _ => rfl) (fun m hm => vt_int (((W hf1) hf2) m hm) (fun x5 H3 w4 => vt_istore_n rfl
 (vt_aload_n rfl rfl rfl
 (vt_getr rfl rfl rfl
 (vt_aload_n rfl rfl rfl
 (vt_getr rfl rfl rfl
 (vt_iload_n rfl rfl
 (vt_iconst rfl
 (vt_iadd rfl
 (vt_iald rfl rfl (fun hf6 => vt_iald rfl rfl (fun hf7 => vt_callS rfl rfl (fun _ => rfl) (fun m hm => vt_int (((w4 hf6) hf7) m hm) (fun x10 H8 w9 => vt_istore_n rfl
 (vt_aload_n rfl rfl rfl
 (vt_getr rfl rfl rfl
 (vt_iload_n rfl rfl
 (vt_iald rfl rfl (fun hf11 => vt_iconst rfl
 (vt_icmp rfl (fun hc12 => vt_iconst rfl
 (vt_ret rfl ((w9 hf11).1 hc12))) (fun hc12 => vt_iload_n rfl rfl
 (vt_ifc rfl (fun hc13 => vt_iconst rfl
 (vt_ret rfl (((w9 hf11).2 hc12).1 hc13))) (fun hc13 => vt_iload_n rfl rfl
 (vt_ifc rfl (fun hc14 => vt_aload_n rfl rfl rfl
 (vt_getr rfl rfl rfl
 (vt_iload_n rfl rfl
 (vt_iald rfl rfl (fun hf15 => vt_iconst rfl
 (vt_icmp rfl (fun hc16 => vt_iconst rfl
 (vt_goto rfl
 (vt_istore rfl
 (vt_aload_n rfl rfl rfl
 (vt_getr rfl rfl rfl
 (vt_bipush (v := 10) rfl (by decide)
 (vt_iload_n rfl rfl
 (vt_iadd rfl
 (vt_iald rfl rfl (fun hf17 => vt_aload_n rfl rfl rfl
 (vt_getr rfl rfl rfl
 (vt_bipush (v := 10) rfl (by decide)
 (vt_iload_n rfl rfl
 (vt_iadd rfl
 (vt_iald rfl rfl (fun hf18 => vt_icmp rfl (fun hc19 => vt_aload_n rfl rfl rfl
 (vt_getr rfl rfl rfl
 (vt_bipush (v := 10) rfl (by decide)
 (vt_iload_n rfl rfl
 (vt_iadd rfl
 (vt_iald rfl rfl (fun hf20 => vt_istore rfl
 (vt_iload rfl rfl
 (vt_ifc (a := 1) rfl (fun hc21 => by exact absurd (show (1 : Int) = 0 from hc21) (by decide)) (fun _ => vt_aload_n rfl rfl rfl
 (vt_getr rfl rfl rfl
 (vt_iload_n rfl rfl
 (vt_iconst rfl
 (vt_iadd rfl
 (vt_iald rfl rfl (fun hf22 => vt_iload rfl rfl
 (vt_imul rfl
 (vt_goto rfl
 (vt_ret rfl (((((((((((w9 hf11).2 hc12).2 hc13).1 hc14) hf15).1 hc16) hf17) hf18).1 hc19) hf20) hf22)))))))))))))))))))) (fun hc19 => vt_aload_n rfl rfl rfl
 (vt_getr rfl rfl rfl
 (vt_bipush (v := 10) rfl (by decide)
 (vt_iload_n rfl rfl
 (vt_iadd rfl
 (vt_iald rfl rfl (fun hf23 => vt_goto rfl
 (vt_istore rfl
 (vt_iload rfl rfl
 (vt_ifc (a := 1) rfl (fun hc24 => by exact absurd (show (1 : Int) = 0 from hc24) (by decide)) (fun _ => vt_aload_n rfl rfl rfl
 (vt_getr rfl rfl rfl
 (vt_iload_n rfl rfl
 (vt_iconst rfl
 (vt_iadd rfl
 (vt_iald rfl rfl (fun hf25 => vt_iload rfl rfl
 (vt_imul rfl
 (vt_goto rfl
 (vt_ret rfl (((((((((((w9 hf11).2 hc12).2 hc13).1 hc14) hf15).1 hc16) hf17) hf18).2 hc19) hf23) hf25))))))))))))))))))))))))))))))))))))) (fun hc16 => vt_aload_n rfl rfl rfl
 (vt_getr rfl rfl rfl
 (vt_iload_n rfl rfl
 (vt_iald rfl rfl (fun hf26 => vt_iconst rfl
 (vt_icmpN rfl (fun hc27 => vt_iload_n rfl rfl
 (vt_iload_n rfl rfl
 (vt_icmpN rfl (fun hc69 => vt_iconst rfl
 (vt_istore rfl
 (vt_aload_n rfl rfl rfl
 (vt_getr rfl rfl rfl
 (vt_bipush (v := 10) rfl (by decide)
 (vt_iload_n rfl rfl
 (vt_iadd rfl
 (vt_iald rfl rfl (fun hf79 => vt_aload_n rfl rfl rfl
 (vt_getr rfl rfl rfl
 (vt_bipush (v := 10) rfl (by decide)
 (vt_iload_n rfl rfl
 (vt_iadd rfl
 (vt_iald rfl rfl (fun hf80 => vt_icmp rfl (fun hc81 => vt_aload_n rfl rfl rfl
 (vt_getr rfl rfl rfl
 (vt_bipush (v := 10) rfl (by decide)
 (vt_iload_n rfl rfl
 (vt_iadd rfl
 (vt_iald rfl rfl (fun hf82 => vt_istore rfl
 (vt_iload rfl rfl
 (vt_ifc (a := 0) rfl (fun _ => vt_iconst rfl
 (vt_ret rfl (((((((((((((w9 hf11).2 hc12).2 hc13).1 hc14) hf15).2 hc16) hf26).2 hc27).2 hc69) hf79) hf80).1 hc81) hf82))) (fun hc83 => by exact absurd (show (0 : Int) = 0 by decide) hc83)))))))))) (fun hc81 => vt_aload_n rfl rfl rfl
 (vt_getr rfl rfl rfl
 (vt_bipush (v := 10) rfl (by decide)
 (vt_iload_n rfl rfl
 (vt_iadd rfl
 (vt_iald rfl rfl (fun hf84 => vt_goto rfl
 (vt_istore rfl
 (vt_iload rfl rfl
 (vt_ifc (a := 0) rfl (fun _ => vt_iconst rfl
 (vt_ret rfl (((((((((((((w9 hf11).2 hc12).2 hc13).1 hc14) hf15).2 hc16) hf26).2 hc27).2 hc69) hf79) hf80).2 hc81) hf84))) (fun hc85 => by exact absurd (show (0 : Int) = 0 by decide) hc85)))))))))))))))))))))))))) (fun hc69 => vt_iconst rfl
 (vt_goto rfl
 (vt_istore rfl
 (vt_aload_n rfl rfl rfl
 (vt_getr rfl rfl rfl
 (vt_bipush (v := 10) rfl (by decide)
 (vt_iload_n rfl rfl
 (vt_iadd rfl
 (vt_iald rfl rfl (fun hf70 => vt_aload_n rfl rfl rfl
 (vt_getr rfl rfl rfl
 (vt_bipush (v := 10) rfl (by decide)
 (vt_iload_n rfl rfl
 (vt_iadd rfl
 (vt_iald rfl rfl (fun hf71 => vt_icmp rfl (fun hc72 => vt_aload_n rfl rfl rfl
 (vt_getr rfl rfl rfl
 (vt_bipush (v := 10) rfl (by decide)
 (vt_iload_n rfl rfl
 (vt_iadd rfl
 (vt_iald rfl rfl (fun hf73 => vt_istore rfl
 (vt_iload rfl rfl
 (vt_ifc (a := 1) rfl (fun hc74 => by exact absurd (show (1 : Int) = 0 from hc74) (by decide)) (fun _ => vt_aload_n rfl rfl rfl
 (vt_getr rfl rfl rfl
 (vt_iload_n rfl rfl
 (vt_iconst rfl
 (vt_iadd rfl
 (vt_iald rfl rfl (fun hf75 => vt_iload rfl rfl
 (vt_imul rfl
 (vt_goto rfl
 (vt_ret rfl ((((((((((((((w9 hf11).2 hc12).2 hc13).1 hc14) hf15).2 hc16) hf26).2 hc27).1 hc69) hf70) hf71).1 hc72) hf73) hf75)))))))))))))))))))) (fun hc72 => vt_aload_n rfl rfl rfl
 (vt_getr rfl rfl rfl
 (vt_bipush (v := 10) rfl (by decide)
 (vt_iload_n rfl rfl
 (vt_iadd rfl
 (vt_iald rfl rfl (fun hf76 => vt_goto rfl
 (vt_istore rfl
 (vt_iload rfl rfl
 (vt_ifc (a := 1) rfl (fun hc77 => by exact absurd (show (1 : Int) = 0 from hc77) (by decide)) (fun _ => vt_aload_n rfl rfl rfl
 (vt_getr rfl rfl rfl
 (vt_iload_n rfl rfl
 (vt_iconst rfl
 (vt_iadd rfl
 (vt_iald rfl rfl (fun hf78 => vt_iload rfl rfl
 (vt_imul rfl
 (vt_goto rfl
 (vt_ret rfl ((((((((((((((w9 hf11).2 hc12).2 hc13).1 hc14) hf15).2 hc16) hf26).2 hc27).1 hc69) hf70) hf71).2 hc72) hf76) hf78)))))))))))))))))))))))))))))))))))))))) (fun hc27 => vt_iload_n rfl rfl
 (vt_iload_n rfl rfl
 (vt_iadd rfl
 (vt_iconst rfl
 (vt_icmpN rfl (fun hc28 => vt_iconst rfl
 (vt_istore rfl
 (vt_aload_n rfl rfl rfl
 (vt_getr rfl rfl rfl
 (vt_bipush (v := 10) rfl (by decide)
 (vt_iload_n rfl rfl
 (vt_iadd rfl
 (vt_iald rfl rfl (fun hf62 => vt_aload_n rfl rfl rfl
 (vt_getr rfl rfl rfl
 (vt_bipush (v := 10) rfl (by decide)
 (vt_iload_n rfl rfl
 (vt_iadd rfl
 (vt_iald rfl rfl (fun hf63 => vt_icmp rfl (fun hc64 => vt_aload_n rfl rfl rfl
 (vt_getr rfl rfl rfl
 (vt_bipush (v := 10) rfl (by decide)
 (vt_iload_n rfl rfl
 (vt_iadd rfl
 (vt_iald rfl rfl (fun hf65 => vt_istore rfl
 (vt_iload rfl rfl
 (vt_ifc (a := 0) rfl (fun _ => vt_iconst rfl
 (vt_ret rfl (((((((((((((w9 hf11).2 hc12).2 hc13).1 hc14) hf15).2 hc16) hf26).1 hc27).2 hc28) hf62) hf63).1 hc64) hf65))) (fun hc66 => by exact absurd (show (0 : Int) = 0 by decide) hc66)))))))))) (fun hc64 => vt_aload_n rfl rfl rfl
 (vt_getr rfl rfl rfl
 (vt_bipush (v := 10) rfl (by decide)
 (vt_iload_n rfl rfl
 (vt_iadd rfl
 (vt_iald rfl rfl (fun hf67 => vt_goto rfl
 (vt_istore rfl
 (vt_iload rfl rfl
 (vt_ifc (a := 0) rfl (fun _ => vt_iconst rfl
 (vt_ret rfl (((((((((((((w9 hf11).2 hc12).2 hc13).1 hc14) hf15).2 hc16) hf26).1 hc27).2 hc28) hf62) hf63).2 hc64) hf67))) (fun hc68 => by exact absurd (show (0 : Int) = 0 by decide) hc68)))))))))))))))))))))))))) (fun hc28 => vt_iload_n rfl rfl
 (vt_iload_n rfl rfl
 (vt_icmp rfl (fun hc29 => vt_iconst rfl
 (vt_istore rfl
 (vt_aload_n rfl rfl rfl
 (vt_getr rfl rfl rfl
 (vt_bipush (v := 10) rfl (by decide)
 (vt_iload_n rfl rfl
 (vt_iadd rfl
 (vt_iald rfl rfl (fun hf30 => vt_aload_n rfl rfl rfl
 (vt_getr rfl rfl rfl
 (vt_bipush (v := 10) rfl (by decide)
 (vt_iload_n rfl rfl
 (vt_iadd rfl
 (vt_iald rfl rfl (fun hf31 => vt_icmp rfl (fun hc32 => vt_aload_n rfl rfl rfl
 (vt_getr rfl rfl rfl
 (vt_bipush (v := 10) rfl (by decide)
 (vt_iload_n rfl rfl
 (vt_iadd rfl
 (vt_iald rfl rfl (fun hf33 => vt_istore rfl
 (vt_iload rfl rfl
 (vt_ifc (a := 0) rfl (fun _ => vt_iconst rfl
 (vt_ret rfl ((((((((((((((w9 hf11).2 hc12).2 hc13).1 hc14) hf15).2 hc16) hf26).1 hc27).1 hc28).1 hc29) hf30) hf31).1 hc32) hf33))) (fun hc34 => by exact absurd (show (0 : Int) = 0 by decide) hc34)))))))))) (fun hc32 => vt_aload_n rfl rfl rfl
 (vt_getr rfl rfl rfl
 (vt_bipush (v := 10) rfl (by decide)
 (vt_iload_n rfl rfl
 (vt_iadd rfl
 (vt_iald rfl rfl (fun hf35 => vt_goto rfl
 (vt_istore rfl
 (vt_iload rfl rfl
 (vt_ifc (a := 0) rfl (fun _ => vt_iconst rfl
 (vt_ret rfl ((((((((((((((w9 hf11).2 hc12).2 hc13).1 hc14) hf15).2 hc16) hf26).1 hc27).1 hc28).1 hc29) hf30) hf31).2 hc32) hf35))) (fun hc36 => by exact absurd (show (0 : Int) = 0 by decide) hc36)))))))))))))))))))))))))) (fun hc29 => vt_iload_n rfl rfl
 (vt_ifc rfl (fun hc37 => vt_iconst rfl
 (vt_istore rfl
 (vt_aload_n rfl rfl rfl
 (vt_getr rfl rfl rfl
 (vt_bipush (v := 10) rfl (by decide)
 (vt_iload_n rfl rfl
 (vt_iadd rfl
 (vt_iald rfl rfl (fun hf38 => vt_aload_n rfl rfl rfl
 (vt_getr rfl rfl rfl
 (vt_bipush (v := 10) rfl (by decide)
 (vt_iload_n rfl rfl
 (vt_iadd rfl
 (vt_iald rfl rfl (fun hf39 => vt_icmp rfl (fun hc40 => vt_aload_n rfl rfl rfl
 (vt_getr rfl rfl rfl
 (vt_bipush (v := 10) rfl (by decide)
 (vt_iload_n rfl rfl
 (vt_iadd rfl
 (vt_iald rfl rfl (fun hf41 => vt_istore rfl
 (vt_iload rfl rfl
 (vt_ifc (a := 0) rfl (fun _ => vt_iconst rfl
 (vt_ret rfl (((((((((((((((w9 hf11).2 hc12).2 hc13).1 hc14) hf15).2 hc16) hf26).1 hc27).1 hc28).2 hc29).1 hc37) hf38) hf39).1 hc40) hf41))) (fun hc42 => by exact absurd (show (0 : Int) = 0 by decide) hc42)))))))))) (fun hc40 => vt_aload_n rfl rfl rfl
 (vt_getr rfl rfl rfl
 (vt_bipush (v := 10) rfl (by decide)
 (vt_iload_n rfl rfl
 (vt_iadd rfl
 (vt_iald rfl rfl (fun hf43 => vt_goto rfl
 (vt_istore rfl
 (vt_iload rfl rfl
 (vt_ifc (a := 0) rfl (fun _ => vt_iconst rfl
 (vt_ret rfl (((((((((((((((w9 hf11).2 hc12).2 hc13).1 hc14) hf15).2 hc16) hf26).1 hc27).1 hc28).2 hc29).1 hc37) hf38) hf39).2 hc40) hf43))) (fun hc44 => by exact absurd (show (0 : Int) = 0 by decide) hc44)))))))))))))))))))))))))) (fun hc37 => vt_iload_n rfl rfl
 (vt_ifc rfl (fun hc45 => vt_iconst rfl
 (vt_istore rfl
 (vt_aload_n rfl rfl rfl
 (vt_getr rfl rfl rfl
 (vt_bipush (v := 10) rfl (by decide)
 (vt_iload_n rfl rfl
 (vt_iadd rfl
 (vt_iald rfl rfl (fun hf46 => vt_aload_n rfl rfl rfl
 (vt_getr rfl rfl rfl
 (vt_bipush (v := 10) rfl (by decide)
 (vt_iload_n rfl rfl
 (vt_iadd rfl
 (vt_iald rfl rfl (fun hf47 => vt_icmp rfl (fun hc48 => vt_aload_n rfl rfl rfl
 (vt_getr rfl rfl rfl
 (vt_bipush (v := 10) rfl (by decide)
 (vt_iload_n rfl rfl
 (vt_iadd rfl
 (vt_iald rfl rfl (fun hf49 => vt_istore rfl
 (vt_iload rfl rfl
 (vt_ifc (a := 0) rfl (fun _ => vt_iconst rfl
 (vt_ret rfl ((((((((((((((((w9 hf11).2 hc12).2 hc13).1 hc14) hf15).2 hc16) hf26).1 hc27).1 hc28).2 hc29).2 hc37).1 hc45) hf46) hf47).1 hc48) hf49))) (fun hc50 => by exact absurd (show (0 : Int) = 0 by decide) hc50)))))))))) (fun hc48 => vt_aload_n rfl rfl rfl
 (vt_getr rfl rfl rfl
 (vt_bipush (v := 10) rfl (by decide)
 (vt_iload_n rfl rfl
 (vt_iadd rfl
 (vt_iald rfl rfl (fun hf51 => vt_goto rfl
 (vt_istore rfl
 (vt_iload rfl rfl
 (vt_ifc (a := 0) rfl (fun _ => vt_iconst rfl
 (vt_ret rfl ((((((((((((((((w9 hf11).2 hc12).2 hc13).1 hc14) hf15).2 hc16) hf26).1 hc27).1 hc28).2 hc29).2 hc37).1 hc45) hf46) hf47).2 hc48) hf51))) (fun hc52 => by exact absurd (show (0 : Int) = 0 by decide) hc52)))))))))))))))))))))))))) (fun hc45 => vt_goto rfl
 (vt_iconst rfl
 (vt_goto rfl
 (vt_istore rfl
 (vt_aload_n rfl rfl rfl
 (vt_getr rfl rfl rfl
 (vt_bipush (v := 10) rfl (by decide)
 (vt_iload_n rfl rfl
 (vt_iadd rfl
 (vt_iald rfl rfl (fun hf53 => vt_aload_n rfl rfl rfl
 (vt_getr rfl rfl rfl
 (vt_bipush (v := 10) rfl (by decide)
 (vt_iload_n rfl rfl
 (vt_iadd rfl
 (vt_iald rfl rfl (fun hf54 => vt_icmp rfl (fun hc55 => vt_aload_n rfl rfl rfl
 (vt_getr rfl rfl rfl
 (vt_bipush (v := 10) rfl (by decide)
 (vt_iload_n rfl rfl
 (vt_iadd rfl
 (vt_iald rfl rfl (fun hf56 => vt_istore rfl
 (vt_iload rfl rfl
 (vt_ifc (a := 1) rfl (fun hc57 => by exact absurd (show (1 : Int) = 0 from hc57) (by decide)) (fun _ => vt_aload_n rfl rfl rfl
 (vt_getr rfl rfl rfl
 (vt_iload_n rfl rfl
 (vt_iconst rfl
 (vt_iadd rfl
 (vt_iald rfl rfl (fun hf58 => vt_iload rfl rfl
 (vt_imul rfl
 (vt_goto rfl
 (vt_ret rfl (((((((((((((((((w9 hf11).2 hc12).2 hc13).1 hc14) hf15).2 hc16) hf26).1 hc27).1 hc28).2 hc29).2 hc37).2 hc45) hf53) hf54).1 hc55) hf56) hf58)))))))))))))))))))) (fun hc55 => vt_aload_n rfl rfl rfl
 (vt_getr rfl rfl rfl
 (vt_bipush (v := 10) rfl (by decide)
 (vt_iload_n rfl rfl
 (vt_iadd rfl
 (vt_iald rfl rfl (fun hf59 => vt_goto rfl
 (vt_istore rfl
 (vt_iload rfl rfl
 (vt_ifc (a := 1) rfl (fun hc60 => by exact absurd (show (1 : Int) = 0 from hc60) (by decide)) (fun _ => vt_aload_n rfl rfl rfl
 (vt_getr rfl rfl rfl
 (vt_iload_n rfl rfl
 (vt_iconst rfl
 (vt_iadd rfl
 (vt_iald rfl rfl (fun hf61 => vt_iload rfl rfl
 (vt_imul rfl
 (vt_goto rfl
 (vt_ret rfl (((((((((((((((((w9 hf11).2 hc12).2 hc13).1 hc14) hf15).2 hc16) hf26).1 hc27).1 hc28).2 hc29).2 hc37).2 hc45) hf53) hf54).2 hc55) hf59) hf61)))))))))))))))))))))))))))))))))))))))))))))))))))))))))))))) (fun hc14 => vt_iconst rfl
 (vt_ret rfl ((((w9 hf11).2 hc12).2 hc13).2 hc14))))))))))))))))))))))))))))))))))))
theorem ve_GoodsBookModel_bringsOf_94 {X : Term} {xs : List Int32} {N : Nat} {H : fl_H} {a1 : Int} {Q : Option Int → fl_H → Prop} (W : (0 ≤ fl_w a1 ∧ fl_w a1 < 6 → (fl_w (H 100 (fl_w a1).toNat) = 0 → Q (some 0) H) ∧ (¬ fl_w (H 100 (fl_w a1).toNat) = 0 → (0 ≤ fl_w a1 ∧ fl_w a1 < 6 → ∀ m, m < N → ck (cm_pg X xs) m cm_m151 [fl_t (H 100 (fl_w a1).toNat)] H (fun r H4 => ∃ x6, r = some x6 ∧ ((0 ≤ fl_w (10 + x6) ∧ fl_w (10 + x6) < 152 → (0 ≤ fl_w a1 ∧ fl_w a1 < 6 → ∀ m, m < N → ck (cm_pg X xs) m cm_m154 [.index 94, fl_t a1, fl_t (fl_rem ((H4 100 (fl_w a1).toNat) - 1) 2)] H4 (fun r H9 => ∃ x11, r = some x11 ∧ ((0 ≤ fl_w (14 + (8 * a1)) ∧ fl_w (14 + (8 * a1)) < 152 → (fl_w (H9 95 (fl_w (14 + (8 * a1))).toNat) = 1 → ∀ m, m < N → ck (cm_pg X xs) m cm_m178 [.index 94, fl_t x6] H9 (fun r H14 => ∃ x16, r = some x16 ∧ (Q (some ((x11 * (H4 95 (fl_w (10 + x6)).toNat)) + (((H9 95 4) * (H4 95 (fl_w (10 + x6)).toNat)) * (x16 - 1)))) H14))) ∧ (fl_w (H9 95 (fl_w (14 + (8 * a1))).toNat) = 2 → ∀ m, m < N → ck (cm_pg X xs) m cm_m180 [.index 94, fl_t a1] H9 (fun r H18 => ∃ x20, r = some x20 ∧ (Q (some (fl_div (x11 * (H4 95 (fl_w (10 + x6)).toNat)) (1 + x20))) H18))) ∧ (fl_w (H9 95 (fl_w (14 + (8 * a1))).toNat) = 3 → ∀ m, m < N → ck (cm_pg X xs) m cm_m179 [.index 94, fl_t x6] H9 (fun r H22 => ∃ x24, r = some x24 ∧ ((fl_w x24 = 16 → Q (some (2 * (x11 * (H4 95 (fl_w (10 + x6)).toNat)))) H22) ∧ (¬ fl_w x24 = 16 → Q (some (x11 * (H4 95 (fl_w (10 + x6)).toNat))) H22)))) ∧ (fl_w (H9 95 (fl_w (14 + (8 * a1))).toNat) < 1 ∨ 3 < fl_w (H9 95 (fl_w (14 + (8 * a1))).toNat) → Q (some (x11 * (H4 95 (fl_w (10 + x6)).toNat))) H9))))))))))))  : ck (cm_pg X xs) N cm_m181 [.index 94, fl_t a1] H Q :=
  vt_aload_n rfl rfl rfl
 (vt_getr rfl rfl rfl
 (vt_iload_n rfl rfl
 (vt_iald rfl rfl (fun hf1 => vt_ifcN rfl (fun hc2 => vt_aload_n rfl rfl rfl
 (vt_getr rfl rfl rfl
 (vt_iload_n rfl rfl
 (vt_iald rfl rfl (fun hf3 => vt_callS rfl rfl (fun _ => rfl) (fun m hm => vt_int ((((W hf1).2 hc2) hf3) m hm) (fun x6 H4 w5 => vt_istore_n rfl
 (vt_aload_n rfl rfl rfl
 (vt_getr rfl rfl rfl
 (vt_bipush (v := 10) rfl (by decide)
 (vt_iload_n rfl rfl
 (vt_iadd rfl
 (vt_iald rfl rfl (fun hf7 => vt_istore_n rfl
 (vt_aload_n rfl rfl rfl
 (vt_iload_n rfl rfl
 (vt_aload_n rfl rfl rfl
 (vt_getr rfl rfl rfl
 (vt_iload_n rfl rfl
 (vt_iald rfl rfl (fun hf8 => vt_iconst rfl
 (vt_isub rfl
 (vt_iconst rfl
 (vt_irem rfl
 (vt_callV rfl rfl (fun _ => rfl) (fun m hm => vt_int (((w5 hf7) hf8) m hm) (fun x11 H9 w10 => vt_iload_n rfl rfl
 (vt_imul rfl
 (vt_istore rfl
 (vt_aload_n rfl rfl rfl
 (vt_getr rfl rfl rfl
 (vt_bipush (v := 14) rfl (by decide)
 (vt_bipush (v := 8) rfl (by decide)
 (vt_iload_n rfl rfl
 (vt_imul rfl
 (vt_iadd rfl
 (vt_iald rfl rfl (fun hf12 => if hs13 : fl_w (H9 95 (fl_w (14 + (8 * a1))).toNat) = 1 then vt_swk rfl (vt_sw_in (j := 0) (by omega) (by omega) (by omega) rfl) (vt_iload rfl rfl
 (vt_aload_n rfl rfl rfl
 (vt_getr rfl rfl rfl
 (vt_iconst rfl
 (vt_ialdN 4 rfl rfl rfl
 (vt_iload_n rfl rfl
 (vt_imul rfl
 (vt_aload_n rfl rfl rfl
 (vt_iload_n rfl rfl
 (vt_callV rfl rfl (fun _ => rfl) (fun m hm => vt_int (((w10 hf12).1 hs13) m hm) (fun x16 H14 w15 => vt_iconst rfl
 (vt_isub rfl
 (vt_imul rfl
 (vt_iadd rfl
 (vt_ret rfl w15)))))))))))))))) else if hs17 : fl_w (H9 95 (fl_w (14 + (8 * a1))).toNat) = 2 then vt_swk rfl (vt_sw_in (j := 1) (by omega) (by omega) (by omega) rfl) (vt_iload rfl rfl
 (vt_iconst rfl
 (vt_aload_n rfl rfl rfl
 (vt_iload_n rfl rfl
 (vt_callV rfl rfl (fun _ => rfl) (fun m hm => vt_int (((w10 hf12).2.1 hs17) m hm) (fun x20 H18 w19 => vt_iadd rfl
 (vt_idiv rfl
 (vt_ret rfl w19))))))))) else if hs21 : fl_w (H9 95 (fl_w (14 + (8 * a1))).toNat) = 3 then vt_swk rfl (vt_sw_in (j := 2) (by omega) (by omega) (by omega) rfl) (vt_aload_n rfl rfl rfl
 (vt_iload_n rfl rfl
 (vt_callV rfl rfl (fun _ => rfl) (fun m hm => vt_int (((w10 hf12).2.2.1 hs21) m hm) (fun x24 H22 w23 => vt_bipush (v := 16) rfl (by decide)
 (vt_icmpN rfl (fun hc25 => vt_iload rfl rfl
 (vt_ret rfl (w23.2 hc25))) (fun hc25 => vt_iconst rfl
 (vt_iload rfl rfl
 (vt_imul rfl
 (vt_goto rfl
 (vt_ret rfl (w23.1 hc25)))))))))))) else vt_swk rfl (vt_sw_out (by omega)) (vt_iload rfl rfl
 (vt_ret rfl ((w10 hf12).2.2.2 (by omega)))))))))))))))))))))))))))))))))))))))))) (fun hc2 => vt_iconst rfl
 (vt_ret rfl ((W hf1).1 hc2)))))))
def hd_GoodsBookModel_areaOn_94_4 (P : cm_G) (N : Nat) (H : fl_H) (a1 : Int) (a2 : Int) (a3 : Int) (Q : Option Int → fl_H → Prop) : Prop := ∀ lv : cm_Lv, cm_nth lv 0 = some (some (.index 94)) → cm_nth lv 1 = some (some (fl_t a1)) → cm_nth lv 2 = some (some (fl_t a2)) → cm_nth lv 3 = some (some (fl_t a3)) → vt P N cm_m179 4 lv [] H Q
theorem vh_GoodsBookModel_areaOn_94_4 {X : Term} {xs : List Int32} {N : Nat} {H : fl_H} {a1 : Int} {a2 : Int} {a3 : Int} {Q : Option Int → fl_H → Prop} (W : ((fl_w (H 95 1) ≤ fl_w a3) → Q (some a2) H) ∧ (¬ (fl_w (H 95 1) ≤ fl_w a3) → (0 ≤ fl_w a3 ∧ fl_w a3 < 6 → ∀ m, m < N → ck (cm_pg X xs) m cm_m151 [fl_t (H 100 (fl_w a3).toNat)] H (fun r H3 => ∃ x5, r = some x5 ∧ ((fl_w x5 = fl_w a1 → (0 ≤ fl_w a3 ∧ fl_w a3 < 6 → ∀ m, m < N → ck (cm_pg X xs) m cm_m155 [.index 94, fl_t a3, fl_t (fl_rem ((H3 100 (fl_w a3).toNat) - 1) 2)] H3 (fun r H8 => ∃ x10, r = some x10 ∧ (∀ m, m < N → hd_GoodsBookModel_areaOn_94_4 (cm_pg X xs) m H8 a1 (a2 + x10) (a3 + 1) Q)))) ∧ (¬ fl_w x5 = fl_w a1 → ∀ m, m < N → hd_GoodsBookModel_areaOn_94_4 (cm_pg X xs) m H3 a1 (a2 + 0) (a3 + 1) Q)))))) : hd_GoodsBookModel_areaOn_94_4 (cm_pg X xs) N H a1 a2 a3 Q :=
 fun lv h0 h1 h2 h3 =>
 vt_iload_n rfl h3
 (vt_aload_n rfl h0 rfl
 (vt_getr rfl rfl rfl
 (vt_iconst rfl
 (vt_ialdN 1 rfl rfl rfl
 (vt_icmp rfl (fun hc1 => vt_iload_n rfl h2
 (vt_ret rfl (W.1 hc1))) (fun hc1 => vt_iload_n rfl h2
 (vt_aload_n rfl h0 rfl
 (vt_getr rfl rfl rfl
 (vt_iload_n rfl h3
 (vt_iald rfl rfl (fun hf2 => vt_callS rfl rfl (fun _ => rfl) (fun m hm => vt_int (((W.2 hc1) hf2) m hm) (fun x5 H3 w4 => vt_iload_n rfl h1
 (vt_icmpN rfl (fun hc6 => vt_iconst rfl
 (vt_iadd rfl
 (vt_istore_nA rfl (fun hl13 => vt_iincA rfl (fl_lsn (by decide) h3) (fun hl14 => vt_gotoS rfl (fun m hm => ((w4.2 hc6) m hm) _ (fl_lsn (by decide) (fl_lsn (by decide) h0)) (fl_lsn (by decide) (fl_lsn (by decide) h1)) (fl_lsn (by decide) (fl_lse hl13)) (fl_lse hl14))))))) (fun hc6 => vt_aload_n rfl h0 rfl
 (vt_iload_n rfl h3
 (vt_aload_n rfl h0 rfl
 (vt_getr rfl rfl rfl
 (vt_iload_n rfl h3
 (vt_iald rfl rfl (fun hf7 => vt_iconst rfl
 (vt_isub rfl
 (vt_iconst rfl
 (vt_irem rfl
 (vt_callV rfl rfl (fun _ => rfl) (fun m hm => vt_int (((w4.1 hc6) hf7) m hm) (fun x10 H8 w9 => vt_goto rfl
 (vt_iadd rfl
 (vt_istore_nA rfl (fun hl11 => vt_iincA rfl (fl_lsn (by decide) h3) (fun hl12 => vt_gotoS rfl (fun m hm => (w9 m hm) _ (fl_lsn (by decide) (fl_lsn (by decide) h0)) (fl_lsn (by decide) (fl_lsn (by decide) h1)) (fl_lsn (by decide) (fl_lse hl11)) (fl_lse hl12)))))))))))))))))))))))))))))))))
theorem ve_GoodsBookModel_areaOn_94 {X : Term} {xs : List Int32} {N : Nat} {H : fl_H} {a1 : Int} {Q : Option Int → fl_H → Prop} (W : hd_GoodsBookModel_areaOn_94_4 (cm_pg X xs) N H a1 0 0 Q)  : ck (cm_pg X xs) N cm_m179 [.index 94, fl_t a1] H Q :=
  vt_iconst rfl
 (vt_istore_n rfl
 (vt_iconst rfl
 (vt_istore_n rfl
 (W _ rfl rfl rfl rfl))))
theorem ve_GoodsBookModel_areaOf_94 {X : Term} {xs : List Int32} {N : Nat} {H : fl_H} {a1 a2 : Int} {Q : Option Int → fl_H → Prop} (W : ∀ m, m < N → ck (cm_pg X xs) m cm_m152 [.index 94, fl_t a1, fl_t a2] H (fun r H1 => ∃ x3, r = some x3 ∧ (∀ m, m < N → ck (cm_pg X xs) m cm_m153 [.index 94, fl_t a1, fl_t a2] H1 (fun r H4 => ∃ x6, r = some x6 ∧ (Q (some (x3 * x6)) H4)))))  : ck (cm_pg X xs) N cm_m155 [.index 94, fl_t a1, fl_t a2] H Q :=
  vt_aload_n rfl rfl rfl
 (vt_iload_n rfl rfl
 (vt_iload_n rfl rfl
 (vt_callV rfl rfl (fun _ => rfl) (fun m hm => vt_int (W m hm) (fun x3 H1 w2 => vt_aload_n rfl rfl rfl
 (vt_iload_n rfl rfl
 (vt_iload_n rfl rfl
 (vt_callV rfl rfl (fun _ => rfl) (fun m hm => vt_int (w2 m hm) (fun x6 H4 w5 => vt_imul rfl
 (vt_ret rfl w5)))))))))))
theorem ve_GoodsBookModel_highOf_94 {X : Term} {xs : List Int32} {N : Nat} {H : fl_H} {a1 a2 : Int} {Q : Option Int → fl_H → Prop} (W : (0 ≤ fl_w (((14 + (8 * a1)) + 3) + (3 * a2)) ∧ fl_w (((14 + (8 * a1)) + 3) + (3 * a2)) < 152 → Q (some (H 95 (fl_w (((14 + (8 * a1)) + 3) + (3 * a2))).toNat)) H))  : ck (cm_pg X xs) N cm_m153 [.index 94, fl_t a1, fl_t a2] H Q :=
  vt_aload_n rfl rfl rfl
 (vt_getr rfl rfl rfl
 (vt_bipush (v := 14) rfl (by decide)
 (vt_bipush (v := 8) rfl (by decide)
 (vt_iload_n rfl rfl
 (vt_imul rfl
 (vt_iadd rfl
 (vt_iconst rfl
 (vt_iadd rfl
 (vt_iconst rfl
 (vt_iload_n rfl rfl
 (vt_imul rfl
 (vt_iadd rfl
 (vt_iald rfl rfl (fun hf1 => vt_ret rfl (W hf1)))))))))))))))
theorem ve_GoodsBookModel_wideOf_94 {X : Term} {xs : List Int32} {N : Nat} {H : fl_H} {a1 a2 : Int} {Q : Option Int → fl_H → Prop} (W : (0 ≤ fl_w (((14 + (8 * a1)) + 2) + (3 * a2)) ∧ fl_w (((14 + (8 * a1)) + 2) + (3 * a2)) < 152 → Q (some (H 95 (fl_w (((14 + (8 * a1)) + 2) + (3 * a2))).toNat)) H))  : ck (cm_pg X xs) N cm_m152 [.index 94, fl_t a1, fl_t a2] H Q :=
  vt_aload_n rfl rfl rfl
 (vt_getr rfl rfl rfl
 (vt_bipush (v := 14) rfl (by decide)
 (vt_bipush (v := 8) rfl (by decide)
 (vt_iload_n rfl rfl
 (vt_imul rfl
 (vt_iadd rfl
 (vt_iconst rfl
 (vt_iadd rfl
 (vt_iconst rfl
 (vt_iload_n rfl rfl
 (vt_imul rfl
 (vt_iadd rfl
 (vt_iald rfl rfl (fun hf1 => vt_ret rfl (W hf1)))))))))))))))
def hd_GoodsBookModel_rivalsOf_94_4 (P : cm_G) (N : Nat) (H : fl_H) (a1 : Int) (a2 : Int) (a3 : Int) (Q : Option Int → fl_H → Prop) : Prop := ∀ lv : cm_Lv, cm_nth lv 0 = some (some (.index 94)) → cm_nth lv 1 = some (some (fl_t a1)) → cm_nth lv 2 = some (some (fl_t a2)) → cm_nth lv 3 = some (some (fl_t a3)) → vt P N cm_m180 4 lv [] H Q
theorem vh_GoodsBookModel_rivalsOf_94_4 {X : Term} {xs : List Int32} {N : Nat} {H : fl_H} {a1 : Int} {a2 : Int} {a3 : Int} {Q : Option Int → fl_H → Prop} (W : ((fl_w (H 95 1) ≤ fl_w a3) → Q (some a2) H) ∧ (¬ (fl_w (H 95 1) ≤ fl_w a3) → ((fl_w a3 = fl_w a1) → ∀ m, m < N → hd_GoodsBookModel_rivalsOf_94_4 (cm_pg X xs) m H a1 (a2 + 0) (a3 + 1) Q) ∧ (¬ (fl_w a3 = fl_w a1) → (0 ≤ fl_w a3 ∧ fl_w a3 < 6 → ((fl_w (H 100 (fl_w a3).toNat) ≤ 0) → ∀ m, m < N → hd_GoodsBookModel_rivalsOf_94_4 (cm_pg X xs) m H a1 (a2 + 0) (a3 + 1) Q) ∧ (¬ (fl_w (H 100 (fl_w a3).toNat) ≤ 0) → (0 ≤ fl_w (14 + (8 * a3)) ∧ fl_w (14 + (8 * a3)) < 152 → (fl_w (H 95 (fl_w (14 + (8 * a3))).toNat) = 2 → (0 ≤ fl_w ((14 + (8 * a3)) + 1) ∧ fl_w ((14 + (8 * a3)) + 1) < 152 → (0 ≤ fl_w ((14 + (8 * a1)) + 1) ∧ fl_w ((14 + (8 * a1)) + 1) < 152 → (fl_w (H 95 (fl_w ((14 + (8 * a3)) + 1)).toNat) = fl_w (H 95 (fl_w ((14 + (8 * a1)) + 1)).toNat) → ∀ m, m < N → hd_GoodsBookModel_rivalsOf_94_4 (cm_pg X xs) m H a1 (a2 + 1) (a3 + 1) Q) ∧ (¬ fl_w (H 95 (fl_w ((14 + (8 * a3)) + 1)).toNat) = fl_w (H 95 (fl_w ((14 + (8 * a1)) + 1)).toNat) → ∀ m, m < N → hd_GoodsBookModel_rivalsOf_94_4 (cm_pg X xs) m H a1 (a2 + 0) (a3 + 1) Q)))) ∧ (¬ fl_w (H 95 (fl_w (14 + (8 * a3))).toNat) = 2 → ∀ m, m < N → hd_GoodsBookModel_rivalsOf_94_4 (cm_pg X xs) m H a1 (a2 + 0) (a3 + 1) Q))))))) : hd_GoodsBookModel_rivalsOf_94_4 (cm_pg X xs) N H a1 a2 a3 Q :=
 fun lv h0 h1 h2 h3 =>
 vt_iload_n rfl h3
 (vt_aload_n rfl h0 rfl
 (vt_getr rfl rfl rfl
 (vt_iconst rfl
 (vt_ialdN 1 rfl rfl rfl
 (vt_icmp rfl (fun hc1 => vt_iload_n rfl h2
 (vt_ret rfl (W.1 hc1))) (fun hc1 => vt_iload_n rfl h2
 (vt_iload_n rfl h3
 (vt_iload_n rfl h1
 (vt_icmp rfl (fun hc2 => vt_iconst rfl
 (vt_iadd rfl
 (vt_istore_nA rfl (fun hl3 => vt_iincA rfl (fl_lsn (by decide) h3) (fun hl4 => vt_gotoS rfl (fun m hm => (((W.2 hc1).1 hc2) m hm) _ (fl_lsn (by decide) (fl_lsn (by decide) h0)) (fl_lsn (by decide) (fl_lsn (by decide) h1)) (fl_lsn (by decide) (fl_lse hl3)) (fl_lse hl4))))))) (fun hc2 => vt_aload_n rfl h0 rfl
 (vt_getr rfl rfl rfl
 (vt_iload_n rfl h3
 (vt_iald rfl rfl (fun hf5 => vt_ifc rfl (fun hc6 => vt_iconst rfl
 (vt_iadd rfl
 (vt_istore_nA rfl (fun hl7 => vt_iincA rfl (fl_lsn (by decide) h3) (fun hl8 => vt_gotoS rfl (fun m hm => (((((W.2 hc1).2 hc2) hf5).1 hc6) m hm) _ (fl_lsn (by decide) (fl_lsn (by decide) h0)) (fl_lsn (by decide) (fl_lsn (by decide) h1)) (fl_lsn (by decide) (fl_lse hl7)) (fl_lse hl8))))))) (fun hc6 => vt_aload_n rfl h0 rfl
 (vt_getr rfl rfl rfl
 (vt_bipush (v := 14) rfl (by decide)
 (vt_bipush (v := 8) rfl (by decide)
 (vt_iload_n rfl h3
 (vt_imul rfl
 (vt_iadd rfl
 (vt_iald rfl rfl (fun hf9 => vt_iconst rfl
 (vt_icmpN rfl (fun hc10 => vt_iconst rfl
 (vt_iadd rfl
 (vt_istore_nA rfl (fun hl18 => vt_iincA rfl (fl_lsn (by decide) h3) (fun hl19 => vt_gotoS rfl (fun m hm => (((((((W.2 hc1).2 hc2) hf5).2 hc6) hf9).2 hc10) m hm) _ (fl_lsn (by decide) (fl_lsn (by decide) h0)) (fl_lsn (by decide) (fl_lsn (by decide) h1)) (fl_lsn (by decide) (fl_lse hl18)) (fl_lse hl19))))))) (fun hc10 => vt_aload_n rfl h0 rfl
 (vt_getr rfl rfl rfl
 (vt_bipush (v := 14) rfl (by decide)
 (vt_bipush (v := 8) rfl (by decide)
 (vt_iload_n rfl h3
 (vt_imul rfl
 (vt_iadd rfl
 (vt_iconst rfl
 (vt_iadd rfl
 (vt_iald rfl rfl (fun hf11 => vt_aload_n rfl h0 rfl
 (vt_getr rfl rfl rfl
 (vt_bipush (v := 14) rfl (by decide)
 (vt_bipush (v := 8) rfl (by decide)
 (vt_iload_n rfl h1
 (vt_imul rfl
 (vt_iadd rfl
 (vt_iconst rfl
 (vt_iadd rfl
 (vt_iald rfl rfl (fun hf12 => vt_icmpN rfl (fun hc13 => vt_iconst rfl
 (vt_iadd rfl
 (vt_istore_nA rfl (fun hl16 => vt_iincA rfl (fl_lsn (by decide) h3) (fun hl17 => vt_gotoS rfl (fun m hm => ((((((((((W.2 hc1).2 hc2) hf5).2 hc6) hf9).1 hc10) hf11) hf12).2 hc13) m hm) _ (fl_lsn (by decide) (fl_lsn (by decide) h0)) (fl_lsn (by decide) (fl_lsn (by decide) h1)) (fl_lsn (by decide) (fl_lse hl16)) (fl_lse hl17))))))) (fun hc13 => vt_iconst rfl
 (vt_goto rfl
 (vt_iadd rfl
 (vt_istore_nA rfl (fun hl14 => vt_iincA rfl (fl_lsn (by decide) h3) (fun hl15 => vt_gotoS rfl (fun m hm => ((((((((((W.2 hc1).2 hc2) hf5).2 hc6) hf9).1 hc10) hf11) hf12).1 hc13) m hm) _ (fl_lsn (by decide) (fl_lsn (by decide) h0)) (fl_lsn (by decide) (fl_lsn (by decide) h1)) (fl_lsn (by decide) (fl_lse hl14)) (fl_lse hl15)))))))))))))))))))))))))))))))))))))))))))))))))))))
theorem ve_GoodsBookModel_rivalsOf_94 {X : Term} {xs : List Int32} {N : Nat} {H : fl_H} {a1 : Int} {Q : Option Int → fl_H → Prop} (W : hd_GoodsBookModel_rivalsOf_94_4 (cm_pg X xs) N H a1 0 0 Q)  : ck (cm_pg X xs) N cm_m180 [.index 94, fl_t a1] H Q :=
  vt_iconst rfl
 (vt_istore_n rfl
 (vt_iconst rfl
 (vt_istore_n rfl
 (W _ rfl rfl rfl rfl))))
theorem ve_GoodsBookModel_saleOf_94 {X : Term} {xs : List Int32} {N : Nat} {H : fl_H} {a1 a2 : Int} {Q : Option Int → fl_H → Prop} (W : (0 ≤ fl_w (((14 + (8 * a1)) + 4) + (3 * a2)) ∧ fl_w (((14 + (8 * a1)) + 4) + (3 * a2)) < 152 → Q (some (H 95 (fl_w (((14 + (8 * a1)) + 4) + (3 * a2))).toNat)) H))  : ck (cm_pg X xs) N cm_m154 [.index 94, fl_t a1, fl_t a2] H Q :=
  vt_aload_n rfl rfl rfl
 (vt_getr rfl rfl rfl
 (vt_bipush (v := 14) rfl (by decide)
 (vt_bipush (v := 8) rfl (by decide)
 (vt_iload_n rfl rfl
 (vt_imul rfl
 (vt_iadd rfl
 (vt_iconst rfl
 (vt_iadd rfl
 (vt_iconst rfl
 (vt_iload_n rfl rfl
 (vt_imul rfl
 (vt_iadd rfl
 (vt_iald rfl rfl (fun hf1 => vt_ret rfl (W hf1)))))))))))))))
theorem ve_GoodsBookModel_isGoodPlan_94 {X : Term} {xs : List Int32} {N : Nat} {H : fl_H} {Q : Option Int → fl_H → Prop} (W : ∀ m, m < N → ck (cm_pg X xs) m cm_m185 [.index 94] H (fun r H1 => ∃ x3, r = some x3 ∧ (((0 ≤ fl_w x3) → Q (some 0) H1) ∧ (¬ (0 ≤ fl_w x3) → ∀ m, m < N → ck (cm_pg X xs) m cm_m186 [.index 94] H1 (fun r H5 => ∃ x7, r = some x7 ∧ (((0 ≤ fl_w x7) → Q (some 0) H5) ∧ (¬ (0 ≤ fl_w x7) → Q (some 1) H5)))))))  : ck (cm_pg X xs) N cm_m187 [.index 94] H Q :=
  vt_aload_n rfl rfl rfl
 (vt_callV rfl rfl (fun _ => rfl) (fun m hm => vt_int (W m hm) (fun x3 H1 w2 => vt_ifc rfl (fun hc4 => vt_iconst rfl
 (vt_ret rfl (w2.1 hc4))) (fun hc4 => vt_aload_n rfl rfl rfl
 (vt_callV rfl rfl (fun _ => rfl) (fun m hm => vt_int ((w2.2 hc4) m hm) (fun x7 H5 w6 => vt_ifc rfl (fun hc8 => vt_iconst rfl
 (vt_ret rfl (w6.1 hc8))) (fun hc8 => vt_iconst rfl
 (vt_goto rfl
 (vt_ret rfl (w6.2 hc8)))))))))))
def hd_GoodsBookModel_firstFull_94_2 (P : cm_G) (N : Nat) (H : fl_H) (a1 : Int) (Q : Option Int → fl_H → Prop) : Prop := ∀ lv : cm_Lv, cm_nth lv 0 = some (some (.index 94)) → cm_nth lv 1 = some (some (fl_t a1)) → vt P N cm_m186 2 lv [] H Q
theorem vh_GoodsBookModel_firstFull_94_2 {X : Term} {xs : List Int32} {N : Nat} {H : fl_H} {a1 : Int} {Q : Option Int → fl_H → Prop} (W : ((fl_w (H 95 0) ≤ fl_w a1) → Q (some (-4)) H) ∧ (¬ (fl_w (H 95 0) ≤ fl_w a1) → ∀ m, m < N → ck (cm_pg X xs) m cm_m177 [.index 94, fl_t a1] H (fun r H2 => ∃ x4, r = some x4 ∧ (∀ m, m < N → ck (cm_pg X xs) m cm_m173 [.index 94, fl_t x4] H2 (fun r H5 => ∃ x7, r = some x7 ∧ ((fl_w x7 = 0 → Q (some a1) H5) ∧ (¬ fl_w x7 = 0 → ∀ m, m < N → hd_GoodsBookModel_firstFull_94_2 (cm_pg X xs) m H5 (a1 + 1) Q))))))) : hd_GoodsBookModel_firstFull_94_2 (cm_pg X xs) N H a1 Q :=
 fun lv h0 h1 =>
 vt_iload_n rfl h1
 (vt_aload_n rfl h0 rfl
 (vt_getr rfl rfl rfl
 (vt_iconst rfl
 (vt_ialdN 0 rfl rfl rfl
 (vt_icmp rfl (fun hc1 => vt_bipush (v := (-4)) rfl (by decide)
 (vt_ret rfl (W.1 hc1))) (fun hc1 => vt_aload_n rfl h0 rfl
 (vt_aload_n rfl h0 rfl
 (vt_iload_n rfl h1
 (vt_callV rfl rfl (fun _ => rfl) (fun m hm => vt_int ((W.2 hc1) m hm) (fun x4 H2 w3 => vt_callV rfl rfl (fun _ => rfl) (fun m hm => vt_int (w3 m hm) (fun x7 H5 w6 => vt_ifcN rfl (fun hc8 => vt_iincA rfl h1 (fun hl9 => vt_gotoS rfl (fun m hm => ((w6.2 hc8) m hm) _ (fl_lsn (by decide) h0) (fl_lse hl9)))) (fun hc8 => vt_iload_n rfl h1
 (vt_ret rfl (w6.1 hc8))))))))))))))))
theorem ve_GoodsBookModel_firstFull_94 {X : Term} {xs : List Int32} {N : Nat} {H : fl_H} {Q : Option Int → fl_H → Prop} (W : hd_GoodsBookModel_firstFull_94_2 (cm_pg X xs) N H 0 Q)  : ck (cm_pg X xs) N cm_m186 [.index 94] H Q :=
  vt_iconst rfl
 (vt_istore_n rfl
 (W _ rfl rfl))
theorem ve_GoodsBookModel_doFit_94 {X : Term} {xs : List Int32} {N : Nat} {H : fl_H} {a1 : Int} {Q : Option Int → fl_H → Prop} (W : (0 ≤ fl_w a1 ∧ fl_w a1 < 729 → (fl_w (H 96 (fl_w a1).toNat) = 0 → ∀ m, m < N → ck (cm_pg X xs) m cm_m172 [.index 94, fl_t a1] H (fun r H3 => ∃ x5, r = some x5 ∧ (((16 < fl_w x5) → (0 ≤ fl_w a1 ∧ fl_w a1 < 729 → ∀ H7, H7 = fl_up H3 96 (fl_w a1).toNat 2 → (0 ≤ fl_w a1 ∧ fl_w a1 < 729 → (fl_w (H7 96 (fl_w a1).toNat) = 1 → Q (some 1) H7) ∧ (¬ fl_w (H7 96 (fl_w a1).toNat) = 1 → Q (some 0) H7)))) ∧ (¬ (16 < fl_w x5) → ∀ m, m < N → ck (cm_pg X xs) m cm_m171 [.index 94, fl_t a1] H3 (fun r H12 => ∃ x14, r = some x14 ∧ (((fl_w x14 = 0) → (0 ≤ fl_w a1 ∧ fl_w a1 < 729 → ∀ H16, H16 = fl_up H12 96 (fl_w a1).toNat 2 → (0 ≤ fl_w a1 ∧ fl_w a1 < 729 → (fl_w (H16 96 (fl_w a1).toNat) = 1 → Q (some 1) H16) ∧ (¬ fl_w (H16 96 (fl_w a1).toNat) = 1 → Q (some 0) H16)))) ∧ (¬ (fl_w x14 = 0) → (0 ≤ fl_w a1 ∧ fl_w a1 < 729 → ∀ H21, H21 = fl_up H12 96 (fl_w a1).toNat 1 → (0 ≤ fl_w a1 ∧ fl_w a1 < 729 → (fl_w (H21 96 (fl_w a1).toNat) = 1 → Q (some 1) H21) ∧ (¬ fl_w (H21 96 (fl_w a1).toNat) = 1 → Q (some 0) H21)))))))))) ∧ (¬ fl_w (H 96 (fl_w a1).toNat) = 0 → (0 ≤ fl_w a1 ∧ fl_w a1 < 729 → (fl_w (H 96 (fl_w a1).toNat) = 1 → Q (some 1) H) ∧ (¬ fl_w (H 96 (fl_w a1).toNat) = 1 → Q (some 0) H)))))  : ck (cm_pg X xs) N cm_m173 [.index 94, fl_t a1] H Q :=
  vt_aload_n rfl rfl rfl
 (vt_getr rfl rfl rfl
 (vt_iload_n rfl rfl
 (vt_iald rfl rfl (fun hf1 => vt_ifcN rfl (fun hc2 => vt_aload_n rfl rfl rfl
 (vt_getr rfl rfl rfl
 (vt_iload_n rfl rfl
 (vt_iald rfl rfl (fun hf26 => vt_iconst rfl
 (vt_icmpN rfl (fun hc27 => vt_iconst rfl
 (vt_ret rfl ((((W hf1).2 hc2) hf26).2 hc27))) (fun hc27 => vt_iconst rfl
 (vt_goto rfl
 (vt_ret rfl ((((W hf1).2 hc2) hf26).1 hc27)))))))))) (fun hc2 => vt_aload_n rfl rfl rfl
 (vt_getr rfl rfl rfl
 (vt_iload_n rfl rfl
 (vt_aload_n rfl rfl rfl
 (vt_iload_n rfl rfl
 (vt_callV rfl rfl (fun _ => rfl) (fun m hm => vt_int (((W hf1).1 hc2) m hm) (fun x5 H3 w4 => vt_bipush (v := 16) rfl (by decide)
 (vt_icmp rfl (fun hc6 => vt_iconst rfl
 (vt_iast rfl rfl (fun hf9 => vt_nm (fun H7 e8 => vt_aload_n rfl rfl rfl
 (vt_getr rfl rfl rfl
 (vt_iload_n rfl rfl
 (vt_iald rfl rfl (fun hf10 => vt_iconst rfl
 (vt_icmpN rfl (fun hc11 => vt_iconst rfl
 (vt_ret rfl ((((w4.1 hc6) hf9 H7 e8) hf10).2 hc11))) (fun hc11 => vt_iconst rfl
 (vt_goto rfl
 (vt_ret rfl ((((w4.1 hc6) hf9 H7 e8) hf10).1 hc11))))))))))))) (fun hc6 => vt_aload_n rfl rfl rfl
 (vt_iload_n rfl rfl
 (vt_callV rfl rfl (fun _ => rfl) (fun m hm => vt_int ((w4.2 hc6) m hm) (fun x14 H12 w13 => vt_ifc rfl (fun hc15 => vt_iconst rfl
 (vt_iast rfl rfl (fun hf18 => vt_nm (fun H16 e17 => vt_aload_n rfl rfl rfl
 (vt_getr rfl rfl rfl
 (vt_iload_n rfl rfl
 (vt_iald rfl rfl (fun hf19 => vt_iconst rfl
 (vt_icmpN rfl (fun hc20 => vt_iconst rfl
 (vt_ret rfl ((((w13.1 hc15) hf18 H16 e17) hf19).2 hc20))) (fun hc20 => vt_iconst rfl
 (vt_goto rfl
 (vt_ret rfl ((((w13.1 hc15) hf18 H16 e17) hf19).1 hc20))))))))))))) (fun hc15 => vt_iconst rfl
 (vt_goto rfl
 (vt_iast rfl rfl (fun hf23 => vt_nm (fun H21 e22 => vt_aload_n rfl rfl rfl
 (vt_getr rfl rfl rfl
 (vt_iload_n rfl rfl
 (vt_iald rfl rfl (fun hf24 => vt_iconst rfl
 (vt_icmpN rfl (fun hc25 => vt_iconst rfl
 (vt_ret rfl ((((w13.2 hc15) hf23 H21 e22) hf24).2 hc25))) (fun hc25 => vt_iconst rfl
 (vt_goto rfl
 (vt_ret rfl ((((w13.2 hc15) hf23 H21 e22) hf24).1 hc25))))))))))))))))))))))))))))))))
end
