noncomputable section
/-! L3: runs of methods between cuts. -/
def hd_GoodsBookModel_lay_94_7 (P : cm_G) (N : Nat) (H : fl_H) (a1 : Int) (a2 : Int) (Q : Option Int → fl_H → Prop) : Prop := ∀ lv : cm_Lv, cm_nth lv 0 = some (some (.index 94)) → cm_nth lv 1 = some (some (fl_t a1)) → cm_nth lv 2 = some (some (fl_t a2)) → vt P N cm_m171 7 lv [] H Q
def hd_GoodsBookModel_lay_94_62 (P : cm_G) (N : Nat) (H : fl_H) (a1 : Int) (a2 : Int) (a3 : Int) (Q : Option Int → fl_H → Prop) : Prop := ∀ lv : cm_Lv, cm_nth lv 0 = some (some (.index 94)) → cm_nth lv 1 = some (some (fl_t a1)) → cm_nth lv 2 = some (some (fl_t a2)) → cm_nth lv 3 = some (some (fl_t a3)) → vt P N cm_m171 62 lv [] H Q
def hd_GoodsBookModel_lay_94_95 (P : cm_G) (N : Nat) (H : fl_H) (a1 : Int) (a2 : Int) (a4 : Int) (a5 : Int) (a6 : Int) (Q : Option Int → fl_H → Prop) : Prop := ∀ lv : cm_Lv, cm_nth lv 0 = some (some (.index 94)) → cm_nth lv 1 = some (some (fl_t a1)) → cm_nth lv 2 = some (some (fl_t a2)) → cm_nth lv 4 = some (some (fl_t a4)) → cm_nth lv 5 = some (some (fl_t a5)) → cm_nth lv 6 = some (some (fl_t a6)) → vt P N cm_m171 95 lv [] H Q
theorem vh_GoodsBookModel_lay_94_7 {X : Term} {xs : List Int32} {N : Nat} {H : fl_H} {a1 : Int} {a2 : Int} {Q : Option Int → fl_H → Prop} (W : ((fl_w (H 95 1) ≤ fl_w a2) → ∀ H4, H4 = fl_up H 99 0 0 → (hd_GoodsBookModel_lay_94_62 (cm_pg X xs) N H4 a1 0 0 Q)) ∧ (¬ (fl_w (H 95 1) ≤ fl_w a2) → ∀ m, m < N → ck (cm_pg X xs) m cm_m169 [fl_t a1, fl_t a2] H (fun r H6 => ∃ x8, r = some x8 ∧ (((fl_w x8 ≤ 0) → ∀ m, m < N → hd_GoodsBookModel_lay_94_7 (cm_pg X xs) m H6 a1 (a2 + 1) Q) ∧ (¬ (fl_w x8 ≤ 0) → (0 ≤ fl_w (H6 94 4) ∧ fl_w (H6 94 4) < 6 → ∀ H11, H11 = fl_up H6 98 (fl_w (H6 94 4)).toNat a2 → ∀ H14, H14 = fl_up H11 94 4 ((H11 94 4) + 1) → (∀ m, m < N → hd_GoodsBookModel_lay_94_7 (cm_pg X xs) m H14 a1 (a2 + 1) Q))))))) : hd_GoodsBookModel_lay_94_7 (cm_pg X xs) N H a1 a2 Q :=
 fun lv h0 h1 h2 =>
 vt_iload_n rfl h2
 (vt_aload_n rfl h0 rfl
 (vt_getr rfl rfl rfl
 (vt_iconst rfl
 (vt_ialdN 1 rfl rfl rfl
 (vt_icmp rfl (fun hc1 => vt_iconst rfl
 (vt_istore_nA rfl (fun hl2 => vt_iconst rfl
 (vt_istore_nA rfl (fun hl3 => vt_aload_n rfl (fl_lsn (by decide) (fl_lsn (by decide) h0)) rfl
 (vt_getr rfl rfl rfl
 (vt_iconst rfl
 (vt_iconst rfl
 (vt_iastN 0 rfl rfl rfl (vt_nm (fun H4 e5 => ((W.1 hc1) H4 e5) _ (fl_lsn (by decide) (fl_lsn (by decide) h0)) (fl_lsn (by decide) (fl_lsn (by decide) h1)) (fl_lsn (by decide) (fl_lse hl2)) (fl_lse hl3)))))))))))) (fun hc1 => vt_iload_n rfl h1
 (vt_iload_n rfl h2
 (vt_callS rfl rfl (fun _ => rfl) (fun m hm => vt_int ((W.2 hc1) m hm) (fun x8 H6 w7 => vt_ifc rfl (fun hc9 => vt_iincA rfl h2 (fun hl10 => vt_gotoS rfl (fun m hm => ((w7.1 hc9) m hm) _ (fl_lsn (by decide) h0) (fl_lsn (by decide) h1) (fl_lse hl10)))) (fun hc9 => vt_aload_n rfl h0 rfl
 (vt_getr rfl rfl rfl
 (vt_aload_n rfl h0 rfl
 (vt_getf rfl rfl rfl
 (vt_iload_n rfl h2
 (vt_iast rfl rfl (fun hf13 => vt_nm (fun H11 e12 => vt_aload_n rfl h0 rfl
 (vt_mv (fun _ _ => rfl)
 (vt_getf rfl rfl rfl
 (vt_iconst rfl
 (vt_iadd rfl
 (vt_putf rfl rfl rfl (vt_nm (fun H14 e15 => vt_iincA rfl h2 (fun hl16 => vt_gotoS rfl (fun m hm => ((((w7.2 hc9) hf13 H11 e12) H14 e15) m hm) _ (fl_lsn (by decide) h0) (fl_lsn (by decide) h1) (fl_lse hl16))))))))))))))))))))))))))))
theorem vh_GoodsBookModel_lay_94_62 {X : Term} {xs : List Int32} {N : Nat} {H : fl_H} {a1 : Int} {a2 : Int} {a3 : Int} {Q : Option Int → fl_H → Prop} (W : ((fl_w a2 < 0) → ((fl_w a2 < 0) → Q (some 0) H) ∧ (¬ (fl_w a2 < 0) → Q (some 1) H)) ∧ (¬ (fl_w a2 < 0) → ((fl_w (H 94 4) ≤ fl_w a2) → ((fl_w a2 < 0) → Q (some 0) H) ∧ (¬ (fl_w a2 < 0) → Q (some 1) H)) ∧ (¬ (fl_w (H 94 4) ≤ fl_w a2) → (0 ≤ fl_w a2 ∧ fl_w a2 < 6 → ∀ m, m < N → ck (cm_pg X xs) m cm_m169 [fl_t a1, fl_t (H 98 (fl_w a2).toNat)] H (fun r H7 => ∃ x9, r = some x9 ∧ (hd_GoodsBookModel_lay_94_95 (cm_pg X xs) N H7 a1 a2 (H 98 (fl_w a2).toNat) (x9 - 1) a3 Q)))))) : hd_GoodsBookModel_lay_94_62 (cm_pg X xs) N H a1 a2 a3 Q :=
 fun lv h0 h1 h2 h3 =>
 vt_iload_n rfl h2
 (vt_ifc rfl (fun hc1 => vt_iload_n rfl h2
 (vt_ifc rfl (fun hc2 => vt_iconst rfl
 (vt_ret rfl ((W.1 hc1).1 hc2))) (fun hc2 => vt_iconst rfl
 (vt_goto rfl
 (vt_ret rfl ((W.1 hc1).2 hc2)))))) (fun hc1 => vt_iload_n rfl h2
 (vt_aload_n rfl h0 rfl
 (vt_getf rfl rfl rfl
 (vt_icmp rfl (fun hc3 => vt_iload_n rfl h2
 (vt_ifc rfl (fun hc4 => vt_iconst rfl
 (vt_ret rfl (((W.2 hc1).1 hc3).1 hc4))) (fun hc4 => vt_iconst rfl
 (vt_goto rfl
 (vt_ret rfl (((W.2 hc1).1 hc3).2 hc4)))))) (fun hc3 => vt_aload_n rfl h0 rfl
 (vt_getr rfl rfl rfl
 (vt_iload_n rfl h2
 (vt_iald rfl rfl (fun hf5 => vt_istoreA rfl (fun hl6 => vt_iload_n rfl (fl_lsn (by decide) h1)
 (vt_iload rfl (fl_lse hl6)
 (vt_callS rfl rfl (fun _ => rfl) (fun m hm => vt_int ((((W.2 hc1).2 hc3) hf5) m hm) (fun x9 H7 w8 => vt_iconst rfl
 (vt_isub rfl
 (vt_istoreA rfl (fun hl10 => vt_iload_n rfl (fl_lsn (by decide) (fl_lsn (by decide) h3))
 (vt_istoreA rfl (fun hl11 => w8 _ (fl_lsn (by decide) (fl_lsn (by decide) (fl_lsn (by decide) h0))) (fl_lsn (by decide) (fl_lsn (by decide) (fl_lsn (by decide) h1))) (fl_lsn (by decide) (fl_lsn (by decide) (fl_lsn (by decide) h2))) (fl_lsn (by decide) (fl_lsn (by decide) (fl_lse hl6))) (fl_lsn (by decide) (fl_lse hl10)) (fl_lse hl11)))))))))))))))))))))
theorem vh_GoodsBookModel_lay_94_95 {X : Term} {xs : List Int32} {N : Nat} {H : fl_H} {a1 : Int} {a2 : Int} {a4 : Int} {a5 : Int} {a6 : Int} {Q : Option Int → fl_H → Prop} (W : ((16 ≤ fl_w a6) → ((16 ≤ fl_w a6) → ((fl_w (a2 + (-1)) < 0) → ∀ m, m < N → hd_GoodsBookModel_lay_94_62 (cm_pg X xs) m H a1 (a2 + (-1)) 0 Q) ∧ (¬ (fl_w (a2 + (-1)) < 0) → (0 ≤ fl_w (a2 + (-1)) ∧ fl_w (a2 + (-1)) < 6 → ∀ m, m < N → hd_GoodsBookModel_lay_94_62 (cm_pg X xs) m H a1 (a2 + (-1)) ((H 97 (fl_w (a2 + (-1))).toNat) + 1) Q))) ∧ (¬ (16 ≤ fl_w a6) → (0 ≤ fl_w a2 ∧ fl_w a2 < 6 → ∀ H8, H8 = fl_up H 97 (fl_w a2).toNat a6 → (0 ≤ fl_w a2 ∧ fl_w a2 < 7 → ∀ m, m < N → ck (cm_pg X xs) m cm_m170 [.index 94, fl_t a4, fl_t a5, fl_t a6] H8 (fun r H12 => ∃ x14, r = some x14 ∧ ((0 ≤ fl_w (a2 + 1) ∧ fl_w (a2 + 1) < 7 → ∀ H15, H15 = fl_up H12 99 (fl_w (a2 + 1)).toNat (fl_or (H8 99 (fl_w a2).toNat) x14) → ∀ m, m < N → hd_GoodsBookModel_lay_94_62 (cm_pg X xs) m H15 a1 (a2 + 1) 0 Q))))))) ∧ (¬ (16 ≤ fl_w a6) → ∀ m, m < N → ck (cm_pg X xs) m cm_m170 [.index 94, fl_t a4, fl_t a5, fl_t a6] H (fun r H20 => ∃ x22, r = some x22 ∧ (((fl_w x22 = 0) → ∀ m, m < N → hd_GoodsBookModel_lay_94_95 (cm_pg X xs) m H20 a1 a2 a4 a5 (a6 + 1) Q) ∧ (¬ (fl_w x22 = 0) → ∀ m, m < N → ck (cm_pg X xs) m cm_m170 [.index 94, fl_t a4, fl_t a5, fl_t a6] H20 (fun r H25 => ∃ x27, r = some x27 ∧ ((0 ≤ fl_w a2 ∧ fl_w a2 < 7 → ((fl_w (fl_and x27 (H25 99 (fl_w a2).toNat)) = 0) → ((16 ≤ fl_w a6) → ((fl_w (a2 + (-1)) < 0) → ∀ m, m < N → hd_GoodsBookModel_lay_94_62 (cm_pg X xs) m H25 a1 (a2 + (-1)) 0 Q) ∧ (¬ (fl_w (a2 + (-1)) < 0) → (0 ≤ fl_w (a2 + (-1)) ∧ fl_w (a2 + (-1)) < 6 → ∀ m, m < N → hd_GoodsBookModel_lay_94_62 (cm_pg X xs) m H25 a1 (a2 + (-1)) ((H25 97 (fl_w (a2 + (-1))).toNat) + 1) Q))) ∧ (¬ (16 ≤ fl_w a6) → (0 ≤ fl_w a2 ∧ fl_w a2 < 6 → ∀ H36, H36 = fl_up H25 97 (fl_w a2).toNat a6 → (0 ≤ fl_w a2 ∧ fl_w a2 < 7 → ∀ m, m < N → ck (cm_pg X xs) m cm_m170 [.index 94, fl_t a4, fl_t a5, fl_t a6] H36 (fun r H40 => ∃ x42, r = some x42 ∧ ((0 ≤ fl_w (a2 + 1) ∧ fl_w (a2 + 1) < 7 → ∀ H43, H43 = fl_up H40 99 (fl_w (a2 + 1)).toNat (fl_or (H36 99 (fl_w a2).toNat) x42) → ∀ m, m < N → hd_GoodsBookModel_lay_94_62 (cm_pg X xs) m H43 a1 (a2 + 1) 0 Q))))))) ∧ (¬ (fl_w (fl_and x27 (H25 99 (fl_w a2).toNat)) = 0) → ∀ m, m < N → hd_GoodsBookModel_lay_94_95 (cm_pg X xs) m H25 a1 a2 a4 a5 (a6 + 1) Q))))))))) : hd_GoodsBookModel_lay_94_95 (cm_pg X xs) N H a1 a2 a4 a5 a6 Q :=
 fun lv h0 h1 h2 h4 h5 h6 =>
 vt_iload rfl h6
 (vt_bipush (v := 16) rfl (by decide)
 (vt_icmp rfl (fun hc1 => vt_iload rfl h6
 (vt_bipush (v := 16) rfl (by decide)
 (vt_icmp rfl (fun hc2 => vt_iincA rfl h2 (fun hl3 => vt_iload_n rfl (fl_lse hl3)
 (vt_ifc rfl (fun hc4 => vt_iconst rfl
 (vt_istore_nA rfl (fun hl5 => vt_gotoS rfl (fun m hm => ((((W.1 hc1).1 hc2).1 hc4) m hm) _ (fl_lsn (by decide) (fl_lsn (by decide) h0)) (fl_lsn (by decide) (fl_lsn (by decide) h1)) (fl_lsn (by decide) (fl_lse hl3)) (fl_lse hl5))))) (fun hc4 => vt_aload_n rfl (fl_lsn (by decide) h0) rfl
 (vt_getr rfl rfl rfl
 (vt_iload_n rfl (fl_lse hl3)
 (vt_iald rfl rfl (fun hf6 => vt_iconst rfl
 (vt_iadd rfl
 (vt_goto rfl
 (vt_istore_nA rfl (fun hl7 => vt_gotoS rfl (fun m hm => (((((W.1 hc1).1 hc2).2 hc4) hf6) m hm) _ (fl_lsn (by decide) (fl_lsn (by decide) h0)) (fl_lsn (by decide) (fl_lsn (by decide) h1)) (fl_lsn (by decide) (fl_lse hl3)) (fl_lse hl7)))))))))))))) (fun hc2 => vt_aload_n rfl h0 rfl
 (vt_getr rfl rfl rfl
 (vt_iload_n rfl h2
 (vt_iload rfl h6
 (vt_iast rfl rfl (fun hf10 => vt_nm (fun H8 e9 => vt_aload_n rfl h0 rfl
 (vt_getr rfl rfl rfl
 (vt_iload_n rfl h2
 (vt_iconst rfl
 (vt_iadd rfl
 (vt_aload_n rfl h0 rfl
 (vt_getr rfl rfl rfl
 (vt_iload_n rfl h2
 (vt_iald rfl rfl (fun hf11 => vt_aload_n rfl h0 rfl
 (vt_iload rfl h4
 (vt_iload rfl h5
 (vt_iload rfl h6
 (vt_callV rfl rfl (fun _ => rfl) (fun m hm => vt_int (((((W.1 hc1).2 hc2) hf10 H8 e9) hf11) m hm) (fun x14 H12 w13 => vt_ior rfl
 (vt_iast rfl rfl (fun hf17 => vt_nm (fun H15 e16 => vt_iincA rfl h2 (fun hl18 => vt_iconst rfl
 (vt_istore_nA rfl (fun hl19 => vt_goto rfl
 (vt_gotoS rfl (fun m hm => ((w13 hf17 H15 e16) m hm) _ (fl_lsn (by decide) (fl_lsn (by decide) h0)) (fl_lsn (by decide) (fl_lsn (by decide) h1)) (fl_lsn (by decide) (fl_lse hl18)) (fl_lse hl19)))))))))))))))))))))))))))))))))) (fun hc1 => vt_aload_n rfl h0 rfl
 (vt_iload rfl h4
 (vt_iload rfl h5
 (vt_iload rfl h6
 (vt_callV rfl rfl (fun _ => rfl) (fun m hm => vt_int ((W.2 hc1) m hm) (fun x22 H20 w21 => vt_ifc rfl (fun hc23 => vt_iincA rfl h6 (fun hl24 => vt_gotoS rfl (fun m hm => ((w21.1 hc23) m hm) _ (fl_lsn (by decide) h0) (fl_lsn (by decide) h1) (fl_lsn (by decide) h2) (fl_lsn (by decide) h4) (fl_lsn (by decide) h5) (fl_lse hl24)))) (fun hc23 => vt_aload_n rfl h0 rfl
 (vt_iload rfl h4
 (vt_iload rfl h5
 (vt_iload rfl h6
 (vt_callV rfl rfl (fun _ => rfl) (fun m hm => vt_int ((w21.2 hc23) m hm) (fun x27 H25 w26 => vt_aload_n rfl h0 rfl
 (vt_getr rfl rfl rfl
 (vt_iload_n rfl h2
 (vt_iald rfl rfl (fun hf28 => vt_iand rfl
 (vt_ifc rfl (fun hc29 => vt_iload rfl h6
 (vt_bipush (v := 16) rfl (by decide)
 (vt_icmp rfl (fun hc30 => vt_iincA rfl h2 (fun hl31 => vt_iload_n rfl (fl_lse hl31)
 (vt_ifc rfl (fun hc32 => vt_iconst rfl
 (vt_istore_nA rfl (fun hl33 => vt_gotoS rfl (fun m hm => (((((w26 hf28).1 hc29).1 hc30).1 hc32) m hm) _ (fl_lsn (by decide) (fl_lsn (by decide) h0)) (fl_lsn (by decide) (fl_lsn (by decide) h1)) (fl_lsn (by decide) (fl_lse hl31)) (fl_lse hl33))))) (fun hc32 => vt_aload_n rfl (fl_lsn (by decide) h0) rfl
 (vt_getr rfl rfl rfl
 (vt_iload_n rfl (fl_lse hl31)
 (vt_iald rfl rfl (fun hf34 => vt_iconst rfl
 (vt_iadd rfl
 (vt_goto rfl
 (vt_istore_nA rfl (fun hl35 => vt_gotoS rfl (fun m hm => ((((((w26 hf28).1 hc29).1 hc30).2 hc32) hf34) m hm) _ (fl_lsn (by decide) (fl_lsn (by decide) h0)) (fl_lsn (by decide) (fl_lsn (by decide) h1)) (fl_lsn (by decide) (fl_lse hl31)) (fl_lse hl35)))))))))))))) (fun hc30 => vt_aload_n rfl h0 rfl
 (vt_getr rfl rfl rfl
 (vt_iload_n rfl h2
 (vt_iload rfl h6
 (vt_iast rfl rfl (fun hf38 => vt_nm (fun H36 e37 => vt_aload_n rfl h0 rfl
 (vt_getr rfl rfl rfl
 (vt_iload_n rfl h2
 (vt_iconst rfl
 (vt_iadd rfl
 (vt_aload_n rfl h0 rfl
 (vt_getr rfl rfl rfl
 (vt_iload_n rfl h2
 (vt_iald rfl rfl (fun hf39 => vt_aload_n rfl h0 rfl
 (vt_iload rfl h4
 (vt_iload rfl h5
 (vt_iload rfl h6
 (vt_callV rfl rfl (fun _ => rfl) (fun m hm => vt_int ((((((w26 hf28).1 hc29).2 hc30) hf38 H36 e37) hf39) m hm) (fun x42 H40 w41 => vt_ior rfl
 (vt_iast rfl rfl (fun hf45 => vt_nm (fun H43 e44 => vt_iincA rfl h2 (fun hl46 => vt_iconst rfl
 (vt_istore_nA rfl (fun hl47 => vt_goto rfl
 (vt_gotoS rfl (fun m hm => ((w41 hf45 H43 e44) m hm) _ (fl_lsn (by decide) (fl_lsn (by decide) h0)) (fl_lsn (by decide) (fl_lsn (by decide) h1)) (fl_lsn (by decide) (fl_lse hl46)) (fl_lse hl47)))))))))))))))))))))))))))))))))) (fun hc29 => vt_iincA rfl h6 (fun hl48 => vt_gotoS rfl (fun m hm => (((w26 hf28).2 hc29) m hm) _ (fl_lsn (by decide) h0) (fl_lsn (by decide) h1) (fl_lsn (by decide) h2) (fl_lsn (by decide) h4) (fl_lsn (by decide) h5) (fl_lse hl48)))))))))))))))))))))))))
theorem ve_GoodsBookModel_lay_94 {X : Term} {xs : List Int32} {N : Nat} {H : fl_H} {a1 : Int} {Q : Option Int → fl_H → Prop} (W : ∀ H1, H1 = fl_up H 94 4 0 → (hd_GoodsBookModel_lay_94_7 (cm_pg X xs) N H1 a1 0 Q))  : ck (cm_pg X xs) N cm_m171 [.index 94, fl_t a1] H Q :=
  vt_aload_n rfl rfl rfl
 (vt_iconst rfl
 (vt_putf rfl rfl rfl (vt_nm (fun H1 e2 => vt_iconst rfl
 (vt_istore_n rfl
 ((W H1 e2) _ rfl rfl rfl))))))
def hd_GoodsBookModel_bitsAt_94_52 (P : cm_G) (N : Nat) (H : fl_H) (a4 : Int) (a5 : Int) (a6 : Int) (a7 : Int) (a8 : Int) (a9 : Int) (Q : Option Int → fl_H → Prop) : Prop := ∀ lv : cm_Lv, cm_nth lv 4 = some (some (fl_t a4)) → cm_nth lv 5 = some (some (fl_t a5)) → cm_nth lv 6 = some (some (fl_t a6)) → cm_nth lv 7 = some (some (fl_t a7)) → cm_nth lv 8 = some (some (fl_t a8)) → cm_nth lv 9 = some (some (fl_t a9)) → vt P N cm_m170 52 lv [] H Q
def hd_GoodsBookModel_bitsAt_94_62 (P : cm_G) (N : Nat) (H : fl_H) (a4 : Int) (a5 : Int) (a6 : Int) (a7 : Int) (a8 : Int) (a9 : Int) (a10 : Int) (Q : Option Int → fl_H → Prop) : Prop := ∀ lv : cm_Lv, cm_nth lv 4 = some (some (fl_t a4)) → cm_nth lv 5 = some (some (fl_t a5)) → cm_nth lv 6 = some (some (fl_t a6)) → cm_nth lv 7 = some (some (fl_t a7)) → cm_nth lv 8 = some (some (fl_t a8)) → cm_nth lv 9 = some (some (fl_t a9)) → cm_nth lv 10 = some (some (fl_t a10)) → vt P N cm_m170 62 lv [] H Q
theorem vh_GoodsBookModel_bitsAt_94_52 {X : Term} {xs : List Int32} {N : Nat} {H : fl_H} {a4 : Int} {a5 : Int} {a6 : Int} {a7 : Int} {a8 : Int} {a9 : Int} {Q : Option Int → fl_H → Prop} (W : ((fl_w a7 ≤ fl_w a9) → Q (some a8) H) ∧ (¬ (fl_w a7 ≤ fl_w a9) → hd_GoodsBookModel_bitsAt_94_62 (cm_pg X xs) N H a4 a5 a6 a7 a8 a9 0 Q)) : hd_GoodsBookModel_bitsAt_94_52 (cm_pg X xs) N H a4 a5 a6 a7 a8 a9 Q :=
 fun lv h4 h5 h6 h7 h8 h9 =>
 vt_iload rfl h9
 (vt_iload rfl h7
 (vt_icmp rfl (fun hc1 => vt_iload rfl h8
 (vt_ret rfl (W.1 hc1))) (fun hc1 => vt_iconst rfl
 (vt_istoreA rfl (fun hl2 => (W.2 hc1) _ (fl_lsn (by decide) h4) (fl_lsn (by decide) h5) (fl_lsn (by decide) h6) (fl_lsn (by decide) h7) (fl_lsn (by decide) h8) (fl_lsn (by decide) h9) (fl_lse hl2))))))
theorem vh_GoodsBookModel_bitsAt_94_62 {X : Term} {xs : List Int32} {N : Nat} {H : fl_H} {a4 : Int} {a5 : Int} {a6 : Int} {a7 : Int} {a8 : Int} {a9 : Int} {a10 : Int} {Q : Option Int → fl_H → Prop} (W : ((fl_w a6 ≤ fl_w a10) → ∀ m, m < N → hd_GoodsBookModel_bitsAt_94_52 (cm_pg X xs) m H a4 a5 a6 a7 a8 (a9 + 1) Q) ∧ (¬ (fl_w a6 ≤ fl_w a10) → ∀ m, m < N → hd_GoodsBookModel_bitsAt_94_62 (cm_pg X xs) m H a4 a5 a6 a7 (fl_or a8 (fl_shl 1 (((4 * (a5 + a9)) + a4) + a10))) a9 (a10 + 1) Q)) : hd_GoodsBookModel_bitsAt_94_62 (cm_pg X xs) N H a4 a5 a6 a7 a8 a9 a10 Q :=
 fun lv h4 h5 h6 h7 h8 h9 h10 =>
 vt_iload rfl h10
 (vt_iload rfl h6
 (vt_icmp rfl (fun hc1 => vt_iincA rfl h9 (fun hl2 => vt_gotoS rfl (fun m hm => ((W.1 hc1) m hm) _ (fl_lsn (by decide) h4) (fl_lsn (by decide) h5) (fl_lsn (by decide) h6) (fl_lsn (by decide) h7) (fl_lsn (by decide) h8) (fl_lse hl2)))) (fun hc1 => vt_iload rfl h8
 (vt_iconst rfl
 (vt_iconst rfl
 (vt_iload rfl h5
 (vt_iload rfl h9
 (vt_iadd rfl
 (vt_imul rfl
 (vt_iload rfl h4
 (vt_iadd rfl
 (vt_iload rfl h10
 (vt_iadd rfl
 (vt_ishl rfl
 (vt_ior rfl
 (vt_istoreA rfl (fun hl3 => vt_iincA rfl (fl_lsn (by decide) h10) (fun hl4 => vt_gotoS rfl (fun m hm => ((W.2 hc1) m hm) _ (fl_lsn (by decide) (fl_lsn (by decide) h4)) (fl_lsn (by decide) (fl_lsn (by decide) h5)) (fl_lsn (by decide) (fl_lsn (by decide) h6)) (fl_lsn (by decide) (fl_lsn (by decide) h7)) (fl_lsn (by decide) (fl_lse hl3)) (fl_lsn (by decide) (fl_lsn (by decide) h9)) (fl_lse hl4))))))))))))))))))))
theorem ve_GoodsBookModel_bitsAt_94 {X : Term} {xs : List Int32} {N : Nat} {H : fl_H} {a1 a2 a3 : Int} {Q : Option Int → fl_H → Prop} (W : ∀ m, m < N → ck (cm_pg X xs) m cm_m152 [.index 94, fl_t a1, fl_t a2] H (fun r H1 => ∃ x3, r = some x3 ∧ (∀ m, m < N → ck (cm_pg X xs) m cm_m153 [.index 94, fl_t a1, fl_t a2] H1 (fun r H4 => ∃ x6, r = some x6 ∧ (((4 < fl_w ((fl_rem a3 4) + x3)) → Q (some 0) H4) ∧ (¬ (4 < fl_w ((fl_rem a3 4) + x3)) → ((fl_w ((fl_div a3 4) + x6) ≤ 4) → hd_GoodsBookModel_bitsAt_94_52 (cm_pg X xs) N H4 (fl_rem a3 4) (fl_div a3 4) x3 x6 0 0 Q) ∧ (¬ (fl_w ((fl_div a3 4) + x6) ≤ 4) → Q (some 0) H4)))))))  : ck (cm_pg X xs) N cm_m170 [.index 94, fl_t a1, fl_t a2, fl_t a3] H Q :=
  vt_iload_n rfl rfl
 (vt_iconst rfl
 (vt_irem rfl
 (vt_istore rfl
 (vt_iload_n rfl rfl
 (vt_iconst rfl
 (vt_idiv rfl
 (vt_istore rfl
 (vt_aload_n rfl rfl rfl
 (vt_iload_n rfl rfl
 (vt_iload_n rfl rfl
 (vt_callV rfl rfl (fun _ => rfl) (fun m hm => vt_int (W m hm) (fun x3 H1 w2 => vt_istore rfl
 (vt_aload_n rfl rfl rfl
 (vt_iload_n rfl rfl
 (vt_iload_n rfl rfl
 (vt_callV rfl rfl (fun _ => rfl) (fun m hm => vt_int (w2 m hm) (fun x6 H4 w5 => vt_istore rfl
 (vt_iload rfl rfl
 (vt_iload rfl rfl
 (vt_iadd rfl
 (vt_iconst rfl
 (vt_icmp rfl (fun hc7 => vt_iconst rfl
 (vt_ret rfl (w5.1 hc7))) (fun hc7 => vt_iload rfl rfl
 (vt_iload rfl rfl
 (vt_iadd rfl
 (vt_iconst rfl
 (vt_icmp rfl (fun hc8 => vt_iconst rfl
 (vt_istore rfl
 (vt_iconst rfl
 (vt_istore rfl
 (((w5.2 hc7).1 hc8) _ rfl rfl rfl rfl rfl rfl))))) (fun hc8 => vt_iconst rfl
 (vt_ret rfl ((w5.2 hc7).2 hc8))))))))))))))))))))))))))))))))
def hd_GoodsBookModel_digitOf_4 (P : cm_G) (N : Nat) (H : fl_H) (a1 : Int) (a2 : Int) (a3 : Int) (Q : Option Int → fl_H → Prop) : Prop := ∀ lv : cm_Lv, cm_nth lv 1 = some (some (fl_t a1)) → cm_nth lv 2 = some (some (fl_t a2)) → cm_nth lv 3 = some (some (fl_t a3)) → vt P N cm_m169 4 lv [] H Q
theorem vh_GoodsBookModel_digitOf_4 {X : Term} {xs : List Int32} {N : Nat} {H : fl_H} {a1 : Int} {a2 : Int} {a3 : Int} {Q : Option Int → fl_H → Prop} (W : ((fl_w a1 ≤ fl_w a3) → Q (some (fl_rem a2 3)) H) ∧ (¬ (fl_w a1 ≤ fl_w a3) → ∀ m, m < N → hd_GoodsBookModel_digitOf_4 (cm_pg X xs) m H a1 (fl_div a2 3) (a3 + 1) Q)) : hd_GoodsBookModel_digitOf_4 (cm_pg X xs) N H a1 a2 a3 Q :=
 fun lv h1 h2 h3 =>
 vt_iload_n rfl h3
 (vt_iload_n rfl h1
 (vt_icmp rfl (fun hc1 => vt_iload_n rfl h2
 (vt_iconst rfl
 (vt_irem rfl
 (vt_ret rfl (W.1 hc1))))) (fun hc1 => vt_iload_n rfl h2
 (vt_iconst rfl
 (vt_idiv rfl
 (vt_istore_nA rfl (fun hl2 => vt_iincA rfl (fl_lsn (by decide) h3) (fun hl3 => vt_gotoS rfl (fun m hm => ((W.2 hc1) m hm) _ (fl_lsn (by decide) (fl_lsn (by decide) h1)) (fl_lsn (by decide) (fl_lse hl2)) (fl_lse hl3))))))))))
theorem ve_GoodsBookModel_digitOf {X : Term} {xs : List Int32} {N : Nat} {H : fl_H} {a0 a1 : Int} {Q : Option Int → fl_H → Prop} (W : hd_GoodsBookModel_digitOf_4 (cm_pg X xs) N H a1 a0 0 Q)  : ck (cm_pg X xs) N cm_m169 [fl_t a0, fl_t a1] H Q :=
  vt_iload_n rfl rfl
 (vt_istore_n rfl
 (vt_iconst rfl
 (vt_istore_n rfl
 (W _ rfl rfl rfl))))
def hd_GoodsBookModel_areaOfCode_94_4 (P : cm_G) (N : Nat) (H : fl_H) (a1 : Int) (a2 : Int) (a3 : Int) (Q : Option Int → fl_H → Prop) : Prop := ∀ lv : cm_Lv, cm_nth lv 0 = some (some (.index 94)) → cm_nth lv 1 = some (some (fl_t a1)) → cm_nth lv 2 = some (some (fl_t a2)) → cm_nth lv 3 = some (some (fl_t a3)) → vt P N cm_m172 4 lv [] H Q
theorem vh_GoodsBookModel_areaOfCode_94_4 {X : Term} {xs : List Int32} {N : Nat} {H : fl_H} {a1 : Int} {a2 : Int} {a3 : Int} {Q : Option Int → fl_H → Prop} (W : ((fl_w (H 95 1) ≤ fl_w a3) → Q (some a2) H) ∧ (¬ (fl_w (H 95 1) ≤ fl_w a3) → ∀ m, m < N → ck (cm_pg X xs) m cm_m169 [fl_t a1, fl_t a3] H (fun r H2 => ∃ x4, r = some x4 ∧ (((fl_w x4 ≤ 0) → ∀ m, m < N → hd_GoodsBookModel_areaOfCode_94_4 (cm_pg X xs) m H2 a1 (a2 + 0) (a3 + 1) Q) ∧ (¬ (fl_w x4 ≤ 0) → ∀ m, m < N → ck (cm_pg X xs) m cm_m155 [.index 94, fl_t a3, fl_t (x4 - 1)] H2 (fun r H9 => ∃ x11, r = some x11 ∧ (∀ m, m < N → hd_GoodsBookModel_areaOfCode_94_4 (cm_pg X xs) m H9 a1 (a2 + x11) (a3 + 1) Q))))))) : hd_GoodsBookModel_areaOfCode_94_4 (cm_pg X xs) N H a1 a2 a3 Q :=
 fun lv h0 h1 h2 h3 =>
 vt_iload_n rfl h3
 (vt_aload_n rfl h0 rfl
 (vt_getr rfl rfl rfl
 (vt_iconst rfl
 (vt_ialdN 1 rfl rfl rfl
 (vt_icmp rfl (fun hc1 => vt_iload_n rfl h2
 (vt_ret rfl (W.1 hc1))) (fun hc1 => vt_iload_n rfl h1
 (vt_iload_n rfl h3
 (vt_callS rfl rfl (fun _ => rfl) (fun m hm => vt_int ((W.2 hc1) m hm) (fun x4 H2 w3 => vt_istoreA rfl (fun hl5 => vt_iload_n rfl (fl_lsn (by decide) h2)
 (vt_iload rfl (fl_lse hl5)
 (vt_ifc rfl (fun hc6 => vt_iconst rfl
 (vt_iadd rfl
 (vt_istore_nA rfl (fun hl7 => vt_iincA rfl (fl_lsn (by decide) (fl_lsn (by decide) h3)) (fun hl8 => vt_gotoS rfl (fun m hm => ((w3.1 hc6) m hm) _ (fl_lsn (by decide) (fl_lsn (by decide) (fl_lsn (by decide) h0))) (fl_lsn (by decide) (fl_lsn (by decide) (fl_lsn (by decide) h1))) (fl_lsn (by decide) (fl_lse hl7)) (fl_lse hl8))))))) (fun hc6 => vt_aload_n rfl (fl_lsn (by decide) h0) rfl
 (vt_iload_n rfl (fl_lsn (by decide) h3)
 (vt_iload rfl (fl_lse hl5)
 (vt_iconst rfl
 (vt_isub rfl
 (vt_callV rfl rfl (fun _ => rfl) (fun m hm => vt_int ((w3.2 hc6) m hm) (fun x11 H9 w10 => vt_goto rfl
 (vt_iadd rfl
 (vt_istore_nA rfl (fun hl12 => vt_iincA rfl (fl_lsn (by decide) (fl_lsn (by decide) h3)) (fun hl13 => vt_gotoS rfl (fun m hm => (w10 m hm) _ (fl_lsn (by decide) (fl_lsn (by decide) (fl_lsn (by decide) h0))) (fl_lsn (by decide) (fl_lsn (by decide) (fl_lsn (by decide) h1))) (fl_lsn (by decide) (fl_lse hl12)) (fl_lse hl13)))))))))))))))))))))))))))
theorem ve_GoodsBookModel_areaOfCode_94 {X : Term} {xs : List Int32} {N : Nat} {H : fl_H} {a1 : Int} {Q : Option Int → fl_H → Prop} (W : hd_GoodsBookModel_areaOfCode_94_4 (cm_pg X xs) N H a1 0 0 Q)  : ck (cm_pg X xs) N cm_m172 [.index 94, fl_t a1] H Q :=
  vt_iconst rfl
 (vt_istore_n rfl
 (vt_iconst rfl
 (vt_istore_n rfl
 (W _ rfl rfl rfl rfl))))
def hd_GoodsBookModel_codeOf_94_11 (P : cm_G) (N : Nat) (H : fl_H) (a1 : Int) (a2 : Int) (a3 : Int) (Q : Option Int → fl_H → Prop) : Prop := ∀ lv : cm_Lv, cm_nth lv 0 = some (some (.index 94)) → cm_nth lv 1 = some (some (fl_t a1)) → cm_nth lv 2 = some (some (fl_t a2)) → cm_nth lv 3 = some (some (fl_t a3)) → vt P N cm_m177 11 lv [] H Q
theorem vh_GoodsBookModel_codeOf_94_11 {X : Term} {xs : List Int32} {N : Nat} {H : fl_H} {a1 : Int} {a2 : Int} {a3 : Int} {Q : Option Int → fl_H → Prop} (W : ((fl_w a3 < 0) → Q (some a2) H) ∧ (¬ (fl_w a3 < 0) → (0 ≤ fl_w a3 ∧ fl_w a3 < 6 → ∀ m, m < N → ck (cm_pg X xs) m cm_m151 [fl_t (H 100 (fl_w a3).toNat)] H (fun r H3 => ∃ x5, r = some x5 ∧ ((fl_w x5 = fl_w a1 → (0 ≤ fl_w a3 ∧ fl_w a3 < 6 → ∀ m, m < N → hd_GoodsBookModel_codeOf_94_11 (cm_pg X xs) m H3 a1 ((3 * a2) + ((fl_rem ((H3 100 (fl_w a3).toNat) - 1) 2) + 1)) (a3 + (-1)) Q)) ∧ (¬ fl_w x5 = fl_w a1 → ∀ m, m < N → hd_GoodsBookModel_codeOf_94_11 (cm_pg X xs) m H3 a1 ((3 * a2) + 0) (a3 + (-1)) Q)))))) : hd_GoodsBookModel_codeOf_94_11 (cm_pg X xs) N H a1 a2 a3 Q :=
 fun lv h0 h1 h2 h3 =>
 vt_iload_n rfl h3
 (vt_ifc rfl (fun hc1 => vt_iload_n rfl h2
 (vt_ret rfl (W.1 hc1))) (fun hc1 => vt_iconst rfl
 (vt_iload_n rfl h2
 (vt_imul rfl
 (vt_aload_n rfl h0 rfl
 (vt_getr rfl rfl rfl
 (vt_iload_n rfl h3
 (vt_iald rfl rfl (fun hf2 => vt_callS rfl rfl (fun _ => rfl) (fun m hm => vt_int (((W.2 hc1) hf2) m hm) (fun x5 H3 w4 => vt_iload_n rfl h1
 (vt_icmpN rfl (fun hc6 => vt_iconst rfl
 (vt_iadd rfl
 (vt_istore_nA rfl (fun hl10 => vt_iincA rfl (fl_lsn (by decide) h3) (fun hl11 => vt_gotoS rfl (fun m hm => ((w4.2 hc6) m hm) _ (fl_lsn (by decide) (fl_lsn (by decide) h0)) (fl_lsn (by decide) (fl_lsn (by decide) h1)) (fl_lsn (by decide) (fl_lse hl10)) (fl_lse hl11))))))) (fun hc6 => vt_aload_n rfl h0 rfl
 (vt_getr rfl rfl rfl
 (vt_iload_n rfl h3
 (vt_iald rfl rfl (fun hf7 => vt_iconst rfl
 (vt_isub rfl
 (vt_iconst rfl
 (vt_irem rfl
 (vt_iconst rfl
 (vt_iadd rfl
 (vt_goto rfl
 (vt_iadd rfl
 (vt_istore_nA rfl (fun hl8 => vt_iincA rfl (fl_lsn (by decide) h3) (fun hl9 => vt_gotoS rfl (fun m hm => (((w4.1 hc6) hf7) m hm) _ (fl_lsn (by decide) (fl_lsn (by decide) h0)) (fl_lsn (by decide) (fl_lsn (by decide) h1)) (fl_lsn (by decide) (fl_lse hl8)) (fl_lse hl9)))))))))))))))))))))))))))))
theorem ve_GoodsBookModel_codeOf_94 {X : Term} {xs : List Int32} {N : Nat} {H : fl_H} {a1 : Int} {Q : Option Int → fl_H → Prop} (W : hd_GoodsBookModel_codeOf_94_11 (cm_pg X xs) N H a1 0 ((H 95 1) - 1) Q)  : ck (cm_pg X xs) N cm_m177 [.index 94, fl_t a1] H Q :=
  vt_iconst rfl
 (vt_istore_n rfl
 (vt_aload_n rfl rfl rfl
 (vt_getr rfl rfl rfl
 (vt_iconst rfl
 (vt_ialdN 1 rfl rfl rfl
 (vt_iconst rfl
 (vt_isub rfl
 (vt_istore_n rfl
 (W _ rfl rfl rfl rfl)))))))))
def hd_GoodsBookModel_firstBroken_94_2 (P : cm_G) (N : Nat) (H : fl_H) (a1 : Int) (Q : Option Int → fl_H → Prop) : Prop := ∀ lv : cm_Lv, cm_nth lv 0 = some (some (.index 94)) → cm_nth lv 1 = some (some (fl_t a1)) → vt P N cm_m185 2 lv [] H Q
theorem vh_GoodsBookModel_firstBroken_94_2 {X : Term} {xs : List Int32} {N : Nat} {H : fl_H} {a1 : Int} {Q : Option Int → fl_H → Prop} (W : ((fl_w (H 95 2) ≤ fl_w a1) → Q (some (-4)) H) ∧ (¬ (fl_w (H 95 2) ≤ fl_w a1) → ∀ m, m < N → ck (cm_pg X xs) m cm_m184 [.index 94, fl_t (68 + (4 * a1))] H (fun r H2 => ∃ x4, r = some x4 ∧ ((fl_w x4 = 0 → Q (some a1) H2) ∧ (¬ fl_w x4 = 0 → ∀ m, m < N → hd_GoodsBookModel_firstBroken_94_2 (cm_pg X xs) m H2 (a1 + 1) Q))))) : hd_GoodsBookModel_firstBroken_94_2 (cm_pg X xs) N H a1 Q :=
 fun lv h0 h1 =>
 vt_iload_n rfl h1
 (vt_aload_n rfl h0 rfl
 (vt_getr rfl rfl rfl
 (vt_iconst rfl
 (vt_ialdN 2 rfl rfl rfl
 (vt_icmp rfl (fun hc1 => vt_bipush (v := (-4)) rfl (by decide)
 (vt_ret rfl (W.1 hc1))) (fun hc1 => vt_aload_n rfl h0 rfl
 (vt_bipush (v := 68) rfl (by decide)
 (vt_iconst rfl
 (vt_iload_n rfl h1
 (vt_imul rfl
 (vt_iadd rfl
 (vt_callV rfl rfl (fun _ => rfl) (fun m hm => vt_int ((W.2 hc1) m hm) (fun x4 H2 w3 => vt_ifcN rfl (fun hc5 => vt_iincA rfl h1 (fun hl6 => vt_gotoS rfl (fun m hm => ((w3.2 hc5) m hm) _ (fl_lsn (by decide) h0) (fl_lse hl6)))) (fun hc5 => vt_iload_n rfl h1
 (vt_ret rfl (w3.1 hc5)))))))))))))))))
theorem ve_GoodsBookModel_firstBroken_94 {X : Term} {xs : List Int32} {N : Nat} {H : fl_H} {Q : Option Int → fl_H → Prop} (W : hd_GoodsBookModel_firstBroken_94_2 (cm_pg X xs) N H 0 Q)  : ck (cm_pg X xs) N cm_m185 [.index 94] H Q :=
  vt_iconst rfl
 (vt_istore_n rfl
 (W _ rfl rfl))
theorem ve_GoodsBookModel_keeps_94 {X : Term} {xs : List Int32} {N : Nat} {H : fl_H} {a1 : Int} {Q : Option Int → fl_H → Prop} (W : (0 ≤ fl_w (a1 + 1) ∧ fl_w (a1 + 1) < 152 → (0 ≤ fl_w (H 95 (fl_w (a1 + 1)).toNat) ∧ fl_w (H 95 (fl_w (a1 + 1)).toNat) < 6 → ∀ m, m < N → ck (cm_pg X xs) m cm_m151 [fl_t (H 100 (fl_w (H 95 (fl_w (a1 + 1)).toNat)).toNat)] H (fun r H3 => ∃ x5, r = some x5 ∧ ((0 ≤ fl_w (a1 + 2) ∧ fl_w (a1 + 2) < 152 → (0 ≤ fl_w (H3 95 (fl_w (a1 + 2)).toNat) ∧ fl_w (H3 95 (fl_w (a1 + 2)).toNat) < 6 → ∀ m, m < N → ck (cm_pg X xs) m cm_m151 [fl_t (H3 100 (fl_w (H3 95 (fl_w (a1 + 2)).toNat)).toNat)] H3 (fun r H8 => ∃ x10, r = some x10 ∧ ((0 ≤ fl_w a1 ∧ fl_w a1 < 152 → (fl_w (H8 95 (fl_w a1).toNat) = 3 → ((fl_w x5 < 0) → Q (some 1) H8) ∧ (¬ (fl_w x5 < 0) → ((fl_w x10 < 0) → Q (some 0) H8) ∧ (¬ (fl_w x10 < 0) → Q (some 1) H8))) ∧ (fl_w (H8 95 (fl_w a1).toNat) = 4 → ((fl_w x5 < 0) → Q (some 1) H8) ∧ (¬ (fl_w x5 < 0) → ((fl_w x10 < 0) → Q (some 1) H8) ∧ (¬ (fl_w x10 < 0) → ((fl_w x5 = fl_w x10) → Q (some 0) H8) ∧ (¬ (fl_w x5 = fl_w x10) → Q (some 1) H8)))) ∧ (fl_w (H8 95 (fl_w a1).toNat) = 5 → ((fl_w x5 < 0) → Q (some 1) H8) ∧ (¬ (fl_w x5 < 0) → ((fl_w x10 < 0) → Q (some 1) H8) ∧ (¬ (fl_w x10 < 0) → ((fl_w x10 ≤ fl_w x5) → Q (some 0) H8) ∧ (¬ (fl_w x10 ≤ fl_w x5) → Q (some 1) H8)))) ∧ (fl_w (H8 95 (fl_w a1).toNat) < 3 ∨ 5 < fl_w (H8 95 (fl_w a1).toNat) → Q (some 1) H8)))))))))))  : ck (cm_pg X xs) N cm_m184 [.index 94, fl_t a1] H Q :=
  vt_aload_n rfl rfl rfl
 (vt_getr rfl rfl rfl
 (vt_aload_n rfl rfl rfl
 (vt_getr rfl rfl rfl
 (vt_iload_n rfl rfl
 (vt_iconst rfl
 (vt_iadd rfl
 (vt_iald rfl rfl (fun hf1 => vt_iald rfl rfl (fun hf2 => vt_callS rfl rfl (fun _ => rfl) (fun m hm => vt_int (((W hf1) hf2) m hm) (fun x5 H3 w4 => vt_istore_n rfl
 (vt_aload_n rfl rfl rfl
 (vt_getr rfl rfl rfl
 (vt_aload_n rfl rfl rfl
 (vt_getr rfl rfl rfl
 (vt_iload_n rfl rfl
 (vt_iconst rfl
 (vt_iadd rfl
 (vt_iald rfl rfl (fun hf6 => vt_iald rfl rfl (fun hf7 => vt_callS rfl rfl (fun _ => rfl) (fun m hm => vt_int (((w4 hf6) hf7) m hm) (fun x10 H8 w9 => vt_istore_n rfl
 (vt_aload_n rfl rfl rfl
 (vt_getr rfl rfl rfl
 (vt_iload_n rfl rfl
 (vt_iald rfl rfl (fun hf11 => if hs12 : fl_w (H8 95 (fl_w a1).toNat) = 3 then vt_swk rfl (vt_sw_in (j := 0) (by omega) (by omega) (by omega) rfl) (vt_iload_n rfl rfl
 (vt_ifc rfl (fun hc13 => vt_iconst rfl
 (vt_goto rfl
 (vt_ret rfl (((w9 hf11).1 hs12).1 hc13)))) (fun hc13 => vt_iload_n rfl rfl
 (vt_ifc rfl (fun hc14 => vt_iconst rfl
 (vt_ret rfl ((((w9 hf11).1 hs12).2 hc13).1 hc14))) (fun hc14 => vt_iconst rfl
 (vt_goto rfl
 (vt_ret rfl ((((w9 hf11).1 hs12).2 hc13).2 hc14)))))))) else if hs15 : fl_w (H8 95 (fl_w a1).toNat) = 4 then vt_swk rfl (vt_sw_in (j := 1) (by omega) (by omega) (by omega) rfl) (vt_iload_n rfl rfl
 (vt_ifc rfl (fun hc16 => vt_iconst rfl
 (vt_goto rfl
 (vt_ret rfl (((w9 hf11).2.1 hs15).1 hc16)))) (fun hc16 => vt_iload_n rfl rfl
 (vt_ifc rfl (fun hc17 => vt_iconst rfl
 (vt_goto rfl
 (vt_ret rfl ((((w9 hf11).2.1 hs15).2 hc16).1 hc17)))) (fun hc17 => vt_iload_n rfl rfl
 (vt_iload_n rfl rfl
 (vt_icmp rfl (fun hc18 => vt_iconst rfl
 (vt_ret rfl (((((w9 hf11).2.1 hs15).2 hc16).2 hc17).1 hc18))) (fun hc18 => vt_iconst rfl
 (vt_goto rfl
 (vt_ret rfl (((((w9 hf11).2.1 hs15).2 hc16).2 hc17).2 hc18))))))))))) else if hs19 : fl_w (H8 95 (fl_w a1).toNat) = 5 then vt_swk rfl (vt_sw_in (j := 2) (by omega) (by omega) (by omega) rfl) (vt_iload_n rfl rfl
 (vt_ifc rfl (fun hc20 => vt_iconst rfl
 (vt_goto rfl
 (vt_ret rfl (((w9 hf11).2.2.1 hs19).1 hc20)))) (fun hc20 => vt_iload_n rfl rfl
 (vt_ifc rfl (fun hc21 => vt_iconst rfl
 (vt_goto rfl
 (vt_ret rfl ((((w9 hf11).2.2.1 hs19).2 hc20).1 hc21)))) (fun hc21 => vt_iload_n rfl rfl
 (vt_iload_n rfl rfl
 (vt_icmp rfl (fun hc22 => vt_iconst rfl
 (vt_ret rfl (((((w9 hf11).2.2.1 hs19).2 hc20).2 hc21).1 hc22))) (fun hc22 => vt_iconst rfl
 (vt_goto rfl
 (vt_ret rfl (((((w9 hf11).2.2.1 hs19).2 hc20).2 hc21).2 hc22))))))))))) else vt_swk rfl (vt_sw_out (by omega)) (vt_iconst rfl
 (vt_ret rfl ((w9 hf11).2.2.2 (by omega))))))))))))))))))))))))))))))))
def hd_GoodsBookModel_unlike_94_4 (P : cm_G) (N : Nat) (H : fl_H) (a1 : Int) (a2 : Int) (a3 : Int) (Q : Option Int → fl_H → Prop) : Prop := ∀ lv : cm_Lv, cm_nth lv 0 = some (some (.index 94)) → cm_nth lv 1 = some (some (fl_t a1)) → cm_nth lv 2 = some (some (fl_t a2)) → cm_nth lv 3 = some (some (fl_t a3)) → vt P N cm_m214 4 lv [] H Q
theorem vh_GoodsBookModel_unlike_94_4 {X : Term} {xs : List Int32} {N : Nat} {H : fl_H} {a1 : Int} {a2 : Int} {a3 : Int} {Q : Option Int → fl_H → Prop} (W : ((fl_w (H 95 1) ≤ fl_w a3) → Q (some a2) H) ∧ (¬ (fl_w (H 95 1) ≤ fl_w a3) → ((fl_w a3 = fl_w a1) → ∀ m, m < N → hd_GoodsBookModel_unlike_94_4 (cm_pg X xs) m H a1 (a2 + 0) (a3 + 1) Q) ∧ (¬ (fl_w a3 = fl_w a1) → (0 ≤ fl_w a3 ∧ fl_w a3 < 6 → (0 ≤ fl_w (62 + a3) ∧ fl_w (62 + a3) < 152 → ((fl_w (H 100 (fl_w a3).toNat) = fl_w (H 95 (fl_w (62 + a3)).toNat)) → ∀ m, m < N → hd_GoodsBookModel_unlike_94_4 (cm_pg X xs) m H a1 (a2 + 0) (a3 + 1) Q) ∧ (¬ (fl_w (H 100 (fl_w a3).toNat) = fl_w (H 95 (fl_w (62 + a3)).toNat)) → ∀ m, m < N → hd_GoodsBookModel_unlike_94_4 (cm_pg X xs) m H a1 (a2 + 1) (a3 + 1) Q)))))) : hd_GoodsBookModel_unlike_94_4 (cm_pg X xs) N H a1 a2 a3 Q :=
 fun lv h0 h1 h2 h3 =>
 vt_iload_n rfl h3
 (vt_aload_n rfl h0 rfl
 (vt_getr rfl rfl rfl
 (vt_iconst rfl
 (vt_ialdN 1 rfl rfl rfl
 (vt_icmp rfl (fun hc1 => vt_iload_n rfl h2
 (vt_ret rfl (W.1 hc1))) (fun hc1 => vt_iload_n rfl h2
 (vt_iload_n rfl h3
 (vt_iload_n rfl h1
 (vt_icmp rfl (fun hc2 => vt_iconst rfl
 (vt_iadd rfl
 (vt_istore_nA rfl (fun hl3 => vt_iincA rfl (fl_lsn (by decide) h3) (fun hl4 => vt_gotoS rfl (fun m hm => (((W.2 hc1).1 hc2) m hm) _ (fl_lsn (by decide) (fl_lsn (by decide) h0)) (fl_lsn (by decide) (fl_lsn (by decide) h1)) (fl_lsn (by decide) (fl_lse hl3)) (fl_lse hl4))))))) (fun hc2 => vt_aload_n rfl h0 rfl
 (vt_getr rfl rfl rfl
 (vt_iload_n rfl h3
 (vt_iald rfl rfl (fun hf5 => vt_aload_n rfl h0 rfl
 (vt_getr rfl rfl rfl
 (vt_bipush (v := 62) rfl (by decide)
 (vt_iload_n rfl h3
 (vt_iadd rfl
 (vt_iald rfl rfl (fun hf6 => vt_icmp rfl (fun hc7 => vt_iconst rfl
 (vt_iadd rfl
 (vt_istore_nA rfl (fun hl8 => vt_iincA rfl (fl_lsn (by decide) h3) (fun hl9 => vt_gotoS rfl (fun m hm => ((((((W.2 hc1).2 hc2) hf5) hf6).1 hc7) m hm) _ (fl_lsn (by decide) (fl_lsn (by decide) h0)) (fl_lsn (by decide) (fl_lsn (by decide) h1)) (fl_lsn (by decide) (fl_lse hl8)) (fl_lse hl9))))))) (fun hc7 => vt_iconst rfl
 (vt_goto rfl
 (vt_iadd rfl
 (vt_istore_nA rfl (fun hl10 => vt_iincA rfl (fl_lsn (by decide) h3) (fun hl11 => vt_gotoS rfl (fun m hm => ((((((W.2 hc1).2 hc2) hf5) hf6).2 hc7) m hm) _ (fl_lsn (by decide) (fl_lsn (by decide) h0)) (fl_lsn (by decide) (fl_lsn (by decide) h1)) (fl_lsn (by decide) (fl_lse hl10)) (fl_lse hl11))))))))))))))))))))))))))))
theorem ve_GoodsBookModel_unlike_94 {X : Term} {xs : List Int32} {N : Nat} {H : fl_H} {a1 : Int} {Q : Option Int → fl_H → Prop} (W : hd_GoodsBookModel_unlike_94_4 (cm_pg X xs) N H a1 0 0 Q)  : ck (cm_pg X xs) N cm_m214 [.index 94, fl_t a1] H Q :=
  vt_iconst rfl
 (vt_istore_n rfl
 (vt_iconst rfl
 (vt_istore_n rfl
 (W _ rfl rfl rfl rfl))))
def hd_GoodsBookModel_layRow_94_11 (P : cm_G) (N : Nat) (H : fl_H) (a2 : Int) (a3 : Int) (Q : Option Int → fl_H → Prop) : Prop := ∀ lv : cm_Lv, cm_nth lv 0 = some (some (.index 94)) → cm_nth lv 2 = some (some (fl_t a2)) → cm_nth lv 3 = some (some (fl_t a3)) → vt P N cm_m194 11 lv [] H Q
theorem vh_GoodsBookModel_layRow_94_11 {X : Term} {xs : List Int32} {N : Nat} {H : fl_H} {a2 : Int} {a3 : Int} {Q : Option Int → fl_H → Prop} (W : ((fl_w a3 < 0) → Q none H) ∧ (¬ (fl_w a3 < 0) → (0 ≤ fl_w a3 ∧ fl_w a3 < 6 → ∀ H2, H2 = fl_up H 100 (fl_w a3).toNat (fl_rem a2 ((2 * (H 95 0)) + 1)) → ∀ m, m < N → hd_GoodsBookModel_layRow_94_11 (cm_pg X xs) m H2 (fl_div a2 ((2 * (H2 95 0)) + 1)) (a3 + (-1)) Q))) : hd_GoodsBookModel_layRow_94_11 (cm_pg X xs) N H a2 a3 Q :=
 fun lv h0 h2 h3 =>
 vt_iload_n rfl h3
 (vt_ifc rfl (fun hc1 => vt_retv rfl (W.1 hc1)) (fun hc1 => vt_aload_n rfl h0 rfl
 (vt_getr rfl rfl rfl
 (vt_iload_n rfl h3
 (vt_iload_n rfl h2
 (vt_iconst rfl
 (vt_aload_n rfl h0 rfl
 (vt_getr rfl rfl rfl
 (vt_iconst rfl
 (vt_ialdN 0 rfl rfl rfl
 (vt_imul rfl
 (vt_iconst rfl
 (vt_iadd rfl
 (vt_irem rfl
 (vt_iast rfl rfl (fun hf4 => vt_nm (fun H2 e3 => vt_iload_n rfl h2
 (vt_iconst rfl
 (vt_aload_n rfl h0 rfl
 (vt_getr rfl rfl rfl
 (vt_iconst rfl
 (vt_ialdN 0 rfl rfl rfl
 (vt_imul rfl
 (vt_iconst rfl
 (vt_iadd rfl
 (vt_idiv rfl
 (vt_istore_nA rfl (fun hl5 => vt_iincA rfl (fl_lsn (by decide) h3) (fun hl6 => vt_gotoS rfl (fun m hm => (((W.2 hc1) hf4 H2 e3) m hm) _ (fl_lsn (by decide) (fl_lsn (by decide) h0)) (fl_lsn (by decide) (fl_lse hl5)) (fl_lse hl6)))))))))))))))))))))))))))))))
theorem ve_GoodsBookModel_layRow_94 {X : Term} {xs : List Int32} {N : Nat} {H : fl_H} {a1 : Int} {Q : Option Int → fl_H → Prop} (W : hd_GoodsBookModel_layRow_94_11 (cm_pg X xs) N H a1 ((H 95 1) - 1) Q)  : ck (cm_pg X xs) N cm_m194 [.index 94, fl_t a1] H Q :=
  vt_iload_n rfl rfl
 (vt_istore_n rfl
 (vt_aload_n rfl rfl rfl
 (vt_getr rfl rfl rfl
 (vt_iconst rfl
 (vt_ialdN 1 rfl rfl rfl
 (vt_iconst rfl
 (vt_isub rfl
 (vt_istore_n rfl
 (W _ rfl rfl rfl)))))))))
def hd_GoodsBookModel_rows_94_4 (P : cm_G) (N : Nat) (H : fl_H) (a1 : Int) (a2 : Int) (Q : Option Int → fl_H → Prop) : Prop := ∀ lv : cm_Lv, cm_nth lv 0 = some (some (.index 94)) → cm_nth lv 1 = some (some (fl_t a1)) → cm_nth lv 2 = some (some (fl_t a2)) → vt P N cm_m193 4 lv [] H Q
theorem vh_GoodsBookModel_rows_94_4 {X : Term} {xs : List Int32} {N : Nat} {H : fl_H} {a1 : Int} {a2 : Int} {Q : Option Int → fl_H → Prop} (W : ((fl_w (H 95 1) ≤ fl_w a2) → Q (some a1) H) ∧ (¬ (fl_w (H 95 1) ≤ fl_w a2) → ∀ m, m < N → hd_GoodsBookModel_rows_94_4 (cm_pg X xs) m H (a1 * ((2 * (H 95 0)) + 1)) (a2 + 1) Q)) : hd_GoodsBookModel_rows_94_4 (cm_pg X xs) N H a1 a2 Q :=
 fun lv h0 h1 h2 =>
 vt_iload_n rfl h2
 (vt_aload_n rfl h0 rfl
 (vt_getr rfl rfl rfl
 (vt_iconst rfl
 (vt_ialdN 1 rfl rfl rfl
 (vt_icmp rfl (fun hc1 => vt_iload_n rfl h1
 (vt_ret rfl (W.1 hc1))) (fun hc1 => vt_iload_n rfl h1
 (vt_iconst rfl
 (vt_aload_n rfl h0 rfl
 (vt_getr rfl rfl rfl
 (vt_iconst rfl
 (vt_ialdN 0 rfl rfl rfl
 (vt_imul rfl
 (vt_iconst rfl
 (vt_iadd rfl
 (vt_imul rfl
 (vt_istore_nA rfl (fun hl2 => vt_iincA rfl (fl_lsn (by decide) h2) (fun hl3 => vt_gotoS rfl (fun m hm => ((W.2 hc1) m hm) _ (fl_lsn (by decide) (fl_lsn (by decide) h0)) (fl_lsn (by decide) (fl_lse hl2)) (fl_lse hl3))))))))))))))))))))
theorem ve_GoodsBookModel_rows_94 {X : Term} {xs : List Int32} {N : Nat} {H : fl_H} {Q : Option Int → fl_H → Prop} (W : hd_GoodsBookModel_rows_94_4 (cm_pg X xs) N H 1 0 Q)  : ck (cm_pg X xs) N cm_m193 [.index 94] H Q :=
  vt_iconst rfl
 (vt_istore_n rfl
 (vt_iconst rfl
 (vt_istore_n rfl
 (W _ rfl rfl rfl))))
theorem ve_GoodsBookModel_through_94 {X : Term} {xs : List Int32} {N : Nat} {H : fl_H} {a1 : Int} {Q : Option Int → fl_H → Prop} (W : ∀ m, m < N → ck (cm_pg X xs) m cm_m149 [.index 94, fl_t a1] H (fun r H1 => ∃ x3, r = some x3 ∧ ((fl_w x3 = 0 → Q (some (-1000000001)) H1) ∧ (¬ fl_w x3 = 0 → ∀ m, m < N → ck (cm_pg X xs) m cm_m176 [.index 94] H1 (fun r H5 => r = none ∧ ((0 ≤ fl_w a1 ∧ fl_w a1 < 6 → (fl_w (H5 100 (fl_w a1).toNat) = 0 → Q (some (-1000000004)) H5) ∧ (¬ fl_w (H5 100 (fl_w a1).toNat) = 0 → ∀ m, m < N → ck (cm_pg X xs) m cm_m181 [.index 94, fl_t a1] H5 (fun r H9 => ∃ x11, r = some x11 ∧ (∀ m, m < N → ck (cm_pg X xs) m cm_m183 [.index 94] H9 (fun r H12 => ∃ x14, r = some x14 ∧ ((0 ≤ fl_w a1 ∧ fl_w a1 < 6 → ∀ H15, H15 = fl_up H12 100 (fl_w a1).toNat 0 → ∀ m, m < N → ck (cm_pg X xs) m cm_m183 [.index 94] H15 (fun r H18 => ∃ x20, r = some x20 ∧ (Q (some ((x14 - x20) - x11)) H18)))))))))))))))  : ck (cm_pg X xs) N cm_m213 [.index 94, fl_t a1] H Q :=
  vt_aload_n rfl rfl rfl
 (vt_iload_n rfl rfl
 (vt_callV rfl rfl (fun _ => rfl) (fun m hm => vt_int (W m hm) (fun x3 H1 w2 => vt_ifcN rfl (fun hc4 => vt_aload_n rfl rfl rfl
 (vt_callV rfl rfl (fun _ => rfl) (fun m hm => vt_void ((w2.2 hc4) m hm) (fun H5 w6 => vt_aload_n rfl rfl rfl
 (vt_getr rfl rfl rfl
 (vt_iload_n rfl rfl
 (vt_iald rfl rfl (fun hf7 => vt_ifcN rfl (fun hc8 => vt_aload_n rfl rfl rfl
 (vt_iload_n rfl rfl
 (vt_callV rfl rfl (fun _ => rfl) (fun m hm => vt_int (((w6 hf7).2 hc8) m hm) (fun x11 H9 w10 => vt_istore_n rfl
 (vt_aload_n rfl rfl rfl
 (vt_callV rfl rfl (fun _ => rfl) (fun m hm => vt_int (w10 m hm) (fun x14 H12 w13 => vt_istore_n rfl
 (vt_aload_n rfl rfl rfl
 (vt_getr rfl rfl rfl
 (vt_iload_n rfl rfl
 (vt_iconst rfl
 (vt_iast rfl rfl (fun hf17 => vt_nm (fun H15 e16 => vt_iload_n rfl rfl
 (vt_aload_n rfl rfl rfl
 (vt_callV rfl rfl (fun _ => rfl) (fun m hm => vt_int ((w13 hf17 H15 e16) m hm) (fun x20 H18 w19 => vt_isub rfl
 (vt_iload_n rfl rfl
 (vt_isub rfl
 (vt_ret rfl w19))))))))))))))))))))))) (fun hc8 => vt_ldc (v := (-1000000004)) rfl (by decide)
 (vt_ret rfl ((w6 hf7).1 hc8))))))))))) (fun hc4 => vt_ldc (v := (-1000000001)) rfl (by decide)
 (vt_ret rfl (w2.1 hc4)))))))
def hd_GoodsBookModel_takePlan_94_2 (P : cm_G) (N : Nat) (H : fl_H) (a1 : Int) (Q : Option Int → fl_H → Prop) : Prop := ∀ lv : cm_Lv, cm_nth lv 0 = some (some (.index 94)) → cm_nth lv 1 = some (some (fl_t a1)) → vt P N cm_m176 2 lv [] H Q
theorem vh_GoodsBookModel_takePlan_94_2 {X : Term} {xs : List Int32} {N : Nat} {H : fl_H} {a1 : Int} {Q : Option Int → fl_H → Prop} (W : ((6 ≤ fl_w a1) → Q none H) ∧ (¬ (6 ≤ fl_w a1) → ((fl_w (H 95 1) ≤ fl_w a1) → (0 ≤ fl_w a1 ∧ fl_w a1 < 6 → ∀ H3, H3 = fl_up H 100 (fl_w a1).toNat 0 → ∀ m, m < N → hd_GoodsBookModel_takePlan_94_2 (cm_pg X xs) m H3 (a1 + 1) Q)) ∧ (¬ (fl_w (H 95 1) ≤ fl_w a1) → (0 ≤ fl_w (62 + a1) ∧ fl_w (62 + a1) < 152 → (0 ≤ fl_w a1 ∧ fl_w a1 < 6 → ∀ H8, H8 = fl_up H 100 (fl_w a1).toNat (H 95 (fl_w (62 + a1)).toNat) → ∀ m, m < N → hd_GoodsBookModel_takePlan_94_2 (cm_pg X xs) m H8 (a1 + 1) Q))))) : hd_GoodsBookModel_takePlan_94_2 (cm_pg X xs) N H a1 Q :=
 fun lv h0 h1 =>
 vt_iload_n rfl h1
 (vt_bipush (v := 6) rfl (by decide)
 (vt_icmp rfl (fun hc1 => vt_retv rfl (W.1 hc1)) (fun hc1 => vt_aload_n rfl h0 rfl
 (vt_getr rfl rfl rfl
 (vt_iload_n rfl h1
 (vt_iload_n rfl h1
 (vt_aload_n rfl h0 rfl
 (vt_getr rfl rfl rfl
 (vt_iconst rfl
 (vt_ialdN 1 rfl rfl rfl
 (vt_icmp rfl (fun hc2 => vt_iconst rfl
 (vt_iast rfl rfl (fun hf5 => vt_nm (fun H3 e4 => vt_iincA rfl h1 (fun hl6 => vt_gotoS rfl (fun m hm => ((((W.2 hc1).1 hc2) hf5 H3 e4) m hm) _ (fl_lsn (by decide) h0) (fl_lse hl6))))))) (fun hc2 => vt_aload_n rfl h0 rfl
 (vt_getr rfl rfl rfl
 (vt_bipush (v := 62) rfl (by decide)
 (vt_iload_n rfl h1
 (vt_iadd rfl
 (vt_iald rfl rfl (fun hf7 => vt_goto rfl
 (vt_iast rfl rfl (fun hf10 => vt_nm (fun H8 e9 => vt_iincA rfl h1 (fun hl11 => vt_gotoS rfl (fun m hm => (((((W.2 hc1).2 hc2) hf7) hf10 H8 e9) m hm) _ (fl_lsn (by decide) h0) (fl_lse hl11))))))))))))))))))))))))
theorem ve_GoodsBookModel_takePlan_94 {X : Term} {xs : List Int32} {N : Nat} {H : fl_H} {Q : Option Int → fl_H → Prop} (W : hd_GoodsBookModel_takePlan_94_2 (cm_pg X xs) N H 0 Q)  : ck (cm_pg X xs) N cm_m176 [.index 94] H Q :=
  vt_iconst rfl
 (vt_istore_n rfl
 (W _ rfl rfl))
def hd_GoodsBookModel_less_94_26 (P : cm_G) (N : Nat) (H : fl_H) (a2 : Int) (a3 : Int) (Q : Option Int → fl_H → Prop) : Prop := ∀ lv : cm_Lv, cm_nth lv 0 = some (some (.index 94)) → cm_nth lv 2 = some (some (fl_t a2)) → cm_nth lv 3 = some (some (fl_t a3)) → vt P N cm_m212 26 lv [] H Q
theorem vh_GoodsBookModel_less_94_26 {X : Term} {xs : List Int32} {N : Nat} {H : fl_H} {a2 : Int} {a3 : Int} {Q : Option Int → fl_H → Prop} (W : ((fl_w (H 95 0) ≤ fl_w (a3 + 1)) → ∀ H2, H2 = fl_up H 95 0 ((H 95 0) - 1) → (∀ m, m < N → ck (cm_pg X xs) m cm_m196 [.index 94] H2 (fun r H4 => r = none ∧ (∀ m, m < N → ck (cm_pg X xs) m cm_m210 [.index 94] H4 (fun r H6 => r = none ∧ (Q (some ((H6 94 8) - a2)) H6)))))) ∧ (¬ (fl_w (H 95 0) ≤ fl_w (a3 + 1)) → (0 ≤ fl_w ((10 + a3) + 1) ∧ fl_w ((10 + a3) + 1) < 152 → (0 ≤ fl_w (10 + a3) ∧ fl_w (10 + a3) < 152 → ∀ H9, H9 = fl_up H 95 (fl_w (10 + a3)).toNat (H 95 (fl_w ((10 + a3) + 1)).toNat) → ∀ m, m < N → hd_GoodsBookModel_less_94_26 (cm_pg X xs) m H9 a2 (a3 + 1) Q)))) : hd_GoodsBookModel_less_94_26 (cm_pg X xs) N H a2 a3 Q :=
 fun lv h0 h2 h3 =>
 vt_iload_n rfl h3
 (vt_iconst rfl
 (vt_iadd rfl
 (vt_aload_n rfl h0 rfl
 (vt_getr rfl rfl rfl
 (vt_iconst rfl
 (vt_ialdN 0 rfl rfl rfl
 (vt_icmp rfl (fun hc1 => vt_aload_n rfl h0 rfl
 (vt_getr rfl rfl rfl
 (vt_iconst rfl
 (vt_mv (fun _ _ => rfl)
 (vt_ialdN 0 rfl rfl rfl
 (vt_iconst rfl
 (vt_isub rfl
 (vt_iastN 0 rfl rfl rfl (vt_nm (fun H2 e3 => vt_aload_n rfl h0 rfl
 (vt_callV rfl rfl (fun _ => rfl) (fun m hm => vt_void (((W.1 hc1) H2 e3) m hm) (fun H4 w5 => vt_aload_n rfl h0 rfl
 (vt_callV rfl rfl (fun _ => rfl) (fun m hm => vt_void (w5 m hm) (fun H6 w7 => vt_aload_n rfl h0 rfl
 (vt_getf rfl rfl rfl
 (vt_iload_n rfl h2
 (vt_isub rfl
 (vt_ret rfl w7)))))))))))))))))))) (fun hc1 => vt_aload_n rfl h0 rfl
 (vt_getr rfl rfl rfl
 (vt_bipush (v := 10) rfl (by decide)
 (vt_iload_n rfl h3
 (vt_iadd rfl
 (vt_aload_n rfl h0 rfl
 (vt_getr rfl rfl rfl
 (vt_bipush (v := 10) rfl (by decide)
 (vt_iload_n rfl h3
 (vt_iadd rfl
 (vt_iconst rfl
 (vt_iadd rfl
 (vt_iald rfl rfl (fun hf8 => vt_iast rfl rfl (fun hf11 => vt_nm (fun H9 e10 => vt_iincA rfl h3 (fun hl12 => vt_gotoS rfl (fun m hm => ((((W.2 hc1) hf8) hf11 H9 e10) m hm) _ (fl_lsn (by decide) h0) (fl_lsn (by decide) h2) (fl_lse hl12))))))))))))))))))))))))))
theorem ve_GoodsBookModel_less_94 {X : Term} {xs : List Int32} {N : Nat} {H : fl_H} {a1 : Int} {Q : Option Int → fl_H → Prop} (W : ∀ m, m < N → ck (cm_pg X xs) m cm_m148 [.index 94, fl_t a1] H (fun r H1 => ∃ x3, r = some x3 ∧ ((fl_w x3 = 0 → Q (some (-1000000001)) H1) ∧ (¬ fl_w x3 = 0 → ∀ m, m < N → ck (cm_pg X xs) m cm_m196 [.index 94] H1 (fun r H5 => r = none ∧ (∀ m, m < N → ck (cm_pg X xs) m cm_m209 [.index 94] H5 (fun r H7 => r = none ∧ (hd_GoodsBookModel_less_94_26 (cm_pg X xs) N H7 (H5 94 8) a1 Q))))))))  : ck (cm_pg X xs) N cm_m212 [.index 94, fl_t a1] H Q :=
  vt_aload_n rfl rfl rfl
 (vt_iload_n rfl rfl
 (vt_callV rfl rfl (fun _ => rfl) (fun m hm => vt_int (W m hm) (fun x3 H1 w2 => vt_ifcN rfl (fun hc4 => vt_aload_n rfl rfl rfl
 (vt_callV rfl rfl (fun _ => rfl) (fun m hm => vt_void ((w2.2 hc4) m hm) (fun H5 w6 => vt_aload_n rfl rfl rfl
 (vt_getf rfl rfl rfl
 (vt_istore_n rfl
 (vt_aload_n rfl rfl rfl
 (vt_callV rfl rfl (fun _ => rfl) (fun m hm => vt_void (w6 m hm) (fun H7 w8 => vt_iload_n rfl rfl
 (vt_istore_n rfl
 (w8 _ rfl rfl rfl)))))))))))) (fun hc4 => vt_ldc (v := (-1000000001)) rfl (by decide)
 (vt_ret rfl (w2.1 hc4)))))))
def hd_GoodsBookModel_bringBack_94_2 (P : cm_G) (N : Nat) (H : fl_H) (a1 : Int) (Q : Option Int → fl_H → Prop) : Prop := ∀ lv : cm_Lv, cm_nth lv 0 = some (some (.index 94)) → cm_nth lv 1 = some (some (fl_t a1)) → vt P N cm_m210 2 lv [] H Q
theorem vh_GoodsBookModel_bringBack_94_2 {X : Term} {xs : List Int32} {N : Nat} {H : fl_H} {a1 : Int} {Q : Option Int → fl_H → Prop} (W : ((152 ≤ fl_w a1) → Q none H) ∧ (¬ (152 ≤ fl_w a1) → (0 ≤ fl_w a1 ∧ fl_w a1 < 152 → (0 ≤ fl_w a1 ∧ fl_w a1 < 152 → ∀ H3, H3 = fl_up H 95 (fl_w a1).toNat (H 103 (fl_w a1).toNat) → ∀ m, m < N → hd_GoodsBookModel_bringBack_94_2 (cm_pg X xs) m H3 (a1 + 1) Q)))) : hd_GoodsBookModel_bringBack_94_2 (cm_pg X xs) N H a1 Q :=
 fun lv h0 h1 =>
 vt_iload_n rfl h1
 (vt_sipush (v := 152) rfl (by decide)
 (vt_icmp rfl (fun hc1 => vt_retv rfl (W.1 hc1)) (fun hc1 => vt_aload_n rfl h0 rfl
 (vt_getr rfl rfl rfl
 (vt_iload_n rfl h1
 (vt_aload_n rfl h0 rfl
 (vt_getr rfl rfl rfl
 (vt_iload_n rfl h1
 (vt_iald rfl rfl (fun hf2 => vt_iast rfl rfl (fun hf5 => vt_nm (fun H3 e4 => vt_iincA rfl h1 (fun hl6 => vt_gotoS rfl (fun m hm => ((((W.2 hc1) hf2) hf5 H3 e4) m hm) _ (fl_lsn (by decide) h0) (fl_lse hl6)))))))))))))))
theorem ve_GoodsBookModel_bringBack_94 {X : Term} {xs : List Int32} {N : Nat} {H : fl_H} {Q : Option Int → fl_H → Prop} (W : hd_GoodsBookModel_bringBack_94_2 (cm_pg X xs) N H 0 Q)  : ck (cm_pg X xs) N cm_m210 [.index 94] H Q :=
  vt_iconst rfl
 (vt_istore_n rfl
 (W _ rfl rfl))
def hd_GoodsBookModel_layAside_94_2 (P : cm_G) (N : Nat) (H : fl_H) (a1 : Int) (Q : Option Int → fl_H → Prop) : Prop := ∀ lv : cm_Lv, cm_nth lv 0 = some (some (.index 94)) → cm_nth lv 1 = some (some (fl_t a1)) → vt P N cm_m209 2 lv [] H Q
theorem vh_GoodsBookModel_layAside_94_2 {X : Term} {xs : List Int32} {N : Nat} {H : fl_H} {a1 : Int} {Q : Option Int → fl_H → Prop} (W : ((152 ≤ fl_w a1) → Q none H) ∧ (¬ (152 ≤ fl_w a1) → (0 ≤ fl_w a1 ∧ fl_w a1 < 152 → (0 ≤ fl_w a1 ∧ fl_w a1 < 152 → ∀ H3, H3 = fl_up H 103 (fl_w a1).toNat (H 95 (fl_w a1).toNat) → ∀ m, m < N → hd_GoodsBookModel_layAside_94_2 (cm_pg X xs) m H3 (a1 + 1) Q)))) : hd_GoodsBookModel_layAside_94_2 (cm_pg X xs) N H a1 Q :=
 fun lv h0 h1 =>
 vt_iload_n rfl h1
 (vt_sipush (v := 152) rfl (by decide)
 (vt_icmp rfl (fun hc1 => vt_retv rfl (W.1 hc1)) (fun hc1 => vt_aload_n rfl h0 rfl
 (vt_getr rfl rfl rfl
 (vt_iload_n rfl h1
 (vt_aload_n rfl h0 rfl
 (vt_getr rfl rfl rfl
 (vt_iload_n rfl h1
 (vt_iald rfl rfl (fun hf2 => vt_iast rfl rfl (fun hf5 => vt_nm (fun H3 e4 => vt_iincA rfl h1 (fun hl6 => vt_gotoS rfl (fun m hm => ((((W.2 hc1) hf2) hf5 H3 e4) m hm) _ (fl_lsn (by decide) h0) (fl_lse hl6)))))))))))))))
theorem ve_GoodsBookModel_layAside_94 {X : Term} {xs : List Int32} {N : Nat} {H : fl_H} {Q : Option Int → fl_H → Prop} (W : hd_GoodsBookModel_layAside_94_2 (cm_pg X xs) N H 0 Q)  : ck (cm_pg X xs) N cm_m209 [.index 94] H Q :=
  vt_iconst rfl
 (vt_istore_n rfl
 (W _ rfl rfl))
def hd_GoodsBookModel_findBest_94_9 (P : cm_G) (N : Nat) (H : fl_H) (a1 : Int) (a2 : Int) (a3 : Int) (Q : Option Int → fl_H → Prop) : Prop := ∀ lv : cm_Lv, cm_nth lv 0 = some (some (.index 94)) → cm_nth lv 1 = some (some (fl_t a1)) → cm_nth lv 2 = some (some (fl_t a2)) → cm_nth lv 3 = some (some (fl_t a3)) → vt P N cm_m196 9 lv [] H Q
theorem vh_GoodsBookModel_findBest_94_9 {X : Term} {xs : List Int32} {N : Nat} {H : fl_H} {a1 : Int} {a2 : Int} {a3 : Int} {Q : Option Int → fl_H → Prop} (W : ((fl_w a2 ≤ fl_w a3) → Q none H) ∧ (¬ (fl_w a2 ≤ fl_w a3) → ∀ m, m < N → ck (cm_pg X xs) m cm_m194 [.index 94, fl_t a3] H (fun r H2 => r = none ∧ (∀ m, m < N → ck (cm_pg X xs) m cm_m187 [.index 94] H2 (fun r H4 => ∃ x6, r = some x6 ∧ (((fl_w x6 = 0) → ∀ m, m < N → hd_GoodsBookModel_findBest_94_9 (cm_pg X xs) m H4 a1 a2 (a3 + 1) Q) ∧ (¬ (fl_w x6 = 0) → ∀ m, m < N → ck (cm_pg X xs) m cm_m183 [.index 94] H4 (fun r H9 => ∃ x11, r = some x11 ∧ (((fl_w a1 = 0) → ∀ m, m < N → ck (cm_pg X xs) m cm_m195 [.index 94, fl_t x11] H9 (fun r H14 => r = none ∧ (∀ m, m < N → hd_GoodsBookModel_findBest_94_9 (cm_pg X xs) m H14 1 a2 (a3 + 1) Q))) ∧ (¬ (fl_w a1 = 0) → ((fl_w x11 ≤ fl_w (H9 94 8)) → ∀ m, m < N → hd_GoodsBookModel_findBest_94_9 (cm_pg X xs) m H9 a1 a2 (a3 + 1) Q) ∧ (¬ (fl_w x11 ≤ fl_w (H9 94 8)) → ∀ m, m < N → ck (cm_pg X xs) m cm_m195 [.index 94, fl_t x11] H9 (fun r H20 => r = none ∧ (∀ m, m < N → hd_GoodsBookModel_findBest_94_9 (cm_pg X xs) m H20 1 a2 (a3 + 1) Q))))))))))))) : hd_GoodsBookModel_findBest_94_9 (cm_pg X xs) N H a1 a2 a3 Q :=
 fun lv h0 h1 h2 h3 =>
 vt_iload_n rfl h3
 (vt_iload_n rfl h2
 (vt_icmp rfl (fun hc1 => vt_retv rfl (W.1 hc1)) (fun hc1 => vt_aload_n rfl h0 rfl
 (vt_iload_n rfl h3
 (vt_callV rfl rfl (fun _ => rfl) (fun m hm => vt_void ((W.2 hc1) m hm) (fun H2 w3 => vt_aload_n rfl h0 rfl
 (vt_callV rfl rfl (fun _ => rfl) (fun m hm => vt_int (w3 m hm) (fun x6 H4 w5 => vt_ifc rfl (fun hc7 => vt_iincA rfl h3 (fun hl8 => vt_gotoS rfl (fun m hm => ((w5.1 hc7) m hm) _ (fl_lsn (by decide) h0) (fl_lsn (by decide) h1) (fl_lsn (by decide) h2) (fl_lse hl8)))) (fun hc7 => vt_aload_n rfl h0 rfl
 (vt_callV rfl rfl (fun _ => rfl) (fun m hm => vt_int ((w5.2 hc7) m hm) (fun x11 H9 w10 => vt_istoreA rfl (fun hl12 => vt_iload_n rfl (fl_lsn (by decide) h1)
 (vt_ifc rfl (fun hc13 => vt_aload_n rfl (fl_lsn (by decide) h0) rfl
 (vt_iload rfl (fl_lse hl12)
 (vt_callV rfl rfl (fun _ => rfl) (fun m hm => vt_void ((w10.1 hc13) m hm) (fun H14 w15 => vt_iconst rfl
 (vt_istore_nA rfl (fun hl16 => vt_iincA rfl (fl_lsn (by decide) (fl_lsn (by decide) h3)) (fun hl17 => vt_gotoS rfl (fun m hm => (w15 m hm) _ (fl_lsn (by decide) (fl_lsn (by decide) (fl_lsn (by decide) h0))) (fl_lsn (by decide) (fl_lse hl16)) (fl_lsn (by decide) (fl_lsn (by decide) (fl_lsn (by decide) h2))) (fl_lse hl17)))))))))) (fun hc13 => vt_iload rfl (fl_lse hl12)
 (vt_aload_n rfl (fl_lsn (by decide) h0) rfl
 (vt_getf rfl rfl rfl
 (vt_icmp rfl (fun hc18 => vt_iincA rfl (fl_lsn (by decide) h3) (fun hl19 => vt_gotoS rfl (fun m hm => (((w10.2 hc13).1 hc18) m hm) _ (fl_lsn (by decide) (fl_lsn (by decide) h0)) (fl_lsn (by decide) (fl_lsn (by decide) h1)) (fl_lsn (by decide) (fl_lsn (by decide) h2)) (fl_lse hl19)))) (fun hc18 => vt_aload_n rfl (fl_lsn (by decide) h0) rfl
 (vt_iload rfl (fl_lse hl12)
 (vt_callV rfl rfl (fun _ => rfl) (fun m hm => vt_void (((w10.2 hc13).2 hc18) m hm) (fun H20 w21 => vt_iconst rfl
 (vt_istore_nA rfl (fun hl22 => vt_iincA rfl (fl_lsn (by decide) (fl_lsn (by decide) h3)) (fun hl23 => vt_gotoS rfl (fun m hm => (w21 m hm) _ (fl_lsn (by decide) (fl_lsn (by decide) (fl_lsn (by decide) h0))) (fl_lsn (by decide) (fl_lse hl22)) (fl_lsn (by decide) (fl_lsn (by decide) (fl_lsn (by decide) h2))) (fl_lse hl23))))))))))))))))))))))))))))))
theorem ve_GoodsBookModel_findBest_94 {X : Term} {xs : List Int32} {N : Nat} {H : fl_H} {Q : Option Int → fl_H → Prop} (W : ∀ m, m < N → ck (cm_pg X xs) m cm_m193 [.index 94] H (fun r H1 => ∃ x3, r = some x3 ∧ (hd_GoodsBookModel_findBest_94_9 (cm_pg X xs) N H1 0 x3 0 Q)))  : ck (cm_pg X xs) N cm_m196 [.index 94] H Q :=
  vt_iconst rfl
 (vt_istore_n rfl
 (vt_aload_n rfl rfl rfl
 (vt_callV rfl rfl (fun _ => rfl) (fun m hm => vt_int (W m hm) (fun x3 H1 w2 => vt_istore_n rfl
 (vt_iconst rfl
 (vt_istore_n rfl
 (w2 _ rfl rfl rfl rfl))))))))
theorem ve_GoodsBookModel_isPage_94 {X : Term} {xs : List Int32} {N : Nat} {H : fl_H} {a1 : Int} {Q : Option Int → fl_H → Prop} (W : Q (some (fl_b (0 ≤ fl_w a1 ∧ fl_w a1 ≤ fl_w ((H 95 0) - 1)))) H)  : ck (cm_pg X xs) N cm_m148 [.index 94, fl_t a1] H Q :=
  vt_iload_n rfl rfl
 (vt_i2l rfl
 (vt_lconst rfl (by decide)
 (vt_aload_n rfl rfl rfl
 (vt_getr rfl rfl rfl
 (vt_iconst rfl
 (vt_ialdN 0 rfl rfl rfl
 (vt_iconst rfl
 (vt_isub rfl
 (vt_i2l rfl
 (vt_callS rfl rfl (fun _ => rfl) (fun _ _ => vt_sum (sm_in (fl_lrw _) (fl_lrl (by decide) (by decide)) (fl_lrw _))
 (vt_ret rfl W))))))))))))
theorem ve_GoodsBookModel_more_94 {X : Term} {xs : List Int32} {N : Nat} {H : fl_H} {a1 : Int} {Q : Option Int → fl_H → Prop} (W : ((0 ≤ fl_w a1 ∧ fl_w a1 ≤ 60) → (fl_w (H 95 0) = 3 → Q (some (-1000000003)) H) ∧ (¬ fl_w (H 95 0) = 3 → ∀ m, m < N → ck (cm_pg X xs) m cm_m196 [.index 94] H (fun r H3 => r = none ∧ (∀ m, m < N → ck (cm_pg X xs) m cm_m209 [.index 94] H3 (fun r H5 => r = none ∧ ((0 ≤ fl_w (10 + (H5 95 0)) ∧ fl_w (10 + (H5 95 0)) < 152 → ∀ H7, H7 = fl_up H5 95 (fl_w (10 + (H5 95 0))).toNat a1 → ∀ H10, H10 = fl_up H7 95 0 ((H7 95 0) + 1) → (∀ m, m < N → ck (cm_pg X xs) m cm_m196 [.index 94] H10 (fun r H12 => r = none ∧ (∀ m, m < N → ck (cm_pg X xs) m cm_m210 [.index 94] H12 (fun r H14 => r = none ∧ (Q (some ((H14 94 8) - (H3 94 8))) H14)))))))))))) ∧ (¬ (0 ≤ fl_w a1 ∧ fl_w a1 ≤ 60) → Q (some (-1000000001)) H))  : ck (cm_pg X xs) N cm_m211 [.index 94, fl_t a1] H Q :=
  vt_iload_n rfl rfl
 (vt_i2l rfl
 (vt_lconst rfl (by decide)
 (vt_ldc2 (v := 60) rfl (by decide)
 (vt_callS rfl rfl (fun _ => rfl) (fun _ _ => vt_sum (sm_in (fl_lrw _) (fl_lrl (by decide) (by decide)) (fl_lrl (by decide) (by decide)))
 (vt_ifn rfl (fun hc1 => vt_aload_n rfl rfl rfl
 (vt_getr rfl rfl rfl
 (vt_iconst rfl
 (vt_ialdN 0 rfl rfl rfl
 (vt_iconst rfl
 (vt_icmpN rfl (fun hc2 => vt_aload_n rfl rfl rfl
 (vt_callV rfl rfl (fun _ => rfl) (fun m hm => vt_void (((W.1 hc1).2 hc2) m hm) (fun H3 w4 => vt_aload_n rfl rfl rfl
 (vt_getf rfl rfl rfl
 (vt_istore_n rfl
 (vt_aload_n rfl rfl rfl
 (vt_callV rfl rfl (fun _ => rfl) (fun m hm => vt_void (w4 m hm) (fun H5 w6 => vt_aload_n rfl rfl rfl
 (vt_getr rfl rfl rfl
 (vt_bipush (v := 10) rfl (by decide)
 (vt_aload_n rfl rfl rfl
 (vt_getr rfl rfl rfl
 (vt_iconst rfl
 (vt_ialdN 0 rfl rfl rfl
 (vt_iadd rfl
 (vt_iload_n rfl rfl
 (vt_iast rfl rfl (fun hf9 => vt_nm (fun H7 e8 => vt_aload_n rfl rfl rfl
 (vt_getr rfl rfl rfl
 (vt_iconst rfl
 (vt_mv (fun _ _ => rfl)
 (vt_ialdN 0 rfl rfl rfl
 (vt_iconst rfl
 (vt_iadd rfl
 (vt_iastN 0 rfl rfl rfl (vt_nm (fun H10 e11 => vt_aload_n rfl rfl rfl
 (vt_callV rfl rfl (fun _ => rfl) (fun m hm => vt_void (((w6 hf9 H7 e8) H10 e11) m hm) (fun H12 w13 => vt_aload_n rfl rfl rfl
 (vt_callV rfl rfl (fun _ => rfl) (fun m hm => vt_void (w13 m hm) (fun H14 w15 => vt_aload_n rfl rfl rfl
 (vt_getf rfl rfl rfl
 (vt_iload_n rfl rfl
 (vt_isub rfl
 (vt_ret rfl w15)))))))))))))))))))))))))))))))))))))))) (fun hc2 => vt_ldc (v := (-1000000003)) rfl (by decide)
 (vt_ret rfl ((W.1 hc1).1 hc2))))))))) (fun hc1 => vt_ldc (v := (-1000000001)) rfl (by decide)
 (vt_ret rfl (W.2 hc1)))))))))
def hd_GoodsBookModel_steps_94_39 (P : cm_G) (N : Nat) (H : fl_H) (a1 : Int) (a2 : Int) (Q : Option Int → fl_H → Prop) : Prop := ∀ lv : cm_Lv, cm_nth lv 0 = some (some (.index 94)) → cm_nth lv 1 = some (some (fl_t a1)) → cm_nth lv 2 = some (some (fl_t a2)) → vt P N cm_m208 39 lv [] H Q
def hd_GoodsBookModel_steps_94_73 (P : cm_G) (N : Nat) (H : fl_H) (a1 : Int) (a2 : Int) (Q : Option Int → fl_H → Prop) : Prop := ∀ lv : cm_Lv, cm_nth lv 0 = some (some (.index 94)) → cm_nth lv 1 = some (some (fl_t a1)) → cm_nth lv 2 = some (some (fl_t a2)) → vt P N cm_m208 73 lv [] H Q
theorem vh_GoodsBookModel_steps_94_39 {X : Term} {xs : List Int32} {N : Nat} {H : fl_H} {a1 : Int} {a2 : Int} {Q : Option Int → fl_H → Prop} (W : ((6 ≤ fl_w a2) → ∀ m, m < N → ck (cm_pg X xs) m cm_m183 [.index 94] H (fun r H2 => ∃ x4, r = some x4 ∧ (∀ m, m < N → ck (cm_pg X xs) m cm_m195 [.index 94, fl_t x4] H2 (fun r H5 => r = none ∧ (hd_GoodsBookModel_steps_94_73 (cm_pg X xs) N H5 a1 0 Q))))) ∧ (¬ (6 ≤ fl_w a2) → (0 ≤ fl_w a2 ∧ fl_w a2 < 6 → (0 ≤ fl_w a2 ∧ fl_w a2 < 6 → ∀ H9, H9 = fl_up H 102 (fl_w a2).toNat (H 100 (fl_w a2).toNat) → ∀ m, m < N → hd_GoodsBookModel_steps_94_39 (cm_pg X xs) m H9 a1 (a2 + 1) Q)))) : hd_GoodsBookModel_steps_94_39 (cm_pg X xs) N H a1 a2 Q :=
 fun lv h0 h1 h2 =>
 vt_iload_n rfl h2
 (vt_bipush (v := 6) rfl (by decide)
 (vt_icmp rfl (fun hc1 => vt_aload_n rfl h0 rfl
 (vt_aload_n rfl h0 rfl
 (vt_callV rfl rfl (fun _ => rfl) (fun m hm => vt_int ((W.1 hc1) m hm) (fun x4 H2 w3 => vt_callV rfl rfl (fun _ => rfl) (fun m hm => vt_void (w3 m hm) (fun H5 w6 => vt_iconst rfl
 (vt_istore_nA rfl (fun hl7 => w6 _ (fl_lsn (by decide) h0) (fl_lsn (by decide) h1) (fl_lse hl7)))))))))) (fun hc1 => vt_aload_n rfl h0 rfl
 (vt_getr rfl rfl rfl
 (vt_iload_n rfl h2
 (vt_aload_n rfl h0 rfl
 (vt_getr rfl rfl rfl
 (vt_iload_n rfl h2
 (vt_iald rfl rfl (fun hf8 => vt_iast rfl rfl (fun hf11 => vt_nm (fun H9 e10 => vt_iincA rfl h2 (fun hl12 => vt_gotoS rfl (fun m hm => ((((W.2 hc1) hf8) hf11 H9 e10) m hm) _ (fl_lsn (by decide) h0) (fl_lsn (by decide) h1) (fl_lse hl12)))))))))))))))
theorem vh_GoodsBookModel_steps_94_73 {X : Term} {xs : List Int32} {N : Nat} {H : fl_H} {a1 : Int} {a2 : Int} {Q : Option Int → fl_H → Prop} (W : ∀ m, m < N → ck (cm_pg X xs) m cm_m207 [.index 94] H (fun r H1 => ∃ x3, r = some x3 ∧ (((fl_w x3 = 0) → (fl_w a1 = (-2) → Q (some a2) H1) ∧ (¬ fl_w a1 = (-2) → (fl_w a1 = (-1) → Q (some (H1 94 8)) H1) ∧ (¬ fl_w a1 = (-1) → (0 ≤ fl_w a1 ∧ fl_w a1 < 6 → Q (some (H1 102 (fl_w a1).toNat)) H1)))) ∧ (¬ (fl_w x3 = 0) → ∀ m, m < N → hd_GoodsBookModel_steps_94_73 (cm_pg X xs) m H1 a1 (a2 + 1) Q)))) : hd_GoodsBookModel_steps_94_73 (cm_pg X xs) N H a1 a2 Q :=
 fun lv h0 h1 h2 =>
 vt_aload_n rfl h0 rfl
 (vt_callV rfl rfl (fun _ => rfl) (fun m hm => vt_int (W m hm) (fun x3 H1 w2 => vt_ifc rfl (fun hc4 => vt_iload_n rfl h1
 (vt_bipush (v := (-2)) rfl (by decide)
 (vt_icmpN rfl (fun hc5 => vt_iload_n rfl h1
 (vt_iconst rfl
 (vt_icmpN rfl (fun hc6 => vt_aload_n rfl h0 rfl
 (vt_getr rfl rfl rfl
 (vt_iload_n rfl h1
 (vt_iald rfl rfl (fun hf7 => vt_ret rfl ((((w2.1 hc4).2 hc5).2 hc6) hf7)))))) (fun hc6 => vt_aload_n rfl h0 rfl
 (vt_getf rfl rfl rfl
 (vt_goto rfl
 (vt_ret rfl (((w2.1 hc4).2 hc5).1 hc6)))))))) (fun hc5 => vt_iload_n rfl h2
 (vt_goto rfl
 (vt_ret rfl ((w2.1 hc4).1 hc5))))))) (fun hc4 => vt_iincA rfl h2 (fun hl8 => vt_gotoS rfl (fun m hm => ((w2.2 hc4) m hm) _ (fl_lsn (by decide) h0) (fl_lsn (by decide) h1) (fl_lse hl8)))))))
theorem ve_GoodsBookModel_steps_94 {X : Term} {xs : List Int32} {N : Nat} {H : fl_H} {a1 : Int} {Q : Option Int → fl_H → Prop} (W : (((-2) ≤ fl_w a1 ∧ fl_w a1 ≤ fl_w ((H 95 1) - 1)) → ∀ m, m < N → ck (cm_pg X xs) m cm_m176 [.index 94] H (fun r H2 => r = none ∧ (∀ m, m < N → ck (cm_pg X xs) m cm_m187 [.index 94] H2 (fun r H4 => ∃ x6, r = some x6 ∧ ((fl_w x6 = 0 → Q (some (-1000000002)) H4) ∧ (¬ fl_w x6 = 0 → hd_GoodsBookModel_steps_94_39 (cm_pg X xs) N H4 a1 0 Q)))))) ∧ (¬ ((-2) ≤ fl_w a1 ∧ fl_w a1 ≤ fl_w ((H 95 1) - 1)) → Q (some (-1000000001)) H))  : ck (cm_pg X xs) N cm_m208 [.index 94, fl_t a1] H Q :=
  vt_iload_n rfl rfl
 (vt_i2l rfl
 (vt_ldc2 (v := (-2)) rfl (by decide)
 (vt_aload_n rfl rfl rfl
 (vt_getr rfl rfl rfl
 (vt_iconst rfl
 (vt_ialdN 1 rfl rfl rfl
 (vt_iconst rfl
 (vt_isub rfl
 (vt_i2l rfl
 (vt_callS rfl rfl (fun _ => rfl) (fun _ _ => vt_sum (sm_in (fl_lrw _) (fl_lrl (by decide) (by decide)) (fl_lrw _))
 (vt_ifn rfl (fun hc1 => vt_aload_n rfl rfl rfl
 (vt_callV rfl rfl (fun _ => rfl) (fun m hm => vt_void ((W.1 hc1) m hm) (fun H2 w3 => vt_aload_n rfl rfl rfl
 (vt_callV rfl rfl (fun _ => rfl) (fun m hm => vt_int (w3 m hm) (fun x6 H4 w5 => vt_ifcN rfl (fun hc7 => vt_iconst rfl
 (vt_istore_n rfl
 ((w5.2 hc7) _ rfl rfl rfl))) (fun hc7 => vt_ldc (v := (-1000000002)) rfl (by decide)
 (vt_ret rfl (w5.1 hc7)))))))))) (fun hc1 => vt_ldc (v := (-1000000001)) rfl (by decide)
 (vt_ret rfl (W.2 hc1)))))))))))))))
def hd_GoodsBookModel_step_94_7 (P : cm_G) (N : Nat) (H : fl_H) (a1 : Int) (Q : Option Int → fl_H → Prop) : Prop := ∀ lv : cm_Lv, cm_nth lv 0 = some (some (.index 94)) → cm_nth lv 1 = some (some (fl_t a1)) → vt P N cm_m207 7 lv [] H Q
def hd_GoodsBookModel_step_94_112 (P : cm_G) (N : Nat) (H : fl_H) (a1 : Int) (Q : Option Int → fl_H → Prop) : Prop := ∀ lv : cm_Lv, cm_nth lv 0 = some (some (.index 94)) → cm_nth lv 1 = some (some (fl_t a1)) → vt P N cm_m207 112 lv [] H Q
def hd_GoodsBookModel_step_94_19 (P : cm_G) (N : Nat) (H : fl_H) (a1 : Int) (a2 : Int) (Q : Option Int → fl_H → Prop) : Prop := ∀ lv : cm_Lv, cm_nth lv 0 = some (some (.index 94)) → cm_nth lv 1 = some (some (fl_t a1)) → cm_nth lv 2 = some (some (fl_t a2)) → vt P N cm_m207 19 lv [] H Q
def hd_GoodsBookModel_step_94_56 (P : cm_G) (N : Nat) (H : fl_H) (a1 : Int) (a2 : Int) (Q : Option Int → fl_H → Prop) : Prop := ∀ lv : cm_Lv, cm_nth lv 0 = some (some (.index 94)) → cm_nth lv 1 = some (some (fl_t a1)) → cm_nth lv 2 = some (some (fl_t a2)) → vt P N cm_m207 56 lv [] H Q
theorem vh_GoodsBookModel_step_94_7 {X : Term} {xs : List Int32} {N : Nat} {H : fl_H} {a1 : Int} {Q : Option Int → fl_H → Prop} (W : ((fl_w (H 95 1) ≤ fl_w a1) → hd_GoodsBookModel_step_94_112 (cm_pg X xs) N H 0 Q) ∧ (¬ (fl_w (H 95 1) ≤ fl_w a1) → hd_GoodsBookModel_step_94_19 (cm_pg X xs) N H a1 0 Q)) : hd_GoodsBookModel_step_94_7 (cm_pg X xs) N H a1 Q :=
 fun lv h0 h1 =>
 vt_iload_n rfl h1
 (vt_aload_n rfl h0 rfl
 (vt_getr rfl rfl rfl
 (vt_iconst rfl
 (vt_ialdN 1 rfl rfl rfl
 (vt_icmp rfl (fun hc1 => vt_iconst rfl
 (vt_istore_nA rfl (fun hl2 => (W.1 hc1) _ (fl_lsn (by decide) h0) (fl_lse hl2)))) (fun hc1 => vt_iconst rfl
 (vt_istore_nA rfl (fun hl3 => (W.2 hc1) _ (fl_lsn (by decide) h0) (fl_lsn (by decide) h1) (fl_lse hl3)))))))))
theorem vh_GoodsBookModel_step_94_112 {X : Term} {xs : List Int32} {N : Nat} {H : fl_H} {a1 : Int} {Q : Option Int → fl_H → Prop} (W : ((6 ≤ fl_w a1) → Q (some (H 94 10)) H) ∧ (¬ (6 ≤ fl_w a1) → ((fl_w (H 94 10) = 0) → Q (some (H 94 10)) H) ∧ (¬ (fl_w (H 94 10) = 0) → (0 ≤ fl_w a1 ∧ fl_w a1 < 6 → (0 ≤ fl_w a1 ∧ fl_w a1 < 6 → ∀ H4, H4 = fl_up H 102 (fl_w a1).toNat (H 101 (fl_w a1).toNat) → ∀ m, m < N → hd_GoodsBookModel_step_94_112 (cm_pg X xs) m H4 (a1 + 1) Q))))) : hd_GoodsBookModel_step_94_112 (cm_pg X xs) N H a1 Q :=
 fun lv h0 h1 =>
 vt_iload_n rfl h1
 (vt_bipush (v := 6) rfl (by decide)
 (vt_icmp rfl (fun hc1 => vt_aload_n rfl h0 rfl
 (vt_getf rfl rfl rfl
 (vt_ret rfl (W.1 hc1)))) (fun hc1 => vt_aload_n rfl h0 rfl
 (vt_getf rfl rfl rfl
 (vt_ifc rfl (fun hc2 => vt_aload_n rfl h0 rfl
 (vt_getf rfl rfl rfl
 (vt_ret rfl ((W.2 hc1).1 hc2)))) (fun hc2 => vt_aload_n rfl h0 rfl
 (vt_getr rfl rfl rfl
 (vt_iload_n rfl h1
 (vt_aload_n rfl h0 rfl
 (vt_getr rfl rfl rfl
 (vt_iload_n rfl h1
 (vt_iald rfl rfl (fun hf3 => vt_iast rfl rfl (fun hf6 => vt_nm (fun H4 e5 => vt_iincA rfl h1 (fun hl7 => vt_gotoS rfl (fun m hm => (((((W.2 hc1).2 hc2) hf3) hf6 H4 e5) m hm) _ (fl_lsn (by decide) h0) (fl_lse hl7))))))))))))))))))
theorem vh_GoodsBookModel_step_94_19 {X : Term} {xs : List Int32} {N : Nat} {H : fl_H} {a1 : Int} {a2 : Int} {Q : Option Int → fl_H → Prop} (W : ((fl_w (2 * (H 95 0)) < fl_w a2) → hd_GoodsBookModel_step_94_56 (cm_pg X xs) N H a1 (a1 + 1) Q) ∧ (¬ (fl_w (2 * (H 95 0)) < fl_w a2) → ∀ m, m < N → ck (cm_pg X xs) m cm_m204 [.index 94] H (fun r H3 => r = none ∧ ((0 ≤ fl_w a1 ∧ fl_w a1 < 6 → ∀ H5, H5 = fl_up H3 100 (fl_w a1).toNat a2 → ∀ m, m < N → ck (cm_pg X xs) m cm_m206 [.index 94] H5 (fun r H8 => r = none ∧ (∀ m, m < N → hd_GoodsBookModel_step_94_19 (cm_pg X xs) m H8 a1 (a2 + 1) Q))))))) : hd_GoodsBookModel_step_94_19 (cm_pg X xs) N H a1 a2 Q :=
 fun lv h0 h1 h2 =>
 vt_iload_n rfl h2
 (vt_iconst rfl
 (vt_aload_n rfl h0 rfl
 (vt_getr rfl rfl rfl
 (vt_iconst rfl
 (vt_ialdN 0 rfl rfl rfl
 (vt_imul rfl
 (vt_icmp rfl (fun hc1 => vt_iload_n rfl h1
 (vt_iconst rfl
 (vt_iadd rfl
 (vt_istore_nA rfl (fun hl2 => (W.1 hc1) _ (fl_lsn (by decide) h0) (fl_lsn (by decide) h1) (fl_lse hl2)))))) (fun hc1 => vt_aload_n rfl h0 rfl
 (vt_callV rfl rfl (fun _ => rfl) (fun m hm => vt_void ((W.2 hc1) m hm) (fun H3 w4 => vt_aload_n rfl h0 rfl
 (vt_getr rfl rfl rfl
 (vt_iload_n rfl h1
 (vt_iload_n rfl h2
 (vt_iast rfl rfl (fun hf7 => vt_nm (fun H5 e6 => vt_aload_n rfl h0 rfl
 (vt_callV rfl rfl (fun _ => rfl) (fun m hm => vt_void ((w4 hf7 H5 e6) m hm) (fun H8 w9 => vt_iincA rfl h2 (fun hl10 => vt_gotoS rfl (fun m hm => (w9 m hm) _ (fl_lsn (by decide) h0) (fl_lsn (by decide) h1) (fl_lse hl10)))))))))))))))))))))))
theorem vh_GoodsBookModel_step_94_56 {X : Term} {xs : List Int32} {N : Nat} {H : fl_H} {a1 : Int} {a2 : Int} {Q : Option Int → fl_H → Prop} (W : ((fl_w (H 95 1) ≤ fl_w a2) → ∀ m, m < N → hd_GoodsBookModel_step_94_7 (cm_pg X xs) m H (a1 + 1) Q) ∧ (¬ (fl_w (H 95 1) ≤ fl_w a2) → ∀ m, m < N → ck (cm_pg X xs) m cm_m204 [.index 94] H (fun r H3 => r = none ∧ ((0 ≤ fl_w a2 ∧ fl_w a2 < 6 → (0 ≤ fl_w a1 ∧ fl_w a1 < 6 → ∀ H6, H6 = fl_up H3 100 (fl_w a1).toNat (H3 102 (fl_w a2).toNat) → (0 ≤ fl_w a1 ∧ fl_w a1 < 6 → (0 ≤ fl_w a2 ∧ fl_w a2 < 6 → ∀ H10, H10 = fl_up H6 100 (fl_w a2).toNat (H6 102 (fl_w a1).toNat) → ∀ m, m < N → ck (cm_pg X xs) m cm_m206 [.index 94] H10 (fun r H13 => r = none ∧ (∀ m, m < N → hd_GoodsBookModel_step_94_56 (cm_pg X xs) m H13 a1 (a2 + 1) Q)))))))))) : hd_GoodsBookModel_step_94_56 (cm_pg X xs) N H a1 a2 Q :=
 fun lv h0 h1 h2 =>
 vt_iload_n rfl h2
 (vt_aload_n rfl h0 rfl
 (vt_getr rfl rfl rfl
 (vt_iconst rfl
 (vt_ialdN 1 rfl rfl rfl
 (vt_icmp rfl (fun hc1 => vt_iincA rfl h1 (fun hl2 => vt_gotoS rfl (fun m hm => ((W.1 hc1) m hm) _ (fl_lsn (by decide) h0) (fl_lse hl2)))) (fun hc1 => vt_aload_n rfl h0 rfl
 (vt_callV rfl rfl (fun _ => rfl) (fun m hm => vt_void ((W.2 hc1) m hm) (fun H3 w4 => vt_aload_n rfl h0 rfl
 (vt_getr rfl rfl rfl
 (vt_iload_n rfl h1
 (vt_aload_n rfl h0 rfl
 (vt_getr rfl rfl rfl
 (vt_iload_n rfl h2
 (vt_iald rfl rfl (fun hf5 => vt_iast rfl rfl (fun hf8 => vt_nm (fun H6 e7 => vt_aload_n rfl h0 rfl
 (vt_getr rfl rfl rfl
 (vt_iload_n rfl h2
 (vt_aload_n rfl h0 rfl
 (vt_getr rfl rfl rfl
 (vt_iload_n rfl h1
 (vt_iald rfl rfl (fun hf9 => vt_iast rfl rfl (fun hf12 => vt_nm (fun H10 e11 => vt_aload_n rfl h0 rfl
 (vt_callV rfl rfl (fun _ => rfl) (fun m hm => vt_void (((((w4 hf5) hf8 H6 e7) hf9) hf12 H10 e11) m hm) (fun H13 w14 => vt_iincA rfl h2 (fun hl15 => vt_gotoS rfl (fun m hm => (w14 m hm) _ (fl_lsn (by decide) h0) (fl_lsn (by decide) h1) (fl_lse hl15)))))))))))))))))))))))))))))))))
theorem ve_GoodsBookModel_step_94 {X : Term} {xs : List Int32} {N : Nat} {H : fl_H} {Q : Option Int → fl_H → Prop} (W : ∀ H1, H1 = fl_up H 94 10 0 → (hd_GoodsBookModel_step_94_7 (cm_pg X xs) N H1 0 Q))  : ck (cm_pg X xs) N cm_m207 [.index 94] H Q :=
  vt_aload_n rfl rfl rfl
 (vt_iconst rfl
 (vt_putf rfl rfl rfl (vt_nm (fun H1 e2 => vt_iconst rfl
 (vt_istore_n rfl
 ((W H1 e2) _ rfl rfl))))))
theorem ve_GoodsBookModel_tryRow_94 {X : Term} {xs : List Int32} {N : Nat} {H : fl_H} {Q : Option Int → fl_H → Prop} (W : ∀ m, m < N → ck (cm_pg X xs) m cm_m187 [.index 94] H (fun r H1 => ∃ x3, r = some x3 ∧ (((fl_w x3 = 0) → Q none H1) ∧ (¬ (fl_w x3 = 0) → ∀ m, m < N → ck (cm_pg X xs) m cm_m183 [.index 94] H1 (fun r H5 => ∃ x7, r = some x7 ∧ (((fl_w (H5 94 8) < fl_w x7) → ∀ m, m < N → ck (cm_pg X xs) m cm_m195 [.index 94, fl_t x7] H5 (fun r H9 => r = none ∧ (∀ H11, H11 = fl_up H9 94 10 1 → (Q none H11)))) ∧ (¬ (fl_w (H5 94 8) < fl_w x7) → (fl_w x7 = fl_w (H5 94 8) → ((fl_w (H5 94 10) = 0) → Q none H5) ∧ (¬ (fl_w (H5 94 10) = 0) → ∀ m, m < N → ck (cm_pg X xs) m cm_m205 [.index 94] H5 (fun r H15 => ∃ x17, r = some x17 ∧ (((fl_w x17 = 0) → Q none H15) ∧ (¬ (fl_w x17 = 0) → ∀ m, m < N → ck (cm_pg X xs) m cm_m195 [.index 94, fl_t x7] H15 (fun r H19 => r = none ∧ (∀ H21, H21 = fl_up H19 94 10 1 → (Q none H21)))))))) ∧ (¬ fl_w x7 = fl_w (H5 94 8) → Q none H5))))))))  : ck (cm_pg X xs) N cm_m206 [.index 94] H Q :=
  vt_aload_n rfl rfl rfl
 (vt_callV rfl rfl (fun _ => rfl) (fun m hm => vt_int (W m hm) (fun x3 H1 w2 => vt_ifc rfl (fun hc4 => vt_retv rfl (w2.1 hc4)) (fun hc4 => vt_aload_n rfl rfl rfl
 (vt_callV rfl rfl (fun _ => rfl) (fun m hm => vt_int ((w2.2 hc4) m hm) (fun x7 H5 w6 => vt_istore_n rfl
 (vt_iload_n rfl rfl
 (vt_aload_n rfl rfl rfl
 (vt_getf rfl rfl rfl
 (vt_icmp rfl (fun hc8 => vt_aload_n rfl rfl rfl
 (vt_iload_n rfl rfl
 (vt_callV rfl rfl (fun _ => rfl) (fun m hm => vt_void ((w6.1 hc8) m hm) (fun H9 w10 => vt_aload_n rfl rfl rfl
 (vt_iconst rfl
 (vt_putf rfl rfl rfl (vt_nm (fun H11 e12 => vt_retv rfl (w10 H11 e12)))))))))) (fun hc8 => vt_iload_n rfl rfl
 (vt_aload_n rfl rfl rfl
 (vt_getf rfl rfl rfl
 (vt_icmpN rfl (fun hc13 => vt_retv rfl ((w6.2 hc8).2 hc13)) (fun hc13 => vt_aload_n rfl rfl rfl
 (vt_getf rfl rfl rfl
 (vt_ifc rfl (fun hc14 => vt_retv rfl (((w6.2 hc8).1 hc13).1 hc14)) (fun hc14 => vt_aload_n rfl rfl rfl
 (vt_callV rfl rfl (fun _ => rfl) (fun m hm => vt_int ((((w6.2 hc8).1 hc13).2 hc14) m hm) (fun x17 H15 w16 => vt_ifc rfl (fun hc18 => vt_retv rfl (w16.1 hc18)) (fun hc18 => vt_aload_n rfl rfl rfl
 (vt_iload_n rfl rfl
 (vt_callV rfl rfl (fun _ => rfl) (fun m hm => vt_void ((w16.2 hc18) m hm) (fun H19 w20 => vt_aload_n rfl rfl rfl
 (vt_iconst rfl
 (vt_putf rfl rfl rfl (vt_nm (fun H21 e22 => vt_retv rfl (w20 H21 e22))))))))))))))))))))))))))))))))
def hd_GoodsBookModel_isAhead_94_2 (P : cm_G) (N : Nat) (H : fl_H) (a1 : Int) (Q : Option Int → fl_H → Prop) : Prop := ∀ lv : cm_Lv, cm_nth lv 0 = some (some (.index 94)) → cm_nth lv 1 = some (some (fl_t a1)) → vt P N cm_m205 2 lv [] H Q
theorem vh_GoodsBookModel_isAhead_94_2 {X : Term} {xs : List Int32} {N : Nat} {H : fl_H} {a1 : Int} {Q : Option Int → fl_H → Prop} (W : ((fl_w (H 95 1) ≤ fl_w a1) → Q (some 0) H) ∧ (¬ (fl_w (H 95 1) ≤ fl_w a1) → (0 ≤ fl_w a1 ∧ fl_w a1 < 6 → (0 ≤ fl_w a1 ∧ fl_w a1 < 6 → ((fl_w (H 100 (fl_w a1).toNat) = fl_w (H 101 (fl_w a1).toNat)) → ∀ m, m < N → hd_GoodsBookModel_isAhead_94_2 (cm_pg X xs) m H (a1 + 1) Q) ∧ (¬ (fl_w (H 100 (fl_w a1).toNat) = fl_w (H 101 (fl_w a1).toNat)) → (0 ≤ fl_w a1 ∧ fl_w a1 < 6 → (0 ≤ fl_w a1 ∧ fl_w a1 < 6 → ((fl_w (H 101 (fl_w a1).toNat) ≤ fl_w (H 100 (fl_w a1).toNat)) → Q (some 0) H) ∧ (¬ (fl_w (H 101 (fl_w a1).toNat) ≤ fl_w (H 100 (fl_w a1).toNat)) → Q (some 1) H)))))))) : hd_GoodsBookModel_isAhead_94_2 (cm_pg X xs) N H a1 Q :=
 fun lv h0 h1 =>
 vt_iload_n rfl h1
 (vt_aload_n rfl h0 rfl
 (vt_getr rfl rfl rfl
 (vt_iconst rfl
 (vt_ialdN 1 rfl rfl rfl
 (vt_icmp rfl (fun hc1 => vt_iconst rfl
 (vt_ret rfl (W.1 hc1))) (fun hc1 => vt_aload_n rfl h0 rfl
 (vt_getr rfl rfl rfl
 (vt_iload_n rfl h1
 (vt_iald rfl rfl (fun hf2 => vt_aload_n rfl h0 rfl
 (vt_getr rfl rfl rfl
 (vt_iload_n rfl h1
 (vt_iald rfl rfl (fun hf3 => vt_icmp rfl (fun hc4 => vt_iincA rfl h1 (fun hl5 => vt_gotoS rfl (fun m hm => (((((W.2 hc1) hf2) hf3).1 hc4) m hm) _ (fl_lsn (by decide) h0) (fl_lse hl5)))) (fun hc4 => vt_aload_n rfl h0 rfl
 (vt_getr rfl rfl rfl
 (vt_iload_n rfl h1
 (vt_iald rfl rfl (fun hf6 => vt_aload_n rfl h0 rfl
 (vt_getr rfl rfl rfl
 (vt_iload_n rfl h1
 (vt_iald rfl rfl (fun hf7 => vt_icmp rfl (fun hc8 => vt_iconst rfl
 (vt_ret rfl (((((((W.2 hc1) hf2) hf3).2 hc4) hf6) hf7).1 hc8))) (fun hc8 => vt_iconst rfl
 (vt_goto rfl
 (vt_ret rfl (((((((W.2 hc1) hf2) hf3).2 hc4) hf6) hf7).2 hc8)))))))))))))))))))))))))))
theorem ve_GoodsBookModel_isAhead_94 {X : Term} {xs : List Int32} {N : Nat} {H : fl_H} {Q : Option Int → fl_H → Prop} (W : hd_GoodsBookModel_isAhead_94_2 (cm_pg X xs) N H 0 Q)  : ck (cm_pg X xs) N cm_m205 [.index 94] H Q :=
  vt_iconst rfl
 (vt_istore_n rfl
 (W _ rfl rfl))
def hd_GoodsBookModel_layFrom_94_2 (P : cm_G) (N : Nat) (H : fl_H) (a1 : Int) (Q : Option Int → fl_H → Prop) : Prop := ∀ lv : cm_Lv, cm_nth lv 0 = some (some (.index 94)) → cm_nth lv 1 = some (some (fl_t a1)) → vt P N cm_m204 2 lv [] H Q
theorem vh_GoodsBookModel_layFrom_94_2 {X : Term} {xs : List Int32} {N : Nat} {H : fl_H} {a1 : Int} {Q : Option Int → fl_H → Prop} (W : ((6 ≤ fl_w a1) → Q none H) ∧ (¬ (6 ≤ fl_w a1) → (0 ≤ fl_w a1 ∧ fl_w a1 < 6 → (0 ≤ fl_w a1 ∧ fl_w a1 < 6 → ∀ H3, H3 = fl_up H 100 (fl_w a1).toNat (H 102 (fl_w a1).toNat) → ∀ m, m < N → hd_GoodsBookModel_layFrom_94_2 (cm_pg X xs) m H3 (a1 + 1) Q)))) : hd_GoodsBookModel_layFrom_94_2 (cm_pg X xs) N H a1 Q :=
 fun lv h0 h1 =>
 vt_iload_n rfl h1
 (vt_bipush (v := 6) rfl (by decide)
 (vt_icmp rfl (fun hc1 => vt_retv rfl (W.1 hc1)) (fun hc1 => vt_aload_n rfl h0 rfl
 (vt_getr rfl rfl rfl
 (vt_iload_n rfl h1
 (vt_aload_n rfl h0 rfl
 (vt_getr rfl rfl rfl
 (vt_iload_n rfl h1
 (vt_iald rfl rfl (fun hf2 => vt_iast rfl rfl (fun hf5 => vt_nm (fun H3 e4 => vt_iincA rfl h1 (fun hl6 => vt_gotoS rfl (fun m hm => ((((W.2 hc1) hf2) hf5 H3 e4) m hm) _ (fl_lsn (by decide) h0) (fl_lse hl6)))))))))))))))
theorem ve_GoodsBookModel_layFrom_94 {X : Term} {xs : List Int32} {N : Nat} {H : fl_H} {Q : Option Int → fl_H → Prop} (W : hd_GoodsBookModel_layFrom_94_2 (cm_pg X xs) N H 0 Q)  : ck (cm_pg X xs) N cm_m204 [.index 94] H Q :=
  vt_iconst rfl
 (vt_istore_n rfl
 (W _ rfl rfl))
def hd_GoodsBookModel_bound_94_4 (P : cm_G) (N : Nat) (H : fl_H) (a1 : Int) (a2 : Int) (Q : Option Int → fl_H → Prop) : Prop := ∀ lv : cm_Lv, cm_nth lv 0 = some (some (.index 94)) → cm_nth lv 1 = some (some (fl_t a1)) → cm_nth lv 2 = some (some (fl_t a2)) → vt P N cm_m203 4 lv [] H Q
def hd_GoodsBookModel_bound_94_155 (P : cm_G) (N : Nat) (H : fl_H) (a1 : Int) (a2 : Int) (Q : Option Int → fl_H → Prop) : Prop := ∀ lv : cm_Lv, cm_nth lv 0 = some (some (.index 94)) → cm_nth lv 1 = some (some (fl_t a1)) → cm_nth lv 2 = some (some (fl_t a2)) → vt P N cm_m203 155 lv [] H Q
def hd_GoodsBookModel_bound_94_33 (P : cm_G) (N : Nat) (H : fl_H) (a1 : Int) (a2 : Int) (a3 : Int) (a4 : Int) (a5 : Int) (Q : Option Int → fl_H → Prop) : Prop := ∀ lv : cm_Lv, cm_nth lv 0 = some (some (.index 94)) → cm_nth lv 1 = some (some (fl_t a1)) → cm_nth lv 2 = some (some (fl_t a2)) → cm_nth lv 3 = some (some (fl_t a3)) → cm_nth lv 4 = some (some (fl_t a4)) → cm_nth lv 5 = some (some (fl_t a5)) → vt P N cm_m203 33 lv [] H Q
theorem vh_GoodsBookModel_bound_94_4 {X : Term} {xs : List Int32} {N : Nat} {H : fl_H} {a1 : Int} {a2 : Int} {Q : Option Int → fl_H → Prop} (W : ((fl_w (H 95 1) ≤ fl_w a2) → hd_GoodsBookModel_bound_94_155 (cm_pg X xs) N H a1 0 Q) ∧ (¬ (fl_w (H 95 1) ≤ fl_w a2) → (0 ≤ fl_w (14 + (8 * a2)) ∧ fl_w (14 + (8 * a2)) < 152 → hd_GoodsBookModel_bound_94_33 (cm_pg X xs) N H a1 a2 0 (H 95 (fl_w (14 + (8 * a2))).toNat) 1 Q))) : hd_GoodsBookModel_bound_94_4 (cm_pg X xs) N H a1 a2 Q :=
 fun lv h0 h1 h2 =>
 vt_iload_n rfl h2
 (vt_aload_n rfl h0 rfl
 (vt_getr rfl rfl rfl
 (vt_iconst rfl
 (vt_ialdN 1 rfl rfl rfl
 (vt_icmp rfl (fun hc1 => vt_iconst rfl
 (vt_istore_nA rfl (fun hl2 => (W.1 hc1) _ (fl_lsn (by decide) h0) (fl_lsn (by decide) h1) (fl_lse hl2)))) (fun hc1 => vt_iconst rfl
 (vt_istore_nA rfl (fun hl3 => vt_aload_n rfl (fl_lsn (by decide) h0) rfl
 (vt_getr rfl rfl rfl
 (vt_bipush (v := 14) rfl (by decide)
 (vt_bipush (v := 8) rfl (by decide)
 (vt_iload_n rfl (fl_lsn (by decide) h2)
 (vt_imul rfl
 (vt_iadd rfl
 (vt_iald rfl rfl (fun hf4 => vt_istoreA rfl (fun hl5 => vt_iconst rfl
 (vt_istoreA rfl (fun hl6 => ((W.2 hc1) hf4) _ (fl_lsn (by decide) (fl_lsn (by decide) (fl_lsn (by decide) h0))) (fl_lsn (by decide) (fl_lsn (by decide) (fl_lsn (by decide) h1))) (fl_lsn (by decide) (fl_lsn (by decide) (fl_lsn (by decide) h2))) (fl_lsn (by decide) (fl_lsn (by decide) (fl_lse hl3))) (fl_lsn (by decide) (fl_lse hl5)) (fl_lse hl6))))))))))))))))))))
theorem vh_GoodsBookModel_bound_94_155 {X : Term} {xs : List Int32} {N : Nat} {H : fl_H} {a1 : Int} {a2 : Int} {Q : Option Int → fl_H → Prop} (W : ((fl_w (H 95 2) ≤ fl_w a2) → Q (some a1) H) ∧ (¬ (fl_w (H 95 2) ≤ fl_w a2) → (0 ≤ fl_w ((68 + (4 * a2)) + 3) ∧ fl_w ((68 + (4 * a2)) + 3) < 152 → ((fl_w (H 95 (fl_w ((68 + (4 * a2)) + 3)).toNat) ≤ 0) → ∀ m, m < N → hd_GoodsBookModel_bound_94_155 (cm_pg X xs) m H (a1 + 0) (a2 + 1) Q) ∧ (¬ (fl_w (H 95 (fl_w ((68 + (4 * a2)) + 3)).toNat) ≤ 0) → ∀ m, m < N → hd_GoodsBookModel_bound_94_155 (cm_pg X xs) m H (a1 + (60 * (H 95 (fl_w ((68 + (4 * a2)) + 3)).toNat))) (a2 + 1) Q)))) : hd_GoodsBookModel_bound_94_155 (cm_pg X xs) N H a1 a2 Q :=
 fun lv h0 h1 h2 =>
 vt_iload_n rfl h2
 (vt_aload_n rfl h0 rfl
 (vt_getr rfl rfl rfl
 (vt_iconst rfl
 (vt_ialdN 2 rfl rfl rfl
 (vt_icmp rfl (fun hc1 => vt_iload_n rfl h1
 (vt_ret rfl (W.1 hc1))) (fun hc1 => vt_aload_n rfl h0 rfl
 (vt_getr rfl rfl rfl
 (vt_bipush (v := 68) rfl (by decide)
 (vt_iconst rfl
 (vt_iload_n rfl h2
 (vt_imul rfl
 (vt_iadd rfl
 (vt_iconst rfl
 (vt_iadd rfl
 (vt_iald rfl rfl (fun hf2 => vt_istore_nA rfl (fun hl3 => vt_iload_n rfl (fl_lsn (by decide) h1)
 (vt_iload_n rfl (fl_lse hl3)
 (vt_ifc rfl (fun hc4 => vt_iconst rfl
 (vt_iadd rfl
 (vt_istore_nA rfl (fun hl5 => vt_iincA rfl (fl_lsn (by decide) (fl_lsn (by decide) h2)) (fun hl6 => vt_gotoS rfl (fun m hm => ((((W.2 hc1) hf2).1 hc4) m hm) _ (fl_lsn (by decide) (fl_lsn (by decide) (fl_lsn (by decide) h0))) (fl_lsn (by decide) (fl_lse hl5)) (fl_lse hl6))))))) (fun hc4 => vt_bipush (v := 60) rfl (by decide)
 (vt_iload_n rfl (fl_lse hl3)
 (vt_imul rfl
 (vt_goto rfl
 (vt_iadd rfl
 (vt_istore_nA rfl (fun hl7 => vt_iincA rfl (fl_lsn (by decide) (fl_lsn (by decide) h2)) (fun hl8 => vt_gotoS rfl (fun m hm => ((((W.2 hc1) hf2).2 hc4) m hm) _ (fl_lsn (by decide) (fl_lsn (by decide) (fl_lsn (by decide) h0))) (fl_lsn (by decide) (fl_lse hl7)) (fl_lse hl8)))))))))))))))))))))))))))))
theorem vh_GoodsBookModel_bound_94_33 {X : Term} {xs : List Int32} {N : Nat} {H : fl_H} {a1 : Int} {a2 : Int} {a3 : Int} {a4 : Int} {a5 : Int} {Q : Option Int → fl_H → Prop} (W : ((fl_w (2 * (H 95 0)) < fl_w a5) → ∀ m, m < N → hd_GoodsBookModel_bound_94_4 (cm_pg X xs) m H (a1 + a3) (a2 + 1) Q) ∧ (¬ (fl_w (2 * (H 95 0)) < fl_w a5) → ∀ m, m < N → ck (cm_pg X xs) m cm_m151 [fl_t a5] H (fun r H4 => ∃ x6, r = some x6 ∧ ((0 ≤ fl_w (10 + x6) ∧ fl_w (10 + x6) < 152 → ∀ m, m < N → ck (cm_pg X xs) m cm_m154 [.index 94, fl_t a2, fl_t (fl_rem (a5 - 1) 2)] H4 (fun r H9 => ∃ x11, r = some x11 ∧ ((fl_w a4 = 1 → ((fl_w ((x11 * (H4 95 (fl_w (10 + x6)).toNat)) + (((H9 95 4) * (H4 95 (fl_w (10 + x6)).toNat)) * ((H9 95 1) - 1))) ≤ fl_w a3) → ∀ m, m < N → hd_GoodsBookModel_bound_94_33 (cm_pg X xs) m H9 a1 a2 a3 a4 (a5 + 1) Q) ∧ (¬ (fl_w ((x11 * (H4 95 (fl_w (10 + x6)).toNat)) + (((H9 95 4) * (H4 95 (fl_w (10 + x6)).toNat)) * ((H9 95 1) - 1))) ≤ fl_w a3) → ∀ m, m < N → hd_GoodsBookModel_bound_94_33 (cm_pg X xs) m H9 a1 a2 ((x11 * (H4 95 (fl_w (10 + x6)).toNat)) + (((H9 95 4) * (H4 95 (fl_w (10 + x6)).toNat)) * ((H9 95 1) - 1))) a4 (a5 + 1) Q)) ∧ (¬ fl_w a4 = 1 → (fl_w a4 = 3 → ((fl_w (2 * (x11 * (H4 95 (fl_w (10 + x6)).toNat))) ≤ fl_w a3) → ∀ m, m < N → hd_GoodsBookModel_bound_94_33 (cm_pg X xs) m H9 a1 a2 a3 a4 (a5 + 1) Q) ∧ (¬ (fl_w (2 * (x11 * (H4 95 (fl_w (10 + x6)).toNat))) ≤ fl_w a3) → ∀ m, m < N → hd_GoodsBookModel_bound_94_33 (cm_pg X xs) m H9 a1 a2 (2 * (x11 * (H4 95 (fl_w (10 + x6)).toNat))) a4 (a5 + 1) Q)) ∧ (¬ fl_w a4 = 3 → ((fl_w (x11 * (H4 95 (fl_w (10 + x6)).toNat)) ≤ fl_w a3) → ∀ m, m < N → hd_GoodsBookModel_bound_94_33 (cm_pg X xs) m H9 a1 a2 a3 a4 (a5 + 1) Q) ∧ (¬ (fl_w (x11 * (H4 95 (fl_w (10 + x6)).toNat)) ≤ fl_w a3) → ∀ m, m < N → hd_GoodsBookModel_bound_94_33 (cm_pg X xs) m H9 a1 a2 (x11 * (H4 95 (fl_w (10 + x6)).toNat)) a4 (a5 + 1) Q)))))))))) : hd_GoodsBookModel_bound_94_33 (cm_pg X xs) N H a1 a2 a3 a4 a5 Q :=
 fun lv h0 h1 h2 h3 h4 h5 =>
 vt_iload rfl h5
 (vt_iconst rfl
 (vt_aload_n rfl h0 rfl
 (vt_getr rfl rfl rfl
 (vt_iconst rfl
 (vt_ialdN 0 rfl rfl rfl
 (vt_imul rfl
 (vt_icmp rfl (fun hc1 => vt_iload_n rfl h1
 (vt_iload_n rfl h3
 (vt_iadd rfl
 (vt_istore_nA rfl (fun hl2 => vt_iincA rfl (fl_lsn (by decide) h2) (fun hl3 => vt_gotoS rfl (fun m hm => ((W.1 hc1) m hm) _ (fl_lsn (by decide) (fl_lsn (by decide) h0)) (fl_lsn (by decide) (fl_lse hl2)) (fl_lse hl3)))))))) (fun hc1 => vt_aload_n rfl h0 rfl
 (vt_getr rfl rfl rfl
 (vt_bipush (v := 10) rfl (by decide)
 (vt_iload rfl h5
 (vt_callS rfl rfl (fun _ => rfl) (fun m hm => vt_int ((W.2 hc1) m hm) (fun x6 H4 w5 => vt_iadd rfl
 (vt_iald rfl rfl (fun hf7 => vt_istoreA rfl (fun hl8 => vt_aload_n rfl (fl_lsn (by decide) h0) rfl
 (vt_iload_n rfl (fl_lsn (by decide) h2)
 (vt_iload rfl (fl_lsn (by decide) h5)
 (vt_iconst rfl
 (vt_isub rfl
 (vt_iconst rfl
 (vt_irem rfl
 (vt_callV rfl rfl (fun _ => rfl) (fun m hm => vt_int ((w5 hf7) m hm) (fun x11 H9 w10 => vt_iload rfl (fl_lse hl8)
 (vt_imul rfl
 (vt_istoreA rfl (fun hl12 => vt_iload rfl (fl_lsn (by decide) (fl_lsn (by decide) h4))
 (vt_iconst rfl
 (vt_icmpN rfl (fun hc13 => vt_iload rfl (fl_lsn (by decide) (fl_lsn (by decide) h4))
 (vt_iconst rfl
 (vt_icmpN rfl (fun hc20 => vt_iload rfl (fl_lse hl12)
 (vt_istoreA rfl (fun hl27 => vt_iload rfl (fl_lse hl27)
 (vt_iload_n rfl (fl_lsn (by decide) (fl_lsn (by decide) (fl_lsn (by decide) h3)))
 (vt_icmp rfl (fun hc28 => vt_iload_n rfl (fl_lsn (by decide) (fl_lsn (by decide) (fl_lsn (by decide) h3)))
 (vt_istore_nA rfl (fun hl29 => vt_iincA rfl (fl_lsn (by decide) (fl_lsn (by decide) (fl_lsn (by decide) (fl_lsn (by decide) h5)))) (fun hl30 => vt_gotoS rfl (fun m hm => ((((w10.2 hc13).2 hc20).1 hc28) m hm) _ (fl_lsn (by decide) (fl_lsn (by decide) (fl_lsn (by decide) (fl_lsn (by decide) (fl_lsn (by decide) h0))))) (fl_lsn (by decide) (fl_lsn (by decide) (fl_lsn (by decide) (fl_lsn (by decide) (fl_lsn (by decide) h1))))) (fl_lsn (by decide) (fl_lsn (by decide) (fl_lsn (by decide) (fl_lsn (by decide) (fl_lsn (by decide) h2))))) (fl_lsn (by decide) (fl_lse hl29)) (fl_lsn (by decide) (fl_lsn (by decide) (fl_lsn (by decide) (fl_lsn (by decide) (fl_lsn (by decide) h4))))) (fl_lse hl30)))))) (fun hc28 => vt_iload rfl (fl_lse hl27)
 (vt_goto rfl
 (vt_istore_nA rfl (fun hl31 => vt_iincA rfl (fl_lsn (by decide) (fl_lsn (by decide) (fl_lsn (by decide) (fl_lsn (by decide) h5)))) (fun hl32 => vt_gotoS rfl (fun m hm => ((((w10.2 hc13).2 hc20).2 hc28) m hm) _ (fl_lsn (by decide) (fl_lsn (by decide) (fl_lsn (by decide) (fl_lsn (by decide) (fl_lsn (by decide) h0))))) (fl_lsn (by decide) (fl_lsn (by decide) (fl_lsn (by decide) (fl_lsn (by decide) (fl_lsn (by decide) h1))))) (fl_lsn (by decide) (fl_lsn (by decide) (fl_lsn (by decide) (fl_lsn (by decide) (fl_lsn (by decide) h2))))) (fl_lsn (by decide) (fl_lse hl31)) (fl_lsn (by decide) (fl_lsn (by decide) (fl_lsn (by decide) (fl_lsn (by decide) (fl_lsn (by decide) h4))))) (fl_lse hl32)))))))))))) (fun hc20 => vt_iconst rfl
 (vt_iload rfl (fl_lse hl12)
 (vt_imul rfl
 (vt_goto rfl
 (vt_istoreA rfl (fun hl21 => vt_iload rfl (fl_lse hl21)
 (vt_iload_n rfl (fl_lsn (by decide) (fl_lsn (by decide) (fl_lsn (by decide) h3)))
 (vt_icmp rfl (fun hc22 => vt_iload_n rfl (fl_lsn (by decide) (fl_lsn (by decide) (fl_lsn (by decide) h3)))
 (vt_istore_nA rfl (fun hl23 => vt_iincA rfl (fl_lsn (by decide) (fl_lsn (by decide) (fl_lsn (by decide) (fl_lsn (by decide) h5)))) (fun hl24 => vt_gotoS rfl (fun m hm => ((((w10.2 hc13).1 hc20).1 hc22) m hm) _ (fl_lsn (by decide) (fl_lsn (by decide) (fl_lsn (by decide) (fl_lsn (by decide) (fl_lsn (by decide) h0))))) (fl_lsn (by decide) (fl_lsn (by decide) (fl_lsn (by decide) (fl_lsn (by decide) (fl_lsn (by decide) h1))))) (fl_lsn (by decide) (fl_lsn (by decide) (fl_lsn (by decide) (fl_lsn (by decide) (fl_lsn (by decide) h2))))) (fl_lsn (by decide) (fl_lse hl23)) (fl_lsn (by decide) (fl_lsn (by decide) (fl_lsn (by decide) (fl_lsn (by decide) (fl_lsn (by decide) h4))))) (fl_lse hl24)))))) (fun hc22 => vt_iload rfl (fl_lse hl21)
 (vt_goto rfl
 (vt_istore_nA rfl (fun hl25 => vt_iincA rfl (fl_lsn (by decide) (fl_lsn (by decide) (fl_lsn (by decide) (fl_lsn (by decide) h5)))) (fun hl26 => vt_gotoS rfl (fun m hm => ((((w10.2 hc13).1 hc20).2 hc22) m hm) _ (fl_lsn (by decide) (fl_lsn (by decide) (fl_lsn (by decide) (fl_lsn (by decide) (fl_lsn (by decide) h0))))) (fl_lsn (by decide) (fl_lsn (by decide) (fl_lsn (by decide) (fl_lsn (by decide) (fl_lsn (by decide) h1))))) (fl_lsn (by decide) (fl_lsn (by decide) (fl_lsn (by decide) (fl_lsn (by decide) (fl_lsn (by decide) h2))))) (fl_lsn (by decide) (fl_lse hl25)) (fl_lsn (by decide) (fl_lsn (by decide) (fl_lsn (by decide) (fl_lsn (by decide) (fl_lsn (by decide) h4))))) (fl_lse hl26)))))))))))))))))) (fun hc13 => vt_iload rfl (fl_lse hl12)
 (vt_aload_n rfl (fl_lsn (by decide) (fl_lsn (by decide) h0)) rfl
 (vt_getr rfl rfl rfl
 (vt_iconst rfl
 (vt_ialdN 4 rfl rfl rfl
 (vt_iload rfl (fl_lsn (by decide) (fl_lse hl8))
 (vt_imul rfl
 (vt_aload_n rfl (fl_lsn (by decide) (fl_lsn (by decide) h0)) rfl
 (vt_getr rfl rfl rfl
 (vt_iconst rfl
 (vt_ialdN 1 rfl rfl rfl
 (vt_iconst rfl
 (vt_isub rfl
 (vt_imul rfl
 (vt_iadd rfl
 (vt_goto rfl
 (vt_istoreA rfl (fun hl14 => vt_iload rfl (fl_lse hl14)
 (vt_iload_n rfl (fl_lsn (by decide) (fl_lsn (by decide) (fl_lsn (by decide) h3)))
 (vt_icmp rfl (fun hc15 => vt_iload_n rfl (fl_lsn (by decide) (fl_lsn (by decide) (fl_lsn (by decide) h3)))
 (vt_istore_nA rfl (fun hl16 => vt_iincA rfl (fl_lsn (by decide) (fl_lsn (by decide) (fl_lsn (by decide) (fl_lsn (by decide) h5)))) (fun hl17 => vt_gotoS rfl (fun m hm => (((w10.1 hc13).1 hc15) m hm) _ (fl_lsn (by decide) (fl_lsn (by decide) (fl_lsn (by decide) (fl_lsn (by decide) (fl_lsn (by decide) h0))))) (fl_lsn (by decide) (fl_lsn (by decide) (fl_lsn (by decide) (fl_lsn (by decide) (fl_lsn (by decide) h1))))) (fl_lsn (by decide) (fl_lsn (by decide) (fl_lsn (by decide) (fl_lsn (by decide) (fl_lsn (by decide) h2))))) (fl_lsn (by decide) (fl_lse hl16)) (fl_lsn (by decide) (fl_lsn (by decide) (fl_lsn (by decide) (fl_lsn (by decide) (fl_lsn (by decide) h4))))) (fl_lse hl17)))))) (fun hc15 => vt_iload rfl (fl_lse hl14)
 (vt_goto rfl
 (vt_istore_nA rfl (fun hl18 => vt_iincA rfl (fl_lsn (by decide) (fl_lsn (by decide) (fl_lsn (by decide) (fl_lsn (by decide) h5)))) (fun hl19 => vt_gotoS rfl (fun m hm => (((w10.1 hc13).2 hc15) m hm) _ (fl_lsn (by decide) (fl_lsn (by decide) (fl_lsn (by decide) (fl_lsn (by decide) (fl_lsn (by decide) h0))))) (fl_lsn (by decide) (fl_lsn (by decide) (fl_lsn (by decide) (fl_lsn (by decide) (fl_lsn (by decide) h1))))) (fl_lsn (by decide) (fl_lsn (by decide) (fl_lsn (by decide) (fl_lsn (by decide) (fl_lsn (by decide) h2))))) (fl_lsn (by decide) (fl_lse hl18)) (fl_lsn (by decide) (fl_lsn (by decide) (fl_lsn (by decide) (fl_lsn (by decide) (fl_lsn (by decide) h4))))) (fl_lse hl19))))))))))))))))))))))))))))))))))))))))))))))))))))))))))
theorem ve_GoodsBookModel_bound_94 {X : Term} {xs : List Int32} {N : Nat} {H : fl_H} {Q : Option Int → fl_H → Prop} (W : hd_GoodsBookModel_bound_94_4 (cm_pg X xs) N H 0 0 Q)  : ck (cm_pg X xs) N cm_m203 [.index 94] H Q :=
  vt_iconst rfl
 (vt_istore_n rfl
 (vt_iconst rfl
 (vt_istore_n rfl
 (W _ rfl rfl rfl))))
def hd_GoodsBookModel_squares_94_67 (P : cm_G) (N : Nat) (H : fl_H) (a2 : Int) (a3 : Int) (a4 : Int) (a5 : Int) (a6 : Int) (a7 : Int) (Q : Option Int → fl_H → Prop) : Prop := ∀ lv : cm_Lv, cm_nth lv 0 = some (some (.index 94)) → cm_nth lv 2 = some (some (fl_t a2)) → cm_nth lv 3 = some (some (fl_t a3)) → cm_nth lv 4 = some (some (fl_t a4)) → cm_nth lv 5 = some (some (fl_t a5)) → cm_nth lv 6 = some (some (fl_t a6)) → cm_nth lv 7 = some (some (fl_t a7)) → vt P N cm_m202 67 lv [] H Q
def hd_GoodsBookModel_squares_94_99 (P : cm_G) (N : Nat) (H : fl_H) (a2 : Int) (a3 : Int) (a4 : Int) (a5 : Int) (a6 : Int) (a7 : Int) (a8 : Int) (a9 : Int) (a10 : Int) (Q : Option Int → fl_H → Prop) : Prop := ∀ lv : cm_Lv, cm_nth lv 0 = some (some (.index 94)) → cm_nth lv 2 = some (some (fl_t a2)) → cm_nth lv 3 = some (some (fl_t a3)) → cm_nth lv 4 = some (some (fl_t a4)) → cm_nth lv 5 = some (some (fl_t a5)) → cm_nth lv 6 = some (some (fl_t a6)) → cm_nth lv 7 = some (some (fl_t a7)) → cm_nth lv 8 = some (some (fl_t a8)) → cm_nth lv 9 = some (some (fl_t a9)) → cm_nth lv 10 = some (some (fl_t a10)) → vt P N cm_m202 99 lv [] H Q
theorem vh_GoodsBookModel_squares_94_67 {X : Term} {xs : List Int32} {N : Nat} {H : fl_H} {a2 : Int} {a3 : Int} {a4 : Int} {a5 : Int} {a6 : Int} {a7 : Int} {Q : Option Int → fl_H → Prop} (W : ((fl_w a6 ≤ fl_w a7) → ((0 ≤ fl_w a2) → ∀ m, m < N → ck (cm_pg X xs) m cm_m169 [fl_t a5, fl_t a2] H (fun r H3 => ∃ x5, r = some x5 ∧ (Q (some x5) H3))) ∧ (¬ (0 ≤ fl_w a2) → Q (some a4) H)) ∧ (¬ (fl_w a6 ≤ fl_w a7) → ∀ m, m < N → ck (cm_pg X xs) m cm_m201 [.index 94, fl_t a7] H (fun r H6 => ∃ x8, r = some x8 ∧ (∀ m, m < N → ck (cm_pg X xs) m cm_m172 [.index 94, fl_t x8] H6 (fun r H10 => ∃ x12, r = some x12 ∧ (((16 < fl_w x12) → ∀ m, m < N → hd_GoodsBookModel_squares_94_67 (cm_pg X xs) m H10 a2 a3 a4 a5 a6 (a7 + 1) Q) ∧ (¬ (16 < fl_w x12) → hd_GoodsBookModel_squares_94_99 (cm_pg X xs) N H10 a2 a3 a4 a5 a6 a7 x8 0 0 Q))))))) : hd_GoodsBookModel_squares_94_67 (cm_pg X xs) N H a2 a3 a4 a5 a6 a7 Q :=
 fun lv h0 h2 h3 h4 h5 h6 h7 =>
 vt_iload rfl h7
 (vt_iload rfl h6
 (vt_icmp rfl (fun hc1 => vt_iload_n rfl h2
 (vt_ifc rfl (fun hc2 => vt_iload rfl h5
 (vt_iload_n rfl h2
 (vt_callS rfl rfl (fun _ => rfl) (fun m hm => vt_int (((W.1 hc1).1 hc2) m hm) (fun x5 H3 w4 => vt_ret rfl w4))))) (fun hc2 => vt_iload rfl h4
 (vt_goto rfl
 (vt_ret rfl ((W.1 hc1).2 hc2)))))) (fun hc1 => vt_aload_n rfl h0 rfl
 (vt_iload rfl h7
 (vt_callV rfl rfl (fun _ => rfl) (fun m hm => vt_int ((W.2 hc1) m hm) (fun x8 H6 w7 => vt_istoreA rfl (fun hl9 => vt_aload_n rfl (fl_lsn (by decide) h0) rfl
 (vt_iload rfl (fl_lse hl9)
 (vt_callV rfl rfl (fun _ => rfl) (fun m hm => vt_int (w7 m hm) (fun x12 H10 w11 => vt_bipush (v := 16) rfl (by decide)
 (vt_icmp rfl (fun hc13 => vt_iincA rfl (fl_lsn (by decide) h7) (fun hl14 => vt_gotoS rfl (fun m hm => ((w11.1 hc13) m hm) _ (fl_lsn (by decide) (fl_lsn (by decide) h0)) (fl_lsn (by decide) (fl_lsn (by decide) h2)) (fl_lsn (by decide) (fl_lsn (by decide) h3)) (fl_lsn (by decide) (fl_lsn (by decide) h4)) (fl_lsn (by decide) (fl_lsn (by decide) h5)) (fl_lsn (by decide) (fl_lsn (by decide) h6)) (fl_lse hl14)))) (fun hc13 => vt_iconst rfl
 (vt_istoreA rfl (fun hl15 => vt_iconst rfl
 (vt_istoreA rfl (fun hl16 => (w11.2 hc13) _ (fl_lsn (by decide) (fl_lsn (by decide) (fl_lsn (by decide) h0))) (fl_lsn (by decide) (fl_lsn (by decide) (fl_lsn (by decide) h2))) (fl_lsn (by decide) (fl_lsn (by decide) (fl_lsn (by decide) h3))) (fl_lsn (by decide) (fl_lsn (by decide) (fl_lsn (by decide) h4))) (fl_lsn (by decide) (fl_lsn (by decide) (fl_lsn (by decide) h5))) (fl_lsn (by decide) (fl_lsn (by decide) (fl_lsn (by decide) h6))) (fl_lsn (by decide) (fl_lsn (by decide) (fl_lsn (by decide) h7))) (fl_lsn (by decide) (fl_lsn (by decide) (fl_lse hl9))) (fl_lsn (by decide) (fl_lse hl15)) (fl_lse hl16)))))))))))))))))))
theorem vh_GoodsBookModel_squares_94_99 {X : Term} {xs : List Int32} {N : Nat} {H : fl_H} {a2 : Int} {a3 : Int} {a4 : Int} {a5 : Int} {a6 : Int} {a7 : Int} {a8 : Int} {a9 : Int} {a10 : Int} {Q : Option Int → fl_H → Prop} (W : ((fl_w (H 95 1) ≤ fl_w a10) → ((fl_w a9 ≤ fl_w a4) → ((fl_w a9 ≤ fl_w a4) → ∀ m, m < N → hd_GoodsBookModel_squares_94_67 (cm_pg X xs) m H a2 a3 a4 a5 a6 (a7 + 1) Q) ∧ (¬ (fl_w a9 ≤ fl_w a4) → ∀ m, m < N → hd_GoodsBookModel_squares_94_67 (cm_pg X xs) m H a2 a3 a9 a5 a6 (a7 + 1) Q)) ∧ (¬ (fl_w a9 ≤ fl_w a4) → ((fl_w a9 ≤ fl_w a4) → ∀ m, m < N → hd_GoodsBookModel_squares_94_67 (cm_pg X xs) m H a2 a3 a4 a8 a6 (a7 + 1) Q) ∧ (¬ (fl_w a9 ≤ fl_w a4) → ∀ m, m < N → hd_GoodsBookModel_squares_94_67 (cm_pg X xs) m H a2 a3 a9 a8 a6 (a7 + 1) Q))) ∧ (¬ (fl_w (H 95 1) ≤ fl_w a10) → ∀ m, m < N → ck (cm_pg X xs) m cm_m169 [fl_t a8, fl_t a10] H (fun r H15 => ∃ x17, r = some x17 ∧ (((fl_w x17 ≤ 0) → ∀ m, m < N → hd_GoodsBookModel_squares_94_99 (cm_pg X xs) m H15 a2 a3 a4 a5 a6 a7 a8 (a9 + 0) (a10 + 1) Q) ∧ (¬ (fl_w x17 ≤ 0) → ∀ m, m < N → ck (cm_pg X xs) m cm_m154 [.index 94, fl_t a10, fl_t (x17 - 1)] H15 (fun r H22 => ∃ x24, r = some x24 ∧ (∀ m, m < N → hd_GoodsBookModel_squares_94_99 (cm_pg X xs) m H22 a2 a3 a4 a5 a6 a7 a8 (a9 + (x24 * a3)) (a10 + 1) Q))))))) : hd_GoodsBookModel_squares_94_99 (cm_pg X xs) N H a2 a3 a4 a5 a6 a7 a8 a9 a10 Q :=
 fun lv h0 h2 h3 h4 h5 h6 h7 h8 h9 h10 =>
 vt_iload rfl h10
 (vt_aload_n rfl h0 rfl
 (vt_getr rfl rfl rfl
 (vt_iconst rfl
 (vt_ialdN 1 rfl rfl rfl
 (vt_icmp rfl (fun hc1 => vt_iload rfl h9
 (vt_iload rfl h4
 (vt_icmp rfl (fun hc2 => vt_iload rfl h5
 (vt_istoreA rfl (fun hl3 => vt_iload rfl (fl_lsn (by decide) h9)
 (vt_iload rfl (fl_lsn (by decide) h4)
 (vt_icmp rfl (fun hc4 => vt_iload rfl (fl_lsn (by decide) h4)
 (vt_istoreA rfl (fun hl5 => vt_iincA rfl (fl_lsn (by decide) (fl_lsn (by decide) h7)) (fun hl6 => vt_gotoS rfl (fun m hm => ((((W.1 hc1).1 hc2).1 hc4) m hm) _ (fl_lsn (by decide) (fl_lsn (by decide) (fl_lsn (by decide) h0))) (fl_lsn (by decide) (fl_lsn (by decide) (fl_lsn (by decide) h2))) (fl_lsn (by decide) (fl_lsn (by decide) (fl_lsn (by decide) h3))) (fl_lsn (by decide) (fl_lse hl5)) (fl_lsn (by decide) (fl_lsn (by decide) (fl_lse hl3))) (fl_lsn (by decide) (fl_lsn (by decide) (fl_lsn (by decide) h6))) (fl_lse hl6)))))) (fun hc4 => vt_iload rfl (fl_lsn (by decide) h9)
 (vt_goto rfl
 (vt_istoreA rfl (fun hl7 => vt_iincA rfl (fl_lsn (by decide) (fl_lsn (by decide) h7)) (fun hl8 => vt_gotoS rfl (fun m hm => ((((W.1 hc1).1 hc2).2 hc4) m hm) _ (fl_lsn (by decide) (fl_lsn (by decide) (fl_lsn (by decide) h0))) (fl_lsn (by decide) (fl_lsn (by decide) (fl_lsn (by decide) h2))) (fl_lsn (by decide) (fl_lsn (by decide) (fl_lsn (by decide) h3))) (fl_lsn (by decide) (fl_lse hl7)) (fl_lsn (by decide) (fl_lsn (by decide) (fl_lse hl3))) (fl_lsn (by decide) (fl_lsn (by decide) (fl_lsn (by decide) h6))) (fl_lse hl8)))))))))))) (fun hc2 => vt_iload rfl h8
 (vt_goto rfl
 (vt_istoreA rfl (fun hl9 => vt_iload rfl (fl_lsn (by decide) h9)
 (vt_iload rfl (fl_lsn (by decide) h4)
 (vt_icmp rfl (fun hc10 => vt_iload rfl (fl_lsn (by decide) h4)
 (vt_istoreA rfl (fun hl11 => vt_iincA rfl (fl_lsn (by decide) (fl_lsn (by decide) h7)) (fun hl12 => vt_gotoS rfl (fun m hm => ((((W.1 hc1).2 hc2).1 hc10) m hm) _ (fl_lsn (by decide) (fl_lsn (by decide) (fl_lsn (by decide) h0))) (fl_lsn (by decide) (fl_lsn (by decide) (fl_lsn (by decide) h2))) (fl_lsn (by decide) (fl_lsn (by decide) (fl_lsn (by decide) h3))) (fl_lsn (by decide) (fl_lse hl11)) (fl_lsn (by decide) (fl_lsn (by decide) (fl_lse hl9))) (fl_lsn (by decide) (fl_lsn (by decide) (fl_lsn (by decide) h6))) (fl_lse hl12)))))) (fun hc10 => vt_iload rfl (fl_lsn (by decide) h9)
 (vt_goto rfl
 (vt_istoreA rfl (fun hl13 => vt_iincA rfl (fl_lsn (by decide) (fl_lsn (by decide) h7)) (fun hl14 => vt_gotoS rfl (fun m hm => ((((W.1 hc1).2 hc2).2 hc10) m hm) _ (fl_lsn (by decide) (fl_lsn (by decide) (fl_lsn (by decide) h0))) (fl_lsn (by decide) (fl_lsn (by decide) (fl_lsn (by decide) h2))) (fl_lsn (by decide) (fl_lsn (by decide) (fl_lsn (by decide) h3))) (fl_lsn (by decide) (fl_lse hl13)) (fl_lsn (by decide) (fl_lsn (by decide) (fl_lse hl9))) (fl_lsn (by decide) (fl_lsn (by decide) (fl_lsn (by decide) h6))) (fl_lse hl14)))))))))))))))) (fun hc1 => vt_iload rfl h8
 (vt_iload rfl h10
 (vt_callS rfl rfl (fun _ => rfl) (fun m hm => vt_int ((W.2 hc1) m hm) (fun x17 H15 w16 => vt_istoreA rfl (fun hl18 => vt_iload rfl (fl_lsn (by decide) h9)
 (vt_iload rfl (fl_lse hl18)
 (vt_ifc rfl (fun hc19 => vt_iconst rfl
 (vt_iadd rfl
 (vt_istoreA rfl (fun hl20 => vt_iincA rfl (fl_lsn (by decide) (fl_lsn (by decide) h10)) (fun hl21 => vt_gotoS rfl (fun m hm => ((w16.1 hc19) m hm) _ (fl_lsn (by decide) (fl_lsn (by decide) (fl_lsn (by decide) h0))) (fl_lsn (by decide) (fl_lsn (by decide) (fl_lsn (by decide) h2))) (fl_lsn (by decide) (fl_lsn (by decide) (fl_lsn (by decide) h3))) (fl_lsn (by decide) (fl_lsn (by decide) (fl_lsn (by decide) h4))) (fl_lsn (by decide) (fl_lsn (by decide) (fl_lsn (by decide) h5))) (fl_lsn (by decide) (fl_lsn (by decide) (fl_lsn (by decide) h6))) (fl_lsn (by decide) (fl_lsn (by decide) (fl_lsn (by decide) h7))) (fl_lsn (by decide) (fl_lsn (by decide) (fl_lsn (by decide) h8))) (fl_lsn (by decide) (fl_lse hl20)) (fl_lse hl21))))))) (fun hc19 => vt_aload_n rfl (fl_lsn (by decide) h0) rfl
 (vt_iload rfl (fl_lsn (by decide) h10)
 (vt_iload rfl (fl_lse hl18)
 (vt_iconst rfl
 (vt_isub rfl
 (vt_callV rfl rfl (fun _ => rfl) (fun m hm => vt_int ((w16.2 hc19) m hm) (fun x24 H22 w23 => vt_iload_n rfl (fl_lsn (by decide) h3)
 (vt_imul rfl
 (vt_goto rfl
 (vt_iadd rfl
 (vt_istoreA rfl (fun hl25 => vt_iincA rfl (fl_lsn (by decide) (fl_lsn (by decide) h10)) (fun hl26 => vt_gotoS rfl (fun m hm => (w23 m hm) _ (fl_lsn (by decide) (fl_lsn (by decide) (fl_lsn (by decide) h0))) (fl_lsn (by decide) (fl_lsn (by decide) (fl_lsn (by decide) h2))) (fl_lsn (by decide) (fl_lsn (by decide) (fl_lsn (by decide) h3))) (fl_lsn (by decide) (fl_lsn (by decide) (fl_lsn (by decide) h4))) (fl_lsn (by decide) (fl_lsn (by decide) (fl_lsn (by decide) h5))) (fl_lsn (by decide) (fl_lsn (by decide) (fl_lsn (by decide) h6))) (fl_lsn (by decide) (fl_lsn (by decide) (fl_lsn (by decide) h7))) (fl_lsn (by decide) (fl_lsn (by decide) (fl_lsn (by decide) h8))) (fl_lsn (by decide) (fl_lse hl25)) (fl_lse hl26)))))))))))))))))))))))))))))
theorem ve_GoodsBookModel_squares_94 {X : Term} {xs : List Int32} {N : Nat} {H : fl_H} {a1 a2 : Int} {Q : Option Int → fl_H → Prop} (W : ∀ m, m < N → ck (cm_pg X xs) m cm_m148 [.index 94, fl_t a1] H (fun r H1 => ∃ x3, r = some x3 ∧ (((fl_w x3 = 0) → Q (some (-1)) H1) ∧ (¬ (fl_w x3 = 0) → (((-2) ≤ fl_w a2 ∧ fl_w a2 ≤ fl_w ((H1 95 1) - 1)) → (0 ≤ fl_w (10 + a1) ∧ fl_w (10 + a1) < 152 → (fl_w a2 = (-2) → ∀ m, m < N → ck (cm_pg X xs) m cm_m200 [.index 94, fl_t (H1 95 (fl_w (10 + a1)).toNat)] H1 (fun r H8 => ∃ x10, r = some x10 ∧ (Q (some x10) H8))) ∧ (¬ fl_w a2 = (-2) → ∀ m, m < N → ck (cm_pg X xs) m cm_m174 [.index 94] H1 (fun r H11 => ∃ x13, r = some x13 ∧ (hd_GoodsBookModel_squares_94_67 (cm_pg X xs) N H11 a2 (H1 95 (fl_w (10 + a1)).toNat) (-1) 0 x13 0 Q))))) ∧ (¬ ((-2) ≤ fl_w a2 ∧ fl_w a2 ≤ fl_w ((H1 95 1) - 1)) → Q (some (-1)) H1)))))  : ck (cm_pg X xs) N cm_m202 [.index 94, fl_t a1, fl_t a2] H Q :=
  vt_aload_n rfl rfl rfl
 (vt_iload_n rfl rfl
 (vt_callV rfl rfl (fun _ => rfl) (fun m hm => vt_int (W m hm) (fun x3 H1 w2 => vt_ifc rfl (fun hc4 => vt_iconst rfl
 (vt_ret rfl (w2.1 hc4))) (fun hc4 => vt_iload_n rfl rfl
 (vt_i2l rfl
 (vt_ldc2 (v := (-2)) rfl (by decide)
 (vt_aload_n rfl rfl rfl
 (vt_getr rfl rfl rfl
 (vt_iconst rfl
 (vt_ialdN 1 rfl rfl rfl
 (vt_iconst rfl
 (vt_isub rfl
 (vt_i2l rfl
 (vt_callS rfl rfl (fun _ => rfl) (fun _ _ => vt_sum (sm_in (fl_lrw _) (fl_lrl (by decide) (by decide)) (fl_lrw _))
 (vt_ifn rfl (fun hc5 => vt_aload_n rfl rfl rfl
 (vt_getr rfl rfl rfl
 (vt_bipush (v := 10) rfl (by decide)
 (vt_iload_n rfl rfl
 (vt_iadd rfl
 (vt_iald rfl rfl (fun hf6 => vt_istore_n rfl
 (vt_iload_n rfl rfl
 (vt_bipush (v := (-2)) rfl (by decide)
 (vt_icmpN rfl (fun hc7 => vt_iconst rfl
 (vt_istore rfl
 (vt_iconst rfl
 (vt_istore rfl
 (vt_aload_n rfl rfl rfl
 (vt_callV rfl rfl (fun _ => rfl) (fun m hm => vt_int (((((w2.2 hc4).1 hc5) hf6).2 hc7) m hm) (fun x13 H11 w12 => vt_istore rfl
 (vt_iconst rfl
 (vt_istore rfl
 (w12 _ rfl rfl rfl rfl rfl rfl rfl))))))))))) (fun hc7 => vt_aload_n rfl rfl rfl
 (vt_iload_n rfl rfl
 (vt_callV rfl rfl (fun _ => rfl) (fun m hm => vt_int (((((w2.2 hc4).1 hc5) hf6).1 hc7) m hm) (fun x10 H8 w9 => vt_ret rfl w9))))))))))))))) (fun hc5 => vt_iconst rfl
 (vt_ret rfl ((w2.2 hc4).2 hc5))))))))))))))))))))
def hd_GoodsBookModel_turned_94_7 (P : cm_G) (N : Nat) (H : fl_H) (a2 : Int) (a3 : Int) (a4 : Int) (Q : Option Int → fl_H → Prop) : Prop := ∀ lv : cm_Lv, cm_nth lv 0 = some (some (.index 94)) → cm_nth lv 2 = some (some (fl_t a2)) → cm_nth lv 3 = some (some (fl_t a3)) → cm_nth lv 4 = some (some (fl_t a4)) → vt P N cm_m201 7 lv [] H Q
theorem vh_GoodsBookModel_turned_94_7 {X : Term} {xs : List Int32} {N : Nat} {H : fl_H} {a2 : Int} {a3 : Int} {a4 : Int} {Q : Option Int → fl_H → Prop} (W : ((fl_w (H 95 1) ≤ fl_w a4) → Q (some a2) H) ∧ (¬ (fl_w (H 95 1) ≤ fl_w a4) → ∀ m, m < N → hd_GoodsBookModel_turned_94_7 (cm_pg X xs) m H ((3 * a2) + (fl_rem a3 3)) (fl_div a3 3) (a4 + 1) Q)) : hd_GoodsBookModel_turned_94_7 (cm_pg X xs) N H a2 a3 a4 Q :=
 fun lv h0 h2 h3 h4 =>
 vt_iload rfl h4
 (vt_aload_n rfl h0 rfl
 (vt_getr rfl rfl rfl
 (vt_iconst rfl
 (vt_ialdN 1 rfl rfl rfl
 (vt_icmp rfl (fun hc1 => vt_iload_n rfl h2
 (vt_ret rfl (W.1 hc1))) (fun hc1 => vt_iconst rfl
 (vt_iload_n rfl h2
 (vt_imul rfl
 (vt_iload_n rfl h3
 (vt_iconst rfl
 (vt_irem rfl
 (vt_iadd rfl
 (vt_istore_nA rfl (fun hl2 => vt_iload_n rfl (fl_lsn (by decide) h3)
 (vt_iconst rfl
 (vt_idiv rfl
 (vt_istore_nA rfl (fun hl3 => vt_iincA rfl (fl_lsn (by decide) (fl_lsn (by decide) h4)) (fun hl4 => vt_gotoS rfl (fun m hm => ((W.2 hc1) m hm) _ (fl_lsn (by decide) (fl_lsn (by decide) (fl_lsn (by decide) h0))) (fl_lsn (by decide) (fl_lsn (by decide) (fl_lse hl2))) (fl_lsn (by decide) (fl_lse hl3)) (fl_lse hl4)))))))))))))))))))))
theorem ve_GoodsBookModel_turned_94 {X : Term} {xs : List Int32} {N : Nat} {H : fl_H} {a1 : Int} {Q : Option Int → fl_H → Prop} (W : hd_GoodsBookModel_turned_94_7 (cm_pg X xs) N H 0 a1 0 Q)  : ck (cm_pg X xs) N cm_m201 [.index 94, fl_t a1] H Q :=
  vt_iconst rfl
 (vt_istore_n rfl
 (vt_iload_n rfl rfl
 (vt_istore_n rfl
 (vt_iconst rfl
 (vt_istore rfl
 (W _ rfl rfl rfl rfl))))))
def hd_GoodsBookModel_codes_94_4 (P : cm_G) (N : Nat) (H : fl_H) (a1 : Int) (a2 : Int) (Q : Option Int → fl_H → Prop) : Prop := ∀ lv : cm_Lv, cm_nth lv 0 = some (some (.index 94)) → cm_nth lv 1 = some (some (fl_t a1)) → cm_nth lv 2 = some (some (fl_t a2)) → vt P N cm_m174 4 lv [] H Q
theorem vh_GoodsBookModel_codes_94_4 {X : Term} {xs : List Int32} {N : Nat} {H : fl_H} {a1 : Int} {a2 : Int} {Q : Option Int → fl_H → Prop} (W : ((fl_w (H 95 1) ≤ fl_w a2) → Q (some a1) H) ∧ (¬ (fl_w (H 95 1) ≤ fl_w a2) → ∀ m, m < N → hd_GoodsBookModel_codes_94_4 (cm_pg X xs) m H (a1 * 3) (a2 + 1) Q)) : hd_GoodsBookModel_codes_94_4 (cm_pg X xs) N H a1 a2 Q :=
 fun lv h0 h1 h2 =>
 vt_iload_n rfl h2
 (vt_aload_n rfl h0 rfl
 (vt_getr rfl rfl rfl
 (vt_iconst rfl
 (vt_ialdN 1 rfl rfl rfl
 (vt_icmp rfl (fun hc1 => vt_iload_n rfl h1
 (vt_ret rfl (W.1 hc1))) (fun hc1 => vt_iload_n rfl h1
 (vt_iconst rfl
 (vt_imul rfl
 (vt_istore_nA rfl (fun hl2 => vt_iincA rfl (fl_lsn (by decide) h2) (fun hl3 => vt_gotoS rfl (fun m hm => ((W.2 hc1) m hm) _ (fl_lsn (by decide) (fl_lsn (by decide) h0)) (fl_lsn (by decide) (fl_lse hl2)) (fl_lse hl3)))))))))))))
theorem ve_GoodsBookModel_codes_94 {X : Term} {xs : List Int32} {N : Nat} {H : fl_H} {Q : Option Int → fl_H → Prop} (W : hd_GoodsBookModel_codes_94_4 (cm_pg X xs) N H 1 0 Q)  : ck (cm_pg X xs) N cm_m174 [.index 94] H Q :=
  vt_iconst rfl
 (vt_istore_n rfl
 (vt_iconst rfl
 (vt_istore_n rfl
 (W _ rfl rfl rfl))))
def hd_GoodsBookModel_priceFor_94_4 (P : cm_G) (N : Nat) (H : fl_H) (a1 : Int) (a2 : Int) (a3 : Int) (Q : Option Int → fl_H → Prop) : Prop := ∀ lv : cm_Lv, cm_nth lv 0 = some (some (.index 94)) → cm_nth lv 1 = some (some (fl_t a1)) → cm_nth lv 2 = some (some (fl_t a2)) → cm_nth lv 3 = some (some (fl_t a3)) → vt P N cm_m200 4 lv [] H Q
def hd_GoodsBookModel_priceFor_94_14 (P : cm_G) (N : Nat) (H : fl_H) (a1 : Int) (a2 : Int) (a4 : Int) (a5 : Int) (Q : Option Int → fl_H → Prop) : Prop := ∀ lv : cm_Lv, cm_nth lv 0 = some (some (.index 94)) → cm_nth lv 1 = some (some (fl_t a1)) → cm_nth lv 2 = some (some (fl_t a2)) → cm_nth lv 4 = some (some (fl_t a4)) → cm_nth lv 5 = some (some (fl_t a5)) → vt P N cm_m200 14 lv [] H Q
theorem vh_GoodsBookModel_priceFor_94_4 {X : Term} {xs : List Int32} {N : Nat} {H : fl_H} {a1 : Int} {a2 : Int} {a3 : Int} {Q : Option Int → fl_H → Prop} (W : ((fl_w a3 = 0) → Q (some a2) H) ∧ (¬ (fl_w a3 = 0) → hd_GoodsBookModel_priceFor_94_14 (cm_pg X xs) N H a1 a2 0 0 Q)) : hd_GoodsBookModel_priceFor_94_4 (cm_pg X xs) N H a1 a2 a3 Q :=
 fun lv h0 h1 h2 h3 =>
 vt_iload_n rfl h3
 (vt_ifc rfl (fun hc1 => vt_iload_n rfl h2
 (vt_ret rfl (W.1 hc1))) (fun hc1 => vt_iconst rfl
 (vt_istoreA rfl (fun hl2 => vt_iconst rfl
 (vt_istoreA rfl (fun hl3 => (W.2 hc1) _ (fl_lsn (by decide) (fl_lsn (by decide) h0)) (fl_lsn (by decide) (fl_lsn (by decide) h1)) (fl_lsn (by decide) (fl_lsn (by decide) h2)) (fl_lsn (by decide) (fl_lse hl2)) (fl_lse hl3)))))))
theorem vh_GoodsBookModel_priceFor_94_14 {X : Term} {xs : List Int32} {N : Nat} {H : fl_H} {a1 : Int} {a2 : Int} {a4 : Int} {a5 : Int} {Q : Option Int → fl_H → Prop} (W : ((fl_w (H 95 1) ≤ fl_w a5) → ((fl_w a4 ≤ 16) → ∀ m, m < N → hd_GoodsBookModel_priceFor_94_4 (cm_pg X xs) m H a1 (a2 + 0) 0 Q) ∧ (¬ (fl_w a4 ≤ 16) → ∀ m, m < N → hd_GoodsBookModel_priceFor_94_4 (cm_pg X xs) m H a1 (a2 + 1) 1 Q)) ∧ (¬ (fl_w (H 95 1) ≤ fl_w a5) → ∀ m, m < N → ck (cm_pg X xs) m cm_m199 [.index 94, fl_t a5, fl_t a1, fl_t a2] H (fun r H9 => ∃ x11, r = some x11 ∧ (((fl_w x11 ≤ 0) → ∀ m, m < N → hd_GoodsBookModel_priceFor_94_14 (cm_pg X xs) m H9 a1 a2 (a4 + 0) (a5 + 1) Q) ∧ (¬ (fl_w x11 ≤ 0) → ∀ m, m < N → ck (cm_pg X xs) m cm_m155 [.index 94, fl_t a5, fl_t (x11 - 1)] H9 (fun r H16 => ∃ x18, r = some x18 ∧ (∀ m, m < N → hd_GoodsBookModel_priceFor_94_14 (cm_pg X xs) m H16 a1 a2 (a4 + x18) (a5 + 1) Q))))))) : hd_GoodsBookModel_priceFor_94_14 (cm_pg X xs) N H a1 a2 a4 a5 Q :=
 fun lv h0 h1 h2 h4 h5 =>
 vt_iload rfl h5
 (vt_aload_n rfl h0 rfl
 (vt_getr rfl rfl rfl
 (vt_iconst rfl
 (vt_ialdN 1 rfl rfl rfl
 (vt_icmp rfl (fun hc1 => vt_iload rfl h4
 (vt_bipush (v := 16) rfl (by decide)
 (vt_icmp rfl (fun hc2 => vt_iconst rfl
 (vt_istore_nA rfl (fun hl3 => vt_iload_n rfl (fl_lsn (by decide) h2)
 (vt_iload_n rfl (fl_lse hl3)
 (vt_ifc (a := 0) rfl (fun _ => vt_iconst rfl
 (vt_iadd rfl
 (vt_istore_nA rfl (fun hl5 => vt_gotoS rfl (fun m hm => (((W.1 hc1).1 hc2) m hm) _ (fl_lsn (by decide) (fl_lsn (by decide) h0)) (fl_lsn (by decide) (fl_lsn (by decide) h1)) (fl_lse hl5) (fl_lsn (by decide) (fl_lse hl3))))))) (fun hc4 => by exact absurd (show (0 : Int) = 0 by decide) hc4)))))) (fun hc2 => vt_iconst rfl
 (vt_goto rfl
 (vt_istore_nA rfl (fun hl6 => vt_iload_n rfl (fl_lsn (by decide) h2)
 (vt_iload_n rfl (fl_lse hl6)
 (vt_ifc (a := 1) rfl (fun hc7 => by exact absurd (show (1 : Int) = 0 from hc7) (by decide)) (fun _ => vt_iconst rfl
 (vt_goto rfl
 (vt_iadd rfl
 (vt_istore_nA rfl (fun hl8 => vt_gotoS rfl (fun m hm => (((W.1 hc1).2 hc2) m hm) _ (fl_lsn (by decide) (fl_lsn (by decide) h0)) (fl_lsn (by decide) (fl_lsn (by decide) h1)) (fl_lse hl8) (fl_lsn (by decide) (fl_lse hl6))))))))))))))))) (fun hc1 => vt_aload_n rfl h0 rfl
 (vt_iload rfl h5
 (vt_iload_n rfl h1
 (vt_iload_n rfl h2
 (vt_callV rfl rfl (fun _ => rfl) (fun m hm => vt_int ((W.2 hc1) m hm) (fun x11 H9 w10 => vt_istoreA rfl (fun hl12 => vt_iload rfl (fl_lsn (by decide) h4)
 (vt_iload rfl (fl_lse hl12)
 (vt_ifc rfl (fun hc13 => vt_iconst rfl
 (vt_iadd rfl
 (vt_istoreA rfl (fun hl14 => vt_iincA rfl (fl_lsn (by decide) (fl_lsn (by decide) h5)) (fun hl15 => vt_gotoS rfl (fun m hm => ((w10.1 hc13) m hm) _ (fl_lsn (by decide) (fl_lsn (by decide) (fl_lsn (by decide) h0))) (fl_lsn (by decide) (fl_lsn (by decide) (fl_lsn (by decide) h1))) (fl_lsn (by decide) (fl_lsn (by decide) (fl_lsn (by decide) h2))) (fl_lsn (by decide) (fl_lse hl14)) (fl_lse hl15))))))) (fun hc13 => vt_aload_n rfl (fl_lsn (by decide) h0) rfl
 (vt_iload rfl (fl_lsn (by decide) h5)
 (vt_iload rfl (fl_lse hl12)
 (vt_iconst rfl
 (vt_isub rfl
 (vt_callV rfl rfl (fun _ => rfl) (fun m hm => vt_int ((w10.2 hc13) m hm) (fun x18 H16 w17 => vt_goto rfl
 (vt_iadd rfl
 (vt_istoreA rfl (fun hl19 => vt_iincA rfl (fl_lsn (by decide) (fl_lsn (by decide) h5)) (fun hl20 => vt_gotoS rfl (fun m hm => (w17 m hm) _ (fl_lsn (by decide) (fl_lsn (by decide) (fl_lsn (by decide) h0))) (fl_lsn (by decide) (fl_lsn (by decide) (fl_lsn (by decide) h1))) (fl_lsn (by decide) (fl_lsn (by decide) (fl_lsn (by decide) h2))) (fl_lsn (by decide) (fl_lse hl19)) (fl_lse hl20)))))))))))))))))))))))))))))
theorem ve_GoodsBookModel_priceFor_94 {X : Term} {xs : List Int32} {N : Nat} {H : fl_H} {a1 : Int} {Q : Option Int → fl_H → Prop} (W : hd_GoodsBookModel_priceFor_94_4 (cm_pg X xs) N H a1 0 1 Q)  : ck (cm_pg X xs) N cm_m200 [.index 94, fl_t a1] H Q :=
  vt_iconst rfl
 (vt_istore_n rfl
 (vt_iconst rfl
 (vt_istore_n rfl
 (W _ rfl rfl rfl rfl))))
def hd_GoodsBookModel_alone_94_9 (P : cm_G) (N : Nat) (H : fl_H) (a1 : Int) (a2 : Int) (a3 : Int) (a4 : Int) (a5 : Int) (a6 : Int) (Q : Option Int → fl_H → Prop) : Prop := ∀ lv : cm_Lv, cm_nth lv 0 = some (some (.index 94)) → cm_nth lv 1 = some (some (fl_t a1)) → cm_nth lv 2 = some (some (fl_t a2)) → cm_nth lv 3 = some (some (fl_t a3)) → cm_nth lv 4 = some (some (fl_t a4)) → cm_nth lv 5 = some (some (fl_t a5)) → cm_nth lv 6 = some (some (fl_t a6)) → vt P N cm_m199 9 lv [] H Q
theorem vh_GoodsBookModel_alone_94_9 {X : Term} {xs : List Int32} {N : Nat} {H : fl_H} {a1 : Int} {a2 : Int} {a3 : Int} {a4 : Int} {a5 : Int} {a6 : Int} {Q : Option Int → fl_H → Prop} (W : ((2 ≤ fl_w a6) → Q (some a4) H) ∧ (¬ (2 ≤ fl_w a6) → ∀ m, m < N → ck (cm_pg X xs) m cm_m154 [.index 94, fl_t a1, fl_t a6] H (fun r H2 => ∃ x4, r = some x4 ∧ (∀ m, m < N → ck (cm_pg X xs) m cm_m155 [.index 94, fl_t a1, fl_t a6] H2 (fun r H5 => ∃ x7, r = some x7 ∧ (((fl_w a4 ≤ 0) → ((fl_w a5 < fl_w ((x4 * a2) - (a3 * x7))) → ∀ m, m < N → hd_GoodsBookModel_alone_94_9 (cm_pg X xs) m H5 a1 a2 a3 (a6 + 1) ((x4 * a2) - (a3 * x7)) (a6 + 1) Q) ∧ (¬ (fl_w a5 < fl_w ((x4 * a2) - (a3 * x7))) → ∀ m, m < N → hd_GoodsBookModel_alone_94_9 (cm_pg X xs) m H5 a1 a2 a3 a4 a5 (a6 + 1) Q)) ∧ (¬ (fl_w a4 ≤ 0) → (fl_w ((x4 * a2) - (a3 * x7)) = fl_w a5 → ∀ m, m < N → ck (cm_pg X xs) m cm_m155 [.index 94, fl_t a1, fl_t a6] H5 (fun r H18 => ∃ x20, r = some x20 ∧ (∀ m, m < N → ck (cm_pg X xs) m cm_m155 [.index 94, fl_t a1, fl_t (a4 - 1)] H18 (fun r H21 => ∃ x23, r = some x23 ∧ (((fl_w x23 ≤ fl_w x20) → ((fl_w a5 < fl_w ((x4 * a2) - (a3 * x7))) → ∀ m, m < N → hd_GoodsBookModel_alone_94_9 (cm_pg X xs) m H21 a1 a2 a3 (a6 + 1) ((x4 * a2) - (a3 * x7)) (a6 + 1) Q) ∧ (¬ (fl_w a5 < fl_w ((x4 * a2) - (a3 * x7))) → ∀ m, m < N → hd_GoodsBookModel_alone_94_9 (cm_pg X xs) m H21 a1 a2 a3 a4 a5 (a6 + 1) Q)) ∧ (¬ (fl_w x23 ≤ fl_w x20) → ((fl_w a5 < fl_w ((x4 * a2) - (a3 * x7))) → ∀ m, m < N → hd_GoodsBookModel_alone_94_9 (cm_pg X xs) m H21 a1 a2 a3 (a6 + 1) ((x4 * a2) - (a3 * x7)) (a6 + 1) Q) ∧ (¬ (fl_w a5 < fl_w ((x4 * a2) - (a3 * x7))) → ∀ m, m < N → hd_GoodsBookModel_alone_94_9 (cm_pg X xs) m H21 a1 a2 a3 (a6 + 1) ((x4 * a2) - (a3 * x7)) (a6 + 1) Q))))))) ∧ (¬ fl_w ((x4 * a2) - (a3 * x7)) = fl_w a5 → ((fl_w a5 < fl_w ((x4 * a2) - (a3 * x7))) → ∀ m, m < N → hd_GoodsBookModel_alone_94_9 (cm_pg X xs) m H5 a1 a2 a3 (a6 + 1) ((x4 * a2) - (a3 * x7)) (a6 + 1) Q) ∧ (¬ (fl_w a5 < fl_w ((x4 * a2) - (a3 * x7))) → ∀ m, m < N → hd_GoodsBookModel_alone_94_9 (cm_pg X xs) m H5 a1 a2 a3 a4 a5 (a6 + 1) Q))))))))) : hd_GoodsBookModel_alone_94_9 (cm_pg X xs) N H a1 a2 a3 a4 a5 a6 Q :=
 fun lv h0 h1 h2 h3 h4 h5 h6 =>
 vt_iload rfl h6
 (vt_iconst rfl
 (vt_icmp rfl (fun hc1 => vt_iload rfl h4
 (vt_ret rfl (W.1 hc1))) (fun hc1 => vt_aload_n rfl h0 rfl
 (vt_iload_n rfl h1
 (vt_iload rfl h6
 (vt_callV rfl rfl (fun _ => rfl) (fun m hm => vt_int ((W.2 hc1) m hm) (fun x4 H2 w3 => vt_iload_n rfl h2
 (vt_imul rfl
 (vt_iload_n rfl h3
 (vt_aload_n rfl h0 rfl
 (vt_iload_n rfl h1
 (vt_iload rfl h6
 (vt_callV rfl rfl (fun _ => rfl) (fun m hm => vt_int (w3 m hm) (fun x7 H5 w6 => vt_imul rfl
 (vt_isub rfl
 (vt_istoreA rfl (fun hl8 => vt_iload rfl (fl_lsn (by decide) h4)
 (vt_ifc rfl (fun hc9 => vt_iconst rfl
 (vt_istoreA rfl (fun hl10 => vt_iload rfl (fl_lsn (by decide) (fl_lse hl8))
 (vt_iload rfl (fl_lsn (by decide) (fl_lsn (by decide) h5))
 (vt_icmp rfl (fun hc11 => vt_iload rfl (fl_lsn (by decide) (fl_lse hl8))
 (vt_istoreA rfl (fun hl12 => vt_iload rfl (fl_lsn (by decide) (fl_lsn (by decide) (fl_lsn (by decide) h6)))
 (vt_iconst rfl
 (vt_iadd rfl
 (vt_istoreA rfl (fun hl13 => vt_iincA rfl (fl_lsn (by decide) (fl_lsn (by decide) (fl_lsn (by decide) (fl_lsn (by decide) h6)))) (fun hl14 => vt_gotoS rfl (fun m hm => (((w6.1 hc9).1 hc11) m hm) _ (fl_lsn (by decide) (fl_lsn (by decide) (fl_lsn (by decide) (fl_lsn (by decide) (fl_lsn (by decide) h0))))) (fl_lsn (by decide) (fl_lsn (by decide) (fl_lsn (by decide) (fl_lsn (by decide) (fl_lsn (by decide) h1))))) (fl_lsn (by decide) (fl_lsn (by decide) (fl_lsn (by decide) (fl_lsn (by decide) (fl_lsn (by decide) h2))))) (fl_lsn (by decide) (fl_lsn (by decide) (fl_lsn (by decide) (fl_lsn (by decide) (fl_lsn (by decide) h3))))) (fl_lsn (by decide) (fl_lse hl13)) (fl_lsn (by decide) (fl_lsn (by decide) (fl_lse hl12))) (fl_lse hl14)))))))))) (fun hc11 => vt_iload rfl (fl_lse hl10)
 (vt_ifc (a := 0) rfl (fun _ => vt_iincA rfl (fl_lsn (by decide) (fl_lsn (by decide) h6)) (fun hl16 => vt_gotoS rfl (fun m hm => (((w6.1 hc9).2 hc11) m hm) _ (fl_lsn (by decide) (fl_lsn (by decide) (fl_lsn (by decide) h0))) (fl_lsn (by decide) (fl_lsn (by decide) (fl_lsn (by decide) h1))) (fl_lsn (by decide) (fl_lsn (by decide) (fl_lsn (by decide) h2))) (fl_lsn (by decide) (fl_lsn (by decide) (fl_lsn (by decide) h3))) (fl_lsn (by decide) (fl_lsn (by decide) (fl_lsn (by decide) h4))) (fl_lsn (by decide) (fl_lsn (by decide) (fl_lsn (by decide) h5))) (fl_lse hl16)))) (fun hc15 => by exact absurd (show (0 : Int) = 0 by decide) hc15)))))))) (fun hc9 => vt_iload rfl (fl_lse hl8)
 (vt_iload rfl (fl_lsn (by decide) h5)
 (vt_icmpN rfl (fun hc17 => vt_iconst rfl
 (vt_istoreA rfl (fun hl41 => vt_iload rfl (fl_lsn (by decide) (fl_lse hl8))
 (vt_iload rfl (fl_lsn (by decide) (fl_lsn (by decide) h5))
 (vt_icmp rfl (fun hc42 => vt_iload rfl (fl_lsn (by decide) (fl_lse hl8))
 (vt_istoreA rfl (fun hl43 => vt_iload rfl (fl_lsn (by decide) (fl_lsn (by decide) (fl_lsn (by decide) h6)))
 (vt_iconst rfl
 (vt_iadd rfl
 (vt_istoreA rfl (fun hl44 => vt_iincA rfl (fl_lsn (by decide) (fl_lsn (by decide) (fl_lsn (by decide) (fl_lsn (by decide) h6)))) (fun hl45 => vt_gotoS rfl (fun m hm => ((((w6.2 hc9).2 hc17).1 hc42) m hm) _ (fl_lsn (by decide) (fl_lsn (by decide) (fl_lsn (by decide) (fl_lsn (by decide) (fl_lsn (by decide) h0))))) (fl_lsn (by decide) (fl_lsn (by decide) (fl_lsn (by decide) (fl_lsn (by decide) (fl_lsn (by decide) h1))))) (fl_lsn (by decide) (fl_lsn (by decide) (fl_lsn (by decide) (fl_lsn (by decide) (fl_lsn (by decide) h2))))) (fl_lsn (by decide) (fl_lsn (by decide) (fl_lsn (by decide) (fl_lsn (by decide) (fl_lsn (by decide) h3))))) (fl_lsn (by decide) (fl_lse hl44)) (fl_lsn (by decide) (fl_lsn (by decide) (fl_lse hl43))) (fl_lse hl45)))))))))) (fun hc42 => vt_iload rfl (fl_lse hl41)
 (vt_ifc (a := 0) rfl (fun _ => vt_iincA rfl (fl_lsn (by decide) (fl_lsn (by decide) h6)) (fun hl47 => vt_gotoS rfl (fun m hm => ((((w6.2 hc9).2 hc17).2 hc42) m hm) _ (fl_lsn (by decide) (fl_lsn (by decide) (fl_lsn (by decide) h0))) (fl_lsn (by decide) (fl_lsn (by decide) (fl_lsn (by decide) h1))) (fl_lsn (by decide) (fl_lsn (by decide) (fl_lsn (by decide) h2))) (fl_lsn (by decide) (fl_lsn (by decide) (fl_lsn (by decide) h3))) (fl_lsn (by decide) (fl_lsn (by decide) (fl_lsn (by decide) h4))) (fl_lsn (by decide) (fl_lsn (by decide) (fl_lsn (by decide) h5))) (fl_lse hl47)))) (fun hc46 => by exact absurd (show (0 : Int) = 0 by decide) hc46)))))))) (fun hc17 => vt_aload_n rfl (fl_lsn (by decide) h0) rfl
 (vt_iload_n rfl (fl_lsn (by decide) h1)
 (vt_iload rfl (fl_lsn (by decide) h6)
 (vt_callV rfl rfl (fun _ => rfl) (fun m hm => vt_int (((w6.2 hc9).1 hc17) m hm) (fun x20 H18 w19 => vt_aload_n rfl (fl_lsn (by decide) h0) rfl
 (vt_iload_n rfl (fl_lsn (by decide) h1)
 (vt_iload rfl (fl_lsn (by decide) h4)
 (vt_iconst rfl
 (vt_isub rfl
 (vt_callV rfl rfl (fun _ => rfl) (fun m hm => vt_int (w19 m hm) (fun x23 H21 w22 => vt_icmp rfl (fun hc24 => vt_iconst rfl
 (vt_istoreA rfl (fun hl25 => vt_iload rfl (fl_lsn (by decide) (fl_lse hl8))
 (vt_iload rfl (fl_lsn (by decide) (fl_lsn (by decide) h5))
 (vt_icmp rfl (fun hc26 => vt_iload rfl (fl_lsn (by decide) (fl_lse hl8))
 (vt_istoreA rfl (fun hl27 => vt_iload rfl (fl_lsn (by decide) (fl_lsn (by decide) (fl_lsn (by decide) h6)))
 (vt_iconst rfl
 (vt_iadd rfl
 (vt_istoreA rfl (fun hl28 => vt_iincA rfl (fl_lsn (by decide) (fl_lsn (by decide) (fl_lsn (by decide) (fl_lsn (by decide) h6)))) (fun hl29 => vt_gotoS rfl (fun m hm => (((w22.1 hc24).1 hc26) m hm) _ (fl_lsn (by decide) (fl_lsn (by decide) (fl_lsn (by decide) (fl_lsn (by decide) (fl_lsn (by decide) h0))))) (fl_lsn (by decide) (fl_lsn (by decide) (fl_lsn (by decide) (fl_lsn (by decide) (fl_lsn (by decide) h1))))) (fl_lsn (by decide) (fl_lsn (by decide) (fl_lsn (by decide) (fl_lsn (by decide) (fl_lsn (by decide) h2))))) (fl_lsn (by decide) (fl_lsn (by decide) (fl_lsn (by decide) (fl_lsn (by decide) (fl_lsn (by decide) h3))))) (fl_lsn (by decide) (fl_lse hl28)) (fl_lsn (by decide) (fl_lsn (by decide) (fl_lse hl27))) (fl_lse hl29)))))))))) (fun hc26 => vt_iload rfl (fl_lse hl25)
 (vt_ifc (a := 0) rfl (fun _ => vt_iincA rfl (fl_lsn (by decide) (fl_lsn (by decide) h6)) (fun hl31 => vt_gotoS rfl (fun m hm => (((w22.1 hc24).2 hc26) m hm) _ (fl_lsn (by decide) (fl_lsn (by decide) (fl_lsn (by decide) h0))) (fl_lsn (by decide) (fl_lsn (by decide) (fl_lsn (by decide) h1))) (fl_lsn (by decide) (fl_lsn (by decide) (fl_lsn (by decide) h2))) (fl_lsn (by decide) (fl_lsn (by decide) (fl_lsn (by decide) h3))) (fl_lsn (by decide) (fl_lsn (by decide) (fl_lsn (by decide) h4))) (fl_lsn (by decide) (fl_lsn (by decide) (fl_lsn (by decide) h5))) (fl_lse hl31)))) (fun hc30 => by exact absurd (show (0 : Int) = 0 by decide) hc30)))))))) (fun hc24 => vt_iconst rfl
 (vt_goto rfl
 (vt_istoreA rfl (fun hl32 => vt_iload rfl (fl_lsn (by decide) (fl_lse hl8))
 (vt_iload rfl (fl_lsn (by decide) (fl_lsn (by decide) h5))
 (vt_icmp rfl (fun hc33 => vt_iload rfl (fl_lsn (by decide) (fl_lse hl8))
 (vt_istoreA rfl (fun hl34 => vt_iload rfl (fl_lsn (by decide) (fl_lsn (by decide) (fl_lsn (by decide) h6)))
 (vt_iconst rfl
 (vt_iadd rfl
 (vt_istoreA rfl (fun hl35 => vt_iincA rfl (fl_lsn (by decide) (fl_lsn (by decide) (fl_lsn (by decide) (fl_lsn (by decide) h6)))) (fun hl36 => vt_gotoS rfl (fun m hm => (((w22.2 hc24).1 hc33) m hm) _ (fl_lsn (by decide) (fl_lsn (by decide) (fl_lsn (by decide) (fl_lsn (by decide) (fl_lsn (by decide) h0))))) (fl_lsn (by decide) (fl_lsn (by decide) (fl_lsn (by decide) (fl_lsn (by decide) (fl_lsn (by decide) h1))))) (fl_lsn (by decide) (fl_lsn (by decide) (fl_lsn (by decide) (fl_lsn (by decide) (fl_lsn (by decide) h2))))) (fl_lsn (by decide) (fl_lsn (by decide) (fl_lsn (by decide) (fl_lsn (by decide) (fl_lsn (by decide) h3))))) (fl_lsn (by decide) (fl_lse hl35)) (fl_lsn (by decide) (fl_lsn (by decide) (fl_lse hl34))) (fl_lse hl36)))))))))) (fun hc33 => vt_iload rfl (fl_lse hl32)
 (vt_ifc (a := 1) rfl (fun hc37 => by exact absurd (show (1 : Int) = 0 from hc37) (by decide)) (fun _ => vt_iload rfl (fl_lsn (by decide) (fl_lse hl8))
 (vt_istoreA rfl (fun hl38 => vt_iload rfl (fl_lsn (by decide) (fl_lsn (by decide) (fl_lsn (by decide) h6)))
 (vt_iconst rfl
 (vt_iadd rfl
 (vt_istoreA rfl (fun hl39 => vt_iincA rfl (fl_lsn (by decide) (fl_lsn (by decide) (fl_lsn (by decide) (fl_lsn (by decide) h6)))) (fun hl40 => vt_gotoS rfl (fun m hm => (((w22.2 hc24).2 hc33) m hm) _ (fl_lsn (by decide) (fl_lsn (by decide) (fl_lsn (by decide) (fl_lsn (by decide) (fl_lsn (by decide) h0))))) (fl_lsn (by decide) (fl_lsn (by decide) (fl_lsn (by decide) (fl_lsn (by decide) (fl_lsn (by decide) h1))))) (fl_lsn (by decide) (fl_lsn (by decide) (fl_lsn (by decide) (fl_lsn (by decide) (fl_lsn (by decide) h2))))) (fl_lsn (by decide) (fl_lsn (by decide) (fl_lsn (by decide) (fl_lsn (by decide) (fl_lsn (by decide) h3))))) (fl_lsn (by decide) (fl_lse hl39)) (fl_lsn (by decide) (fl_lsn (by decide) (fl_lse hl38))) (fl_lse hl40))))))))))))))))))))))))))))))))))))))))))))))))))))))
theorem ve_GoodsBookModel_alone_94 {X : Term} {xs : List Int32} {N : Nat} {H : fl_H} {a1 a2 a3 : Int} {Q : Option Int → fl_H → Prop} (W : hd_GoodsBookModel_alone_94_9 (cm_pg X xs) N H a1 a2 a3 0 0 0 Q)  : ck (cm_pg X xs) N cm_m199 [.index 94, fl_t a1, fl_t a2, fl_t a3] H Q :=
  vt_iconst rfl
 (vt_istore rfl
 (vt_iconst rfl
 (vt_istore rfl
 (vt_iconst rfl
 (vt_istore rfl
 (W _ rfl rfl rfl rfl rfl rfl rfl))))))
end
