noncomputable section
/-! L3: runs of methods between cuts. -/
theorem ve_Sheets_clear_60 {X : Term} {xs : List Int32} {N : Nat} {H : fl_H} {a1 : Int} {Q : Option Int → fl_H → Prop} (W : ∀ m, m < N → ck (cm_pg X xs) m cm_m73 [fl_t a1, fl_t 0] H (fun r H1 => ∃ x3, r = some x3 ∧ ((fl_w x3 = 0 → Q (some (-1)) H1) ∧ (¬ fl_w x3 = 0 → (0 ≤ fl_w a1 ∧ fl_w a1 < 4 → (fl_w (H1 61 (fl_w a1).toNat) = (-1) → Q (some (-11)) H1) ∧ (¬ fl_w (H1 61 (fl_w a1).toNat) = (-1) → (0 ≤ fl_w a1 ∧ fl_w a1 < 4 → ∀ H7, H7 = fl_up H1 61 (fl_w a1).toNat (-1) → (0 ≤ fl_w a1 ∧ fl_w a1 < 4 → Q (some (H7 62 (fl_w a1).toNat)) H7))))))))  : ck (cm_pg X xs) N cm_m69 [.index 60, fl_t a1] H Q :=
  vt_iload_n rfl rfl
 (vt_iconst rfl
 (vt_callS rfl rfl (fun _ => rfl) (fun m hm => vt_int (W m hm) (fun x3 H1 w2 => vt_ifcN rfl (fun hc4 => vt_aload_n rfl rfl rfl
 (vt_getr rfl rfl rfl
 (vt_iload_n rfl rfl
 (vt_iald rfl rfl (fun hf5 => vt_iconst rfl
 (vt_icmpN rfl (fun hc6 => vt_aload_n rfl rfl rfl
 (vt_getr rfl rfl rfl
 (vt_iload_n rfl rfl
 (vt_iconst rfl
 (vt_iast rfl rfl (fun hf9 => vt_nm (fun H7 e8 => vt_aload_n rfl rfl rfl
 (vt_getr rfl rfl rfl
 (vt_iload_n rfl rfl
 (vt_iald rfl rfl (fun hf10 => vt_ret rfl (((((w2.2 hc4) hf5).2 hc6) hf9 H7 e8) hf10)))))))))))) (fun hc6 => vt_bipush (v := (-11)) rfl (by decide)
 (vt_ret rfl (((w2.2 hc4) hf5).1 hc6))))))))) (fun hc4 => vt_iconst rfl
 (vt_ret rfl (w2.1 hc4)))))))
theorem ve_GoodsBook_sheet_0 {X : Term} {xs : List Int32} {N : Nat} {H : fl_H} {a1 a2 a3 : Int} {Q : Option Int → fl_H → Prop} (W : ∀ m, m < N → ck (cm_pg X xs) m cm_m68 [.index 60, fl_t a1, fl_t a2, fl_t a3] H (fun r H1 => ∃ x3, r = some x3 ∧ (Q (some x3) H1)))  : ck (cm_pg X xs) N cm_m132 [.index 0, fl_t a1, fl_t a2, fl_t a3] H Q :=
  vt_aload_n rfl rfl rfl
 (vt_getr rfl rfl rfl
 (vt_iload_n rfl rfl
 (vt_iload_n rfl rfl
 (vt_iload_n rfl rfl
 (vt_callV rfl rfl (fun _ => rfl) (fun m hm => vt_int (W m hm) (fun x3 H1 w2 => vt_ret rfl w2)))))))
def hd_Sheets_renew_60_40 (P : cm_G) (N : Nat) (H : fl_H) (a1 : Int) (a3 : Int) (a4 : Int) (Q : Option Int → fl_H → Prop) : Prop := ∀ lv : cm_Lv, cm_nth lv 0 = some (some (.index 60)) → cm_nth lv 1 = some (some (fl_t a1)) → cm_nth lv 3 = some (some (fl_t a3)) → cm_nth lv 4 = some (some (fl_t a4)) → vt P N cm_m68 40 lv [] H Q
theorem vh_Sheets_renew_60_40 {X : Term} {xs : List Int32} {N : Nat} {H : fl_H} {a1 : Int} {a3 : Int} {a4 : Int} {Q : Option Int → fl_H → Prop} (W : ((16 ≤ fl_w a4) → Q (some a3) H) ∧ (¬ (16 ≤ fl_w a4) → (0 ≤ fl_w ((a1 * 16) + a4) ∧ fl_w ((a1 * 16) + a4) < 64 → ∀ H2, H2 = fl_up H 63 (fl_w ((a1 * 16) + a4)).toNat 0 → ∀ m, m < N → hd_Sheets_renew_60_40 (cm_pg X xs) m H2 a1 a3 (a4 + 1) Q))) : hd_Sheets_renew_60_40 (cm_pg X xs) N H a1 a3 a4 Q :=
 fun lv h0 h1 h3 h4 =>
 vt_iload rfl h4
 (vt_bipush (v := 16) rfl (by decide)
 (vt_icmp rfl (fun hc1 => vt_iload_n rfl h3
 (vt_ret rfl (W.1 hc1))) (fun hc1 => vt_aload_n rfl h0 rfl
 (vt_getr rfl rfl rfl
 (vt_iload_n rfl h1
 (vt_bipush (v := 16) rfl (by decide)
 (vt_imul rfl
 (vt_iload rfl h4
 (vt_iadd rfl
 (vt_iconst rfl
 (vt_iast rfl rfl (fun hf4 => vt_nm (fun H2 e3 => vt_iincA rfl h4 (fun hl5 => vt_gotoS rfl (fun m hm => (((W.2 hc1) hf4 H2 e3) m hm) _ (fl_lsn (by decide) h0) (fl_lsn (by decide) h1) (fl_lsn (by decide) h3) (fl_lse hl5))))))))))))))))
theorem ve_Sheets_renew_60 {X : Term} {xs : List Int32} {N : Nat} {H : fl_H} {a1 a2 a3 : Int} {Q : Option Int → fl_H → Prop} (W : ∀ m, m < N → ck (cm_pg X xs) m cm_m73 [fl_t a1, fl_t a2] H (fun r H1 => ∃ x3, r = some x3 ∧ (((fl_w x3 = 0) → Q (some (-1)) H1) ∧ (¬ (fl_w x3 = 0) → ((fl_w a3 ≤ 16) → ((0 ≤ fl_w a3) → (0 ≤ fl_w a1 ∧ fl_w a1 < 4 → ∀ H7, H7 = fl_up H1 61 (fl_w a1).toNat a2 → (0 ≤ fl_w a1 ∧ fl_w a1 < 4 → ∀ H10, H10 = fl_up H7 62 (fl_w a1).toNat a3 → hd_Sheets_renew_60_40 (cm_pg X xs) N H10 a1 a3 0 Q))) ∧ (¬ (0 ≤ fl_w a3) → Q (some (-14)) H1)) ∧ (¬ (fl_w a3 ≤ 16) → Q (some (-1)) H1)))))  : ck (cm_pg X xs) N cm_m68 [.index 60, fl_t a1, fl_t a2, fl_t a3] H Q :=
  vt_iload_n rfl rfl
 (vt_iload_n rfl rfl
 (vt_callS rfl rfl (fun _ => rfl) (fun m hm => vt_int (W m hm) (fun x3 H1 w2 => vt_ifc rfl (fun hc4 => vt_iconst rfl
 (vt_ret rfl (w2.1 hc4))) (fun hc4 => vt_iload_n rfl rfl
 (vt_bipush (v := 16) rfl (by decide)
 (vt_icmp rfl (fun hc5 => vt_iload_n rfl rfl
 (vt_ifc rfl (fun hc6 => vt_aload_n rfl rfl rfl
 (vt_getr rfl rfl rfl
 (vt_iload_n rfl rfl
 (vt_iload_n rfl rfl
 (vt_iast rfl rfl (fun hf9 => vt_nm (fun H7 e8 => vt_aload_n rfl rfl rfl
 (vt_getr rfl rfl rfl
 (vt_iload_n rfl rfl
 (vt_iload_n rfl rfl
 (vt_iast rfl rfl (fun hf12 => vt_nm (fun H10 e11 => vt_iconst rfl
 (vt_istore rfl
 ((((((w2.2 hc4).1 hc5).1 hc6) hf9 H7 e8) hf12 H10 e11) _ rfl rfl rfl rfl))))))))))))))) (fun hc6 => vt_bipush (v := (-14)) rfl (by decide)
 (vt_ret rfl (((w2.2 hc4).1 hc5).2 hc6))))) (fun hc5 => vt_iconst rfl
 (vt_ret rfl ((w2.2 hc4).2 hc5))))))))))
theorem ve_GoodsBook_restore_0 {X : Term} {xs : List Int32} {N : Nat} {H : fl_H} {Q : Option Int → fl_H → Prop} (W : (fl_w (H 0 3) = 0 → Q (some (-4)) H) ∧ (¬ fl_w (H 0 3) = 0 → ∀ m, m < N → ck (cm_pg X xs) m cm_m11 [.index 1, .index 39] H (fun r H2 => r = none ∧ (∀ m, m < N → ck (cm_pg X xs) m cm_m140 [.index 0] H2 (fun r H4 => r = none ∧ (Q (some 1) H4))))))  : ck (cm_pg X xs) N cm_m131 [.index 0] H Q :=
  vt_aload_n rfl rfl rfl
 (vt_getf rfl rfl rfl
 (vt_ifcN rfl (fun hc1 => vt_aload_n rfl rfl rfl
 (vt_getr rfl rfl rfl
 (vt_aload_n rfl rfl rfl
 (vt_getr rfl rfl rfl
 (vt_callV rfl rfl (fun _ => rfl) (fun m hm => vt_void ((W.2 hc1) m hm) (fun H2 w3 => vt_aload_n rfl rfl rfl
 (vt_callV rfl rfl (fun _ => rfl) (fun m hm => vt_void (w3 m hm) (fun H4 w5 => vt_iconst rfl
 (vt_ret rfl w5))))))))))) (fun hc1 => vt_bipush (v := (-4)) rfl (by decide)
 (vt_ret rfl (W.1 hc1)))))
theorem ve_GoodsBook_forgetSizes_0 {X : Term} {xs : List Int32} {N : Nat} {H : fl_H} {Q : Option Int → fl_H → Prop} (W : ∀ m, m < N → ck (cm_pg X xs) m cm_m31 [.index 64] H (fun r H1 => r = none ∧ (∀ m, m < N → ck (cm_pg X xs) m cm_m141 [.index 0] H1 (fun r H3 => r = none ∧ (Q none H3)))))  : ck (cm_pg X xs) N cm_m140 [.index 0] H Q :=
  vt_aload_n rfl rfl rfl
 (vt_getr rfl rfl rfl
 (vt_callV rfl rfl (fun _ => rfl) (fun m hm => vt_void (W m hm) (fun H1 w2 => vt_aload_n rfl rfl rfl
 (vt_callV rfl rfl (fun _ => rfl) (fun m hm => vt_void (w2 m hm) (fun H3 w4 => vt_retv rfl w4)))))))
theorem ve_GoodsBook_forgetAnswers_0 {X : Term} {xs : List Int32} {N : Nat} {H : fl_H} {Q : Option Int → fl_H → Prop} (W : ∀ H1, H1 = fl_up H 88 0 0 → (∀ m, m < N → ck (cm_pg X xs) m cm_m142 [.index 0] H1 (fun r H3 => r = none ∧ (Q none H3))))  : ck (cm_pg X xs) N cm_m141 [.index 0] H Q :=
  vt_aload_n rfl rfl rfl
 (vt_getr rfl rfl rfl
 (vt_iconst rfl
 (vt_putf rfl rfl rfl (vt_nm (fun H1 e2 => vt_aload_n rfl rfl rfl
 (vt_callV rfl rfl (fun _ => rfl) (fun m hm => vt_void ((W H1 e2) m hm) (fun H3 w4 => vt_retv rfl w4))))))))
theorem ve_GoodsBook_forgetPlanAnswers_0 {X : Term} {xs : List Int32} {N : Nat} {H : fl_H} {Q : Option Int → fl_H → Prop} (W : ∀ H1, H1 = fl_up H 90 0 0 → (∀ H3, H3 = fl_up H1 0 14 (-1) → (Q none H3)))  : ck (cm_pg X xs) N cm_m142 [.index 0] H Q :=
  vt_aload_n rfl rfl rfl
 (vt_getr rfl rfl rfl
 (vt_iconst rfl
 (vt_putf rfl rfl rfl (vt_nm (fun H1 e2 => vt_aload_n rfl rfl rfl
 (vt_iconst rfl
 (vt_putf rfl rfl rfl (vt_nm (fun H3 e4 => vt_retv rfl ((W H1 e2) H3 e4))))))))))
theorem ve_Floor_forget_64 {X : Term} {xs : List Int32} {N : Nat} {H : fl_H} {Q : Option Int → fl_H → Prop} (W : ∀ H1, H1 = fl_up H 64 5 0 → (Q none H1))  : ck (cm_pg X xs) N cm_m31 [.index 64] H Q :=
  vt_aload_n rfl rfl rfl
 (vt_iconst rfl
 (vt_putf rfl rfl rfl (vt_nm (fun H1 e2 => vt_retv rfl (W H1 e2)))))
theorem ve_Book_become_1_39 {X : Term} {xs : List Int32} {N : Nat} {H : fl_H} {Q : Option Int → fl_H → Prop} (W : ∀ H1, H1 = fl_up H 1 0 (H 39 0) → (∀ H3, H3 = fl_cp H1 40 2 3 → (∀ m, m < N → ck (cm_pg X xs) m cm_m47 [.index 3, .index 41] H3 (fun r H5 => r = none ∧ (∀ m, m < N → ck (cm_pg X xs) m cm_m6 [.index 9, .index 47] H5 (fun r H7 => r = none ∧ (∀ m, m < N → ck (cm_pg X xs) m cm_m98 [.index 14, .index 52] H7 (fun r H9 => r = none ∧ (∀ H11, H11 = fl_cp H9 56 18 3 → (∀ H13, H13 = fl_cp H11 57 19 6 → (Q none H13)))))))))))  : ck (cm_pg X xs) N cm_m11 [.index 1, .index 39] H Q :=
  vt_aload_n rfl rfl rfl
 (vt_aload_n rfl rfl rfl
 (vt_getf rfl rfl rfl
 (vt_putf rfl rfl rfl (vt_nm (fun H1 e2 => vt_aload_n rfl rfl rfl
 (vt_getr rfl rfl rfl
 (vt_iconst rfl
 (vt_aload_n rfl rfl rfl
 (vt_getr rfl rfl rfl
 (vt_iconst rfl
 (vt_iconst rfl
 (vt_copy (n := 3) rfl rfl rfl rfl rfl rfl (vt_nm (fun H3 e4 => vt_aload_n rfl rfl rfl
 (vt_getr rfl rfl rfl
 (vt_aload_n rfl rfl rfl
 (vt_getr rfl rfl rfl
 (vt_callV rfl rfl (fun _ => rfl) (fun m hm => vt_void (((W H1 e2) H3 e4) m hm) (fun H5 w6 => vt_aload_n rfl rfl rfl
 (vt_getr rfl rfl rfl
 (vt_aload_n rfl rfl rfl
 (vt_getr rfl rfl rfl
 (vt_callV rfl rfl (fun _ => rfl) (fun m hm => vt_void (w6 m hm) (fun H7 w8 => vt_aload_n rfl rfl rfl
 (vt_getr rfl rfl rfl
 (vt_aload_n rfl rfl rfl
 (vt_getr rfl rfl rfl
 (vt_callV rfl rfl (fun _ => rfl) (fun m hm => vt_void (w8 m hm) (fun H9 w10 => vt_aload_n rfl rfl rfl
 (vt_getr rfl rfl rfl
 (vt_iconst rfl
 (vt_aload_n rfl rfl rfl
 (vt_getr rfl rfl rfl
 (vt_iconst rfl
 (vt_aload_n rfl rfl rfl
 (vt_getr rfl rfl rfl
 (vt_alen (n := 3) rfl rfl
 (vt_copy (n := 3) rfl rfl rfl rfl rfl rfl (vt_nm (fun H11 e12 => vt_aload_n rfl rfl rfl
 (vt_getr rfl rfl rfl
 (vt_iconst rfl
 (vt_aload_n rfl rfl rfl
 (vt_getr rfl rfl rfl
 (vt_iconst rfl
 (vt_bipush (v := 6) rfl (by decide)
 (vt_copy (n := 6) rfl rfl rfl rfl rfl rfl (vt_nm (fun H13 e14 => vt_retv rfl ((w10 H11 e12) H13 e14)))))))))))))))))))))))))))))))))))))))))))))))))))))
theorem ve_Years_become_14_52 {X : Term} {xs : List Int32} {N : Nat} {H : fl_H} {Q : Option Int → fl_H → Prop} (W : ∀ H1, H1 = fl_up H 14 0 (H 52 0) → (∀ H3, H3 = fl_cp H1 53 15 12 → (∀ H5, H5 = fl_cp H3 54 16 12 → (∀ H7, H7 = fl_cp H5 55 17 12 → (Q none H7)))))  : ck (cm_pg X xs) N cm_m98 [.index 14, .index 52] H Q :=
  vt_aload_n rfl rfl rfl
 (vt_aload_n rfl rfl rfl
 (vt_getf rfl rfl rfl
 (vt_putf rfl rfl rfl (vt_nm (fun H1 e2 => vt_aload_n rfl rfl rfl
 (vt_getr rfl rfl rfl
 (vt_iconst rfl
 (vt_aload_n rfl rfl rfl
 (vt_getr rfl rfl rfl
 (vt_iconst rfl
 (vt_bipush (v := 12) rfl (by decide)
 (vt_copy (n := 12) rfl rfl rfl rfl rfl rfl (vt_nm (fun H3 e4 => vt_aload_n rfl rfl rfl
 (vt_getr rfl rfl rfl
 (vt_iconst rfl
 (vt_aload_n rfl rfl rfl
 (vt_getr rfl rfl rfl
 (vt_iconst rfl
 (vt_bipush (v := 12) rfl (by decide)
 (vt_copy (n := 12) rfl rfl rfl rfl rfl rfl (vt_nm (fun H5 e6 => vt_aload_n rfl rfl rfl
 (vt_getr rfl rfl rfl
 (vt_iconst rfl
 (vt_aload_n rfl rfl rfl
 (vt_getr rfl rfl rfl
 (vt_iconst rfl
 (vt_bipush (v := 12) rfl (by decide)
 (vt_copy (n := 12) rfl rfl rfl rfl rfl rfl (vt_nm (fun H7 e8 => vt_retv rfl ((((W H1 e2) H3 e4) H5 e6) H7 e8)))))))))))))))))))))))))))))))))
theorem ve_Bonds_become_9_47 {X : Term} {xs : List Int32} {N : Nat} {H : fl_H} {Q : Option Int → fl_H → Prop} (W : ∀ H1, H1 = fl_up H 9 0 (H 47 0) → (∀ H3, H3 = fl_cp H1 48 10 12 → (∀ H5, H5 = fl_cp H3 49 11 12 → (∀ H7, H7 = fl_cp H5 50 12 12 → (∀ H9, H9 = fl_cp H7 51 13 12 → (Q none H9))))))  : ck (cm_pg X xs) N cm_m6 [.index 9, .index 47] H Q :=
  vt_aload_n rfl rfl rfl
 (vt_aload_n rfl rfl rfl
 (vt_getf rfl rfl rfl
 (vt_putf rfl rfl rfl (vt_nm (fun H1 e2 => vt_aload_n rfl rfl rfl
 (vt_getr rfl rfl rfl
 (vt_iconst rfl
 (vt_aload_n rfl rfl rfl
 (vt_getr rfl rfl rfl
 (vt_iconst rfl
 (vt_bipush (v := 12) rfl (by decide)
 (vt_copy (n := 12) rfl rfl rfl rfl rfl rfl (vt_nm (fun H3 e4 => vt_aload_n rfl rfl rfl
 (vt_getr rfl rfl rfl
 (vt_iconst rfl
 (vt_aload_n rfl rfl rfl
 (vt_getr rfl rfl rfl
 (vt_iconst rfl
 (vt_bipush (v := 12) rfl (by decide)
 (vt_copy (n := 12) rfl rfl rfl rfl rfl rfl (vt_nm (fun H5 e6 => vt_aload_n rfl rfl rfl
 (vt_getr rfl rfl rfl
 (vt_iconst rfl
 (vt_aload_n rfl rfl rfl
 (vt_getr rfl rfl rfl
 (vt_iconst rfl
 (vt_bipush (v := 12) rfl (by decide)
 (vt_copy (n := 12) rfl rfl rfl rfl rfl rfl (vt_nm (fun H7 e8 => vt_aload_n rfl rfl rfl
 (vt_getr rfl rfl rfl
 (vt_iconst rfl
 (vt_aload_n rfl rfl rfl
 (vt_getr rfl rfl rfl
 (vt_iconst rfl
 (vt_bipush (v := 12) rfl (by decide)
 (vt_copy (n := 12) rfl rfl rfl rfl rfl rfl (vt_nm (fun H9 e10 => vt_retv rfl (((((W H1 e2) H3 e4) H5 e6) H7 e8) H9 e10))))))))))))))))))))))))))))))))))))))))))
theorem ve_Goods_become_3_41 {X : Term} {xs : List Int32} {N : Nat} {H : fl_H} {Q : Option Int → fl_H → Prop} (W : ∀ H1, H1 = fl_up H 3 0 (H 41 0) → (∀ H3, H3 = fl_cp H1 42 4 6 → (∀ H5, H5 = fl_cp H3 43 5 6 → (∀ H7, H7 = fl_cp H5 44 6 12 → (∀ H9, H9 = fl_cp H7 45 7 12 → (∀ H11, H11 = fl_cp H9 46 8 12 → (Q none H11)))))))  : ck (cm_pg X xs) N cm_m47 [.index 3, .index 41] H Q :=
  vt_aload_n rfl rfl rfl
 (vt_aload_n rfl rfl rfl
 (vt_getf rfl rfl rfl
 (vt_putf rfl rfl rfl (vt_nm (fun H1 e2 => vt_aload_n rfl rfl rfl
 (vt_getr rfl rfl rfl
 (vt_iconst rfl
 (vt_aload_n rfl rfl rfl
 (vt_getr rfl rfl rfl
 (vt_iconst rfl
 (vt_bipush (v := 6) rfl (by decide)
 (vt_copy (n := 6) rfl rfl rfl rfl rfl rfl (vt_nm (fun H3 e4 => vt_aload_n rfl rfl rfl
 (vt_getr rfl rfl rfl
 (vt_iconst rfl
 (vt_aload_n rfl rfl rfl
 (vt_getr rfl rfl rfl
 (vt_iconst rfl
 (vt_bipush (v := 6) rfl (by decide)
 (vt_copy (n := 6) rfl rfl rfl rfl rfl rfl (vt_nm (fun H5 e6 => vt_aload_n rfl rfl rfl
 (vt_getr rfl rfl rfl
 (vt_iconst rfl
 (vt_aload_n rfl rfl rfl
 (vt_getr rfl rfl rfl
 (vt_iconst rfl
 (vt_bipush (v := 12) rfl (by decide)
 (vt_copy (n := 12) rfl rfl rfl rfl rfl rfl (vt_nm (fun H7 e8 => vt_aload_n rfl rfl rfl
 (vt_getr rfl rfl rfl
 (vt_iconst rfl
 (vt_aload_n rfl rfl rfl
 (vt_getr rfl rfl rfl
 (vt_iconst rfl
 (vt_bipush (v := 12) rfl (by decide)
 (vt_copy (n := 12) rfl rfl rfl rfl rfl rfl (vt_nm (fun H9 e10 => vt_aload_n rfl rfl rfl
 (vt_getr rfl rfl rfl
 (vt_iconst rfl
 (vt_aload_n rfl rfl rfl
 (vt_getr rfl rfl rfl
 (vt_iconst rfl
 (vt_bipush (v := 12) rfl (by decide)
 (vt_copy (n := 12) rfl rfl rfl rfl rfl rfl (vt_nm (fun H11 e12 => vt_retv rfl ((((((W H1 e2) H3 e4) H5 e6) H7 e8) H9 e10) H11 e12)))))))))))))))))))))))))))))))))))))))))))))))))))
theorem ve_GoodsBook_image_0 {X : Term} {xs : List Int32} {N : Nat} {H : fl_H} {Q : Option Int → fl_H → Prop} (W : ∀ m, m < N → ck (cm_pg X xs) m cm_m11 [.index 39, .index 1] H (fun r H1 => r = none ∧ (∀ H3, H3 = fl_up H1 0 3 1 → (Q (some 1) H3))))  : ck (cm_pg X xs) N cm_m130 [.index 0] H Q :=
  vt_aload_n rfl rfl rfl
 (vt_getr rfl rfl rfl
 (vt_aload_n rfl rfl rfl
 (vt_getr rfl rfl rfl
 (vt_callV rfl rfl (fun _ => rfl) (fun m hm => vt_void (W m hm) (fun H1 w2 => vt_aload_n rfl rfl rfl
 (vt_iconst rfl
 (vt_putf rfl rfl rfl (vt_nm (fun H3 e4 => vt_iconst rfl
 (vt_ret rfl (w2 H3 e4))))))))))))
theorem ve_Book_become_39_1 {X : Term} {xs : List Int32} {N : Nat} {H : fl_H} {Q : Option Int → fl_H → Prop} (W : ∀ H1, H1 = fl_up H 39 0 (H 1 0) → (∀ H3, H3 = fl_cp H1 2 40 3 → (∀ m, m < N → ck (cm_pg X xs) m cm_m47 [.index 41, .index 3] H3 (fun r H5 => r = none ∧ (∀ m, m < N → ck (cm_pg X xs) m cm_m6 [.index 47, .index 9] H5 (fun r H7 => r = none ∧ (∀ m, m < N → ck (cm_pg X xs) m cm_m98 [.index 52, .index 14] H7 (fun r H9 => r = none ∧ (∀ H11, H11 = fl_cp H9 18 56 3 → (∀ H13, H13 = fl_cp H11 19 57 6 → (Q none H13)))))))))))  : ck (cm_pg X xs) N cm_m11 [.index 39, .index 1] H Q :=
  vt_aload_n rfl rfl rfl
 (vt_aload_n rfl rfl rfl
 (vt_getf rfl rfl rfl
 (vt_putf rfl rfl rfl (vt_nm (fun H1 e2 => vt_aload_n rfl rfl rfl
 (vt_getr rfl rfl rfl
 (vt_iconst rfl
 (vt_aload_n rfl rfl rfl
 (vt_getr rfl rfl rfl
 (vt_iconst rfl
 (vt_iconst rfl
 (vt_copy (n := 3) rfl rfl rfl rfl rfl rfl (vt_nm (fun H3 e4 => vt_aload_n rfl rfl rfl
 (vt_getr rfl rfl rfl
 (vt_aload_n rfl rfl rfl
 (vt_getr rfl rfl rfl
 (vt_callV rfl rfl (fun _ => rfl) (fun m hm => vt_void (((W H1 e2) H3 e4) m hm) (fun H5 w6 => vt_aload_n rfl rfl rfl
 (vt_getr rfl rfl rfl
 (vt_aload_n rfl rfl rfl
 (vt_getr rfl rfl rfl
 (vt_callV rfl rfl (fun _ => rfl) (fun m hm => vt_void (w6 m hm) (fun H7 w8 => vt_aload_n rfl rfl rfl
 (vt_getr rfl rfl rfl
 (vt_aload_n rfl rfl rfl
 (vt_getr rfl rfl rfl
 (vt_callV rfl rfl (fun _ => rfl) (fun m hm => vt_void (w8 m hm) (fun H9 w10 => vt_aload_n rfl rfl rfl
 (vt_getr rfl rfl rfl
 (vt_iconst rfl
 (vt_aload_n rfl rfl rfl
 (vt_getr rfl rfl rfl
 (vt_iconst rfl
 (vt_aload_n rfl rfl rfl
 (vt_getr rfl rfl rfl
 (vt_alen (n := 3) rfl rfl
 (vt_copy (n := 3) rfl rfl rfl rfl rfl rfl (vt_nm (fun H11 e12 => vt_aload_n rfl rfl rfl
 (vt_getr rfl rfl rfl
 (vt_iconst rfl
 (vt_aload_n rfl rfl rfl
 (vt_getr rfl rfl rfl
 (vt_iconst rfl
 (vt_bipush (v := 6) rfl (by decide)
 (vt_copy (n := 6) rfl rfl rfl rfl rfl rfl (vt_nm (fun H13 e14 => vt_retv rfl ((w10 H11 e12) H13 e14)))))))))))))))))))))))))))))))))))))))))))))))))))))
theorem ve_Years_become_52_14 {X : Term} {xs : List Int32} {N : Nat} {H : fl_H} {Q : Option Int → fl_H → Prop} (W : ∀ H1, H1 = fl_up H 52 0 (H 14 0) → (∀ H3, H3 = fl_cp H1 15 53 12 → (∀ H5, H5 = fl_cp H3 16 54 12 → (∀ H7, H7 = fl_cp H5 17 55 12 → (Q none H7)))))  : ck (cm_pg X xs) N cm_m98 [.index 52, .index 14] H Q :=
  vt_aload_n rfl rfl rfl
 (vt_aload_n rfl rfl rfl
 (vt_getf rfl rfl rfl
 (vt_putf rfl rfl rfl (vt_nm (fun H1 e2 => vt_aload_n rfl rfl rfl
 (vt_getr rfl rfl rfl
 (vt_iconst rfl
 (vt_aload_n rfl rfl rfl
 (vt_getr rfl rfl rfl
 (vt_iconst rfl
 (vt_bipush (v := 12) rfl (by decide)
 (vt_copy (n := 12) rfl rfl rfl rfl rfl rfl (vt_nm (fun H3 e4 => vt_aload_n rfl rfl rfl
 (vt_getr rfl rfl rfl
 (vt_iconst rfl
 (vt_aload_n rfl rfl rfl
 (vt_getr rfl rfl rfl
 (vt_iconst rfl
 (vt_bipush (v := 12) rfl (by decide)
 (vt_copy (n := 12) rfl rfl rfl rfl rfl rfl (vt_nm (fun H5 e6 => vt_aload_n rfl rfl rfl
 (vt_getr rfl rfl rfl
 (vt_iconst rfl
 (vt_aload_n rfl rfl rfl
 (vt_getr rfl rfl rfl
 (vt_iconst rfl
 (vt_bipush (v := 12) rfl (by decide)
 (vt_copy (n := 12) rfl rfl rfl rfl rfl rfl (vt_nm (fun H7 e8 => vt_retv rfl ((((W H1 e2) H3 e4) H5 e6) H7 e8)))))))))))))))))))))))))))))))))
theorem ve_Bonds_become_47_9 {X : Term} {xs : List Int32} {N : Nat} {H : fl_H} {Q : Option Int → fl_H → Prop} (W : ∀ H1, H1 = fl_up H 47 0 (H 9 0) → (∀ H3, H3 = fl_cp H1 10 48 12 → (∀ H5, H5 = fl_cp H3 11 49 12 → (∀ H7, H7 = fl_cp H5 12 50 12 → (∀ H9, H9 = fl_cp H7 13 51 12 → (Q none H9))))))  : ck (cm_pg X xs) N cm_m6 [.index 47, .index 9] H Q :=
  vt_aload_n rfl rfl rfl
 (vt_aload_n rfl rfl rfl
 (vt_getf rfl rfl rfl
 (vt_putf rfl rfl rfl (vt_nm (fun H1 e2 => vt_aload_n rfl rfl rfl
 (vt_getr rfl rfl rfl
 (vt_iconst rfl
 (vt_aload_n rfl rfl rfl
 (vt_getr rfl rfl rfl
 (vt_iconst rfl
 (vt_bipush (v := 12) rfl (by decide)
 (vt_copy (n := 12) rfl rfl rfl rfl rfl rfl (vt_nm (fun H3 e4 => vt_aload_n rfl rfl rfl
 (vt_getr rfl rfl rfl
 (vt_iconst rfl
 (vt_aload_n rfl rfl rfl
 (vt_getr rfl rfl rfl
 (vt_iconst rfl
 (vt_bipush (v := 12) rfl (by decide)
 (vt_copy (n := 12) rfl rfl rfl rfl rfl rfl (vt_nm (fun H5 e6 => vt_aload_n rfl rfl rfl
 (vt_getr rfl rfl rfl
 (vt_iconst rfl
 (vt_aload_n rfl rfl rfl
 (vt_getr rfl rfl rfl
 (vt_iconst rfl
 (vt_bipush (v := 12) rfl (by decide)
 (vt_copy (n := 12) rfl rfl rfl rfl rfl rfl (vt_nm (fun H7 e8 => vt_aload_n rfl rfl rfl
 (vt_getr rfl rfl rfl
 (vt_iconst rfl
 (vt_aload_n rfl rfl rfl
 (vt_getr rfl rfl rfl
 (vt_iconst rfl
 (vt_bipush (v := 12) rfl (by decide)
 (vt_copy (n := 12) rfl rfl rfl rfl rfl rfl (vt_nm (fun H9 e10 => vt_retv rfl (((((W H1 e2) H3 e4) H5 e6) H7 e8) H9 e10))))))))))))))))))))))))))))))))))))))))))
theorem ve_Goods_become_41_3 {X : Term} {xs : List Int32} {N : Nat} {H : fl_H} {Q : Option Int → fl_H → Prop} (W : ∀ H1, H1 = fl_up H 41 0 (H 3 0) → (∀ H3, H3 = fl_cp H1 4 42 6 → (∀ H5, H5 = fl_cp H3 5 43 6 → (∀ H7, H7 = fl_cp H5 6 44 12 → (∀ H9, H9 = fl_cp H7 7 45 12 → (∀ H11, H11 = fl_cp H9 8 46 12 → (Q none H11)))))))  : ck (cm_pg X xs) N cm_m47 [.index 41, .index 3] H Q :=
  vt_aload_n rfl rfl rfl
 (vt_aload_n rfl rfl rfl
 (vt_getf rfl rfl rfl
 (vt_putf rfl rfl rfl (vt_nm (fun H1 e2 => vt_aload_n rfl rfl rfl
 (vt_getr rfl rfl rfl
 (vt_iconst rfl
 (vt_aload_n rfl rfl rfl
 (vt_getr rfl rfl rfl
 (vt_iconst rfl
 (vt_bipush (v := 6) rfl (by decide)
 (vt_copy (n := 6) rfl rfl rfl rfl rfl rfl (vt_nm (fun H3 e4 => vt_aload_n rfl rfl rfl
 (vt_getr rfl rfl rfl
 (vt_iconst rfl
 (vt_aload_n rfl rfl rfl
 (vt_getr rfl rfl rfl
 (vt_iconst rfl
 (vt_bipush (v := 6) rfl (by decide)
 (vt_copy (n := 6) rfl rfl rfl rfl rfl rfl (vt_nm (fun H5 e6 => vt_aload_n rfl rfl rfl
 (vt_getr rfl rfl rfl
 (vt_iconst rfl
 (vt_aload_n rfl rfl rfl
 (vt_getr rfl rfl rfl
 (vt_iconst rfl
 (vt_bipush (v := 12) rfl (by decide)
 (vt_copy (n := 12) rfl rfl rfl rfl rfl rfl (vt_nm (fun H7 e8 => vt_aload_n rfl rfl rfl
 (vt_getr rfl rfl rfl
 (vt_iconst rfl
 (vt_aload_n rfl rfl rfl
 (vt_getr rfl rfl rfl
 (vt_iconst rfl
 (vt_bipush (v := 12) rfl (by decide)
 (vt_copy (n := 12) rfl rfl rfl rfl rfl rfl (vt_nm (fun H9 e10 => vt_aload_n rfl rfl rfl
 (vt_getr rfl rfl rfl
 (vt_iconst rfl
 (vt_aload_n rfl rfl rfl
 (vt_getr rfl rfl rfl
 (vt_iconst rfl
 (vt_bipush (v := 12) rfl (by decide)
 (vt_copy (n := 12) rfl rfl rfl rfl rfl rfl (vt_nm (fun H11 e12 => vt_retv rfl ((((((W H1 e2) H3 e4) H5 e6) H7 e8) H9 e10) H11 e12)))))))))))))))))))))))))))))))))))))))))))))))))))
theorem ve_GoodsBook_learnt_0 {X : Term} {xs : List Int32} {N : Nat} {H : fl_H} {a1 a2 : Int} {Q : Option Int → fl_H → Prop} (W : ∀ m, m < N → ck (cm_pg X xs) m cm_m139 [.index 0, fl_t a1] H (fun r H1 => ∃ x3, r = some x3 ∧ (((fl_w x3 = 0) → Q (some (-1)) H1) ∧ (¬ (fl_w x3 = 0) → ((fl_w 0 ≤ fl_w a2 ∧ fl_w a2 ≤ fl_w 3) → ∀ m, m < N → ck (cm_pg X xs) m cm_m94 [.index 14, fl_t a1] H1 (fun r H6 => ∃ x8, r = some x8 ∧ ((fl_w x8 = 0 → Q (some (-2)) H6) ∧ (¬ fl_w x8 = 0 → ∀ m, m < N → ck (cm_pg X xs) m cm_m95 [.index 14, fl_t a1, fl_t a2] H6 (fun r H10 => ∃ x12, r = some x12 ∧ (Q (some x12) H10)))))) ∧ (¬ (fl_w 0 ≤ fl_w a2 ∧ fl_w a2 ≤ fl_w 3) → Q (some (-1)) H1)))))  : ck (cm_pg X xs) N cm_m129 [.index 0, fl_t a1, fl_t a2] H Q :=
  vt_aload_n rfl rfl rfl
 (vt_iload_n rfl rfl
 (vt_callV rfl rfl (fun _ => rfl) (fun m hm => vt_int (W m hm) (fun x3 H1 w2 => vt_ifc rfl (fun hc4 => vt_iconst rfl
 (vt_ret rfl (w2.1 hc4))) (fun hc4 => vt_iload_n rfl rfl
 (vt_iconst rfl
 (vt_iconst rfl
 (vt_callS rfl rfl (fun _ => rfl) (fun _ _ => vt_sum (sm_within)
 (vt_ifn rfl (fun hc5 => vt_aload_n rfl rfl rfl
 (vt_getr rfl rfl rfl
 (vt_getr rfl rfl rfl
 (vt_iload_n rfl rfl
 (vt_callV rfl rfl (fun _ => rfl) (fun m hm => vt_int (((w2.2 hc4).1 hc5) m hm) (fun x8 H6 w7 => vt_ifcN rfl (fun hc9 => vt_aload_n rfl rfl rfl
 (vt_getr rfl rfl rfl
 (vt_getr rfl rfl rfl
 (vt_iload_n rfl rfl
 (vt_iload_n rfl rfl
 (vt_callV rfl rfl (fun _ => rfl) (fun m hm => vt_int ((w7.2 hc9) m hm) (fun x12 H10 w11 => vt_ret rfl w11)))))))) (fun hc9 => vt_bipush (v := (-2)) rfl (by decide)
 (vt_ret rfl (w7.1 hc9)))))))))) (fun hc5 => vt_iconst rfl
 (vt_ret rfl ((w2.2 hc4).2 hc5)))))))))))))
def hd_Years_lesson_14_26 (P : cm_G) (N : Nat) (H : fl_H) (a1 : Int) (a2 : Int) (a3 : Int) (a4 : Int) (a5 : Int) (a6 : Int) (a7 : Int) (Q : Option Int → fl_H → Prop) : Prop := ∀ lv : cm_Lv, cm_nth lv 0 = some (some (.index 14)) → cm_nth lv 1 = some (some (fl_t a1)) → cm_nth lv 2 = some (some (fl_t a2)) → cm_nth lv 3 = some (some (fl_t a3)) → cm_nth lv 4 = some (some (fl_t a4)) → cm_nth lv 5 = some (some (fl_t a5)) → cm_nth lv 6 = some (some (fl_t a6)) → cm_nth lv 7 = some (some (fl_t a7)) → vt P N cm_m95 26 lv [] H Q
theorem vh_Years_lesson_14_26 {X : Term} {xs : List Int32} {N : Nat} {H : fl_H} {a1 : Int} {a2 : Int} {a3 : Int} {a4 : Int} {a5 : Int} {a6 : Int} {a7 : Int} {Q : Option Int → fl_H → Prop} (W : ((3 ≤ fl_w a7) → (fl_w a2 = 0 → Q (some a3) H) ∧ (fl_w a2 = 1 → Q (some a4) H) ∧ (fl_w a2 = 2 → Q (some a5) H) ∧ (fl_w a2 < 0 ∨ 2 < fl_w a2 → Q (some a6) H)) ∧ (¬ (3 ≤ fl_w a7) → ∀ m, m < N → ck (cm_pg X xs) m cm_m96 [.index 14, fl_t a1, fl_t a7] H (fun r H6 => ∃ x8, r = some x8 ∧ (∀ m, m < N → ck (cm_pg X xs) m cm_m97 [.index 14, fl_t a1, fl_t a7, fl_t x8] H6 (fun r H10 => ∃ x12, r = some x12 ∧ ((fl_w x12 = fl_w a5 → ((fl_w x12 < fl_w a5) → ∀ m, m < N → hd_Years_lesson_14_26 (cm_pg X xs) m H10 a1 a2 a7 x8 x12 0 (a7 + 1) Q) ∧ (¬ (fl_w x12 < fl_w a5) → ∀ m, m < N → hd_Years_lesson_14_26 (cm_pg X xs) m H10 a1 a2 a3 a4 a5 (fl_or a6 (fl_shl 1 a7)) (a7 + 1) Q)) ∧ (¬ fl_w x12 = fl_w a5 → ((fl_w x12 < fl_w a5) → ∀ m, m < N → hd_Years_lesson_14_26 (cm_pg X xs) m H10 a1 a2 a7 x8 x12 0 (a7 + 1) Q) ∧ (¬ (fl_w x12 < fl_w a5) → ∀ m, m < N → hd_Years_lesson_14_26 (cm_pg X xs) m H10 a1 a2 a3 a4 a5 a6 (a7 + 1) Q)))))))) : hd_Years_lesson_14_26 (cm_pg X xs) N H a1 a2 a3 a4 a5 a6 a7 Q :=
 fun lv h0 h1 h2 h3 h4 h5 h6 h7 =>
 vt_iload rfl h7
 (vt_iconst rfl
 (vt_icmp rfl (fun hc1 => vt_iload_n rfl h2
 (if hs2 : fl_w a2 = 0 then vt_swk rfl (vt_sw_in (j := 0) (by omega) (by omega) (by omega) rfl) (vt_iload_n rfl h3
 (vt_ret rfl ((W.1 hc1).1 hs2))) else if hs3 : fl_w a2 = 1 then vt_swk rfl (vt_sw_in (j := 1) (by omega) (by omega) (by omega) rfl) (vt_iload rfl h4
 (vt_ret rfl ((W.1 hc1).2.1 hs3))) else if hs4 : fl_w a2 = 2 then vt_swk rfl (vt_sw_in (j := 2) (by omega) (by omega) (by omega) rfl) (vt_iload rfl h5
 (vt_ret rfl ((W.1 hc1).2.2.1 hs4))) else vt_swk rfl (vt_sw_out (by omega)) (vt_iload rfl h6
 (vt_ret rfl ((W.1 hc1).2.2.2 (by omega)))))) (fun hc1 => vt_aload_n rfl h0 rfl
 (vt_iload_n rfl h1
 (vt_iload rfl h7
 (vt_callV rfl rfl (fun _ => rfl) (fun m hm => vt_int ((W.2 hc1) m hm) (fun x8 H6 w7 => vt_istoreA rfl (fun hl9 => vt_aload_n rfl (fl_lsn (by decide) h0) rfl
 (vt_iload_n rfl (fl_lsn (by decide) h1)
 (vt_iload rfl (fl_lsn (by decide) h7)
 (vt_iload rfl (fl_lse hl9)
 (vt_callV rfl rfl (fun _ => rfl) (fun m hm => vt_int (w7 m hm) (fun x12 H10 w11 => vt_istoreA rfl (fun hl13 => vt_iload rfl (fl_lse hl13)
 (vt_iload rfl (fl_lsn (by decide) (fl_lsn (by decide) h5))
 (vt_icmpN rfl (fun hc14 => vt_iload rfl (fl_lse hl13)
 (vt_iload rfl (fl_lsn (by decide) (fl_lsn (by decide) h5))
 (vt_icmp rfl (fun hc23 => vt_iload rfl (fl_lsn (by decide) (fl_lsn (by decide) h7))
 (vt_istore_nA rfl (fun hl24 => vt_iload rfl (fl_lsn (by decide) (fl_lsn (by decide) (fl_lse hl9)))
 (vt_istoreA rfl (fun hl25 => vt_iload rfl (fl_lsn (by decide) (fl_lsn (by decide) (fl_lse hl13)))
 (vt_istoreA rfl (fun hl26 => vt_iconst rfl
 (vt_istoreA rfl (fun hl27 => vt_iincA rfl (fl_lsn (by decide) (fl_lsn (by decide) (fl_lsn (by decide) (fl_lsn (by decide) (fl_lsn (by decide) (fl_lsn (by decide) h7)))))) (fun hl28 => vt_gotoS rfl (fun m hm => (((w11.2 hc14).1 hc23) m hm) _ (fl_lsn (by decide) (fl_lsn (by decide) (fl_lsn (by decide) (fl_lsn (by decide) (fl_lsn (by decide) (fl_lsn (by decide) (fl_lsn (by decide) h0))))))) (fl_lsn (by decide) (fl_lsn (by decide) (fl_lsn (by decide) (fl_lsn (by decide) (fl_lsn (by decide) (fl_lsn (by decide) (fl_lsn (by decide) h1))))))) (fl_lsn (by decide) (fl_lsn (by decide) (fl_lsn (by decide) (fl_lsn (by decide) (fl_lsn (by decide) (fl_lsn (by decide) (fl_lsn (by decide) h2))))))) (fl_lsn (by decide) (fl_lsn (by decide) (fl_lsn (by decide) (fl_lsn (by decide) (fl_lse hl24))))) (fl_lsn (by decide) (fl_lsn (by decide) (fl_lsn (by decide) (fl_lse hl25)))) (fl_lsn (by decide) (fl_lsn (by decide) (fl_lse hl26))) (fl_lsn (by decide) (fl_lse hl27)) (fl_lse hl28)))))))))))) (fun hc23 => vt_goto rfl
 (vt_iincA rfl (fl_lsn (by decide) (fl_lsn (by decide) h7)) (fun hl29 => vt_gotoS rfl (fun m hm => (((w11.2 hc14).2 hc23) m hm) _ (fl_lsn (by decide) (fl_lsn (by decide) (fl_lsn (by decide) h0))) (fl_lsn (by decide) (fl_lsn (by decide) (fl_lsn (by decide) h1))) (fl_lsn (by decide) (fl_lsn (by decide) (fl_lsn (by decide) h2))) (fl_lsn (by decide) (fl_lsn (by decide) (fl_lsn (by decide) h3))) (fl_lsn (by decide) (fl_lsn (by decide) (fl_lsn (by decide) h4))) (fl_lsn (by decide) (fl_lsn (by decide) (fl_lsn (by decide) h5))) (fl_lsn (by decide) (fl_lsn (by decide) (fl_lsn (by decide) h6))) (fl_lse hl29)))))))) (fun hc14 => vt_iload rfl (fl_lsn (by decide) (fl_lsn (by decide) h6))
 (vt_iconst rfl
 (vt_iload rfl (fl_lsn (by decide) (fl_lsn (by decide) h7))
 (vt_ishl rfl
 (vt_ior rfl
 (vt_istoreA rfl (fun hl15 => vt_iload rfl (fl_lsn (by decide) (fl_lse hl13))
 (vt_iload rfl (fl_lsn (by decide) (fl_lsn (by decide) (fl_lsn (by decide) h5)))
 (vt_icmp rfl (fun hc16 => vt_iload rfl (fl_lsn (by decide) (fl_lsn (by decide) (fl_lsn (by decide) h7)))
 (vt_istore_nA rfl (fun hl17 => vt_iload rfl (fl_lsn (by decide) (fl_lsn (by decide) (fl_lsn (by decide) (fl_lse hl9))))
 (vt_istoreA rfl (fun hl18 => vt_iload rfl (fl_lsn (by decide) (fl_lsn (by decide) (fl_lsn (by decide) (fl_lse hl13))))
 (vt_istoreA rfl (fun hl19 => vt_iconst rfl
 (vt_istoreA rfl (fun hl20 => vt_iincA rfl (fl_lsn (by decide) (fl_lsn (by decide) (fl_lsn (by decide) (fl_lsn (by decide) (fl_lsn (by decide) (fl_lsn (by decide) (fl_lsn (by decide) h7))))))) (fun hl21 => vt_gotoS rfl (fun m hm => (((w11.1 hc14).1 hc16) m hm) _ (fl_lsn (by decide) (fl_lsn (by decide) (fl_lsn (by decide) (fl_lsn (by decide) (fl_lsn (by decide) (fl_lsn (by decide) (fl_lsn (by decide) (fl_lsn (by decide) h0)))))))) (fl_lsn (by decide) (fl_lsn (by decide) (fl_lsn (by decide) (fl_lsn (by decide) (fl_lsn (by decide) (fl_lsn (by decide) (fl_lsn (by decide) (fl_lsn (by decide) h1)))))))) (fl_lsn (by decide) (fl_lsn (by decide) (fl_lsn (by decide) (fl_lsn (by decide) (fl_lsn (by decide) (fl_lsn (by decide) (fl_lsn (by decide) (fl_lsn (by decide) h2)))))))) (fl_lsn (by decide) (fl_lsn (by decide) (fl_lsn (by decide) (fl_lsn (by decide) (fl_lse hl17))))) (fl_lsn (by decide) (fl_lsn (by decide) (fl_lsn (by decide) (fl_lse hl18)))) (fl_lsn (by decide) (fl_lsn (by decide) (fl_lse hl19))) (fl_lsn (by decide) (fl_lse hl20)) (fl_lse hl21)))))))))))) (fun hc16 => vt_goto rfl
 (vt_iincA rfl (fl_lsn (by decide) (fl_lsn (by decide) (fl_lsn (by decide) h7))) (fun hl22 => vt_gotoS rfl (fun m hm => (((w11.1 hc14).2 hc16) m hm) _ (fl_lsn (by decide) (fl_lsn (by decide) (fl_lsn (by decide) (fl_lsn (by decide) h0)))) (fl_lsn (by decide) (fl_lsn (by decide) (fl_lsn (by decide) (fl_lsn (by decide) h1)))) (fl_lsn (by decide) (fl_lsn (by decide) (fl_lsn (by decide) (fl_lsn (by decide) h2)))) (fl_lsn (by decide) (fl_lsn (by decide) (fl_lsn (by decide) (fl_lsn (by decide) h3)))) (fl_lsn (by decide) (fl_lsn (by decide) (fl_lsn (by decide) (fl_lsn (by decide) h4)))) (fl_lsn (by decide) (fl_lsn (by decide) (fl_lsn (by decide) (fl_lsn (by decide) h5)))) (fl_lsn (by decide) (fl_lse hl15)) (fl_lse hl22))))))))))))))))))))))))))))))))
theorem ve_Years_lesson_14 {X : Term} {xs : List Int32} {N : Nat} {H : fl_H} {a1 a2 : Int} {Q : Option Int → fl_H → Prop} (W : ∀ m, m < N → ck (cm_pg X xs) m cm_m96 [.index 14, fl_t a1, fl_t 0] H (fun r H1 => ∃ x3, r = some x3 ∧ (∀ m, m < N → ck (cm_pg X xs) m cm_m97 [.index 14, fl_t a1, fl_t 0, fl_t x3] H1 (fun r H4 => ∃ x6, r = some x6 ∧ (hd_Years_lesson_14_26 (cm_pg X xs) N H4 a1 a2 0 x3 x6 0 1 Q)))))  : ck (cm_pg X xs) N cm_m95 [.index 14, fl_t a1, fl_t a2] H Q :=
  vt_iconst rfl
 (vt_istore_n rfl
 (vt_aload_n rfl rfl rfl
 (vt_iload_n rfl rfl
 (vt_iconst rfl
 (vt_callV rfl rfl (fun _ => rfl) (fun m hm => vt_int (W m hm) (fun x3 H1 w2 => vt_istore rfl
 (vt_aload_n rfl rfl rfl
 (vt_iload_n rfl rfl
 (vt_iconst rfl
 (vt_iload rfl rfl
 (vt_callV rfl rfl (fun _ => rfl) (fun m hm => vt_int (w2 m hm) (fun x6 H4 w5 => vt_istore rfl
 (vt_iconst rfl
 (vt_istore rfl
 (vt_iconst rfl
 (vt_istore rfl
 (w5 _ rfl rfl rfl rfl rfl rfl rfl rfl)))))))))))))))))))
def hd_Years_distance_14_6 (P : cm_G) (N : Nat) (H : fl_H) (a1 : Int) (a2 : Int) (a3 : Int) (a4 : Int) (a5 : Int) (Q : Option Int → fl_H → Prop) : Prop := ∀ lv : cm_Lv, cm_nth lv 0 = some (some (.index 14)) → cm_nth lv 1 = some (some (fl_t a1)) → cm_nth lv 2 = some (some (fl_t a2)) → cm_nth lv 3 = some (some (fl_t a3)) → cm_nth lv 4 = some (some (fl_t a4)) → cm_nth lv 5 = some (some (fl_t a5)) → vt P N cm_m97 6 lv [] H Q
theorem vh_Years_distance_14_6 {X : Term} {xs : List Int32} {N : Nat} {H : fl_H} {a1 : Int} {a2 : Int} {a3 : Int} {a4 : Int} {a5 : Int} {Q : Option Int → fl_H → Prop} (W : ((fl_w (H 14 0) ≤ fl_w a5) → Q (some a4) H) ∧ (¬ (fl_w (H 14 0) ≤ fl_w a5) → (0 ≤ fl_w a5 ∧ fl_w a5 < 12 → ((fl_w (H 15 (fl_w a5).toNat) = fl_w a1) → (0 ≤ fl_w a5 ∧ fl_w a5 < 12 → (fl_w (H 16 (fl_w a5).toNat) = 0 → (0 ≤ fl_w a5 ∧ fl_w a5 < 12 → ∀ m, m < N → hd_Years_distance_14_6 (cm_pg X xs) m H a1 a2 a3 (a4 + (fl_abs ((H 17 (fl_w a5).toNat) - a3))) (a5 + 1) Q)) ∧ (¬ fl_w (H 16 (fl_w a5).toNat) = 0 → (0 ≤ fl_w a2 ∧ fl_w a2 < 3 → (0 ≤ fl_w a5 ∧ fl_w a5 < 12 → ∀ m, m < N → hd_Years_distance_14_6 (cm_pg X xs) m H a1 a2 a3 (a4 + (fl_abs ((H 17 (fl_w a5).toNat) - ((([1, 2, 4] : List Int).getD (fl_w a2).toNat 0) * a3)))) (a5 + 1) Q))))) ∧ (¬ (fl_w (H 15 (fl_w a5).toNat) = fl_w a1) → ∀ m, m < N → hd_Years_distance_14_6 (cm_pg X xs) m H a1 a2 a3 a4 (a5 + 1) Q)))) : hd_Years_distance_14_6 (cm_pg X xs) N H a1 a2 a3 a4 a5 Q :=
 fun lv h0 h1 h2 h3 h4 h5 =>
 vt_iload rfl h5
 (vt_aload_n rfl h0 rfl
 (vt_getf rfl rfl rfl
 (vt_icmp rfl (fun hc1 => vt_iload rfl h4
 (vt_ret rfl (W.1 hc1))) (fun hc1 => vt_aload_n rfl h0 rfl
 (vt_getr rfl rfl rfl
 (vt_iload rfl h5
 (vt_iald rfl rfl (fun hf2 => vt_iload_n rfl h1
 (vt_icmp rfl (fun hc3 => vt_aload_n rfl h0 rfl
 (vt_getr rfl rfl rfl
 (vt_iload rfl h5
 (vt_iald rfl rfl (fun hf4 => vt_ifcN rfl (fun hc5 => vt_gets rfl rfl
 (vt_iload_n rfl h2
 (vt_iold (l := [1, 2, 4]) rfl rfl rfl (fun hf10 => vt_iload_n rfl h3
 (vt_imul rfl
 (vt_istoreA rfl (fun hl11 => vt_iload rfl (fl_lsn (by decide) h4)
 (vt_aload_n rfl (fl_lsn (by decide) h0) rfl
 (vt_getr rfl rfl rfl
 (vt_iload rfl (fl_lsn (by decide) h5)
 (vt_iald rfl rfl (fun hf12 => vt_iload rfl (fl_lse hl11)
 (vt_isub rfl
 (vt_abs rfl
 (vt_iadd rfl
 (vt_istoreA rfl (fun hl13 => vt_iincA rfl (fl_lsn (by decide) (fl_lsn (by decide) h5)) (fun hl14 => vt_gotoS rfl (fun m hm => ((((((((W.2 hc1) hf2).1 hc3) hf4).2 hc5) hf10) hf12) m hm) _ (fl_lsn (by decide) (fl_lsn (by decide) (fl_lsn (by decide) h0))) (fl_lsn (by decide) (fl_lsn (by decide) (fl_lsn (by decide) h1))) (fl_lsn (by decide) (fl_lsn (by decide) (fl_lsn (by decide) h2))) (fl_lsn (by decide) (fl_lsn (by decide) (fl_lsn (by decide) h3))) (fl_lsn (by decide) (fl_lse hl13)) (fl_lse hl14)))))))))))))))))))) (fun hc5 => vt_iload_n rfl h3
 (vt_goto rfl
 (vt_istoreA rfl (fun hl6 => vt_iload rfl (fl_lsn (by decide) h4)
 (vt_aload_n rfl (fl_lsn (by decide) h0) rfl
 (vt_getr rfl rfl rfl
 (vt_iload rfl (fl_lsn (by decide) h5)
 (vt_iald rfl rfl (fun hf7 => vt_iload rfl (fl_lse hl6)
 (vt_isub rfl
 (vt_abs rfl
 (vt_iadd rfl
 (vt_istoreA rfl (fun hl8 => vt_iincA rfl (fl_lsn (by decide) (fl_lsn (by decide) h5)) (fun hl9 => vt_gotoS rfl (fun m hm => (((((((W.2 hc1) hf2).1 hc3) hf4).1 hc5) hf7) m hm) _ (fl_lsn (by decide) (fl_lsn (by decide) (fl_lsn (by decide) h0))) (fl_lsn (by decide) (fl_lsn (by decide) (fl_lsn (by decide) h1))) (fl_lsn (by decide) (fl_lsn (by decide) (fl_lsn (by decide) h2))) (fl_lsn (by decide) (fl_lsn (by decide) (fl_lsn (by decide) h3))) (fl_lsn (by decide) (fl_lse hl8)) (fl_lse hl9)))))))))))))))))))))) (fun hc3 => vt_goto rfl
 (vt_iincA rfl h5 (fun hl15 => vt_gotoS rfl (fun m hm => ((((W.2 hc1) hf2).2 hc3) m hm) _ (fl_lsn (by decide) h0) (fl_lsn (by decide) h1) (fl_lsn (by decide) h2) (fl_lsn (by decide) h3) (fl_lsn (by decide) h4) (fl_lse hl15))))))))))))))
theorem ve_Years_distance_14 {X : Term} {xs : List Int32} {N : Nat} {H : fl_H} {a1 a2 a3 : Int} {Q : Option Int → fl_H → Prop} (W : hd_Years_distance_14_6 (cm_pg X xs) N H a1 a2 a3 0 0 Q)  : ck (cm_pg X xs) N cm_m97 [.index 14, fl_t a1, fl_t a2, fl_t a3] H Q :=
  vt_iconst rfl
 (vt_istore rfl
 (vt_iconst rfl
 (vt_istore rfl
 (W _ rfl rfl rfl rfl rfl rfl))))
def hd_Years_leastAt_14_10 (P : cm_G) (N : Nat) (H : fl_H) (a1 : Int) (a2 : Int) (a3 : Int) (a4 : Int) (a5 : Int) (Q : Option Int → fl_H → Prop) : Prop := ∀ lv : cm_Lv, cm_nth lv 0 = some (some (.index 14)) → cm_nth lv 1 = some (some (fl_t a1)) → cm_nth lv 2 = some (some (fl_t a2)) → cm_nth lv 3 = some (some (fl_t a3)) → cm_nth lv 4 = some (some (fl_t a4)) → cm_nth lv 5 = some (some (fl_t a5)) → vt P N cm_m96 10 lv [] H Q
theorem vh_Years_leastAt_14_10 {X : Term} {xs : List Int32} {N : Nat} {H : fl_H} {a1 : Int} {a2 : Int} {a3 : Int} {a4 : Int} {a5 : Int} {Q : Option Int → fl_H → Prop} (W : ((32 ≤ fl_w a5) → Q (some a3) H) ∧ (¬ (32 ≤ fl_w a5) → ((fl_w a4 ≤ fl_w a3) → Q (some a3) H) ∧ (¬ (fl_w a4 ≤ fl_w a3) → ∀ m, m < N → ck (cm_pg X xs) m cm_m97 [.index 14, fl_t a1, fl_t a2, fl_t ((fl_div (a3 + a4) 2) + 1)] H (fun r H4 => ∃ x6, r = some x6 ∧ (∀ m, m < N → ck (cm_pg X xs) m cm_m97 [.index 14, fl_t a1, fl_t a2, fl_t (fl_div (a3 + a4) 2)] H4 (fun r H7 => ∃ x9, r = some x9 ∧ (((fl_w x6 < fl_w x9) → ∀ m, m < N → hd_Years_leastAt_14_10 (cm_pg X xs) m H7 a1 a2 ((fl_div (a3 + a4) 2) + 1) a4 (a5 + 1) Q) ∧ (¬ (fl_w x6 < fl_w x9) → ∀ m, m < N → hd_Years_leastAt_14_10 (cm_pg X xs) m H7 a1 a2 a3 (fl_div (a3 + a4) 2) (a5 + 1) Q)))))))) : hd_Years_leastAt_14_10 (cm_pg X xs) N H a1 a2 a3 a4 a5 Q :=
 fun lv h0 h1 h2 h3 h4 h5 =>
 vt_iload rfl h5
 (vt_bipush (v := 32) rfl (by decide)
 (vt_icmp rfl (fun hc1 => vt_iload_n rfl h3
 (vt_ret rfl (W.1 hc1))) (fun hc1 => vt_iload_n rfl h3
 (vt_iload rfl h4
 (vt_icmp rfl (fun hc2 => vt_iload_n rfl h3
 (vt_ret rfl ((W.2 hc1).1 hc2))) (fun hc2 => vt_iload_n rfl h3
 (vt_iload rfl h4
 (vt_iadd rfl
 (vt_iconst rfl
 (vt_idiv rfl
 (vt_istoreA rfl (fun hl3 => vt_aload_n rfl (fl_lsn (by decide) h0) rfl
 (vt_iload_n rfl (fl_lsn (by decide) h1)
 (vt_iload_n rfl (fl_lsn (by decide) h2)
 (vt_iload rfl (fl_lse hl3)
 (vt_iconst rfl
 (vt_iadd rfl
 (vt_callV rfl rfl (fun _ => rfl) (fun m hm => vt_int (((W.2 hc1).2 hc2) m hm) (fun x6 H4 w5 => vt_aload_n rfl (fl_lsn (by decide) h0) rfl
 (vt_iload_n rfl (fl_lsn (by decide) h1)
 (vt_iload_n rfl (fl_lsn (by decide) h2)
 (vt_iload rfl (fl_lse hl3)
 (vt_callV rfl rfl (fun _ => rfl) (fun m hm => vt_int (w5 m hm) (fun x9 H7 w8 => vt_icmp rfl (fun hc10 => vt_iload rfl (fl_lse hl3)
 (vt_iconst rfl
 (vt_iadd rfl
 (vt_istore_nA rfl (fun hl11 => vt_iincA rfl (fl_lsn (by decide) (fl_lsn (by decide) h5)) (fun hl12 => vt_gotoS rfl (fun m hm => ((w8.1 hc10) m hm) _ (fl_lsn (by decide) (fl_lsn (by decide) (fl_lsn (by decide) h0))) (fl_lsn (by decide) (fl_lsn (by decide) (fl_lsn (by decide) h1))) (fl_lsn (by decide) (fl_lsn (by decide) (fl_lsn (by decide) h2))) (fl_lsn (by decide) (fl_lse hl11)) (fl_lsn (by decide) (fl_lsn (by decide) (fl_lsn (by decide) h4))) (fl_lse hl12)))))))) (fun hc10 => vt_iload rfl (fl_lse hl3)
 (vt_istoreA rfl (fun hl13 => vt_goto rfl
 (vt_iincA rfl (fl_lsn (by decide) (fl_lsn (by decide) h5)) (fun hl14 => vt_gotoS rfl (fun m hm => ((w8.2 hc10) m hm) _ (fl_lsn (by decide) (fl_lsn (by decide) (fl_lsn (by decide) h0))) (fl_lsn (by decide) (fl_lsn (by decide) (fl_lsn (by decide) h1))) (fl_lsn (by decide) (fl_lsn (by decide) (fl_lsn (by decide) h2))) (fl_lsn (by decide) (fl_lsn (by decide) (fl_lsn (by decide) h3))) (fl_lsn (by decide) (fl_lse hl13)) (fl_lse hl14)))))))))))))))))))))))))))))))))
theorem ve_Years_leastAt_14 {X : Term} {xs : List Int32} {N : Nat} {H : fl_H} {a1 a2 : Int} {Q : Option Int → fl_H → Prop} (W : hd_Years_leastAt_14_10 (cm_pg X xs) N H a1 a2 0 999 0 Q)  : ck (cm_pg X xs) N cm_m96 [.index 14, fl_t a1, fl_t a2] H Q :=
  vt_iconst rfl
 (vt_istore_n rfl
 (vt_sipush (v := 999) rfl (by decide)
 (vt_istore rfl
 (vt_iconst rfl
 (vt_istore rfl
 (W _ rfl rfl rfl rfl rfl rfl))))))
def hd_Years_tellOf_14_2 (P : cm_G) (N : Nat) (H : fl_H) (a1 : Int) (a2 : Int) (Q : Option Int → fl_H → Prop) : Prop := ∀ lv : cm_Lv, cm_nth lv 0 = some (some (.index 14)) → cm_nth lv 1 = some (some (fl_t a1)) → cm_nth lv 2 = some (some (fl_t a2)) → vt P N cm_m94 2 lv [] H Q
theorem vh_Years_tellOf_14_2 {X : Term} {xs : List Int32} {N : Nat} {H : fl_H} {a1 : Int} {a2 : Int} {Q : Option Int → fl_H → Prop} (W : ((fl_w (H 14 0) ≤ fl_w a2) → Q (some 0) H) ∧ (¬ (fl_w (H 14 0) ≤ fl_w a2) → (0 ≤ fl_w a2 ∧ fl_w a2 < 12 → (fl_w (H 15 (fl_w a2).toNat) = fl_w a1 → Q (some 1) H) ∧ (¬ fl_w (H 15 (fl_w a2).toNat) = fl_w a1 → ∀ m, m < N → hd_Years_tellOf_14_2 (cm_pg X xs) m H a1 (a2 + 1) Q)))) : hd_Years_tellOf_14_2 (cm_pg X xs) N H a1 a2 Q :=
 fun lv h0 h1 h2 =>
 vt_iload_n rfl h2
 (vt_aload_n rfl h0 rfl
 (vt_getf rfl rfl rfl
 (vt_icmp rfl (fun hc1 => vt_iconst rfl
 (vt_ret rfl (W.1 hc1))) (fun hc1 => vt_aload_n rfl h0 rfl
 (vt_getr rfl rfl rfl
 (vt_iload_n rfl h2
 (vt_iald rfl rfl (fun hf2 => vt_iload_n rfl h1
 (vt_icmpN rfl (fun hc3 => vt_iincA rfl h2 (fun hl4 => vt_gotoS rfl (fun m hm => ((((W.2 hc1) hf2).2 hc3) m hm) _ (fl_lsn (by decide) h0) (fl_lsn (by decide) h1) (fl_lse hl4)))) (fun hc3 => vt_iconst rfl
 (vt_ret rfl (((W.2 hc1) hf2).1 hc3))))))))))))
theorem ve_Years_tellOf_14 {X : Term} {xs : List Int32} {N : Nat} {H : fl_H} {a1 : Int} {Q : Option Int → fl_H → Prop} (W : hd_Years_tellOf_14_2 (cm_pg X xs) N H a1 0 Q)  : ck (cm_pg X xs) N cm_m94 [.index 14, fl_t a1] H Q :=
  vt_iconst rfl
 (vt_istore_n rfl
 (W _ rfl rfl rfl))
theorem ve_GoodsBook_isGood_0 {X : Term} {xs : List Int32} {N : Nat} {H : fl_H} {a1 : Int} {Q : Option Int → fl_H → Prop} (W : Q (some (fl_b (fl_w 0 ≤ fl_w a1 ∧ fl_w a1 ≤ fl_w ((H 3 0) - 1)))) H)  : ck (cm_pg X xs) N cm_m139 [.index 0, fl_t a1] H Q :=
  vt_iload_n rfl rfl
 (vt_iconst rfl
 (vt_aload_n rfl rfl rfl
 (vt_getr rfl rfl rfl
 (vt_getr rfl rfl rfl
 (vt_getf rfl rfl rfl
 (vt_iconst rfl
 (vt_isub rfl
 (vt_callS rfl rfl (fun _ => rfl) (fun _ _ => vt_sum (sm_within)
 (vt_ret rfl W))))))))))
theorem ve_GoodsBook_year_0 {X : Term} {xs : List Int32} {N : Nat} {H : fl_H} {a1 a2 a3 : Int} {Q : Option Int → fl_H → Prop} (W : ∀ m, m < N → ck (cm_pg X xs) m cm_m139 [.index 0, fl_t a1] H (fun r H1 => ∃ x3, r = some x3 ∧ (((fl_w x3 = 0) → Q (some (-1)) H1) ∧ (¬ (fl_w x3 = 0) → ((fl_w 0 ≤ fl_w a2 ∧ fl_w a2 ≤ fl_w 1) → ((fl_w 0 ≤ fl_w a3 ∧ fl_w a3 ≤ fl_w 999) → ∀ m, m < N → ck (cm_pg X xs) m cm_m93 [.index 14, fl_t a1, fl_t a2, fl_t a3] H1 (fun r H7 => ∃ x9, r = some x9 ∧ (Q (some x9) H7))) ∧ (¬ (fl_w 0 ≤ fl_w a3 ∧ fl_w a3 ≤ fl_w 999) → Q (some (-1)) H1)) ∧ (¬ (fl_w 0 ≤ fl_w a2 ∧ fl_w a2 ≤ fl_w 1) → Q (some (-1)) H1)))))  : ck (cm_pg X xs) N cm_m128 [.index 0, fl_t a1, fl_t a2, fl_t a3] H Q :=
  vt_aload_n rfl rfl rfl
 (vt_iload_n rfl rfl
 (vt_callV rfl rfl (fun _ => rfl) (fun m hm => vt_int (W m hm) (fun x3 H1 w2 => vt_ifc rfl (fun hc4 => vt_iconst rfl
 (vt_ret rfl (w2.1 hc4))) (fun hc4 => vt_iload_n rfl rfl
 (vt_iconst rfl
 (vt_iconst rfl
 (vt_callS rfl rfl (fun _ => rfl) (fun _ _ => vt_sum (sm_within)
 (vt_ifb rfl (fun hc5 => vt_iload_n rfl rfl
 (vt_iconst rfl
 (vt_sipush (v := 999) rfl (by decide)
 (vt_callS rfl rfl (fun _ => rfl) (fun _ _ => vt_sum (sm_within)
 (vt_ifn rfl (fun hc6 => vt_aload_n rfl rfl rfl
 (vt_getr rfl rfl rfl
 (vt_getr rfl rfl rfl
 (vt_iload_n rfl rfl
 (vt_iload_n rfl rfl
 (vt_iload_n rfl rfl
 (vt_callV rfl rfl (fun _ => rfl) (fun m hm => vt_int ((((w2.2 hc4).1 hc5).1 hc6) m hm) (fun x9 H7 w8 => vt_ret rfl w8))))))))) (fun hc6 => vt_iconst rfl
 (vt_ret rfl (((w2.2 hc4).1 hc5).2 hc6))))))))) (fun hc5 => vt_iconst rfl
 (vt_ret rfl ((w2.2 hc4).2 hc5)))))))))))))
theorem ve_Years_add_14 {X : Term} {xs : List Int32} {N : Nat} {H : fl_H} {a1 a2 a3 : Int} {Q : Option Int → fl_H → Prop} (W : ((fl_w (H 14 0) < 12) → (0 ≤ fl_w (H 14 0) ∧ fl_w (H 14 0) < 12 → ∀ H2, H2 = fl_up H 15 (fl_w (H 14 0)).toNat a1 → (0 ≤ fl_w (H2 14 0) ∧ fl_w (H2 14 0) < 12 → ∀ H5, H5 = fl_up H2 16 (fl_w (H2 14 0)).toNat a2 → (0 ≤ fl_w (H5 14 0) ∧ fl_w (H5 14 0) < 12 → ∀ H8, H8 = fl_up H5 17 (fl_w (H5 14 0)).toNat a3 → ∀ H11, H11 = fl_up H8 14 0 ((H8 14 0) + 1) → (Q (some (H8 14 0)) H11))))) ∧ (¬ (fl_w (H 14 0) < 12) → Q (some (-3)) H))  : ck (cm_pg X xs) N cm_m93 [.index 14, fl_t a1, fl_t a2, fl_t a3] H Q :=
  vt_aload_n rfl rfl rfl
 (vt_getf rfl rfl rfl
 (vt_bipush (v := 12) rfl (by decide)
 (vt_icmp rfl (fun hc1 => vt_aload_n rfl rfl rfl
 (vt_getr rfl rfl rfl
 (vt_aload_n rfl rfl rfl
 (vt_getf rfl rfl rfl
 (vt_iload_n rfl rfl
 (vt_iast rfl rfl (fun hf4 => vt_nm (fun H2 e3 => vt_aload_n rfl rfl rfl
 (vt_getr rfl rfl rfl
 (vt_aload_n rfl rfl rfl
 (vt_getf rfl rfl rfl
 (vt_iload_n rfl rfl
 (vt_iast rfl rfl (fun hf7 => vt_nm (fun H5 e6 => vt_aload_n rfl rfl rfl
 (vt_getr rfl rfl rfl
 (vt_aload_n rfl rfl rfl
 (vt_getf rfl rfl rfl
 (vt_iload_n rfl rfl
 (vt_iast rfl rfl (fun hf10 => vt_nm (fun H8 e9 => vt_aload_n rfl rfl rfl
 (vt_mv (fun _ _ => rfl)
 (vt_getf rfl rfl rfl
 (vt_mv (fun _ _ => rfl)
 (vt_iconst rfl
 (vt_iadd rfl
 (vt_putf rfl rfl rfl (vt_nm (fun H11 e12 => vt_ret rfl (((((W.1 hc1) hf4 H2 e3) hf7 H5 e6) hf10 H8 e9) H11 e12))))))))))))))))))))))))))))))) (fun hc1 => vt_bipush (v := (-3)) rfl (by decide)
 (vt_ret rfl (W.2 hc1))))))
theorem ve_GoodsBook_mended_0 {X : Term} {xs : List Int32} {N : Nat} {H : fl_H} {a1 a2 : Int} {Q : Option Int → fl_H → Prop} (W : ∀ m, m < N → ck (cm_pg X xs) m cm_m139 [.index 0, fl_t a1] H (fun r H1 => ∃ x3, r = some x3 ∧ (((fl_w x3 = 0) → Q (some (-1000000001)) H1) ∧ (¬ (fl_w x3 = 0) → ((fl_w (-2) ≤ fl_w a2 ∧ fl_w a2 ≤ fl_w ((H1 3 0) - 1)) → ((fl_w (H1 0 14) = fl_w a1) → ∀ m, m < N → ck (cm_pg X xs) m cm_m2 [.index 92, fl_t a2] H1 (fun r H7 => ∃ x9, r = some x9 ∧ (Q (some x9) H7))) ∧ (¬ (fl_w (H1 0 14) = fl_w a1) → ∀ m, m < N → ck (cm_pg X xs) m cm_m145 [.index 0, fl_t a1] H1 (fun r H10 => r = none ∧ (∀ H12, H12 = fl_up H10 0 14 a1 → (∀ m, m < N → ck (cm_pg X xs) m cm_m2 [.index 92, fl_t a2] H12 (fun r H14 => ∃ x16, r = some x16 ∧ (Q (some x16) H14))))))) ∧ (¬ (fl_w (-2) ≤ fl_w a2 ∧ fl_w a2 ≤ fl_w ((H1 3 0) - 1)) → Q (some (-1000000001)) H1)))))  : ck (cm_pg X xs) N cm_m127 [.index 0, fl_t a1, fl_t a2] H Q :=
  vt_aload_n rfl rfl rfl
 (vt_iload_n rfl rfl
 (vt_callV rfl rfl (fun _ => rfl) (fun m hm => vt_int (W m hm) (fun x3 H1 w2 => vt_ifc rfl (fun hc4 => vt_ldc (v := (-1000000001)) rfl (by decide)
 (vt_ret rfl (w2.1 hc4))) (fun hc4 => vt_iload_n rfl rfl
 (vt_bipush (v := (-2)) rfl (by decide)
 (vt_aload_n rfl rfl rfl
 (vt_getr rfl rfl rfl
 (vt_getr rfl rfl rfl
 (vt_getf rfl rfl rfl
 (vt_iconst rfl
 (vt_isub rfl
 (vt_callS rfl rfl (fun _ => rfl) (fun _ _ => vt_sum (sm_within)
 (vt_ifn rfl (fun hc5 => vt_aload_n rfl rfl rfl
 (vt_getf rfl rfl rfl
 (vt_iload_n rfl rfl
 (vt_icmp rfl (fun hc6 => vt_aload_n rfl rfl rfl
 (vt_getr rfl rfl rfl
 (vt_iload_n rfl rfl
 (vt_callV rfl rfl (fun _ => rfl) (fun m hm => vt_int ((((w2.2 hc4).1 hc5).1 hc6) m hm) (fun x9 H7 w8 => vt_ret rfl w8)))))) (fun hc6 => vt_aload_n rfl rfl rfl
 (vt_iload_n rfl rfl
 (vt_callV rfl rfl (fun _ => rfl) (fun m hm => vt_void ((((w2.2 hc4).1 hc5).2 hc6) m hm) (fun H10 w11 => vt_aload_n rfl rfl rfl
 (vt_iload_n rfl rfl
 (vt_putf rfl rfl rfl (vt_nm (fun H12 e13 => vt_aload_n rfl rfl rfl
 (vt_getr rfl rfl rfl
 (vt_iload_n rfl rfl
 (vt_callV rfl rfl (fun _ => rfl) (fun m hm => vt_int ((w11 H12 e13) m hm) (fun x16 H14 w15 => vt_ret rfl w15)))))))))))))))))) (fun hc5 => vt_ldc (v := (-1000000001)) rfl (by decide)
 (vt_ret rfl ((w2.2 hc4).2 hc5))))))))))))))))))
def hd_GoodsBook_findMended_0_32 (P : cm_G) (N : Nat) (H : fl_H) (a1 : Int) (a2 : Int) (Q : Option Int → fl_H → Prop) : Prop := ∀ lv : cm_Lv, cm_nth lv 0 = some (some (.index 0)) → cm_nth lv 1 = some (some (fl_t a1)) → cm_nth lv 2 = some (some (fl_t a2)) → vt P N cm_m145 32 lv [] H Q
theorem vh_GoodsBook_findMended_0_32 {X : Term} {xs : List Int32} {N : Nat} {H : fl_H} {a1 : Int} {a2 : Int} {Q : Option Int → fl_H → Prop} (W : ((6 ≤ fl_w a2) → Q none H) ∧ (¬ (6 ≤ fl_w a2) → ∀ m, m < N → ck (cm_pg X xs) m cm_m60 [.index 79, fl_t (-1000000000), fl_t a1, fl_t a2] H (fun r H2 => ∃ x4, r = some x4 ∧ ((fl_w x4 = 0 → ∀ m, m < N → hd_GoodsBook_findMended_0_32 (cm_pg X xs) m H2 a1 (a2 + 1) Q) ∧ (¬ fl_w x4 = 0 → ∀ m, m < N → ck (cm_pg X xs) m cm_m1 [.index 92, .index 81, fl_t (H2 79 4), fl_t a2] H2 (fun r H7 => r = none ∧ (Q none H7))))))) : hd_GoodsBook_findMended_0_32 (cm_pg X xs) N H a1 a2 Q :=
 fun lv h0 h1 h2 =>
 vt_iload_n rfl h2
 (vt_bipush (v := 6) rfl (by decide)
 (vt_icmp rfl (fun hc1 => vt_retv rfl (W.1 hc1)) (fun hc1 => vt_aload_n rfl h0 rfl
 (vt_getr rfl rfl rfl
 (vt_ldcw (v := (-1000000000)) rfl (by decide)
 (vt_iload_n rfl h1
 (vt_iload_n rfl h2
 (vt_callV rfl rfl (fun _ => rfl) (fun m hm => vt_int ((W.2 hc1) m hm) (fun x4 H2 w3 => vt_ifcN rfl (fun hc5 => vt_aload_n rfl h0 rfl
 (vt_getr rfl rfl rfl
 (vt_aload_n rfl h0 rfl
 (vt_getr rfl rfl rfl
 (vt_getr rfl rfl rfl
 (vt_aload_n rfl h0 rfl
 (vt_getr rfl rfl rfl
 (vt_getf rfl rfl rfl
 (vt_iload_n rfl h2
 (vt_callV rfl rfl (fun _ => rfl) (fun m hm => vt_void ((w3.2 hc5) m hm) (fun H7 w8 => vt_retv rfl w8)))))))))))) (fun hc5 => vt_goto rfl
 (vt_iincA rfl h2 (fun hl6 => vt_gotoS rfl (fun m hm => ((w3.1 hc5) m hm) _ (fl_lsn (by decide) h0) (fl_lsn (by decide) h1) (fl_lse hl6)))))))))))))))
theorem ve_GoodsBook_findMended_0 {X : Term} {xs : List Int32} {N : Nat} {H : fl_H} {a1 : Int} {Q : Option Int → fl_H → Prop} (W : ∀ m, m < N → ck (cm_pg X xs) m cm_m13 [.index 69, fl_t (-1), fl_t (-1)] H (fun r H1 => r = none ∧ (∀ H3, H3 = fl_cp H1 19 80 6 → (hd_GoodsBook_findMended_0_32 (cm_pg X xs) N H3 a1 0 Q))))  : ck (cm_pg X xs) N cm_m145 [.index 0, fl_t a1] H Q :=
  vt_aload_n rfl rfl rfl
 (vt_getr rfl rfl rfl
 (vt_iconst rfl
 (vt_iconst rfl
 (vt_callV rfl rfl (fun _ => rfl) (fun m hm => vt_void (W m hm) (fun H1 w2 => vt_aload_n rfl rfl rfl
 (vt_getr rfl rfl rfl
 (vt_getr rfl rfl rfl
 (vt_iconst rfl
 (vt_aload_n rfl rfl rfl
 (vt_getr rfl rfl rfl
 (vt_getr rfl rfl rfl
 (vt_iconst rfl
 (vt_bipush (v := 6) rfl (by decide)
 (vt_copy (n := 6) rfl rfl rfl rfl rfl rfl (vt_nm (fun H3 e4 => vt_iconst rfl
 (vt_istore_n rfl
 ((w2 H3 e4) _ rfl rfl rfl)))))))))))))))))))
theorem ve_Answer_keep_92_81 {X : Term} {xs : List Int32} {N : Nat} {H : fl_H} {a2 a3 : Int} {Q : Option Int → fl_H → Prop} (W : ∀ H1, H1 = fl_cp H 81 93 6 → (∀ H3, H3 = fl_up H1 92 2 a2 → (∀ H5, H5 = fl_up H3 92 3 a3 → (∀ H7, H7 = fl_up H5 92 0 1 → (Q none H7)))))  : ck (cm_pg X xs) N cm_m1 [.index 92, .index 81, fl_t a2, fl_t a3] H Q :=
  vt_aload_n rfl rfl rfl
 (vt_iconst rfl
 (vt_aload_n rfl rfl rfl
 (vt_getr rfl rfl rfl
 (vt_iconst rfl
 (vt_bipush (v := 6) rfl (by decide)
 (vt_copy (n := 6) rfl rfl rfl rfl rfl rfl (vt_nm (fun H1 e2 => vt_aload_n rfl rfl rfl
 (vt_iload_n rfl rfl
 (vt_putf rfl rfl rfl (vt_nm (fun H3 e4 => vt_aload_n rfl rfl rfl
 (vt_iload_n rfl rfl
 (vt_putf rfl rfl rfl (vt_nm (fun H5 e6 => vt_aload_n rfl rfl rfl
 (vt_iconst rfl
 (vt_putf rfl rfl rfl (vt_nm (fun H7 e8 => vt_retv rfl ((((W H1 e2) H3 e4) H5 e6) H7 e8)))))))))))))))))))))
theorem ve_Search_seek_79 {X : Term} {xs : List Int32} {N : Nat} {H : fl_H} {a1 a2 a3 : Int} {Q : Option Int → fl_H → Prop} (W : ∀ H1, H1 = fl_up H 79 4 a1 → (∀ H3, H3 = fl_up H1 79 6 a2 → (∀ H5, H5 = fl_up H3 79 5 0 → (∀ m, m < N → ck (cm_pg X xs) m cm_m61 [.index 79] H5 (fun r H7 => r = none ∧ (∀ m, m < N → ck (cm_pg X xs) m cm_m63 [.index 79, fl_t 0, fl_t a3, fl_t 0] H7 (fun r H9 => r = none ∧ (Q (some (H9 79 5)) H9))))))))  : ck (cm_pg X xs) N cm_m60 [.index 79, fl_t a1, fl_t a2, fl_t a3] H Q :=
  vt_aload_n rfl rfl rfl
 (vt_iload_n rfl rfl
 (vt_putf rfl rfl rfl (vt_nm (fun H1 e2 => vt_aload_n rfl rfl rfl
 (vt_iload_n rfl rfl
 (vt_putf rfl rfl rfl (vt_nm (fun H3 e4 => vt_aload_n rfl rfl rfl
 (vt_iconst rfl
 (vt_putf rfl rfl rfl (vt_nm (fun H5 e6 => vt_aload_n rfl rfl rfl
 (vt_callV rfl rfl (fun _ => rfl) (fun m hm => vt_void ((((W H1 e2) H3 e4) H5 e6) m hm) (fun H7 w8 => vt_aload_n rfl rfl rfl
 (vt_iconst rfl
 (vt_iload_n rfl rfl
 (vt_iconst rfl
 (vt_callS rfl rfl (fun _ => rfl) (fun m hm => vt_void (w8 m hm) (fun H9 w10 => vt_aload_n rfl rfl rfl
 (vt_getf rfl rfl rfl
 (vt_ret rfl w10)))))))))))))))))))))))
def hd_Search_decide_79_64 (P : cm_G) (N : Nat) (H : fl_H) (a1 : Int) (a2 : Int) (a3 : Int) (a5 : Int) (a6 : Int) (a7 : Int) (Q : Option Int → fl_H → Prop) : Prop := ∀ lv : cm_Lv, cm_nth lv 0 = some (some (.index 79)) → cm_nth lv 1 = some (some (fl_t a1)) → cm_nth lv 2 = some (some (fl_t a2)) → cm_nth lv 3 = some (some (fl_t a3)) → cm_nth lv 4 = some (some (.index 69)) → cm_nth lv 5 = some (some (fl_t a5)) → cm_nth lv 6 = some (some (fl_t a6)) → cm_nth lv 7 = some (some (fl_t a7)) → vt P N cm_m63 64 lv [] H Q
theorem vh_Search_decide_79_64 {X : Term} {xs : List Int32} {N : Nat} {H : fl_H} {a1 : Int} {a2 : Int} {a3 : Int} {a5 : Int} {a6 : Int} {a7 : Int} {Q : Option Int → fl_H → Prop} (W : ((fl_w a6 < fl_w a7) → ∀ m, m < N → ck (cm_pg X xs) m cm_m17 [.index 69, fl_t a1, fl_t 0] H (fun r H2 => r = none ∧ (Q none H2))) ∧ (¬ (fl_w a6 < fl_w a7) → (fl_w a5 = 0 → (0 ≤ fl_w a1 ∧ fl_w a1 < 6 → (fl_w a7 = fl_w (H 80 (fl_w a1).toNat) → ((0 ≤ fl_w a2) → ∀ m, m < N → ck (cm_pg X xs) m cm_m17 [.index 69, fl_t a1, fl_t a7] H (fun r H9 => r = none ∧ (∀ m, m < N → ck (cm_pg X xs) m cm_m64 [.index 79, fl_t a1] H9 (fun r H11 => ∃ x13, r = some x13 ∧ ((fl_w x13 = 0 → ∀ m, m < N → hd_Search_decide_79_64 (cm_pg X xs) m H11 a1 a2 a3 a5 a6 (a7 + 1) Q) ∧ (¬ fl_w x13 = 0 → ∀ m, m < N → ck (cm_pg X xs) m cm_m65 [.index 79, fl_t a1] H11 (fun r H16 => ∃ x18, r = some x18 ∧ (∀ m, m < N → ck (cm_pg X xs) m cm_m20 [.index 69, fl_t (a1 + 1)] H16 (fun r H20 => ∃ x22, r = some x22 ∧ (∀ m, m < N → ck (cm_pg X xs) m cm_m22 [.index 69, fl_t (a1 + 1)] H20 (fun r H23 => ∃ x25, r = some x25 ∧ ((0 ≤ fl_w (a1 + 1) ∧ fl_w (a1 + 1) < 7 → ((fl_w (((x22 + x25) + (a3 + x18)) + (H23 84 (fl_w (a1 + 1)).toNat)) ≤ fl_w (H23 79 4)) → ∀ m, m < N → hd_Search_decide_79_64 (cm_pg X xs) m H23 a1 a2 a3 a5 a6 (a7 + 1) Q) ∧ (¬ (fl_w (((x22 + x25) + (a3 + x18)) + (H23 84 (fl_w (a1 + 1)).toNat)) ≤ fl_w (H23 79 4)) → ∀ m, m < N → ck (cm_pg X xs) m cm_m63 [.index 79, fl_t (a1 + 1), fl_t a2, fl_t (a3 + x18)] H23 (fun r H30 => r = none ∧ (∀ m, m < N → hd_Search_decide_79_64 (cm_pg X xs) m H30 a1 a2 a3 a5 a6 (a7 + 1) Q)))))))))))))))) ∧ (¬ (0 ≤ fl_w a2) → ∀ m, m < N → hd_Search_decide_79_64 (cm_pg X xs) m H a1 a2 a3 a5 a6 (a7 + 1) Q)) ∧ (¬ fl_w a7 = fl_w (H 80 (fl_w a1).toNat) → ((0 ≤ fl_w (a2 - 1)) → ∀ m, m < N → ck (cm_pg X xs) m cm_m17 [.index 69, fl_t a1, fl_t a7] H (fun r H36 => r = none ∧ (∀ m, m < N → ck (cm_pg X xs) m cm_m64 [.index 79, fl_t a1] H36 (fun r H38 => ∃ x40, r = some x40 ∧ ((fl_w x40 = 0 → ∀ m, m < N → hd_Search_decide_79_64 (cm_pg X xs) m H38 a1 a2 a3 a5 a6 (a7 + 1) Q) ∧ (¬ fl_w x40 = 0 → ∀ m, m < N → ck (cm_pg X xs) m cm_m65 [.index 79, fl_t a1] H38 (fun r H43 => ∃ x45, r = some x45 ∧ (∀ m, m < N → ck (cm_pg X xs) m cm_m20 [.index 69, fl_t (a1 + 1)] H43 (fun r H47 => ∃ x49, r = some x49 ∧ (∀ m, m < N → ck (cm_pg X xs) m cm_m22 [.index 69, fl_t (a1 + 1)] H47 (fun r H50 => ∃ x52, r = some x52 ∧ ((0 ≤ fl_w (a1 + 1) ∧ fl_w (a1 + 1) < 7 → ((fl_w (((x49 + x52) + (a3 + x45)) + (H50 84 (fl_w (a1 + 1)).toNat)) ≤ fl_w (H50 79 4)) → ∀ m, m < N → hd_Search_decide_79_64 (cm_pg X xs) m H50 a1 a2 a3 a5 a6 (a7 + 1) Q) ∧ (¬ (fl_w (((x49 + x52) + (a3 + x45)) + (H50 84 (fl_w (a1 + 1)).toNat)) ≤ fl_w (H50 79 4)) → ∀ m, m < N → ck (cm_pg X xs) m cm_m63 [.index 79, fl_t (a1 + 1), fl_t (a2 - 1), fl_t (a3 + x45)] H50 (fun r H57 => r = none ∧ (∀ m, m < N → hd_Search_decide_79_64 (cm_pg X xs) m H57 a1 a2 a3 a5 a6 (a7 + 1) Q)))))))))))))))) ∧ (¬ (0 ≤ fl_w (a2 - 1)) → ∀ m, m < N → hd_Search_decide_79_64 (cm_pg X xs) m H a1 a2 a3 a5 a6 (a7 + 1) Q)))) ∧ (¬ fl_w a5 = 0 → ((0 ≤ fl_w a2) → ∀ m, m < N → ck (cm_pg X xs) m cm_m17 [.index 69, fl_t a1, fl_t a7] H (fun r H63 => r = none ∧ (∀ m, m < N → ck (cm_pg X xs) m cm_m64 [.index 79, fl_t a1] H63 (fun r H65 => ∃ x67, r = some x67 ∧ ((fl_w x67 = 0 → ∀ m, m < N → hd_Search_decide_79_64 (cm_pg X xs) m H65 a1 a2 a3 a5 a6 (a7 + 1) Q) ∧ (¬ fl_w x67 = 0 → ∀ m, m < N → ck (cm_pg X xs) m cm_m65 [.index 79, fl_t a1] H65 (fun r H70 => ∃ x72, r = some x72 ∧ (∀ m, m < N → ck (cm_pg X xs) m cm_m20 [.index 69, fl_t (a1 + 1)] H70 (fun r H74 => ∃ x76, r = some x76 ∧ (∀ m, m < N → ck (cm_pg X xs) m cm_m22 [.index 69, fl_t (a1 + 1)] H74 (fun r H77 => ∃ x79, r = some x79 ∧ ((0 ≤ fl_w (a1 + 1) ∧ fl_w (a1 + 1) < 7 → ((fl_w (((x76 + x79) + (a3 + x72)) + (H77 84 (fl_w (a1 + 1)).toNat)) ≤ fl_w (H77 79 4)) → ∀ m, m < N → hd_Search_decide_79_64 (cm_pg X xs) m H77 a1 a2 a3 a5 a6 (a7 + 1) Q) ∧ (¬ (fl_w (((x76 + x79) + (a3 + x72)) + (H77 84 (fl_w (a1 + 1)).toNat)) ≤ fl_w (H77 79 4)) → ∀ m, m < N → ck (cm_pg X xs) m cm_m63 [.index 79, fl_t (a1 + 1), fl_t a2, fl_t (a3 + x72)] H77 (fun r H84 => r = none ∧ (∀ m, m < N → hd_Search_decide_79_64 (cm_pg X xs) m H84 a1 a2 a3 a5 a6 (a7 + 1) Q)))))))))))))))) ∧ (¬ (0 ≤ fl_w a2) → ∀ m, m < N → hd_Search_decide_79_64 (cm_pg X xs) m H a1 a2 a3 a5 a6 (a7 + 1) Q)))) : hd_Search_decide_79_64 (cm_pg X xs) N H a1 a2 a3 a5 a6 a7 Q :=
 fun lv h0 h1 h2 h3 h4 h5 h6 h7 =>
 vt_iload rfl h7
 (vt_iload rfl h6
 (vt_icmp rfl (fun hc1 => vt_aload rfl h4 rfl
 (vt_iload_n rfl h1
 (vt_iconst rfl
 (vt_callV rfl rfl (fun _ => rfl) (fun m hm => vt_void ((W.1 hc1) m hm) (fun H2 w3 => vt_retv rfl w3)))))) (fun hc1 => vt_iload rfl h5
 (vt_ifcN rfl (fun hc4 => vt_iload_n rfl h2
 (vt_goto rfl
 (vt_istoreA rfl (fun hl61 => vt_iload rfl (fl_lse hl61)
 (vt_ifc rfl (fun hc62 => vt_aload rfl (fl_lsn (by decide) h4) rfl
 (vt_iload_n rfl (fl_lsn (by decide) h1)
 (vt_iload rfl (fl_lsn (by decide) h7)
 (vt_callV rfl rfl (fun _ => rfl) (fun m hm => vt_void ((((W.2 hc1).2 hc4).1 hc62) m hm) (fun H63 w64 => vt_aload_n rfl (fl_lsn (by decide) h0) rfl
 (vt_iload_n rfl (fl_lsn (by decide) h1)
 (vt_callV rfl rfl (fun _ => rfl) (fun m hm => vt_int (w64 m hm) (fun x67 H65 w66 => vt_ifcN rfl (fun hc68 => vt_iload_n rfl (fl_lsn (by decide) h3)
 (vt_aload_n rfl (fl_lsn (by decide) h0) rfl
 (vt_iload_n rfl (fl_lsn (by decide) h1)
 (vt_callV rfl rfl (fun _ => rfl) (fun m hm => vt_int ((w66.2 hc68) m hm) (fun x72 H70 w71 => vt_iadd rfl
 (vt_istoreA rfl (fun hl73 => vt_aload rfl (fl_lsn (by decide) (fl_lsn (by decide) h4)) rfl
 (vt_iload_n rfl (fl_lsn (by decide) (fl_lsn (by decide) h1))
 (vt_iconst rfl
 (vt_iadd rfl
 (vt_callV rfl rfl (fun _ => rfl) (fun m hm => vt_int (w71 m hm) (fun x76 H74 w75 => vt_aload rfl (fl_lsn (by decide) (fl_lsn (by decide) h4)) rfl
 (vt_iload_n rfl (fl_lsn (by decide) (fl_lsn (by decide) h1))
 (vt_iconst rfl
 (vt_iadd rfl
 (vt_callV rfl rfl (fun _ => rfl) (fun m hm => vt_int (w75 m hm) (fun x79 H77 w78 => vt_iadd rfl
 (vt_iload rfl (fl_lse hl73)
 (vt_iadd rfl
 (vt_aload_n rfl (fl_lsn (by decide) (fl_lsn (by decide) h0)) rfl
 (vt_getr rfl rfl rfl
 (vt_iload_n rfl (fl_lsn (by decide) (fl_lsn (by decide) h1))
 (vt_iconst rfl
 (vt_iadd rfl
 (vt_iald rfl rfl (fun hf80 => vt_iadd rfl
 (vt_istoreA rfl (fun hl81 => vt_iload rfl (fl_lse hl81)
 (vt_aload_n rfl (fl_lsn (by decide) (fl_lsn (by decide) (fl_lsn (by decide) h0))) rfl
 (vt_getf rfl rfl rfl
 (vt_icmp rfl (fun hc82 => vt_iincA rfl (fl_lsn (by decide) (fl_lsn (by decide) (fl_lsn (by decide) h7))) (fun hl83 => vt_gotoS rfl (fun m hm => (((w78 hf80).1 hc82) m hm) _ (fl_lsn (by decide) (fl_lsn (by decide) (fl_lsn (by decide) (fl_lsn (by decide) h0)))) (fl_lsn (by decide) (fl_lsn (by decide) (fl_lsn (by decide) (fl_lsn (by decide) h1)))) (fl_lsn (by decide) (fl_lsn (by decide) (fl_lsn (by decide) (fl_lsn (by decide) h2)))) (fl_lsn (by decide) (fl_lsn (by decide) (fl_lsn (by decide) (fl_lsn (by decide) h3)))) (fl_lsn (by decide) (fl_lsn (by decide) (fl_lsn (by decide) (fl_lsn (by decide) h4)))) (fl_lsn (by decide) (fl_lsn (by decide) (fl_lsn (by decide) (fl_lsn (by decide) h5)))) (fl_lsn (by decide) (fl_lsn (by decide) (fl_lsn (by decide) (fl_lsn (by decide) h6)))) (fl_lse hl83)))) (fun hc82 => vt_aload_n rfl (fl_lsn (by decide) (fl_lsn (by decide) (fl_lsn (by decide) h0))) rfl
 (vt_iload_n rfl (fl_lsn (by decide) (fl_lsn (by decide) (fl_lsn (by decide) h1)))
 (vt_iconst rfl
 (vt_iadd rfl
 (vt_iload rfl (fl_lsn (by decide) (fl_lsn (by decide) (fl_lse hl61)))
 (vt_iload rfl (fl_lsn (by decide) (fl_lse hl73))
 (vt_callS rfl rfl (fun _ => rfl) (fun m hm => vt_void (((w78 hf80).2 hc82) m hm) (fun H84 w85 => vt_iincA rfl (fl_lsn (by decide) (fl_lsn (by decide) (fl_lsn (by decide) h7))) (fun hl86 => vt_gotoS rfl (fun m hm => (w85 m hm) _ (fl_lsn (by decide) (fl_lsn (by decide) (fl_lsn (by decide) (fl_lsn (by decide) h0)))) (fl_lsn (by decide) (fl_lsn (by decide) (fl_lsn (by decide) (fl_lsn (by decide) h1)))) (fl_lsn (by decide) (fl_lsn (by decide) (fl_lsn (by decide) (fl_lsn (by decide) h2)))) (fl_lsn (by decide) (fl_lsn (by decide) (fl_lsn (by decide) (fl_lsn (by decide) h3)))) (fl_lsn (by decide) (fl_lsn (by decide) (fl_lsn (by decide) (fl_lsn (by decide) h4)))) (fl_lsn (by decide) (fl_lsn (by decide) (fl_lsn (by decide) (fl_lsn (by decide) h5)))) (fl_lsn (by decide) (fl_lsn (by decide) (fl_lsn (by decide) (fl_lsn (by decide) h6)))) (fl_lse hl86)))))))))))))))))))))))))))))))))))))))))))))) (fun hc68 => vt_goto rfl
 (vt_iincA rfl (fl_lsn (by decide) h7) (fun hl69 => vt_gotoS rfl (fun m hm => ((w66.1 hc68) m hm) _ (fl_lsn (by decide) (fl_lsn (by decide) h0)) (fl_lsn (by decide) (fl_lsn (by decide) h1)) (fl_lsn (by decide) (fl_lsn (by decide) h2)) (fl_lsn (by decide) (fl_lsn (by decide) h3)) (fl_lsn (by decide) (fl_lsn (by decide) h4)) (fl_lsn (by decide) (fl_lsn (by decide) h5)) (fl_lsn (by decide) (fl_lsn (by decide) h6)) (fl_lse hl69))))))))))))))) (fun hc62 => vt_goto rfl
 (vt_iincA rfl (fl_lsn (by decide) h7) (fun hl87 => vt_gotoS rfl (fun m hm => ((((W.2 hc1).2 hc4).2 hc62) m hm) _ (fl_lsn (by decide) (fl_lsn (by decide) h0)) (fl_lsn (by decide) (fl_lsn (by decide) h1)) (fl_lsn (by decide) (fl_lsn (by decide) h2)) (fl_lsn (by decide) (fl_lsn (by decide) h3)) (fl_lsn (by decide) (fl_lsn (by decide) h4)) (fl_lsn (by decide) (fl_lsn (by decide) h5)) (fl_lsn (by decide) (fl_lsn (by decide) h6)) (fl_lse hl87)))))))))) (fun hc4 => vt_iload rfl h7
 (vt_aload_n rfl h0 rfl
 (vt_getr rfl rfl rfl
 (vt_iload_n rfl h1
 (vt_iald rfl rfl (fun hf5 => vt_icmpN rfl (fun hc6 => vt_iload_n rfl h2
 (vt_iconst rfl
 (vt_isub rfl
 (vt_istoreA rfl (fun hl34 => vt_iload rfl (fl_lse hl34)
 (vt_ifc rfl (fun hc35 => vt_aload rfl (fl_lsn (by decide) h4) rfl
 (vt_iload_n rfl (fl_lsn (by decide) h1)
 (vt_iload rfl (fl_lsn (by decide) h7)
 (vt_callV rfl rfl (fun _ => rfl) (fun m hm => vt_void ((((((W.2 hc1).1 hc4) hf5).2 hc6).1 hc35) m hm) (fun H36 w37 => vt_aload_n rfl (fl_lsn (by decide) h0) rfl
 (vt_iload_n rfl (fl_lsn (by decide) h1)
 (vt_callV rfl rfl (fun _ => rfl) (fun m hm => vt_int (w37 m hm) (fun x40 H38 w39 => vt_ifcN rfl (fun hc41 => vt_iload_n rfl (fl_lsn (by decide) h3)
 (vt_aload_n rfl (fl_lsn (by decide) h0) rfl
 (vt_iload_n rfl (fl_lsn (by decide) h1)
 (vt_callV rfl rfl (fun _ => rfl) (fun m hm => vt_int ((w39.2 hc41) m hm) (fun x45 H43 w44 => vt_iadd rfl
 (vt_istoreA rfl (fun hl46 => vt_aload rfl (fl_lsn (by decide) (fl_lsn (by decide) h4)) rfl
 (vt_iload_n rfl (fl_lsn (by decide) (fl_lsn (by decide) h1))
 (vt_iconst rfl
 (vt_iadd rfl
 (vt_callV rfl rfl (fun _ => rfl) (fun m hm => vt_int (w44 m hm) (fun x49 H47 w48 => vt_aload rfl (fl_lsn (by decide) (fl_lsn (by decide) h4)) rfl
 (vt_iload_n rfl (fl_lsn (by decide) (fl_lsn (by decide) h1))
 (vt_iconst rfl
 (vt_iadd rfl
 (vt_callV rfl rfl (fun _ => rfl) (fun m hm => vt_int (w48 m hm) (fun x52 H50 w51 => vt_iadd rfl
 (vt_iload rfl (fl_lse hl46)
 (vt_iadd rfl
 (vt_aload_n rfl (fl_lsn (by decide) (fl_lsn (by decide) h0)) rfl
 (vt_getr rfl rfl rfl
 (vt_iload_n rfl (fl_lsn (by decide) (fl_lsn (by decide) h1))
 (vt_iconst rfl
 (vt_iadd rfl
 (vt_iald rfl rfl (fun hf53 => vt_iadd rfl
 (vt_istoreA rfl (fun hl54 => vt_iload rfl (fl_lse hl54)
 (vt_aload_n rfl (fl_lsn (by decide) (fl_lsn (by decide) (fl_lsn (by decide) h0))) rfl
 (vt_getf rfl rfl rfl
 (vt_icmp rfl (fun hc55 => vt_iincA rfl (fl_lsn (by decide) (fl_lsn (by decide) (fl_lsn (by decide) h7))) (fun hl56 => vt_gotoS rfl (fun m hm => (((w51 hf53).1 hc55) m hm) _ (fl_lsn (by decide) (fl_lsn (by decide) (fl_lsn (by decide) (fl_lsn (by decide) h0)))) (fl_lsn (by decide) (fl_lsn (by decide) (fl_lsn (by decide) (fl_lsn (by decide) h1)))) (fl_lsn (by decide) (fl_lsn (by decide) (fl_lsn (by decide) (fl_lsn (by decide) h2)))) (fl_lsn (by decide) (fl_lsn (by decide) (fl_lsn (by decide) (fl_lsn (by decide) h3)))) (fl_lsn (by decide) (fl_lsn (by decide) (fl_lsn (by decide) (fl_lsn (by decide) h4)))) (fl_lsn (by decide) (fl_lsn (by decide) (fl_lsn (by decide) (fl_lsn (by decide) h5)))) (fl_lsn (by decide) (fl_lsn (by decide) (fl_lsn (by decide) (fl_lsn (by decide) h6)))) (fl_lse hl56)))) (fun hc55 => vt_aload_n rfl (fl_lsn (by decide) (fl_lsn (by decide) (fl_lsn (by decide) h0))) rfl
 (vt_iload_n rfl (fl_lsn (by decide) (fl_lsn (by decide) (fl_lsn (by decide) h1)))
 (vt_iconst rfl
 (vt_iadd rfl
 (vt_iload rfl (fl_lsn (by decide) (fl_lsn (by decide) (fl_lse hl34)))
 (vt_iload rfl (fl_lsn (by decide) (fl_lse hl46))
 (vt_callS rfl rfl (fun _ => rfl) (fun m hm => vt_void (((w51 hf53).2 hc55) m hm) (fun H57 w58 => vt_iincA rfl (fl_lsn (by decide) (fl_lsn (by decide) (fl_lsn (by decide) h7))) (fun hl59 => vt_gotoS rfl (fun m hm => (w58 m hm) _ (fl_lsn (by decide) (fl_lsn (by decide) (fl_lsn (by decide) (fl_lsn (by decide) h0)))) (fl_lsn (by decide) (fl_lsn (by decide) (fl_lsn (by decide) (fl_lsn (by decide) h1)))) (fl_lsn (by decide) (fl_lsn (by decide) (fl_lsn (by decide) (fl_lsn (by decide) h2)))) (fl_lsn (by decide) (fl_lsn (by decide) (fl_lsn (by decide) (fl_lsn (by decide) h3)))) (fl_lsn (by decide) (fl_lsn (by decide) (fl_lsn (by decide) (fl_lsn (by decide) h4)))) (fl_lsn (by decide) (fl_lsn (by decide) (fl_lsn (by decide) (fl_lsn (by decide) h5)))) (fl_lsn (by decide) (fl_lsn (by decide) (fl_lsn (by decide) (fl_lsn (by decide) h6)))) (fl_lse hl59)))))))))))))))))))))))))))))))))))))))))))))) (fun hc41 => vt_goto rfl
 (vt_iincA rfl (fl_lsn (by decide) h7) (fun hl42 => vt_gotoS rfl (fun m hm => ((w39.1 hc41) m hm) _ (fl_lsn (by decide) (fl_lsn (by decide) h0)) (fl_lsn (by decide) (fl_lsn (by decide) h1)) (fl_lsn (by decide) (fl_lsn (by decide) h2)) (fl_lsn (by decide) (fl_lsn (by decide) h3)) (fl_lsn (by decide) (fl_lsn (by decide) h4)) (fl_lsn (by decide) (fl_lsn (by decide) h5)) (fl_lsn (by decide) (fl_lsn (by decide) h6)) (fl_lse hl42))))))))))))))) (fun hc35 => vt_goto rfl
 (vt_iincA rfl (fl_lsn (by decide) h7) (fun hl60 => vt_gotoS rfl (fun m hm => ((((((W.2 hc1).1 hc4) hf5).2 hc6).2 hc35) m hm) _ (fl_lsn (by decide) (fl_lsn (by decide) h0)) (fl_lsn (by decide) (fl_lsn (by decide) h1)) (fl_lsn (by decide) (fl_lsn (by decide) h2)) (fl_lsn (by decide) (fl_lsn (by decide) h3)) (fl_lsn (by decide) (fl_lsn (by decide) h4)) (fl_lsn (by decide) (fl_lsn (by decide) h5)) (fl_lsn (by decide) (fl_lsn (by decide) h6)) (fl_lse hl60))))))))))) (fun hc6 => vt_iload_n rfl h2
 (vt_goto rfl
 (vt_istoreA rfl (fun hl7 => vt_iload rfl (fl_lse hl7)
 (vt_ifc rfl (fun hc8 => vt_aload rfl (fl_lsn (by decide) h4) rfl
 (vt_iload_n rfl (fl_lsn (by decide) h1)
 (vt_iload rfl (fl_lsn (by decide) h7)
 (vt_callV rfl rfl (fun _ => rfl) (fun m hm => vt_void ((((((W.2 hc1).1 hc4) hf5).1 hc6).1 hc8) m hm) (fun H9 w10 => vt_aload_n rfl (fl_lsn (by decide) h0) rfl
 (vt_iload_n rfl (fl_lsn (by decide) h1)
 (vt_callV rfl rfl (fun _ => rfl) (fun m hm => vt_int (w10 m hm) (fun x13 H11 w12 => vt_ifcN rfl (fun hc14 => vt_iload_n rfl (fl_lsn (by decide) h3)
 (vt_aload_n rfl (fl_lsn (by decide) h0) rfl
 (vt_iload_n rfl (fl_lsn (by decide) h1)
 (vt_callV rfl rfl (fun _ => rfl) (fun m hm => vt_int ((w12.2 hc14) m hm) (fun x18 H16 w17 => vt_iadd rfl
 (vt_istoreA rfl (fun hl19 => vt_aload rfl (fl_lsn (by decide) (fl_lsn (by decide) h4)) rfl
 (vt_iload_n rfl (fl_lsn (by decide) (fl_lsn (by decide) h1))
 (vt_iconst rfl
 (vt_iadd rfl
 (vt_callV rfl rfl (fun _ => rfl) (fun m hm => vt_int (w17 m hm) (fun x22 H20 w21 => vt_aload rfl (fl_lsn (by decide) (fl_lsn (by decide) h4)) rfl
 (vt_iload_n rfl (fl_lsn (by decide) (fl_lsn (by decide) h1))
 (vt_iconst rfl
 (vt_iadd rfl
 (vt_callV rfl rfl (fun _ => rfl) (fun m hm => vt_int (w21 m hm) (fun x25 H23 w24 => vt_iadd rfl
 (vt_iload rfl (fl_lse hl19)
 (vt_iadd rfl
 (vt_aload_n rfl (fl_lsn (by decide) (fl_lsn (by decide) h0)) rfl
 (vt_getr rfl rfl rfl
 (vt_iload_n rfl (fl_lsn (by decide) (fl_lsn (by decide) h1))
 (vt_iconst rfl
 (vt_iadd rfl
 (vt_iald rfl rfl (fun hf26 => vt_iadd rfl
 (vt_istoreA rfl (fun hl27 => vt_iload rfl (fl_lse hl27)
 (vt_aload_n rfl (fl_lsn (by decide) (fl_lsn (by decide) (fl_lsn (by decide) h0))) rfl
 (vt_getf rfl rfl rfl
 (vt_icmp rfl (fun hc28 => vt_iincA rfl (fl_lsn (by decide) (fl_lsn (by decide) (fl_lsn (by decide) h7))) (fun hl29 => vt_gotoS rfl (fun m hm => (((w24 hf26).1 hc28) m hm) _ (fl_lsn (by decide) (fl_lsn (by decide) (fl_lsn (by decide) (fl_lsn (by decide) h0)))) (fl_lsn (by decide) (fl_lsn (by decide) (fl_lsn (by decide) (fl_lsn (by decide) h1)))) (fl_lsn (by decide) (fl_lsn (by decide) (fl_lsn (by decide) (fl_lsn (by decide) h2)))) (fl_lsn (by decide) (fl_lsn (by decide) (fl_lsn (by decide) (fl_lsn (by decide) h3)))) (fl_lsn (by decide) (fl_lsn (by decide) (fl_lsn (by decide) (fl_lsn (by decide) h4)))) (fl_lsn (by decide) (fl_lsn (by decide) (fl_lsn (by decide) (fl_lsn (by decide) h5)))) (fl_lsn (by decide) (fl_lsn (by decide) (fl_lsn (by decide) (fl_lsn (by decide) h6)))) (fl_lse hl29)))) (fun hc28 => vt_aload_n rfl (fl_lsn (by decide) (fl_lsn (by decide) (fl_lsn (by decide) h0))) rfl
 (vt_iload_n rfl (fl_lsn (by decide) (fl_lsn (by decide) (fl_lsn (by decide) h1)))
 (vt_iconst rfl
 (vt_iadd rfl
 (vt_iload rfl (fl_lsn (by decide) (fl_lsn (by decide) (fl_lse hl7)))
 (vt_iload rfl (fl_lsn (by decide) (fl_lse hl19))
 (vt_callS rfl rfl (fun _ => rfl) (fun m hm => vt_void (((w24 hf26).2 hc28) m hm) (fun H30 w31 => vt_iincA rfl (fl_lsn (by decide) (fl_lsn (by decide) (fl_lsn (by decide) h7))) (fun hl32 => vt_gotoS rfl (fun m hm => (w31 m hm) _ (fl_lsn (by decide) (fl_lsn (by decide) (fl_lsn (by decide) (fl_lsn (by decide) h0)))) (fl_lsn (by decide) (fl_lsn (by decide) (fl_lsn (by decide) (fl_lsn (by decide) h1)))) (fl_lsn (by decide) (fl_lsn (by decide) (fl_lsn (by decide) (fl_lsn (by decide) h2)))) (fl_lsn (by decide) (fl_lsn (by decide) (fl_lsn (by decide) (fl_lsn (by decide) h3)))) (fl_lsn (by decide) (fl_lsn (by decide) (fl_lsn (by decide) (fl_lsn (by decide) h4)))) (fl_lsn (by decide) (fl_lsn (by decide) (fl_lsn (by decide) (fl_lsn (by decide) h5)))) (fl_lsn (by decide) (fl_lsn (by decide) (fl_lsn (by decide) (fl_lsn (by decide) h6)))) (fl_lse hl32)))))))))))))))))))))))))))))))))))))))))))))) (fun hc14 => vt_goto rfl
 (vt_iincA rfl (fl_lsn (by decide) h7) (fun hl15 => vt_gotoS rfl (fun m hm => ((w12.1 hc14) m hm) _ (fl_lsn (by decide) (fl_lsn (by decide) h0)) (fl_lsn (by decide) (fl_lsn (by decide) h1)) (fl_lsn (by decide) (fl_lsn (by decide) h2)) (fl_lsn (by decide) (fl_lsn (by decide) h3)) (fl_lsn (by decide) (fl_lsn (by decide) h4)) (fl_lsn (by decide) (fl_lsn (by decide) h5)) (fl_lsn (by decide) (fl_lsn (by decide) h6)) (fl_lse hl15))))))))))))))) (fun hc8 => vt_goto rfl
 (vt_iincA rfl (fl_lsn (by decide) h7) (fun hl33 => vt_gotoS rfl (fun m hm => ((((((W.2 hc1).1 hc4) hf5).1 hc6).2 hc8) m hm) _ (fl_lsn (by decide) (fl_lsn (by decide) h0)) (fl_lsn (by decide) (fl_lsn (by decide) h1)) (fl_lsn (by decide) (fl_lsn (by decide) h2)) (fl_lsn (by decide) (fl_lsn (by decide) h3)) (fl_lsn (by decide) (fl_lsn (by decide) h4)) (fl_lsn (by decide) (fl_lsn (by decide) h5)) (fl_lsn (by decide) (fl_lsn (by decide) h6)) (fl_lse hl33))))))))))))))))))))
theorem ve_Search_decide_79 {X : Term} {xs : List Int32} {N : Nat} {H : fl_H} {a1 a2 a3 : Int} {Q : Option Int → fl_H → Prop} (W : ∀ m, m < N → ck (cm_pg X xs) m cm_m15 [.index 69] H (fun r H1 => ∃ x3, r = some x3 ∧ (((fl_w a1 < fl_w x3) → (fl_w a1 = fl_w (H1 79 6) → hd_Search_decide_79_64 (cm_pg X xs) N H1 a1 a2 a3 1 0 0 Q) ∧ (¬ fl_w a1 = fl_w (H1 79 6) → hd_Search_decide_79_64 (cm_pg X xs) N H1 a1 a2 a3 0 (2 * (H1 69 2)) 0 Q)) ∧ (¬ (fl_w a1 < fl_w x3) → ∀ m, m < N → ck (cm_pg X xs) m cm_m20 [.index 69, fl_t a1] H1 (fun r H8 => ∃ x10, r = some x10 ∧ (∀ m, m < N → ck (cm_pg X xs) m cm_m66 [.index 79, fl_t (x10 + a3)] H8 (fun r H11 => r = none ∧ (Q none H11))))))))  : ck (cm_pg X xs) N cm_m63 [.index 79, fl_t a1, fl_t a2, fl_t a3] H Q :=
  vt_aload_n rfl rfl rfl
 (vt_getr rfl rfl rfl
 (vt_astore rfl rfl
 (vt_iload_n rfl rfl
 (vt_aload rfl rfl rfl
 (vt_callV rfl rfl (fun _ => rfl) (fun m hm => vt_int (W m hm) (fun x3 H1 w2 => vt_icmp rfl (fun hc4 => vt_iload_n rfl rfl
 (vt_aload_n rfl rfl rfl
 (vt_getf rfl rfl rfl
 (vt_icmpN rfl (fun hc5 => vt_iconst rfl
 (vt_istore rfl
 (vt_iload rfl rfl
 (vt_ifc (a := 0) rfl (fun _ => vt_iconst rfl
 (vt_aload rfl rfl rfl
 (vt_getf rfl rfl rfl
 (vt_imul rfl
 (vt_istore rfl
 (vt_iconst rfl
 (vt_istore rfl
 (((w2.1 hc4).2 hc5) _ rfl rfl rfl rfl rfl rfl rfl rfl)))))))) (fun hc7 => by exact absurd (show (0 : Int) = 0 by decide) hc7))))) (fun hc5 => vt_iconst rfl
 (vt_goto rfl
 (vt_istore rfl
 (vt_iload rfl rfl
 (vt_ifc (a := 1) rfl (fun hc6 => by exact absurd (show (1 : Int) = 0 from hc6) (by decide)) (fun _ => vt_iconst rfl
 (vt_goto rfl
 (vt_istore rfl
 (vt_iconst rfl
 (vt_istore rfl
 (((w2.1 hc4).1 hc5) _ rfl rfl rfl rfl rfl rfl rfl rfl))))))))))))))) (fun hc4 => vt_aload_n rfl rfl rfl
 (vt_aload rfl rfl rfl
 (vt_iload_n rfl rfl
 (vt_callV rfl rfl (fun _ => rfl) (fun m hm => vt_int ((w2.2 hc4) m hm) (fun x10 H8 w9 => vt_iload_n rfl rfl
 (vt_iadd rfl
 (vt_callV rfl rfl (fun _ => rfl) (fun m hm => vt_void (w9 m hm) (fun H11 w12 => vt_retv rfl w12)))))))))))))))))
def hd_Draft_hope_69_4 (P : cm_G) (N : Nat) (H : fl_H) (a1 : Int) (a2 : Int) (a3 : Int) (Q : Option Int → fl_H → Prop) : Prop := ∀ lv : cm_Lv, cm_nth lv 0 = some (some (.index 69)) → cm_nth lv 1 = some (some (fl_t a1)) → cm_nth lv 2 = some (some (fl_t a2)) → cm_nth lv 3 = some (some (fl_t a3)) → vt P N cm_m22 4 lv [] H Q
theorem vh_Draft_hope_69_4 {X : Term} {xs : List Int32} {N : Nat} {H : fl_H} {a1 : Int} {a2 : Int} {a3 : Int} {Q : Option Int → fl_H → Prop} (W : ((fl_w (H 3 0) ≤ fl_w a3) → Q (some a2) H) ∧ (¬ (fl_w (H 3 0) ≤ fl_w a3) → ∀ m, m < N → ck (cm_pg X xs) m cm_m23 [.index 69, fl_t a3, fl_t ((H 3 0) - a1)] H (fun r H2 => ∃ x4, r = some x4 ∧ (∀ m, m < N → hd_Draft_hope_69_4 (cm_pg X xs) m H2 a1 (a2 + x4) (a3 + 1) Q)))) : hd_Draft_hope_69_4 (cm_pg X xs) N H a1 a2 a3 Q :=
 fun lv h0 h1 h2 h3 =>
 vt_iload_n rfl h3
 (vt_aload_n rfl h0 rfl
 (vt_getr rfl rfl rfl
 (vt_getr rfl rfl rfl
 (vt_getf rfl rfl rfl
 (vt_icmp rfl (fun hc1 => vt_iload_n rfl h2
 (vt_ret rfl (W.1 hc1))) (fun hc1 => vt_iload_n rfl h2
 (vt_aload_n rfl h0 rfl
 (vt_iload_n rfl h3
 (vt_aload_n rfl h0 rfl
 (vt_getr rfl rfl rfl
 (vt_getr rfl rfl rfl
 (vt_getf rfl rfl rfl
 (vt_iload_n rfl h1
 (vt_isub rfl
 (vt_callV rfl rfl (fun _ => rfl) (fun m hm => vt_int ((W.2 hc1) m hm) (fun x4 H2 w3 => vt_iadd rfl
 (vt_istore_nA rfl (fun hl5 => vt_iincA rfl (fl_lsn (by decide) h3) (fun hl6 => vt_gotoS rfl (fun m hm => (w3 m hm) _ (fl_lsn (by decide) (fl_lsn (by decide) h0)) (fl_lsn (by decide) (fl_lsn (by decide) h1)) (fl_lsn (by decide) (fl_lse hl5)) (fl_lse hl6))))))))))))))))))))))
theorem ve_Draft_hope_69 {X : Term} {xs : List Int32} {N : Nat} {H : fl_H} {a1 : Int} {Q : Option Int → fl_H → Prop} (W : hd_Draft_hope_69_4 (cm_pg X xs) N H a1 0 a1 Q)  : ck (cm_pg X xs) N cm_m22 [.index 69, fl_t a1] H Q :=
  vt_iconst rfl
 (vt_istore_n rfl
 (vt_iload_n rfl rfl
 (vt_istore_n rfl
 (W _ rfl rfl rfl rfl))))
def hd_Draft_mostOf_69_85 (P : cm_G) (N : Nat) (H : fl_H) (a1 : Int) (a2 : Int) (a4 : Int) (a5 : Int) (a6 : Int) (a7 : Int) (a8 : Int) (Q : Option Int → fl_H → Prop) : Prop := ∀ lv : cm_Lv, cm_nth lv 0 = some (some (.index 69)) → cm_nth lv 1 = some (some (fl_t a1)) → cm_nth lv 2 = some (some (fl_t a2)) → cm_nth lv 4 = some (some (fl_t a4)) → cm_nth lv 5 = some (some (fl_t a5)) → cm_nth lv 6 = some (some (fl_t a6)) → cm_nth lv 7 = some (some (fl_t a7)) → cm_nth lv 8 = some (some (fl_t a8)) → vt P N cm_m23 85 lv [] H Q
def hd_Draft_mostOf_69_99 (P : cm_G) (N : Nat) (H : fl_H) (a1 : Int) (a2 : Int) (a4 : Int) (a5 : Int) (a6 : Int) (a7 : Int) (a8 : Int) (a9 : Int) (Q : Option Int → fl_H → Prop) : Prop := ∀ lv : cm_Lv, cm_nth lv 0 = some (some (.index 69)) → cm_nth lv 1 = some (some (fl_t a1)) → cm_nth lv 2 = some (some (fl_t a2)) → cm_nth lv 4 = some (some (fl_t a4)) → cm_nth lv 5 = some (some (fl_t a5)) → cm_nth lv 6 = some (some (fl_t a6)) → cm_nth lv 7 = some (some (fl_t a7)) → cm_nth lv 8 = some (some (fl_t a8)) → cm_nth lv 9 = some (some (fl_t a9)) → vt P N cm_m23 99 lv [] H Q
theorem vh_Draft_mostOf_69_85 {X : Term} {xs : List Int32} {N : Nat} {H : fl_H} {a1 : Int} {a2 : Int} {a4 : Int} {a5 : Int} {a6 : Int} {a7 : Int} {a8 : Int} {Q : Option Int → fl_H → Prop} (W : ((fl_w (H 69 2) ≤ fl_w a8) → Q (some a7) H) ∧ (¬ (fl_w (H 69 2) ≤ fl_w a8) → hd_Draft_mostOf_69_99 (cm_pg X xs) N H a1 a2 a4 a5 a6 a7 a8 (2 * a1) Q)) : hd_Draft_mostOf_69_85 (cm_pg X xs) N H a1 a2 a4 a5 a6 a7 a8 Q :=
 fun lv h0 h1 h2 h4 h5 h6 h7 h8 =>
 vt_iload rfl h8
 (vt_aload_n rfl h0 rfl
 (vt_getf rfl rfl rfl
 (vt_icmp rfl (fun hc1 => vt_iload rfl h7
 (vt_ret rfl (W.1 hc1))) (fun hc1 => vt_iconst rfl
 (vt_iload_n rfl h1
 (vt_imul rfl
 (vt_istoreA rfl (fun hl2 => (W.2 hc1) _ (fl_lsn (by decide) h0) (fl_lsn (by decide) h1) (fl_lsn (by decide) h2) (fl_lsn (by decide) h4) (fl_lsn (by decide) h5) (fl_lsn (by decide) h6) (fl_lsn (by decide) h7) (fl_lsn (by decide) h8) (fl_lse hl2)))))))))
theorem vh_Draft_mostOf_69_99 {X : Term} {xs : List Int32} {N : Nat} {H : fl_H} {a1 : Int} {a2 : Int} {a4 : Int} {a5 : Int} {a6 : Int} {a7 : Int} {a8 : Int} {a9 : Int} {Q : Option Int → fl_H → Prop} (W : ((fl_w ((2 * a1) + 1) < fl_w a9) → ∀ m, m < N → hd_Draft_mostOf_69_85 (cm_pg X xs) m H a1 a2 a4 a5 a6 a7 (a8 + 1) Q) ∧ (¬ (fl_w ((2 * a1) + 1) < fl_w a9) → (0 ≤ fl_w a8 ∧ fl_w a8 < 3 → ∀ m, m < N → ck (cm_pg X xs) m cm_m45 [.index 3, fl_t a9] H (fun r H4 => ∃ x6, r = some x6 ∧ (((fl_w ((H 75 (fl_w a8).toNat) + x6) ≤ 16) → (0 ≤ fl_w a8 ∧ fl_w a8 < 3 → (0 ≤ fl_w a9 ∧ fl_w a9 < 12 → (0 ≤ fl_w a8 ∧ fl_w a8 < 3 → ∀ m, m < N → hd_Draft_mostOf_69_99 (cm_pg X xs) m H4 a1 a2 a4 a5 a6 (max (fl_w a7) (fl_w (fl_div (((a4 * (H4 8 (fl_w a9).toNat)) + (a6 * (((H4 74 (fl_w a8).toNat) + a2) - 1))) * (H4 70 (fl_w a8).toNat)) a5))) a8 (a9 + 1) Q)))) ∧ (¬ (fl_w ((H 75 (fl_w a8).toNat) + x6) ≤ 16) → ∀ m, m < N → hd_Draft_mostOf_69_99 (cm_pg X xs) m H4 a1 a2 a4 a5 a6 a7 a8 (a9 + 1) Q)))))) : hd_Draft_mostOf_69_99 (cm_pg X xs) N H a1 a2 a4 a5 a6 a7 a8 a9 Q :=
 fun lv h0 h1 h2 h4 h5 h6 h7 h8 h9 =>
 vt_iload rfl h9
 (vt_iconst rfl
 (vt_iload_n rfl h1
 (vt_imul rfl
 (vt_iconst rfl
 (vt_iadd rfl
 (vt_icmp rfl (fun hc1 => vt_iincA rfl h8 (fun hl2 => vt_gotoS rfl (fun m hm => ((W.1 hc1) m hm) _ (fl_lsn (by decide) h0) (fl_lsn (by decide) h1) (fl_lsn (by decide) h2) (fl_lsn (by decide) h4) (fl_lsn (by decide) h5) (fl_lsn (by decide) h6) (fl_lsn (by decide) h7) (fl_lse hl2)))) (fun hc1 => vt_aload_n rfl h0 rfl
 (vt_getr rfl rfl rfl
 (vt_iload rfl h8
 (vt_iald rfl rfl (fun hf3 => vt_aload_n rfl h0 rfl
 (vt_getr rfl rfl rfl
 (vt_getr rfl rfl rfl
 (vt_iload rfl h9
 (vt_callV rfl rfl (fun _ => rfl) (fun m hm => vt_int (((W.2 hc1) hf3) m hm) (fun x6 H4 w5 => vt_iadd rfl
 (vt_bipush (v := 16) rfl (by decide)
 (vt_icmp rfl (fun hc7 => vt_iload rfl h6
 (vt_aload_n rfl h0 rfl
 (vt_getr rfl rfl rfl
 (vt_iload rfl h8
 (vt_iald rfl rfl (fun hf8 => vt_iload_n rfl h2
 (vt_iadd rfl
 (vt_iconst rfl
 (vt_isub rfl
 (vt_imul rfl
 (vt_istoreA rfl (fun hl9 => vt_iload rfl (fl_lsn (by decide) h7)
 (vt_iload rfl (fl_lsn (by decide) h4)
 (vt_aload_n rfl (fl_lsn (by decide) h0) rfl
 (vt_getr rfl rfl rfl
 (vt_getr rfl rfl rfl
 (vt_getr rfl rfl rfl
 (vt_iload rfl (fl_lsn (by decide) h9)
 (vt_iald rfl rfl (fun hf10 => vt_imul rfl
 (vt_iload rfl (fl_lse hl9)
 (vt_iadd rfl
 (vt_aload_n rfl (fl_lsn (by decide) h0) rfl
 (vt_getr rfl rfl rfl
 (vt_iload rfl (fl_lsn (by decide) h8)
 (vt_iald rfl rfl (fun hf11 => vt_imul rfl
 (vt_iload rfl (fl_lsn (by decide) h5)
 (vt_idiv rfl
 (vt_max rfl
 (vt_istoreA rfl (fun hl12 => vt_iincA rfl (fl_lsn (by decide) (fl_lsn (by decide) h9)) (fun hl13 => vt_gotoS rfl (fun m hm => (((((w5.1 hc7) hf8) hf10) hf11) m hm) _ (fl_lsn (by decide) (fl_lsn (by decide) (fl_lsn (by decide) h0))) (fl_lsn (by decide) (fl_lsn (by decide) (fl_lsn (by decide) h1))) (fl_lsn (by decide) (fl_lsn (by decide) (fl_lsn (by decide) h2))) (fl_lsn (by decide) (fl_lsn (by decide) (fl_lsn (by decide) h4))) (fl_lsn (by decide) (fl_lsn (by decide) (fl_lsn (by decide) h5))) (fl_lsn (by decide) (fl_lsn (by decide) (fl_lsn (by decide) h6))) (fl_lsn (by decide) (fl_lse hl12)) (fl_lsn (by decide) (fl_lsn (by decide) (fl_lsn (by decide) h8))) (fl_lse hl13))))))))))))))))))))))))))))))))))) (fun hc7 => vt_goto rfl
 (vt_iincA rfl h9 (fun hl14 => vt_gotoS rfl (fun m hm => ((w5.2 hc7) m hm) _ (fl_lsn (by decide) h0) (fl_lsn (by decide) h1) (fl_lsn (by decide) h2) (fl_lsn (by decide) h4) (fl_lsn (by decide) h5) (fl_lsn (by decide) h6) (fl_lsn (by decide) h7) (fl_lsn (by decide) h8) (fl_lse hl14))))))))))))))))))))))))
theorem ve_Draft_mostOf_69 {X : Term} {xs : List Int32} {N : Nat} {H : fl_H} {a1 a2 : Int} {Q : Option Int → fl_H → Prop} (W : (0 ≤ fl_w a1 ∧ fl_w a1 < 6 → (fl_w (H 4 (fl_w a1).toNat) = 3 → (fl_w (H 4 (fl_w a1).toNat) = 2 → (0 ≤ fl_w a1 ∧ fl_w a1 < 6 → (0 ≤ fl_w (H 5 (fl_w a1).toNat) ∧ fl_w (H 5 (fl_w a1).toNat) < 4 → (fl_w (H 4 (fl_w a1).toNat) = 1 → hd_Draft_mostOf_69_85 (cm_pg X xs) N H a1 a2 2 (max (fl_w (1 + (H 77 (fl_w (H 5 (fl_w a1).toNat)).toNat))) (fl_w 1)) (H 18 0) 0 0 Q) ∧ (¬ fl_w (H 4 (fl_w a1).toNat) = 1 → hd_Draft_mostOf_69_85 (cm_pg X xs) N H a1 a2 2 (max (fl_w (1 + (H 77 (fl_w (H 5 (fl_w a1).toNat)).toNat))) (fl_w 1)) 0 0 0 Q)))) ∧ (¬ fl_w (H 4 (fl_w a1).toNat) = 2 → (fl_w (H 4 (fl_w a1).toNat) = 1 → hd_Draft_mostOf_69_85 (cm_pg X xs) N H a1 a2 2 1 (H 18 0) 0 0 Q) ∧ (¬ fl_w (H 4 (fl_w a1).toNat) = 1 → hd_Draft_mostOf_69_85 (cm_pg X xs) N H a1 a2 2 1 0 0 0 Q))) ∧ (¬ fl_w (H 4 (fl_w a1).toNat) = 3 → (fl_w (H 4 (fl_w a1).toNat) = 2 → (0 ≤ fl_w a1 ∧ fl_w a1 < 6 → (0 ≤ fl_w (H 5 (fl_w a1).toNat) ∧ fl_w (H 5 (fl_w a1).toNat) < 4 → (fl_w (H 4 (fl_w a1).toNat) = 1 → hd_Draft_mostOf_69_85 (cm_pg X xs) N H a1 a2 1 (max (fl_w (1 + (H 77 (fl_w (H 5 (fl_w a1).toNat)).toNat))) (fl_w 1)) (H 18 0) 0 0 Q) ∧ (¬ fl_w (H 4 (fl_w a1).toNat) = 1 → hd_Draft_mostOf_69_85 (cm_pg X xs) N H a1 a2 1 (max (fl_w (1 + (H 77 (fl_w (H 5 (fl_w a1).toNat)).toNat))) (fl_w 1)) 0 0 0 Q)))) ∧ (¬ fl_w (H 4 (fl_w a1).toNat) = 2 → (fl_w (H 4 (fl_w a1).toNat) = 1 → hd_Draft_mostOf_69_85 (cm_pg X xs) N H a1 a2 1 1 (H 18 0) 0 0 Q) ∧ (¬ fl_w (H 4 (fl_w a1).toNat) = 1 → hd_Draft_mostOf_69_85 (cm_pg X xs) N H a1 a2 1 1 0 0 0 Q)))))  : ck (cm_pg X xs) N cm_m23 [.index 69, fl_t a1, fl_t a2] H Q :=
  vt_aload_n rfl rfl rfl
 (vt_getr rfl rfl rfl
 (vt_getr rfl rfl rfl
 (vt_getr rfl rfl rfl
 (vt_iload_n rfl rfl
 (vt_iald rfl rfl (fun hf1 => vt_istore_n rfl
 (vt_iload_n rfl rfl
 (vt_iconst rfl
 (vt_icmpN rfl (fun hc2 => vt_iconst rfl
 (vt_istore rfl
 (vt_iload_n rfl rfl
 (vt_iconst rfl
 (vt_icmpN rfl (fun hc8 => vt_iconst rfl
 (vt_istore rfl
 (vt_iload_n rfl rfl
 (vt_iconst rfl
 (vt_icmpN rfl (fun hc12 => vt_iconst rfl
 (vt_istore rfl
 (vt_iconst rfl
 (vt_istore rfl
 (vt_iconst rfl
 (vt_istore rfl
 (((((W hf1).2 hc2).2 hc8).2 hc12) _ rfl rfl rfl rfl rfl rfl rfl rfl))))))) (fun hc12 => vt_aload_n rfl rfl rfl
 (vt_getr rfl rfl rfl
 (vt_getr rfl rfl rfl
 (vt_iconst rfl
 (vt_ialdN 0 rfl rfl rfl
 (vt_goto rfl
 (vt_istore rfl
 (vt_iconst rfl
 (vt_istore rfl
 (vt_iconst rfl
 (vt_istore rfl
 (((((W hf1).2 hc2).2 hc8).1 hc12) _ rfl rfl rfl rfl rfl rfl rfl rfl))))))))))))))))) (fun hc8 => vt_iconst rfl
 (vt_aload_n rfl rfl rfl
 (vt_getr rfl rfl rfl
 (vt_aload_n rfl rfl rfl
 (vt_getr rfl rfl rfl
 (vt_getr rfl rfl rfl
 (vt_getr rfl rfl rfl
 (vt_iload_n rfl rfl
 (vt_iald rfl rfl (fun hf9 => vt_iald rfl rfl (fun hf10 => vt_iadd rfl
 (vt_iconst rfl
 (vt_max rfl
 (vt_goto rfl
 (vt_istore rfl
 (vt_iload_n rfl rfl
 (vt_iconst rfl
 (vt_icmpN rfl (fun hc11 => vt_iconst rfl
 (vt_istore rfl
 (vt_iconst rfl
 (vt_istore rfl
 (vt_iconst rfl
 (vt_istore rfl
 (((((((W hf1).2 hc2).1 hc8) hf9) hf10).2 hc11) _ rfl rfl rfl rfl rfl rfl rfl rfl))))))) (fun hc11 => vt_aload_n rfl rfl rfl
 (vt_getr rfl rfl rfl
 (vt_getr rfl rfl rfl
 (vt_iconst rfl
 (vt_ialdN 0 rfl rfl rfl
 (vt_goto rfl
 (vt_istore rfl
 (vt_iconst rfl
 (vt_istore rfl
 (vt_iconst rfl
 (vt_istore rfl
 (((((((W hf1).2 hc2).1 hc8) hf9) hf10).1 hc11) _ rfl rfl rfl rfl rfl rfl rfl rfl))))))))))))))))))))))))))))))))))) (fun hc2 => vt_iconst rfl
 (vt_goto rfl
 (vt_istore rfl
 (vt_iload_n rfl rfl
 (vt_iconst rfl
 (vt_icmpN rfl (fun hc3 => vt_iconst rfl
 (vt_istore rfl
 (vt_iload_n rfl rfl
 (vt_iconst rfl
 (vt_icmpN rfl (fun hc7 => vt_iconst rfl
 (vt_istore rfl
 (vt_iconst rfl
 (vt_istore rfl
 (vt_iconst rfl
 (vt_istore rfl
 (((((W hf1).1 hc2).2 hc3).2 hc7) _ rfl rfl rfl rfl rfl rfl rfl rfl))))))) (fun hc7 => vt_aload_n rfl rfl rfl
 (vt_getr rfl rfl rfl
 (vt_getr rfl rfl rfl
 (vt_iconst rfl
 (vt_ialdN 0 rfl rfl rfl
 (vt_goto rfl
 (vt_istore rfl
 (vt_iconst rfl
 (vt_istore rfl
 (vt_iconst rfl
 (vt_istore rfl
 (((((W hf1).1 hc2).2 hc3).1 hc7) _ rfl rfl rfl rfl rfl rfl rfl rfl))))))))))))))))) (fun hc3 => vt_iconst rfl
 (vt_aload_n rfl rfl rfl
 (vt_getr rfl rfl rfl
 (vt_aload_n rfl rfl rfl
 (vt_getr rfl rfl rfl
 (vt_getr rfl rfl rfl
 (vt_getr rfl rfl rfl
 (vt_iload_n rfl rfl
 (vt_iald rfl rfl (fun hf4 => vt_iald rfl rfl (fun hf5 => vt_iadd rfl
 (vt_iconst rfl
 (vt_max rfl
 (vt_goto rfl
 (vt_istore rfl
 (vt_iload_n rfl rfl
 (vt_iconst rfl
 (vt_icmpN rfl (fun hc6 => vt_iconst rfl
 (vt_istore rfl
 (vt_iconst rfl
 (vt_istore rfl
 (vt_iconst rfl
 (vt_istore rfl
 (((((((W hf1).1 hc2).1 hc3) hf4) hf5).2 hc6) _ rfl rfl rfl rfl rfl rfl rfl rfl))))))) (fun hc6 => vt_aload_n rfl rfl rfl
 (vt_getr rfl rfl rfl
 (vt_getr rfl rfl rfl
 (vt_iconst rfl
 (vt_ialdN 0 rfl rfl rfl
 (vt_goto rfl
 (vt_istore rfl
 (vt_iconst rfl
 (vt_istore rfl
 (vt_iconst rfl
 (vt_istore rfl
 (((((((W hf1).1 hc2).1 hc3) hf4) hf5).1 hc6) _ rfl rfl rfl rfl rfl rfl rfl rfl)))))))))))))))))))))))))))))))))))))))))))))
theorem ve_Goods_area_3 {X : Term} {xs : List Int32} {N : Nat} {H : fl_H} {a1 : Int} {Q : Option Int → fl_H → Prop} (W : (0 ≤ fl_w a1 ∧ fl_w a1 < 12 → (0 ≤ fl_w a1 ∧ fl_w a1 < 12 → Q (some ((H 6 (fl_w a1).toNat) * (H 7 (fl_w a1).toNat))) H)))  : ck (cm_pg X xs) N cm_m45 [.index 3, fl_t a1] H Q :=
  vt_aload_n rfl rfl rfl
 (vt_getr rfl rfl rfl
 (vt_iload_n rfl rfl
 (vt_iald rfl rfl (fun hf1 => vt_aload_n rfl rfl rfl
 (vt_getr rfl rfl rfl
 (vt_iload_n rfl rfl
 (vt_iald rfl rfl (fun hf2 => vt_imul rfl
 (vt_ret rfl ((W hf1) hf2))))))))))
def hd_Search_gainOf_79_9 (P : cm_G) (N : Nat) (H : fl_H) (a1 : Int) (a2 : Int) (a3 : Int) (Q : Option Int → fl_H → Prop) : Prop := ∀ lv : cm_Lv, cm_nth lv 0 = some (some (.index 79)) → cm_nth lv 1 = some (some (fl_t a1)) → cm_nth lv 2 = some (some (fl_t a2)) → cm_nth lv 3 = some (some (fl_t a3)) → vt P N cm_m65 9 lv [] H Q
theorem vh_Search_gainOf_79_9 {X : Term} {xs : List Int32} {N : Nat} {H : fl_H} {a1 : Int} {a2 : Int} {a3 : Int} {Q : Option Int → fl_H → Prop} (W : (0 ≤ fl_w (a1 + 1) ∧ fl_w (a1 + 1) < 7 → ((fl_w (H 83 (fl_w (a1 + 1)).toNat) ≤ fl_w a3) → Q (some a2) H) ∧ (¬ (fl_w (H 83 (fl_w (a1 + 1)).toNat) ≤ fl_w a3) → (0 ≤ fl_w a3 ∧ fl_w a3 < 12 → ∀ m, m < N → ck (cm_pg X xs) m cm_m24 [.index 69, fl_t (H 82 (fl_w a3).toNat)] H (fun r H4 => ∃ x6, r = some x6 ∧ (∀ m, m < N → hd_Search_gainOf_79_9 (cm_pg X xs) m H4 a1 (a2 + x6) (a3 + 1) Q)))))) : hd_Search_gainOf_79_9 (cm_pg X xs) N H a1 a2 a3 Q :=
 fun lv h0 h1 h2 h3 =>
 vt_iload_n rfl h3
 (vt_aload_n rfl h0 rfl
 (vt_getr rfl rfl rfl
 (vt_iload_n rfl h1
 (vt_iconst rfl
 (vt_iadd rfl
 (vt_iald rfl rfl (fun hf1 => vt_icmp rfl (fun hc2 => vt_iload_n rfl h2
 (vt_ret rfl ((W hf1).1 hc2))) (fun hc2 => vt_iload_n rfl h2
 (vt_aload_n rfl h0 rfl
 (vt_getr rfl rfl rfl
 (vt_aload_n rfl h0 rfl
 (vt_getr rfl rfl rfl
 (vt_iload_n rfl h3
 (vt_iald rfl rfl (fun hf3 => vt_callV rfl rfl (fun _ => rfl) (fun m hm => vt_int ((((W hf1).2 hc2) hf3) m hm) (fun x6 H4 w5 => vt_iadd rfl
 (vt_istore_nA rfl (fun hl7 => vt_iincA rfl (fl_lsn (by decide) h3) (fun hl8 => vt_gotoS rfl (fun m hm => (w5 m hm) _ (fl_lsn (by decide) (fl_lsn (by decide) h0)) (fl_lsn (by decide) (fl_lsn (by decide) h1)) (fl_lsn (by decide) (fl_lse hl7)) (fl_lse hl8))))))))))))))))))))))
theorem ve_Search_gainOf_79 {X : Term} {xs : List Int32} {N : Nat} {H : fl_H} {a1 : Int} {Q : Option Int → fl_H → Prop} (W : (0 ≤ fl_w a1 ∧ fl_w a1 < 7 → hd_Search_gainOf_79_9 (cm_pg X xs) N H a1 0 (H 83 (fl_w a1).toNat) Q))  : ck (cm_pg X xs) N cm_m65 [.index 79, fl_t a1] H Q :=
  vt_iconst rfl
 (vt_istore_n rfl
 (vt_aload_n rfl rfl rfl
 (vt_getr rfl rfl rfl
 (vt_iload_n rfl rfl
 (vt_iald rfl rfl (fun hf1 => vt_istore_n rfl
 ((W hf1) _ rfl rfl rfl rfl)))))))
theorem ve_Draft_gain_69 {X : Term} {xs : List Int32} {N : Nat} {H : fl_H} {a1 : Int} {Q : Option Int → fl_H → Prop} (W : (0 ≤ fl_w a1 ∧ fl_w a1 < 12 → (0 ≤ fl_w (H 11 (fl_w a1).toNat) ∧ fl_w (H 11 (fl_w a1).toNat) < 6 → (0 ≤ fl_w a1 ∧ fl_w a1 < 12 → (0 ≤ fl_w (H 12 (fl_w a1).toNat) ∧ fl_w (H 12 (fl_w a1).toNat) < 6 → ((fl_w (H 72 (fl_w (H 11 (fl_w a1).toNat)).toNat) = (-1)) → Q (some 0) H) ∧ (¬ (fl_w (H 72 (fl_w (H 11 (fl_w a1).toNat)).toNat) = (-1)) → (fl_w (H 72 (fl_w (H 12 (fl_w a1).toNat)).toNat) = (-1) → Q (some 0) H) ∧ (¬ fl_w (H 72 (fl_w (H 12 (fl_w a1).toNat)).toNat) = (-1) → (0 ≤ fl_w a1 ∧ fl_w a1 < 12 → (fl_w (H 10 (fl_w a1).toNat) = 0 → ((fl_w (H 72 (fl_w (H 11 (fl_w a1).toNat)).toNat) = fl_w (H 72 (fl_w (H 12 (fl_w a1).toNat)).toNat)) → (fl_w (H 10 (fl_w a1).toNat) = 1 → (fl_w (min (fl_w (H 72 (fl_w (H 11 (fl_w a1).toNat)).toNat)) (fl_w (H 72 (fl_w (H 12 (fl_w a1).toNat)).toNat))) = 1 → ((fl_w (max (fl_w (H 72 (fl_w (H 11 (fl_w a1).toNat)).toNat)) (fl_w (H 72 (fl_w (H 12 (fl_w a1).toNat)).toNat))) = 2) → (0 ≤ fl_w a1 ∧ fl_w a1 < 12 → (0 ≤ fl_w (H 72 (fl_w (H 11 (fl_w a1).toNat)).toNat) ∧ fl_w (H 72 (fl_w (H 11 (fl_w a1).toNat)).toNat) < 3 → (0 ≤ fl_w (H 72 (fl_w (H 12 (fl_w a1).toNat)).toNat) ∧ fl_w (H 72 (fl_w (H 12 (fl_w a1).toNat)).toNat) < 3 → Q (some ((H 13 (fl_w a1).toNat) * (min (fl_w (H 70 (fl_w (H 72 (fl_w (H 11 (fl_w a1).toNat)).toNat)).toNat)) (fl_w (H 70 (fl_w (H 72 (fl_w (H 12 (fl_w a1).toNat)).toNat)).toNat))))) H)))) ∧ (¬ (fl_w (max (fl_w (H 72 (fl_w (H 11 (fl_w a1).toNat)).toNat)) (fl_w (H 72 (fl_w (H 12 (fl_w a1).toNat)).toNat))) = 2) → Q (some 0) H)) ∧ (¬ fl_w (min (fl_w (H 72 (fl_w (H 11 (fl_w a1).toNat)).toNat)) (fl_w (H 72 (fl_w (H 12 (fl_w a1).toNat)).toNat))) = 1 → Q (some 0) H)) ∧ (¬ fl_w (H 10 (fl_w a1).toNat) = 1 → (0 ≤ fl_w a1 ∧ fl_w a1 < 12 → (0 ≤ fl_w (H 72 (fl_w (H 11 (fl_w a1).toNat)).toNat) ∧ fl_w (H 72 (fl_w (H 11 (fl_w a1).toNat)).toNat) < 3 → (0 ≤ fl_w (H 72 (fl_w (H 12 (fl_w a1).toNat)).toNat) ∧ fl_w (H 72 (fl_w (H 12 (fl_w a1).toNat)).toNat) < 3 → Q (some ((H 13 (fl_w a1).toNat) * (min (fl_w (H 70 (fl_w (H 72 (fl_w (H 11 (fl_w a1).toNat)).toNat)).toNat)) (fl_w (H 70 (fl_w (H 72 (fl_w (H 12 (fl_w a1).toNat)).toNat)).toNat))))) H))))) ∧ (¬ (fl_w (H 72 (fl_w (H 11 (fl_w a1).toNat)).toNat) = fl_w (H 72 (fl_w (H 12 (fl_w a1).toNat)).toNat)) → Q (some 0) H)) ∧ (¬ fl_w (H 10 (fl_w a1).toNat) = 0 → (fl_w (H 10 (fl_w a1).toNat) = 1 → (fl_w (min (fl_w (H 72 (fl_w (H 11 (fl_w a1).toNat)).toNat)) (fl_w (H 72 (fl_w (H 12 (fl_w a1).toNat)).toNat))) = 1 → ((fl_w (max (fl_w (H 72 (fl_w (H 11 (fl_w a1).toNat)).toNat)) (fl_w (H 72 (fl_w (H 12 (fl_w a1).toNat)).toNat))) = 2) → (0 ≤ fl_w a1 ∧ fl_w a1 < 12 → (0 ≤ fl_w (H 72 (fl_w (H 11 (fl_w a1).toNat)).toNat) ∧ fl_w (H 72 (fl_w (H 11 (fl_w a1).toNat)).toNat) < 3 → (0 ≤ fl_w (H 72 (fl_w (H 12 (fl_w a1).toNat)).toNat) ∧ fl_w (H 72 (fl_w (H 12 (fl_w a1).toNat)).toNat) < 3 → Q (some ((H 13 (fl_w a1).toNat) * (min (fl_w (H 70 (fl_w (H 72 (fl_w (H 11 (fl_w a1).toNat)).toNat)).toNat)) (fl_w (H 70 (fl_w (H 72 (fl_w (H 12 (fl_w a1).toNat)).toNat)).toNat))))) H)))) ∧ (¬ (fl_w (max (fl_w (H 72 (fl_w (H 11 (fl_w a1).toNat)).toNat)) (fl_w (H 72 (fl_w (H 12 (fl_w a1).toNat)).toNat))) = 2) → Q (some 0) H)) ∧ (¬ fl_w (min (fl_w (H 72 (fl_w (H 11 (fl_w a1).toNat)).toNat)) (fl_w (H 72 (fl_w (H 12 (fl_w a1).toNat)).toNat))) = 1 → Q (some 0) H)) ∧ (¬ fl_w (H 10 (fl_w a1).toNat) = 1 → (0 ≤ fl_w a1 ∧ fl_w a1 < 12 → (0 ≤ fl_w (H 72 (fl_w (H 11 (fl_w a1).toNat)).toNat) ∧ fl_w (H 72 (fl_w (H 11 (fl_w a1).toNat)).toNat) < 3 → (0 ≤ fl_w (H 72 (fl_w (H 12 (fl_w a1).toNat)).toNat) ∧ fl_w (H 72 (fl_w (H 12 (fl_w a1).toNat)).toNat) < 3 → Q (some ((H 13 (fl_w a1).toNat) * (min (fl_w (H 70 (fl_w (H 72 (fl_w (H 11 (fl_w a1).toNat)).toNat)).toNat)) (fl_w (H 70 (fl_w (H 72 (fl_w (H 12 (fl_w a1).toNat)).toNat)).toNat))))) H)))))))))))))  : ck (cm_pg X xs) N cm_m24 [.index 69, fl_t a1] H Q :=
  vt_aload_n rfl rfl rfl
 (vt_getr rfl rfl rfl
 (vt_aload_n rfl rfl rfl
 (vt_getr rfl rfl rfl
 (vt_getr rfl rfl rfl
 (vt_getr rfl rfl rfl
 (vt_iload_n rfl rfl
 (vt_iald rfl rfl (fun hf1 => vt_iald rfl rfl (fun hf2 => vt_istore_n rfl
 (vt_aload_n rfl rfl rfl
 (vt_getr rfl rfl rfl
 (vt_aload_n rfl rfl rfl
 (vt_getr rfl rfl rfl
 (vt_getr rfl rfl rfl
 (vt_getr rfl rfl rfl
 (vt_iload_n rfl rfl
 (vt_iald rfl rfl (fun hf3 => vt_iald rfl rfl (fun hf4 => vt_istore_n rfl
 (vt_iload_n rfl rfl
 (vt_iconst rfl
 (vt_icmp rfl (fun hc5 => vt_iconst rfl
 (vt_ret rfl (((((W hf1) hf2) hf3) hf4).1 hc5))) (fun hc5 => vt_iload_n rfl rfl
 (vt_iconst rfl
 (vt_icmpN rfl (fun hc6 => vt_aload_n rfl rfl rfl
 (vt_getr rfl rfl rfl
 (vt_getr rfl rfl rfl
 (vt_getr rfl rfl rfl
 (vt_iload_n rfl rfl
 (vt_iald rfl rfl (fun hf7 => vt_istore rfl
 (vt_iload rfl rfl
 (vt_ifcN rfl (fun hc8 => vt_iload rfl rfl
 (vt_iconst rfl
 (vt_icmpN rfl (fun hc19 => vt_aload_n rfl rfl rfl
 (vt_getr rfl rfl rfl
 (vt_getr rfl rfl rfl
 (vt_getr rfl rfl rfl
 (vt_iload_n rfl rfl
 (vt_iald rfl rfl (fun hf25 => vt_aload_n rfl rfl rfl
 (vt_getr rfl rfl rfl
 (vt_iload_n rfl rfl
 (vt_iald rfl rfl (fun hf26 => vt_aload_n rfl rfl rfl
 (vt_getr rfl rfl rfl
 (vt_iload_n rfl rfl
 (vt_iald rfl rfl (fun hf27 => vt_min rfl
 (vt_imul rfl
 (vt_ret rfl ((((((((((((W hf1) hf2) hf3) hf4).2 hc5).2 hc6) hf7).2 hc8).2 hc19) hf25) hf26) hf27)))))))))))))))))) (fun hc19 => vt_iload_n rfl rfl
 (vt_iload_n rfl rfl
 (vt_min rfl
 (vt_iconst rfl
 (vt_icmpN rfl (fun hc20 => vt_iconst rfl
 (vt_ret rfl ((((((((((W hf1) hf2) hf3) hf4).2 hc5).2 hc6) hf7).2 hc8).1 hc19).2 hc20))) (fun hc20 => vt_iload_n rfl rfl
 (vt_iload_n rfl rfl
 (vt_max rfl
 (vt_iconst rfl
 (vt_icmp rfl (fun hc21 => vt_aload_n rfl rfl rfl
 (vt_getr rfl rfl rfl
 (vt_getr rfl rfl rfl
 (vt_getr rfl rfl rfl
 (vt_iload_n rfl rfl
 (vt_iald rfl rfl (fun hf22 => vt_aload_n rfl rfl rfl
 (vt_getr rfl rfl rfl
 (vt_iload_n rfl rfl
 (vt_iald rfl rfl (fun hf23 => vt_aload_n rfl rfl rfl
 (vt_getr rfl rfl rfl
 (vt_iload_n rfl rfl
 (vt_iald rfl rfl (fun hf24 => vt_min rfl
 (vt_imul rfl
 (vt_ret rfl ((((((((((((((W hf1) hf2) hf3) hf4).2 hc5).2 hc6) hf7).2 hc8).1 hc19).1 hc20).1 hc21) hf22) hf23) hf24)))))))))))))))))) (fun hc21 => vt_iconst rfl
 (vt_ret rfl (((((((((((W hf1) hf2) hf3) hf4).2 hc5).2 hc6) hf7).2 hc8).1 hc19).1 hc20).2 hc21)))))))))))))))) (fun hc8 => vt_iload_n rfl rfl
 (vt_iload_n rfl rfl
 (vt_icmp rfl (fun hc9 => vt_iload rfl rfl
 (vt_iconst rfl
 (vt_icmpN rfl (fun hc10 => vt_aload_n rfl rfl rfl
 (vt_getr rfl rfl rfl
 (vt_getr rfl rfl rfl
 (vt_getr rfl rfl rfl
 (vt_iload_n rfl rfl
 (vt_iald rfl rfl (fun hf16 => vt_aload_n rfl rfl rfl
 (vt_getr rfl rfl rfl
 (vt_iload_n rfl rfl
 (vt_iald rfl rfl (fun hf17 => vt_aload_n rfl rfl rfl
 (vt_getr rfl rfl rfl
 (vt_iload_n rfl rfl
 (vt_iald rfl rfl (fun hf18 => vt_min rfl
 (vt_imul rfl
 (vt_ret rfl (((((((((((((W hf1) hf2) hf3) hf4).2 hc5).2 hc6) hf7).1 hc8).1 hc9).2 hc10) hf16) hf17) hf18)))))))))))))))))) (fun hc10 => vt_iload_n rfl rfl
 (vt_iload_n rfl rfl
 (vt_min rfl
 (vt_iconst rfl
 (vt_icmpN rfl (fun hc11 => vt_iconst rfl
 (vt_ret rfl (((((((((((W hf1) hf2) hf3) hf4).2 hc5).2 hc6) hf7).1 hc8).1 hc9).1 hc10).2 hc11))) (fun hc11 => vt_iload_n rfl rfl
 (vt_iload_n rfl rfl
 (vt_max rfl
 (vt_iconst rfl
 (vt_icmp rfl (fun hc12 => vt_aload_n rfl rfl rfl
 (vt_getr rfl rfl rfl
 (vt_getr rfl rfl rfl
 (vt_getr rfl rfl rfl
 (vt_iload_n rfl rfl
 (vt_iald rfl rfl (fun hf13 => vt_aload_n rfl rfl rfl
 (vt_getr rfl rfl rfl
 (vt_iload_n rfl rfl
 (vt_iald rfl rfl (fun hf14 => vt_aload_n rfl rfl rfl
 (vt_getr rfl rfl rfl
 (vt_iload_n rfl rfl
 (vt_iald rfl rfl (fun hf15 => vt_min rfl
 (vt_imul rfl
 (vt_ret rfl (((((((((((((((W hf1) hf2) hf3) hf4).2 hc5).2 hc6) hf7).1 hc8).1 hc9).1 hc10).1 hc11).1 hc12) hf13) hf14) hf15)))))))))))))))))) (fun hc12 => vt_iconst rfl
 (vt_ret rfl ((((((((((((W hf1) hf2) hf3) hf4).2 hc5).2 hc6) hf7).1 hc8).1 hc9).1 hc10).1 hc11).2 hc12)))))))))))))))) (fun hc9 => vt_iconst rfl
 (vt_ret rfl (((((((((W hf1) hf2) hf3) hf4).2 hc5).2 hc6) hf7).1 hc8).2 hc9))))))))))))))) (fun hc6 => vt_iconst rfl
 (vt_ret rfl ((((((W hf1) hf2) hf3) hf4).2 hc5).1 hc6))))))))))))))))))))))))))))
def hd_Search_canStay_79_7 (P : cm_G) (N : Nat) (H : fl_H) (a1 : Int) (a2 : Int) (Q : Option Int → fl_H → Prop) : Prop := ∀ lv : cm_Lv, cm_nth lv 0 = some (some (.index 79)) → cm_nth lv 1 = some (some (fl_t a1)) → cm_nth lv 2 = some (some (fl_t a2)) → vt P N cm_m64 7 lv [] H Q
theorem vh_Search_canStay_79_7 {X : Term} {xs : List Int32} {N : Nat} {H : fl_H} {a1 : Int} {a2 : Int} {Q : Option Int → fl_H → Prop} (W : (0 ≤ fl_w (a1 + 1) ∧ fl_w (a1 + 1) < 7 → ((fl_w (H 83 (fl_w (a1 + 1)).toNat) ≤ fl_w a2) → ∀ m, m < N → ck (cm_pg X xs) m cm_m26 [.index 69, fl_t a1] H (fun r H3 => ∃ x5, r = some x5 ∧ (Q (some x5) H3))) ∧ (¬ (fl_w (H 83 (fl_w (a1 + 1)).toNat) ≤ fl_w a2) → (0 ≤ fl_w a2 ∧ fl_w a2 < 12 → ∀ m, m < N → ck (cm_pg X xs) m cm_m25 [.index 69, fl_t (H 82 (fl_w a2).toNat)] H (fun r H7 => ∃ x9, r = some x9 ∧ ((fl_w x9 = 0 → Q (some 0) H7) ∧ (¬ fl_w x9 = 0 → ∀ m, m < N → hd_Search_canStay_79_7 (cm_pg X xs) m H7 a1 (a2 + 1) Q))))))) : hd_Search_canStay_79_7 (cm_pg X xs) N H a1 a2 Q :=
 fun lv h0 h1 h2 =>
 vt_iload_n rfl h2
 (vt_aload_n rfl h0 rfl
 (vt_getr rfl rfl rfl
 (vt_iload_n rfl h1
 (vt_iconst rfl
 (vt_iadd rfl
 (vt_iald rfl rfl (fun hf1 => vt_icmp rfl (fun hc2 => vt_aload_n rfl h0 rfl
 (vt_getr rfl rfl rfl
 (vt_iload_n rfl h1
 (vt_callV rfl rfl (fun _ => rfl) (fun m hm => vt_int (((W hf1).1 hc2) m hm) (fun x5 H3 w4 => vt_ret rfl w4)))))) (fun hc2 => vt_aload_n rfl h0 rfl
 (vt_getr rfl rfl rfl
 (vt_aload_n rfl h0 rfl
 (vt_getr rfl rfl rfl
 (vt_iload_n rfl h2
 (vt_iald rfl rfl (fun hf6 => vt_callV rfl rfl (fun _ => rfl) (fun m hm => vt_int ((((W hf1).2 hc2) hf6) m hm) (fun x9 H7 w8 => vt_ifcN rfl (fun hc10 => vt_iincA rfl h2 (fun hl11 => vt_gotoS rfl (fun m hm => ((w8.2 hc10) m hm) _ (fl_lsn (by decide) h0) (fl_lsn (by decide) h1) (fl_lse hl11)))) (fun hc10 => vt_iconst rfl
 (vt_ret rfl (w8.1 hc10)))))))))))))))))))
theorem ve_Search_canStay_79 {X : Term} {xs : List Int32} {N : Nat} {H : fl_H} {a1 : Int} {Q : Option Int → fl_H → Prop} (W : (0 ≤ fl_w a1 ∧ fl_w a1 < 7 → hd_Search_canStay_79_7 (cm_pg X xs) N H a1 (H 83 (fl_w a1).toNat) Q))  : ck (cm_pg X xs) N cm_m64 [.index 79, fl_t a1] H Q :=
  vt_aload_n rfl rfl rfl
 (vt_getr rfl rfl rfl
 (vt_iload_n rfl rfl
 (vt_iald rfl rfl (fun hf1 => vt_istore_n rfl
 ((W hf1) _ rfl rfl rfl)))))
theorem ve_Draft_keeps_69 {X : Term} {xs : List Int32} {N : Nat} {H : fl_H} {a1 : Int} {Q : Option Int → fl_H → Prop} (W : (0 ≤ fl_w a1 ∧ fl_w a1 < 12 → (0 ≤ fl_w (H 11 (fl_w a1).toNat) ∧ fl_w (H 11 (fl_w a1).toNat) < 6 → (0 ≤ fl_w a1 ∧ fl_w a1 < 12 → (0 ≤ fl_w (H 12 (fl_w a1).toNat) ∧ fl_w (H 12 (fl_w a1).toNat) < 6 → (0 ≤ fl_w a1 ∧ fl_w a1 < 12 → (fl_w (H 72 (fl_w (H 11 (fl_w a1).toNat)).toNat) = (-1) → Q (some 1) H) ∧ (¬ fl_w (H 72 (fl_w (H 11 (fl_w a1).toNat)).toNat) = (-1) → (fl_w (H 72 (fl_w (H 12 (fl_w a1).toNat)).toNat) = (-1) → ((fl_w (H 10 (fl_w a1).toNat) = 3) → Q (some 0) H) ∧ (¬ (fl_w (H 10 (fl_w a1).toNat) = 3) → Q (some 1) H)) ∧ (¬ fl_w (H 72 (fl_w (H 12 (fl_w a1).toNat)).toNat) = (-1) → (fl_w (H 10 (fl_w a1).toNat) = 4 → ((fl_w (H 72 (fl_w (H 11 (fl_w a1).toNat)).toNat) = fl_w (H 72 (fl_w (H 12 (fl_w a1).toNat)).toNat)) → Q (some 0) H) ∧ (¬ (fl_w (H 72 (fl_w (H 11 (fl_w a1).toNat)).toNat) = fl_w (H 72 (fl_w (H 12 (fl_w a1).toNat)).toNat)) → Q (some 1) H)) ∧ (¬ fl_w (H 10 (fl_w a1).toNat) = 4 → (fl_w (H 10 (fl_w a1).toNat) = 5 → ((fl_w (H 72 (fl_w (H 12 (fl_w a1).toNat)).toNat) ≤ fl_w (H 72 (fl_w (H 11 (fl_w a1).toNat)).toNat)) → Q (some 0) H) ∧ (¬ (fl_w (H 72 (fl_w (H 12 (fl_w a1).toNat)).toNat) ≤ fl_w (H 72 (fl_w (H 11 (fl_w a1).toNat)).toNat)) → Q (some 1) H)) ∧ (¬ fl_w (H 10 (fl_w a1).toNat) = 5 → Q (some 1) H))))))))))  : ck (cm_pg X xs) N cm_m25 [.index 69, fl_t a1] H Q :=
  vt_aload_n rfl rfl rfl
 (vt_getr rfl rfl rfl
 (vt_aload_n rfl rfl rfl
 (vt_getr rfl rfl rfl
 (vt_getr rfl rfl rfl
 (vt_getr rfl rfl rfl
 (vt_iload_n rfl rfl
 (vt_iald rfl rfl (fun hf1 => vt_iald rfl rfl (fun hf2 => vt_istore_n rfl
 (vt_aload_n rfl rfl rfl
 (vt_getr rfl rfl rfl
 (vt_aload_n rfl rfl rfl
 (vt_getr rfl rfl rfl
 (vt_getr rfl rfl rfl
 (vt_getr rfl rfl rfl
 (vt_iload_n rfl rfl
 (vt_iald rfl rfl (fun hf3 => vt_iald rfl rfl (fun hf4 => vt_istore_n rfl
 (vt_aload_n rfl rfl rfl
 (vt_getr rfl rfl rfl
 (vt_getr rfl rfl rfl
 (vt_getr rfl rfl rfl
 (vt_iload_n rfl rfl
 (vt_iald rfl rfl (fun hf5 => vt_istore rfl
 (vt_iload_n rfl rfl
 (vt_iconst rfl
 (vt_icmpN rfl (fun hc6 => vt_iload_n rfl rfl
 (vt_iconst rfl
 (vt_icmpN rfl (fun hc7 => vt_iload rfl rfl
 (vt_iconst rfl
 (vt_icmpN rfl (fun hc9 => vt_iload rfl rfl
 (vt_iconst rfl
 (vt_icmpN rfl (fun hc11 => vt_iconst rfl
 (vt_goto rfl
 (vt_ret rfl (((((((((W hf1) hf2) hf3) hf4) hf5).2 hc6).2 hc7).2 hc9).2 hc11)))) (fun hc11 => vt_iload_n rfl rfl
 (vt_iload_n rfl rfl
 (vt_icmp rfl (fun hc12 => vt_iconst rfl
 (vt_ret rfl ((((((((((W hf1) hf2) hf3) hf4) hf5).2 hc6).2 hc7).2 hc9).1 hc11).1 hc12))) (fun hc12 => vt_iconst rfl
 (vt_goto rfl
 (vt_ret rfl ((((((((((W hf1) hf2) hf3) hf4) hf5).2 hc6).2 hc7).2 hc9).1 hc11).2 hc12)))))))))) (fun hc9 => vt_iload_n rfl rfl
 (vt_iload_n rfl rfl
 (vt_icmp rfl (fun hc10 => vt_iconst rfl
 (vt_ret rfl (((((((((W hf1) hf2) hf3) hf4) hf5).2 hc6).2 hc7).1 hc9).1 hc10))) (fun hc10 => vt_iconst rfl
 (vt_goto rfl
 (vt_ret rfl (((((((((W hf1) hf2) hf3) hf4) hf5).2 hc6).2 hc7).1 hc9).2 hc10)))))))))) (fun hc7 => vt_iload rfl rfl
 (vt_iconst rfl
 (vt_icmp rfl (fun hc8 => vt_iconst rfl
 (vt_ret rfl ((((((((W hf1) hf2) hf3) hf4) hf5).2 hc6).1 hc7).1 hc8))) (fun hc8 => vt_iconst rfl
 (vt_goto rfl
 (vt_ret rfl ((((((((W hf1) hf2) hf3) hf4) hf5).2 hc6).1 hc7).2 hc8)))))))))) (fun hc6 => vt_iconst rfl
 (vt_ret rfl ((((((W hf1) hf2) hf3) hf4) hf5).1 hc6))))))))))))))))))))))))))))))))
theorem ve_Draft_isFitAt_69 {X : Term} {xs : List Int32} {N : Nat} {H : fl_H} {a1 : Int} {Q : Option Int → fl_H → Prop} (W : (0 ≤ fl_w a1 ∧ fl_w a1 < 6 → ((fl_w (H 71 (fl_w a1).toNat) = 0) → Q (some 1) H) ∧ (¬ (fl_w (H 71 (fl_w a1).toNat) = 0) → (0 ≤ fl_w a1 ∧ fl_w a1 < 6 → (0 ≤ fl_w (H 72 (fl_w a1).toNat) ∧ fl_w (H 72 (fl_w a1).toNat) < 3 → ∀ m, m < N → ck (cm_pg X xs) m cm_m35 [.index 64, fl_t (H 76 (fl_w (H 72 (fl_w a1).toNat)).toNat)] H (fun r H5 => ∃ x7, r = some x7 ∧ (((fl_w x7 = 0) → Q (some 0) H5) ∧ (¬ (fl_w x7 = 0) → Q (some 1) H5))))))))  : ck (cm_pg X xs) N cm_m26 [.index 69, fl_t a1] H Q :=
  vt_aload_n rfl rfl rfl
 (vt_getr rfl rfl rfl
 (vt_iload_n rfl rfl
 (vt_iald rfl rfl (fun hf1 => vt_ifc rfl (fun hc2 => vt_iconst rfl
 (vt_goto rfl
 (vt_ret rfl ((W hf1).1 hc2)))) (fun hc2 => vt_aload_n rfl rfl rfl
 (vt_getr rfl rfl rfl
 (vt_aload_n rfl rfl rfl
 (vt_getr rfl rfl rfl
 (vt_aload_n rfl rfl rfl
 (vt_getr rfl rfl rfl
 (vt_iload_n rfl rfl
 (vt_iald rfl rfl (fun hf3 => vt_iald rfl rfl (fun hf4 => vt_callV rfl rfl (fun _ => rfl) (fun m hm => vt_int (((((W hf1).2 hc2) hf3) hf4) m hm) (fun x7 H5 w6 => vt_ifc rfl (fun hc8 => vt_iconst rfl
 (vt_ret rfl (w6.1 hc8))) (fun hc8 => vt_iconst rfl
 (vt_goto rfl
 (vt_ret rfl (w6.2 hc8))))))))))))))))))))
theorem ve_Floor_lies_64 {X : Term} {xs : List Int32} {N : Nat} {H : fl_H} {a1 : Int} {Q : Option Int → fl_H → Prop} (W : (0 ≤ fl_w a1 ∧ fl_w a1 < 729 → (fl_w (H 65 (fl_w a1).toNat) = 0 → ∀ m, m < N → ck (cm_pg X xs) m cm_m39 [.index 64, fl_t a1] H (fun r H3 => ∃ x5, r = some x5 ∧ (∀ m, m < N → ck (cm_pg X xs) m cm_m40 [.index 64, fl_t x5] H3 (fun r H6 => ∃ x8, r = some x8 ∧ (∀ m, m < N → ck (cm_pg X xs) m cm_m41 [.index 64, fl_t x5] H6 (fun r H9 => ∃ x11, r = some x11 ∧ (((16 < fl_w x11) → (0 ≤ fl_w a1 ∧ fl_w a1 < 729 → ∀ H14, H14 = fl_up H9 65 (fl_w a1).toNat (fl_i2b (fl_i2b 2)) → (0 ≤ fl_w a1 ∧ fl_w a1 < 729 → (fl_w (H14 65 (fl_w a1).toNat) = 1 → Q (some 1) H14) ∧ (¬ fl_w (H14 65 (fl_w a1).toNat) = 1 → Q (some 0) H14)))) ∧ (¬ (16 < fl_w x11) → ∀ m, m < N → ck (cm_pg X xs) m cm_m41 [.index 64, fl_t x8] H9 (fun r H19 => ∃ x21, r = some x21 ∧ (∀ m, m < N → ck (cm_pg X xs) m cm_m38 [.index 64, fl_t 0, fl_t x8, fl_t 0, fl_t (16 - x21)] H19 (fun r H22 => ∃ x24, r = some x24 ∧ (((fl_w x24 = 0) → (0 ≤ fl_w a1 ∧ fl_w a1 < 729 → ∀ H27, H27 = fl_up H22 65 (fl_w a1).toNat (fl_i2b (fl_i2b 2)) → (0 ≤ fl_w a1 ∧ fl_w a1 < 729 → (fl_w (H27 65 (fl_w a1).toNat) = 1 → Q (some 1) H27) ∧ (¬ fl_w (H27 65 (fl_w a1).toNat) = 1 → Q (some 0) H27)))) ∧ (¬ (fl_w x24 = 0) → (0 ≤ fl_w a1 ∧ fl_w a1 < 729 → ∀ H33, H33 = fl_up H22 65 (fl_w a1).toNat (fl_i2b (fl_i2b 1)) → (0 ≤ fl_w a1 ∧ fl_w a1 < 729 → (fl_w (H33 65 (fl_w a1).toNat) = 1 → Q (some 1) H33) ∧ (¬ fl_w (H33 65 (fl_w a1).toNat) = 1 → Q (some 0) H33)))))))))))))))) ∧ (¬ fl_w (H 65 (fl_w a1).toNat) = 0 → (0 ≤ fl_w a1 ∧ fl_w a1 < 729 → (fl_w (H 65 (fl_w a1).toNat) = 1 → Q (some 1) H) ∧ (¬ fl_w (H 65 (fl_w a1).toNat) = 1 → Q (some 0) H)))))  : ck (cm_pg X xs) N cm_m35 [.index 64, fl_t a1] H Q :=
  vt_aload_n rfl rfl rfl
 (vt_getr rfl rfl rfl
 (vt_iload_n rfl rfl
 (vt_bald rfl rfl (fun hf1 => vt_ifcN rfl (fun hc2 => vt_aload_n rfl rfl rfl
 (vt_getr rfl rfl rfl
 (vt_iload_n rfl rfl
 (vt_bald rfl rfl (fun hf38 => vt_iconst rfl
 (vt_icmpN rfl (fun hc39 => vt_iconst rfl
 (vt_ret rfl ((((W hf1).2 hc2) hf38).2 hc39))) (fun hc39 => vt_iconst rfl
 (vt_goto rfl
 (vt_ret rfl ((((W hf1).2 hc2) hf38).1 hc39)))))))))) (fun hc2 => vt_aload_n rfl rfl rfl
 (vt_iload_n rfl rfl
 (vt_callV rfl rfl (fun _ => rfl) (fun m hm => vt_int (((W hf1).1 hc2) m hm) (fun x5 H3 w4 => vt_istore_n rfl
 (vt_aload_n rfl rfl rfl
 (vt_iload_n rfl rfl
 (vt_callV rfl rfl (fun _ => rfl) (fun m hm => vt_int (w4 m hm) (fun x8 H6 w7 => vt_istore_n rfl
 (vt_aload_n rfl rfl rfl
 (vt_iload_n rfl rfl
 (vt_callV rfl rfl (fun _ => rfl) (fun m hm => vt_int (w7 m hm) (fun x11 H9 w10 => vt_bipush (v := 16) rfl (by decide)
 (vt_icmp rfl (fun hc12 => vt_iconst rfl
 (vt_istore rfl
 (vt_aload_n rfl rfl rfl
 (vt_getr rfl rfl rfl
 (vt_iload_n rfl rfl
 (vt_iload rfl rfl
 (vt_ifc (a := 0) rfl (fun _ => vt_iconst rfl
 (vt_i2b rfl
 (vt_bast rfl rfl (fun hf16 => vt_nm (fun H14 e15 => vt_aload_n rfl rfl rfl
 (vt_getr rfl rfl rfl
 (vt_iload_n rfl rfl
 (vt_bald rfl rfl (fun hf17 => vt_iconst rfl
 (vt_icmpN rfl (fun hc18 => vt_iconst rfl
 (vt_ret rfl ((((w10.1 hc12) hf16 H14 e15) hf17).2 hc18))) (fun hc18 => vt_iconst rfl
 (vt_goto rfl
 (vt_ret rfl ((((w10.1 hc12) hf16 H14 e15) hf17).1 hc18)))))))))))))) (fun hc13 => by exact absurd (show (0 : Int) = 0 by decide) hc13)))))))) (fun hc12 => vt_aload_n rfl rfl rfl
 (vt_iconst rfl
 (vt_iload_n rfl rfl
 (vt_iconst rfl
 (vt_bipush (v := 16) rfl (by decide)
 (vt_aload_n rfl rfl rfl
 (vt_iload_n rfl rfl
 (vt_callV rfl rfl (fun _ => rfl) (fun m hm => vt_int ((w10.2 hc12) m hm) (fun x21 H19 w20 => vt_isub rfl
 (vt_callS rfl rfl (fun _ => rfl) (fun m hm => vt_int (w20 m hm) (fun x24 H22 w23 => vt_ifc rfl (fun hc25 => vt_iconst rfl
 (vt_istore rfl
 (vt_aload_n rfl rfl rfl
 (vt_getr rfl rfl rfl
 (vt_iload_n rfl rfl
 (vt_iload rfl rfl
 (vt_ifc (a := 0) rfl (fun _ => vt_iconst rfl
 (vt_i2b rfl
 (vt_bast rfl rfl (fun hf29 => vt_nm (fun H27 e28 => vt_aload_n rfl rfl rfl
 (vt_getr rfl rfl rfl
 (vt_iload_n rfl rfl
 (vt_bald rfl rfl (fun hf30 => vt_iconst rfl
 (vt_icmpN rfl (fun hc31 => vt_iconst rfl
 (vt_ret rfl ((((w23.1 hc25) hf29 H27 e28) hf30).2 hc31))) (fun hc31 => vt_iconst rfl
 (vt_goto rfl
 (vt_ret rfl ((((w23.1 hc25) hf29 H27 e28) hf30).1 hc31)))))))))))))) (fun hc26 => by exact absurd (show (0 : Int) = 0 by decide) hc26)))))))) (fun hc25 => vt_iconst rfl
 (vt_goto rfl
 (vt_istore rfl
 (vt_aload_n rfl rfl rfl
 (vt_getr rfl rfl rfl
 (vt_iload_n rfl rfl
 (vt_iload rfl rfl
 (vt_ifc (a := 1) rfl (fun hc32 => by exact absurd (show (1 : Int) = 0 from hc32) (by decide)) (fun _ => vt_iconst rfl
 (vt_goto rfl
 (vt_i2b rfl
 (vt_bast rfl rfl (fun hf35 => vt_nm (fun H33 e34 => vt_aload_n rfl rfl rfl
 (vt_getr rfl rfl rfl
 (vt_iload_n rfl rfl
 (vt_bald rfl rfl (fun hf36 => vt_iconst rfl
 (vt_icmpN rfl (fun hc37 => vt_iconst rfl
 (vt_ret rfl ((((w23.2 hc25) hf35 H33 e34) hf36).2 hc37))) (fun hc37 => vt_iconst rfl
 (vt_goto rfl
 (vt_ret rfl ((((w23.2 hc25) hf35 H33 e34) hf36).1 hc37))))))))))))))))))))))))))))))))))))))))))))))))))))))))
def hd_Floor_canLie_64_9 (P : cm_G) (N : Nat) (H : fl_H) (a1 : Int) (a2 : Int) (a4 : Int) (a5 : Int) (Q : Option Int → fl_H → Prop) : Prop := ∀ lv : cm_Lv, cm_nth lv 0 = some (some (.index 64)) → cm_nth lv 1 = some (some (fl_t a1)) → cm_nth lv 2 = some (some (fl_t a2)) → cm_nth lv 4 = some (some (fl_t a4)) → cm_nth lv 5 = some (some (fl_t a5)) → vt P N cm_m38 9 lv [] H Q
def hd_Floor_canLie_64_43 (P : cm_G) (N : Nat) (H : fl_H) (a1 : Int) (a2 : Int) (a4 : Int) (a5 : Int) (a6 : Int) (Q : Option Int → fl_H → Prop) : Prop := ∀ lv : cm_Lv, cm_nth lv 0 = some (some (.index 64)) → cm_nth lv 1 = some (some (fl_t a1)) → cm_nth lv 2 = some (some (fl_t a2)) → cm_nth lv 4 = some (some (fl_t a4)) → cm_nth lv 5 = some (some (fl_t a5)) → cm_nth lv 6 = some (some (fl_t a6)) → vt P N cm_m38 43 lv [] H Q
theorem vh_Floor_canLie_64_9 {X : Term} {xs : List Int32} {N : Nat} {H : fl_H} {a1 : Int} {a2 : Int} {a4 : Int} {a5 : Int} {Q : Option Int → fl_H → Prop} (W : ((16 ≤ fl_w a5) → ((fl_w a5 < 16) → hd_Floor_canLie_64_43 (cm_pg X xs) N H a1 a2 a4 a5 0 Q) ∧ (¬ (fl_w a5 < 16) → Q (some 0) H)) ∧ (¬ (16 ≤ fl_w a5) → ((fl_w (fl_and (fl_shr a1 a5) 1) = 0) → ((fl_w a5 < 16) → hd_Floor_canLie_64_43 (cm_pg X xs) N H a1 a2 a4 a5 0 Q) ∧ (¬ (fl_w a5 < 16) → Q (some 0) H)) ∧ (¬ (fl_w (fl_and (fl_shr a1 a5) 1) = 0) → ∀ m, m < N → hd_Floor_canLie_64_9 (cm_pg X xs) m H a1 a2 a4 (a5 + 1) Q))) : hd_Floor_canLie_64_9 (cm_pg X xs) N H a1 a2 a4 a5 Q :=
 fun lv h0 h1 h2 h4 h5 =>
 vt_iload rfl h5
 (vt_bipush (v := 16) rfl (by decide)
 (vt_icmp rfl (fun hc1 => vt_iload rfl h5
 (vt_bipush (v := 16) rfl (by decide)
 (vt_icmp rfl (fun hc2 => vt_iconst rfl
 (vt_istoreA rfl (fun hl3 => ((W.1 hc1).1 hc2) _ (fl_lsn (by decide) h0) (fl_lsn (by decide) h1) (fl_lsn (by decide) h2) (fl_lsn (by decide) h4) (fl_lsn (by decide) h5) (fl_lse hl3)))) (fun hc2 => vt_iconst rfl
 (vt_ret rfl ((W.1 hc1).2 hc2)))))) (fun hc1 => vt_iload_n rfl h1
 (vt_iload rfl h5
 (vt_ishr rfl
 (vt_iconst rfl
 (vt_iand rfl
 (vt_ifc rfl (fun hc4 => vt_iload rfl h5
 (vt_bipush (v := 16) rfl (by decide)
 (vt_icmp rfl (fun hc5 => vt_iconst rfl
 (vt_istoreA rfl (fun hl6 => (((W.2 hc1).1 hc4).1 hc5) _ (fl_lsn (by decide) h0) (fl_lsn (by decide) h1) (fl_lsn (by decide) h2) (fl_lsn (by decide) h4) (fl_lsn (by decide) h5) (fl_lse hl6)))) (fun hc5 => vt_iconst rfl
 (vt_ret rfl (((W.2 hc1).1 hc4).2 hc5)))))) (fun hc4 => vt_iincA rfl h5 (fun hl7 => vt_gotoS rfl (fun m hm => (((W.2 hc1).2 hc4) m hm) _ (fl_lsn (by decide) h0) (fl_lsn (by decide) h1) (fl_lsn (by decide) h2) (fl_lsn (by decide) h4) (fl_lse hl7))))))))))))
theorem vh_Floor_canLie_64_43 {X : Term} {xs : List Int32} {N : Nat} {H : fl_H} {a1 : Int} {a2 : Int} {a4 : Int} {a5 : Int} {a6 : Int} {Q : Option Int → fl_H → Prop} (W : ((6 ≤ fl_w a6) → ((fl_w a4 ≤ 0) → Q (some 0) H) ∧ (¬ (fl_w a4 ≤ 0) → ∀ m, m < N → ck (cm_pg X xs) m cm_m38 [.index 64, fl_t a1, fl_t a2, fl_t (a5 + 1), fl_t (a4 - 1)] H (fun r H3 => ∃ x5, r = some x5 ∧ (((fl_w x5 = 0) → Q (some 0) H3) ∧ (¬ (fl_w x5 = 0) → Q (some 1) H3))))) ∧ (¬ (6 ≤ fl_w a6) → (fl_w (fl_and (fl_shr a2 a6) 1) = 0 → ∀ m, m < N → hd_Floor_canLie_64_43 (cm_pg X xs) m H a1 a2 a4 a5 (a6 + 1) Q) ∧ (¬ fl_w (fl_and (fl_shr a2 a6) 1) = 0 → (0 ≤ fl_w a6 ∧ fl_w a6 < 6 → (0 ≤ fl_w (((H 68 (fl_w a6).toNat) * 16) + a5) ∧ fl_w (((H 68 (fl_w a6).toNat) * 16) + a5) < 192 → ((fl_w (H 66 (fl_w (((H 68 (fl_w a6).toNat) * 16) + a5)).toNat) = 0) → ∀ m, m < N → hd_Floor_canLie_64_43 (cm_pg X xs) m H a1 a2 a4 a5 (a6 + 1) Q) ∧ (¬ (fl_w (H 66 (fl_w (((H 68 (fl_w a6).toNat) * 16) + a5)).toNat) = 0) → ((fl_w (fl_and (H 66 (fl_w (((H 68 (fl_w a6).toNat) * 16) + a5)).toNat) a1) = 0) → ∀ m, m < N → ck (cm_pg X xs) m cm_m38 [.index 64, fl_t (fl_or a1 (H 66 (fl_w (((H 68 (fl_w a6).toNat) * 16) + a5)).toNat)), fl_t (fl_and a2 (fl_xor (fl_shl 1 a6) (-1))), fl_t (a5 + 1), fl_t a4] H (fun r H15 => ∃ x17, r = some x17 ∧ (((fl_w x17 = 0) → ∀ m, m < N → hd_Floor_canLie_64_43 (cm_pg X xs) m H15 a1 a2 a4 a5 (a6 + 1) Q) ∧ (¬ (fl_w x17 = 0) → Q (some 1) H15)))) ∧ (¬ (fl_w (fl_and (H 66 (fl_w (((H 68 (fl_w a6).toNat) * 16) + a5)).toNat) a1) = 0) → ∀ m, m < N → hd_Floor_canLie_64_43 (cm_pg X xs) m H a1 a2 a4 a5 (a6 + 1) Q))))))) : hd_Floor_canLie_64_43 (cm_pg X xs) N H a1 a2 a4 a5 a6 Q :=
 fun lv h0 h1 h2 h4 h5 h6 =>
 vt_iload rfl h6
 (vt_bipush (v := 6) rfl (by decide)
 (vt_icmp rfl (fun hc1 => vt_iload rfl h4
 (vt_ifc rfl (fun hc2 => vt_iconst rfl
 (vt_ret rfl ((W.1 hc1).1 hc2))) (fun hc2 => vt_aload_n rfl h0 rfl
 (vt_iload_n rfl h1
 (vt_iload_n rfl h2
 (vt_iload rfl h5
 (vt_iconst rfl
 (vt_iadd rfl
 (vt_iload rfl h4
 (vt_iconst rfl
 (vt_isub rfl
 (vt_callS rfl rfl (fun _ => rfl) (fun m hm => vt_int (((W.1 hc1).2 hc2) m hm) (fun x5 H3 w4 => vt_ifc rfl (fun hc6 => vt_iconst rfl
 (vt_ret rfl (w4.1 hc6))) (fun hc6 => vt_iconst rfl
 (vt_goto rfl
 (vt_ret rfl (w4.2 hc6)))))))))))))))))) (fun hc1 => vt_iload_n rfl h2
 (vt_iload rfl h6
 (vt_ishr rfl
 (vt_iconst rfl
 (vt_iand rfl
 (vt_ifcN rfl (fun hc7 => vt_aload_n rfl h0 rfl
 (vt_getr rfl rfl rfl
 (vt_aload_n rfl h0 rfl
 (vt_getr rfl rfl rfl
 (vt_iload rfl h6
 (vt_iald rfl rfl (fun hf9 => vt_bipush (v := 16) rfl (by decide)
 (vt_imul rfl
 (vt_iload rfl h5
 (vt_iadd rfl
 (vt_iald rfl rfl (fun hf10 => vt_istoreA rfl (fun hl11 => vt_iload rfl (fl_lse hl11)
 (vt_ifc rfl (fun hc12 => vt_iincA rfl (fl_lsn (by decide) h6) (fun hl13 => vt_gotoS rfl (fun m hm => ((((((W.2 hc1).2 hc7) hf9) hf10).1 hc12) m hm) _ (fl_lsn (by decide) (fl_lsn (by decide) h0)) (fl_lsn (by decide) (fl_lsn (by decide) h1)) (fl_lsn (by decide) (fl_lsn (by decide) h2)) (fl_lsn (by decide) (fl_lsn (by decide) h4)) (fl_lsn (by decide) (fl_lsn (by decide) h5)) (fl_lse hl13)))) (fun hc12 => vt_iload rfl (fl_lse hl11)
 (vt_iload_n rfl (fl_lsn (by decide) h1)
 (vt_iand rfl
 (vt_ifc rfl (fun hc14 => vt_aload_n rfl (fl_lsn (by decide) h0) rfl
 (vt_iload_n rfl (fl_lsn (by decide) h1)
 (vt_iload rfl (fl_lse hl11)
 (vt_ior rfl
 (vt_iload_n rfl (fl_lsn (by decide) h2)
 (vt_iconst rfl
 (vt_iload rfl (fl_lsn (by decide) h6)
 (vt_ishl rfl
 (vt_iconst rfl
 (vt_ixor rfl
 (vt_iand rfl
 (vt_iload rfl (fl_lsn (by decide) h5)
 (vt_iconst rfl
 (vt_iadd rfl
 (vt_iload rfl (fl_lsn (by decide) h4)
 (vt_callS rfl rfl (fun _ => rfl) (fun m hm => vt_int (((((((W.2 hc1).2 hc7) hf9) hf10).2 hc12).1 hc14) m hm) (fun x17 H15 w16 => vt_ifc rfl (fun hc18 => vt_iincA rfl (fl_lsn (by decide) h6) (fun hl19 => vt_gotoS rfl (fun m hm => ((w16.1 hc18) m hm) _ (fl_lsn (by decide) (fl_lsn (by decide) h0)) (fl_lsn (by decide) (fl_lsn (by decide) h1)) (fl_lsn (by decide) (fl_lsn (by decide) h2)) (fl_lsn (by decide) (fl_lsn (by decide) h4)) (fl_lsn (by decide) (fl_lsn (by decide) h5)) (fl_lse hl19)))) (fun hc18 => vt_iconst rfl
 (vt_ret rfl (w16.2 hc18))))))))))))))))))))) (fun hc14 => vt_goto rfl
 (vt_iincA rfl (fl_lsn (by decide) h6) (fun hl20 => vt_gotoS rfl (fun m hm => (((((((W.2 hc1).2 hc7) hf9) hf10).2 hc12).2 hc14) m hm) _ (fl_lsn (by decide) (fl_lsn (by decide) h0)) (fl_lsn (by decide) (fl_lsn (by decide) h1)) (fl_lsn (by decide) (fl_lsn (by decide) h2)) (fl_lsn (by decide) (fl_lsn (by decide) h4)) (fl_lsn (by decide) (fl_lsn (by decide) h5)) (fl_lse hl20))))))))))))))))))))))) (fun hc7 => vt_goto rfl
 (vt_iincA rfl h6 (fun hl8 => vt_gotoS rfl (fun m hm => (((W.2 hc1).1 hc7) m hm) _ (fl_lsn (by decide) h0) (fl_lsn (by decide) h1) (fl_lsn (by decide) h2) (fl_lsn (by decide) h4) (fl_lsn (by decide) h5) (fl_lse hl8)))))))))))))
theorem ve_Floor_canLie_64 {X : Term} {xs : List Int32} {N : Nat} {H : fl_H} {a1 a2 a3 a4 : Int} {Q : Option Int → fl_H → Prop} (W : (fl_w a2 = 0 → Q (some 1) H) ∧ (¬ fl_w a2 = 0 → hd_Floor_canLie_64_9 (cm_pg X xs) N H a1 a2 a4 a3 Q))  : ck (cm_pg X xs) N cm_m38 [.index 64, fl_t a1, fl_t a2, fl_t a3, fl_t a4] H Q :=
  vt_iload_n rfl rfl
 (vt_ifcN rfl (fun hc1 => vt_iload_n rfl rfl
 (vt_istore rfl
 ((W.2 hc1) _ rfl rfl rfl rfl rfl))) (fun hc1 => vt_iconst rfl
 (vt_ret rfl (W.1 hc1))))
def hd_Floor_areaOf_64_4 (P : cm_G) (N : Nat) (H : fl_H) (a1 : Int) (a2 : Int) (a3 : Int) (Q : Option Int → fl_H → Prop) : Prop := ∀ lv : cm_Lv, cm_nth lv 0 = some (some (.index 64)) → cm_nth lv 1 = some (some (fl_t a1)) → cm_nth lv 2 = some (some (fl_t a2)) → cm_nth lv 3 = some (some (fl_t a3)) → vt P N cm_m41 4 lv [] H Q
theorem vh_Floor_areaOf_64_4 {X : Term} {xs : List Int32} {N : Nat} {H : fl_H} {a1 : Int} {a2 : Int} {a3 : Int} {Q : Option Int → fl_H → Prop} (W : ((6 ≤ fl_w a3) → Q (some a2) H) ∧ (¬ (6 ≤ fl_w a3) → ((fl_w (fl_and (fl_shr a1 a3) 1) = 0) → ∀ m, m < N → hd_Floor_areaOf_64_4 (cm_pg X xs) m H a1 a2 (a3 + 1) Q) ∧ (¬ (fl_w (fl_and (fl_shr a1 a3) 1) = 0) → (0 ≤ fl_w a3 ∧ fl_w a3 < 6 → (0 ≤ fl_w (H 68 (fl_w a3).toNat) ∧ fl_w (H 68 (fl_w a3).toNat) < 12 → ∀ m, m < N → hd_Floor_areaOf_64_4 (cm_pg X xs) m H a1 (a2 + (H 67 (fl_w (H 68 (fl_w a3).toNat)).toNat)) (a3 + 1) Q))))) : hd_Floor_areaOf_64_4 (cm_pg X xs) N H a1 a2 a3 Q :=
 fun lv h0 h1 h2 h3 =>
 vt_iload_n rfl h3
 (vt_bipush (v := 6) rfl (by decide)
 (vt_icmp rfl (fun hc1 => vt_iload_n rfl h2
 (vt_ret rfl (W.1 hc1))) (fun hc1 => vt_iload_n rfl h1
 (vt_iload_n rfl h3
 (vt_ishr rfl
 (vt_iconst rfl
 (vt_iand rfl
 (vt_ifc rfl (fun hc2 => vt_iincA rfl h3 (fun hl3 => vt_gotoS rfl (fun m hm => (((W.2 hc1).1 hc2) m hm) _ (fl_lsn (by decide) h0) (fl_lsn (by decide) h1) (fl_lsn (by decide) h2) (fl_lse hl3)))) (fun hc2 => vt_iload_n rfl h2
 (vt_aload_n rfl h0 rfl
 (vt_getr rfl rfl rfl
 (vt_aload_n rfl h0 rfl
 (vt_getr rfl rfl rfl
 (vt_iload_n rfl h3
 (vt_iald rfl rfl (fun hf4 => vt_iald rfl rfl (fun hf5 => vt_iadd rfl
 (vt_istore_nA rfl (fun hl6 => vt_iincA rfl (fl_lsn (by decide) h3) (fun hl7 => vt_gotoS rfl (fun m hm => (((((W.2 hc1).2 hc2) hf4) hf5) m hm) _ (fl_lsn (by decide) (fl_lsn (by decide) h0)) (fl_lsn (by decide) (fl_lsn (by decide) h1)) (fl_lsn (by decide) (fl_lse hl6)) (fl_lse hl7))))))))))))))))))))))
theorem ve_Floor_areaOf_64 {X : Term} {xs : List Int32} {N : Nat} {H : fl_H} {a1 : Int} {Q : Option Int → fl_H → Prop} (W : hd_Floor_areaOf_64_4 (cm_pg X xs) N H a1 0 0 Q)  : ck (cm_pg X xs) N cm_m41 [.index 64, fl_t a1] H Q :=
  vt_iconst rfl
 (vt_istore_n rfl
 (vt_iconst rfl
 (vt_istore_n rfl
 (W _ rfl rfl rfl rfl))))
end
