noncomputable section
/-! L3: runs of methods between cuts. -/
def hd_Tape_oneOf_58_s4_7 (P : cm_G) (N : Nat) (H : fl_H) (a2 : Int) (a3 : Int) (Q : Option Int → fl_H → Prop) : Prop := ∀ lv : cm_Lv, cm_nth lv 0 = some (some (.index 58)) → cm_nth lv 1 = some (some (.string "" 4)) → cm_nth lv 2 = some (some (fl_t a2)) → cm_nth lv 3 = some (some (fl_t a3)) → vt P N cm_m89 7 lv [] H Q
theorem vh_Tape_oneOf_58_s4_7 {X : Term} {xs : List Int32} {N : Nat} {H : fl_H} {a2 : Int} {a3 : Int} {Q : Option Int → fl_H → Prop} (W : ((4 ≤ fl_w a3) → ∀ m, m < N → ck (cm_pg X xs) m cm_m86 [.index 58] H (fun r H2 => r = none ∧ (Q (some 0) H2))) ∧ (¬ (4 ≤ fl_w a3) → ((fl_w (([112, 108, 114, 102] : List Int).getD (fl_w a3).toNat 0) = fl_w a2) → ∀ H5, H5 = fl_up H 58 2 ((H 58 2) + 1) → (Q (some a3) H5)) ∧ (¬ (fl_w (([112, 108, 114, 102] : List Int).getD (fl_w a3).toNat 0) = fl_w a2) → ∀ m, m < N → hd_Tape_oneOf_58_s4_7 (cm_pg X xs) m H a2 (a3 + 1) Q))) : hd_Tape_oneOf_58_s4_7 (cm_pg X xs) N H a2 a3 Q :=
 fun lv h0 h1 h2 h3 =>
 vt_iload_n rfl h3
 (vt_aload_n rfl h1 rfl
 (vt_callV rfl rfl (fun _ => rfl) (fun _ _ => vt_sum (sm_len_4)
 (vt_icmp rfl (fun hc1 => vt_aload_n rfl h0 rfl
 (vt_callV rfl rfl (fun _ => rfl) (fun m hm => vt_void ((W.1 hc1) m hm) (fun H2 w3 => vt_iconst rfl
 (vt_ret rfl w3))))) (fun hc1 => vt_aload_n rfl h1 rfl
 (vt_iload_n rfl h3
 (vt_callV rfl rfl (fun _ => rfl) (fun _ _ => vt_sum (sm_char_4)
 (vt_iload_n rfl h2
 (vt_icmp rfl (fun hc4 => vt_aload_n rfl h0 rfl
 (vt_mv (fun _ _ => rfl)
 (vt_getf rfl rfl rfl
 (vt_iconst rfl
 (vt_iadd rfl
 (vt_putf rfl rfl rfl (vt_nm (fun H5 e6 => vt_iload_n rfl h3
 (vt_ret rfl (((W.2 hc1).1 hc4) H5 e6)))))))))) (fun hc4 => vt_goto rfl
 (vt_iincA rfl h3 (fun hl7 => vt_gotoS rfl (fun m hm => (((W.2 hc1).2 hc4) m hm) _ (fl_lsn (by decide) h0) (fl_lsn (by decide) h1) (fl_lsn (by decide) h2) (fl_lse hl7)))))))))))))))
theorem ve_Tape_oneOf_58_s4 {X : Term} {xs : List Int32} {N : Nat} {H : fl_H} {Q : Option Int → fl_H → Prop} (W : ∀ m, m < N → ck (cm_pg X xs) m cm_m85 [.index 58] H (fun r H1 => ∃ x3, r = some x3 ∧ (hd_Tape_oneOf_58_s4_7 (cm_pg X xs) N H1 x3 0 Q)))  : ck (cm_pg X xs) N cm_m89 [.index 58, .string "" 4] H Q :=
  vt_aload_n rfl rfl rfl
 (vt_callV rfl rfl (fun _ => rfl) (fun m hm => vt_int (W m hm) (fun x3 H1 w2 => vt_istore_n rfl
 (vt_iconst rfl
 (vt_istore_n rfl
 (w2 _ rfl rfl rfl rfl))))))
theorem ve_Tape_aPage_58_20 {X : Term} {xs : List Int32} {N : Nat} {H : fl_H} {Q : Option Int → fl_H → Prop} (W : ∀ m, m < N → ck (cm_pg X xs) m cm_m88 [.index 58, fl_t 112] H (fun r H1 => r = none ∧ (∀ m, m < N → ck (cm_pg X xs) m cm_m90 [.index 58, fl_t 60] H1 (fun r H3 => ∃ x5, r = some x5 ∧ ((fl_w (H3 58 3) = (-1) → ∀ m, m < N → ck (cm_pg X xs) m cm_m8 [.index 20, fl_t x5] H3 (fun r H7 => ∃ x9, r = some x9 ∧ (Q (some x9) H7))) ∧ (¬ fl_w (H3 58 3) = (-1) → Q (some 0) H3))))))  : ck (cm_pg X xs) N cm_m80 [.index 58, .index 20] H Q :=
  vt_aload_n rfl rfl rfl
 (vt_bipush (v := 112) rfl (by decide)
 (vt_callV rfl rfl (fun _ => rfl) (fun m hm => vt_void (W m hm) (fun H1 w2 => vt_aload_n rfl rfl rfl
 (vt_bipush (v := 60) rfl (by decide)
 (vt_callV rfl rfl (fun _ => rfl) (fun m hm => vt_int (w2 m hm) (fun x5 H3 w4 => vt_istore_n rfl
 (vt_aload_n rfl rfl rfl
 (vt_getf rfl rfl rfl
 (vt_iconst rfl
 (vt_icmpN rfl (fun hc6 => vt_iconst rfl
 (vt_ret rfl (w4.2 hc6))) (fun hc6 => vt_aload_n rfl rfl rfl
 (vt_iload_n rfl rfl
 (vt_callV rfl rfl (fun _ => rfl) (fun m hm => vt_int ((w4.1 hc6) m hm) (fun x9 H7 w8 => vt_goto rfl
 (vt_ret rfl w8))))))))))))))))))
theorem ve_Book_addPage_20 {X : Term} {xs : List Int32} {N : Nat} {H : fl_H} {a1 : Int} {Q : Option Int → fl_H → Prop} (W : ((fl_w (H 20 0) < 3) → (0 ≤ fl_w (H 20 0) ∧ fl_w (H 20 0) < 3 → ∀ H2, H2 = fl_up H 21 (fl_w (H 20 0)).toNat a1 → ∀ H5, H5 = fl_up H2 20 0 ((H2 20 0) + 1) → (Q (some (H2 20 0)) H5))) ∧ (¬ (fl_w (H 20 0) < 3) → Q (some (-3)) H))  : ck (cm_pg X xs) N cm_m8 [.index 20, fl_t a1] H Q :=
  vt_aload_n rfl rfl rfl
 (vt_getf rfl rfl rfl
 (vt_iconst rfl
 (vt_icmp rfl (fun hc1 => vt_aload_n rfl rfl rfl
 (vt_getr rfl rfl rfl
 (vt_aload_n rfl rfl rfl
 (vt_getf rfl rfl rfl
 (vt_iload_n rfl rfl
 (vt_iast rfl rfl (fun hf4 => vt_nm (fun H2 e3 => vt_aload_n rfl rfl rfl
 (vt_mv (fun _ _ => rfl)
 (vt_getf rfl rfl rfl
 (vt_mv (fun _ _ => rfl)
 (vt_iconst rfl
 (vt_iadd rfl
 (vt_putf rfl rfl rfl (vt_nm (fun H5 e6 => vt_ret rfl (((W.1 hc1) hf4 H2 e3) H5 e6))))))))))))))))) (fun hc1 => vt_bipush (v := (-3)) rfl (by decide)
 (vt_ret rfl (W.2 hc1))))))
theorem ve_Tape_fail_58 {X : Term} {xs : List Int32} {N : Nat} {H : fl_H} {Q : Option Int → fl_H → Prop} (W : ∀ m, m < N → ck (cm_pg X xs) m cm_m85 [.index 58] H (fun r H1 => ∃ x3, r = some x3 ∧ (∀ m, m < N → ck (cm_pg X xs) m cm_m87 [.index 58, fl_t (H1 58 2)] H1 (fun r H4 => r = none ∧ (Q none H4)))))  : ck (cm_pg X xs) N cm_m86 [.index 58] H Q :=
  vt_aload_n rfl rfl rfl
 (vt_callV rfl rfl (fun _ => rfl) (fun m hm => vt_int (W m hm) (fun x3 H1 w2 => vt_mv (fun _ _ => rfl)
 (vt_aload_n rfl rfl rfl
 (vt_aload_n rfl rfl rfl
 (vt_getf rfl rfl rfl
 (vt_callV rfl rfl (fun _ => rfl) (fun m hm => vt_void (w2 m hm) (fun H4 w5 => vt_retv rfl w5)))))))))
def hd_Tape_look_58_0 (P : cm_G) (N : Nat) (H : fl_H) (Q : Option Int → fl_H → Prop) : Prop := ∀ lv : cm_Lv, cm_nth lv 0 = some (some (.index 58)) → vt P N cm_m85 0 lv [] H Q
theorem vh_Tape_look_58_0 {X : Term} {xs : List Int32} {N : Nat} {H : fl_H} {Q : Option Int → fl_H → Prop} (W : ((fl_w (H 58 1) ≤ fl_w (H 58 2)) → ((fl_w (H 58 1) ≤ fl_w (H 58 2)) → Q (some (-1)) H) ∧ (¬ (fl_w (H 58 1) ≤ fl_w (H 58 2)) → (0 ≤ fl_w (H 58 2) ∧ fl_w (H 58 2) < 120 → Q (some (H 59 (fl_w (H 58 2)).toNat)) H))) ∧ (¬ (fl_w (H 58 1) ≤ fl_w (H 58 2)) → (0 ≤ fl_w (H 58 2) ∧ fl_w (H 58 2) < 120 → (fl_w (H 59 (fl_w (H 58 2)).toNat) = 32 → ∀ H6, H6 = fl_up H 58 2 ((H 58 2) + 1) → (∀ m, m < N → hd_Tape_look_58_0 (cm_pg X xs) m H6  Q)) ∧ (¬ fl_w (H 59 (fl_w (H 58 2)).toNat) = 32 → ((fl_w (H 58 1) ≤ fl_w (H 58 2)) → Q (some (-1)) H) ∧ (¬ (fl_w (H 58 1) ≤ fl_w (H 58 2)) → (0 ≤ fl_w (H 58 2) ∧ fl_w (H 58 2) < 120 → Q (some (H 59 (fl_w (H 58 2)).toNat)) H)))))) : hd_Tape_look_58_0 (cm_pg X xs) N H Q :=
 fun lv h0 =>
 vt_aload_n rfl h0 rfl
 (vt_getf rfl rfl rfl
 (vt_aload_n rfl h0 rfl
 (vt_getf rfl rfl rfl
 (vt_icmp rfl (fun hc1 => vt_aload_n rfl h0 rfl
 (vt_getf rfl rfl rfl
 (vt_aload_n rfl h0 rfl
 (vt_getf rfl rfl rfl
 (vt_icmp rfl (fun hc2 => vt_iconst rfl
 (vt_ret rfl ((W.1 hc1).1 hc2))) (fun hc2 => vt_aload_n rfl h0 rfl
 (vt_getr rfl rfl rfl
 (vt_aload_n rfl h0 rfl
 (vt_getf rfl rfl rfl
 (vt_bald rfl rfl (fun hf3 => vt_goto rfl
 (vt_ret rfl (((W.1 hc1).2 hc2) hf3))))))))))))) (fun hc1 => vt_aload_n rfl h0 rfl
 (vt_getr rfl rfl rfl
 (vt_aload_n rfl h0 rfl
 (vt_getf rfl rfl rfl
 (vt_bald rfl rfl (fun hf4 => vt_bipush (v := 32) rfl (by decide)
 (vt_icmpN rfl (fun hc5 => vt_aload_n rfl h0 rfl
 (vt_getf rfl rfl rfl
 (vt_aload_n rfl h0 rfl
 (vt_getf rfl rfl rfl
 (vt_icmp rfl (fun hc8 => vt_iconst rfl
 (vt_ret rfl ((((W.2 hc1) hf4).2 hc5).1 hc8))) (fun hc8 => vt_aload_n rfl h0 rfl
 (vt_getr rfl rfl rfl
 (vt_aload_n rfl h0 rfl
 (vt_getf rfl rfl rfl
 (vt_bald rfl rfl (fun hf9 => vt_goto rfl
 (vt_ret rfl (((((W.2 hc1) hf4).2 hc5).2 hc8) hf9))))))))))))) (fun hc5 => vt_aload_n rfl h0 rfl
 (vt_mv (fun _ _ => rfl)
 (vt_getf rfl rfl rfl
 (vt_iconst rfl
 (vt_iadd rfl
 (vt_putf rfl rfl rfl (vt_nm (fun H6 e7 => vt_gotoS rfl (fun m hm => (((((W.2 hc1) hf4).1 hc5) H6 e7) m hm) _ h0))))))))))))))))))))
theorem ve_Tape_look_58 {X : Term} {xs : List Int32} {N : Nat} {H : fl_H} {Q : Option Int → fl_H → Prop} (W : hd_Tape_look_58_0 (cm_pg X xs) N H  Q)  : ck (cm_pg X xs) N cm_m85 [.index 58] H Q :=
  W _ rfl
theorem ve_Book_become_20_1 {X : Term} {xs : List Int32} {N : Nat} {H : fl_H} {Q : Option Int → fl_H → Prop} (W : ∀ H1, H1 = fl_up H 20 0 (H 1 0) → (∀ H3, H3 = fl_cp H1 2 21 3 → (∀ m, m < N → ck (cm_pg X xs) m cm_m47 [.index 22, .index 3] H3 (fun r H5 => r = none ∧ (∀ m, m < N → ck (cm_pg X xs) m cm_m6 [.index 28, .index 9] H5 (fun r H7 => r = none ∧ (∀ m, m < N → ck (cm_pg X xs) m cm_m98 [.index 33, .index 14] H7 (fun r H9 => r = none ∧ (∀ H11, H11 = fl_cp H9 18 37 3 → (∀ H13, H13 = fl_cp H11 19 38 6 → (Q none H13)))))))))))  : ck (cm_pg X xs) N cm_m11 [.index 20, .index 1] H Q :=
  vt_aload_n rfl rfl rfl
 (vt_aload_n rfl rfl rfl
 (vt_getf rfl rfl rfl
 (vt_putf rfl rfl rfl (vt_nm (fun H1 e2 => vt_aload_n rfl rfl rfl
 (vt_getr rfl rfl rfl
 (vt_iconst rfl
 (vt_aload_n rfl rfl rfl
 (vt_getr rfl rfl rfl
 (vt_iconst rfl
 (vt_iconst rfl
 (vt_copy (n := 3) rfl rfl rfl rfl rfl rfl (vt_nm (fun H3 e4 => vt_aload_n rfl rfl rfl
 (vt_getr rfl rfl rfl
 (vt_aload_n rfl rfl rfl
 (vt_getr rfl rfl rfl
 (vt_callV rfl rfl (fun _ => rfl) (fun m hm => vt_void (((W H1 e2) H3 e4) m hm) (fun H5 w6 => vt_aload_n rfl rfl rfl
 (vt_getr rfl rfl rfl
 (vt_aload_n rfl rfl rfl
 (vt_getr rfl rfl rfl
 (vt_callV rfl rfl (fun _ => rfl) (fun m hm => vt_void (w6 m hm) (fun H7 w8 => vt_aload_n rfl rfl rfl
 (vt_getr rfl rfl rfl
 (vt_aload_n rfl rfl rfl
 (vt_getr rfl rfl rfl
 (vt_callV rfl rfl (fun _ => rfl) (fun m hm => vt_void (w8 m hm) (fun H9 w10 => vt_aload_n rfl rfl rfl
 (vt_getr rfl rfl rfl
 (vt_iconst rfl
 (vt_aload_n rfl rfl rfl
 (vt_getr rfl rfl rfl
 (vt_iconst rfl
 (vt_aload_n rfl rfl rfl
 (vt_getr rfl rfl rfl
 (vt_alen (n := 3) rfl rfl
 (vt_copy (n := 3) rfl rfl rfl rfl rfl rfl (vt_nm (fun H11 e12 => vt_aload_n rfl rfl rfl
 (vt_getr rfl rfl rfl
 (vt_iconst rfl
 (vt_aload_n rfl rfl rfl
 (vt_getr rfl rfl rfl
 (vt_iconst rfl
 (vt_bipush (v := 6) rfl (by decide)
 (vt_copy (n := 6) rfl rfl rfl rfl rfl rfl (vt_nm (fun H13 e14 => vt_retv rfl ((w10 H11 e12) H13 e14)))))))))))))))))))))))))))))))))))))))))))))))))))))
theorem ve_Years_become_33_14 {X : Term} {xs : List Int32} {N : Nat} {H : fl_H} {Q : Option Int → fl_H → Prop} (W : ∀ H1, H1 = fl_up H 33 0 (H 14 0) → (∀ H3, H3 = fl_cp H1 15 34 12 → (∀ H5, H5 = fl_cp H3 16 35 12 → (∀ H7, H7 = fl_cp H5 17 36 12 → (Q none H7)))))  : ck (cm_pg X xs) N cm_m98 [.index 33, .index 14] H Q :=
  vt_aload_n rfl rfl rfl
 (vt_aload_n rfl rfl rfl
 (vt_getf rfl rfl rfl
 (vt_putf rfl rfl rfl (vt_nm (fun H1 e2 => vt_aload_n rfl rfl rfl
 (vt_getr rfl rfl rfl
 (vt_iconst rfl
 (vt_aload_n rfl rfl rfl
 (vt_getr rfl rfl rfl
 (vt_iconst rfl
 (vt_bipush (v := 12) rfl (by decide)
 (vt_copy (n := 12) rfl rfl rfl rfl rfl rfl (vt_nm (fun H3 e4 => vt_aload_n rfl rfl rfl
 (vt_getr rfl rfl rfl
 (vt_iconst rfl
 (vt_aload_n rfl rfl rfl
 (vt_getr rfl rfl rfl
 (vt_iconst rfl
 (vt_bipush (v := 12) rfl (by decide)
 (vt_copy (n := 12) rfl rfl rfl rfl rfl rfl (vt_nm (fun H5 e6 => vt_aload_n rfl rfl rfl
 (vt_getr rfl rfl rfl
 (vt_iconst rfl
 (vt_aload_n rfl rfl rfl
 (vt_getr rfl rfl rfl
 (vt_iconst rfl
 (vt_bipush (v := 12) rfl (by decide)
 (vt_copy (n := 12) rfl rfl rfl rfl rfl rfl (vt_nm (fun H7 e8 => vt_retv rfl ((((W H1 e2) H3 e4) H5 e6) H7 e8)))))))))))))))))))))))))))))))))
theorem ve_Bonds_become_28_9 {X : Term} {xs : List Int32} {N : Nat} {H : fl_H} {Q : Option Int → fl_H → Prop} (W : ∀ H1, H1 = fl_up H 28 0 (H 9 0) → (∀ H3, H3 = fl_cp H1 10 29 12 → (∀ H5, H5 = fl_cp H3 11 30 12 → (∀ H7, H7 = fl_cp H5 12 31 12 → (∀ H9, H9 = fl_cp H7 13 32 12 → (Q none H9))))))  : ck (cm_pg X xs) N cm_m6 [.index 28, .index 9] H Q :=
  vt_aload_n rfl rfl rfl
 (vt_aload_n rfl rfl rfl
 (vt_getf rfl rfl rfl
 (vt_putf rfl rfl rfl (vt_nm (fun H1 e2 => vt_aload_n rfl rfl rfl
 (vt_getr rfl rfl rfl
 (vt_iconst rfl
 (vt_aload_n rfl rfl rfl
 (vt_getr rfl rfl rfl
 (vt_iconst rfl
 (vt_bipush (v := 12) rfl (by decide)
 (vt_copy (n := 12) rfl rfl rfl rfl rfl rfl (vt_nm (fun H3 e4 => vt_aload_n rfl rfl rfl
 (vt_getr rfl rfl rfl
 (vt_iconst rfl
 (vt_aload_n rfl rfl rfl
 (vt_getr rfl rfl rfl
 (vt_iconst rfl
 (vt_bipush (v := 12) rfl (by decide)
 (vt_copy (n := 12) rfl rfl rfl rfl rfl rfl (vt_nm (fun H5 e6 => vt_aload_n rfl rfl rfl
 (vt_getr rfl rfl rfl
 (vt_iconst rfl
 (vt_aload_n rfl rfl rfl
 (vt_getr rfl rfl rfl
 (vt_iconst rfl
 (vt_bipush (v := 12) rfl (by decide)
 (vt_copy (n := 12) rfl rfl rfl rfl rfl rfl (vt_nm (fun H7 e8 => vt_aload_n rfl rfl rfl
 (vt_getr rfl rfl rfl
 (vt_iconst rfl
 (vt_aload_n rfl rfl rfl
 (vt_getr rfl rfl rfl
 (vt_iconst rfl
 (vt_bipush (v := 12) rfl (by decide)
 (vt_copy (n := 12) rfl rfl rfl rfl rfl rfl (vt_nm (fun H9 e10 => vt_retv rfl (((((W H1 e2) H3 e4) H5 e6) H7 e8) H9 e10))))))))))))))))))))))))))))))))))))))))))
theorem ve_Goods_become_22_3 {X : Term} {xs : List Int32} {N : Nat} {H : fl_H} {Q : Option Int → fl_H → Prop} (W : ∀ H1, H1 = fl_up H 22 0 (H 3 0) → (∀ H3, H3 = fl_cp H1 4 23 6 → (∀ H5, H5 = fl_cp H3 5 24 6 → (∀ H7, H7 = fl_cp H5 6 25 12 → (∀ H9, H9 = fl_cp H7 7 26 12 → (∀ H11, H11 = fl_cp H9 8 27 12 → (Q none H11)))))))  : ck (cm_pg X xs) N cm_m47 [.index 22, .index 3] H Q :=
  vt_aload_n rfl rfl rfl
 (vt_aload_n rfl rfl rfl
 (vt_getf rfl rfl rfl
 (vt_putf rfl rfl rfl (vt_nm (fun H1 e2 => vt_aload_n rfl rfl rfl
 (vt_getr rfl rfl rfl
 (vt_iconst rfl
 (vt_aload_n rfl rfl rfl
 (vt_getr rfl rfl rfl
 (vt_iconst rfl
 (vt_bipush (v := 6) rfl (by decide)
 (vt_copy (n := 6) rfl rfl rfl rfl rfl rfl (vt_nm (fun H3 e4 => vt_aload_n rfl rfl rfl
 (vt_getr rfl rfl rfl
 (vt_iconst rfl
 (vt_aload_n rfl rfl rfl
 (vt_getr rfl rfl rfl
 (vt_iconst rfl
 (vt_bipush (v := 6) rfl (by decide)
 (vt_copy (n := 6) rfl rfl rfl rfl rfl rfl (vt_nm (fun H5 e6 => vt_aload_n rfl rfl rfl
 (vt_getr rfl rfl rfl
 (vt_iconst rfl
 (vt_aload_n rfl rfl rfl
 (vt_getr rfl rfl rfl
 (vt_iconst rfl
 (vt_bipush (v := 12) rfl (by decide)
 (vt_copy (n := 12) rfl rfl rfl rfl rfl rfl (vt_nm (fun H7 e8 => vt_aload_n rfl rfl rfl
 (vt_getr rfl rfl rfl
 (vt_iconst rfl
 (vt_aload_n rfl rfl rfl
 (vt_getr rfl rfl rfl
 (vt_iconst rfl
 (vt_bipush (v := 12) rfl (by decide)
 (vt_copy (n := 12) rfl rfl rfl rfl rfl rfl (vt_nm (fun H9 e10 => vt_aload_n rfl rfl rfl
 (vt_getr rfl rfl rfl
 (vt_iconst rfl
 (vt_aload_n rfl rfl rfl
 (vt_getr rfl rfl rfl
 (vt_iconst rfl
 (vt_bipush (v := 12) rfl (by decide)
 (vt_copy (n := 12) rfl rfl rfl rfl rfl rfl (vt_nm (fun H11 e12 => vt_retv rfl ((((((W H1 e2) H3 e4) H5 e6) H7 e8) H9 e10) H11 e12)))))))))))))))))))))))))))))))))))))))))))))))))))
theorem ve_GoodsBook_type_0 {X : Term} {xs : List Int32} {N : Nat} {H : fl_H} {a1 a3 : Int} {Q : Option Int → fl_H → Prop} (W : ∀ m, m < N → ck (cm_pg X xs) m cm_m75 [.index 58, fl_l a1, fl_t a3] H (fun r H1 => ∃ x3, r = some x3 ∧ (Q (some x3) H1))) (ga1 : fl_lr a1) : ck (cm_pg X xs) N cm_m108 [.index 0, fl_l a1, fl_t a3] H Q :=
  vt_aload_n rfl rfl rfl
 (vt_getr rfl rfl rfl
 (vt_lload_n rfl rfl
 (vt_iload_n rfl rfl
 (vt_callV rfl rfl (fun _ => rfl) (fun m hm => vt_int (W m hm) (fun x3 H1 w2 => vt_ret rfl w2))))))
def hd_Tape_append_58_15 (P : cm_G) (N : Nat) (H : fl_H) (a1 : Int) (a3 : Int) (a4 : Int) (Q : Option Int → fl_H → Prop) : Prop := ∀ lv : cm_Lv, cm_nth lv 0 = some (some (.index 58)) → cm_nth lv 1 = some (some (fl_l a1)) → cm_nth lv 3 = some (some (fl_t a3)) → cm_nth lv 4 = some (some (fl_t a4)) → vt P N cm_m75 15 lv [] H Q
def hd_Tape_append_58_64 (P : cm_G) (N : Nat) (H : fl_H) (a1 : Int) (a4 : Int) (Q : Option Int → fl_H → Prop) : Prop := ∀ lv : cm_Lv, cm_nth lv 0 = some (some (.index 58)) → cm_nth lv 1 = some (some (fl_l a1)) → cm_nth lv 4 = some (some (fl_t a4)) → vt P N cm_m75 64 lv [] H Q
theorem vh_Tape_append_58_15 {X : Term} {xs : List Int32} {N : Nat} {H : fl_H} {a1 : Int} {a3 : Int} {a4 : Int} {Q : Option Int → fl_H → Prop} (W : ((fl_w a3 ≤ fl_w a4) → ((fl_w ((H 58 1) + a3) ≤ 120) → hd_Tape_append_58_64 (cm_pg X xs) N H a1 (a3 - 1) Q) ∧ (¬ (fl_w ((H 58 1) + a3) ≤ 120) → Q (some (-3)) H)) ∧ (¬ (fl_w a3 ≤ fl_w a4) → ∀ m, m < N → ck (cm_pg X xs) m cm_m76 [fl_l a1, fl_t a4] H (fun r H4 => ∃ x6, r = some x6 ∧ (((fl_w 32 ≤ fl_w x6 ∧ fl_w x6 ≤ fl_w 126) → ∀ m, m < N → hd_Tape_append_58_15 (cm_pg X xs) m H4 a1 a3 (a4 + 1) Q) ∧ (¬ (fl_w 32 ≤ fl_w x6 ∧ fl_w x6 ≤ fl_w 126) → Q (some (-1)) H4))))) : hd_Tape_append_58_15 (cm_pg X xs) N H a1 a3 a4 Q :=
 fun lv h0 h1 h3 h4 =>
 vt_iload rfl h4
 (vt_iload_n rfl h3
 (vt_icmp rfl (fun hc1 => vt_aload_n rfl h0 rfl
 (vt_getf rfl rfl rfl
 (vt_iload_n rfl h3
 (vt_iadd rfl
 (vt_bipush (v := 120) rfl (by decide)
 (vt_icmp rfl (fun hc2 => vt_iload_n rfl h3
 (vt_iconst rfl
 (vt_isub rfl
 (vt_istoreA rfl (fun hl3 => ((W.1 hc1).1 hc2) _ (fl_lsn (by decide) h0) (fl_lsn (by decide) h1) (fl_lse hl3)))))) (fun hc2 => vt_bipush (v := (-3)) rfl (by decide)
 (vt_ret rfl ((W.1 hc1).2 hc2))))))))) (fun hc1 => vt_lload_n rfl h1
 (vt_iload rfl h4
 (vt_callS rfl rfl (fun _ => rfl) (fun m hm => vt_int ((W.2 hc1) m hm) (fun x6 H4 w5 => vt_bipush (v := 32) rfl (by decide)
 (vt_bipush (v := 126) rfl (by decide)
 (vt_callS rfl rfl (fun _ => rfl) (fun _ _ => vt_sum (sm_within)
 (vt_ifn rfl (fun hc7 => vt_iincA rfl h4 (fun hl8 => vt_gotoS rfl (fun m hm => ((w5.1 hc7) m hm) _ (fl_lsn (by decide) h0) (fl_lsn (by decide) h1) (fl_lsn (by decide) h3) (fl_lse hl8)))) (fun hc7 => vt_iconst rfl
 (vt_ret rfl (w5.2 hc7))))))))))))))
theorem vh_Tape_append_58_64 {X : Term} {xs : List Int32} {N : Nat} {H : fl_H} {a1 : Int} {a4 : Int} {Q : Option Int → fl_H → Prop} (W : ((fl_w a4 < 0) → Q (some (H 58 1)) H) ∧ (¬ (fl_w a4 < 0) → ∀ H2, H2 = fl_up H 58 1 ((H 58 1) + 1) → (∀ m, m < N → ck (cm_pg X xs) m cm_m76 [fl_l a1, fl_t a4] H2 (fun r H4 => ∃ x6, r = some x6 ∧ ((0 ≤ fl_w (H 58 1) ∧ fl_w (H 58 1) < 120 → ∀ H7, H7 = fl_up H4 59 (fl_w (H 58 1)).toNat (fl_i2b (fl_i2b x6)) → ∀ m, m < N → hd_Tape_append_58_64 (cm_pg X xs) m H7 a1 (a4 + (-1)) Q)))))) : hd_Tape_append_58_64 (cm_pg X xs) N H a1 a4 Q :=
 fun lv h0 h1 h4 =>
 vt_iload rfl h4
 (vt_ifc rfl (fun hc1 => vt_aload_n rfl h0 rfl
 (vt_getf rfl rfl rfl
 (vt_ret rfl (W.1 hc1)))) (fun hc1 => vt_aload_n rfl h0 rfl
 (vt_getr rfl rfl rfl
 (vt_aload_n rfl h0 rfl
 (vt_mv (fun _ _ => rfl)
 (vt_getf rfl rfl rfl
 (vt_mv (fun _ _ => rfl)
 (vt_iconst rfl
 (vt_iadd rfl
 (vt_putf rfl rfl rfl (vt_nm (fun H2 e3 => vt_lload_n rfl h1
 (vt_iload rfl h4
 (vt_callS rfl rfl (fun _ => rfl) (fun m hm => vt_int (((W.2 hc1) H2 e3) m hm) (fun x6 H4 w5 => vt_i2b rfl
 (vt_bast rfl rfl (fun hf9 => vt_nm (fun H7 e8 => vt_iincA rfl h4 (fun hl10 => vt_gotoS rfl (fun m hm => ((w5 hf9 H7 e8) m hm) _ (fl_lsn (by decide) h0) (fl_lsn (by decide) h1) (fl_lse hl10))))))))))))))))))))))
theorem ve_Tape_append_58 {X : Term} {xs : List Int32} {N : Nat} {H : fl_H} {a1 a3 : Int} {Q : Option Int → fl_H → Prop} (W : ((fl_w 1 ≤ fl_w a3 ∧ fl_w a3 ≤ fl_w 8) → hd_Tape_append_58_15 (cm_pg X xs) N H a1 a3 0 Q) ∧ (¬ (fl_w 1 ≤ fl_w a3 ∧ fl_w a3 ≤ fl_w 8) → Q (some (-1)) H)) (ga1 : fl_lr a1) : ck (cm_pg X xs) N cm_m75 [.index 58, fl_l a1, fl_t a3] H Q :=
  vt_iload_n rfl rfl
 (vt_iconst rfl
 (vt_bipush (v := 8) rfl (by decide)
 (vt_callS rfl rfl (fun _ => rfl) (fun _ _ => vt_sum (sm_within)
 (vt_ifn rfl (fun hc1 => vt_iconst rfl
 (vt_istore rfl
 ((W.1 hc1) _ rfl rfl rfl rfl))) (fun hc1 => vt_iconst rfl
 (vt_ret rfl (W.2 hc1))))))))
theorem ve_Tape_byteOf {X : Term} {xs : List Int32} {N : Nat} {H : fl_H} {a0 a2 : Int} {Q : Option Int → fl_H → Prop} (W : Q (some (fl_and (fl_l2i (fl_lushr a0 (8 * a2))) 255)) H) (ga0 : fl_lr a0) : ck (cm_pg X xs) N cm_m76 [fl_l a0, fl_t a2] H Q :=
  vt_lload_n rfl rfl
 (vt_bipush (v := 8) rfl (by decide)
 (vt_iload_n rfl rfl
 (vt_imul rfl
 (vt_lushr rfl
 (vt_l2i rfl
 (vt_sipush (v := 255) rfl (by decide)
 (vt_iand rfl
 (vt_ret rfl W))))))))
theorem ve_GoodsBook_set_0 {X : Term} {xs : List Int32} {N : Nat} {H : fl_H} {a1 a2 : Int} {Q : Option Int → fl_H → Prop} (W : ((fl_w 0 ≤ fl_w a1 ∧ fl_w a1 ≤ fl_w 2) → (0 ≤ fl_w a1 ∧ fl_w a1 < 3 → ((fl_w 0 ≤ fl_w a2 ∧ fl_w a2 ≤ fl_w (([99, 999, 999] : List Int).getD (fl_w a1).toNat 0)) → (0 ≤ fl_w a1 ∧ fl_w a1 < 3 → (0 ≤ fl_w a1 ∧ fl_w a1 < 3 → ∀ H5, H5 = fl_up H 18 (fl_w a1).toNat a2 → ∀ m, m < N → ck (cm_pg X xs) m cm_m141 [.index 0] H5 (fun r H8 => r = none ∧ (Q (some (H 18 (fl_w a1).toNat)) H8))))) ∧ (¬ (fl_w 0 ≤ fl_w a2 ∧ fl_w a2 ≤ fl_w (([99, 999, 999] : List Int).getD (fl_w a1).toNat 0)) → Q (some (-1)) H))) ∧ (¬ (fl_w 0 ≤ fl_w a1 ∧ fl_w a1 ≤ fl_w 2) → Q (some (-1)) H))  : ck (cm_pg X xs) N cm_m107 [.index 0, fl_t a1, fl_t a2] H Q :=
  vt_iload_n rfl rfl
 (vt_iconst rfl
 (vt_iconst rfl
 (vt_callS rfl rfl (fun _ => rfl) (fun _ _ => vt_sum (sm_within)
 (vt_ifb rfl (fun hc1 => vt_iload_n rfl rfl
 (vt_iconst rfl
 (vt_gets rfl rfl
 (vt_iload_n rfl rfl
 (vt_iold (l := [99, 999, 999]) rfl rfl rfl (fun hf2 => vt_callS rfl rfl (fun _ => rfl) (fun _ _ => vt_sum (sm_within)
 (vt_ifn rfl (fun hc3 => vt_aload_n rfl rfl rfl
 (vt_getr rfl rfl rfl
 (vt_getr rfl rfl rfl
 (vt_iload_n rfl rfl
 (vt_iald rfl rfl (fun hf4 => vt_istore_n rfl
 (vt_aload_n rfl rfl rfl
 (vt_getr rfl rfl rfl
 (vt_getr rfl rfl rfl
 (vt_iload_n rfl rfl
 (vt_iload_n rfl rfl
 (vt_iast rfl rfl (fun hf7 => vt_nm (fun H5 e6 => vt_aload_n rfl rfl rfl
 (vt_callV rfl rfl (fun _ => rfl) (fun m hm => vt_void ((((((W.1 hc1) hf2).1 hc3) hf4) hf7 H5 e6) m hm) (fun H8 w9 => vt_iload_n rfl rfl
 (vt_ret rfl w9)))))))))))))))))) (fun hc3 => vt_iconst rfl
 (vt_ret rfl (((W.1 hc1) hf2).2 hc3))))))))))) (fun hc1 => vt_iconst rfl
 (vt_ret rfl (W.2 hc1))))))))
theorem ve_GoodsBook_extra_0 {X : Term} {xs : List Int32} {N : Nat} {H : fl_H} {a1 a2 : Int} {Q : Option Int → fl_H → Prop} (W : ((fl_w 0 ≤ fl_w a1 ∧ fl_w a1 ≤ fl_w ((H 9 0) - 1)) → ((fl_w (-99) ≤ fl_w a2 ∧ fl_w a2 ≤ fl_w 99) → (0 ≤ fl_w a1 ∧ fl_w a1 < 12 → ((fl_w (H 10 (fl_w a1).toNat) ≤ 2) → (0 ≤ fl_w a1 ∧ fl_w a1 < 12 → (0 ≤ fl_w a1 ∧ fl_w a1 < 12 → ∀ H6, H6 = fl_up H 13 (fl_w a1).toNat a2 → ∀ m, m < N → ck (cm_pg X xs) m cm_m141 [.index 0] H6 (fun r H9 => r = none ∧ (Q (some (H 13 (fl_w a1).toNat)) H9))))) ∧ (¬ (fl_w (H 10 (fl_w a1).toNat) ≤ 2) → Q (some (-1000000012)) H))) ∧ (¬ (fl_w (-99) ≤ fl_w a2 ∧ fl_w a2 ≤ fl_w 99) → Q (some (-1000000001)) H)) ∧ (¬ (fl_w 0 ≤ fl_w a1 ∧ fl_w a1 ≤ fl_w ((H 9 0) - 1)) → Q (some (-1000000001)) H))  : ck (cm_pg X xs) N cm_m106 [.index 0, fl_t a1, fl_t a2] H Q :=
  vt_iload_n rfl rfl
 (vt_iconst rfl
 (vt_aload_n rfl rfl rfl
 (vt_getr rfl rfl rfl
 (vt_getr rfl rfl rfl
 (vt_getf rfl rfl rfl
 (vt_iconst rfl
 (vt_isub rfl
 (vt_callS rfl rfl (fun _ => rfl) (fun _ _ => vt_sum (sm_within)
 (vt_ifb rfl (fun hc1 => vt_iload_n rfl rfl
 (vt_bipush (v := (-99)) rfl (by decide)
 (vt_bipush (v := 99) rfl (by decide)
 (vt_callS rfl rfl (fun _ => rfl) (fun _ _ => vt_sum (sm_within)
 (vt_ifn rfl (fun hc2 => vt_aload_n rfl rfl rfl
 (vt_getr rfl rfl rfl
 (vt_getr rfl rfl rfl
 (vt_getr rfl rfl rfl
 (vt_iload_n rfl rfl
 (vt_iald rfl rfl (fun hf3 => vt_iconst rfl
 (vt_icmp rfl (fun hc4 => vt_aload_n rfl rfl rfl
 (vt_getr rfl rfl rfl
 (vt_getr rfl rfl rfl
 (vt_getr rfl rfl rfl
 (vt_iload_n rfl rfl
 (vt_iald rfl rfl (fun hf5 => vt_istore_n rfl
 (vt_aload_n rfl rfl rfl
 (vt_getr rfl rfl rfl
 (vt_getr rfl rfl rfl
 (vt_getr rfl rfl rfl
 (vt_iload_n rfl rfl
 (vt_iload_n rfl rfl
 (vt_iast rfl rfl (fun hf8 => vt_nm (fun H6 e7 => vt_aload_n rfl rfl rfl
 (vt_callV rfl rfl (fun _ => rfl) (fun m hm => vt_void (((((((W.1 hc1).1 hc2) hf3).1 hc4) hf5) hf8 H6 e7) m hm) (fun H9 w10 => vt_iload_n rfl rfl
 (vt_ret rfl w10)))))))))))))))))))) (fun hc4 => vt_ldc (v := (-1000000012)) rfl (by decide)
 (vt_ret rfl ((((W.1 hc1).1 hc2) hf3).2 hc4))))))))))) (fun hc2 => vt_ldc (v := (-1000000001)) rfl (by decide)
 (vt_ret rfl ((W.1 hc1).2 hc2))))))))) (fun hc1 => vt_ldc (v := (-1000000001)) rfl (by decide)
 (vt_ret rfl (W.2 hc1)))))))))))))
theorem ve_GoodsBook_bond_0 {X : Term} {xs : List Int32} {N : Nat} {H : fl_H} {a1 a2 a3 a4 : Int} {Q : Option Int → fl_H → Prop} (W : ((fl_w 0 ≤ fl_w a1 ∧ fl_w a1 ≤ fl_w 5) → ∀ m, m < N → ck (cm_pg X xs) m cm_m139 [.index 0, fl_t a2] H (fun r H2 => ∃ x4, r = some x4 ∧ (((fl_w x4 = 0) → Q (some (-1)) H2) ∧ (¬ (fl_w x4 = 0) → ∀ m, m < N → ck (cm_pg X xs) m cm_m139 [.index 0, fl_t a3] H2 (fun r H6 => ∃ x8, r = some x8 ∧ (((fl_w x8 = 0) → Q (some (-1)) H6) ∧ (¬ (fl_w x8 = 0) → (fl_w a2 = fl_w a3 → Q (some (-1)) H6) ∧ (¬ fl_w a2 = fl_w a3 → ((2 < fl_w a1) → ((fl_w (-0) ≤ fl_w a4 ∧ fl_w a4 ≤ fl_w 0) → ∀ m, m < N → ck (cm_pg X xs) m cm_m4 [.index 9, fl_t a1, fl_t a2, fl_t a3, fl_t a4] H6 (fun r H13 => ∃ x15, r = some x15 ∧ (∀ m, m < N → ck (cm_pg X xs) m cm_m141 [.index 0] H13 (fun r H16 => r = none ∧ (Q (some x15) H16))))) ∧ (¬ (fl_w (-0) ≤ fl_w a4 ∧ fl_w a4 ≤ fl_w 0) → Q (some (-1)) H6)) ∧ (¬ (2 < fl_w a1) → ((fl_w (-99) ≤ fl_w a4 ∧ fl_w a4 ≤ fl_w 99) → ∀ m, m < N → ck (cm_pg X xs) m cm_m4 [.index 9, fl_t a1, fl_t a2, fl_t a3, fl_t a4] H6 (fun r H19 => ∃ x21, r = some x21 ∧ (∀ m, m < N → ck (cm_pg X xs) m cm_m141 [.index 0] H19 (fun r H22 => r = none ∧ (Q (some x21) H22))))) ∧ (¬ (fl_w (-99) ≤ fl_w a4 ∧ fl_w a4 ≤ fl_w 99) → Q (some (-1)) H6)))))))))) ∧ (¬ (fl_w 0 ≤ fl_w a1 ∧ fl_w a1 ≤ fl_w 5) → Q (some (-1)) H))  : ck (cm_pg X xs) N cm_m105 [.index 0, fl_t a1, fl_t a2, fl_t a3, fl_t a4] H Q :=
  vt_iload_n rfl rfl
 (vt_iconst rfl
 (vt_iconst rfl
 (vt_callS rfl rfl (fun _ => rfl) (fun _ _ => vt_sum (sm_within)
 (vt_ifb rfl (fun hc1 => vt_aload_n rfl rfl rfl
 (vt_iload_n rfl rfl
 (vt_callV rfl rfl (fun _ => rfl) (fun m hm => vt_int ((W.1 hc1) m hm) (fun x4 H2 w3 => vt_ifc rfl (fun hc5 => vt_iconst rfl
 (vt_ret rfl (w3.1 hc5))) (fun hc5 => vt_aload_n rfl rfl rfl
 (vt_iload_n rfl rfl
 (vt_callV rfl rfl (fun _ => rfl) (fun m hm => vt_int ((w3.2 hc5) m hm) (fun x8 H6 w7 => vt_ifc rfl (fun hc9 => vt_iconst rfl
 (vt_ret rfl (w7.1 hc9))) (fun hc9 => vt_iload_n rfl rfl
 (vt_iload_n rfl rfl
 (vt_icmpN rfl (fun hc10 => vt_iload_n rfl rfl
 (vt_iconst rfl
 (vt_icmp rfl (fun hc11 => vt_iconst rfl
 (vt_istore rfl
 (vt_iload rfl rfl
 (vt_iload rfl rfl
 (vt_ineg rfl
 (vt_iload rfl rfl
 (vt_callS rfl rfl (fun _ => rfl) (fun _ _ => vt_sum (sm_within)
 (vt_ifn rfl (fun hc12 => vt_aload_n rfl rfl rfl
 (vt_getr rfl rfl rfl
 (vt_getr rfl rfl rfl
 (vt_iload_n rfl rfl
 (vt_iload_n rfl rfl
 (vt_iload_n rfl rfl
 (vt_iload rfl rfl
 (vt_callV rfl rfl (fun _ => rfl) (fun m hm => vt_int (((((w7.2 hc9).2 hc10).1 hc11).1 hc12) m hm) (fun x15 H13 w14 => vt_istore rfl
 (vt_aload_n rfl rfl rfl
 (vt_callV rfl rfl (fun _ => rfl) (fun m hm => vt_void (w14 m hm) (fun H16 w17 => vt_iload rfl rfl
 (vt_ret rfl w17))))))))))))))) (fun hc12 => vt_iconst rfl
 (vt_ret rfl ((((w7.2 hc9).2 hc10).1 hc11).2 hc12)))))))))))) (fun hc11 => vt_bipush (v := 99) rfl (by decide)
 (vt_goto rfl
 (vt_istore rfl
 (vt_iload rfl rfl
 (vt_iload rfl rfl
 (vt_ineg rfl
 (vt_iload rfl rfl
 (vt_callS rfl rfl (fun _ => rfl) (fun _ _ => vt_sum (sm_within)
 (vt_ifn rfl (fun hc18 => vt_aload_n rfl rfl rfl
 (vt_getr rfl rfl rfl
 (vt_getr rfl rfl rfl
 (vt_iload_n rfl rfl
 (vt_iload_n rfl rfl
 (vt_iload_n rfl rfl
 (vt_iload rfl rfl
 (vt_callV rfl rfl (fun _ => rfl) (fun m hm => vt_int (((((w7.2 hc9).2 hc10).2 hc11).1 hc18) m hm) (fun x21 H19 w20 => vt_istore rfl
 (vt_aload_n rfl rfl rfl
 (vt_callV rfl rfl (fun _ => rfl) (fun m hm => vt_void (w20 m hm) (fun H22 w23 => vt_iload rfl rfl
 (vt_ret rfl w23))))))))))))))) (fun hc18 => vt_iconst rfl
 (vt_ret rfl ((((w7.2 hc9).2 hc10).2 hc11).2 hc18)))))))))))))))) (fun hc10 => vt_iconst rfl
 (vt_ret rfl ((w7.2 hc9).1 hc10)))))))))))))))) (fun hc1 => vt_iconst rfl
 (vt_ret rfl (W.2 hc1))))))))
theorem ve_Bonds_add_9 {X : Term} {xs : List Int32} {N : Nat} {H : fl_H} {a1 a2 a3 a4 : Int} {Q : Option Int → fl_H → Prop} (W : ((fl_w (H 9 0) < 12) → (0 ≤ fl_w (H 9 0) ∧ fl_w (H 9 0) < 12 → ∀ H2, H2 = fl_up H 10 (fl_w (H 9 0)).toNat a1 → (0 ≤ fl_w (H2 9 0) ∧ fl_w (H2 9 0) < 12 → ∀ H5, H5 = fl_up H2 11 (fl_w (H2 9 0)).toNat a2 → (0 ≤ fl_w (H5 9 0) ∧ fl_w (H5 9 0) < 12 → ∀ H8, H8 = fl_up H5 12 (fl_w (H5 9 0)).toNat a3 → (0 ≤ fl_w (H8 9 0) ∧ fl_w (H8 9 0) < 12 → ∀ H11, H11 = fl_up H8 13 (fl_w (H8 9 0)).toNat a4 → ∀ H14, H14 = fl_up H11 9 0 ((H11 9 0) + 1) → (Q (some (H11 9 0)) H14)))))) ∧ (¬ (fl_w (H 9 0) < 12) → Q (some (-3)) H))  : ck (cm_pg X xs) N cm_m4 [.index 9, fl_t a1, fl_t a2, fl_t a3, fl_t a4] H Q :=
  vt_aload_n rfl rfl rfl
 (vt_getf rfl rfl rfl
 (vt_bipush (v := 12) rfl (by decide)
 (vt_icmp rfl (fun hc1 => vt_aload_n rfl rfl rfl
 (vt_getr rfl rfl rfl
 (vt_aload_n rfl rfl rfl
 (vt_getf rfl rfl rfl
 (vt_iload_n rfl rfl
 (vt_iast rfl rfl (fun hf4 => vt_nm (fun H2 e3 => vt_aload_n rfl rfl rfl
 (vt_getr rfl rfl rfl
 (vt_aload_n rfl rfl rfl
 (vt_getf rfl rfl rfl
 (vt_iload_n rfl rfl
 (vt_iast rfl rfl (fun hf7 => vt_nm (fun H5 e6 => vt_aload_n rfl rfl rfl
 (vt_getr rfl rfl rfl
 (vt_aload_n rfl rfl rfl
 (vt_getf rfl rfl rfl
 (vt_iload_n rfl rfl
 (vt_iast rfl rfl (fun hf10 => vt_nm (fun H8 e9 => vt_aload_n rfl rfl rfl
 (vt_getr rfl rfl rfl
 (vt_aload_n rfl rfl rfl
 (vt_getf rfl rfl rfl
 (vt_iload rfl rfl
 (vt_iast rfl rfl (fun hf13 => vt_nm (fun H11 e12 => vt_aload_n rfl rfl rfl
 (vt_mv (fun _ _ => rfl)
 (vt_getf rfl rfl rfl
 (vt_mv (fun _ _ => rfl)
 (vt_iconst rfl
 (vt_iadd rfl
 (vt_putf rfl rfl rfl (vt_nm (fun H14 e15 => vt_ret rfl ((((((W.1 hc1) hf4 H2 e3) hf7 H5 e6) hf10 H8 e9) hf13 H11 e12) H14 e15)))))))))))))))))))))))))))))))))))))) (fun hc1 => vt_bipush (v := (-3)) rfl (by decide)
 (vt_ret rfl (W.2 hc1))))))
theorem ve_GoodsBook_told_0 {X : Term} {xs : List Int32} {N : Nat} {H : fl_H} {a1 a2 : Int} {Q : Option Int → fl_H → Prop} (W : ∀ m, m < N → ck (cm_pg X xs) m cm_m139 [.index 0, fl_t a1] H (fun r H1 => ∃ x3, r = some x3 ∧ (((fl_w x3 = 0) → Q (some (-1)) H1) ∧ (¬ (fl_w x3 = 0) → ((fl_w 0 ≤ fl_w a2 ∧ fl_w a2 ≤ fl_w 7) → ∀ m, m < N → ck (cm_pg X xs) m cm_m46 [.index 3, fl_t a1, fl_t a2] H1 (fun r H6 => ∃ x8, r = some x8 ∧ (Q (some x8) H6))) ∧ (¬ (fl_w 0 ≤ fl_w a2 ∧ fl_w a2 ≤ fl_w 7) → Q (some (-1)) H1)))))  : ck (cm_pg X xs) N cm_m104 [.index 0, fl_t a1, fl_t a2] H Q :=
  vt_aload_n rfl rfl rfl
 (vt_iload_n rfl rfl
 (vt_callV rfl rfl (fun _ => rfl) (fun m hm => vt_int (W m hm) (fun x3 H1 w2 => vt_ifc rfl (fun hc4 => vt_iconst rfl
 (vt_ret rfl (w2.1 hc4))) (fun hc4 => vt_iload_n rfl rfl
 (vt_iconst rfl
 (vt_bipush (v := 7) rfl (by decide)
 (vt_callS rfl rfl (fun _ => rfl) (fun _ _ => vt_sum (sm_within)
 (vt_ifn rfl (fun hc5 => vt_aload_n rfl rfl rfl
 (vt_getr rfl rfl rfl
 (vt_getr rfl rfl rfl
 (vt_iload_n rfl rfl
 (vt_iload_n rfl rfl
 (vt_callV rfl rfl (fun _ => rfl) (fun m hm => vt_int (((w2.2 hc4).1 hc5) m hm) (fun x8 H6 w7 => vt_ret rfl w7)))))))) (fun hc5 => vt_iconst rfl
 (vt_ret rfl ((w2.2 hc4).2 hc5)))))))))))))
theorem ve_Goods_fact_3 {X : Term} {xs : List Int32} {N : Nat} {H : fl_H} {a1 a2 : Int} {Q : Option Int → fl_H → Prop} (W : (fl_w a2 = 0 → (0 ≤ fl_w a1 ∧ fl_w a1 < 6 → Q (some (H 4 (fl_w a1).toNat)) H)) ∧ (fl_w a2 = 1 → (0 ≤ fl_w a1 ∧ fl_w a1 < 6 → Q (some (H 5 (fl_w a1).toNat)) H)) ∧ (fl_w a2 = 2 → (0 ≤ fl_w (2 * a1) ∧ fl_w (2 * a1) < 12 → Q (some (H 6 (fl_w (2 * a1)).toNat)) H)) ∧ (fl_w a2 = 3 → (0 ≤ fl_w (2 * a1) ∧ fl_w (2 * a1) < 12 → Q (some (H 7 (fl_w (2 * a1)).toNat)) H)) ∧ (fl_w a2 = 4 → (0 ≤ fl_w (2 * a1) ∧ fl_w (2 * a1) < 12 → Q (some (H 8 (fl_w (2 * a1)).toNat)) H)) ∧ (fl_w a2 = 5 → (0 ≤ fl_w ((2 * a1) + 1) ∧ fl_w ((2 * a1) + 1) < 12 → Q (some (H 6 (fl_w ((2 * a1) + 1)).toNat)) H)) ∧ (fl_w a2 = 6 → (0 ≤ fl_w ((2 * a1) + 1) ∧ fl_w ((2 * a1) + 1) < 12 → Q (some (H 7 (fl_w ((2 * a1) + 1)).toNat)) H)) ∧ (fl_w a2 < 0 ∨ 6 < fl_w a2 → (0 ≤ fl_w ((2 * a1) + 1) ∧ fl_w ((2 * a1) + 1) < 12 → Q (some (H 8 (fl_w ((2 * a1) + 1)).toNat)) H)))  : ck (cm_pg X xs) N cm_m46 [.index 3, fl_t a1, fl_t a2] H Q :=
  vt_iload_n rfl rfl
 (if hs1 : fl_w a2 = 0 then vt_swk rfl (vt_sw_in (j := 0) (by omega) (by omega) (by omega) rfl) (vt_aload_n rfl rfl rfl
 (vt_getr rfl rfl rfl
 (vt_iload_n rfl rfl
 (vt_iald rfl rfl (fun hf2 => vt_ret rfl ((W.1 hs1) hf2)))))) else if hs3 : fl_w a2 = 1 then vt_swk rfl (vt_sw_in (j := 1) (by omega) (by omega) (by omega) rfl) (vt_aload_n rfl rfl rfl
 (vt_getr rfl rfl rfl
 (vt_iload_n rfl rfl
 (vt_iald rfl rfl (fun hf4 => vt_ret rfl ((W.2.1 hs3) hf4)))))) else if hs5 : fl_w a2 = 2 then vt_swk rfl (vt_sw_in (j := 2) (by omega) (by omega) (by omega) rfl) (vt_aload_n rfl rfl rfl
 (vt_getr rfl rfl rfl
 (vt_iconst rfl
 (vt_iload_n rfl rfl
 (vt_imul rfl
 (vt_iald rfl rfl (fun hf6 => vt_ret rfl ((W.2.2.1 hs5) hf6)))))))) else if hs7 : fl_w a2 = 3 then vt_swk rfl (vt_sw_in (j := 3) (by omega) (by omega) (by omega) rfl) (vt_aload_n rfl rfl rfl
 (vt_getr rfl rfl rfl
 (vt_iconst rfl
 (vt_iload_n rfl rfl
 (vt_imul rfl
 (vt_iald rfl rfl (fun hf8 => vt_ret rfl ((W.2.2.2.1 hs7) hf8)))))))) else if hs9 : fl_w a2 = 4 then vt_swk rfl (vt_sw_in (j := 4) (by omega) (by omega) (by omega) rfl) (vt_aload_n rfl rfl rfl
 (vt_getr rfl rfl rfl
 (vt_iconst rfl
 (vt_iload_n rfl rfl
 (vt_imul rfl
 (vt_iald rfl rfl (fun hf10 => vt_ret rfl ((W.2.2.2.2.1 hs9) hf10)))))))) else if hs11 : fl_w a2 = 5 then vt_swk rfl (vt_sw_in (j := 5) (by omega) (by omega) (by omega) rfl) (vt_aload_n rfl rfl rfl
 (vt_getr rfl rfl rfl
 (vt_iconst rfl
 (vt_iload_n rfl rfl
 (vt_imul rfl
 (vt_iconst rfl
 (vt_iadd rfl
 (vt_iald rfl rfl (fun hf12 => vt_ret rfl ((W.2.2.2.2.2.1 hs11) hf12)))))))))) else if hs13 : fl_w a2 = 6 then vt_swk rfl (vt_sw_in (j := 6) (by omega) (by omega) (by omega) rfl) (vt_aload_n rfl rfl rfl
 (vt_getr rfl rfl rfl
 (vt_iconst rfl
 (vt_iload_n rfl rfl
 (vt_imul rfl
 (vt_iconst rfl
 (vt_iadd rfl
 (vt_iald rfl rfl (fun hf14 => vt_ret rfl ((W.2.2.2.2.2.2.1 hs13) hf14)))))))))) else vt_swk rfl (vt_sw_out (by omega)) (vt_aload_n rfl rfl rfl
 (vt_getr rfl rfl rfl
 (vt_iconst rfl
 (vt_iload_n rfl rfl
 (vt_imul rfl
 (vt_iconst rfl
 (vt_iadd rfl
 (vt_iald rfl rfl (fun hf16 => vt_ret rfl ((W.2.2.2.2.2.2.2 (by omega)) hf16)))))))))))
theorem ve_GoodsBook_size_0 {X : Term} {xs : List Int32} {N : Nat} {H : fl_H} {a1 a2 a3 a4 a5 : Int} {Q : Option Int → fl_H → Prop} (W : ∀ m, m < N → ck (cm_pg X xs) m cm_m139 [.index 0, fl_t a1] H (fun r H1 => ∃ x3, r = some x3 ∧ (((fl_w x3 = 0) → Q (some (-1)) H1) ∧ (¬ (fl_w x3 = 0) → ((fl_w 0 ≤ fl_w a2 ∧ fl_w a2 ≤ fl_w 1) → ((fl_w 1 ≤ fl_w a3 ∧ fl_w a3 ≤ fl_w 4) → ((fl_w 1 ≤ fl_w a4 ∧ fl_w a4 ≤ fl_w 4) → ((fl_w 0 ≤ fl_w a5 ∧ fl_w a5 ≤ fl_w 999) → (0 ≤ fl_w ((2 * a1) + a2) ∧ fl_w ((2 * a1) + a2) < 12 → ∀ m, m < N → ck (cm_pg X xs) m cm_m44 [.index 3, fl_t a1, fl_t a2, fl_t a3, fl_t a4, fl_t a5] H1 (fun r H10 => r = none ∧ (∀ m, m < N → ck (cm_pg X xs) m cm_m140 [.index 0] H10 (fun r H12 => r = none ∧ (Q (some (H1 8 (fl_w ((2 * a1) + a2)).toNat)) H12)))))) ∧ (¬ (fl_w 0 ≤ fl_w a5 ∧ fl_w a5 ≤ fl_w 999) → Q (some (-1)) H1)) ∧ (¬ (fl_w 1 ≤ fl_w a4 ∧ fl_w a4 ≤ fl_w 4) → Q (some (-1)) H1)) ∧ (¬ (fl_w 1 ≤ fl_w a3 ∧ fl_w a3 ≤ fl_w 4) → Q (some (-1)) H1)) ∧ (¬ (fl_w 0 ≤ fl_w a2 ∧ fl_w a2 ≤ fl_w 1) → Q (some (-1)) H1)))))  : ck (cm_pg X xs) N cm_m103 [.index 0, fl_t a1, fl_t a2, fl_t a3, fl_t a4, fl_t a5] H Q :=
  vt_aload_n rfl rfl rfl
 (vt_iload_n rfl rfl
 (vt_callV rfl rfl (fun _ => rfl) (fun m hm => vt_int (W m hm) (fun x3 H1 w2 => vt_ifc rfl (fun hc4 => vt_iconst rfl
 (vt_ret rfl (w2.1 hc4))) (fun hc4 => vt_iload_n rfl rfl
 (vt_iconst rfl
 (vt_iconst rfl
 (vt_callS rfl rfl (fun _ => rfl) (fun _ _ => vt_sum (sm_within)
 (vt_ifn rfl (fun hc5 => vt_iload_n rfl rfl
 (vt_iconst rfl
 (vt_iconst rfl
 (vt_callS rfl rfl (fun _ => rfl) (fun _ _ => vt_sum (sm_within)
 (vt_ifb rfl (fun hc6 => vt_iload rfl rfl
 (vt_iconst rfl
 (vt_iconst rfl
 (vt_callS rfl rfl (fun _ => rfl) (fun _ _ => vt_sum (sm_within)
 (vt_ifb rfl (fun hc7 => vt_iload rfl rfl
 (vt_iconst rfl
 (vt_sipush (v := 999) rfl (by decide)
 (vt_callS rfl rfl (fun _ => rfl) (fun _ _ => vt_sum (sm_within)
 (vt_ifn rfl (fun hc8 => vt_aload_n rfl rfl rfl
 (vt_getr rfl rfl rfl
 (vt_getr rfl rfl rfl
 (vt_getr rfl rfl rfl
 (vt_iconst rfl
 (vt_iload_n rfl rfl
 (vt_imul rfl
 (vt_iload_n rfl rfl
 (vt_iadd rfl
 (vt_iald rfl rfl (fun hf9 => vt_istore rfl
 (vt_aload_n rfl rfl rfl
 (vt_getr rfl rfl rfl
 (vt_getr rfl rfl rfl
 (vt_iload_n rfl rfl
 (vt_iload_n rfl rfl
 (vt_iload_n rfl rfl
 (vt_iload rfl rfl
 (vt_iload rfl rfl
 (vt_callV rfl rfl (fun _ => rfl) (fun m hm => vt_void (((((((w2.2 hc4).1 hc5).1 hc6).1 hc7).1 hc8) hf9) m hm) (fun H10 w11 => vt_aload_n rfl rfl rfl
 (vt_callV rfl rfl (fun _ => rfl) (fun m hm => vt_void (w11 m hm) (fun H12 w13 => vt_iload rfl rfl
 (vt_ret rfl w13)))))))))))))))))))))))))) (fun hc8 => vt_iconst rfl
 (vt_ret rfl (((((w2.2 hc4).1 hc5).1 hc6).1 hc7).2 hc8))))))))) (fun hc7 => vt_iconst rfl
 (vt_ret rfl ((((w2.2 hc4).1 hc5).1 hc6).2 hc7))))))))) (fun hc6 => vt_iconst rfl
 (vt_ret rfl (((w2.2 hc4).1 hc5).2 hc6))))))))) (fun hc5 => vt_iconst rfl
 (vt_ret rfl ((w2.2 hc4).2 hc5)))))))))))))
theorem ve_Goods_measure_3 {X : Term} {xs : List Int32} {N : Nat} {H : fl_H} {a1 a2 a3 a4 a5 : Int} {Q : Option Int → fl_H → Prop} (W : (0 ≤ fl_w ((2 * a1) + a2) ∧ fl_w ((2 * a1) + a2) < 12 → ∀ H1, H1 = fl_up H 6 (fl_w ((2 * a1) + a2)).toNat a3 → (0 ≤ fl_w ((2 * a1) + a2) ∧ fl_w ((2 * a1) + a2) < 12 → ∀ H4, H4 = fl_up H1 7 (fl_w ((2 * a1) + a2)).toNat a4 → (0 ≤ fl_w ((2 * a1) + a2) ∧ fl_w ((2 * a1) + a2) < 12 → ∀ H7, H7 = fl_up H4 8 (fl_w ((2 * a1) + a2)).toNat a5 → Q none H7))))  : ck (cm_pg X xs) N cm_m44 [.index 3, fl_t a1, fl_t a2, fl_t a3, fl_t a4, fl_t a5] H Q :=
  vt_aload_n rfl rfl rfl
 (vt_getr rfl rfl rfl
 (vt_iconst rfl
 (vt_iload_n rfl rfl
 (vt_imul rfl
 (vt_iload_n rfl rfl
 (vt_iadd rfl
 (vt_iload_n rfl rfl
 (vt_iast rfl rfl (fun hf3 => vt_nm (fun H1 e2 => vt_aload_n rfl rfl rfl
 (vt_getr rfl rfl rfl
 (vt_iconst rfl
 (vt_iload_n rfl rfl
 (vt_imul rfl
 (vt_iload_n rfl rfl
 (vt_iadd rfl
 (vt_iload rfl rfl
 (vt_iast rfl rfl (fun hf6 => vt_nm (fun H4 e5 => vt_aload_n rfl rfl rfl
 (vt_getr rfl rfl rfl
 (vt_iconst rfl
 (vt_iload_n rfl rfl
 (vt_imul rfl
 (vt_iload_n rfl rfl
 (vt_iadd rfl
 (vt_iload rfl rfl
 (vt_iast rfl rfl (fun hf9 => vt_nm (fun H7 e8 => vt_retv rfl (((W hf3 H1 e2) hf6 H4 e5) hf9 H7 e8)))))))))))))))))))))))))))))))
theorem ve_GoodsBook_good_0 {X : Term} {xs : List Int32} {N : Nat} {H : fl_H} {a1 a2 : Int} {Q : Option Int → fl_H → Prop} (W : ((fl_w 0 ≤ fl_w a1 ∧ fl_w a1 ≤ fl_w 3) → ((fl_w 0 ≤ fl_w a2 ∧ fl_w a2 ≤ fl_w 3) → ∀ m, m < N → ck (cm_pg X xs) m cm_m43 [.index 3, fl_t a1, fl_t a2] H (fun r H3 => ∃ x5, r = some x5 ∧ (∀ m, m < N → ck (cm_pg X xs) m cm_m140 [.index 0] H3 (fun r H6 => r = none ∧ (Q (some x5) H6))))) ∧ (¬ (fl_w 0 ≤ fl_w a2 ∧ fl_w a2 ≤ fl_w 3) → Q (some (-1)) H)) ∧ (¬ (fl_w 0 ≤ fl_w a1 ∧ fl_w a1 ≤ fl_w 3) → Q (some (-1)) H))  : ck (cm_pg X xs) N cm_m102 [.index 0, fl_t a1, fl_t a2] H Q :=
  vt_iload_n rfl rfl
 (vt_iconst rfl
 (vt_iconst rfl
 (vt_callS rfl rfl (fun _ => rfl) (fun _ _ => vt_sum (sm_within)
 (vt_ifb rfl (fun hc1 => vt_iload_n rfl rfl
 (vt_iconst rfl
 (vt_iconst rfl
 (vt_callS rfl rfl (fun _ => rfl) (fun _ _ => vt_sum (sm_within)
 (vt_ifn rfl (fun hc2 => vt_aload_n rfl rfl rfl
 (vt_getr rfl rfl rfl
 (vt_getr rfl rfl rfl
 (vt_iload_n rfl rfl
 (vt_iload_n rfl rfl
 (vt_callV rfl rfl (fun _ => rfl) (fun m hm => vt_int (((W.1 hc1).1 hc2) m hm) (fun x5 H3 w4 => vt_istore_n rfl
 (vt_aload_n rfl rfl rfl
 (vt_callV rfl rfl (fun _ => rfl) (fun m hm => vt_void (w4 m hm) (fun H6 w7 => vt_iload_n rfl rfl
 (vt_ret rfl w7))))))))))))) (fun hc2 => vt_iconst rfl
 (vt_ret rfl ((W.1 hc1).2 hc2))))))))) (fun hc1 => vt_iconst rfl
 (vt_ret rfl (W.2 hc1))))))))
theorem ve_Goods_add_3 {X : Term} {xs : List Int32} {N : Nat} {H : fl_H} {a1 a2 : Int} {Q : Option Int → fl_H → Prop} (W : ((fl_w (H 3 0) < 6) → (0 ≤ fl_w (H 3 0) ∧ fl_w (H 3 0) < 6 → ∀ H2, H2 = fl_up H 4 (fl_w (H 3 0)).toNat a1 → (0 ≤ fl_w (H2 3 0) ∧ fl_w (H2 3 0) < 6 → ∀ H5, H5 = fl_up H2 5 (fl_w (H2 3 0)).toNat a2 → ∀ m, m < N → ck (cm_pg X xs) m cm_m44 [.index 3, fl_t (H5 3 0), fl_t 0, fl_t 1, fl_t 1, fl_t 0] H5 (fun r H8 => r = none ∧ (∀ m, m < N → ck (cm_pg X xs) m cm_m44 [.index 3, fl_t (H8 3 0), fl_t 1, fl_t 1, fl_t 1, fl_t 0] H8 (fun r H10 => r = none ∧ (∀ H12, H12 = fl_up H10 3 0 ((H10 3 0) + 1) → (Q (some (H10 3 0)) H12)))))))) ∧ (¬ (fl_w (H 3 0) < 6) → Q (some (-3)) H))  : ck (cm_pg X xs) N cm_m43 [.index 3, fl_t a1, fl_t a2] H Q :=
  vt_aload_n rfl rfl rfl
 (vt_getf rfl rfl rfl
 (vt_bipush (v := 6) rfl (by decide)
 (vt_icmp rfl (fun hc1 => vt_aload_n rfl rfl rfl
 (vt_getr rfl rfl rfl
 (vt_aload_n rfl rfl rfl
 (vt_getf rfl rfl rfl
 (vt_iload_n rfl rfl
 (vt_iast rfl rfl (fun hf4 => vt_nm (fun H2 e3 => vt_aload_n rfl rfl rfl
 (vt_getr rfl rfl rfl
 (vt_aload_n rfl rfl rfl
 (vt_getf rfl rfl rfl
 (vt_iload_n rfl rfl
 (vt_iast rfl rfl (fun hf7 => vt_nm (fun H5 e6 => vt_aload_n rfl rfl rfl
 (vt_aload_n rfl rfl rfl
 (vt_getf rfl rfl rfl
 (vt_iconst rfl
 (vt_iconst rfl
 (vt_iconst rfl
 (vt_iconst rfl
 (vt_callV rfl rfl (fun _ => rfl) (fun m hm => vt_void ((((W.1 hc1) hf4 H2 e3) hf7 H5 e6) m hm) (fun H8 w9 => vt_aload_n rfl rfl rfl
 (vt_aload_n rfl rfl rfl
 (vt_getf rfl rfl rfl
 (vt_iconst rfl
 (vt_iconst rfl
 (vt_iconst rfl
 (vt_iconst rfl
 (vt_callV rfl rfl (fun _ => rfl) (fun m hm => vt_void (w9 m hm) (fun H10 w11 => vt_aload_n rfl rfl rfl
 (vt_mv (fun _ _ => rfl)
 (vt_getf rfl rfl rfl
 (vt_mv (fun _ _ => rfl)
 (vt_iconst rfl
 (vt_iadd rfl
 (vt_putf rfl rfl rfl (vt_nm (fun H12 e13 => vt_ret rfl (w11 H12 e13)))))))))))))))))))))))))))))))))))))))))) (fun hc1 => vt_bipush (v := (-3)) rfl (by decide)
 (vt_ret rfl (W.2 hc1))))))
theorem ve_GoodsBook_seen_0 {X : Term} {xs : List Int32} {N : Nat} {H : fl_H} {a1 a2 : Int} {Q : Option Int → fl_H → Prop} (W : ∀ m, m < N → ck (cm_pg X xs) m cm_m138 [.index 0, fl_t a1] H (fun r H1 => ∃ x3, r = some x3 ∧ (((fl_w x3 = 0) → Q (some (-1)) H1) ∧ (¬ (fl_w x3 = 0) → ((fl_w 0 ≤ fl_w a2 ∧ fl_w a2 ≤ fl_w 60) → (0 ≤ fl_w a1 ∧ fl_w a1 < 3 → (0 ≤ fl_w a1 ∧ fl_w a1 < 3 → ∀ H7, H7 = fl_up H1 2 (fl_w a1).toNat a2 → ∀ m, m < N → ck (cm_pg X xs) m cm_m141 [.index 0] H7 (fun r H10 => r = none ∧ (Q (some (H1 2 (fl_w a1).toNat)) H10))))) ∧ (¬ (fl_w 0 ≤ fl_w a2 ∧ fl_w a2 ≤ fl_w 60) → Q (some (-1)) H1)))))  : ck (cm_pg X xs) N cm_m101 [.index 0, fl_t a1, fl_t a2] H Q :=
  vt_aload_n rfl rfl rfl
 (vt_iload_n rfl rfl
 (vt_callV rfl rfl (fun _ => rfl) (fun m hm => vt_int (W m hm) (fun x3 H1 w2 => vt_ifc rfl (fun hc4 => vt_iconst rfl
 (vt_ret rfl (w2.1 hc4))) (fun hc4 => vt_iload_n rfl rfl
 (vt_iconst rfl
 (vt_bipush (v := 60) rfl (by decide)
 (vt_callS rfl rfl (fun _ => rfl) (fun _ _ => vt_sum (sm_within)
 (vt_ifn rfl (fun hc5 => vt_aload_n rfl rfl rfl
 (vt_getr rfl rfl rfl
 (vt_getr rfl rfl rfl
 (vt_iload_n rfl rfl
 (vt_iald rfl rfl (fun hf6 => vt_istore_n rfl
 (vt_aload_n rfl rfl rfl
 (vt_getr rfl rfl rfl
 (vt_getr rfl rfl rfl
 (vt_iload_n rfl rfl
 (vt_iload_n rfl rfl
 (vt_iast rfl rfl (fun hf9 => vt_nm (fun H7 e8 => vt_aload_n rfl rfl rfl
 (vt_callV rfl rfl (fun _ => rfl) (fun m hm => vt_void (((((w2.2 hc4).1 hc5) hf6) hf9 H7 e8) m hm) (fun H10 w11 => vt_iload_n rfl rfl
 (vt_ret rfl w11)))))))))))))))))) (fun hc5 => vt_iconst rfl
 (vt_ret rfl ((w2.2 hc4).2 hc5)))))))))))))
theorem ve_GoodsBook_page_0 {X : Term} {xs : List Int32} {N : Nat} {H : fl_H} {a1 : Int} {Q : Option Int → fl_H → Prop} (W : ((fl_w 0 ≤ fl_w a1 ∧ fl_w a1 ≤ fl_w 60) → ∀ m, m < N → ck (cm_pg X xs) m cm_m8 [.index 1, fl_t a1] H (fun r H2 => ∃ x4, r = some x4 ∧ (∀ m, m < N → ck (cm_pg X xs) m cm_m141 [.index 0] H2 (fun r H5 => r = none ∧ (Q (some x4) H5))))) ∧ (¬ (fl_w 0 ≤ fl_w a1 ∧ fl_w a1 ≤ fl_w 60) → Q (some (-1)) H))  : ck (cm_pg X xs) N cm_m100 [.index 0, fl_t a1] H Q :=
  vt_iload_n rfl rfl
 (vt_iconst rfl
 (vt_bipush (v := 60) rfl (by decide)
 (vt_callS rfl rfl (fun _ => rfl) (fun _ _ => vt_sum (sm_within)
 (vt_ifn rfl (fun hc1 => vt_aload_n rfl rfl rfl
 (vt_getr rfl rfl rfl
 (vt_iload_n rfl rfl
 (vt_callV rfl rfl (fun _ => rfl) (fun m hm => vt_int ((W.1 hc1) m hm) (fun x4 H2 w3 => vt_istore_n rfl
 (vt_aload_n rfl rfl rfl
 (vt_callV rfl rfl (fun _ => rfl) (fun m hm => vt_void (w3 m hm) (fun H5 w6 => vt_iload_n rfl rfl
 (vt_ret rfl w6))))))))))) (fun hc1 => vt_iconst rfl
 (vt_ret rfl (W.2 hc1))))))))
theorem ve_Book_addPage_1 {X : Term} {xs : List Int32} {N : Nat} {H : fl_H} {a1 : Int} {Q : Option Int → fl_H → Prop} (W : ((fl_w (H 1 0) < 3) → (0 ≤ fl_w (H 1 0) ∧ fl_w (H 1 0) < 3 → ∀ H2, H2 = fl_up H 2 (fl_w (H 1 0)).toNat a1 → ∀ H5, H5 = fl_up H2 1 0 ((H2 1 0) + 1) → (Q (some (H2 1 0)) H5))) ∧ (¬ (fl_w (H 1 0) < 3) → Q (some (-3)) H))  : ck (cm_pg X xs) N cm_m8 [.index 1, fl_t a1] H Q :=
  vt_aload_n rfl rfl rfl
 (vt_getf rfl rfl rfl
 (vt_iconst rfl
 (vt_icmp rfl (fun hc1 => vt_aload_n rfl rfl rfl
 (vt_getr rfl rfl rfl
 (vt_aload_n rfl rfl rfl
 (vt_getf rfl rfl rfl
 (vt_iload_n rfl rfl
 (vt_iast rfl rfl (fun hf4 => vt_nm (fun H2 e3 => vt_aload_n rfl rfl rfl
 (vt_mv (fun _ _ => rfl)
 (vt_getf rfl rfl rfl
 (vt_mv (fun _ _ => rfl)
 (vt_iconst rfl
 (vt_iadd rfl
 (vt_putf rfl rfl rfl (vt_nm (fun H5 e6 => vt_ret rfl (((W.1 hc1) hf4 H2 e3) H5 e6))))))))))))))))) (fun hc1 => vt_bipush (v := (-3)) rfl (by decide)
 (vt_ret rfl (W.2 hc1))))))
end
