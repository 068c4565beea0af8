noncomputable section
/-! L3: runs of methods between cuts. -/
def hd_Sack_picked_85_5 (P : cm_G) (N : Nat) (H : fl_H) (a1 : Int) (a2 : Int) (a3 : Int) (Q : Option Int → fl_H → Prop) : Prop := ∀ lv : cm_Lv, cm_nth lv 0 = some (some (.index 85)) → cm_nth lv 1 = some (some (fl_t a1)) → cm_nth lv 2 = some (some (fl_t a2)) → cm_nth lv 3 = some (some (fl_t a3)) → vt P N cm_m51 5 lv [] H Q
def hd_Sack_picked_85_19 (P : cm_G) (N : Nat) (H : fl_H) (a1 : Int) (a2 : Int) (a3 : Int) (a4 : Int) (Q : Option Int → fl_H → Prop) : Prop := ∀ lv : cm_Lv, cm_nth lv 0 = some (some (.index 85)) → cm_nth lv 1 = some (some (fl_t a1)) → cm_nth lv 2 = some (some (fl_t a2)) → cm_nth lv 3 = some (some (fl_t a3)) → cm_nth lv 4 = some (some (fl_t a4)) → vt P N cm_m51 19 lv [] H Q
theorem vh_Sack_picked_85_5 {X : Term} {xs : List Int32} {N : Nat} {H : fl_H} {a1 : Int} {a2 : Int} {a3 : Int} {Q : Option Int → fl_H → Prop} (W : ((fl_w (H 3 0) ≤ fl_w a3) → Q (some 0) H) ∧ (¬ (fl_w (H 3 0) ≤ fl_w a3) → hd_Sack_picked_85_19 (cm_pg X xs) N H a1 a2 a3 0 Q)) : hd_Sack_picked_85_5 (cm_pg X xs) N H a1 a2 a3 Q :=
 fun lv h0 h1 h2 h3 =>
 vt_iload_n rfl h3
 (vt_aload_n rfl h0 rfl
 (vt_getr rfl rfl rfl
 (vt_getf rfl rfl rfl
 (vt_icmp rfl (fun hc1 => vt_iconst rfl
 (vt_ret rfl (W.1 hc1))) (fun hc1 => vt_iconst rfl
 (vt_istoreA rfl (fun hl2 => (W.2 hc1) _ (fl_lsn (by decide) h0) (fl_lsn (by decide) h1) (fl_lsn (by decide) h2) (fl_lsn (by decide) h3) (fl_lse hl2))))))))
theorem vh_Sack_picked_85_19 {X : Term} {xs : List Int32} {N : Nat} {H : fl_H} {a1 : Int} {a2 : Int} {a3 : Int} {a4 : Int} {Q : Option Int → fl_H → Prop} (W : ((2 ≤ fl_w a4) → (fl_w a3 = fl_w a1 → Q (some a4) H) ∧ (¬ fl_w a3 = fl_w a1 → ((fl_w a4 ≤ 0) → ∀ m, m < N → hd_Sack_picked_85_5 (cm_pg X xs) m H a1 a2 (a3 + 1) Q) ∧ (¬ (fl_w a4 ≤ 0) → ∀ m, m < N → ck (cm_pg X xs) m cm_m45 [.index 3, fl_t (((2 * a3) + a4) - 1)] H (fun r H5 => ∃ x7, r = some x7 ∧ (∀ m, m < N → hd_Sack_picked_85_5 (cm_pg X xs) m H5 a1 (a2 - x7) (a3 + 1) Q))))) ∧ (¬ (2 ≤ fl_w a4) → ∀ m, m < N → ck (cm_pg X xs) m cm_m52 [.index 85, fl_t a3, fl_t a2, fl_t a4] H (fun r H10 => ∃ x12, r = some x12 ∧ ((0 ≤ fl_w ((a3 * 17) + a2) ∧ fl_w ((a3 * 17) + a2) < 119 → ((fl_w x12 = fl_w (H10 86 (fl_w ((a3 * 17) + a2)).toNat)) → (fl_w a3 = fl_w a1 → Q (some a4) H10) ∧ (¬ fl_w a3 = fl_w a1 → ((fl_w a4 ≤ 0) → ∀ m, m < N → hd_Sack_picked_85_5 (cm_pg X xs) m H10 a1 a2 (a3 + 1) Q) ∧ (¬ (fl_w a4 ≤ 0) → ∀ m, m < N → ck (cm_pg X xs) m cm_m45 [.index 3, fl_t (((2 * a3) + a4) - 1)] H10 (fun r H18 => ∃ x20, r = some x20 ∧ (∀ m, m < N → hd_Sack_picked_85_5 (cm_pg X xs) m H18 a1 (a2 - x20) (a3 + 1) Q))))) ∧ (¬ (fl_w x12 = fl_w (H10 86 (fl_w ((a3 * 17) + a2)).toNat)) → ∀ m, m < N → hd_Sack_picked_85_19 (cm_pg X xs) m H10 a1 a2 a3 (a4 + 1) Q)))))) : hd_Sack_picked_85_19 (cm_pg X xs) N H a1 a2 a3 a4 Q :=
 fun lv h0 h1 h2 h3 h4 =>
 vt_iload rfl h4
 (vt_iconst rfl
 (vt_icmp rfl (fun hc1 => vt_iload_n rfl h3
 (vt_iload_n rfl h1
 (vt_icmpN rfl (fun hc2 => vt_iload rfl h4
 (vt_ifc rfl (fun hc3 => vt_iincA rfl h3 (fun hl4 => vt_gotoS rfl (fun m hm => ((((W.1 hc1).2 hc2).1 hc3) m hm) _ (fl_lsn (by decide) h0) (fl_lsn (by decide) h1) (fl_lsn (by decide) h2) (fl_lse hl4)))) (fun hc3 => vt_iload_n rfl h2
 (vt_aload_n rfl h0 rfl
 (vt_getr rfl rfl rfl
 (vt_iconst rfl
 (vt_iload_n rfl h3
 (vt_imul rfl
 (vt_iload rfl h4
 (vt_iadd rfl
 (vt_iconst rfl
 (vt_isub rfl
 (vt_callV rfl rfl (fun _ => rfl) (fun m hm => vt_int ((((W.1 hc1).2 hc2).2 hc3) m hm) (fun x7 H5 w6 => vt_isub rfl
 (vt_istore_nA rfl (fun hl8 => vt_iincA rfl (fl_lsn (by decide) h3) (fun hl9 => vt_gotoS rfl (fun m hm => (w6 m hm) _ (fl_lsn (by decide) (fl_lsn (by decide) h0)) (fl_lsn (by decide) (fl_lsn (by decide) h1)) (fl_lsn (by decide) (fl_lse hl8)) (fl_lse hl9)))))))))))))))))))) (fun hc2 => vt_iload rfl h4
 (vt_ret rfl ((W.1 hc1).1 hc2)))))) (fun hc1 => vt_aload_n rfl h0 rfl
 (vt_iload_n rfl h3
 (vt_iload_n rfl h2
 (vt_iload rfl h4
 (vt_callV rfl rfl (fun _ => rfl) (fun m hm => vt_int ((W.2 hc1) m hm) (fun x12 H10 w11 => vt_aload_n rfl h0 rfl
 (vt_getr rfl rfl rfl
 (vt_iload_n rfl h3
 (vt_bipush (v := 17) rfl (by decide)
 (vt_imul rfl
 (vt_iload_n rfl h2
 (vt_iadd rfl
 (vt_iald rfl rfl (fun hf13 => vt_icmp rfl (fun hc14 => vt_iload_n rfl h3
 (vt_iload_n rfl h1
 (vt_icmpN rfl (fun hc15 => vt_iload rfl h4
 (vt_ifc rfl (fun hc16 => vt_iincA rfl h3 (fun hl17 => vt_gotoS rfl (fun m hm => (((((w11 hf13).1 hc14).2 hc15).1 hc16) m hm) _ (fl_lsn (by decide) h0) (fl_lsn (by decide) h1) (fl_lsn (by decide) h2) (fl_lse hl17)))) (fun hc16 => vt_iload_n rfl h2
 (vt_aload_n rfl h0 rfl
 (vt_getr rfl rfl rfl
 (vt_iconst rfl
 (vt_iload_n rfl h3
 (vt_imul rfl
 (vt_iload rfl h4
 (vt_iadd rfl
 (vt_iconst rfl
 (vt_isub rfl
 (vt_callV rfl rfl (fun _ => rfl) (fun m hm => vt_int (((((w11 hf13).1 hc14).2 hc15).2 hc16) m hm) (fun x20 H18 w19 => vt_isub rfl
 (vt_istore_nA rfl (fun hl21 => vt_iincA rfl (fl_lsn (by decide) h3) (fun hl22 => vt_gotoS rfl (fun m hm => (w19 m hm) _ (fl_lsn (by decide) (fl_lsn (by decide) h0)) (fl_lsn (by decide) (fl_lsn (by decide) h1)) (fl_lsn (by decide) (fl_lse hl21)) (fl_lse hl22)))))))))))))))))))) (fun hc15 => vt_iload rfl h4
 (vt_ret rfl (((w11 hf13).1 hc14).1 hc15)))))) (fun hc14 => vt_iincA rfl h4 (fun hl23 => vt_gotoS rfl (fun m hm => (((w11 hf13).2 hc14) m hm) _ (fl_lsn (by decide) h0) (fl_lsn (by decide) h1) (fl_lsn (by decide) h2) (fl_lsn (by decide) h3) (fl_lse hl23)))))))))))))))))))))
theorem ve_Sack_picked_85 {X : Term} {xs : List Int32} {N : Nat} {H : fl_H} {a1 : Int} {Q : Option Int → fl_H → Prop} (W : hd_Sack_picked_85_5 (cm_pg X xs) N H a1 16 0 Q)  : ck (cm_pg X xs) N cm_m51 [.index 85, fl_t a1] H Q :=
  vt_bipush (v := 16) rfl (by decide)
 (vt_istore_n rfl
 (vt_iconst rfl
 (vt_istore_n rfl
 (W _ rfl rfl rfl rfl))))
theorem ve_Sack_with_85 {X : Term} {xs : List Int32} {N : Nat} {H : fl_H} {a1 a2 a3 : Int} {Q : Option Int → fl_H → Prop} (W : (fl_w a3 = 0 → (0 ≤ fl_w (((a1 + 1) * 17) + a2) ∧ fl_w (((a1 + 1) * 17) + a2) < 119 → Q (some (H 86 (fl_w (((a1 + 1) * 17) + a2)).toNat)) H)) ∧ (¬ fl_w a3 = 0 → ∀ m, m < N → ck (cm_pg X xs) m cm_m45 [.index 3, fl_t (((2 * a1) + a3) - 1)] H (fun r H3 => ∃ x5, r = some x5 ∧ (((0 ≤ fl_w (a2 - x5)) → (0 ≤ fl_w (((2 * a1) + a3) - 1) ∧ fl_w (((2 * a1) + a3) - 1) < 12 → (0 ≤ fl_w (((a1 + 1) * 17) + (a2 - x5)) ∧ fl_w (((a1 + 1) * 17) + (a2 - x5)) < 119 → Q (some (((H3 8 (fl_w (((2 * a1) + a3) - 1)).toNat) * (H3 85 1)) + (H3 86 (fl_w (((a1 + 1) * 17) + (a2 - x5))).toNat))) H3))) ∧ (¬ (0 ≤ fl_w (a2 - x5)) → Q (some (-1)) H3)))))  : ck (cm_pg X xs) N cm_m52 [.index 85, fl_t a1, fl_t a2, fl_t a3] H Q :=
  vt_iload_n rfl rfl
 (vt_ifcN rfl (fun hc1 => vt_iconst rfl
 (vt_iload_n rfl rfl
 (vt_imul rfl
 (vt_iload_n rfl rfl
 (vt_iadd rfl
 (vt_iconst rfl
 (vt_isub rfl
 (vt_istore rfl
 (vt_iload_n rfl rfl
 (vt_aload_n rfl rfl rfl
 (vt_getr rfl rfl rfl
 (vt_iload rfl rfl
 (vt_callV rfl rfl (fun _ => rfl) (fun m hm => vt_int ((W.2 hc1) m hm) (fun x5 H3 w4 => vt_isub rfl
 (vt_istore rfl
 (vt_iload rfl rfl
 (vt_ifc rfl (fun hc6 => vt_aload_n rfl rfl rfl
 (vt_getr rfl rfl rfl
 (vt_getr rfl rfl rfl
 (vt_iload rfl rfl
 (vt_iald rfl rfl (fun hf7 => vt_aload_n rfl rfl rfl
 (vt_getf rfl rfl rfl
 (vt_imul rfl
 (vt_aload_n rfl rfl rfl
 (vt_getr rfl rfl rfl
 (vt_iload_n rfl rfl
 (vt_iconst rfl
 (vt_iadd rfl
 (vt_bipush (v := 17) rfl (by decide)
 (vt_imul rfl
 (vt_iload rfl rfl
 (vt_iadd rfl
 (vt_iald rfl rfl (fun hf8 => vt_iadd rfl
 (vt_ret rfl (((w4.1 hc6) hf7) hf8))))))))))))))))))))) (fun hc6 => vt_iconst rfl
 (vt_ret rfl (w4.2 hc6))))))))))))))))))))) (fun hc1 => vt_aload_n rfl rfl rfl
 (vt_getr rfl rfl rfl
 (vt_iload_n rfl rfl
 (vt_iconst rfl
 (vt_iadd rfl
 (vt_bipush (v := 17) rfl (by decide)
 (vt_imul rfl
 (vt_iload_n rfl rfl
 (vt_iadd rfl
 (vt_iald rfl rfl (fun hf2 => vt_ret rfl ((W.1 hc1) hf2)))))))))))))
theorem ve_Sack_most_85 {X : Term} {xs : List Int32} {N : Nat} {H : fl_H} {Q : Option Int → fl_H → Prop} (W : Q (some (H 86 16)) H)  : ck (cm_pg X xs) N cm_m50 [.index 85] H Q :=
  vt_aload_n rfl rfl rfl
 (vt_getr rfl rfl rfl
 (vt_bipush (v := 16) rfl (by decide)
 (vt_ialdN 16 rfl rfl rfl
 (vt_ret rfl W))))
def hd_Sack_fill_85_23 (P : cm_G) (N : Nat) (H : fl_H) (a2 : Int) (Q : Option Int → fl_H → Prop) : Prop := ∀ lv : cm_Lv, cm_nth lv 0 = some (some (.index 85)) → cm_nth lv 2 = some (some (fl_t a2)) → vt P N cm_m49 23 lv [] H Q
def hd_Sack_fill_85_29 (P : cm_G) (N : Nat) (H : fl_H) (a2 : Int) (a3 : Int) (Q : Option Int → fl_H → Prop) : Prop := ∀ lv : cm_Lv, cm_nth lv 0 = some (some (.index 85)) → cm_nth lv 2 = some (some (fl_t a2)) → cm_nth lv 3 = some (some (fl_t a3)) → vt P N cm_m49 29 lv [] H Q
def hd_Sack_fill_85_41 (P : cm_G) (N : Nat) (H : fl_H) (a2 : Int) (a3 : Int) (a4 : Int) (a5 : Int) (Q : Option Int → fl_H → Prop) : Prop := ∀ lv : cm_Lv, cm_nth lv 0 = some (some (.index 85)) → cm_nth lv 2 = some (some (fl_t a2)) → cm_nth lv 3 = some (some (fl_t a3)) → cm_nth lv 4 = some (some (fl_t a4)) → cm_nth lv 5 = some (some (fl_t a5)) → vt P N cm_m49 41 lv [] H Q
theorem vh_Sack_fill_85_23 {X : Term} {xs : List Int32} {N : Nat} {H : fl_H} {a2 : Int} {Q : Option Int → fl_H → Prop} (W : ((fl_w a2 < 0) → Q none H) ∧ (¬ (fl_w a2 < 0) → hd_Sack_fill_85_29 (cm_pg X xs) N H a2 0 Q)) : hd_Sack_fill_85_23 (cm_pg X xs) N H a2 Q :=
 fun lv h0 h2 =>
 vt_iload_n rfl h2
 (vt_ifc rfl (fun hc1 => vt_retv rfl (W.1 hc1)) (fun hc1 => vt_iconst rfl
 (vt_istore_nA rfl (fun hl2 => (W.2 hc1) _ (fl_lsn (by decide) h0) (fl_lsn (by decide) h2) (fl_lse hl2)))))
theorem vh_Sack_fill_85_29 {X : Term} {xs : List Int32} {N : Nat} {H : fl_H} {a2 : Int} {a3 : Int} {Q : Option Int → fl_H → Prop} (W : ((16 < fl_w a3) → ∀ m, m < N → hd_Sack_fill_85_23 (cm_pg X xs) m H (a2 + (-1)) Q) ∧ (¬ (16 < fl_w a3) → hd_Sack_fill_85_41 (cm_pg X xs) N H a2 a3 0 0 Q)) : hd_Sack_fill_85_29 (cm_pg X xs) N H a2 a3 Q :=
 fun lv h0 h2 h3 =>
 vt_iload_n rfl h3
 (vt_bipush (v := 16) rfl (by decide)
 (vt_icmp rfl (fun hc1 => vt_iincA rfl h2 (fun hl2 => vt_gotoS rfl (fun m hm => ((W.1 hc1) m hm) _ (fl_lsn (by decide) h0) (fl_lse hl2)))) (fun hc1 => vt_iconst rfl
 (vt_istoreA rfl (fun hl3 => vt_iconst rfl
 (vt_istoreA rfl (fun hl4 => (W.2 hc1) _ (fl_lsn (by decide) (fl_lsn (by decide) h0)) (fl_lsn (by decide) (fl_lsn (by decide) h2)) (fl_lsn (by decide) (fl_lsn (by decide) h3)) (fl_lsn (by decide) (fl_lse hl3)) (fl_lse hl4))))))))
theorem vh_Sack_fill_85_41 {X : Term} {xs : List Int32} {N : Nat} {H : fl_H} {a2 : Int} {a3 : Int} {a4 : Int} {a5 : Int} {Q : Option Int → fl_H → Prop} (W : ((2 < fl_w a5) → (0 ≤ fl_w ((a2 * 17) + a3) ∧ fl_w ((a2 * 17) + a3) < 119 → ∀ H2, H2 = fl_up H 86 (fl_w ((a2 * 17) + a3)).toNat a4 → ∀ m, m < N → hd_Sack_fill_85_29 (cm_pg X xs) m H2 a2 (a3 + 1) Q)) ∧ (¬ (2 < fl_w a5) → ∀ m, m < N → ck (cm_pg X xs) m cm_m52 [.index 85, fl_t a2, fl_t a3, fl_t a5] H (fun r H6 => ∃ x8, r = some x8 ∧ (∀ m, m < N → hd_Sack_fill_85_41 (cm_pg X xs) m H6 a2 a3 (max (fl_w a4) (fl_w x8)) (a5 + 1) Q)))) : hd_Sack_fill_85_41 (cm_pg X xs) N H a2 a3 a4 a5 Q :=
 fun lv h0 h2 h3 h4 h5 =>
 vt_iload rfl h5
 (vt_iconst rfl
 (vt_icmp rfl (fun hc1 => vt_aload_n rfl h0 rfl
 (vt_getr rfl rfl rfl
 (vt_iload_n rfl h2
 (vt_bipush (v := 17) rfl (by decide)
 (vt_imul rfl
 (vt_iload_n rfl h3
 (vt_iadd rfl
 (vt_iload rfl h4
 (vt_iast rfl rfl (fun hf4 => vt_nm (fun H2 e3 => vt_iincA rfl h3 (fun hl5 => vt_gotoS rfl (fun m hm => (((W.1 hc1) hf4 H2 e3) m hm) _ (fl_lsn (by decide) h0) (fl_lsn (by decide) h2) (fl_lse hl5)))))))))))))) (fun hc1 => vt_iload rfl h4
 (vt_aload_n rfl h0 rfl
 (vt_iload_n rfl h2
 (vt_iload_n rfl h3
 (vt_iload rfl h5
 (vt_callV rfl rfl (fun _ => rfl) (fun m hm => vt_int ((W.2 hc1) m hm) (fun x8 H6 w7 => vt_max rfl
 (vt_istoreA rfl (fun hl9 => vt_iincA rfl (fl_lsn (by decide) h5) (fun hl10 => vt_gotoS rfl (fun m hm => (w7 m hm) _ (fl_lsn (by decide) (fl_lsn (by decide) h0)) (fl_lsn (by decide) (fl_lsn (by decide) h2)) (fl_lsn (by decide) (fl_lsn (by decide) h3)) (fl_lsn (by decide) (fl_lse hl9)) (fl_lse hl10)))))))))))))))
theorem ve_Sack_fill_85 {X : Term} {xs : List Int32} {N : Nat} {H : fl_H} {a1 : Int} {Q : Option Int → fl_H → Prop} (W : ∀ H1, H1 = fl_up H 85 1 a1 → (∀ m, m < N → ck (cm_pg X xs) m cm_m249 [.index 86, fl_t 0] H1 (fun r H3 => r = none ∧ (hd_Sack_fill_85_23 (cm_pg X xs) N H3 ((H3 3 0) - 1) Q))))  : ck (cm_pg X xs) N cm_m49 [.index 85, fl_t a1] H Q :=
  vt_aload_n rfl rfl rfl
 (vt_iload_n rfl rfl
 (vt_putf rfl rfl rfl (vt_nm (fun H1 e2 => vt_aload_n rfl rfl rfl
 (vt_getr rfl rfl rfl
 (vt_iconst rfl
 (vt_callS rfl rfl (fun _ => rfl) (fun m hm => vt_void ((W H1 e2) m hm) (fun H3 w4 => vt_aload_n rfl rfl rfl
 (vt_getr rfl rfl rfl
 (vt_getf rfl rfl rfl
 (vt_iconst rfl
 (vt_isub rfl
 (vt_istore_n rfl
 (w4 _ rfl rfl)))))))))))))))
def hd_Arrays_fill_86_5 (P : cm_G) (N : Nat) (H : fl_H) (a1 : Int) (a2 : Int) (a3 : Int) (Q : Option Int → fl_H → Prop) : Prop := ∀ lv : cm_Lv, cm_nth lv 0 = some (some (.index 86)) → cm_nth lv 1 = some (some (fl_t a1)) → cm_nth lv 2 = some (some (fl_t a2)) → cm_nth lv 3 = some (some (fl_t a3)) → vt P N cm_m249 5 lv [] H Q
theorem vh_Arrays_fill_86_5 {X : Term} {xs : List Int32} {N : Nat} {H : fl_H} {a1 : Int} {a2 : Int} {a3 : Int} {Q : Option Int → fl_H → Prop} (W : ((fl_w a3 ≤ fl_w a2) → Q none H) ∧ (¬ (fl_w a3 ≤ fl_w a2) → (0 ≤ fl_w a2 ∧ fl_w a2 < 119 → ∀ H2, H2 = fl_up H 86 (fl_w a2).toNat a1 → ∀ m, m < N → hd_Arrays_fill_86_5 (cm_pg X xs) m H2 a1 (a2 + 1) a3 Q))) : hd_Arrays_fill_86_5 (cm_pg X xs) N H a1 a2 a3 Q :=
 fun lv h0 h1 h2 h3 =>
 vt_iload_n rfl h2
 (vt_iload_n rfl h3
 (vt_icmp rfl (fun hc1 => vt_retv rfl (W.1 hc1)) (fun hc1 => vt_aload_n rfl h0 rfl
 (vt_iload_n rfl h2
 (vt_iload_n rfl h1
 (vt_iast rfl rfl (fun hf4 => vt_nm (fun H2 e3 => vt_iincA rfl h2 (fun hl5 => vt_gotoS rfl (fun m hm => (((W.2 hc1) hf4 H2 e3) m hm) _ (fl_lsn (by decide) h0) (fl_lsn (by decide) h1) (fl_lse hl5) (fl_lsn (by decide) h3)))))))))))
theorem ve_Arrays_fill_86 {X : Term} {xs : List Int32} {N : Nat} {H : fl_H} {a1 : Int} {Q : Option Int → fl_H → Prop} (W : hd_Arrays_fill_86_5 (cm_pg X xs) N H a1 0 119 Q)  : ck (cm_pg X xs) N cm_m249 [.index 86, fl_t a1] H Q :=
  vt_iconst rfl
 (vt_istore_n rfl
 (vt_aload_n rfl rfl rfl
 (vt_alen (n := 119) rfl rfl
 (vt_istore_n rfl
 (W _ rfl rfl rfl rfl)))))
def hd_Sack_price_85_13 (P : cm_G) (N : Nat) (H : fl_H) (a2 : Int) (a3 : Int) (a4 : Int) (Q : Option Int → fl_H → Prop) : Prop := ∀ lv : cm_Lv, cm_nth lv 0 = some (some (.index 85)) → cm_nth lv 2 = some (some (fl_t a2)) → cm_nth lv 3 = some (some (fl_t a3)) → cm_nth lv 4 = some (some (fl_t a4)) → vt P N cm_m53 13 lv [] H Q
theorem vh_Sack_price_85_13 {X : Term} {xs : List Int32} {N : Nat} {H : fl_H} {a2 : Int} {a3 : Int} {a4 : Int} {Q : Option Int → fl_H → Prop} (W : ((32 ≤ fl_w a4) → Q (some a2) H) ∧ (¬ (32 ≤ fl_w a4) → ((fl_w a3 ≤ fl_w a2) → Q (some a2) H) ∧ (¬ (fl_w a3 ≤ fl_w a2) → ∀ m, m < N → ck (cm_pg X xs) m cm_m54 [.index 85, fl_t (fl_div (a2 + a3) 2)] H (fun r H4 => ∃ x6, r = some x6 ∧ (((16 < fl_w x6) → ∀ m, m < N → hd_Sack_price_85_13 (cm_pg X xs) m H4 ((fl_div (a2 + a3) 2) + 1) a3 (a4 + 1) Q) ∧ (¬ (16 < fl_w x6) → ∀ m, m < N → hd_Sack_price_85_13 (cm_pg X xs) m H4 a2 (fl_div (a2 + a3) 2) (a4 + 1) Q)))))) : hd_Sack_price_85_13 (cm_pg X xs) N H a2 a3 a4 Q :=
 fun lv h0 h2 h3 h4 =>
 vt_iload rfl h4
 (vt_bipush (v := 32) rfl (by decide)
 (vt_icmp rfl (fun hc1 => vt_iload_n rfl h2
 (vt_ret rfl (W.1 hc1))) (fun hc1 => vt_iload_n rfl h2
 (vt_iload_n rfl h3
 (vt_icmp rfl (fun hc2 => vt_iload_n rfl h2
 (vt_ret rfl ((W.2 hc1).1 hc2))) (fun hc2 => vt_iload_n rfl h2
 (vt_iload_n rfl h3
 (vt_iadd rfl
 (vt_iconst rfl
 (vt_idiv rfl
 (vt_istoreA rfl (fun hl3 => vt_aload_n rfl (fl_lsn (by decide) h0) rfl
 (vt_iload rfl (fl_lse hl3)
 (vt_callV rfl rfl (fun _ => rfl) (fun m hm => vt_int (((W.2 hc1).2 hc2) m hm) (fun x6 H4 w5 => vt_bipush (v := 16) rfl (by decide)
 (vt_icmp rfl (fun hc7 => vt_iload rfl (fl_lse hl3)
 (vt_iconst rfl
 (vt_iadd rfl
 (vt_istore_nA rfl (fun hl8 => vt_iincA rfl (fl_lsn (by decide) (fl_lsn (by decide) h4)) (fun hl9 => vt_gotoS rfl (fun m hm => ((w5.1 hc7) m hm) _ (fl_lsn (by decide) (fl_lsn (by decide) (fl_lsn (by decide) h0))) (fl_lsn (by decide) (fl_lse hl8)) (fl_lsn (by decide) (fl_lsn (by decide) (fl_lsn (by decide) h3))) (fl_lse hl9)))))))) (fun hc7 => vt_iload rfl (fl_lse hl3)
 (vt_istore_nA rfl (fun hl10 => vt_goto rfl
 (vt_iincA rfl (fl_lsn (by decide) (fl_lsn (by decide) h4)) (fun hl11 => vt_gotoS rfl (fun m hm => ((w5.2 hc7) m hm) _ (fl_lsn (by decide) (fl_lsn (by decide) (fl_lsn (by decide) h0))) (fl_lsn (by decide) (fl_lsn (by decide) (fl_lsn (by decide) h2))) (fl_lsn (by decide) (fl_lse hl10)) (fl_lse hl11))))))))))))))))))))))))
theorem ve_Sack_price_85 {X : Term} {xs : List Int32} {N : Nat} {H : fl_H} {a1 : Int} {Q : Option Int → fl_H → Prop} (W : ∀ H1, H1 = fl_up H 85 1 a1 → (hd_Sack_price_85_13 (cm_pg X xs) N H1 0 59940 0 Q))  : ck (cm_pg X xs) N cm_m53 [.index 85, fl_t a1] H Q :=
  vt_aload_n rfl rfl rfl
 (vt_iload_n rfl rfl
 (vt_putf rfl rfl rfl (vt_nm (fun H1 e2 => vt_iconst rfl
 (vt_istore_n rfl
 (vt_ldc (v := 59940) rfl (by decide)
 (vt_istore_n rfl
 (vt_iconst rfl
 (vt_istore rfl
 ((W H1 e2) _ rfl rfl rfl rfl))))))))))
def hd_Sack_taken_85_4 (P : cm_G) (N : Nat) (H : fl_H) (a1 : Int) (a2 : Int) (a3 : Int) (Q : Option Int → fl_H → Prop) : Prop := ∀ lv : cm_Lv, cm_nth lv 0 = some (some (.index 85)) → cm_nth lv 1 = some (some (fl_t a1)) → cm_nth lv 2 = some (some (fl_t a2)) → cm_nth lv 3 = some (some (fl_t a3)) → vt P N cm_m54 4 lv [] H Q
def hd_Sack_taken_85_26 (P : cm_G) (N : Nat) (H : fl_H) (a1 : Int) (a2 : Int) (a3 : Int) (a4 : Int) (a5 : Int) (a6 : Int) (Q : Option Int → fl_H → Prop) : Prop := ∀ lv : cm_Lv, cm_nth lv 0 = some (some (.index 85)) → cm_nth lv 1 = some (some (fl_t a1)) → cm_nth lv 2 = some (some (fl_t a2)) → cm_nth lv 3 = some (some (fl_t a3)) → cm_nth lv 4 = some (some (fl_t a4)) → cm_nth lv 5 = some (some (fl_t a5)) → cm_nth lv 6 = some (some (fl_t a6)) → vt P N cm_m54 26 lv [] H Q
theorem vh_Sack_taken_85_4 {X : Term} {xs : List Int32} {N : Nat} {H : fl_H} {a1 : Int} {a2 : Int} {a3 : Int} {Q : Option Int → fl_H → Prop} (W : ((fl_w (H 3 0) ≤ fl_w a3) → Q (some a2) H) ∧ (¬ (fl_w (H 3 0) ≤ fl_w a3) → hd_Sack_taken_85_26 (cm_pg X xs) N H a1 a2 a3 0 0 (2 * a3) Q)) : hd_Sack_taken_85_4 (cm_pg X xs) N H a1 a2 a3 Q :=
 fun lv h0 h1 h2 h3 =>
 vt_iload_n rfl h3
 (vt_aload_n rfl h0 rfl
 (vt_getr rfl rfl rfl
 (vt_getf rfl rfl rfl
 (vt_icmp rfl (fun hc1 => vt_iload_n rfl h2
 (vt_ret rfl (W.1 hc1))) (fun hc1 => vt_iconst rfl
 (vt_istoreA rfl (fun hl2 => vt_iconst rfl
 (vt_istoreA rfl (fun hl3 => vt_iconst rfl
 (vt_iload_n rfl (fl_lsn (by decide) (fl_lsn (by decide) h3))
 (vt_imul rfl
 (vt_istoreA rfl (fun hl4 => (W.2 hc1) _ (fl_lsn (by decide) (fl_lsn (by decide) (fl_lsn (by decide) h0))) (fl_lsn (by decide) (fl_lsn (by decide) (fl_lsn (by decide) h1))) (fl_lsn (by decide) (fl_lsn (by decide) (fl_lsn (by decide) h2))) (fl_lsn (by decide) (fl_lsn (by decide) (fl_lsn (by decide) h3))) (fl_lsn (by decide) (fl_lsn (by decide) (fl_lse hl2))) (fl_lsn (by decide) (fl_lse hl3)) (fl_lse hl4))))))))))))))
theorem vh_Sack_taken_85_26 {X : Term} {xs : List Int32} {N : Nat} {H : fl_H} {a1 : Int} {a2 : Int} {a3 : Int} {a4 : Int} {a5 : Int} {a6 : Int} {Q : Option Int → fl_H → Prop} (W : ((fl_w ((2 * a3) + 1) < fl_w a6) → ∀ m, m < N → hd_Sack_taken_85_4 (cm_pg X xs) m H a1 (a2 + a4) (a3 + 1) Q) ∧ (¬ (fl_w ((2 * a3) + 1) < fl_w a6) → ∀ m, m < N → ck (cm_pg X xs) m cm_m45 [.index 3, fl_t a6] H (fun r H4 => ∃ x6, r = some x6 ∧ ((0 ≤ fl_w a6 ∧ fl_w a6 < 12 → ((fl_w (((H4 8 (fl_w a6).toNat) * (H4 85 1)) - (a1 * x6)) < fl_w a5) → ∀ m, m < N → hd_Sack_taken_85_26 (cm_pg X xs) m H4 a1 a2 a3 a4 a5 (a6 + 1) Q) ∧ (¬ (fl_w (((H4 8 (fl_w a6).toNat) * (H4 85 1)) - (a1 * x6)) < fl_w a5) → (fl_w (((H4 8 (fl_w a6).toNat) * (H4 85 1)) - (a1 * x6)) = fl_w a5 → ((fl_w x6 < fl_w a4) → ∀ m, m < N → hd_Sack_taken_85_26 (cm_pg X xs) m H4 a1 a2 a3 x6 (((H4 8 (fl_w a6).toNat) * (H4 85 1)) - (a1 * x6)) (a6 + 1) Q) ∧ (¬ (fl_w x6 < fl_w a4) → ∀ m, m < N → hd_Sack_taken_85_26 (cm_pg X xs) m H4 a1 a2 a3 a4 a5 (a6 + 1) Q)) ∧ (¬ fl_w (((H4 8 (fl_w a6).toNat) * (H4 85 1)) - (a1 * x6)) = fl_w a5 → ∀ m, m < N → hd_Sack_taken_85_26 (cm_pg X xs) m H4 a1 a2 a3 x6 (((H4 8 (fl_w a6).toNat) * (H4 85 1)) - (a1 * x6)) (a6 + 1) Q))))))) : hd_Sack_taken_85_26 (cm_pg X xs) N H a1 a2 a3 a4 a5 a6 Q :=
 fun lv h0 h1 h2 h3 h4 h5 h6 =>
 vt_iload rfl h6
 (vt_iconst rfl
 (vt_iload_n rfl h3
 (vt_imul rfl
 (vt_iconst rfl
 (vt_iadd rfl
 (vt_icmp rfl (fun hc1 => vt_iload_n rfl h2
 (vt_iload rfl h4
 (vt_iadd rfl
 (vt_istore_nA rfl (fun hl2 => vt_iincA rfl (fl_lsn (by decide) h3) (fun hl3 => vt_gotoS rfl (fun m hm => ((W.1 hc1) m hm) _ (fl_lsn (by decide) (fl_lsn (by decide) h0)) (fl_lsn (by decide) (fl_lsn (by decide) h1)) (fl_lsn (by decide) (fl_lse hl2)) (fl_lse hl3)))))))) (fun hc1 => vt_aload_n rfl h0 rfl
 (vt_getr rfl rfl rfl
 (vt_iload rfl h6
 (vt_callV rfl rfl (fun _ => rfl) (fun m hm => vt_int ((W.2 hc1) m hm) (fun x6 H4 w5 => vt_istoreA rfl (fun hl7 => vt_aload_n rfl (fl_lsn (by decide) h0) rfl
 (vt_getr rfl rfl rfl
 (vt_getr rfl rfl rfl
 (vt_iload rfl (fl_lsn (by decide) h6)
 (vt_iald rfl rfl (fun hf8 => vt_aload_n rfl (fl_lsn (by decide) h0) rfl
 (vt_getf rfl rfl rfl
 (vt_imul rfl
 (vt_iload_n rfl (fl_lsn (by decide) h1)
 (vt_iload rfl (fl_lse hl7)
 (vt_imul rfl
 (vt_isub rfl
 (vt_istoreA rfl (fun hl9 => vt_iload rfl (fl_lse hl9)
 (vt_iload rfl (fl_lsn (by decide) (fl_lsn (by decide) h5))
 (vt_icmp rfl (fun hc10 => vt_iincA rfl (fl_lsn (by decide) (fl_lsn (by decide) h6)) (fun hl11 => vt_gotoS rfl (fun m hm => (((w5 hf8).1 hc10) m hm) _ (fl_lsn (by decide) (fl_lsn (by decide) (fl_lsn (by decide) h0))) (fl_lsn (by decide) (fl_lsn (by decide) (fl_lsn (by decide) h1))) (fl_lsn (by decide) (fl_lsn (by decide) (fl_lsn (by decide) h2))) (fl_lsn (by decide) (fl_lsn (by decide) (fl_lsn (by decide) h3))) (fl_lsn (by decide) (fl_lsn (by decide) (fl_lsn (by decide) h4))) (fl_lsn (by decide) (fl_lsn (by decide) (fl_lsn (by decide) h5))) (fl_lse hl11)))) (fun hc10 => vt_iload rfl (fl_lse hl9)
 (vt_iload rfl (fl_lsn (by decide) (fl_lsn (by decide) h5))
 (vt_icmpN rfl (fun hc12 => vt_iload rfl (fl_lse hl9)
 (vt_istoreA rfl (fun hl18 => vt_iload rfl (fl_lsn (by decide) (fl_lsn (by decide) (fl_lse hl7)))
 (vt_istoreA rfl (fun hl19 => vt_iincA rfl (fl_lsn (by decide) (fl_lsn (by decide) (fl_lsn (by decide) (fl_lsn (by decide) h6)))) (fun hl20 => vt_gotoS rfl (fun m hm => ((((w5 hf8).2 hc10).2 hc12) m hm) _ (fl_lsn (by decide) (fl_lsn (by decide) (fl_lsn (by decide) (fl_lsn (by decide) (fl_lsn (by decide) h0))))) (fl_lsn (by decide) (fl_lsn (by decide) (fl_lsn (by decide) (fl_lsn (by decide) (fl_lsn (by decide) h1))))) (fl_lsn (by decide) (fl_lsn (by decide) (fl_lsn (by decide) (fl_lsn (by decide) (fl_lsn (by decide) h2))))) (fl_lsn (by decide) (fl_lsn (by decide) (fl_lsn (by decide) (fl_lsn (by decide) (fl_lsn (by decide) h3))))) (fl_lsn (by decide) (fl_lse hl19)) (fl_lsn (by decide) (fl_lsn (by decide) (fl_lse hl18))) (fl_lse hl20)))))))) (fun hc12 => vt_iload rfl (fl_lsn (by decide) (fl_lse hl7))
 (vt_iload rfl (fl_lsn (by decide) (fl_lsn (by decide) h4))
 (vt_icmp rfl (fun hc13 => vt_iload rfl (fl_lse hl9)
 (vt_istoreA rfl (fun hl14 => vt_iload rfl (fl_lsn (by decide) (fl_lsn (by decide) (fl_lse hl7)))
 (vt_istoreA rfl (fun hl15 => vt_iincA rfl (fl_lsn (by decide) (fl_lsn (by decide) (fl_lsn (by decide) (fl_lsn (by decide) h6)))) (fun hl16 => vt_gotoS rfl (fun m hm => (((((w5 hf8).2 hc10).1 hc12).1 hc13) m hm) _ (fl_lsn (by decide) (fl_lsn (by decide) (fl_lsn (by decide) (fl_lsn (by decide) (fl_lsn (by decide) h0))))) (fl_lsn (by decide) (fl_lsn (by decide) (fl_lsn (by decide) (fl_lsn (by decide) (fl_lsn (by decide) h1))))) (fl_lsn (by decide) (fl_lsn (by decide) (fl_lsn (by decide) (fl_lsn (by decide) (fl_lsn (by decide) h2))))) (fl_lsn (by decide) (fl_lsn (by decide) (fl_lsn (by decide) (fl_lsn (by decide) (fl_lsn (by decide) h3))))) (fl_lsn (by decide) (fl_lse hl15)) (fl_lsn (by decide) (fl_lsn (by decide) (fl_lse hl14))) (fl_lse hl16)))))))) (fun hc13 => vt_goto rfl
 (vt_iincA rfl (fl_lsn (by decide) (fl_lsn (by decide) h6)) (fun hl17 => vt_gotoS rfl (fun m hm => (((((w5 hf8).2 hc10).1 hc12).2 hc13) m hm) _ (fl_lsn (by decide) (fl_lsn (by decide) (fl_lsn (by decide) h0))) (fl_lsn (by decide) (fl_lsn (by decide) (fl_lsn (by decide) h1))) (fl_lsn (by decide) (fl_lsn (by decide) (fl_lsn (by decide) h2))) (fl_lsn (by decide) (fl_lsn (by decide) (fl_lsn (by decide) h3))) (fl_lsn (by decide) (fl_lsn (by decide) (fl_lsn (by decide) h4))) (fl_lsn (by decide) (fl_lsn (by decide) (fl_lsn (by decide) h5))) (fl_lse hl17)))))))))))))))))))))))))))))))))))))))
theorem ve_Sack_taken_85 {X : Term} {xs : List Int32} {N : Nat} {H : fl_H} {a1 : Int} {Q : Option Int → fl_H → Prop} (W : hd_Sack_taken_85_4 (cm_pg X xs) N H a1 0 0 Q)  : ck (cm_pg X xs) N cm_m54 [.index 85, fl_t a1] H Q :=
  vt_iconst rfl
 (vt_istore_n rfl
 (vt_iconst rfl
 (vt_istore_n rfl
 (W _ rfl rfl rfl rfl))))
theorem ve_GoodsBook_take_0 {X : Term} {xs : List Int32} {N : Nat} {H : fl_H} {Q : Option Int → fl_H → Prop} (W : ∀ m, m < N → ck (cm_pg X xs) m cm_m144 [.index 0, fl_t (-1), fl_t (-1)] H (fun r H1 => ∃ x3, r = some x3 ∧ (∀ H4, H4 = fl_cp H1 89 19 6 → (∀ m, m < N → ck (cm_pg X xs) m cm_m142 [.index 0] H4 (fun r H6 => r = none ∧ (Q (some (H6 88 2)) H6))))))  : ck (cm_pg X xs) N cm_m120 [.index 0] H Q :=
  vt_aload_n rfl rfl rfl
 (vt_iconst rfl
 (vt_iconst rfl
 (vt_callV rfl rfl (fun _ => rfl) (fun m hm => vt_int (W m hm) (fun x3 H1 w2 => vt_mv (fun _ _ => rfl)
 (vt_aload_n rfl rfl rfl
 (vt_getr rfl rfl rfl
 (vt_getr rfl rfl rfl
 (vt_iconst rfl
 (vt_aload_n rfl rfl rfl
 (vt_getr rfl rfl rfl
 (vt_getr rfl rfl rfl
 (vt_iconst rfl
 (vt_bipush (v := 6) rfl (by decide)
 (vt_copy (n := 6) rfl rfl rfl rfl rfl rfl (vt_nm (fun H4 e5 => vt_aload_n rfl rfl rfl
 (vt_callV rfl rfl (fun _ => rfl) (fun m hm => vt_void ((w2 H4 e5) m hm) (fun H6 w7 => vt_aload_n rfl rfl rfl
 (vt_getr rfl rfl rfl
 (vt_getf rfl rfl rfl
 (vt_ret rfl w7)))))))))))))))))))))))
theorem ve_GoodsBook_best_0 {X : Term} {xs : List Int32} {N : Nat} {H : fl_H} {a1 : Int} {Q : Option Int → fl_H → Prop} (W : ((fl_w (-1) ≤ fl_w a1 ∧ fl_w a1 ≤ fl_w ((H 3 0) - 1)) → ∀ m, m < N → ck (cm_pg X xs) m cm_m144 [.index 0, fl_t (-1), fl_t (-1)] H (fun r H2 => ∃ x4, r = some x4 ∧ (∀ m, m < N → ck (cm_pg X xs) m cm_m2 [.index 88, fl_t a1] H2 (fun r H5 => ∃ x7, r = some x7 ∧ (Q (some x7) H5))))) ∧ (¬ (fl_w (-1) ≤ fl_w a1 ∧ fl_w a1 ≤ fl_w ((H 3 0) - 1)) → Q (some (-1000000001)) H))  : ck (cm_pg X xs) N cm_m119 [.index 0, fl_t a1] H Q :=
  vt_iload_n rfl rfl
 (vt_iconst rfl
 (vt_aload_n rfl rfl rfl
 (vt_getr rfl rfl rfl
 (vt_getr rfl rfl rfl
 (vt_getf rfl rfl rfl
 (vt_iconst rfl
 (vt_isub rfl
 (vt_callS rfl rfl (fun _ => rfl) (fun _ _ => vt_sum (sm_within)
 (vt_ifn rfl (fun hc1 => vt_aload_n rfl rfl rfl
 (vt_iconst rfl
 (vt_iconst rfl
 (vt_callV rfl rfl (fun _ => rfl) (fun m hm => vt_int ((W.1 hc1) m hm) (fun x4 H2 w3 => vt_mv (fun _ _ => rfl)
 (vt_aload_n rfl rfl rfl
 (vt_getr rfl rfl rfl
 (vt_iload_n rfl rfl
 (vt_callV rfl rfl (fun _ => rfl) (fun m hm => vt_int (w3 m hm) (fun x7 H5 w6 => vt_ret rfl w6)))))))))))) (fun hc1 => vt_ldc (v := (-1000000001)) rfl (by decide)
 (vt_ret rfl (W.2 hc1)))))))))))))
theorem ve_Answer_tell_88 {X : Term} {xs : List Int32} {N : Nat} {H : fl_H} {a1 : Int} {Q : Option Int → fl_H → Prop} (W : (fl_w a1 = (-2) → Q (some (H 88 3)) H) ∧ (¬ fl_w a1 = (-2) → ((fl_w 0 ≤ fl_w a1 ∧ fl_w a1 ≤ fl_w 5) → (0 ≤ fl_w a1 ∧ fl_w a1 < 6 → Q (some (H 89 (fl_w a1).toNat)) H)) ∧ (¬ (fl_w 0 ≤ fl_w a1 ∧ fl_w a1 ≤ fl_w 5) → Q (some (H 88 2)) H)))  : ck (cm_pg X xs) N cm_m2 [.index 88, fl_t a1] H Q :=
  vt_iload_n rfl rfl
 (vt_bipush (v := (-2)) rfl (by decide)
 (vt_icmpN rfl (fun hc1 => vt_iload_n rfl rfl
 (vt_iconst rfl
 (vt_iconst rfl
 (vt_callS rfl rfl (fun _ => rfl) (fun _ _ => vt_sum (sm_within)
 (vt_ifb rfl (fun hc2 => vt_aload_n rfl rfl rfl
 (vt_getr rfl rfl rfl
 (vt_iload_n rfl rfl
 (vt_iald rfl rfl (fun hf3 => vt_goto rfl
 (vt_ret rfl (((W.2 hc1).1 hc2) hf3))))))) (fun hc2 => vt_aload_n rfl rfl rfl
 (vt_getf rfl rfl rfl
 (vt_ret rfl ((W.2 hc1).2 hc2)))))))))) (fun hc1 => vt_aload_n rfl rfl rfl
 (vt_getf rfl rfl rfl
 (vt_ret rfl (W.1 hc1))))))
theorem ve_GoodsBook_fits_0 {X : Term} {xs : List Int32} {N : Nat} {H : fl_H} {a1 : Int} {Q : Option Int → fl_H → Prop} (W : ((6 ≤ fl_w (H 3 0)) → ((fl_w 0 ≤ fl_w a1 ∧ fl_w a1 ≤ fl_w (729 - 1)) → ∀ m, m < N → ck (cm_pg X xs) m cm_m32 [.index 64] H (fun r H3 => r = none ∧ (∀ m, m < N → ck (cm_pg X xs) m cm_m35 [.index 64, fl_t a1] H3 (fun r H5 => ∃ x7, r = some x7 ∧ (((fl_w x7 = 0) → Q (some 0) H5) ∧ (¬ (fl_w x7 = 0) → Q (some 1) H5)))))) ∧ (¬ (fl_w 0 ≤ fl_w a1 ∧ fl_w a1 ≤ fl_w (729 - 1)) → Q (some (-1)) H)) ∧ (¬ (6 ≤ fl_w (H 3 0)) → (0 ≤ fl_w (H 3 0) ∧ fl_w (H 3 0) < 6 → ((fl_w 0 ≤ fl_w a1 ∧ fl_w a1 ≤ fl_w ((([1, 3, 9, 27, 81, 243] : List Int).getD (fl_w (H 3 0)).toNat 0) - 1)) → ∀ m, m < N → ck (cm_pg X xs) m cm_m32 [.index 64] H (fun r H11 => r = none ∧ (∀ m, m < N → ck (cm_pg X xs) m cm_m35 [.index 64, fl_t a1] H11 (fun r H13 => ∃ x15, r = some x15 ∧ (((fl_w x15 = 0) → Q (some 0) H13) ∧ (¬ (fl_w x15 = 0) → Q (some 1) H13)))))) ∧ (¬ (fl_w 0 ≤ fl_w a1 ∧ fl_w a1 ≤ fl_w ((([1, 3, 9, 27, 81, 243] : List Int).getD (fl_w (H 3 0)).toNat 0) - 1)) → Q (some (-1)) H))))  : ck (cm_pg X xs) N cm_m118 [.index 0, fl_t a1] H Q :=
  vt_aload_n rfl rfl rfl
 (vt_getr rfl rfl rfl
 (vt_getr rfl rfl rfl
 (vt_getf rfl rfl rfl
 (vt_bipush (v := 6) rfl (by decide)
 (vt_icmp rfl (fun hc1 => vt_sipush (v := 729) rfl (by decide)
 (vt_istore_n rfl
 (vt_iload_n rfl rfl
 (vt_iconst rfl
 (vt_iload_n rfl rfl
 (vt_iconst rfl
 (vt_isub rfl
 (vt_callS rfl rfl (fun _ => rfl) (fun _ _ => vt_sum (sm_within)
 (vt_ifn rfl (fun hc2 => vt_aload_n rfl rfl rfl
 (vt_getr rfl rfl rfl
 (vt_callV rfl rfl (fun _ => rfl) (fun m hm => vt_void (((W.1 hc1).1 hc2) m hm) (fun H3 w4 => vt_aload_n rfl rfl rfl
 (vt_getr rfl rfl rfl
 (vt_iload_n rfl rfl
 (vt_callV rfl rfl (fun _ => rfl) (fun m hm => vt_int (w4 m hm) (fun x7 H5 w6 => vt_ifc rfl (fun hc8 => vt_iconst rfl
 (vt_ret rfl (w6.1 hc8))) (fun hc8 => vt_iconst rfl
 (vt_goto rfl
 (vt_ret rfl (w6.2 hc8)))))))))))))) (fun hc2 => vt_iconst rfl
 (vt_ret rfl ((W.1 hc1).2 hc2))))))))))))) (fun hc1 => vt_gets rfl rfl
 (vt_aload_n rfl rfl rfl
 (vt_getr rfl rfl rfl
 (vt_getr rfl rfl rfl
 (vt_getf rfl rfl rfl
 (vt_iold (l := [1, 3, 9, 27, 81, 243]) rfl rfl rfl (fun hf9 => vt_goto rfl
 (vt_istore_n rfl
 (vt_iload_n rfl rfl
 (vt_iconst rfl
 (vt_iload_n rfl rfl
 (vt_iconst rfl
 (vt_isub rfl
 (vt_callS rfl rfl (fun _ => rfl) (fun _ _ => vt_sum (sm_within)
 (vt_ifn rfl (fun hc10 => vt_aload_n rfl rfl rfl
 (vt_getr rfl rfl rfl
 (vt_callV rfl rfl (fun _ => rfl) (fun m hm => vt_void ((((W.2 hc1) hf9).1 hc10) m hm) (fun H11 w12 => vt_aload_n rfl rfl rfl
 (vt_getr rfl rfl rfl
 (vt_iload_n rfl rfl
 (vt_callV rfl rfl (fun _ => rfl) (fun m hm => vt_int (w12 m hm) (fun x15 H13 w14 => vt_ifc rfl (fun hc16 => vt_iconst rfl
 (vt_ret rfl (w14.1 hc16))) (fun hc16 => vt_iconst rfl
 (vt_goto rfl
 (vt_ret rfl (w14.2 hc16)))))))))))))) (fun hc10 => vt_iconst rfl
 (vt_ret rfl (((W.2 hc1) hf9).2 hc10))))))))))))))))))))))))
def hd_GoodsBook_judge_0_54 (P : cm_G) (N : Nat) (H : fl_H) (a1 : Int) (a2 : Int) (a6 : Int) (a7 : Int) (a8 : Int) (Q : Option Int → fl_H → Prop) : Prop := ∀ lv : cm_Lv, cm_nth lv 0 = some (some (.index 0)) → cm_nth lv 1 = some (some (fl_t a1)) → cm_nth lv 2 = some (some (fl_t a2)) → cm_nth lv 6 = some (some (fl_t a6)) → cm_nth lv 7 = some (some (fl_t a7)) → cm_nth lv 8 = some (some (fl_t a8)) → vt P N cm_m117 54 lv [] H Q
theorem vh_GoodsBook_judge_0_54 {X : Term} {xs : List Int32} {N : Nat} {H : fl_H} {a1 : Int} {a2 : Int} {a6 : Int} {a7 : Int} {a8 : Int} {Q : Option Int → fl_H → Prop} (W : ((fl_w (H 3 0) ≤ fl_w a8) → Q (some (-4)) H) ∧ (¬ (fl_w (H 3 0) ≤ fl_w a8) → (0 ≤ fl_w a8 ∧ fl_w a8 < 6 → ((fl_w (H 19 (fl_w a8).toNat) = 0) → ∀ m, m < N → hd_GoodsBook_judge_0_54 (cm_pg X xs) m H a1 a2 a6 a7 (a8 + 1) Q) ∧ (¬ (fl_w (H 19 (fl_w a8).toNat) = 0) → ∀ m, m < N → ck (cm_pg X xs) m cm_m136 [fl_t (H 19 (fl_w a8).toNat)] H (fun r H6 => ∃ x8, r = some x8 ∧ (((fl_w x8 = fl_w a1) → ∀ m, m < N → ck (cm_pg X xs) m cm_m137 [fl_t (H 19 (fl_w a8).toNat)] H6 (fun r H10 => ∃ x12, r = some x12 ∧ (∀ m, m < N → ck (cm_pg X xs) m cm_m71 [.index 60, fl_t a2, fl_t a7] H10 (fun r H13 => ∃ x15, r = some x15 ∧ (∀ m, m < N → ck (cm_pg X xs) m cm_m34 [.index 64, fl_t ((2 * a8) + x12), fl_t x15] H13 (fun r H16 => ∃ x18, r = some x18 ∧ (((fl_w x18 = 0) → Q (some a8) H16) ∧ (¬ (fl_w x18 = 0) → ((fl_w (fl_and x18 a6) = 0) → ∀ m, m < N → hd_GoodsBook_judge_0_54 (cm_pg X xs) m H16 a1 a2 (fl_or a6 x18) (a7 + 1) (a8 + 1) Q) ∧ (¬ (fl_w (fl_and x18 a6) = 0) → Q (some a8) H16))))))))) ∧ (¬ (fl_w x8 = fl_w a1) → ∀ m, m < N → hd_GoodsBook_judge_0_54 (cm_pg X xs) m H6 a1 a2 a6 a7 (a8 + 1) Q))))))) : hd_GoodsBook_judge_0_54 (cm_pg X xs) N H a1 a2 a6 a7 a8 Q :=
 fun lv h0 h1 h2 h6 h7 h8 =>
 vt_iload rfl h8
 (vt_aload_n rfl h0 rfl
 (vt_getr rfl rfl rfl
 (vt_getr rfl rfl rfl
 (vt_getf rfl rfl rfl
 (vt_icmp rfl (fun hc1 => vt_bipush (v := (-4)) rfl (by decide)
 (vt_ret rfl (W.1 hc1))) (fun hc1 => vt_aload_n rfl h0 rfl
 (vt_getr rfl rfl rfl
 (vt_getr rfl rfl rfl
 (vt_iload rfl h8
 (vt_iald rfl rfl (fun hf2 => vt_istoreA rfl (fun hl3 => vt_iload rfl (fl_lse hl3)
 (vt_ifc rfl (fun hc4 => vt_iincA rfl (fl_lsn (by decide) h8) (fun hl5 => vt_gotoS rfl (fun m hm => ((((W.2 hc1) hf2).1 hc4) m hm) _ (fl_lsn (by decide) (fl_lsn (by decide) h0)) (fl_lsn (by decide) (fl_lsn (by decide) h1)) (fl_lsn (by decide) (fl_lsn (by decide) h2)) (fl_lsn (by decide) (fl_lsn (by decide) h6)) (fl_lsn (by decide) (fl_lsn (by decide) h7)) (fl_lse hl5)))) (fun hc4 => vt_iload rfl (fl_lse hl3)
 (vt_callS rfl rfl (fun _ => rfl) (fun m hm => vt_int ((((W.2 hc1) hf2).2 hc4) m hm) (fun x8 H6 w7 => vt_iload_n rfl (fl_lsn (by decide) h1)
 (vt_icmp rfl (fun hc9 => vt_aload_n rfl (fl_lsn (by decide) h0) rfl
 (vt_getr rfl rfl rfl
 (vt_iconst rfl
 (vt_iload rfl (fl_lsn (by decide) h8)
 (vt_imul rfl
 (vt_iload rfl (fl_lse hl3)
 (vt_callS rfl rfl (fun _ => rfl) (fun m hm => vt_int ((w7.1 hc9) m hm) (fun x12 H10 w11 => vt_iadd rfl
 (vt_aload_n rfl (fl_lsn (by decide) h0) rfl
 (vt_getr rfl rfl rfl
 (vt_iload_n rfl (fl_lsn (by decide) h2)
 (vt_iload rfl (fl_lsn (by decide) h7)
 (vt_callV rfl rfl (fun _ => rfl) (fun m hm => vt_int (w11 m hm) (fun x15 H13 w14 => vt_callV rfl rfl (fun _ => rfl) (fun m hm => vt_int (w14 m hm) (fun x18 H16 w17 => vt_istoreA rfl (fun hl19 => vt_iload rfl (fl_lse hl19)
 (vt_ifc rfl (fun hc20 => vt_iload rfl (fl_lsn (by decide) (fl_lsn (by decide) h8))
 (vt_ret rfl (w17.1 hc20))) (fun hc20 => vt_iload rfl (fl_lse hl19)
 (vt_iload rfl (fl_lsn (by decide) (fl_lsn (by decide) h6))
 (vt_iand rfl
 (vt_ifc rfl (fun hc21 => vt_iload rfl (fl_lsn (by decide) (fl_lsn (by decide) h6))
 (vt_iload rfl (fl_lse hl19)
 (vt_ior rfl
 (vt_istoreA rfl (fun hl22 => vt_iincA rfl (fl_lsn (by decide) (fl_lsn (by decide) (fl_lsn (by decide) h7))) (fun hl23 => vt_iincA rfl (fl_lsn (by decide) (fl_lsn (by decide) (fl_lsn (by decide) (fl_lsn (by decide) h8)))) (fun hl24 => vt_gotoS rfl (fun m hm => (((w17.2 hc20).1 hc21) m hm) _ (fl_lsn (by decide) (fl_lsn (by decide) (fl_lsn (by decide) (fl_lsn (by decide) (fl_lsn (by decide) h0))))) (fl_lsn (by decide) (fl_lsn (by decide) (fl_lsn (by decide) (fl_lsn (by decide) (fl_lsn (by decide) h1))))) (fl_lsn (by decide) (fl_lsn (by decide) (fl_lsn (by decide) (fl_lsn (by decide) (fl_lsn (by decide) h2))))) (fl_lsn (by decide) (fl_lsn (by decide) (fl_lse hl22))) (fl_lsn (by decide) (fl_lse hl23)) (fl_lse hl24))))))))) (fun hc21 => vt_iload rfl (fl_lsn (by decide) (fl_lsn (by decide) h8))
 (vt_ret rfl ((w17.2 hc20).2 hc21))))))))))))))))))))))))))) (fun hc9 => vt_goto rfl
 (vt_iincA rfl (fl_lsn (by decide) h8) (fun hl25 => vt_gotoS rfl (fun m hm => ((w7.2 hc9) m hm) _ (fl_lsn (by decide) (fl_lsn (by decide) h0)) (fl_lsn (by decide) (fl_lsn (by decide) h1)) (fl_lsn (by decide) (fl_lsn (by decide) h2)) (fl_lsn (by decide) (fl_lsn (by decide) h6)) (fl_lsn (by decide) (fl_lsn (by decide) h7)) (fl_lse hl25)))))))))))))))))))))))
theorem ve_GoodsBook_judge_0 {X : Term} {xs : List Int32} {N : Nat} {H : fl_H} {a1 a2 a3 a4 : Int} {Q : Option Int → fl_H → Prop} (W : ∀ m, m < N → ck (cm_pg X xs) m cm_m138 [.index 0, fl_t a1] H (fun r H1 => ∃ x3, r = some x3 ∧ ((fl_w x3 = 0 → Q (some (-1)) H1) ∧ (¬ fl_w x3 = 0 → ∀ m, m < N → ck (cm_pg X xs) m cm_m143 [.index 0] H1 (fun r H5 => r = none ∧ ((0 ≤ fl_w a1 ∧ fl_w a1 < 3 → ∀ m, m < N → ck (cm_pg X xs) m cm_m70 [.index 60, fl_t a2, fl_t a3, fl_t a4, fl_t (H5 74 (fl_w a1).toNat)] H5 (fun r H8 => ∃ x10, r = some x10 ∧ (((fl_w x10 = 0) → hd_GoodsBook_judge_0_54 (cm_pg X xs) N H8 a1 a2 0 a4 0 Q) ∧ (¬ (fl_w x10 = 0) → Q (some x10) H8))))))))))  : ck (cm_pg X xs) N cm_m117 [.index 0, fl_t a1, fl_t a2, fl_t a3, fl_t a4] H Q :=
  vt_aload_n rfl rfl rfl
 (vt_iload_n rfl rfl
 (vt_callV rfl rfl (fun _ => rfl) (fun m hm => vt_int (W m hm) (fun x3 H1 w2 => vt_ifcN rfl (fun hc4 => vt_aload_n rfl rfl rfl
 (vt_callV rfl rfl (fun _ => rfl) (fun m hm => vt_void ((w2.2 hc4) m hm) (fun H5 w6 => vt_aload_n rfl rfl rfl
 (vt_getr rfl rfl rfl
 (vt_iload_n rfl rfl
 (vt_iload_n rfl rfl
 (vt_iload rfl rfl
 (vt_aload_n rfl rfl rfl
 (vt_getr rfl rfl rfl
 (vt_getr rfl rfl rfl
 (vt_iload_n rfl rfl
 (vt_iald rfl rfl (fun hf7 => vt_callV rfl rfl (fun _ => rfl) (fun m hm => vt_int ((w6 hf7) m hm) (fun x10 H8 w9 => vt_istore rfl
 (vt_iload rfl rfl
 (vt_ifc rfl (fun hc11 => vt_iconst rfl
 (vt_istore rfl
 (vt_iload rfl rfl
 (vt_istore rfl
 (vt_iconst rfl
 (vt_istore rfl
 ((w9.1 hc11) _ rfl rfl rfl rfl rfl rfl))))))) (fun hc11 => vt_iload rfl rfl
 (vt_ret rfl (w9.2 hc11))))))))))))))))))))) (fun hc4 => vt_iconst rfl
 (vt_ret rfl (w2.1 hc4)))))))
theorem ve_Floor_spot_64 {X : Term} {xs : List Int32} {N : Nat} {H : fl_H} {a1 a2 : Int} {Q : Option Int → fl_H → Prop} (W : ((fl_w 0 ≤ fl_w a2 ∧ fl_w a2 ≤ fl_w 15) → (0 ≤ fl_w ((a1 * 16) + a2) ∧ fl_w ((a1 * 16) + a2) < 192 → Q (some (H 66 (fl_w ((a1 * 16) + a2)).toNat)) H)) ∧ (¬ (fl_w 0 ≤ fl_w a2 ∧ fl_w a2 ≤ fl_w 15) → Q (some 0) H))  : ck (cm_pg X xs) N cm_m34 [.index 64, fl_t a1, fl_t a2] H Q :=
  vt_iload_n rfl rfl
 (vt_iconst rfl
 (vt_bipush (v := 15) rfl (by decide)
 (vt_callS rfl rfl (fun _ => rfl) (fun _ _ => vt_sum (sm_within)
 (vt_ifb rfl (fun hc1 => vt_aload_n rfl rfl rfl
 (vt_getr rfl rfl rfl
 (vt_iload_n rfl rfl
 (vt_bipush (v := 16) rfl (by decide)
 (vt_imul rfl
 (vt_iload_n rfl rfl
 (vt_iadd rfl
 (vt_iald rfl rfl (fun hf2 => vt_goto rfl
 (vt_ret rfl ((W.1 hc1) hf2))))))))))) (fun hc1 => vt_iconst rfl
 (vt_ret rfl (W.2 hc1))))))))
theorem ve_Sheets_value_60 {X : Term} {xs : List Int32} {N : Nat} {H : fl_H} {a1 a2 : Int} {Q : Option Int → fl_H → Prop} (W : (0 ≤ fl_w ((a1 * 16) + a2) ∧ fl_w ((a1 * 16) + a2) < 64 → Q (some (H 63 (fl_w ((a1 * 16) + a2)).toNat)) H))  : ck (cm_pg X xs) N cm_m71 [.index 60, fl_t a1, fl_t a2] H Q :=
  vt_aload_n rfl rfl rfl
 (vt_getr rfl rfl rfl
 (vt_iload_n rfl rfl
 (vt_bipush (v := 16) rfl (by decide)
 (vt_imul rfl
 (vt_iload_n rfl rfl
 (vt_iadd rfl
 (vt_iald rfl rfl (fun hf1 => vt_ret rfl (W hf1)))))))))
theorem ve_GoodsBook_square_0 {X : Term} {xs : List Int32} {N : Nat} {H : fl_H} {a1 : Int} {Q : Option Int → fl_H → Prop} (W : ∀ m, m < N → ck (cm_pg X xs) m cm_m139 [.index 0, fl_t a1] H (fun r H1 => ∃ x3, r = some x3 ∧ ((fl_w x3 = 0 → Q (some (-1)) H1) ∧ (¬ fl_w x3 = 0 → (0 ≤ fl_w a1 ∧ fl_w a1 < 6 → (fl_w (H1 19 (fl_w a1).toNat) = 0 → Q (some (-2)) H1) ∧ (¬ fl_w (H1 19 (fl_w a1).toNat) = 0 → ∀ m, m < N → ck (cm_pg X xs) m cm_m143 [.index 0] H1 (fun r H7 => r = none ∧ (∀ m, m < N → ck (cm_pg X xs) m cm_m136 [fl_t (H1 19 (fl_w a1).toNat)] H7 (fun r H9 => ∃ x11, r = some x11 ∧ ((0 ≤ fl_w x11 ∧ fl_w x11 < 3 → ∀ m, m < N → ck (cm_pg X xs) m cm_m36 [.index 64, fl_t (H9 76 (fl_w x11).toNat), .index 87] H9 (fun r H13 => ∃ x15, r = some x15 ∧ (((fl_w x15 = 0) → Q (some (-4)) H13) ∧ (¬ (fl_w x15 = 0) → (0 ≤ fl_w a1 ∧ fl_w a1 < 6 → Q (some (H13 87 (fl_w a1).toNat)) H13)))))))))))))))  : ck (cm_pg X xs) N cm_m116 [.index 0, fl_t a1] H Q :=
  vt_aload_n rfl rfl rfl
 (vt_iload_n rfl rfl
 (vt_callV rfl rfl (fun _ => rfl) (fun m hm => vt_int (W m hm) (fun x3 H1 w2 => vt_ifcN rfl (fun hc4 => vt_aload_n rfl rfl rfl
 (vt_getr rfl rfl rfl
 (vt_getr rfl rfl rfl
 (vt_iload_n rfl rfl
 (vt_iald rfl rfl (fun hf5 => vt_istore_n rfl
 (vt_iload_n rfl rfl
 (vt_ifcN rfl (fun hc6 => vt_aload_n rfl rfl rfl
 (vt_callV rfl rfl (fun _ => rfl) (fun m hm => vt_void ((((w2.2 hc4) hf5).2 hc6) m hm) (fun H7 w8 => vt_aload_n rfl rfl rfl
 (vt_getr rfl rfl rfl
 (vt_aload_n rfl rfl rfl
 (vt_getr rfl rfl rfl
 (vt_getr rfl rfl rfl
 (vt_iload_n rfl rfl
 (vt_callS rfl rfl (fun _ => rfl) (fun m hm => vt_int (w8 m hm) (fun x11 H9 w10 => vt_iald rfl rfl (fun hf12 => vt_aload_n rfl rfl rfl
 (vt_getr rfl rfl rfl
 (vt_callV rfl rfl (fun _ => rfl) (fun m hm => vt_int ((w10 hf12) m hm) (fun x15 H13 w14 => vt_ifc rfl (fun hc16 => vt_bipush (v := (-4)) rfl (by decide)
 (vt_ret rfl (w14.1 hc16))) (fun hc16 => vt_aload_n rfl rfl rfl
 (vt_getr rfl rfl rfl
 (vt_iload_n rfl rfl
 (vt_iald rfl rfl (fun hf17 => vt_goto rfl
 (vt_ret rfl ((w14.2 hc16) hf17)))))))))))))))))))))))) (fun hc6 => vt_bipush (v := (-2)) rfl (by decide)
 (vt_ret rfl (((w2.2 hc4) hf5).1 hc6))))))))))) (fun hc4 => vt_iconst rfl
 (vt_ret rfl (w2.1 hc4)))))))
def hd_Floor_lay_64_87_22 (P : cm_G) (N : Nat) (H : fl_H) (a3 : Int) (a4 : Int) (a5 : Int) (Q : Option Int → fl_H → Prop) : Prop := ∀ lv : cm_Lv, cm_nth lv 0 = some (some (.index 64)) → cm_nth lv 2 = some (some (.index 87)) → cm_nth lv 3 = some (some (fl_t a3)) → cm_nth lv 4 = some (some (fl_t a4)) → cm_nth lv 5 = some (some (fl_t a5)) → vt P N cm_m36 22 lv [] H Q
theorem vh_Floor_lay_64_87_22 {X : Term} {xs : List Int32} {N : Nat} {H : fl_H} {a3 : Int} {a4 : Int} {a5 : Int} {Q : Option Int → fl_H → Prop} (W : ((6 ≤ fl_w a5) → Q (some 1) H) ∧ (¬ (6 ≤ fl_w a5) → (fl_w (fl_and (fl_shr a3 a5) 1) = 0 → ∀ m, m < N → hd_Floor_lay_64_87_22 (cm_pg X xs) m H a3 a4 (a5 + 1) Q) ∧ (¬ fl_w (fl_and (fl_shr a3 a5) 1) = 0 → ∀ m, m < N → ck (cm_pg X xs) m cm_m40 [.index 64, fl_t (fl_and a3 (fl_xor (fl_shl 1 a5) (-1)))] H (fun r H5 => ∃ x7, r = some x7 ∧ (∀ m, m < N → ck (cm_pg X xs) m cm_m37 [.index 64, fl_t a5, fl_t a4, fl_t x7] H5 (fun r H8 => ∃ x10, r = some x10 ∧ ((0 ≤ fl_w a5 ∧ fl_w a5 < 6 → ∀ H11, H11 = fl_up H8 87 (fl_w a5).toNat x10 → (0 ≤ fl_w a5 ∧ fl_w a5 < 6 → (0 ≤ fl_w a5 ∧ fl_w a5 < 6 → (0 ≤ fl_w (((H11 68 (fl_w a5).toNat) * 16) + (H11 87 (fl_w a5).toNat)) ∧ fl_w (((H11 68 (fl_w a5).toNat) * 16) + (H11 87 (fl_w a5).toNat)) < 192 → ∀ m, m < N → hd_Floor_lay_64_87_22 (cm_pg X xs) m H11 (fl_and a3 (fl_xor (fl_shl 1 a5) (-1))) (fl_or a4 (H11 66 (fl_w (((H11 68 (fl_w a5).toNat) * 16) + (H11 87 (fl_w a5).toNat))).toNat)) (a5 + 1) Q))))))))))) : hd_Floor_lay_64_87_22 (cm_pg X xs) N H a3 a4 a5 Q :=
 fun lv h0 h2 h3 h4 h5 =>
 vt_iload rfl h5
 (vt_bipush (v := 6) rfl (by decide)
 (vt_icmp rfl (fun hc1 => vt_iconst rfl
 (vt_ret rfl (W.1 hc1))) (fun hc1 => vt_iload_n rfl h3
 (vt_iload rfl h5
 (vt_ishr rfl
 (vt_iconst rfl
 (vt_iand rfl
 (vt_ifcN rfl (fun hc2 => vt_iload_n rfl h3
 (vt_iconst rfl
 (vt_iload rfl h5
 (vt_ishl rfl
 (vt_iconst rfl
 (vt_ixor rfl
 (vt_iand rfl
 (vt_istore_nA rfl (fun hl4 => vt_aload_n rfl (fl_lsn (by decide) h2) rfl
 (vt_iload rfl (fl_lsn (by decide) h5)
 (vt_aload_n rfl (fl_lsn (by decide) h0) rfl
 (vt_iload rfl (fl_lsn (by decide) h5)
 (vt_iload rfl (fl_lsn (by decide) h4)
 (vt_aload_n rfl (fl_lsn (by decide) h0) rfl
 (vt_iload_n rfl (fl_lse hl4)
 (vt_callV rfl rfl (fun _ => rfl) (fun m hm => vt_int (((W.2 hc1).2 hc2) m hm) (fun x7 H5 w6 => vt_callV rfl rfl (fun _ => rfl) (fun m hm => vt_int (w6 m hm) (fun x10 H8 w9 => vt_iast rfl rfl (fun hf13 => vt_nm (fun H11 e12 => vt_iload rfl (fl_lsn (by decide) h4)
 (vt_aload_n rfl (fl_lsn (by decide) h0) rfl
 (vt_getr rfl rfl rfl
 (vt_aload_n rfl (fl_lsn (by decide) h0) rfl
 (vt_getr rfl rfl rfl
 (vt_iload rfl (fl_lsn (by decide) h5)
 (vt_iald rfl rfl (fun hf14 => vt_bipush (v := 16) rfl (by decide)
 (vt_imul rfl
 (vt_aload_n rfl (fl_lsn (by decide) h2) rfl
 (vt_iload rfl (fl_lsn (by decide) h5)
 (vt_iald rfl rfl (fun hf15 => vt_iadd rfl
 (vt_iald rfl rfl (fun hf16 => vt_ior rfl
 (vt_istoreA rfl (fun hl17 => vt_iincA rfl (fl_lsn (by decide) (fl_lsn (by decide) h5)) (fun hl18 => vt_gotoS rfl (fun m hm => (((((w9 hf13 H11 e12) hf14) hf15) hf16) m hm) _ (fl_lsn (by decide) (fl_lsn (by decide) (fl_lsn (by decide) h0))) (fl_lsn (by decide) (fl_lsn (by decide) (fl_lsn (by decide) h2))) (fl_lsn (by decide) (fl_lsn (by decide) (fl_lse hl4))) (fl_lsn (by decide) (fl_lse hl17)) (fl_lse hl18))))))))))))))))))))))))))))))))))))))))) (fun hc2 => vt_goto rfl
 (vt_iincA rfl h5 (fun hl3 => vt_gotoS rfl (fun m hm => (((W.2 hc1).1 hc2) m hm) _ (fl_lsn (by decide) h0) (fl_lsn (by decide) h2) (fl_lsn (by decide) h3) (fl_lsn (by decide) h4) (fl_lse hl3)))))))))))))
theorem ve_Floor_lay_64_87 {X : Term} {xs : List Int32} {N : Nat} {H : fl_H} {a1 : Int} {Q : Option Int → fl_H → Prop} (W : ∀ m, m < N → ck (cm_pg X xs) m cm_m35 [.index 64, fl_t a1] H (fun r H1 => ∃ x3, r = some x3 ∧ ((fl_w x3 = 0 → Q (some 0) H1) ∧ (¬ fl_w x3 = 0 → ∀ m, m < N → ck (cm_pg X xs) m cm_m39 [.index 64, fl_t a1] H1 (fun r H5 => ∃ x7, r = some x7 ∧ (hd_Floor_lay_64_87_22 (cm_pg X xs) N H5 x7 0 0 Q))))))  : ck (cm_pg X xs) N cm_m36 [.index 64, fl_t a1, .index 87] H Q :=
  vt_aload_n rfl rfl rfl
 (vt_iload_n rfl rfl
 (vt_callV rfl rfl (fun _ => rfl) (fun m hm => vt_int (W m hm) (fun x3 H1 w2 => vt_ifcN rfl (fun hc4 => vt_aload_n rfl rfl rfl
 (vt_iload_n rfl rfl
 (vt_callV rfl rfl (fun _ => rfl) (fun m hm => vt_int ((w2.2 hc4) m hm) (fun x7 H5 w6 => vt_istore_n rfl
 (vt_iconst rfl
 (vt_istore rfl
 (vt_iconst rfl
 (vt_istore rfl
 (w6 _ rfl rfl rfl rfl rfl)))))))))) (fun hc4 => vt_iconst rfl
 (vt_ret rfl (w2.1 hc4)))))))
def hd_Floor_firstSquare_64_3 (P : cm_G) (N : Nat) (H : fl_H) (a1 : Int) (a2 : Int) (a3 : Int) (a4 : Int) (Q : Option Int → fl_H → Prop) : Prop := ∀ lv : cm_Lv, cm_nth lv 0 = some (some (.index 64)) → cm_nth lv 1 = some (some (fl_t a1)) → cm_nth lv 2 = some (some (fl_t a2)) → cm_nth lv 3 = some (some (fl_t a3)) → cm_nth lv 4 = some (some (fl_t a4)) → vt P N cm_m37 3 lv [] H Q
theorem vh_Floor_firstSquare_64_3 {X : Term} {xs : List Int32} {N : Nat} {H : fl_H} {a1 : Int} {a2 : Int} {a3 : Int} {a4 : Int} {Q : Option Int → fl_H → Prop} (W : ((16 ≤ fl_w a4) → Q (some 0) H) ∧ (¬ (16 ≤ fl_w a4) → (0 ≤ fl_w a1 ∧ fl_w a1 < 6 → (0 ≤ fl_w (((H 68 (fl_w a1).toNat) * 16) + a4) ∧ fl_w (((H 68 (fl_w a1).toNat) * 16) + a4) < 192 → ((fl_w (H 66 (fl_w (((H 68 (fl_w a1).toNat) * 16) + a4)).toNat) = 0) → ∀ m, m < N → hd_Floor_firstSquare_64_3 (cm_pg X xs) m H a1 a2 a3 (a4 + 1) Q) ∧ (¬ (fl_w (H 66 (fl_w (((H 68 (fl_w a1).toNat) * 16) + a4)).toNat) = 0) → ((fl_w (fl_and (H 66 (fl_w (((H 68 (fl_w a1).toNat) * 16) + a4)).toNat) a2) = 0) → ∀ m, m < N → ck (cm_pg X xs) m cm_m242 [fl_t (fl_or a2 (H 66 (fl_w (((H 68 (fl_w a1).toNat) * 16) + a4)).toNat))] H (fun r H8 => ∃ x10, r = some x10 ∧ (∀ m, m < N → ck (cm_pg X xs) m cm_m41 [.index 64, fl_t a3] H8 (fun r H11 => ∃ x13, r = some x13 ∧ (∀ m, m < N → ck (cm_pg X xs) m cm_m38 [.index 64, fl_t (fl_or a2 (H 66 (fl_w (((H 68 (fl_w a1).toNat) * 16) + a4)).toNat)), fl_t a3, fl_t 0, fl_t ((16 - x10) - x13)] H11 (fun r H15 => ∃ x17, r = some x17 ∧ (((fl_w x17 = 0) → ∀ m, m < N → hd_Floor_firstSquare_64_3 (cm_pg X xs) m H15 a1 a2 a3 (a4 + 1) Q) ∧ (¬ (fl_w x17 = 0) → Q (some a4) H15)))))))) ∧ (¬ (fl_w (fl_and (H 66 (fl_w (((H 68 (fl_w a1).toNat) * 16) + a4)).toNat) a2) = 0) → ∀ m, m < N → hd_Floor_firstSquare_64_3 (cm_pg X xs) m H a1 a2 a3 (a4 + 1) Q)))))) : hd_Floor_firstSquare_64_3 (cm_pg X xs) N H a1 a2 a3 a4 Q :=
 fun lv h0 h1 h2 h3 h4 =>
 vt_iload rfl h4
 (vt_bipush (v := 16) rfl (by decide)
 (vt_icmp rfl (fun hc1 => vt_iconst rfl
 (vt_ret rfl (W.1 hc1))) (fun hc1 => vt_aload_n rfl h0 rfl
 (vt_getr rfl rfl rfl
 (vt_aload_n rfl h0 rfl
 (vt_getr rfl rfl rfl
 (vt_iload_n rfl h1
 (vt_iald rfl rfl (fun hf2 => vt_bipush (v := 16) rfl (by decide)
 (vt_imul rfl
 (vt_iload rfl h4
 (vt_iadd rfl
 (vt_iald rfl rfl (fun hf3 => vt_istoreA rfl (fun hl4 => vt_iload rfl (fl_lse hl4)
 (vt_ifc rfl (fun hc5 => vt_iincA rfl (fl_lsn (by decide) h4) (fun hl6 => vt_gotoS rfl (fun m hm => (((((W.2 hc1) hf2) hf3).1 hc5) m hm) _ (fl_lsn (by decide) (fl_lsn (by decide) h0)) (fl_lsn (by decide) (fl_lsn (by decide) h1)) (fl_lsn (by decide) (fl_lsn (by decide) h2)) (fl_lsn (by decide) (fl_lsn (by decide) h3)) (fl_lse hl6)))) (fun hc5 => vt_iload rfl (fl_lse hl4)
 (vt_iload_n rfl (fl_lsn (by decide) h2)
 (vt_iand rfl
 (vt_ifc rfl (fun hc7 => vt_bipush (v := 16) rfl (by decide)
 (vt_iload_n rfl (fl_lsn (by decide) h2)
 (vt_iload rfl (fl_lse hl4)
 (vt_ior rfl
 (vt_callS rfl rfl (fun _ => rfl) (fun m hm => vt_int ((((((W.2 hc1) hf2) hf3).2 hc5).1 hc7) m hm) (fun x10 H8 w9 => vt_isub rfl
 (vt_aload_n rfl (fl_lsn (by decide) h0) rfl
 (vt_iload_n rfl (fl_lsn (by decide) h3)
 (vt_callV rfl rfl (fun _ => rfl) (fun m hm => vt_int (w9 m hm) (fun x13 H11 w12 => vt_isub rfl
 (vt_istoreA rfl (fun hl14 => vt_aload_n rfl (fl_lsn (by decide) (fl_lsn (by decide) h0)) rfl
 (vt_iload_n rfl (fl_lsn (by decide) (fl_lsn (by decide) h2))
 (vt_iload rfl (fl_lsn (by decide) (fl_lse hl4))
 (vt_ior rfl
 (vt_iload_n rfl (fl_lsn (by decide) (fl_lsn (by decide) h3))
 (vt_iconst rfl
 (vt_iload rfl (fl_lse hl14)
 (vt_callS rfl rfl (fun _ => rfl) (fun m hm => vt_int (w12 m hm) (fun x17 H15 w16 => vt_ifc rfl (fun hc18 => vt_iincA rfl (fl_lsn (by decide) (fl_lsn (by decide) h4)) (fun hl19 => vt_gotoS rfl (fun m hm => ((w16.1 hc18) m hm) _ (fl_lsn (by decide) (fl_lsn (by decide) (fl_lsn (by decide) h0))) (fl_lsn (by decide) (fl_lsn (by decide) (fl_lsn (by decide) h1))) (fl_lsn (by decide) (fl_lsn (by decide) (fl_lsn (by decide) h2))) (fl_lsn (by decide) (fl_lsn (by decide) (fl_lsn (by decide) h3))) (fl_lse hl19)))) (fun hc18 => vt_iload rfl (fl_lsn (by decide) (fl_lsn (by decide) h4))
 (vt_ret rfl (w16.2 hc18)))))))))))))))))))))))))) (fun hc7 => vt_goto rfl
 (vt_iincA rfl (fl_lsn (by decide) h4) (fun hl20 => vt_gotoS rfl (fun m hm => ((((((W.2 hc1) hf2) hf3).2 hc5).2 hc7) m hm) _ (fl_lsn (by decide) (fl_lsn (by decide) h0)) (fl_lsn (by decide) (fl_lsn (by decide) h1)) (fl_lsn (by decide) (fl_lsn (by decide) h2)) (fl_lsn (by decide) (fl_lsn (by decide) h3)) (fl_lse hl20)))))))))))))))))))))))))
theorem ve_Floor_firstSquare_64 {X : Term} {xs : List Int32} {N : Nat} {H : fl_H} {a1 a2 a3 : Int} {Q : Option Int → fl_H → Prop} (W : hd_Floor_firstSquare_64_3 (cm_pg X xs) N H a1 a2 a3 0 Q)  : ck (cm_pg X xs) N cm_m37 [.index 64, fl_t a1, fl_t a2, fl_t a3] H Q :=
  vt_iconst rfl
 (vt_istore rfl
 (W _ rfl rfl rfl rfl rfl))
theorem ve_Integer_bitCount {X : Term} {xs : List Int32} {N : Nat} {H : fl_H} {a0 : Int} {Q : Option Int → fl_H → Prop} (W : Q (some (fl_and (((fl_and (((fl_and (a0 - (fl_and (fl_ushr a0 1) 1431655765)) 858993459) + (fl_and (fl_ushr (a0 - (fl_and (fl_ushr a0 1) 1431655765)) 2) 858993459)) + (fl_ushr ((fl_and (a0 - (fl_and (fl_ushr a0 1) 1431655765)) 858993459) + (fl_and (fl_ushr (a0 - (fl_and (fl_ushr a0 1) 1431655765)) 2) 858993459)) 4)) 252645135) + (fl_ushr (fl_and (((fl_and (a0 - (fl_and (fl_ushr a0 1) 1431655765)) 858993459) + (fl_and (fl_ushr (a0 - (fl_and (fl_ushr a0 1) 1431655765)) 2) 858993459)) + (fl_ushr ((fl_and (a0 - (fl_and (fl_ushr a0 1) 1431655765)) 858993459) + (fl_and (fl_ushr (a0 - (fl_and (fl_ushr a0 1) 1431655765)) 2) 858993459)) 4)) 252645135) 8)) + (fl_ushr ((fl_and (((fl_and (a0 - (fl_and (fl_ushr a0 1) 1431655765)) 858993459) + (fl_and (fl_ushr (a0 - (fl_and (fl_ushr a0 1) 1431655765)) 2) 858993459)) + (fl_ushr ((fl_and (a0 - (fl_and (fl_ushr a0 1) 1431655765)) 858993459) + (fl_and (fl_ushr (a0 - (fl_and (fl_ushr a0 1) 1431655765)) 2) 858993459)) 4)) 252645135) + (fl_ushr (fl_and (((fl_and (a0 - (fl_and (fl_ushr a0 1) 1431655765)) 858993459) + (fl_and (fl_ushr (a0 - (fl_and (fl_ushr a0 1) 1431655765)) 2) 858993459)) + (fl_ushr ((fl_and (a0 - (fl_and (fl_ushr a0 1) 1431655765)) 858993459) + (fl_and (fl_ushr (a0 - (fl_and (fl_ushr a0 1) 1431655765)) 2) 858993459)) 4)) 252645135) 8)) 16)) 63)) H)  : ck (cm_pg X xs) N cm_m242 [fl_t a0] H Q :=
  vt_iload_n rfl rfl
 (vt_iload_n rfl rfl
 (vt_iconst rfl
 (vt_iushr rfl
 (vt_ldcw (v := 1431655765) rfl (by decide)
 (vt_iand rfl
 (vt_isub rfl
 (vt_istore_n rfl
 (vt_iload_n rfl rfl
 (vt_ldcw (v := 858993459) rfl (by decide)
 (vt_iand rfl
 (vt_iload_n rfl rfl
 (vt_iconst rfl
 (vt_iushr rfl
 (vt_ldcw (v := 858993459) rfl (by decide)
 (vt_iand rfl
 (vt_iadd rfl
 (vt_istore_n rfl
 (vt_iload_n rfl rfl
 (vt_iload_n rfl rfl
 (vt_iconst rfl
 (vt_iushr rfl
 (vt_iadd rfl
 (vt_ldcw (v := 252645135) rfl (by decide)
 (vt_iand rfl
 (vt_istore_n rfl
 (vt_iload_n rfl rfl
 (vt_iload_n rfl rfl
 (vt_bipush (v := 8) rfl (by decide)
 (vt_iushr rfl
 (vt_iadd rfl
 (vt_istore_n rfl
 (vt_iload_n rfl rfl
 (vt_iload_n rfl rfl
 (vt_bipush (v := 16) rfl (by decide)
 (vt_iushr rfl
 (vt_iadd rfl
 (vt_istore_n rfl
 (vt_iload_n rfl rfl
 (vt_bipush (v := 63) rfl (by decide)
 (vt_iand rfl
 (vt_ret rfl W)))))))))))))))))))))))))))))))))))))))))
theorem ve_GoodsBook_breaks_0 {X : Term} {xs : List Int32} {N : Nat} {H : fl_H} {a1 : Int} {Q : Option Int → fl_H → Prop} (W : ((fl_w 0 ≤ fl_w a1 ∧ fl_w a1 ≤ fl_w 1) → ∀ m, m < N → ck (cm_pg X xs) m cm_m143 [.index 0] H (fun r H2 => r = none ∧ ((fl_w a1 = 0 → ∀ m, m < N → ck (cm_pg X xs) m cm_m27 [.index 69] H2 (fun r H5 => ∃ x7, r = some x7 ∧ (Q (some x7) H5))) ∧ (¬ fl_w a1 = 0 → ∀ m, m < N → ck (cm_pg X xs) m cm_m28 [.index 69] H2 (fun r H8 => ∃ x10, r = some x10 ∧ (Q (some x10) H8)))))) ∧ (¬ (fl_w 0 ≤ fl_w a1 ∧ fl_w a1 ≤ fl_w 1) → Q (some (-1)) H))  : ck (cm_pg X xs) N cm_m115 [.index 0, fl_t a1] H Q :=
  vt_iload_n rfl rfl
 (vt_iconst rfl
 (vt_iconst rfl
 (vt_callS rfl rfl (fun _ => rfl) (fun _ _ => vt_sum (sm_within)
 (vt_ifn rfl (fun hc1 => vt_aload_n rfl rfl rfl
 (vt_callV rfl rfl (fun _ => rfl) (fun m hm => vt_void ((W.1 hc1) m hm) (fun H2 w3 => vt_iload_n rfl rfl
 (vt_ifcN rfl (fun hc4 => vt_aload_n rfl rfl rfl
 (vt_getr rfl rfl rfl
 (vt_callV rfl rfl (fun _ => rfl) (fun m hm => vt_int ((w3.2 hc4) m hm) (fun x10 H8 w9 => vt_ret rfl w9))))) (fun hc4 => vt_aload_n rfl rfl rfl
 (vt_getr rfl rfl rfl
 (vt_callV rfl rfl (fun _ => rfl) (fun m hm => vt_int ((w3.1 hc4) m hm) (fun x7 H5 w6 => vt_goto rfl
 (vt_ret rfl w6))))))))))) (fun hc1 => vt_iconst rfl
 (vt_ret rfl (W.2 hc1))))))))
theorem ve_GoodsBook_worth_0 {X : Term} {xs : List Int32} {N : Nat} {H : fl_H} {Q : Option Int → fl_H → Prop} (W : ∀ m, m < N → ck (cm_pg X xs) m cm_m143 [.index 0] H (fun r H1 => r = none ∧ (∀ m, m < N → ck (cm_pg X xs) m cm_m19 [.index 69] H1 (fun r H3 => ∃ x5, r = some x5 ∧ (Q (some x5) H3)))))  : ck (cm_pg X xs) N cm_m114 [.index 0] H Q :=
  vt_aload_n rfl rfl rfl
 (vt_callV rfl rfl (fun _ => rfl) (fun m hm => vt_void (W m hm) (fun H1 w2 => vt_aload_n rfl rfl rfl
 (vt_getr rfl rfl rfl
 (vt_callV rfl rfl (fun _ => rfl) (fun m hm => vt_int (w2 m hm) (fun x5 H3 w4 => vt_ret rfl w4)))))))
theorem ve_GoodsBook_brings_0 {X : Term} {xs : List Int32} {N : Nat} {H : fl_H} {a1 : Int} {Q : Option Int → fl_H → Prop} (W : ∀ m, m < N → ck (cm_pg X xs) m cm_m139 [.index 0, fl_t a1] H (fun r H1 => ∃ x3, r = some x3 ∧ ((fl_w x3 = 0 → Q (some (-1)) H1) ∧ (¬ fl_w x3 = 0 → (0 ≤ fl_w a1 ∧ fl_w a1 < 6 → (fl_w (H1 19 (fl_w a1).toNat) = 0 → Q (some (-4)) H1) ∧ (¬ fl_w (H1 19 (fl_w a1).toNat) = 0 → ∀ m, m < N → ck (cm_pg X xs) m cm_m143 [.index 0] H1 (fun r H7 => r = none ∧ (∀ m, m < N → ck (cm_pg X xs) m cm_m21 [.index 69, fl_t a1, fl_t 0] H7 (fun r H9 => ∃ x11, r = some x11 ∧ (Q (some x11) H9))))))))))  : ck (cm_pg X xs) N cm_m113 [.index 0, fl_t a1] H Q :=
  vt_aload_n rfl rfl rfl
 (vt_iload_n rfl rfl
 (vt_callV rfl rfl (fun _ => rfl) (fun m hm => vt_int (W m hm) (fun x3 H1 w2 => vt_ifcN rfl (fun hc4 => vt_aload_n rfl rfl rfl
 (vt_getr rfl rfl rfl
 (vt_getr rfl rfl rfl
 (vt_iload_n rfl rfl
 (vt_iald rfl rfl (fun hf5 => vt_ifcN rfl (fun hc6 => vt_aload_n rfl rfl rfl
 (vt_callV rfl rfl (fun _ => rfl) (fun m hm => vt_void ((((w2.2 hc4) hf5).2 hc6) m hm) (fun H7 w8 => vt_aload_n rfl rfl rfl
 (vt_getr rfl rfl rfl
 (vt_iload_n rfl rfl
 (vt_iconst rfl
 (vt_callV rfl rfl (fun _ => rfl) (fun m hm => vt_int (w8 m hm) (fun x11 H9 w10 => vt_ret rfl w10)))))))))) (fun hc6 => vt_bipush (v := (-4)) rfl (by decide)
 (vt_ret rfl (((w2.2 hc4) hf5).1 hc6))))))))) (fun hc4 => vt_iconst rfl
 (vt_ret rfl (w2.1 hc4)))))))
def hd_GoodsBook_plan_0_33 (P : cm_G) (N : Nat) (H : fl_H) (a1 : Int) (a3 : Int) (a5 : Int) (Q : Option Int → fl_H → Prop) : Prop := ∀ lv : cm_Lv, cm_nth lv 0 = some (some (.index 0)) → cm_nth lv 1 = some (some (fl_t a1)) → cm_nth lv 3 = some (some (fl_t a3)) → cm_nth lv 5 = some (some (fl_t a5)) → vt P N cm_m112 33 lv [] H Q
def hd_GoodsBook_plan_0_82 (P : cm_G) (N : Nat) (H : fl_H) (a1 : Int) (a3 : Int) (a5 : Int) (Q : Option Int → fl_H → Prop) : Prop := ∀ lv : cm_Lv, cm_nth lv 0 = some (some (.index 0)) → cm_nth lv 1 = some (some (fl_t a1)) → cm_nth lv 3 = some (some (fl_t a3)) → cm_nth lv 5 = some (some (fl_t a5)) → vt P N cm_m112 82 lv [] H Q
theorem vh_GoodsBook_plan_0_33 {X : Term} {xs : List Int32} {N : Nat} {H : fl_H} {a1 : Int} {a3 : Int} {a5 : Int} {Q : Option Int → fl_H → Prop} (W : ((fl_w (H 3 0) ≤ fl_w a5) → hd_GoodsBook_plan_0_82 (cm_pg X xs) N H a1 a3 0 Q) ∧ (¬ (fl_w (H 3 0) ≤ fl_w a5) → ∀ m, m < N → ck (cm_pg X xs) m cm_m71 [.index 60, fl_t a1, fl_t (a3 + a5)] H (fun r H3 => ∃ x5, r = some x5 ∧ (∀ m, m < N → ck (cm_pg X xs) m cm_m9 [.index 1, fl_t x5] H3 (fun r H6 => ∃ x8, r = some x8 ∧ ((fl_w x8 = 0 → Q (some (-2)) H6) ∧ (¬ fl_w x8 = 0 → ∀ m, m < N → hd_GoodsBook_plan_0_33 (cm_pg X xs) m H6 a1 a3 (a5 + 1) Q))))))) : hd_GoodsBook_plan_0_33 (cm_pg X xs) N H a1 a3 a5 Q :=
 fun lv h0 h1 h3 h5 =>
 vt_iload rfl h5
 (vt_aload_n rfl h0 rfl
 (vt_getr rfl rfl rfl
 (vt_getr rfl rfl rfl
 (vt_getf rfl rfl rfl
 (vt_icmp rfl (fun hc1 => vt_iconst rfl
 (vt_istoreA rfl (fun hl2 => (W.1 hc1) _ (fl_lsn (by decide) h0) (fl_lsn (by decide) h1) (fl_lsn (by decide) h3) (fl_lse hl2)))) (fun hc1 => vt_aload_n rfl h0 rfl
 (vt_getr rfl rfl rfl
 (vt_aload_n rfl h0 rfl
 (vt_getr rfl rfl rfl
 (vt_iload_n rfl h1
 (vt_iload_n rfl h3
 (vt_iload rfl h5
 (vt_iadd rfl
 (vt_callV rfl rfl (fun _ => rfl) (fun m hm => vt_int ((W.2 hc1) m hm) (fun x5 H3 w4 => vt_callV rfl rfl (fun _ => rfl) (fun m hm => vt_int (w4 m hm) (fun x8 H6 w7 => vt_ifcN rfl (fun hc9 => vt_iincA rfl h5 (fun hl10 => vt_gotoS rfl (fun m hm => ((w7.2 hc9) m hm) _ (fl_lsn (by decide) h0) (fl_lsn (by decide) h1) (fl_lsn (by decide) h3) (fl_lse hl10)))) (fun hc9 => vt_bipush (v := (-2)) rfl (by decide)
 (vt_ret rfl (w7.1 hc9)))))))))))))))))))))
theorem vh_GoodsBook_plan_0_82 {X : Term} {xs : List Int32} {N : Nat} {H : fl_H} {a1 : Int} {a3 : Int} {a5 : Int} {Q : Option Int → fl_H → Prop} (W : ((fl_w (H 3 0) ≤ fl_w a5) → ∀ m, m < N → ck (cm_pg X xs) m cm_m142 [.index 0] H (fun r H2 => r = none ∧ (∀ m, m < N → ck (cm_pg X xs) m cm_m10 [.index 1] H2 (fun r H4 => ∃ x6, r = some x6 ∧ (Q (some x6) H4))))) ∧ (¬ (fl_w (H 3 0) ≤ fl_w a5) → ∀ m, m < N → ck (cm_pg X xs) m cm_m71 [.index 60, fl_t a1, fl_t (a3 + a5)] H (fun r H7 => ∃ x9, r = some x9 ∧ ((0 ≤ fl_w a5 ∧ fl_w a5 < 6 → ∀ H10, H10 = fl_up H7 19 (fl_w a5).toNat x9 → ∀ m, m < N → hd_GoodsBook_plan_0_82 (cm_pg X xs) m H10 a1 a3 (a5 + 1) Q))))) : hd_GoodsBook_plan_0_82 (cm_pg X xs) N H a1 a3 a5 Q :=
 fun lv h0 h1 h3 h5 =>
 vt_iload rfl h5
 (vt_aload_n rfl h0 rfl
 (vt_getr rfl rfl rfl
 (vt_getr rfl rfl rfl
 (vt_getf rfl rfl rfl
 (vt_icmp rfl (fun hc1 => vt_aload_n rfl h0 rfl
 (vt_callV rfl rfl (fun _ => rfl) (fun m hm => vt_void ((W.1 hc1) m hm) (fun H2 w3 => vt_aload_n rfl h0 rfl
 (vt_getr rfl rfl rfl
 (vt_callV rfl rfl (fun _ => rfl) (fun m hm => vt_int (w3 m hm) (fun x6 H4 w5 => vt_ret rfl w5)))))))) (fun hc1 => vt_aload_n rfl h0 rfl
 (vt_getr rfl rfl rfl
 (vt_getr rfl rfl rfl
 (vt_iload rfl h5
 (vt_aload_n rfl h0 rfl
 (vt_getr rfl rfl rfl
 (vt_iload_n rfl h1
 (vt_iload_n rfl h3
 (vt_iload rfl h5
 (vt_iadd rfl
 (vt_callV rfl rfl (fun _ => rfl) (fun m hm => vt_int ((W.2 hc1) m hm) (fun x9 H7 w8 => vt_iast rfl rfl (fun hf12 => vt_nm (fun H10 e11 => vt_iincA rfl h5 (fun hl13 => vt_gotoS rfl (fun m hm => ((w8 hf12 H10 e11) m hm) _ (fl_lsn (by decide) h0) (fl_lsn (by decide) h1) (fl_lsn (by decide) h3) (fl_lse hl13)))))))))))))))))))))))
theorem ve_GoodsBook_plan_0 {X : Term} {xs : List Int32} {N : Nat} {H : fl_H} {a1 a2 a3 : Int} {Q : Option Int → fl_H → Prop} (W : ∀ m, m < N → ck (cm_pg X xs) m cm_m70 [.index 60, fl_t a1, fl_t a2, fl_t a3, fl_t (H 3 0)] H (fun r H1 => ∃ x3, r = some x3 ∧ (((fl_w x3 = 0) → hd_GoodsBook_plan_0_33 (cm_pg X xs) N H1 a1 a3 0 Q) ∧ (¬ (fl_w x3 = 0) → Q (some x3) H1))))  : ck (cm_pg X xs) N cm_m112 [.index 0, fl_t a1, fl_t a2, fl_t a3] H Q :=
  vt_aload_n rfl rfl rfl
 (vt_getr rfl rfl rfl
 (vt_iload_n rfl rfl
 (vt_iload_n rfl rfl
 (vt_iload_n rfl rfl
 (vt_aload_n rfl rfl rfl
 (vt_getr rfl rfl rfl
 (vt_getr rfl rfl rfl
 (vt_getf rfl rfl rfl
 (vt_callV rfl rfl (fun _ => rfl) (fun m hm => vt_int (W m hm) (fun x3 H1 w2 => vt_istore rfl
 (vt_iload rfl rfl
 (vt_ifc rfl (fun hc4 => vt_iconst rfl
 (vt_istore rfl
 ((w2.1 hc4) _ rfl rfl rfl rfl))) (fun hc4 => vt_iload rfl rfl
 (vt_ret rfl (w2.2 hc4))))))))))))))))
def hd_Book_countIn_1_4 (P : cm_G) (N : Nat) (H : fl_H) (a1 : Int) (a2 : Int) (Q : Option Int → fl_H → Prop) : Prop := ∀ lv : cm_Lv, cm_nth lv 0 = some (some (.index 1)) → cm_nth lv 1 = some (some (fl_t a1)) → cm_nth lv 2 = some (some (fl_t a2)) → vt P N cm_m10 4 lv [] H Q
theorem vh_Book_countIn_1_4 {X : Term} {xs : List Int32} {N : Nat} {H : fl_H} {a1 : Int} {a2 : Int} {Q : Option Int → fl_H → Prop} (W : ((fl_w (H 3 0) ≤ fl_w a2) → Q (some a1) H) ∧ (¬ (fl_w (H 3 0) ≤ fl_w a2) → (0 ≤ fl_w a2 ∧ fl_w a2 < 6 → ((fl_w (H 19 (fl_w a2).toNat) = 0) → ∀ m, m < N → hd_Book_countIn_1_4 (cm_pg X xs) m H a1 (a2 + 1) Q) ∧ (¬ (fl_w (H 19 (fl_w a2).toNat) = 0) → ∀ m, m < N → hd_Book_countIn_1_4 (cm_pg X xs) m H (a1 + 1) (a2 + 1) Q)))) : hd_Book_countIn_1_4 (cm_pg X xs) N H a1 a2 Q :=
 fun lv h0 h1 h2 =>
 vt_iload_n rfl h2
 (vt_aload_n rfl h0 rfl
 (vt_getr rfl rfl rfl
 (vt_getf rfl rfl rfl
 (vt_icmp rfl (fun hc1 => vt_iload_n rfl h1
 (vt_ret rfl (W.1 hc1))) (fun hc1 => vt_aload_n rfl h0 rfl
 (vt_getr rfl rfl rfl
 (vt_iload_n rfl h2
 (vt_iald rfl rfl (fun hf2 => vt_ifc rfl (fun hc3 => vt_iincA rfl h2 (fun hl4 => vt_gotoS rfl (fun m hm => ((((W.2 hc1) hf2).1 hc3) m hm) _ (fl_lsn (by decide) h0) (fl_lsn (by decide) h1) (fl_lse hl4)))) (fun hc3 => vt_iincA rfl h1 (fun hl5 => vt_iincA rfl (fl_lsn (by decide) h2) (fun hl6 => vt_gotoS rfl (fun m hm => ((((W.2 hc1) hf2).2 hc3) m hm) _ (fl_lsn (by decide) (fl_lsn (by decide) h0)) (fl_lsn (by decide) (fl_lse hl5)) (fl_lse hl6))))))))))))))
theorem ve_Book_countIn_1 {X : Term} {xs : List Int32} {N : Nat} {H : fl_H} {Q : Option Int → fl_H → Prop} (W : hd_Book_countIn_1_4 (cm_pg X xs) N H 0 0 Q)  : ck (cm_pg X xs) N cm_m10 [.index 1] H Q :=
  vt_iconst rfl
 (vt_istore_n rfl
 (vt_iconst rfl
 (vt_istore_n rfl
 (W _ rfl rfl rfl))))
theorem ve_Book_isChoice_1 {X : Term} {xs : List Int32} {N : Nat} {H : fl_H} {a1 : Int} {Q : Option Int → fl_H → Prop} (W : Q (some (fl_b (fl_w 0 ≤ fl_w a1 ∧ fl_w a1 ≤ fl_w (2 * (H 1 0))))) H)  : ck (cm_pg X xs) N cm_m9 [.index 1, fl_t a1] H Q :=
  vt_iload_n rfl rfl
 (vt_iconst rfl
 (vt_iconst rfl
 (vt_aload_n rfl rfl rfl
 (vt_getf rfl rfl rfl
 (vt_imul rfl
 (vt_callS rfl rfl (fun _ => rfl) (fun _ _ => vt_sum (sm_within)
 (vt_ret rfl W))))))))
theorem ve_GoodsBook_choose_0 {X : Term} {xs : List Int32} {N : Nat} {H : fl_H} {a1 a2 : Int} {Q : Option Int → fl_H → Prop} (W : ∀ m, m < N → ck (cm_pg X xs) m cm_m139 [.index 0, fl_t a1] H (fun r H1 => ∃ x3, r = some x3 ∧ (((fl_w x3 = 0) → Q (some (-1)) H1) ∧ (¬ (fl_w x3 = 0) → ∀ m, m < N → ck (cm_pg X xs) m cm_m9 [.index 1, fl_t a2] H1 (fun r H5 => ∃ x7, r = some x7 ∧ ((fl_w x7 = 0 → Q (some (-1)) H5) ∧ (¬ fl_w x7 = 0 → (0 ≤ fl_w a1 ∧ fl_w a1 < 6 → (0 ≤ fl_w a1 ∧ fl_w a1 < 6 → ∀ H10, H10 = fl_up H5 19 (fl_w a1).toNat a2 → ∀ m, m < N → ck (cm_pg X xs) m cm_m142 [.index 0] H10 (fun r H13 => r = none ∧ (Q (some (H5 19 (fl_w a1).toNat)) H13)))))))))))  : ck (cm_pg X xs) N cm_m111 [.index 0, fl_t a1, fl_t a2] H Q :=
  vt_aload_n rfl rfl rfl
 (vt_iload_n rfl rfl
 (vt_callV rfl rfl (fun _ => rfl) (fun m hm => vt_int (W m hm) (fun x3 H1 w2 => vt_ifc rfl (fun hc4 => vt_iconst rfl
 (vt_ret rfl (w2.1 hc4))) (fun hc4 => vt_aload_n rfl rfl rfl
 (vt_getr rfl rfl rfl
 (vt_iload_n rfl rfl
 (vt_callV rfl rfl (fun _ => rfl) (fun m hm => vt_int ((w2.2 hc4) m hm) (fun x7 H5 w6 => vt_ifcN rfl (fun hc8 => vt_aload_n rfl rfl rfl
 (vt_getr rfl rfl rfl
 (vt_getr rfl rfl rfl
 (vt_iload_n rfl rfl
 (vt_iald rfl rfl (fun hf9 => vt_istore_n rfl
 (vt_aload_n rfl rfl rfl
 (vt_getr rfl rfl rfl
 (vt_getr rfl rfl rfl
 (vt_iload_n rfl rfl
 (vt_iload_n rfl rfl
 (vt_iast rfl rfl (fun hf12 => vt_nm (fun H10 e11 => vt_aload_n rfl rfl rfl
 (vt_callV rfl rfl (fun _ => rfl) (fun m hm => vt_void ((((w6.2 hc8) hf9) hf12 H10 e11) m hm) (fun H13 w14 => vt_iload_n rfl rfl
 (vt_ret rfl w14)))))))))))))))))) (fun hc8 => vt_iconst rfl
 (vt_ret rfl (w6.1 hc8)))))))))))))
theorem ve_GoodsBook_count_0 {X : Term} {xs : List Int32} {N : Nat} {H : fl_H} {a1 : Int} {Q : Option Int → fl_H → Prop} (W : (fl_w a1 = 0 → Q (some (H 1 0)) H) ∧ (fl_w a1 = 1 → Q (some (H 3 0)) H) ∧ (fl_w a1 = 2 → Q (some (H 9 0)) H) ∧ (fl_w a1 = 3 → Q (some (H 14 0)) H) ∧ (fl_w a1 = 4 → ∀ m, m < N → ck (cm_pg X xs) m cm_m10 [.index 1] H (fun r H6 => ∃ x8, r = some x8 ∧ (Q (some x8) H6))) ∧ (fl_w a1 < 0 ∨ 4 < fl_w a1 → Q (some (-1)) H))  : ck (cm_pg X xs) N cm_m110 [.index 0, fl_t a1] H Q :=
  vt_iload_n rfl rfl
 (if hs1 : fl_w a1 = 0 then vt_swk rfl (vt_sw_in (j := 0) (by omega) (by omega) (by omega) rfl) (vt_aload_n rfl rfl rfl
 (vt_getr rfl rfl rfl
 (vt_getf rfl rfl rfl
 (vt_ret rfl (W.1 hs1))))) else if hs2 : fl_w a1 = 1 then vt_swk rfl (vt_sw_in (j := 1) (by omega) (by omega) (by omega) rfl) (vt_aload_n rfl rfl rfl
 (vt_getr rfl rfl rfl
 (vt_getr rfl rfl rfl
 (vt_getf rfl rfl rfl
 (vt_ret rfl (W.2.1 hs2)))))) else if hs3 : fl_w a1 = 2 then vt_swk rfl (vt_sw_in (j := 2) (by omega) (by omega) (by omega) rfl) (vt_aload_n rfl rfl rfl
 (vt_getr rfl rfl rfl
 (vt_getr rfl rfl rfl
 (vt_getf rfl rfl rfl
 (vt_ret rfl (W.2.2.1 hs3)))))) else if hs4 : fl_w a1 = 3 then vt_swk rfl (vt_sw_in (j := 3) (by omega) (by omega) (by omega) rfl) (vt_aload_n rfl rfl rfl
 (vt_getr rfl rfl rfl
 (vt_getr rfl rfl rfl
 (vt_getf rfl rfl rfl
 (vt_ret rfl (W.2.2.2.1 hs4)))))) else if hs5 : fl_w a1 = 4 then vt_swk rfl (vt_sw_in (j := 4) (by omega) (by omega) (by omega) rfl) (vt_aload_n rfl rfl rfl
 (vt_getr rfl rfl rfl
 (vt_callV rfl rfl (fun _ => rfl) (fun m hm => vt_int ((W.2.2.2.2.1 hs5) m hm) (fun x8 H6 w7 => vt_ret rfl w7))))) else vt_swk rfl (vt_sw_out (by omega)) (vt_iconst rfl
 (vt_ret rfl (W.2.2.2.2.2 (by omega)))))
theorem ve_GoodsBook_book_0 {X : Term} {xs : List Int32} {N : Nat} {H : fl_H} {Q : Option Int → fl_H → Prop} (W : ∀ m, m < N → ck (cm_pg X xs) m cm_m11 [.index 20, .index 1] H (fun r H1 => r = none ∧ (∀ m, m < N → ck (cm_pg X xs) m cm_m78 [.index 58, .index 20] H1 (fun r H3 => ∃ x5, r = some x5 ∧ (∀ m, m < N → ck (cm_pg X xs) m cm_m77 [.index 58] H3 (fun r H6 => r = none ∧ (((0 ≤ fl_w x5) → ∀ m, m < N → ck (cm_pg X xs) m cm_m11 [.index 1, .index 20] H6 (fun r H9 => r = none ∧ (∀ m, m < N → ck (cm_pg X xs) m cm_m140 [.index 0] H9 (fun r H11 => r = none ∧ (Q (some x5) H11))))) ∧ (¬ (0 ≤ fl_w x5) → Q (some x5) H6))))))))  : ck (cm_pg X xs) N cm_m109 [.index 0] H Q :=
  vt_aload_n rfl rfl rfl
 (vt_getr rfl rfl rfl
 (vt_aload_n rfl rfl rfl
 (vt_getr rfl rfl rfl
 (vt_callV rfl rfl (fun _ => rfl) (fun m hm => vt_void (W m hm) (fun H1 w2 => vt_aload_n rfl rfl rfl
 (vt_getr rfl rfl rfl
 (vt_aload_n rfl rfl rfl
 (vt_getr rfl rfl rfl
 (vt_callV rfl rfl (fun _ => rfl) (fun m hm => vt_int (w2 m hm) (fun x5 H3 w4 => vt_istore_n rfl
 (vt_aload_n rfl rfl rfl
 (vt_getr rfl rfl rfl
 (vt_callV rfl rfl (fun _ => rfl) (fun m hm => vt_void (w4 m hm) (fun H6 w7 => vt_iload_n rfl rfl
 (vt_ifc rfl (fun hc8 => vt_aload_n rfl rfl rfl
 (vt_getr rfl rfl rfl
 (vt_aload_n rfl rfl rfl
 (vt_getr rfl rfl rfl
 (vt_callV rfl rfl (fun _ => rfl) (fun m hm => vt_void ((w7.1 hc8) m hm) (fun H9 w10 => vt_aload_n rfl rfl rfl
 (vt_callV rfl rfl (fun _ => rfl) (fun m hm => vt_void (w10 m hm) (fun H11 w12 => vt_iload_n rfl rfl
 (vt_ret rfl w12))))))))))) (fun hc8 => vt_iload_n rfl rfl
 (vt_ret rfl (w7.2 hc8)))))))))))))))))))))
theorem ve_Book_become_1_20 {X : Term} {xs : List Int32} {N : Nat} {H : fl_H} {Q : Option Int → fl_H → Prop} (W : ∀ H1, H1 = fl_up H 1 0 (H 20 0) → (∀ H3, H3 = fl_cp H1 21 2 3 → (∀ m, m < N → ck (cm_pg X xs) m cm_m47 [.index 3, .index 22] H3 (fun r H5 => r = none ∧ (∀ m, m < N → ck (cm_pg X xs) m cm_m6 [.index 9, .index 28] H5 (fun r H7 => r = none ∧ (∀ m, m < N → ck (cm_pg X xs) m cm_m98 [.index 14, .index 33] H7 (fun r H9 => r = none ∧ (∀ H11, H11 = fl_cp H9 37 18 3 → (∀ H13, H13 = fl_cp H11 38 19 6 → (Q none H13)))))))))))  : ck (cm_pg X xs) N cm_m11 [.index 1, .index 20] H Q :=
  vt_aload_n rfl rfl rfl
 (vt_aload_n rfl rfl rfl
 (vt_getf rfl rfl rfl
 (vt_putf rfl rfl rfl (vt_nm (fun H1 e2 => vt_aload_n rfl rfl rfl
 (vt_getr rfl rfl rfl
 (vt_iconst rfl
 (vt_aload_n rfl rfl rfl
 (vt_getr rfl rfl rfl
 (vt_iconst rfl
 (vt_iconst rfl
 (vt_copy (n := 3) rfl rfl rfl rfl rfl rfl (vt_nm (fun H3 e4 => vt_aload_n rfl rfl rfl
 (vt_getr rfl rfl rfl
 (vt_aload_n rfl rfl rfl
 (vt_getr rfl rfl rfl
 (vt_callV rfl rfl (fun _ => rfl) (fun m hm => vt_void (((W H1 e2) H3 e4) m hm) (fun H5 w6 => vt_aload_n rfl rfl rfl
 (vt_getr rfl rfl rfl
 (vt_aload_n rfl rfl rfl
 (vt_getr rfl rfl rfl
 (vt_callV rfl rfl (fun _ => rfl) (fun m hm => vt_void (w6 m hm) (fun H7 w8 => vt_aload_n rfl rfl rfl
 (vt_getr rfl rfl rfl
 (vt_aload_n rfl rfl rfl
 (vt_getr rfl rfl rfl
 (vt_callV rfl rfl (fun _ => rfl) (fun m hm => vt_void (w8 m hm) (fun H9 w10 => vt_aload_n rfl rfl rfl
 (vt_getr rfl rfl rfl
 (vt_iconst rfl
 (vt_aload_n rfl rfl rfl
 (vt_getr rfl rfl rfl
 (vt_iconst rfl
 (vt_aload_n rfl rfl rfl
 (vt_getr rfl rfl rfl
 (vt_alen (n := 3) rfl rfl
 (vt_copy (n := 3) rfl rfl rfl rfl rfl rfl (vt_nm (fun H11 e12 => vt_aload_n rfl rfl rfl
 (vt_getr rfl rfl rfl
 (vt_iconst rfl
 (vt_aload_n rfl rfl rfl
 (vt_getr rfl rfl rfl
 (vt_iconst rfl
 (vt_bipush (v := 6) rfl (by decide)
 (vt_copy (n := 6) rfl rfl rfl rfl rfl rfl (vt_nm (fun H13 e14 => vt_retv rfl ((w10 H11 e12) H13 e14)))))))))))))))))))))))))))))))))))))))))))))))))))))
theorem ve_Years_become_14_33 {X : Term} {xs : List Int32} {N : Nat} {H : fl_H} {Q : Option Int → fl_H → Prop} (W : ∀ H1, H1 = fl_up H 14 0 (H 33 0) → (∀ H3, H3 = fl_cp H1 34 15 12 → (∀ H5, H5 = fl_cp H3 35 16 12 → (∀ H7, H7 = fl_cp H5 36 17 12 → (Q none H7)))))  : ck (cm_pg X xs) N cm_m98 [.index 14, .index 33] H Q :=
  vt_aload_n rfl rfl rfl
 (vt_aload_n rfl rfl rfl
 (vt_getf rfl rfl rfl
 (vt_putf rfl rfl rfl (vt_nm (fun H1 e2 => vt_aload_n rfl rfl rfl
 (vt_getr rfl rfl rfl
 (vt_iconst rfl
 (vt_aload_n rfl rfl rfl
 (vt_getr rfl rfl rfl
 (vt_iconst rfl
 (vt_bipush (v := 12) rfl (by decide)
 (vt_copy (n := 12) rfl rfl rfl rfl rfl rfl (vt_nm (fun H3 e4 => vt_aload_n rfl rfl rfl
 (vt_getr rfl rfl rfl
 (vt_iconst rfl
 (vt_aload_n rfl rfl rfl
 (vt_getr rfl rfl rfl
 (vt_iconst rfl
 (vt_bipush (v := 12) rfl (by decide)
 (vt_copy (n := 12) rfl rfl rfl rfl rfl rfl (vt_nm (fun H5 e6 => vt_aload_n rfl rfl rfl
 (vt_getr rfl rfl rfl
 (vt_iconst rfl
 (vt_aload_n rfl rfl rfl
 (vt_getr rfl rfl rfl
 (vt_iconst rfl
 (vt_bipush (v := 12) rfl (by decide)
 (vt_copy (n := 12) rfl rfl rfl rfl rfl rfl (vt_nm (fun H7 e8 => vt_retv rfl ((((W H1 e2) H3 e4) H5 e6) H7 e8)))))))))))))))))))))))))))))))))
theorem ve_Bonds_become_9_28 {X : Term} {xs : List Int32} {N : Nat} {H : fl_H} {Q : Option Int → fl_H → Prop} (W : ∀ H1, H1 = fl_up H 9 0 (H 28 0) → (∀ H3, H3 = fl_cp H1 29 10 12 → (∀ H5, H5 = fl_cp H3 30 11 12 → (∀ H7, H7 = fl_cp H5 31 12 12 → (∀ H9, H9 = fl_cp H7 32 13 12 → (Q none H9))))))  : ck (cm_pg X xs) N cm_m6 [.index 9, .index 28] H Q :=
  vt_aload_n rfl rfl rfl
 (vt_aload_n rfl rfl rfl
 (vt_getf rfl rfl rfl
 (vt_putf rfl rfl rfl (vt_nm (fun H1 e2 => vt_aload_n rfl rfl rfl
 (vt_getr rfl rfl rfl
 (vt_iconst rfl
 (vt_aload_n rfl rfl rfl
 (vt_getr rfl rfl rfl
 (vt_iconst rfl
 (vt_bipush (v := 12) rfl (by decide)
 (vt_copy (n := 12) rfl rfl rfl rfl rfl rfl (vt_nm (fun H3 e4 => vt_aload_n rfl rfl rfl
 (vt_getr rfl rfl rfl
 (vt_iconst rfl
 (vt_aload_n rfl rfl rfl
 (vt_getr rfl rfl rfl
 (vt_iconst rfl
 (vt_bipush (v := 12) rfl (by decide)
 (vt_copy (n := 12) rfl rfl rfl rfl rfl rfl (vt_nm (fun H5 e6 => vt_aload_n rfl rfl rfl
 (vt_getr rfl rfl rfl
 (vt_iconst rfl
 (vt_aload_n rfl rfl rfl
 (vt_getr rfl rfl rfl
 (vt_iconst rfl
 (vt_bipush (v := 12) rfl (by decide)
 (vt_copy (n := 12) rfl rfl rfl rfl rfl rfl (vt_nm (fun H7 e8 => vt_aload_n rfl rfl rfl
 (vt_getr rfl rfl rfl
 (vt_iconst rfl
 (vt_aload_n rfl rfl rfl
 (vt_getr rfl rfl rfl
 (vt_iconst rfl
 (vt_bipush (v := 12) rfl (by decide)
 (vt_copy (n := 12) rfl rfl rfl rfl rfl rfl (vt_nm (fun H9 e10 => vt_retv rfl (((((W H1 e2) H3 e4) H5 e6) H7 e8) H9 e10))))))))))))))))))))))))))))))))))))))))))
theorem ve_Goods_become_3_22 {X : Term} {xs : List Int32} {N : Nat} {H : fl_H} {Q : Option Int → fl_H → Prop} (W : ∀ H1, H1 = fl_up H 3 0 (H 22 0) → (∀ H3, H3 = fl_cp H1 23 4 6 → (∀ H5, H5 = fl_cp H3 24 5 6 → (∀ H7, H7 = fl_cp H5 25 6 12 → (∀ H9, H9 = fl_cp H7 26 7 12 → (∀ H11, H11 = fl_cp H9 27 8 12 → (Q none H11)))))))  : ck (cm_pg X xs) N cm_m47 [.index 3, .index 22] H Q :=
  vt_aload_n rfl rfl rfl
 (vt_aload_n rfl rfl rfl
 (vt_getf rfl rfl rfl
 (vt_putf rfl rfl rfl (vt_nm (fun H1 e2 => vt_aload_n rfl rfl rfl
 (vt_getr rfl rfl rfl
 (vt_iconst rfl
 (vt_aload_n rfl rfl rfl
 (vt_getr rfl rfl rfl
 (vt_iconst rfl
 (vt_bipush (v := 6) rfl (by decide)
 (vt_copy (n := 6) rfl rfl rfl rfl rfl rfl (vt_nm (fun H3 e4 => vt_aload_n rfl rfl rfl
 (vt_getr rfl rfl rfl
 (vt_iconst rfl
 (vt_aload_n rfl rfl rfl
 (vt_getr rfl rfl rfl
 (vt_iconst rfl
 (vt_bipush (v := 6) rfl (by decide)
 (vt_copy (n := 6) rfl rfl rfl rfl rfl rfl (vt_nm (fun H5 e6 => vt_aload_n rfl rfl rfl
 (vt_getr rfl rfl rfl
 (vt_iconst rfl
 (vt_aload_n rfl rfl rfl
 (vt_getr rfl rfl rfl
 (vt_iconst rfl
 (vt_bipush (v := 12) rfl (by decide)
 (vt_copy (n := 12) rfl rfl rfl rfl rfl rfl (vt_nm (fun H7 e8 => vt_aload_n rfl rfl rfl
 (vt_getr rfl rfl rfl
 (vt_iconst rfl
 (vt_aload_n rfl rfl rfl
 (vt_getr rfl rfl rfl
 (vt_iconst rfl
 (vt_bipush (v := 12) rfl (by decide)
 (vt_copy (n := 12) rfl rfl rfl rfl rfl rfl (vt_nm (fun H9 e10 => vt_aload_n rfl rfl rfl
 (vt_getr rfl rfl rfl
 (vt_iconst rfl
 (vt_aload_n rfl rfl rfl
 (vt_getr rfl rfl rfl
 (vt_iconst rfl
 (vt_bipush (v := 12) rfl (by decide)
 (vt_copy (n := 12) rfl rfl rfl rfl rfl rfl (vt_nm (fun H11 e12 => vt_retv rfl ((((((W H1 e2) H3 e4) H5 e6) H7 e8) H9 e10) H11 e12)))))))))))))))))))))))))))))))))))))))))))))))))))
theorem ve_Tape_wipe_58 {X : Term} {xs : List Int32} {N : Nat} {H : fl_H} {Q : Option Int → fl_H → Prop} (W : ∀ H1, H1 = fl_up H 58 1 0 → (∀ H3, H3 = fl_up H1 58 2 0 → (∀ H5, H5 = fl_up H3 58 3 (-1) → (Q none H5))))  : ck (cm_pg X xs) N cm_m77 [.index 58] H Q :=
  vt_aload_n rfl rfl rfl
 (vt_iconst rfl
 (vt_putf rfl rfl rfl (vt_nm (fun H1 e2 => vt_aload_n rfl rfl rfl
 (vt_iconst rfl
 (vt_putf rfl rfl rfl (vt_nm (fun H3 e4 => vt_aload_n rfl rfl rfl
 (vt_iconst rfl
 (vt_putf rfl rfl rfl (vt_nm (fun H5 e6 => vt_retv rfl (((W H1 e2) H3 e4) H5 e6)))))))))))))
def hd_Tape_read_58_20_7 (P : cm_G) (N : Nat) (H : fl_H) (a2 : Int) (a3 : Int) (a4 : Int) (Q : Option Int → fl_H → Prop) : Prop := ∀ lv : cm_Lv, cm_nth lv 0 = some (some (.index 58)) → cm_nth lv 1 = some (some (.index 20)) → cm_nth lv 2 = some (some (fl_t a2)) → cm_nth lv 3 = some (some (fl_t a3)) → cm_nth lv 4 = some (some (fl_t a4)) → vt P N cm_m78 7 lv [] H Q
theorem vh_Tape_read_58_20_7 {X : Term} {xs : List Int32} {N : Nat} {H : fl_H} {a2 : Int} {a3 : Int} {a4 : Int} {Q : Option Int → fl_H → Prop} (W : ((fl_w a4 = 0) → ∀ m, m < N → ck (cm_pg X xs) m cm_m85 [.index 58] H (fun r H2 => ∃ x4, r = some x4 ∧ (((fl_w x4 < 0) → ((fl_w (H2 58 3) = (-1)) → ((fl_w a3 = 0) → Q (some (-3)) H2) ∧ (¬ (fl_w a3 = 0) → Q (some a2) H2)) ∧ (¬ (fl_w (H2 58 3) = (-1)) → Q (some ((-20) - (H2 58 3))) H2)) ∧ (¬ (fl_w x4 < 0) → ∀ m, m < N → ck (cm_pg X xs) m cm_m86 [.index 58] H2 (fun r H8 => r = none ∧ (((fl_w (H8 58 3) = (-1)) → ((fl_w a3 = 0) → Q (some (-3)) H8) ∧ (¬ (fl_w a3 = 0) → Q (some a2) H8)) ∧ (¬ (fl_w (H8 58 3) = (-1)) → Q (some ((-20) - (H8 58 3))) H8))))))) ∧ (¬ (fl_w a4 = 0) → ((12 ≤ fl_w a2) → ∀ m, m < N → ck (cm_pg X xs) m cm_m85 [.index 58] H (fun r H13 => ∃ x15, r = some x15 ∧ (((fl_w x15 < 0) → ((fl_w (H13 58 3) = (-1)) → ((fl_w a3 = 0) → Q (some (-3)) H13) ∧ (¬ (fl_w a3 = 0) → Q (some a2) H13)) ∧ (¬ (fl_w (H13 58 3) = (-1)) → Q (some ((-20) - (H13 58 3))) H13)) ∧ (¬ (fl_w x15 < 0) → ∀ m, m < N → ck (cm_pg X xs) m cm_m86 [.index 58] H13 (fun r H19 => r = none ∧ (((fl_w (H19 58 3) = (-1)) → ((fl_w a3 = 0) → Q (some (-3)) H19) ∧ (¬ (fl_w a3 = 0) → Q (some a2) H19)) ∧ (¬ (fl_w (H19 58 3) = (-1)) → Q (some ((-20) - (H19 58 3))) H19))))))) ∧ (¬ (12 ≤ fl_w a2) → ∀ m, m < N → ck (cm_pg X xs) m cm_m79 [.index 58, .index 20] H (fun r H23 => ∃ x25, r = some x25 ∧ ((fl_w x25 = (-3) → ((12 ≤ fl_w (a2 + 1)) → hd_Tape_read_58_20_7 (cm_pg X xs) N H23 (a2 + 1) 0 0 Q) ∧ (¬ (12 ≤ fl_w (a2 + 1)) → (fl_w (H23 58 3) = (-1) → ∀ m, m < N → ck (cm_pg X xs) m cm_m85 [.index 58] H23 (fun r H33 => ∃ x35, r = some x35 ∧ (((fl_w x35 < 0) → hd_Tape_read_58_20_7 (cm_pg X xs) N H33 (a2 + 1) 0 0 Q) ∧ (¬ (fl_w x35 < 0) → ∀ m, m < N → ck (cm_pg X xs) m cm_m88 [.index 58, fl_t 59] H33 (fun r H41 => r = none ∧ (∀ m, m < N → hd_Tape_read_58_20_7 (cm_pg X xs) m H41 (a2 + 1) 0 1 Q)))))) ∧ (¬ fl_w (H23 58 3) = (-1) → hd_Tape_read_58_20_7 (cm_pg X xs) N H23 (a2 + 1) 0 0 Q))) ∧ (¬ fl_w x25 = (-3) → ((12 ≤ fl_w (a2 + 1)) → hd_Tape_read_58_20_7 (cm_pg X xs) N H23 (a2 + 1) a3 0 Q) ∧ (¬ (12 ≤ fl_w (a2 + 1)) → (fl_w (H23 58 3) = (-1) → ∀ m, m < N → ck (cm_pg X xs) m cm_m85 [.index 58] H23 (fun r H50 => ∃ x52, r = some x52 ∧ (((fl_w x52 < 0) → hd_Tape_read_58_20_7 (cm_pg X xs) N H50 (a2 + 1) a3 0 Q) ∧ (¬ (fl_w x52 < 0) → ∀ m, m < N → ck (cm_pg X xs) m cm_m88 [.index 58, fl_t 59] H50 (fun r H58 => r = none ∧ (∀ m, m < N → hd_Tape_read_58_20_7 (cm_pg X xs) m H58 (a2 + 1) a3 1 Q)))))) ∧ (¬ fl_w (H23 58 3) = (-1) → hd_Tape_read_58_20_7 (cm_pg X xs) N H23 (a2 + 1) a3 0 Q)))))))) : hd_Tape_read_58_20_7 (cm_pg X xs) N H a2 a3 a4 Q :=
 fun lv h0 h1 h2 h3 h4 =>
 vt_iload rfl h4
 (vt_ifc rfl (fun hc1 => vt_aload_n rfl h0 rfl
 (vt_callV rfl rfl (fun _ => rfl) (fun m hm => vt_int ((W.1 hc1) m hm) (fun x4 H2 w3 => vt_ifc rfl (fun hc5 => vt_aload_n rfl h0 rfl
 (vt_getf rfl rfl rfl
 (vt_iconst rfl
 (vt_icmp rfl (fun hc6 => vt_iload_n rfl h3
 (vt_ifc rfl (fun hc7 => vt_bipush (v := (-3)) rfl (by decide)
 (vt_ret rfl (((w3.1 hc5).1 hc6).1 hc7))) (fun hc7 => vt_iload_n rfl h2
 (vt_goto rfl
 (vt_ret rfl (((w3.1 hc5).1 hc6).2 hc7)))))) (fun hc6 => vt_bipush (v := (-20)) rfl (by decide)
 (vt_aload_n rfl h0 rfl
 (vt_getf rfl rfl rfl
 (vt_isub rfl
 (vt_ret rfl ((w3.1 hc5).2 hc6)))))))))) (fun hc5 => vt_aload_n rfl h0 rfl
 (vt_callV rfl rfl (fun _ => rfl) (fun m hm => vt_void ((w3.2 hc5) m hm) (fun H8 w9 => vt_aload_n rfl h0 rfl
 (vt_getf rfl rfl rfl
 (vt_iconst rfl
 (vt_icmp rfl (fun hc10 => vt_iload_n rfl h3
 (vt_ifc rfl (fun hc11 => vt_bipush (v := (-3)) rfl (by decide)
 (vt_ret rfl ((w9.1 hc10).1 hc11))) (fun hc11 => vt_iload_n rfl h2
 (vt_goto rfl
 (vt_ret rfl ((w9.1 hc10).2 hc11)))))) (fun hc10 => vt_bipush (v := (-20)) rfl (by decide)
 (vt_aload_n rfl h0 rfl
 (vt_getf rfl rfl rfl
 (vt_isub rfl
 (vt_ret rfl (w9.2 hc10))))))))))))))))) (fun hc1 => vt_iload_n rfl h2
 (vt_bipush (v := 12) rfl (by decide)
 (vt_icmp rfl (fun hc12 => vt_aload_n rfl h0 rfl
 (vt_callV rfl rfl (fun _ => rfl) (fun m hm => vt_int (((W.2 hc1).1 hc12) m hm) (fun x15 H13 w14 => vt_ifc rfl (fun hc16 => vt_aload_n rfl h0 rfl
 (vt_getf rfl rfl rfl
 (vt_iconst rfl
 (vt_icmp rfl (fun hc17 => vt_iload_n rfl h3
 (vt_ifc rfl (fun hc18 => vt_bipush (v := (-3)) rfl (by decide)
 (vt_ret rfl (((w14.1 hc16).1 hc17).1 hc18))) (fun hc18 => vt_iload_n rfl h2
 (vt_goto rfl
 (vt_ret rfl (((w14.1 hc16).1 hc17).2 hc18)))))) (fun hc17 => vt_bipush (v := (-20)) rfl (by decide)
 (vt_aload_n rfl h0 rfl
 (vt_getf rfl rfl rfl
 (vt_isub rfl
 (vt_ret rfl ((w14.1 hc16).2 hc17)))))))))) (fun hc16 => vt_aload_n rfl h0 rfl
 (vt_callV rfl rfl (fun _ => rfl) (fun m hm => vt_void ((w14.2 hc16) m hm) (fun H19 w20 => vt_aload_n rfl h0 rfl
 (vt_getf rfl rfl rfl
 (vt_iconst rfl
 (vt_icmp rfl (fun hc21 => vt_iload_n rfl h3
 (vt_ifc rfl (fun hc22 => vt_bipush (v := (-3)) rfl (by decide)
 (vt_ret rfl ((w20.1 hc21).1 hc22))) (fun hc22 => vt_iload_n rfl h2
 (vt_goto rfl
 (vt_ret rfl ((w20.1 hc21).2 hc22)))))) (fun hc21 => vt_bipush (v := (-20)) rfl (by decide)
 (vt_aload_n rfl h0 rfl
 (vt_getf rfl rfl rfl
 (vt_isub rfl
 (vt_ret rfl (w20.2 hc21))))))))))))))))) (fun hc12 => vt_aload_n rfl h0 rfl
 (vt_aload_n rfl h1 rfl
 (vt_callV rfl rfl (fun _ => rfl) (fun m hm => vt_int (((W.2 hc1).2 hc12) m hm) (fun x25 H23 w24 => vt_bipush (v := (-3)) rfl (by decide)
 (vt_icmpN rfl (fun hc26 => vt_iincA rfl h2 (fun hl45 => vt_iload_n rfl (fl_lse hl45)
 (vt_bipush (v := 12) rfl (by decide)
 (vt_icmp rfl (fun hc46 => vt_iconst rfl
 (vt_istoreA rfl (fun hl47 => vt_iload rfl (fl_lse hl47)
 (vt_ifc (a := 0) rfl (fun _ => ((w24.2 hc26).1 hc46) _ (fl_lsn (by decide) (fl_lsn (by decide) h0)) (fl_lsn (by decide) (fl_lsn (by decide) h1)) (fl_lsn (by decide) (fl_lse hl45)) (fl_lsn (by decide) (fl_lsn (by decide) h3)) (fl_lse hl47)) (fun hc48 => by exact absurd (show (0 : Int) = 0 by decide) hc48))))) (fun hc46 => vt_aload_n rfl (fl_lsn (by decide) h0) rfl
 (vt_getf rfl rfl rfl
 (vt_iconst rfl
 (vt_icmpN rfl (fun hc49 => vt_iconst rfl
 (vt_istoreA rfl (fun hl60 => vt_iload rfl (fl_lse hl60)
 (vt_ifc (a := 0) rfl (fun _ => (((w24.2 hc26).2 hc46).2 hc49) _ (fl_lsn (by decide) (fl_lsn (by decide) h0)) (fl_lsn (by decide) (fl_lsn (by decide) h1)) (fl_lsn (by decide) (fl_lse hl45)) (fl_lsn (by decide) (fl_lsn (by decide) h3)) (fl_lse hl60)) (fun hc61 => by exact absurd (show (0 : Int) = 0 by decide) hc61))))) (fun hc49 => vt_aload_n rfl (fl_lsn (by decide) h0) rfl
 (vt_callV rfl rfl (fun _ => rfl) (fun m hm => vt_int ((((w24.2 hc26).2 hc46).1 hc49) m hm) (fun x52 H50 w51 => vt_ifc rfl (fun hc53 => vt_iconst rfl
 (vt_istoreA rfl (fun hl54 => vt_iload rfl (fl_lse hl54)
 (vt_ifc (a := 0) rfl (fun _ => (w51.1 hc53) _ (fl_lsn (by decide) (fl_lsn (by decide) h0)) (fl_lsn (by decide) (fl_lsn (by decide) h1)) (fl_lsn (by decide) (fl_lse hl45)) (fl_lsn (by decide) (fl_lsn (by decide) h3)) (fl_lse hl54)) (fun hc55 => by exact absurd (show (0 : Int) = 0 by decide) hc55))))) (fun hc53 => vt_iconst rfl
 (vt_goto rfl
 (vt_istoreA rfl (fun hl56 => vt_iload rfl (fl_lse hl56)
 (vt_ifc (a := 1) rfl (fun hc57 => by exact absurd (show (1 : Int) = 0 from hc57) (by decide)) (fun _ => vt_aload_n rfl (fl_lsn (by decide) (fl_lsn (by decide) h0)) rfl
 (vt_bipush (v := 59) rfl (by decide)
 (vt_callV rfl rfl (fun _ => rfl) (fun m hm => vt_void ((w51.2 hc53) m hm) (fun H58 w59 => vt_gotoS rfl (fun m hm => (w59 m hm) _ (fl_lsn (by decide) (fl_lsn (by decide) h0)) (fl_lsn (by decide) (fl_lsn (by decide) h1)) (fl_lsn (by decide) (fl_lse hl45)) (fl_lsn (by decide) (fl_lsn (by decide) h3)) (fl_lse hl56)))))))))))))))))))))))) (fun hc26 => vt_iconst rfl
 (vt_istore_nA rfl (fun hl27 => vt_iincA rfl (fl_lsn (by decide) h2) (fun hl28 => vt_iload_n rfl (fl_lse hl28)
 (vt_bipush (v := 12) rfl (by decide)
 (vt_icmp rfl (fun hc29 => vt_iconst rfl
 (vt_istoreA rfl (fun hl30 => vt_iload rfl (fl_lse hl30)
 (vt_ifc (a := 0) rfl (fun _ => ((w24.1 hc26).1 hc29) _ (fl_lsn (by decide) (fl_lsn (by decide) (fl_lsn (by decide) h0))) (fl_lsn (by decide) (fl_lsn (by decide) (fl_lsn (by decide) h1))) (fl_lsn (by decide) (fl_lse hl28)) (fl_lsn (by decide) (fl_lsn (by decide) (fl_lse hl27))) (fl_lse hl30)) (fun hc31 => by exact absurd (show (0 : Int) = 0 by decide) hc31))))) (fun hc29 => vt_aload_n rfl (fl_lsn (by decide) (fl_lsn (by decide) h0)) rfl
 (vt_getf rfl rfl rfl
 (vt_iconst rfl
 (vt_icmpN rfl (fun hc32 => vt_iconst rfl
 (vt_istoreA rfl (fun hl43 => vt_iload rfl (fl_lse hl43)
 (vt_ifc (a := 0) rfl (fun _ => (((w24.1 hc26).2 hc29).2 hc32) _ (fl_lsn (by decide) (fl_lsn (by decide) (fl_lsn (by decide) h0))) (fl_lsn (by decide) (fl_lsn (by decide) (fl_lsn (by decide) h1))) (fl_lsn (by decide) (fl_lse hl28)) (fl_lsn (by decide) (fl_lsn (by decide) (fl_lse hl27))) (fl_lse hl43)) (fun hc44 => by exact absurd (show (0 : Int) = 0 by decide) hc44))))) (fun hc32 => vt_aload_n rfl (fl_lsn (by decide) (fl_lsn (by decide) h0)) rfl
 (vt_callV rfl rfl (fun _ => rfl) (fun m hm => vt_int ((((w24.1 hc26).2 hc29).1 hc32) m hm) (fun x35 H33 w34 => vt_ifc rfl (fun hc36 => vt_iconst rfl
 (vt_istoreA rfl (fun hl37 => vt_iload rfl (fl_lse hl37)
 (vt_ifc (a := 0) rfl (fun _ => (w34.1 hc36) _ (fl_lsn (by decide) (fl_lsn (by decide) (fl_lsn (by decide) h0))) (fl_lsn (by decide) (fl_lsn (by decide) (fl_lsn (by decide) h1))) (fl_lsn (by decide) (fl_lse hl28)) (fl_lsn (by decide) (fl_lsn (by decide) (fl_lse hl27))) (fl_lse hl37)) (fun hc38 => by exact absurd (show (0 : Int) = 0 by decide) hc38))))) (fun hc36 => vt_iconst rfl
 (vt_goto rfl
 (vt_istoreA rfl (fun hl39 => vt_iload rfl (fl_lse hl39)
 (vt_ifc (a := 1) rfl (fun hc40 => by exact absurd (show (1 : Int) = 0 from hc40) (by decide)) (fun _ => vt_aload_n rfl (fl_lsn (by decide) (fl_lsn (by decide) (fl_lsn (by decide) h0))) rfl
 (vt_bipush (v := 59) rfl (by decide)
 (vt_callV rfl rfl (fun _ => rfl) (fun m hm => vt_void ((w34.2 hc36) m hm) (fun H41 w42 => vt_gotoS rfl (fun m hm => (w42 m hm) _ (fl_lsn (by decide) (fl_lsn (by decide) (fl_lsn (by decide) h0))) (fl_lsn (by decide) (fl_lsn (by decide) (fl_lsn (by decide) h1))) (fl_lsn (by decide) (fl_lse hl28)) (fl_lsn (by decide) (fl_lsn (by decide) (fl_lse hl27))) (fl_lse hl39))))))))))))))))))))))))))))))))))))
theorem ve_Tape_read_58_20 {X : Term} {xs : List Int32} {N : Nat} {H : fl_H} {Q : Option Int → fl_H → Prop} (W : hd_Tape_read_58_20_7 (cm_pg X xs) N H 0 1 1 Q)  : ck (cm_pg X xs) N cm_m78 [.index 58, .index 20] H Q :=
  vt_iconst rfl
 (vt_istore_n rfl
 (vt_iconst rfl
 (vt_istore_n rfl
 (vt_iconst rfl
 (vt_istore rfl
 (W _ rfl rfl rfl rfl rfl))))))
theorem ve_Tape_skip_58 {X : Term} {xs : List Int32} {N : Nat} {H : fl_H} {a1 : Int} {Q : Option Int → fl_H → Prop} (W : ∀ m, m < N → ck (cm_pg X xs) m cm_m85 [.index 58] H (fun r H1 => ∃ x3, r = some x3 ∧ ((fl_w x3 = fl_w a1 → ∀ H5, H5 = fl_up H1 58 2 ((H1 58 2) + 1) → (Q none H5)) ∧ (¬ fl_w x3 = fl_w a1 → ∀ m, m < N → ck (cm_pg X xs) m cm_m86 [.index 58] H1 (fun r H7 => r = none ∧ (Q none H7))))))  : ck (cm_pg X xs) N cm_m88 [.index 58, fl_t a1] H Q :=
  vt_aload_n rfl rfl rfl
 (vt_callV rfl rfl (fun _ => rfl) (fun m hm => vt_int (W m hm) (fun x3 H1 w2 => vt_iload_n rfl rfl
 (vt_icmpN rfl (fun hc4 => vt_aload_n rfl rfl rfl
 (vt_callV rfl rfl (fun _ => rfl) (fun m hm => vt_void ((w2.2 hc4) m hm) (fun H7 w8 => vt_retv rfl w8)))) (fun hc4 => vt_aload_n rfl rfl rfl
 (vt_mv (fun _ _ => rfl)
 (vt_getf rfl rfl rfl
 (vt_iconst rfl
 (vt_iadd rfl
 (vt_putf rfl rfl rfl (vt_nm (fun H5 e6 => vt_goto rfl
 (vt_retv rfl ((w2.1 hc4) H5 e6))))))))))))))
theorem ve_Tape_clause_58_20 {X : Term} {xs : List Int32} {N : Nat} {H : fl_H} {Q : Option Int → fl_H → Prop} (W : ∀ m, m < N → ck (cm_pg X xs) m cm_m85 [.index 58] H (fun r H1 => ∃ x3, r = some x3 ∧ ((fl_w x3 = 112 → ∀ m, m < N → ck (cm_pg X xs) m cm_m80 [.index 58, .index 20] H1 (fun r H5 => ∃ x7, r = some x7 ∧ (Q (some x7) H5))) ∧ (¬ fl_w x3 = 112 → (fl_w x3 = 103 → ∀ m, m < N → ck (cm_pg X xs) m cm_m81 [.index 58, .index 20] H1 (fun r H9 => ∃ x11, r = some x11 ∧ (Q (some x11) H9))) ∧ (¬ fl_w x3 = 103 → ∀ m, m < N → ck (cm_pg X xs) m cm_m83 [.index 58, .index 20] H1 (fun r H12 => ∃ x14, r = some x14 ∧ (Q (some x14) H12)))))))  : ck (cm_pg X xs) N cm_m79 [.index 58, .index 20] H Q :=
  vt_aload_n rfl rfl rfl
 (vt_callV rfl rfl (fun _ => rfl) (fun m hm => vt_int (W m hm) (fun x3 H1 w2 => vt_istore_n rfl
 (vt_iload_n rfl rfl
 (vt_bipush (v := 112) rfl (by decide)
 (vt_icmpN rfl (fun hc4 => vt_iload_n rfl rfl
 (vt_bipush (v := 103) rfl (by decide)
 (vt_icmpN rfl (fun hc8 => vt_aload_n rfl rfl rfl
 (vt_aload_n rfl rfl rfl
 (vt_callV rfl rfl (fun _ => rfl) (fun m hm => vt_int (((w2.2 hc4).2 hc8) m hm) (fun x14 H12 w13 => vt_ret rfl w13))))) (fun hc8 => vt_aload_n rfl rfl rfl
 (vt_aload_n rfl rfl rfl
 (vt_callV rfl rfl (fun _ => rfl) (fun m hm => vt_int (((w2.2 hc4).1 hc8) m hm) (fun x11 H9 w10 => vt_ret rfl w10)))))))) (fun hc4 => vt_aload_n rfl rfl rfl
 (vt_aload_n rfl rfl rfl
 (vt_callV rfl rfl (fun _ => rfl) (fun m hm => vt_int ((w2.1 hc4) m hm) (fun x7 H5 w6 => vt_ret rfl w6)))))))))))
theorem ve_Tape_aBond_58_20 {X : Term} {xs : List Int32} {N : Nat} {H : fl_H} {Q : Option Int → fl_H → Prop} (W : ∀ m, m < N → ck (cm_pg X xs) m cm_m84 [.index 58, fl_t (H 22 0), fl_t (-1)] H (fun r H1 => ∃ x3, r = some x3 ∧ (∀ m, m < N → ck (cm_pg X xs) m cm_m84 [.index 58, fl_t (H1 22 0), fl_t x3] H1 (fun r H4 => ∃ x6, r = some x6 ∧ (∀ m, m < N → ck (cm_pg X xs) m cm_m89 [.index 58, .string "" 7] H4 (fun r H7 => ∃ x9, r = some x9 ∧ (((2 < fl_w x9) → (fl_w (H7 58 3) = (-1) → ∀ m, m < N → ck (cm_pg X xs) m cm_m4 [.index 28, fl_t x9, fl_t x3, fl_t x6, fl_t 0] H7 (fun r H12 => ∃ x14, r = some x14 ∧ (Q (some x14) H12))) ∧ (¬ fl_w (H7 58 3) = (-1) → Q (some 0) H7)) ∧ (¬ (2 < fl_w x9) → ∀ m, m < N → ck (cm_pg X xs) m cm_m89 [.index 58, .string "" 8] H7 (fun r H15 => ∃ x17, r = some x17 ∧ ((fl_w x17 = 0 → ∀ m, m < N → ck (cm_pg X xs) m cm_m90 [.index 58, fl_t 99] H15 (fun r H19 => ∃ x21, r = some x21 ∧ ((fl_w (H19 58 3) = (-1) → ∀ m, m < N → ck (cm_pg X xs) m cm_m4 [.index 28, fl_t x9, fl_t x3, fl_t x6, fl_t (1 * x21)] H19 (fun r H23 => ∃ x25, r = some x25 ∧ (Q (some x25) H23))) ∧ (¬ fl_w (H19 58 3) = (-1) → Q (some 0) H19)))) ∧ (¬ fl_w x17 = 0 → ∀ m, m < N → ck (cm_pg X xs) m cm_m90 [.index 58, fl_t 99] H15 (fun r H26 => ∃ x28, r = some x28 ∧ ((fl_w (H26 58 3) = (-1) → ∀ m, m < N → ck (cm_pg X xs) m cm_m4 [.index 28, fl_t x9, fl_t x3, fl_t x6, fl_t ((-1) * x28)] H26 (fun r H30 => ∃ x32, r = some x32 ∧ (Q (some x32) H30))) ∧ (¬ fl_w (H26 58 3) = (-1) → Q (some 0) H26))))))))))))))  : ck (cm_pg X xs) N cm_m83 [.index 58, .index 20] H Q :=
  vt_aload_n rfl rfl rfl
 (vt_aload_n rfl rfl rfl
 (vt_getr rfl rfl rfl
 (vt_getf rfl rfl rfl
 (vt_iconst rfl
 (vt_callV rfl rfl (fun _ => rfl) (fun m hm => vt_int (W m hm) (fun x3 H1 w2 => vt_istore_n rfl
 (vt_aload_n rfl rfl rfl
 (vt_aload_n rfl rfl rfl
 (vt_getr rfl rfl rfl
 (vt_getf rfl rfl rfl
 (vt_iload_n rfl rfl
 (vt_callV rfl rfl (fun _ => rfl) (fun m hm => vt_int (w2 m hm) (fun x6 H4 w5 => vt_istore_n rfl
 (vt_aload_n rfl rfl rfl
 (vt_ldcS rfl
 (vt_callV rfl rfl (fun _ => rfl) (fun m hm => vt_int (w5 m hm) (fun x9 H7 w8 => vt_istore rfl
 (vt_iconst rfl
 (vt_istore rfl
 (vt_iload rfl rfl
 (vt_iconst rfl
 (vt_icmp rfl (fun hc10 => vt_aload_n rfl rfl rfl
 (vt_getf rfl rfl rfl
 (vt_iconst rfl
 (vt_icmpN rfl (fun hc11 => vt_iconst rfl
 (vt_ret rfl ((w8.1 hc10).2 hc11))) (fun hc11 => vt_aload_n rfl rfl rfl
 (vt_getr rfl rfl rfl
 (vt_iload rfl rfl
 (vt_iload_n rfl rfl
 (vt_iload_n rfl rfl
 (vt_iload rfl rfl
 (vt_callV rfl rfl (fun _ => rfl) (fun m hm => vt_int (((w8.1 hc10).1 hc11) m hm) (fun x14 H12 w13 => vt_goto rfl
 (vt_ret rfl w13)))))))))))))) (fun hc10 => vt_aload_n rfl rfl rfl
 (vt_ldcS rfl
 (vt_callV rfl rfl (fun _ => rfl) (fun m hm => vt_int ((w8.2 hc10) m hm) (fun x17 H15 w16 => vt_ifcN rfl (fun hc18 => vt_iconst rfl
 (vt_istore rfl
 (vt_iload rfl rfl
 (vt_aload_n rfl rfl rfl
 (vt_bipush (v := 99) rfl (by decide)
 (vt_callV rfl rfl (fun _ => rfl) (fun m hm => vt_int ((w16.2 hc18) m hm) (fun x28 H26 w27 => vt_imul rfl
 (vt_istore rfl
 (vt_aload_n rfl rfl rfl
 (vt_getf rfl rfl rfl
 (vt_iconst rfl
 (vt_icmpN rfl (fun hc29 => vt_iconst rfl
 (vt_ret rfl (w27.2 hc29))) (fun hc29 => vt_aload_n rfl rfl rfl
 (vt_getr rfl rfl rfl
 (vt_iload rfl rfl
 (vt_iload_n rfl rfl
 (vt_iload_n rfl rfl
 (vt_iload rfl rfl
 (vt_callV rfl rfl (fun _ => rfl) (fun m hm => vt_int ((w27.1 hc29) m hm) (fun x32 H30 w31 => vt_goto rfl
 (vt_ret rfl w31))))))))))))))))))))))) (fun hc18 => vt_iconst rfl
 (vt_goto rfl
 (vt_istore rfl
 (vt_iload rfl rfl
 (vt_aload_n rfl rfl rfl
 (vt_bipush (v := 99) rfl (by decide)
 (vt_callV rfl rfl (fun _ => rfl) (fun m hm => vt_int ((w16.1 hc18) m hm) (fun x21 H19 w20 => vt_imul rfl
 (vt_istore rfl
 (vt_aload_n rfl rfl rfl
 (vt_getf rfl rfl rfl
 (vt_iconst rfl
 (vt_icmpN rfl (fun hc22 => vt_iconst rfl
 (vt_ret rfl (w20.2 hc22))) (fun hc22 => vt_aload_n rfl rfl rfl
 (vt_getr rfl rfl rfl
 (vt_iload rfl rfl
 (vt_iload_n rfl rfl
 (vt_iload_n rfl rfl
 (vt_iload rfl rfl
 (vt_callV rfl rfl (fun _ => rfl) (fun m hm => vt_int ((w20.1 hc22) m hm) (fun x25 H23 w24 => vt_goto rfl
 (vt_ret rfl w24))))))))))))))))))))))))))))))))))))))))))))))))))))))
def hd_Tape_number_58_23 (P : cm_G) (N : Nat) (H : fl_H) (a1 : Int) (a2 : Int) (a3 : Int) (Q : Option Int → fl_H → Prop) : Prop := ∀ lv : cm_Lv, cm_nth lv 0 = some (some (.index 58)) → cm_nth lv 1 = some (some (fl_t a1)) → cm_nth lv 2 = some (some (fl_t a2)) → cm_nth lv 3 = some (some (fl_t a3)) → vt P N cm_m90 23 lv [] H Q
theorem vh_Tape_number_58_23 {X : Term} {xs : List Int32} {N : Nat} {H : fl_H} {a1 : Int} {a2 : Int} {a3 : Int} {Q : Option Int → fl_H → Prop} (W : ((fl_w (H 58 1) ≤ fl_w (H 58 2)) → ((fl_w a3 ≤ fl_w a1) → Q (some a3) H) ∧ (¬ (fl_w a3 ≤ fl_w a1) → ∀ m, m < N → ck (cm_pg X xs) m cm_m87 [.index 58, fl_t a2] H (fun r H3 => r = none ∧ (Q (some a3) H3)))) ∧ (¬ (fl_w (H 58 1) ≤ fl_w (H 58 2)) → (0 ≤ fl_w (H 58 2) ∧ fl_w (H 58 2) < 120 → ((48 ≤ fl_w (H 59 (fl_w (H 58 2)).toNat) ∧ fl_w (H 59 (fl_w (H 58 2)).toNat) ≤ 57) → (0 ≤ fl_w (H 58 2) ∧ fl_w (H 58 2) < 120 → ∀ H9, H9 = fl_up H 58 2 ((H 58 2) + 1) → (∀ m, m < N → hd_Tape_number_58_23 (cm_pg X xs) m H9 a1 a2 (min (fl_w (((10 * a3) + (H 59 (fl_w (H 58 2)).toNat)) - 48)) (fl_w 1000)) Q))) ∧ (¬ (48 ≤ fl_w (H 59 (fl_w (H 58 2)).toNat) ∧ fl_w (H 59 (fl_w (H 58 2)).toNat) ≤ 57) → ((fl_w a3 ≤ fl_w a1) → Q (some a3) H) ∧ (¬ (fl_w a3 ≤ fl_w a1) → ∀ m, m < N → ck (cm_pg X xs) m cm_m87 [.index 58, fl_t a2] H (fun r H12 => r = none ∧ (Q (some a3) H12))))))) : hd_Tape_number_58_23 (cm_pg X xs) N H a1 a2 a3 Q :=
 fun lv h0 h1 h2 h3 =>
 vt_aload_n rfl h0 rfl
 (vt_getf rfl rfl rfl
 (vt_aload_n rfl h0 rfl
 (vt_getf rfl rfl rfl
 (vt_icmp rfl (fun hc1 => vt_iload_n rfl h3
 (vt_iload_n rfl h1
 (vt_icmp rfl (fun hc2 => vt_iload_n rfl h3
 (vt_ret rfl ((W.1 hc1).1 hc2))) (fun hc2 => vt_aload_n rfl h0 rfl
 (vt_iload_n rfl h2
 (vt_callV rfl rfl (fun _ => rfl) (fun m hm => vt_void (((W.1 hc1).2 hc2) m hm) (fun H3 w4 => vt_iload_n rfl h3
 (vt_ret rfl w4))))))))) (fun hc1 => vt_aload_n rfl h0 rfl
 (vt_getr rfl rfl rfl
 (vt_aload_n rfl h0 rfl
 (vt_getf rfl rfl rfl
 (vt_bald rfl rfl (fun hf5 => vt_callS rfl rfl (fun _ => rfl) (fun _ _ => vt_sum (sm_fig)
 (vt_ifb rfl (fun hc6 => vt_bipush (v := 10) rfl (by decide)
 (vt_iload_n rfl h3
 (vt_imul rfl
 (vt_aload_n rfl h0 rfl
 (vt_getr rfl rfl rfl
 (vt_aload_n rfl h0 rfl
 (vt_getf rfl rfl rfl
 (vt_bald rfl rfl (fun hf7 => vt_iadd rfl
 (vt_bipush (v := 48) rfl (by decide)
 (vt_isub rfl
 (vt_sipush (v := 1000) rfl (by decide)
 (vt_min rfl
 (vt_istore_nA rfl (fun hl8 => vt_aload_n rfl (fl_lsn (by decide) h0) rfl
 (vt_mv (fun _ _ => rfl)
 (vt_getf rfl rfl rfl
 (vt_iconst rfl
 (vt_iadd rfl
 (vt_putf rfl rfl rfl (vt_nm (fun H9 e10 => vt_gotoS rfl (fun m hm => ((((((W.2 hc1) hf5).1 hc6) hf7) H9 e10) m hm) _ (fl_lsn (by decide) h0) (fl_lsn (by decide) h1) (fl_lsn (by decide) h2) (fl_lse hl8)))))))))))))))))))))))) (fun hc6 => vt_iload_n rfl h3
 (vt_iload_n rfl h1
 (vt_icmp rfl (fun hc11 => vt_iload_n rfl h3
 (vt_ret rfl ((((W.2 hc1) hf5).2 hc6).1 hc11))) (fun hc11 => vt_aload_n rfl h0 rfl
 (vt_iload_n rfl h2
 (vt_callV rfl rfl (fun _ => rfl) (fun m hm => vt_void (((((W.2 hc1) hf5).2 hc6).2 hc11) m hm) (fun H12 w13 => vt_iload_n rfl h3
 (vt_ret rfl w13)))))))))))))))))))))
theorem ve_Tape_number_58 {X : Term} {xs : List Int32} {N : Nat} {H : fl_H} {a1 : Int} {Q : Option Int → fl_H → Prop} (W : ∀ m, m < N → ck (cm_pg X xs) m cm_m85 [.index 58] H (fun r H1 => ∃ x3, r = some x3 ∧ (((48 ≤ fl_w x3 ∧ fl_w x3 ≤ 57) → hd_Tape_number_58_23 (cm_pg X xs) N H1 a1 (H1 58 2) 0 Q) ∧ (¬ (48 ≤ fl_w x3 ∧ fl_w x3 ≤ 57) → ∀ m, m < N → ck (cm_pg X xs) m cm_m86 [.index 58] H1 (fun r H5 => r = none ∧ (Q (some 0) H5))))))  : ck (cm_pg X xs) N cm_m90 [.index 58, fl_t a1] H Q :=
  vt_aload_n rfl rfl rfl
 (vt_callV rfl rfl (fun _ => rfl) (fun m hm => vt_int (W m hm) (fun x3 H1 w2 => vt_callS rfl rfl (fun _ => rfl) (fun _ _ => vt_sum (sm_fig)
 (vt_ifn rfl (fun hc4 => vt_aload_n rfl rfl rfl
 (vt_getf rfl rfl rfl
 (vt_istore_n rfl
 (vt_iconst rfl
 (vt_istore_n rfl
 ((w2.1 hc4) _ rfl rfl rfl rfl)))))) (fun hc4 => vt_aload_n rfl rfl rfl
 (vt_callV rfl rfl (fun _ => rfl) (fun m hm => vt_void ((w2.2 hc4) m hm) (fun H5 w6 => vt_iconst rfl
 (vt_ret rfl w6))))))))))
theorem ve_Tape_failAt_58 {X : Term} {xs : List Int32} {N : Nat} {H : fl_H} {a1 : Int} {Q : Option Int → fl_H → Prop} (W : (fl_w (H 58 3) = (-1) → ∀ H2, H2 = fl_up H 58 3 a1 → (Q none H2)) ∧ (¬ fl_w (H 58 3) = (-1) → Q none H))  : ck (cm_pg X xs) N cm_m87 [.index 58, fl_t a1] H Q :=
  vt_aload_n rfl rfl rfl
 (vt_getf rfl rfl rfl
 (vt_iconst rfl
 (vt_icmpN rfl (fun hc1 => vt_retv rfl (W.2 hc1)) (fun hc1 => vt_aload_n rfl rfl rfl
 (vt_iload_n rfl rfl
 (vt_putf rfl rfl rfl (vt_nm (fun H2 e3 => vt_retv rfl ((W.1 hc1) H2 e3)))))))))
def hd_Tape_oneOf_58_s8_7 (P : cm_G) (N : Nat) (H : fl_H) (a2 : Int) (a3 : Int) (Q : Option Int → fl_H → Prop) : Prop := ∀ lv : cm_Lv, cm_nth lv 0 = some (some (.index 58)) → cm_nth lv 1 = some (some (.string "" 8)) → cm_nth lv 2 = some (some (fl_t a2)) → cm_nth lv 3 = some (some (fl_t a3)) → vt P N cm_m89 7 lv [] H Q
theorem vh_Tape_oneOf_58_s8_7 {X : Term} {xs : List Int32} {N : Nat} {H : fl_H} {a2 : Int} {a3 : Int} {Q : Option Int → fl_H → Prop} (W : ((2 ≤ fl_w a3) → ∀ m, m < N → ck (cm_pg X xs) m cm_m86 [.index 58] H (fun r H2 => r = none ∧ (Q (some 0) H2))) ∧ (¬ (2 ≤ fl_w a3) → ((fl_w (([43, 45] : List Int).getD (fl_w a3).toNat 0) = fl_w a2) → ∀ H5, H5 = fl_up H 58 2 ((H 58 2) + 1) → (Q (some a3) H5)) ∧ (¬ (fl_w (([43, 45] : List Int).getD (fl_w a3).toNat 0) = fl_w a2) → ∀ m, m < N → hd_Tape_oneOf_58_s8_7 (cm_pg X xs) m H a2 (a3 + 1) Q))) : hd_Tape_oneOf_58_s8_7 (cm_pg X xs) N H a2 a3 Q :=
 fun lv h0 h1 h2 h3 =>
 vt_iload_n rfl h3
 (vt_aload_n rfl h1 rfl
 (vt_callV rfl rfl (fun _ => rfl) (fun _ _ => vt_sum (sm_len_8)
 (vt_icmp rfl (fun hc1 => vt_aload_n rfl h0 rfl
 (vt_callV rfl rfl (fun _ => rfl) (fun m hm => vt_void ((W.1 hc1) m hm) (fun H2 w3 => vt_iconst rfl
 (vt_ret rfl w3))))) (fun hc1 => vt_aload_n rfl h1 rfl
 (vt_iload_n rfl h3
 (vt_callV rfl rfl (fun _ => rfl) (fun _ _ => vt_sum (sm_char_8)
 (vt_iload_n rfl h2
 (vt_icmp rfl (fun hc4 => vt_aload_n rfl h0 rfl
 (vt_mv (fun _ _ => rfl)
 (vt_getf rfl rfl rfl
 (vt_iconst rfl
 (vt_iadd rfl
 (vt_putf rfl rfl rfl (vt_nm (fun H5 e6 => vt_iload_n rfl h3
 (vt_ret rfl (((W.2 hc1).1 hc4) H5 e6)))))))))) (fun hc4 => vt_goto rfl
 (vt_iincA rfl h3 (fun hl7 => vt_gotoS rfl (fun m hm => (((W.2 hc1).2 hc4) m hm) _ (fl_lsn (by decide) h0) (fl_lsn (by decide) h1) (fl_lsn (by decide) h2) (fl_lse hl7)))))))))))))))
theorem ve_Tape_oneOf_58_s8 {X : Term} {xs : List Int32} {N : Nat} {H : fl_H} {Q : Option Int → fl_H → Prop} (W : ∀ m, m < N → ck (cm_pg X xs) m cm_m85 [.index 58] H (fun r H1 => ∃ x3, r = some x3 ∧ (hd_Tape_oneOf_58_s8_7 (cm_pg X xs) N H1 x3 0 Q)))  : ck (cm_pg X xs) N cm_m89 [.index 58, .string "" 8] H Q :=
  vt_aload_n rfl rfl rfl
 (vt_callV rfl rfl (fun _ => rfl) (fun m hm => vt_int (W m hm) (fun x3 H1 w2 => vt_istore_n rfl
 (vt_iconst rfl
 (vt_istore_n rfl
 (w2 _ rfl rfl rfl rfl))))))
theorem ve_Bonds_add_28 {X : Term} {xs : List Int32} {N : Nat} {H : fl_H} {a1 a2 a3 a4 : Int} {Q : Option Int → fl_H → Prop} (W : ((fl_w (H 28 0) < 12) → (0 ≤ fl_w (H 28 0) ∧ fl_w (H 28 0) < 12 → ∀ H2, H2 = fl_up H 29 (fl_w (H 28 0)).toNat a1 → (0 ≤ fl_w (H2 28 0) ∧ fl_w (H2 28 0) < 12 → ∀ H5, H5 = fl_up H2 30 (fl_w (H2 28 0)).toNat a2 → (0 ≤ fl_w (H5 28 0) ∧ fl_w (H5 28 0) < 12 → ∀ H8, H8 = fl_up H5 31 (fl_w (H5 28 0)).toNat a3 → (0 ≤ fl_w (H8 28 0) ∧ fl_w (H8 28 0) < 12 → ∀ H11, H11 = fl_up H8 32 (fl_w (H8 28 0)).toNat a4 → ∀ H14, H14 = fl_up H11 28 0 ((H11 28 0) + 1) → (Q (some (H11 28 0)) H14)))))) ∧ (¬ (fl_w (H 28 0) < 12) → Q (some (-3)) H))  : ck (cm_pg X xs) N cm_m4 [.index 28, fl_t a1, fl_t a2, fl_t a3, fl_t a4] H Q :=
  vt_aload_n rfl rfl rfl
 (vt_getf rfl rfl rfl
 (vt_bipush (v := 12) rfl (by decide)
 (vt_icmp rfl (fun hc1 => vt_aload_n rfl rfl rfl
 (vt_getr rfl rfl rfl
 (vt_aload_n rfl rfl rfl
 (vt_getf rfl rfl rfl
 (vt_iload_n rfl rfl
 (vt_iast rfl rfl (fun hf4 => vt_nm (fun H2 e3 => vt_aload_n rfl rfl rfl
 (vt_getr rfl rfl rfl
 (vt_aload_n rfl rfl rfl
 (vt_getf rfl rfl rfl
 (vt_iload_n rfl rfl
 (vt_iast rfl rfl (fun hf7 => vt_nm (fun H5 e6 => vt_aload_n rfl rfl rfl
 (vt_getr rfl rfl rfl
 (vt_aload_n rfl rfl rfl
 (vt_getf rfl rfl rfl
 (vt_iload_n rfl rfl
 (vt_iast rfl rfl (fun hf10 => vt_nm (fun H8 e9 => vt_aload_n rfl rfl rfl
 (vt_getr rfl rfl rfl
 (vt_aload_n rfl rfl rfl
 (vt_getf rfl rfl rfl
 (vt_iload rfl rfl
 (vt_iast rfl rfl (fun hf13 => vt_nm (fun H11 e12 => vt_aload_n rfl rfl rfl
 (vt_mv (fun _ _ => rfl)
 (vt_getf rfl rfl rfl
 (vt_mv (fun _ _ => rfl)
 (vt_iconst rfl
 (vt_iadd rfl
 (vt_putf rfl rfl rfl (vt_nm (fun H14 e15 => vt_ret rfl ((((((W.1 hc1) hf4 H2 e3) hf7 H5 e6) hf10 H8 e9) hf13 H11 e12) H14 e15)))))))))))))))))))))))))))))))))))))) (fun hc1 => vt_bipush (v := (-3)) rfl (by decide)
 (vt_ret rfl (W.2 hc1))))))
def hd_Tape_oneOf_58_s7_7 (P : cm_G) (N : Nat) (H : fl_H) (a2 : Int) (a3 : Int) (Q : Option Int → fl_H → Prop) : Prop := ∀ lv : cm_Lv, cm_nth lv 0 = some (some (.index 58)) → cm_nth lv 1 = some (some (.string "" 7)) → cm_nth lv 2 = some (some (fl_t a2)) → cm_nth lv 3 = some (some (fl_t a3)) → vt P N cm_m89 7 lv [] H Q
theorem vh_Tape_oneOf_58_s7_7 {X : Term} {xs : List Int32} {N : Nat} {H : fl_H} {a2 : Int} {a3 : Int} {Q : Option Int → fl_H → Prop} (W : ((6 ≤ fl_w a3) → ∀ m, m < N → ck (cm_pg X xs) m cm_m86 [.index 58] H (fun r H2 => r = none ∧ (Q (some 0) H2))) ∧ (¬ (6 ≤ fl_w a3) → ((fl_w (([111, 102, 101, 110, 118, 104] : List Int).getD (fl_w a3).toNat 0) = fl_w a2) → ∀ H5, H5 = fl_up H 58 2 ((H 58 2) + 1) → (Q (some a3) H5)) ∧ (¬ (fl_w (([111, 102, 101, 110, 118, 104] : List Int).getD (fl_w a3).toNat 0) = fl_w a2) → ∀ m, m < N → hd_Tape_oneOf_58_s7_7 (cm_pg X xs) m H a2 (a3 + 1) Q))) : hd_Tape_oneOf_58_s7_7 (cm_pg X xs) N H a2 a3 Q :=
 fun lv h0 h1 h2 h3 =>
 vt_iload_n rfl h3
 (vt_aload_n rfl h1 rfl
 (vt_callV rfl rfl (fun _ => rfl) (fun _ _ => vt_sum (sm_len_7)
 (vt_icmp rfl (fun hc1 => vt_aload_n rfl h0 rfl
 (vt_callV rfl rfl (fun _ => rfl) (fun m hm => vt_void ((W.1 hc1) m hm) (fun H2 w3 => vt_iconst rfl
 (vt_ret rfl w3))))) (fun hc1 => vt_aload_n rfl h1 rfl
 (vt_iload_n rfl h3
 (vt_callV rfl rfl (fun _ => rfl) (fun _ _ => vt_sum (sm_char_7)
 (vt_iload_n rfl h2
 (vt_icmp rfl (fun hc4 => vt_aload_n rfl h0 rfl
 (vt_mv (fun _ _ => rfl)
 (vt_getf rfl rfl rfl
 (vt_iconst rfl
 (vt_iadd rfl
 (vt_putf rfl rfl rfl (vt_nm (fun H5 e6 => vt_iload_n rfl h3
 (vt_ret rfl (((W.2 hc1).1 hc4) H5 e6)))))))))) (fun hc4 => vt_goto rfl
 (vt_iincA rfl h3 (fun hl7 => vt_gotoS rfl (fun m hm => (((W.2 hc1).2 hc4) m hm) _ (fl_lsn (by decide) h0) (fl_lsn (by decide) h1) (fl_lsn (by decide) h2) (fl_lse hl7)))))))))))))))
theorem ve_Tape_oneOf_58_s7 {X : Term} {xs : List Int32} {N : Nat} {H : fl_H} {Q : Option Int → fl_H → Prop} (W : ∀ m, m < N → ck (cm_pg X xs) m cm_m85 [.index 58] H (fun r H1 => ∃ x3, r = some x3 ∧ (hd_Tape_oneOf_58_s7_7 (cm_pg X xs) N H1 x3 0 Q)))  : ck (cm_pg X xs) N cm_m89 [.index 58, .string "" 7] H Q :=
  vt_aload_n rfl rfl rfl
 (vt_callV rfl rfl (fun _ => rfl) (fun m hm => vt_int (W m hm) (fun x3 H1 w2 => vt_istore_n rfl
 (vt_iconst rfl
 (vt_istore_n rfl
 (w2 _ rfl rfl rfl rfl))))))
theorem ve_Tape_aLetter_58 {X : Term} {xs : List Int32} {N : Nat} {H : fl_H} {a1 a2 : Int} {Q : Option Int → fl_H → Prop} (W : ∀ m, m < N → ck (cm_pg X xs) m cm_m85 [.index 58] H (fun r H1 => ∃ x3, r = some x3 ∧ (((fl_w 0 ≤ fl_w (x3 - 97) ∧ fl_w (x3 - 97) ≤ fl_w (a1 - 1)) → ((fl_w (x3 - 97) = fl_w a2) → ∀ m, m < N → ck (cm_pg X xs) m cm_m86 [.index 58] H1 (fun r H7 => r = none ∧ (Q (some 0) H7))) ∧ (¬ (fl_w (x3 - 97) = fl_w a2) → ∀ H11, H11 = fl_up H1 58 2 ((H1 58 2) + 1) → (Q (some (x3 - 97)) H11))) ∧ (¬ (fl_w 0 ≤ fl_w (x3 - 97) ∧ fl_w (x3 - 97) ≤ fl_w (a1 - 1)) → ∀ m, m < N → ck (cm_pg X xs) m cm_m86 [.index 58] H1 (fun r H15 => r = none ∧ (Q (some 0) H15))))))  : ck (cm_pg X xs) N cm_m84 [.index 58, fl_t a1, fl_t a2] H Q :=
  vt_aload_n rfl rfl rfl
 (vt_callV rfl rfl (fun _ => rfl) (fun m hm => vt_int (W m hm) (fun x3 H1 w2 => vt_bipush (v := 97) rfl (by decide)
 (vt_isub rfl
 (vt_istore_n rfl
 (vt_iload_n rfl rfl
 (vt_iconst rfl
 (vt_iload_n rfl rfl
 (vt_iconst rfl
 (vt_isub rfl
 (vt_callS rfl rfl (fun _ => rfl) (fun _ _ => vt_sum (sm_within)
 (vt_ifb rfl (fun hc4 => vt_iload_n rfl rfl
 (vt_iload_n rfl rfl
 (vt_icmp rfl (fun hc5 => vt_iconst rfl
 (vt_istore rfl
 (vt_iload rfl rfl
 (vt_ifc (a := 0) rfl (fun _ => vt_aload_n rfl rfl rfl
 (vt_callV rfl rfl (fun _ => rfl) (fun m hm => vt_void (((w2.1 hc4).1 hc5) m hm) (fun H7 w8 => vt_iload rfl rfl
 (vt_ifc (a := 0) rfl (fun _ => vt_iconst rfl
 (vt_ret rfl w8)) (fun hc9 => by exact absurd (show (0 : Int) = 0 by decide) hc9)))))) (fun hc6 => by exact absurd (show (0 : Int) = 0 by decide) hc6))))) (fun hc5 => vt_iconst rfl
 (vt_goto rfl
 (vt_istore rfl
 (vt_iload rfl rfl
 (vt_ifc (a := 1) rfl (fun hc10 => by exact absurd (show (1 : Int) = 0 from hc10) (by decide)) (fun _ => vt_aload_n rfl rfl rfl
 (vt_mv (fun _ _ => rfl)
 (vt_getf rfl rfl rfl
 (vt_iconst rfl
 (vt_iadd rfl
 (vt_putf rfl rfl rfl (vt_nm (fun H11 e12 => vt_goto rfl
 (vt_iload rfl rfl
 (vt_ifc (a := 1) rfl (fun hc13 => by exact absurd (show (1 : Int) = 0 from hc13) (by decide)) (fun _ => vt_iload_n rfl rfl
 (vt_goto rfl
 (vt_ret rfl (((w2.1 hc4).2 hc5) H11 e12)))))))))))))))))))))) (fun hc4 => vt_iconst rfl
 (vt_istore rfl
 (vt_iload rfl rfl
 (vt_ifc (a := 0) rfl (fun _ => vt_aload_n rfl rfl rfl
 (vt_callV rfl rfl (fun _ => rfl) (fun m hm => vt_void ((w2.2 hc4) m hm) (fun H15 w16 => vt_iload rfl rfl
 (vt_ifc (a := 0) rfl (fun _ => vt_iconst rfl
 (vt_ret rfl w16)) (fun hc17 => by exact absurd (show (0 : Int) = 0 by decide) hc17)))))) (fun hc14 => by exact absurd (show (0 : Int) = 0 by decide) hc14))))))))))))))))))
theorem ve_Tape_aGood_58_20 {X : Term} {xs : List Int32} {N : Nat} {H : fl_H} {Q : Option Int → fl_H → Prop} (W : ∀ m, m < N → ck (cm_pg X xs) m cm_m88 [.index 58, fl_t 103] H (fun r H1 => r = none ∧ (∀ m, m < N → ck (cm_pg X xs) m cm_m89 [.index 58, .string "" 4] H1 (fun r H3 => ∃ x5, r = some x5 ∧ (∀ m, m < N → ck (cm_pg X xs) m cm_m89 [.index 58, .string "" 5] H3 (fun r H6 => ∃ x8, r = some x8 ∧ ((fl_w (H6 58 3) = (-1) → ∀ m, m < N → ck (cm_pg X xs) m cm_m43 [.index 22, fl_t x5, fl_t x8] H6 (fun r H10 => ∃ x12, r = some x12 ∧ (∀ m, m < N → ck (cm_pg X xs) m cm_m82 [.index 58, .index 20, fl_t x12, fl_t 0] H10 (fun r H13 => r = none ∧ (∀ m, m < N → ck (cm_pg X xs) m cm_m88 [.index 58, fl_t 44] H13 (fun r H15 => r = none ∧ (∀ m, m < N → ck (cm_pg X xs) m cm_m82 [.index 58, .index 20, fl_t x12, fl_t 1] H15 (fun r H17 => r = none ∧ (Q (some x12) H17))))))))) ∧ (¬ fl_w (H6 58 3) = (-1) → ∀ m, m < N → ck (cm_pg X xs) m cm_m82 [.index 58, .index 20, fl_t 0, fl_t 0] H6 (fun r H19 => r = none ∧ (∀ m, m < N → ck (cm_pg X xs) m cm_m88 [.index 58, fl_t 44] H19 (fun r H21 => r = none ∧ (∀ m, m < N → ck (cm_pg X xs) m cm_m82 [.index 58, .index 20, fl_t 0, fl_t 1] H21 (fun r H23 => r = none ∧ (Q (some 0) H23))))))))))))))  : ck (cm_pg X xs) N cm_m81 [.index 58, .index 20] H Q :=
  vt_aload_n rfl rfl rfl
 (vt_bipush (v := 103) rfl (by decide)
 (vt_callV rfl rfl (fun _ => rfl) (fun m hm => vt_void (W m hm) (fun H1 w2 => vt_aload_n rfl rfl rfl
 (vt_ldcS rfl
 (vt_callV rfl rfl (fun _ => rfl) (fun m hm => vt_int (w2 m hm) (fun x5 H3 w4 => vt_istore_n rfl
 (vt_aload_n rfl rfl rfl
 (vt_ldcS rfl
 (vt_callV rfl rfl (fun _ => rfl) (fun m hm => vt_int (w4 m hm) (fun x8 H6 w7 => vt_istore_n rfl
 (vt_aload_n rfl rfl rfl
 (vt_getf rfl rfl rfl
 (vt_iconst rfl
 (vt_icmpN rfl (fun hc9 => vt_iconst rfl
 (vt_istore rfl
 (vt_aload_n rfl rfl rfl
 (vt_aload_n rfl rfl rfl
 (vt_iload rfl rfl
 (vt_iconst rfl
 (vt_callV rfl rfl (fun _ => rfl) (fun m hm => vt_void ((w7.2 hc9) m hm) (fun H19 w20 => vt_aload_n rfl rfl rfl
 (vt_bipush (v := 44) rfl (by decide)
 (vt_callV rfl rfl (fun _ => rfl) (fun m hm => vt_void (w20 m hm) (fun H21 w22 => vt_aload_n rfl rfl rfl
 (vt_aload_n rfl rfl rfl
 (vt_iload rfl rfl
 (vt_iconst rfl
 (vt_callV rfl rfl (fun _ => rfl) (fun m hm => vt_void (w22 m hm) (fun H23 w24 => vt_iload rfl rfl
 (vt_ret rfl w24)))))))))))))))))))) (fun hc9 => vt_aload_n rfl rfl rfl
 (vt_getr rfl rfl rfl
 (vt_iload_n rfl rfl
 (vt_iload_n rfl rfl
 (vt_callV rfl rfl (fun _ => rfl) (fun m hm => vt_int ((w7.1 hc9) m hm) (fun x12 H10 w11 => vt_goto rfl
 (vt_istore rfl
 (vt_aload_n rfl rfl rfl
 (vt_aload_n rfl rfl rfl
 (vt_iload rfl rfl
 (vt_iconst rfl
 (vt_callV rfl rfl (fun _ => rfl) (fun m hm => vt_void (w11 m hm) (fun H13 w14 => vt_aload_n rfl rfl rfl
 (vt_bipush (v := 44) rfl (by decide)
 (vt_callV rfl rfl (fun _ => rfl) (fun m hm => vt_void (w14 m hm) (fun H15 w16 => vt_aload_n rfl rfl rfl
 (vt_aload_n rfl rfl rfl
 (vt_iload rfl rfl
 (vt_iconst rfl
 (vt_callV rfl rfl (fun _ => rfl) (fun m hm => vt_void (w16 m hm) (fun H17 w18 => vt_iload rfl rfl
 (vt_ret rfl w18)))))))))))))))))))))))))))))))))))))))))))
theorem ve_Tape_aSize_58_20 {X : Term} {xs : List Int32} {N : Nat} {H : fl_H} {a2 a3 : Int} {Q : Option Int → fl_H → Prop} (W : ∀ m, m < N → ck (cm_pg X xs) m cm_m89 [.index 58, .string "" 6] H (fun r H1 => ∃ x3, r = some x3 ∧ (∀ m, m < N → ck (cm_pg X xs) m cm_m88 [.index 58, fl_t 120] H1 (fun r H4 => r = none ∧ (∀ m, m < N → ck (cm_pg X xs) m cm_m89 [.index 58, .string "" 6] H4 (fun r H6 => ∃ x8, r = some x8 ∧ (∀ m, m < N → ck (cm_pg X xs) m cm_m88 [.index 58, fl_t 61] H6 (fun r H9 => r = none ∧ (∀ m, m < N → ck (cm_pg X xs) m cm_m90 [.index 58, fl_t 999] H9 (fun r H11 => ∃ x13, r = some x13 ∧ ((fl_w (H11 58 3) = (-1) → ((fl_w a2 < 0) → Q none H11) ∧ (¬ (fl_w a2 < 0) → ∀ m, m < N → ck (cm_pg X xs) m cm_m44 [.index 22, fl_t a2, fl_t a3, fl_t (x3 + 1), fl_t (x8 + 1), fl_t x13] H11 (fun r H16 => r = none ∧ (Q none H16)))) ∧ (¬ fl_w (H11 58 3) = (-1) → Q none H11))))))))))))  : ck (cm_pg X xs) N cm_m82 [.index 58, .index 20, fl_t a2, fl_t a3] H Q :=
  vt_aload_n rfl rfl rfl
 (vt_ldcS rfl
 (vt_callV rfl rfl (fun _ => rfl) (fun m hm => vt_int (W m hm) (fun x3 H1 w2 => vt_iconst rfl
 (vt_iadd rfl
 (vt_istore rfl
 (vt_aload_n rfl rfl rfl
 (vt_bipush (v := 120) rfl (by decide)
 (vt_callV rfl rfl (fun _ => rfl) (fun m hm => vt_void (w2 m hm) (fun H4 w5 => vt_aload_n rfl rfl rfl
 (vt_ldcS rfl
 (vt_callV rfl rfl (fun _ => rfl) (fun m hm => vt_int (w5 m hm) (fun x8 H6 w7 => vt_iconst rfl
 (vt_iadd rfl
 (vt_istore rfl
 (vt_aload_n rfl rfl rfl
 (vt_bipush (v := 61) rfl (by decide)
 (vt_callV rfl rfl (fun _ => rfl) (fun m hm => vt_void (w7 m hm) (fun H9 w10 => vt_aload_n rfl rfl rfl
 (vt_sipush (v := 999) rfl (by decide)
 (vt_callV rfl rfl (fun _ => rfl) (fun m hm => vt_int (w10 m hm) (fun x13 H11 w12 => vt_istore rfl
 (vt_aload_n rfl rfl rfl
 (vt_getf rfl rfl rfl
 (vt_iconst rfl
 (vt_icmpN rfl (fun hc14 => vt_retv rfl (w12.2 hc14)) (fun hc14 => vt_iload_n rfl rfl
 (vt_ifc rfl (fun hc15 => vt_retv rfl ((w12.1 hc14).1 hc15)) (fun hc15 => vt_aload_n rfl rfl rfl
 (vt_getr rfl rfl rfl
 (vt_iload_n rfl rfl
 (vt_iload_n rfl rfl
 (vt_iload rfl rfl
 (vt_iload rfl rfl
 (vt_iload rfl rfl
 (vt_callV rfl rfl (fun _ => rfl) (fun m hm => vt_void (((w12.1 hc14).2 hc15) m hm) (fun H16 w17 => vt_retv rfl w17))))))))))))))))))))))))))))))))))))))))))
theorem ve_Goods_measure_22 {X : Term} {xs : List Int32} {N : Nat} {H : fl_H} {a1 a2 a3 a4 a5 : Int} {Q : Option Int → fl_H → Prop} (W : (0 ≤ fl_w ((2 * a1) + a2) ∧ fl_w ((2 * a1) + a2) < 12 → ∀ H1, H1 = fl_up H 25 (fl_w ((2 * a1) + a2)).toNat a3 → (0 ≤ fl_w ((2 * a1) + a2) ∧ fl_w ((2 * a1) + a2) < 12 → ∀ H4, H4 = fl_up H1 26 (fl_w ((2 * a1) + a2)).toNat a4 → (0 ≤ fl_w ((2 * a1) + a2) ∧ fl_w ((2 * a1) + a2) < 12 → ∀ H7, H7 = fl_up H4 27 (fl_w ((2 * a1) + a2)).toNat a5 → Q none H7))))  : ck (cm_pg X xs) N cm_m44 [.index 22, fl_t a1, fl_t a2, fl_t a3, fl_t a4, fl_t a5] H Q :=
  vt_aload_n rfl rfl rfl
 (vt_getr rfl rfl rfl
 (vt_iconst rfl
 (vt_iload_n rfl rfl
 (vt_imul rfl
 (vt_iload_n rfl rfl
 (vt_iadd rfl
 (vt_iload_n rfl rfl
 (vt_iast rfl rfl (fun hf3 => vt_nm (fun H1 e2 => vt_aload_n rfl rfl rfl
 (vt_getr rfl rfl rfl
 (vt_iconst rfl
 (vt_iload_n rfl rfl
 (vt_imul rfl
 (vt_iload_n rfl rfl
 (vt_iadd rfl
 (vt_iload rfl rfl
 (vt_iast rfl rfl (fun hf6 => vt_nm (fun H4 e5 => vt_aload_n rfl rfl rfl
 (vt_getr rfl rfl rfl
 (vt_iconst rfl
 (vt_iload_n rfl rfl
 (vt_imul rfl
 (vt_iload_n rfl rfl
 (vt_iadd rfl
 (vt_iload rfl rfl
 (vt_iast rfl rfl (fun hf9 => vt_nm (fun H7 e8 => vt_retv rfl (((W hf3 H1 e2) hf6 H4 e5) hf9 H7 e8)))))))))))))))))))))))))))))))
def hd_Tape_oneOf_58_s6_7 (P : cm_G) (N : Nat) (H : fl_H) (a2 : Int) (a3 : Int) (Q : Option Int → fl_H → Prop) : Prop := ∀ lv : cm_Lv, cm_nth lv 0 = some (some (.index 58)) → cm_nth lv 1 = some (some (.string "" 6)) → cm_nth lv 2 = some (some (fl_t a2)) → cm_nth lv 3 = some (some (fl_t a3)) → vt P N cm_m89 7 lv [] H Q
theorem vh_Tape_oneOf_58_s6_7 {X : Term} {xs : List Int32} {N : Nat} {H : fl_H} {a2 : Int} {a3 : Int} {Q : Option Int → fl_H → Prop} (W : ((4 ≤ fl_w a3) → ∀ m, m < N → ck (cm_pg X xs) m cm_m86 [.index 58] H (fun r H2 => r = none ∧ (Q (some 0) H2))) ∧ (¬ (4 ≤ fl_w a3) → ((fl_w (([49, 50, 51, 52] : List Int).getD (fl_w a3).toNat 0) = fl_w a2) → ∀ H5, H5 = fl_up H 58 2 ((H 58 2) + 1) → (Q (some a3) H5)) ∧ (¬ (fl_w (([49, 50, 51, 52] : List Int).getD (fl_w a3).toNat 0) = fl_w a2) → ∀ m, m < N → hd_Tape_oneOf_58_s6_7 (cm_pg X xs) m H a2 (a3 + 1) Q))) : hd_Tape_oneOf_58_s6_7 (cm_pg X xs) N H a2 a3 Q :=
 fun lv h0 h1 h2 h3 =>
 vt_iload_n rfl h3
 (vt_aload_n rfl h1 rfl
 (vt_callV rfl rfl (fun _ => rfl) (fun _ _ => vt_sum (sm_len_6)
 (vt_icmp rfl (fun hc1 => vt_aload_n rfl h0 rfl
 (vt_callV rfl rfl (fun _ => rfl) (fun m hm => vt_void ((W.1 hc1) m hm) (fun H2 w3 => vt_iconst rfl
 (vt_ret rfl w3))))) (fun hc1 => vt_aload_n rfl h1 rfl
 (vt_iload_n rfl h3
 (vt_callV rfl rfl (fun _ => rfl) (fun _ _ => vt_sum (sm_char_6)
 (vt_iload_n rfl h2
 (vt_icmp rfl (fun hc4 => vt_aload_n rfl h0 rfl
 (vt_mv (fun _ _ => rfl)
 (vt_getf rfl rfl rfl
 (vt_iconst rfl
 (vt_iadd rfl
 (vt_putf rfl rfl rfl (vt_nm (fun H5 e6 => vt_iload_n rfl h3
 (vt_ret rfl (((W.2 hc1).1 hc4) H5 e6)))))))))) (fun hc4 => vt_goto rfl
 (vt_iincA rfl h3 (fun hl7 => vt_gotoS rfl (fun m hm => (((W.2 hc1).2 hc4) m hm) _ (fl_lsn (by decide) h0) (fl_lsn (by decide) h1) (fl_lsn (by decide) h2) (fl_lse hl7)))))))))))))))
theorem ve_Tape_oneOf_58_s6 {X : Term} {xs : List Int32} {N : Nat} {H : fl_H} {Q : Option Int → fl_H → Prop} (W : ∀ m, m < N → ck (cm_pg X xs) m cm_m85 [.index 58] H (fun r H1 => ∃ x3, r = some x3 ∧ (hd_Tape_oneOf_58_s6_7 (cm_pg X xs) N H1 x3 0 Q)))  : ck (cm_pg X xs) N cm_m89 [.index 58, .string "" 6] H Q :=
  vt_aload_n rfl rfl rfl
 (vt_callV rfl rfl (fun _ => rfl) (fun m hm => vt_int (W m hm) (fun x3 H1 w2 => vt_istore_n rfl
 (vt_iconst rfl
 (vt_istore_n rfl
 (w2 _ rfl rfl rfl rfl))))))
theorem ve_Goods_add_22 {X : Term} {xs : List Int32} {N : Nat} {H : fl_H} {a1 a2 : Int} {Q : Option Int → fl_H → Prop} (W : ((fl_w (H 22 0) < 6) → (0 ≤ fl_w (H 22 0) ∧ fl_w (H 22 0) < 6 → ∀ H2, H2 = fl_up H 23 (fl_w (H 22 0)).toNat a1 → (0 ≤ fl_w (H2 22 0) ∧ fl_w (H2 22 0) < 6 → ∀ H5, H5 = fl_up H2 24 (fl_w (H2 22 0)).toNat a2 → ∀ m, m < N → ck (cm_pg X xs) m cm_m44 [.index 22, fl_t (H5 22 0), fl_t 0, fl_t 1, fl_t 1, fl_t 0] H5 (fun r H8 => r = none ∧ (∀ m, m < N → ck (cm_pg X xs) m cm_m44 [.index 22, fl_t (H8 22 0), fl_t 1, fl_t 1, fl_t 1, fl_t 0] H8 (fun r H10 => r = none ∧ (∀ H12, H12 = fl_up H10 22 0 ((H10 22 0) + 1) → (Q (some (H10 22 0)) H12)))))))) ∧ (¬ (fl_w (H 22 0) < 6) → Q (some (-3)) H))  : ck (cm_pg X xs) N cm_m43 [.index 22, fl_t a1, fl_t a2] H Q :=
  vt_aload_n rfl rfl rfl
 (vt_getf rfl rfl rfl
 (vt_bipush (v := 6) rfl (by decide)
 (vt_icmp rfl (fun hc1 => vt_aload_n rfl rfl rfl
 (vt_getr rfl rfl rfl
 (vt_aload_n rfl rfl rfl
 (vt_getf rfl rfl rfl
 (vt_iload_n rfl rfl
 (vt_iast rfl rfl (fun hf4 => vt_nm (fun H2 e3 => vt_aload_n rfl rfl rfl
 (vt_getr rfl rfl rfl
 (vt_aload_n rfl rfl rfl
 (vt_getf rfl rfl rfl
 (vt_iload_n rfl rfl
 (vt_iast rfl rfl (fun hf7 => vt_nm (fun H5 e6 => vt_aload_n rfl rfl rfl
 (vt_aload_n rfl rfl rfl
 (vt_getf rfl rfl rfl
 (vt_iconst rfl
 (vt_iconst rfl
 (vt_iconst rfl
 (vt_iconst rfl
 (vt_callV rfl rfl (fun _ => rfl) (fun m hm => vt_void ((((W.1 hc1) hf4 H2 e3) hf7 H5 e6) m hm) (fun H8 w9 => vt_aload_n rfl rfl rfl
 (vt_aload_n rfl rfl rfl
 (vt_getf rfl rfl rfl
 (vt_iconst rfl
 (vt_iconst rfl
 (vt_iconst rfl
 (vt_iconst rfl
 (vt_callV rfl rfl (fun _ => rfl) (fun m hm => vt_void (w9 m hm) (fun H10 w11 => vt_aload_n rfl rfl rfl
 (vt_mv (fun _ _ => rfl)
 (vt_getf rfl rfl rfl
 (vt_mv (fun _ _ => rfl)
 (vt_iconst rfl
 (vt_iadd rfl
 (vt_putf rfl rfl rfl (vt_nm (fun H12 e13 => vt_ret rfl (w11 H12 e13)))))))))))))))))))))))))))))))))))))))))) (fun hc1 => vt_bipush (v := (-3)) rfl (by decide)
 (vt_ret rfl (W.2 hc1))))))
def hd_Tape_oneOf_58_s5_7 (P : cm_G) (N : Nat) (H : fl_H) (a2 : Int) (a3 : Int) (Q : Option Int → fl_H → Prop) : Prop := ∀ lv : cm_Lv, cm_nth lv 0 = some (some (.index 58)) → cm_nth lv 1 = some (some (.string "" 5)) → cm_nth lv 2 = some (some (fl_t a2)) → cm_nth lv 3 = some (some (fl_t a3)) → vt P N cm_m89 7 lv [] H Q
theorem vh_Tape_oneOf_58_s5_7 {X : Term} {xs : List Int32} {N : Nat} {H : fl_H} {a2 : Int} {a3 : Int} {Q : Option Int → fl_H → Prop} (W : ((4 ≤ fl_w a3) → ∀ m, m < N → ck (cm_pg X xs) m cm_m86 [.index 58] H (fun r H2 => r = none ∧ (Q (some 0) H2))) ∧ (¬ (4 ≤ fl_w a3) → ((fl_w (([48, 49, 50, 51] : List Int).getD (fl_w a3).toNat 0) = fl_w a2) → ∀ H5, H5 = fl_up H 58 2 ((H 58 2) + 1) → (Q (some a3) H5)) ∧ (¬ (fl_w (([48, 49, 50, 51] : List Int).getD (fl_w a3).toNat 0) = fl_w a2) → ∀ m, m < N → hd_Tape_oneOf_58_s5_7 (cm_pg X xs) m H a2 (a3 + 1) Q))) : hd_Tape_oneOf_58_s5_7 (cm_pg X xs) N H a2 a3 Q :=
 fun lv h0 h1 h2 h3 =>
 vt_iload_n rfl h3
 (vt_aload_n rfl h1 rfl
 (vt_callV rfl rfl (fun _ => rfl) (fun _ _ => vt_sum (sm_len_5)
 (vt_icmp rfl (fun hc1 => vt_aload_n rfl h0 rfl
 (vt_callV rfl rfl (fun _ => rfl) (fun m hm => vt_void ((W.1 hc1) m hm) (fun H2 w3 => vt_iconst rfl
 (vt_ret rfl w3))))) (fun hc1 => vt_aload_n rfl h1 rfl
 (vt_iload_n rfl h3
 (vt_callV rfl rfl (fun _ => rfl) (fun _ _ => vt_sum (sm_char_5)
 (vt_iload_n rfl h2
 (vt_icmp rfl (fun hc4 => vt_aload_n rfl h0 rfl
 (vt_mv (fun _ _ => rfl)
 (vt_getf rfl rfl rfl
 (vt_iconst rfl
 (vt_iadd rfl
 (vt_putf rfl rfl rfl (vt_nm (fun H5 e6 => vt_iload_n rfl h3
 (vt_ret rfl (((W.2 hc1).1 hc4) H5 e6)))))))))) (fun hc4 => vt_goto rfl
 (vt_iincA rfl h3 (fun hl7 => vt_gotoS rfl (fun m hm => (((W.2 hc1).2 hc4) m hm) _ (fl_lsn (by decide) h0) (fl_lsn (by decide) h1) (fl_lsn (by decide) h2) (fl_lse hl7)))))))))))))))
theorem ve_Tape_oneOf_58_s5 {X : Term} {xs : List Int32} {N : Nat} {H : fl_H} {Q : Option Int → fl_H → Prop} (W : ∀ m, m < N → ck (cm_pg X xs) m cm_m85 [.index 58] H (fun r H1 => ∃ x3, r = some x3 ∧ (hd_Tape_oneOf_58_s5_7 (cm_pg X xs) N H1 x3 0 Q)))  : ck (cm_pg X xs) N cm_m89 [.index 58, .string "" 5] H Q :=
  vt_aload_n rfl rfl rfl
 (vt_callV rfl rfl (fun _ => rfl) (fun m hm => vt_int (W m hm) (fun x3 H1 w2 => vt_istore_n rfl
 (vt_iconst rfl
 (vt_istore_n rfl
 (w2 _ rfl rfl rfl rfl))))))
end
