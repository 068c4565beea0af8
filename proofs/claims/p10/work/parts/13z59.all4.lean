noncomputable section
/-! L3: runs of methods between cuts. -/
def hd_Floor_larger_64_4 (P : cm_G) (N : Nat) (H : fl_H) (a1 : Int) (a2 : Int) (a3 : Int) (Q : Option Int → fl_H → Prop) : Prop := ∀ lv : cm_Lv, cm_nth lv 0 = some (some (.index 64)) → cm_nth lv 1 = some (some (fl_t a1)) → cm_nth lv 2 = some (some (fl_t a2)) → cm_nth lv 3 = some (some (fl_t a3)) → vt P N cm_m40 4 lv [] H Q
theorem vh_Floor_larger_64_4 {X : Term} {xs : List Int32} {N : Nat} {H : fl_H} {a1 : Int} {a2 : Int} {a3 : Int} {Q : Option Int → fl_H → Prop} (W : ((6 ≤ fl_w a3) → Q (some a2) H) ∧ (¬ (6 ≤ fl_w a3) → ((fl_w (fl_and (fl_shr a1 a3) 1) = 0) → ∀ m, m < N → hd_Floor_larger_64_4 (cm_pg X xs) m H a1 a2 (a3 + 1) Q) ∧ (¬ (fl_w (fl_and (fl_shr a1 a3) 1) = 0) → (0 ≤ fl_w a3 ∧ fl_w a3 < 6 → (0 ≤ fl_w (H 68 (fl_w a3).toNat) ∧ fl_w (H 68 (fl_w a3).toNat) < 12 → (fl_w (H 67 (fl_w (H 68 (fl_w a3).toNat)).toNat) = 1 → ∀ m, m < N → hd_Floor_larger_64_4 (cm_pg X xs) m H a1 (fl_and a2 (fl_xor (fl_shl 1 a3) (-1))) (a3 + 1) Q) ∧ (¬ fl_w (H 67 (fl_w (H 68 (fl_w a3).toNat)).toNat) = 1 → ∀ m, m < N → hd_Floor_larger_64_4 (cm_pg X xs) m H a1 a2 (a3 + 1) Q)))))) : hd_Floor_larger_64_4 (cm_pg X xs) N H a1 a2 a3 Q :=
 fun lv h0 h1 h2 h3 =>
 vt_iload_n rfl h3
 (vt_bipush (v := 6) rfl (by decide)
 (vt_icmp rfl (fun hc1 => vt_iload_n rfl h2
 (vt_ret rfl (W.1 hc1))) (fun hc1 => vt_iload_n rfl h1
 (vt_iload_n rfl h3
 (vt_ishr rfl
 (vt_iconst rfl
 (vt_iand rfl
 (vt_ifc rfl (fun hc2 => vt_iincA rfl h3 (fun hl3 => vt_gotoS rfl (fun m hm => (((W.2 hc1).1 hc2) m hm) _ (fl_lsn (by decide) h0) (fl_lsn (by decide) h1) (fl_lsn (by decide) h2) (fl_lse hl3)))) (fun hc2 => vt_aload_n rfl h0 rfl
 (vt_getr rfl rfl rfl
 (vt_aload_n rfl h0 rfl
 (vt_getr rfl rfl rfl
 (vt_iload_n rfl h3
 (vt_iald rfl rfl (fun hf4 => vt_iald rfl rfl (fun hf5 => vt_iconst rfl
 (vt_icmpN rfl (fun hc6 => vt_iincA rfl h3 (fun hl9 => vt_gotoS rfl (fun m hm => ((((((W.2 hc1).2 hc2) hf4) hf5).2 hc6) m hm) _ (fl_lsn (by decide) h0) (fl_lsn (by decide) h1) (fl_lsn (by decide) h2) (fl_lse hl9)))) (fun hc6 => vt_iload_n rfl h2
 (vt_iconst rfl
 (vt_iload_n rfl h3
 (vt_ishl rfl
 (vt_iconst rfl
 (vt_ixor rfl
 (vt_iand rfl
 (vt_istore_nA rfl (fun hl7 => vt_iincA rfl (fl_lsn (by decide) h3) (fun hl8 => vt_gotoS rfl (fun m hm => ((((((W.2 hc1).2 hc2) hf4) hf5).1 hc6) m hm) _ (fl_lsn (by decide) (fl_lsn (by decide) h0)) (fl_lsn (by decide) (fl_lsn (by decide) h1)) (fl_lsn (by decide) (fl_lse hl7)) (fl_lse hl8)))))))))))))))))))))))))))))
theorem ve_Floor_larger_64 {X : Term} {xs : List Int32} {N : Nat} {H : fl_H} {a1 : Int} {Q : Option Int → fl_H → Prop} (W : hd_Floor_larger_64_4 (cm_pg X xs) N H a1 a1 0 Q)  : ck (cm_pg X xs) N cm_m40 [.index 64, fl_t a1] H Q :=
  vt_iload_n rfl rfl
 (vt_istore_n rfl
 (vt_iconst rfl
 (vt_istore_n rfl
 (W _ rfl rfl rfl rfl))))
def hd_Floor_pick_64_7 (P : cm_G) (N : Nat) (H : fl_H) (a2 : Int) (a3 : Int) (a4 : Int) (Q : Option Int → fl_H → Prop) : Prop := ∀ lv : cm_Lv, cm_nth lv 0 = some (some (.index 64)) → cm_nth lv 2 = some (some (fl_t a2)) → cm_nth lv 3 = some (some (fl_t a3)) → cm_nth lv 4 = some (some (fl_t a4)) → vt P N cm_m39 7 lv [] H Q
theorem vh_Floor_pick_64_7 {X : Term} {xs : List Int32} {N : Nat} {H : fl_H} {a2 : Int} {a3 : Int} {a4 : Int} {Q : Option Int → fl_H → Prop} (W : ((6 ≤ fl_w a4) → Q (some a2) H) ∧ (¬ (6 ≤ fl_w a4) → (fl_w (fl_rem a3 3) = 0 → ∀ m, m < N → hd_Floor_pick_64_7 (cm_pg X xs) m H a2 (fl_div a3 3) (a4 + 1) Q) ∧ (¬ fl_w (fl_rem a3 3) = 0 → (0 ≤ fl_w a4 ∧ fl_w a4 < 6 → ∀ H6, H6 = fl_up H 68 (fl_w a4).toNat (((2 * a4) + (fl_rem a3 3)) - 1) → ∀ m, m < N → hd_Floor_pick_64_7 (cm_pg X xs) m H6 (fl_or a2 (fl_shl 1 a4)) (fl_div a3 3) (a4 + 1) Q)))) : hd_Floor_pick_64_7 (cm_pg X xs) N H a2 a3 a4 Q :=
 fun lv h0 h2 h3 h4 =>
 vt_iload rfl h4
 (vt_bipush (v := 6) rfl (by decide)
 (vt_icmp rfl (fun hc1 => vt_iload_n rfl h2
 (vt_ret rfl (W.1 hc1))) (fun hc1 => vt_iload_n rfl h3
 (vt_iconst rfl
 (vt_irem rfl
 (vt_istoreA rfl (fun hl2 => vt_iload_n rfl (fl_lsn (by decide) h3)
 (vt_iconst rfl
 (vt_idiv rfl
 (vt_istore_nA rfl (fun hl3 => vt_iload rfl (fl_lsn (by decide) (fl_lse hl2))
 (vt_ifcN rfl (fun hc4 => vt_aload_n rfl (fl_lsn (by decide) (fl_lsn (by decide) h0)) rfl
 (vt_getr rfl rfl rfl
 (vt_iload rfl (fl_lsn (by decide) (fl_lsn (by decide) h4))
 (vt_iconst rfl
 (vt_iload rfl (fl_lsn (by decide) (fl_lsn (by decide) h4))
 (vt_imul rfl
 (vt_iload rfl (fl_lsn (by decide) (fl_lse hl2))
 (vt_iadd rfl
 (vt_iconst rfl
 (vt_isub rfl
 (vt_iast rfl rfl (fun hf8 => vt_nm (fun H6 e7 => vt_iload_n rfl (fl_lsn (by decide) (fl_lsn (by decide) h2))
 (vt_iconst rfl
 (vt_iload rfl (fl_lsn (by decide) (fl_lsn (by decide) h4))
 (vt_ishl rfl
 (vt_ior rfl
 (vt_istore_nA rfl (fun hl9 => vt_iincA rfl (fl_lsn (by decide) (fl_lsn (by decide) (fl_lsn (by decide) h4))) (fun hl10 => vt_gotoS rfl (fun m hm => ((((W.2 hc1).2 hc4) hf8 H6 e7) m hm) _ (fl_lsn (by decide) (fl_lsn (by decide) (fl_lsn (by decide) (fl_lsn (by decide) h0)))) (fl_lsn (by decide) (fl_lse hl9)) (fl_lsn (by decide) (fl_lsn (by decide) (fl_lse hl3))) (fl_lse hl10)))))))))))))))))))))) (fun hc4 => vt_goto rfl
 (vt_iincA rfl (fl_lsn (by decide) (fl_lsn (by decide) h4)) (fun hl5 => vt_gotoS rfl (fun m hm => (((W.2 hc1).1 hc4) m hm) _ (fl_lsn (by decide) (fl_lsn (by decide) (fl_lsn (by decide) h0))) (fl_lsn (by decide) (fl_lsn (by decide) (fl_lsn (by decide) h2))) (fl_lsn (by decide) (fl_lse hl3)) (fl_lse hl5)))))))))))))))))
theorem ve_Floor_pick_64 {X : Term} {xs : List Int32} {N : Nat} {H : fl_H} {a1 : Int} {Q : Option Int → fl_H → Prop} (W : hd_Floor_pick_64_7 (cm_pg X xs) N H 0 a1 0 Q)  : ck (cm_pg X xs) N cm_m39 [.index 64, fl_t a1] H Q :=
  vt_iconst rfl
 (vt_istore_n rfl
 (vt_iload_n rfl rfl
 (vt_istore_n rfl
 (vt_iconst rfl
 (vt_istore rfl
 (W _ rfl rfl rfl rfl))))))
theorem ve_Draft_put_69 {X : Term} {xs : List Int32} {N : Nat} {H : fl_H} {a1 a2 : Int} {Q : Option Int → fl_H → Prop} (W : (0 ≤ fl_w a1 ∧ fl_w a1 < 6 → ((fl_w (H 71 (fl_w a1).toNat) = 0) → (0 ≤ fl_w a1 ∧ fl_w a1 < 6 → ∀ H3, H3 = fl_up H 71 (fl_w a1).toNat a2 → (0 ≤ fl_w a1 ∧ fl_w a1 < 6 → ∀ H6, H6 = fl_up H3 72 (fl_w a1).toNat (-1) → (fl_w a2 = 0 → Q none H6) ∧ (¬ fl_w a2 = 0 → ∀ m, m < N → ck (cm_pg X xs) m cm_m18 [.index 69, fl_t a1, fl_t a2, fl_t 1] H6 (fun r H10 => r = none ∧ (∀ m, m < N → ck (cm_pg X xs) m cm_m136 [fl_t a2] H10 (fun r H12 => ∃ x14, r = some x14 ∧ ((0 ≤ fl_w a1 ∧ fl_w a1 < 6 → ∀ H15, H15 = fl_up H12 72 (fl_w a1).toNat x14 → ∀ m, m < N → ck (cm_pg X xs) m cm_m137 [fl_t a2] H15 (fun r H18 => ∃ x20, r = some x20 ∧ ((0 ≤ fl_w ((2 * a1) + x20) ∧ fl_w ((2 * a1) + x20) < 12 → (0 ≤ fl_w a1 ∧ fl_w a1 < 6 → (0 ≤ fl_w (H18 72 (fl_w a1).toNat) ∧ fl_w (H18 72 (fl_w a1).toNat) < 3 → (0 ≤ fl_w a1 ∧ fl_w a1 < 6 → ∀ H24, H24 = fl_up H18 73 (fl_w a1).toNat ((H18 8 (fl_w ((2 * a1) + x20)).toNat) * (H18 70 (fl_w (H18 72 (fl_w a1).toNat)).toNat)) → Q none H24))))))))))))))) ∧ (¬ (fl_w (H 71 (fl_w a1).toNat) = 0) → (0 ≤ fl_w a1 ∧ fl_w a1 < 6 → ∀ m, m < N → ck (cm_pg X xs) m cm_m18 [.index 69, fl_t a1, fl_t (H 71 (fl_w a1).toNat), fl_t (-1)] H (fun r H28 => r = none ∧ ((0 ≤ fl_w a1 ∧ fl_w a1 < 6 → ∀ H30, H30 = fl_up H28 71 (fl_w a1).toNat a2 → (0 ≤ fl_w a1 ∧ fl_w a1 < 6 → ∀ H33, H33 = fl_up H30 72 (fl_w a1).toNat (-1) → (fl_w a2 = 0 → Q none H33) ∧ (¬ fl_w a2 = 0 → ∀ m, m < N → ck (cm_pg X xs) m cm_m18 [.index 69, fl_t a1, fl_t a2, fl_t 1] H33 (fun r H37 => r = none ∧ (∀ m, m < N → ck (cm_pg X xs) m cm_m136 [fl_t a2] H37 (fun r H39 => ∃ x41, r = some x41 ∧ ((0 ≤ fl_w a1 ∧ fl_w a1 < 6 → ∀ H42, H42 = fl_up H39 72 (fl_w a1).toNat x41 → ∀ m, m < N → ck (cm_pg X xs) m cm_m137 [fl_t a2] H42 (fun r H45 => ∃ x47, r = some x47 ∧ ((0 ≤ fl_w ((2 * a1) + x47) ∧ fl_w ((2 * a1) + x47) < 12 → (0 ≤ fl_w a1 ∧ fl_w a1 < 6 → (0 ≤ fl_w (H45 72 (fl_w a1).toNat) ∧ fl_w (H45 72 (fl_w a1).toNat) < 3 → (0 ≤ fl_w a1 ∧ fl_w a1 < 6 → ∀ H51, H51 = fl_up H45 73 (fl_w a1).toNat ((H45 8 (fl_w ((2 * a1) + x47)).toNat) * (H45 70 (fl_w (H45 72 (fl_w a1).toNat)).toNat)) → Q none H51))))))))))))))))))))  : ck (cm_pg X xs) N cm_m17 [.index 69, fl_t a1, fl_t a2] H Q :=
  vt_aload_n rfl rfl rfl
 (vt_getr rfl rfl rfl
 (vt_iload_n rfl rfl
 (vt_iald rfl rfl (fun hf1 => vt_ifc rfl (fun hc2 => vt_aload_n rfl rfl rfl
 (vt_getr rfl rfl rfl
 (vt_iload_n rfl rfl
 (vt_iload_n rfl rfl
 (vt_iast rfl rfl (fun hf5 => vt_nm (fun H3 e4 => vt_aload_n rfl rfl rfl
 (vt_getr rfl rfl rfl
 (vt_iload_n rfl rfl
 (vt_iconst rfl
 (vt_iast rfl rfl (fun hf8 => vt_nm (fun H6 e7 => vt_iload_n rfl rfl
 (vt_ifcN rfl (fun hc9 => vt_aload_n rfl rfl rfl
 (vt_iload_n rfl rfl
 (vt_iload_n rfl rfl
 (vt_iconst rfl
 (vt_callV rfl rfl (fun _ => rfl) (fun m hm => vt_void ((((((W hf1).1 hc2) hf5 H3 e4) hf8 H6 e7).2 hc9) m hm) (fun H10 w11 => vt_aload_n rfl rfl rfl
 (vt_getr rfl rfl rfl
 (vt_iload_n rfl rfl
 (vt_iload_n rfl rfl
 (vt_callS rfl rfl (fun _ => rfl) (fun m hm => vt_int (w11 m hm) (fun x14 H12 w13 => vt_iast rfl rfl (fun hf17 => vt_nm (fun H15 e16 => vt_aload_n rfl rfl rfl
 (vt_getr rfl rfl rfl
 (vt_iload_n rfl rfl
 (vt_aload_n rfl rfl rfl
 (vt_getr rfl rfl rfl
 (vt_getr rfl rfl rfl
 (vt_getr rfl rfl rfl
 (vt_iconst rfl
 (vt_iload_n rfl rfl
 (vt_imul rfl
 (vt_iload_n rfl rfl
 (vt_callS rfl rfl (fun _ => rfl) (fun m hm => vt_int ((w13 hf17 H15 e16) m hm) (fun x20 H18 w19 => vt_iadd rfl
 (vt_iald rfl rfl (fun hf21 => vt_aload_n rfl rfl rfl
 (vt_getr rfl rfl rfl
 (vt_aload_n rfl rfl rfl
 (vt_getr rfl rfl rfl
 (vt_iload_n rfl rfl
 (vt_iald rfl rfl (fun hf22 => vt_iald rfl rfl (fun hf23 => vt_imul rfl
 (vt_iast rfl rfl (fun hf26 => vt_nm (fun H24 e25 => vt_retv rfl ((((w19 hf21) hf22) hf23) hf26 H24 e25))))))))))))))))))))))))))))))))))))))))) (fun hc9 => vt_retv rfl (((((W hf1).1 hc2) hf5 H3 e4) hf8 H6 e7).1 hc9)))))))))))))))) (fun hc2 => vt_aload_n rfl rfl rfl
 (vt_iload_n rfl rfl
 (vt_aload_n rfl rfl rfl
 (vt_getr rfl rfl rfl
 (vt_iload_n rfl rfl
 (vt_iald rfl rfl (fun hf27 => vt_iconst rfl
 (vt_callV rfl rfl (fun _ => rfl) (fun m hm => vt_void ((((W hf1).2 hc2) hf27) m hm) (fun H28 w29 => vt_aload_n rfl rfl rfl
 (vt_getr rfl rfl rfl
 (vt_iload_n rfl rfl
 (vt_iload_n rfl rfl
 (vt_iast rfl rfl (fun hf32 => vt_nm (fun H30 e31 => vt_aload_n rfl rfl rfl
 (vt_getr rfl rfl rfl
 (vt_iload_n rfl rfl
 (vt_iconst rfl
 (vt_iast rfl rfl (fun hf35 => vt_nm (fun H33 e34 => vt_iload_n rfl rfl
 (vt_ifcN rfl (fun hc36 => vt_aload_n rfl rfl rfl
 (vt_iload_n rfl rfl
 (vt_iload_n rfl rfl
 (vt_iconst rfl
 (vt_callV rfl rfl (fun _ => rfl) (fun m hm => vt_void ((((w29 hf32 H30 e31) hf35 H33 e34).2 hc36) m hm) (fun H37 w38 => vt_aload_n rfl rfl rfl
 (vt_getr rfl rfl rfl
 (vt_iload_n rfl rfl
 (vt_iload_n rfl rfl
 (vt_callS rfl rfl (fun _ => rfl) (fun m hm => vt_int (w38 m hm) (fun x41 H39 w40 => vt_iast rfl rfl (fun hf44 => vt_nm (fun H42 e43 => vt_aload_n rfl rfl rfl
 (vt_getr rfl rfl rfl
 (vt_iload_n rfl rfl
 (vt_aload_n rfl rfl rfl
 (vt_getr rfl rfl rfl
 (vt_getr rfl rfl rfl
 (vt_getr rfl rfl rfl
 (vt_iconst rfl
 (vt_iload_n rfl rfl
 (vt_imul rfl
 (vt_iload_n rfl rfl
 (vt_callS rfl rfl (fun _ => rfl) (fun m hm => vt_int ((w40 hf44 H42 e43) m hm) (fun x47 H45 w46 => vt_iadd rfl
 (vt_iald rfl rfl (fun hf48 => vt_aload_n rfl rfl rfl
 (vt_getr rfl rfl rfl
 (vt_aload_n rfl rfl rfl
 (vt_getr rfl rfl rfl
 (vt_iload_n rfl rfl
 (vt_iald rfl rfl (fun hf49 => vt_iald rfl rfl (fun hf50 => vt_imul rfl
 (vt_iast rfl rfl (fun hf53 => vt_nm (fun H51 e52 => vt_retv rfl ((((w46 hf48) hf49) hf50) hf53 H51 e52))))))))))))))))))))))))))))))))))))))))) (fun hc36 => vt_retv rfl (((w29 hf32 H30 e31) hf35 H33 e34).1 hc36)))))))))))))))))))))))))))))
theorem ve_GoodsBook_sizeOf {X : Term} {xs : List Int32} {N : Nat} {H : fl_H} {a0 : Int} {Q : Option Int → fl_H → Prop} (W : Q (some (fl_and (a0 - 1) 1)) H)  : ck (cm_pg X xs) N cm_m137 [fl_t a0] H Q :=
  vt_iload_n rfl rfl
 (vt_iconst rfl
 (vt_isub rfl
 (vt_iconst rfl
 (vt_iand rfl
 (vt_ret rfl W)))))
theorem ve_GoodsBook_pageOf {X : Term} {xs : List Int32} {N : Nat} {H : fl_H} {a0 : Int} {Q : Option Int → fl_H → Prop} (W : Q (some (fl_shr (a0 - 1) 1)) H)  : ck (cm_pg X xs) N cm_m136 [fl_t a0] H Q :=
  vt_iload_n rfl rfl
 (vt_iconst rfl
 (vt_isub rfl
 (vt_iconst rfl
 (vt_ishr rfl
 (vt_ret rfl W)))))
theorem ve_Draft_mark_69 {X : Term} {xs : List Int32} {N : Nat} {H : fl_H} {a1 a2 a3 : Int} {Q : Option Int → fl_H → Prop} (W : ∀ m, m < N → ck (cm_pg X xs) m cm_m136 [fl_t a2] H (fun r H1 => ∃ x3, r = some x3 ∧ (∀ m, m < N → ck (cm_pg X xs) m cm_m137 [fl_t a2] H1 (fun r H4 => ∃ x6, r = some x6 ∧ ((0 ≤ fl_w x3 ∧ fl_w x3 < 3 → (0 ≤ fl_w x3 ∧ fl_w x3 < 3 → ∀ H8, H8 = fl_up H4 74 (fl_w x3).toNat ((H4 74 (fl_w x3).toNat) + a3) → (0 ≤ fl_w x3 ∧ fl_w x3 < 3 → ∀ m, m < N → ck (cm_pg X xs) m cm_m45 [.index 3, fl_t ((2 * a1) + x6)] H8 (fun r H12 => ∃ x14, r = some x14 ∧ ((0 ≤ fl_w x3 ∧ fl_w x3 < 3 → ∀ H15, H15 = fl_up H12 75 (fl_w x3).toNat ((H8 75 (fl_w x3).toNat) + (a3 * x14)) → (0 ≤ fl_w x3 ∧ fl_w x3 < 3 → (0 ≤ fl_w a1 ∧ fl_w a1 < 6 → (0 ≤ fl_w x3 ∧ fl_w x3 < 3 → ∀ H20, H20 = fl_up H15 76 (fl_w x3).toNat ((H15 76 (fl_w x3).toNat) + ((a3 * (([1, 3, 9, 27, 81, 243] : List Int).getD (fl_w a1).toNat 0)) * (x6 + 1))) → (0 ≤ fl_w a1 ∧ fl_w a1 < 6 → (fl_w (H20 4 (fl_w a1).toNat) = 2 → (0 ≤ fl_w a1 ∧ fl_w a1 < 6 → (0 ≤ fl_w (H20 5 (fl_w a1).toNat) ∧ fl_w (H20 5 (fl_w a1).toNat) < 4 → (0 ≤ fl_w (H20 5 (fl_w a1).toNat) ∧ fl_w (H20 5 (fl_w a1).toNat) < 4 → ∀ H27, H27 = fl_up H20 77 (fl_w (H20 5 (fl_w a1).toNat)).toNat ((H20 77 (fl_w (H20 5 (fl_w a1).toNat)).toNat) + a3) → Q none H27)))) ∧ (¬ fl_w (H20 4 (fl_w a1).toNat) = 2 → Q none H20))))))))))))))))  : ck (cm_pg X xs) N cm_m18 [.index 69, fl_t a1, fl_t a2, fl_t a3] H Q :=
  vt_iload_n rfl rfl
 (vt_callS rfl rfl (fun _ => rfl) (fun m hm => vt_int (W m hm) (fun x3 H1 w2 => vt_istore rfl
 (vt_iload_n rfl rfl
 (vt_callS rfl rfl (fun _ => rfl) (fun m hm => vt_int (w2 m hm) (fun x6 H4 w5 => vt_istore rfl
 (vt_aload_n rfl rfl rfl
 (vt_getr rfl rfl rfl
 (vt_iload rfl rfl
 (vt_mv (fun _ _ => rfl)
 (vt_iald rfl rfl (fun hf7 => vt_iload_n rfl rfl
 (vt_iadd rfl
 (vt_iast rfl rfl (fun hf10 => vt_nm (fun H8 e9 => vt_aload_n rfl rfl rfl
 (vt_getr rfl rfl rfl
 (vt_iload rfl rfl
 (vt_mv (fun _ _ => rfl)
 (vt_iald rfl rfl (fun hf11 => vt_iload_n rfl rfl
 (vt_aload_n rfl rfl rfl
 (vt_getr rfl rfl rfl
 (vt_getr rfl rfl rfl
 (vt_iconst rfl
 (vt_iload_n rfl rfl
 (vt_imul rfl
 (vt_iload rfl rfl
 (vt_iadd rfl
 (vt_callV rfl rfl (fun _ => rfl) (fun m hm => vt_int ((((w5 hf7) hf10 H8 e9) hf11) m hm) (fun x14 H12 w13 => vt_imul rfl
 (vt_iadd rfl
 (vt_iast rfl rfl (fun hf17 => vt_nm (fun H15 e16 => vt_aload_n rfl rfl rfl
 (vt_getr rfl rfl rfl
 (vt_iload rfl rfl
 (vt_mv (fun _ _ => rfl)
 (vt_iald rfl rfl (fun hf18 => vt_iload_n rfl rfl
 (vt_gets rfl rfl
 (vt_iload_n rfl rfl
 (vt_iold (l := [1, 3, 9, 27, 81, 243]) rfl rfl rfl (fun hf19 => vt_imul rfl
 (vt_iload rfl rfl
 (vt_iconst rfl
 (vt_iadd rfl
 (vt_imul rfl
 (vt_iadd rfl
 (vt_iast rfl rfl (fun hf22 => vt_nm (fun H20 e21 => vt_aload_n rfl rfl rfl
 (vt_getr rfl rfl rfl
 (vt_getr rfl rfl rfl
 (vt_getr rfl rfl rfl
 (vt_iload_n rfl rfl
 (vt_iald rfl rfl (fun hf23 => vt_iconst rfl
 (vt_icmpN rfl (fun hc24 => vt_retv rfl ((((((w13 hf17 H15 e16) hf18) hf19) hf22 H20 e21) hf23).2 hc24)) (fun hc24 => vt_aload_n rfl rfl rfl
 (vt_getr rfl rfl rfl
 (vt_aload_n rfl rfl rfl
 (vt_getr rfl rfl rfl
 (vt_getr rfl rfl rfl
 (vt_getr rfl rfl rfl
 (vt_iload_n rfl rfl
 (vt_iald rfl rfl (fun hf25 => vt_mv (fun _ _ => rfl)
 (vt_iald rfl rfl (fun hf26 => vt_iload_n rfl rfl
 (vt_iadd rfl
 (vt_iast rfl rfl (fun hf29 => vt_nm (fun H27 e28 => vt_retv rfl (((((((((w13 hf17 H15 e16) hf18) hf19) hf22 H20 e21) hf23).1 hc24) hf25) hf26) hf29 H27 e28)))))))))))))))))))))))))))))))))))))))))))))))))))))))))))))))))))))))))))))
theorem ve_Search_keep_79 {X : Term} {xs : List Int32} {N : Nat} {H : fl_H} {a1 : Int} {Q : Option Int → fl_H → Prop} (W : ∀ H1, H1 = fl_up H 79 5 1 → (∀ H3, H3 = fl_up H1 79 4 a1 → (∀ H5, H5 = fl_cp H3 71 81 6 → (Q none H5))))  : ck (cm_pg X xs) N cm_m66 [.index 79, fl_t a1] H Q :=
  vt_aload_n rfl rfl rfl
 (vt_iconst rfl
 (vt_putf rfl rfl rfl (vt_nm (fun H1 e2 => vt_aload_n rfl rfl rfl
 (vt_iload_n rfl rfl
 (vt_putf rfl rfl rfl (vt_nm (fun H3 e4 => vt_aload_n rfl rfl rfl
 (vt_getr rfl rfl rfl
 (vt_getr rfl rfl rfl
 (vt_iconst rfl
 (vt_aload_n rfl rfl rfl
 (vt_getr rfl rfl rfl
 (vt_iconst rfl
 (vt_bipush (v := 6) rfl (by decide)
 (vt_copy (n := 6) rfl rfl rfl rfl rfl rfl (vt_nm (fun H5 e6 => vt_retv rfl (((W H1 e2) H3 e4) H5 e6)))))))))))))))))))
def hd_Draft_brought_69_4 (P : cm_G) (N : Nat) (H : fl_H) (a1 : Int) (a2 : Int) (a3 : Int) (Q : Option Int → fl_H → Prop) : Prop := ∀ lv : cm_Lv, cm_nth lv 0 = some (some (.index 69)) → cm_nth lv 1 = some (some (fl_t a1)) → cm_nth lv 2 = some (some (fl_t a2)) → cm_nth lv 3 = some (some (fl_t a3)) → vt P N cm_m20 4 lv [] H Q
def hd_Draft_brought_69_49 (P : cm_G) (N : Nat) (H : fl_H) (a2 : Int) (a3 : Int) (a4 : Int) (Q : Option Int → fl_H → Prop) : Prop := ∀ lv : cm_Lv, cm_nth lv 0 = some (some (.index 69)) → cm_nth lv 2 = some (some (fl_t a2)) → cm_nth lv 3 = some (some (fl_t a3)) → cm_nth lv 4 = some (some (fl_t a4)) → vt P N cm_m20 49 lv [] H Q
theorem vh_Draft_brought_69_4 {X : Term} {xs : List Int32} {N : Nat} {H : fl_H} {a1 : Int} {a2 : Int} {a3 : Int} {Q : Option Int → fl_H → Prop} (W : ((fl_w a1 ≤ fl_w a3) → hd_Draft_brought_69_49 (cm_pg X xs) N H a2 0 0 Q) ∧ (¬ (fl_w a1 ≤ fl_w a3) → (0 ≤ fl_w a3 ∧ fl_w a3 < 6 → ((fl_w (H 71 (fl_w a3).toNat) = 0) → ∀ m, m < N → hd_Draft_brought_69_4 (cm_pg X xs) m H a1 a2 (a3 + 1) Q) ∧ (¬ (fl_w (H 71 (fl_w a3).toNat) = 0) → ∀ m, m < N → ck (cm_pg X xs) m cm_m21 [.index 69, fl_t a3, fl_t ((H 3 0) - a1)] H (fun r H7 => ∃ x9, r = some x9 ∧ (∀ m, m < N → hd_Draft_brought_69_4 (cm_pg X xs) m H7 a1 (a2 + x9) (a3 + 1) Q)))))) : hd_Draft_brought_69_4 (cm_pg X xs) N H a1 a2 a3 Q :=
 fun lv h0 h1 h2 h3 =>
 vt_iload_n rfl h3
 (vt_iload_n rfl h1
 (vt_icmp rfl (fun hc1 => vt_iconst rfl
 (vt_istore_nA rfl (fun hl2 => vt_iconst rfl
 (vt_istoreA rfl (fun hl3 => (W.1 hc1) _ (fl_lsn (by decide) (fl_lsn (by decide) h0)) (fl_lsn (by decide) (fl_lsn (by decide) h2)) (fl_lsn (by decide) (fl_lse hl2)) (fl_lse hl3)))))) (fun hc1 => vt_aload_n rfl h0 rfl
 (vt_getr rfl rfl rfl
 (vt_iload_n rfl h3
 (vt_iald rfl rfl (fun hf4 => vt_ifc rfl (fun hc5 => vt_iincA rfl h3 (fun hl6 => vt_gotoS rfl (fun m hm => ((((W.2 hc1) hf4).1 hc5) m hm) _ (fl_lsn (by decide) h0) (fl_lsn (by decide) h1) (fl_lsn (by decide) h2) (fl_lse hl6)))) (fun hc5 => vt_iload_n rfl h2
 (vt_aload_n rfl h0 rfl
 (vt_iload_n rfl h3
 (vt_aload_n rfl h0 rfl
 (vt_getr rfl rfl rfl
 (vt_getr rfl rfl rfl
 (vt_getf rfl rfl rfl
 (vt_iload_n rfl h1
 (vt_isub rfl
 (vt_callV rfl rfl (fun _ => rfl) (fun m hm => vt_int ((((W.2 hc1) hf4).2 hc5) m hm) (fun x9 H7 w8 => vt_iadd rfl
 (vt_istore_nA rfl (fun hl10 => vt_iincA rfl (fl_lsn (by decide) h3) (fun hl11 => vt_gotoS rfl (fun m hm => (w8 m hm) _ (fl_lsn (by decide) (fl_lsn (by decide) h0)) (fl_lsn (by decide) (fl_lsn (by decide) h1)) (fl_lsn (by decide) (fl_lse hl10)) (fl_lse hl11))))))))))))))))))))))))
theorem vh_Draft_brought_69_49 {X : Term} {xs : List Int32} {N : Nat} {H : fl_H} {a2 : Int} {a3 : Int} {a4 : Int} {Q : Option Int → fl_H → Prop} (W : ((fl_w (H 69 2) ≤ fl_w a4) → Q (some (a2 - (60 * ((a3 * (H 18 1)) + ((fl_div (a3 + 1) 2) * (H 18 2)))))) H) ∧ (¬ (fl_w (H 69 2) ≤ fl_w a4) → (0 ≤ fl_w a4 ∧ fl_w a4 < 3 → ((fl_w (H 74 (fl_w a4).toNat) ≤ 0) → ∀ m, m < N → hd_Draft_brought_69_49 (cm_pg X xs) m H a2 a3 (a4 + 1) Q) ∧ (¬ (fl_w (H 74 (fl_w a4).toNat) ≤ 0) → ∀ m, m < N → hd_Draft_brought_69_49 (cm_pg X xs) m H a2 (a3 + 1) (a4 + 1) Q)))) : hd_Draft_brought_69_49 (cm_pg X xs) N H a2 a3 a4 Q :=
 fun lv h0 h2 h3 h4 =>
 vt_iload rfl h4
 (vt_aload_n rfl h0 rfl
 (vt_getf rfl rfl rfl
 (vt_icmp rfl (fun hc1 => vt_iload_n rfl h2
 (vt_bipush (v := 60) rfl (by decide)
 (vt_iload_n rfl h3
 (vt_aload_n rfl h0 rfl
 (vt_getr rfl rfl rfl
 (vt_getr rfl rfl rfl
 (vt_iconst rfl
 (vt_ialdN 1 rfl rfl rfl
 (vt_imul rfl
 (vt_iload_n rfl h3
 (vt_iconst rfl
 (vt_iadd rfl
 (vt_iconst rfl
 (vt_idiv rfl
 (vt_aload_n rfl h0 rfl
 (vt_getr rfl rfl rfl
 (vt_getr rfl rfl rfl
 (vt_iconst rfl
 (vt_ialdN 2 rfl rfl rfl
 (vt_imul rfl
 (vt_iadd rfl
 (vt_imul rfl
 (vt_isub rfl
 (vt_ret rfl (W.1 hc1))))))))))))))))))))))))) (fun hc1 => vt_aload_n rfl h0 rfl
 (vt_getr rfl rfl rfl
 (vt_iload rfl h4
 (vt_iald rfl rfl (fun hf2 => vt_ifc rfl (fun hc3 => vt_iincA rfl h4 (fun hl4 => vt_gotoS rfl (fun m hm => ((((W.2 hc1) hf2).1 hc3) m hm) _ (fl_lsn (by decide) h0) (fl_lsn (by decide) h2) (fl_lsn (by decide) h3) (fl_lse hl4)))) (fun hc3 => vt_iincA rfl h3 (fun hl5 => vt_iincA rfl (fl_lsn (by decide) h4) (fun hl6 => vt_gotoS rfl (fun m hm => ((((W.2 hc1) hf2).2 hc3) m hm) _ (fl_lsn (by decide) (fl_lsn (by decide) h0)) (fl_lsn (by decide) (fl_lsn (by decide) h2)) (fl_lsn (by decide) (fl_lse hl5)) (fl_lse hl6)))))))))))))
theorem ve_Draft_brought_69 {X : Term} {xs : List Int32} {N : Nat} {H : fl_H} {a1 : Int} {Q : Option Int → fl_H → Prop} (W : hd_Draft_brought_69_4 (cm_pg X xs) N H a1 0 0 Q)  : ck (cm_pg X xs) N cm_m20 [.index 69, fl_t a1] H Q :=
  vt_iconst rfl
 (vt_istore_n rfl
 (vt_iconst rfl
 (vt_istore_n rfl
 (W _ rfl rfl rfl rfl))))
theorem ve_Draft_share_69 {X : Term} {xs : List Int32} {N : Nat} {H : fl_H} {a1 a2 : Int} {Q : Option Int → fl_H → Prop} (W : (0 ≤ fl_w a1 ∧ fl_w a1 < 6 → (0 ≤ fl_w a1 ∧ fl_w a1 < 6 → (fl_w (H 4 (fl_w a1).toNat) = 1 → (0 ≤ fl_w a1 ∧ fl_w a1 < 6 → (0 ≤ fl_w (H 72 (fl_w a1).toNat) ∧ fl_w (H 72 (fl_w a1).toNat) < 3 → (0 ≤ fl_w (H 72 (fl_w a1).toNat) ∧ fl_w (H 72 (fl_w a1).toNat) < 3 → Q (some ((H 73 (fl_w a1).toNat) + (((H 18 0) * (H 70 (fl_w (H 72 (fl_w a1).toNat)).toNat)) * (((H 74 (fl_w (H 72 (fl_w a1).toNat)).toNat) - 1) + a2)))) H)))) ∧ (fl_w (H 4 (fl_w a1).toNat) = 2 → (0 ≤ fl_w a1 ∧ fl_w a1 < 6 → (0 ≤ fl_w (H 5 (fl_w a1).toNat) ∧ fl_w (H 5 (fl_w a1).toNat) < 4 → ((fl_w (H 77 (fl_w (H 5 (fl_w a1).toNat)).toNat) ≤ 1) → (0 ≤ fl_w a1 ∧ fl_w a1 < 6 → Q (some (H 73 (fl_w a1).toNat)) H)) ∧ (¬ (fl_w (H 77 (fl_w (H 5 (fl_w a1).toNat)).toNat) ≤ 1) → (0 ≤ fl_w a1 ∧ fl_w a1 < 6 → Q (some (fl_div (H 73 (fl_w a1).toNat) (H 77 (fl_w (H 5 (fl_w a1).toNat)).toNat))) H))))) ∧ (fl_w (H 4 (fl_w a1).toNat) = 3 → (0 ≤ fl_w (H 72 (fl_w a1).toNat) ∧ fl_w (H 72 (fl_w a1).toNat) < 3 → ((16 < fl_w (H 75 (fl_w (H 72 (fl_w a1).toNat)).toNat)) → (0 ≤ fl_w a1 ∧ fl_w a1 < 6 → Q (some (H 73 (fl_w a1).toNat)) H)) ∧ (¬ (16 < fl_w (H 75 (fl_w (H 72 (fl_w a1).toNat)).toNat)) → (0 ≤ fl_w (H 72 (fl_w a1).toNat) ∧ fl_w (H 72 (fl_w a1).toNat) < 3 → (0 ≤ fl_w ((H 3 0) - a2) ∧ fl_w ((H 3 0) - a2) < 7 → ((fl_w ((H 75 (fl_w (H 72 (fl_w a1).toNat)).toNat) + (H 78 (fl_w ((H 3 0) - a2)).toNat)) < 16) → (0 ≤ fl_w a1 ∧ fl_w a1 < 6 → Q (some (H 73 (fl_w a1).toNat)) H)) ∧ (¬ (fl_w ((H 75 (fl_w (H 72 (fl_w a1).toNat)).toNat) + (H 78 (fl_w ((H 3 0) - a2)).toNat)) < 16) → (0 ≤ fl_w a1 ∧ fl_w a1 < 6 → Q (some (2 * (H 73 (fl_w a1).toNat))) H))))))) ∧ (fl_w (H 4 (fl_w a1).toNat) < 1 ∨ 3 < fl_w (H 4 (fl_w a1).toNat) → (0 ≤ fl_w a1 ∧ fl_w a1 < 6 → Q (some (H 73 (fl_w a1).toNat)) H)))))  : ck (cm_pg X xs) N cm_m21 [.index 69, fl_t a1, fl_t a2] H Q :=
  vt_aload_n rfl rfl rfl
 (vt_getr rfl rfl rfl
 (vt_iload_n rfl rfl
 (vt_iald rfl rfl (fun hf1 => vt_istore_n rfl
 (vt_aload_n rfl rfl rfl
 (vt_getr rfl rfl rfl
 (vt_getr rfl rfl rfl
 (vt_getr rfl rfl rfl
 (vt_iload_n rfl rfl
 (vt_iald rfl rfl (fun hf2 => if hs3 : fl_w (H 4 (fl_w a1).toNat) = 1 then vt_swk rfl (vt_sw_in (j := 0) (by omega) (by omega) (by omega) rfl) (vt_aload_n rfl rfl rfl
 (vt_getr rfl rfl rfl
 (vt_iload_n rfl rfl
 (vt_iald rfl rfl (fun hf4 => vt_aload_n rfl rfl rfl
 (vt_getr rfl rfl rfl
 (vt_getr rfl rfl rfl
 (vt_iconst rfl
 (vt_ialdN 0 rfl rfl rfl
 (vt_aload_n rfl rfl rfl
 (vt_getr rfl rfl rfl
 (vt_iload_n rfl rfl
 (vt_iald rfl rfl (fun hf5 => vt_imul rfl
 (vt_aload_n rfl rfl rfl
 (vt_getr rfl rfl rfl
 (vt_iload_n rfl rfl
 (vt_iald rfl rfl (fun hf6 => vt_iconst rfl
 (vt_isub rfl
 (vt_iload_n rfl rfl
 (vt_iadd rfl
 (vt_imul rfl
 (vt_iadd rfl
 (vt_ret rfl ((((((W hf1) hf2).1 hs3) hf4) hf5) hf6)))))))))))))))))))))))))) else if hs7 : fl_w (H 4 (fl_w a1).toNat) = 2 then vt_swk rfl (vt_sw_in (j := 1) (by omega) (by omega) (by omega) rfl) (vt_aload_n rfl rfl rfl
 (vt_getr rfl rfl rfl
 (vt_aload_n rfl rfl rfl
 (vt_getr rfl rfl rfl
 (vt_getr rfl rfl rfl
 (vt_getr rfl rfl rfl
 (vt_iload_n rfl rfl
 (vt_iald rfl rfl (fun hf8 => vt_iald rfl rfl (fun hf9 => vt_istore rfl
 (vt_iload rfl rfl
 (vt_iconst rfl
 (vt_icmp rfl (fun hc10 => vt_aload_n rfl rfl rfl
 (vt_getr rfl rfl rfl
 (vt_iload_n rfl rfl
 (vt_iald rfl rfl (fun hf11 => vt_ret rfl (((((((W hf1) hf2).2.1 hs7) hf8) hf9).1 hc10) hf11)))))) (fun hc10 => vt_aload_n rfl rfl rfl
 (vt_getr rfl rfl rfl
 (vt_iload_n rfl rfl
 (vt_iald rfl rfl (fun hf12 => vt_iload rfl rfl
 (vt_idiv rfl
 (vt_goto rfl
 (vt_ret rfl (((((((W hf1) hf2).2.1 hs7) hf8) hf9).2 hc10) hf12)))))))))))))))))))))) else if hs13 : fl_w (H 4 (fl_w a1).toNat) = 3 then vt_swk rfl (vt_sw_in (j := 2) (by omega) (by omega) (by omega) rfl) (vt_aload_n rfl rfl rfl
 (vt_getr rfl rfl rfl
 (vt_iload_n rfl rfl
 (vt_iald rfl rfl (fun hf14 => vt_bipush (v := 16) rfl (by decide)
 (vt_icmp rfl (fun hc15 => vt_iconst rfl
 (vt_istore rfl
 (vt_iload rfl rfl
 (vt_ifc (a := 0) rfl (fun _ => vt_aload_n rfl rfl rfl
 (vt_getr rfl rfl rfl
 (vt_iload_n rfl rfl
 (vt_iald rfl rfl (fun hf17 => vt_ret rfl ((((((W hf1) hf2).2.2.1 hs13) hf14).1 hc15) hf17)))))) (fun hc16 => by exact absurd (show (0 : Int) = 0 by decide) hc16))))) (fun hc15 => vt_aload_n rfl rfl rfl
 (vt_getr rfl rfl rfl
 (vt_iload_n rfl rfl
 (vt_iald rfl rfl (fun hf18 => vt_aload_n rfl rfl rfl
 (vt_getr rfl rfl rfl
 (vt_aload_n rfl rfl rfl
 (vt_getr rfl rfl rfl
 (vt_getr rfl rfl rfl
 (vt_getf rfl rfl rfl
 (vt_iload_n rfl rfl
 (vt_isub rfl
 (vt_iald rfl rfl (fun hf19 => vt_iadd rfl
 (vt_bipush (v := 16) rfl (by decide)
 (vt_icmp rfl (fun hc20 => vt_iconst rfl
 (vt_istore rfl
 (vt_iload rfl rfl
 (vt_ifc (a := 0) rfl (fun _ => vt_aload_n rfl rfl rfl
 (vt_getr rfl rfl rfl
 (vt_iload_n rfl rfl
 (vt_iald rfl rfl (fun hf22 => vt_ret rfl (((((((((W hf1) hf2).2.2.1 hs13) hf14).2 hc15) hf18) hf19).1 hc20) hf22)))))) (fun hc21 => by exact absurd (show (0 : Int) = 0 by decide) hc21))))) (fun hc20 => vt_iconst rfl
 (vt_goto rfl
 (vt_istore rfl
 (vt_iload rfl rfl
 (vt_ifc (a := 1) rfl (fun hc23 => by exact absurd (show (1 : Int) = 0 from hc23) (by decide)) (fun _ => vt_iconst rfl
 (vt_aload_n rfl rfl rfl
 (vt_getr rfl rfl rfl
 (vt_iload_n rfl rfl
 (vt_iald rfl rfl (fun hf24 => vt_imul rfl
 (vt_goto rfl
 (vt_ret rfl (((((((((W hf1) hf2).2.2.1 hs13) hf14).2 hc15) hf18) hf19).2 hc20) hf24)))))))))))))))))))))))))))))))))))) else vt_swk rfl (vt_sw_out (by omega)) (vt_aload_n rfl rfl rfl
 (vt_getr rfl rfl rfl
 (vt_iload_n rfl rfl
 (vt_iald rfl rfl (fun hf26 => vt_ret rfl ((((W hf1) hf2).2.2.2 (by omega)) hf26)))))))))))))))))
theorem ve_Draft_goods_69 {X : Term} {xs : List Int32} {N : Nat} {H : fl_H} {Q : Option Int → fl_H → Prop} (W : Q (some (H 3 0)) H)  : ck (cm_pg X xs) N cm_m15 [.index 69] H Q :=
  vt_aload_n rfl rfl rfl
 (vt_getr rfl rfl rfl
 (vt_getr rfl rfl rfl
 (vt_getf rfl rfl rfl
 (vt_ret rfl W))))
def hd_Search_sortBonds_79_6 (P : cm_G) (N : Nat) (H : fl_H) (a1 : Int) (a2 : Int) (a3 : Int) (Q : Option Int → fl_H → Prop) : Prop := ∀ lv : cm_Lv, cm_nth lv 0 = some (some (.index 79)) → cm_nth lv 1 = some (some (fl_t a1)) → cm_nth lv 2 = some (some (fl_t a2)) → cm_nth lv 3 = some (some (fl_t a3)) → vt P N cm_m61 6 lv [] H Q
def hd_Search_sortBonds_79_125 (P : cm_G) (N : Nat) (H : fl_H) (a2 : Int) (a3 : Int) (Q : Option Int → fl_H → Prop) : Prop := ∀ lv : cm_Lv, cm_nth lv 0 = some (some (.index 79)) → cm_nth lv 2 = some (some (fl_t a2)) → cm_nth lv 3 = some (some (fl_t a3)) → vt P N cm_m61 125 lv [] H Q
def hd_Search_sortBonds_79_27 (P : cm_G) (N : Nat) (H : fl_H) (a1 : Int) (a2 : Int) (a3 : Int) (a4 : Int) (Q : Option Int → fl_H → Prop) : Prop := ∀ lv : cm_Lv, cm_nth lv 0 = some (some (.index 79)) → cm_nth lv 1 = some (some (fl_t a1)) → cm_nth lv 2 = some (some (fl_t a2)) → cm_nth lv 3 = some (some (fl_t a3)) → cm_nth lv 4 = some (some (fl_t a4)) → vt P N cm_m61 27 lv [] H Q
def hd_Search_sortBonds_79_137 (P : cm_G) (N : Nat) (H : fl_H) (a2 : Int) (a3 : Int) (a4 : Int) (Q : Option Int → fl_H → Prop) : Prop := ∀ lv : cm_Lv, cm_nth lv 0 = some (some (.index 79)) → cm_nth lv 2 = some (some (fl_t a2)) → cm_nth lv 3 = some (some (fl_t a3)) → cm_nth lv 4 = some (some (fl_t a4)) → vt P N cm_m61 137 lv [] H Q
theorem vh_Search_sortBonds_79_6 {X : Term} {xs : List Int32} {N : Nat} {H : fl_H} {a1 : Int} {a2 : Int} {a3 : Int} {Q : Option Int → fl_H → Prop} (W : ∀ m, m < N → ck (cm_pg X xs) m cm_m15 [.index 69] H (fun r H1 => ∃ x3, r = some x3 ∧ (((fl_w x3 ≤ fl_w a3) → ∀ m, m < N → ck (cm_pg X xs) m cm_m15 [.index 69] H1 (fun r H5 => ∃ x7, r = some x7 ∧ ((0 ≤ fl_w x7 ∧ fl_w x7 < 7 → ∀ H8, H8 = fl_up H5 83 (fl_w x7).toNat a1 → ∀ m, m < N → ck (cm_pg X xs) m cm_m15 [.index 69] H8 (fun r H11 => ∃ x13, r = some x13 ∧ ((0 ≤ fl_w x13 ∧ fl_w x13 < 7 → ∀ H14, H14 = fl_up H11 84 (fl_w x13).toNat 0 → ∀ m, m < N → ck (cm_pg X xs) m cm_m15 [.index 69] H14 (fun r H17 => ∃ x19, r = some x19 ∧ (hd_Search_sortBonds_79_125 (cm_pg X xs) N H17 a2 (x19 - 1) Q))))))))) ∧ (¬ (fl_w x3 ≤ fl_w a3) → (0 ≤ fl_w a3 ∧ fl_w a3 < 7 → ∀ H21, H21 = fl_up H1 83 (fl_w a3).toNat a1 → hd_Search_sortBonds_79_27 (cm_pg X xs) N H21 a1 a2 a3 0 Q))))) : hd_Search_sortBonds_79_6 (cm_pg X xs) N H a1 a2 a3 Q :=
 fun lv h0 h1 h2 h3 =>
 vt_iload_n rfl h3
 (vt_aload_n rfl h0 rfl
 (vt_getr rfl rfl rfl
 (vt_callV rfl rfl (fun _ => rfl) (fun m hm => vt_int (W m hm) (fun x3 H1 w2 => vt_icmp rfl (fun hc4 => vt_aload_n rfl h0 rfl
 (vt_getr rfl rfl rfl
 (vt_aload_n rfl h0 rfl
 (vt_getr rfl rfl rfl
 (vt_callV rfl rfl (fun _ => rfl) (fun m hm => vt_int ((w2.1 hc4) m hm) (fun x7 H5 w6 => vt_iload_n rfl h1
 (vt_iast rfl rfl (fun hf10 => vt_nm (fun H8 e9 => vt_aload_n rfl h0 rfl
 (vt_getr rfl rfl rfl
 (vt_aload_n rfl h0 rfl
 (vt_getr rfl rfl rfl
 (vt_callV rfl rfl (fun _ => rfl) (fun m hm => vt_int ((w6 hf10 H8 e9) m hm) (fun x13 H11 w12 => vt_iconst rfl
 (vt_iast rfl rfl (fun hf16 => vt_nm (fun H14 e15 => vt_aload_n rfl h0 rfl
 (vt_getr rfl rfl rfl
 (vt_callV rfl rfl (fun _ => rfl) (fun m hm => vt_int ((w12 hf16 H14 e15) m hm) (fun x19 H17 w18 => vt_iconst rfl
 (vt_isub rfl
 (vt_istore_nA rfl (fun hl20 => w18 _ (fl_lsn (by decide) h0) (fl_lsn (by decide) h2) (fl_lse hl20))))))))))))))))))))))))))) (fun hc4 => vt_aload_n rfl h0 rfl
 (vt_getr rfl rfl rfl
 (vt_iload_n rfl h3
 (vt_iload_n rfl h1
 (vt_iast rfl rfl (fun hf23 => vt_nm (fun H21 e22 => vt_iconst rfl
 (vt_istoreA rfl (fun hl24 => ((w2.2 hc4) hf23 H21 e22) _ (fl_lsn (by decide) h0) (fl_lsn (by decide) h1) (fl_lsn (by decide) h2) (fl_lsn (by decide) h3) (fl_lse hl24)))))))))))))))
theorem vh_Search_sortBonds_79_125 {X : Term} {xs : List Int32} {N : Nat} {H : fl_H} {a2 : Int} {a3 : Int} {Q : Option Int → fl_H → Prop} (W : ((fl_w a3 < 0) → Q none H) ∧ (¬ (fl_w a3 < 0) → (0 ≤ fl_w a3 ∧ fl_w a3 < 7 → hd_Search_sortBonds_79_137 (cm_pg X xs) N H a2 a3 (H 83 (fl_w a3).toNat) Q))) : hd_Search_sortBonds_79_125 (cm_pg X xs) N H a2 a3 Q :=
 fun lv h0 h2 h3 =>
 vt_iload_n rfl h3
 (vt_ifc rfl (fun hc1 => vt_retv rfl (W.1 hc1)) (fun hc1 => vt_aload_n rfl h0 rfl
 (vt_getr rfl rfl rfl
 (vt_iload_n rfl h3
 (vt_iald rfl rfl (fun hf2 => vt_istoreA rfl (fun hl3 => ((W.2 hc1) hf2) _ (fl_lsn (by decide) h0) (fl_lsn (by decide) h2) (fl_lsn (by decide) h3) (fl_lse hl3))))))))
theorem vh_Search_sortBonds_79_27 {X : Term} {xs : List Int32} {N : Nat} {H : fl_H} {a1 : Int} {a2 : Int} {a3 : Int} {a4 : Int} {Q : Option Int → fl_H → Prop} (W : ((fl_w (H 9 0) ≤ fl_w a4) → ∀ m, m < N → hd_Search_sortBonds_79_6 (cm_pg X xs) m H a1 a2 (a3 + 1) Q) ∧ (¬ (fl_w (H 9 0) ≤ fl_w a4) → (0 ≤ fl_w a4 ∧ fl_w a4 < 12 → (0 ≤ fl_w a4 ∧ fl_w a4 < 12 → (fl_w (max (fl_w (H 11 (fl_w a4).toNat)) (fl_w (H 12 (fl_w a4).toNat))) = fl_w a3 → (0 ≤ fl_w a1 ∧ fl_w a1 < 12 → ∀ H7, H7 = fl_up H 82 (fl_w a1).toNat a4 → ∀ m, m < N → hd_Search_sortBonds_79_27 (cm_pg X xs) m H7 (a1 + 1) a2 a3 (a4 + 1) Q)) ∧ (¬ fl_w (max (fl_w (H 11 (fl_w a4).toNat)) (fl_w (H 12 (fl_w a4).toNat))) = fl_w a3 → ∀ m, m < N → hd_Search_sortBonds_79_27 (cm_pg X xs) m H a1 a2 a3 (a4 + 1) Q))))) : hd_Search_sortBonds_79_27 (cm_pg X xs) N H a1 a2 a3 a4 Q :=
 fun lv h0 h1 h2 h3 h4 =>
 vt_iload rfl h4
 (vt_aload_n rfl h0 rfl
 (vt_getr rfl rfl rfl
 (vt_getf rfl rfl rfl
 (vt_icmp rfl (fun hc1 => vt_iincA rfl h3 (fun hl2 => vt_gotoS rfl (fun m hm => ((W.1 hc1) m hm) _ (fl_lsn (by decide) h0) (fl_lsn (by decide) h1) (fl_lsn (by decide) h2) (fl_lse hl2)))) (fun hc1 => vt_aload_n rfl h0 rfl
 (vt_getr rfl rfl rfl
 (vt_getr rfl rfl rfl
 (vt_iload rfl h4
 (vt_iald rfl rfl (fun hf3 => vt_aload_n rfl h0 rfl
 (vt_getr rfl rfl rfl
 (vt_getr rfl rfl rfl
 (vt_iload rfl h4
 (vt_iald rfl rfl (fun hf4 => vt_max rfl
 (vt_iload_n rfl h3
 (vt_icmpN rfl (fun hc5 => vt_iincA rfl h4 (fun hl11 => vt_gotoS rfl (fun m hm => (((((W.2 hc1) hf3) hf4).2 hc5) m hm) _ (fl_lsn (by decide) h0) (fl_lsn (by decide) h1) (fl_lsn (by decide) h2) (fl_lsn (by decide) h3) (fl_lse hl11)))) (fun hc5 => vt_aload_n rfl h0 rfl
 (vt_getr rfl rfl rfl
 (vt_iload_n rfl h1
 (vt_iincA rfl h1 (fun hl6 => vt_iload rfl (fl_lsn (by decide) h4)
 (vt_iast rfl rfl (fun hf9 => vt_nm (fun H7 e8 => vt_iincA rfl (fl_lsn (by decide) h4) (fun hl10 => vt_gotoS rfl (fun m hm => ((((((W.2 hc1) hf3) hf4).1 hc5) hf9 H7 e8) m hm) _ (fl_lsn (by decide) (fl_lsn (by decide) h0)) (fl_lsn (by decide) (fl_lse hl6)) (fl_lsn (by decide) (fl_lsn (by decide) h2)) (fl_lsn (by decide) (fl_lsn (by decide) h3)) (fl_lse hl10))))))))))))))))))))))))))))
theorem vh_Search_sortBonds_79_137 {X : Term} {xs : List Int32} {N : Nat} {H : fl_H} {a2 : Int} {a3 : Int} {a4 : Int} {Q : Option Int → fl_H → Prop} (W : (0 ≤ fl_w (a3 + 1) ∧ fl_w (a3 + 1) < 7 → ((fl_w (H 83 (fl_w (a3 + 1)).toNat) ≤ fl_w a4) → (0 ≤ fl_w a3 ∧ fl_w a3 < 7 → ∀ H3, H3 = fl_up H 84 (fl_w a3).toNat a2 → ∀ m, m < N → hd_Search_sortBonds_79_125 (cm_pg X xs) m H3 a2 (a3 + (-1)) Q)) ∧ (¬ (fl_w (H 83 (fl_w (a3 + 1)).toNat) ≤ fl_w a4) → (0 ≤ fl_w a4 ∧ fl_w a4 < 12 → ∀ m, m < N → ck (cm_pg X xs) m cm_m62 [.index 79, fl_t (H 82 (fl_w a4).toNat)] H (fun r H8 => ∃ x10, r = some x10 ∧ (∀ m, m < N → hd_Search_sortBonds_79_137 (cm_pg X xs) m H8 (a2 + x10) a3 (a4 + 1) Q)))))) : hd_Search_sortBonds_79_137 (cm_pg X xs) N H a2 a3 a4 Q :=
 fun lv h0 h2 h3 h4 =>
 vt_iload rfl h4
 (vt_aload_n rfl h0 rfl
 (vt_getr rfl rfl rfl
 (vt_iload_n rfl h3
 (vt_iconst rfl
 (vt_iadd rfl
 (vt_iald rfl rfl (fun hf1 => vt_icmp rfl (fun hc2 => vt_aload_n rfl h0 rfl
 (vt_getr rfl rfl rfl
 (vt_iload_n rfl h3
 (vt_iload_n rfl h2
 (vt_iast rfl rfl (fun hf5 => vt_nm (fun H3 e4 => vt_iincA rfl h3 (fun hl6 => vt_gotoS rfl (fun m hm => ((((W hf1).1 hc2) hf5 H3 e4) m hm) _ (fl_lsn (by decide) h0) (fl_lsn (by decide) h2) (fl_lse hl6)))))))))) (fun hc2 => vt_iload_n rfl h2
 (vt_aload_n rfl h0 rfl
 (vt_aload_n rfl h0 rfl
 (vt_getr rfl rfl rfl
 (vt_iload rfl h4
 (vt_iald rfl rfl (fun hf7 => vt_callV rfl rfl (fun _ => rfl) (fun m hm => vt_int ((((W hf1).2 hc2) hf7) m hm) (fun x10 H8 w9 => vt_iadd rfl
 (vt_istore_nA rfl (fun hl11 => vt_iincA rfl (fl_lsn (by decide) h4) (fun hl12 => vt_gotoS rfl (fun m hm => (w9 m hm) _ (fl_lsn (by decide) (fl_lsn (by decide) h0)) (fl_lsn (by decide) (fl_lse hl11)) (fl_lsn (by decide) (fl_lsn (by decide) h3)) (fl_lse hl12)))))))))))))))))))))
theorem ve_Search_sortBonds_79 {X : Term} {xs : List Int32} {N : Nat} {H : fl_H} {Q : Option Int → fl_H → Prop} (W : hd_Search_sortBonds_79_6 (cm_pg X xs) N H 0 0 0 Q)  : ck (cm_pg X xs) N cm_m61 [.index 79] H Q :=
  vt_iconst rfl
 (vt_istore_n rfl
 (vt_iconst rfl
 (vt_istore_n rfl
 (vt_iconst rfl
 (vt_istore_n rfl
 (W _ rfl rfl rfl rfl))))))
def hd_Search_mostGain_79_17 (P : cm_G) (N : Nat) (H : fl_H) (a1 : Int) (a2 : Int) (a3 : Int) (Q : Option Int → fl_H → Prop) : Prop := ∀ lv : cm_Lv, cm_nth lv 0 = some (some (.index 79)) → cm_nth lv 1 = some (some (fl_t a1)) → cm_nth lv 2 = some (some (fl_t a2)) → cm_nth lv 3 = some (some (fl_t a3)) → vt P N cm_m62 17 lv [] H Q
theorem vh_Search_mostGain_79_17 {X : Term} {xs : List Int32} {N : Nat} {H : fl_H} {a1 : Int} {a2 : Int} {a3 : Int} {Q : Option Int → fl_H → Prop} (W : ((fl_w (H 69 2) ≤ fl_w a3) → (0 ≤ fl_w a1 ∧ fl_w a1 < 12 → Q (some (a2 * (max (fl_w (H 13 (fl_w a1).toNat)) (fl_w 0)))) H)) ∧ (¬ (fl_w (H 69 2) ≤ fl_w a3) → (0 ≤ fl_w a3 ∧ fl_w a3 < 3 → ∀ m, m < N → hd_Search_mostGain_79_17 (cm_pg X xs) m H a1 (max (fl_w a2) (fl_w (H 70 (fl_w a3).toNat))) (a3 + 1) Q))) : hd_Search_mostGain_79_17 (cm_pg X xs) N H a1 a2 a3 Q :=
 fun lv h0 h1 h2 h3 =>
 vt_iload_n rfl h3
 (vt_aload_n rfl h0 rfl
 (vt_getr rfl rfl rfl
 (vt_getf rfl rfl rfl
 (vt_icmp rfl (fun hc1 => vt_goto rfl
 (vt_iload_n rfl h2
 (vt_aload_n rfl h0 rfl
 (vt_getr rfl rfl rfl
 (vt_getr rfl rfl rfl
 (vt_iload_n rfl h1
 (vt_iald rfl rfl (fun hf2 => vt_iconst rfl
 (vt_max rfl
 (vt_imul rfl
 (vt_ret rfl ((W.1 hc1) hf2)))))))))))) (fun hc1 => vt_iload_n rfl h2
 (vt_aload_n rfl h0 rfl
 (vt_getr rfl rfl rfl
 (vt_getr rfl rfl rfl
 (vt_iload_n rfl h3
 (vt_iald rfl rfl (fun hf3 => vt_max rfl
 (vt_istore_nA rfl (fun hl4 => vt_iincA rfl (fl_lsn (by decide) h3) (fun hl5 => vt_gotoS rfl (fun m hm => (((W.2 hc1) hf3) m hm) _ (fl_lsn (by decide) (fl_lsn (by decide) h0)) (fl_lsn (by decide) (fl_lsn (by decide) h1)) (fl_lsn (by decide) (fl_lse hl4)) (fl_lse hl5))))))))))))))))
theorem ve_Search_mostGain_79 {X : Term} {xs : List Int32} {N : Nat} {H : fl_H} {a1 : Int} {Q : Option Int → fl_H → Prop} (W : (0 ≤ fl_w a1 ∧ fl_w a1 < 12 → ((fl_w (H 10 (fl_w a1).toNat) = 1) → (fl_w (H 69 2) = 3 → (0 ≤ fl_w a1 ∧ fl_w a1 < 12 → Q (some ((min (fl_w (H 70 1)) (fl_w (H 70 2))) * (max (fl_w (H 13 (fl_w a1).toNat)) (fl_w 0)))) H)) ∧ (¬ fl_w (H 69 2) = 3 → (0 ≤ fl_w a1 ∧ fl_w a1 < 12 → Q (some (0 * (max (fl_w (H 13 (fl_w a1).toNat)) (fl_w 0)))) H))) ∧ (¬ (fl_w (H 10 (fl_w a1).toNat) = 1) → hd_Search_mostGain_79_17 (cm_pg X xs) N H a1 0 0 Q)))  : ck (cm_pg X xs) N cm_m62 [.index 79, fl_t a1] H Q :=
  vt_iconst rfl
 (vt_istore_n rfl
 (vt_aload_n rfl rfl rfl
 (vt_getr rfl rfl rfl
 (vt_getr rfl rfl rfl
 (vt_iload_n rfl rfl
 (vt_iald rfl rfl (fun hf1 => vt_iconst rfl
 (vt_icmp rfl (fun hc2 => vt_aload_n rfl rfl rfl
 (vt_getr rfl rfl rfl
 (vt_getf rfl rfl rfl
 (vt_iconst rfl
 (vt_icmpN rfl (fun hc3 => vt_iload_n rfl rfl
 (vt_aload_n rfl rfl rfl
 (vt_getr rfl rfl rfl
 (vt_getr rfl rfl rfl
 (vt_iload_n rfl rfl
 (vt_iald rfl rfl (fun hf5 => vt_iconst rfl
 (vt_max rfl
 (vt_imul rfl
 (vt_ret rfl ((((W hf1).1 hc2).2 hc3) hf5))))))))))) (fun hc3 => vt_aload_n rfl rfl rfl
 (vt_getr rfl rfl rfl
 (vt_getr rfl rfl rfl
 (vt_iconst rfl
 (vt_ialdN 1 rfl rfl rfl
 (vt_aload_n rfl rfl rfl
 (vt_getr rfl rfl rfl
 (vt_getr rfl rfl rfl
 (vt_iconst rfl
 (vt_ialdN 2 rfl rfl rfl
 (vt_min rfl
 (vt_istore_n rfl
 (vt_iload_n rfl rfl
 (vt_aload_n rfl rfl rfl
 (vt_getr rfl rfl rfl
 (vt_getr rfl rfl rfl
 (vt_iload_n rfl rfl
 (vt_iald rfl rfl (fun hf4 => vt_iconst rfl
 (vt_max rfl
 (vt_imul rfl
 (vt_ret rfl ((((W hf1).1 hc2).1 hc3) hf4)))))))))))))))))))))))))))) (fun hc2 => vt_iconst rfl
 (vt_istore_n rfl
 (((W hf1).2 hc2) _ rfl rfl rfl rfl)))))))))))
def hd_Draft_begin_69_7 (P : cm_G) (N : Nat) (H : fl_H) (a1 : Int) (a2 : Int) (a3 : Int) (Q : Option Int → fl_H → Prop) : Prop := ∀ lv : cm_Lv, cm_nth lv 0 = some (some (.index 69)) → cm_nth lv 1 = some (some (fl_t a1)) → cm_nth lv 2 = some (some (fl_t a2)) → cm_nth lv 3 = some (some (fl_t a3)) → vt P N cm_m13 7 lv [] H Q
theorem vh_Draft_begin_69_7 {X : Term} {xs : List Int32} {N : Nat} {H : fl_H} {a1 : Int} {a2 : Int} {a3 : Int} {Q : Option Int → fl_H → Prop} (W : ((fl_w (H 1 0) ≤ fl_w a3) → ((fl_w a1 < 0) → ∀ m, m < N → ck (cm_pg X xs) m cm_m249 [.index 71, fl_t 0] H (fun r H3 => r = none ∧ (∀ m, m < N → ck (cm_pg X xs) m cm_m249 [.index 72, fl_t (-1)] H3 (fun r H5 => r = none ∧ (∀ m, m < N → ck (cm_pg X xs) m cm_m249 [.index 74, fl_t 0] H5 (fun r H7 => r = none ∧ (∀ m, m < N → ck (cm_pg X xs) m cm_m249 [.index 75, fl_t 0] H7 (fun r H9 => r = none ∧ (∀ m, m < N → ck (cm_pg X xs) m cm_m249 [.index 76, fl_t 0] H9 (fun r H11 => r = none ∧ (∀ m, m < N → ck (cm_pg X xs) m cm_m249 [.index 77, fl_t 0] H11 (fun r H13 => r = none ∧ (∀ m, m < N → ck (cm_pg X xs) m cm_m32 [.index 64] H13 (fun r H15 => r = none ∧ (∀ m, m < N → ck (cm_pg X xs) m cm_m14 [.index 69] H15 (fun r H17 => r = none ∧ (Q none H17))))))))))))))))) ∧ (¬ (fl_w a1 < 0) → ((3 ≤ fl_w (H 69 2)) → ∀ m, m < N → ck (cm_pg X xs) m cm_m249 [.index 71, fl_t 0] H (fun r H20 => r = none ∧ (∀ m, m < N → ck (cm_pg X xs) m cm_m249 [.index 72, fl_t (-1)] H20 (fun r H22 => r = none ∧ (∀ m, m < N → ck (cm_pg X xs) m cm_m249 [.index 74, fl_t 0] H22 (fun r H24 => r = none ∧ (∀ m, m < N → ck (cm_pg X xs) m cm_m249 [.index 75, fl_t 0] H24 (fun r H26 => r = none ∧ (∀ m, m < N → ck (cm_pg X xs) m cm_m249 [.index 76, fl_t 0] H26 (fun r H28 => r = none ∧ (∀ m, m < N → ck (cm_pg X xs) m cm_m249 [.index 77, fl_t 0] H28 (fun r H30 => r = none ∧ (∀ m, m < N → ck (cm_pg X xs) m cm_m32 [.index 64] H30 (fun r H32 => r = none ∧ (∀ m, m < N → ck (cm_pg X xs) m cm_m14 [.index 69] H32 (fun r H34 => r = none ∧ (Q none H34))))))))))))))))) ∧ (¬ (3 ≤ fl_w (H 69 2)) → ∀ H36, H36 = fl_up H 69 2 ((H 69 2) + 1) → ((0 ≤ fl_w (H 69 2) ∧ fl_w (H 69 2) < 3 → ∀ H38, H38 = fl_up H36 70 (fl_w (H 69 2)).toNat a1 → ∀ m, m < N → ck (cm_pg X xs) m cm_m249 [.index 71, fl_t 0] H38 (fun r H41 => r = none ∧ (∀ m, m < N → ck (cm_pg X xs) m cm_m249 [.index 72, fl_t (-1)] H41 (fun r H43 => r = none ∧ (∀ m, m < N → ck (cm_pg X xs) m cm_m249 [.index 74, fl_t 0] H43 (fun r H45 => r = none ∧ (∀ m, m < N → ck (cm_pg X xs) m cm_m249 [.index 75, fl_t 0] H45 (fun r H47 => r = none ∧ (∀ m, m < N → ck (cm_pg X xs) m cm_m249 [.index 76, fl_t 0] H47 (fun r H49 => r = none ∧ (∀ m, m < N → ck (cm_pg X xs) m cm_m249 [.index 77, fl_t 0] H49 (fun r H51 => r = none ∧ (∀ m, m < N → ck (cm_pg X xs) m cm_m32 [.index 64] H51 (fun r H53 => r = none ∧ (∀ m, m < N → ck (cm_pg X xs) m cm_m14 [.index 69] H53 (fun r H55 => r = none ∧ (Q none H55))))))))))))))))))))) ∧ (¬ (fl_w (H 1 0) ≤ fl_w a3) → ((fl_w a3 = fl_w a2) → ∀ m, m < N → hd_Draft_begin_69_7 (cm_pg X xs) m H a1 a2 (a3 + 1) Q) ∧ (¬ (fl_w a3 = fl_w a2) → ∀ H59, H59 = fl_up H 69 2 ((H 69 2) + 1) → ((0 ≤ fl_w a3 ∧ fl_w a3 < 3 → (0 ≤ fl_w (H 69 2) ∧ fl_w (H 69 2) < 3 → ∀ H62, H62 = fl_up H59 70 (fl_w (H 69 2)).toNat (H59 2 (fl_w a3).toNat) → ∀ m, m < N → hd_Draft_begin_69_7 (cm_pg X xs) m H62 a1 a2 (a3 + 1) Q)))))) : hd_Draft_begin_69_7 (cm_pg X xs) N H a1 a2 a3 Q :=
 fun lv h0 h1 h2 h3 =>
 vt_iload_n rfl h3
 (vt_aload_n rfl h0 rfl
 (vt_getr rfl rfl rfl
 (vt_getf rfl rfl rfl
 (vt_icmp rfl (fun hc1 => vt_iload_n rfl h1
 (vt_ifc rfl (fun hc2 => vt_aload_n rfl h0 rfl
 (vt_getr rfl rfl rfl
 (vt_iconst rfl
 (vt_callS rfl rfl (fun _ => rfl) (fun m hm => vt_void (((W.1 hc1).1 hc2) m hm) (fun H3 w4 => vt_aload_n rfl h0 rfl
 (vt_getr rfl rfl rfl
 (vt_iconst rfl
 (vt_callS rfl rfl (fun _ => rfl) (fun m hm => vt_void (w4 m hm) (fun H5 w6 => vt_aload_n rfl h0 rfl
 (vt_getr rfl rfl rfl
 (vt_iconst rfl
 (vt_callS rfl rfl (fun _ => rfl) (fun m hm => vt_void (w6 m hm) (fun H7 w8 => vt_aload_n rfl h0 rfl
 (vt_getr rfl rfl rfl
 (vt_iconst rfl
 (vt_callS rfl rfl (fun _ => rfl) (fun m hm => vt_void (w8 m hm) (fun H9 w10 => vt_aload_n rfl h0 rfl
 (vt_getr rfl rfl rfl
 (vt_iconst rfl
 (vt_callS rfl rfl (fun _ => rfl) (fun m hm => vt_void (w10 m hm) (fun H11 w12 => vt_aload_n rfl h0 rfl
 (vt_getr rfl rfl rfl
 (vt_iconst rfl
 (vt_callS rfl rfl (fun _ => rfl) (fun m hm => vt_void (w12 m hm) (fun H13 w14 => vt_aload_n rfl h0 rfl
 (vt_getr rfl rfl rfl
 (vt_callV rfl rfl (fun _ => rfl) (fun m hm => vt_void (w14 m hm) (fun H15 w16 => vt_aload_n rfl h0 rfl
 (vt_callV rfl rfl (fun _ => rfl) (fun m hm => vt_void (w16 m hm) (fun H17 w18 => vt_retv rfl w18)))))))))))))))))))))))))))))))))))))) (fun hc2 => vt_aload_n rfl h0 rfl
 (vt_getf rfl rfl rfl
 (vt_iconst rfl
 (vt_icmp rfl (fun hc19 => vt_aload_n rfl h0 rfl
 (vt_getr rfl rfl rfl
 (vt_iconst rfl
 (vt_callS rfl rfl (fun _ => rfl) (fun m hm => vt_void ((((W.1 hc1).2 hc2).1 hc19) m hm) (fun H20 w21 => vt_aload_n rfl h0 rfl
 (vt_getr rfl rfl rfl
 (vt_iconst rfl
 (vt_callS rfl rfl (fun _ => rfl) (fun m hm => vt_void (w21 m hm) (fun H22 w23 => vt_aload_n rfl h0 rfl
 (vt_getr rfl rfl rfl
 (vt_iconst rfl
 (vt_callS rfl rfl (fun _ => rfl) (fun m hm => vt_void (w23 m hm) (fun H24 w25 => vt_aload_n rfl h0 rfl
 (vt_getr rfl rfl rfl
 (vt_iconst rfl
 (vt_callS rfl rfl (fun _ => rfl) (fun m hm => vt_void (w25 m hm) (fun H26 w27 => vt_aload_n rfl h0 rfl
 (vt_getr rfl rfl rfl
 (vt_iconst rfl
 (vt_callS rfl rfl (fun _ => rfl) (fun m hm => vt_void (w27 m hm) (fun H28 w29 => vt_aload_n rfl h0 rfl
 (vt_getr rfl rfl rfl
 (vt_iconst rfl
 (vt_callS rfl rfl (fun _ => rfl) (fun m hm => vt_void (w29 m hm) (fun H30 w31 => vt_aload_n rfl h0 rfl
 (vt_getr rfl rfl rfl
 (vt_callV rfl rfl (fun _ => rfl) (fun m hm => vt_void (w31 m hm) (fun H32 w33 => vt_aload_n rfl h0 rfl
 (vt_callV rfl rfl (fun _ => rfl) (fun m hm => vt_void (w33 m hm) (fun H34 w35 => vt_retv rfl w35)))))))))))))))))))))))))))))))))))))) (fun hc19 => vt_aload_n rfl h0 rfl
 (vt_getr rfl rfl rfl
 (vt_aload_n rfl h0 rfl
 (vt_mv (fun _ _ => rfl)
 (vt_getf rfl rfl rfl
 (vt_mv (fun _ _ => rfl)
 (vt_iconst rfl
 (vt_iadd rfl
 (vt_putf rfl rfl rfl (vt_nm (fun H36 e37 => vt_iload_n rfl h1
 (vt_iast rfl rfl (fun hf40 => vt_nm (fun H38 e39 => vt_aload_n rfl h0 rfl
 (vt_getr rfl rfl rfl
 (vt_iconst rfl
 (vt_callS rfl rfl (fun _ => rfl) (fun m hm => vt_void ((((((W.1 hc1).2 hc2).2 hc19) H36 e37) hf40 H38 e39) m hm) (fun H41 w42 => vt_aload_n rfl h0 rfl
 (vt_getr rfl rfl rfl
 (vt_iconst rfl
 (vt_callS rfl rfl (fun _ => rfl) (fun m hm => vt_void (w42 m hm) (fun H43 w44 => vt_aload_n rfl h0 rfl
 (vt_getr rfl rfl rfl
 (vt_iconst rfl
 (vt_callS rfl rfl (fun _ => rfl) (fun m hm => vt_void (w44 m hm) (fun H45 w46 => vt_aload_n rfl h0 rfl
 (vt_getr rfl rfl rfl
 (vt_iconst rfl
 (vt_callS rfl rfl (fun _ => rfl) (fun m hm => vt_void (w46 m hm) (fun H47 w48 => vt_aload_n rfl h0 rfl
 (vt_getr rfl rfl rfl
 (vt_iconst rfl
 (vt_callS rfl rfl (fun _ => rfl) (fun m hm => vt_void (w48 m hm) (fun H49 w50 => vt_aload_n rfl h0 rfl
 (vt_getr rfl rfl rfl
 (vt_iconst rfl
 (vt_callS rfl rfl (fun _ => rfl) (fun m hm => vt_void (w50 m hm) (fun H51 w52 => vt_aload_n rfl h0 rfl
 (vt_getr rfl rfl rfl
 (vt_callV rfl rfl (fun _ => rfl) (fun m hm => vt_void (w52 m hm) (fun H53 w54 => vt_aload_n rfl h0 rfl
 (vt_callV rfl rfl (fun _ => rfl) (fun m hm => vt_void (w54 m hm) (fun H55 w56 => vt_retv rfl w56))))))))))))))))))))))))))))))))))))))))))))))))))))))))) (fun hc1 => vt_iload_n rfl h3
 (vt_iload_n rfl h2
 (vt_icmp rfl (fun hc57 => vt_iincA rfl h3 (fun hl58 => vt_gotoS rfl (fun m hm => (((W.2 hc1).1 hc57) m hm) _ (fl_lsn (by decide) h0) (fl_lsn (by decide) h1) (fl_lsn (by decide) h2) (fl_lse hl58)))) (fun hc57 => vt_aload_n rfl h0 rfl
 (vt_getr rfl rfl rfl
 (vt_aload_n rfl h0 rfl
 (vt_mv (fun _ _ => rfl)
 (vt_getf rfl rfl rfl
 (vt_mv (fun _ _ => rfl)
 (vt_iconst rfl
 (vt_iadd rfl
 (vt_putf rfl rfl rfl (vt_nm (fun H59 e60 => vt_aload_n rfl h0 rfl
 (vt_getr rfl rfl rfl
 (vt_getr rfl rfl rfl
 (vt_iload_n rfl h3
 (vt_iald rfl rfl (fun hf61 => vt_iast rfl rfl (fun hf64 => vt_nm (fun H62 e63 => vt_iincA rfl h3 (fun hl65 => vt_gotoS rfl (fun m hm => ((((((W.2 hc1).2 hc57) H59 e60) hf61) hf64 H62 e63) m hm) _ (fl_lsn (by decide) h0) (fl_lsn (by decide) h1) (fl_lsn (by decide) h2) (fl_lse hl65))))))))))))))))))))))))))))
theorem ve_Draft_begin_69 {X : Term} {xs : List Int32} {N : Nat} {H : fl_H} {a1 a2 : Int} {Q : Option Int → fl_H → Prop} (W : ∀ H1, H1 = fl_up H 69 2 0 → (hd_Draft_begin_69_7 (cm_pg X xs) N H1 a1 a2 0 Q))  : ck (cm_pg X xs) N cm_m13 [.index 69, fl_t a1, fl_t a2] H Q :=
  vt_aload_n rfl rfl rfl
 (vt_iconst rfl
 (vt_putf rfl rfl rfl (vt_nm (fun H1 e2 => vt_iconst rfl
 (vt_istore_n rfl
 ((W H1 e2) _ rfl rfl rfl rfl))))))
def hd_Draft_measureOpen_69_29 (P : cm_G) (N : Nat) (H : fl_H) (a1 : Int) (Q : Option Int → fl_H → Prop) : Prop := ∀ lv : cm_Lv, cm_nth lv 0 = some (some (.index 69)) → cm_nth lv 1 = some (some (fl_t a1)) → vt P N cm_m14 29 lv [] H Q
theorem vh_Draft_measureOpen_69_29 {X : Term} {xs : List Int32} {N : Nat} {H : fl_H} {a1 : Int} {Q : Option Int → fl_H → Prop} (W : ((fl_w a1 < 0) → Q none H) ∧ (¬ (fl_w a1 < 0) → ∀ m, m < N → ck (cm_pg X xs) m cm_m45 [.index 3, fl_t (2 * a1)] H (fun r H2 => ∃ x4, r = some x4 ∧ (∀ m, m < N → ck (cm_pg X xs) m cm_m45 [.index 3, fl_t ((2 * a1) + 1)] H2 (fun r H5 => ∃ x7, r = some x7 ∧ ((0 ≤ fl_w (a1 + 1) ∧ fl_w (a1 + 1) < 7 → (0 ≤ fl_w a1 ∧ fl_w a1 < 7 → ∀ H10, H10 = fl_up H5 78 (fl_w a1).toNat ((H5 78 (fl_w (a1 + 1)).toNat) + (max (fl_w x4) (fl_w x7))) → ∀ m, m < N → hd_Draft_measureOpen_69_29 (cm_pg X xs) m H10 (a1 + (-1)) Q)))))))) : hd_Draft_measureOpen_69_29 (cm_pg X xs) N H a1 Q :=
 fun lv h0 h1 =>
 vt_iload_n rfl h1
 (vt_ifc rfl (fun hc1 => vt_retv rfl (W.1 hc1)) (fun hc1 => vt_aload_n rfl h0 rfl
 (vt_getr rfl rfl rfl
 (vt_getr rfl rfl rfl
 (vt_iconst rfl
 (vt_iload_n rfl h1
 (vt_imul rfl
 (vt_callV rfl rfl (fun _ => rfl) (fun m hm => vt_int ((W.2 hc1) m hm) (fun x4 H2 w3 => vt_aload_n rfl h0 rfl
 (vt_getr rfl rfl rfl
 (vt_getr rfl rfl rfl
 (vt_iconst rfl
 (vt_iload_n rfl h1
 (vt_imul rfl
 (vt_iconst rfl
 (vt_iadd rfl
 (vt_callV rfl rfl (fun _ => rfl) (fun m hm => vt_int (w3 m hm) (fun x7 H5 w6 => vt_max rfl
 (vt_istore_nA rfl (fun hl8 => vt_aload_n rfl (fl_lsn (by decide) h0) rfl
 (vt_getr rfl rfl rfl
 (vt_iload_n rfl (fl_lsn (by decide) h1)
 (vt_aload_n rfl (fl_lsn (by decide) h0) rfl
 (vt_getr rfl rfl rfl
 (vt_iload_n rfl (fl_lsn (by decide) h1)
 (vt_iconst rfl
 (vt_iadd rfl
 (vt_iald rfl rfl (fun hf9 => vt_iload_n rfl (fl_lse hl8)
 (vt_iadd rfl
 (vt_iast rfl rfl (fun hf12 => vt_nm (fun H10 e11 => vt_iincA rfl (fl_lsn (by decide) h1) (fun hl13 => vt_gotoS rfl (fun m hm => (((w6 hf9) hf12 H10 e11) m hm) _ (fl_lsn (by decide) (fl_lsn (by decide) h0)) (fl_lse hl13))))))))))))))))))))))))))))))))))))))
theorem ve_Draft_measureOpen_69 {X : Term} {xs : List Int32} {N : Nat} {H : fl_H} {Q : Option Int → fl_H → Prop} (W : (0 ≤ fl_w (H 3 0) ∧ fl_w (H 3 0) < 7 → ∀ H1, H1 = fl_up H 78 (fl_w (H 3 0)).toNat 0 → hd_Draft_measureOpen_69_29 (cm_pg X xs) N H1 ((H1 3 0) - 1) Q))  : ck (cm_pg X xs) N cm_m14 [.index 69] H Q :=
  vt_aload_n rfl rfl rfl
 (vt_getr rfl rfl rfl
 (vt_aload_n rfl rfl rfl
 (vt_getr rfl rfl rfl
 (vt_getr rfl rfl rfl
 (vt_getf rfl rfl rfl
 (vt_iconst rfl
 (vt_iast rfl rfl (fun hf3 => vt_nm (fun H1 e2 => vt_aload_n rfl rfl rfl
 (vt_getr rfl rfl rfl
 (vt_getr rfl rfl rfl
 (vt_getf rfl rfl rfl
 (vt_iconst rfl
 (vt_isub rfl
 (vt_istore_n rfl
 ((W hf3 H1 e2) _ rfl rfl))))))))))))))))
def hd_Floor_measureOnce_64_18 (P : cm_G) (N : Nat) (H : fl_H) (a1 : Int) (Q : Option Int → fl_H → Prop) : Prop := ∀ lv : cm_Lv, cm_nth lv 0 = some (some (.index 64)) → cm_nth lv 1 = some (some (fl_t a1)) → vt P N cm_m32 18 lv [] H Q
def hd_Floor_measureOnce_64_47 (P : cm_G) (N : Nat) (H : fl_H) (a1 : Int) (a2 : Int) (Q : Option Int → fl_H → Prop) : Prop := ∀ lv : cm_Lv, cm_nth lv 0 = some (some (.index 64)) → cm_nth lv 1 = some (some (fl_t a1)) → cm_nth lv 2 = some (some (fl_t a2)) → vt P N cm_m32 47 lv [] H Q
theorem vh_Floor_measureOnce_64_18 {X : Term} {xs : List Int32} {N : Nat} {H : fl_H} {a1 : Int} {Q : Option Int → fl_H → Prop} (W : ((fl_w (2 * (H 3 0)) ≤ fl_w a1) → ∀ H2, H2 = fl_up H 64 5 1 → (Q none H2)) ∧ (¬ (fl_w (2 * (H 3 0)) ≤ fl_w a1) → ∀ m, m < N → ck (cm_pg X xs) m cm_m45 [.index 3, fl_t a1] H (fun r H4 => ∃ x6, r = some x6 ∧ ((0 ≤ fl_w a1 ∧ fl_w a1 < 12 → ∀ H7, H7 = fl_up H4 67 (fl_w a1).toNat x6 → hd_Floor_measureOnce_64_47 (cm_pg X xs) N H7 a1 0 Q))))) : hd_Floor_measureOnce_64_18 (cm_pg X xs) N H a1 Q :=
 fun lv h0 h1 =>
 vt_iload_n rfl h1
 (vt_iconst rfl
 (vt_aload_n rfl h0 rfl
 (vt_getr rfl rfl rfl
 (vt_getf rfl rfl rfl
 (vt_imul rfl
 (vt_icmp rfl (fun hc1 => vt_aload_n rfl h0 rfl
 (vt_iconst rfl
 (vt_putf rfl rfl rfl (vt_nm (fun H2 e3 => vt_retv rfl ((W.1 hc1) H2 e3)))))) (fun hc1 => vt_aload_n rfl h0 rfl
 (vt_getr rfl rfl rfl
 (vt_iload_n rfl h1
 (vt_aload_n rfl h0 rfl
 (vt_getr rfl rfl rfl
 (vt_iload_n rfl h1
 (vt_callV rfl rfl (fun _ => rfl) (fun m hm => vt_int ((W.2 hc1) m hm) (fun x6 H4 w5 => vt_iast rfl rfl (fun hf9 => vt_nm (fun H7 e8 => vt_iconst rfl
 (vt_istore_nA rfl (fun hl10 => (w5 hf9 H7 e8) _ (fl_lsn (by decide) h0) (fl_lsn (by decide) h1) (fl_lse hl10))))))))))))))))))))
theorem vh_Floor_measureOnce_64_47 {X : Term} {xs : List Int32} {N : Nat} {H : fl_H} {a1 : Int} {a2 : Int} {Q : Option Int → fl_H → Prop} (W : ((16 ≤ fl_w a2) → ∀ m, m < N → hd_Floor_measureOnce_64_18 (cm_pg X xs) m H (a1 + 1) Q) ∧ (¬ (16 ≤ fl_w a2) → ∀ m, m < N → ck (cm_pg X xs) m cm_m33 [.index 64, fl_t a1, fl_t a2] H (fun r H3 => ∃ x5, r = some x5 ∧ ((0 ≤ fl_w ((a1 * 16) + a2) ∧ fl_w ((a1 * 16) + a2) < 192 → ∀ H6, H6 = fl_up H3 66 (fl_w ((a1 * 16) + a2)).toNat x5 → ∀ m, m < N → hd_Floor_measureOnce_64_47 (cm_pg X xs) m H6 a1 (a2 + 1) Q))))) : hd_Floor_measureOnce_64_47 (cm_pg X xs) N H a1 a2 Q :=
 fun lv h0 h1 h2 =>
 vt_iload_n rfl h2
 (vt_bipush (v := 16) rfl (by decide)
 (vt_icmp rfl (fun hc1 => vt_iincA rfl h1 (fun hl2 => vt_gotoS rfl (fun m hm => ((W.1 hc1) m hm) _ (fl_lsn (by decide) h0) (fl_lse hl2)))) (fun hc1 => vt_aload_n rfl h0 rfl
 (vt_getr rfl rfl rfl
 (vt_iload_n rfl h1
 (vt_bipush (v := 16) rfl (by decide)
 (vt_imul rfl
 (vt_iload_n rfl h2
 (vt_iadd rfl
 (vt_aload_n rfl h0 rfl
 (vt_iload_n rfl h1
 (vt_iload_n rfl h2
 (vt_callV rfl rfl (fun _ => rfl) (fun m hm => vt_int ((W.2 hc1) m hm) (fun x5 H3 w4 => vt_iast rfl rfl (fun hf8 => vt_nm (fun H6 e7 => vt_iincA rfl h2 (fun hl9 => vt_gotoS rfl (fun m hm => ((w4 hf8 H6 e7) m hm) _ (fl_lsn (by decide) h0) (fl_lsn (by decide) h1) (fl_lse hl9))))))))))))))))))))
theorem ve_Floor_measureOnce_64 {X : Term} {xs : List Int32} {N : Nat} {H : fl_H} {Q : Option Int → fl_H → Prop} (W : ((fl_w (H 64 5) = 0) → ∀ m, m < N → ck (cm_pg X xs) m cm_m250 [.index 65, fl_t 0] H (fun r H2 => r = none ∧ (hd_Floor_measureOnce_64_18 (cm_pg X xs) N H2 0 Q))) ∧ (¬ (fl_w (H 64 5) = 0) → Q none H))  : ck (cm_pg X xs) N cm_m32 [.index 64] H Q :=
  vt_aload_n rfl rfl rfl
 (vt_getf rfl rfl rfl
 (vt_ifc rfl (fun hc1 => vt_aload_n rfl rfl rfl
 (vt_getr rfl rfl rfl
 (vt_iconst rfl
 (vt_callS rfl rfl (fun _ => rfl) (fun m hm => vt_void ((W.1 hc1) m hm) (fun H2 w3 => vt_iconst rfl
 (vt_istore_n rfl
 (w3 _ rfl rfl)))))))) (fun hc1 => vt_retv rfl (W.2 hc1))))
def hd_Floor_cover_64_56 (P : cm_G) (N : Nat) (H : fl_H) (a1 : Int) (a2 : Int) (a3 : Int) (a4 : Int) (a5 : Int) (Q : Option Int → fl_H → Prop) : Prop := ∀ lv : cm_Lv, cm_nth lv 0 = some (some (.index 64)) → cm_nth lv 1 = some (some (fl_t a1)) → cm_nth lv 2 = some (some (fl_t a2)) → cm_nth lv 3 = some (some (fl_t a3)) → cm_nth lv 4 = some (some (fl_t a4)) → cm_nth lv 5 = some (some (fl_t a5)) → vt P N cm_m33 56 lv [] H Q
theorem vh_Floor_cover_64_56 {X : Term} {xs : List Int32} {N : Nat} {H : fl_H} {a1 : Int} {a2 : Int} {a3 : Int} {a4 : Int} {a5 : Int} {Q : Option Int → fl_H → Prop} (W : (0 ≤ fl_w a1 ∧ fl_w a1 < 12 → ((fl_w (H 7 (fl_w a1).toNat) ≤ fl_w a5) → Q (some (fl_shl a4 a2)) H) ∧ (¬ (fl_w (H 7 (fl_w a1).toNat) ≤ fl_w a5) → ∀ m, m < N → hd_Floor_cover_64_56 (cm_pg X xs) m H a1 a2 a3 (fl_or a4 (fl_shl a3 (4 * a5))) (a5 + 1) Q))) : hd_Floor_cover_64_56 (cm_pg X xs) N H a1 a2 a3 a4 a5 Q :=
 fun lv h0 h1 h2 h3 h4 h5 =>
 vt_iload rfl h5
 (vt_aload_n rfl h0 rfl
 (vt_getr rfl rfl rfl
 (vt_getr rfl rfl rfl
 (vt_iload_n rfl h1
 (vt_iald rfl rfl (fun hf1 => vt_icmp rfl (fun hc2 => vt_iload rfl h4
 (vt_iload_n rfl h2
 (vt_ishl rfl
 (vt_ret rfl ((W hf1).1 hc2))))) (fun hc2 => vt_iload rfl h4
 (vt_iload_n rfl h3
 (vt_iconst rfl
 (vt_iload rfl h5
 (vt_imul rfl
 (vt_ishl rfl
 (vt_ior rfl
 (vt_istoreA rfl (fun hl3 => vt_iincA rfl (fl_lsn (by decide) h5) (fun hl4 => vt_gotoS rfl (fun m hm => (((W hf1).2 hc2) m hm) _ (fl_lsn (by decide) (fl_lsn (by decide) h0)) (fl_lsn (by decide) (fl_lsn (by decide) h1)) (fl_lsn (by decide) (fl_lsn (by decide) h2)) (fl_lsn (by decide) (fl_lsn (by decide) h3)) (fl_lsn (by decide) (fl_lse hl3)) (fl_lse hl4))))))))))))))))))
theorem ve_Floor_cover_64 {X : Term} {xs : List Int32} {N : Nat} {H : fl_H} {a1 a2 : Int} {Q : Option Int → fl_H → Prop} (W : (0 ≤ fl_w a1 ∧ fl_w a1 < 12 → ((4 < fl_w ((fl_rem a2 4) + (H 6 (fl_w a1).toNat))) → Q (some 0) H) ∧ (¬ (4 < fl_w ((fl_rem a2 4) + (H 6 (fl_w a1).toNat))) → (0 ≤ fl_w a1 ∧ fl_w a1 < 12 → ((fl_w ((fl_div a2 4) + (H 7 (fl_w a1).toNat)) ≤ 4) → (0 ≤ fl_w a1 ∧ fl_w a1 < 12 → hd_Floor_cover_64_56 (cm_pg X xs) N H a1 a2 ((fl_shl 1 (H 6 (fl_w a1).toNat)) - 1) 0 0 Q)) ∧ (¬ (fl_w ((fl_div a2 4) + (H 7 (fl_w a1).toNat)) ≤ 4) → Q (some 0) H)))))  : ck (cm_pg X xs) N cm_m33 [.index 64, fl_t a1, fl_t a2] H Q :=
  vt_iload_n rfl rfl
 (vt_iconst rfl
 (vt_irem rfl
 (vt_aload_n rfl rfl rfl
 (vt_getr rfl rfl rfl
 (vt_getr rfl rfl rfl
 (vt_iload_n rfl rfl
 (vt_iald rfl rfl (fun hf1 => vt_iadd rfl
 (vt_iconst rfl
 (vt_icmp rfl (fun hc2 => vt_iconst rfl
 (vt_ret rfl ((W hf1).1 hc2))) (fun hc2 => vt_iload_n rfl rfl
 (vt_iconst rfl
 (vt_idiv rfl
 (vt_aload_n rfl rfl rfl
 (vt_getr rfl rfl rfl
 (vt_getr rfl rfl rfl
 (vt_iload_n rfl rfl
 (vt_iald rfl rfl (fun hf3 => vt_iadd rfl
 (vt_iconst rfl
 (vt_icmp rfl (fun hc4 => vt_iconst rfl
 (vt_aload_n rfl rfl rfl
 (vt_getr rfl rfl rfl
 (vt_getr rfl rfl rfl
 (vt_iload_n rfl rfl
 (vt_iald rfl rfl (fun hf5 => vt_ishl rfl
 (vt_iconst rfl
 (vt_isub rfl
 (vt_istore_n rfl
 (vt_iconst rfl
 (vt_istore rfl
 (vt_iconst rfl
 (vt_istore rfl
 ((((((W hf1).2 hc2) hf3).1 hc4) hf5) _ rfl rfl rfl rfl rfl rfl))))))))))))))) (fun hc4 => vt_iconst rfl
 (vt_ret rfl ((((W hf1).2 hc2) hf3).2 hc4))))))))))))))))))))))))
def hd_Arrays_fill_65_5 (P : cm_G) (N : Nat) (H : fl_H) (a1 : Int) (a2 : Int) (a3 : Int) (Q : Option Int → fl_H → Prop) : Prop := ∀ lv : cm_Lv, cm_nth lv 0 = some (some (.index 65)) → cm_nth lv 1 = some (some (fl_t a1)) → cm_nth lv 2 = some (some (fl_t a2)) → cm_nth lv 3 = some (some (fl_t a3)) → vt P N cm_m250 5 lv [] H Q
theorem vh_Arrays_fill_65_5 {X : Term} {xs : List Int32} {N : Nat} {H : fl_H} {a1 : Int} {a2 : Int} {a3 : Int} {Q : Option Int → fl_H → Prop} (W : ((fl_w a3 ≤ fl_w a2) → Q none H) ∧ (¬ (fl_w a3 ≤ fl_w a2) → (0 ≤ fl_w a2 ∧ fl_w a2 < 729 → ∀ H2, H2 = fl_up H 65 (fl_w a2).toNat (fl_i2b a1) → ∀ m, m < N → hd_Arrays_fill_65_5 (cm_pg X xs) m H2 a1 (a2 + 1) a3 Q))) : hd_Arrays_fill_65_5 (cm_pg X xs) N H a1 a2 a3 Q :=
 fun lv h0 h1 h2 h3 =>
 vt_iload_n rfl h2
 (vt_iload_n rfl h3
 (vt_icmp rfl (fun hc1 => vt_retv rfl (W.1 hc1)) (fun hc1 => vt_aload_n rfl h0 rfl
 (vt_iload_n rfl h2
 (vt_iload_n rfl h1
 (vt_bast rfl rfl (fun hf4 => vt_nm (fun H2 e3 => vt_iincA rfl h2 (fun hl5 => vt_gotoS rfl (fun m hm => (((W.2 hc1) hf4 H2 e3) m hm) _ (fl_lsn (by decide) h0) (fl_lsn (by decide) h1) (fl_lse hl5) (fl_lsn (by decide) h3)))))))))))
theorem ve_Arrays_fill_65 {X : Term} {xs : List Int32} {N : Nat} {H : fl_H} {a1 : Int} {Q : Option Int → fl_H → Prop} (W : hd_Arrays_fill_65_5 (cm_pg X xs) N H a1 0 729 Q)  : ck (cm_pg X xs) N cm_m250 [.index 65, fl_t a1] H Q :=
  vt_iconst rfl
 (vt_istore_n rfl
 (vt_aload_n rfl rfl rfl
 (vt_alen (n := 729) rfl rfl
 (vt_istore_n rfl
 (W _ rfl rfl rfl rfl)))))
def hd_Arrays_fill_77_5 (P : cm_G) (N : Nat) (H : fl_H) (a1 : Int) (a2 : Int) (a3 : Int) (Q : Option Int → fl_H → Prop) : Prop := ∀ lv : cm_Lv, cm_nth lv 0 = some (some (.index 77)) → cm_nth lv 1 = some (some (fl_t a1)) → cm_nth lv 2 = some (some (fl_t a2)) → cm_nth lv 3 = some (some (fl_t a3)) → vt P N cm_m249 5 lv [] H Q
theorem vh_Arrays_fill_77_5 {X : Term} {xs : List Int32} {N : Nat} {H : fl_H} {a1 : Int} {a2 : Int} {a3 : Int} {Q : Option Int → fl_H → Prop} (W : ((fl_w a3 ≤ fl_w a2) → Q none H) ∧ (¬ (fl_w a3 ≤ fl_w a2) → (0 ≤ fl_w a2 ∧ fl_w a2 < 4 → ∀ H2, H2 = fl_up H 77 (fl_w a2).toNat a1 → ∀ m, m < N → hd_Arrays_fill_77_5 (cm_pg X xs) m H2 a1 (a2 + 1) a3 Q))) : hd_Arrays_fill_77_5 (cm_pg X xs) N H a1 a2 a3 Q :=
 fun lv h0 h1 h2 h3 =>
 vt_iload_n rfl h2
 (vt_iload_n rfl h3
 (vt_icmp rfl (fun hc1 => vt_retv rfl (W.1 hc1)) (fun hc1 => vt_aload_n rfl h0 rfl
 (vt_iload_n rfl h2
 (vt_iload_n rfl h1
 (vt_iast rfl rfl (fun hf4 => vt_nm (fun H2 e3 => vt_iincA rfl h2 (fun hl5 => vt_gotoS rfl (fun m hm => (((W.2 hc1) hf4 H2 e3) m hm) _ (fl_lsn (by decide) h0) (fl_lsn (by decide) h1) (fl_lse hl5) (fl_lsn (by decide) h3)))))))))))
theorem ve_Arrays_fill_77 {X : Term} {xs : List Int32} {N : Nat} {H : fl_H} {a1 : Int} {Q : Option Int → fl_H → Prop} (W : hd_Arrays_fill_77_5 (cm_pg X xs) N H a1 0 4 Q)  : ck (cm_pg X xs) N cm_m249 [.index 77, fl_t a1] H Q :=
  vt_iconst rfl
 (vt_istore_n rfl
 (vt_aload_n rfl rfl rfl
 (vt_alen (n := 4) rfl rfl
 (vt_istore_n rfl
 (W _ rfl rfl rfl rfl)))))
def hd_Arrays_fill_76_5 (P : cm_G) (N : Nat) (H : fl_H) (a1 : Int) (a2 : Int) (a3 : Int) (Q : Option Int → fl_H → Prop) : Prop := ∀ lv : cm_Lv, cm_nth lv 0 = some (some (.index 76)) → cm_nth lv 1 = some (some (fl_t a1)) → cm_nth lv 2 = some (some (fl_t a2)) → cm_nth lv 3 = some (some (fl_t a3)) → vt P N cm_m249 5 lv [] H Q
theorem vh_Arrays_fill_76_5 {X : Term} {xs : List Int32} {N : Nat} {H : fl_H} {a1 : Int} {a2 : Int} {a3 : Int} {Q : Option Int → fl_H → Prop} (W : ((fl_w a3 ≤ fl_w a2) → Q none H) ∧ (¬ (fl_w a3 ≤ fl_w a2) → (0 ≤ fl_w a2 ∧ fl_w a2 < 3 → ∀ H2, H2 = fl_up H 76 (fl_w a2).toNat a1 → ∀ m, m < N → hd_Arrays_fill_76_5 (cm_pg X xs) m H2 a1 (a2 + 1) a3 Q))) : hd_Arrays_fill_76_5 (cm_pg X xs) N H a1 a2 a3 Q :=
 fun lv h0 h1 h2 h3 =>
 vt_iload_n rfl h2
 (vt_iload_n rfl h3
 (vt_icmp rfl (fun hc1 => vt_retv rfl (W.1 hc1)) (fun hc1 => vt_aload_n rfl h0 rfl
 (vt_iload_n rfl h2
 (vt_iload_n rfl h1
 (vt_iast rfl rfl (fun hf4 => vt_nm (fun H2 e3 => vt_iincA rfl h2 (fun hl5 => vt_gotoS rfl (fun m hm => (((W.2 hc1) hf4 H2 e3) m hm) _ (fl_lsn (by decide) h0) (fl_lsn (by decide) h1) (fl_lse hl5) (fl_lsn (by decide) h3)))))))))))
theorem ve_Arrays_fill_76 {X : Term} {xs : List Int32} {N : Nat} {H : fl_H} {a1 : Int} {Q : Option Int → fl_H → Prop} (W : hd_Arrays_fill_76_5 (cm_pg X xs) N H a1 0 3 Q)  : ck (cm_pg X xs) N cm_m249 [.index 76, fl_t a1] H Q :=
  vt_iconst rfl
 (vt_istore_n rfl
 (vt_aload_n rfl rfl rfl
 (vt_alen (n := 3) rfl rfl
 (vt_istore_n rfl
 (W _ rfl rfl rfl rfl)))))
def hd_Arrays_fill_75_5 (P : cm_G) (N : Nat) (H : fl_H) (a1 : Int) (a2 : Int) (a3 : Int) (Q : Option Int → fl_H → Prop) : Prop := ∀ lv : cm_Lv, cm_nth lv 0 = some (some (.index 75)) → cm_nth lv 1 = some (some (fl_t a1)) → cm_nth lv 2 = some (some (fl_t a2)) → cm_nth lv 3 = some (some (fl_t a3)) → vt P N cm_m249 5 lv [] H Q
theorem vh_Arrays_fill_75_5 {X : Term} {xs : List Int32} {N : Nat} {H : fl_H} {a1 : Int} {a2 : Int} {a3 : Int} {Q : Option Int → fl_H → Prop} (W : ((fl_w a3 ≤ fl_w a2) → Q none H) ∧ (¬ (fl_w a3 ≤ fl_w a2) → (0 ≤ fl_w a2 ∧ fl_w a2 < 3 → ∀ H2, H2 = fl_up H 75 (fl_w a2).toNat a1 → ∀ m, m < N → hd_Arrays_fill_75_5 (cm_pg X xs) m H2 a1 (a2 + 1) a3 Q))) : hd_Arrays_fill_75_5 (cm_pg X xs) N H a1 a2 a3 Q :=
 fun lv h0 h1 h2 h3 =>
 vt_iload_n rfl h2
 (vt_iload_n rfl h3
 (vt_icmp rfl (fun hc1 => vt_retv rfl (W.1 hc1)) (fun hc1 => vt_aload_n rfl h0 rfl
 (vt_iload_n rfl h2
 (vt_iload_n rfl h1
 (vt_iast rfl rfl (fun hf4 => vt_nm (fun H2 e3 => vt_iincA rfl h2 (fun hl5 => vt_gotoS rfl (fun m hm => (((W.2 hc1) hf4 H2 e3) m hm) _ (fl_lsn (by decide) h0) (fl_lsn (by decide) h1) (fl_lse hl5) (fl_lsn (by decide) h3)))))))))))
theorem ve_Arrays_fill_75 {X : Term} {xs : List Int32} {N : Nat} {H : fl_H} {a1 : Int} {Q : Option Int → fl_H → Prop} (W : hd_Arrays_fill_75_5 (cm_pg X xs) N H a1 0 3 Q)  : ck (cm_pg X xs) N cm_m249 [.index 75, fl_t a1] H Q :=
  vt_iconst rfl
 (vt_istore_n rfl
 (vt_aload_n rfl rfl rfl
 (vt_alen (n := 3) rfl rfl
 (vt_istore_n rfl
 (W _ rfl rfl rfl rfl)))))
def hd_Arrays_fill_74_5 (P : cm_G) (N : Nat) (H : fl_H) (a1 : Int) (a2 : Int) (a3 : Int) (Q : Option Int → fl_H → Prop) : Prop := ∀ lv : cm_Lv, cm_nth lv 0 = some (some (.index 74)) → cm_nth lv 1 = some (some (fl_t a1)) → cm_nth lv 2 = some (some (fl_t a2)) → cm_nth lv 3 = some (some (fl_t a3)) → vt P N cm_m249 5 lv [] H Q
theorem vh_Arrays_fill_74_5 {X : Term} {xs : List Int32} {N : Nat} {H : fl_H} {a1 : Int} {a2 : Int} {a3 : Int} {Q : Option Int → fl_H → Prop} (W : ((fl_w a3 ≤ fl_w a2) → Q none H) ∧ (¬ (fl_w a3 ≤ fl_w a2) → (0 ≤ fl_w a2 ∧ fl_w a2 < 3 → ∀ H2, H2 = fl_up H 74 (fl_w a2).toNat a1 → ∀ m, m < N → hd_Arrays_fill_74_5 (cm_pg X xs) m H2 a1 (a2 + 1) a3 Q))) : hd_Arrays_fill_74_5 (cm_pg X xs) N H a1 a2 a3 Q :=
 fun lv h0 h1 h2 h3 =>
 vt_iload_n rfl h2
 (vt_iload_n rfl h3
 (vt_icmp rfl (fun hc1 => vt_retv rfl (W.1 hc1)) (fun hc1 => vt_aload_n rfl h0 rfl
 (vt_iload_n rfl h2
 (vt_iload_n rfl h1
 (vt_iast rfl rfl (fun hf4 => vt_nm (fun H2 e3 => vt_iincA rfl h2 (fun hl5 => vt_gotoS rfl (fun m hm => (((W.2 hc1) hf4 H2 e3) m hm) _ (fl_lsn (by decide) h0) (fl_lsn (by decide) h1) (fl_lse hl5) (fl_lsn (by decide) h3)))))))))))
theorem ve_Arrays_fill_74 {X : Term} {xs : List Int32} {N : Nat} {H : fl_H} {a1 : Int} {Q : Option Int → fl_H → Prop} (W : hd_Arrays_fill_74_5 (cm_pg X xs) N H a1 0 3 Q)  : ck (cm_pg X xs) N cm_m249 [.index 74, fl_t a1] H Q :=
  vt_iconst rfl
 (vt_istore_n rfl
 (vt_aload_n rfl rfl rfl
 (vt_alen (n := 3) rfl rfl
 (vt_istore_n rfl
 (W _ rfl rfl rfl rfl)))))
def hd_Arrays_fill_72_5 (P : cm_G) (N : Nat) (H : fl_H) (a1 : Int) (a2 : Int) (a3 : Int) (Q : Option Int → fl_H → Prop) : Prop := ∀ lv : cm_Lv, cm_nth lv 0 = some (some (.index 72)) → cm_nth lv 1 = some (some (fl_t a1)) → cm_nth lv 2 = some (some (fl_t a2)) → cm_nth lv 3 = some (some (fl_t a3)) → vt P N cm_m249 5 lv [] H Q
theorem vh_Arrays_fill_72_5 {X : Term} {xs : List Int32} {N : Nat} {H : fl_H} {a1 : Int} {a2 : Int} {a3 : Int} {Q : Option Int → fl_H → Prop} (W : ((fl_w a3 ≤ fl_w a2) → Q none H) ∧ (¬ (fl_w a3 ≤ fl_w a2) → (0 ≤ fl_w a2 ∧ fl_w a2 < 6 → ∀ H2, H2 = fl_up H 72 (fl_w a2).toNat a1 → ∀ m, m < N → hd_Arrays_fill_72_5 (cm_pg X xs) m H2 a1 (a2 + 1) a3 Q))) : hd_Arrays_fill_72_5 (cm_pg X xs) N H a1 a2 a3 Q :=
 fun lv h0 h1 h2 h3 =>
 vt_iload_n rfl h2
 (vt_iload_n rfl h3
 (vt_icmp rfl (fun hc1 => vt_retv rfl (W.1 hc1)) (fun hc1 => vt_aload_n rfl h0 rfl
 (vt_iload_n rfl h2
 (vt_iload_n rfl h1
 (vt_iast rfl rfl (fun hf4 => vt_nm (fun H2 e3 => vt_iincA rfl h2 (fun hl5 => vt_gotoS rfl (fun m hm => (((W.2 hc1) hf4 H2 e3) m hm) _ (fl_lsn (by decide) h0) (fl_lsn (by decide) h1) (fl_lse hl5) (fl_lsn (by decide) h3)))))))))))
theorem ve_Arrays_fill_72 {X : Term} {xs : List Int32} {N : Nat} {H : fl_H} {a1 : Int} {Q : Option Int → fl_H → Prop} (W : hd_Arrays_fill_72_5 (cm_pg X xs) N H a1 0 6 Q)  : ck (cm_pg X xs) N cm_m249 [.index 72, fl_t a1] H Q :=
  vt_iconst rfl
 (vt_istore_n rfl
 (vt_aload_n rfl rfl rfl
 (vt_alen (n := 6) rfl rfl
 (vt_istore_n rfl
 (W _ rfl rfl rfl rfl)))))
def hd_Arrays_fill_71_5 (P : cm_G) (N : Nat) (H : fl_H) (a1 : Int) (a2 : Int) (a3 : Int) (Q : Option Int → fl_H → Prop) : Prop := ∀ lv : cm_Lv, cm_nth lv 0 = some (some (.index 71)) → cm_nth lv 1 = some (some (fl_t a1)) → cm_nth lv 2 = some (some (fl_t a2)) → cm_nth lv 3 = some (some (fl_t a3)) → vt P N cm_m249 5 lv [] H Q
theorem vh_Arrays_fill_71_5 {X : Term} {xs : List Int32} {N : Nat} {H : fl_H} {a1 : Int} {a2 : Int} {a3 : Int} {Q : Option Int → fl_H → Prop} (W : ((fl_w a3 ≤ fl_w a2) → Q none H) ∧ (¬ (fl_w a3 ≤ fl_w a2) → (0 ≤ fl_w a2 ∧ fl_w a2 < 6 → ∀ H2, H2 = fl_up H 71 (fl_w a2).toNat a1 → ∀ m, m < N → hd_Arrays_fill_71_5 (cm_pg X xs) m H2 a1 (a2 + 1) a3 Q))) : hd_Arrays_fill_71_5 (cm_pg X xs) N H a1 a2 a3 Q :=
 fun lv h0 h1 h2 h3 =>
 vt_iload_n rfl h2
 (vt_iload_n rfl h3
 (vt_icmp rfl (fun hc1 => vt_retv rfl (W.1 hc1)) (fun hc1 => vt_aload_n rfl h0 rfl
 (vt_iload_n rfl h2
 (vt_iload_n rfl h1
 (vt_iast rfl rfl (fun hf4 => vt_nm (fun H2 e3 => vt_iincA rfl h2 (fun hl5 => vt_gotoS rfl (fun m hm => (((W.2 hc1) hf4 H2 e3) m hm) _ (fl_lsn (by decide) h0) (fl_lsn (by decide) h1) (fl_lse hl5) (fl_lsn (by decide) h3)))))))))))
theorem ve_Arrays_fill_71 {X : Term} {xs : List Int32} {N : Nat} {H : fl_H} {a1 : Int} {Q : Option Int → fl_H → Prop} (W : hd_Arrays_fill_71_5 (cm_pg X xs) N H a1 0 6 Q)  : ck (cm_pg X xs) N cm_m249 [.index 71, fl_t a1] H Q :=
  vt_iconst rfl
 (vt_istore_n rfl
 (vt_aload_n rfl rfl rfl
 (vt_alen (n := 6) rfl rfl
 (vt_istore_n rfl
 (W _ rfl rfl rfl rfl)))))
theorem ve_Answer_tell_92 {X : Term} {xs : List Int32} {N : Nat} {H : fl_H} {a1 : Int} {Q : Option Int → fl_H → Prop} (W : (fl_w a1 = (-2) → Q (some (H 92 3)) H) ∧ (¬ fl_w a1 = (-2) → ((fl_w 0 ≤ fl_w a1 ∧ fl_w a1 ≤ fl_w 5) → (0 ≤ fl_w a1 ∧ fl_w a1 < 6 → Q (some (H 93 (fl_w a1).toNat)) H)) ∧ (¬ (fl_w 0 ≤ fl_w a1 ∧ fl_w a1 ≤ fl_w 5) → Q (some (H 92 2)) H)))  : ck (cm_pg X xs) N cm_m2 [.index 92, fl_t a1] H Q :=
  vt_iload_n rfl rfl
 (vt_bipush (v := (-2)) rfl (by decide)
 (vt_icmpN rfl (fun hc1 => vt_iload_n rfl rfl
 (vt_iconst rfl
 (vt_iconst rfl
 (vt_callS rfl rfl (fun _ => rfl) (fun _ _ => vt_sum (sm_within)
 (vt_ifb rfl (fun hc2 => vt_aload_n rfl rfl rfl
 (vt_getr rfl rfl rfl
 (vt_iload_n rfl rfl
 (vt_iald rfl rfl (fun hf3 => vt_goto rfl
 (vt_ret rfl (((W.2 hc1).1 hc2) hf3))))))) (fun hc2 => vt_aload_n rfl rfl rfl
 (vt_getf rfl rfl rfl
 (vt_ret rfl ((W.2 hc1).2 hc2)))))))))) (fun hc1 => vt_aload_n rfl rfl rfl
 (vt_getf rfl rfl rfl
 (vt_ret rfl (W.1 hc1))))))
theorem ve_GoodsBook_through_0 {X : Term} {xs : List Int32} {N : Nat} {H : fl_H} {a1 : Int} {Q : Option Int → fl_H → Prop} (W : ∀ m, m < N → ck (cm_pg X xs) m cm_m139 [.index 0, fl_t a1] H (fun r H1 => ∃ x3, r = some x3 ∧ ((fl_w x3 = 0 → Q (some (-1000000001)) H1) ∧ (¬ fl_w x3 = 0 → (0 ≤ fl_w a1 ∧ fl_w a1 < 6 → (fl_w (H1 19 (fl_w a1).toNat) = 0 → Q (some (-1000000004)) H1) ∧ (¬ fl_w (H1 19 (fl_w a1).toNat) = 0 → ∀ m, m < N → ck (cm_pg X xs) m cm_m143 [.index 0] H1 (fun r H7 => r = none ∧ (∀ m, m < N → ck (cm_pg X xs) m cm_m19 [.index 69] H7 (fun r H9 => ∃ x11, r = some x11 ∧ (∀ m, m < N → ck (cm_pg X xs) m cm_m21 [.index 69, fl_t a1, fl_t 0] H9 (fun r H12 => ∃ x14, r = some x14 ∧ (∀ m, m < N → ck (cm_pg X xs) m cm_m17 [.index 69, fl_t a1, fl_t 0] H12 (fun r H15 => r = none ∧ (∀ m, m < N → ck (cm_pg X xs) m cm_m19 [.index 69] H15 (fun r H17 => ∃ x19, r = some x19 ∧ (Q (some ((x11 - x14) - x19)) H17))))))))))))))))  : ck (cm_pg X xs) N cm_m126 [.index 0, fl_t a1] H Q :=
  vt_aload_n rfl rfl rfl
 (vt_iload_n rfl rfl
 (vt_callV rfl rfl (fun _ => rfl) (fun m hm => vt_int (W m hm) (fun x3 H1 w2 => vt_ifcN rfl (fun hc4 => vt_aload_n rfl rfl rfl
 (vt_getr rfl rfl rfl
 (vt_getr rfl rfl rfl
 (vt_iload_n rfl rfl
 (vt_iald rfl rfl (fun hf5 => vt_ifcN rfl (fun hc6 => vt_aload_n rfl rfl rfl
 (vt_callV rfl rfl (fun _ => rfl) (fun m hm => vt_void ((((w2.2 hc4) hf5).2 hc6) m hm) (fun H7 w8 => vt_aload_n rfl rfl rfl
 (vt_getr rfl rfl rfl
 (vt_callV rfl rfl (fun _ => rfl) (fun m hm => vt_int (w8 m hm) (fun x11 H9 w10 => vt_aload_n rfl rfl rfl
 (vt_getr rfl rfl rfl
 (vt_iload_n rfl rfl
 (vt_iconst rfl
 (vt_callV rfl rfl (fun _ => rfl) (fun m hm => vt_int (w10 m hm) (fun x14 H12 w13 => vt_isub rfl
 (vt_istore_n rfl
 (vt_aload_n rfl rfl rfl
 (vt_getr rfl rfl rfl
 (vt_iload_n rfl rfl
 (vt_iconst rfl
 (vt_callV rfl rfl (fun _ => rfl) (fun m hm => vt_void (w13 m hm) (fun H15 w16 => vt_iload_n rfl rfl
 (vt_aload_n rfl rfl rfl
 (vt_getr rfl rfl rfl
 (vt_callV rfl rfl (fun _ => rfl) (fun m hm => vt_int (w16 m hm) (fun x19 H17 w18 => vt_isub rfl
 (vt_ret rfl w18)))))))))))))))))))))))))))) (fun hc6 => vt_ldcw (v := (-1000000004)) rfl (by decide)
 (vt_ret rfl (((w2.2 hc4) hf5).1 hc6))))))))) (fun hc4 => vt_ldc (v := (-1000000001)) rfl (by decide)
 (vt_ret rfl (w2.1 hc4)))))))
def hd_Draft_amount_69_17 (P : cm_G) (N : Nat) (H : fl_H) (a1 : Int) (a2 : Int) (Q : Option Int → fl_H → Prop) : Prop := ∀ lv : cm_Lv, cm_nth lv 0 = some (some (.index 69)) → cm_nth lv 1 = some (some (fl_t a1)) → cm_nth lv 2 = some (some (fl_t a2)) → vt P N cm_m19 17 lv [] H Q
theorem vh_Draft_amount_69_17 {X : Term} {xs : List Int32} {N : Nat} {H : fl_H} {a1 : Int} {a2 : Int} {Q : Option Int → fl_H → Prop} (W : ((fl_w (H 9 0) ≤ fl_w a2) → Q (some a1) H) ∧ (¬ (fl_w (H 9 0) ≤ fl_w a2) → ∀ m, m < N → ck (cm_pg X xs) m cm_m24 [.index 69, fl_t a2] H (fun r H2 => ∃ x4, r = some x4 ∧ (∀ m, m < N → hd_Draft_amount_69_17 (cm_pg X xs) m H2 (a1 + x4) (a2 + 1) Q)))) : hd_Draft_amount_69_17 (cm_pg X xs) N H a1 a2 Q :=
 fun lv h0 h1 h2 =>
 vt_iload_n rfl h2
 (vt_aload_n rfl h0 rfl
 (vt_getr rfl rfl rfl
 (vt_getr rfl rfl rfl
 (vt_getf rfl rfl rfl
 (vt_icmp rfl (fun hc1 => vt_iload_n rfl h1
 (vt_ret rfl (W.1 hc1))) (fun hc1 => vt_iload_n rfl h1
 (vt_aload_n rfl h0 rfl
 (vt_iload_n rfl h2
 (vt_callV rfl rfl (fun _ => rfl) (fun m hm => vt_int ((W.2 hc1) m hm) (fun x4 H2 w3 => vt_iadd rfl
 (vt_istore_nA rfl (fun hl5 => vt_iincA rfl (fl_lsn (by decide) h2) (fun hl6 => vt_gotoS rfl (fun m hm => (w3 m hm) _ (fl_lsn (by decide) (fl_lsn (by decide) h0)) (fl_lsn (by decide) (fl_lse hl5)) (fl_lse hl6))))))))))))))))
theorem ve_Draft_amount_69 {X : Term} {xs : List Int32} {N : Nat} {H : fl_H} {Q : Option Int → fl_H → Prop} (W : ∀ m, m < N → ck (cm_pg X xs) m cm_m20 [.index 69, fl_t (H 3 0)] H (fun r H1 => ∃ x3, r = some x3 ∧ (hd_Draft_amount_69_17 (cm_pg X xs) N H1 x3 0 Q)))  : ck (cm_pg X xs) N cm_m19 [.index 69] H Q :=
  vt_aload_n rfl rfl rfl
 (vt_aload_n rfl rfl rfl
 (vt_getr rfl rfl rfl
 (vt_getr rfl rfl rfl
 (vt_getf rfl rfl rfl
 (vt_callV rfl rfl (fun _ => rfl) (fun m hm => vt_int (W m hm) (fun x3 H1 w2 => vt_istore_n rfl
 (vt_iconst rfl
 (vt_istore_n rfl
 (w2 _ rfl rfl rfl))))))))))
theorem ve_GoodsBook_drawPlan_0 {X : Term} {xs : List Int32} {N : Nat} {H : fl_H} {Q : Option Int → fl_H → Prop} (W : ∀ m, m < N → ck (cm_pg X xs) m cm_m13 [.index 69, fl_t (-1), fl_t (-1)] H (fun r H1 => r = none ∧ (∀ m, m < N → ck (cm_pg X xs) m cm_m16 [.index 69, .index 19] H1 (fun r H3 => r = none ∧ (Q none H3)))))  : ck (cm_pg X xs) N cm_m143 [.index 0] H Q :=
  vt_aload_n rfl rfl rfl
 (vt_getr rfl rfl rfl
 (vt_iconst rfl
 (vt_iconst rfl
 (vt_callV rfl rfl (fun _ => rfl) (fun m hm => vt_void (W m hm) (fun H1 w2 => vt_aload_n rfl rfl rfl
 (vt_getr rfl rfl rfl
 (vt_aload_n rfl rfl rfl
 (vt_getr rfl rfl rfl
 (vt_getr rfl rfl rfl
 (vt_callV rfl rfl (fun _ => rfl) (fun m hm => vt_void (w2 m hm) (fun H3 w4 => vt_retv rfl w4)))))))))))))
def hd_Draft_putAll_69_19_2 (P : cm_G) (N : Nat) (H : fl_H) (a2 : Int) (Q : Option Int → fl_H → Prop) : Prop := ∀ lv : cm_Lv, cm_nth lv 0 = some (some (.index 69)) → cm_nth lv 1 = some (some (.index 19)) → cm_nth lv 2 = some (some (fl_t a2)) → vt P N cm_m16 2 lv [] H Q
theorem vh_Draft_putAll_69_19_2 {X : Term} {xs : List Int32} {N : Nat} {H : fl_H} {a2 : Int} {Q : Option Int → fl_H → Prop} (W : ((fl_w (H 3 0) ≤ fl_w a2) → Q none H) ∧ (¬ (fl_w (H 3 0) ≤ fl_w a2) → (0 ≤ fl_w a2 ∧ fl_w a2 < 6 → ∀ m, m < N → ck (cm_pg X xs) m cm_m17 [.index 69, fl_t a2, fl_t (H 19 (fl_w a2).toNat)] H (fun r H3 => r = none ∧ (∀ m, m < N → hd_Draft_putAll_69_19_2 (cm_pg X xs) m H3 (a2 + 1) Q))))) : hd_Draft_putAll_69_19_2 (cm_pg X xs) N H a2 Q :=
 fun lv h0 h1 h2 =>
 vt_iload_n rfl h2
 (vt_aload_n rfl h0 rfl
 (vt_getr rfl rfl rfl
 (vt_getr rfl rfl rfl
 (vt_getf rfl rfl rfl
 (vt_icmp rfl (fun hc1 => vt_retv rfl (W.1 hc1)) (fun hc1 => vt_aload_n rfl h0 rfl
 (vt_iload_n rfl h2
 (vt_aload_n rfl h1 rfl
 (vt_iload_n rfl h2
 (vt_iald rfl rfl (fun hf2 => vt_callV rfl rfl (fun _ => rfl) (fun m hm => vt_void (((W.2 hc1) hf2) m hm) (fun H3 w4 => vt_iincA rfl h2 (fun hl5 => vt_gotoS rfl (fun m hm => (w4 m hm) _ (fl_lsn (by decide) h0) (fl_lsn (by decide) h1) (fl_lse hl5))))))))))))))))
theorem ve_Draft_putAll_69_19 {X : Term} {xs : List Int32} {N : Nat} {H : fl_H} {Q : Option Int → fl_H → Prop} (W : hd_Draft_putAll_69_19_2 (cm_pg X xs) N H 0 Q)  : ck (cm_pg X xs) N cm_m16 [.index 69, .index 19] H Q :=
  vt_iconst rfl
 (vt_istore_n rfl
 (W _ rfl rfl rfl))
theorem ve_GoodsBook_less_0 {X : Term} {xs : List Int32} {N : Nat} {H : fl_H} {a1 : Int} {Q : Option Int → fl_H → Prop} (W : ∀ m, m < N → ck (cm_pg X xs) m cm_m138 [.index 0, fl_t a1] H (fun r H1 => ∃ x3, r = some x3 ∧ ((fl_w x3 = 0 → Q (some (-1000000001)) H1) ∧ (¬ fl_w x3 = 0 → ∀ m, m < N → ck (cm_pg X xs) m cm_m144 [.index 0, fl_t (-1), fl_t a1] H1 (fun r H5 => ∃ x7, r = some x7 ∧ (∀ m, m < N → ck (cm_pg X xs) m cm_m144 [.index 0, fl_t (-1), fl_t (-1)] H5 (fun r H8 => ∃ x10, r = some x10 ∧ (Q (some (x7 - x10)) H8))))))))  : ck (cm_pg X xs) N cm_m125 [.index 0, fl_t a1] H Q :=
  vt_aload_n rfl rfl rfl
 (vt_iload_n rfl rfl
 (vt_callV rfl rfl (fun _ => rfl) (fun m hm => vt_int (W m hm) (fun x3 H1 w2 => vt_ifcN rfl (fun hc4 => vt_aload_n rfl rfl rfl
 (vt_iconst rfl
 (vt_iload_n rfl rfl
 (vt_callV rfl rfl (fun _ => rfl) (fun m hm => vt_int ((w2.2 hc4) m hm) (fun x7 H5 w6 => vt_aload_n rfl rfl rfl
 (vt_iconst rfl
 (vt_iconst rfl
 (vt_callV rfl rfl (fun _ => rfl) (fun m hm => vt_int (w6 m hm) (fun x10 H8 w9 => vt_isub rfl
 (vt_ret rfl w9)))))))))))) (fun hc4 => vt_ldc (v := (-1000000001)) rfl (by decide)
 (vt_ret rfl (w2.1 hc4)))))))
theorem ve_GoodsBook_findBest_0 {X : Term} {xs : List Int32} {N : Nat} {H : fl_H} {a1 a2 : Int} {Q : Option Int → fl_H → Prop} (W : ((0 ≤ fl_w a1) → ∀ m, m < N → ck (cm_pg X xs) m cm_m13 [.index 69, fl_t a1, fl_t a2] H (fun r H3 => r = none ∧ (∀ m, m < N → ck (cm_pg X xs) m cm_m56 [.index 79] H3 (fun r H5 => ∃ x7, r = some x7 ∧ (∀ m, m < N → ck (cm_pg X xs) m cm_m13 [.index 69, fl_t a1, fl_t a2] H5 (fun r H8 => r = none ∧ (∀ m, m < N → ck (cm_pg X xs) m cm_m60 [.index 79, fl_t ((H5 79 4) - 1), fl_t (-1), fl_t 6] H8 (fun r H10 => ∃ x12, r = some x12 ∧ (Q (some (H10 79 4)) H10))))))))) ∧ (¬ (0 ≤ fl_w a1) → ((0 ≤ fl_w a2) → ∀ m, m < N → ck (cm_pg X xs) m cm_m13 [.index 69, fl_t a1, fl_t a2] H (fun r H16 => r = none ∧ (∀ m, m < N → ck (cm_pg X xs) m cm_m56 [.index 79] H16 (fun r H18 => ∃ x20, r = some x20 ∧ (∀ m, m < N → ck (cm_pg X xs) m cm_m13 [.index 69, fl_t a1, fl_t a2] H18 (fun r H21 => r = none ∧ (∀ m, m < N → ck (cm_pg X xs) m cm_m60 [.index 79, fl_t ((H18 79 4) - 1), fl_t (-1), fl_t 6] H21 (fun r H23 => ∃ x25, r = some x25 ∧ (Q (some (H23 79 4)) H23))))))))) ∧ (¬ (0 ≤ fl_w a2) → ((fl_w (H 88 0) = 0) → ∀ m, m < N → ck (cm_pg X xs) m cm_m13 [.index 69, fl_t a1, fl_t a2] H (fun r H29 => r = none ∧ (∀ m, m < N → ck (cm_pg X xs) m cm_m56 [.index 79] H29 (fun r H31 => ∃ x33, r = some x33 ∧ (∀ m, m < N → ck (cm_pg X xs) m cm_m13 [.index 69, fl_t a1, fl_t a2] H31 (fun r H34 => r = none ∧ (∀ m, m < N → ck (cm_pg X xs) m cm_m60 [.index 79, fl_t ((H31 79 4) - 1), fl_t (-1), fl_t 6] H34 (fun r H36 => ∃ x38, r = some x38 ∧ (∀ m, m < N → ck (cm_pg X xs) m cm_m1 [.index 88, .index 81, fl_t (H36 79 4), fl_t 0] H36 (fun r H40 => r = none ∧ (Q (some (H40 79 4)) H40))))))))))) ∧ (¬ (fl_w (H 88 0) = 0) → Q (some (H 88 2)) H))))  : ck (cm_pg X xs) N cm_m144 [.index 0, fl_t a1, fl_t a2] H Q :=
  vt_iload_n rfl rfl
 (vt_ifc rfl (fun hc1 => vt_iconst rfl
 (vt_istore_n rfl
 (vt_iload_n rfl rfl
 (vt_ifc (a := 0) rfl (fun _ => vt_aload_n rfl rfl rfl
 (vt_getr rfl rfl rfl
 (vt_iload_n rfl rfl
 (vt_iload_n rfl rfl
 (vt_callV rfl rfl (fun _ => rfl) (fun m hm => vt_void ((W.1 hc1) m hm) (fun H3 w4 => vt_aload_n rfl rfl rfl
 (vt_getr rfl rfl rfl
 (vt_callV rfl rfl (fun _ => rfl) (fun m hm => vt_int (w4 m hm) (fun x7 H5 w6 => vt_mv (fun _ _ => rfl)
 (vt_aload_n rfl rfl rfl
 (vt_getr rfl rfl rfl
 (vt_getf rfl rfl rfl
 (vt_iconst rfl
 (vt_isub rfl
 (vt_istore rfl
 (vt_aload_n rfl rfl rfl
 (vt_getr rfl rfl rfl
 (vt_iload_n rfl rfl
 (vt_iload_n rfl rfl
 (vt_callV rfl rfl (fun _ => rfl) (fun m hm => vt_void (w6 m hm) (fun H8 w9 => vt_aload_n rfl rfl rfl
 (vt_getr rfl rfl rfl
 (vt_iload rfl rfl
 (vt_iconst rfl
 (vt_bipush (v := 6) rfl (by decide)
 (vt_callV rfl rfl (fun _ => rfl) (fun m hm => vt_int (w9 m hm) (fun x12 H10 w11 => vt_mv (fun _ _ => rfl)
 (vt_iload_n rfl rfl
 (vt_ifc (a := 0) rfl (fun _ => vt_aload_n rfl rfl rfl
 (vt_getr rfl rfl rfl
 (vt_getf rfl rfl rfl
 (vt_ret rfl w11)))) (fun hc13 => by exact absurd (show (0 : Int) = 0 by decide) hc13)))))))))))))))))))))))))))))))))) (fun hc2 => by exact absurd (show (0 : Int) = 0 by decide) hc2))))) (fun hc1 => vt_iload_n rfl rfl
 (vt_ifc rfl (fun hc14 => vt_iconst rfl
 (vt_istore_n rfl
 (vt_iload_n rfl rfl
 (vt_ifc (a := 0) rfl (fun _ => vt_aload_n rfl rfl rfl
 (vt_getr rfl rfl rfl
 (vt_iload_n rfl rfl
 (vt_iload_n rfl rfl
 (vt_callV rfl rfl (fun _ => rfl) (fun m hm => vt_void (((W.2 hc1).1 hc14) m hm) (fun H16 w17 => vt_aload_n rfl rfl rfl
 (vt_getr rfl rfl rfl
 (vt_callV rfl rfl (fun _ => rfl) (fun m hm => vt_int (w17 m hm) (fun x20 H18 w19 => vt_mv (fun _ _ => rfl)
 (vt_aload_n rfl rfl rfl
 (vt_getr rfl rfl rfl
 (vt_getf rfl rfl rfl
 (vt_iconst rfl
 (vt_isub rfl
 (vt_istore rfl
 (vt_aload_n rfl rfl rfl
 (vt_getr rfl rfl rfl
 (vt_iload_n rfl rfl
 (vt_iload_n rfl rfl
 (vt_callV rfl rfl (fun _ => rfl) (fun m hm => vt_void (w19 m hm) (fun H21 w22 => vt_aload_n rfl rfl rfl
 (vt_getr rfl rfl rfl
 (vt_iload rfl rfl
 (vt_iconst rfl
 (vt_bipush (v := 6) rfl (by decide)
 (vt_callV rfl rfl (fun _ => rfl) (fun m hm => vt_int (w22 m hm) (fun x25 H23 w24 => vt_mv (fun _ _ => rfl)
 (vt_iload_n rfl rfl
 (vt_ifc (a := 0) rfl (fun _ => vt_aload_n rfl rfl rfl
 (vt_getr rfl rfl rfl
 (vt_getf rfl rfl rfl
 (vt_ret rfl w24)))) (fun hc26 => by exact absurd (show (0 : Int) = 0 by decide) hc26)))))))))))))))))))))))))))))))))) (fun hc15 => by exact absurd (show (0 : Int) = 0 by decide) hc15))))) (fun hc14 => vt_iconst rfl
 (vt_goto rfl
 (vt_istore_n rfl
 (vt_iload_n rfl rfl
 (vt_ifc (a := 1) rfl (fun hc27 => by exact absurd (show (1 : Int) = 0 from hc27) (by decide)) (fun _ => vt_aload_n rfl rfl rfl
 (vt_getr rfl rfl rfl
 (vt_getf rfl rfl rfl
 (vt_ifc rfl (fun hc28 => vt_aload_n rfl rfl rfl
 (vt_getr rfl rfl rfl
 (vt_iload_n rfl rfl
 (vt_iload_n rfl rfl
 (vt_callV rfl rfl (fun _ => rfl) (fun m hm => vt_void ((((W.2 hc1).2 hc14).1 hc28) m hm) (fun H29 w30 => vt_aload_n rfl rfl rfl
 (vt_getr rfl rfl rfl
 (vt_callV rfl rfl (fun _ => rfl) (fun m hm => vt_int (w30 m hm) (fun x33 H31 w32 => vt_mv (fun _ _ => rfl)
 (vt_aload_n rfl rfl rfl
 (vt_getr rfl rfl rfl
 (vt_getf rfl rfl rfl
 (vt_iconst rfl
 (vt_isub rfl
 (vt_istore rfl
 (vt_aload_n rfl rfl rfl
 (vt_getr rfl rfl rfl
 (vt_iload_n rfl rfl
 (vt_iload_n rfl rfl
 (vt_callV rfl rfl (fun _ => rfl) (fun m hm => vt_void (w32 m hm) (fun H34 w35 => vt_aload_n rfl rfl rfl
 (vt_getr rfl rfl rfl
 (vt_iload rfl rfl
 (vt_iconst rfl
 (vt_bipush (v := 6) rfl (by decide)
 (vt_callV rfl rfl (fun _ => rfl) (fun m hm => vt_int (w35 m hm) (fun x38 H36 w37 => vt_mv (fun _ _ => rfl)
 (vt_iload_n rfl rfl
 (vt_ifc (a := 1) rfl (fun hc39 => by exact absurd (show (1 : Int) = 0 from hc39) (by decide)) (fun _ => vt_aload_n rfl rfl rfl
 (vt_getr rfl rfl rfl
 (vt_aload_n rfl rfl rfl
 (vt_getr rfl rfl rfl
 (vt_getr rfl rfl rfl
 (vt_aload_n rfl rfl rfl
 (vt_getr rfl rfl rfl
 (vt_getf rfl rfl rfl
 (vt_iconst rfl
 (vt_callV rfl rfl (fun _ => rfl) (fun m hm => vt_void (w37 m hm) (fun H40 w41 => vt_aload_n rfl rfl rfl
 (vt_getr rfl rfl rfl
 (vt_getf rfl rfl rfl
 (vt_ret rfl w41)))))))))))))))))))))))))))))))))))))))))))))))) (fun hc28 => vt_aload_n rfl rfl rfl
 (vt_getr rfl rfl rfl
 (vt_getf rfl rfl rfl
 (vt_ret rfl (((W.2 hc1).2 hc14).2 hc28)))))))))))))))))
theorem ve_Answer_keep_88_81 {X : Term} {xs : List Int32} {N : Nat} {H : fl_H} {a2 a3 : Int} {Q : Option Int → fl_H → Prop} (W : ∀ H1, H1 = fl_cp H 81 89 6 → (∀ H3, H3 = fl_up H1 88 2 a2 → (∀ H5, H5 = fl_up H3 88 3 a3 → (∀ H7, H7 = fl_up H5 88 0 1 → (Q none H7)))))  : ck (cm_pg X xs) N cm_m1 [.index 88, .index 81, fl_t a2, fl_t a3] H Q :=
  vt_aload_n rfl rfl rfl
 (vt_iconst rfl
 (vt_aload_n rfl rfl rfl
 (vt_getr rfl rfl rfl
 (vt_iconst rfl
 (vt_bipush (v := 6) rfl (by decide)
 (vt_copy (n := 6) rfl rfl rfl rfl rfl rfl (vt_nm (fun H1 e2 => vt_aload_n rfl rfl rfl
 (vt_iload_n rfl rfl
 (vt_putf rfl rfl rfl (vt_nm (fun H3 e4 => vt_aload_n rfl rfl rfl
 (vt_iload_n rfl rfl
 (vt_putf rfl rfl rfl (vt_nm (fun H5 e6 => vt_aload_n rfl rfl rfl
 (vt_iconst rfl
 (vt_putf rfl rfl rfl (vt_nm (fun H7 e8 => vt_retv rfl ((((W H1 e2) H3 e4) H5 e6) H7 e8)))))))))))))))))))))
def hd_Search_climb_79_10 (P : cm_G) (N : Nat) (H : fl_H) (a1 : Int) (a2 : Int) (Q : Option Int → fl_H → Prop) : Prop := ∀ lv : cm_Lv, cm_nth lv 0 = some (some (.index 79)) → cm_nth lv 1 = some (some (fl_t a1)) → cm_nth lv 2 = some (some (fl_t a2)) → vt P N cm_m56 10 lv [] H Q
def hd_Search_climb_79_34 (P : cm_G) (N : Nat) (H : fl_H) (a1 : Int) (a2 : Int) (a3 : Int) (Q : Option Int → fl_H → Prop) : Prop := ∀ lv : cm_Lv, cm_nth lv 0 = some (some (.index 79)) → cm_nth lv 1 = some (some (fl_t a1)) → cm_nth lv 2 = some (some (fl_t a2)) → cm_nth lv 3 = some (some (fl_t a3)) → vt P N cm_m56 34 lv [] H Q
theorem vh_Search_climb_79_10 {X : Term} {xs : List Int32} {N : Nat} {H : fl_H} {a1 : Int} {a2 : Int} {Q : Option Int → fl_H → Prop} (W : ((1000000 ≤ fl_w a2) → Q (some 1000000) H) ∧ (¬ (1000000 ≤ fl_w a2) → ∀ H2, H2 = fl_up H 79 5 0 → (∀ m, m < N → ck (cm_pg X xs) m cm_m19 [.index 69] H2 (fun r H4 => ∃ x6, r = some x6 ∧ (∀ H7, H7 = fl_up H4 79 4 x6 → (hd_Search_climb_79_34 (cm_pg X xs) N H7 a1 a2 0 Q)))))) : hd_Search_climb_79_10 (cm_pg X xs) N H a1 a2 Q :=
 fun lv h0 h1 h2 =>
 vt_iload_n rfl h2
 (vt_ldc (v := 1000000) rfl (by decide)
 (vt_icmp rfl (fun hc1 => vt_ldc (v := 1000000) rfl (by decide)
 (vt_ret rfl (W.1 hc1))) (fun hc1 => vt_aload_n rfl h0 rfl
 (vt_iconst rfl
 (vt_putf rfl rfl rfl (vt_nm (fun H2 e3 => vt_aload_n rfl h0 rfl
 (vt_aload_n rfl h0 rfl
 (vt_getr rfl rfl rfl
 (vt_callV rfl rfl (fun _ => rfl) (fun m hm => vt_int (((W.2 hc1) H2 e3) m hm) (fun x6 H4 w5 => vt_putf rfl rfl rfl (vt_nm (fun H7 e8 => vt_iconst rfl
 (vt_istore_nA rfl (fun hl9 => (w5 H7 e8) _ (fl_lsn (by decide) h0) (fl_lsn (by decide) h1) (fl_lsn (by decide) h2) (fl_lse hl9)))))))))))))))))
theorem vh_Search_climb_79_34 {X : Term} {xs : List Int32} {N : Nat} {H : fl_H} {a1 : Int} {a2 : Int} {a3 : Int} {Q : Option Int → fl_H → Prop} (W : ((fl_w a1 ≤ fl_w a3) → (fl_w (H 79 5) = 0 → Q (some a2) H) ∧ (¬ fl_w (H 79 5) = 0 → ∀ m, m < N → ck (cm_pg X xs) m cm_m16 [.index 69, .index 81] H (fun r H3 => r = none ∧ (∀ m, m < N → hd_Search_climb_79_10 (cm_pg X xs) m H3 a1 (a2 + 1) Q)))) ∧ (¬ (fl_w a1 ≤ fl_w a3) → ∀ m, m < N → ck (cm_pg X xs) m cm_m57 [.index 79, fl_t a3] H (fun r H6 => r = none ∧ (∀ m, m < N → ck (cm_pg X xs) m cm_m58 [.index 79, fl_t a3] H6 (fun r H8 => r = none ∧ (∀ m, m < N → hd_Search_climb_79_34 (cm_pg X xs) m H8 a1 a2 (a3 + 1) Q)))))) : hd_Search_climb_79_34 (cm_pg X xs) N H a1 a2 a3 Q :=
 fun lv h0 h1 h2 h3 =>
 vt_iload_n rfl h3
 (vt_iload_n rfl h1
 (vt_icmp rfl (fun hc1 => vt_aload_n rfl h0 rfl
 (vt_getf rfl rfl rfl
 (vt_ifcN rfl (fun hc2 => vt_aload_n rfl h0 rfl
 (vt_getr rfl rfl rfl
 (vt_aload_n rfl h0 rfl
 (vt_getr rfl rfl rfl
 (vt_callV rfl rfl (fun _ => rfl) (fun m hm => vt_void (((W.1 hc1).2 hc2) m hm) (fun H3 w4 => vt_iincA rfl h2 (fun hl5 => vt_gotoS rfl (fun m hm => (w4 m hm) _ (fl_lsn (by decide) h0) (fl_lsn (by decide) h1) (fl_lse hl5)))))))))) (fun hc2 => vt_iload_n rfl h2
 (vt_ret rfl ((W.1 hc1).1 hc2)))))) (fun hc1 => vt_aload_n rfl h0 rfl
 (vt_iload_n rfl h3
 (vt_callV rfl rfl (fun _ => rfl) (fun m hm => vt_void ((W.2 hc1) m hm) (fun H6 w7 => vt_aload_n rfl h0 rfl
 (vt_iload_n rfl h3
 (vt_callV rfl rfl (fun _ => rfl) (fun m hm => vt_void (w7 m hm) (fun H8 w9 => vt_iincA rfl h3 (fun hl10 => vt_gotoS rfl (fun m hm => (w9 m hm) _ (fl_lsn (by decide) h0) (fl_lsn (by decide) h1) (fl_lsn (by decide) h2) (fl_lse hl10))))))))))))))
theorem ve_Search_climb_79 {X : Term} {xs : List Int32} {N : Nat} {H : fl_H} {Q : Option Int → fl_H → Prop} (W : ∀ m, m < N → ck (cm_pg X xs) m cm_m15 [.index 69] H (fun r H1 => ∃ x3, r = some x3 ∧ (hd_Search_climb_79_10 (cm_pg X xs) N H1 x3 0 Q)))  : ck (cm_pg X xs) N cm_m56 [.index 79] H Q :=
  vt_aload_n rfl rfl rfl
 (vt_getr rfl rfl rfl
 (vt_callV rfl rfl (fun _ => rfl) (fun m hm => vt_int (W m hm) (fun x3 H1 w2 => vt_istore_n rfl
 (vt_iconst rfl
 (vt_istore_n rfl
 (w2 _ rfl rfl rfl)))))))
def hd_Search_tryRounds_79_14 (P : cm_G) (N : Nat) (H : fl_H) (a1 : Int) (a2 : Int) (a3 : Int) (Q : Option Int → fl_H → Prop) : Prop := ∀ lv : cm_Lv, cm_nth lv 0 = some (some (.index 79)) → cm_nth lv 1 = some (some (fl_t a1)) → cm_nth lv 2 = some (some (fl_t a2)) → cm_nth lv 3 = some (some (fl_t a3)) → vt P N cm_m58 14 lv [] H Q
theorem vh_Search_tryRounds_79_14 {X : Term} {xs : List Int32} {N : Nat} {H : fl_H} {a1 : Int} {a2 : Int} {a3 : Int} {Q : Option Int → fl_H → Prop} (W : ∀ m, m < N → ck (cm_pg X xs) m cm_m15 [.index 69] H (fun r H1 => ∃ x3, r = some x3 ∧ (((fl_w x3 ≤ fl_w a3) → ∀ m, m < N → ck (cm_pg X xs) m cm_m17 [.index 69, fl_t a1, fl_t a2] H1 (fun r H5 => r = none ∧ (Q none H5))) ∧ (¬ (fl_w x3 ≤ fl_w a3) → (0 ≤ fl_w a3 ∧ fl_w a3 < 6 → (fl_w (H1 71 (fl_w a3).toNat) = fl_w a2 → ∀ m, m < N → hd_Search_tryRounds_79_14 (cm_pg X xs) m H1 a1 a2 (a3 + 1) Q) ∧ (¬ fl_w (H1 71 (fl_w a3).toNat) = fl_w a2 → ∀ m, m < N → ck (cm_pg X xs) m cm_m17 [.index 69, fl_t a1, fl_t (H1 71 (fl_w a3).toNat)] H1 (fun r H11 => r = none ∧ (∀ m, m < N → ck (cm_pg X xs) m cm_m17 [.index 69, fl_t a3, fl_t a2] H11 (fun r H13 => r = none ∧ (∀ m, m < N → ck (cm_pg X xs) m cm_m59 [.index 79] H13 (fun r H15 => r = none ∧ (∀ m, m < N → ck (cm_pg X xs) m cm_m17 [.index 69, fl_t a3, fl_t (H1 71 (fl_w a3).toNat)] H15 (fun r H17 => r = none ∧ (∀ m, m < N → hd_Search_tryRounds_79_14 (cm_pg X xs) m H17 a1 a2 (a3 + 1) Q)))))))))))))) : hd_Search_tryRounds_79_14 (cm_pg X xs) N H a1 a2 a3 Q :=
 fun lv h0 h1 h2 h3 =>
 vt_iload_n rfl h3
 (vt_aload_n rfl h0 rfl
 (vt_getr rfl rfl rfl
 (vt_callV rfl rfl (fun _ => rfl) (fun m hm => vt_int (W m hm) (fun x3 H1 w2 => vt_icmp rfl (fun hc4 => vt_aload_n rfl h0 rfl
 (vt_getr rfl rfl rfl
 (vt_iload_n rfl h1
 (vt_iload_n rfl h2
 (vt_callV rfl rfl (fun _ => rfl) (fun m hm => vt_void ((w2.1 hc4) m hm) (fun H5 w6 => vt_retv rfl w6))))))) (fun hc4 => vt_aload_n rfl h0 rfl
 (vt_getr rfl rfl rfl
 (vt_getr rfl rfl rfl
 (vt_iload_n rfl h3
 (vt_iald rfl rfl (fun hf7 => vt_istoreA rfl (fun hl8 => vt_iload rfl (fl_lse hl8)
 (vt_iload_n rfl (fl_lsn (by decide) h2)
 (vt_icmpN rfl (fun hc9 => vt_aload_n rfl (fl_lsn (by decide) h0) rfl
 (vt_getr rfl rfl rfl
 (vt_iload_n rfl (fl_lsn (by decide) h1)
 (vt_iload rfl (fl_lse hl8)
 (vt_callV rfl rfl (fun _ => rfl) (fun m hm => vt_void ((((w2.2 hc4) hf7).2 hc9) m hm) (fun H11 w12 => vt_aload_n rfl (fl_lsn (by decide) h0) rfl
 (vt_getr rfl rfl rfl
 (vt_iload_n rfl (fl_lsn (by decide) h3)
 (vt_iload_n rfl (fl_lsn (by decide) h2)
 (vt_callV rfl rfl (fun _ => rfl) (fun m hm => vt_void (w12 m hm) (fun H13 w14 => vt_aload_n rfl (fl_lsn (by decide) h0) rfl
 (vt_callV rfl rfl (fun _ => rfl) (fun m hm => vt_void (w14 m hm) (fun H15 w16 => vt_aload_n rfl (fl_lsn (by decide) h0) rfl
 (vt_getr rfl rfl rfl
 (vt_iload_n rfl (fl_lsn (by decide) h3)
 (vt_iload rfl (fl_lse hl8)
 (vt_callV rfl rfl (fun _ => rfl) (fun m hm => vt_void (w16 m hm) (fun H17 w18 => vt_iincA rfl (fl_lsn (by decide) h3) (fun hl19 => vt_gotoS rfl (fun m hm => (w18 m hm) _ (fl_lsn (by decide) (fl_lsn (by decide) h0)) (fl_lsn (by decide) (fl_lsn (by decide) h1)) (fl_lsn (by decide) (fl_lsn (by decide) h2)) (fl_lse hl19))))))))))))))))))))))))) (fun hc9 => vt_goto rfl
 (vt_iincA rfl (fl_lsn (by decide) h3) (fun hl10 => vt_gotoS rfl (fun m hm => ((((w2.2 hc4) hf7).1 hc9) m hm) _ (fl_lsn (by decide) (fl_lsn (by decide) h0)) (fl_lsn (by decide) (fl_lsn (by decide) h1)) (fl_lsn (by decide) (fl_lsn (by decide) h2)) (fl_lse hl10)))))))))))))))))))
theorem ve_Search_tryRounds_79 {X : Term} {xs : List Int32} {N : Nat} {H : fl_H} {a1 : Int} {Q : Option Int → fl_H → Prop} (W : (0 ≤ fl_w a1 ∧ fl_w a1 < 6 → hd_Search_tryRounds_79_14 (cm_pg X xs) N H a1 (H 71 (fl_w a1).toNat) (a1 + 1) Q))  : ck (cm_pg X xs) N cm_m58 [.index 79, fl_t a1] H Q :=
  vt_aload_n rfl rfl rfl
 (vt_getr rfl rfl rfl
 (vt_getr rfl rfl rfl
 (vt_iload_n rfl rfl
 (vt_iald rfl rfl (fun hf1 => vt_istore_n rfl
 (vt_iload_n rfl rfl
 (vt_iconst rfl
 (vt_iadd rfl
 (vt_istore_n rfl
 ((W hf1) _ rfl rfl rfl rfl))))))))))
theorem ve_Search_weigh_79 {X : Term} {xs : List Int32} {N : Nat} {H : fl_H} {Q : Option Int → fl_H → Prop} (W : ∀ m, m < N → ck (cm_pg X xs) m cm_m19 [.index 69] H (fun r H1 => ∃ x3, r = some x3 ∧ (((fl_w (H1 79 4) ≤ fl_w x3) → (fl_w x3 = fl_w (H1 79 4) → ((fl_w (H1 79 5) = 0) → Q none H1) ∧ (¬ (fl_w (H1 79 5) = 0) → ∀ m, m < N → ck (cm_pg X xs) m cm_m29 [.index 69, .index 81] H1 (fun r H7 => ∃ x9, r = some x9 ∧ ((fl_w x9 = 0 → Q none H7) ∧ (¬ fl_w x9 = 0 → ∀ m, m < N → ck (cm_pg X xs) m cm_m27 [.index 69] H7 (fun r H11 => ∃ x13, r = some x13 ∧ ((fl_w x13 = (-4) → ∀ m, m < N → ck (cm_pg X xs) m cm_m28 [.index 69] H11 (fun r H15 => ∃ x17, r = some x17 ∧ ((fl_w x17 = (-4) → ∀ m, m < N → ck (cm_pg X xs) m cm_m66 [.index 79, fl_t x3] H15 (fun r H19 => r = none ∧ (Q none H19))) ∧ (¬ fl_w x17 = (-4) → Q none H15)))) ∧ (¬ fl_w x13 = (-4) → Q none H11)))))))) ∧ (¬ fl_w x3 = fl_w (H1 79 4) → ∀ m, m < N → ck (cm_pg X xs) m cm_m27 [.index 69] H1 (fun r H21 => ∃ x23, r = some x23 ∧ ((fl_w x23 = (-4) → ∀ m, m < N → ck (cm_pg X xs) m cm_m28 [.index 69] H21 (fun r H25 => ∃ x27, r = some x27 ∧ ((fl_w x27 = (-4) → ∀ m, m < N → ck (cm_pg X xs) m cm_m66 [.index 79, fl_t x3] H25 (fun r H29 => r = none ∧ (Q none H29))) ∧ (¬ fl_w x27 = (-4) → Q none H25)))) ∧ (¬ fl_w x23 = (-4) → Q none H21))))) ∧ (¬ (fl_w (H1 79 4) ≤ fl_w x3) → Q none H1))))  : ck (cm_pg X xs) N cm_m59 [.index 79] H Q :=
  vt_aload_n rfl rfl rfl
 (vt_getr rfl rfl rfl
 (vt_callV rfl rfl (fun _ => rfl) (fun m hm => vt_int (W m hm) (fun x3 H1 w2 => vt_istore_n rfl
 (vt_iload_n rfl rfl
 (vt_aload_n rfl rfl rfl
 (vt_getf rfl rfl rfl
 (vt_icmp rfl (fun hc4 => vt_iload_n rfl rfl
 (vt_aload_n rfl rfl rfl
 (vt_getf rfl rfl rfl
 (vt_icmpN rfl (fun hc5 => vt_aload_n rfl rfl rfl
 (vt_getr rfl rfl rfl
 (vt_callV rfl rfl (fun _ => rfl) (fun m hm => vt_int (((w2.1 hc4).2 hc5) m hm) (fun x23 H21 w22 => vt_bipush (v := (-4)) rfl (by decide)
 (vt_icmpN rfl (fun hc24 => vt_retv rfl (w22.2 hc24)) (fun hc24 => vt_aload_n rfl rfl rfl
 (vt_getr rfl rfl rfl
 (vt_callV rfl rfl (fun _ => rfl) (fun m hm => vt_int ((w22.1 hc24) m hm) (fun x27 H25 w26 => vt_bipush (v := (-4)) rfl (by decide)
 (vt_icmpN rfl (fun hc28 => vt_retv rfl (w26.2 hc28)) (fun hc28 => vt_aload_n rfl rfl rfl
 (vt_iload_n rfl rfl
 (vt_callV rfl rfl (fun _ => rfl) (fun m hm => vt_void ((w26.1 hc28) m hm) (fun H29 w30 => vt_retv rfl w30))))))))))))))))) (fun hc5 => vt_aload_n rfl rfl rfl
 (vt_getf rfl rfl rfl
 (vt_ifc rfl (fun hc6 => vt_retv rfl (((w2.1 hc4).1 hc5).1 hc6)) (fun hc6 => vt_aload_n rfl rfl rfl
 (vt_getr rfl rfl rfl
 (vt_aload_n rfl rfl rfl
 (vt_getr rfl rfl rfl
 (vt_callV rfl rfl (fun _ => rfl) (fun m hm => vt_int ((((w2.1 hc4).1 hc5).2 hc6) m hm) (fun x9 H7 w8 => vt_ifcN rfl (fun hc10 => vt_aload_n rfl rfl rfl
 (vt_getr rfl rfl rfl
 (vt_callV rfl rfl (fun _ => rfl) (fun m hm => vt_int ((w8.2 hc10) m hm) (fun x13 H11 w12 => vt_bipush (v := (-4)) rfl (by decide)
 (vt_icmpN rfl (fun hc14 => vt_retv rfl (w12.2 hc14)) (fun hc14 => vt_aload_n rfl rfl rfl
 (vt_getr rfl rfl rfl
 (vt_callV rfl rfl (fun _ => rfl) (fun m hm => vt_int ((w12.1 hc14) m hm) (fun x17 H15 w16 => vt_bipush (v := (-4)) rfl (by decide)
 (vt_icmpN rfl (fun hc18 => vt_retv rfl (w16.2 hc18)) (fun hc18 => vt_aload_n rfl rfl rfl
 (vt_iload_n rfl rfl
 (vt_callV rfl rfl (fun _ => rfl) (fun m hm => vt_void ((w16.1 hc18) m hm) (fun H19 w20 => vt_retv rfl w20))))))))))))))))) (fun hc10 => vt_retv rfl (w8.1 hc10)))))))))))))))) (fun hc4 => vt_retv rfl (w2.2 hc4))))))))))
def hd_Draft_firstCrowded_69_2 (P : cm_G) (N : Nat) (H : fl_H) (a1 : Int) (Q : Option Int → fl_H → Prop) : Prop := ∀ lv : cm_Lv, cm_nth lv 0 = some (some (.index 69)) → cm_nth lv 1 = some (some (fl_t a1)) → vt P N cm_m28 2 lv [] H Q
theorem vh_Draft_firstCrowded_69_2 {X : Term} {xs : List Int32} {N : Nat} {H : fl_H} {a1 : Int} {Q : Option Int → fl_H → Prop} (W : ((fl_w (H 69 2) ≤ fl_w a1) → Q (some (-4)) H) ∧ (¬ (fl_w (H 69 2) ≤ fl_w a1) → (0 ≤ fl_w a1 ∧ fl_w a1 < 3 → ∀ m, m < N → ck (cm_pg X xs) m cm_m35 [.index 64, fl_t (H 76 (fl_w a1).toNat)] H (fun r H3 => ∃ x5, r = some x5 ∧ ((fl_w x5 = 0 → Q (some a1) H3) ∧ (¬ fl_w x5 = 0 → ∀ m, m < N → hd_Draft_firstCrowded_69_2 (cm_pg X xs) m H3 (a1 + 1) Q)))))) : hd_Draft_firstCrowded_69_2 (cm_pg X xs) N H a1 Q :=
 fun lv h0 h1 =>
 vt_iload_n rfl h1
 (vt_aload_n rfl h0 rfl
 (vt_getf rfl rfl rfl
 (vt_icmp rfl (fun hc1 => vt_bipush (v := (-4)) rfl (by decide)
 (vt_ret rfl (W.1 hc1))) (fun hc1 => vt_aload_n rfl h0 rfl
 (vt_getr rfl rfl rfl
 (vt_aload_n rfl h0 rfl
 (vt_getr rfl rfl rfl
 (vt_iload_n rfl h1
 (vt_iald rfl rfl (fun hf2 => vt_callV rfl rfl (fun _ => rfl) (fun m hm => vt_int (((W.2 hc1) hf2) m hm) (fun x5 H3 w4 => vt_ifcN rfl (fun hc6 => vt_iincA rfl h1 (fun hl7 => vt_gotoS rfl (fun m hm => ((w4.2 hc6) m hm) _ (fl_lsn (by decide) h0) (fl_lse hl7)))) (fun hc6 => vt_iload_n rfl h1
 (vt_ret rfl (w4.1 hc6)))))))))))))))
theorem ve_Draft_firstCrowded_69 {X : Term} {xs : List Int32} {N : Nat} {H : fl_H} {Q : Option Int → fl_H → Prop} (W : hd_Draft_firstCrowded_69_2 (cm_pg X xs) N H 0 Q)  : ck (cm_pg X xs) N cm_m28 [.index 69] H Q :=
  vt_iconst rfl
 (vt_istore_n rfl
 (W _ rfl rfl))
def hd_Draft_firstBroken_69_2 (P : cm_G) (N : Nat) (H : fl_H) (a1 : Int) (Q : Option Int → fl_H → Prop) : Prop := ∀ lv : cm_Lv, cm_nth lv 0 = some (some (.index 69)) → cm_nth lv 1 = some (some (fl_t a1)) → vt P N cm_m27 2 lv [] H Q
theorem vh_Draft_firstBroken_69_2 {X : Term} {xs : List Int32} {N : Nat} {H : fl_H} {a1 : Int} {Q : Option Int → fl_H → Prop} (W : ((fl_w (H 9 0) ≤ fl_w a1) → Q (some (-4)) H) ∧ (¬ (fl_w (H 9 0) ≤ fl_w a1) → ∀ m, m < N → ck (cm_pg X xs) m cm_m25 [.index 69, fl_t a1] H (fun r H2 => ∃ x4, r = some x4 ∧ ((fl_w x4 = 0 → Q (some a1) H2) ∧ (¬ fl_w x4 = 0 → ∀ m, m < N → hd_Draft_firstBroken_69_2 (cm_pg X xs) m H2 (a1 + 1) Q))))) : hd_Draft_firstBroken_69_2 (cm_pg X xs) N H a1 Q :=
 fun lv h0 h1 =>
 vt_iload_n rfl h1
 (vt_aload_n rfl h0 rfl
 (vt_getr rfl rfl rfl
 (vt_getr rfl rfl rfl
 (vt_getf rfl rfl rfl
 (vt_icmp rfl (fun hc1 => vt_bipush (v := (-4)) rfl (by decide)
 (vt_ret rfl (W.1 hc1))) (fun hc1 => vt_aload_n rfl h0 rfl
 (vt_iload_n rfl h1
 (vt_callV rfl rfl (fun _ => rfl) (fun m hm => vt_int ((W.2 hc1) m hm) (fun x4 H2 w3 => vt_ifcN rfl (fun hc5 => vt_iincA rfl h1 (fun hl6 => vt_gotoS rfl (fun m hm => ((w3.2 hc5) m hm) _ (fl_lsn (by decide) h0) (fl_lse hl6)))) (fun hc5 => vt_iload_n rfl h1
 (vt_ret rfl (w3.1 hc5)))))))))))))
theorem ve_Draft_firstBroken_69 {X : Term} {xs : List Int32} {N : Nat} {H : fl_H} {Q : Option Int → fl_H → Prop} (W : hd_Draft_firstBroken_69_2 (cm_pg X xs) N H 0 Q)  : ck (cm_pg X xs) N cm_m27 [.index 69] H Q :=
  vt_iconst rfl
 (vt_istore_n rfl
 (W _ rfl rfl))
def hd_Draft_isAheadOf_69_81_2 (P : cm_G) (N : Nat) (H : fl_H) (a2 : Int) (Q : Option Int → fl_H → Prop) : Prop := ∀ lv : cm_Lv, cm_nth lv 0 = some (some (.index 69)) → cm_nth lv 1 = some (some (.index 81)) → cm_nth lv 2 = some (some (fl_t a2)) → vt P N cm_m29 2 lv [] H Q
theorem vh_Draft_isAheadOf_69_81_2 {X : Term} {xs : List Int32} {N : Nat} {H : fl_H} {a2 : Int} {Q : Option Int → fl_H → Prop} (W : ((fl_w (H 3 0) ≤ fl_w a2) → Q (some 0) H) ∧ (¬ (fl_w (H 3 0) ≤ fl_w a2) → (0 ≤ fl_w a2 ∧ fl_w a2 < 6 → (0 ≤ fl_w a2 ∧ fl_w a2 < 6 → ((fl_w (H 71 (fl_w a2).toNat) = fl_w (H 81 (fl_w a2).toNat)) → ∀ m, m < N → hd_Draft_isAheadOf_69_81_2 (cm_pg X xs) m H (a2 + 1) Q) ∧ (¬ (fl_w (H 71 (fl_w a2).toNat) = fl_w (H 81 (fl_w a2).toNat)) → (0 ≤ fl_w a2 ∧ fl_w a2 < 6 → (0 ≤ fl_w a2 ∧ fl_w a2 < 6 → ((fl_w (H 81 (fl_w a2).toNat) ≤ fl_w (H 71 (fl_w a2).toNat)) → Q (some 0) H) ∧ (¬ (fl_w (H 81 (fl_w a2).toNat) ≤ fl_w (H 71 (fl_w a2).toNat)) → Q (some 1) H)))))))) : hd_Draft_isAheadOf_69_81_2 (cm_pg X xs) N H a2 Q :=
 fun lv h0 h1 h2 =>
 vt_iload_n rfl h2
 (vt_aload_n rfl h0 rfl
 (vt_getr rfl rfl rfl
 (vt_getr rfl rfl rfl
 (vt_getf rfl rfl rfl
 (vt_icmp rfl (fun hc1 => vt_iconst rfl
 (vt_ret rfl (W.1 hc1))) (fun hc1 => vt_aload_n rfl h0 rfl
 (vt_getr rfl rfl rfl
 (vt_iload_n rfl h2
 (vt_iald rfl rfl (fun hf2 => vt_aload_n rfl h1 rfl
 (vt_iload_n rfl h2
 (vt_iald rfl rfl (fun hf3 => vt_icmp rfl (fun hc4 => vt_iincA rfl h2 (fun hl5 => vt_gotoS rfl (fun m hm => (((((W.2 hc1) hf2) hf3).1 hc4) m hm) _ (fl_lsn (by decide) h0) (fl_lsn (by decide) h1) (fl_lse hl5)))) (fun hc4 => vt_aload_n rfl h0 rfl
 (vt_getr rfl rfl rfl
 (vt_iload_n rfl h2
 (vt_iald rfl rfl (fun hf6 => vt_aload_n rfl h1 rfl
 (vt_iload_n rfl h2
 (vt_iald rfl rfl (fun hf7 => vt_icmp rfl (fun hc8 => vt_iconst rfl
 (vt_ret rfl (((((((W.2 hc1) hf2) hf3).2 hc4) hf6) hf7).1 hc8))) (fun hc8 => vt_iconst rfl
 (vt_goto rfl
 (vt_ret rfl (((((((W.2 hc1) hf2) hf3).2 hc4) hf6) hf7).2 hc8)))))))))))))))))))))))))
theorem ve_Draft_isAheadOf_69_81 {X : Term} {xs : List Int32} {N : Nat} {H : fl_H} {Q : Option Int → fl_H → Prop} (W : hd_Draft_isAheadOf_69_81_2 (cm_pg X xs) N H 0 Q)  : ck (cm_pg X xs) N cm_m29 [.index 69, .index 81] H Q :=
  vt_iconst rfl
 (vt_istore_n rfl
 (W _ rfl rfl rfl))
def hd_Search_tryChoices_79_12 (P : cm_G) (N : Nat) (H : fl_H) (a1 : Int) (a2 : Int) (a3 : Int) (Q : Option Int → fl_H → Prop) : Prop := ∀ lv : cm_Lv, cm_nth lv 0 = some (some (.index 79)) → cm_nth lv 1 = some (some (fl_t a1)) → cm_nth lv 2 = some (some (fl_t a2)) → cm_nth lv 3 = some (some (fl_t a3)) → vt P N cm_m57 12 lv [] H Q
theorem vh_Search_tryChoices_79_12 {X : Term} {xs : List Int32} {N : Nat} {H : fl_H} {a1 : Int} {a2 : Int} {a3 : Int} {Q : Option Int → fl_H → Prop} (W : ((fl_w (2 * (H 69 2)) < fl_w a3) → ∀ m, m < N → ck (cm_pg X xs) m cm_m17 [.index 69, fl_t a1, fl_t a2] H (fun r H2 => r = none ∧ (Q none H2))) ∧ (¬ (fl_w (2 * (H 69 2)) < fl_w a3) → (fl_w a3 = fl_w a2 → ∀ m, m < N → hd_Search_tryChoices_79_12 (cm_pg X xs) m H a1 a2 (a3 + 1) Q) ∧ (¬ fl_w a3 = fl_w a2 → ∀ m, m < N → ck (cm_pg X xs) m cm_m17 [.index 69, fl_t a1, fl_t a3] H (fun r H6 => r = none ∧ (∀ m, m < N → ck (cm_pg X xs) m cm_m59 [.index 79] H6 (fun r H8 => r = none ∧ (∀ m, m < N → hd_Search_tryChoices_79_12 (cm_pg X xs) m H8 a1 a2 (a3 + 1) Q))))))) : hd_Search_tryChoices_79_12 (cm_pg X xs) N H a1 a2 a3 Q :=
 fun lv h0 h1 h2 h3 =>
 vt_iload_n rfl h3
 (vt_iconst rfl
 (vt_aload_n rfl h0 rfl
 (vt_getr rfl rfl rfl
 (vt_getf rfl rfl rfl
 (vt_imul rfl
 (vt_icmp rfl (fun hc1 => vt_aload_n rfl h0 rfl
 (vt_getr rfl rfl rfl
 (vt_iload_n rfl h1
 (vt_iload_n rfl h2
 (vt_callV rfl rfl (fun _ => rfl) (fun m hm => vt_void ((W.1 hc1) m hm) (fun H2 w3 => vt_retv rfl w3))))))) (fun hc1 => vt_iload_n rfl h3
 (vt_iload_n rfl h2
 (vt_icmpN rfl (fun hc4 => vt_aload_n rfl h0 rfl
 (vt_getr rfl rfl rfl
 (vt_iload_n rfl h1
 (vt_iload_n rfl h3
 (vt_callV rfl rfl (fun _ => rfl) (fun m hm => vt_void (((W.2 hc1).2 hc4) m hm) (fun H6 w7 => vt_aload_n rfl h0 rfl
 (vt_callV rfl rfl (fun _ => rfl) (fun m hm => vt_void (w7 m hm) (fun H8 w9 => vt_iincA rfl h3 (fun hl10 => vt_gotoS rfl (fun m hm => (w9 m hm) _ (fl_lsn (by decide) h0) (fl_lsn (by decide) h1) (fl_lsn (by decide) h2) (fl_lse hl10))))))))))))) (fun hc4 => vt_goto rfl
 (vt_iincA rfl h3 (fun hl5 => vt_gotoS rfl (fun m hm => (((W.2 hc1).1 hc4) m hm) _ (fl_lsn (by decide) h0) (fl_lsn (by decide) h1) (fl_lsn (by decide) h2) (fl_lse hl5))))))))))))))
theorem ve_Search_tryChoices_79 {X : Term} {xs : List Int32} {N : Nat} {H : fl_H} {a1 : Int} {Q : Option Int → fl_H → Prop} (W : (0 ≤ fl_w a1 ∧ fl_w a1 < 6 → hd_Search_tryChoices_79_12 (cm_pg X xs) N H a1 (H 71 (fl_w a1).toNat) 0 Q))  : ck (cm_pg X xs) N cm_m57 [.index 79, fl_t a1] H Q :=
  vt_aload_n rfl rfl rfl
 (vt_getr rfl rfl rfl
 (vt_getr rfl rfl rfl
 (vt_iload_n rfl rfl
 (vt_iald rfl rfl (fun hf1 => vt_istore_n rfl
 (vt_iconst rfl
 (vt_istore_n rfl
 ((W hf1) _ rfl rfl rfl rfl))))))))
def hd_Draft_putAll_69_81_2 (P : cm_G) (N : Nat) (H : fl_H) (a2 : Int) (Q : Option Int → fl_H → Prop) : Prop := ∀ lv : cm_Lv, cm_nth lv 0 = some (some (.index 69)) → cm_nth lv 1 = some (some (.index 81)) → cm_nth lv 2 = some (some (fl_t a2)) → vt P N cm_m16 2 lv [] H Q
theorem vh_Draft_putAll_69_81_2 {X : Term} {xs : List Int32} {N : Nat} {H : fl_H} {a2 : Int} {Q : Option Int → fl_H → Prop} (W : ((fl_w (H 3 0) ≤ fl_w a2) → Q none H) ∧ (¬ (fl_w (H 3 0) ≤ fl_w a2) → (0 ≤ fl_w a2 ∧ fl_w a2 < 6 → ∀ m, m < N → ck (cm_pg X xs) m cm_m17 [.index 69, fl_t a2, fl_t (H 81 (fl_w a2).toNat)] H (fun r H3 => r = none ∧ (∀ m, m < N → hd_Draft_putAll_69_81_2 (cm_pg X xs) m H3 (a2 + 1) Q))))) : hd_Draft_putAll_69_81_2 (cm_pg X xs) N H a2 Q :=
 fun lv h0 h1 h2 =>
 vt_iload_n rfl h2
 (vt_aload_n rfl h0 rfl
 (vt_getr rfl rfl rfl
 (vt_getr rfl rfl rfl
 (vt_getf rfl rfl rfl
 (vt_icmp rfl (fun hc1 => vt_retv rfl (W.1 hc1)) (fun hc1 => vt_aload_n rfl h0 rfl
 (vt_iload_n rfl h2
 (vt_aload_n rfl h1 rfl
 (vt_iload_n rfl h2
 (vt_iald rfl rfl (fun hf2 => vt_callV rfl rfl (fun _ => rfl) (fun m hm => vt_void (((W.2 hc1) hf2) m hm) (fun H3 w4 => vt_iincA rfl h2 (fun hl5 => vt_gotoS rfl (fun m hm => (w4 m hm) _ (fl_lsn (by decide) h0) (fl_lsn (by decide) h1) (fl_lse hl5))))))))))))))))
theorem ve_Draft_putAll_69_81 {X : Term} {xs : List Int32} {N : Nat} {H : fl_H} {Q : Option Int → fl_H → Prop} (W : hd_Draft_putAll_69_81_2 (cm_pg X xs) N H 0 Q)  : ck (cm_pg X xs) N cm_m16 [.index 69, .index 81] H Q :=
  vt_iconst rfl
 (vt_istore_n rfl
 (W _ rfl rfl rfl))
theorem ve_GoodsBook_isPage_0 {X : Term} {xs : List Int32} {N : Nat} {H : fl_H} {a1 : Int} {Q : Option Int → fl_H → Prop} (W : Q (some (fl_b (fl_w 0 ≤ fl_w a1 ∧ fl_w a1 ≤ fl_w ((H 1 0) - 1)))) H)  : ck (cm_pg X xs) N cm_m138 [.index 0, fl_t a1] H Q :=
  vt_iload_n rfl rfl
 (vt_iconst rfl
 (vt_aload_n rfl rfl rfl
 (vt_getr rfl rfl rfl
 (vt_getf rfl rfl rfl
 (vt_iconst rfl
 (vt_isub rfl
 (vt_callS rfl rfl (fun _ => rfl) (fun _ _ => vt_sum (sm_within)
 (vt_ret rfl W)))))))))
theorem ve_GoodsBook_more_0 {X : Term} {xs : List Int32} {N : Nat} {H : fl_H} {a1 : Int} {Q : Option Int → fl_H → Prop} (W : ((fl_w 0 ≤ fl_w a1 ∧ fl_w a1 ≤ fl_w 60) → ((fl_w (H 1 0) < 3) → ∀ m, m < N → ck (cm_pg X xs) m cm_m144 [.index 0, fl_t a1, fl_t (-1)] H (fun r H3 => ∃ x5, r = some x5 ∧ (∀ m, m < N → ck (cm_pg X xs) m cm_m144 [.index 0, fl_t (-1), fl_t (-1)] H3 (fun r H6 => ∃ x8, r = some x8 ∧ (Q (some (x5 - x8)) H6))))) ∧ (¬ (fl_w (H 1 0) < 3) → Q (some (-1000000003)) H)) ∧ (¬ (fl_w 0 ≤ fl_w a1 ∧ fl_w a1 ≤ fl_w 60) → Q (some (-1000000001)) H))  : ck (cm_pg X xs) N cm_m124 [.index 0, fl_t a1] H Q :=
  vt_iload_n rfl rfl
 (vt_iconst rfl
 (vt_bipush (v := 60) rfl (by decide)
 (vt_callS rfl rfl (fun _ => rfl) (fun _ _ => vt_sum (sm_within)
 (vt_ifn rfl (fun hc1 => vt_aload_n rfl rfl rfl
 (vt_getr rfl rfl rfl
 (vt_getf rfl rfl rfl
 (vt_iconst rfl
 (vt_icmp rfl (fun hc2 => vt_aload_n rfl rfl rfl
 (vt_iload_n rfl rfl
 (vt_iconst rfl
 (vt_callV rfl rfl (fun _ => rfl) (fun m hm => vt_int (((W.1 hc1).1 hc2) m hm) (fun x5 H3 w4 => vt_aload_n rfl rfl rfl
 (vt_iconst rfl
 (vt_iconst rfl
 (vt_callV rfl rfl (fun _ => rfl) (fun m hm => vt_int (w4 m hm) (fun x8 H6 w7 => vt_isub rfl
 (vt_ret rfl w7)))))))))))) (fun hc2 => vt_ldcw (v := (-1000000003)) rfl (by decide)
 (vt_ret rfl ((W.1 hc1).2 hc2)))))))) (fun hc1 => vt_ldc (v := (-1000000001)) rfl (by decide)
 (vt_ret rfl (W.2 hc1))))))))
theorem ve_GoodsBook_steps_0 {X : Term} {xs : List Int32} {N : Nat} {H : fl_H} {a1 : Int} {Q : Option Int → fl_H → Prop} (W : ((fl_w (-2) ≤ fl_w a1 ∧ fl_w a1 ≤ fl_w ((H 3 0) - 1)) → (fl_w (H 90 0) = 0 → ∀ m, m < N → ck (cm_pg X xs) m cm_m143 [.index 0] H (fun r H3 => r = none ∧ (∀ m, m < N → ck (cm_pg X xs) m cm_m27 [.index 69] H3 (fun r H5 => ∃ x7, r = some x7 ∧ ((fl_w x7 = (-4) → ∀ m, m < N → ck (cm_pg X xs) m cm_m28 [.index 69] H5 (fun r H9 => ∃ x11, r = some x11 ∧ (((fl_w x11 = (-4)) → ∀ m, m < N → ck (cm_pg X xs) m cm_m56 [.index 79] H9 (fun r H13 => ∃ x15, r = some x15 ∧ (∀ m, m < N → ck (cm_pg X xs) m cm_m1 [.index 90, .index 71, fl_t (H13 79 4), fl_t x15] H13 (fun r H16 => r = none ∧ (∀ m, m < N → ck (cm_pg X xs) m cm_m2 [.index 90, fl_t a1] H16 (fun r H18 => ∃ x20, r = some x20 ∧ (Q (some x20) H18))))))) ∧ (¬ (fl_w x11 = (-4)) → Q (some (-1000000002)) H9)))) ∧ (¬ fl_w x7 = (-4) → Q (some (-1000000002)) H5)))))) ∧ (¬ fl_w (H 90 0) = 0 → ∀ m, m < N → ck (cm_pg X xs) m cm_m2 [.index 90, fl_t a1] H (fun r H21 => ∃ x23, r = some x23 ∧ (Q (some x23) H21)))) ∧ (¬ (fl_w (-2) ≤ fl_w a1 ∧ fl_w a1 ≤ fl_w ((H 3 0) - 1)) → Q (some (-1000000001)) H))  : ck (cm_pg X xs) N cm_m123 [.index 0, fl_t a1] H Q :=
  vt_iload_n rfl rfl
 (vt_bipush (v := (-2)) rfl (by decide)
 (vt_aload_n rfl rfl rfl
 (vt_getr rfl rfl rfl
 (vt_getr rfl rfl rfl
 (vt_getf rfl rfl rfl
 (vt_iconst rfl
 (vt_isub rfl
 (vt_callS rfl rfl (fun _ => rfl) (fun _ _ => vt_sum (sm_within)
 (vt_ifn rfl (fun hc1 => vt_aload_n rfl rfl rfl
 (vt_getr rfl rfl rfl
 (vt_getf rfl rfl rfl
 (vt_ifcN rfl (fun hc2 => vt_aload_n rfl rfl rfl
 (vt_getr rfl rfl rfl
 (vt_iload_n rfl rfl
 (vt_callV rfl rfl (fun _ => rfl) (fun m hm => vt_int (((W.1 hc1).2 hc2) m hm) (fun x23 H21 w22 => vt_ret rfl w22)))))) (fun hc2 => vt_aload_n rfl rfl rfl
 (vt_callV rfl rfl (fun _ => rfl) (fun m hm => vt_void (((W.1 hc1).1 hc2) m hm) (fun H3 w4 => vt_aload_n rfl rfl rfl
 (vt_getr rfl rfl rfl
 (vt_callV rfl rfl (fun _ => rfl) (fun m hm => vt_int (w4 m hm) (fun x7 H5 w6 => vt_bipush (v := (-4)) rfl (by decide)
 (vt_icmpN rfl (fun hc8 => vt_ldcw (v := (-1000000002)) rfl (by decide)
 (vt_ret rfl (w6.2 hc8))) (fun hc8 => vt_aload_n rfl rfl rfl
 (vt_getr rfl rfl rfl
 (vt_callV rfl rfl (fun _ => rfl) (fun m hm => vt_int ((w6.1 hc8) m hm) (fun x11 H9 w10 => vt_bipush (v := (-4)) rfl (by decide)
 (vt_icmp rfl (fun hc12 => vt_aload_n rfl rfl rfl
 (vt_getr rfl rfl rfl
 (vt_callV rfl rfl (fun _ => rfl) (fun m hm => vt_int ((w10.1 hc12) m hm) (fun x15 H13 w14 => vt_istore_n rfl
 (vt_aload_n rfl rfl rfl
 (vt_getr rfl rfl rfl
 (vt_aload_n rfl rfl rfl
 (vt_getr rfl rfl rfl
 (vt_getr rfl rfl rfl
 (vt_aload_n rfl rfl rfl
 (vt_getr rfl rfl rfl
 (vt_getf rfl rfl rfl
 (vt_iload_n rfl rfl
 (vt_callV rfl rfl (fun _ => rfl) (fun m hm => vt_void (w14 m hm) (fun H16 w17 => vt_aload_n rfl rfl rfl
 (vt_getr rfl rfl rfl
 (vt_iload_n rfl rfl
 (vt_callV rfl rfl (fun _ => rfl) (fun m hm => vt_int (w17 m hm) (fun x20 H18 w19 => vt_ret rfl w19)))))))))))))))))))))) (fun hc12 => vt_ldcw (v := (-1000000002)) rfl (by decide)
 (vt_ret rfl (w10.2 hc12)))))))))))))))))))))) (fun hc1 => vt_ldc (v := (-1000000001)) rfl (by decide)
 (vt_ret rfl (W.2 hc1)))))))))))))
theorem ve_Answer_tell_90 {X : Term} {xs : List Int32} {N : Nat} {H : fl_H} {a1 : Int} {Q : Option Int → fl_H → Prop} (W : (fl_w a1 = (-2) → Q (some (H 90 3)) H) ∧ (¬ fl_w a1 = (-2) → ((fl_w 0 ≤ fl_w a1 ∧ fl_w a1 ≤ fl_w 5) → (0 ≤ fl_w a1 ∧ fl_w a1 < 6 → Q (some (H 91 (fl_w a1).toNat)) H)) ∧ (¬ (fl_w 0 ≤ fl_w a1 ∧ fl_w a1 ≤ fl_w 5) → Q (some (H 90 2)) H)))  : ck (cm_pg X xs) N cm_m2 [.index 90, fl_t a1] H Q :=
  vt_iload_n rfl rfl
 (vt_bipush (v := (-2)) rfl (by decide)
 (vt_icmpN rfl (fun hc1 => vt_iload_n rfl rfl
 (vt_iconst rfl
 (vt_iconst rfl
 (vt_callS rfl rfl (fun _ => rfl) (fun _ _ => vt_sum (sm_within)
 (vt_ifb rfl (fun hc2 => vt_aload_n rfl rfl rfl
 (vt_getr rfl rfl rfl
 (vt_iload_n rfl rfl
 (vt_iald rfl rfl (fun hf3 => vt_goto rfl
 (vt_ret rfl (((W.2 hc1).1 hc2) hf3))))))) (fun hc2 => vt_aload_n rfl rfl rfl
 (vt_getf rfl rfl rfl
 (vt_ret rfl ((W.2 hc1).2 hc2)))))))))) (fun hc1 => vt_aload_n rfl rfl rfl
 (vt_getf rfl rfl rfl
 (vt_ret rfl (W.1 hc1))))))
theorem ve_Answer_keep_90_71 {X : Term} {xs : List Int32} {N : Nat} {H : fl_H} {a2 a3 : Int} {Q : Option Int → fl_H → Prop} (W : ∀ H1, H1 = fl_cp H 71 91 6 → (∀ H3, H3 = fl_up H1 90 2 a2 → (∀ H5, H5 = fl_up H3 90 3 a3 → (∀ H7, H7 = fl_up H5 90 0 1 → (Q none H7)))))  : ck (cm_pg X xs) N cm_m1 [.index 90, .index 71, fl_t a2, fl_t a3] H Q :=
  vt_aload_n rfl rfl rfl
 (vt_iconst rfl
 (vt_aload_n rfl rfl rfl
 (vt_getr rfl rfl rfl
 (vt_iconst rfl
 (vt_bipush (v := 6) rfl (by decide)
 (vt_copy (n := 6) rfl rfl rfl rfl rfl rfl (vt_nm (fun H1 e2 => vt_aload_n rfl rfl rfl
 (vt_iload_n rfl rfl
 (vt_putf rfl rfl rfl (vt_nm (fun H3 e4 => vt_aload_n rfl rfl rfl
 (vt_iload_n rfl rfl
 (vt_putf rfl rfl rfl (vt_nm (fun H5 e6 => vt_aload_n rfl rfl rfl
 (vt_iconst rfl
 (vt_putf rfl rfl rfl (vt_nm (fun H7 e8 => vt_retv rfl ((((W H1 e2) H3 e4) H5 e6) H7 e8)))))))))))))))))))))
def hd_GoodsBook_bound_0_25 (P : cm_G) (N : Nat) (H : fl_H) (a1 : Int) (a2 : Int) (Q : Option Int → fl_H → Prop) : Prop := ∀ lv : cm_Lv, cm_nth lv 0 = some (some (.index 0)) → cm_nth lv 1 = some (some (fl_t a1)) → cm_nth lv 2 = some (some (fl_t a2)) → vt P N cm_m122 25 lv [] H Q
theorem vh_GoodsBook_bound_0_25 {X : Term} {xs : List Int32} {N : Nat} {H : fl_H} {a1 : Int} {a2 : Int} {Q : Option Int → fl_H → Prop} (W : ((fl_w (H 3 0) ≤ fl_w a2) → Q (some a1) H) ∧ (¬ (fl_w (H 3 0) ≤ fl_w a2) → ∀ m, m < N → ck (cm_pg X xs) m cm_m23 [.index 69, fl_t a2, fl_t (H 3 0)] H (fun r H2 => ∃ x4, r = some x4 ∧ (∀ m, m < N → hd_GoodsBook_bound_0_25 (cm_pg X xs) m H2 (a1 + x4) (a2 + 1) Q)))) : hd_GoodsBook_bound_0_25 (cm_pg X xs) N H a1 a2 Q :=
 fun lv h0 h1 h2 =>
 vt_iload_n rfl h2
 (vt_aload_n rfl h0 rfl
 (vt_getr rfl rfl rfl
 (vt_getr rfl rfl rfl
 (vt_getf rfl rfl rfl
 (vt_icmp rfl (fun hc1 => vt_iload_n rfl h1
 (vt_ret rfl (W.1 hc1))) (fun hc1 => vt_iload_n rfl h1
 (vt_aload_n rfl h0 rfl
 (vt_getr rfl rfl rfl
 (vt_iload_n rfl h2
 (vt_aload_n rfl h0 rfl
 (vt_getr rfl rfl rfl
 (vt_getr rfl rfl rfl
 (vt_getf rfl rfl rfl
 (vt_callV rfl rfl (fun _ => rfl) (fun m hm => vt_int ((W.2 hc1) m hm) (fun x4 H2 w3 => vt_iadd rfl
 (vt_istore_nA rfl (fun hl5 => vt_iincA rfl (fl_lsn (by decide) h2) (fun hl6 => vt_gotoS rfl (fun m hm => (w3 m hm) _ (fl_lsn (by decide) (fl_lsn (by decide) h0)) (fl_lsn (by decide) (fl_lse hl5)) (fl_lse hl6)))))))))))))))))))))
theorem ve_GoodsBook_bound_0 {X : Term} {xs : List Int32} {N : Nat} {H : fl_H} {Q : Option Int → fl_H → Prop} (W : ∀ m, m < N → ck (cm_pg X xs) m cm_m5 [.index 9] H (fun r H1 => ∃ x3, r = some x3 ∧ (∀ m, m < N → ck (cm_pg X xs) m cm_m13 [.index 69, fl_t (-1), fl_t (-1)] H1 (fun r H4 => r = none ∧ (hd_GoodsBook_bound_0_25 (cm_pg X xs) N H4 (60 * x3) 0 Q)))))  : ck (cm_pg X xs) N cm_m122 [.index 0] H Q :=
  vt_bipush (v := 60) rfl (by decide)
 (vt_aload_n rfl rfl rfl
 (vt_getr rfl rfl rfl
 (vt_getr rfl rfl rfl
 (vt_callV rfl rfl (fun _ => rfl) (fun m hm => vt_int (W m hm) (fun x3 H1 w2 => vt_imul rfl
 (vt_istore_n rfl
 (vt_aload_n rfl rfl rfl
 (vt_getr rfl rfl rfl
 (vt_iconst rfl
 (vt_iconst rfl
 (vt_callV rfl rfl (fun _ => rfl) (fun m hm => vt_void (w2 m hm) (fun H4 w5 => vt_iconst rfl
 (vt_istore_n rfl
 (w5 _ rfl rfl rfl))))))))))))))))
def hd_Bonds_sumAboveZero_9_4 (P : cm_G) (N : Nat) (H : fl_H) (a1 : Int) (a2 : Int) (Q : Option Int → fl_H → Prop) : Prop := ∀ lv : cm_Lv, cm_nth lv 0 = some (some (.index 9)) → cm_nth lv 1 = some (some (fl_t a1)) → cm_nth lv 2 = some (some (fl_t a2)) → vt P N cm_m5 4 lv [] H Q
theorem vh_Bonds_sumAboveZero_9_4 {X : Term} {xs : List Int32} {N : Nat} {H : fl_H} {a1 : Int} {a2 : Int} {Q : Option Int → fl_H → Prop} (W : ((fl_w (H 9 0) ≤ fl_w a2) → Q (some a1) H) ∧ (¬ (fl_w (H 9 0) ≤ fl_w a2) → (0 ≤ fl_w a2 ∧ fl_w a2 < 12 → ∀ m, m < N → hd_Bonds_sumAboveZero_9_4 (cm_pg X xs) m H (a1 + (max (fl_w (H 13 (fl_w a2).toNat)) (fl_w 0))) (a2 + 1) Q))) : hd_Bonds_sumAboveZero_9_4 (cm_pg X xs) N H a1 a2 Q :=
 fun lv h0 h1 h2 =>
 vt_iload_n rfl h2
 (vt_aload_n rfl h0 rfl
 (vt_getf rfl rfl rfl
 (vt_icmp rfl (fun hc1 => vt_iload_n rfl h1
 (vt_ret rfl (W.1 hc1))) (fun hc1 => vt_iload_n rfl h1
 (vt_aload_n rfl h0 rfl
 (vt_getr rfl rfl rfl
 (vt_iload_n rfl h2
 (vt_iald rfl rfl (fun hf2 => vt_iconst rfl
 (vt_max rfl
 (vt_iadd rfl
 (vt_istore_nA rfl (fun hl3 => vt_iincA rfl (fl_lsn (by decide) h2) (fun hl4 => vt_gotoS rfl (fun m hm => (((W.2 hc1) hf2) m hm) _ (fl_lsn (by decide) (fl_lsn (by decide) h0)) (fl_lsn (by decide) (fl_lse hl3)) (fl_lse hl4))))))))))))))))
theorem ve_Bonds_sumAboveZero_9 {X : Term} {xs : List Int32} {N : Nat} {H : fl_H} {Q : Option Int → fl_H → Prop} (W : hd_Bonds_sumAboveZero_9_4 (cm_pg X xs) N H 0 0 Q)  : ck (cm_pg X xs) N cm_m5 [.index 9] H Q :=
  vt_iconst rfl
 (vt_istore_n rfl
 (vt_iconst rfl
 (vt_istore_n rfl
 (W _ rfl rfl rfl))))
theorem ve_GoodsBook_squares_0 {X : Term} {xs : List Int32} {N : Nat} {H : fl_H} {a1 a2 : Int} {Q : Option Int → fl_H → Prop} (W : ∀ m, m < N → ck (cm_pg X xs) m cm_m138 [.index 0, fl_t a1] H (fun r H1 => ∃ x3, r = some x3 ∧ (((fl_w x3 = 0) → Q (some (-1)) H1) ∧ (¬ (fl_w x3 = 0) → ((fl_w (-2) ≤ fl_w a2 ∧ fl_w a2 ≤ fl_w ((H1 3 0) - 1)) → (fl_w a2 = (-2) → (0 ≤ fl_w a1 ∧ fl_w a1 < 3 → ∀ m, m < N → ck (cm_pg X xs) m cm_m53 [.index 85, fl_t (H1 2 (fl_w a1).toNat)] H1 (fun r H8 => ∃ x10, r = some x10 ∧ (Q (some x10) H8)))) ∧ (¬ fl_w a2 = (-2) → (0 ≤ fl_w a1 ∧ fl_w a1 < 3 → ∀ m, m < N → ck (cm_pg X xs) m cm_m49 [.index 85, fl_t (H1 2 (fl_w a1).toNat)] H1 (fun r H12 => r = none ∧ ((fl_w a2 = (-1) → ∀ m, m < N → ck (cm_pg X xs) m cm_m50 [.index 85] H12 (fun r H15 => ∃ x17, r = some x17 ∧ (Q (some x17) H15))) ∧ (¬ fl_w a2 = (-1) → ∀ m, m < N → ck (cm_pg X xs) m cm_m51 [.index 85, fl_t a2] H12 (fun r H18 => ∃ x20, r = some x20 ∧ (Q (some x20) H18)))))))) ∧ (¬ (fl_w (-2) ≤ fl_w a2 ∧ fl_w a2 ≤ fl_w ((H1 3 0) - 1)) → Q (some (-1)) H1)))))  : ck (cm_pg X xs) N cm_m121 [.index 0, fl_t a1, fl_t a2] H Q :=
  vt_aload_n rfl rfl rfl
 (vt_iload_n rfl rfl
 (vt_callV rfl rfl (fun _ => rfl) (fun m hm => vt_int (W m hm) (fun x3 H1 w2 => vt_ifc rfl (fun hc4 => vt_iconst rfl
 (vt_ret rfl (w2.1 hc4))) (fun hc4 => vt_iload_n rfl rfl
 (vt_bipush (v := (-2)) rfl (by decide)
 (vt_aload_n rfl rfl rfl
 (vt_getr rfl rfl rfl
 (vt_getr rfl rfl rfl
 (vt_getf rfl rfl rfl
 (vt_iconst rfl
 (vt_isub rfl
 (vt_callS rfl rfl (fun _ => rfl) (fun _ _ => vt_sum (sm_within)
 (vt_ifn rfl (fun hc5 => vt_iload_n rfl rfl
 (vt_bipush (v := (-2)) rfl (by decide)
 (vt_icmpN rfl (fun hc6 => vt_aload_n rfl rfl rfl
 (vt_getr rfl rfl rfl
 (vt_aload_n rfl rfl rfl
 (vt_getr rfl rfl rfl
 (vt_getr rfl rfl rfl
 (vt_iload_n rfl rfl
 (vt_iald rfl rfl (fun hf11 => vt_callV rfl rfl (fun _ => rfl) (fun m hm => vt_void (((((w2.2 hc4).1 hc5).2 hc6) hf11) m hm) (fun H12 w13 => vt_iload_n rfl rfl
 (vt_iconst rfl
 (vt_icmpN rfl (fun hc14 => vt_aload_n rfl rfl rfl
 (vt_getr rfl rfl rfl
 (vt_iload_n rfl rfl
 (vt_callV rfl rfl (fun _ => rfl) (fun m hm => vt_int ((w13.2 hc14) m hm) (fun x20 H18 w19 => vt_ret rfl w19)))))) (fun hc14 => vt_aload_n rfl rfl rfl
 (vt_getr rfl rfl rfl
 (vt_callV rfl rfl (fun _ => rfl) (fun m hm => vt_int ((w13.1 hc14) m hm) (fun x17 H15 w16 => vt_goto rfl
 (vt_ret rfl w16)))))))))))))))))) (fun hc6 => vt_aload_n rfl rfl rfl
 (vt_getr rfl rfl rfl
 (vt_aload_n rfl rfl rfl
 (vt_getr rfl rfl rfl
 (vt_getr rfl rfl rfl
 (vt_iload_n rfl rfl
 (vt_iald rfl rfl (fun hf7 => vt_callV rfl rfl (fun _ => rfl) (fun m hm => vt_int (((((w2.2 hc4).1 hc5).1 hc6) hf7) m hm) (fun x10 H8 w9 => vt_ret rfl w9))))))))))))) (fun hc5 => vt_iconst rfl
 (vt_ret rfl ((w2.2 hc4).2 hc5))))))))))))))))))
end
