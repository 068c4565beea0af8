noncomputable section
/-! L3: what small methods come to. -/
theorem ve_GoodsBookModel_in {X : Term} {xs : List Int32} {N : Nat} {H : fl_H} {a0 a2 a4 : Int} {Q : Option Int → fl_H → Prop} (W : ((fl_w (fl_lc a0 a2) < 0) → Q (some 0) H) ∧ (¬ (fl_w (fl_lc a0 a2) < 0) → ((0 < fl_w (fl_lc a0 a4)) → Q (some 0) H) ∧ (¬ (0 < fl_w (fl_lc a0 a4)) → Q (some 1) H))) (ga0 : fl_lr a0) (ga2 : fl_lr a2) (ga4 : fl_lr a4) : ck (cm_pg X xs) N cm_m146 [fl_l a0, fl_l a2, fl_l a4] H Q :=
  vt_lload_n rfl rfl
 (vt_lload_n rfl rfl
 (vt_lcmp rfl ga0 ga2
 (vt_ifc rfl (fun hc1 => vt_iconst rfl
 (vt_ret rfl (W.1 hc1))) (fun hc1 => vt_lload_n rfl rfl
 (vt_lload rfl rfl
 (vt_lcmp rfl ga0 ga4
 (vt_ifc rfl (fun hc2 => vt_iconst rfl
 (vt_ret rfl ((W.2 hc1).1 hc2))) (fun hc2 => vt_iconst rfl
 (vt_goto rfl
 (vt_ret rfl ((W.2 hc1).2 hc2)))))))))))
theorem ve_GoodsBook_within {X : Term} {xs : List Int32} {N : Nat} {H : fl_H} {a0 a1 a2 : Int} {Q : Option Int → fl_H → Prop} (W : ((fl_w a0 < fl_w a1) → Q (some 0) H) ∧ (¬ (fl_w a0 < fl_w a1) → ((fl_w a2 < fl_w a0) → Q (some 0) H) ∧ (¬ (fl_w a2 < fl_w a0) → Q (some 1) H)))  : ck (cm_pg X xs) N cm_m135 [fl_t a0, fl_t a1, fl_t a2] H Q :=
  vt_iload_n rfl rfl
 (vt_iload_n rfl rfl
 (vt_icmp rfl (fun hc1 => vt_iconst rfl
 (vt_ret rfl (W.1 hc1))) (fun hc1 => vt_iload_n rfl rfl
 (vt_iload_n rfl rfl
 (vt_icmp rfl (fun hc2 => vt_iconst rfl
 (vt_ret rfl ((W.2 hc1).1 hc2))) (fun hc2 => vt_iconst rfl
 (vt_goto rfl
 (vt_ret rfl ((W.2 hc1).2 hc2)))))))))
theorem sm_in {X : Term} {xs : List Int32} {m : Nat} {H : fl_H} {v lo hi : Int} (g0 : fl_lr v) (g2 : fl_lr lo) (g4 : fl_lr hi) : ck (cm_pg X xs) m cm_m146 [fl_l v, fl_l lo, fl_l hi] H (fun r H' => r = some (fl_b (lo ≤ v ∧ v ≤ hi)) ∧ H' = H) := by
  have hw : ∀ x y : Int, fl_w (fl_lc x y) = fl_lc x y := fun x y => by
    unfold fl_lc
    split
    · rfl
    · split <;> rfl
  have h1 : ∀ x y : Int, fl_lc x y < 0 ↔ x < y := fun x y => by
    unfold fl_lc
    split
    · omega
    · split <;> omega
  have h2 : ∀ x y : Int, 0 < fl_lc x y ↔ y < x := fun x y => by
    unfold fl_lc
    split
    · omega
    · split <;> omega
  refine ve_GoodsBookModel_in ?_ g0 g2 g4
  rw [hw, hw, h1, h2]
  refine ⟨fun h => ⟨by rw [fl_b0 (by omega)], rfl⟩, fun h => ⟨fun k => ⟨by rw [fl_b0 (by omega)], rfl⟩, fun k => ⟨by rw [fl_b1 (by omega)], rfl⟩⟩⟩
theorem sm_within {X : Term} {xs : List Int32} {m : Nat} {H : fl_H} {v lo hi : Int} : ck (cm_pg X xs) m cm_m135 [fl_t v, fl_t lo, fl_t hi] H (fun r H' => r = some (fl_b (fl_w lo ≤ fl_w v ∧ fl_w v ≤ fl_w hi)) ∧ H' = H) := by
  refine ve_GoodsBook_within ?_
  refine ⟨fun h => ⟨by rw [fl_b0 (by omega)], rfl⟩, fun h => ⟨fun k => ⟨by rw [fl_b0 (by omega)], rfl⟩, fun k => ⟨by rw [fl_b1 (by omega)], rfl⟩⟩⟩
theorem ve_Tape_isFigure {X : Term} {xs : List Int32} {N : Nat} {H : fl_H} {a0 : Int} {Q : Option Int → fl_H → Prop} (W : Q (some (fl_b (fl_w 48 ≤ fl_w a0 ∧ fl_w a0 ≤ fl_w 57))) H)  : ck (cm_pg X xs) N cm_m91 [fl_t a0] H Q :=
  vt_iload_n rfl rfl
 (vt_bipush (v := 48) rfl (by decide)
 (vt_bipush (v := 57) rfl (by decide)
 (vt_callS rfl rfl (fun _ => rfl) (fun _ _ => vt_sum (sm_within)
 (vt_ret rfl W)))))
theorem sm_fig {X : Term} {xs : List Int32} {m : Nat} {H : fl_H} {v : Int} : ck (cm_pg X xs) m cm_m91 [fl_t v] H (fun r H' => r = some (fl_b (48 ≤ fl_w v ∧ fl_w v ≤ 57)) ∧ H' = H) :=
  ve_Tape_isFigure ⟨rfl, rfl⟩
theorem ve_Preconditions_checkIndex_X {X : Term} {xs : List Int32} {N : Nat} {H : fl_H} {a0 a1 : Int} {Q : Option Int → fl_H → Prop} (W : ((fl_w a0 < 0) → True) ∧ (¬ (fl_w a0 < 0) → ((fl_w a0 < fl_w a1) → Q (some a0) H) ∧ (¬ (fl_w a0 < fl_w a1) → True)))  : ck (cm_pg X xs) N cm_m251 [fl_t a0, fl_t a1, X] H Q := by
 cases X <;> exact
  vt_iload_n rfl rfl
   (vt_ifc rfl (fun hc1 => vt_aload_nX rfl rfl
   (vt_iload_n rfl rfl
   (vt_iload_n rfl rfl
   (vt_dead (fun _ _ => rfl))))) (fun hc1 => vt_iload_n rfl rfl
   (vt_iload_n rfl rfl
   (vt_icmp rfl (fun hc2 => vt_iload_n rfl rfl
   (vt_ret rfl ((W.2 hc1).1 hc2))) (fun hc2 => vt_aload_nX rfl rfl
   (vt_iload_n rfl rfl
   (vt_iload_n rfl rfl
   (vt_dead (fun _ _ => rfl)))))))))
theorem ve_String_checkIndex {X : Term} {xs : List Int32} {N : Nat} {H : fl_H} {a0 a1 : Int} {Q : Option Int → fl_H → Prop} (W : ∀ m, m < N → ck (cm_pg X xs) m cm_m251 [fl_t a0, fl_t a1, X] H (fun r H1 => ∃ x3, r = some x3 ∧ (Q none H1)))  : ck (cm_pg X xs) N cm_m247 [fl_t a0, fl_t a1] H Q :=
  vt_iload_n rfl rfl
 (vt_iload_n rfl rfl
 (vt_gets rfl rfl
 (vt_callS rfl rfl (fun _ => rfl) (fun m hm => vt_int (W m hm) (fun x3 H1 w2 => vt_mv (fun _ _ => rfl)
 (vt_retv rfl w2))))))
theorem sm_chk {X : Term} {xs : List Int32} {m : Nat} {H : fl_H} {a b : Int} : ck (cm_pg X xs) m cm_m247 [fl_t a, fl_t b] H (fun r H' => r = none ∧ H' = H) :=
  ve_String_checkIndex (fun _ _ => ve_Preconditions_checkIndex_X ⟨fun _ => trivial, fun _ => ⟨fun _ => ⟨_, rfl, rfl, rfl⟩, fun _ => trivial⟩⟩)
theorem ve_String_coder_s4 {X : Term} {xs : List Int32} {N : Nat} {H : fl_H} {Q : Option Int → fl_H → Prop} (W : Q (some 0) H)  : ck (cm_pg X xs) N cm_m245 [.string "" 4] H Q :=
  vt_gets rfl rfl
 (vt_ifc (a := 1) rfl (fun hc1 => by exact absurd (show (1 : Int) = 0 from hc1) (by decide)) (fun _ => vt_aload_n rfl rfl rfl
 (vt_geto rfl rfl rfl
 (vt_goto rfl
 (vt_ret rfl W)))))
theorem sm_coder_4 {X : Term} {xs : List Int32} {m : Nat} {H : fl_H} : ck (cm_pg X xs) m cm_m245 [.string "" 4] H (fun r H' => r = some 0 ∧ H' = H) := ve_String_coder_s4 ⟨rfl, rfl⟩
theorem ve_String_isLatin1_s4 {X : Term} {xs : List Int32} {N : Nat} {H : fl_H} {Q : Option Int → fl_H → Prop} (W : Q (some 1) H)  : ck (cm_pg X xs) N cm_m246 [.string "" 4] H Q :=
  vt_gets rfl rfl
 (vt_ifc (a := 1) rfl (fun hc1 => by exact absurd (show (1 : Int) = 0 from hc1) (by decide)) (fun _ => vt_aload_n rfl rfl rfl
 (vt_geto rfl rfl rfl
 (vt_ifc (a := 0) rfl (fun hc2 => by exact absurd (show ¬ (0 : Int) = 0 from hc2) (by decide)) (fun _ => vt_iconst rfl
 (vt_goto rfl
 (vt_ret rfl W)))))))
theorem sm_latin_4 {X : Term} {xs : List Int32} {m : Nat} {H : fl_H} : ck (cm_pg X xs) m cm_m246 [.string "" 4] H (fun r H' => r = some 1 ∧ H' = H) := ve_String_isLatin1_s4 ⟨rfl, rfl⟩
theorem ve_String_length_s4 {X : Term} {xs : List Int32} {N : Nat} {H : fl_H} {Q : Option Int → fl_H → Prop} (W : Q (some (fl_shr 4 0)) H)  : ck (cm_pg X xs) N cm_m243 [.string "" 4] H Q :=
  vt_aload_n rfl rfl rfl
 (vt_geto rfl rfl rfl
 (vt_aleno (n := 4) rfl rfl rfl
 (vt_aload_n rfl rfl rfl
 (vt_callV rfl rfl (fun _ => rfl) (fun _ _ => vt_sum (sm_coder_4)
 (vt_ishr rfl
 (vt_ret rfl W)))))))
theorem sm_len_4 {X : Term} {xs : List Int32} {m : Nat} {H : fl_H} : ck (cm_pg X xs) m cm_m243 [.string "" 4] H (fun r H' => r = some 4 ∧ H' = H) := ve_String_length_s4 ⟨congrArg some (by decide), rfl⟩
theorem ve_StringLatin1_charAt_s9 {X : Term} {xs : List Int32} {N : Nat} {H : fl_H} {a1 : Int} {Q : Option Int → fl_H → Prop} (W : ∀ m, m < N → ck (cm_pg X xs) m cm_m247 [fl_t a1, fl_t 4] H (fun r H1 => r = none ∧ ((0 ≤ fl_w a1 ∧ fl_w a1 < 4 → Q (some (fl_i2c (fl_and (([112, 108, 114, 102] : List Int).getD (fl_w a1).toNat 0) 255))) H1))))  : ck (cm_pg X xs) N cm_m248 [.string "" 9, fl_t a1] H Q :=
  vt_iload_n rfl rfl
 (vt_aload_n rfl rfl rfl
 (vt_aleno (n := 4) rfl rfl rfl
 (vt_callS rfl rfl (fun _ => rfl) (fun m hm => vt_void (W m hm) (fun H1 w2 => vt_aload_n rfl rfl rfl
 (vt_iload_n rfl rfl
 (vt_bold (l := [112, 108, 114, 102]) rfl rfl rfl (fun hf3 => vt_sipush (v := 255) rfl (by decide)
 (vt_iand rfl
 (vt_i2c rfl
 (vt_ret rfl (w2 hf3))))))))))))
theorem sm_lchar_4 {X : Term} {xs : List Int32} {m : Nat} {H : fl_H} {a : Int} : ck (cm_pg X xs) m cm_m248 [.string "" 9, fl_t a] H (fun r H' => r = some (([112, 108, 114, 102] : List Int).getD (fl_w a).toNat 0) ∧ H' = H) := by
  have key : ∀ j : Nat, j < 4 → fl_i2c (fl_and (([112, 108, 114, 102] : List Int).getD j 0) 255) = ([112, 108, 114, 102] : List Int).getD j 0 := by decide +kernel
  exact ve_StringLatin1_charAt_s9 (fun m _ => ck_mono sm_chk (fun r H1 h => ⟨h.1, fun hb => ⟨by rw [key _ (by omega)], h.2⟩⟩))
theorem ve_String_charAt_s4 {X : Term} {xs : List Int32} {N : Nat} {H : fl_H} {a1 : Int} {Q : Option Int → fl_H → Prop} (W : Q (some (([112, 108, 114, 102] : List Int).getD (fl_w a1).toNat 0)) H)  : ck (cm_pg X xs) N cm_m244 [.string "" 4, fl_t a1] H Q :=
  vt_aload_n rfl rfl rfl
 (vt_callV rfl rfl (fun _ => rfl) (fun _ _ => vt_sum (sm_latin_4)
 (vt_ifc (a := 1) rfl (fun hc1 => by exact absurd (show (1 : Int) = 0 from hc1) (by decide)) (fun _ => vt_aload_n rfl rfl rfl
 (vt_geto rfl rfl rfl
 (vt_iload_n rfl rfl
 (vt_callS rfl rfl (fun _ => rfl) (fun _ _ => vt_sum (sm_lchar_4)
 (vt_ret rfl W)))))))))
theorem sm_char_4 {X : Term} {xs : List Int32} {m : Nat} {H : fl_H} {a : Int} : ck (cm_pg X xs) m cm_m244 [.string "" 4, fl_t a] H (fun r H' => r = some (([112, 108, 114, 102] : List Int).getD (fl_w a).toNat 0) ∧ H' = H) := ve_String_charAt_s4 ⟨rfl, rfl⟩
theorem ve_String_coder_s5 {X : Term} {xs : List Int32} {N : Nat} {H : fl_H} {Q : Option Int → fl_H → Prop} (W : Q (some 0) H)  : ck (cm_pg X xs) N cm_m245 [.string "" 5] H Q :=
  vt_gets rfl rfl
 (vt_ifc (a := 1) rfl (fun hc1 => by exact absurd (show (1 : Int) = 0 from hc1) (by decide)) (fun _ => vt_aload_n rfl rfl rfl
 (vt_geto rfl rfl rfl
 (vt_goto rfl
 (vt_ret rfl W)))))
theorem sm_coder_5 {X : Term} {xs : List Int32} {m : Nat} {H : fl_H} : ck (cm_pg X xs) m cm_m245 [.string "" 5] H (fun r H' => r = some 0 ∧ H' = H) := ve_String_coder_s5 ⟨rfl, rfl⟩
theorem ve_String_isLatin1_s5 {X : Term} {xs : List Int32} {N : Nat} {H : fl_H} {Q : Option Int → fl_H → Prop} (W : Q (some 1) H)  : ck (cm_pg X xs) N cm_m246 [.string "" 5] H Q :=
  vt_gets rfl rfl
 (vt_ifc (a := 1) rfl (fun hc1 => by exact absurd (show (1 : Int) = 0 from hc1) (by decide)) (fun _ => vt_aload_n rfl rfl rfl
 (vt_geto rfl rfl rfl
 (vt_ifc (a := 0) rfl (fun hc2 => by exact absurd (show ¬ (0 : Int) = 0 from hc2) (by decide)) (fun _ => vt_iconst rfl
 (vt_goto rfl
 (vt_ret rfl W)))))))
theorem sm_latin_5 {X : Term} {xs : List Int32} {m : Nat} {H : fl_H} : ck (cm_pg X xs) m cm_m246 [.string "" 5] H (fun r H' => r = some 1 ∧ H' = H) := ve_String_isLatin1_s5 ⟨rfl, rfl⟩
theorem ve_String_length_s5 {X : Term} {xs : List Int32} {N : Nat} {H : fl_H} {Q : Option Int → fl_H → Prop} (W : Q (some (fl_shr 4 0)) H)  : ck (cm_pg X xs) N cm_m243 [.string "" 5] H Q :=
  vt_aload_n rfl rfl rfl
 (vt_geto rfl rfl rfl
 (vt_aleno (n := 4) rfl rfl rfl
 (vt_aload_n rfl rfl rfl
 (vt_callV rfl rfl (fun _ => rfl) (fun _ _ => vt_sum (sm_coder_5)
 (vt_ishr rfl
 (vt_ret rfl W)))))))
theorem sm_len_5 {X : Term} {xs : List Int32} {m : Nat} {H : fl_H} : ck (cm_pg X xs) m cm_m243 [.string "" 5] H (fun r H' => r = some 4 ∧ H' = H) := ve_String_length_s5 ⟨congrArg some (by decide), rfl⟩
theorem ve_StringLatin1_charAt_s10 {X : Term} {xs : List Int32} {N : Nat} {H : fl_H} {a1 : Int} {Q : Option Int → fl_H → Prop} (W : ∀ m, m < N → ck (cm_pg X xs) m cm_m247 [fl_t a1, fl_t 4] H (fun r H1 => r = none ∧ ((0 ≤ fl_w a1 ∧ fl_w a1 < 4 → Q (some (fl_i2c (fl_and (([48, 49, 50, 51] : List Int).getD (fl_w a1).toNat 0) 255))) H1))))  : ck (cm_pg X xs) N cm_m248 [.string "" 10, fl_t a1] H Q :=
  vt_iload_n rfl rfl
 (vt_aload_n rfl rfl rfl
 (vt_aleno (n := 4) rfl rfl rfl
 (vt_callS rfl rfl (fun _ => rfl) (fun m hm => vt_void (W m hm) (fun H1 w2 => vt_aload_n rfl rfl rfl
 (vt_iload_n rfl rfl
 (vt_bold (l := [48, 49, 50, 51]) rfl rfl rfl (fun hf3 => vt_sipush (v := 255) rfl (by decide)
 (vt_iand rfl
 (vt_i2c rfl
 (vt_ret rfl (w2 hf3))))))))))))
theorem sm_lchar_5 {X : Term} {xs : List Int32} {m : Nat} {H : fl_H} {a : Int} : ck (cm_pg X xs) m cm_m248 [.string "" 10, fl_t a] H (fun r H' => r = some (([48, 49, 50, 51] : List Int).getD (fl_w a).toNat 0) ∧ H' = H) := by
  have key : ∀ j : Nat, j < 4 → fl_i2c (fl_and (([48, 49, 50, 51] : List Int).getD j 0) 255) = ([48, 49, 50, 51] : List Int).getD j 0 := by decide +kernel
  exact ve_StringLatin1_charAt_s10 (fun m _ => ck_mono sm_chk (fun r H1 h => ⟨h.1, fun hb => ⟨by rw [key _ (by omega)], h.2⟩⟩))
theorem ve_String_charAt_s5 {X : Term} {xs : List Int32} {N : Nat} {H : fl_H} {a1 : Int} {Q : Option Int → fl_H → Prop} (W : Q (some (([48, 49, 50, 51] : List Int).getD (fl_w a1).toNat 0)) H)  : ck (cm_pg X xs) N cm_m244 [.string "" 5, fl_t a1] H Q :=
  vt_aload_n rfl rfl rfl
 (vt_callV rfl rfl (fun _ => rfl) (fun _ _ => vt_sum (sm_latin_5)
 (vt_ifc (a := 1) rfl (fun hc1 => by exact absurd (show (1 : Int) = 0 from hc1) (by decide)) (fun _ => vt_aload_n rfl rfl rfl
 (vt_geto rfl rfl rfl
 (vt_iload_n rfl rfl
 (vt_callS rfl rfl (fun _ => rfl) (fun _ _ => vt_sum (sm_lchar_5)
 (vt_ret rfl W)))))))))
theorem sm_char_5 {X : Term} {xs : List Int32} {m : Nat} {H : fl_H} {a : Int} : ck (cm_pg X xs) m cm_m244 [.string "" 5, fl_t a] H (fun r H' => r = some (([48, 49, 50, 51] : List Int).getD (fl_w a).toNat 0) ∧ H' = H) := ve_String_charAt_s5 ⟨rfl, rfl⟩
theorem ve_String_coder_s6 {X : Term} {xs : List Int32} {N : Nat} {H : fl_H} {Q : Option Int → fl_H → Prop} (W : Q (some 0) H)  : ck (cm_pg X xs) N cm_m245 [.string "" 6] H Q :=
  vt_gets rfl rfl
 (vt_ifc (a := 1) rfl (fun hc1 => by exact absurd (show (1 : Int) = 0 from hc1) (by decide)) (fun _ => vt_aload_n rfl rfl rfl
 (vt_geto rfl rfl rfl
 (vt_goto rfl
 (vt_ret rfl W)))))
theorem sm_coder_6 {X : Term} {xs : List Int32} {m : Nat} {H : fl_H} : ck (cm_pg X xs) m cm_m245 [.string "" 6] H (fun r H' => r = some 0 ∧ H' = H) := ve_String_coder_s6 ⟨rfl, rfl⟩
theorem ve_String_isLatin1_s6 {X : Term} {xs : List Int32} {N : Nat} {H : fl_H} {Q : Option Int → fl_H → Prop} (W : Q (some 1) H)  : ck (cm_pg X xs) N cm_m246 [.string "" 6] H Q :=
  vt_gets rfl rfl
 (vt_ifc (a := 1) rfl (fun hc1 => by exact absurd (show (1 : Int) = 0 from hc1) (by decide)) (fun _ => vt_aload_n rfl rfl rfl
 (vt_geto rfl rfl rfl
 (vt_ifc (a := 0) rfl (fun hc2 => by exact absurd (show ¬ (0 : Int) = 0 from hc2) (by decide)) (fun _ => vt_iconst rfl
 (vt_goto rfl
 (vt_ret rfl W)))))))
theorem sm_latin_6 {X : Term} {xs : List Int32} {m : Nat} {H : fl_H} : ck (cm_pg X xs) m cm_m246 [.string "" 6] H (fun r H' => r = some 1 ∧ H' = H) := ve_String_isLatin1_s6 ⟨rfl, rfl⟩
theorem ve_String_length_s6 {X : Term} {xs : List Int32} {N : Nat} {H : fl_H} {Q : Option Int → fl_H → Prop} (W : Q (some (fl_shr 4 0)) H)  : ck (cm_pg X xs) N cm_m243 [.string "" 6] H Q :=
  vt_aload_n rfl rfl rfl
 (vt_geto rfl rfl rfl
 (vt_aleno (n := 4) rfl rfl rfl
 (vt_aload_n rfl rfl rfl
 (vt_callV rfl rfl (fun _ => rfl) (fun _ _ => vt_sum (sm_coder_6)
 (vt_ishr rfl
 (vt_ret rfl W)))))))
theorem sm_len_6 {X : Term} {xs : List Int32} {m : Nat} {H : fl_H} : ck (cm_pg X xs) m cm_m243 [.string "" 6] H (fun r H' => r = some 4 ∧ H' = H) := ve_String_length_s6 ⟨congrArg some (by decide), rfl⟩
theorem ve_StringLatin1_charAt_s11 {X : Term} {xs : List Int32} {N : Nat} {H : fl_H} {a1 : Int} {Q : Option Int → fl_H → Prop} (W : ∀ m, m < N → ck (cm_pg X xs) m cm_m247 [fl_t a1, fl_t 4] H (fun r H1 => r = none ∧ ((0 ≤ fl_w a1 ∧ fl_w a1 < 4 → Q (some (fl_i2c (fl_and (([49, 50, 51, 52] : List Int).getD (fl_w a1).toNat 0) 255))) H1))))  : ck (cm_pg X xs) N cm_m248 [.string "" 11, fl_t a1] H Q :=
  vt_iload_n rfl rfl
 (vt_aload_n rfl rfl rfl
 (vt_aleno (n := 4) rfl rfl rfl
 (vt_callS rfl rfl (fun _ => rfl) (fun m hm => vt_void (W m hm) (fun H1 w2 => vt_aload_n rfl rfl rfl
 (vt_iload_n rfl rfl
 (vt_bold (l := [49, 50, 51, 52]) rfl rfl rfl (fun hf3 => vt_sipush (v := 255) rfl (by decide)
 (vt_iand rfl
 (vt_i2c rfl
 (vt_ret rfl (w2 hf3))))))))))))
theorem sm_lchar_6 {X : Term} {xs : List Int32} {m : Nat} {H : fl_H} {a : Int} : ck (cm_pg X xs) m cm_m248 [.string "" 11, fl_t a] H (fun r H' => r = some (([49, 50, 51, 52] : List Int).getD (fl_w a).toNat 0) ∧ H' = H) := by
  have key : ∀ j : Nat, j < 4 → fl_i2c (fl_and (([49, 50, 51, 52] : List Int).getD j 0) 255) = ([49, 50, 51, 52] : List Int).getD j 0 := by decide +kernel
  exact ve_StringLatin1_charAt_s11 (fun m _ => ck_mono sm_chk (fun r H1 h => ⟨h.1, fun hb => ⟨by rw [key _ (by omega)], h.2⟩⟩))
theorem ve_String_charAt_s6 {X : Term} {xs : List Int32} {N : Nat} {H : fl_H} {a1 : Int} {Q : Option Int → fl_H → Prop} (W : Q (some (([49, 50, 51, 52] : List Int).getD (fl_w a1).toNat 0)) H)  : ck (cm_pg X xs) N cm_m244 [.string "" 6, fl_t a1] H Q :=
  vt_aload_n rfl rfl rfl
 (vt_callV rfl rfl (fun _ => rfl) (fun _ _ => vt_sum (sm_latin_6)
 (vt_ifc (a := 1) rfl (fun hc1 => by exact absurd (show (1 : Int) = 0 from hc1) (by decide)) (fun _ => vt_aload_n rfl rfl rfl
 (vt_geto rfl rfl rfl
 (vt_iload_n rfl rfl
 (vt_callS rfl rfl (fun _ => rfl) (fun _ _ => vt_sum (sm_lchar_6)
 (vt_ret rfl W)))))))))
theorem sm_char_6 {X : Term} {xs : List Int32} {m : Nat} {H : fl_H} {a : Int} : ck (cm_pg X xs) m cm_m244 [.string "" 6, fl_t a] H (fun r H' => r = some (([49, 50, 51, 52] : List Int).getD (fl_w a).toNat 0) ∧ H' = H) := ve_String_charAt_s6 ⟨rfl, rfl⟩
theorem ve_String_coder_s7 {X : Term} {xs : List Int32} {N : Nat} {H : fl_H} {Q : Option Int → fl_H → Prop} (W : Q (some 0) H)  : ck (cm_pg X xs) N cm_m245 [.string "" 7] H Q :=
  vt_gets rfl rfl
 (vt_ifc (a := 1) rfl (fun hc1 => by exact absurd (show (1 : Int) = 0 from hc1) (by decide)) (fun _ => vt_aload_n rfl rfl rfl
 (vt_geto rfl rfl rfl
 (vt_goto rfl
 (vt_ret rfl W)))))
theorem sm_coder_7 {X : Term} {xs : List Int32} {m : Nat} {H : fl_H} : ck (cm_pg X xs) m cm_m245 [.string "" 7] H (fun r H' => r = some 0 ∧ H' = H) := ve_String_coder_s7 ⟨rfl, rfl⟩
theorem ve_String_isLatin1_s7 {X : Term} {xs : List Int32} {N : Nat} {H : fl_H} {Q : Option Int → fl_H → Prop} (W : Q (some 1) H)  : ck (cm_pg X xs) N cm_m246 [.string "" 7] H Q :=
  vt_gets rfl rfl
 (vt_ifc (a := 1) rfl (fun hc1 => by exact absurd (show (1 : Int) = 0 from hc1) (by decide)) (fun _ => vt_aload_n rfl rfl rfl
 (vt_geto rfl rfl rfl
 (vt_ifc (a := 0) rfl (fun hc2 => by exact absurd (show ¬ (0 : Int) = 0 from hc2) (by decide)) (fun _ => vt_iconst rfl
 (vt_goto rfl
 (vt_ret rfl W)))))))
theorem sm_latin_7 {X : Term} {xs : List Int32} {m : Nat} {H : fl_H} : ck (cm_pg X xs) m cm_m246 [.string "" 7] H (fun r H' => r = some 1 ∧ H' = H) := ve_String_isLatin1_s7 ⟨rfl, rfl⟩
theorem ve_String_length_s7 {X : Term} {xs : List Int32} {N : Nat} {H : fl_H} {Q : Option Int → fl_H → Prop} (W : Q (some (fl_shr 6 0)) H)  : ck (cm_pg X xs) N cm_m243 [.string "" 7] H Q :=
  vt_aload_n rfl rfl rfl
 (vt_geto rfl rfl rfl
 (vt_aleno (n := 6) rfl rfl rfl
 (vt_aload_n rfl rfl rfl
 (vt_callV rfl rfl (fun _ => rfl) (fun _ _ => vt_sum (sm_coder_7)
 (vt_ishr rfl
 (vt_ret rfl W)))))))
theorem sm_len_7 {X : Term} {xs : List Int32} {m : Nat} {H : fl_H} : ck (cm_pg X xs) m cm_m243 [.string "" 7] H (fun r H' => r = some 6 ∧ H' = H) := ve_String_length_s7 ⟨congrArg some (by decide), rfl⟩
theorem ve_StringLatin1_charAt_s12 {X : Term} {xs : List Int32} {N : Nat} {H : fl_H} {a1 : Int} {Q : Option Int → fl_H → Prop} (W : ∀ m, m < N → ck (cm_pg X xs) m cm_m247 [fl_t a1, fl_t 6] H (fun r H1 => r = none ∧ ((0 ≤ fl_w a1 ∧ fl_w a1 < 6 → Q (some (fl_i2c (fl_and (([111, 102, 101, 110, 118, 104] : List Int).getD (fl_w a1).toNat 0) 255))) H1))))  : ck (cm_pg X xs) N cm_m248 [.string "" 12, fl_t a1] H Q :=
  vt_iload_n rfl rfl
 (vt_aload_n rfl rfl rfl
 (vt_aleno (n := 6) rfl rfl rfl
 (vt_callS rfl rfl (fun _ => rfl) (fun m hm => vt_void (W m hm) (fun H1 w2 => vt_aload_n rfl rfl rfl
 (vt_iload_n rfl rfl
 (vt_bold (l := [111, 102, 101, 110, 118, 104]) rfl rfl rfl (fun hf3 => vt_sipush (v := 255) rfl (by decide)
 (vt_iand rfl
 (vt_i2c rfl
 (vt_ret rfl (w2 hf3))))))))))))
theorem sm_lchar_7 {X : Term} {xs : List Int32} {m : Nat} {H : fl_H} {a : Int} : ck (cm_pg X xs) m cm_m248 [.string "" 12, fl_t a] H (fun r H' => r = some (([111, 102, 101, 110, 118, 104] : List Int).getD (fl_w a).toNat 0) ∧ H' = H) := by
  have key : ∀ j : Nat, j < 6 → fl_i2c (fl_and (([111, 102, 101, 110, 118, 104] : List Int).getD j 0) 255) = ([111, 102, 101, 110, 118, 104] : List Int).getD j 0 := by decide +kernel
  exact ve_StringLatin1_charAt_s12 (fun m _ => ck_mono sm_chk (fun r H1 h => ⟨h.1, fun hb => ⟨by rw [key _ (by omega)], h.2⟩⟩))
theorem ve_String_charAt_s7 {X : Term} {xs : List Int32} {N : Nat} {H : fl_H} {a1 : Int} {Q : Option Int → fl_H → Prop} (W : Q (some (([111, 102, 101, 110, 118, 104] : List Int).getD (fl_w a1).toNat 0)) H)  : ck (cm_pg X xs) N cm_m244 [.string "" 7, fl_t a1] H Q :=
  vt_aload_n rfl rfl rfl
 (vt_callV rfl rfl (fun _ => rfl) (fun _ _ => vt_sum (sm_latin_7)
 (vt_ifc (a := 1) rfl (fun hc1 => by exact absurd (show (1 : Int) = 0 from hc1) (by decide)) (fun _ => vt_aload_n rfl rfl rfl
 (vt_geto rfl rfl rfl
 (vt_iload_n rfl rfl
 (vt_callS rfl rfl (fun _ => rfl) (fun _ _ => vt_sum (sm_lchar_7)
 (vt_ret rfl W)))))))))
theorem sm_char_7 {X : Term} {xs : List Int32} {m : Nat} {H : fl_H} {a : Int} : ck (cm_pg X xs) m cm_m244 [.string "" 7, fl_t a] H (fun r H' => r = some (([111, 102, 101, 110, 118, 104] : List Int).getD (fl_w a).toNat 0) ∧ H' = H) := ve_String_charAt_s7 ⟨rfl, rfl⟩
theorem ve_String_coder_s8 {X : Term} {xs : List Int32} {N : Nat} {H : fl_H} {Q : Option Int → fl_H → Prop} (W : Q (some 0) H)  : ck (cm_pg X xs) N cm_m245 [.string "" 8] H Q :=
  vt_gets rfl rfl
 (vt_ifc (a := 1) rfl (fun hc1 => by exact absurd (show (1 : Int) = 0 from hc1) (by decide)) (fun _ => vt_aload_n rfl rfl rfl
 (vt_geto rfl rfl rfl
 (vt_goto rfl
 (vt_ret rfl W)))))
theorem sm_coder_8 {X : Term} {xs : List Int32} {m : Nat} {H : fl_H} : ck (cm_pg X xs) m cm_m245 [.string "" 8] H (fun r H' => r = some 0 ∧ H' = H) := ve_String_coder_s8 ⟨rfl, rfl⟩
theorem ve_String_isLatin1_s8 {X : Term} {xs : List Int32} {N : Nat} {H : fl_H} {Q : Option Int → fl_H → Prop} (W : Q (some 1) H)  : ck (cm_pg X xs) N cm_m246 [.string "" 8] H Q :=
  vt_gets rfl rfl
 (vt_ifc (a := 1) rfl (fun hc1 => by exact absurd (show (1 : Int) = 0 from hc1) (by decide)) (fun _ => vt_aload_n rfl rfl rfl
 (vt_geto rfl rfl rfl
 (vt_ifc (a := 0) rfl (fun hc2 => by exact absurd (show ¬ (0 : Int) = 0 from hc2) (by decide)) (fun _ => vt_iconst rfl
 (vt_goto rfl
 (vt_ret rfl W)))))))
theorem sm_latin_8 {X : Term} {xs : List Int32} {m : Nat} {H : fl_H} : ck (cm_pg X xs) m cm_m246 [.string "" 8] H (fun r H' => r = some 1 ∧ H' = H) := ve_String_isLatin1_s8 ⟨rfl, rfl⟩
theorem ve_String_length_s8 {X : Term} {xs : List Int32} {N : Nat} {H : fl_H} {Q : Option Int → fl_H → Prop} (W : Q (some (fl_shr 2 0)) H)  : ck (cm_pg X xs) N cm_m243 [.string "" 8] H Q :=
  vt_aload_n rfl rfl rfl
 (vt_geto rfl rfl rfl
 (vt_aleno (n := 2) rfl rfl rfl
 (vt_aload_n rfl rfl rfl
 (vt_callV rfl rfl (fun _ => rfl) (fun _ _ => vt_sum (sm_coder_8)
 (vt_ishr rfl
 (vt_ret rfl W)))))))
theorem sm_len_8 {X : Term} {xs : List Int32} {m : Nat} {H : fl_H} : ck (cm_pg X xs) m cm_m243 [.string "" 8] H (fun r H' => r = some 2 ∧ H' = H) := ve_String_length_s8 ⟨congrArg some (by decide), rfl⟩
theorem ve_StringLatin1_charAt_s13 {X : Term} {xs : List Int32} {N : Nat} {H : fl_H} {a1 : Int} {Q : Option Int → fl_H → Prop} (W : ∀ m, m < N → ck (cm_pg X xs) m cm_m247 [fl_t a1, fl_t 2] H (fun r H1 => r = none ∧ ((0 ≤ fl_w a1 ∧ fl_w a1 < 2 → Q (some (fl_i2c (fl_and (([43, 45] : List Int).getD (fl_w a1).toNat 0) 255))) H1))))  : ck (cm_pg X xs) N cm_m248 [.string "" 13, fl_t a1] H Q :=
  vt_iload_n rfl rfl
 (vt_aload_n rfl rfl rfl
 (vt_aleno (n := 2) rfl rfl rfl
 (vt_callS rfl rfl (fun _ => rfl) (fun m hm => vt_void (W m hm) (fun H1 w2 => vt_aload_n rfl rfl rfl
 (vt_iload_n rfl rfl
 (vt_bold (l := [43, 45]) rfl rfl rfl (fun hf3 => vt_sipush (v := 255) rfl (by decide)
 (vt_iand rfl
 (vt_i2c rfl
 (vt_ret rfl (w2 hf3))))))))))))
theorem sm_lchar_8 {X : Term} {xs : List Int32} {m : Nat} {H : fl_H} {a : Int} : ck (cm_pg X xs) m cm_m248 [.string "" 13, fl_t a] H (fun r H' => r = some (([43, 45] : List Int).getD (fl_w a).toNat 0) ∧ H' = H) := by
  have key : ∀ j : Nat, j < 2 → fl_i2c (fl_and (([43, 45] : List Int).getD j 0) 255) = ([43, 45] : List Int).getD j 0 := by decide +kernel
  exact ve_StringLatin1_charAt_s13 (fun m _ => ck_mono sm_chk (fun r H1 h => ⟨h.1, fun hb => ⟨by rw [key _ (by omega)], h.2⟩⟩))
theorem ve_String_charAt_s8 {X : Term} {xs : List Int32} {N : Nat} {H : fl_H} {a1 : Int} {Q : Option Int → fl_H → Prop} (W : Q (some (([43, 45] : List Int).getD (fl_w a1).toNat 0)) H)  : ck (cm_pg X xs) N cm_m244 [.string "" 8, fl_t a1] H Q :=
  vt_aload_n rfl rfl rfl
 (vt_callV rfl rfl (fun _ => rfl) (fun _ _ => vt_sum (sm_latin_8)
 (vt_ifc (a := 1) rfl (fun hc1 => by exact absurd (show (1 : Int) = 0 from hc1) (by decide)) (fun _ => vt_aload_n rfl rfl rfl
 (vt_geto rfl rfl rfl
 (vt_iload_n rfl rfl
 (vt_callS rfl rfl (fun _ => rfl) (fun _ _ => vt_sum (sm_lchar_8)
 (vt_ret rfl W)))))))))
theorem sm_char_8 {X : Term} {xs : List Int32} {m : Nat} {H : fl_H} {a : Int} : ck (cm_pg X xs) m cm_m244 [.string "" 8, fl_t a] H (fun r H' => r = some (([43, 45] : List Int).getD (fl_w a).toNat 0) ∧ H' = H) := ve_String_charAt_s8 ⟨rfl, rfl⟩
end
