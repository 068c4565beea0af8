noncomputable section
/-! L3: the book kept and brought back (as cb_book, for other cells); loops of the reference over all its numbers. -/
section
variable {X : Term} {xs : List Int32}
theorem ci_goods_im {m : Nat} {H : fl_H} : ck (cm_pg X xs) m cm_m47 [.index 41, .index 3] H (fun r H' => r = none ∧ H' = fl_cp (fl_cp (fl_cp (fl_cp (fl_cp (fl_up H 41 0 (H 3 0)) 4 42 6) 5 43 6) 6 44 12) 7 45 12) 8 46 12) :=
  ve_Goods_become_41_3 (fun H1 e1 H3 e3 H5 e5 H7 e7 H9 e9 H11 e11 => ⟨rfl, by rw [e11, e9, e7, e5, e3, e1]⟩)
theorem ci_bonds_im {m : Nat} {H : fl_H} : ck (cm_pg X xs) m cm_m6 [.index 47, .index 9] H (fun r H' => r = none ∧ H' = fl_cp (fl_cp (fl_cp (fl_cp (fl_up H 47 0 (H 9 0)) 10 48 12) 11 49 12) 12 50 12) 13 51 12) :=
  ve_Bonds_become_47_9 (fun H1 e1 H3 e3 H5 e5 H7 e7 H9 e9 => ⟨rfl, by rw [e9, e7, e5, e3, e1]⟩)
theorem ci_years_im {m : Nat} {H : fl_H} : ck (cm_pg X xs) m cm_m98 [.index 52, .index 14] H (fun r H' => r = none ∧ H' = fl_cp (fl_cp (fl_cp (fl_up H 52 0 (H 14 0)) 15 53 12) 16 54 12) 17 55 12) :=
  ve_Years_become_52_14 (fun H1 e1 H3 e3 H5 e5 H7 e7 => ⟨rfl, by rw [e7, e5, e3, e1]⟩)
theorem ci_book_im {m : Nat} {H : fl_H} : ck (cm_pg X xs) m cm_m11 [.index 39, .index 1] H (fun r H' => r = none ∧ (∀ c, (c < 39 ∨ 57 < c) → H' c = H c) ∧ cz H' 39 = cz H 1) := by
  refine ve_Book_become_39_1 (fun H1 e1 H3 e3 m hm => ck_mono (ci_goods_im (X := X) (xs := xs)) (fun r H5 h5 => ⟨h5.1, fun m hm => ck_mono (ci_bonds_im (X := X) (xs := xs)) (fun r H7 h7 => ⟨h7.1, fun m hm => ck_mono (ci_years_im (X := X) (xs := xs)) (fun r H9 h9 => ⟨h9.1, fun H11 e11 H13 e13 => ⟨rfl, fun c hc => ?_, ?_⟩⟩)⟩)⟩))
  · have e5 := h5.2
    have e7 := h7.2
    have e9 := h9.2
    funext i
    rw [e13, e11, e9, e7, e5, e3, e1]
    simp only [fl_cp, fl_up]
    repeat (rw [if_neg (by omega)])
  · have e5 := h5.2
    have e7 := h7.2
    have e9 := h9.2
    clear h5 h7 h9
    subst e1 e3 e5 e7 e9 e11 e13
    funext j
    unfold cz
    by_cases hj : vld j = true
    · rw [if_pos hj, if_pos hj]
      have h1 := slt_le j (vld_lt hj)
      have h2 := slt_bd2 j (vld_lt hj) hj
      generalize slt j = s at h1 h2
      obtain ⟨d, i⟩ := s
      simp only [] at h1 h2 ⊢
      have h1 : d < 19 := by omega
      match d, h1, h2 with
      | 0, _, h2 => simp [slz] at h2; simp [fl_cp, fl_up, h2]
      | 1, _, h2 => simp [slz] at h2; simp [fl_cp, fl_up, h2]
      | 2, _, h2 => simp [slz] at h2; simp [fl_cp, fl_up, h2]
      | 3, _, h2 => simp [slz] at h2; simp [fl_cp, fl_up, h2]
      | 4, _, h2 => simp [slz] at h2; simp [fl_cp, fl_up, h2]
      | 5, _, h2 => simp [slz] at h2; simp [fl_cp, fl_up, h2]
      | 6, _, h2 => simp [slz] at h2; simp [fl_cp, fl_up, h2]
      | 7, _, h2 => simp [slz] at h2; simp [fl_cp, fl_up, h2]
      | 8, _, h2 => simp [slz] at h2; simp [fl_cp, fl_up, h2]
      | 9, _, h2 => simp [slz] at h2; simp [fl_cp, fl_up, h2]
      | 10, _, h2 => simp [slz] at h2; simp [fl_cp, fl_up, h2]
      | 11, _, h2 => simp [slz] at h2; simp [fl_cp, fl_up, h2]
      | 12, _, h2 => simp [slz] at h2; simp [fl_cp, fl_up, h2]
      | 13, _, h2 => simp [slz] at h2; simp [fl_cp, fl_up, h2]
      | 14, _, h2 => simp [slz] at h2; simp [fl_cp, fl_up, h2]
      | 15, _, h2 => simp [slz] at h2; simp [fl_cp, fl_up, h2]
      | 16, _, h2 => simp [slz] at h2; simp [fl_cp, fl_up, h2]
      | 17, _, h2 => simp [slz] at h2; simp [fl_cp, fl_up, h2]
      | 18, _, h2 => simp [slz] at h2; simp [fl_cp, fl_up, h2]
      | d + 19, h1, _ => exact absurd h1 (by omega)
    · rw [if_neg hj, if_neg hj]
theorem ci_goods_re {m : Nat} {H : fl_H} : ck (cm_pg X xs) m cm_m47 [.index 3, .index 41] H (fun r H' => r = none ∧ H' = fl_cp (fl_cp (fl_cp (fl_cp (fl_cp (fl_up H 3 0 (H 41 0)) 42 4 6) 43 5 6) 44 6 12) 45 7 12) 46 8 12) :=
  ve_Goods_become_3_41 (fun H1 e1 H3 e3 H5 e5 H7 e7 H9 e9 H11 e11 => ⟨rfl, by rw [e11, e9, e7, e5, e3, e1]⟩)
theorem ci_bonds_re {m : Nat} {H : fl_H} : ck (cm_pg X xs) m cm_m6 [.index 9, .index 47] H (fun r H' => r = none ∧ H' = fl_cp (fl_cp (fl_cp (fl_cp (fl_up H 9 0 (H 47 0)) 48 10 12) 49 11 12) 50 12 12) 51 13 12) :=
  ve_Bonds_become_9_47 (fun H1 e1 H3 e3 H5 e5 H7 e7 H9 e9 => ⟨rfl, by rw [e9, e7, e5, e3, e1]⟩)
theorem ci_years_re {m : Nat} {H : fl_H} : ck (cm_pg X xs) m cm_m98 [.index 14, .index 52] H (fun r H' => r = none ∧ H' = fl_cp (fl_cp (fl_cp (fl_up H 14 0 (H 52 0)) 53 15 12) 54 16 12) 55 17 12) :=
  ve_Years_become_14_52 (fun H1 e1 H3 e3 H5 e5 H7 e7 => ⟨rfl, by rw [e7, e5, e3, e1]⟩)
theorem ci_book_re {m : Nat} {H : fl_H} : ck (cm_pg X xs) m cm_m11 [.index 1, .index 39] H (fun r H' => r = none ∧ (∀ c, (c < 1 ∨ 19 < c) → H' c = H c) ∧ cz H' 1 = cz H 39) := by
  refine ve_Book_become_1_39 (fun H1 e1 H3 e3 m hm => ck_mono (ci_goods_re (X := X) (xs := xs)) (fun r H5 h5 => ⟨h5.1, fun m hm => ck_mono (ci_bonds_re (X := X) (xs := xs)) (fun r H7 h7 => ⟨h7.1, fun m hm => ck_mono (ci_years_re (X := X) (xs := xs)) (fun r H9 h9 => ⟨h9.1, fun H11 e11 H13 e13 => ⟨rfl, fun c hc => ?_, ?_⟩⟩)⟩)⟩))
  · have e5 := h5.2
    have e7 := h7.2
    have e9 := h9.2
    funext i
    rw [e13, e11, e9, e7, e5, e3, e1]
    simp only [fl_cp, fl_up]
    repeat (rw [if_neg (by omega)])
  · have e5 := h5.2
    have e7 := h7.2
    have e9 := h9.2
    clear h5 h7 h9
    subst e1 e3 e5 e7 e9 e11 e13
    funext j
    unfold cz
    by_cases hj : vld j = true
    · rw [if_pos hj, if_pos hj]
      have h1 := slt_le j (vld_lt hj)
      have h2 := slt_bd2 j (vld_lt hj) hj
      generalize slt j = s at h1 h2
      obtain ⟨d, i⟩ := s
      simp only [] at h1 h2 ⊢
      have h1 : d < 19 := by omega
      match d, h1, h2 with
      | 0, _, h2 => simp [slz] at h2; simp [fl_cp, fl_up, h2]
      | 1, _, h2 => simp [slz] at h2; simp [fl_cp, fl_up, h2]
      | 2, _, h2 => simp [slz] at h2; simp [fl_cp, fl_up, h2]
      | 3, _, h2 => simp [slz] at h2; simp [fl_cp, fl_up, h2]
      | 4, _, h2 => simp [slz] at h2; simp [fl_cp, fl_up, h2]
      | 5, _, h2 => simp [slz] at h2; simp [fl_cp, fl_up, h2]
      | 6, _, h2 => simp [slz] at h2; simp [fl_cp, fl_up, h2]
      | 7, _, h2 => simp [slz] at h2; simp [fl_cp, fl_up, h2]
      | 8, _, h2 => simp [slz] at h2; simp [fl_cp, fl_up, h2]
      | 9, _, h2 => simp [slz] at h2; simp [fl_cp, fl_up, h2]
      | 10, _, h2 => simp [slz] at h2; simp [fl_cp, fl_up, h2]
      | 11, _, h2 => simp [slz] at h2; simp [fl_cp, fl_up, h2]
      | 12, _, h2 => simp [slz] at h2; simp [fl_cp, fl_up, h2]
      | 13, _, h2 => simp [slz] at h2; simp [fl_cp, fl_up, h2]
      | 14, _, h2 => simp [slz] at h2; simp [fl_cp, fl_up, h2]
      | 15, _, h2 => simp [slz] at h2; simp [fl_cp, fl_up, h2]
      | 16, _, h2 => simp [slz] at h2; simp [fl_cp, fl_up, h2]
      | 17, _, h2 => simp [slz] at h2; simp [fl_cp, fl_up, h2]
      | 18, _, h2 => simp [slz] at h2; simp [fl_cp, fl_up, h2]
      | d + 19, h1, _ => exact absurd h1 (by omega)
    · rw [if_neg hj, if_neg hj]
theorem lo_aside_l : ∀ (N : Nat) (H : fl_H) (a : Nat), a ≤ 152 → hd_GoodsBookModel_layAside_94_2 (cm_pg X xs) N H (a : Int) (fun r H' => r = none ∧ (∀ j, H' 103 j = if a ≤ j ∧ j < 152 then H 95 j else H 103 j) ∧ ∀ c, c ≠ 103 → H' c = H c) := by
  intro N
  induction N using Nat.strongRecOn with
  | ind N ih =>
    intro H a h0
    refine vh_GoodsBookModel_layAside_94_2 ?_
    rw [fl_wi (by omega) (by omega)]
    refine ⟨fun hge => ?_, fun hlt _ _ H3 e3 m hm => ?_⟩
    · exact ⟨rfl, fun j => by rw [if_neg (by omega)], fun _ _ => rfl⟩
    · rw [Int.toNat_natCast] at e3
      have := ih m hm H3 (a + 1) (by omega)
      intro lv l0 l1
      refine vt_mono (Nat.le_refl _) (fun r H' hr => ?_) (this lv l0 l1)
      have key : ∀ j, H' 103 j = if a ≤ j ∧ j < 152 then H 95 j else H 103 j := fun j => by
        rw [hr.2.1 j, e3, fl_up_cell _ _ _ _ (show 95 ≠ 103 by decide)]
        by_cases hh : j = a
        · subst hh
          rw [if_neg (by omega), fl_up_at, if_pos (by omega)]
        · rw [fl_up_i _ _ _ _ hh]
          by_cases h2 : a ≤ j ∧ j < 152
          · rw [if_pos h2, if_pos (by omega)]
          · rw [if_neg h2, if_neg (by omega)]
      exact ⟨hr.1, key, fun c hc => by rw [hr.2.2 c hc, e3, fl_up_cell _ _ _ _ hc]⟩
theorem lo_aside {m : Nat} {H : fl_H} : ck (cm_pg X xs) m cm_m209 [.index 94] H (fun r H' => r = none ∧ (∀ j, H' 103 j = if j < 152 then H 95 j else H 103 j) ∧ ∀ c, c ≠ 103 → H' c = H c) :=
  ve_GoodsBookModel_layAside_94 (by
    have := lo_aside_l (X := X) (xs := xs) m H 0 (by omega)
    intro lv l0 l1
    refine vt_mono (Nat.le_refl _) (fun r H' hr => ⟨hr.1, fun j => ?_, hr.2.2⟩) (this lv l0 l1)
    rw [hr.2.1 j]
    by_cases h : j < 152
    · rw [if_pos h, if_pos ⟨by omega, h⟩]
    · rw [if_neg h, if_neg (by omega)])
theorem lo_back_l : ∀ (N : Nat) (H : fl_H) (a : Nat), a ≤ 152 → hd_GoodsBookModel_bringBack_94_2 (cm_pg X xs) N H (a : Int) (fun r H' => r = none ∧ (∀ j, H' 95 j = if a ≤ j ∧ j < 152 then H 103 j else H 95 j) ∧ ∀ c, c ≠ 95 → H' c = H c) := by
  intro N
  induction N using Nat.strongRecOn with
  | ind N ih =>
    intro H a h0
    refine vh_GoodsBookModel_bringBack_94_2 ?_
    rw [fl_wi (by omega) (by omega)]
    refine ⟨fun hge => ?_, fun hlt _ _ H3 e3 m hm => ?_⟩
    · exact ⟨rfl, fun j => by rw [if_neg (by omega)], fun _ _ => rfl⟩
    · rw [Int.toNat_natCast] at e3
      have := ih m hm H3 (a + 1) (by omega)
      intro lv l0 l1
      refine vt_mono (Nat.le_refl _) (fun r H' hr => ?_) (this lv l0 l1)
      have key : ∀ j, H' 95 j = if a ≤ j ∧ j < 152 then H 103 j else H 95 j := fun j => by
        rw [hr.2.1 j, e3, fl_up_cell _ _ _ _ (show 103 ≠ 95 by decide)]
        by_cases hh : j = a
        · subst hh
          rw [if_neg (by omega), fl_up_at, if_pos (by omega)]
        · rw [fl_up_i _ _ _ _ hh]
          by_cases h2 : a ≤ j ∧ j < 152
          · rw [if_pos h2, if_pos (by omega)]
          · rw [if_neg h2, if_neg (by omega)]
      exact ⟨hr.1, key, fun c hc => by rw [hr.2.2 c hc, e3, fl_up_cell _ _ _ _ hc]⟩
theorem lo_back {m : Nat} {H : fl_H} : ck (cm_pg X xs) m cm_m210 [.index 94] H (fun r H' => r = none ∧ (∀ j, H' 95 j = if j < 152 then H 103 j else H 95 j) ∧ ∀ c, c ≠ 95 → H' c = H c) :=
  ve_GoodsBookModel_bringBack_94 (by
    have := lo_back_l (X := X) (xs := xs) m H 0 (by omega)
    intro lv l0 l1
    refine vt_mono (Nat.le_refl _) (fun r H' hr => ⟨hr.1, fun j => ?_, hr.2.2⟩) (this lv l0 l1)
    rw [hr.2.1 j]
    by_cases h : j < 152
    · rw [if_pos h, if_pos ⟨by omega, h⟩]
    · rw [if_neg h, if_neg (by omega)])
theorem lo_image_l : ∀ (N : Nat) (H : fl_H) (a : Nat), a ≤ 152 → hd_GoodsBookModel_image_94_2 (cm_pg X xs) N H (a : Int) (fun r H' => r = some 1 ∧ (∀ j, H' 106 j = if a ≤ j ∧ j < 152 then H 95 j else H 106 j) ∧ H' 94 18 = 1 ∧ ∀ c i, c ≠ 106 → (c = 94 → i ≠ 18) → H' c i = H c i) := by
  intro N
  induction N using Nat.strongRecOn with
  | ind N ih =>
    intro H a h0
    refine vh_GoodsBookModel_image_94_2 ?_
    rw [fl_wi (by omega) (by omega)]
    refine ⟨fun hge H2 e2 => ⟨rfl, fun j => by rw [e2, fl_up_c _ _ _ _ (by decide), if_neg (by omega)], by rw [e2, fl_up_at], fun c i h1 h2 => ?_⟩, fun hlt _ _ H3 e3 m hm => ?_⟩
    · rw [e2]
      unfold fl_up
      rw [if_neg (fun hh => h2 hh.1 hh.2)]
    · rw [Int.toNat_natCast] at e3
      have := ih m hm H3 (a + 1) (by omega)
      intro lv l0 l1
      refine vt_mono (Nat.le_refl _) (fun r H' hr => ?_) (this lv l0 l1)
      have key : ∀ j, H' 106 j = if a ≤ j ∧ j < 152 then H 95 j else H 106 j := fun j => by
        rw [hr.2.1 j, e3, fl_up_cell _ _ _ _ (show 95 ≠ 106 by decide)]
        by_cases hh : j = a
        · subst hh
          rw [if_neg (by omega), fl_up_at, if_pos (by omega)]
        · rw [fl_up_i _ _ _ _ hh]
          by_cases h2 : a ≤ j ∧ j < 152
          · rw [if_pos h2, if_pos (by omega)]
          · rw [if_neg h2, if_neg (by omega)]
      exact ⟨hr.1, key, hr.2.2.1, fun c i h1 h2 => by rw [hr.2.2.2 c i h1 h2, e3, fl_up_c _ _ _ _ h1]⟩
theorem lo_image {m : Nat} {H : fl_H} : ck (cm_pg X xs) m cm_m233 [.index 94] H (fun r H' => r = some 1 ∧ (∀ j, H' 106 j = if j < 152 then H 95 j else H 106 j) ∧ H' 94 18 = 1 ∧ ∀ c i, c ≠ 106 → (c = 94 → i ≠ 18) → H' c i = H c i) :=
  ve_GoodsBookModel_image_94 (by
    have := lo_image_l (X := X) (xs := xs) m H 0 (by omega)
    intro lv l0 l1
    refine vt_mono (Nat.le_refl _) (fun r H' hr => ⟨hr.1, fun j => ?_, hr.2.2⟩) (this lv l0 l1)
    rw [hr.2.1 j]
    by_cases h : j < 152
    · rw [if_pos h, if_pos ⟨by omega, h⟩]
    · rw [if_neg h, if_neg (by omega)])
theorem lo_restore_l : ∀ (N : Nat) (H : fl_H) (a : Nat), a ≤ 152 → hd_GoodsBookModel_restore_94_12 (cm_pg X xs) N H (a : Int) (fun r H' => r = some 1 ∧ (∀ j, H' 95 j = if a ≤ j ∧ j < 152 then H 106 j else H 95 j) ∧ (∀ c, c ≠ 95 → c ≠ 96 → H' c = H c) ∧ ∀ i, i < 729 → H' 96 i = 0) := by
  intro N
  induction N using Nat.strongRecOn with
  | ind N ih =>
    intro H a h0
    refine vh_GoodsBookModel_restore_94_12 ?_
    rw [fl_wi (by omega) (by omega)]
    refine ⟨fun hge m hm => ck_mono (rq_forget (X := X) (xs := xs)) (fun r H2 h => ⟨h.1, rfl, fun j => by rw [h.2.1 95 (by decide), if_neg (by omega)], fun c c1 c2 => h.2.1 c c2, h.2.2⟩), fun hlt _ _ H3 e3 m hm => ?_⟩
    rw [Int.toNat_natCast] at e3
    have := ih m hm H3 (a + 1) (by omega)
    intro lv l0 l1
    refine vt_mono (Nat.le_refl _) (fun r H' hr => ?_) (this lv l0 l1)
    have key : ∀ j, H' 95 j = if a ≤ j ∧ j < 152 then H 106 j else H 95 j := fun j => by
      rw [hr.2.1 j, e3, fl_up_cell _ _ _ _ (show 106 ≠ 95 by decide)]
      by_cases hh : j = a
      · subst hh
        rw [if_neg (by omega), fl_up_at, if_pos (by omega)]
      · rw [fl_up_i _ _ _ _ hh]
        by_cases h2 : a ≤ j ∧ j < 152
        · rw [if_pos h2, if_pos (by omega)]
        · rw [if_neg h2, if_neg (by omega)]
    exact ⟨hr.1, key, fun c c1 c2 => by rw [hr.2.2.1 c c1 c2, e3, fl_up_cell _ _ _ _ c1], hr.2.2.2⟩
theorem lo_restore {m : Nat} {H : fl_H} : ck (cm_pg X xs) m cm_m234 [.index 94] H (fun r H' => (fl_w (H 94 18) = 0 → r = some (-4) ∧ H' = H) ∧ (¬ fl_w (H 94 18) = 0 → r = some 1 ∧ (∀ j, H' 95 j = if j < 152 then H 106 j else H 95 j) ∧ (∀ c, c ≠ 95 → c ≠ 96 → H' c = H c) ∧ ∀ i, i < 729 → H' 96 i = 0)) :=
  ve_GoodsBookModel_restore_94 (by
    refine ⟨fun h0 => ⟨fun _ => ⟨rfl, rfl⟩, fun h => absurd h0 h⟩, fun h0 => ?_⟩
    have := lo_restore_l (X := X) (xs := xs) m H 0 (by omega)
    intro lv l0 l1
    refine vt_mono (Nat.le_refl _) (fun r H' hr => ⟨fun h => absurd h h0, fun _ => ⟨hr.1, fun j => ?_, hr.2.2⟩⟩) (this lv l0 l1)
    rw [hr.2.1 j]
    by_cases h : j < 152
    · rw [if_pos h, if_pos ⟨by omega, h⟩]
    · rw [if_neg h, if_neg (by omega)])
/-- the class keeps its book -/
theorem zc_image {m : Nat} {H : fl_H} : ck (cm_pg X xs) m cm_m130 [.index 0] H (fun r H' => r = some 1 ∧ H' 0 3 = 1 ∧ cz H' 39 = cz H 1 ∧ ∀ c i, ¬ (39 ≤ c ∧ c ≤ 57) → (c = 0 → i ≠ 3) → H' c i = H c i) :=
  ve_GoodsBook_image_0 (fun m hm => ck_mono (ci_book_im (X := X) (xs := xs)) (fun r H1 h => ⟨h.1, fun H3 e3 => ⟨rfl, by rw [e3, fl_up_at], by rw [← h.2.2, e3]; exact cz_out (fun c i a b => fl_up_c _ _ _ _ (by omega)), fun c i h1 h2 => by
    rw [e3]
    unfold fl_up
    rw [if_neg (fun hh => h2 hh.1 hh.2), h.2.1 c (by omega)]⟩⟩))
/-- the class brings its book back -/
theorem zc_restore {m : Nat} {H : fl_H} : ck (cm_pg X xs) m cm_m131 [.index 0] H (fun r H' => (fl_w (H 0 3) = 0 → r = some (-4) ∧ H' = H) ∧ (¬ fl_w (H 0 3) = 0 → r = some 1 ∧ ∃ G, own H G ∧ cz G 1 = cz H 39 ∧ H' = fgS G)) :=
  ve_GoodsBook_restore_0 ⟨fun h0 => ⟨fun _ => ⟨rfl, rfl⟩, fun h => absurd h0 h⟩, fun h0 m hm => ck_mono (ci_book_re (X := X) (xs := xs)) (fun r H1 h => ⟨h.1, fun m hm => ck_mono (cb_forget (X := X) (xs := xs)) (fun r H2 k => ⟨k.1, fun h => absurd h h0, fun _ => ⟨rfl, H1, fun c i hc => by rw [h.2.1 c (by omega)], h.2.2, k.2⟩⟩)⟩)⟩
end
end
