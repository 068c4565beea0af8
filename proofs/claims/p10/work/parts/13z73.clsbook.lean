noncomputable section
/-! L3: book, of the class. -/
section
variable {X : Term} {xs : List Int32}
def slz (d : Nat) : Nat := match d with
  | 0 => 1
  | 1 => 3
  | 2 => 1
  | 3 => 6
  | 4 => 6
  | 5 => 12
  | 6 => 12
  | 7 => 12
  | 8 => 1
  | 9 => 12
  | 10 => 12
  | 11 => 12
  | 12 => 12
  | 13 => 1
  | 14 => 12
  | 15 => 12
  | 16 => 12
  | 17 => 3
  | _ => 6
theorem slt_bd2 : ∀ j : Nat, j < 152 → vld j = true → (slt j).2 < slz (slt j).1 := by decide +kernel
theorem cb_goods_20 {m : Nat} {H : fl_H} : ck (cm_pg X xs) m cm_m47 [.index 22, .index 3] H (fun r H' => r = none ∧ H' = fl_cp (fl_cp (fl_cp (fl_cp (fl_cp (fl_up H 22 0 (H 3 0)) 4 23 6) 5 24 6) 6 25 12) 7 26 12) 8 27 12) :=
  ve_Goods_become_22_3 (fun H1 e1 H3 e3 H5 e5 H7 e7 H9 e9 H11 e11 => ⟨rfl, by rw [e11, e9, e7, e5, e3, e1]⟩)
theorem cb_bonds_20 {m : Nat} {H : fl_H} : ck (cm_pg X xs) m cm_m6 [.index 28, .index 9] H (fun r H' => r = none ∧ H' = fl_cp (fl_cp (fl_cp (fl_cp (fl_up H 28 0 (H 9 0)) 10 29 12) 11 30 12) 12 31 12) 13 32 12) :=
  ve_Bonds_become_28_9 (fun H1 e1 H3 e3 H5 e5 H7 e7 H9 e9 => ⟨rfl, by rw [e9, e7, e5, e3, e1]⟩)
theorem cb_years_20 {m : Nat} {H : fl_H} : ck (cm_pg X xs) m cm_m98 [.index 33, .index 14] H (fun r H' => r = none ∧ H' = fl_cp (fl_cp (fl_cp (fl_up H 33 0 (H 14 0)) 15 34 12) 16 35 12) 17 36 12) :=
  ve_Years_become_33_14 (fun H1 e1 H3 e3 H5 e5 H7 e7 => ⟨rfl, by rw [e7, e5, e3, e1]⟩)
theorem cb_book_20 {m : Nat} {H : fl_H} : ck (cm_pg X xs) m cm_m11 [.index 20, .index 1] H (fun r H' => r = none ∧ (∀ c, (c < 20 ∨ 38 < c) → H' c = H c) ∧ cz H' 20 = cz H 1) := by
  refine ve_Book_become_20_1 (fun H1 e1 H3 e3 m hm => ck_mono (cb_goods_20 (X := X) (xs := xs)) (fun r H5 h5 => ⟨h5.1, fun m hm => ck_mono (cb_bonds_20 (X := X) (xs := xs)) (fun r H7 h7 => ⟨h7.1, fun m hm => ck_mono (cb_years_20 (X := X) (xs := xs)) (fun r H9 h9 => ⟨h9.1, fun H11 e11 H13 e13 => ⟨rfl, fun c hc => ?_, ?_⟩⟩)⟩)⟩))
  · have e5 := h5.2
    have e7 := h7.2
    have e9 := h9.2
    funext i
    rw [e13, e11, e9, e7, e5, e3, e1]
    simp only [fl_cp, fl_up]
    repeat (rw [if_neg (by omega)])
  · have e5 := h5.2
    have e7 := h7.2
    have e9 := h9.2
    clear h5 h7 h9
    subst e1 e3 e5 e7 e9 e11 e13
    funext j
    unfold cz
    by_cases hj : vld j = true
    · rw [if_pos hj, if_pos hj]
      have h1 := slt_le j (vld_lt hj)
      have h2 := slt_bd2 j (vld_lt hj) hj
      generalize slt j = s at h1 h2
      obtain ⟨d, i⟩ := s
      simp only [] at h1 h2 ⊢
      have h1 : d < 19 := by omega
      match d, h1, h2 with
      | 0, _, h2 => simp [slz] at h2; simp [fl_cp, fl_up, h2]
      | 1, _, h2 => simp [slz] at h2; simp [fl_cp, fl_up, h2]
      | 2, _, h2 => simp [slz] at h2; simp [fl_cp, fl_up, h2]
      | 3, _, h2 => simp [slz] at h2; simp [fl_cp, fl_up, h2]
      | 4, _, h2 => simp [slz] at h2; simp [fl_cp, fl_up, h2]
      | 5, _, h2 => simp [slz] at h2; simp [fl_cp, fl_up, h2]
      | 6, _, h2 => simp [slz] at h2; simp [fl_cp, fl_up, h2]
      | 7, _, h2 => simp [slz] at h2; simp [fl_cp, fl_up, h2]
      | 8, _, h2 => simp [slz] at h2; simp [fl_cp, fl_up, h2]
      | 9, _, h2 => simp [slz] at h2; simp [fl_cp, fl_up, h2]
      | 10, _, h2 => simp [slz] at h2; simp [fl_cp, fl_up, h2]
      | 11, _, h2 => simp [slz] at h2; simp [fl_cp, fl_up, h2]
      | 12, _, h2 => simp [slz] at h2; simp [fl_cp, fl_up, h2]
      | 13, _, h2 => simp [slz] at h2; simp [fl_cp, fl_up, h2]
      | 14, _, h2 => simp [slz] at h2; simp [fl_cp, fl_up, h2]
      | 15, _, h2 => simp [slz] at h2; simp [fl_cp, fl_up, h2]
      | 16, _, h2 => simp [slz] at h2; simp [fl_cp, fl_up, h2]
      | 17, _, h2 => simp [slz] at h2; simp [fl_cp, fl_up, h2]
      | 18, _, h2 => simp [slz] at h2; simp [fl_cp, fl_up, h2]
      | d + 19, h1, _ => exact absurd h1 (by omega)
    · rw [if_neg hj, if_neg hj]
theorem cb_goods_1 {m : Nat} {H : fl_H} : ck (cm_pg X xs) m cm_m47 [.index 3, .index 22] H (fun r H' => r = none ∧ H' = fl_cp (fl_cp (fl_cp (fl_cp (fl_cp (fl_up H 3 0 (H 22 0)) 23 4 6) 24 5 6) 25 6 12) 26 7 12) 27 8 12) :=
  ve_Goods_become_3_22 (fun H1 e1 H3 e3 H5 e5 H7 e7 H9 e9 H11 e11 => ⟨rfl, by rw [e11, e9, e7, e5, e3, e1]⟩)
theorem cb_bonds_1 {m : Nat} {H : fl_H} : ck (cm_pg X xs) m cm_m6 [.index 9, .index 28] H (fun r H' => r = none ∧ H' = fl_cp (fl_cp (fl_cp (fl_cp (fl_up H 9 0 (H 28 0)) 29 10 12) 30 11 12) 31 12 12) 32 13 12) :=
  ve_Bonds_become_9_28 (fun H1 e1 H3 e3 H5 e5 H7 e7 H9 e9 => ⟨rfl, by rw [e9, e7, e5, e3, e1]⟩)
theorem cb_years_1 {m : Nat} {H : fl_H} : ck (cm_pg X xs) m cm_m98 [.index 14, .index 33] H (fun r H' => r = none ∧ H' = fl_cp (fl_cp (fl_cp (fl_up H 14 0 (H 33 0)) 34 15 12) 35 16 12) 36 17 12) :=
  ve_Years_become_14_33 (fun H1 e1 H3 e3 H5 e5 H7 e7 => ⟨rfl, by rw [e7, e5, e3, e1]⟩)
theorem cb_book_1 {m : Nat} {H : fl_H} : ck (cm_pg X xs) m cm_m11 [.index 1, .index 20] H (fun r H' => r = none ∧ (∀ c, (c < 1 ∨ 19 < c) → H' c = H c) ∧ cz H' 1 = cz H 20) := by
  refine ve_Book_become_1_20 (fun H1 e1 H3 e3 m hm => ck_mono (cb_goods_1 (X := X) (xs := xs)) (fun r H5 h5 => ⟨h5.1, fun m hm => ck_mono (cb_bonds_1 (X := X) (xs := xs)) (fun r H7 h7 => ⟨h7.1, fun m hm => ck_mono (cb_years_1 (X := X) (xs := xs)) (fun r H9 h9 => ⟨h9.1, fun H11 e11 H13 e13 => ⟨rfl, fun c hc => ?_, ?_⟩⟩)⟩)⟩))
  · have e5 := h5.2
    have e7 := h7.2
    have e9 := h9.2
    funext i
    rw [e13, e11, e9, e7, e5, e3, e1]
    simp only [fl_cp, fl_up]
    repeat (rw [if_neg (by omega)])
  · have e5 := h5.2
    have e7 := h7.2
    have e9 := h9.2
    clear h5 h7 h9
    subst e1 e3 e5 e7 e9 e11 e13
    funext j
    unfold cz
    by_cases hj : vld j = true
    · rw [if_pos hj, if_pos hj]
      have h1 := slt_le j (vld_lt hj)
      have h2 := slt_bd2 j (vld_lt hj) hj
      generalize slt j = s at h1 h2
      obtain ⟨d, i⟩ := s
      simp only [] at h1 h2 ⊢
      have h1 : d < 19 := by omega
      match d, h1, h2 with
      | 0, _, h2 => simp [slz] at h2; simp [fl_cp, fl_up, h2]
      | 1, _, h2 => simp [slz] at h2; simp [fl_cp, fl_up, h2]
      | 2, _, h2 => simp [slz] at h2; simp [fl_cp, fl_up, h2]
      | 3, _, h2 => simp [slz] at h2; simp [fl_cp, fl_up, h2]
      | 4, _, h2 => simp [slz] at h2; simp [fl_cp, fl_up, h2]
      | 5, _, h2 => simp [slz] at h2; simp [fl_cp, fl_up, h2]
      | 6, _, h2 => simp [slz] at h2; simp [fl_cp, fl_up, h2]
      | 7, _, h2 => simp [slz] at h2; simp [fl_cp, fl_up, h2]
      | 8, _, h2 => simp [slz] at h2; simp [fl_cp, fl_up, h2]
      | 9, _, h2 => simp [slz] at h2; simp [fl_cp, fl_up, h2]
      | 10, _, h2 => simp [slz] at h2; simp [fl_cp, fl_up, h2]
      | 11, _, h2 => simp [slz] at h2; simp [fl_cp, fl_up, h2]
      | 12, _, h2 => simp [slz] at h2; simp [fl_cp, fl_up, h2]
      | 13, _, h2 => simp [slz] at h2; simp [fl_cp, fl_up, h2]
      | 14, _, h2 => simp [slz] at h2; simp [fl_cp, fl_up, h2]
      | 15, _, h2 => simp [slz] at h2; simp [fl_cp, fl_up, h2]
      | 16, _, h2 => simp [slz] at h2; simp [fl_cp, fl_up, h2]
      | 17, _, h2 => simp [slz] at h2; simp [fl_cp, fl_up, h2]
      | 18, _, h2 => simp [slz] at h2; simp [fl_cp, fl_up, h2]
      | d + 19, h1, _ => exact absurd h1 (by omega)
    · rw [if_neg hj, if_neg hj]
/-- what book of the class leaves as it was -/
def cfo (H G : fl_H) : Prop := ∀ c i, ¬ (1 ≤ c ∧ c ≤ 38) → c ≠ 58 → (c = 0 → i ≠ 14) → (c = 64 → i ≠ 5) → (c = 88 → i ≠ 0) → (c = 90 → i ≠ 0) → G c i = H c i
theorem cb_forget {m : Nat} {H : fl_H} : ck (cm_pg X xs) m cm_m140 [.index 0] H (fun r H' => r = none ∧ H' = fl_up (fl_up (fl_up (fl_up H 64 5 0) 88 0 0) 90 0 0) 0 14 (-1)) := by
  refine ve_GoodsBook_forgetSizes_0 (fun m hm => ve_Floor_forget_64 (fun H1 e1 => ⟨rfl, fun m hm => ve_GoodsBook_forgetAnswers_0 (fun H2 e2 m hm => ve_GoodsBook_forgetPlanAnswers_0 (fun H3 e3 H5 e5 => ⟨rfl, rfl, rfl, ?_⟩))⟩))
  rw [e5, e3, e2, e1]
theorem cb_wipe {m : Nat} {H : fl_H} : ck (cm_pg X xs) m cm_m77 [.index 58] H (fun r H' => r = none ∧ H' = fl_up (fl_up (fl_up H 58 1 0) 58 2 0) 58 3 (-1)) :=
  ve_Tape_wipe_58 (fun H1 e1 H3 e3 H5 e5 => ⟨rfl, by rw [e5, e3, e1]⟩)
theorem siz_p {t : Nat → Int} {n a p : Nat} (ha : a ≤ n) (h : siz t n a = .inl p) : p ≤ n := by
  unfold siz at h
  have l1 := tk_le (t := t) ha (f := fig 1 4) (fig_n1 (by omega))
  cases o1 : tk t n a (fig 1 4) with
  | inl p' => rw [o1] at h l1; simp only [pb, Sum.inl.injEq] at h; rw [← h]; exact l1
  | inr q =>
    obtain ⟨v1, a1⟩ := q
    rw [o1] at h l1
    simp only [pb] at h
    have l2 := tk_le (t := t) l1 (f := skp 120) rfl
    cases o2 : tk t n a1 (skp 120) with
    | inl p' => rw [o2] at h l2; simp only [Sum.inl.injEq] at h; rw [← h]; exact l2
    | inr q =>
      obtain ⟨v2, a2⟩ := q
      rw [o2] at h l2
      simp only [] at h
      have l3 := tk_le (t := t) l2 (f := fig 1 4) (fig_n1 (by omega))
      cases o3 : tk t n a2 (fig 1 4) with
      | inl p' => rw [o3] at h l3; simp only [Sum.inl.injEq] at h; rw [← h]; exact l3
      | inr q =>
        obtain ⟨v3, a3⟩ := q
        rw [o3] at h l3
        simp only [] at h
        have l4 := tk_le (t := t) l3 (f := skp 61) rfl
        cases o4 : tk t n a3 (skp 61) with
        | inl p' => rw [o4] at h l4; simp only [Sum.inl.injEq] at h; rw [← h]; exact l4
        | inr q =>
          obtain ⟨v4, a4⟩ := q
          rw [o4] at h l4
          simp only [] at h
          have l5 := num_le (t := t) l4 (most := 999)
          cases o5 : num t n a4 999 with
          | inl p' => rw [o5] at h l5; simp only [Sum.inl.injEq] at h; rw [← h]; exact l5
          | inr q => rw [o5] at h; simp at h
/-- a fault's place is not behind the end -/
theorem cla_p {t : Nat → Int} {n : Nat} {g : Int} {a p : Nat} (ha : a ≤ n) (h : cla t n g a = .inl p) : p ≤ n := by
  unfold cla at h
  have hle := nb_le (t := t) ha
  have hlt : ∀ c : Int, bc t n a = c → 0 ≤ c → nb t n a + 1 ≤ n := fun c hc h0 => bc_lt hc h0
  split at h
  · rename_i hp
    have l1 := num_le (t := t) (hlt _ hp (by omega)) (most := 60)
    cases o : num t n (nb t n a + 1) 60 with
    | inl p' => rw [o] at h l1; simp only [pb, Sum.inl.injEq] at h; rw [← h]; exact l1
    | inr q => rw [o] at h; simp [pb] at h
  · split at h
    · rename_i hp
      have l0 := hlt _ hp (by omega)
      unfold gds at h
      have l1 := tk_le (t := t) l0 (f := one [112, 108, 114, 102]) rfl
      cases o1 : tk t n (nb t n a + 1) (one [112, 108, 114, 102]) with
      | inl p' => rw [o1] at h l1; simp only [pb, Sum.inl.injEq] at h; rw [← h]; exact l1
      | inr q =>
        obtain ⟨v1, a1⟩ := q
        rw [o1] at h l1
        simp only [pb] at h
        have l2 := tk_le (t := t) l1 (f := fig 0 3) (fig_n1 (by omega))
        cases o2 : tk t n a1 (fig 0 3) with
        | inl p' => rw [o2] at h l2; simp only [Sum.inl.injEq] at h; rw [← h]; exact l2
        | inr q =>
          obtain ⟨v2, a2⟩ := q
          rw [o2] at h l2
          simp only [] at h
          cases o3 : siz t n a2 with
          | inl p' => rw [o3] at h; simp only [Sum.inl.injEq] at h; rw [← h]; exact siz_p l2 o3
          | inr q =>
            obtain ⟨v3, a3⟩ := q
            have l3 := siz_le l2 o3
            rw [o3] at h
            simp only [] at h
            have l4 := tk_le (t := t) l3 (f := skp 44) rfl
            cases o4 : tk t n a3 (skp 44) with
            | inl p' => rw [o4] at h l4; simp only [Sum.inl.injEq] at h; rw [← h]; exact l4
            | inr q =>
              obtain ⟨v4, a4⟩ := q
              rw [o4] at h l4
              simp only [] at h
              cases o5 : siz t n a4 with
              | inl p' => rw [o5] at h; simp only [Sum.inl.injEq] at h; rw [← h]; exact siz_p l4 o5
              | inr q => rw [o5] at h; simp at h
    · have l1 := tk_le (t := t) ha (f := letr g (-1)) (letr_n1 _ _)
      cases o1 : tk t n a (letr g (-1)) with
      | inl p' => rw [o1] at h l1; simp only [pb, Sum.inl.injEq] at h; rw [← h]; exact l1
      | inr q =>
        obtain ⟨x, a1⟩ := q
        rw [o1] at h l1
        simp only [pb] at h
        unfold bnd at h
        have l2 := tk_le (t := t) l1 (f := letr g x) (letr_n1 _ _)
        cases o2 : tk t n a1 (letr g x) with
        | inl p' => rw [o2] at h l2; simp only [pb, Sum.inl.injEq] at h; rw [← h]; exact l2
        | inr q =>
          obtain ⟨v2, a2⟩ := q
          rw [o2] at h l2
          simp only [pb] at h
          have l3 := tk_le (t := t) l2 (f := one [111, 102, 101, 110, 118, 104]) rfl
          cases o3 : tk t n a2 (one [111, 102, 101, 110, 118, 104]) with
          | inl p' => rw [o3] at h l3; simp only [Sum.inl.injEq] at h; rw [← h]; exact l3
          | inr q =>
            obtain ⟨v3, a3⟩ := q
            rw [o3] at h l3
            simp only [] at h
            split at h
            · have l4 := tk_le (t := t) l3 (f := one [43, 45]) rfl
              cases o4 : tk t n a3 (one [43, 45]) with
              | inl p' => rw [o4] at h l4; simp only [Sum.inl.injEq] at h; rw [← h]; exact l4
              | inr q =>
                obtain ⟨v4, a4⟩ := q
                rw [o4] at h l4
                simp only [] at h
                have l5 := num_le (t := t) l4 (most := 99)
                cases o5 : num t n a4 99 with
                | inl p' => rw [o5] at h l5; simp only [Sum.inl.injEq] at h; rw [← h]; exact l5
                | inr q => rw [o5] at h; simp at h
            · simp at h
theorem cls_p {t : Nat → Int} {n : Nat} : ∀ {f : Nat} {g : Int} {a p : Nat}, a ≤ n → cls t n f g a = .inl p → p ≤ n
  | 0, g, a, p, ha, h => by
    simp only [cls, Sum.inl.injEq] at h
    omega
  | f + 1, g, a, p, ha, h => by
    unfold cls at h
    cases o : cla t n g a with
    | inl p' =>
      rw [o] at h
      simp only [pb, Sum.inl.injEq] at h
      rw [← h]
      exact cla_p ha o
    | inr q =>
      obtain ⟨ev, a1⟩ := q
      have la := cla_le ha o
      have hle := nb_le (t := t) la
      rw [o] at h
      simp only [pb] at h
      split at h
      · simp at h
      · split at h
        · rename_i h59
          have := bc_lt h59.1 (by omega)
          cases o2 : cls t n f (g + isg ev) (nb t n a1 + 1) with
          | inl p' =>
            rw [o2] at h
            simp only [Sum.inl.injEq] at h
            rw [← h]
            exact cls_p (by omega) o2
          | inr q => rw [o2] at h; simp at h
        · simp only [Sum.inl.injEq] at h
          rw [← h]
          exact hle
theorem cb_book {n m : Nat} {H : fl_H} (h1 : H 58 1 = (n : Int)) (h2 : H 58 2 = 0) (h3 : H 58 3 = -1) (hn : n ≤ 120) (ht : ∀ i, i < n → 0 ≤ H 59 i ∧ H 59 i ≤ 255) (hz : zr (cz H 1)) : ck (cm_pg X xs) m cm_m109 [.index 0] H (fun r H' => r = some (bka (H 59) n (cz H 1)) ∧ zeq (cz H' 1) (bkz (H 59) n (cz H 1)) ∧ H' 58 1 = 0 ∧ H' 58 2 = 0 ∧ H' 58 3 = -1 ∧ cfo H H') := by
  refine ve_GoodsBook_book_0 (fun m hm => ck_mono (cb_book_20 (X := X) (xs := xs)) (fun r H1 h => ⟨h.1, fun m hm => ?_⟩))
  obtain ⟨-, o1, z1⟩ := h
  have hs : cst H1 n 0 := by
    have e58 : H1 58 = H 58 := o1 58 (Or.inr (by decide))
    have e59 : H1 59 = H 59 := o1 59 (Or.inr (by decide))
    unfold cst
    rw [e58, e59]
    exact ⟨h1, h2, Nat.zero_le _, hn, ht, by omega, by omega⟩
  have f1 : H1 58 3 = -1 := by rw [o1 58 (Or.inr (by decide))]; exact h3
  have t1 : H1 59 = H 59 := o1 59 (Or.inr (by decide))
  refine ck_mono (cr_read (X := X) (xs := xs) hs f1 (by rw [z1]; exact hz)) (fun r H3 h => ?_)
  obtain ⟨c3, h⟩ := h
  rw [t1, z1] at h
  have z3 : cz H3 1 = cz H 1 := by rw [cz_out (H := H1) (fun c i g1 g2 => c3 c i (fun hc => by omega) (Or.inl (by omega))), cz_out (fun c i g1 g2 => by rw [o1 c (Or.inl (by omega))])]
  have o3 : ∀ c i, ¬ (20 ≤ c ∧ c ≤ 38) → c ≠ 58 → H3 c i = H c i := fun c i g1 g2 => by
    rw [c3 c i (fun hc => absurd hc g2) (by omega), o1 c (by omega)]
  -- the answer
  obtain ⟨ans, hans, hneg, hpos⟩ : ∃ ans : Int, r = some ans ∧ (¬ 0 ≤ ans → ans = bka (H 59) n (cz H 1) ∧ bkz (H 59) n (cz H 1) = cz H 1) ∧ (0 ≤ ans → ans = bka (H 59) n (cz H 1) ∧ zeq (cz H3 20) (bkz (H 59) n (cz H 1))) ∧ True := by
    unfold bka bkz
    cases o : cls (H 59) n 12 (cz H 1 1) 0 with
    | inl p =>
      rw [o] at h
      exact ⟨_, h, fun _ => ⟨rfl, rfl⟩, fun g => by omega, trivial⟩
    | inr v =>
      obtain ⟨l, b⟩ := v
      rw [o] at h
      by_cases hr : rml l (cz H 1)
      · obtain ⟨k1, k2⟩ := h.1 ⟨rfl, hr⟩
        refine ⟨_, k1, fun g => by omega, fun _ => ⟨by dsimp only; rw [if_pos hr]; omega, by dsimp only; rw [if_pos hr]; exact k2⟩, trivial⟩
      · have k1 := h.2 (fun g => hr g.2)
        refine ⟨_, k1, fun _ => ⟨by dsimp only; rw [if_neg hr], by dsimp only; rw [if_neg hr]⟩, fun g => by omega, trivial⟩
  have hpos := hpos.1
  have hbd : -200 ≤ ans ∧ ans ≤ 200 := by
    have : ans = bka (H 59) n (cz H 1) := by
      by_cases g : 0 ≤ ans
      · exact (hpos g).1
      · exact (hneg g).1
    rw [this]
    unfold bka
    cases o : cls (H 59) n 12 (cz H 1 1) 0 with
    | inl p =>
      have := cls_p (Nat.zero_le n) o
      show -200 ≤ -20 - (p : Int) ∧ -20 - (p : Int) ≤ 200
      omega
    | inr v =>
      obtain ⟨l, b⟩ := v
      have := cls_len o
      by_cases hr : rml l (cz H 1)
      · dsimp only; rw [if_pos hr]; omega
      · dsimp only; rw [if_neg hr]; omega
  refine ⟨ans, hans, fun m hm => ck_mono (cb_wipe (X := X) (xs := xs)) (fun r H6 h => ⟨h.1, ?_⟩)⟩
  have e6 := h.2
  have o6 : ∀ c i, ¬ (20 ≤ c ∧ c ≤ 38) → c ≠ 58 → H6 c i = H c i := fun c i g1 g2 => by
    rw [e6, fl_up_c _ _ _ _ g2, fl_up_c _ _ _ _ g2, fl_up_c _ _ _ _ g2]
    exact o3 c i g1 g2
  have z6 : cz H6 1 = cz H 1 := cz_out (fun c i g1 g2 => o6 c i (by omega) (by omega))
  have z620 : cz H6 20 = cz H3 20 := by rw [e6]; exact cz_out (fun c i g1 g2 => by rw [fl_up_c _ _ _ _ (by omega), fl_up_c _ _ _ _ (by omega), fl_up_c _ _ _ _ (by omega)])
  have a1 : H6 58 1 = 0 := by rw [e6, fl_up_i _ _ _ _ (by decide), fl_up_i _ _ _ _ (by decide), fl_up_at]
  have a2 : H6 58 2 = 0 := by rw [e6, fl_up_i _ _ _ _ (by decide), fl_up_at]
  have a3 : H6 58 3 = -1 := by rw [e6, fl_up_at]
  rw [fl_wi (x := ans) (by omega) (by omega)]
  refine ⟨fun hge m hm => ck_mono (cb_book_1 (X := X) (xs := xs)) (fun r H9 h => ⟨h.1, fun m hm => ck_mono (cb_forget (X := X) (xs := xs)) (fun r H11 g => ⟨g.1, ?_⟩)⟩), fun hlt => ?_⟩
  · obtain ⟨-, o9, z9⟩ := h
    have e11 := g.2
    have o11 : ∀ c i, (c = 0 → i ≠ 14) → (c = 64 → i ≠ 5) → (c = 88 → i ≠ 0) → (c = 90 → i ≠ 0) → H11 c i = H9 c i := fun c i g1 g2 g3 g4 => by
      rw [e11]
      unfold fl_up
      rw [if_neg (fun hh => g1 hh.1 hh.2), if_neg (fun hh => g4 hh.1 hh.2), if_neg (fun hh => g3 hh.1 hh.2), if_neg (fun hh => g2 hh.1 hh.2)]
    have z11 : cz H11 1 = cz H9 1 := cz_out (fun c i g1 g2 => o11 c i (by omega) (by omega) (by omega) (by omega))
    have t11 : ∀ i, H11 58 i = H6 58 i := fun i => by rw [o11 58 i (by omega) (by omega) (by omega) (by omega), o9 58 (by omega)]
    refine ⟨congrArg some (hpos hge).1, ?_, by rw [t11]; exact a1, by rw [t11]; exact a2, by rw [t11]; exact a3, fun c i g1 g2 g3 g4 g5 g6 => ?_⟩
    · rw [z11, z9, z620]
      exact (hpos hge).2
    · rw [o11 c i g3 g4 g5 g6, o9 c (by omega)]
      exact o6 c i (by omega) g2
  · refine ⟨congrArg some (hneg hlt).1, ?_, a1, a2, a3, fun c i g1 g2 _ _ _ _ => o6 c i (by omega) g2⟩
    rw [z6, (hneg hlt).2]
    exact zeq_refl _
end
end
