noncomputable section
/-! L3: the reference reads clauses, goods and bonds. -/
section
variable {X : Term} {xs : List Int32}
/-- the numbers of a clause, but the first, written down from j on -/
def wrn (j : Nat) (e : List Int) (H : fl_H) : Prop := ∀ i, 1 ≤ i → i < e.length → H 105 (j + i) = e.getD i 0
def wrc (j : Nat) (o : PR (List Int)) (H : fl_H) (r : Option Int) (H' : fl_H) : Prop := match o with
  | .inr (e, a) => r = some 1 ∧ H' 94 14 = (a : Int) ∧ wrn j e H' ∧ H' 94 17 = H 94 17 + isg e
  | .inl p => r = some 0 ∧ H' 94 14 = (p : Int)
theorem one_rg {l : List Int} {c v : Int} : ∀ {i : Int}, ixf l c i = some v → i ≤ v ∧ v < i + l.length := by
  induction l with
  | nil => intro i h; simp [ixf] at h
  | cons x l ih =>
    intro i h
    unfold ixf at h
    split at h
    · injection h with h
      subst h
      simp only [List.length_cons]
      omega
    · have := ih h
      simp only [List.length_cons]
      omega
theorem rn_good {n a m j : Nat} {H : fl_H} (hs : rst H n a) (hj : j + 8 < 144) (hg : 0 ≤ H 94 17 ∧ H 94 17 ≤ 100) : ck (cm_pg X xs) m cm_m227 [.index 94, fl_t (j : Int)] H (fun r H' => wrc j (gds (H 104) n a) H r H' ∧ rfr (j + 1) H H') := by
  have wj : ∀ d : Nat, d ≤ 8 → fl_w ((j : Int) + (d : Int)) = ((j + d : Nat) : Int) := fun d hd => by rw [fl_wi (by omega) (by omega)]; omega
  have w1 : fl_w ((j : Int) + 1) = ((j + 1 : Nat) : Int) := wj 1 (by omega)
  have w2 : fl_w ((j : Int) + 2) = ((j + 2 : Nat) : Int) := wj 2 (by omega)
  have hb := bc_rg hs.2.2.2.2 a
  have hle := nb_le (t := H 104) hs.2.2.1
  refine ve_GoodsBookModel_readGood_94 ?_
  rw [w1, w2]
  simp only [Int.toNat_natCast]
  refine fun m hm => ck_mono (rn_next (X := X) (xs := xs) hs) (fun r H1 h => ⟨_, h.1, fun m hm => ck_mono (rn_kind (X := X) (xs := xs) hb.1 hb.2) (fun r H4 g => ⟨_, g.1, ?_⟩)⟩)
  obtain ⟨h1, h2⟩ := h
  obtain ⟨g1, g2⟩ := g
  subst g2
  have f1 : rfr (j + 1) H H4 := by rw [h2]; exact rfr_at _
  have t1 : H4 94 14 = (nb (H 104) n a : Nat) := by rw [h2, fl_up_at]
  have q1 : H4 94 17 = H 94 17 := by rw [h2, fl_up_i _ _ _ _ (by decide)]
  have l1 := tk_le (t := H 104) hs.2.2.1 (f := one [112, 108, 114, 102]) rfl
  intro _ H7 e7 _
  have f7 : rfr (j + 1) H H7 := by subst e7; exact rfr_trans f1 (rfr_wr _ (Nat.le_refl _)) (Nat.le_refl _)
  have t7 : H7 94 14 = (nb (H 104) n a : Nat) := by subst e7; rw [fl_up_c _ _ _ _ (by decide)]; exact t1
  have q7 : H7 94 17 = H 94 17 := by subst e7; rw [fl_up_c _ _ _ _ (by decide)]; exact q1
  unfold gds
  cases o1 : one [112, 108, 114, 102] (bc (H 104) n a) with
  | none =>
    rw [o1] at e7
    have v7 : H7 105 (j + 1) = -1 := by subst e7; exact fl_up_at _ _ _ _
    rw [v7]
    refine ⟨fun hq => absurd hq (show ¬ (0 : Int) ≤ fl_w (-1) by decide), fun _ => ?_⟩
    have p1 : tk (H 104) n a (one [112, 108, 114, 102]) = .inl (nb (H 104) n a) := by unfold tk; rw [o1]
    simp only [pb, p1]
    exact ⟨⟨rfl, t7⟩, f7⟩
  | some k =>
    rw [o1] at e7
    have p1 : tk (H 104) n a (one [112, 108, 114, 102]) = .inr (k, nb (H 104) n a + 1) := by unfold tk; rw [o1]
    rw [p1] at l1
    have hk := one_rg o1
    have hk : 0 ≤ k ∧ k < 4 := ⟨hk.1, by have := hk.2; simp at this; omega⟩
    have v7 : H7 105 (j + 1) = k := by subst e7; exact fl_up_at _ _ _ _
    rw [v7, fl_wi (by omega) (by omega)]
    refine ⟨fun _ H12 e12 m hm => ?_, fun hq => absurd hk.1 hq⟩
    rw [t7] at e12
    have e12' : H12 = fl_up H7 94 14 ((nb (H 104) n a + 1 : Nat) : Int) := by rw [e12]; congr 1
    have f12 : rfr (j + 1) H H12 := by rw [e12']; exact rfr_trans f7 (rfr_at _) (Nat.le_refl _)
    have t12 : H12 94 14 = ((nb (H 104) n a + 1 : Nat) : Int) := by rw [e12', fl_up_at]
    have q12 : H12 94 17 = H 94 17 := by rw [e12', fl_up_i _ _ _ _ (by decide)]; exact q7
    have v12 : H12 105 (j + 1) = k := by rw [e12', fl_up_c _ _ _ _ (by decide)]; exact v7
    have s12 := rst_k hs f12 t12 l1
    refine ck_mono (rn_digit (X := X) (xs := xs) s12 (lo := 0) (hi := 3) (by omega) (by omega) (by omega) (by omega)) (fun r H14 h => ?_)
    rw [rfr_t f12] at h
    have l2 := tk_le (t := H 104) l1 (f := fig 0 3) (fig_n1 (by omega))
    cases o2 : tk (H 104) n (nb (H 104) n a + 1) (fig 0 3) with
    | inl p =>
      rw [o2] at h
      obtain ⟨e1, e2⟩ := h
      refine ⟨_, e1, fun _ H17 e4 _ => ⟨fun _ => ?_, fun hq => ?_⟩⟩
      · subst e4
        simp only [pb, p1, o2]
        exact ⟨⟨rfl, by rw [fl_up_c _ _ _ _ (by decide), e2, fl_up_at]⟩, rfr_trans f12 (rfr_trans (by rw [e2]; exact rfr_at _) (rfr_wr _ (by omega)) (Nat.le_refl _)) (Nat.le_refl _)⟩
      · subst e4
        rw [fl_up_at] at hq
        exact absurd (show fl_w (-1) < 0 by decide) hq
    | inr q =>
      obtain ⟨fm, a2⟩ := q
      rw [o2] at h l2
      obtain ⟨e1, e2⟩ := h
      have hv := fig_rg (tk_some o2).1
      refine ⟨_, e1, fun _ H17 e4 _ => ⟨fun hq => ?_, fun _ m hm => ?_⟩⟩
      · subst e4
        rw [fl_up_at, fl_wi (by omega) (by omega)] at hq
        omega
      · have f17 : rfr (j + 1) H H17 := by subst e4; rw [e2]; exact rfr_trans f12 (rfr_trans (rfr_at _) (rfr_wr _ (by omega)) (Nat.le_refl _)) (Nat.le_refl _)
        have t17 : H17 94 14 = (a2 : Int) := by subst e4; rw [fl_up_c _ _ _ _ (by decide), e2, fl_up_at]
        have q17 : H17 94 17 = H 94 17 := by subst e4; rw [fl_up_c _ _ _ _ (by decide), e2, fl_up_i _ _ _ _ (by decide)]; exact q12
        have v17 : H17 105 (j + 1) = k := by subst e4; rw [fl_up_i _ _ _ _ (by omega), e2, fl_up_c _ _ _ _ (by decide)]; exact v12
        have u17 : H17 105 (j + 2) = fm := by subst e4; exact fl_up_at _ _ _ _
        have s17 := rst_k hs f17 t17 l2
        have e3 : (j : Int) + 3 = ((j + 3 : Nat) : Int) := by omega
        rw [e3]
        refine ck_mono (rn_size (X := X) (xs := xs) s17 (j := j + 3) (by omega)) (fun r H22 h => ?_)
        obtain ⟨h, f22', q22'⟩ := h
        rw [rfr_t f17] at h
        have f22 : rfr (j + 1) H H22 := rfr_trans f17 f22' (by omega)
        have q22 : H22 94 17 = H 94 17 := q22'.trans q17
        have v22 : H22 105 (j + 1) = k := (f22' 105 (j + 1) (fun hc => absurd hc (by decide)) (fun _ => by omega)).trans v17
        have u22 : H22 105 (j + 2) = fm := (f22' 105 (j + 2) (fun hc => absurd hc (by decide)) (fun _ => by omega)).trans u17
        cases o3 : siz (H 104) n a2 with
        | inl p =>
          rw [o3] at h
          obtain ⟨e1, e2⟩ := h
          refine ⟨_, e1, fun _ => ?_, fun hq => absurd (show fl_w 0 = 0 from rfl) hq⟩
          simp only [pb, p1, o2, o3]
          exact ⟨⟨rfl, e2⟩, f22⟩
        | inr q =>
          obtain ⟨pz, a3⟩ := q
          rw [o3] at h
          obtain ⟨e1, t22, z1, z2, z3⟩ := h
          refine ⟨_, e1, fun hq => absurd hq (show ¬ fl_w 1 = 0 by decide), fun _ m hm => ?_⟩
          have l3 : a3 ≤ n := siz_le l2 o3
          have s22 := rst_k hs f22 t22 l3
          refine ck_mono (rn_takes (X := X) (xs := xs) s22 (c := 44) (by omega) (by omega)) (fun r H26 h => ?_)
          rw [tk_map, rfr_t f22] at h
          have l4 := tk_le (t := H 104) l3 (f := skp 44) rfl
          cases o4 : tk (H 104) n a3 (skp 44) with
          | inl p =>
            rw [o4] at h
            obtain ⟨e1', e2'⟩ := h
            refine ⟨_, e1', fun _ => ?_, fun hq => absurd (show fl_w 0 = 0 from rfl) hq⟩
            simp only [pb, p1, o2, o3, o4]
            exact ⟨⟨rfl, by rw [e2', fl_up_at]⟩, rfr_trans f22 (by rw [e2']; exact rfr_at _) (Nat.le_refl _)⟩
          | inr q =>
            obtain ⟨v4', a4⟩ := q
            rw [o4] at h l4
            obtain ⟨e1', e2'⟩ := h
            refine ⟨_, e1', fun hq => absurd hq (show ¬ fl_w 1 = 0 by decide), fun _ m hm => ?_⟩
            have f26 : rfr (j + 1) H H26 := rfr_trans f22 (by rw [e2']; exact rfr_at _) (Nat.le_refl _)
            have t26 : H26 94 14 = (a4 : Int) := by rw [e2', fl_up_at]
            have q26 : H26 94 17 = H 94 17 := by rw [e2', fl_up_i _ _ _ _ (by decide)]; exact q22
            have x26 : ∀ i, H26 105 i = H22 105 i := fun i => by rw [e2', fl_up_c _ _ _ _ (by decide)]
            have s26 := rst_k hs f26 t26 l4
            have e6 : (j : Int) + 6 = ((j + 6 : Nat) : Int) := by omega
            rw [e6]
            refine ck_mono (rn_size (X := X) (xs := xs) s26 (j := j + 6) (by omega)) (fun r H30 h => ?_)
            obtain ⟨h, f30', q30'⟩ := h
            rw [rfr_t f26] at h
            have f30 : rfr (j + 1) H H30 := rfr_trans f26 f30' (by omega)
            have q30 : H30 94 17 = H 94 17 := q30'.trans q26
            have x30 : ∀ i, i < j + 6 → H30 105 i = H22 105 i := fun i hi => (f30' 105 i (fun hc => absurd hc (by decide)) (fun _ => hi)).trans (x26 i)
            cases o5 : siz (H 104) n a4 with
            | inl p =>
              rw [o5] at h
              obtain ⟨e1, e2⟩ := h
              refine ⟨_, e1, fun _ => ?_, fun hq => absurd (show fl_w 0 = 0 from rfl) hq⟩
              simp only [pb, p1, o2, o3, o4, o5]
              exact ⟨⟨rfl, e2⟩, f30⟩
            | inr q =>
              obtain ⟨py, a5⟩ := q
              rw [o5] at h
              obtain ⟨e1, t30, y1, y2, y3⟩ := h
              refine ⟨_, e1, fun hq => absurd hq (show ¬ fl_w 1 = 0 by decide), fun _ H34 e34 => ?_⟩
              have x34 : ∀ i, H34 105 i = H30 105 i := fun i => by rw [e34, fl_up_c _ _ _ _ (by decide)]
              simp only [pb, p1, o2, o3, o4, o5]
              refine ⟨⟨rfl, by rw [e34, fl_up_i _ _ _ _ (by decide)]; exact t30, fun i hi1 hi2 => ?_, by rw [e34, fl_up_at, q30]; rfl⟩, rfr_trans f30 (by rw [e34]; exact rfr_gd _) (Nat.le_refl _)⟩
              rw [x34]
              have hi2 : i < 9 := hi2
              match i, hi1, hi2 with
              | 1, _, _ => rw [x30 _ (by omega)]; exact v22
              | 2, _, _ => rw [x30 _ (by omega)]; exact u22
              | 3, _, _ => rw [x30 _ (by omega)]; exact z1
              | 4, _, _ => rw [x30 _ (by omega)]; exact z2
              | 5, _, _ => rw [x30 _ (by omega)]; exact z3
              | 6, _, _ => exact y1
              | 7, _, _ => exact y2
              | 8, _, _ => exact y3
end
end
