noncomputable section
/-! L3: the reference reads clauses. -/
section
variable {X : Term} {xs : List Int32}
theorem rn_kind {m : Nat} {H : fl_H} {c : Int} (h1 : -1 ≤ c) (h2 : c ≤ 255) : ck (cm_pg X xs) m cm_m225 [fl_t c] H (fun r H' => r = some ((one [112, 108, 114, 102] c).getD (-1)) ∧ H' = H) := by
  refine ve_GoodsBookModel_kindOf ?_
  rw [fl_wi (by omega) (by omega)]
  unfold one ixf ixf ixf ixf ixf
  refine ⟨fun h => ?_, fun g1 => ⟨fun h => ?_, fun g2 => ⟨fun h => ?_, fun g3 => ⟨fun h => ?_, fun g4 => ?_⟩⟩⟩⟩
  · subst h; exact ⟨rfl, rfl⟩
  · subst h; exact ⟨rfl, rfl⟩
  · subst h; exact ⟨rfl, rfl⟩
  · subst h; exact ⟨rfl, rfl⟩
  · rw [if_neg (fun h => g1 h.symm), if_neg (fun h => g2 h.symm), if_neg (fun h => g3 h.symm), if_neg (fun h => g4 h.symm)]; exact ⟨rfl, rfl⟩
theorem rn_bond {m : Nat} {H : fl_H} {c : Int} (h1 : -1 ≤ c) (h2 : c ≤ 255) : ck (cm_pg X xs) m cm_m226 [fl_t c] H (fun r H' => r = some ((one [111, 102, 101, 110, 118, 104] c).getD (-1)) ∧ H' = H) := by
  refine ve_GoodsBookModel_bondOf ?_
  rw [fl_wi (by omega) (by omega)]
  unfold one ixf ixf ixf ixf ixf ixf ixf
  refine ⟨fun h => ?_, fun g1 => ⟨fun h => ?_, fun g2 => ⟨fun h => ?_, fun g3 => ⟨fun h => ?_, fun g4 => ⟨fun h => ?_, fun g5 => ⟨fun h => ?_, fun g6 => ?_⟩⟩⟩⟩⟩⟩
  · subst h; exact ⟨rfl, rfl⟩
  · subst h; exact ⟨rfl, rfl⟩
  · subst h; exact ⟨rfl, rfl⟩
  · subst h; exact ⟨rfl, rfl⟩
  · subst h; exact ⟨rfl, rfl⟩
  · subst h; exact ⟨rfl, rfl⟩
  · rw [if_neg (fun h => g1 h.symm), if_neg (fun h => g2 h.symm), if_neg (fun h => g3 h.symm), if_neg (fun h => g4 h.symm), if_neg (fun h => g5 h.symm), if_neg (fun h => g6 h.symm)]; exact ⟨rfl, rfl⟩
/-- what the reading of a clause leaves: all but where it reads, and what it writes down from a place on -/
def rfr (k : Nat) (H G : fl_H) : Prop := ∀ c i, (c = 94 → i ≠ 14 ∧ i ≠ 17) → (c = 105 → i < k) → G c i = H c i
theorem rfr_refl (k : Nat) (H : fl_H) : rfr k H H := fun _ _ _ _ => rfl
theorem rfr_trans {k j : Nat} {H G F : fl_H} (h : rfr k H G) (g : rfr j G F) (hj : k ≤ j) : rfr k H F := fun c i h1 h2 => (g c i h1 (fun hc => by have := h2 hc; omega)).trans (h c i h1 h2)
theorem rfr_at {k : Nat} {H : fl_H} (v : Int) : rfr k H (fl_up H 94 14 v) := fun c i h1 _ => by
  unfold fl_up
  rw [if_neg (fun h => (h1 h.1).1 h.2)]
theorem rfr_gd {k : Nat} {H : fl_H} (v : Int) : rfr k H (fl_up H 94 17 v) := fun c i h1 _ => by
  unfold fl_up
  rw [if_neg (fun h => (h1 h.1).2 h.2)]
theorem rfr_wr {k j : Nat} {H : fl_H} (v : Int) (hj : k ≤ j) : rfr k H (fl_up H 105 j v) := fun c i _ h2 => by
  unfold fl_up
  rw [if_neg (fun h => by have := h2 h.1; have := h.2; omega)]
theorem rfr_n {k : Nat} {H G : fl_H} (h : rfr k H G) : G 94 13 = H 94 13 := h 94 13 (fun _ => ⟨by decide, by decide⟩) (fun h => absurd h (by decide))
theorem rfr_t {k : Nat} {H G : fl_H} (h : rfr k H G) : G 104 = H 104 := funext (fun i => h 104 i (fun h => absurd h (by decide)) (fun h => absurd h (by decide)))
theorem rst_k {k : Nat} {H G : fl_H} {n a b : Nat} (h : rst H n a) (f : rfr k H G) (h2 : G 94 14 = (b : Int)) (hb : b ≤ n) : rst G n b :=
  ⟨by rw [rfr_n f]; exact h.1, h2, hb, h.2.2.2.1, fun i hi => by rw [rfr_t f]; exact h.2.2.2.2 i hi⟩
/-- places of what is read do not pass the end -/
theorem tk_le {α : Type} {t : Nat → Int} {n a : Nat} (ha : a ≤ n) {f : Int → Option α} (hf : f (-1) = none) : match tk t n a f with
    | .inr (_, b) => b ≤ n
    | .inl p => p ≤ n := by
  have hle := nb_le (t := t) ha
  cases hx : f (bc t n a) with
  | some x =>
    have e : tk t n a f = .inr (x, nb t n a + 1) := by unfold tk; rw [hx]
    have : nb t n a < n := by
      by_cases h : nb t n a < n
      · exact h
      · have e : bc t n a = -1 := if_neg h
        rw [e, hf] at hx
        simp at hx
    rw [e]
    show nb t n a + 1 ≤ n
    omega
  | none =>
    have e : tk t n a f = .inl (nb t n a) := by unfold tk; rw [hx]
    rw [e]
    exact hle
theorem num_le {t : Nat → Int} {n a : Nat} (ha : a ≤ n) {most : Int} : match num t n a most with
    | .inr (_, b) => b ≤ n
    | .inl p => p ≤ n := by
  have hle := nb_le (t := t) ha
  by_cases h1 : 48 ≤ bc t n a ∧ bc t n a ≤ 57
  · by_cases h2 : (nu t n (n - nb t n a) (nb t n a) 0).1 ≤ most
    · have e : num t n a most = .inr (nu t n (n - nb t n a) (nb t n a) 0) := by unfold num; rw [if_pos h1, if_pos h2]
      rw [e]
      exact (nu_q (t := t) (n := n) _ _ _).2 hle
    · have e : num t n a most = .inl (nb t n a) := by unfold num; rw [if_pos h1, if_neg h2]
      rw [e]
      exact hle
  · have e : num t n a most = .inl (nb t n a) := by unfold num; rw [if_neg h1]
    rw [e]
    exact hle
/-- three numbers of a size written down from j on -/
def wr3 (j : Nat) (o : PR (Int × Int × Int)) (H : fl_H) (r : Option Int) (H' : fl_H) : Prop := match o with
  | .inr (v, a) => r = some 1 ∧ H' 94 14 = (a : Int) ∧ H' 105 j = v.1 ∧ H' 105 (j + 1) = v.2.1 ∧ H' 105 (j + 2) = v.2.2
  | .inl p => r = some 0 ∧ H' 94 14 = (p : Int)
theorem fig_n1 {lo hi : Int} (h : 0 ≤ lo) : fig lo hi (-1) = none := by
  unfold fig
  rw [if_neg (by omega)]
theorem fig_rg {lo hi b v : Int} (h : fig lo hi b = some v) : lo ≤ v ∧ v ≤ hi := by
  unfold fig at h
  split at h
  · rename_i hh
    injection h with h
    omega
  · simp at h
theorem tk_some {α : Type} {t : Nat → Int} {n a b : Nat} {f : Int → Option α} {v : α} (h : tk t n a f = .inr (v, b)) : f (bc t n a) = some v ∧ b = nb t n a + 1 := by
  unfold tk at h
  split at h
  · rename_i x hx
    injection h with h
    injection h with h1 h2
    exact ⟨by rw [hx, h1], h2.symm⟩
  · simp at h
theorem tk_none {α : Type} {t : Nat → Int} {n a p : Nat} {f : Int → Option α} (h : tk t n a f = .inl p) : f (bc t n a) = none ∧ p = nb t n a := by
  unfold tk at h
  split at h
  · simp at h
  · rename_i hx
    injection h with h
    exact ⟨hx, h.symm⟩
/-- a byte that is asked for: either way -/
theorem tk_map {t : Nat → Int} {n a : Nat} {c : Int} : tk t n a (fun b => if b = c then some (1 : Int) else none) = (match tk t n a (skp c) with
    | .inr (_, b) => .inr (1, b)
    | .inl p => .inl p) := by
  unfold tk skp
  by_cases h : bc t n a = c
  · simp only [if_pos h]
  · simp only [if_neg h]
theorem num_rg {t : Nat → Int} {n a b : Nat} {most v : Int} (h : num t n a most = .inr (v, b)) : 0 ≤ v ∧ v ≤ most := by
  unfold num at h
  split at h
  · split at h
    · rename_i h1
      injection h with h
      rw [h] at h1
      have := nu_ge (t := t) (n := n) (n - nb t n a) (nb t n a) 0 (Int.le_refl 0)
      rw [h] at this
      exact ⟨this, h1⟩
    · simp at h
  · simp at h
theorem siz_le {t : Nat → Int} {n a b : Nat} {v : Int × Int × Int} (ha : a ≤ n) (h : siz t n a = .inr (v, b)) : b ≤ n := by
  unfold siz at h
  have l1 := tk_le (t := t) ha (f := fig 1 4) (fig_n1 (by omega))
  cases o1 : tk t n a (fig 1 4) with
  | inl p => rw [o1] at h; simp [pb] at h
  | inr q =>
    obtain ⟨v1, a1⟩ := q
    rw [o1] at h l1
    simp only [pb] at h
    have l2 := tk_le (t := t) l1 (f := skp 120) rfl
    cases o2 : tk t n a1 (skp 120) with
    | inl p => rw [o2] at h; simp at h
    | inr q =>
      obtain ⟨v2, a2⟩ := q
      rw [o2] at h l2
      simp only [] at h
      have l3 := tk_le (t := t) l2 (f := fig 1 4) (fig_n1 (by omega))
      cases o3 : tk t n a2 (fig 1 4) with
      | inl p => rw [o3] at h; simp at h
      | inr q =>
        obtain ⟨v3, a3⟩ := q
        rw [o3] at h l3
        simp only [] at h
        have l4 := tk_le (t := t) l3 (f := skp 61) rfl
        cases o4 : tk t n a3 (skp 61) with
        | inl p => rw [o4] at h; simp at h
        | inr q =>
          obtain ⟨v4, a4⟩ := q
          rw [o4] at h l4
          simp only [] at h
          have l5 := num_le (t := t) l4 (most := 999)
          cases o5 : num t n a4 999 with
          | inl p => rw [o5] at h; simp at h
          | inr q =>
            obtain ⟨v5, a5⟩ := q
            rw [o5] at h l5
            simp only [Sum.inr.injEq, Prod.mk.injEq] at h
            rw [← h.2]
            exact l5
theorem rn_size {n a m j : Nat} {H : fl_H} (hs : rst H n a) (hj : j + 2 < 144) : ck (cm_pg X xs) m cm_m224 [.index 94, fl_t (j : Int)] H (fun r H' => wr3 j (siz (H 104) n a) H r H' ∧ rfr j H H' ∧ H' 94 17 = H 94 17) := by
  have wj : ∀ d : Nat, d ≤ 2 → fl_w ((j : Int) + (d : Int)) = ((j + d : Nat) : Int) := fun d hd => by rw [fl_wi (by omega) (by omega)]; omega
  have w0 : fl_w (j : Int) = (j : Int) := fl_wi (by omega) (by omega)
  have w1 : fl_w ((j : Int) + 1) = ((j + 1 : Nat) : Int) := wj 1 (by omega)
  have w2 : fl_w ((j : Int) + 2) = ((j + 2 : Nat) : Int) := wj 2 (by omega)
  refine ve_GoodsBookModel_readSize_94 ?_
  rw [w0, w1, w2]
  simp only [Int.toNat_natCast]
  refine fun m hm => ck_mono (rn_digit (X := X) (xs := xs) hs (by omega) (by omega) (by omega) (by omega)) (fun r H1 h => ?_)
  unfold siz
  have l1 := tk_le (t := H 104) hs.2.2.1 (f := fig 1 4) (fig_n1 (by omega))
  cases o1 : tk (H 104) n a (fig 1 4) with
  | inl p =>
    rw [o1] at h
    obtain ⟨e1, e2⟩ := h
    refine ⟨_, e1, fun _ H4 e4 _ => ⟨fun _ => ?_, fun hq => ?_⟩⟩
    · subst e4
      refine ⟨⟨rfl, by rw [fl_up_c _ _ _ _ (by decide), e2, fl_up_at]⟩, rfr_trans (by rw [e2]; exact rfr_at _) (rfr_wr _ (Nat.le_refl _)) (Nat.le_refl _), by rw [fl_up_c _ _ _ _ (by decide), e2, fl_up_i _ _ _ _ (by decide)]⟩
    · subst e4
      rw [fl_up_at] at hq
      exact absurd (show fl_w (-1) < 0 by decide) hq
  | inr q =>
    obtain ⟨v, a1⟩ := q
    rw [o1] at h l1
    obtain ⟨e1, e2⟩ := h
    have hv := fig_rg (tk_some o1).1
    refine ⟨_, e1, fun _ H4 e4 _ => ⟨fun hq => ?_, fun _ m hm => ?_⟩⟩
    · subst e4
      rw [fl_up_at, fl_wi (by omega) (by omega)] at hq
      omega
    · have f4 : rfr j H H4 := by subst e4; rw [e2]; exact rfr_trans (rfr_at _) (rfr_wr _ (Nat.le_refl _)) (Nat.le_refl _)
      have p4 : H4 94 14 = (a1 : Int) := by subst e4; rw [fl_up_c _ _ _ _ (by decide), e2, fl_up_at]
      have g4 : H4 94 17 = H 94 17 := by subst e4; rw [fl_up_c _ _ _ _ (by decide), e2, fl_up_i _ _ _ _ (by decide)]
      have v4 : H4 105 j = v := by subst e4; exact fl_up_at _ _ _ _
      have s4 := rst_k hs f4 p4 l1
      refine ck_mono (rn_takes (X := X) (xs := xs) s4 (c := 120) (by omega) (by omega)) (fun r H9 h => ?_)
      rw [tk_map, rfr_t f4] at h
      have l2 := tk_le (t := H 104) l1 (f := skp 120) rfl
      show _
      cases o2 : tk (H 104) n a1 (skp 120) with
      | inl p =>
        rw [o2] at h
        obtain ⟨e1', e2'⟩ := h
        refine ⟨_, e1', fun _ => ?_, fun hq => absurd (show fl_w 0 = 0 from rfl) hq⟩
        simp only [pb, o2]
        exact ⟨⟨rfl, by rw [e2', fl_up_at]⟩, rfr_trans f4 (by rw [e2']; exact rfr_at _) (Nat.le_refl _), by rw [e2', fl_up_i _ _ _ _ (by decide)]; exact g4⟩
      | inr q =>
        obtain ⟨v2, a2⟩ := q
        rw [o2] at h l2
        obtain ⟨e1', e2'⟩ := h
        refine ⟨_, e1', fun hq => absurd (show ¬ fl_w 1 = 0 by decide) (fun hh => hh hq), fun _ m hm => ?_⟩
        have f9 : rfr j H H9 := rfr_trans f4 (by rw [e2']; exact rfr_at _) (Nat.le_refl _)
        have p9 : H9 94 14 = (a2 : Int) := by rw [e2', fl_up_at]
        have g9 : H9 94 17 = H 94 17 := by rw [e2', fl_up_i _ _ _ _ (by decide)]; exact g4
        have v9 : H9 105 j = v := by rw [e2', fl_up_c _ _ _ _ (by decide)]; exact v4
        have s9 := rst_k hs f9 p9 l2
        refine ck_mono (rn_digit (X := X) (xs := xs) s9 (lo := 1) (hi := 4) (by omega) (by omega) (by omega) (by omega)) (fun r H13 h => ?_)
        rw [rfr_t f9] at h
        have l3 := tk_le (t := H 104) l2 (f := fig 1 4) (fig_n1 (by omega))
        cases o3 : tk (H 104) n a2 (fig 1 4) with
        | inl p =>
          rw [o3] at h
          obtain ⟨e1, e2⟩ := h
          refine ⟨_, e1, fun _ H16 e4 _ => ⟨fun _ => ?_, fun hq => ?_⟩⟩
          · subst e4
            simp only [pb, o2, o3]
            refine ⟨⟨rfl, by rw [fl_up_c _ _ _ _ (by decide), e2, fl_up_at]⟩, rfr_trans f9 (rfr_trans (by rw [e2]; exact rfr_at _) (rfr_wr _ (Nat.le_succ _)) (Nat.le_refl _)) (Nat.le_refl _), by rw [fl_up_c _ _ _ _ (by decide), e2, fl_up_i _ _ _ _ (by decide)]; exact g9⟩
          · subst e4
            rw [fl_up_at] at hq
            exact absurd (show fl_w (-1) < 0 by decide) hq
        | inr q =>
          obtain ⟨v3, a3⟩ := q
          rw [o3] at h l3
          obtain ⟨e1, e2⟩ := h
          have hv3 := fig_rg (tk_some o3).1
          refine ⟨_, e1, fun _ H16 e4 _ => ⟨fun hq => ?_, fun _ m hm => ?_⟩⟩
          · subst e4
            rw [fl_up_at, fl_wi (by omega) (by omega)] at hq
            omega
          · have f16 : rfr j H H16 := by subst e4; rw [e2]; exact rfr_trans f9 (rfr_trans (rfr_at _) (rfr_wr _ (Nat.le_succ _)) (Nat.le_refl _)) (Nat.le_refl _)
            have p16 : H16 94 14 = (a3 : Int) := by subst e4; rw [fl_up_c _ _ _ _ (by decide), e2, fl_up_at]
            have g16 : H16 94 17 = H 94 17 := by subst e4; rw [fl_up_c _ _ _ _ (by decide), e2, fl_up_i _ _ _ _ (by decide)]; exact g9
            have v16 : H16 105 j = v := by subst e4; rw [fl_up_i _ _ _ _ (by omega), e2, fl_up_c _ _ _ _ (by decide)]; exact v9
            have u16 : H16 105 (j + 1) = v3 := by subst e4; exact fl_up_at _ _ _ _
            have s16 := rst_k hs f16 p16 l3
            refine ck_mono (rn_takes (X := X) (xs := xs) s16 (c := 61) (by omega) (by omega)) (fun r H21 h => ?_)
            rw [tk_map, rfr_t f16] at h
            have l4 := tk_le (t := H 104) l3 (f := skp 61) rfl
            cases o4 : tk (H 104) n a3 (skp 61) with
            | inl p =>
              rw [o4] at h
              obtain ⟨e1', e2'⟩ := h
              refine ⟨_, e1', fun _ => ?_, fun hq => absurd (show fl_w 0 = 0 from rfl) hq⟩
              simp only [pb, o2, o3, o4]
              exact ⟨⟨rfl, by rw [e2', fl_up_at]⟩, rfr_trans f16 (by rw [e2']; exact rfr_at _) (Nat.le_refl _), by rw [e2', fl_up_i _ _ _ _ (by decide)]; exact g16⟩
            | inr q =>
              obtain ⟨v4', a4⟩ := q
              rw [o4] at h l4
              obtain ⟨e1', e2'⟩ := h
              refine ⟨_, e1', fun hq => absurd (show ¬ fl_w 1 = 0 by decide) (fun hh => hh hq), fun _ m hm => ?_⟩
              have f21 : rfr j H H21 := rfr_trans f16 (by rw [e2']; exact rfr_at _) (Nat.le_refl _)
              have p21 : H21 94 14 = (a4 : Int) := by rw [e2', fl_up_at]
              have g21 : H21 94 17 = H 94 17 := by rw [e2', fl_up_i _ _ _ _ (by decide)]; exact g16
              have v21 : H21 105 j = v := by rw [e2', fl_up_c _ _ _ _ (by decide)]; exact v16
              have u21 : H21 105 (j + 1) = v3 := by rw [e2', fl_up_c _ _ _ _ (by decide)]; exact u16
              have s21 := rst_k hs f21 p21 l4
              refine ck_mono (rn_num (X := X) (xs := xs) s21 (most := 999) (by omega) (by omega)) (fun r H25 h => ?_)
              rw [rfr_t f21] at h
              cases o5 : num (H 104) n a4 999 with
              | inl p =>
                rw [o5] at h
                obtain ⟨e1, e2⟩ := h
                refine ⟨_, e1, fun _ H28 e4 _ => ⟨fun _ => ?_, fun hq => ?_⟩⟩
                · subst e4
                  simp only [pb, o2, o3, o4, o5]
                  refine ⟨⟨rfl, by rw [fl_up_c _ _ _ _ (by decide), e2, fl_up_at]⟩, rfr_trans f21 (rfr_trans (by rw [e2]; exact rfr_at _) (rfr_wr _ (by omega)) (Nat.le_refl _)) (Nat.le_refl _), by rw [fl_up_c _ _ _ _ (by decide), e2, fl_up_i _ _ _ _ (by decide)]; exact g21⟩
                · subst e4
                  rw [fl_up_at] at hq
                  exact absurd (show fl_w (-1) < 0 by decide) hq
              | inr q =>
                obtain ⟨v5, a5⟩ := q
                rw [o5] at h
                obtain ⟨e1, e2⟩ := h
                have hv5 := num_rg o5
                refine ⟨_, e1, fun _ H28 e4 _ => ⟨fun hq => ?_, fun _ => ?_⟩⟩
                · subst e4
                  rw [fl_up_at, fl_wi (by omega) (by omega)] at hq
                  omega
                · subst e4
                  simp only [pb, o2, o3, o4, o5]
                  refine ⟨⟨rfl, by rw [fl_up_c _ _ _ _ (by decide), e2, fl_up_at], ?_, ?_, fl_up_at _ _ _ _⟩, rfr_trans f21 (rfr_trans (by rw [e2]; exact rfr_at _) (rfr_wr _ (by omega)) (Nat.le_refl _)) (Nat.le_refl _), by rw [fl_up_c _ _ _ _ (by decide), e2, fl_up_i _ _ _ _ (by decide)]; exact g21⟩
                  · rw [fl_up_i _ _ _ _ (by omega), e2, fl_up_c _ _ _ _ (by decide)]; exact v21
                  · rw [fl_up_i _ _ _ _ (by omega), e2, fl_up_c _ _ _ _ (by decide)]; exact u21
end
end
