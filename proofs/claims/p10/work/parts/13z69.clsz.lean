noncomputable section
/-! L3: the class's contents by number; steps of its reading. -/
section
variable {X : Term} {xs : List Int32}
/-- where the class has what the reference has at j: how far behind the book's cell, and the place -/
def slt (j : Nat) : Nat × Nat :=
  if j < 4 then (if j = 0 then (0, 0) else if j = 1 then (2, 0) else if j = 2 then (8, 0) else (13, 0))
  else if j < 7 then (17, j - 4) else if j < 10 then (0, j) else if j < 13 then (1, j - 10) else if j < 14 then (0, j)
  else if j < 62 then (if (j - 14) % 8 = 0 then (3, (j - 14) / 8) else if (j - 14) % 8 = 1 then (4, (j - 14) / 8) else (5 + ((j - 14) % 8 - 2) % 3, 2 * ((j - 14) / 8) + ((j - 14) % 8 - 2) / 3))
  else if j < 68 then (18, j - 62) else if j < 116 then (9 + (j - 68) % 4, (j - 68) / 4) else (14 + (j - 116) % 3, (j - 116) / 3)
def vld (j : Nat) : Bool := decide (j < 152) && !(decide (7 ≤ j ∧ j < 10) || decide (j = 13))
def cz (H : fl_H) (b j : Nat) : Int := if vld j = true then H (b + (slt j).1) (slt j).2 else 0
theorem slt_inj : ∀ i : Nat, i < 152 → ∀ j : Nat, j < 152 → vld i = true → vld j = true → slt i = slt j → i = j := fun i hi j hj vi vj h => by
  have key : ((List.range 152).all fun i => (List.range 152).all fun j => !(vld i) || (!(vld j) || (!(decide (slt i = slt j)) || decide (i = j)))) = true := by decide +kernel
  have h1 := List.all_eq_true.mp (List.all_eq_true.mp key i (List.mem_range.mpr hi)) j (List.mem_range.mpr hj)
  rw [vi, vj, h] at h1
  simpa using h1
theorem slt_le : ∀ i : Nat, i < 152 → (slt i).1 ≤ 18 := by decide +kernel
theorem vld_lt {j : Nat} (h : vld j = true) : j < 152 := by
  unfold vld at h
  simp only [Bool.and_eq_true, decide_eq_true_eq] at h
  exact h.1
theorem cz_up {H : fl_H} {b j c i : Nat} {v : Int} (hj : vld j = true) (hc : c = b + (slt j).1) (hi : i = (slt j).2) : cz (fl_up H c i v) b = upz (cz H b) j v := by
  subst hc; subst hi
  funext k
  show (if vld k = true then fl_up H (b + (slt j).1) (slt j).2 v (b + (slt k).1) (slt k).2 else 0) = if k = j then v else (if vld k = true then H (b + (slt k).1) (slt k).2 else 0)
  by_cases hk : vld k = true
  · rw [if_pos hk, if_pos hk]
    by_cases he : k = j
    · subst he
      rw [if_pos rfl, fl_up_at]
    · rw [if_neg he]
      unfold fl_up
      rw [if_neg (fun hh => he (slt_inj k (vld_lt hk) j (vld_lt hj) hk hj (Prod.ext (by omega) hh.2)))]
  · rw [if_neg hk, if_neg hk]
    by_cases he : k = j
    · subst he; exact absurd hj hk
    · rw [if_neg he]
theorem cz_out {H G : fl_H} {b : Nat} (h : ∀ c i, b ≤ c → c ≤ b + 18 → G c i = H c i) : cz G b = cz H b := by
  funext j
  unfold cz
  by_cases hj : vld j = true
  · rw [if_pos hj, if_pos hj]
    have := slt_le j (vld_lt hj)
    exact h _ _ (by omega) (by omega)
  · rw [if_neg hj, if_neg hj]
/-- what the class's reading leaves -/
def cfr (H G : fl_H) : Prop := ∀ c i, (c = 58 → i ≠ 2 ∧ i ≠ 3) → (c < 20 ∨ 32 < c) → G c i = H c i
theorem cfr_refl (H : fl_H) : cfr H H := fun _ _ _ _ => rfl
theorem cfr_trans {H G F : fl_H} (h : cfr H G) (g : cfr G F) : cfr H F := fun c i h1 h2 => (g c i h1 h2).trans (h c i h1 h2)
theorem cfr_in (H : fl_H) (c i : Nat) (v : Int) (h1 : 20 ≤ c) (h2 : c ≤ 32) : cfr H (fl_up H c i v) := fun d j _ g => by
  unfold fl_up
  rw [if_neg (fun hh => by omega)]
theorem cfr_58 (H : fl_H) (i : Nat) (v : Int) (h : i = 2 ∨ i = 3) : cfr H (fl_up H 58 i v) := fun d j g _ => by
  unfold fl_up
  rw [if_neg (fun hh => by have := g hh.1; omega)]
theorem cfr_t {H G : fl_H} (h : cfr H G) : G 59 = H 59 := funext (fun i => h 59 i (fun h => absurd h (by decide)) (Or.inr (by decide)))
theorem cfr_n {H G : fl_H} (h : cfr H G) : G 58 1 = H 58 1 := h 58 1 (fun _ => ⟨by decide, by decide⟩) (Or.inr (by decide))
/-- a piece of reading: o says what is read from a place on, x what the class has of it -/
def stp {α : Type} (n : Nat) (o : Nat → PR α) (H1 H2 : fl_H) (x : α) : Prop :=
  cfr H1 H2 ∧ (∃ q, cst H2 n q) ∧ (H1 58 3 ≠ -1 → H2 58 3 = H1 58 3) ∧ (∀ q, cst H1 n q → H1 58 3 = -1 → match o q with
    | .inr (v, a) => x = v ∧ H2 58 2 = (a : Int) ∧ H2 58 3 = -1
    | .inl p => H2 58 3 = (p : Int) ∧ p ≤ n)
theorem cst_q {H : fl_H} {n a b : Nat} (h : cst H n a) (g : cst H n b) : a = b := by
  have h1 := h.2.1
  have h2 := g.2.1
  omega
theorem stp_cto {n a : Nat} {lo hi x : Int} {o : Nat → PR Int} {H1 H2 : fl_H} (hs : cst H1 n a) (h : cto n lo hi (o a) H1 x H2) : stp n o H1 H2 x ∧ (∀ c, c ≠ 58 → H2 c = H1 c) := by
  obtain ⟨-, -, q, f, hq, e, hf, hn⟩ := h
  have e3 : H2 58 3 = f := by rw [e, fl_up_at]
  have e2 : H2 58 2 = (q : Int) := by rw [e, fl_up_i _ _ _ _ (by decide), fl_up_at]
  refine ⟨⟨?_, ⟨q, ?_⟩, fun h => by rw [e3]; exact hf h, fun b hb h => ?_⟩, fun c hc => by rw [e, fl_up_cell _ _ _ _ hc, fl_up_cell _ _ _ _ hc]⟩
  · rw [e]
    exact cfr_trans (cfr_58 _ _ _ (Or.inl rfl)) (cfr_58 _ _ _ (Or.inr rfl))
  · have hfr : -1 ≤ f ∧ f ≤ 120 := by
      by_cases hc : H1 58 3 = -1
      · have := hn hc
        split at this
        · omega
        · have := hs.2.2.2.1; omega
      · rw [hf hc]
        exact ⟨hs.2.2.2.2.2.1, hs.2.2.2.2.2.2⟩
    rw [e]
    exact cst_up hs hq hfr.1 hfr.2
  · have := cst_q hs hb
    subst this
    have := hn h
    split at this
    · rename_i v a' ho
      show _
      split
      · rename_i v2 a2 ho2
        rw [ho] at ho2
        simp only [Sum.inr.injEq, Prod.mk.injEq] at ho2
        obtain ⟨t1, t2⟩ := ho2
        subst t1; subst t2
        exact ⟨this.1, by rw [e2, this.2.1], by rw [e3]; exact this.2.2⟩
      · rename_i p ho2
        rw [ho] at ho2
        simp at ho2
    · rename_i p ho
      show _
      split
      · rename_i v2 a2 ho2
        rw [ho] at ho2
        simp at ho2
      · rename_i p2 ho2
        rw [ho] at ho2
        injection ho2 with ho2
        subst ho2
        exact ⟨by rw [e3]; exact this.1, this.2⟩
/-- reading has come so far: E is what is read in all, R the rest -/
def rnn {γ : Type} (n : Nat) (E : PR γ) (H0 H1 : fl_H) (R : Nat → PR γ) : Prop :=
  cfr H0 H1 ∧ (∃ q, cst H1 n q ∧ (H0 58 3 = -1 → H1 58 3 = -1 → E = R q)) ∧ (H0 58 3 ≠ -1 → H1 58 3 = H0 58 3) ∧ (H0 58 3 = -1 → H1 58 3 ≠ -1 → ∃ p : Nat, E = .inl p ∧ H1 58 3 = (p : Int) ∧ p ≤ n)
theorem rnn_0 {γ : Type} {n a : Nat} {H : fl_H} (hs : cst H n a) (R : Nat → PR γ) : rnn n (R a) H H R :=
  ⟨cfr_refl H, ⟨a, hs, fun _ _ => rfl⟩, fun _ => rfl, fun h g => absurd h g⟩
theorem rnn_stp {α γ : Type} {n : Nat} {E : PR γ} {H0 H1 H2 : fl_H} {o : Nat → PR α} {f : α → Nat → PR γ} {x : α} (h : rnn n E H0 H1 (fun a => pb (o a) f)) (g : stp n o H1 H2 x) : rnn n E H0 H2 (fun a => f x a) := by
  obtain ⟨h1, ⟨q, hq, h2⟩, h3, h4⟩ := h
  obtain ⟨g1, ⟨q2, hq2⟩, g3, g4⟩ := g
  have key : H0 58 3 = -1 → H1 58 3 = -1 → ((E = f x q2 ∧ H2 58 3 = -1) ∨ ∃ p : Nat, E = .inl p ∧ H2 58 3 = (p : Int) ∧ p ≤ n) := fun a b => by
    have e := h2 a b
    have := g4 q hq b
    simp only [] at e
    split at this
    · rename_i v a' ho
      rw [ho] at e
      obtain ⟨t1, t2, t3⟩ := this
      have : a' = q2 := by have := hq2.2.1; omega
      subst this
      rw [t1]
      exact Or.inl ⟨e, t3⟩
    · rename_i p ho
      rw [ho] at e
      exact Or.inr ⟨p, e, this⟩
  refine ⟨cfr_trans h1 g1, ⟨q2, hq2, fun a b => ?_⟩, fun a => ?_, fun a b => ?_⟩
  · by_cases c : H1 58 3 = -1
    · rcases key a c with k | ⟨p, k1, k2, k3⟩
      · exact k.1
      · omega
    · rw [g3 c] at b
      exact absurd b c
  · have := h3 a
    rw [g3 (by rw [this]; exact a)]
    exact this
  · by_cases c : H1 58 3 = -1
    · rcases key a c with k | k
      · exact absurd k.2 b
      · exact k
    · obtain ⟨p, k1, k2, k3⟩ := h4 a c
      exact ⟨p, k1, by rw [g3 c]; exact k2, k3⟩
/-- contents change, the reading stays -/
theorem rnn_put {γ : Type} {n : Nat} {E : PR γ} {H0 H1 H2 : fl_H} {R : Nat → PR γ} (h : rnn n E H0 H1 R) (g : ∀ c, (c < 20 ∨ 32 < c) → H2 c = H1 c) : rnn n E H0 H2 R := by
  obtain ⟨h1, ⟨q, hq, h2⟩, h3, h4⟩ := h
  have e58 : H2 58 = H1 58 := g 58 (Or.inr (by decide))
  have e59 : H2 59 = H1 59 := g 59 (Or.inr (by decide))
  refine ⟨cfr_trans h1 (fun c i _ k => by rw [g c k]), ⟨q, ?_, fun a b => h2 a (by rw [← e58]; exact b)⟩, fun a => by rw [e58]; exact h3 a, fun a b => by rw [e58] at b ⊢; exact h4 a b⟩
  unfold cst at hq ⊢
  rw [e58, e59]
  exact hq
/-- all read: as a piece -/
theorem rnn_end {γ : Type} {n a : Nat} {o : Nat → PR γ} {H0 H1 : fl_H} {x : γ} (hs : cst H0 n a) (h : rnn n (o a) H0 H1 (fun b => .inr (x, b))) : stp n o H0 H1 x := by
  obtain ⟨h1, ⟨q, hq, h2⟩, h3, h4⟩ := h
  refine ⟨h1, ⟨q, hq⟩, h3, fun b hb c => ?_⟩
  have := cst_q hs hb
  subst this
  by_cases d : H1 58 3 = -1
  · have e := h2 c d
    simp only [] at e
    rw [e]
    exact ⟨rfl, hq.2.1, d⟩
  · obtain ⟨p, k1, k2, k3⟩ := h4 c d
    rw [k1]
    exact ⟨k2, k3⟩
theorem one_fig {c : Int} : fig 1 4 c = (one [49, 50, 51, 52] c).map (fun i => i + 1) := by
  unfold fig one ixf ixf ixf ixf ixf
  by_cases h1 : (49 : Int) = c
  · subst h1; rfl
  · by_cases h2 : (50 : Int) = c
    · subst h2; rfl
    · by_cases h3 : (51 : Int) = c
      · subst h3; rfl
      · by_cases h4 : (52 : Int) = c
        · subst h4; rfl
        · rw [if_neg (by omega), if_neg h1, if_neg h2, if_neg h3, if_neg h4]; rfl
theorem one_fig0 {c : Int} : fig 0 3 c = one [48, 49, 50, 51] c := by
  unfold fig one ixf ixf ixf ixf ixf
  by_cases h1 : (48 : Int) = c
  · subst h1; rfl
  · by_cases h2 : (49 : Int) = c
    · subst h2; rfl
    · by_cases h3 : (50 : Int) = c
      · subst h3; rfl
      · by_cases h4 : (51 : Int) = c
        · subst h4; rfl
        · rw [if_neg (by omega), if_neg h1, if_neg h2, if_neg h3, if_neg h4]
theorem pb_fig {β : Type} {t : Nat → Int} {n a : Nat} {f : Int → Nat → PR β} : pb (tk t n a (fig 1 4)) f = pb (tk t n a (one [49, 50, 51, 52])) (fun i a => f (i + 1) a) := by
  unfold tk
  rw [one_fig]
  cases one [49, 50, 51, 52] (bc t n a) with
  | none => rfl
  | some i => rfl
theorem siz_eq (t : Nat → Int) (n a : Nat) : siz t n a = pb (tk t n a (one [49, 50, 51, 52])) fun i a => pb (tk t n a (skp 120)) fun _ a => pb (tk t n a (one [49, 50, 51, 52])) fun k a => pb (tk t n a (skp 61)) fun _ a => pb (num t n a 999) fun s a => .inr ((i + 1, k + 1, s), a) := by
  unfold siz
  rw [pb_fig]
  congr 1
  funext i a
  congr 1
  funext _ a
  rw [pb_fig]
end
end
