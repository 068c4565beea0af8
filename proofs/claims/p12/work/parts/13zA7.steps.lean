noncomputable section
/-! L3, STEPS as numbers: neighbours, the best of them, how many steps there can be; no program. -/
/-- one row more, in any order -/
theorem bst_add {z : Nat → Int} {S : (Nat → Nat) → Prop} {A A1 A2 : Int} {R R1 R2 s : Nat → Nat} {F F1 F2 : Prop} (h : bst z S A R F A1 R1 F1) (f0 : ¬ F)
    (k : (A2 = A1 ∧ R2 = R1 ∧ (F2 ↔ F1) ∧ (zso z s → zwo z s ≤ A1 ∧ (zwo z s = A1 → F1 → s = R1 ∨ rlt R1 s))) ∨ (F2 ∧ R2 = s ∧ zso z s ∧ A2 = zwo z s ∧ A1 ≤ A2 ∧ (A2 = A1 → F1 ∧ rlt s R1))) (tr : ∀ t, S t → rlt s R1 → rlt R1 t → rlt s t) : bst z (fun t => S t ∨ t = s) A R F A2 R2 F2 := by
  rcases k with ⟨k1, k2, k3, k4⟩ | ⟨k1, k2, k3, k4, k5, k6⟩
  · rcases h with ⟨h1, h2, h3, h4⟩ | ⟨h1, h2, h3, h4, h5, h6⟩
    · refine Or.inl ⟨k1.trans h1, k2.trans h2, k3.trans h3, fun t ht hs => ?_⟩
      rcases ht with ht | ht
      · exact h4 t ht hs
      · rw [ht] at hs ⊢; rw [← h1]; exact (k4 hs).1
    · rw [k1, k2]
      refine Or.inr ⟨k3.mpr h1, Or.inl h2, h3, h4, h5, fun t ht hs => ?_⟩
      rcases ht with ht | ht
      · exact h6 t ht hs
      · rw [ht] at hs ⊢; exact ⟨(k4 hs).1, fun q => (k4 hs).2 q h1⟩
  · rw [k2]
    rcases h with ⟨h1, h2, h3, h4⟩ | ⟨h1, h2, h3, h4, h5, h6⟩
    · have ne : A2 ≠ A1 := fun q => f0 (h3.mp (k6 q).1)
      refine Or.inr ⟨k1, Or.inr rfl, k3, k4, by omega, fun t ht hs => ?_⟩
      rcases ht with ht | ht
      · have := h4 t ht hs
        exact ⟨by omega, fun q => by omega⟩
      · rw [ht]; exact ⟨by omega, fun _ => Or.inl rfl⟩
    · refine Or.inr ⟨k1, Or.inr rfl, k3, k4, by omega, fun t ht hs => ?_⟩
      rcases ht with ht | ht
      · obtain ⟨q1, q2⟩ := h6 t ht hs
        refine ⟨by omega, fun q => Or.inr ?_⟩
        have e : A2 = A1 := by omega
        rcases q2 (by omega) with c | c
        · rw [c]; exact (k6 e).2
        · exact tr t ht (k6 e).2 c
      · rw [ht]; exact ⟨by omega, fun _ => Or.inl rfl⟩
theorem rlt_tr {a b c : Nat → Nat} (h : rlt a b) (k : rlt b c) : rlt a c := by
  obtain ⟨i, i6, i1, i2⟩ := h
  obtain ⟨j, j6, j1, j2⟩ := k
  rcases Nat.lt_trichotomy i j with q | q | q
  · exact ⟨i, i6, by rw [← j2 i q]; exact i1, fun l hl => by rw [i2 l hl, j2 l (by omega)]⟩
  · subst q; exact ⟨i, i6, by omega, fun l hl => by rw [i2 l hl, j2 l hl]⟩
  · exact ⟨j, j6, by rw [i2 j q]; exact j1, fun l hl => by rw [i2 l (by omega), j2 l hl]⟩
/-- what is worth no more than at first can be passed -/
theorem bst_skip {z : Nat → Int} {S : (Nat → Nat) → Prop} {A A1 : Int} {R R1 s : Nat → Nat} {F F1 : Prop} (h : bst z S A R F A1 R1 F1) (k : zwo z s ≤ A) : bst z (fun t => S t ∨ t = s) A R F A1 R1 F1 := by
  rcases h with ⟨h1, h2, h3, h4⟩ | ⟨h1, h2, h3, h4, h5, h6⟩
  · refine Or.inl ⟨h1, h2, h3, fun t ht hs => ?_⟩
    rcases ht with ht | ht
    · exact h4 t ht hs
    · rw [ht]; exact k
  · refine Or.inr ⟨h1, Or.inl h2, h3, h4, h5, fun t ht hs => ?_⟩
    rcases ht with ht | ht
    · exact h6 t ht hs
    · rw [ht]; exact ⟨by omega, fun q => by omega⟩
/-- the neighbours of a row -/
def nbA (r : Nat → Nat) (g c : Nat) (s : Nat → Nat) : Prop := ∃ k, k < c ∧ s = pup r g k
def nbB (r : Nat → Nat) (g h : Nat) (s : Nat → Nat) : Prop := ∃ k, g < k ∧ k < h ∧ s = pup (pup r g (r k)) k (r g)
def nbG (z : Nat → Int) (r : Nat → Nat) (g : Nat) (s : Nat → Nat) : Prop := ∃ k, k < g ∧ (nbA r k (2 * (z 0).toNat + 1) s ∨ nbB r k (z 1).toNat s)
theorem nb_A (r : Nat → Nat) (g c : Nat) (s : Nat → Nat) : nbA r g (c + 1) s ↔ nbA r g c s ∨ s = pup r g c := by
  constructor
  · rintro ⟨k, k1, k2⟩
    by_cases e : k = c
    · exact Or.inr (by rw [← e]; exact k2)
    · exact Or.inl ⟨k, by omega, k2⟩
  · rintro (⟨k, k1, k2⟩ | e)
    · exact ⟨k, by omega, k2⟩
    · exact ⟨c, by omega, e⟩
theorem nb_B (r : Nat → Nat) {g h : Nat} (hg : g < h) (s : Nat → Nat) : nbB r g (h + 1) s ↔ nbB r g h s ∨ s = pup (pup r g (r h)) h (r g) := by
  constructor
  · rintro ⟨k, k0, k1, k2⟩
    by_cases e : k = h
    · exact Or.inr (by rw [← e]; exact k2)
    · exact Or.inl ⟨k, k0, by omega, k2⟩
  · rintro (⟨k, k0, k1, k2⟩ | e)
    · exact ⟨k, k0, by omega, k2⟩
    · exact ⟨h, hg, by omega, e⟩
theorem nb_G (z : Nat → Int) (r : Nat → Nat) (g : Nat) (s : Nat → Nat) : nbG z r (g + 1) s ↔ (nbG z r g s ∨ nbA r g (2 * (z 0).toNat + 1) s) ∨ nbB r g (z 1).toNat s := by
  constructor
  · rintro ⟨k, k1, k2⟩
    by_cases e : k = g
    · rw [e] at k2
      rcases k2 with q | q
      · exact Or.inl (Or.inr q)
      · exact Or.inr q
    · exact Or.inl (Or.inl ⟨k, by omega, k2⟩)
  · rintro ((⟨k, k1, k2⟩ | q) | q)
    · exact ⟨k, by omega, k2⟩
    · exact ⟨g, by omega, Or.inl q⟩
    · exact ⟨g, by omega, Or.inr q⟩
theorem nbG_rk {z : Nat → Int} {r s : Nat → Nat} {g : Nat} (hw : wf z) (hr : rk z r) (hg : g ≤ (z 1).toNat) (h : nbG z r g s) : rk z s := by
  have z6 := hw.1.2.2.2.1
  have z0 := hw.1.1
  obtain ⟨k, k1, ⟨c, c1, c2⟩ | ⟨j, j0, j1, j2⟩⟩ := h
  · rw [c2]; exact rk_pup hr (by omega) (by omega) (by omega)
  · rw [j2]
    exact rk_pup (rk_pup hr (by omega) (by omega) (hr.1 j (by omega)).1) (by omega) (by omega) (hr.1 k (by omega)).1
/-- a step; none that betters -/
def zstp (z : Nat → Int) (r s : Nat → Nat) : Prop := nbG z r (z 1).toNat s ∧ zso z s ∧ zwo z r < zwo z s ∧ ∀ t, nbG z r (z 1).toNat t → zso z t → zwo z t ≤ zwo z s ∧ (zwo z t = zwo z s → t = s ∨ rlt s t)
def ztop (z : Nat → Int) (r : Nat → Nat) : Prop := ∀ t, nbG z r (z 1).toNat t → zso z t → zwo z t ≤ zwo z r
theorem zstp_bst {z : Nat → Int} {r R R' : Nat → Nat} {A' : Int} {F' : Prop} (h : bst z (nbG z r (z 1).toNat) (zwo z r) R False A' R' F') : (¬ F' ∧ A' = zwo z r ∧ ztop z r) ∨ (F' ∧ zstp z r R' ∧ A' = zwo z R') := by
  rcases h with ⟨h1, h2, h3, h4⟩ | ⟨h1, h2, h3, h4, h5, h6⟩
  · exact Or.inl ⟨fun q => h3.mp q, h1, h4⟩
  · exact Or.inr ⟨h1, ⟨h2, h3, by omega, fun t ht hs => by rw [← h4]; exact h6 t ht hs⟩, h4⟩
theorem zstp_un {z : Nat → Int} {r s t : Nat → Nat} (h : zstp z r s) (k : zstp z r t) : s = t := by
  have a := h.2.2.2 t k.1 k.2.1
  have b := k.2.2.2 s h.1 h.2.1
  rcases b.2 (by omega) with q | q
  · exact q
  · rcases a.2 (by omega) with q' | q'
    · exact q'.symm
    · exact (rlt_as q q').elim
theorem zstp_top {z : Nat → Int} {r s : Nat → Nat} (h : zstp z r s) (k : ztop z r) : False := by
  have := k s h.1 h.2.1
  have := h.2.2.1
  omega
def clm (z : Nat → Int) : Nat → (Nat → Nat) → (Nat → Nat) → Prop
  | 0, r, t => t = r
  | n + 1, r, t => ∃ s, clm z n r s ∧ zstp z s t
theorem clm_lt {z : Nat → Int} {r t s : Nat → Nat} : ∀ {n m : Nat}, clm z n r t → clm z m r s → n < m → ¬ ztop z t
  | n, 0, _, _, h => absurd h (by omega)
  | n, m + 1, a, b, h => by
    obtain ⟨u, b1, b2⟩ := b
    by_cases e : n = m
    · have : ∀ k (x y : Nat → Nat), clm z k r x → clm z k r y → x = y := by
        intro k
        induction k with
        | zero => intro x y h1 h2; exact h1.trans h2.symm
        | succ k ih =>
          rintro x y ⟨p, p1, p2⟩ ⟨q, q1, q2⟩
          have e := ih p q p1 q1
          rw [e] at p2
          exact zstp_un p2 q2
      rw [e] at a
      rw [this m t u a b1]
      exact zstp_top b2
    · exact clm_lt a b1 (by omega)
theorem clm_un {z : Nat → Int} {r t s : Nat → Nat} {n m : Nat} (h : clm z n r t) (k : clm z m r s) (ht : ztop z t) (hs : ztop z s) : n = m ∧ t = s := by
  rcases Nat.lt_trichotomy n m with q | q | q
  · exact absurd ht (clm_lt h k q)
  · subst q
    have : ∀ k (x y : Nat → Nat), clm z k r x → clm z k r y → x = y := by
      intro k
      induction k with
      | zero => intro x y h1 h2; exact h1.trans h2.symm
      | succ k ih =>
        rintro x y ⟨p, p1, p2⟩ ⟨q, q1, q2⟩
        have e := ih p q p1 q1
        rw [e] at p2
        exact zstp_un p2 q2
    exact ⟨rfl, this n t s h k⟩
  · exact absurd hs (clm_lt k h q)
-- ---- how many rows are worth more
def rown (n g : Nat) : Nat := if g < 6 then n / 7 ^ g % 7 else 0
def rcod (s : Nat → Nat) : Nat := s 0 + 7 * s 1 + 49 * s 2 + 343 * s 3 + 2401 * s 4 + 16807 * s 5
theorem rown_cod {z : Nat → Int} {s : Nat → Nat} (hw : wf z) (h : rk z s) : rown (rcod s) = s ∧ rcod s < 117649 := by
  have z3 := hw.1.2.1
  have b : ∀ g, g < 6 → s g ≤ 6 := fun g hg => by have := (h.1 g hg).1; omega
  have b0 := b 0 (by omega)
  have b1 := b 1 (by omega)
  have b2 := b 2 (by omega)
  have b3 := b 3 (by omega)
  have b4 := b 4 (by omega)
  have b5 := b 5 (by omega)
  refine ⟨?_, by unfold rcod; omega⟩
  funext g
  unfold rown rcod
  by_cases hg : g < 6
  · rw [if_pos hg]
    have c : g = 0 ∨ g = 1 ∨ g = 2 ∨ g = 3 ∨ g = 4 ∨ g = 5 := by omega
    rcases c with rfl | rfl | rfl | rfl | rfl | rfl
    · show _ / 1 % 7 = _; omega
    · show _ / 7 % 7 = _; omega
    · show _ / 49 % 7 = _; omega
    · show _ / 343 % 7 = _; omega
    · show _ / 2401 % 7 = _; omega
    · show _ / 16807 % 7 = _; omega
  · rw [if_neg hg, h.2 g (by omega)]
def rmo (z : Nat → Int) (r : Nat → Nat) : Int := psm (fun n => if zwo z r < zwo z (rown n) then 1 else 0) 117649
theorem rmo_bd (z : Nat → Int) (r : Nat → Nat) : 0 ≤ rmo z r ∧ rmo z r ≤ 117649 := by
  have h := psm_bd (f := fun n => if zwo z r < zwo z (rown n) then 1 else 0) (M := 1) (n := 117649) (fun i _ => by
    (try dsimp only)
    by_cases c : zwo z r < zwo z (rown i)
    · rw [if_pos c]; omega
    · rw [if_neg c]; omega)
  unfold rmo
  omega
theorem rmo_lt {z : Nat → Int} {r s : Nat → Nat} (hw : wf z) (hs : rk z s) (h : zwo z r < zwo z s) : rmo z s + 1 ≤ rmo z r := by
  obtain ⟨e, l⟩ := rown_cod hw hs
  have e1 : rmo z s + 1 = psm (fun n => (if zwo z s < zwo z (rown n) then 1 else 0) + (if n = rcod s then 1 else 0)) 117649 := by
    rw [psm_add, psm_one 1 l]; rfl
  rw [e1]
  refine psm_le (fun n _ => ?_)
  (try dsimp only)
  by_cases c : n = rcod s
  · rw [if_pos c, c, e, if_neg (by omega), if_pos h]; omega
  · rw [if_neg c]
    by_cases d : zwo z s < zwo z (rown n)
    · rw [if_pos d, if_pos (by omega)]; omega
    · rw [if_neg d]
      by_cases d2 : zwo z r < zwo z (rown n)
      · rw [if_pos d2]; omega
      · rw [if_neg d2]; omega
theorem clm_bd {z : Nat → Int} {r : Nat → Nat} (hw : wf z) (hr : rk z r) : ∀ (n : Nat) (t : Nat → Nat), clm z n r t → rk z t ∧ (n : Int) + rmo z t ≤ rmo z r
  | 0, t, h => by
    have h : t = r := h
    subst h
    exact ⟨hr, by omega⟩
  | n + 1, t, h => by
    obtain ⟨s, h1, h2⟩ := h
    obtain ⟨a, b⟩ := clm_bd hw hr n s h1
    have rt := nbG_rk hw a (Nat.le_refl _) h2.1
    have := rmo_lt hw rt h2.2.2.1
    exact ⟨rt, by omega⟩
theorem clm_lim {z : Nat → Int} {r t : Nat → Nat} {n : Nat} (hw : wf z) (hr : rk z r) (h : clm z n r t) : n ≤ 117649 := by
  have a := (clm_bd hw hr n t h).2
  have b := rmo_bd z t
  have c := rmo_bd z r
  omega
end
