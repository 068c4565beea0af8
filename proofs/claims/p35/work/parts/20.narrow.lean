noncomputable section
/-! LAYER 2, narrowing: forms with their fixed variables put in; ranges narrowed by a form that is not below 0. -/
def am_norml (e : am_E) (l : List (Nat × Int)) : am_L := List.rec (motive := fun _ => am_L) (0, []) (fun p _ ih => Bool.rec (motive := fun _ => am_L) (ih.1, p :: ih.2) (am_ia (am_im p.2 (am_nthE (-2147483648, 2147483647) e p.1).1) ih.1, ih.2) (am_z (am_is (am_nthE (-2147483648, 2147483647) e p.1).2 (am_nthE (-2147483648, 2147483647) e p.1).1))) l
theorem am_norml_n (e : am_E) : am_norml e [] = (0, []) := rfl
theorem am_norml_c (e : am_E) (v : Nat) (c : Int) (l : List (Nat × Int)) : am_norml e ((v, c) :: l) = (match am_z ((am_nth (-2147483648, 2147483647) e v).2 - (am_nth (-2147483648, 2147483647) e v).1) with
    | true => (c * (am_nth (-2147483648, 2147483647) e v).1 + (am_norml e l).1, (am_norml e l).2)
    | false => ((am_norml e l).1, (v, c) :: (am_norml e l).2)) := by
  rw [← am_is_eq, ← am_im_eq, ← am_ia_eq, ← am_nthE_eq]
  show Bool.rec (motive := fun _ => am_L) ((am_norml e l).1, (v, c) :: (am_norml e l).2) (am_ia (am_im c (am_nthE (-2147483648, 2147483647) e v).1) (am_norml e l).1, (am_norml e l).2) (am_z (am_is (am_nthE (-2147483648, 2147483647) e v).2 (am_nthE (-2147483648, 2147483647) e v).1)) = _
  cases am_z (am_is (am_nthE (-2147483648, 2147483647) e v).2 (am_nthE (-2147483648, 2147483647) e v).1) <;> rfl
theorem am_norml_ev {r : am_V} {e : am_E} (h : am_In r e) (l : List (Nat × Int)) : am_ev r (am_norml e l) = am_ts r l := by
  induction l with
  | nil => rfl
  | cons p l ih =>
    obtain ⟨v, c⟩ := p
    simp only [am_norml_n, am_norml_c, am_ts]
    cases hb : am_z ((am_nth (-2147483648, 2147483647) e v).2 - (am_nth (-2147483648, 2147483647) e v).1) with
    | true =>
      have h0 := am_z_spec hb
      have hv := h v
      have : r v = (am_nth (-2147483648, 2147483647) e v).1 := by omega
      simp only [am_ev] at ih ⊢
      rw [this]; omega
    | false =>
      simp only [am_ev, am_ts] at ih ⊢
      omega
def am_norm (e : am_E) (a : am_L) : am_L := match am_norml e a.2 with
  | (k, m) => (a.1 + k, m)
theorem am_norm_ev {r : am_V} {e : am_E} (h : am_In r e) (a : am_L) : am_ev r (am_norm e a) = am_ev r a := by
  have := am_norml_ev h a.2
  simp only [am_ev, am_norm] at this ⊢
  omega
/-- the most that a term can come to, and terms -/
def am_th (e : am_E) (v : Nat) (c : Int) : Int := match c with
  | .ofNat _ => c * (am_nthE (-2147483648, 2147483647) e v).2
  | .negSucc _ => c * (am_nthE (-2147483648, 2147483647) e v).1
theorem am_th_le {r : am_V} {e : am_E} (h : am_In r e) (v : Nat) (c : Int) : c * r v ≤ am_th e v c := by
  cases c with
  | ofNat n =>
    simp only [am_th, am_nthE_eq]
    exact Int.mul_le_mul_of_nonneg_left (h v).2 (Int.natCast_nonneg n)
  | negSucc n =>
    simp only [am_th, am_nthE_eq]
    exact Int.mul_le_mul_of_nonpos_left (Int.le_of_lt (Int.negSucc_lt_zero n)) (h v).1
def am_hi (e : am_E) (l : List (Nat × Int)) : Int := List.rec (motive := fun _ => Int) 0 (fun p _ ih => am_ia (am_th e p.1 p.2) ih) l
theorem am_hi_n (e : am_E) : am_hi e [] = 0 := rfl
theorem am_hi_c (e : am_E) (v : Nat) (c : Int) (l : List (Nat × Int)) : am_hi e ((v, c) :: l) = am_th e v c + am_hi e l := by
  rw [← am_ia_eq]; rfl
theorem am_hi_le {r : am_V} {e : am_E} (h : am_In r e) (l : List (Nat × Int)) : am_ts r l ≤ am_hi e l := by
  induction l with
  | nil => exact Int.le_refl 0
  | cons p l ih =>
    obtain ⟨v, c⟩ := p
    have := am_th_le h v c
    simp only [am_ts, am_hi_n, am_hi_c]; omega
theorem am_hi_but {r : am_V} {e : am_E} (h : am_In r e) (l : List (Nat × Int)) (v : Nat) (c : Int) (hm : (v, c) ∈ l) : am_ts r l - c * r v ≤ am_hi e l - am_th e v c := by
  induction l with
  | nil => simp at hm
  | cons p l ih =>
    obtain ⟨u, d⟩ := p
    simp only [am_ts, am_hi_n, am_hi_c]
    rcases List.mem_cons.mp hm with he | hl
    · injection he with h1 h2
      subst h1; subst h2
      have := am_hi_le h l
      omega
    · have h1 := ih hl
      have h2 := am_th_le h u d
      omega
def am_setE (e : am_E) (v : Nat) (g : Int × Int) : am_E := List.rec (motive := fun _ => Nat → am_E) (fun _ => []) (fun x t ih v => Bool.rec (motive := fun _ => am_E) (x :: ih (Nat.sub v 1)) (g :: t) (Nat.beq v 0)) e v
theorem am_setE_s (x : Int × Int) (e : am_E) (v : Nat) (g : Int × Int) : am_setE (x :: e) (v + 1) g = x :: am_setE e v g := rfl
theorem am_nth_setE (d : Int × Int) : ∀ (e : am_E) (v : Nat) (g : Int × Int) (u : Nat), am_nth d (am_setE e v g) u = am_nth d e u ∨ (u = v ∧ am_nth d (am_setE e v g) u = g)
  | [], _, _, _ => Or.inl rfl
  | _ :: _, 0, _, 0 => Or.inr ⟨rfl, rfl⟩
  | _ :: _, 0, _, _ + 1 => Or.inl rfl
  | _ :: _, _ + 1, _, 0 => Or.inl rfl
  | _ :: e, v + 1, g, u + 1 => by
    rcases am_nth_setE d e v g u with h | ⟨h1, h2⟩
    · exact Or.inl h
    · exact Or.inr ⟨by rw [h1], h2⟩
theorem am_setE_In {r : am_V} {e : am_E} (h : am_In r e) {v : Nat} {g : Int × Int} (h1 : g.1 ≤ r v) (h2 : r v ≤ g.2) : am_In r (am_setE e v g) := by
  intro u
  rcases am_nth_setE (-2147483648, 2147483647) e v g u with he | ⟨hu, he⟩
  · rw [he]; exact h u
  · rw [he, hu]; exact ⟨h1, h2⟩
def am_max (x y : Int) : Int := match am_nn (y - x) with
  | true => y
  | false => x
def am_min (x y : Int) : Int := match am_nn (y - x) with
  | true => x
  | false => y
theorem am_max_le {x y z : Int} (h1 : x ≤ z) (h2 : y ≤ z) : am_max x y ≤ z := by
  simp only [am_max]; cases am_nn (y - x) with
  | true => exact h2
  | false => exact h1
theorem am_le_min {x y z : Int} (h1 : z ≤ x) (h2 : z ≤ y) : z ≤ am_min x y := by
  simp only [am_min]; cases am_nn (y - x) with
  | true => exact h1
  | false => exact h2
/-- the range of a variable, if c times it is not below - rest -/
def am_nar (g : Int × Int) (c rest : Int) : Int × Int := match c with
  | .ofNat 0 => g
  | .ofNat (n + 1) => (am_max g.1 (-(rest / Int.ofNat (n + 1))), g.2)
  | .negSucc n => (g.1, am_min g.2 (rest / Int.ofNat (n + 1)))
theorem am_nar_spec {g : Int × Int} {c rest x : Int} (h1 : g.1 ≤ x) (h2 : x ≤ g.2) (hr : 0 ≤ c * x + rest) : (am_nar g c rest).1 ≤ x ∧ x ≤ (am_nar g c rest).2 := by
  cases c with
  | ofNat n =>
    cases n with
    | zero => exact ⟨h1, h2⟩
    | succ n =>
      refine ⟨am_max_le h1 ?_, h2⟩
      have hp : (0 : Int) < Int.ofNat (n + 1) := Int.ofNat_lt.mpr (Nat.succ_pos n)
      have : -x ≤ rest / Int.ofNat (n + 1) := by
        refine Int.le_ediv_of_mul_le hp ?_
        rw [Int.neg_mul, Int.mul_comm]; omega
      omega
  | negSucc n =>
    refine ⟨h1, am_le_min h2 ?_⟩
    have hp : (0 : Int) < Int.ofNat (n + 1) := Int.ofNat_lt.mpr (Nat.succ_pos n)
    refine Int.le_ediv_of_mul_le hp ?_
    have : Int.negSucc n * x = -(Int.ofNat (n + 1) * x) := by rw [← Int.neg_mul]; rfl
    rw [Int.mul_comm]; omega
/-- the ranges with one put in; as they are, where it does not change -/
def am_setN (e : am_E) (v : Nat) (a b lo hi : Int) : am_E := match am_z (lo - a) with
  | false => am_setE e v (lo, hi)
  | true => match am_z (hi - b) with
    | true => e
    | false => am_setE e v (lo, hi)
theorem am_setN_In {r : am_V} {e : am_E} (h : am_In r e) {v : Nat} {a b lo hi : Int} (h1 : lo ≤ r v) (h2 : r v ≤ hi) : am_In r (am_setN e v a b lo hi) := by
  simp only [am_setN]
  cases am_z (lo - a) with
  | false => exact am_setE_In h h1 h2
  | true =>
    cases am_z (hi - b) with
    | true => exact h
    | false => exact am_setE_In h h1 h2
def am_tgt (H : Int) (e0 : am_E) (l : List (Nat × Int)) (e : am_E) : Option am_E := List.rec (motive := fun _ => am_E → Option am_E) (fun e => some e) (fun p _ ih e => match am_nthE (-2147483648, 2147483647) e p.1 with
    | (a, b) => match am_nar (a, b) p.2 (am_is H (am_th e0 p.1 p.2)) with
      | (lo, hi) => match am_nn (hi - lo) with
        | true => ih (am_setN e p.1 a b lo hi)
        | false => none) l e
theorem am_tgt_n (H : Int) (e0 e : am_E) : am_tgt H e0 [] e = some e := rfl
theorem am_tgt_c (H : Int) (e0 : am_E) (v : Nat) (c : Int) (l : List (Nat × Int)) (e : am_E) : am_tgt H e0 ((v, c) :: l) e = (match am_nth (-2147483648, 2147483647) e v with
    | (a, b) => match am_nar (a, b) c (H - am_th e0 v c) with
      | (lo, hi) => match am_nn (hi - lo) with
        | true => am_tgt H e0 l (am_setN e v a b lo hi)
        | false => none) := by
  rw [← am_is_eq, ← am_nthE_eq]; rfl
theorem am_nn_of {x : Int} (h : 0 ≤ x) : am_nn x = true := by
  cases x with
  | ofNat n => rfl
  | negSucc n => exact absurd h (Int.not_le.mpr (Int.negSucc_lt_zero n))
theorem am_tgt_spec {r : am_V} {e0 : am_E} (h0 : am_In r e0) {k : Int} {L : List (Nat × Int)} (hp : 0 ≤ k + am_ts r L) : ∀ (l : List (Nat × Int)) (e : am_E), (∀ t ∈ l, t ∈ L) → am_In r e → ∃ e', am_tgt (k + am_hi e0 L) e0 l e = some e' ∧ am_In r e'
  | [], e, _, he => ⟨e, rfl, he⟩
  | (v, c) :: l, e, hl, he => by
    have hb := am_hi_but h0 L v c (hl _ (List.mem_cons_self ..))
    have hn := am_nar_spec (g := ((am_nth (-2147483648, 2147483647) e v).1, (am_nth (-2147483648, 2147483647) e v).2)) (c := c) (rest := k + am_hi e0 L - am_th e0 v c) (he v).1 (he v).2 (by omega)
    simp only [am_tgt_n, am_tgt_c]
    rw [am_nn_of (by omega)]
    exact am_tgt_spec h0 hp l _ (fun t ht => hl t (List.mem_cons_of_mem _ ht)) (am_setN_In he hn.1 hn.2)
/-- the ranges narrowed by a form that is not below 0; none: it can't be -/
def am_tight (e : am_E) (a : am_L) : Option am_E := am_tgt (a.1 + am_hi e a.2) e a.2 e
theorem am_tight_spec {r : am_V} {e : am_E} (h : am_In r e) {a : am_L} (ha : 0 ≤ am_ev r a) : ∃ e', am_tight e a = some e' ∧ am_In r e' :=
  am_tgt_spec h ha a.2 e (fun _ ht => ht) h
def am_tights (fs : am_F) (e : am_E) : Option am_E := List.rec (motive := fun _ => am_E → Option am_E) (fun e => some e) (fun f _ ih e => match am_tight e f with
    | some e' => ih e'
    | none => none) fs e
theorem am_tights_n (e : am_E) : am_tights [] e = some e := rfl
theorem am_tights_c (f : am_L) (fs : am_F) (e : am_E) : am_tights (f :: fs) e = (match am_tight e f with
    | some e' => am_tights fs e'
    | none => none) := rfl
theorem am_tights_spec {r : am_V} : ∀ (fs : am_F) (e : am_E), am_In r e → am_Fs r fs → ∃ e', am_tights fs e = some e' ∧ am_In r e'
  | [], e, h, _ => ⟨e, rfl, h⟩
  | f :: fs, e, h, hf => by
    obtain ⟨e', h1, h2⟩ := am_tight_spec h (hf f (List.mem_cons_self ..))
    simp only [am_tights_n, am_tights_c, h1]
    exact am_tights_spec fs e' h2 (fun a ha => hf a (List.mem_cons_of_mem _ ha))
end
