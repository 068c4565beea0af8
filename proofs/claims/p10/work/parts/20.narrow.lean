noncomputable section
/-! LAYER 2, narrowing: forms with their fixed variables put in; ranges narrowed by a form that is not below 0. -/
def am_norml (e : am_E) (l : List (Nat × Int)) : am_L := List.rec (motive := fun _ => am_L) (0, []) (fun p _ ih => Bool.rec (motive := fun _ => am_L) (ih.1, p :: ih.2) (am_ia (am_im p.2 (am_gl e p.1)) ih.1, ih.2) (am_fx e p.1)) l
theorem am_norml_n (e : am_E) : am_norml e [] = (0, []) := rfl
theorem am_norml_c (e : am_E) (v : Nat) (c : Int) (l : List (Nat × Int)) : am_norml e ((v, c) :: l) = (match am_fx e v with
    | true => (c * am_gl e v + (am_norml e l).1, (am_norml e l).2)
    | false => ((am_norml e l).1, (v, c) :: (am_norml e l).2)) := by
  rw [← am_im_eq, ← am_ia_eq]
  show Bool.rec (motive := fun _ => am_L) ((am_norml e l).1, (v, c) :: (am_norml e l).2) (am_ia (am_im c (am_gl e v)) (am_norml e l).1, (am_norml e l).2) (am_fx e v) = _
  cases am_fx e v <;> rfl
theorem am_norml_ev {r : am_V} {e : am_E} (h : am_In r e) (l : List (Nat × Int)) : am_ev r (am_norml e l) = am_ts r l := by
  induction l with
  | nil => rfl
  | cons p l ih =>
    obtain ⟨v, c⟩ := p
    rw [am_norml_c]
    simp only [am_ts]
    cases hb : am_fx e v with
    | true =>
      have hv := am_fx_spec h hb
      simp only [am_ev] at ih ⊢
      rw [hv]; omega
    | false =>
      simp only [am_ev, am_ts] at ih ⊢
      omega
def am_norm (e : am_E) (a : am_L) : am_L := match am_norml e a.2 with
  | (k, m) => (am_ia a.1 k, m)
theorem am_norm_ev {r : am_V} {e : am_E} (h : am_In r e) (a : am_L) : am_ev r (am_norm e a) = am_ev r a := by
  have := am_norml_ev h a.2
  simp only [am_ev, am_norm, am_ia_eq] at this ⊢
  omega
/-- the most that a term can come to, and terms -/
def am_th (e : am_E) (v : Nat) (c : Int) : Int := Int.rec (motive := fun _ => Int) (fun _ => am_im c (am_gh e v)) (fun _ => am_im c (am_gl e v)) c
theorem am_th_le {r : am_V} {e : am_E} (h : am_In r e) (v : Nat) (c : Int) : c * r v ≤ am_th e v c := by
  cases c with
  | ofNat n =>
    show _ ≤ am_im (Int.ofNat n) (am_gh e v)
    rw [am_im_eq]
    exact Int.mul_le_mul_of_nonneg_left (h v).2 (Int.natCast_nonneg n)
  | negSucc n =>
    show _ ≤ am_im (Int.negSucc n) (am_gl e v)
    rw [am_im_eq]
    exact Int.mul_le_mul_of_nonpos_left (Int.le_of_lt (Int.negSucc_lt_zero n)) (h v).1
def am_hi (e : am_E) (l : List (Nat × Int)) : Int := List.rec (motive := fun _ => Int) 0 (fun p _ ih => am_ia (am_th e p.1 p.2) ih) l
theorem am_hi_n (e : am_E) : am_hi e [] = 0 := rfl
theorem am_hi_c (e : am_E) (v : Nat) (c : Int) (l : List (Nat × Int)) : am_hi e ((v, c) :: l) = am_th e v c + am_hi e l := by
  rw [← am_ia_eq]; rfl
theorem am_hi_le {r : am_V} {e : am_E} (h : am_In r e) (l : List (Nat × Int)) : am_ts r l ≤ am_hi e l := by
  induction l with
  | nil => exact Int.le_refl 0
  | cons p l ih =>
    obtain ⟨v, c⟩ := p
    have := am_th_le h v c
    simp only [am_ts, am_hi_n, am_hi_c]; omega
theorem am_hi_but {r : am_V} {e : am_E} (h : am_In r e) (l : List (Nat × Int)) (v : Nat) (c : Int) (hm : (v, c) ∈ l) : am_ts r l - c * r v ≤ am_hi e l - am_th e v c := by
  induction l with
  | nil => simp at hm
  | cons p l ih =>
    obtain ⟨u, d⟩ := p
    simp only [am_ts, am_hi_n, am_hi_c]
    rcases List.mem_cons.mp hm with he | hl
    · injection he with h1 h2
      subst h1; subst h2
      have := am_hi_le h l
      omega
    · have h1 := ih hl
      have h2 := am_th_le h u d
      omega
def am_max (x y : Int) : Int := match am_nn (am_is y x) with
  | true => y
  | false => x
def am_min (x y : Int) : Int := match am_nn (am_is y x) with
  | true => x
  | false => y
theorem am_max_le {x y z : Int} (h1 : x ≤ z) (h2 : y ≤ z) : am_max x y ≤ z := by
  simp only [am_max]; cases am_nn (am_is y x) with
  | true => exact h2
  | false => exact h1
theorem am_le_min {x y z : Int} (h1 : z ≤ x) (h2 : z ≤ y) : z ≤ am_min x y := by
  simp only [am_min]; cases am_nn (am_is y x) with
  | true => exact h1
  | false => exact h2
/-- the range of a variable, if c times it is not below - rest -/
def am_nar (g : Int × Int) (c rest : Int) : Int × Int := match c with
  | .ofNat 0 => g
  | .ofNat (n + 1) => (am_max g.1 (-(rest / Int.ofNat (n + 1))), g.2)
  | .negSucc n => (g.1, am_min g.2 (rest / Int.ofNat (n + 1)))
theorem am_nar_spec {g : Int × Int} {c rest x : Int} (h1 : g.1 ≤ x) (h2 : x ≤ g.2) (hr : 0 ≤ c * x + rest) : (am_nar g c rest).1 ≤ x ∧ x ≤ (am_nar g c rest).2 := by
  cases c with
  | ofNat n =>
    cases n with
    | zero => exact ⟨h1, h2⟩
    | succ n =>
      refine ⟨am_max_le h1 ?_, h2⟩
      have hp : (0 : Int) < Int.ofNat (n + 1) := Int.ofNat_lt.mpr (Nat.succ_pos n)
      have : -x ≤ rest / Int.ofNat (n + 1) := by
        refine Int.le_ediv_of_mul_le hp ?_
        rw [Int.neg_mul, Int.mul_comm]; omega
      omega
  | negSucc n =>
    refine ⟨h1, am_le_min h2 ?_⟩
    have hp : (0 : Int) < Int.ofNat (n + 1) := Int.ofNat_lt.mpr (Nat.succ_pos n)
    refine Int.le_ediv_of_mul_le hp ?_
    have : Int.negSucc n * x = -(Int.ofNat (n + 1) * x) := by rw [← Int.neg_mul]; rfl
    rw [Int.mul_comm]; omega
/-- the ranges with one put in; as they are, where it does not change -/
def am_setN (e : am_E) (v : Nat) (a b lo hi : Int) : am_E := Bool.rec (motive := fun _ => am_E) (am_setE e v (lo, hi)) (Bool.rec (motive := fun _ => am_E) (am_setE e v (lo, hi)) e (am_ie hi b)) (am_ie lo a)
theorem am_setN_In {r : am_V} {e : am_E} (h : am_In r e) {v : Nat} {a b lo hi : Int} (h1 : lo ≤ r v) (h2 : r v ≤ hi) : am_In r (am_setN e v a b lo hi) := by
  unfold am_setN
  cases am_ie lo a with
  | false => exact am_setE_In h h1 h2
  | true =>
    cases am_ie hi b with
    | true => exact h
    | false => exact am_setE_In h h1 h2
def am_tgt (H : Int) (e0 : am_E) (l : List (Nat × Int)) (e : am_E) : Option am_E := List.rec (motive := fun _ => am_E → Option am_E) (fun e => some e) (fun p _ ih e => match (am_gl e p.1, am_gh e p.1) with
    | (a, b) => match am_nar (a, b) p.2 (am_is H (am_th e0 p.1 p.2)) with
      | (lo, hi) => match am_nn (hi - lo) with
        | true => ih (am_setN e p.1 a b lo hi)
        | false => none) l e
theorem am_tgt_n (H : Int) (e0 e : am_E) : am_tgt H e0 [] e = some e := rfl
theorem am_tgt_c (H : Int) (e0 : am_E) (v : Nat) (c : Int) (l : List (Nat × Int)) (e : am_E) : am_tgt H e0 ((v, c) :: l) e = (match (am_gl e v, am_gh e v) with
    | (a, b) => match am_nar (a, b) c (H - am_th e0 v c) with
      | (lo, hi) => match am_nn (hi - lo) with
        | true => am_tgt H e0 l (am_setN e v a b lo hi)
        | false => none) := by
  rw [← am_is_eq]; rfl
theorem am_nn_of {x : Int} (h : 0 ≤ x) : am_nn x = true := by
  cases x with
  | ofNat n => rfl
  | negSucc n => exact absurd h (Int.not_le.mpr (Int.negSucc_lt_zero n))
theorem am_tgt_spec {r : am_V} {e0 : am_E} (h0 : am_In r e0) {k : Int} {L : List (Nat × Int)} (hp : 0 ≤ k + am_ts r L) (l : List (Nat × Int)) : ∀ (e : am_E), (∀ t ∈ l, t ∈ L) → am_In r e → ∃ e', am_tgt (k + am_hi e0 L) e0 l e = some e' ∧ am_In r e' := by
  induction l with
  | nil => exact fun e _ he => ⟨e, am_tgt_n _ _ _, he⟩
  | cons p l ih =>
    obtain ⟨v, c⟩ := p
    intro e hl he
    have hb := am_hi_but h0 L v c (hl _ (List.mem_cons_self ..))
    have key : ∀ a b : Int, a ≤ r v → r v ≤ b → (am_nar (a, b) c (k + am_hi e0 L - am_th e0 v c)).1 ≤ r v ∧ r v ≤ (am_nar (a, b) c (k + am_hi e0 L - am_th e0 v c)).2 := fun a b h1 h2 => am_nar_spec (g := (a, b)) h1 h2 (by omega)
    have hn := key _ _ (he v).1 (he v).2
    rw [am_tgt_c]
    simp only []
    rw [am_nn_of (by omega)]
    exact ih _ (fun t ht => hl t (List.mem_cons_of_mem _ ht)) (am_setN_In he hn.1 hn.2)
/-- the ranges narrowed by a form that is not below 0; none: it can't be -/
def am_tight (e : am_E) (a : am_L) : Option am_E := am_tgt (am_ia a.1 (am_hi e a.2)) e a.2 e
theorem am_tight_spec {r : am_V} {e : am_E} (h : am_In r e) {a : am_L} (ha : 0 ≤ am_ev r a) : ∃ e', am_tight e a = some e' ∧ am_In r e' := by
  unfold am_tight
  rw [am_ia_eq]
  exact am_tgt_spec h ha a.2 e (fun _ ht => ht) h
end
