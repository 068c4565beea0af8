/-! LAYER 2, the numbers: linear forms over variables, their ranges, what follows from ranges and facts. -/
abbrev am_L : Type := Int × List (Nat × Int)
abbrev am_V : Type := Nat → Int
def am_ts (r : am_V) : List (Nat × Int) → Int
  | [] => 0
  | (v, c) :: l => c * r v + am_ts r l
def am_ev (r : am_V) (a : am_L) : Int := a.1 + am_ts r a.2
def am_z : Int → Bool
  | .ofNat n => Nat.beq n 0
  | .negSucc _ => false
theorem am_z_spec {x : Int} (h : am_z x = true) : x = 0 := by
  cases x with
  | ofNat n => have := Nat.eq_of_beq_eq_true h; subst this; rfl
  | negSucc n => simp [am_z] at h
def am_ins (v : Nat) (c : Int) : List (Nat × Int) → List (Nat × Int)
  | [] => [(v, c)]
  | (u, d) :: l => match Nat.beq u v with
    | true => (match am_z (c + d) with
      | true => l
      | false => (u, c + d) :: l)
    | false => (u, d) :: am_ins v c l
theorem am_ins_ev (r : am_V) (v : Nat) (c : Int) (l : List (Nat × Int)) : am_ts r (am_ins v c l) = c * r v + am_ts r l := by
  induction l with
  | nil => simp [am_ins, am_ts]
  | cons p l ih =>
    obtain ⟨u, d⟩ := p
    simp only [am_ins]
    cases hb : Nat.beq u v with
    | true =>
      have hu : u = v := Nat.eq_of_beq_eq_true hb
      subst hu
      cases hz : am_z (c + d) with
      | true =>
        have h0 := am_z_spec hz
        simp only [am_ts]
        have : c * r u + (d * r u + am_ts r l) = (c + d) * r u + am_ts r l := by rw [Int.add_mul]; omega
        rw [this, h0]; simp
      | false => simp only [am_ts]; rw [Int.add_mul]; omega
    | false => simp only [am_ts, ih]; omega
def am_addl (k : Int) : List (Nat × Int) → List (Nat × Int) → List (Nat × Int)
  | [], l => l
  | (v, c) :: m, l => am_ins v (k * c) (am_addl k m l)
theorem am_addl_ev (r : am_V) (k : Int) (m l : List (Nat × Int)) : am_ts r (am_addl k m l) = k * am_ts r m + am_ts r l := by
  induction m with
  | nil => simp [am_addl, am_ts]
  | cons p m ih =>
    obtain ⟨v, c⟩ := p
    simp only [am_addl, am_ts, am_ins_ev, ih]
    rw [Int.mul_add, Int.mul_assoc]; omega
/-- a + k b -/
def am_add (k : Int) (a b : am_L) : am_L := (a.1 + k * b.1, am_addl k b.2 a.2)
theorem am_add_ev (r : am_V) (k : Int) (a b : am_L) : am_ev r (am_add k a b) = am_ev r a + k * am_ev r b := by
  simp only [am_ev, am_add, am_addl_ev, Int.mul_add]; omega
/-- ranges, by number of variable -/
abbrev am_E : Type := List (Int × Int)
def am_nth {α : Type} (d : α) : List α → Nat → α
  | [], _ => d
  | x :: _, 0 => x
  | _ :: xs, i + 1 => am_nth d xs i
def am_In (r : am_V) (e : am_E) : Prop := ∀ v, (am_nth (-2147483648, 2147483647) e v).1 ≤ r v ∧ r v ≤ (am_nth (-2147483648, 2147483647) e v).2
def am_nn : Int → Bool
  | .ofNat _ => true
  | .negSucc _ => false
theorem am_nn_spec {x : Int} (h : am_nn x = true) : 0 ≤ x := by
  cases x with
  | ofNat n => exact Int.natCast_nonneg n
  | negSucc n => simp [am_nn] at h
/-- the least that the terms can come to -/
def am_lo (e : am_E) : List (Nat × Int) → Int
  | [] => 0
  | (v, c) :: l => (match c with
    | .ofNat _ => c * (am_nth (-2147483648, 2147483647) e v).1
    | .negSucc _ => c * (am_nth (-2147483648, 2147483647) e v).2) + am_lo e l
theorem am_lo_le {r : am_V} {e : am_E} (h : am_In r e) (l : List (Nat × Int)) : am_lo e l ≤ am_ts r l := by
  induction l with
  | nil => exact Int.le_refl 0
  | cons p l ih =>
    obtain ⟨v, c⟩ := p
    simp only [am_lo, am_ts]
    refine Int.add_le_add ?_ ih
    cases c with
    | ofNat n => exact Int.mul_le_mul_of_nonneg_left (h v).1 (Int.natCast_nonneg n)
    | negSucc n => exact Int.mul_le_mul_of_nonpos_left (Int.le_of_lt (Int.negSucc_lt_zero n)) (h v).2
def am_pos (e : am_E) (a : am_L) : Bool := am_nn (a.1 + am_lo e a.2)
theorem am_pos_spec {r : am_V} {e : am_E} {a : am_L} (h : am_In r e) (hp : am_pos e a = true) : 0 ≤ am_ev r a := by
  have := am_nn_spec hp
  have := am_lo_le h a.2
  simp only [am_ev]; omega
abbrev am_F : Type := List am_L
def am_Fs (r : am_V) (f : am_F) : Prop := ∀ a ∈ f, 0 ≤ am_ev r a
def am_sgn (c d : Int) : Bool := match c with
  | .ofNat _ => (match d with
    | .ofNat _ => true
    | .negSucc _ => false)
  | .negSucc _ => match d with
    | .ofNat _ => false
    | .negSucc _ => true
def am_sh1 (v : Nat) (c : Int) : List (Nat × Int) → Bool
  | [] => false
  | (u, d) :: l => match Nat.beq u v with
    | true => am_sgn c d
    | false => am_sh1 v c l
/-- is there a variable with coefficients of one sign in both? (a fact without one is no help) -/
def am_shs (a : List (Nat × Int)) : List (Nat × Int) → Bool
  | [] => false
  | (v, c) :: l => match am_sh1 v c a with
    | true => true
    | false => am_shs a l
def am_pr1 (e : am_E) (a : am_L) : am_F → Bool
  | [] => false
  | f :: fs => match am_shs a.2 f.2 with
    | false => am_pr1 e a fs
    | true => match am_pos e (am_add (-1) a f) with
      | true => true
      | false => am_pr1 e a fs
def am_pr2 (e : am_E) (a : am_L) (gs : am_F) : am_F → Bool
  | [] => false
  | f :: fs => match am_shs a.2 f.2 with
    | false => am_pr2 e a gs fs
    | true => match am_pr1 e (am_add (-1) a f) gs with
      | true => true
      | false => am_pr2 e a gs fs
/-- a >= 0: by ranges, by a fact, by two -/
def am_prove (e : am_E) (fs : am_F) (a : am_L) : Bool := match am_pos e a with
  | true => true
  | false => match am_pr1 e a fs with
    | true => true
    | false => am_pr2 e a fs fs
theorem am_pr1_spec {r : am_V} {e : am_E} (h : am_In r e) {fs : am_F} (hf : am_Fs r fs) {a : am_L} (hp : am_pr1 e a fs = true) : 0 ≤ am_ev r a := by
  induction fs with
  | nil => simp [am_pr1] at hp
  | cons f fs ih =>
    simp only [am_pr1] at hp
    cases hs : am_shs a.2 f.2 with
    | false => rw [hs] at hp; exact ih (fun x hx => hf x (List.mem_cons_of_mem _ hx)) hp
    | true =>
      rw [hs] at hp
      cases hb : am_pos e (am_add (-1) a f) with
      | true =>
        have h1 := am_pos_spec h hb
        have h2 := hf f (List.mem_cons_self ..)
        rw [am_add_ev] at h1; omega
      | false => rw [hb] at hp; exact ih (fun x hx => hf x (List.mem_cons_of_mem _ hx)) hp
theorem am_pr2_spec {r : am_V} {e : am_E} (h : am_In r e) {gs : am_F} (hg : am_Fs r gs) {fs : am_F} (hf : am_Fs r fs) {a : am_L} (hp : am_pr2 e a gs fs = true) : 0 ≤ am_ev r a := by
  induction fs with
  | nil => simp [am_pr2] at hp
  | cons f fs ih =>
    simp only [am_pr2] at hp
    cases hs : am_shs a.2 f.2 with
    | false => rw [hs] at hp; exact ih (fun x hx => hf x (List.mem_cons_of_mem _ hx)) hp
    | true =>
      rw [hs] at hp
      cases hb : am_pr1 e (am_add (-1) a f) gs with
      | true =>
        have h1 := am_pr1_spec h hg hb
        have h2 := hf f (List.mem_cons_self ..)
        rw [am_add_ev] at h1; omega
      | false => rw [hb] at hp; exact ih (fun x hx => hf x (List.mem_cons_of_mem _ hx)) hp
theorem am_prove_spec {r : am_V} {e : am_E} (h : am_In r e) {fs : am_F} (hf : am_Fs r fs) {a : am_L} (hp : am_prove e fs a = true) : 0 ≤ am_ev r a := by
  simp only [am_prove] at hp
  cases h1 : am_pos e a with
  | true => exact am_pos_spec h h1
  | false =>
    rw [h1] at hp
    cases h2 : am_pr1 e a fs with
    | true => exact am_pr1_spec h hf h2
    | false => rw [h2] at hp; exact am_pr2_spec h hf hf hp
