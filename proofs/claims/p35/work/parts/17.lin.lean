noncomputable section
/-! LAYER 2, the numbers: linear forms over variables, their ranges, what follows from ranges and facts. -/
abbrev am_L : Type := Int × List (Nat × Int)
abbrev am_V : Type := Nat → Int
def am_ts (r : am_V) : List (Nat × Int) → Int
  | [] => 0
  | (v, c) :: l => c * r v + am_ts r l
def am_ev (r : am_V) (a : am_L) : Int := a.1 + am_ts r a.2
def am_z : Int → Bool
  | .ofNat n => Nat.beq n 0
  | .negSucc _ => false
theorem am_z_spec {x : Int} (h : am_z x = true) : x = 0 := by
  cases x with
  | ofNat n => have := Nat.eq_of_beq_eq_true h; subst this; rfl
  | negSucc n => simp [am_z] at h
def am_ia (x y : Int) : Int := Int.rec (motive := fun _ => Int) (fun m => Int.rec (motive := fun _ => Int) (fun n => Int.ofNat (Nat.add m n)) (fun n => Int.subNatNat m (Nat.succ n)) y) (fun m => Int.rec (motive := fun _ => Int) (fun n => Int.subNatNat n (Nat.succ m)) (fun n => Int.negSucc (Nat.succ (Nat.add m n))) y) x
theorem am_ia_eq (x y : Int) : am_ia x y = x + y := by cases x <;> cases y <;> rfl
def am_im (x y : Int) : Int := Int.rec (motive := fun _ => Int) (fun m => Int.rec (motive := fun _ => Int) (fun n => Int.ofNat (Nat.mul m n)) (fun n => Int.negOfNat (Nat.mul m (Nat.succ n))) y) (fun m => Int.rec (motive := fun _ => Int) (fun n => Int.negOfNat (Nat.mul (Nat.succ m) n)) (fun n => Int.ofNat (Nat.mul (Nat.succ m) (Nat.succ n))) y) x
theorem am_im_eq (x y : Int) : am_im x y = x * y := by cases x <;> cases y <;> rfl
def am_is (x y : Int) : Int := Int.rec (motive := fun _ => Int) (fun m => Int.rec (motive := fun _ => Int) (fun n => Int.subNatNat m n) (fun n => Int.ofNat (Nat.add m (Nat.succ n))) y) (fun m => Int.rec (motive := fun _ => Int) (fun n => Int.negOfNat (Nat.add (Nat.succ m) n)) (fun n => Int.subNatNat n m) y) x
theorem am_is_eq (x y : Int) : am_is x y = x - y := by
  cases x with
  | ofNat m =>
    cases y with
    | ofNat n => show Int.subNatNat m n = _; rw [Int.subNatNat_eq_coe]; rfl
    | negSucc n => show Int.ofNat (m + (n + 1)) = _; simp only [Int.negSucc_eq, Int.ofNat_eq_natCast]; omega
  | negSucc m =>
    cases y with
    | ofNat n => show Int.negOfNat ((m + 1) + n) = _; rw [Int.negOfNat_eq]; simp only [Int.negSucc_eq, Int.ofNat_eq_natCast]; omega
    | negSucc n => show Int.subNatNat n m = _; rw [Int.subNatNat_eq_coe]; simp only [Int.negSucc_eq]; omega
def am_ins (v : Nat) (c : Int) (l : List (Nat × Int)) : List (Nat × Int) := List.rec (motive := fun _ => List (Nat × Int)) [(v, c)] (fun p t ih => Bool.rec (motive := fun _ => List (Nat × Int)) (p :: ih) (Bool.rec (motive := fun _ => List (Nat × Int)) ((p.1, am_ia c p.2) :: t) t (am_z (am_ia c p.2))) (Nat.beq p.1 v)) l
theorem am_ins_n (v : Nat) (c : Int) : am_ins v c [] = [(v, c)] := rfl
theorem am_ins_c (v : Nat) (c : Int) (u : Nat) (d : Int) (l : List (Nat × Int)) : am_ins v c ((u, d) :: l) = (match Nat.beq u v with
    | true => (match am_z (c + d) with
      | true => l
      | false => (u, c + d) :: l)
    | false => (u, d) :: am_ins v c l) := by
  rw [← am_ia_eq c d]
  show Bool.rec (motive := fun _ => List (Nat × Int)) ((u, d) :: am_ins v c l) (Bool.rec (motive := fun _ => List (Nat × Int)) ((u, am_ia c d) :: l) l (am_z (am_ia c d))) (Nat.beq u v) = _
  cases Nat.beq u v with
  | false => rfl
  | true =>
    show Bool.rec (motive := fun _ => List (Nat × Int)) ((u, am_ia c d) :: l) l (am_z (am_ia c d)) = _
    cases am_z (am_ia c d) <;> rfl
theorem am_ins_ev (r : am_V) (v : Nat) (c : Int) (l : List (Nat × Int)) : am_ts r (am_ins v c l) = c * r v + am_ts r l := by
  induction l with
  | nil => simp [am_ins_n, am_ins_c, am_ts]
  | cons p l ih =>
    obtain ⟨u, d⟩ := p
    simp only [am_ins_n, am_ins_c]
    cases hb : Nat.beq u v with
    | true =>
      have hu : u = v := Nat.eq_of_beq_eq_true hb
      subst hu
      cases hz : am_z (c + d) with
      | true =>
        have h0 := am_z_spec hz
        simp only [am_ts]
        have : c * r u + (d * r u + am_ts r l) = (c + d) * r u + am_ts r l := by rw [Int.add_mul]; omega
        rw [this, h0]; simp
      | false => simp only [am_ts]; rw [Int.add_mul]; omega
    | false => simp only [am_ts, ih]; omega
def am_addl (k : Int) (m l : List (Nat × Int)) : List (Nat × Int) := List.rec (motive := fun _ => List (Nat × Int)) l (fun p _ ih => am_ins p.1 (am_im k p.2) ih) m
theorem am_addl_n (k : Int) (l : List (Nat × Int)) : am_addl k [] l = l := rfl
theorem am_addl_c (k : Int) (v : Nat) (c : Int) (m l : List (Nat × Int)) : am_addl k ((v, c) :: m) l = am_ins v (k * c) (am_addl k m l) := by
  rw [← am_im_eq k c]; rfl
theorem am_addl_ev (r : am_V) (k : Int) (m l : List (Nat × Int)) : am_ts r (am_addl k m l) = k * am_ts r m + am_ts r l := by
  induction m with
  | nil => simp [am_addl_n, am_addl_c, am_ts]
  | cons p m ih =>
    obtain ⟨v, c⟩ := p
    simp only [am_addl_n, am_addl_c, am_ts, am_ins_ev, ih]
    rw [Int.mul_add, Int.mul_assoc]; omega
/-- a + k b -/
def am_add (k : Int) (a b : am_L) : am_L := (am_ia a.1 (am_im k b.1), am_addl k b.2 a.2)
theorem am_add_ev (r : am_V) (k : Int) (a b : am_L) : am_ev r (am_add k a b) = am_ev r a + k * am_ev r b := by
  simp only [am_ev, am_add, am_ia_eq, am_im_eq, am_addl_ev, Int.mul_add]; omega
/-- ranges, by number of variable -/
abbrev am_E : Type := List (Int × Int)
def am_nth {α : Type} (d : α) (l : List α) (i : Nat) : α := List.rec (motive := fun _ => Nat → α) (fun _ => d) (fun x _ ih i => Bool.rec (motive := fun _ => α) (ih (Nat.sub i 1)) x (Nat.beq i 0)) l i
theorem am_nth_n {α : Type} (d : α) (i : Nat) : am_nth d [] i = d := rfl
theorem am_nth_z {α : Type} (d x : α) (l : List α) : am_nth d (x :: l) 0 = x := rfl
theorem am_nth_s {α : Type} (d x : α) (l : List α) (i : Nat) : am_nth d (x :: l) (i + 1) = am_nth d l i := rfl
def am_tl {α : Type} (l : List α) : List α := List.rec (motive := fun _ => List α) [] (fun _ t _ => t) l
theorem am_tl_eq {α : Type} (l : List α) : am_tl l = l.drop 1 := by cases l <;> rfl
def am_d8 {α : Type} (l : List α) : List α := am_tl (am_tl (am_tl (am_tl (am_tl (am_tl (am_tl (am_tl l)))))))
theorem am_d8_eq {α : Type} (l : List α) : am_d8 l = l.drop 8 := by
  simp only [am_d8, am_tl_eq, List.drop_drop]
def am_dn {α : Type} (l : List α) (k : Nat) : List α := Nat.rec (motive := fun _ => List α) l (fun _ ih => am_d8 ih) k
theorem am_dn_eq {α : Type} (l : List α) : ∀ k : Nat, am_dn l k = l.drop (8 * k)
  | 0 => by show l = _; simp
  | k + 1 => by
    show am_d8 (am_dn l k) = _
    rw [am_d8_eq, am_dn_eq l k, List.drop_drop]
    congr 1
theorem am_nth_drop {α : Type} (d : α) : ∀ (k : Nat) (l : List α) (i : Nat), am_nth d (l.drop k) i = am_nth d l (k + i)
  | 0, l, i => by rw [List.drop_zero, Nat.zero_add]
  | k + 1, [], i => by rw [List.drop_nil, am_nth_n, am_nth_n]
  | k + 1, x :: l, i => by
    have h : k + 1 + i = (k + i) + 1 := by omega
    rw [List.drop_succ_cons, am_nth_drop d k l i, h, am_nth_s]
/-- an element, eight at a time passed over -/
def am_nthE {α : Type} (d : α) (l : List α) (i : Nat) : α := am_nth d (am_dn l (Nat.div i 8)) (Nat.mod i 8)
theorem am_nthE_eq {α : Type} (d : α) (l : List α) (i : Nat) : am_nthE d l i = am_nth d l i := by
  show am_nth d (am_dn l (i / 8)) (i % 8) = _
  rw [am_dn_eq, am_nth_drop, Nat.div_add_mod]
def am_In (r : am_V) (e : am_E) : Prop := ∀ v, (am_nth (-2147483648, 2147483647) e v).1 ≤ r v ∧ r v ≤ (am_nth (-2147483648, 2147483647) e v).2
def am_nn : Int → Bool
  | .ofNat _ => true
  | .negSucc _ => false
theorem am_nn_spec {x : Int} (h : am_nn x = true) : 0 ≤ x := by
  cases x with
  | ofNat n => exact Int.natCast_nonneg n
  | negSucc n => simp [am_nn] at h
/-- the least that the terms can come to -/
def am_lo (e : am_E) (l : List (Nat × Int)) : Int := List.rec (motive := fun _ => Int) 0 (fun p _ ih => am_ia (Int.rec (motive := fun _ => Int) (fun _ => am_im p.2 (am_nthE (-2147483648, 2147483647) e p.1).1) (fun _ => am_im p.2 (am_nthE (-2147483648, 2147483647) e p.1).2) p.2) ih) l
theorem am_lo_n (e : am_E) : am_lo e [] = 0 := rfl
theorem am_lo_c (e : am_E) (v : Nat) (c : Int) (l : List (Nat × Int)) : am_lo e ((v, c) :: l) = (match c with
    | .ofNat _ => c * (am_nth (-2147483648, 2147483647) e v).1
    | .negSucc _ => c * (am_nth (-2147483648, 2147483647) e v).2) + am_lo e l := by
  cases c with
  | ofNat n =>
    show am_ia (am_im (Int.ofNat n) (am_nthE (-2147483648, 2147483647) e v).1) (am_lo e l) = _
    rw [am_ia_eq, am_im_eq, am_nthE_eq]
  | negSucc n =>
    show am_ia (am_im (Int.negSucc n) (am_nthE (-2147483648, 2147483647) e v).2) (am_lo e l) = _
    rw [am_ia_eq, am_im_eq, am_nthE_eq]
theorem am_lo_le {r : am_V} {e : am_E} (h : am_In r e) (l : List (Nat × Int)) : am_lo e l ≤ am_ts r l := by
  induction l with
  | nil => exact Int.le_refl 0
  | cons p l ih =>
    obtain ⟨v, c⟩ := p
    simp only [am_lo_n, am_lo_c, am_ts]
    refine Int.add_le_add ?_ ih
    cases c with
    | ofNat n => exact Int.mul_le_mul_of_nonneg_left (h v).1 (Int.natCast_nonneg n)
    | negSucc n => exact Int.mul_le_mul_of_nonpos_left (Int.le_of_lt (Int.negSucc_lt_zero n)) (h v).2
def am_pos (e : am_E) (a : am_L) : Bool := am_nn (am_ia a.1 (am_lo e a.2))
theorem am_pos_spec {r : am_V} {e : am_E} {a : am_L} (h : am_In r e) (hp : am_pos e a = true) : 0 ≤ am_ev r a := by
  have := am_nn_spec hp
  rw [am_ia_eq] at this
  have := am_lo_le h a.2
  simp only [am_ev]; omega
abbrev am_F : Type := List am_L
def am_Fs (r : am_V) (f : am_F) : Prop := ∀ a ∈ f, 0 ≤ am_ev r a
/-- the variables of terms, those with coefficients of one sign apart, as bits -/
def am_msk (l : List (Nat × Int)) : Nat := List.rec (motive := fun _ => Nat) 0 (fun p _ ih => Nat.lor ih (Nat.pow 2 (Int.rec (motive := fun _ => Nat) (fun _ => Nat.mul 2 p.1) (fun _ => Nat.succ (Nat.mul 2 p.1)) p.2))) l
/-- is there a variable with coefficients of one sign in both? (a fact without one is no help) -/
def am_shs (a l : List (Nat × Int)) : Bool := Bool.rec (motive := fun _ => Bool) true false (Nat.beq (Nat.land (am_msk a) (am_msk l)) 0)
def am_pr1 (e : am_E) (a : am_L) (fs : am_F) : Bool := List.rec (motive := fun _ => Bool) false (fun f _ ih => Bool.rec (motive := fun _ => Bool) ih (Bool.rec (motive := fun _ => Bool) ih true (am_pos e (am_add (-1) a f))) (am_shs a.2 f.2)) fs
theorem am_pr1_n (e : am_E) (a : am_L) : am_pr1 e a [] = false := rfl
theorem am_pr1_c (e : am_E) (a f : am_L) (fs : am_F) : am_pr1 e a (f :: fs) = (match am_shs a.2 f.2 with
    | false => am_pr1 e a fs
    | true => match am_pos e (am_add (-1) a f) with
      | true => true
      | false => am_pr1 e a fs) := by
  show Bool.rec (motive := fun _ => Bool) (am_pr1 e a fs) (Bool.rec (motive := fun _ => Bool) (am_pr1 e a fs) true (am_pos e (am_add (-1) a f))) (am_shs a.2 f.2) = _
  cases am_shs a.2 f.2 with
  | false => rfl
  | true =>
    show Bool.rec (motive := fun _ => Bool) (am_pr1 e a fs) true (am_pos e (am_add (-1) a f)) = _
    cases am_pos e (am_add (-1) a f) <;> rfl
def am_pr2 (e : am_E) (a : am_L) (gs fs : am_F) : Bool := List.rec (motive := fun _ => Bool) false (fun f _ ih => Bool.rec (motive := fun _ => Bool) ih (Bool.rec (motive := fun _ => Bool) ih true (am_pr1 e (am_add (-1) a f) gs)) (am_shs a.2 f.2)) fs
theorem am_pr2_n (e : am_E) (a : am_L) (gs : am_F) : am_pr2 e a gs [] = false := rfl
theorem am_pr2_c (e : am_E) (a f : am_L) (gs fs : am_F) : am_pr2 e a gs (f :: fs) = (match am_shs a.2 f.2 with
    | false => am_pr2 e a gs fs
    | true => match am_pr1 e (am_add (-1) a f) gs with
      | true => true
      | false => am_pr2 e a gs fs) := by
  show Bool.rec (motive := fun _ => Bool) (am_pr2 e a gs fs) (Bool.rec (motive := fun _ => Bool) (am_pr2 e a gs fs) true (am_pr1 e (am_add (-1) a f) gs)) (am_shs a.2 f.2) = _
  cases am_shs a.2 f.2 with
  | false => rfl
  | true =>
    show Bool.rec (motive := fun _ => Bool) (am_pr2 e a gs fs) true (am_pr1 e (am_add (-1) a f) gs) = _
    cases am_pr1 e (am_add (-1) a f) gs <;> rfl
/-- a >= 0: by ranges, by a fact, by two -/
def am_prove (e : am_E) (fs : am_F) (a : am_L) : Bool := match am_pos e a with
  | true => true
  | false => match am_pr1 e a fs with
    | true => true
    | false => am_pr2 e a fs fs
theorem am_pr1_spec {r : am_V} {e : am_E} (h : am_In r e) {fs : am_F} (hf : am_Fs r fs) {a : am_L} (hp : am_pr1 e a fs = true) : 0 ≤ am_ev r a := by
  induction fs with
  | nil => simp [am_pr1_n, am_pr1_c] at hp
  | cons f fs ih =>
    simp only [am_pr1_n, am_pr1_c] at hp
    cases hs : am_shs a.2 f.2 with
    | false => rw [hs] at hp; exact ih (fun x hx => hf x (List.mem_cons_of_mem _ hx)) hp
    | true =>
      rw [hs] at hp
      cases hb : am_pos e (am_add (-1) a f) with
      | true =>
        have h1 := am_pos_spec h hb
        have h2 := hf f (List.mem_cons_self ..)
        rw [am_add_ev] at h1; omega
      | false => rw [hb] at hp; exact ih (fun x hx => hf x (List.mem_cons_of_mem _ hx)) hp
theorem am_pr2_spec {r : am_V} {e : am_E} (h : am_In r e) {gs : am_F} (hg : am_Fs r gs) {fs : am_F} (hf : am_Fs r fs) {a : am_L} (hp : am_pr2 e a gs fs = true) : 0 ≤ am_ev r a := by
  induction fs with
  | nil => simp [am_pr2_n, am_pr2_c] at hp
  | cons f fs ih =>
    simp only [am_pr2_n, am_pr2_c] at hp
    cases hs : am_shs a.2 f.2 with
    | false => rw [hs] at hp; exact ih (fun x hx => hf x (List.mem_cons_of_mem _ hx)) hp
    | true =>
      rw [hs] at hp
      cases hb : am_pr1 e (am_add (-1) a f) gs with
      | true =>
        have h1 := am_pr1_spec h hg hb
        have h2 := hf f (List.mem_cons_self ..)
        rw [am_add_ev] at h1; omega
      | false => rw [hb] at hp; exact ih (fun x hx => hf x (List.mem_cons_of_mem _ hx)) hp
theorem am_prove_spec {r : am_V} {e : am_E} (h : am_In r e) {fs : am_F} (hf : am_Fs r fs) {a : am_L} (hp : am_prove e fs a = true) : 0 ≤ am_ev r a := by
  simp only [am_prove] at hp
  cases h1 : am_pos e a with
  | true => exact am_pos_spec h h1
  | false =>
    rw [h1] at hp
    cases h2 : am_pr1 e a fs with
    | true => exact am_pr1_spec h hf h2
    | false => rw [h2] at hp; exact am_pr2_spec h hf hf hp
end
