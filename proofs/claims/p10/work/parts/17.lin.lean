noncomputable section
/-! LAYER 2, the numbers: linear forms over variables, their ranges, what follows from ranges and facts. -/
abbrev am_L : Type := Int × List (Nat × Int)
abbrev am_V : Type := Nat → Int
def am_ts (r : am_V) : List (Nat × Int) → Int
  | [] => 0
  | (v, c) :: l => c * r v + am_ts r l
def am_ev (r : am_V) (a : am_L) : Int := a.1 + am_ts r a.2
def am_z : Int → Bool
  | .ofNat n => Nat.beq n 0
  | .negSucc _ => false
theorem am_z_spec {x : Int} (h : am_z x = true) : x = 0 := by
  cases x with
  | ofNat n => have := Nat.eq_of_beq_eq_true h; subst this; rfl
  | negSucc n => simp [am_z] at h
/-- m - n for naturals -/
def am_sn (m n : Nat) : Int := Nat.rec (motive := fun _ => Int) (Int.ofNat (Nat.sub m n)) (fun k _ => Int.negSucc k) (Nat.sub n m)
theorem am_sn_eq (m n : Nat) : am_sn m n = (m : Int) - (n : Int) := by
  show Nat.rec (motive := fun _ => Int) (Int.ofNat (m - n)) (fun k _ => Int.negSucc k) (n - m) = _
  cases hk : n - m with
  | zero => show Int.ofNat (m - n) = _; simp only [Int.ofNat_eq_natCast]; omega
  | succ k => show Int.negSucc k = _; rw [Int.negSucc_eq]; omega
theorem am_sn_sub (m n : Nat) : am_sn m n = Int.subNatNat m n := by rw [am_sn_eq, Int.subNatNat_eq_coe]
def am_ia (x y : Int) : Int := Int.rec (motive := fun _ => Int) (fun m => Int.rec (motive := fun _ => Int) (fun n => Int.ofNat (Nat.add m n)) (fun n => am_sn m (Nat.succ n)) y) (fun m => Int.rec (motive := fun _ => Int) (fun n => am_sn n (Nat.succ m)) (fun n => Int.negSucc (Nat.succ (Nat.add m n))) y) x
theorem am_ia_eq (x y : Int) : am_ia x y = x + y := by
  cases x with
  | ofNat m =>
    cases y with
    | ofNat n => rfl
    | negSucc n => show am_sn m (n + 1) = _; rw [am_sn_sub]; rfl
  | negSucc m =>
    cases y with
    | ofNat n => show am_sn n (m + 1) = _; rw [am_sn_sub]; rfl
    | negSucc n => rfl
def am_im (x y : Int) : Int := Int.rec (motive := fun _ => Int) (fun m => Int.rec (motive := fun _ => Int) (fun n => Int.ofNat (Nat.mul m n)) (fun n => Int.negOfNat (Nat.mul m (Nat.succ n))) y) (fun m => Int.rec (motive := fun _ => Int) (fun n => Int.negOfNat (Nat.mul (Nat.succ m) n)) (fun n => Int.ofNat (Nat.mul (Nat.succ m) (Nat.succ n))) y) x
theorem am_im_eq (x y : Int) : am_im x y = x * y := by cases x <;> cases y <;> rfl
def am_is (x y : Int) : Int := Int.rec (motive := fun _ => Int) (fun m => Int.rec (motive := fun _ => Int) (fun n => am_sn m n) (fun n => Int.ofNat (Nat.add m (Nat.succ n))) y) (fun m => Int.rec (motive := fun _ => Int) (fun n => Int.negSucc (Nat.add m n)) (fun n => am_sn n m) y) x
theorem am_is_eq (x y : Int) : am_is x y = x - y := by
  cases x with
  | ofNat m =>
    cases y with
    | ofNat n => show am_sn m n = _; rw [am_sn_eq]; rfl
    | negSucc n => show Int.ofNat (m + (n + 1)) = _; simp only [Int.negSucc_eq, Int.ofNat_eq_natCast]; omega
  | negSucc m =>
    cases y with
    | ofNat n => show Int.negSucc (m + n) = _; simp only [Int.negSucc_eq, Int.ofNat_eq_natCast]; omega
    | negSucc n => show am_sn n m = _; rw [am_sn_eq]; simp only [Int.negSucc_eq]; omega
/-- are two ints one? -/
def am_ie (x y : Int) : Bool := Int.rec (motive := fun _ => Bool) (fun m => Int.rec (motive := fun _ => Bool) (fun n => Nat.beq m n) (fun _ => false) y) (fun m => Int.rec (motive := fun _ => Bool) (fun _ => false) (fun n => Nat.beq m n) y) x
theorem am_ie_eq (x y : Int) : am_ie x y = am_z (x - y) := by
  cases x with
  | ofNat m =>
    cases y with
    | ofNat n =>
      show Nat.beq m n = _
      cases hb : Nat.beq m n with
      | true =>
        have := Nat.eq_of_beq_eq_true hb
        subst this
        have : Int.ofNat m - Int.ofNat m = 0 := Int.sub_self _
        rw [this]; rfl
      | false =>
        cases hz : am_z (Int.ofNat m - Int.ofNat n) with
        | false => rfl
        | true =>
          have := am_z_spec hz
          simp only [Int.ofNat_eq_natCast] at this
          have : m = n := by omega
          rw [this, Nat.beq_refl] at hb
          simp at hb
    | negSucc n =>
      show false = _
      cases hz : am_z (Int.ofNat m - Int.negSucc n) with
      | false => rfl
      | true =>
        have := am_z_spec hz
        simp only [Int.ofNat_eq_natCast, Int.negSucc_eq] at this
        omega
  | negSucc m =>
    cases y with
    | ofNat n =>
      show false = _
      cases hz : am_z (Int.negSucc m - Int.ofNat n) with
      | false => rfl
      | true =>
        have := am_z_spec hz
        simp only [Int.ofNat_eq_natCast, Int.negSucc_eq] at this
        omega
    | negSucc n =>
      show Nat.beq m n = _
      cases hb : Nat.beq m n with
      | true =>
        have := Nat.eq_of_beq_eq_true hb
        subst this
        have : Int.negSucc m - Int.negSucc m = 0 := Int.sub_self _
        rw [this]; rfl
      | false =>
        cases hz : am_z (Int.negSucc m - Int.negSucc n) with
        | false => rfl
        | true =>
          have := am_z_spec hz
          simp only [Int.negSucc_eq] at this
          have : m = n := by omega
          rw [this, Nat.beq_refl] at hb
          simp at hb
def am_ins (v : Nat) (c : Int) (l : List (Nat × Int)) : List (Nat × Int) := List.rec (motive := fun _ => List (Nat × Int)) [(v, c)] (fun p t ih => Bool.rec (motive := fun _ => List (Nat × Int)) (p :: ih) (Bool.rec (motive := fun _ => List (Nat × Int)) ((p.1, am_ia c p.2) :: t) t (am_z (am_ia c p.2))) (Nat.beq p.1 v)) l
theorem am_ins_n (v : Nat) (c : Int) : am_ins v c [] = [(v, c)] := rfl
theorem am_ins_c (v : Nat) (c : Int) (u : Nat) (d : Int) (l : List (Nat × Int)) : am_ins v c ((u, d) :: l) = (match Nat.beq u v with
    | true => (match am_z (c + d) with
      | true => l
      | false => (u, c + d) :: l)
    | false => (u, d) :: am_ins v c l) := by
  rw [← am_ia_eq c d]
  show Bool.rec (motive := fun _ => List (Nat × Int)) ((u, d) :: am_ins v c l) (Bool.rec (motive := fun _ => List (Nat × Int)) ((u, am_ia c d) :: l) l (am_z (am_ia c d))) (Nat.beq u v) = _
  cases Nat.beq u v with
  | false => rfl
  | true =>
    show Bool.rec (motive := fun _ => List (Nat × Int)) ((u, am_ia c d) :: l) l (am_z (am_ia c d)) = _
    cases am_z (am_ia c d) <;> rfl
theorem am_ins_ev (r : am_V) (v : Nat) (c : Int) (l : List (Nat × Int)) : am_ts r (am_ins v c l) = c * r v + am_ts r l := by
  induction l with
  | nil => simp [am_ins_n, am_ins_c, am_ts]
  | cons p l ih =>
    obtain ⟨u, d⟩ := p
    simp only [am_ins_n, am_ins_c]
    cases hb : Nat.beq u v with
    | true =>
      have hu : u = v := Nat.eq_of_beq_eq_true hb
      subst hu
      cases hz : am_z (c + d) with
      | true =>
        have h0 := am_z_spec hz
        simp only [am_ts]
        have : c * r u + (d * r u + am_ts r l) = (c + d) * r u + am_ts r l := by rw [Int.add_mul]; omega
        rw [this, h0]; simp
      | false => simp only [am_ts]; rw [Int.add_mul]; omega
    | false => simp only [am_ts, ih]; omega
def am_addl (k : Int) (m l : List (Nat × Int)) : List (Nat × Int) := List.rec (motive := fun _ => List (Nat × Int)) l (fun p _ ih => am_ins p.1 (am_im k p.2) ih) m
theorem am_addl_n (k : Int) (l : List (Nat × Int)) : am_addl k [] l = l := rfl
theorem am_addl_c (k : Int) (v : Nat) (c : Int) (m l : List (Nat × Int)) : am_addl k ((v, c) :: m) l = am_ins v (k * c) (am_addl k m l) := by
  rw [← am_im_eq k c]; rfl
theorem am_addl_ev (r : am_V) (k : Int) (m l : List (Nat × Int)) : am_ts r (am_addl k m l) = k * am_ts r m + am_ts r l := by
  induction m with
  | nil => simp [am_addl_n, am_addl_c, am_ts]
  | cons p m ih =>
    obtain ⟨v, c⟩ := p
    simp only [am_addl_n, am_addl_c, am_ts, am_ins_ev, ih]
    rw [Int.mul_add, Int.mul_assoc]; omega
/-- a + k b -/
def am_add (k : Int) (a b : am_L) : am_L := (am_ia a.1 (am_im k b.1), am_addl k b.2 a.2)
theorem am_add_ev (r : am_V) (k : Int) (a b : am_L) : am_ev r (am_add k a b) = am_ev r a + k * am_ev r b := by
  simp only [am_ev, am_add, am_ia_eq, am_im_eq, am_addl_ev, Int.mul_add]; omega
/-- ranges of a template, by number of variable -/
abbrev am_EL : Type := List (Int × Int)
def am_nth {α : Type} (d : α) (l : List α) (i : Nat) : α := List.rec (motive := fun _ => Nat → α) (fun _ => d) (fun x _ ih i => Bool.rec (motive := fun _ => α) (ih (Nat.sub i 1)) x (Nat.beq i 0)) l i
theorem am_nth_n {α : Type} (d : α) (i : Nat) : am_nth d [] i = d := rfl
theorem am_nth_z {α : Type} (d x : α) (l : List α) : am_nth d (x :: l) 0 = x := rfl
theorem am_nth_s {α : Type} (d x : α) (l : List α) (i : Nat) : am_nth d (x :: l) (i + 1) = am_nth d l i := rfl
def am_tl {α : Type} (l : List α) : List α := List.rec (motive := fun _ => List α) [] (fun _ t _ => t) l
theorem am_tl_eq {α : Type} (l : List α) : am_tl l = l.drop 1 := by cases l <;> rfl
def am_d8 {α : Type} (l : List α) : List α := am_tl (am_tl (am_tl (am_tl (am_tl (am_tl (am_tl (am_tl l)))))))
theorem am_d8_eq {α : Type} (l : List α) : am_d8 l = l.drop 8 := by
  simp only [am_d8, am_tl_eq, List.drop_drop]
def am_dn {α : Type} (l : List α) (k : Nat) : List α := Nat.rec (motive := fun _ => List α) l (fun _ ih => am_d8 ih) k
theorem am_dn_eq {α : Type} (l : List α) : ∀ k : Nat, am_dn l k = l.drop (8 * k)
  | 0 => by show l = _; simp
  | k + 1 => by
    show am_d8 (am_dn l k) = _
    rw [am_d8_eq, am_dn_eq l k, List.drop_drop]
    congr 1
theorem am_nth_drop {α : Type} (d : α) : ∀ (k : Nat) (l : List α) (i : Nat), am_nth d (l.drop k) i = am_nth d l (k + i)
  | 0, l, i => by rw [List.drop_zero, Nat.zero_add]
  | k + 1, [], i => by rw [List.drop_nil, am_nth_n, am_nth_n]
  | k + 1, x :: l, i => by
    have h : k + 1 + i = (k + i) + 1 := by omega
    rw [List.drop_succ_cons, am_nth_drop d k l i, h, am_nth_s]
/-- an element, eight at a time passed over -/
def am_nthE {α : Type} (d : α) (l : List α) (i : Nat) : α := am_nth d (am_dn l (Nat.div i 8)) (Nat.mod i 8)
theorem am_nthE_eq {α : Type} (d : α) (l : List α) (i : Nat) : am_nthE d l i = am_nth d l i := by
  show am_nth d (am_dn l (i / 8)) (i % 8) = _
  rw [am_dn_eq, am_nth_drop, Nat.div_add_mod]
def am_InL (r : am_V) (e : am_EL) : Prop := ∀ v, (am_nth (-2147483648, 2147483647) e v).1 ≤ r v ∧ r v ≤ (am_nth (-2147483648, 2147483647) e v).2
/-- ranges of a state in one number: 64 bits a variable, 32 how far its least is above the least int, 32 how far its most is below the greatest -/
abbrev am_E : Type := Nat
/-- a number, evaluated before it goes on -/
def am_bang {β : Type} (x : Nat) (k : Nat → β) : β := Nat.rec (motive := fun _ => β) (k 0) (fun m _ => k (Nat.succ m)) x
theorem am_bang_eq {β : Type} (x : Nat) (k : Nat → β) : am_bang x k = k x := by cases x <;> rfl
def am_f (e k : Nat) : Nat := Nat.mod (Nat.shiftRight e k) 4294967296
def am_gl (e v : Nat) : Int := am_sn (am_f e (Nat.mul 64 v)) 2147483648
def am_gh (e v : Nat) : Int := am_sn 2147483647 (am_f e (Nat.add (Nat.mul 64 v) 32))
def am_w (e v : Nat) : Nat := Nat.mod (Nat.shiftRight e (Nat.mul 64 v)) 18446744073709551616
def am_pt (e v w : Nat) : Nat := Nat.xor e (Nat.shiftLeft (Nat.xor (am_w e v) w) (Nat.mul 64 v))
def am_nt (x : Int) : Nat := Int.rec (motive := fun _ => Nat) (fun n => n) (fun _ => 0) x
/-- a range in one number -/
def am_wd (lo hi : Int) : Nat := Nat.add (Nat.mod (am_nt (am_ia lo 2147483648)) 4294967296) (Nat.mul (Nat.mod (am_nt (am_is 2147483647 hi)) 4294967296) 4294967296)
def am_setE (e v : Nat) (g : Int × Int) : am_E := am_pt e v (am_wd g.1 g.2)
theorem am_f_bit (e k i : Nat) : (am_f e k).testBit i = (decide (i < 32) && e.testBit (k + i)) := by
  have h : am_f e k = (e >>> k) % 2 ^ 32 := rfl
  rw [h, Nat.testBit_mod_two_pow, Nat.testBit_shiftRight]
theorem am_w_bit (e v i : Nat) : (am_w e v).testBit i = (decide (i < 64) && e.testBit (64 * v + i)) := by
  have h : am_w e v = (e >>> (64 * v)) % 2 ^ 64 := rfl
  rw [h, Nat.testBit_mod_two_pow, Nat.testBit_shiftRight]
theorem am_f_lt (e k : Nat) : am_f e k < 4294967296 := Nat.mod_lt _ (by omega)
theorem am_pt_bit (e v w b : Nat) : (am_pt e v w).testBit b = (e.testBit b ^^ (decide (b ≥ 64 * v) && ((am_w e v).testBit (b - 64 * v) ^^ w.testBit (b - 64 * v)))) := by
  have h : am_pt e v w = e ^^^ ((am_w e v ^^^ w) <<< (64 * v)) := rfl
  rw [h, Nat.testBit_xor, Nat.testBit_shiftLeft, Nat.testBit_xor]
theorem am_f_pt (e v w u j : Nat) (hj : j ≤ 32) (hw : w < 18446744073709551616) : am_f (am_pt e v w) (64 * u + j) = if u = v then am_f w j else am_f e (64 * u + j) := by
  apply Nat.eq_of_testBit_eq
  intro i
  rw [am_f_bit, am_pt_bit]
  by_cases hi : i < 32
  · by_cases hu : u = v
    · subst hu
      rw [if_pos rfl, am_f_bit, am_w_bit]
      have e1 : 64 * u + j + i - 64 * u = j + i := by omega
      have e2 : 64 * u + j + i = 64 * u + (j + i) := by omega
      rw [e1, e2]
      have e3 : decide (64 * u + (j + i) ≥ 64 * u) = true := by simp
      have e4 : decide (j + i < 64) = true := by simp; omega
      have e5 : decide (i < 32) = true := by simp [hi]
      rw [e3, e4, e5]
      simp only [Bool.true_and]
      cases e.testBit (64 * u + (j + i)) <;> cases w.testBit (j + i) <;> rfl
    · rw [if_neg hu, am_f_bit]
      have key : (decide (64 * u + j + i ≥ 64 * v) && ((am_w e v).testBit (64 * u + j + i - 64 * v) ^^ w.testBit (64 * u + j + i - 64 * v))) = false := by
        by_cases hlt : u < v
        · have : decide (64 * u + j + i ≥ 64 * v) = false := by simp; omega
          rw [this]; rfl
        · have hge : 64 ≤ 64 * u + j + i - 64 * v := by omega
          have h1 : (am_w e v).testBit (64 * u + j + i - 64 * v) = false := by
            rw [am_w_bit]
            have : decide (64 * u + j + i - 64 * v < 64) = false := by simp; omega
            rw [this]; rfl
          have h2 : w.testBit (64 * u + j + i - 64 * v) = false := Nat.testBit_lt_two_pow (Nat.lt_of_lt_of_le hw (Nat.pow_le_pow_right (by omega) hge : 2 ^ 64 ≤ _))
          rw [h1, h2]
          cases decide (64 * u + j + i ≥ 64 * v) <;> rfl
      rw [key, Bool.xor_false]
  · have e5 : decide (i < 32) = false := by simp; omega
    rw [e5]
    by_cases hu : u = v
    · rw [if_pos hu, am_f_bit, e5]; rfl
    · rw [if_neg hu, am_f_bit, e5]; rfl
theorem am_wd_lt (lo hi : Int) : am_wd lo hi < 18446744073709551616 := by
  have h1 : am_nt (am_ia lo 2147483648) % 4294967296 < 4294967296 := Nat.mod_lt _ (by omega)
  have h2 : am_nt (am_is 2147483647 hi) % 4294967296 < 4294967296 := Nat.mod_lt _ (by omega)
  show am_nt (am_ia lo 2147483648) % 4294967296 + am_nt (am_is 2147483647 hi) % 4294967296 * 4294967296 < _
  omega
theorem am_wd_lo (lo hi : Int) : am_f (am_wd lo hi) 0 = am_nt (am_ia lo 2147483648) % 4294967296 := by
  have h1 : am_nt (am_ia lo 2147483648) % 4294967296 < 4294967296 := Nat.mod_lt _ (by omega)
  have h : am_f (am_wd lo hi) 0 = (am_nt (am_ia lo 2147483648) % 4294967296 + am_nt (am_is 2147483647 hi) % 4294967296 * 4294967296) >>> 0 % 4294967296 := rfl
  rw [h, Nat.shiftRight_zero]
  omega
theorem am_wd_hi (lo hi : Int) : am_f (am_wd lo hi) 32 = am_nt (am_is 2147483647 hi) % 4294967296 := by
  have h1 : am_nt (am_ia lo 2147483648) % 4294967296 < 4294967296 := Nat.mod_lt _ (by omega)
  have h2 : am_nt (am_is 2147483647 hi) % 4294967296 < 4294967296 := Nat.mod_lt _ (by omega)
  have h : am_f (am_wd lo hi) 32 = (am_nt (am_ia lo 2147483648) % 4294967296 + am_nt (am_is 2147483647 hi) % 4294967296 * 4294967296) >>> 32 % 4294967296 := rfl
  rw [h, Nat.shiftRight_eq_div_pow]
  have : (2 : Nat) ^ 32 = 4294967296 := rfl
  rw [this]
  omega
theorem am_nt_le (x : Int) (y : Int) (h0 : 0 ≤ y) (h : x ≤ y) : (am_nt x : Int) ≤ y := by
  cases x with
  | ofNat n => exact h
  | negSucc n => exact h0
def am_In (r : am_V) (e : am_E) : Prop := ∀ v, am_gl e v ≤ r v ∧ r v ≤ am_gh e v
theorem am_gl_ge (e v : Nat) : -2147483648 ≤ am_gl e v := by
  unfold am_gl
  rw [am_sn_eq]
  omega
theorem am_gh_le (e v : Nat) : am_gh e v ≤ 2147483647 := by
  unfold am_gh
  rw [am_sn_eq]
  omega
theorem am_gl_set (e v : Nat) (g : Int × Int) (u : Nat) (hu : u ≠ v) : am_gl (am_setE e v g) u = am_gl e u := by
  have h := am_f_pt e v (am_wd g.1 g.2) u 0 (by omega) (am_wd_lt _ _)
  rw [if_neg hu] at h
  unfold am_gl am_setE
  have h : am_f (am_pt e v (am_wd g.1 g.2)) (Nat.mul 64 u) = am_f e (Nat.mul 64 u) := h
  rw [h]
theorem am_gh_set (e v : Nat) (g : Int × Int) (u : Nat) (hu : u ≠ v) : am_gh (am_setE e v g) u = am_gh e u := by
  have h := am_f_pt e v (am_wd g.1 g.2) u 32 (by omega) (am_wd_lt _ _)
  rw [if_neg hu] at h
  unfold am_gh am_setE
  have h : am_f (am_pt e v (am_wd g.1 g.2)) (Nat.add (Nat.mul 64 u) 32) = am_f e (Nat.add (Nat.mul 64 u) 32) := h
  rw [h]
theorem am_gl_at (e v : Nat) (g : Int × Int) (x : Int) (h1 : g.1 ≤ x) (h2 : -2147483648 ≤ x) : am_gl (am_setE e v g) v ≤ x := by
  have h := am_f_pt e v (am_wd g.1 g.2) v 0 (by omega) (am_wd_lt _ _)
  rw [if_pos rfl, am_wd_lo] at h
  unfold am_gl am_setE
  have h : am_f (am_pt e v (am_wd g.1 g.2)) (Nat.mul 64 v) = am_nt (am_ia g.1 2147483648) % 4294967296 := h
  rw [h, am_sn_eq]
  have := am_nt_le (am_ia g.1 2147483648) (x + 2147483648) (by omega) (by rw [am_ia_eq]; omega)
  have : am_nt (am_ia g.1 2147483648) % 4294967296 ≤ am_nt (am_ia g.1 2147483648) := Nat.mod_le _ _
  omega
theorem am_gh_at (e v : Nat) (g : Int × Int) (x : Int) (h1 : x ≤ g.2) (h2 : x ≤ 2147483647) : x ≤ am_gh (am_setE e v g) v := by
  have h := am_f_pt e v (am_wd g.1 g.2) v 32 (by omega) (am_wd_lt _ _)
  rw [if_pos rfl, am_wd_hi] at h
  unfold am_gh am_setE
  have h : am_f (am_pt e v (am_wd g.1 g.2)) (Nat.add (Nat.mul 64 v) 32) = am_nt (am_is 2147483647 g.2) % 4294967296 := h
  rw [h, am_sn_eq]
  have := am_nt_le (am_is 2147483647 g.2) (2147483647 - x) (by omega) (by rw [am_is_eq]; omega)
  have : am_nt (am_is 2147483647 g.2) % 4294967296 ≤ am_nt (am_is 2147483647 g.2) := Nat.mod_le _ _
  omega
theorem am_setE_In {r : am_V} {e : am_E} (h : am_In r e) {v : Nat} {g : Int × Int} (h1 : g.1 ≤ r v) (h2 : r v ≤ g.2) : am_In r (am_setE e v g) := by
  intro u
  by_cases hu : u = v
  · subst hu
    have := h u
    have := am_gl_ge e u
    have := am_gh_le e u
    exact ⟨am_gl_at e u g _ h1 (by omega), am_gh_at e u g _ h2 (by omega)⟩
  · rw [am_gl_set e v g u hu, am_gh_set e v g u hu]
    exact h u
/-- a variable that is fixed -/
def am_fx (e v : Nat) : Bool := Nat.beq (Nat.add (am_f e (Nat.mul 64 v)) (am_f e (Nat.add (Nat.mul 64 v) 32))) 4294967295
theorem am_fx_spec {r : am_V} {e : am_E} (h : am_In r e) {v : Nat} (hx : am_fx e v = true) : r v = am_gl e v := by
  have h1 : am_f e (Nat.mul 64 v) + am_f e (Nat.add (Nat.mul 64 v) 32) = 4294967295 := Nat.eq_of_beq_eq_true hx
  have h2 := h v
  unfold am_gl am_gh at h2
  unfold am_gl
  rw [am_sn_eq, am_sn_eq] at h2
  rw [am_sn_eq]
  omega
def am_nn : Int → Bool
  | .ofNat _ => true
  | .negSucc _ => false
theorem am_nn_spec {x : Int} (h : am_nn x = true) : 0 ≤ x := by
  cases x with
  | ofNat n => exact Int.natCast_nonneg n
  | negSucc n => simp [am_nn] at h
/-- the least that the terms can come to -/
def am_lo (e : am_E) (l : List (Nat × Int)) : Int := List.rec (motive := fun _ => Int) 0 (fun p _ ih => am_ia (Int.rec (motive := fun _ => Int) (fun _ => am_im p.2 (am_gl e p.1)) (fun _ => am_im p.2 (am_gh e p.1)) p.2) ih) l
theorem am_lo_n (e : am_E) : am_lo e [] = 0 := rfl
theorem am_lo_c (e : am_E) (v : Nat) (c : Int) (l : List (Nat × Int)) : am_lo e ((v, c) :: l) = (match c with
    | .ofNat _ => c * am_gl e v
    | .negSucc _ => c * am_gh e v) + am_lo e l := by
  cases c with
  | ofNat n =>
    show am_ia (am_im (Int.ofNat n) (am_gl e v)) (am_lo e l) = _
    rw [am_ia_eq, am_im_eq]
  | negSucc n =>
    show am_ia (am_im (Int.negSucc n) (am_gh e v)) (am_lo e l) = _
    rw [am_ia_eq, am_im_eq]
theorem am_lo_le {r : am_V} {e : am_E} (h : am_In r e) (l : List (Nat × Int)) : am_lo e l ≤ am_ts r l := by
  induction l with
  | nil => exact Int.le_refl 0
  | cons p l ih =>
    obtain ⟨v, c⟩ := p
    simp only [am_lo_n, am_lo_c, am_ts]
    refine Int.add_le_add ?_ ih
    cases c with
    | ofNat n => exact Int.mul_le_mul_of_nonneg_left (h v).1 (Int.natCast_nonneg n)
    | negSucc n => exact Int.mul_le_mul_of_nonpos_left (Int.le_of_lt (Int.negSucc_lt_zero n)) (h v).2
def am_pos (e : am_E) (a : am_L) : Bool := am_nn (am_ia a.1 (am_lo e a.2))
theorem am_pos_spec {r : am_V} {e : am_E} {a : am_L} (h : am_In r e) (hp : am_pos e a = true) : 0 ≤ am_ev r a := by
  have := am_nn_spec hp
  rw [am_ia_eq] at this
  have := am_lo_le h a.2
  simp only [am_ev]; omega
/-- facts of a template; of a state: with the variables of each as bits, those with coefficients of one sign apart, and all -/
abbrev am_FL : Type := List am_L
def am_FsL (r : am_V) (f : am_FL) : Prop := ∀ a ∈ f, 0 ≤ am_ev r a
abbrev am_F : Type := List ((Nat × Nat) × am_L)
def am_Fs (r : am_V) (f : am_F) : Prop := ∀ a ∈ f, 0 ≤ am_ev r a.2
/-- the variables of terms, those with coefficients of one sign apart, as bits -/
def am_msk (l : List (Nat × Int)) : Nat := List.rec (motive := fun _ => Nat) 0 (fun p _ ih => Nat.lor ih (Nat.shiftLeft 1 (Int.rec (motive := fun _ => Nat) (fun _ => Nat.mul 2 p.1) (fun _ => Nat.succ (Nat.mul 2 p.1)) p.2))) l
/-- the variables of terms as bits -/
def am_mk1 (l : List (Nat × Int)) : Nat := List.rec (motive := fun _ => Nat) 0 (fun p _ ih => Nat.lor ih (Nat.shiftLeft 1 p.1)) l
def am_mf (a : am_L) : (Nat × Nat) × am_L := ((am_msk a.2, am_mk1 a.2), a)
/-- by one fact: m are the form's variables (a fact without one of like sign is no help) -/
def am_pr1 (e : am_E) (a : am_L) (m : Nat) (fs : am_F) : Bool := List.rec (motive := fun _ => Bool) false (fun f _ ih => Bool.rec (motive := fun _ => Bool) (Bool.rec (motive := fun _ => Bool) ih true (am_pos e (am_add (-1) a f.2))) ih (Nat.beq (Nat.land m f.1.1) 0)) fs
theorem am_pr1_n (e : am_E) (a : am_L) (m : Nat) : am_pr1 e a m [] = false := rfl
theorem am_pr1_c (e : am_E) (a : am_L) (m : Nat) (f : (Nat × Nat) × am_L) (fs : am_F) : am_pr1 e a m (f :: fs) = (match Nat.beq (Nat.land m f.1.1) 0 with
    | true => am_pr1 e a m fs
    | false => match am_pos e (am_add (-1) a f.2) with
      | true => true
      | false => am_pr1 e a m fs) := by
  show Bool.rec (motive := fun _ => Bool) (Bool.rec (motive := fun _ => Bool) (am_pr1 e a m fs) true (am_pos e (am_add (-1) a f.2))) (am_pr1 e a m fs) (Nat.beq (Nat.land m f.1.1) 0) = _
  cases Nat.beq (Nat.land m f.1.1) 0 with
  | true => rfl
  | false =>
    show Bool.rec (motive := fun _ => Bool) (am_pr1 e a m fs) true (am_pos e (am_add (-1) a f.2)) = _
    cases am_pos e (am_add (-1) a f.2) <;> rfl
/-- by one fact, with its variables found -/
def am_pr0 (e : am_E) (a : am_L) (fs : am_F) : Bool := am_pr1 e a (am_msk a.2) fs
def am_pr2 (e : am_E) (a : am_L) (m : Nat) (gs fs : am_F) : Bool := List.rec (motive := fun _ => Bool) false (fun f _ ih => Bool.rec (motive := fun _ => Bool) (Bool.rec (motive := fun _ => Bool) ih true (am_pr0 e (am_add (-1) a f.2) gs)) ih (Nat.beq (Nat.land m f.1.1) 0)) fs
theorem am_pr2_n (e : am_E) (a : am_L) (m : Nat) (gs : am_F) : am_pr2 e a m gs [] = false := rfl
theorem am_pr2_c (e : am_E) (a : am_L) (m : Nat) (f : (Nat × Nat) × am_L) (gs fs : am_F) : am_pr2 e a m gs (f :: fs) = (match Nat.beq (Nat.land m f.1.1) 0 with
    | true => am_pr2 e a m gs fs
    | false => match am_pr0 e (am_add (-1) a f.2) gs with
      | true => true
      | false => am_pr2 e a m gs fs) := by
  show Bool.rec (motive := fun _ => Bool) (Bool.rec (motive := fun _ => Bool) (am_pr2 e a m gs fs) true (am_pr0 e (am_add (-1) a f.2) gs)) (am_pr2 e a m gs fs) (Nat.beq (Nat.land m f.1.1) 0) = _
  cases Nat.beq (Nat.land m f.1.1) 0 with
  | true => rfl
  | false =>
    show Bool.rec (motive := fun _ => Bool) (am_pr2 e a m gs fs) true (am_pr0 e (am_add (-1) a f.2) gs) = _
    cases am_pr0 e (am_add (-1) a f.2) gs <;> rfl
/-- a >= 0: by ranges, by a fact, by two -/
def am_prove (e : am_E) (fs : am_F) (a : am_L) : Bool := Bool.rec (motive := fun _ => Bool) (Bool.rec (motive := fun _ => Bool) (am_pr2 e a (am_msk a.2) fs fs) true (am_pr0 e a fs)) true (am_pos e a)
theorem am_prove_eq (e : am_E) (fs : am_F) (a : am_L) : am_prove e fs a = (match am_pos e a with
    | true => true
    | false => match am_pr0 e a fs with
      | true => true
      | false => am_pr2 e a (am_msk a.2) fs fs) := by
  unfold am_prove
  cases am_pos e a with
  | true => rfl
  | false => cases am_pr0 e a fs <;> rfl
theorem am_pr1_spec {r : am_V} {e : am_E} (h : am_In r e) {fs : am_F} (hf : am_Fs r fs) {a : am_L} {m : Nat} (hp : am_pr1 e a m fs = true) : 0 ≤ am_ev r a := by
  induction fs with
  | nil => simp [am_pr1_n] at hp
  | cons f fs ih =>
    rw [am_pr1_c] at hp
    cases hs : Nat.beq (Nat.land m f.1.1) 0 with
    | true => rw [hs] at hp; exact ih (fun x hx => hf x (List.mem_cons_of_mem _ hx)) hp
    | false =>
      rw [hs] at hp
      cases hb : am_pos e (am_add (-1) a f.2) with
      | true =>
        have h1 := am_pos_spec h hb
        have h2 := hf f (List.mem_cons_self ..)
        rw [am_add_ev] at h1; omega
      | false => rw [hb] at hp; exact ih (fun x hx => hf x (List.mem_cons_of_mem _ hx)) hp
theorem am_pr0_spec {r : am_V} {e : am_E} (h : am_In r e) {fs : am_F} (hf : am_Fs r fs) {a : am_L} (hp : am_pr0 e a fs = true) : 0 ≤ am_ev r a := am_pr1_spec h hf hp
theorem am_pr2_spec {r : am_V} {e : am_E} (h : am_In r e) {gs : am_F} (hg : am_Fs r gs) {fs : am_F} (hf : am_Fs r fs) {a : am_L} {m : Nat} (hp : am_pr2 e a m gs fs = true) : 0 ≤ am_ev r a := by
  induction fs with
  | nil => simp [am_pr2_n] at hp
  | cons f fs ih =>
    rw [am_pr2_c] at hp
    cases hs : Nat.beq (Nat.land m f.1.1) 0 with
    | true => rw [hs] at hp; exact ih (fun x hx => hf x (List.mem_cons_of_mem _ hx)) hp
    | false =>
      rw [hs] at hp
      cases hb : am_pr0 e (am_add (-1) a f.2) gs with
      | true =>
        have h1 := am_pr0_spec h hg hb
        have h2 := hf f (List.mem_cons_self ..)
        rw [am_add_ev] at h1; omega
      | false => rw [hb] at hp; exact ih (fun x hx => hf x (List.mem_cons_of_mem _ hx)) hp
theorem am_prove_spec {r : am_V} {e : am_E} (h : am_In r e) {fs : am_F} (hf : am_Fs r fs) {a : am_L} (hp : am_prove e fs a = true) : 0 ≤ am_ev r a := by
  rw [am_prove_eq] at hp
  cases h1 : am_pos e a with
  | true => exact am_pos_spec h h1
  | false =>
    rw [h1] at hp
    cases h2 : am_pr0 e a fs with
    | true => exact am_pr0_spec h hf h2
    | false => rw [h2] at hp; exact am_pr2_spec h hf hf hp
end
