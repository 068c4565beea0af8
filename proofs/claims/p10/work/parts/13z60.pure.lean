noncomputable section
/-! L3, THE BOOK as its text says: what is read from a tape t of n bytes; no program. -/
/-- the next place that counts -/
def bn (t : Nat → Int) (n : Nat) : Nat → Nat → Nat
  | 0, a => a
  | f + 1, a => if a < n ∧ t a = 32 then bn t n f (a + 1) else a
def nb (t : Nat → Int) (n a : Nat) : Nat := bn t n (n - a) a
theorem nb_stop {t : Nat → Int} {n a : Nat} (h : ¬ (a < n ∧ t a = 32)) : nb t n a = a := by
  unfold nb
  cases n - a with
  | zero => rfl
  | succ f => show (if a < n ∧ t a = 32 then bn t n f (a + 1) else a) = a; rw [if_neg h]
theorem nb_go {t : Nat → Int} {n a : Nat} (h : a < n ∧ t a = 32) : nb t n a = nb t n (a + 1) := by
  unfold nb
  have e : n - a = (n - (a + 1)) + 1 := by omega
  rw [e]
  show (if a < n ∧ t a = 32 then bn t n (n - (a + 1)) (a + 1) else a) = _
  rw [if_pos h]
theorem bn_spec (t : Nat → Int) (n : Nat) : ∀ (f a : Nat), n - a ≤ f → a ≤ bn t n f a ∧ (a ≤ n → bn t n f a ≤ n) ∧ ¬ (bn t n f a < n ∧ t (bn t n f a) = 32)
  | 0, a, h => ⟨Nat.le_refl _, fun h => h, fun g => by have : a < n := g.1; omega⟩
  | f + 1, a, h => by
    show a ≤ (if a < n ∧ t a = 32 then bn t n f (a + 1) else a) ∧ (a ≤ n → (if a < n ∧ t a = 32 then bn t n f (a + 1) else a) ≤ n) ∧ ¬ ((if a < n ∧ t a = 32 then bn t n f (a + 1) else a) < n ∧ t (if a < n ∧ t a = 32 then bn t n f (a + 1) else a) = 32)
    by_cases hc : a < n ∧ t a = 32
    · rw [if_pos hc]
      obtain ⟨h1, h2, h3⟩ := bn_spec t n f (a + 1) (by omega)
      exact ⟨by omega, fun _ => h2 (by omega), h3⟩
    · rw [if_neg hc]
      exact ⟨Nat.le_refl _, fun h => h, hc⟩
theorem nb_ge (t : Nat → Int) (n a : Nat) : a ≤ nb t n a := (bn_spec t n (n - a) a (Nat.le_refl _)).1
theorem nb_le {t : Nat → Int} {n a : Nat} (h : a ≤ n) : nb t n a ≤ n := (bn_spec t n (n - a) a (Nat.le_refl _)).2.1 h
theorem nb_at (t : Nat → Int) (n a : Nat) : ¬ (nb t n a < n ∧ t (nb t n a) = 32) := (bn_spec t n (n - a) a (Nat.le_refl _)).2.2
theorem nb_nb (t : Nat → Int) (n a : Nat) : nb t n (nb t n a) = nb t n a := nb_stop (nb_at t n a)
/-- the byte that lies there, -1 at the end -/
def bc (t : Nat → Int) (n a : Nat) : Int := if nb t n a < n then t (nb t n a) else -1
/-- what is read: a fault's place, or a value and the place behind it -/
abbrev PR (α : Type) : Type := Nat ⊕ (α × Nat)
def pb {α β : Type} (x : PR α) (f : α → Nat → PR β) : PR β := match x with
  | .inl p => .inl p
  | .inr (v, a) => f v a
/-- one byte that f takes -/
def tk {α : Type} (t : Nat → Int) (n a : Nat) (f : Int → Option α) : PR α := match f (bc t n a) with
  | some x => .inr (x, nb t n a + 1)
  | none => .inl (nb t n a)
/-- figures from a place on -/
def nu (t : Nat → Int) (n : Nat) : Nat → Nat → Int → Int × Nat
  | 0, a, v => (v, a)
  | f + 1, a, v => if a < n ∧ 48 ≤ t a ∧ t a ≤ 57 then nu t n f (a + 1) (10 * v + t a - 48) else (v, a)
def num (t : Nat → Int) (n a : Nat) (most : Int) : PR Int :=
  if 48 ≤ bc t n a ∧ bc t n a ≤ 57 then (if (nu t n (n - nb t n a) (nb t n a) 0).1 ≤ most then .inr (nu t n (n - nb t n a) (nb t n a) 0) else .inl (nb t n a)) else .inl (nb t n a)
def ixf : List Int → Int → Int → Option Int
  | [], _, _ => none
  | x :: l, c, i => if x = c then some i else ixf l c (i + 1)
def one (l : List Int) (c : Int) : Option Int := ixf l c 0
def skp (d c : Int) : Option Int := if c = d then some 0 else none
def fig (lo hi : Int) (c : Int) : Option Int := if lo ≤ c - 48 ∧ c - 48 ≤ hi then some (c - 48) else none
def letr (g : Int) (b : Int) (c : Int) : Option Int := if 0 ≤ c - 97 ∧ c - 97 ≤ g - 1 ∧ c - 97 < 6 ∧ ¬ c - 97 = b then some (c - 97) else none
def siz (t : Nat → Int) (n a : Nat) : PR (Int × Int × Int) :=
  pb (tk t n a (fig 1 4)) fun w a => pb (tk t n a (skp 120)) fun _ a => pb (tk t n a (fig 1 4)) fun h a => pb (tk t n a (skp 61)) fun _ a => pb (num t n a 999) fun s a => .inr ((w, h, s), a)
def bnd (t : Nat → Int) (n : Nat) (g x : Int) (a : Nat) : PR (List Int) :=
  pb (tk t n a (letr g x)) fun y a => pb (tk t n a (one [111, 102, 101, 110, 118, 104])) fun k a =>
    if k ≤ 2 then pb (tk t n a (one [43, 45])) fun s a => pb (num t n a 99) fun v a => .inr ([2, k, x, y, if s = 0 then v else -v], a)
    else .inr ([2, k, x, y, 0], a)
def gds (t : Nat → Int) (n a : Nat) : PR (List Int) :=
  pb (tk t n a (one [112, 108, 114, 102])) fun k a => pb (tk t n a (fig 0 3)) fun f a => pb (siz t n a) fun p a => pb (tk t n a (skp 44)) fun _ a => pb (siz t n a) fun q a =>
    .inr ([1, k, f, p.1, p.2.1, p.2.2, q.1, q.2.1, q.2.2], a)
/-- a clause, with g goods that there are -/
def cla (t : Nat → Int) (n : Nat) (g : Int) (a : Nat) : PR (List Int) :=
  if bc t n a = 112 then pb (num t n (nb t n a + 1) 60) fun v a => .inr ([0, v], a)
  else if bc t n a = 103 then gds t n (nb t n a + 1)
  else pb (tk t n a (letr g (-1))) fun x a => bnd t n g x a
/-- is it a good? -/
def isg (e : List Int) : Int := if e.headD 0 = 1 then 1 else 0
/-- f clauses at most from a place on -/
def cls (t : Nat → Int) (n : Nat) : Nat → Int → Nat → PR (List (List Int))
  | 0, _, a => .inl a
  | f + 1, g, a => pb (cla t n g a) fun e a =>
      if bc t n a = -1 then .inr ([e], nb t n a)
      else if bc t n a = 59 ∧ ¬ f = 0 then pb (cls t n f (g + isg e) (nb t n a + 1)) fun l a => .inr (e :: l, a)
      else .inl (nb t n a)
-- ---- contents by number, as the reference lays them
def upz (z : Nat → Int) (i : Nat) (v : Int) : Nat → Int := fun j => if j = i then v else z j
/-- what a clause does -/
def apz (e : List Int) (z : Nat → Int) : Nat → Int := match e with
  | [0, v] => upz (upz z (10 + (z 0).toNat) v) 0 (z 0 + 1)
  | [1, k, f, w0, h0, s0, w1, h1, s1] => upz (upz (upz (upz (upz (upz (upz (upz (upz (upz z (14 + 8 * (z 1).toNat) k) (15 + 8 * (z 1).toNat) f) (16 + 8 * (z 1).toNat) w0) (17 + 8 * (z 1).toNat) h0) (18 + 8 * (z 1).toNat) s0) (19 + 8 * (z 1).toNat) w1) (20 + 8 * (z 1).toNat) h1) (21 + 8 * (z 1).toNat) s1) (62 + (z 1).toNat) 0) 1 (z 1 + 1)
  | [2, k, x, y, v] => upz (upz (upz (upz (upz z (68 + 4 * (z 2).toNat) k) (69 + 4 * (z 2).toNat) x) (70 + 4 * (z 2).toNat) y) (71 + 4 * (z 2).toNat) v) 2 (z 2 + 1)
  | _ => z
/-- has it room? -/
def rom (e : List Int) (z : Nat → Int) : Prop := (e.headD 0 = 0 → z 0 < 3) ∧ (e.headD 0 = 1 → z 1 < 6) ∧ (e.headD 0 = 2 → z 2 < 12)
/-- clauses one by one, while there is room -/
def apl : List (List Int) → (Nat → Int) → (Nat → Int)
  | [], z => z
  | e :: l, z => apl l (apz e z)
def rml : List (List Int) → (Nat → Int) → Prop
  | [], _ => True
  | e :: l, z => rom e z ∧ rml l (apz e z)
/-- the contents behind a BOOK: all that it says, or as they were -/
def bkz (t : Nat → Int) (n : Nat) (z : Nat → Int) : Nat → Int := match cls t n 12 (z 1) 0 with
  | .inl _ => z
  | .inr (l, _) => @ite (Nat → Int) (rml l z) (Classical.propDecidable _) (apl l z) z
/-- what is answered -/
def bka (t : Nat → Int) (n : Nat) (z : Nat → Int) : Int := match cls t n 12 (z 1) 0 with
  | .inl p => -20 - p
  | .inr (l, _) => @ite Int (rml l z) (Classical.propDecidable _) l.length (-3)
end
