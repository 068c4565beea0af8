noncomputable section
/-! L3, PLANS as numbers: sums over goods, what is on a page, what a plan brings; no program. -/
def psm (f : Nat → Int) : Nat → Int
  | 0 => 0
  | n + 1 => psm f n + f n
theorem psm_congr {f g : Nat → Int} : ∀ {n : Nat}, (∀ i, i < n → f i = g i) → psm f n = psm g n
  | 0, _ => rfl
  | n + 1, h => by
    show psm f n + f n = psm g n + g n
    rw [psm_congr (n := n) (fun i hi => h i (by omega)), h n (by omega)]
theorem psm_zero {f : Nat → Int} : ∀ {n : Nat}, (∀ i, i < n → f i = 0) → psm f n = 0
  | 0, _ => rfl
  | n + 1, h => by
    show psm f n + f n = 0
    rw [psm_zero (n := n) (fun i hi => h i (by omega)), h n (by omega)]
    rfl
theorem psm_le {f g : Nat → Int} : ∀ {n : Nat}, (∀ i, i < n → f i ≤ g i) → psm f n ≤ psm g n
  | 0, _ => Int.le_refl _
  | n + 1, h => by
    have h1 := psm_le (n := n) (fun i hi => h i (by omega))
    have h2 := h n (by omega)
    show psm f n + f n ≤ psm g n + g n
    omega
theorem psm_const (M : Int) : ∀ n : Nat, psm (fun _ => M) n = (n : Int) * M
  | 0 => by simp [psm]
  | n + 1 => by
    show psm (fun _ => M) n + M = ((n + 1 : Nat) : Int) * M
    rw [psm_const M n, Int.natCast_succ, Int.add_mul, Int.one_mul]
theorem psm_add (f g : Nat → Int) : ∀ n : Nat, psm (fun i => f i + g i) n = psm f n + psm g n
  | 0 => rfl
  | n + 1 => by
    show psm (fun i => f i + g i) n + (f n + g n) = psm f n + f n + (psm g n + g n)
    rw [psm_add f g n]
    omega
theorem psm_mul (k : Int) (f : Nat → Int) : ∀ n : Nat, psm (fun i => k * f i) n = k * psm f n
  | 0 => by simp [psm]
  | n + 1 => by
    show psm (fun i => k * f i) n + k * f n = k * (psm f n + f n)
    rw [psm_mul k f n, Int.mul_add]
/-- terms that are nothing from m on -/
theorem psm_ext {f : Nat → Int} {m : Nat} : ∀ {n : Nat}, m ≤ n → (∀ i, m ≤ i → i < n → f i = 0) → psm f n = psm f m
  | 0, h, _ => by have : m = 0 := by omega
                  rw [this]
  | n + 1, h, k => by
    by_cases e : m = n + 1
    · rw [e]
    · show psm f n + f n = psm f m
      rw [psm_ext (n := n) (by omega) (fun i h1 h2 => k i h1 (by omega)), k n (by omega) (by omega)]
      omega
def pup (r : Nat → Nat) (k c : Nat) : Nat → Nat := fun g => if g = k then c else r g
theorem pup_at (r : Nat → Nat) (k c : Nat) : pup r k c k = c := if_pos rfl
theorem pup_ne (r : Nat → Nat) {k g : Nat} (c : Nat) (h : g ≠ k) : pup r k c g = r g := if_neg h
theorem psm_up {F : Nat → Nat → Int} {r : Nat → Nat} {k c : Nat} : ∀ {n : Nat}, k < n → psm (fun g => F g (pup r k c g)) n = psm (fun g => F g (r g)) n - F k (r k) + F k c
  | 0, h => absurd h (by omega)
  | n + 1, h => by
    show psm (fun g => F g (pup r k c g)) n + F n (pup r k c n) = psm (fun g => F g (r g)) n + F n (r n) - F k (r k) + F k c
    by_cases e : k = n
    · subst e
      rw [pup_at, psm_congr (n := k) (g := fun g => F g (r g)) (fun i hi => by rw [pup_ne _ _ (by omega)])]
      omega
    · rw [pup_ne _ _ (fun hh => e hh.symm), psm_up (n := n) (by omega)]
      omega
-- ---- a book by number
def zare (z : Nat → Int) (g s : Nat) : Int := z (16 + 8 * g + 3 * s) * z (17 + 8 * g + 3 * s)
def zsal (z : Nat → Int) (g s : Nat) : Int := z (18 + 8 * g + 3 * s)
def zknd (z : Nat → Int) (g : Nat) : Int := z (14 + 8 * g)
def zfam (z : Nat → Int) (g : Nat) : Int := z (15 + 8 * g)
def zvw (z : Nat → Int) (p : Nat) : Int := z (10 + p)
/-- page and size of a choice that is none of 0 -/
def pgn (c : Nat) : Nat := (c - 1) / 2
def szn (c : Nat) : Nat := (c - 1) % 2
theorem szn_lt (c : Nat) : szn c < 2 := Nat.mod_lt _ (by decide)
def fcr (p : Nat) (_ : Nat) (c : Nat) : Int := if c ≠ 0 ∧ pgn c = p then 1 else 0
def ffi (z : Nat → Int) (p g c : Nat) : Int := if c ≠ 0 ∧ pgn c = p then zare z g (szn c) else 0
def fco (p g c : Nat) : Int := if c ≠ 0 ∧ pgn c = p then ((3 ^ g : Nat) : Int) * ((szn c : Int) + 1) else 0
def fri (z : Nat → Int) (f : Int) (g c : Nat) : Int := if c ≠ 0 ∧ zknd z g = 2 ∧ zfam z g = f then 1 else 0
/-- of a plan: how many goods on a page, their squares, which (in threes); rivals of a family that are in -/
def ncr (r : Nat → Nat) (p : Nat) : Int := psm (fun g => fcr p g (r g)) 6
def nfi (z : Nat → Int) (r : Nat → Nat) (p : Nat) : Int := psm (fun g => ffi z p g (r g)) 6
def nco (r : Nat → Nat) (p : Nat) : Int := psm (fun g => fco p g (r g)) 6
def nri (z : Nat → Int) (r : Nat → Nat) (f : Int) : Int := psm (fun g => fri z f g (r g)) 6
theorem fcr_0 (p g : Nat) : fcr p g 0 = 0 := if_neg (fun h => h.1 rfl)
theorem ffi_0 (z : Nat → Int) (p g : Nat) : ffi z p g 0 = 0 := if_neg (fun h => h.1 rfl)
theorem fco_0 (p g : Nat) : fco p g 0 = 0 := if_neg (fun h => h.1 rfl)
theorem fri_0 (z : Nat → Int) (f : Int) (g : Nat) : fri z f g 0 = 0 := if_neg (fun h => h.1 rfl)
/-- the most squares of goods from one on -/
def zmx (z : Nat → Int) (g : Nat) : Int := max (zare z g 0) (zare z g 1)
def zop (z : Nat → Int) (G : Nat) : Nat → Int
  | 0 => 0
  | k + 1 => zop z G k + zmx z (G - (k + 1))
/-- a sound form of rows -/
def rok (z : Nat → Int) (r : Nat → Nat) : Prop := ∀ g : Nat, g < 6 → ((r g : Nat) : Int) ≤ 2 * z 0 ∧ (z 1 ≤ (g : Int) → r g = 0)
/-- what a plain good would bring in its place -/
def zpl (z : Nat → Int) (r : Nat → Nat) (g : Nat) : Int := zsal z g (szn (r g)) * zvw z (pgn (r g))
/-- what a good that is in brings, with so many goods open (the most that it may become) -/
def zsh (z : Nat → Int) (r : Nat → Nat) (g o : Nat) : Int :=
  if zknd z g = 1 then zpl z r g + z 4 * zvw z (pgn (r g)) * (ncr r (pgn (r g)) - 1 + (o : Int))
  else if zknd z g = 2 then (if 1 < nri z r (zfam z g) then (zpl z r g).tdiv (nri z r (zfam z g)) else zpl z r g)
  else if zknd z g = 3 then (if nfi z r (pgn (r g)) ≤ 16 ∧ 16 ≤ nfi z r (pgn (r g)) + zop z (z 1).toNat o then 2 * zpl z r g else zpl z r g)
  else zpl z r g
/-- pages that are used -/
def zus (z : Nat → Int) (r : Nat → Nat) : Int := psm (fun p => if 0 < ncr r p then 1 else 0) (z 0).toNat
/-- what goods that are decided bring, less all costs -/
def zbr (z : Nat → Int) (r : Nat → Nat) (d : Nat) : Int := psm (fun g => if r g = 0 then 0 else zsh z r g ((z 1).toNat - d)) d - 60 * (zus z r * z 5 + (zus z r + 1).tdiv 2 * z 6)
/-- what comes by the extra of a bond -/
def zga (z : Nat → Int) (r : Nat → Nat) (b : Nat) : Int :=
  if r (z (69 + 4 * b)).toNat = 0 ∨ r (z (70 + 4 * b)).toNat = 0 then 0
  else if z (68 + 4 * b) = 0 ∧ pgn (r (z (69 + 4 * b)).toNat) ≠ pgn (r (z (70 + 4 * b)).toNat) then 0
  else if z (68 + 4 * b) = 1 ∧ (min (pgn (r (z (69 + 4 * b)).toNat)) (pgn (r (z (70 + 4 * b)).toNat)) ≠ 1 ∨ max (pgn (r (z (69 + 4 * b)).toNat)) (pgn (r (z (70 + 4 * b)).toNat)) ≠ 2) then 0
  else z (71 + 4 * b) * min (zvw z (pgn (r (z (69 + 4 * b)).toNat))) (zvw z (pgn (r (z (70 + 4 * b)).toNat)))
/-- the worth of a plan -/
def zwo (z : Nat → Int) (r : Nat → Nat) : Int := zbr z r (z 1).toNat + psm (zga z r) (z 2).toNat
/-- does it keep a bond? -/
def zke (z : Nat → Int) (r : Nat → Nat) (b : Nat) : Prop :=
  r (z (69 + 4 * b)).toNat = 0 ∨ (z (68 + 4 * b) = 3 → r (z (70 + 4 * b)).toNat ≠ 0) ∧ (r (z (70 + 4 * b)).toNat ≠ 0 → (z (68 + 4 * b) = 4 → pgn (r (z (69 + 4 * b)).toNat) ≠ pgn (r (z (70 + 4 * b)).toNat)) ∧ (z (68 + 4 * b) = 5 → pgn (r (z (69 + 4 * b)).toNat) < pgn (r (z (70 + 4 * b)).toNat)))
-- ---- the most that a good can bring that is open
def zmv (z : Nat → Int) (r : Nat → Nat) (g o p s : Nat) : Int :=
  (((if zknd z g = 3 then 2 else 1) * zsal z g s + (if zknd z g = 1 then z 4 else 0) * (ncr r p + (o : Int) - 1)) * zvw z p).tdiv (if zknd z g = 2 then max (1 + nri z r (zfam z g)) 1 else 1)
def zms (z : Nat → Int) (r : Nat → Nat) (g o p s : Nat) (m : Int) : Int := if nfi z r p + zare z g s ≤ 16 then max m (zmv z r g o p s) else m
def zmp (z : Nat → Int) (r : Nat → Nat) (g o : Nat) : Nat → Int
  | 0 => 0
  | p + 1 => zms z r g o p 1 (zms z r g o p 0 (zmp z r g o p))
def zmo (z : Nat → Int) (r : Nat → Nat) (g o : Nat) : Int := zmp z r g o (z 0).toNat
/-- the bound -/
def zbo (z : Nat → Int) : Int := 60 * psm (fun b => max (z (71 + 4 * b)) 0) (z 2).toNat + psm (fun g => zmo z (fun _ => 0) g (z 1).toNat) (z 1).toNat
end
