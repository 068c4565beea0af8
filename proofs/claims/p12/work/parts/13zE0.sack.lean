noncomputable section
/-! L3: by squares alone, as numbers. -/
section
def fsm (f : Nat → Int) : Nat → Nat → Int
  | 0 => fun _ => 0
  | k + 1 => fun g => f g + fsm f k (g + 1)
theorem fsm_psm (f : Nat → Int) : ∀ k g, psm f (g + k) = psm f g + fsm f k g
  | 0, g => by show psm f g = psm f g + 0; omega
  | k + 1, g => by
    have := fsm_psm f k (g + 1)
    rw [show g + (k + 1) = g + 1 + k by omega, this]
    show psm f g + f g + _ = psm f g + (f g + _)
    omega
theorem fsm_0 (f : Nat → Int) (n : Nat) : psm f n = fsm f n 0 := by
  have := fsm_psm f n 0
  rw [Nat.zero_add] at this
  rw [this]
  show 0 + _ = _
  omega
theorem fsm_congr {f f' : Nat → Int} : ∀ {k g : Nat}, (∀ i, g ≤ i → i < g + k → f i = f' i) → fsm f k g = fsm f' k g
  | 0, _, _ => rfl
  | k + 1, g, h => by
    show f g + fsm f k (g + 1) = f' g + fsm f' k (g + 1)
    rw [h g (by omega) (by omega), fsm_congr (k := k) (g := g + 1) (fun i a b => h i (by omega) (by omega))]
theorem fsm_nn {f : Nat → Int} : ∀ {k g : Nat}, (∀ i, g ≤ i → i < g + k → 0 ≤ f i) → 0 ≤ fsm f k g
  | 0, _, _ => Int.le_refl _
  | k + 1, g, h => by
    have h1 := h g (by omega) (by omega)
    have h2 := fsm_nn (f := f) (k := k) (g := g + 1) (fun i a b => h i (by omega) (by omega))
    show 0 ≤ f g + fsm f k (g + 1)
    omega
def sqA (z : Nat → Int) (g d : Nat) : Int := if d = 0 then 0 else zare z g (d - 1)
def sqV (z : Nat → Int) (s : Int) (g d : Nat) : Int := if d = 0 then 0 else zsal z g (d - 1) * s
def swt (z : Nat → Int) (s : Int) (B : Int → Int) (g : Nat) (r : Int) (d : Nat) : Int := if d = 0 then B r else if 0 ≤ r - zare z g (d - 1) then zsal z g (d - 1) * s + B (r - zare z g (d - 1)) else -1
def smx (z : Nat → Int) (s : Int) : Nat → Nat → Int → Int
  | 0 => fun _ _ => 0
  | k + 1 => fun g r => max (max (max 0 (swt z s (smx z s k (g + 1)) g r 0)) (swt z s (smx z s k (g + 1)) g r 1)) (swt z s (smx z s k (g + 1)) g r 2)
theorem smx_s (z : Nat → Int) (s : Int) (k g : Nat) (r : Int) : smx z s (k + 1) g r = max (max (max 0 (swt z s (smx z s k (g + 1)) g r 0)) (swt z s (smx z s k (g + 1)) g r 1)) (swt z s (smx z s k (g + 1)) g r 2) := rfl
theorem smx_nn (z : Nat → Int) (s : Int) (k g : Nat) (r : Int) : 0 ≤ smx z s k g r := by
  cases k with
  | zero => exact Int.le_refl _
  | succ k => rw [smx_s]; omega
theorem swt_0 (z : Nat → Int) (s : Int) (B : Int → Int) (g : Nat) (r : Int) : swt z s B g r 0 = B r := rfl
theorem swt_le (z : Nat → Int) (s : Int) (k g : Nat) (r : Int) {d : Nat} (h : d < 3) : swt z s (smx z s k (g + 1)) g r d ≤ smx z s (k + 1) g r := by
  rw [smx_s]
  have : d = 0 ∨ d = 1 ∨ d = 2 := by omega
  rcases this with e | e | e <;> subst e <;> omega
theorem swt_val {z : Nat → Int} {s : Int} {B : Int → Int} {g d : Nat} {r : Int} (h : 0 ≤ r - sqA z g d) : swt z s B g r d = sqV z s g d + B (r - sqA z g d) := by
  unfold swt sqV sqA at *
  by_cases c : d = 0
  · rw [if_pos c, if_pos c, if_pos c, Int.sub_zero, Int.zero_add]
  · rw [if_neg c] at h
    rw [if_neg c, if_neg c, if_neg c, if_pos h]
def sdg (z : Nat → Int) (s : Int) (k g : Nat) (r : Int) : Nat := if swt z s (smx z s k (g + 1)) g r 0 = smx z s (k + 1) g r then 0 else if swt z s (smx z s k (g + 1)) g r 1 = smx z s (k + 1) g r then 1 else 2
theorem sdg_lt (z : Nat → Int) (s : Int) (k g : Nat) (r : Int) : sdg z s k g r < 3 := by
  unfold sdg
  split
  · omega
  · split <;> omega
theorem sdg_at (z : Nat → Int) (s : Int) (k g : Nat) (r : Int) : swt z s (smx z s k (g + 1)) g r (sdg z s k g r) = smx z s (k + 1) g r := by
  have n0 := smx_nn z s k (g + 1) r
  unfold sdg
  by_cases c : swt z s (smx z s k (g + 1)) g r 0 = smx z s (k + 1) g r
  · rw [if_pos c]; exact c
  · rw [if_neg c]
    by_cases c1 : swt z s (smx z s k (g + 1)) g r 1 = smx z s (k + 1) g r
    · rw [if_pos c1]; exact c1
    · rw [if_neg c1]
      rw [smx_s] at c c1 ⊢
      rw [swt_0] at c c1 ⊢
      omega
theorem sdg_le {z : Nat → Int} {s : Int} {k g : Nat} {r : Int} {d : Nat} (h : swt z s (smx z s k (g + 1)) g r d = smx z s (k + 1) g r) (h3 : d < 3) : sdg z s k g r ≤ d := by
  have : d = 0 ∨ d = 1 ∨ d = 2 := by omega
  unfold sdg
  rcases this with e | e | e
  · subst e; rw [if_pos h]; omega
  · subst e
    split
    · omega
    · first | omega | (rw [if_pos h]; omega)
  · subst e
    split
    · omega
    · split <;> omega
def spk (z : Nat → Int) (s : Int) : Nat → Nat → Int → Nat → Nat
  | 0 => fun _ _ _ => 0
  | k + 1 => fun g r w => if w = g then sdg z s k g r else spk z s k (g + 1) (r - sqA z g (sdg z s k g r)) w
theorem spk_s (z : Nat → Int) (s : Int) (k g : Nat) (r : Int) (w : Nat) : spk z s (k + 1) g r w = if w = g then sdg z s k g r else spk z s k (g + 1) (r - sqA z g (sdg z s k g r)) w := rfl
theorem spk_lt (z : Nat → Int) (s : Int) : ∀ (k g : Nat) (r : Int) (w : Nat), spk z s k g r w < 3
  | 0, _, _, _ => by show (0 : Nat) < 3; omega
  | k + 1, g, r, w => by
    rw [spk_s]
    by_cases c : w = g
    · rw [if_pos c]; exact sdg_lt z s k g r
    · rw [if_neg c]; exact spk_lt z s k (g + 1) _ w
def nmd : Nat → Nat → (Nat → Nat) → Nat
  | 0 => fun _ _ => 0
  | k + 1 => fun g d => d g * 3 ^ k + nmd k (g + 1) d
theorem nmd_s (k g : Nat) (d : Nat → Nat) : nmd (k + 1) g d = d g * 3 ^ k + nmd k (g + 1) d := rfl
theorem nmd_lt {d : Nat → Nat} (h : ∀ w, d w < 3) : ∀ k g, nmd k g d < 3 ^ k
  | 0, _ => by show 0 < 1; omega
  | k + 1, g => by
    have := nmd_lt h k (g + 1)
    have h2 : d g * 3 ^ k ≤ 2 * 3 ^ k := Nat.mul_le_mul_right _ (by have := h g; omega)
    rw [nmd_s, Nat.pow_succ]
    omega
theorem nmd_congr {d d' : Nat → Nat} : ∀ {k g : Nat}, (∀ w, g ≤ w → w < g + k → d w = d' w) → nmd k g d = nmd k g d'
  | 0, _, _ => rfl
  | k + 1, g, h => by
    rw [nmd_s, nmd_s, h g (by omega) (by omega), nmd_congr (k := k) (g := g + 1) (fun w a b => h w (by omega) (by omega))]
theorem pow_dm {k j a R : Nat} (h : j < k) : (a * 3 ^ k + R) / 3 ^ j % 3 = R / 3 ^ j % 3 := by
  obtain ⟨e, he⟩ : ∃ e, k = j + (e + 1) := ⟨k - j - 1, by omega⟩
  have e2 : a * 3 ^ k = 3 ^ j * (3 * (3 ^ e * a)) := by
    rw [he, Nat.pow_add, Nat.pow_succ]
    simp only [Nat.mul_assoc, Nat.mul_comm, Nat.mul_left_comm]
  rw [e2, Nat.add_comm, Nat.add_mul_div_left _ _ (Nat.pow_pos (by decide)), Nat.add_mul_mod_self_left]
theorem nmd_dig {d : Nat → Nat} (h : ∀ w, d w < 3) : ∀ k g w, g ≤ w → w < g + k → nmd k g d / 3 ^ (g + k - 1 - w) % 3 = d w
  | 0, g, w, a, b => absurd b (by omega)
  | k + 1, g, w, a, b => by
    rw [nmd_s]
    by_cases e : w = g
    · subst e
      have l := nmd_lt h k (w + 1)
      rw [show w + (k + 1) - 1 - w = k by omega, Nat.mul_comm, Nat.mul_add_div (Nat.pow_pos (by decide)), Nat.div_eq_of_lt l, Nat.add_zero, Nat.mod_eq_of_lt (h w)]
    · rw [pow_dm (show g + (k + 1) - 1 - w < k by omega)]
      have := nmd_dig h k (g + 1) w (by omega) (by omega)
      rw [show g + 1 + k - 1 - w = g + (k + 1) - 1 - w by omega] at this
      exact this
theorem nmd_of : ∀ (k g m : Nat), m < 3 ^ k → nmd k g (fun w => m / 3 ^ (g + k - 1 - w) % 3) = m
  | 0, _, m, h => by
    have : m < 1 := h
    show 0 = m
    omega
  | k + 1, g, m, h => by
    rw [Nat.pow_succ] at h
    have p3 : 0 < 3 ^ k := Nat.pow_pos (by decide)
    have q1 : m / 3 ^ k < 3 := Nat.div_lt_of_lt_mul (by omega)
    have dm : 3 ^ k * (m / 3 ^ k) + m % 3 ^ k = m := Nat.div_add_mod m (3 ^ k)
    have ih := nmd_of k (g + 1) (m % 3 ^ k) (Nat.mod_lt _ p3)
    rw [nmd_s]
    have e1 : nmd k (g + 1) (fun w => m / 3 ^ (g + (k + 1) - 1 - w) % 3) = m % 3 ^ k := by
      refine (nmd_congr (fun w a b => ?_)).trans ih
      show m / 3 ^ (g + (k + 1) - 1 - w) % 3 = m % 3 ^ k / 3 ^ (g + 1 + k - 1 - w) % 3
      rw [show g + 1 + k - 1 - w = g + (k + 1) - 1 - w by omega]
      have := pow_dm (a := m / 3 ^ k) (R := m % 3 ^ k) (show g + (k + 1) - 1 - w < k by omega)
      rw [Nat.mul_comm, dm] at this
      exact this
    show m / 3 ^ (g + (k + 1) - 1 - g) % 3 * 3 ^ k + _ = m
    rw [e1, show g + (k + 1) - 1 - g = k by omega, Nat.mod_eq_of_lt q1, Nat.mul_comm]
    exact dm
section
variable {z : Nat → Int} {s : Int} {n : Nat}
theorem sqA_nn (hA : ∀ i, i < n → ∀ c, c < 2 → 1 ≤ zare z i c) {i d : Nat} (hi : i < n) (hd : d < 3) : 0 ≤ sqA z i d := by
  unfold sqA
  by_cases c : d = 0
  · rw [if_pos c]; exact Int.le_refl _
  · rw [if_neg c]
    have := hA i hi (d - 1) (by omega)
    omega
theorem sq_up (hA : ∀ i, i < n → ∀ c, c < 2 → 1 ≤ zare z i c) {d : Nat → Nat} (hd : ∀ w, d w < 3) : ∀ (k g : Nat) (r : Int), g + k = n → fsm (fun w => sqA z w (d w)) k g ≤ r → fsm (fun w => sqV z s w (d w)) k g ≤ smx z s k g r
  | 0, g, r, _, _ => Int.le_refl _
  | k + 1, g, r, hn, h => by
    have h : sqA z g (d g) + fsm (fun w => sqA z w (d w)) k (g + 1) ≤ r := h
    have nn := fsm_nn (f := fun w => sqA z w (d w)) (k := k) (g := g + 1) (fun i a b => sqA_nn hA (by omega) (hd i))
    have ih := sq_up hA hd k (g + 1) (r - sqA z g (d g)) (by omega) (by omega)
    have v := swt_val (z := z) (s := s) (B := smx z s k (g + 1)) (g := g) (d := d g) (r := r) (by omega)
    have l := swt_le z s k g r (hd g)
    show sqV z s g (d g) + fsm (fun w => sqV z s w (d w)) k (g + 1) ≤ _
    omega
theorem sdg_fit {k g : Nat} {r : Int} (hr : 0 ≤ r) : 0 ≤ r - sqA z g (sdg z s k g r) := by
  have a := sdg_at z s k g r
  have nn := smx_nn z s (k + 1) g r
  rw [← a] at nn
  unfold swt at nn
  unfold sqA
  by_cases c : sdg z s k g r = 0
  · rw [if_pos c]; omega
  · rw [if_neg c] at nn ⊢
    by_cases c2 : 0 ≤ r - zare z g (sdg z s k g r - 1)
    · exact c2
    · rw [if_neg c2] at nn; omega
theorem sq_pk : ∀ (k g : Nat) (r : Int), 0 ≤ r → fsm (fun w => sqA z w (spk z s k g r w)) k g ≤ r ∧ fsm (fun w => sqV z s w (spk z s k g r w)) k g = smx z s k g r
  | 0, g, r, h => ⟨h, rfl⟩
  | k + 1, g, r, h => by
    have ft := sdg_fit (z := z) (s := s) (k := k) (g := g) h
    obtain ⟨i1, i2⟩ := sq_pk k (g + 1) _ ft
    have at0 : spk z s (k + 1) g r g = sdg z s k g r := by rw [spk_s, if_pos rfl]
    have at1 : ∀ w, g + 1 ≤ w → spk z s (k + 1) g r w = spk z s k (g + 1) (r - sqA z g (sdg z s k g r)) w := fun w hw => by rw [spk_s, if_neg (by omega)]
    have v := swt_val (z := z) (s := s) (B := smx z s k (g + 1)) ft
    rw [sdg_at] at v
    constructor
    · show sqA z g (spk z s (k + 1) g r g) + fsm (fun w => sqA z w (spk z s (k + 1) g r w)) k (g + 1) ≤ r
      rw [at0, fsm_congr (f' := fun w => sqA z w (spk z s k (g + 1) (r - sqA z g (sdg z s k g r)) w)) (fun i a _ => by show sqA z i _ = sqA z i _; rw [at1 i a])]
      omega
    · show sqV z s g (spk z s (k + 1) g r g) + fsm (fun w => sqV z s w (spk z s (k + 1) g r w)) k (g + 1) = _
      rw [at0, fsm_congr (f' := fun w => sqV z s w (spk z s k (g + 1) (r - sqA z g (sdg z s k g r)) w)) (fun i a _ => by show sqV z s i _ = sqV z s i _; rw [at1 i a]), i2, v]
theorem sq_lex (hA : ∀ i, i < n → ∀ c, c < 2 → 1 ≤ zare z i c) {d : Nat → Nat} (hd : ∀ w, d w < 3) : ∀ (k g : Nat) (r : Int), g + k = n → fsm (fun w => sqA z w (d w)) k g ≤ r → fsm (fun w => sqV z s w (d w)) k g = smx z s k g r → nmd k g (spk z s k g r) ≤ nmd k g d
  | 0, g, r, _, _, _ => Nat.le_refl _
  | k + 1, g, r, hn, h, hv => by
    have h : sqA z g (d g) + fsm (fun w => sqA z w (d w)) k (g + 1) ≤ r := h
    have hv : sqV z s g (d g) + fsm (fun w => sqV z s w (d w)) k (g + 1) = smx z s (k + 1) g r := hv
    have nn := fsm_nn (f := fun w => sqA z w (d w)) (k := k) (g := g + 1) (fun i a b => sqA_nn hA (by omega) (hd i))
    have up := sq_up (s := s) hA hd k (g + 1) (r - sqA z g (d g)) (by omega) (by omega)
    have v := swt_val (z := z) (s := s) (B := smx z s k (g + 1)) (g := g) (d := d g) (r := r) (by omega)
    have l := swt_le z s k g r (hd g)
    have le := sdg_le (z := z) (s := s) (k := k) (g := g) (r := r) (d := d g) (by omega) (hd g)
    have at0 : spk z s (k + 1) g r g = sdg z s k g r := by rw [spk_s, if_pos rfl]
    have at1 : ∀ w, g + 1 ≤ w → spk z s (k + 1) g r w = spk z s k (g + 1) (r - sqA z g (sdg z s k g r)) w := fun w hw => by rw [spk_s, if_neg (by omega)]
    have lt := nmd_lt (spk_lt z s k (g + 1) (r - sqA z g (sdg z s k g r))) k (g + 1)
    rw [nmd_s, nmd_s, at0, nmd_congr (d' := spk z s k (g + 1) (r - sqA z g (sdg z s k g r))) (fun w a _ => at1 w a)]
    by_cases e : sdg z s k g r = d g
    · rw [e]
      have := sq_lex hA hd k (g + 1) (r - sqA z g (d g)) (by omega) (by omega) (by omega)
      omega
    · have m1 : (sdg z s k g r + 1) * 3 ^ k ≤ d g * 3 ^ k := Nat.mul_le_mul_right _ (by omega)
      rw [Nat.add_mul, Nat.one_mul] at m1
      omega
def dnn (n m w : Nat) : Nat := m / 3 ^ (n - 1 - w) % 3
theorem dnn_lt (n m w : Nat) : dnn n m w < 3 := Nat.mod_lt _ (by decide)
theorem sq_first (hA : ∀ i, i < n → ∀ c, c < 2 → 1 ≤ zare z i c) {m : Nat} (hm : m < 3 ^ n) (hf : fsm (fun w => sqA z w (dnn n m w)) n 0 ≤ 16) (hmax : ∀ m', m' < 3 ^ n → fsm (fun w => sqA z w (dnn n m' w)) n 0 ≤ 16 → fsm (fun w => sqV z s w (dnn n m' w)) n 0 ≤ fsm (fun w => sqV z s w (dnn n m w)) n 0) (hfst : ∀ m', m' < m → fsm (fun w => sqA z w (dnn n m' w)) n 0 ≤ 16 → fsm (fun w => sqV z s w (dnn n m' w)) n 0 < fsm (fun w => sqV z s w (dnn n m w)) n 0) : fsm (fun w => sqV z s w (dnn n m w)) n 0 = smx z s n 0 16 ∧ ∀ w, w < n → dnn n m w = spk z s n 0 16 w := by
  have D3 := spk_lt z s n 0 16
  obtain ⟨p1, p2⟩ := sq_pk (z := z) (s := s) n 0 16 (by omega)
  have nl := nmd_lt D3 n 0
  have dg : ∀ w, w < n → dnn n (nmd n 0 (spk z s n 0 16)) w = spk z s n 0 16 w := fun w hw => by
    have := nmd_dig D3 n 0 w (by omega) (by omega)
    rw [Nat.zero_add] at this
    exact this
  have eA : fsm (fun w => sqA z w (dnn n (nmd n 0 (spk z s n 0 16)) w)) n 0 = fsm (fun w => sqA z w (spk z s n 0 16 w)) n 0 := fsm_congr (fun i _ b => by show sqA z i _ = sqA z i _; rw [dg i (by omega)])
  have eV : fsm (fun w => sqV z s w (dnn n (nmd n 0 (spk z s n 0 16)) w)) n 0 = fsm (fun w => sqV z s w (spk z s n 0 16 w)) n 0 := fsm_congr (fun i _ b => by show sqV z s i _ = sqV z s i _; rw [dg i (by omega)])
  have h1 := hmax _ nl (by rw [eA]; exact p1)
  rw [eV, p2] at h1
  have h2 := sq_up (s := s) hA (dnn_lt n m) n 0 16 (by omega) hf
  have ev : fsm (fun w => sqV z s w (dnn n m w)) n 0 = smx z s n 0 16 := by omega
  have lx := sq_lex hA (dnn_lt n m) n 0 16 (by omega) hf ev
  have eo : nmd n 0 (dnn n m) = m := by
    have := nmd_of n 0 m hm
    rw [← this]
    refine nmd_congr (fun w _ _ => ?_)
    show dnn n _ w = _
    rw [this]
    unfold dnn
    rw [Nat.zero_add]
  rw [eo] at lx
  have e : nmd n 0 (spk z s n 0 16) = m := by
    refine Classical.byContradiction (fun q => ?_)
    have := hfst (nmd n 0 (spk z s n 0 16)) (by omega) (by rw [eA]; exact p1)
    rw [eV, p2] at this
    omega
  exact ⟨ev, fun w hw => by rw [← dg w hw, e]⟩
end
-- ---- the price of a square
def tk1 (V a p : Int) : Int × Int := if 0 < V - p * a then (V - p * a, a) else (0, 0)
def tk2 (q : Int × Int) (V a p : Int) : Int × Int := if q.1 < V - p * a ∨ (V - p * a = q.1 ∧ a < q.2) then (V - p * a, a) else q
def zTk (z : Nat → Int) (s : Int) (g : Nat) (p : Int) : Int := (tk2 (tk1 (zsal z g 0 * s) (zare z g 0) p) (zsal z g 1 * s) (zare z g 1) p).2
def zTa (z : Nat → Int) (s : Int) (n : Nat) (p : Int) : Int := psm (fun g => zTk z s g p) n
theorem tk_anti {V0 a0 V1 a1 p q : Int} (h0 : 1 ≤ a0) (h1 : 1 ≤ a1) (h : p ≤ q) : (tk2 (tk1 V0 a0 q) V1 a1 q).2 ≤ (tk2 (tk1 V0 a0 p) V1 a1 p).2 := by
  have m0 : p * a0 ≤ q * a0 := Int.mul_le_mul_of_nonneg_right h (by omega)
  have m1 : p * a1 ≤ q * a1 := Int.mul_le_mul_of_nonneg_right h (by omega)
  have m2 : a0 ≤ a1 → q * a0 - p * a0 ≤ q * a1 - p * a1 := fun k => by
    have := Int.mul_le_mul_of_nonneg_left k (show 0 ≤ q - p by omega)
    rw [Int.sub_mul, Int.sub_mul] at this
    exact this
  have m3 : a1 ≤ a0 → q * a1 - p * a1 ≤ q * a0 - p * a0 := fun k => by
    have := Int.mul_le_mul_of_nonneg_left k (show 0 ≤ q - p by omega)
    rw [Int.sub_mul, Int.sub_mul] at this
    exact this
  have m4 : a1 = a0 → q * a1 = q * a0 ∧ p * a1 = p * a0 := fun k => by rw [k]; exact ⟨rfl, rfl⟩
  unfold tk2 tk1
  generalize p * a0 = X at *
  generalize p * a1 = Y at *
  generalize q * a0 = X' at *
  generalize q * a1 = Y' at *
  by_cases c1 : 0 < V0 - X
  · rw [if_pos c1]
    by_cases c2 : 0 < V0 - X'
    · rw [if_pos c2]
      dsimp only
      by_cases c3 : V0 - X' < V1 - Y' ∨ (V1 - Y' = V0 - X' ∧ a1 < a0)
      · rw [if_pos c3]
        by_cases c4 : V0 - X < V1 - Y ∨ (V1 - Y = V0 - X ∧ a1 < a0)
        · rw [if_pos c4]; exact Int.le_refl _
        · rw [if_neg c4]
          show a1 ≤ a0
          omega
      · rw [if_neg c3]
        by_cases c4 : V0 - X < V1 - Y ∨ (V1 - Y = V0 - X ∧ a1 < a0)
        · rw [if_pos c4]
          show a0 ≤ a1
          omega
        · rw [if_neg c4]; exact Int.le_refl _
    · rw [if_neg c2]
      dsimp only
      by_cases c3 : 0 < V1 - Y' ∨ (V1 - Y' = 0 ∧ a1 < 0)
      · rw [if_pos c3]
        by_cases c4 : V0 - X < V1 - Y ∨ (V1 - Y = V0 - X ∧ a1 < a0)
        · rw [if_pos c4]; exact Int.le_refl _
        · rw [if_neg c4]
          show a1 ≤ a0
          omega
      · rw [if_neg c3]
        by_cases c4 : V0 - X < V1 - Y ∨ (V1 - Y = V0 - X ∧ a1 < a0)
        · rw [if_pos c4]; show (0 : Int) ≤ a1; omega
        · rw [if_neg c4]; show (0 : Int) ≤ a0; omega
  · rw [if_neg c1]
    have c2 : ¬ 0 < V0 - X' := by omega
    rw [if_neg c2]
    dsimp only
    by_cases c3 : 0 < V1 - Y' ∨ (V1 - Y' = 0 ∧ a1 < 0)
    · rw [if_pos c3]
      by_cases c4 : 0 < V1 - Y ∨ (V1 - Y = 0 ∧ a1 < 0)
      · rw [if_pos c4]; exact Int.le_refl _
      · exact absurd (by omega) c4
    · rw [if_neg c3]
      by_cases c4 : 0 < V1 - Y ∨ (V1 - Y = 0 ∧ a1 < 0)
      · rw [if_pos c4]; show (0 : Int) ≤ a1; omega
      · rw [if_neg c4]; exact Int.le_refl _
theorem zTa_anti {z : Nat → Int} {s : Int} {n : Nat} (hA : ∀ i, i < n → ∀ c, c < 2 → 1 ≤ zare z i c) {p q : Int} (h : p ≤ q) : zTa z s n q ≤ zTa z s n p :=
  psm_le (fun i hi => tk_anti (hA i hi 0 (by omega)) (hA i hi 1 (by omega)) h)
theorem zTa_hi {z : Nat → Int} {s : Int} {n : Nat} (hA : ∀ i, i < n → ∀ c, c < 2 → 1 ≤ zare z i c) (hV : ∀ i, i < n → ∀ c, c < 2 → zsal z i c * s ≤ 59940) : zTa z s n 59940 = 0 := psm_zero (fun i hi => by
  have a0 := hA i hi 0 (by omega)
  have a1 := hA i hi 1 (by omega)
  have v0 := hV i hi 0 (by omega)
  have v1 := hV i hi 1 (by omega)
  unfold zTk tk1
  rw [if_neg (by omega)]
  unfold tk2
  rw [if_neg (by show ¬ ((0 : Int) < _ ∨ _ = (0 : Int) ∧ _ < (0 : Int)); omega)])
def pPri (z : Nat → Int) (s : Int) (n : Nat) (v : Int) : Prop := 0 ≤ v ∧ zTa z s n v ≤ 16 ∧ ∀ x, 0 ≤ x → x < v → ¬ zTa z s n x ≤ 16
theorem pPri_un {z : Nat → Int} {s : Int} {n : Nat} {v w : Int} (h : pPri z s n v) (k : pPri z s n w) : v = w := by
  obtain ⟨h1, h2, h3⟩ := h
  obtain ⟨k1, k2, k3⟩ := k
  rcases Int.lt_trichotomy v w with q | q | q
  · exact absurd h2 (k3 v h1 q)
  · exact q
  · exact absurd k2 (h3 w k1 q)
end
end
