noncomputable section
/-! L3, WHAT FITS A PAGE, by bits of squares; no program. -/
def cvl (w : Nat) : Nat → Nat
  | 0 => 0
  | y + 1 => cvl w y ||| ((2 ^ w - 1) <<< (4 * y))
/-- the squares of a good w by h from square q on; 0 where it is not within -/
def cvb (w h q : Nat) : Nat := if q % 4 + w ≤ 4 ∧ q / 4 + h ≤ 4 then cvl w h <<< q else 0
def pop (b : Nat) : Int := psm (fun i => if b.testBit i then 1 else 0) 16
def cvk (w h q : Nat) : Bool := Nat.blt (cvb w h q) 65536 && ((Nat.beq (cvb w h q) 0 || ((cvb w h q).testBit q && decide (pop (cvb w h q) = (w : Int) * (h : Int)))) && (List.range 16).all (fun i => !((cvb w h q).testBit i) || Nat.ble q i))
theorem cvk_all : ((List.range 4).all fun w => (List.range 4).all fun h => (List.range 16).all fun q => cvk (w + 1) (h + 1) q) = true := by decide +kernel
theorem cv_all {w : Nat} (w5 : w < 5) (w1 : 1 ≤ w) {h : Nat} (h5 : h < 5) (h1 : 1 ≤ h) {q : Nat} (hq : q < 16) : cvb w h q < 65536 ∧ (cvb w h q ≠ 0 → (cvb w h q).testBit q = true ∧ pop (cvb w h q) = (w : Int) * (h : Int)) ∧ (∀ i : Nat, i < 16 → (cvb w h q).testBit i = true → q ≤ i) := by
  obtain ⟨w', rfl⟩ : ∃ w', w = w' + 1 := ⟨w - 1, by omega⟩
  obtain ⟨h', rfl⟩ : ∃ h', h = h' + 1 := ⟨h - 1, by omega⟩
  have k := List.all_eq_true.mp (List.all_eq_true.mp (List.all_eq_true.mp cvk_all w' (List.mem_range.mpr (by omega))) h' (List.mem_range.mpr (by omega))) q (List.mem_range.mpr hq)
  unfold cvk at k
  simp only [Bool.and_eq_true, Bool.or_eq_true, decide_eq_true_eq] at k
  obtain ⟨k1, k2, k3⟩ := k
  refine ⟨Nat.le_of_ble_eq_true k1, fun hn => ?_, fun i hi hb => ?_⟩
  · rcases k2 with k2 | k2
    · exact absurd (Nat.eq_of_beq_eq_true k2) hn
    · exact k2
  · have := List.all_eq_true.mp k3 i (List.mem_range.mpr hi)
    rw [hb] at this
    exact Nat.le_of_ble_eq_true this
theorem cv_one : ∀ q : Nat, q < 16 → cvb 1 1 q = 2 ^ q := by decide +kernel
/-- what is asked of the squares of goods: B by good and first square, A their number -/
def gB (B : Nat → Nat → Nat) (A : Nat → Int) (M : Nat → Bool) : Prop := ∀ g, g < 6 → M g = true → ∀ q, q < 16 → (∀ i, (B g q).testBit i = true → q ≤ i ∧ i < 16) ∧ (B g q ≠ 0 → (B g q).testBit q = true ∧ pop (B g q) = A g)
theorem gB_sub {B : Nat → Nat → Nat} {A : Nat → Int} {M M' : Nat → Bool} (h : gB B A M) (k : ∀ g, g < 6 → M' g = true → M g = true) : gB B A M' := fun g hg hm => h g hg (k g hg hm)
def dj (x y : Nat) : Prop := ∀ i, x.testBit i = true → y.testBit i = true → False
theorem dj_iff {x y : Nat} : x &&& y = 0 ↔ dj x y := by
  constructor
  · intro h i h1 h2
    have : (x &&& y).testBit i = true := by rw [Nat.testBit_and, h1, h2]; rfl
    rw [h, Nat.zero_testBit] at this
    exact Bool.false_ne_true this
  · intro h
    apply Nat.eq_of_testBit_eq
    intro i
    rw [Nat.testBit_and, Nat.zero_testBit]
    cases h1 : x.testBit i
    · rfl
    · cases h2 : y.testBit i
      · rfl
      · exact absurd h2 (fun k => h i h1 k)
theorem dj_comm {x y : Nat} (h : dj x y) : dj y x := fun i a b => h i b a
theorem dj_or {x y w : Nat} : dj x (y ||| w) ↔ dj x y ∧ dj x w := by
  constructor
  · intro h
    exact ⟨fun i a b => h i a (by rw [Nat.testBit_or, b]; rfl), fun i a b => h i a (by rw [Nat.testBit_or, b]; simp)⟩
  · intro h i a b
    rw [Nat.testBit_or, Bool.or_eq_true] at b
    rcases b with b | b
    · exact h.1 i a b
    · exact h.2 i a b
/-- goods of M can lie beside t, with first squares from s on -/
def plF (B : Nat → Nat → Nat) (M : Nat → Bool) (t s : Nat) : Prop := ∃ pos : Nat → Nat, (∀ g, g < 6 → M g = true → s ≤ pos g ∧ pos g < 16 ∧ B g (pos g) ≠ 0 ∧ dj (B g (pos g)) t) ∧ ∀ g k, g < 6 → k < 6 → M g = true → M k = true → g ≠ k → dj (B g (pos g)) (B k (pos k))
def mdel (M : Nat → Bool) (g : Nat) : Nat → Bool := fun k => if k = g then false else M k
theorem mdel_ne {M : Nat → Bool} {g k : Nat} (h : mdel M g k = true) : k ≠ g ∧ M k = true := by
  unfold mdel at h
  by_cases e : k = g
  · rw [if_pos e] at h; exact absurd h (by decide)
  · rw [if_neg e] at h; exact ⟨e, h⟩
theorem mdel_of {M : Nat → Bool} {g k : Nat} (h : M k = true) (e : k ≠ g) : mdel M g k = true := by
  unfold mdel
  rw [if_neg e]; exact h
theorem plF_none {B : Nat → Nat → Nat} {M : Nat → Bool} {t s : Nat} (h : ∀ g, g < 6 → M g = false) : plF B M t s :=
  ⟨fun _ => 0, fun g hg hm => by rw [h g hg] at hm; exact absurd hm (by decide), fun g k hg _ hm => by rw [h g hg] at hm; exact absurd hm (by decide)⟩
theorem plF_end {B : Nat → Nat → Nat} {M : Nat → Bool} {t s : Nat} (hs : 16 ≤ s) (h : plF B M t s) : ∀ g, g < 6 → M g = false := by
  intro g hg
  cases hm : M g
  · rfl
  · obtain ⟨pos, p1, -⟩ := h
    have := p1 g hg hm
    omega
theorem plF_mono {B : Nat → Nat → Nat} {M : Nat → Bool} {t s : Nat} (h : plF B M t (s + 1)) : plF B M t s := by
  obtain ⟨pos, p1, p2⟩ := h
  exact ⟨pos, fun g hg hm => ⟨by have := (p1 g hg hm).1; omega, (p1 g hg hm).2⟩, p2⟩
/-- a square that is taken is no first square -/
theorem plF_skip {B : Nat → Nat → Nat} {A : Nat → Int} {M : Nat → Bool} {t s : Nat} (hB : gB B A M) (ht : t.testBit s = true) : plF B M t s ↔ plF B M t (s + 1) := by
  refine ⟨fun h => ?_, plF_mono⟩
  obtain ⟨pos, p1, p2⟩ := h
  refine ⟨pos, fun g hg hm => ?_, p2⟩
  obtain ⟨a, b, c, d⟩ := p1 g hg hm
  refine ⟨?_, b, c, d⟩
  by_cases e : pos g = s
  · have := ((hB g hg hm (pos g) b).2 c).1
    rw [e] at this d
    exact absurd ht (fun k => d s this k)
  · omega
/-- a free square is the first one of a good or of none -/
theorem plF_step {B : Nat → Nat → Nat} {A : Nat → Int} {M : Nat → Bool} {t s : Nat} (hB : gB B A M) (hs : s < 16) : plF B M t s ↔ (∃ g, g < 6 ∧ M g = true ∧ B g s ≠ 0 ∧ dj (B g s) t ∧ plF B (mdel M g) (t ||| B g s) (s + 1)) ∨ plF B M t (s + 1) := by
  constructor
  · rintro ⟨pos, p1, p2⟩
    by_cases he : ∃ g, g < 6 ∧ M g = true ∧ pos g = s
    · obtain ⟨g, hg, hm, e⟩ := he
      left
      obtain ⟨a, b, c, d⟩ := p1 g hg hm
      have cb := ((hB g hg hm (pos g) b).2 c).1
      rw [e] at c d cb
      refine ⟨g, hg, hm, c, d, pos, fun k hk hk' => ?_, fun k l hk hl hk' hl' => p2 k l hk hl (mdel_ne hk').2 (mdel_ne hl').2⟩
      obtain ⟨kg, km⟩ := mdel_ne hk'
      obtain ⟨a', b', c', d'⟩ := p1 k hk km
      have dd := p2 k g hk hg km hm kg
      rw [e] at dd
      refine ⟨?_, b', c', dj_or.mpr ⟨d', dd⟩⟩
      by_cases e' : pos k = s
      · have := ((hB k hk km (pos k) b').2 c').1
        rw [e'] at this dd
        exact absurd cb (fun q => dd s this q)
      · omega
    · right
      refine ⟨pos, fun g hg hm => ?_, p2⟩
      obtain ⟨a, b, c, d⟩ := p1 g hg hm
      refine ⟨?_, b, c, d⟩
      by_cases e : pos g = s
      · exact absurd ⟨g, hg, hm, e⟩ he
      · omega
  · rintro (⟨g, hg, hm, c, d, pos, p1, p2⟩ | h)
    · refine ⟨pup pos g s, fun k hk km => ?_, fun k l hk hl km lm hkl => ?_⟩
      · by_cases e : k = g
        · subst e
          rw [pup_at]
          exact ⟨Nat.le_refl _, hs, c, d⟩
        · rw [pup_ne _ _ e]
          obtain ⟨a', b', c', d'⟩ := p1 k hk (mdel_of km e)
          exact ⟨by omega, b', c', (dj_or.mp d').1⟩
      · by_cases e : k = g
        · subst e
          rw [pup_at, pup_ne _ _ (fun hh => hkl hh.symm)]
          obtain ⟨-, -, -, d'⟩ := p1 l hl (mdel_of lm (fun hh => hkl hh.symm))
          exact dj_comm (dj_or.mp d').2
        · by_cases e' : l = g
          · subst e'
            rw [pup_at, pup_ne _ _ e]
            obtain ⟨-, -, -, d'⟩ := p1 k hk (mdel_of km e)
            exact (dj_or.mp d').2
          · rw [pup_ne _ _ e, pup_ne _ _ e']
            exact p2 k l hk hl (mdel_of km e) (mdel_of lm e') hkl
    · exact plF_mono h
-- ---- counting
/-- free squares from s on -/
def fre (t s : Nat) : Int := psm (fun i => if s ≤ i ∧ t.testBit i = false then 1 else 0) 16
theorem fre_nn (t s : Nat) : 0 ≤ fre t s := by
  have h := psm_le (f := fun _ => 0) (g := fun i => if s ≤ i ∧ t.testBit i = false then 1 else 0) (n := 16) (fun i _ => by
    by_cases h : s ≤ i ∧ t.testBit i = false
    · (try dsimp only); rw [if_pos h]; omega
    · (try dsimp only); rw [if_neg h]; omega)
  rw [psm_const] at h
  unfold fre
  omega
theorem fre_or {t b s : Nat} (h : dj b t) (k : ∀ i, b.testBit i = true → s ≤ i) : fre (t ||| b) s + pop b = fre t s := by
  unfold fre pop
  rw [← psm_add]
  refine psm_congr (fun i _ => ?_)
  try dsimp only
  rw [Nat.testBit_or]
  cases h1 : b.testBit i
  · cases h2 : t.testBit i
    · by_cases h3 : s ≤ i
      · rw [if_pos ⟨h3, rfl⟩, if_neg (by decide), if_pos ⟨h3, rfl⟩]; rfl
      · rw [if_neg (fun q => h3 q.1), if_neg (by decide), if_neg (fun q => h3 q.1)]; rfl
    · rw [if_neg (fun q => absurd q.2 (by decide)), if_neg (by decide), if_neg (fun q => absurd q.2 (by decide))]; rfl
  · have h2 : t.testBit i = false := by
      cases h2 : t.testBit i
      · rfl
      · exact absurd h2 (fun q => h i h1 q)
    rw [h2, if_neg (fun q => absurd q.2 (by decide)), if_pos rfl, if_pos ⟨k i h1, rfl⟩]; rfl
theorem fre_free {t s : Nat} (hs : s < 16) (ht : t.testBit s = false) : fre t (s + 1) + 1 = fre t s := by
  unfold fre
  have e : psm (fun i => if i = s then 1 else 0) 16 = 1 := by
    have := psm_up (F := fun _ c => if c = 0 then 0 else 1) (r := fun _ => 0) (k := s) (c := 1) (n := 16) hs
    rw [psm_zero (f := fun g => (fun _ c => if c = 0 then 0 else 1) g ((fun _ => 0 : Nat → Nat) g)) (fun i _ => rfl)] at this
    have e2 : psm (fun i => if i = s then 1 else 0) 16 = psm (fun g => (fun _ c => if c = 0 then (0 : Int) else 1) g (pup (fun _ => 0) s 1 g)) 16 := psm_congr (fun i _ => by
      unfold pup
      by_cases h : i = s
      · (try dsimp only); rw [if_pos h, if_pos h]; rfl
      · (try dsimp only); rw [if_neg h, if_neg h]; rfl)
    rw [e2, this]; rfl
  suffices h2 : psm (fun i => if s + 1 ≤ i ∧ t.testBit i = false then 1 else 0) 16 + psm (fun i => if i = s then 1 else 0) 16 = psm (fun i => if s ≤ i ∧ t.testBit i = false then 1 else 0) 16 by
    rw [e] at h2; exact h2
  rw [← psm_add]
  refine psm_congr (fun i _ => ?_)
  try dsimp only
  by_cases h1 : i = s
  · subst h1
    rw [if_neg (fun q => absurd q.1 (by omega)), if_pos rfl, if_pos ⟨Nat.le_refl _, ht⟩]; rfl
  · rw [if_neg h1]
    by_cases h2 : s ≤ i ∧ t.testBit i = false
    · rw [if_pos h2, if_pos ⟨by omega, h2.2⟩]; rfl
    · rw [if_neg h2, if_neg (fun q => h2 ⟨by omega, q.2⟩)]; rfl
def mar (A : Nat → Int) (M : Nat → Bool) (n : Nat) : Int := psm (fun g => if M g = true then A g else 0) n
/-- all that lies, of goods below n -/
def uni (B : Nat → Nat → Nat) (M : Nat → Bool) (pos : Nat → Nat) (t : Nat) : Nat → Nat
  | 0 => t
  | n + 1 => if M n = true then uni B M pos t n ||| B n (pos n) else uni B M pos t n
theorem uni_dj {B : Nat → Nat → Nat} {M : Nat → Bool} {pos : Nat → Nat} {t x : Nat} : ∀ {n : Nat}, dj x t → (∀ g, g < n → M g = true → dj x (B g (pos g))) → dj x (uni B M pos t n)
  | 0, h, _ => h
  | n + 1, h, k => by
    show dj x (if M n = true then uni B M pos t n ||| B n (pos n) else uni B M pos t n)
    have ih := uni_dj (B := B) (M := M) (pos := pos) (n := n) h (fun g hg hm => k g (by omega) hm)
    by_cases hm : M n = true
    · rw [if_pos hm]; exact dj_or.mpr ⟨ih, k n (by omega) hm⟩
    · rw [if_neg hm]; exact ih
theorem uni_sub {B : Nat → Nat → Nat} {M : Nat → Bool} {pos : Nat → Nat} {t i : Nat} : ∀ {n : Nat}, (uni B M pos t n).testBit i = false → t.testBit i = false ∧ ∀ g, g < n → M g = true → (B g (pos g)).testBit i = false
  | 0, h => ⟨h, fun g hg => absurd hg (by omega)⟩
  | n + 1, h => by
    have h : (if M n = true then uni B M pos t n ||| B n (pos n) else uni B M pos t n).testBit i = false := h
    by_cases hm : M n = true
    · rw [if_pos hm, Nat.testBit_or, Bool.or_eq_false_iff] at h
      obtain ⟨a, b⟩ := uni_sub (n := n) h.1
      refine ⟨a, fun g hg hgm => ?_⟩
      by_cases e : g = n
      · rw [e]; exact h.2
      · exact b g (by omega) hgm
    · rw [if_neg hm] at h
      obtain ⟨a, b⟩ := uni_sub (n := n) h
      refine ⟨a, fun g hg hgm => ?_⟩
      by_cases e : g = n
      · rw [e] at hgm; exact absurd hgm hm
      · exact b g (by omega) hgm
theorem uni_cnt {B : Nat → Nat → Nat} {A : Nat → Int} {M : Nat → Bool} {pos : Nat → Nat} {t s : Nat} (hB : gB B A M) (p1 : ∀ g, g < 6 → M g = true → s ≤ pos g ∧ pos g < 16 ∧ B g (pos g) ≠ 0 ∧ dj (B g (pos g)) t) (p2 : ∀ g k, g < 6 → k < 6 → M g = true → M k = true → g ≠ k → dj (B g (pos g)) (B k (pos k))) : ∀ n, n ≤ 6 → fre (uni B M pos t n) s + mar A M n = fre t s
  | 0, _ => by show fre t s + 0 = fre t s; omega
  | n + 1, h => by
    have ih := uni_cnt hB p1 p2 n (by omega)
    show fre (if M n = true then uni B M pos t n ||| B n (pos n) else uni B M pos t n) s + (mar A M n + if M n = true then A n else 0) = fre t s
    by_cases hm : M n = true
    · obtain ⟨a, b, c, d⟩ := p1 n (by omega) hm
      obtain ⟨k1, k2⟩ := hB n (by omega) hm (pos n) b
      have := fre_or (s := s) (uni_dj (B := B) (M := M) (pos := pos) (n := n) d (fun g hg hgm => p2 n g (by omega) (by omega) hm hgm (by omega))) (fun i hi => by have := (k1 i hi).1; omega)
      rw [(k2 c).2] at this
      rw [if_pos hm, if_pos hm]
      omega
    · rw [if_neg hm, if_neg hm]
      omega
theorem plF_cnt {B : Nat → Nat → Nat} {A : Nat → Int} {M : Nat → Bool} {t s : Nat} (hB : gB B A M) (h : plF B M t s) : mar A M 6 ≤ fre t s := by
  obtain ⟨pos, p1, p2⟩ := h
  have := uni_cnt hB p1 p2 6 (by omega)
  have := fre_nn (uni B M pos t 6) s
  omega
theorem psm_pos {f : Nat → Int} : ∀ {n : Nat}, 0 < psm f n → ∃ i, i < n ∧ 0 < f i
  | 0, h => absurd h (by show ¬ (0 : Int) < 0; omega)
  | n + 1, h => by
    by_cases k : 0 < f n
    · exact ⟨n, by omega, k⟩
    · have h : 0 < psm f n + f n := h
      obtain ⟨i, hi, q⟩ := psm_pos (f := f) (n := n) (by omega)
      exact ⟨i, by omega, q⟩
/-- a good of one square more, where a square is left -/
theorem plF_add {B : Nat → Nat → Nat} {A : Nat → Int} {M : Nat → Bool} {t g : Nat} (hB : gB B A M) (hm : M g = false) (h1 : ∀ q, q < 16 → B g q = 2 ^ q) (hc : mar A M 6 < fre t 0) (h : plF B M t 0) : plF B (fun k => if k = g then true else M k) t 0 := by
  obtain ⟨pos, p1, p2⟩ := h
  have e := uni_cnt hB p1 p2 6 (by omega)
  obtain ⟨i, hi, q⟩ := psm_pos (show 0 < fre (uni B M pos t 6) 0 by omega)
  have q2 : (uni B M pos t 6).testBit i = false := by
    cases hb : (uni B M pos t 6).testBit i
    · rfl
    · try dsimp only at q
      rw [hb, if_neg (fun k => absurd k.2 (by decide))] at q
      omega
  obtain ⟨u1, u2⟩ := uni_sub q2
  have bi : ∀ j, (2 ^ i).testBit j = true → j = i := fun j hj => by
    by_cases e : i = j
    · exact e.symm
    · rw [Nat.testBit_two_pow_of_ne e] at hj; exact absurd hj (by decide)
  have key : ∀ y, y.testBit i = false → dj (2 ^ i) y := fun y hy j a b => by
    rw [bi j a, hy] at b; exact Bool.false_ne_true b
  have mk : ∀ k, k ≠ g → (if k = g then true else M k) = true → M k = true := fun k e hk => by rw [if_neg e] at hk; exact hk
  refine ⟨pup pos g i, fun k hk km => ?_, fun k l hk hl km lm hkl => ?_⟩
  · by_cases e : k = g
    · subst e
      rw [pup_at, h1 i hi]
      exact ⟨by omega, hi, Nat.ne_of_gt (Nat.two_pow_pos i), key t u1⟩
    · rw [pup_ne _ _ e]
      exact p1 k hk (mk k e km)
  · by_cases e : k = g
    · subst e
      rw [pup_at, h1 i hi, pup_ne _ _ (fun hh => hkl hh.symm)]
      exact key _ (u2 l hl (mk l (fun hh => hkl hh.symm) lm))
    · by_cases e' : l = g
      · subst e'
        rw [pup_at, h1 i hi, pup_ne _ _ e]
        exact dj_comm (key _ (u2 k hk (mk k e km)))
      · rw [pup_ne _ _ e, pup_ne _ _ e']
        exact p2 k l hk hl (mk k e km) (mk l e' lm) hkl
/-- those of one square need no trying -/
theorem plF_large {B : Nat → Nat → Nat} {A : Nat → Int} {M : Nat → Bool} {t : Nat} (hB : gB B A M) (h1 : ∀ g, g < 6 → M g = true → A g = 1 → ∀ q, q < 16 → B g q = 2 ^ q) (h0 : ∀ g, g < 6 → M g = true → 0 ≤ A g) (hc : mar A M 6 ≤ fre t 0) (h : plF B (fun g => M g && !(decide (A g = 1))) t 0) : plF B M t 0 := by
  have step : ∀ n, n ≤ 6 → plF B (fun g => if g < n then M g else M g && !(decide (A g = 1))) t 0 := by
    intro n
    induction n with
    | zero =>
      intro _
      have e : (fun g => if g < 0 then M g else M g && !(decide (A g = 1))) = (fun g => M g && !(decide (A g = 1))) := by
        funext g; rw [if_neg (by omega)]
      rw [e]; exact h
    | succ n ih =>
      intro hn
      have ih := ih (by omega)
      by_cases hs : M n = true ∧ A n = 1
      · have e : (fun g => if g < n + 1 then M g else M g && !(decide (A g = 1))) = (fun k => if k = n then true else (fun g => if g < n then M g else M g && !(decide (A g = 1))) k) := by
          funext k
          by_cases ek : k = n
          · rw [if_pos ek, if_pos (by omega), ek, hs.1]
          · rw [if_neg ek]
            by_cases hk : k < n
            · (try dsimp only); rw [if_pos hk, if_pos (by omega)]
            · (try dsimp only); rw [if_neg hk, if_neg (by omega)]
        rw [e]
        have sub : ∀ g, g < 6 → (if g < n then M g else M g && !(decide (A g = 1))) = true → M g = true := fun g _ hh => by
          by_cases hg : g < n
          · rw [if_pos hg] at hh; exact hh
          · rw [if_neg hg, Bool.and_eq_true] at hh; exact hh.1
        have off : (if n < n then M n else M n && !(decide (A n = 1))) = false := by
          rw [if_neg (by omega), hs.2]; simp
        refine plF_add (gB_sub hB sub) off (h1 n (by omega) hs.1 hs.2) ?_ ih
        have lt : mar A (fun g => if g < n then M g else M g && !(decide (A g = 1))) 6 + 1 ≤ mar A M 6 := by
          have one : psm (fun i => if i = n then 1 else 0) 6 = 1 := by
            have : ∀ n : Nat, n < 6 → psm (fun i => if i = n then 1 else 0) 6 = 1 := by decide
            exact this n (by omega)
          suffices h2 : mar A (fun g => if g < n then M g else M g && !(decide (A g = 1))) 6 + psm (fun i => if i = n then 1 else 0) 6 ≤ mar A M 6 by
            rw [one] at h2; exact h2
          unfold mar
          rw [← psm_add]
          refine psm_le (fun i hi => ?_)
          try dsimp only
          by_cases ei : i = n
          · subst ei
            rw [if_neg (show ¬ ((if i < i then M i else M i && !decide (A i = 1)) = true) by rw [off]; decide), if_pos rfl, if_pos hs.1, hs.2]
            omega
          · rw [if_neg ei]
            by_cases hh : (if i < n then M i else M i && !(decide (A i = 1))) = true
            · rw [if_pos hh, if_pos (sub i hi hh)]; omega
            · rw [if_neg hh]
              by_cases hm : M i = true
              · rw [if_pos hm]; have := h0 i hi hm; omega
              · rw [if_neg hm]; omega
        omega
      · obtain ⟨pos, p1, p2⟩ := ih
        have eq : ∀ k, (if k < n + 1 then M k else M k && !(decide (A k = 1))) = true → (if k < n then M k else M k && !(decide (A k = 1))) = true := fun k hk => by
          by_cases ek : k = n
          · subst ek
            rw [if_pos (by omega)] at hk
            rw [if_neg (by omega), hk]
            have : ¬ A k = 1 := fun q => hs ⟨hk, q⟩
            simp [this]
          · by_cases hl : k < n
            · rw [if_pos hl]; rw [if_pos (by omega)] at hk; exact hk
            · rw [if_neg hl]; rw [if_neg (by omega)] at hk; exact hk
        exact ⟨pos, fun g hg hm => p1 g hg (eq g hm), fun g k hg hk hm km => p2 g k hg hk (eq g hm) (eq k km)⟩
  obtain ⟨pos, p1, p2⟩ := step 6 (by omega)
  exact ⟨pos, fun g hg hm => p1 g hg (by (try dsimp only); rw [if_pos hg]; exact hm), fun g k hg hk hm km => p2 g k hg hk (by (try dsimp only); rw [if_pos hg]; exact hm) (by (try dsimp only); rw [if_pos hk]; exact km)⟩
-- ---- of a book, by a code
def dig (code g : Nat) : Nat := code / 3 ^ g % 3
def zB (z : Nat → Int) (code g q : Nat) : Nat := cvb (z (16 + 8 * g + 3 * (dig code g - 1))).toNat (z (17 + 8 * g + 3 * (dig code g - 1))).toNat q
def zA (z : Nat → Int) (code g : Nat) : Int := zare z g (dig code g - 1)
def zM (code g : Nat) : Bool := !(Nat.beq (dig code g) 0)
theorem zM_t {code g : Nat} : zM code g = true ↔ dig code g ≠ 0 := by
  unfold zM
  constructor
  · intro h e
    rw [e] at h; exact absurd h (by decide)
  · intro h
    cases hb : Nat.beq (dig code g) 0
    · rfl
    · exact absurd (Nat.eq_of_beq_eq_true hb) h
theorem dig_lt (code g : Nat) : dig code g < 3 := Nat.mod_lt _ (by decide)
/-- goods with sizes fit a page -/
def zfit (z : Nat → Int) (code : Nat) : Prop := plF (zB z code) (zM code) 0 0
/-- a code of goods that are there -/
def zcd (z : Nat → Int) (code : Nat) : Prop := ∀ g, g < 6 → zM code g = true → (g : Int) < z 1
theorem zgB {z : Nat → Int} {code : Nat} (hw : wf z) (hc : zcd z code) : gB (zB z code) (zA z code) (zM code) := by
  intro g hg hm q hq
  have hd := dig_lt code g
  have h0 := zM_t.mp hm
  obtain ⟨a, b, c, d⟩ := wf_are hw (hc g hg hm) (show dig code g - 1 < 2 by omega)
  obtain ⟨c1, c2, c3⟩ := cv_all (w := (z (16 + 8 * g + 3 * (dig code g - 1))).toNat) (by omega) (by omega) (h := (z (17 + 8 * g + 3 * (dig code g - 1))).toNat) (by omega) (by omega) hq
  refine ⟨fun i hi => ?_, fun hn => ⟨(c2 hn).1, ?_⟩⟩
  · have h16 : i < 16 := by
      by_cases h : i < 16
      · exact h
      · have : (zB z code g q).testBit i = false := Nat.testBit_lt_two_pow (Nat.lt_of_lt_of_le c1 (Nat.pow_le_pow_right (n := 2) (by decide) (show 16 ≤ i by omega)))
        rw [this] at hi; exact absurd hi (by decide)
    exact ⟨c3 i h16 hi, h16⟩
  · have e1 : ((z (16 + 8 * g + 3 * (dig code g - 1))).toNat : Int) = z (16 + 8 * g + 3 * (dig code g - 1)) := by omega
    have e2 : ((z (17 + 8 * g + 3 * (dig code g - 1))).toNat : Int) = z (17 + 8 * g + 3 * (dig code g - 1)) := by omega
    show pop (cvb _ _ q) = _
    rw [(c2 hn).2, e1, e2]
    rfl
theorem zone {z : Nat → Int} {code : Nat} (hw : wf z) (hc : zcd z code) : ∀ g, g < 6 → zM code g = true → zA z code g = 1 → ∀ q, q < 16 → zB z code g q = 2 ^ q := by
  intro g hg hm h1 q hq
  have hd := dig_lt code g
  have h0 := zM_t.mp hm
  obtain ⟨a, b, c, d⟩ := wf_are hw (hc g hg hm) (show dig code g - 1 < 2 by omega)
  unfold zA zare at h1
  have e1 : z (16 + 8 * g + 3 * (dig code g - 1)) = 1 := by
    by_cases h : z (16 + 8 * g + 3 * (dig code g - 1)) = 1
    · exact h
    · have := Int.mul_le_mul (show 2 ≤ z (16 + 8 * g + 3 * (dig code g - 1)) by omega) d.1 (by omega) (by omega)
      omega
  have e2 : z (17 + 8 * g + 3 * (dig code g - 1)) = 1 := by
    rw [e1] at h1; omega
  unfold zB
  rw [e1, e2]
  exact cv_one q hq
theorem fre_all : fre 0 0 = 16 := by decide
/-- fit: by squares, and those of several squares alone -/
theorem zfit_iff {z : Nat → Int} {code : Nat} (hw : wf z) (hc : zcd z code) : zfit z code ↔ mar (zA z code) (zM code) 6 ≤ 16 ∧ plF (zB z code) (fun g => zM code g && !(decide (zA z code g = 1))) 0 0 := by
  constructor
  · intro h
    refine ⟨by have := plF_cnt (zgB hw hc) h; rw [fre_all] at this; exact this, ?_⟩
    obtain ⟨pos, p1, p2⟩ := h
    have sub : ∀ g, (zM code g && !(decide (zA z code g = 1))) = true → zM code g = true := fun g hh => (Bool.and_eq_true_iff.mp hh).1
    exact ⟨pos, fun g hg hm => p1 g hg (sub g hm), fun g k hg hk hm km => p2 g k hg hk (sub g hm) (sub k km)⟩
  · rintro ⟨h1, h2⟩
    exact plF_large (zgB hw hc) (zone hw hc) (fun g hg hm => by
      have hd := dig_lt code g
      have h0 := zM_t.mp hm
      have := (wf_are hw (hc g hg hm) (show dig code g - 1 < 2 by omega)).1
      unfold zA; omega) (by rw [fre_all]; exact h1) h2
end
