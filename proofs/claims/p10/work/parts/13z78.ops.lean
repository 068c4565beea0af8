noncomputable section
/-! L3: contents that are well formed; what calls do to them, by number. -/
def wfG (z : Nat → Int) : Prop := ∀ g : Nat, (g : Int) < z 1 → (0 ≤ z (14 + 8 * g) ∧ z (14 + 8 * g) ≤ 3) ∧ (0 ≤ z (15 + 8 * g) ∧ z (15 + 8 * g) ≤ 3) ∧ ∀ s : Nat, s < 2 → (1 ≤ z (16 + 8 * g + 3 * s) ∧ z (16 + 8 * g + 3 * s) ≤ 4) ∧ (1 ≤ z (17 + 8 * g + 3 * s) ∧ z (17 + 8 * g + 3 * s) ≤ 4) ∧ (0 ≤ z (18 + 8 * g + 3 * s) ∧ z (18 + 8 * g + 3 * s) ≤ 999)
def wfB (z : Nat → Int) : Prop := ∀ b : Nat, (b : Int) < z 2 → (0 ≤ z (68 + 4 * b) ∧ z (68 + 4 * b) ≤ 5) ∧ (0 ≤ z (69 + 4 * b) ∧ z (69 + 4 * b) < z 1) ∧ (0 ≤ z (70 + 4 * b) ∧ z (70 + 4 * b) < z 1) ∧ ¬ z (69 + 4 * b) = z (70 + 4 * b) ∧ (-99 ≤ z (71 + 4 * b) ∧ z (71 + 4 * b) ≤ 99) ∧ (3 ≤ z (68 + 4 * b) → z (71 + 4 * b) = 0)
def wfS (z : Nat → Int) : Prop := (∀ p : Nat, p < 3 → 0 ≤ z (10 + p) ∧ z (10 + p) ≤ 60) ∧ (0 ≤ z 4 ∧ z 4 ≤ 99) ∧ (0 ≤ z 5 ∧ z 5 ≤ 999) ∧ (0 ≤ z 6 ∧ z 6 ≤ 999) ∧ (0 ≤ z 3 ∧ z 3 ≤ 12)
def wf (z : Nat → Int) : Prop := zr z ∧ wfS z ∧ wfG z ∧ wfB z
theorem wfG_ext {z w : Nat → Int} (h : ∀ j, j = 1 ∨ (14 ≤ j ∧ j < 62) → w j = z j) (h6 : z 1 ≤ 6) (k : wfG z) : wfG w := by
  intro g hg
  rw [h 1 (Or.inl rfl)] at hg
  obtain ⟨a, b, c⟩ := k g hg
  rw [h (14 + 8 * g) (Or.inr (by omega)), h (15 + 8 * g) (Or.inr (by omega))]
  refine ⟨a, b, fun s hs => ?_⟩
  rw [h (16 + 8 * g + 3 * s) (Or.inr (by omega)), h (17 + 8 * g + 3 * s) (Or.inr (by omega)), h (18 + 8 * g + 3 * s) (Or.inr (by omega))]
  exact c s hs
theorem wfB_ext {z w : Nat → Int} (h : ∀ j, j = 2 ∨ (68 ≤ j ∧ j < 116) → w j = z j) (h12 : z 2 ≤ 12) (hg : z 1 ≤ w 1) (k : wfB z) : wfB w := by
  intro b hb
  rw [h 2 (Or.inl rfl)] at hb
  obtain ⟨a1, a2, a3, a4, a5, a6⟩ := k b hb
  rw [h (68 + 4 * b) (Or.inr (by omega)), h (69 + 4 * b) (Or.inr (by omega)), h (70 + 4 * b) (Or.inr (by omega)), h (71 + 4 * b) (Or.inr (by omega))]
  exact ⟨a1, ⟨a2.1, by omega⟩, ⟨a3.1, by omega⟩, a4, a5, a6⟩
theorem wfS_ext {z w : Nat → Int} (h : ∀ j, (3 ≤ j ∧ j < 7) ∨ (10 ≤ j ∧ j < 13) → w j = z j) (k : wfS z) : wfS w := by
  obtain ⟨a, b, c, d, e⟩ := k
  refine ⟨fun p hp => ?_, ?_, ?_, ?_, ?_⟩
  · rw [h (10 + p) (Or.inr (by omega))]; exact a p hp
  · rw [h 4 (Or.inl (by omega))]; exact b
  · rw [h 5 (Or.inl (by omega))]; exact c
  · rw [h 6 (Or.inl (by omega))]; exact d
  · rw [h 3 (Or.inl (by omega))]; exact e
theorem zr_ext {z w : Nat → Int} (h : ∀ j, j < 3 → w j = z j) (k : zr z) : zr w := by
  unfold zr at k ⊢
  rw [h 0 (by omega), h 1 (by omega), h 2 (by omega)]
  exact k
theorem wf_ext {z w : Nat → Int} (h : ∀ j, j < 152 → ¬ (62 ≤ j ∧ j < 68) → w j = z j) (k : wf z) : wf w := by
  obtain ⟨a, b, c, d⟩ := k
  have h1 : z 1 ≤ 6 := a.2.2.2.1
  have h2 : z 2 ≤ 12 := a.2.2.2.2.2
  exact ⟨zr_ext (fun j hj => h j (by omega) (by omega)) a, wfS_ext (fun j hj => h j (by omega) (by omega)) b, wfG_ext (fun j hj => h j (by omega) (by omega)) h1 c, wfB_ext (fun j hj => h j (by omega) (by omega)) h2 (by rw [h 1 (by omega) (by omega)]; exact Int.le_refl _) d⟩
theorem wf_zeq {z w : Nat → Int} (h : zeq z w) (k : wf w) : wf z := wf_ext (fun j _ hj => h j hj) k
-- ---- what calls do
abbrev fO : Type := (Nat → Int) → Int × (Nat → Int)
def oPage (v : Int) : fO := fun z => if 0 ≤ v ∧ v ≤ 60 then (if z 0 < 3 then (z 0, apz [0, v] z) else (-3, z)) else (-1, z)
def oSeen (p v : Int) : fO := fun z => if (0 ≤ p ∧ p ≤ z 0 - 1) ∧ (0 ≤ v ∧ v ≤ 60) then (z (10 + p.toNat), upz z (10 + p.toNat) v) else (-1, z)
def oGood (k f : Int) : fO := fun z => if (0 ≤ k ∧ k ≤ 3) ∧ (0 ≤ f ∧ f ≤ 3) then (if z 1 < 6 then (z 1, apz [1, k, f, 1, 1, 0, 1, 1, 0] z) else (-3, z)) else (-1, z)
def oSize (g s w h v : Int) : fO := fun z => if (0 ≤ g ∧ g ≤ z 1 - 1) ∧ (0 ≤ s ∧ s ≤ 1) ∧ (1 ≤ w ∧ w ≤ 4) ∧ (1 ≤ h ∧ h ≤ 4) ∧ (0 ≤ v ∧ v ≤ 999) then (z (18 + 8 * g.toNat + 3 * s.toNat), upz (upz (upz z (16 + 8 * g.toNat + 3 * s.toNat) w) (17 + 8 * g.toNat + 3 * s.toNat) h) (18 + 8 * g.toNat + 3 * s.toNat) v) else (-1, z)
def oBond (k a b e : Int) : fO := fun z => if (0 ≤ k ∧ k ≤ 5) ∧ (0 ≤ a ∧ a ≤ z 1 - 1) ∧ (0 ≤ b ∧ b ≤ z 1 - 1) ∧ ¬ a = b ∧ (-99 ≤ e ∧ e ≤ 99) ∧ (3 ≤ k → e = 0) then (if z 2 < 12 then (z 2, apz [2, k, a, b, e] z) else (-3, z)) else (-1, z)
def oExtra (b v : Int) : fO := fun z => if (0 ≤ b ∧ b ≤ z 2 - 1) ∧ (-99 ≤ v ∧ v ≤ 99) then (if z (68 + 4 * b.toNat) < 3 then (z (71 + 4 * b.toNat), upz z (71 + 4 * b.toNat) v) else (-1000000012, z)) else (-1000000001, z)
def oSet (w v : Int) : fO := fun z => if (0 ≤ w ∧ w ≤ 2) ∧ (0 ≤ v ∧ v ≤ if w = 0 then 99 else 999) then (z (4 + w.toNat), upz z (4 + w.toNat) v) else (-1, z)
def oYear (g s v : Int) : fO := fun z => if (0 ≤ g ∧ g ≤ z 1 - 1) ∧ (0 ≤ s ∧ s ≤ 1) ∧ (0 ≤ v ∧ v ≤ 999) then (if z 3 < 12 then (z 3, upz (upz (upz (upz z (116 + 3 * (z 3).toNat) g) (117 + 3 * (z 3).toNat) s) (118 + 3 * (z 3).toNat) v) 3 (z 3 + 1)) else (-3, z)) else (-1, z)
/-- contents alike: like answers, contents alike -/
def oEq (f : fO) : Prop := ∀ z w, zeq z w → wf w → (f z).1 = (f w).1 ∧ zeq (f z).2 (f w).2
/-- well formed stays so -/
def oWf (f : fO) : Prop := ∀ z, wf z → wf (f z).2
theorem oPage_eq (v : Int) : oEq (oPage v) := by
  intro z w h _
  unfold oPage
  rw [h 0 (by omega)]
  by_cases c : 0 ≤ v ∧ v ≤ 60
  · rw [if_pos c, if_pos c]
    by_cases d : w 0 < 3
    · rw [if_pos d, if_pos d]; exact ⟨rfl, apz_zeq (Or.inl ⟨v, rfl, c.1, c.2⟩) h⟩
    · rw [if_neg d, if_neg d]; exact ⟨rfl, h⟩
  · rw [if_neg c, if_neg c]; exact ⟨rfl, h⟩
theorem oSeen_eq (p v : Int) : oEq (oSeen p v) := by
  intro z w h k
  unfold oSeen
  obtain ⟨k1, k2, -⟩ := k.1
  rw [h 0 (by omega)]
  by_cases c : (0 ≤ p ∧ p ≤ w 0 - 1) ∧ (0 ≤ v ∧ v ≤ 60)
  · rw [if_pos c, if_pos c]; exact ⟨h _ (by omega), upz_zeq h _ _⟩
  · rw [if_neg c, if_neg c]; exact ⟨rfl, h⟩
theorem oGood_eq (k f : Int) : oEq (oGood k f) := by
  intro z w h _
  unfold oGood
  rw [h 1 (by omega)]
  by_cases c : (0 ≤ k ∧ k ≤ 3) ∧ (0 ≤ f ∧ f ≤ 3)
  · rw [if_pos c, if_pos c]
    by_cases d : w 1 < 6
    · rw [if_pos d, if_pos d]; exact ⟨rfl, apz_zeq (Or.inr (Or.inl ⟨_, _, _, _, _, _, _, _, rfl⟩)) h⟩
    · rw [if_neg d, if_neg d]; exact ⟨rfl, h⟩
  · rw [if_neg c, if_neg c]; exact ⟨rfl, h⟩
theorem oSize_eq (g s w0 h0 v : Int) : oEq (oSize g s w0 h0 v) := by
  intro z w h k
  unfold oSize
  obtain ⟨-, -, k1, k2, -⟩ := k.1
  rw [h 1 (by omega)]
  by_cases c : (0 ≤ g ∧ g ≤ w 1 - 1) ∧ (0 ≤ s ∧ s ≤ 1) ∧ (1 ≤ w0 ∧ w0 ≤ 4) ∧ (1 ≤ h0 ∧ h0 ≤ 4) ∧ (0 ≤ v ∧ v ≤ 999)
  · rw [if_pos c, if_pos c]; exact ⟨h _ (by omega), upz_zeq (upz_zeq (upz_zeq h _ _) _ _) _ _⟩
  · rw [if_neg c, if_neg c]; exact ⟨rfl, h⟩
theorem oBond_eq (k a b e : Int) : oEq (oBond k a b e) := by
  intro z w h _
  unfold oBond
  rw [h 1 (by omega), h 2 (by omega)]
  by_cases c : (0 ≤ k ∧ k ≤ 5) ∧ (0 ≤ a ∧ a ≤ w 1 - 1) ∧ (0 ≤ b ∧ b ≤ w 1 - 1) ∧ ¬ a = b ∧ (-99 ≤ e ∧ e ≤ 99) ∧ (3 ≤ k → e = 0)
  · rw [if_pos c, if_pos c]
    by_cases d : w 2 < 12
    · rw [if_pos d, if_pos d]; exact ⟨rfl, apz_zeq (Or.inr (Or.inr ⟨_, _, _, _, rfl⟩)) h⟩
    · rw [if_neg d, if_neg d]; exact ⟨rfl, h⟩
  · rw [if_neg c, if_neg c]; exact ⟨rfl, h⟩
theorem oExtra_eq (b v : Int) : oEq (oExtra b v) := by
  intro z w h k
  unfold oExtra
  obtain ⟨-, -, -, -, k1, k2⟩ := k.1
  rw [h 2 (by omega)]
  by_cases c : (0 ≤ b ∧ b ≤ w 2 - 1) ∧ (-99 ≤ v ∧ v ≤ 99)
  · rw [if_pos c, if_pos c, h (68 + 4 * b.toNat) (by omega)]
    by_cases d : w (68 + 4 * b.toNat) < 3
    · rw [if_pos d, if_pos d]; exact ⟨h _ (by omega), upz_zeq h _ _⟩
    · rw [if_neg d, if_neg d]; exact ⟨rfl, h⟩
  · rw [if_neg c, if_neg c]; exact ⟨rfl, h⟩
theorem oSet_eq (a v : Int) : oEq (oSet a v) := by
  intro z w h _
  unfold oSet
  by_cases c : (0 ≤ a ∧ a ≤ 2) ∧ (0 ≤ v ∧ v ≤ if a = 0 then 99 else 999)
  · rw [if_pos c, if_pos c]; exact ⟨h _ (by omega), upz_zeq h _ _⟩
  · rw [if_neg c, if_neg c]; exact ⟨rfl, h⟩
theorem oYear_eq (g s v : Int) : oEq (oYear g s v) := by
  intro z w h k
  unfold oYear
  obtain ⟨k1, k2⟩ := k.2.1.2.2.2.2
  rw [h 1 (by omega), h 3 (by omega)]
  by_cases c : (0 ≤ g ∧ g ≤ w 1 - 1) ∧ (0 ≤ s ∧ s ≤ 1) ∧ (0 ≤ v ∧ v ≤ 999)
  · rw [if_pos c, if_pos c]
    by_cases d : w 3 < 12
    · rw [if_pos d, if_pos d]; exact ⟨rfl, upz_zeq (upz_zeq (upz_zeq (upz_zeq h _ _) _ _) _ _) _ _⟩
    · rw [if_neg d, if_neg d]; exact ⟨rfl, h⟩
  · rw [if_neg c, if_neg c]; exact ⟨rfl, h⟩
-- ---- well formed
theorem wf_page {z : Nat → Int} {v : Int} (k : wf z) (h1 : 0 ≤ v) (h2 : v ≤ 60) (h3 : z 0 < 3) : wf (apz [0, v] z) := by
  obtain ⟨a, b, c, d⟩ := k
  obtain ⟨a1, a2, a3, a4, a5, a6⟩ := a
  have e : ∀ j, j ≠ 0 → j ≠ 10 + (z 0).toNat → apz [0, v] z j = z j := fun j j1 j2 => by
    show upz (upz z (10 + (z 0).toNat) v) 0 (z 0 + 1) j = z j
    rw [upz_ne _ _ j1, upz_ne _ _ j2]
  have e0 : apz [0, v] z 0 = z 0 + 1 := rfl
  refine ⟨⟨by rw [e0]; omega, by rw [e0]; omega, by rw [e 1 (by omega) (by omega)]; exact a3, by rw [e 1 (by omega) (by omega)]; exact a4, by rw [e 2 (by omega) (by omega)]; exact a5, by rw [e 2 (by omega) (by omega)]; exact a6⟩, ?_, wfG_ext (fun j hj => e j (by omega) (by omega)) a4 c, wfB_ext (fun j hj => e j (by omega) (by omega)) a6 (by rw [e 1 (by omega) (by omega)]; exact Int.le_refl _) d⟩
  obtain ⟨b1, b2, b3, b4, b5⟩ := b
  refine ⟨fun p hp => ?_, by rw [e 4 (by omega) (by omega)]; exact b2, by rw [e 5 (by omega) (by omega)]; exact b3, by rw [e 6 (by omega) (by omega)]; exact b4, by rw [e 3 (by omega) (by omega)]; exact b5⟩
  by_cases q : p = (z 0).toNat
  · have : apz [0, v] z (10 + p) = v := by
      show upz (upz z (10 + (z 0).toNat) v) 0 (z 0 + 1) (10 + p) = v
      rw [q, upz_ne _ _ (by omega), upz_at]
    rw [this]; exact ⟨h1, h2⟩
  · rw [e _ (by omega) (by omega)]; exact b1 p hp
theorem oPage_wf (v : Int) : oWf (oPage v) := by
  intro z k
  unfold oPage
  by_cases c : 0 ≤ v ∧ v ≤ 60
  · rw [if_pos c]
    by_cases d : z 0 < 3
    · rw [if_pos d]; exact wf_page k c.1 c.2 d
    · rw [if_neg d]; exact k
  · rw [if_neg c]; exact k
theorem oSeen_wf (p v : Int) : oWf (oSeen p v) := by
  intro z k
  unfold oSeen
  by_cases c : (0 ≤ p ∧ p ≤ z 0 - 1) ∧ (0 ≤ v ∧ v ≤ 60)
  · rw [if_pos c]
    dsimp only
    obtain ⟨a, b, g, d⟩ := k
    obtain ⟨a1, a2, a3, a4, a5, a6⟩ := id a
    have e : ∀ j, j ≠ 10 + p.toNat → upz z (10 + p.toNat) v j = z j := fun j hj => upz_ne _ _ hj
    refine ⟨zr_ext (fun j hj => e j (by omega)) a, ?_, wfG_ext (fun j hj => e j (by omega)) a4 g, wfB_ext (fun j hj => e j (by omega)) a6 (by rw [show upz z (10 + p.toNat) v 1 = z 1 from e 1 (by omega)]; exact Int.le_refl _) d⟩
    obtain ⟨b1, b2, b3, b4, b5⟩ := b
    refine ⟨fun q hq => ?_, by rw [e 4 (by omega)]; exact b2, by rw [e 5 (by omega)]; exact b3, by rw [e 6 (by omega)]; exact b4, by rw [e 3 (by omega)]; exact b5⟩
    by_cases hh : q = p.toNat
    · rw [hh, upz_at]; exact c.2
    · rw [e _ (by omega)]; exact b1 q hq
  · rw [if_neg c]; exact k
/-- a good's rows -/
def gdw (k f w0 h0 s0 w1 h1 s1 : Int) : Prop := (0 ≤ k ∧ k ≤ 3) ∧ (0 ≤ f ∧ f ≤ 3) ∧ ((1 ≤ w0 ∧ w0 ≤ 4) ∧ (1 ≤ h0 ∧ h0 ≤ 4) ∧ (0 ≤ s0 ∧ s0 ≤ 999)) ∧ ((1 ≤ w1 ∧ w1 ≤ 4) ∧ (1 ≤ h1 ∧ h1 ≤ 4) ∧ (0 ≤ s1 ∧ s1 ≤ 999))
theorem wf_good {z : Nat → Int} {k f w0 h0 s0 w1 h1 s1 : Int} (q : wf z) (hg : gdw k f w0 h0 s0 w1 h1 s1) (h3 : z 1 < 6) : wf (apz [1, k, f, w0, h0, s0, w1, h1, s1] z) := by
  obtain ⟨a, b, c, d⟩ := q
  obtain ⟨a1, a2, a3, a4, a5, a6⟩ := a
  obtain ⟨n, hn⟩ : ∃ n : Nat, z 1 = (n : Int) := ⟨(z 1).toNat, by omega⟩
  have ez : apz [1, k, f, w0, h0, s0, w1, h1, s1] z = upz (upz (upz (upz (upz (upz (upz (upz (upz (upz z (14 + 8 * n) k) (15 + 8 * n) f) (16 + 8 * n) w0) (17 + 8 * n) h0) (18 + 8 * n) s0) (19 + 8 * n) w1) (20 + 8 * n) h1) (21 + 8 * n) s1) (62 + n) 0) 1 (z 1 + 1) := by
    have : (z 1).toNat = n := by omega
    rw [← this]; rfl
  rw [ez]
  have e : ∀ j, j ≠ 1 → ¬ (14 + 8 * n ≤ j ∧ j < 22 + 8 * n) → ¬ (62 ≤ j ∧ j < 68) → upz (upz (upz (upz (upz (upz (upz (upz (upz (upz z (14 + 8 * n) k) (15 + 8 * n) f) (16 + 8 * n) w0) (17 + 8 * n) h0) (18 + 8 * n) s0) (19 + 8 * n) w1) (20 + 8 * n) h1) (21 + 8 * n) s1) (62 + n) 0) 1 (z 1 + 1) j = z j := fun j j1 j2 j3 => by
    rw [upz_ne _ _ j1, upz_ne _ _ (by omega), upz_ne _ _ (by omega), upz_ne _ _ (by omega), upz_ne _ _ (by omega), upz_ne _ _ (by omega), upz_ne _ _ (by omega), upz_ne _ _ (by omega), upz_ne _ _ (by omega), upz_ne _ _ (by omega)]
  have e1 : upz (upz (upz (upz (upz (upz (upz (upz (upz (upz z (14 + 8 * n) k) (15 + 8 * n) f) (16 + 8 * n) w0) (17 + 8 * n) h0) (18 + 8 * n) s0) (19 + 8 * n) w1) (20 + 8 * n) h1) (21 + 8 * n) s1) (62 + n) 0) 1 (z 1 + 1) 1 = z 1 + 1 := upz_at _ _ _
  refine ⟨⟨by rw [e 0 (by omega) (by omega) (by omega)]; exact a1, by rw [e 0 (by omega) (by omega) (by omega)]; exact a2, by rw [e1]; omega, by rw [e1]; omega, by rw [e 2 (by omega) (by omega) (by omega)]; exact a5, by rw [e 2 (by omega) (by omega) (by omega)]; exact a6⟩, wfS_ext (fun j hj => e j (by omega) (by omega) (by omega)) b, ?_, wfB_ext (fun j hj => e j (by omega) (by omega) (by omega)) a6 (by rw [e1]; omega) d⟩
  intro g hlt
  rw [e1] at hlt
  by_cases hgn : g = n
  · subst hgn
    obtain ⟨p1, p2, p3, p4⟩ := hg
    refine ⟨?_, ?_, fun s hs => ?_⟩
    · rw [upz_ne _ _ (by omega), upz_ne _ _ (by omega), upz_ne _ _ (by omega), upz_ne _ _ (by omega), upz_ne _ _ (by omega), upz_ne _ _ (by omega), upz_ne _ _ (by omega), upz_ne _ _ (by omega), upz_ne _ _ (by omega), upz_at]; exact p1
    · rw [upz_ne _ _ (by omega), upz_ne _ _ (by omega), upz_ne _ _ (by omega), upz_ne _ _ (by omega), upz_ne _ _ (by omega), upz_ne _ _ (by omega), upz_ne _ _ (by omega), upz_ne _ _ (by omega), upz_at]; exact p2
    · have hs2 : s = 0 ∨ s = 1 := by omega
      rcases hs2 with rfl | rfl
      · have i1 : 16 + 8 * g + 3 * 0 = 16 + 8 * g := rfl
        have i2 : 17 + 8 * g + 3 * 0 = 17 + 8 * g := rfl
        have i3 : 18 + 8 * g + 3 * 0 = 18 + 8 * g := rfl
        rw [i1, i2, i3]
        refine ⟨?_, ?_, ?_⟩
        · rw [upz_ne _ _ (by omega), upz_ne _ _ (by omega), upz_ne _ _ (by omega), upz_ne _ _ (by omega), upz_ne _ _ (by omega), upz_ne _ _ (by omega), upz_ne _ _ (by omega), upz_at]; exact p3.1
        · rw [upz_ne _ _ (by omega), upz_ne _ _ (by omega), upz_ne _ _ (by omega), upz_ne _ _ (by omega), upz_ne _ _ (by omega), upz_ne _ _ (by omega), upz_at]; exact p3.2.1
        · rw [upz_ne _ _ (by omega), upz_ne _ _ (by omega), upz_ne _ _ (by omega), upz_ne _ _ (by omega), upz_ne _ _ (by omega), upz_at]; exact p3.2.2
      · have i1 : 16 + 8 * g + 3 * 1 = 19 + 8 * g := by omega
        have i2 : 17 + 8 * g + 3 * 1 = 20 + 8 * g := by omega
        have i3 : 18 + 8 * g + 3 * 1 = 21 + 8 * g := by omega
        rw [i1, i2, i3]
        refine ⟨?_, ?_, ?_⟩
        · rw [upz_ne _ _ (by omega), upz_ne _ _ (by omega), upz_ne _ _ (by omega), upz_ne _ _ (by omega), upz_at]; exact p4.1
        · rw [upz_ne _ _ (by omega), upz_ne _ _ (by omega), upz_ne _ _ (by omega), upz_at]; exact p4.2.1
        · rw [upz_ne _ _ (by omega), upz_ne _ _ (by omega), upz_at]; exact p4.2.2
  · have hlt2 : (g : Int) < z 1 := by omega
    obtain ⟨p1, p2, p3⟩ := c g hlt2
    rw [e _ (by omega) (by omega) (by omega), e _ (by omega) (by omega) (by omega)]
    refine ⟨p1, p2, fun s hs => ?_⟩
    rw [e _ (by omega) (by omega) (by omega), e _ (by omega) (by omega) (by omega), e _ (by omega) (by omega) (by omega)]
    exact p3 s hs
theorem oGood_wf (k f : Int) : oWf (oGood k f) := by
  intro z q
  unfold oGood
  by_cases c : (0 ≤ k ∧ k ≤ 3) ∧ (0 ≤ f ∧ f ≤ 3)
  · rw [if_pos c]
    by_cases d : z 1 < 6
    · rw [if_pos d]; exact wf_good q ⟨c.1, c.2, ⟨by omega, by omega, by omega⟩, ⟨by omega, by omega, by omega⟩⟩ d
    · rw [if_neg d]; exact q
  · rw [if_neg c]; exact q
theorem oSize_wf (g s w h v : Int) : oWf (oSize g s w h v) := by
  intro z q
  unfold oSize
  by_cases c : (0 ≤ g ∧ g ≤ z 1 - 1) ∧ (0 ≤ s ∧ s ≤ 1) ∧ (1 ≤ w ∧ w ≤ 4) ∧ (1 ≤ h ∧ h ≤ 4) ∧ (0 ≤ v ∧ v ≤ 999)
  · rw [if_pos c]
    dsimp only
    obtain ⟨a, b, gg, d⟩ := q
    obtain ⟨a1, a2, a3, a4, a5, a6⟩ := id a
    obtain ⟨n, hn⟩ : ∃ n : Nat, g = (n : Int) := ⟨g.toNat, by omega⟩
    obtain ⟨t, ht⟩ : ∃ t : Nat, s = (t : Int) := ⟨s.toNat, by omega⟩
    subst hn; subst ht
    simp only [Int.toNat_natCast]
    have e : ∀ j, j ≠ 16 + 8 * n + 3 * t → j ≠ 17 + 8 * n + 3 * t → j ≠ 18 + 8 * n + 3 * t → upz (upz (upz z (16 + 8 * n + 3 * t) w) (17 + 8 * n + 3 * t) h) (18 + 8 * n + 3 * t) v j = z j := fun j j1 j2 j3 => by
      rw [upz_ne _ _ j3, upz_ne _ _ j2, upz_ne _ _ j1]
    refine ⟨zr_ext (fun j hj => e j (by omega) (by omega) (by omega)) a, wfS_ext (fun j hj => e j (by omega) (by omega) (by omega)) b, ?_, wfB_ext (fun j hj => e j (by omega) (by omega) (by omega)) a6 (by rw [e 1 (by omega) (by omega) (by omega)]; exact Int.le_refl _) d⟩
    intro g' hg'
    rw [e 1 (by omega) (by omega) (by omega)] at hg'
    obtain ⟨p1, p2, p3⟩ := gg g' hg'
    rw [e _ (by omega) (by omega) (by omega), e _ (by omega) (by omega) (by omega)]
    refine ⟨p1, p2, fun s' hs' => ?_⟩
    by_cases hh : g' = n ∧ s' = t
    · obtain ⟨rfl, rfl⟩ := hh
      refine ⟨?_, ?_, ?_⟩
      · rw [upz_ne _ _ (by omega), upz_ne _ _ (by omega), upz_at]; exact c.2.2.1
      · rw [upz_ne _ _ (by omega), upz_at]; exact c.2.2.2.1
      · rw [upz_at]; exact c.2.2.2.2
    · rw [e _ (by omega) (by omega) (by omega), e _ (by omega) (by omega) (by omega), e _ (by omega) (by omega) (by omega)]
      exact p3 s' hs'
  · rw [if_neg c]; exact q
theorem wf_bond {z : Nat → Int} {k x y v : Int} (q : wf z) (hk : 0 ≤ k ∧ k ≤ 5) (hx : 0 ≤ x ∧ x < z 1) (hy : 0 ≤ y ∧ y < z 1) (hn : ¬ x = y) (hv : -99 ≤ v ∧ v ≤ 99) (h0 : 3 ≤ k → v = 0) (h3 : z 2 < 12) : wf (apz [2, k, x, y, v] z) := by
  obtain ⟨a, b, c, d⟩ := q
  obtain ⟨a1, a2, a3, a4, a5, a6⟩ := id a
  obtain ⟨n, hz⟩ : ∃ n : Nat, z 2 = (n : Int) := ⟨(z 2).toNat, by omega⟩
  have ez : apz [2, k, x, y, v] z = upz (upz (upz (upz (upz z (68 + 4 * n) k) (69 + 4 * n) x) (70 + 4 * n) y) (71 + 4 * n) v) 2 (z 2 + 1) := by
    have : (z 2).toNat = n := by omega
    rw [← this]; rfl
  rw [ez]
  have e : ∀ j, j ≠ 2 → ¬ (68 + 4 * n ≤ j ∧ j < 72 + 4 * n) → upz (upz (upz (upz (upz z (68 + 4 * n) k) (69 + 4 * n) x) (70 + 4 * n) y) (71 + 4 * n) v) 2 (z 2 + 1) j = z j := fun j j1 j2 => by
    rw [upz_ne _ _ j1, upz_ne _ _ (by omega), upz_ne _ _ (by omega), upz_ne _ _ (by omega), upz_ne _ _ (by omega)]
  have e2 : upz (upz (upz (upz (upz z (68 + 4 * n) k) (69 + 4 * n) x) (70 + 4 * n) y) (71 + 4 * n) v) 2 (z 2 + 1) 2 = z 2 + 1 := upz_at _ _ _
  refine ⟨⟨by rw [e 0 (by omega) (by omega)]; exact a1, by rw [e 0 (by omega) (by omega)]; exact a2, by rw [e 1 (by omega) (by omega)]; exact a3, by rw [e 1 (by omega) (by omega)]; exact a4, by rw [e2]; omega, by rw [e2]; omega⟩, wfS_ext (fun j hj => e j (by omega) (by omega)) b, wfG_ext (fun j hj => e j (by omega) (by omega)) a4 c, ?_⟩
  intro m hm
  rw [e2] at hm
  rw [e 1 (by omega) (by omega)]
  by_cases hmn : m = n
  · subst hmn
    have v0 : upz (upz (upz (upz (upz z (68 + 4 * m) k) (69 + 4 * m) x) (70 + 4 * m) y) (71 + 4 * m) v) 2 (z 2 + 1) (68 + 4 * m) = k := by rw [upz_ne _ _ (by omega), upz_ne _ _ (by omega), upz_ne _ _ (by omega), upz_ne _ _ (by omega), upz_at]
    have v1 : upz (upz (upz (upz (upz z (68 + 4 * m) k) (69 + 4 * m) x) (70 + 4 * m) y) (71 + 4 * m) v) 2 (z 2 + 1) (69 + 4 * m) = x := by rw [upz_ne _ _ (by omega), upz_ne _ _ (by omega), upz_ne _ _ (by omega), upz_at]
    have v2 : upz (upz (upz (upz (upz z (68 + 4 * m) k) (69 + 4 * m) x) (70 + 4 * m) y) (71 + 4 * m) v) 2 (z 2 + 1) (70 + 4 * m) = y := by rw [upz_ne _ _ (by omega), upz_ne _ _ (by omega), upz_at]
    have v3 : upz (upz (upz (upz (upz z (68 + 4 * m) k) (69 + 4 * m) x) (70 + 4 * m) y) (71 + 4 * m) v) 2 (z 2 + 1) (71 + 4 * m) = v := by rw [upz_ne _ _ (by omega), upz_at]
    rw [v0, v1, v2, v3]
    exact ⟨hk, hx, hy, hn, hv, h0⟩
  · have hlt : (m : Int) < z 2 := by omega
    rw [e _ (by omega) (by omega), e _ (by omega) (by omega), e _ (by omega) (by omega), e _ (by omega) (by omega)]
    exact d m hlt
theorem oBond_wf (k a b e : Int) : oWf (oBond k a b e) := by
  intro z q
  unfold oBond
  by_cases c : (0 ≤ k ∧ k ≤ 5) ∧ (0 ≤ a ∧ a ≤ z 1 - 1) ∧ (0 ≤ b ∧ b ≤ z 1 - 1) ∧ ¬ a = b ∧ (-99 ≤ e ∧ e ≤ 99) ∧ (3 ≤ k → e = 0)
  · rw [if_pos c]
    by_cases d : z 2 < 12
    · rw [if_pos d]; exact wf_bond q c.1 ⟨c.2.1.1, by omega⟩ ⟨c.2.2.1.1, by omega⟩ c.2.2.2.1 c.2.2.2.2.1 c.2.2.2.2.2 d
    · rw [if_neg d]; exact q
  · rw [if_neg c]; exact q
theorem oExtra_wf (b v : Int) : oWf (oExtra b v) := by
  intro z q
  unfold oExtra
  by_cases c : (0 ≤ b ∧ b ≤ z 2 - 1) ∧ (-99 ≤ v ∧ v ≤ 99)
  · rw [if_pos c]
    by_cases d : z (68 + 4 * b.toNat) < 3
    · rw [if_pos d]
      dsimp only
      obtain ⟨a, bb, gg, dd⟩ := q
      obtain ⟨a1, a2, a3, a4, a5, a6⟩ := id a
      obtain ⟨n, hn⟩ : ∃ n : Nat, b = (n : Int) := ⟨b.toNat, by omega⟩
      subst hn
      simp only [Int.toNat_natCast] at d ⊢
      have e : ∀ j, j ≠ 71 + 4 * n → upz z (71 + 4 * n) v j = z j := fun j hj => upz_ne _ _ hj
      refine ⟨zr_ext (fun j hj => e j (by omega)) a, wfS_ext (fun j hj => e j (by omega)) bb, wfG_ext (fun j hj => e j (by omega)) a4 gg, fun m hm => ?_⟩
      rw [e 2 (by omega)] at hm
      obtain ⟨p1, p2, p3, p4, p5, p6⟩ := dd m hm
      rw [e (68 + 4 * m) (by omega), e (69 + 4 * m) (by omega), e (70 + 4 * m) (by omega), e 1 (by omega)]
      refine ⟨p1, p2, p3, p4, ?_⟩
      by_cases hmn : m = n
      · subst hmn
        rw [upz_at]
        exact ⟨c.2, fun h => by omega⟩
      · rw [e _ (by omega)]
        exact ⟨p5, p6⟩
    · rw [if_neg d]; exact q
  · rw [if_neg c]; exact q
theorem oSet_wf (a v : Int) : oWf (oSet a v) := by
  intro z q
  unfold oSet
  by_cases c : (0 ≤ a ∧ a ≤ 2) ∧ (0 ≤ v ∧ v ≤ if a = 0 then 99 else 999)
  · rw [if_pos c]
    dsimp only
    obtain ⟨c1, c2⟩ := c
    obtain ⟨a0, bb, gg, dd⟩ := q
    obtain ⟨a1, a2, a3, a4, a5, a6⟩ := id a0
    have hc : a = 0 ∨ a = 1 ∨ a = 2 := by omega
    obtain ⟨b1, b2, b3, b4, b5⟩ := bb
    have e : ∀ j, j ≠ 4 + a.toNat → upz z (4 + a.toNat) v j = z j := fun j hj => upz_ne _ _ hj
    refine ⟨zr_ext (fun j hj => e j (by omega)) a0, ?_, wfG_ext (fun j hj => e j (by omega)) a4 gg, wfB_ext (fun j hj => e j (by omega)) a6 (by rw [e 1 (by omega)]; exact Int.le_refl _) dd⟩
    refine ⟨fun p hp => by rw [e _ (by omega)]; exact b1 p hp, ?_, ?_, ?_, by rw [e _ (by omega)]; exact b5⟩
    · rcases hc with rfl | rfl | rfl
      · rw [if_pos rfl] at c2; exact c2
      · rw [e _ (by decide)]; exact b2
      · rw [e _ (by decide)]; exact b2
    · rcases hc with rfl | rfl | rfl
      · rw [e _ (by decide)]; exact b3
      · rw [if_neg (by omega)] at c2; exact c2
      · rw [e _ (by decide)]; exact b3
    · rcases hc with rfl | rfl | rfl
      · rw [e _ (by decide)]; exact b4
      · rw [e _ (by decide)]; exact b4
      · rw [if_neg (by omega)] at c2; exact c2
  · rw [if_neg c]; exact q
theorem oYear_wf (g s v : Int) : oWf (oYear g s v) := by
  intro z q
  unfold oYear
  by_cases c : (0 ≤ g ∧ g ≤ z 1 - 1) ∧ (0 ≤ s ∧ s ≤ 1) ∧ (0 ≤ v ∧ v ≤ 999)
  · rw [if_pos c]
    by_cases d : z 3 < 12
    · rw [if_pos d]
      dsimp only
      obtain ⟨a, bb, gg, dd⟩ := q
      obtain ⟨a1, a2, a3, a4, a5, a6⟩ := id a
      obtain ⟨b1, b2, b3, b4, b5⟩ := bb
      have e : ∀ j, j ≠ 3 → j < 116 → upz (upz (upz (upz z (116 + 3 * (z 3).toNat) g) (117 + 3 * (z 3).toNat) s) (118 + 3 * (z 3).toNat) v) 3 (z 3 + 1) j = z j := fun j j1 j2 => by
        rw [upz_ne _ _ j1, upz_ne _ _ (by omega), upz_ne _ _ (by omega), upz_ne _ _ (by omega)]
      have e3 : upz (upz (upz (upz z (116 + 3 * (z 3).toNat) g) (117 + 3 * (z 3).toNat) s) (118 + 3 * (z 3).toNat) v) 3 (z 3 + 1) 3 = z 3 + 1 := upz_at _ _ _
      refine ⟨zr_ext (fun j hj => e j (by omega) (by omega)) a, ⟨fun p hp => by rw [e _ (by omega) (by omega)]; exact b1 p hp, by rw [e _ (by omega) (by omega)]; exact b2, by rw [e _ (by omega) (by omega)]; exact b3, by rw [e _ (by omega) (by omega)]; exact b4, by rw [e3]; omega, by rw [e3]; omega⟩, wfG_ext (fun j hj => e j (by omega) (by omega)) a4 gg, wfB_ext (fun j hj => e j (by omega) (by omega)) a6 (by rw [e 1 (by omega) (by omega)]; exact Int.le_refl _) dd⟩
    · rw [if_neg d]; exact q
  · rw [if_neg c]; exact q
end
