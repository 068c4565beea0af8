noncomputable section
/-! LAYER 2, operations on forms: what comes of them, with the state then. -/
def am_rg (e : am_E) (a : am_L) : Int × Int := (am_ia a.1 (am_lo e a.2), am_ia a.1 (am_hi e a.2))
theorem am_rg_spec {r : am_V} {e : am_E} (h : am_In r e) (a : am_L) : (am_rg e a).1 ≤ am_ev r a ∧ am_ev r a ≤ (am_rg e a).2 := by
  have h1 := am_lo_le h a.2
  have h2 := am_hi_le h a.2
  simp only [am_rg, am_ev, am_ia_eq]
  omega
def am_full : Int × Int := (-2147483648, 2147483647)
/-- a value of a new variable of a range -/
def am_newv (s : am_S) (g : Int × Int) : am_L × am_S := (am_var s, am_fresh s g)
/-- what an operation must do: the value z is told by the form, in a later state -/
def am_Val (xs : List Int32) (K : List am_K) (s : am_S) (lv st : List am_A) (r : am_V) (L : cm_Lv) (T : List Term) (h : cm_H) (z : Int) (o : am_L × am_S) : Prop :=
  ∃ r', am_later [] s o.2 r r' h h ∧ am_fr xs K o.2 lv st r' L T h ∧ am_All o.2.1 r' (fun q => z = am_ev q o.1)
theorem am_Val_new {xs : List Int32} {K : List am_K} {s : am_S} {lv st : List am_A} {r : am_V} {L : cm_Lv} {T : List Term} {h : cm_H} (hf : am_fr xs K s lv st r L T h) {g : Int × Int} {z : Int} (h1 : g.1 ≤ z) (h2 : z ≤ g.2) (h3 : -2147483648 ≤ z) (h4 : z ≤ 2147483647) :
    am_Val xs K s lv st r L T h z (am_newv s g) := by
  obtain ⟨a1, a2, a3⟩ := am_fr_fresh hf h1 h2 h3 h4
  exact ⟨_, a2, a1, fun q hq hg => (a3 q hq hg).symm⟩
theorem am_Val_full {xs : List Int32} {K : List am_K} {s : am_S} {lv st : List am_A} {r : am_V} {L : cm_Lv} {T : List Term} {h : cm_H} (hf : am_fr xs K s lv st r L T h) (z : Int32) : am_Val xs K s lv st r L T h z.toInt (am_newv s am_full) :=
  am_Val_new hf (am_i1 z) (am_i2 z) (am_i1 z) (am_i2 z)
theorem am_Val_same {xs : List Int32} {K : List am_K} {s : am_S} {lv st : List am_A} {r : am_V} {L : cm_Lv} {T : List Term} {h : cm_H} (hf : am_fr xs K s lv st r L T h) {z : Int} {a : am_L} (hz : am_All s.1 r (fun q => z = am_ev q a)) : am_Val xs K s lv st r L T h z (a, s) :=
  ⟨r, am_later_refl _ _ _ _, hf, hz⟩
/-- a form if it is an int's, else a new variable -/
def am_fitS (s : am_S) (a : am_L) : am_L × am_S := match am_fits s a with
  | true => (a, s)
  | false => am_newv s am_full
theorem am_fit_spec {xs : List Int32} {K : List am_K} {s : am_S} {lv st : List am_A} {r : am_V} {L : cm_Lv} {T : List Term} {h : cm_H} (hf : am_fr xs K s lv st r L T h) {a : am_L} (z : Int32)
    (hz : -2147483648 ≤ am_ev r a → am_ev r a ≤ 2147483647 → am_All s.1 r (fun q => z.toInt = am_ev q a)) : am_Val xs K s lv st r L T h z.toInt (am_fitS s a) := by
  unfold am_fitS
  split
  · rename_i hi
    have hb := am_fits_spec hf.1 hf.2.2.1 hi
    exact am_Val_same hf (hz hb.1 hb.2)
  · exact am_Val_full hf z
/-- forms that are equal whatever the variables -/
theorem am_norm_eq {xs : List Int32} {s : am_S} {r : am_V} {h : cm_H} (hs : am_holds xs s r h) {z : Int} {a : am_L} (hz : am_All s.1 r (fun q => z = am_ev q a)) : am_All s.1 r (fun q => z = am_ev q (am_norm s.2.1 a)) := fun q hq hg => by
  have h1 := (hs q hq hg).1
  show z = am_ev q (am_norm s.2.1 a)
  rw [am_norm_ev h1]; exact hz q hq hg
def am_oadd (s : am_S) (k : Int) (a b : am_L) : am_L × am_S := am_fitS s (am_norm s.2.1 (am_add k a b))
theorem am_oadd_spec {xs : List Int32} {K : List am_K} {s : am_S} {lv st : List am_A} {r : am_V} {L : cm_Lv} {T : List Term} {h : cm_H} (hf : am_fr xs K s lv st r L T h) {a b : am_L} {x y : Int} (k : Int) (z : Int32)
    (hx : am_All s.1 r (fun q => x = am_ev q a)) (hy : am_All s.1 r (fun q => y = am_ev q b)) (hz : -2147483648 ≤ x + k * y → x + k * y ≤ 2147483647 → z.toInt = x + k * y) : am_Val xs K s lv st r L T h z.toInt (am_oadd s k a b) := by
  refine am_fit_spec hf z (fun h1 h2 => ?_)
  have hs : am_All s.1 r (fun q => x + k * y = am_ev q (am_add k a b)) := fun q hq hg => by
    have e1 : x = am_ev q a := hx q hq hg
    have e2 : y = am_ev q b := hy q hq hg
    show x + k * y = am_ev q (am_add k a b)
    rw [am_add_ev, e1, e2]
  have hn := am_norm_eq hf.2.2.1 hs
  have h0 : x + k * y = am_ev r (am_norm s.2.1 (am_add k a b)) := am_All_here hf.1 hn
  rw [← h0] at h1 h2
  have e := hz h1 h2
  intro q hq hg
  show z.toInt = _
  rw [e]; exact hn q hq hg
/-- the least and the most of four -/
def am_min4 (a b c d : Int) : Int := am_min (am_min a b) (am_min c d)
def am_max4 (a b c d : Int) : Int := am_max (am_max a b) (am_max c d)
theorem am_min_le (x y : Int) : am_min x y ≤ x ∧ am_min x y ≤ y := by
  unfold am_min
  rw [am_is_eq]
  cases hb : am_nn (y - x) with
  | true => have := am_nn_spec hb; simp only []; omega
  | false =>
    have : ¬ 0 ≤ y - x := fun h => by rw [am_nn_of h] at hb; simp at hb
    simp only []; omega
theorem am_le_max (x y : Int) : x ≤ am_max x y ∧ y ≤ am_max x y := by
  unfold am_max
  rw [am_is_eq]
  cases hb : am_nn (y - x) with
  | true => have := am_nn_spec hb; simp only []; omega
  | false =>
    have : ¬ 0 ≤ y - x := fun h => by rw [am_nn_of h] at hb; simp at hb
    simp only []; omega
theorem am_mulc {a b c d x y : Int} (h1 : a ≤ x) (h2 : x ≤ b) (h3 : c ≤ y) (h4 : y ≤ d) : am_min4 (a * c) (a * d) (b * c) (b * d) ≤ x * y ∧ x * y ≤ am_max4 (a * c) (a * d) (b * c) (b * d) := by
  have m1 := am_min_le (a * c) (a * d)
  have m2 := am_min_le (b * c) (b * d)
  have m3 := am_min_le (am_min (a * c) (a * d)) (am_min (b * c) (b * d))
  have n1 := am_le_max (a * c) (a * d)
  have n2 := am_le_max (b * c) (b * d)
  have n3 := am_le_max (am_max (a * c) (a * d)) (am_max (b * c) (b * d))
  unfold am_min4 am_max4
  -- x y lies between a y and b y, each between its ends
  have hy : ∀ t : Int, (t * c ≤ t * y ∧ t * y ≤ t * d) ∨ (t * d ≤ t * y ∧ t * y ≤ t * c) := by
    intro t
    by_cases ht : 0 ≤ t
    · exact Or.inl ⟨Int.mul_le_mul_of_nonneg_left h3 ht, Int.mul_le_mul_of_nonneg_left h4 ht⟩
    · exact Or.inr ⟨Int.mul_le_mul_of_nonpos_left (by omega) h4, Int.mul_le_mul_of_nonpos_left (by omega) h3⟩
  have hxy : (a * y ≤ x * y ∧ x * y ≤ b * y) ∨ (b * y ≤ x * y ∧ x * y ≤ a * y) := by
    by_cases ht : 0 ≤ y
    · exact Or.inl ⟨Int.mul_le_mul_of_nonneg_right h1 ht, Int.mul_le_mul_of_nonneg_right h2 ht⟩
    · exact Or.inr ⟨Int.mul_le_mul_of_nonpos_right h2 (by omega), Int.mul_le_mul_of_nonpos_right h1 (by omega)⟩
  have ha := hy a
  have hb := hy b
  omega
def am_oprd (s : am_S) (x y : am_L) (g : Int × Int) : am_L × am_S := match y with
  | (0, [(v, 1)]) => (match Nat.blt v 1000000 with
    | true => (match am_find s.2.1 (2000000 + v) x s.2.2.2 with
      | some c => (c, s)
      | none => (am_var s, am_kn (am_fresh s g) (2000000 + v) x (am_var s)))
    | false => am_newv s g)
  | _ => am_newv s g
def am_omul (s : am_S) (a b : am_L) : am_L × am_S := match am_norm s.2.1 a, am_norm s.2.1 b with
  | x, (k, []) => am_fitS s (am_add k (0, []) x)
  | (k, []), y => am_fitS s (am_add k (0, []) y)
  | x, y => match am_rg s.2.1 x, am_rg s.2.1 y with
    | (a, b), (c, d) => match am_min4 (a * c) (a * d) (b * c) (b * d), am_max4 (a * c) (a * d) (b * c) (b * d) with
      | lo, hi => match am_nn (lo + 2147483648), am_nn (2147483647 - hi) with
        | true, true => am_oprd s x y (lo, hi)
        | _, _ => am_newv s am_full
theorem am_oprd_spec {xs : List Int32} {K : List am_K} {s : am_S} {lv st : List am_A} {r : am_V} {L : cm_Lv} {T : List Term} {h : cm_H} (hf : am_fr xs K s lv st r L T h) {a b : am_L} {x y : Int} {g : Int × Int}
    (hx : am_All s.1 r (fun q => x = am_ev q a)) (hy : am_All s.1 r (fun q => y = am_ev q b)) (h1 : g.1 ≤ x * y) (h2 : x * y ≤ g.2) (h3 : -2147483648 ≤ x * y) (h4 : x * y ≤ 2147483647) : am_Val xs K s lv st r L T h (x * y) (am_oprd s a b g) := by
  unfold am_oprd
  split
  · rename_i v
    split
    · rename_i hv
      have hv : v < 1000000 := by
        have : decide (v < 1000000) = true := by simpa [Nat.blt_eq] using hv
        simpa using this
      split
      · rename_i c hc
        refine am_Val_same hf (fun q hq hg => ?_)
        obtain ⟨b1, _, b3⟩ := hf.2.2.1 q hq hg
        obtain ⟨j, hm, he⟩ := am_find_spec b1 _ _ hc
        have hp := (b3 _ hm).2.1 (by simp only []; omega) (by simp only []; omega)
        simp only [Nat.add_sub_cancel_left] at hp
        have e1 : x = am_ev q a := hx q hq hg
        have e2 : y = am_ev q (0, [(v, 1)]) := hy q hq hg
        have e3 : am_ev q (0, [(v, 1)]) = q v := by simp [am_ev, am_ts]
        show x * y = am_ev q c
        rw [e1, e2, e3, ← hp, he]
      · obtain ⟨a1, a2, a3⟩ := am_fr_fresh hf h1 h2 h3 h4
        refine ⟨_, ⟨a2.1, a2.2.1, a2.2.2⟩, ⟨a1.1, a1.2.1, ?_, a1.2.2.2⟩, fun q hq hg => (a3 q hq hg).symm⟩
        refine am_kn_ent a1.2.2.1 (fun q hq hg => am_ent_prd (by simp only []; omega) (by simp only []; omega) ?_)
        have hg0 : am_Ag s.1 r q := am_Ag_trans a2.1 a2.2.1 hg
        have e1 : x = am_ev q a := hx q hq hg0
        have e2 : y = am_ev q (0, [(v, 1)]) := hy q hq hg0
        have e3 : am_ev q (0, [(v, 1)]) = q v := by simp [am_ev, am_ts]
        have e4 : am_ev q (am_var s) = x * y := a3 q hq hg
        simp only [Nat.add_sub_cancel_left]
        rw [e4, ← e1, e2, e3]
    · exact am_Val_new hf h1 h2 h3 h4
  · exact am_Val_new hf h1 h2 h3 h4
theorem am_scale {q : am_V} {k : Int} {x : am_L} : am_ev q (am_add k (0, []) x) = k * am_ev q x := by
  rw [am_add_ev]
  have : am_ev q (0, []) = 0 := rfl
  omega
theorem am_omul_spec {xs : List Int32} {K : List am_K} {s : am_S} {lv st : List am_A} {r : am_V} {L : cm_Lv} {T : List Term} {h : cm_H} (hf : am_fr xs K s lv st r L T h) {a b : am_L} {x y : Int32}
    (hx : am_All s.1 r (fun q => x.toInt = am_ev q a)) (hy : am_All s.1 r (fun q => y.toInt = am_ev q b)) : am_Val xs K s lv st r L T h (x * y).toInt (am_omul s a b) := by
  have hx := am_norm_eq hf.2.2.1 hx
  have hy := am_norm_eq hf.2.2.1 hy
  unfold am_omul
  generalize am_norm s.2.1 a = a at hx
  generalize am_norm s.2.1 b = b at hy
  have h0 := (am_All_here hf.1 hf.2.2.1).1
  have hx0 : x.toInt = am_ev r a := am_All_here hf.1 hx
  have hy0 : y.toInt = am_ev r b := am_All_here hf.1 hy
  split
  · rename_i k
    have hk : y.toInt = k := by rw [hy0]; simp [am_ev, am_ts]
    refine am_fit_spec hf _ (fun h1 h2 q hq hg => ?_)
    rw [am_scale, ← hx0] at h1 h2
    have e1 : x.toInt = am_ev q a := hx q hq hg
    show (x * y).toInt = am_ev q _
    rw [am_scale, am_mul32 (by rw [hk, Int.mul_comm]; exact h1) (by rw [hk, Int.mul_comm]; exact h2), hk, e1, Int.mul_comm]
  · rename_i k _
    have hk : x.toInt = k := by rw [hx0]; simp [am_ev, am_ts]
    refine am_fit_spec hf _ (fun h1 h2 q hq hg => ?_)
    rw [am_scale, ← hy0] at h1 h2
    have e1 : y.toInt = am_ev q b := hy q hq hg
    show (x * y).toInt = am_ev q _
    rw [am_scale, am_mul32 (by rw [hk]; exact h1) (by rw [hk]; exact h2), hk, e1]
  · have ra := am_rg_spec h0 a
    have rb := am_rg_spec h0 b
    rw [← hx0] at ra
    rw [← hy0] at rb
    have hm := am_mulc ra.1 ra.2 rb.1 rb.2
    simp only []
    split
    · rename_i hlo hhi
      have hlo := am_nn_spec hlo
      have hhi := am_nn_spec hhi
      have e : (x * y).toInt = x.toInt * y.toInt := am_mul32 (by omega) (by omega)
      rw [e]
      exact am_oprd_spec hf hx hy hm.1 hm.2 (by omega) (by omega)
    · exact am_Val_full hf _
end
