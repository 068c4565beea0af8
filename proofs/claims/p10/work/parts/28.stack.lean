noncomputable section
/-! LAYER 2, values come and go on the stack. -/
theorem am_push {xs : List Int32} {K : List am_K} {s : am_S} {lv st : List am_A} {r : am_V} {L : cm_Lv} {T : List Term} {h : cm_H} (hf : am_fr xs K s lv st r L T h) {a : am_A} {t : Term}
    (ha : am_All s.1 r (fun q => am_sat q a (some t))) : am_fr xs K s lv (a :: st) r L (t :: T) h :=
  ⟨hf.1, hf.2.1, hf.2.2.1, hf.2.2.2.1, hf.2.2.2.2.1, fun q hq hg => ⟨ha q hq hg, hf.2.2.2.2.2 q hq hg⟩⟩
theorem am_top {xs : List Int32} {K : List am_K} {s : am_S} {lv st : List am_A} {r : am_V} {L : cm_Lv} {T : List Term} {h : cm_H} {a : am_A} (hf : am_fr xs K s lv (a :: st) r L T h) :
    ∃ t T', T = t :: T' ∧ am_All s.1 r (fun q => am_sat q a (some t)) ∧ am_fr xs K s lv st r L T' h := by
  cases T with
  | nil =>
    have := am_All_here hf.1 hf.2.2.2.2.2
    simp [am_sts] at this
  | cons t T' => exact ⟨t, T', rfl, fun q hq hg => (hf.2.2.2.2.2 q hq hg).1, hf.1, hf.2.1, hf.2.2.1, hf.2.2.2.1, hf.2.2.2.2.1, fun q hq hg => (hf.2.2.2.2.2 q hq hg).2⟩
theorem am_int {n : Nat} {r : am_V} (hr : am_Rg r) {l : am_L} {t : Term} (ha : am_All n r (fun q => am_sat q (0, l) (some t))) : ∃ x : Int32, t = .int x ∧ am_All n r (fun q => x.toInt = am_ev q l) := by
  obtain ⟨x, hx, _⟩ := am_All_here hr ha
  injection hx with hx
  refine ⟨x, hx, fun q hq hg => ?_⟩
  obtain ⟨y, hy, hv⟩ := ha q hq hg
  rw [hx] at hy
  injection hy with hy
  injection hy with hy
  rw [hy]; exact hv
theorem am_int_mk {n : Nat} {r : am_V} {l : am_L} {x : Int32} (h : am_All n r (fun q => x.toInt = am_ev q l)) : am_All n r (fun q => am_sat q (0, l) (some (.int x))) := fun q hq hg => ⟨x, rfl, h q hq hg⟩
/-- a constant -/
theorem am_const {n : Nat} {r : am_V} {x : Int32} {c : Int} (h : x.toInt = c) : am_All n r (fun q => am_sat q (0, (c, [])) (some (.int x))) :=
  am_int_mk (fun q _ _ => by simp [am_ev, am_ts, h])
/-- the sum with a factor, if it is an int -/
theorem am_sum {n : Nat} {r : am_V} {a b : am_L} {x y : Int32} (k : Int) (hx : am_All n r (fun q => x.toInt = am_ev q a)) (hy : am_All n r (fun q => y.toInt = am_ev q b)) : am_All n r (fun q => x.toInt + k * y.toInt = am_ev q (am_add k a b)) := by
  intro q hq hg
  have h1 : x.toInt = am_ev q a := hx q hq hg
  have h2 : y.toInt = am_ev q b := hy q hq hg
  show x.toInt + k * y.toInt = am_ev q (am_add k a b)
  rw [am_add_ev, h1, h2]
/-- a form is that of an int: by ranges and facts -/
def am_fitP (s : am_S) (a : am_L) : Bool := match am_prove s.2.1 s.2.2.1 (am_add 1 (2147483648, []) a) with
  | true => am_prove s.2.1 s.2.2.1 (am_add (-1) (2147483647, []) a)
  | false => false
def am_fits (s : am_S) (a : am_L) : Bool := Bool.rec (motive := fun _ => Bool) (am_fitP s a) (Bool.rec (motive := fun _ => Bool) (am_fitP s a) true (am_nn (am_is 2147483647 (am_ia a.1 (am_hi s.2.1 a.2))))) (am_nn (am_ia 2147483648 (am_ia a.1 (am_lo s.2.1 a.2))))
theorem am_fitP_spec {xs : List Int32} {s : am_S} {r : am_V} {h : cm_H} (hr : am_Rg r) (hs : am_holds xs s r h) {a : am_L} (hf : am_fitP s a = true) : -2147483648 ≤ am_ev r a ∧ am_ev r a ≤ 2147483647 := by
  obtain ⟨h1, h2, _⟩ := am_All_here hr hs
  simp only [am_fitP] at hf
  split at hf
  · rename_i hp
    have hp := am_prove_spec h1 h2 hp
    have hq := am_prove_spec h1 h2 hf
    rw [am_add_ev] at hp hq
    have e1 : am_ev r (2147483648, []) = 2147483648 := rfl
    have e2 : am_ev r (2147483647, []) = 2147483647 := rfl
    omega
  · simp at hf
theorem am_fits_spec {xs : List Int32} {s : am_S} {r : am_V} {h : cm_H} (hr : am_Rg r) (hs : am_holds xs s r h) {a : am_L} (hf : am_fits s a = true) : -2147483648 ≤ am_ev r a ∧ am_ev r a ≤ 2147483647 := by
  obtain ⟨h1, h2, _⟩ := am_All_here hr hs
  unfold am_fits at hf
  cases hb : am_nn (am_ia 2147483648 (am_ia a.1 (am_lo s.2.1 a.2))) with
  | false => rw [hb] at hf; exact am_fitP_spec hr hs hf
  | true =>
    rw [hb] at hf
    cases hc : am_nn (am_is 2147483647 (am_ia a.1 (am_hi s.2.1 a.2))) with
    | false => rw [hc] at hf; exact am_fitP_spec hr hs hf
    | true =>
      have g1 := am_nn_spec hb
      have g2 := am_nn_spec hc
      rw [am_ia_eq, am_ia_eq] at g1
      rw [am_is_eq, am_ia_eq] at g2
      have g3 := am_lo_le h1 a.2
      have g4 := am_hi_le h1 a.2
      simp only [am_ev]
      omega
end
