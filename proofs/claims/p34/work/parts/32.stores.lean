/-! LAYER 2, variables written. -/
def am_noL (lv : List am_A) (i : Nat) : Bool := match i with
  | 0 => true
  | j + 1 => match am_nthA lv j with
    | some a => !(Nat.beq (am_tyA a) 2)
    | none => false
theorem am_sat_noL {q : am_V} {a : am_A} {u : Term} (h : am_sat q a (some u)) (hn : Nat.beq (am_tyA a) 2 = false) : cm_w1 u = true := by
  unfold am_sat at h
  unfold am_tyA at hn
  split at h
  · obtain ⟨x, hx, _⟩ := h; injection hx with hx; rw [hx]; rfl
  · obtain ⟨x, hx, _⟩ := h; injection hx with hx; rw [hx]; rfl
  · rename_i h0; simp [h0] at hn
  · rename_i h0; simp [h0] at hn
  · injection h with h; rw [h]; rfl
  · injection h with h; rw [h]; rfl
  · obtain ⟨v, hv, ht⟩ := h; injection hv with hv; rw [hv]; simp [cm_w1, ht]
  · rcases h with h | ⟨v, hv, ht⟩
    · simp at h
    · injection hv with hv; rw [hv]; exact ht
theorem am_noL_spec {q : am_V} {lv : List am_A} {L : cm_Lv} (hl : am_lvs q lv L) {i : Nat} (h : am_noL lv i = true) : cm_noL L i = true := by
  cases i with
  | zero => rfl
  | succ j =>
    simp only [am_noL] at h
    split at h
    · rename_i a ha
      obtain ⟨t, h1, h2⟩ := am_lvs_nth hl ha
      simp only [cm_noL, h1]
      cases t with
      | none => rfl
      | some u => exact am_sat_noL h2 (by simpa using h)
    · simp at h
/-- a variable written: as the interpreter does it -/
theorem am_stx {xs : List Int32} {K : List am_K} {s : am_S} {lv st : List am_A} {r : am_V} {L : cm_Lv} {T : List Term} {h : cm_H} (hf : am_fr xs K s lv st r L T h) {i : Nat} {a : am_A} {t : Term} (ha : am_All s.1 r (fun q => am_sat q a (some t)))
    (hn : am_noL lv i = true) (hi : i < lv.length) : (∀ {β : Type} (k : cm_Lv → Option β), cm_sto L i t k = k (L.set i (some t))) ∧ am_fr xs K s (am_setA lv i a) st r (L.set i (some t)) T h := by
  have hl := am_All_here hf.1 hf.2.2.2.2.1
  refine ⟨fun k => ?_, hf.1, hf.2.1, hf.2.2.1, hf.2.2.2.1, fun q hq hg => am_lvs_set (ha q hq hg) (hf.2.2.2.2.1 q hq hg), hf.2.2.2.2.2⟩
  have h1 := am_noL_spec hl hn
  have h2 : i < L.length := by rw [← am_lvs_len hl]; exact hi
  simp only [cm_sto, h1, h2, and_self, if_true]
  exact cm_set_eq ..
