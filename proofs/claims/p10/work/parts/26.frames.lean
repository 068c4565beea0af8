noncomputable section
/-! LAYER 2, frames: a frame of the interpreter as a state tells it; one step of a state. -/
def am_fr (xs : List Int32) (K : List am_K) (s : am_S) (lv st : List am_A) (r : am_V) (L : cm_Lv) (T : List Term) (h : cm_H) : Prop :=
  am_Rg r ∧ am_wf s ∧ am_holds xs s r h ∧ am_heap K h ∧ am_All s.1 r (fun q => am_lvs q lv L) ∧ am_All s.1 r (fun q => am_sts q st T)
/-- a result as told: none for none -/
def am_res (n : Nat) (r : am_V) (a : Option am_A) (v : Option Term) : Prop := match a with
  | none => v = none
  | some a => ∃ t, v = some t ∧ am_All n r (fun q => am_sat q a (some t))
/-- the state s1 (with r1, h1) comes later than s (with r, h) -/
def am_later (ms : List (Nat × Nat)) (s s1 : am_S) (r r1 : am_V) (h h1 : cm_H) : Prop := s.1 ≤ s1.1 ∧ am_Ag s.1 r r1 ∧ am_out ms h h1
theorem am_later_refl (ms : List (Nat × Nat)) (s : am_S) (r : am_V) (h : cm_H) : am_later ms s s r r h h := ⟨Nat.le_refl _, am_Ag_refl _ _, am_out_refl _ _⟩
theorem am_later_trans {ms : List (Nat × Nat)} {s s1 s2 : am_S} {r r1 r2 : am_V} {h h1 h2 : cm_H} (a : am_later ms s s1 r r1 h h1) (b : am_later ms s1 s2 r1 r2 h1 h2) : am_later ms s s2 r r2 h h2 :=
  ⟨Nat.le_trans a.1 b.1, am_Ag_trans a.1 a.2.1 b.2.1, am_out_trans a.2.2 b.2.2⟩
theorem am_later_same {ms : List (Nat × Nat)} {s s' : am_S} (he : s'.1 = s.1) (r : am_V) (h : cm_H) : am_later ms s s' r r h h := ⟨by rw [he]; exact Nat.le_refl _, am_Ag_refl _ _, am_out_refl _ _⟩
/-- what a run from s comes to: a later state and a result that k takes -/
def am_Goal (xs : List Int32) (K : List am_K) (ms : List (Nat × Nat)) (k : Option am_A → am_S → Bool) (s : am_S) (r : am_V) (h : cm_H) (v : Option Term) (h' : cm_H) : Prop :=
  ∃ (s' : am_S) (r' : am_V) (a : Option am_A), k a s' = true ∧ am_later ms s s' r r' h h' ∧ am_Rg r' ∧ am_wf s' ∧ am_holds xs s' r' h' ∧ am_heap K h' ∧ am_res s'.1 r' a v
theorem am_Goal_later {xs : List Int32} {K : List am_K} {ms : List (Nat × Nat)} {k : Option am_A → am_S → Bool} {s s1 : am_S} {r r1 : am_V} {h h1 : cm_H} (a : am_later ms s s1 r r1 h h1) {v : Option Term} {h' : cm_H}
    (g : am_Goal xs K ms k s1 r1 h1 v h') : am_Goal xs K ms k s r h v h' := by
  obtain ⟨s', r', a', hk, hl, hrest⟩ := g
  exact ⟨s', r', a', hk, am_later_trans a hl, hrest⟩
/-- a way on: the pc, variables, stack, state -/
abbrev am_N : Type := Nat × List am_A × List am_A × am_S
/-- a step of the interpreter goes one of these ways -/
def am_Step (pg : cm_G) (xs : List Int32) (K : List am_K) (ms : List (Nat × Nat)) (d : Nat) (mr : cm_M) (pc : Nat) (s : am_S) (r : am_V) (L : cm_Lv) (T : List Term) (h : cm_H) (out : List am_N) : Prop :=
  ∃ o ∈ out, ∃ (r' : am_V) (L' : cm_Lv) (T' : List Term) (h' : cm_H), (∀ ih, cm_step pg ih d mr pc L T h = ih d mr o.1 L' T' h') ∧ am_later ms s o.2.2.2 r r' h h' ∧ am_fr xs K o.2.2.2 o.2.1 o.2.2.1 r' L' T' h'
/-- one way, the heap as it was, the state as it was -/
theorem am_Step1 {pg : cm_G} {xs : List Int32} {K : List am_K} {ms : List (Nat × Nat)} {d : Nat} {mr : cm_M} {pc pc' : Nat} {s : am_S} {r : am_V} {L L' : cm_Lv} {T T' : List Term} {h : cm_H} {lv st : List am_A}
    (hs : ∀ ih, cm_step pg ih d mr pc L T h = ih d mr pc' L' T' h) (hf : am_fr xs K s lv st r L' T' h) : am_Step pg xs K ms d mr pc s r L T h [(pc', lv, st, s)] :=
  ⟨_, List.mem_singleton.mpr rfl, r, L', T', h, hs, am_later_refl ms s r h, hf⟩
/-- a frame in a state with more known -/
theorem am_fr_same {xs : List Int32} {K : List am_K} {s s' : am_S} {lv st : List am_A} {r : am_V} {L : cm_Lv} {T : List Term} {h : cm_H} (hf : am_fr xs K s lv st r L T h) (he : s'.1 = s.1) (hw : am_wf s') (hh : am_holds xs s' r h) : am_fr xs K s' lv st r L T h :=
  ⟨hf.1, hw, hh, hf.2.2.2.1, by rw [he]; exact hf.2.2.2.2.1, by rw [he]; exact hf.2.2.2.2.2⟩
/-- a frame with one variable more, of a value -/
theorem am_fr_fresh {xs : List Int32} {K : List am_K} {s : am_S} {lv st : List am_A} {r : am_V} {L : cm_Lv} {T : List Term} {h : cm_H} (hf : am_fr xs K s lv st r L T h) {g : Int × Int} {x : Int} (h1 : g.1 ≤ x) (h2 : x ≤ g.2) (h3 : -2147483648 ≤ x) (h4 : x ≤ 2147483647) :
    am_fr xs K (am_fresh s g) lv st (am_up r s.1 x) L T h ∧ am_later [] s (am_fresh s g) r (am_up r s.1 x) h h ∧ am_All (am_fresh s g).1 (am_up r s.1 x) (fun q => am_ev q (am_var s) = x) := by
  obtain ⟨a1, a2, a3⟩ := am_fresh_spec hf.2.1 hf.1 hf.2.2.1 h1 h2 h3 h4
  have hle : s.1 ≤ (am_fresh s g).1 := by rw [am_fresh_1]; exact Nat.le_succ _
  refine ⟨⟨a1, am_fresh_wf hf.2.1, a3, hf.2.2.2.1, am_All_more hle a2 hf.2.2.2.2.1, am_All_more hle a2 hf.2.2.2.2.2⟩, ⟨hle, a2, am_out_refl _ _⟩, ?_⟩
  intro q hq hg
  show am_ev q (am_var s) = x
  rw [am_var_ev]
  have hlt : s.1 < (am_fresh s g).1 := by rw [am_fresh_1]; exact Nat.lt_succ_self _
  rw [hg s.1 hlt, am_up_at]
theorem am_later_nil {ms : List (Nat × Nat)} {s s1 : am_S} {r r1 : am_V} {h h1 : cm_H} (a : am_later [] s s1 r r1 h h1) : am_later ms s s1 r r1 h h1 := ⟨a.1, a.2.1, am_out_mono (fun _ hm => by simp at hm) a.2.2⟩
end
