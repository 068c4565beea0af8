/-! LAYER 2, frames: a frame of the interpreter as a state tells it; what a run is to come to; what a checker must do. -/
def am_fr (xs : List Int32) (K : List am_K) (s : am_S) (lv st : List am_A) (r : am_V) (L : cm_Lv) (T : List Term) (h : cm_H) : Prop :=
  am_Rg r ∧ am_wf s ∧ am_holds xs s r h ∧ am_heap K h ∧ am_All s.1 r (fun q => am_lvs q lv L) ∧ am_All s.1 r (fun q => am_sts q st T)
/-- a result as told: none for none -/
def am_res (n : Nat) (r : am_V) (a : Option am_A) (v : Option Term) : Prop := match a with
  | none => v = none
  | some a => ∃ t, v = some t ∧ am_All n r (fun q => am_sat q a (some t))
/-- the state s1 (with r1, h1) comes later than s (with r, h) -/
def am_later (ms : List Nat) (s s1 : am_S) (r r1 : am_V) (h h1 : cm_H) : Prop := s.1 ≤ s1.1 ∧ am_Ag s.1 r r1 ∧ am_out ms h h1
theorem am_later_refl (ms : List Nat) (s : am_S) (r : am_V) (h : cm_H) : am_later ms s s r r h h := ⟨Nat.le_refl _, am_Ag_refl _ _, am_out_refl _ _⟩
theorem am_later_trans {ms : List Nat} {s s1 s2 : am_S} {r r1 r2 : am_V} {h h1 h2 : cm_H} (a : am_later ms s s1 r r1 h h1) (b : am_later ms s1 s2 r1 r2 h1 h2) : am_later ms s s2 r r2 h h2 :=
  ⟨Nat.le_trans a.1 b.1, am_Ag_trans a.1 a.2.1 b.2.1, am_out_trans a.2.2 b.2.2⟩
/-- what a run from s comes to: a later state and a result that k takes -/
def am_Goal (xs : List Int32) (K : List am_K) (ms : List Nat) (k : Option am_A → am_S → Bool) (s : am_S) (r : am_V) (h : cm_H) (v : Option Term) (h' : cm_H) : Prop :=
  ∃ (s' : am_S) (r' : am_V) (a : Option am_A), k a s' = true ∧ am_later ms s s' r r' h h' ∧ am_Rg r' ∧ am_wf s' ∧ am_holds xs s' r' h' ∧ am_heap K h' ∧ am_res s'.1 r' a v
theorem am_Goal_later {xs : List Int32} {K : List am_K} {ms : List Nat} {k : Option am_A → am_S → Bool} {s s1 : am_S} {r r1 : am_V} {h h1 : cm_H} (a : am_later ms s s1 r r1 h h1) {v : Option Term} {h' : cm_H}
    (g : am_Goal xs K ms k s1 r1 h1 v h') : am_Goal xs K ms k s r h v h' := by
  obtain ⟨s', r', a', hk, hl, hrest⟩ := g
  exact ⟨s', r', a', hk, am_later_trans a hl, hrest⟩
abbrev am_Ch : Type := Nat → cm_M → Nat → List am_A → List am_A → am_S → (Option am_A → am_S → Bool) → Bool
/-- what a checker takes, ends, and comes to what its last argument takes -/
def am_Snd (pg : cm_G) (xs : List Int32) (K : List am_K) (ms : List Nat) (ax : am_Ch) : Prop :=
  ∀ (d : Nat) (mr : cm_M) (pc : Nat) (lv st : List am_A) (s : am_S) (k : Option am_A → am_S → Bool) (r : am_V) (L : cm_Lv) (T : List Term) (h : cm_H),
    ax d mr pc lv st s k = true → am_fr xs K s lv st r L T h → am_Ev pg d mr pc L T h (am_Goal xs K ms k s r h)
/-- values told by an earlier state are told by a later one -/
theorem am_lvs_later {ms : List Nat} {s s1 : am_S} {r r1 : am_V} {h h1 : cm_H} (a : am_later ms s s1 r r1 h h1) {lv : List am_A} {L : cm_Lv} (hl : am_All s.1 r (fun q => am_lvs q lv L)) : am_All s1.1 r1 (fun q => am_lvs q lv L) :=
  am_All_more a.1 a.2.1 hl
theorem am_sts_later {ms : List Nat} {s s1 : am_S} {r r1 : am_V} {h h1 : cm_H} (a : am_later ms s s1 r r1 h h1) {st : List am_A} {T : List Term} (hl : am_All s.1 r (fun q => am_sts q st T)) : am_All s1.1 r1 (fun q => am_sts q st T) :=
  am_All_more a.1 a.2.1 hl
/-- one step to a later state, then what the checker says -/
theorem am_Snd_go {pg : cm_G} {xs : List Int32} {K : List am_K} {ms : List Nat} {ax : am_Ch} (hx : am_Snd pg xs K ms ax) {d : Nat} {mr : cm_M} {pc pc' : Nat} {lv' st' : List am_A} {s s' : am_S} {k : Option am_A → am_S → Bool} {r r' : am_V} {L L' : cm_Lv} {T T' : List Term} {h h' : cm_H}
    (hs : ∀ ih, cm_step pg ih d mr pc L T h = ih d mr pc' L' T' h') (hk : ax d mr pc' lv' st' s' k = true) (hl : am_later ms s s' r r' h h') (hf : am_fr xs K s' lv' st' r' L' T' h') : am_Ev pg d mr pc L T h (am_Goal xs K ms k s r h) :=
  am_Ev_go hs (am_Ev_mono (fun _ _ g => am_Goal_later hl g) (hx d mr pc' lv' st' s' k r' L' T' h' hk hf))
/-- a call run through: the callee by the checker, then the rest by the checker -/
theorem am_Snd_call {pg : cm_G} {xs : List Int32} {K : List am_K} {ms : List Nat} {ax : am_Ch} (hx : am_Snd pg xs K ms ax) {d d' : Nat} {mr mr' : cm_M} {pc np : Nat} {lv lv' st : List am_A} {s : am_S} {k : Option am_A → am_S → Bool} {r : am_V} {L L' : cm_Lv} {T rest : List Term} {h : cm_H}
    (hs : ∀ ih, cm_step pg ih d mr pc L T h = (match ih d' mr' 0 L' [] h with
      | none => none
      | some (v, h', c, sz) => cm_more c sz (ih d mr np L (v.toList ++ rest) h')))
    (hk : ax d' mr' 0 lv' [] s (fun a s' => ax d mr np lv (a.toList ++ st) s' k) = true)
    (hr : am_Rg r) (hw : am_wf s) (hh : am_holds xs s r h) (hp : am_heap K h) (hl' : am_All s.1 r (fun q => am_lvs q lv' L')) (hl : am_All s.1 r (fun q => am_lvs q lv L)) (ht : am_All s.1 r (fun q => am_sts q st rest)) :
    am_Ev pg d mr pc L T h (am_Goal xs K ms k s r h) := by
  refine am_Ev_call hs (hx d' mr' 0 lv' [] s _ r L' [] h hk ⟨hr, hw, hh, hp, hl', fun _ _ _ => trivial⟩) ?_
  intro v h' g
  obtain ⟨s', r', a, hk', hla, hr', hw', hh', hp', hre⟩ := g
  refine am_Ev_mono (fun _ _ g => am_Goal_later hla g) (hx d mr np lv _ s' k r' L _ h' hk' ⟨hr', hw', hh', hp', am_lvs_later hla hl, ?_⟩)
  cases a with
  | none =>
    have hv : v = none := hre
    rw [hv]
    exact am_sts_later hla ht
  | some a =>
    obtain ⟨t, hv, ha⟩ := hre
    rw [hv]
    intro q hq hg
    exact ⟨ha q hq hg, am_sts_later hla ht q hq hg⟩
