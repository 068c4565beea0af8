noncomputable section
/-! LAYER 2, ends: a run of the interpreter ends, makes no cell, and leaves what P says. -/
def am_Ev (pg : cm_G) (d : Nat) (mr : cm_M) (pc : Nat) (lv : cm_Lv) (st : List Term) (h : cm_H) (P : Option Term → cm_H → Prop) : Prop :=
  ∃ (N : Nat) (v : Option Term) (h' : cm_H), (∀ n, N ≤ n → cm_run pg n d mr pc lv st h = some (v, h', 0, 0)) ∧ P v h'
theorem am_run_step (pg : cm_G) (n d : Nat) (mr : cm_M) (pc : Nat) (lv : cm_Lv) (st : List Term) (h : cm_H) :
    cm_run pg (n + 1) d mr pc lv st h = cm_step pg (cm_run pg n) d mr pc lv st h := rfl
theorem am_Ev_mono {pg : cm_G} {d : Nat} {mr : cm_M} {pc : Nat} {lv : cm_Lv} {st : List Term} {h : cm_H} {P Q : Option Term → cm_H → Prop}
    (hq : ∀ v h', P v h' → Q v h') (he : am_Ev pg d mr pc lv st h P) : am_Ev pg d mr pc lv st h Q := by
  obtain ⟨N, v, h', hr, hp⟩ := he
  exact ⟨N, v, h', hr, hq v h' hp⟩
/-- a step that only goes on -/
theorem am_Ev_go {pg : cm_G} {d d' : Nat} {mr mr' : cm_M} {pc pc' : Nat} {lv lv' : cm_Lv} {st st' : List Term} {h h1 : cm_H} {P : Option Term → cm_H → Prop}
    (hs : ∀ ih, cm_step pg ih d mr pc lv st h = ih d' mr' pc' lv' st' h1) (he : am_Ev pg d' mr' pc' lv' st' h1 P) : am_Ev pg d mr pc lv st h P := by
  obtain ⟨N, v, h', hr, hp⟩ := he
  refine ⟨N + 1, v, h', ?_, hp⟩
  intro n hn
  cases n with
  | zero => omega
  | succ n => rw [am_run_step, hs]; exact hr n (by omega)
/-- a step that answers -/
theorem am_Ev_ret {pg : cm_G} {d : Nat} {mr : cm_M} {pc : Nat} {lv : cm_Lv} {st : List Term} {h h' : cm_H} {v : Option Term} {P : Option Term → cm_H → Prop}
    (hs : ∀ ih, cm_step pg ih d mr pc lv st h = some (v, h', 0, 0)) (hp : P v h') : am_Ev pg d mr pc lv st h P := by
  refine ⟨1, v, h', ?_, hp⟩
  intro n hn
  cases n with
  | zero => omega
  | succ n => rw [am_run_step, hs]
theorem am_more0 (r : Option cm_R) : cm_more 0 0 r = r := by
  cases r with
  | none => rfl
  | some r => obtain ⟨v, h, c, s⟩ := r; simp only [cm_more, Nat.zero_add]
/-- a call: the callee ends with Q, and from all that Q leaves the caller's rest ends -/
theorem am_Ev_call {pg : cm_G} {d d' : Nat} {mr mr' : cm_M} {pc pc' np : Nat} {lv lv' : cm_Lv} {st st' rest : List Term} {h h1 : cm_H} {P Q : Option Term → cm_H → Prop}
    (hs : ∀ ih, cm_step pg ih d mr pc lv st h = (match ih d' mr' pc' lv' st' h1 with
      | none => none
      | some (v, h', c, s) => cm_more c s (ih d mr np lv (v.toList ++ rest) h')))
    (hc : am_Ev pg d' mr' pc' lv' st' h1 Q) (hk : ∀ v h', Q v h' → am_Ev pg d mr np lv (v.toList ++ rest) h' P) : am_Ev pg d mr pc lv st h P := by
  obtain ⟨N, v, h', hr, hq⟩ := hc
  obtain ⟨N2, v2, h2, hr2, hp⟩ := hk v h' hq
  refine ⟨N + N2 + 1, v2, h2, ?_, hp⟩
  intro n hn
  cases n with
  | zero => omega
  | succ n =>
    rw [am_run_step, hs, hr n (by omega)]
    simp only [am_more0]
    exact hr2 n (by omega)
end
