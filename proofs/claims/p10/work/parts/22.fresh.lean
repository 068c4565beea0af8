noncomputable section
/-! LAYER 2, a state with one variable more. -/
def am_wf (_s : am_S) : Prop := True
theorem am_ref_wf {s s' : am_S} {a : am_L} (_hw : am_wf s) (_h : am_ref s a = some s') : am_wf s' := trivial
theorem am_ad1_wf {s s' : am_S} {a : am_L} (_hw : am_wf s) (_h : am_ad1 s a = some s') : am_wf s' := trivial
def am_fresh (s : am_S) (g : Int × Int) : am_S := match s with
  | (n, e, fs, ov) => am_bang (Nat.succ n) (fun n1 => am_bang (am_setE e n g) (fun e1 => (n1, e1, fs, ov)))
theorem am_fresh_eq (n : Nat) (e : am_E) (fs : am_F) (ov : List ((Nat × am_L) × am_L)) (g : Int × Int) : am_fresh (n, e, fs, ov) g = (n + 1, am_setE e n g, fs, ov) := by
  show am_bang (Nat.succ n) (fun n1 => am_bang (am_setE e n g) (fun e1 => (n1, e1, fs, ov))) = _
  rw [am_bang_eq, am_bang_eq]
theorem am_fresh_1 (s : am_S) (g : Int × Int) : (am_fresh s g).1 = s.1 + 1 := by
  obtain ⟨n, e, fs, ov⟩ := s
  rw [am_fresh_eq]
theorem am_fresh_wf {s : am_S} {g : Int × Int} (_hw : am_wf s) : am_wf (am_fresh s g) := trivial
/-- a range more, of a variable that is there -/
theorem am_setE_Rg {r : am_V} {e : am_E} {n : Nat} {g : Int × Int} (hr : am_Rg r) (h : ∀ u, u ≠ n → am_gl e u ≤ r u ∧ r u ≤ am_gh e u) (h1 : g.1 ≤ r n) (h2 : r n ≤ g.2) : am_In r (am_setE e n g) := by
  intro u
  by_cases hu : u = n
  · subst hu
    exact ⟨am_gl_at e u g _ h1 (hr u).1, am_gh_at e u g _ h2 (hr u).2⟩
  · rw [am_gl_set e n g u hu, am_gh_set e n g u hu]
    exact h u hu
theorem am_fresh_spec {xs : List Int32} {s : am_S} {r : am_V} {h : cm_H} {g : Int × Int} {x : Int} (_hw : am_wf s) (hr : am_Rg r) (hs : am_holds xs s r h) (h1 : g.1 ≤ x) (h2 : x ≤ g.2) (h3 : -2147483648 ≤ x) (h4 : x ≤ 2147483647) :
    am_Rg (am_up r s.1 x) ∧ am_Ag s.1 r (am_up r s.1 x) ∧ am_holds xs (am_fresh s g) (am_up r s.1 x) h := by
  obtain ⟨n, e, fs, ov⟩ := s
  rw [am_fresh_eq]
  refine ⟨am_up_Rg hr h3 h4, am_up_Ag r n x, ?_⟩
  intro q hq hg
  have hq0 : am_Ag n r q := am_Ag_trans (Nat.le_succ n) (am_up_Ag r n x) hg
  have hh := hs q hq hq0
  refine ⟨?_, hh.2.1, hh.2.2⟩
  have hx : q n = x := (hg n (Nat.lt_succ_self n)).trans (am_up_at r n x)
  exact am_setE_Rg hq (fun u _ => hh.1 u) (by rw [hx]; exact h1) (by rw [hx]; exact h2)
/-- the form of the variable that comes next -/
def am_var (s : am_S) : am_L := (0, [(s.1, 1)])
theorem am_var_ev (s : am_S) (q : am_V) : am_ev q (am_var s) = q s.1 := by simp [am_var, am_ev, am_ts]
end
