/-! LAYER 2, the first instructions: constants, sums, branches. -/
theorem am_i_iconst {pg : cm_G} {xs : List Int32} {K : List am_K} {ms : List Nat} {ax : am_Ch} (hx : am_Snd pg xs K ms ax) {d : Nat} {mr : cm_M} {pc np : Nat} {rs : List Nat} {lv st : List am_A} {s : am_S} {k : Option am_A → am_S → Bool} {r : am_V} {L : cm_Lv} {T : List Term} {h : cm_H}
    {v : Int} (hat : cm_at mr.1 pc = some (.iconst v, np, rs)) (h1 : -2147483648 ≤ v) (h2 : v ≤ 2147483647) (hf : am_fr xs K s lv st r L T h) (hk : ax d mr np lv ((0, (v, [])) :: st) s k = true) : am_Ev pg d mr pc L T h (am_Goal xs K ms k s r h) :=
  am_Snd_go hx (fun ih => by simp only [cm_step, hat]) hk (am_later_refl ms s r h) (am_push hf (am_const (am_of32 h1 h2)))
theorem am_i_iadd {pg : cm_G} {xs : List Int32} {K : List am_K} {ms : List Nat} {ax : am_Ch} (hx : am_Snd pg xs K ms ax) {d : Nat} {mr : cm_M} {pc np : Nat} {rs : List Nat} {lv st : List am_A} {s : am_S} {k : Option am_A → am_S → Bool} {r : am_V} {L : cm_Lv} {T : List Term} {h : cm_H}
    {a b : am_L} (hat : cm_at mr.1 pc = some (.iadd, np, rs)) (hf : am_fr xs K s lv ((0, b) :: (0, a) :: st) r L T h) (hi : am_fits s (am_add 1 a b) = true) (hk : ax d mr np lv ((0, am_add 1 a b) :: st) s k = true) : am_Ev pg d mr pc L T h (am_Goal xs K ms k s r h) := by
  obtain ⟨t, T1, e1, ht, hf1⟩ := am_top hf
  obtain ⟨u, T2, e2, hu, hf2⟩ := am_top hf1
  obtain ⟨y, e3, hy⟩ := am_int hf.1 ht
  obtain ⟨x, e4, hx'⟩ := am_int hf.1 hu
  subst e3; subst e4; subst e2; subst e1
  have hb := am_fits_spec hf.1 hf.2.2.1 hi
  have h0 := am_All_here hf.1 (am_sum 1 hx' hy)
  have h3 : (x + y).toInt = x.toInt + y.toInt := am_add32 (by omega) (by omega)
  refine am_Snd_go (L' := L) (T' := .int (x + y) :: T2) (h' := h) (r' := r) hx (fun ih => by simp only [cm_step, hat, cm_two]) hk (am_later_refl ms s r h) (am_push hf2 (am_int_mk (fun q hq hg => ?_)))
  have := am_sum 1 hx' hy q hq hg
  show (x + y).toInt = am_ev q (am_add 1 a b)
  rw [h3]
  simp only [] at this
  omega
theorem am_i_isub {pg : cm_G} {xs : List Int32} {K : List am_K} {ms : List Nat} {ax : am_Ch} (hx : am_Snd pg xs K ms ax) {d : Nat} {mr : cm_M} {pc np : Nat} {rs : List Nat} {lv st : List am_A} {s : am_S} {k : Option am_A → am_S → Bool} {r : am_V} {L : cm_Lv} {T : List Term} {h : cm_H}
    {a b : am_L} (hat : cm_at mr.1 pc = some (.isub, np, rs)) (hf : am_fr xs K s lv ((0, b) :: (0, a) :: st) r L T h) (hi : am_fits s (am_add (-1) a b) = true) (hk : ax d mr np lv ((0, am_add (-1) a b) :: st) s k = true) : am_Ev pg d mr pc L T h (am_Goal xs K ms k s r h) := by
  obtain ⟨t, T1, e1, ht, hf1⟩ := am_top hf
  obtain ⟨u, T2, e2, hu, hf2⟩ := am_top hf1
  obtain ⟨y, e3, hy⟩ := am_int hf.1 ht
  obtain ⟨x, e4, hx'⟩ := am_int hf.1 hu
  subst e3; subst e4; subst e2; subst e1
  have hb := am_fits_spec hf.1 hf.2.2.1 hi
  have h0 := am_All_here hf.1 (am_sum (-1) hx' hy)
  have h3 : (x - y).toInt = x.toInt - y.toInt := am_sub32 (by omega) (by omega)
  refine am_Snd_go (L' := L) (T' := .int (x - y) :: T2) (h' := h) (r' := r) hx (fun ih => by simp only [cm_step, hat, cm_two]) hk (am_later_refl ms s r h) (am_push hf2 (am_int_mk (fun q hq hg => ?_)))
  have := am_sum (-1) hx' hy q hq hg
  show (x - y).toInt = am_ev q (am_add (-1) a b)
  rw [h3]
  simp only [] at this
  omega
theorem am_i_goto {pg : cm_G} {xs : List Int32} {K : List am_K} {ms : List Nat} {ax : am_Ch} (hx : am_Snd pg xs K ms ax) {d : Nat} {mr : cm_M} {pc np t : Nat} {o : Int} {rs : List Nat} {lv st : List am_A} {s : am_S} {k : Option am_A → am_S → Bool} {r : am_V} {L : cm_Lv} {T : List Term} {h : cm_H}
    (hat : cm_at mr.1 pc = some (.goto o, np, t :: rs)) (hf : am_fr xs K s lv st r L T h) (hk : ax d mr t lv st s k = true) : am_Ev pg d mr pc L T h (am_Goal xs K ms k s r h) :=
  am_Snd_go hx (fun ih => by simp only [cm_step, hat]) hk (am_later_refl ms s r h) hf
/-- what is known once a comparison of a difference with 0 holds -/
def am_forms (c : ClassFile.Cond) (a : am_L) : List am_L := match c with
  | .lt => [am_add (-1) (-1, []) a]
  | .ge => [a]
  | .gt => [am_add 1 (-1, []) a]
  | .le => [am_add (-1) (0, []) a]
  | .eq => [a, am_add (-1) (0, []) a]
  | .ne => []
theorem am_forms_spec {q : am_V} {c : ClassFile.Cond} {a : am_L} (h : am_cond c (am_ev q a)) : ∀ f ∈ am_forms c a, 0 ≤ am_ev q f := by
  have e1 : am_ev q (-1, []) = -1 := rfl
  have e0 : am_ev q (0, []) = 0 := rfl
  intro f hm
  cases c <;> simp only [am_forms, am_cond, List.mem_cons, List.not_mem_nil, or_false] at hm h
  · rcases hm with hm | hm
    · rw [hm]; omega
    · rw [hm, am_add_ev]; omega
  all_goals first
    | (rw [hm, am_add_ev]; omega)
    | (rw [hm]; omega)
def am_refs : List am_L → am_S → Option am_S
  | [], s => some s
  | a :: l, s => match am_ref s a with
    | some s' => am_refs l s'
    | none => none
theorem am_refs_spec {xs : List Int32} {r : am_V} {h : cm_H} (hr : am_Rg r) : ∀ (l : List am_L) (s : am_S), am_wf s → am_holds xs s r h → (∀ f ∈ l, am_All s.1 r (fun q => 0 ≤ am_ev q f)) → ∃ s', am_refs l s = some s' ∧ s'.1 = s.1 ∧ am_wf s' ∧ am_holds xs s' r h
  | [], s, hw, hs, _ => ⟨s, rfl, rfl, hw, hs⟩
  | a :: l, s, hw, hs, hl => by
    obtain ⟨s1, h1, h2, h3⟩ := am_ref_spec hr hs (hl a (List.mem_cons_self ..))
    have hw1 := am_ref_wf hw h1
    obtain ⟨s', h4, h5, h6, h7⟩ := am_refs_spec hr l s1 hw1 h3 (fun f hm => by rw [h2]; exact hl f (List.mem_cons_of_mem _ hm))
    simp only [am_refs, h1]
    exact ⟨s', h4, h5.trans h2, h6, h7⟩
