/-! LAYER 2, iinc. -/
theorem am_i_iinc {pg : cm_G} {xs : List Int32} {K : List am_K} {ms : List Nat} {ax : am_Ch} (hx : am_Snd pg xs K ms ax) {d : Nat} {mr : cm_M} {pc np i : Nat} {v : Int} {rs : List Nat} {lv st : List am_A} {s : am_S} {k : Option am_A → am_S → Bool} {r : am_V} {L : cm_Lv} {T : List Term} {h : cm_H}
    {a : am_L} (hat : cm_at mr.1 pc = some (.iinc i v, np, rs)) (hf : am_fr xs K s lv st r L T h) (ha : am_nthA lv i = some (0, a)) (hv1 : -2147483648 ≤ v) (hv2 : v ≤ 2147483647) (hi : am_fits s (am_add 1 a (v, [])) = true)
    (hn : am_noL lv i = true) (hl : i < lv.length) (hk : ax d mr np (am_setA lv i (0, am_add 1 a (v, []))) st s k = true) : am_Ev pg d mr pc L T h (am_Goal xs K ms k s r h) := by
  obtain ⟨t, h1, h2, h3⟩ := am_ldx (n := 0) hf ha rfl
  obtain ⟨x, e1, hx'⟩ := am_int hf.1 h3
  subst e1
  have hy : am_All s.1 r (fun q => (Int32.ofInt v).toInt = am_ev q (v, [])) := fun q _ _ => by
    show (Int32.ofInt v).toInt = am_ev q (v, [])
    rw [am_of32 hv1 hv2]; simp [am_ev, am_ts]
  have hb := am_fits_spec hf.1 hf.2.2.1 hi
  have h0 := am_All_here hf.1 (am_sum 1 hx' hy)
  have h4 : (x + Int32.ofInt v).toInt = x.toInt + (Int32.ofInt v).toInt := am_add32 (by omega) (by omega)
  have hs : am_All s.1 r (fun q => am_sat q (0, am_add 1 a (v, [])) (some (.int (x + Int32.ofInt v)))) := am_int_mk (fun q hq hg => by
    have := am_sum 1 hx' hy q hq hg
    show (x + Int32.ofInt v).toInt = am_ev q (am_add 1 a (v, []))
    rw [h4]
    simp only [] at this
    omega)
  obtain ⟨h5, h6⟩ := am_stx hf hs hn hl
  exact am_Snd_go (L' := L.set i (some (.int (x + Int32.ofInt v)))) (T' := T) (h' := h) (r' := r) hx (fun ih => by simp only [cm_step, hat, h1]; exact h5 _) hk (am_later_refl ms s r h) h6
