/-! LAYER 2, stores of variables, pop, dup. -/
theorem am_i_istore_n {pg : cm_G} {xs : List Int32} {K : List am_K} {ms : List Nat} {ax : am_Ch} (hx : am_Snd pg xs K ms ax) {d : Nat} {mr : cm_M} {pc np : Nat} {i : Fin 4} {rs : List Nat} {lv st : List am_A} {s : am_S} {k : Option am_A → am_S → Bool} {r : am_V} {L : cm_Lv} {T : List Term} {h : cm_H}
    {a : am_L} (hat : cm_at mr.1 pc = some (.istore_n i, np, rs)) (hf : am_fr xs K s lv ((0, a) :: st) r L T h) (hn : am_noL lv i.val = true) (hi : i.val < lv.length) (hk : ax d mr np (am_setA lv i.val (0, a)) st s k = true) : am_Ev pg d mr pc L T h (am_Goal xs K ms k s r h) := by
  obtain ⟨t, T1, e1, ht, hf1⟩ := am_top hf
  obtain ⟨x, e2, _⟩ := am_int hf.1 ht
  subst e2; subst e1
  obtain ⟨h1, h2⟩ := am_stx hf1 ht hn hi
  exact am_Snd_go (L' := L.set i.val (some (.int x))) (T' := T1) (h' := h) (r' := r) hx (fun ih => by simp only [cm_step, hat, cm_one]; exact h1 _) hk (am_later_refl ms s r h) h2
theorem am_i_istore {pg : cm_G} {xs : List Int32} {K : List am_K} {ms : List Nat} {ax : am_Ch} (hx : am_Snd pg xs K ms ax) {d : Nat} {mr : cm_M} {pc np i : Nat} {rs : List Nat} {lv st : List am_A} {s : am_S} {k : Option am_A → am_S → Bool} {r : am_V} {L : cm_Lv} {T : List Term} {h : cm_H}
    {a : am_L} (hat : cm_at mr.1 pc = some (.istore i, np, rs)) (hf : am_fr xs K s lv ((0, a) :: st) r L T h) (hn : am_noL lv i = true) (hi : i < lv.length) (hk : ax d mr np (am_setA lv i (0, a)) st s k = true) : am_Ev pg d mr pc L T h (am_Goal xs K ms k s r h) := by
  obtain ⟨t, T1, e1, ht, hf1⟩ := am_top hf
  obtain ⟨x, e2, _⟩ := am_int hf.1 ht
  subst e2; subst e1
  obtain ⟨h1, h2⟩ := am_stx hf1 ht hn hi
  exact am_Snd_go (L' := L.set i (some (.int x))) (T' := T1) (h' := h) (r' := r) hx (fun ih => by simp only [cm_step, hat, cm_one]; exact h1 _) hk (am_later_refl ms s r h) h2
theorem am_i_pop {pg : cm_G} {xs : List Int32} {K : List am_K} {ms : List Nat} {ax : am_Ch} (hx : am_Snd pg xs K ms ax) {d : Nat} {mr : cm_M} {pc np : Nat} {rs : List Nat} {lv st : List am_A} {s : am_S} {k : Option am_A → am_S → Bool} {r : am_V} {L : cm_Lv} {T : List Term} {h : cm_H}
    {a : am_A} (hat : cm_at mr.1 pc = some (.pop, np, rs)) (hf : am_fr xs K s lv (a :: st) r L T h) (hn : Nat.beq (am_tyA a) 2 = false) (hk : ax d mr np lv st s k = true) : am_Ev pg d mr pc L T h (am_Goal xs K ms k s r h) := by
  obtain ⟨t, T1, e1, ht, hf1⟩ := am_top hf
  subst e1
  have hw := am_sat_noL (am_All_here hf.1 ht) hn
  exact am_Snd_go (L' := L) (T' := T1) (h' := h) (r' := r) hx (fun ih => by simp only [cm_step, hat, hw, if_true]) hk (am_later_refl ms s r h) hf1
theorem am_i_dup {pg : cm_G} {xs : List Int32} {K : List am_K} {ms : List Nat} {ax : am_Ch} (hx : am_Snd pg xs K ms ax) {d : Nat} {mr : cm_M} {pc np : Nat} {rs : List Nat} {lv st : List am_A} {s : am_S} {k : Option am_A → am_S → Bool} {r : am_V} {L : cm_Lv} {T : List Term} {h : cm_H}
    {a : am_A} (hat : cm_at mr.1 pc = some (.dup, np, rs)) (hf : am_fr xs K s lv (a :: st) r L T h) (hn : Nat.beq (am_tyA a) 2 = false) (hk : ax d mr np lv (a :: a :: st) s k = true) : am_Ev pg d mr pc L T h (am_Goal xs K ms k s r h) := by
  obtain ⟨t, T1, e1, ht, hf1⟩ := am_top hf
  subst e1
  have hw := am_sat_noL (am_All_here hf.1 ht) hn
  exact am_Snd_go (L' := L) (T' := t :: t :: T1) (h' := h) (r' := r) hx (fun ih => by simp only [cm_step, hat, hw, if_true]) hk (am_later_refl ms s r h) (am_push hf ht)
