/-! LAYER 2, loads. -/
theorem am_ldx {xs : List Int32} {K : List am_K} {s : am_S} {lv st : List am_A} {r : am_V} {L : cm_Lv} {T : List Term} {h : cm_H} (hf : am_fr xs K s lv st r L T h) {i n : Nat} {a : am_A} (ha : am_nthA lv i = some a) (hn : am_tyA a = n + 1) :
    ∃ t, cm_nth L i = some (some t) ∧ cm_ty t = n + 1 ∧ am_All s.1 r (fun q => am_sat q a (some t)) := by
  obtain ⟨t0, h1, h2⟩ := am_lvs_nth (am_All_here hf.1 hf.2.2.2.2.1) ha
  obtain ⟨u, h3, h4⟩ := am_tyA_spec h2 hn
  subst h3
  refine ⟨u, h1, h4, fun q hq hg => ?_⟩
  obtain ⟨t1, h5, h6⟩ := am_lvs_nth (hf.2.2.2.2.1 q hq hg) ha
  rw [h1] at h5
  injection h5 with h5
  rw [h5]; exact h6
theorem am_cm_ld {β : Type} {L : cm_Lv} {i n : Nat} {t : Term} (h : cm_nth L i = some (some t)) (ht : cm_ty t = n) (k : Term → Option β) : cm_ld L i n k = k t := by
  simp only [cm_ld, h, ht, if_true]
theorem am_i_iload {pg : cm_G} {xs : List Int32} {K : List am_K} {ms : List Nat} {ax : am_Ch} (hx : am_Snd pg xs K ms ax) {d : Nat} {mr : cm_M} {pc np i : Nat} {rs : List Nat} {lv st : List am_A} {s : am_S} {k : Option am_A → am_S → Bool} {r : am_V} {L : cm_Lv} {T : List Term} {h : cm_H}
    {a : am_A} (hat : cm_at mr.1 pc = some (.iload i, np, rs)) (hf : am_fr xs K s lv st r L T h) (ha : am_nthA lv i = some a) (hn : am_tyA a = 1) (hk : ax d mr np lv (a :: st) s k = true) : am_Ev pg d mr pc L T h (am_Goal xs K ms k s r h) := by
  obtain ⟨t, h1, h2, h3⟩ := am_ldx hf ha hn
  exact am_Snd_go (L' := L) (T' := t :: T) (h' := h) (r' := r) hx (fun ih => by simp only [cm_step, hat]; exact am_cm_ld h1 h2 _) hk (am_later_refl ms s r h) (am_push hf h3)
theorem am_i_iload_n {pg : cm_G} {xs : List Int32} {K : List am_K} {ms : List Nat} {ax : am_Ch} (hx : am_Snd pg xs K ms ax) {d : Nat} {mr : cm_M} {pc np : Nat} {i : Fin 4} {rs : List Nat} {lv st : List am_A} {s : am_S} {k : Option am_A → am_S → Bool} {r : am_V} {L : cm_Lv} {T : List Term} {h : cm_H}
    {a : am_A} (hat : cm_at mr.1 pc = some (.iload_n i, np, rs)) (hf : am_fr xs K s lv st r L T h) (ha : am_nthA lv i.val = some a) (hn : am_tyA a = 1) (hk : ax d mr np lv (a :: st) s k = true) : am_Ev pg d mr pc L T h (am_Goal xs K ms k s r h) := by
  obtain ⟨t, h1, h2, h3⟩ := am_ldx hf ha hn
  exact am_Snd_go (L' := L) (T' := t :: T) (h' := h) (r' := r) hx (fun ih => by simp only [cm_step, hat]; exact am_cm_ld h1 h2 _) hk (am_later_refl ms s r h) (am_push hf h3)
theorem am_i_aload_n {pg : cm_G} {xs : List Int32} {K : List am_K} {ms : List Nat} {ax : am_Ch} (hx : am_Snd pg xs K ms ax) {d : Nat} {mr : cm_M} {pc np : Nat} {i : Fin 4} {rs : List Nat} {lv st : List am_A} {s : am_S} {k : Option am_A → am_S → Bool} {r : am_V} {L : cm_Lv} {T : List Term} {h : cm_H}
    {a : am_A} (hat : cm_at mr.1 pc = some (.aload_n i, np, rs)) (hf : am_fr xs K s lv st r L T h) (ha : am_nthA lv i.val = some a) (hn : am_tyA a = 3) (hk : ax d mr np lv (a :: st) s k = true) : am_Ev pg d mr pc L T h (am_Goal xs K ms k s r h) := by
  obtain ⟨t, h1, h2, h3⟩ := am_ldx hf ha hn
  exact am_Snd_go (L' := L) (T' := t :: T) (h' := h) (r' := r) hx (fun ih => by simp only [cm_step, hat]; exact am_cm_ld h1 h2 _) hk (am_later_refl ms s r h) (am_push hf h3)
