/-! LAYER 2, returns. -/
def am_dvA (s : am_S) (a : am_L) (ty : FieldType) : Bool := match ty with
  | .int => true
  | .boolean => (match am_prove s.2.1 s.2.2.1 a with
    | true => am_prove s.2.1 s.2.2.1 (am_add (-1) (1, []) a)
    | false => false)
  | _ => false
theorem am_dvA_spec {xs : List Int32} {s : am_S} {r : am_V} {h : cm_H} (hr : am_Rg r) (hs : am_holds xs s r h) {a : am_L} {x : Int32} (hx : x.toInt = am_ev r a) {ty : FieldType} (hd : am_dvA s a ty = true) : cm_dv (.int x) ty = true := by
  obtain ⟨h1, h2, _⟩ := am_All_here hr hs
  unfold am_dvA at hd
  split at hd
  · rfl
  · split at hd
    · rename_i hp
      have hp := am_prove_spec h1 h2 hp
      have hq := am_prove_spec h1 h2 hd
      rw [am_add_ev] at hq
      have e2 : am_ev r (1, []) = 1 := rfl
      have hc : x.toInt = 0 ∨ x.toInt = 1 := by omega
      rcases hc with hc | hc
      · have : x = 0 := (am_eq32 x 0).mpr (by rw [hc]; rfl)
        rw [this]; decide
      · have : x = 1 := (am_eq32 x 1).mpr (by rw [hc]; rfl)
        rw [this]; decide
    · simp at hd
  · simp at hd
theorem am_i_ireturn {pg : cm_G} {xs : List Int32} {K : List am_K} {ms : List Nat} {d : Nat} {mr : cm_M} {pc np : Nat} {rs : List Nat} {lv : List am_A} {s : am_S} {k : Option am_A → am_S → Bool} {r : am_V} {L : cm_Lv} {T : List Term} {h : cm_H}
    {a : am_L} {ty : FieldType} (hat : cm_at mr.1 pc = some (.ireturn, np, rs)) (hf : am_fr xs K s lv [(0, a)] r L T h) (hm : mr.2.2 = some ty) (hd : am_dvA s a ty = true) (hk : k (some (0, a)) s = true) : am_Ev pg d mr pc L T h (am_Goal xs K ms k s r h) := by
  obtain ⟨t, T1, e1, ht, hf1⟩ := am_top hf
  obtain ⟨x, e2, hx⟩ := am_int hf.1 ht
  have hT : T1 = [] := by
    have := am_All_here hf1.1 hf1.2.2.2.2.2
    cases T1 with
    | nil => rfl
    | cons u T2 => simp [am_sts] at this
  subst e2; subst hT; subst e1
  have hv := am_dvA_spec hf.1 hf.2.2.1 (am_All_here hf.1 hx) hd
  exact am_Ev_ret (v := some (.int x)) (h' := h) (fun ih => by simp only [cm_step, hat, cm_ret, hm, hv, if_true]) ⟨s, r, some (0, a), hk, am_later_refl ms s r h, hf.1, hf.2.1, hf.2.2.1, hf.2.2.2.1, .int x, rfl, ht⟩
theorem am_i_return {pg : cm_G} {xs : List Int32} {K : List am_K} {ms : List Nat} {d : Nat} {mr : cm_M} {pc np : Nat} {rs : List Nat} {lv : List am_A} {s : am_S} {k : Option am_A → am_S → Bool} {r : am_V} {L : cm_Lv} {T : List Term} {h : cm_H}
    (hat : cm_at mr.1 pc = some (.return_, np, rs)) (hf : am_fr xs K s lv [] r L T h) (hm : mr.2.2 = none) (hk : k none s = true) : am_Ev pg d mr pc L T h (am_Goal xs K ms k s r h) := by
  have hT : T = [] := by
    have := am_All_here hf.1 hf.2.2.2.2.2
    cases T with
    | nil => rfl
    | cons u T2 => simp [am_sts] at this
  subst hT
  exact am_Ev_ret (v := none) (h' := h) (fun ih => by simp only [cm_step, hat, hm, and_self, if_true]) ⟨s, r, none, hk, am_later_refl ms s r h, hf.1, hf.2.1, hf.2.2.1, hf.2.2.2.1, rfl⟩
