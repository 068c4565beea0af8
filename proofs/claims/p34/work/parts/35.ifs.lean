/-! LAYER 2, branches on one int, also on the sign of a difference of longs. -/
theorem am_if_core {pg : cm_G} {xs : List Int32} {K : List am_K} {ms : List Nat} {ax : am_Ch} (hx : am_Snd pg xs K ms ax) {d : Nat} {mr : cm_M} {pc np t : Nat} {o : Int} {rs : List Nat} {lv st : List am_A} {s : am_S} {k : Option am_A → am_S → Bool} {r : am_V} {L : cm_Lv} {T : List Term} {h : cm_H}
    {c : ClassFile.Cond} {a : am_L} {x : Int32} (hat : cm_at mr.1 pc = some (.ifCond c o, np, t :: rs)) (hf : am_fr xs K s lv st r L T h) (hc : am_All s.1 r (fun q => am_cond c x.toInt ↔ am_cond c (am_ev q a)))
    (hk1 : am_br (am_forms c a) s (fun s' => ax d mr t lv st s' k) = true) (hk2 : am_br (am_forms (am_negc c) a) s (fun s' => ax d mr np lv st s' k) = true) : am_Ev pg d mr pc L (.int x :: T) h (am_Goal xs K ms k s r h) := by
  have h0 : x.toInt - (0 : Int32).toInt = x.toInt := by
    have : (0 : Int32).toInt = 0 := rfl
    omega
  have hb := am_cb_iff c x 0
  rw [h0] at hb
  by_cases hcc : cm_cb c x 0 = true
  · obtain ⟨s', hg, he, hfr⟩ := am_br_spec hf (fun f hm q hq hg => am_forms_spec ((hc q hq hg).mp (hb.mp hcc)) f hm) hk1
    exact am_Snd_go (L' := L) (T' := T) (h' := h) (r' := r) hx (fun ih => by simp only [cm_step, hat, cm_one, hcc, if_true]) hg (am_later_same he r h) hfr
  · obtain ⟨s', hg, he, hfr⟩ := am_br_spec hf (fun f hm q hq hg => am_forms_spec (am_negc_spec (fun hn => hcc (hb.mpr ((hc q hq hg).mpr hn)))) f hm) hk2
    exact am_Snd_go (L' := L) (T' := T) (h' := h) (r' := r) hx (fun ih => by simp only [cm_step, hat, cm_one, hcc]; rfl) hg (am_later_same he r h) hfr
theorem am_i_if {pg : cm_G} {xs : List Int32} {K : List am_K} {ms : List Nat} {ax : am_Ch} (hx : am_Snd pg xs K ms ax) {d : Nat} {mr : cm_M} {pc np t : Nat} {o : Int} {rs : List Nat} {lv st : List am_A} {s : am_S} {k : Option am_A → am_S → Bool} {r : am_V} {L : cm_Lv} {T : List Term} {h : cm_H}
    {c : ClassFile.Cond} {a : am_L} (hat : cm_at mr.1 pc = some (.ifCond c o, np, t :: rs)) (hf : am_fr xs K s lv ((0, a) :: st) r L T h)
    (hk1 : am_br (am_forms c a) s (fun s' => ax d mr t lv st s' k) = true) (hk2 : am_br (am_forms (am_negc c) a) s (fun s' => ax d mr np lv st s' k) = true) : am_Ev pg d mr pc L T h (am_Goal xs K ms k s r h) := by
  obtain ⟨t1, T1, e1, ht, hf1⟩ := am_top hf
  obtain ⟨x, e2, hx'⟩ := am_int hf.1 ht
  subst e2; subst e1
  refine am_if_core hx hat hf1 (fun q hq hg => ?_) hk1 hk2
  have : x.toInt = am_ev q a := hx' q hq hg
  rw [this]
