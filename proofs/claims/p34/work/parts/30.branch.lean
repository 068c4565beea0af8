/-! LAYER 2, branches. -/
def am_negc (c : ClassFile.Cond) : ClassFile.Cond := match c with
  | .lt => .ge
  | .ge => .lt
  | .gt => .le
  | .le => .gt
  | .eq => .ne
  | .ne => .eq
theorem am_negc_spec {c : ClassFile.Cond} {d : Int} (h : ¬ am_cond c d) : am_cond (am_negc c) d := by
  cases c <;> simp only [am_negc, am_cond] at h ⊢ <;> omega
def am_br (l : List am_L) (s : am_S) (go : am_S → Bool) : Bool := match am_refs l s with
  | none => true
  | some s' => go s'
/-- one way of a branch, with what it says -/
theorem am_br_spec {xs : List Int32} {K : List am_K} {s : am_S} {lv st : List am_A} {r : am_V} {L : cm_Lv} {T : List Term} {h : cm_H} (hf : am_fr xs K s lv st r L T h) {l : List am_L} (hl : ∀ f ∈ l, am_All s.1 r (fun q => 0 ≤ am_ev q f)) {go : am_S → Bool} (hg : am_br l s go = true) :
    ∃ s', go s' = true ∧ s'.1 = s.1 ∧ am_fr xs K s' lv st r L T h := by
  obtain ⟨s', h1, h2, h3, h4⟩ := am_refs_spec hf.1 l s hf.2.1 hf.2.2.1 hl
  simp only [am_br, h1] at hg
  refine ⟨s', hg, h2, hf.1, h3, h4, hf.2.2.2.1, ?_, ?_⟩
  · rw [h2]; exact hf.2.2.2.2.1
  · rw [h2]; exact hf.2.2.2.2.2
theorem am_later_same {ms : List Nat} {s s' : am_S} (he : s'.1 = s.1) (r : am_V) (h : cm_H) : am_later ms s s' r r h h := ⟨by rw [he]; exact Nat.le_refl _, am_Ag_refl _ _, am_out_refl _ _⟩
theorem am_i_icmp {pg : cm_G} {xs : List Int32} {K : List am_K} {ms : List Nat} {ax : am_Ch} (hx : am_Snd pg xs K ms ax) {d : Nat} {mr : cm_M} {pc np t : Nat} {o : Int} {rs : List Nat} {lv st : List am_A} {s : am_S} {k : Option am_A → am_S → Bool} {r : am_V} {L : cm_Lv} {T : List Term} {h : cm_H}
    {c : ClassFile.Cond} {a b : am_L} (hat : cm_at mr.1 pc = some (.if_icmp c o, np, t :: rs)) (hf : am_fr xs K s lv ((0, b) :: (0, a) :: st) r L T h)
    (hk1 : am_br (am_forms c (am_add (-1) a b)) s (fun s' => ax d mr t lv st s' k) = true) (hk2 : am_br (am_forms (am_negc c) (am_add (-1) a b)) s (fun s' => ax d mr np lv st s' k) = true) : am_Ev pg d mr pc L T h (am_Goal xs K ms k s r h) := by
  obtain ⟨t1, T1, e1, ht, hf1⟩ := am_top hf
  obtain ⟨u, T2, e2, hu, hf2⟩ := am_top hf1
  obtain ⟨y, e3, hy⟩ := am_int hf.1 ht
  obtain ⟨x, e4, hx'⟩ := am_int hf.1 hu
  subst e3; subst e4; subst e2; subst e1
  have hd : am_All s.1 r (fun q => am_ev q (am_add (-1) a b) = x.toInt - y.toInt) := fun q hq hg => by
    have := am_sum (-1) hx' hy q hq hg
    simp only [] at this ⊢
    omega
  by_cases hc : cm_cb c x y = true
  · have hcc := (am_cb_iff c x y).mp hc
    obtain ⟨s', hg, he, hfr⟩ := am_br_spec hf2 (fun f hm q hq hg => by
      have h1 : am_ev q (am_add (-1) a b) = x.toInt - y.toInt := hd q hq hg
      rw [← h1] at hcc
      exact am_forms_spec hcc f hm) hk1
    exact am_Snd_go (L' := L) (T' := T2) (h' := h) (r' := r) hx (fun ih => by simp only [cm_step, hat, cm_two, hc, if_true]) hg (am_later_same he r h) hfr
  · have hcc := am_negc_spec (fun hn => hc ((am_cb_iff c x y).mpr hn))
    obtain ⟨s', hg, he, hfr⟩ := am_br_spec hf2 (fun f hm q hq hg => by
      have h1 : am_ev q (am_add (-1) a b) = x.toInt - y.toInt := hd q hq hg
      rw [← h1] at hcc
      exact am_forms_spec hcc f hm) hk2
    exact am_Snd_go (L' := L) (T' := T2) (h' := h) (r' := r) hx (fun ih => by simp only [cm_step, hat, cm_two, hc]; rfl) hg (am_later_same he r h) hfr
