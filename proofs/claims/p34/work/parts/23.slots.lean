/-! LAYER 2, slots read and written. -/
theorem am_heap_arr {K : List am_K} {h : cm_H} (hh : am_heap K h) {c : Nat} {ty : FieldType} {n : Nat} {rs : List (Int × Int)} (hk : K[c]? = some (.inl (ty, n, rs))) :
    ∃ l, h[c]? = some (.inl (ty, l)) ∧ l.length = n ∧ ∀ i : Nat, i < n → ∃ u, l[i]? = some u ∧ am_isIn u (am_rgAt rs i) := by
  obtain ⟨c0, h1, h2⟩ := hh.2 c _ hk
  obtain ⟨l, h3, h4, h5⟩ := h2
  exact ⟨l, by rw [h1, h3], h4, h5⟩
theorem am_heap_obj {K : List am_K} {h : cm_H} (hh : am_heap K h) {c ci : Nat} {fs : List (Term ⊕ (Int × Int))} (hk : K[c]? = some (.inr (ci, fs))) :
    ∃ l, h[c]? = some (.inr (ci, l)) ∧ l.length = fs.length ∧ ∀ (i : Nat) (sp : Term ⊕ (Int × Int)), fs[i]? = some sp → ∃ u, l[i]? = some u ∧ am_fld sp u := by
  obtain ⟨c0, h1, h2⟩ := hh.2 c _ hk
  obtain ⟨l, h3, h4, h5⟩ := h2
  exact ⟨l, by rw [h1, h3], h4, h5⟩
theorem am_heap_set {K : List am_K} {h : cm_H} (hh : am_heap K h) {c : Nat} {k : am_K} {x : cm_C} (hk : K[c]? = some k) (hx : am_cell k x) : am_heap K (h.set c x) := by
  refine ⟨by rw [List.length_set]; exact hh.1, ?_⟩
  intro i k' hi
  by_cases hc : c = i
  · subst hc
    have hl : c < h.length := by
      rw [hh.1]
      exact (List.getElem?_eq_some_iff.mp hk).1
    rw [hk] at hi
    injection hi with hi
    subst hi
    exact ⟨x, by rw [List.getElem?_set_self hl], hx⟩
  · obtain ⟨c0, h1, h2⟩ := hh.2 i k' hi
    exact ⟨c0, by rw [List.getElem?_set_ne hc]; exact h1, h2⟩
theorem am_out_set (h : cm_H) (c : Nat) (x : cm_C) {ms : List Nat} (hm : c ∈ ms) : am_out ms h (h.set c x) := by
  refine ⟨List.length_set .., ?_⟩
  intro i hi
  have hc : c ≠ i := fun hc => hi (by rw [← hc]; exact hm)
  exact List.getElem?_set_ne hc
theorem am_cell_arr_set {ty : FieldType} {n : Nat} {rs : List (Int × Int)} {l : List Term} (hl : l.length = n) (hr : ∀ i : Nat, i < n → ∃ u, l[i]? = some u ∧ am_isIn u (am_rgAt rs i))
    {j : Nat} {u : Term} (hu : am_isIn u (am_rgAt rs j)) : am_cell (.inl (ty, n, rs)) (.inl (ty, l.set j u)) := by
  refine ⟨l.set j u, rfl, by rw [List.length_set]; exact hl, ?_⟩
  intro i hi
  by_cases hc : j = i
  · subst hc
    exact ⟨u, by rw [List.getElem?_set_self (by omega)], hu⟩
  · obtain ⟨v, h1, h2⟩ := hr i hi
    exact ⟨v, by rw [List.getElem?_set_ne hc]; exact h1, h2⟩
theorem am_cell_obj_set {ci : Nat} {fs : List (Term ⊕ (Int × Int))} {l : List Term} (hl : l.length = fs.length) (hr : ∀ (i : Nat) (sp : Term ⊕ (Int × Int)), fs[i]? = some sp → ∃ u, l[i]? = some u ∧ am_fld sp u)
    {j : Nat} {u : Term} (hu : ∀ sp, fs[j]? = some sp → am_fld sp u) : am_cell (.inr (ci, fs)) (.inr (ci, l.set j u)) := by
  refine ⟨l.set j u, rfl, by rw [List.length_set]; exact hl, ?_⟩
  intro i sp hi
  by_cases hc : j = i
  · subst hc
    have : j < l.length := by rw [hl]; exact (List.getElem?_eq_some_iff.mp hi).1
    exact ⟨u, by rw [List.getElem?_set_self this], hu sp hi⟩
  · obtain ⟨v, h1, h2⟩ := hr i sp hi
    exact ⟨v, by rw [List.getElem?_set_ne hc]; exact h1, h2⟩
/-- the terms of a cell -/
def am_tms (c : Option cm_C) : List Term := match c with
  | some (.inl (_, l)) => l
  | some (.inr (_, l)) => l
  | none => []
theorem am_slot_new {xs : List Int32} {h : cm_H} {c i : Nat} (hc : c < 1000000) : am_slot xs h c i = (am_tms h[c]?)[i]? := by
  unfold am_slot
  split
  · omega
  · omega
  · cases h[c]? with
    | none => simp [am_tms]
    | some x => cases x with
      | inl p => rfl
      | inr p => rfl
theorem am_slot_old {xs : List Int32} {h h' : cm_H} {c i : Nat} (hc : 1000000 ≤ c) (hl : h.length ≤ 1000000) (hl' : h'.length = h.length) : am_slot xs h' c i = am_slot xs h c i := by
  unfold am_slot
  split
  · rfl
  · rfl
  · rw [List.getElem?_eq_none (by omega), List.getElem?_eq_none (by omega)]
/-- a slot that is not the one written is as it was -/
theorem am_slot_ne {xs : List Int32} {h h' : cm_H} {c j : Nat} (hl : h.length ≤ 1000000) (ho : am_out [c] h h') (ht : ∀ i, i ≠ j → (am_tms h'[c]?)[i]? = (am_tms h[c]?)[i]?)
    {d i : Nat} (hn : ¬ (d = c ∧ i = j)) : am_slot xs h' d i = am_slot xs h d i := by
  by_cases hd : d < 1000000
  · rw [am_slot_new hd, am_slot_new hd]
    by_cases hc : d = c
    · subst hc
      exact ht i (fun hi => hn ⟨rfl, hi⟩)
    · rw [ho.2 d (by simpa using hc)]
  · exact am_slot_old (by omega) hl ho.1
/-- what is known of slots but one -/
def am_drop (e : am_E) (c : Nat) (i : am_L) : List ((Nat × am_L) × am_L) → List ((Nat × am_L) × am_L)
  | [] => []
  | ((d, j), v) :: ov => match Nat.beq d c with
    | false => ((d, j), v) :: am_drop e c i ov
    | true => match am_pos e (am_add (-1) (am_add 1 (-1, []) j) i) with
      | true => ((d, j), v) :: am_drop e c i ov
      | false => match am_pos e (am_add (-1) (am_add 1 (-1, []) i) j) with
        | true => ((d, j), v) :: am_drop e c i ov
        | false => am_drop e c i ov
theorem am_drop_mem {e : am_E} {c : Nat} {i : am_L} {r : am_V} (he : am_In r e) : ∀ (ov : List ((Nat × am_L) × am_L)) (o : (Nat × am_L) × am_L), o ∈ am_drop e c i ov → o ∈ ov ∧ ¬ (o.1.1 = c ∧ am_ev r o.1.2 = am_ev r i)
  | [], o, h => by simp [am_drop] at h
  | ((d, j), v) :: ov, o, h => by
    simp only [am_drop] at h
    have hm1 : am_ev r (-1, []) = -1 := rfl
    split at h
    · rename_i hb
      rcases List.mem_cons.mp h with h | h
      · subst h
        refine ⟨List.mem_cons_self .., fun hn => ?_⟩
        have hd : d = c := hn.1
        have : Nat.beq d c = true := by rw [hd]; exact Nat.beq_refl c
        rw [hb] at this; simp at this
      · have := am_drop_mem he ov o h
        exact ⟨List.mem_cons_of_mem _ this.1, this.2⟩
    · split at h
      · rename_i hp
        have hp := am_pos_spec he hp
        rw [am_add_ev, am_add_ev] at hp
        rcases List.mem_cons.mp h with h | h
        · subst h
          refine ⟨List.mem_cons_self .., fun hn => ?_⟩
          have := hn.2
          simp only [] at this
          omega
        · have := am_drop_mem he ov o h
          exact ⟨List.mem_cons_of_mem _ this.1, this.2⟩
      · split at h
        · rename_i hp
          have hp := am_pos_spec he hp
          rw [am_add_ev, am_add_ev] at hp
          rcases List.mem_cons.mp h with h | h
          · subst h
            refine ⟨List.mem_cons_self .., fun hn => ?_⟩
            have := hn.2
            simp only [] at this
            omega
          · have := am_drop_mem he ov o h
            exact ⟨List.mem_cons_of_mem _ this.1, this.2⟩
        · have := am_drop_mem he ov o h
          exact ⟨List.mem_cons_of_mem _ this.1, this.2⟩
