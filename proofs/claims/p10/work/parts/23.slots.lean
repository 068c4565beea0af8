noncomputable section
/-! LAYER 2, slots read and written. -/
theorem am_heap_arr {K : List am_K} {h : cm_H} (hh : am_heap K h) {c : Nat} {ty : FieldType} {n : Nat} {rs : List (Int × Int)} (hk : K[c]? = some (.inl (ty, n, rs))) :
    ∃ l, h[c]? = some (.inl (ty, l)) ∧ l.length = n ∧ ∀ i : Nat, i < n → ∃ u, l[i]? = some u ∧ am_isIn u (am_rgAt rs i) := by
  obtain ⟨c0, h1, h2⟩ := hh.2 c _ hk
  obtain ⟨l, h3, h4, h5⟩ := h2
  exact ⟨l, by rw [h1, h3], h4, h5⟩
theorem am_heap_obj {K : List am_K} {h : cm_H} (hh : am_heap K h) {c ci : Nat} {fs : List (Term ⊕ (Int × Int))} (hk : K[c]? = some (.inr (ci, fs))) :
    ∃ l, h[c]? = some (.inr (ci, l)) ∧ l.length = fs.length ∧ ∀ (i : Nat) (sp : Term ⊕ (Int × Int)), fs[i]? = some sp → ∃ u, l[i]? = some u ∧ am_fld sp u := by
  obtain ⟨c0, h1, h2⟩ := hh.2 c _ hk
  obtain ⟨l, h3, h4, h5⟩ := h2
  exact ⟨l, by rw [h1, h3], h4, h5⟩
theorem am_heap_set {K : List am_K} {h : cm_H} (hh : am_heap K h) {c : Nat} {k : am_K} {x : cm_C} (hk : K[c]? = some k) (hx : am_cell k x) : am_heap K (h.set c x) := by
  refine ⟨by rw [List.length_set]; exact hh.1, ?_⟩
  intro i k' hi
  by_cases hc : c = i
  · subst hc
    have hl : c < h.length := by
      rw [hh.1]
      exact (List.getElem?_eq_some_iff.mp hk).1
    rw [hk] at hi
    injection hi with hi
    subst hi
    exact ⟨x, by rw [List.getElem?_set_self hl], hx⟩
  · obtain ⟨c0, h1, h2⟩ := hh.2 i k' hi
    exact ⟨c0, by rw [List.getElem?_set_ne hc]; exact h1, h2⟩
theorem am_out_set (h : cm_H) (c : Nat) (x : cm_C) {ms : List (Nat × Nat)} (hm : (c, 0) ∈ ms) : am_out ms h (h.set c x) := by
  refine ⟨List.length_set .., ?_⟩
  intro i hi j hj
  have hc : c ≠ i := fun hc => hi (by rw [← hc]; exact hm)
  rw [List.getElem?_set_ne hc]
theorem am_out_set1 (h : cm_H) (c k ci : Nat) (l : List Term) (u : Term) (hl : h[c]? = some (.inr (ci, l))) {ms : List (Nat × Nat)} (hm : (c, k + 1) ∈ ms) : am_out ms h (h.set c (.inr (ci, l.set k u))) := by
  refine ⟨List.length_set .., ?_⟩
  intro i hi j hj
  by_cases hc : c = i
  · subst hc
    have hlt : c < h.length := (List.getElem?_eq_some_iff.mp hl).1
    have hk : k ≠ j := fun hk => hj (by rw [← hk]; exact hm)
    rw [List.getElem?_set_self hlt, hl]
    show (l.set k u)[j]? = l[j]?
    rw [List.getElem?_set_ne hk]
  · rw [List.getElem?_set_ne hc]
theorem am_cell_arr_set {ty : FieldType} {n : Nat} {rs : List (Int × Int)} {l : List Term} (hl : l.length = n) (hr : ∀ i : Nat, i < n → ∃ u, l[i]? = some u ∧ am_isIn u (am_rgAt rs i))
    {j : Nat} {u : Term} (hu : am_isIn u (am_rgAt rs j)) : am_cell (.inl (ty, n, rs)) (.inl (ty, l.set j u)) := by
  refine ⟨l.set j u, rfl, by rw [List.length_set]; exact hl, ?_⟩
  intro i hi
  by_cases hc : j = i
  · subst hc
    exact ⟨u, by rw [List.getElem?_set_self (by omega)], hu⟩
  · obtain ⟨v, h1, h2⟩ := hr i hi
    exact ⟨v, by rw [List.getElem?_set_ne hc]; exact h1, h2⟩
theorem am_cell_obj_set {ci : Nat} {fs : List (Term ⊕ (Int × Int))} {l : List Term} (hl : l.length = fs.length) (hr : ∀ (i : Nat) (sp : Term ⊕ (Int × Int)), fs[i]? = some sp → ∃ u, l[i]? = some u ∧ am_fld sp u)
    {j : Nat} {u : Term} (hu : ∀ sp, fs[j]? = some sp → am_fld sp u) : am_cell (.inr (ci, fs)) (.inr (ci, l.set j u)) := by
  refine ⟨l.set j u, rfl, by rw [List.length_set]; exact hl, ?_⟩
  intro i sp hi
  by_cases hc : j = i
  · subst hc
    have : j < l.length := by rw [hl]; exact (List.getElem?_eq_some_iff.mp hi).1
    exact ⟨u, by rw [List.getElem?_set_self this], hu sp hi⟩
  · obtain ⟨v, h1, h2⟩ := hr i sp hi
    exact ⟨v, by rw [List.getElem?_set_ne hc]; exact h1, h2⟩
theorem am_slot_new {xs : List Int32} {h : cm_H} {c i : Nat} (hc : c < 1000000) : am_slot xs h c i = (am_tms h[c]?)[i]? := by
  unfold am_slot
  split
  · omega
  · omega
  · rfl
theorem am_slot_old {xs : List Int32} {h h' : cm_H} {c i : Nat} (hc : 1000000 ≤ c) (hl : h.length ≤ 1000000) (hl' : h'.length = h.length) : am_slot xs h' c i = am_slot xs h c i := by
  unfold am_slot
  split
  · rfl
  · rfl
  · have e1 : h'[c]? = none := List.getElem?_eq_none (by omega)
    have e2 : h[c]? = none := List.getElem?_eq_none (by omega)
    rw [e1, e2]
/-- a slot that is not among those that may have changed -/
theorem am_slot_out {xs : List Int32} {h h' : cm_H} {ms : List (Nat × Nat)} (hl : h.length ≤ 1000000) (ho : am_out ms h h') {d i : Nat} (h1 : (d, 0) ∉ ms) (h2 : (d, i + 1) ∉ ms) : am_slot xs h' d i = am_slot xs h d i := by
  by_cases hd : d < 1000000
  · rw [am_slot_new hd, am_slot_new hd]; exact ho.2 d h1 i h2
  · exact am_slot_old (by omega) hl ho.1
/-- the draft's cells go together, if none of them has changed -/
theorem am_I_out {xs : List Int32} {h h' : cm_H} {ms : List (Nat × Nat)} (hl : h.length ≤ 1000000) (ho : am_out ms h h') (hz : ∀ c ∈ am_Fz, ∀ j : Nat, (c, j) ∉ ms) (hi : am_I xs h) : am_I xs h' := by
  obtain ⟨r, h1, h2, h3, h4⟩ := hi
  refine ⟨r, h1, h2, h3, fun o hm => ?_⟩
  obtain ⟨h5, x, h6, h7⟩ := h4 o hm
  have hc : ∀ o ∈ am_Do, o.1.1 ∈ am_Fz := by decide
  refine ⟨h5, x, ?_, h7⟩
  rw [am_slot_out hl ho (hz _ (hc o hm) _) (hz _ (hc o hm) _)]
  exact h6
/-- a slot that is not the one written is as it was -/
theorem am_slot_ne {xs : List Int32} {h h' : cm_H} {c j : Nat} (hl : h.length ≤ 1000000) (ho : am_out [(c, 0)] h h') (ht : ∀ i, i ≠ j → (am_tms h'[c]?)[i]? = (am_tms h[c]?)[i]?)
    {d i : Nat} (hn : ¬ (d = c ∧ i = j)) : am_slot xs h' d i = am_slot xs h d i := by
  by_cases hd : d < 1000000
  · rw [am_slot_new hd, am_slot_new hd]
    by_cases hc : d = c
    · subst hc
      exact ht i (fun hi => hn ⟨rfl, hi⟩)
    · exact ho.2 d (by simpa using hc) i (by simp)
  · exact am_slot_old (by omega) hl ho.1
def am_isFz (c : Nat) : Bool := Nat.beq c 71 || (Nat.beq c 72 || (Nat.beq c 74 || Nat.beq c 76))
theorem am_isFz_spec {c : Nat} (h : am_isFz c = false) : ∀ d ∈ am_Fz, d ≠ c := by
  intro d hd he
  subst he
  simp only [am_isFz, Bool.or_eq_false_iff] at h
  simp only [am_Fz, List.mem_cons, List.not_mem_nil, or_false] at hd
  rcases hd with hd | hd | hd | hd <;> subst hd <;> simp at h
/-- two places are not one -/
def am_nePl (e : am_E) (fs : am_F) (j i : am_L) : Bool := match am_prove e fs (am_add (-1) (am_add 1 (-1, []) j) i) with
  | true => true
  | false => am_prove e fs (am_add (-1) (am_add 1 (-1, []) i) j)
def am_neP (e : am_E) (fs : am_F) (j i : am_L) : Bool := List.rec (motive := fun _ => Bool) (List.rec (motive := fun _ => Bool) (Bool.rec (motive := fun _ => Bool) true false (am_ie j.1 i.1)) (fun _ _ _ => am_nePl e fs j i) i.2) (fun _ _ _ => am_nePl e fs j i) j.2
theorem am_nePl_spec {e : am_E} {fs : am_F} {r : am_V} (he : am_In r e) (hf : am_Fs r fs) {j i : am_L} (h : am_nePl e fs j i = true) : am_ev r j ≠ am_ev r i := by
  have hm1 : am_ev r (-1, []) = -1 := rfl
  unfold am_nePl at h
  split at h
  · rename_i hp
    have hp := am_prove_spec he hf hp
    rw [am_add_ev, am_add_ev] at hp
    omega
  · have hp := am_prove_spec he hf h
    rw [am_add_ev, am_add_ev] at hp
    omega
theorem am_neP_spec {e : am_E} {fs : am_F} {r : am_V} (he : am_In r e) (hf : am_Fs r fs) {j i : am_L} (h : am_neP e fs j i = true) : am_ev r j ≠ am_ev r i := by
  obtain ⟨j1, j2⟩ := j
  obtain ⟨i1, i2⟩ := i
  cases j2 with
  | nil =>
    cases i2 with
    | nil =>
      have h : Bool.rec (motive := fun _ => Bool) true false (am_ie j1 i1) = true := h
      cases hz : am_ie j1 i1 with
      | true => rw [hz] at h; simp at h
      | false =>
        simp only [am_ev, am_ts]
        intro he
        rw [am_ie_eq] at hz
        have : j1 - i1 = 0 := by omega
        rw [this] at hz
        simp [am_z] at hz
    | cons p t => exact am_nePl_spec he hf h
  | cons p t => exact am_nePl_spec he hf h
def am_isTp (c : Nat) : Bool := Nat.beq c 59 || Nat.beq c 104
theorem am_isTp_spec {c : Nat} (h : am_isTp c = false) : c ≠ 59 ∧ c ≠ 104 := by
  simp only [am_isTp, Bool.or_eq_false_iff] at h
  exact ⟨fun hc => by subst hc; simp at h, fun hc => by subst hc; simp at h⟩
/-- is an entry that is no slot kept, if one is written? -/
def am_kp (e : am_E) (fs : am_F) (c : Nat) (i : am_L) (d : Nat) (v : am_L) : Bool := match Nat.beq d 3000000 with
  | true => !(am_isFz c)
  | false => match Nat.ble 5000000 d && am_isTp c with
    | false => true
    | true => Nat.beq d 5000002 && am_prove e fs (am_add (-1) i v)
/-- what is known of slots but one -/
def am_drop (e : am_E) (fs : am_F) (c : Nat) (i : am_L) (ov : List ((Nat × am_L) × am_L)) : List ((Nat × am_L) × am_L) := List.rec (motive := fun _ => List ((Nat × am_L) × am_L)) [] (fun o _ ih => Bool.rec (motive := fun _ => List ((Nat × am_L) × am_L)) (match Nat.ble 3000000 o.1.1 with
      | false => o :: ih
      | true => match am_kp e fs c i o.1.1 o.2 with
        | false => ih
        | true => o :: ih) (Bool.rec (motive := fun _ => List ((Nat × am_L) × am_L)) ih (o :: ih) (am_neP e fs o.1.2 i)) (Nat.beq o.1.1 c)) ov
theorem am_drop_n (e : am_E) (fs : am_F) (c : Nat) (i : am_L) : am_drop e fs c i [] = [] := rfl
theorem am_drop_c (e : am_E) (fs : am_F) (c : Nat) (i : am_L) (d : Nat) (j v : am_L) (ov : List ((Nat × am_L) × am_L)) : am_drop e fs c i (((d, j), v) :: ov) = (match Nat.beq d c with
    | false => (match Nat.ble 3000000 d with
      | false => ((d, j), v) :: am_drop e fs c i ov
      | true => match am_kp e fs c i d v with
        | false => am_drop e fs c i ov
        | true => ((d, j), v) :: am_drop e fs c i ov)
    | true => match am_neP e fs j i with
      | true => ((d, j), v) :: am_drop e fs c i ov
      | false => am_drop e fs c i ov) := by
  show Bool.rec (motive := fun _ => List ((Nat × am_L) × am_L)) (match Nat.ble 3000000 d with
      | false => ((d, j), v) :: am_drop e fs c i ov
      | true => match am_kp e fs c i d v with
        | false => am_drop e fs c i ov
        | true => ((d, j), v) :: am_drop e fs c i ov) (Bool.rec (motive := fun _ => List ((Nat × am_L) × am_L)) (am_drop e fs c i ov) (((d, j), v) :: am_drop e fs c i ov) (am_neP e fs j i)) (Nat.beq d c) = _
  cases Nat.beq d c with
  | false => rfl
  | true =>
    show Bool.rec (motive := fun _ => List ((Nat × am_L) × am_L)) (am_drop e fs c i ov) (((d, j), v) :: am_drop e fs c i ov) (am_neP e fs j i) = _
    cases am_neP e fs j i <;> rfl
theorem am_drop_mem {e : am_E} {fs : am_F} {c : Nat} {i : am_L} {r : am_V} (he : am_In r e) (hf : am_Fs r fs) : ∀ (ov : List ((Nat × am_L) × am_L)) (o : (Nat × am_L) × am_L), o ∈ am_drop e fs c i ov → o ∈ ov ∧ ¬ (o.1.1 = c ∧ am_ev r o.1.2 = am_ev r i) ∧ (3000000 ≤ o.1.1 → o.1.1 ≠ c → am_kp e fs c i o.1.1 o.2 = true)
  | [], o, h => by simp [am_drop_n, am_drop_c] at h
  | ((d, j), v) :: ov, o, h => by
    have hm1 : am_ev r (-1, []) = -1 := rfl
    have go : o ∈ am_drop e fs c i ov → o ∈ ((d, j), v) :: ov ∧ ¬ (o.1.1 = c ∧ am_ev r o.1.2 = am_ev r i) ∧ (3000000 ≤ o.1.1 → o.1.1 ≠ c → am_kp e fs c i o.1.1 o.2 = true) := fun hg => by
      have := am_drop_mem he hf ov o hg
      exact ⟨List.mem_cons_of_mem _ this.1, this.2⟩
    simp only [am_drop_n, am_drop_c] at h
    split at h
    · rename_i hb
      have hdc : d ≠ c := fun hd => by
        have : Nat.beq d c = true := by rw [hd]; exact Nat.beq_refl c
        rw [hb] at this; simp at this
      split at h
      · rename_i hb2
        rcases List.mem_cons.mp h with h | h
        · subst h
          refine ⟨List.mem_cons_self .., fun hn => hdc hn.1, fun h3 => ?_⟩
          have h3' : 3000000 ≤ d := h3
          have : Nat.ble 3000000 d = true := by simpa using h3'
          rw [hb2] at this; simp at this
        · exact go h
      · split at h
        · exact go h
        · rename_i hz
          rcases List.mem_cons.mp h with h | h
          · subst h
            exact ⟨List.mem_cons_self .., fun hn => hdc hn.1, fun _ _ => hz⟩
          · exact go h
    · rename_i hb
      have hdc : d = c := Nat.eq_of_beq_eq_true hb
      split at h
      · rename_i hp
        have hp := am_neP_spec he hf hp
        rcases List.mem_cons.mp h with h | h
        · subst h
          exact ⟨List.mem_cons_self .., fun hn => hp hn.2, fun _ hn => absurd hdc hn⟩
        · exact go h
      · exact go h
end
