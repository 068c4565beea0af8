noncomputable section
/-! LAYER 2, a state with one thing more known, or one variable more. -/
def am_addF (a : am_L) (fs : am_F) : am_F := match a.2 with
  | _ :: _ :: _ => am_mf a :: fs
  | _ => fs
theorem am_addF_Fs {r : am_V} {a : am_L} {fs : am_F} (ha : 0 ≤ am_ev r a) (hf : am_Fs r fs) : am_Fs r (am_addF a fs) := by
  intro f hm
  simp only [am_addF] at hm
  split at hm
  · rcases List.mem_cons.mp hm with h | h
    · rw [h]; exact ha
    · exact hf f h
  · exact hf f hm
/-- narrowed by facts that share a variable with those before -/
def am_tgC (vs : Nat) (fs : am_F) (e : am_E) : Option am_E := List.rec (motive := fun _ => Nat → am_E → Option am_E) (fun _ e => some e) (fun f _ ih vs e => Bool.rec (motive := fun _ => Option am_E) (match am_tight e f.2 with
      | some e' => ih (Nat.lor vs f.1.2) e'
      | none => none) (ih vs e) (Nat.beq (Nat.land vs f.1.2) 0)) fs vs e
theorem am_tgC_n (vs : Nat) (e : am_E) : am_tgC vs [] e = some e := rfl
theorem am_tgC_c (vs : Nat) (f : (Nat × Nat) × am_L) (fs : am_F) (e : am_E) : am_tgC vs (f :: fs) e = (match Nat.beq (Nat.land vs f.1.2) 0 with
    | true => am_tgC vs fs e
    | false => match am_tight e f.2 with
      | some e' => am_tgC (Nat.lor vs f.1.2) fs e'
      | none => none) := by
  show Bool.rec (motive := fun _ => Option am_E) (match am_tight e f.2 with
      | some e' => am_tgC (Nat.lor vs f.1.2) fs e'
      | none => none) (am_tgC vs fs e) (Nat.beq (Nat.land vs f.1.2) 0) = _
  cases Nat.beq (Nat.land vs f.1.2) 0 <;> rfl
theorem am_tgC_spec {r : am_V} (fs : am_F) : ∀ (vs : Nat) (e : am_E), am_In r e → am_Fs r fs → ∃ e', am_tgC vs fs e = some e' ∧ am_In r e' := by
  induction fs with
  | nil => exact fun _ e h _ => ⟨e, am_tgC_n _ _, h⟩
  | cons f fs ih =>
    intro vs e h hf
    rw [am_tgC_c]
    cases Nat.beq (Nat.land vs f.1.2) 0 with
    | true => exact ih vs e h (fun a ha => hf a (List.mem_cons_of_mem _ ha))
    | false =>
      obtain ⟨e', h1, h2⟩ := am_tight_spec h (hf f (List.mem_cons_self ..))
      simp only [h1]
      exact ih _ e' h2 (fun a ha => hf a (List.mem_cons_of_mem _ ha))
/-- narrowed by a form, then by facts -/
def am_tgB (b : am_L) (fs : am_F) (e : am_E) : Option am_E := match am_tight e b with
  | none => none
  | some e1 => am_tgC (am_mk1 b.2) fs e1
theorem am_tgB_spec {r : am_V} {b : am_L} {fs : am_F} {e : am_E} (h : am_In r e) (hb : 0 ≤ am_ev r b) (hf : am_Fs r fs) : ∃ e', am_tgB b fs e = some e' ∧ am_In r e' := by
  obtain ⟨e1, h1, h2⟩ := am_tight_spec h hb
  simp only [am_tgB, h1]
  exact am_tgC_spec fs _ e1 h2 hf
/-- a form that is not below 0 comes to what is known; none: that can't be -/
def am_ref (s : am_S) (a : am_L) : Option am_S := match s with
  | (n, e, fs, ov) => match am_norm e a with
    | (k, []) => (match am_nn k with
      | true => some (n, e, fs, ov)
      | false => none)
    | (k, t :: ts) => match am_pos e (k, t :: ts) with
      | true => some (n, e, fs, ov)
      | false => match am_pos e (am_add (-1) (-1, []) (k, t :: ts)) with
        | true => none
        | false => match am_pr0 e (am_add (-1) (-1, []) (k, t :: ts)) fs with
          | true => none
          | false => match am_tgB (k, t :: ts) fs e with
            | none => none
            | some e' => some (n, e', am_addF (k, t :: ts) fs, ov)
/-- a form that is known: it narrows once, and is kept; none: that can't be -/
def am_ad1 (s : am_S) (a : am_L) : Option am_S := match s with
  | (n, e, fs, ov) => match am_norm e a with
    | (k, []) => (match am_nn k with
      | true => some (n, e, fs, ov)
      | false => none)
    | (k, t :: ts) => match am_pos e (k, t :: ts) with
      | true => some (n, e, fs, ov)
      | false => match am_tight e (k, t :: ts) with
        | none => none
        | some e' => some (n, e', am_addF (k, t :: ts) fs, ov)
theorem am_norm_all {xs : List Int32} {n : Nat} {e : am_E} {fs : am_F} {ov : List ((Nat × am_L) × am_L)} {r : am_V} {h : cm_H} {a : am_L} (hs : am_holds xs (n, e, fs, ov) r h) (ha : am_All n r (fun q => 0 ≤ am_ev q a)) : am_All n r (fun q => 0 ≤ am_ev q (am_norm e a)) := fun q hq hg => by
  have h1 := (hs q hq hg).1
  have h2 := ha q hq hg
  simp only [] at h1 h2 ⊢
  rw [am_norm_ev h1]; exact h2
/-- narrowed by a form that holds -/
theorem am_tg_all {xs : List Int32} {n : Nat} {e : am_E} {fs : am_F} {ov : List ((Nat × am_L) × am_L)} {r : am_V} {h : cm_H} {b : am_L} (hr : am_Rg r) (hs : am_holds xs (n, e, fs, ov) r h) (hb : am_All n r (fun q => 0 ≤ am_ev q b)) :
    ∃ e', am_tight e b = some e' ∧ am_holds xs (n, e', am_addF b fs, ov) r h := by
  obtain ⟨e', h1, h2⟩ := am_tight_spec (am_All_here hr hs).1 (am_All_here hr hb)
  refine ⟨e', h1, ?_⟩
  intro q hq ha
  obtain ⟨e2, h3, h4⟩ := am_tight_spec (hs q hq ha).1 (hb q hq ha)
  simp only [] at h3
  rw [h1] at h3
  injection h3 with h3
  subst h3
  exact ⟨h4, am_addF_Fs (hb q hq ha) (hs q hq ha).2.1, (hs q hq ha).2.2⟩
theorem am_tgB_all {xs : List Int32} {n : Nat} {e : am_E} {fs : am_F} {ov : List ((Nat × am_L) × am_L)} {r : am_V} {h : cm_H} {b : am_L} (hr : am_Rg r) (hs : am_holds xs (n, e, fs, ov) r h) (hb : am_All n r (fun q => 0 ≤ am_ev q b)) :
    ∃ e', am_tgB b fs e = some e' ∧ am_holds xs (n, e', am_addF b fs, ov) r h := by
  obtain ⟨p1, p2, _⟩ := am_All_here hr hs
  obtain ⟨e', h1, h2⟩ := am_tgB_spec p1 (am_All_here hr hb) p2
  refine ⟨e', h1, ?_⟩
  intro q hq ha
  obtain ⟨q1, q2, q3⟩ := hs q hq ha
  obtain ⟨e2, h3, h4⟩ := am_tgB_spec q1 (hb q hq ha) q2
  rw [h1] at h3
  injection h3 with h3
  subst h3
  exact ⟨h4, am_addF_Fs (hb q hq ha) q2, q3⟩
theorem am_neg1 {q : am_V} {b : am_L} : am_ev q (am_add (-1) (-1, []) b) = -1 - am_ev q b := by
  rw [am_add_ev]
  have h3 : am_ev q (-1, []) = -1 := rfl
  omega
theorem am_ref_spec {xs : List Int32} {s : am_S} {r : am_V} {h : cm_H} {a : am_L} (hr : am_Rg r) (hs : am_holds xs s r h) (ha : am_All s.1 r (fun q => 0 ≤ am_ev q a)) :
    ∃ s', am_ref s a = some s' ∧ s'.1 = s.1 ∧ am_holds xs s' r h := by
  obtain ⟨n, e, fs, ov⟩ := s
  have hN := am_norm_all hs ha
  have h0 := am_All_here hr hs
  have hn0 := am_All_here hr hN
  simp only [am_ref]
  generalize hb : am_norm e a = b at hN hn0
  obtain ⟨k, l⟩ := b
  cases l with
  | nil =>
    have : 0 ≤ k := by simpa [am_ev, am_ts] using hn0
    simp only [am_nn_of this]
    exact ⟨_, rfl, rfl, hs⟩
  | cons t ts =>
    simp only []
    cases hp0 : am_pos e (k, t :: ts) with
    | true => exact ⟨_, rfl, rfl, hs⟩
    | false =>
      simp only []
      cases hp : am_pos e (am_add (-1) (-1, []) (k, t :: ts)) with
      | true =>
        have := am_pos_spec h0.1 hp
        rw [am_neg1] at this
        omega
      | false =>
        simp only []
        cases hp2 : am_pr0 e (am_add (-1) (-1, []) (k, t :: ts)) fs with
        | true =>
          have := am_pr0_spec h0.1 h0.2.1 hp2
          rw [am_neg1] at this
          omega
        | false =>
          obtain ⟨e', h1, h2⟩ := am_tgB_all hr hs hN
          simp only [h1]
          exact ⟨_, rfl, rfl, h2⟩
theorem am_ad1_spec {xs : List Int32} {s : am_S} {r : am_V} {h : cm_H} {a : am_L} (hr : am_Rg r) (hs : am_holds xs s r h) (ha : am_All s.1 r (fun q => 0 ≤ am_ev q a)) :
    ∃ s', am_ad1 s a = some s' ∧ s'.1 = s.1 ∧ am_holds xs s' r h := by
  obtain ⟨n, e, fs, ov⟩ := s
  have hN := am_norm_all hs ha
  have hn0 := am_All_here hr hN
  simp only [am_ad1]
  generalize hb : am_norm e a = b at hN hn0
  obtain ⟨k, l⟩ := b
  cases l with
  | nil =>
    have : 0 ≤ k := by simpa [am_ev, am_ts] using hn0
    simp only [am_nn_of this]
    exact ⟨_, rfl, rfl, hs⟩
  | cons t ts =>
    simp only []
    cases hp0 : am_pos e (k, t :: ts) with
    | true => exact ⟨_, rfl, rfl, hs⟩
    | false =>
      obtain ⟨e', h1, h2⟩ := am_tg_all hr hs hN
      simp only [h1]
      exact ⟨_, rfl, rfl, h2⟩
end
