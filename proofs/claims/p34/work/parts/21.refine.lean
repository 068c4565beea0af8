/-! LAYER 2, a state with one thing more known, or one variable more. -/
def am_addF (a : am_L) (fs : am_F) : am_F := match a.2 with
  | _ :: _ :: _ => a :: fs
  | _ => fs
theorem am_addF_Fs {r : am_V} {a : am_L} {fs : am_F} (ha : 0 ≤ am_ev r a) (hf : am_Fs r fs) : am_Fs r (am_addF a fs) := by
  intro f hm
  simp only [am_addF] at hm
  split at hm
  · rcases List.mem_cons.mp hm with h | h
    · rw [h]; exact ha
    · exact hf f h
  · exact hf f hm
/-- a form that is not below 0 comes to what is known; none: that can't be -/
def am_ref (s : am_S) (a : am_L) : Option am_S := match s with
  | (n, e, fs, ov) => match am_norm e a with
    | (k, []) => (match am_nn k with
      | true => some (n, e, fs, ov)
      | false => none)
    | (k, t :: ts) => match am_prove e fs (am_add (-1) (-1, []) (k, t :: ts)) with
      | true => none
      | false => match am_tights ((k, t :: ts) :: fs) e with
        | none => none
        | some e' => some (n, e', am_addF (k, t :: ts) fs, ov)
theorem am_ref_spec {xs : List Int32} {s : am_S} {r : am_V} {h : cm_H} {a : am_L} (hr : am_Rg r) (hs : am_holds xs s r h) (ha : am_All s.1 r (fun q => 0 ≤ am_ev q a)) :
    ∃ s', am_ref s a = some s' ∧ s'.1 = s.1 ∧ am_holds xs s' r h := by
  obtain ⟨n, e, fs, ov⟩ := s
  have hN : am_All n r (fun q => 0 ≤ am_ev q (am_norm e a)) := fun q hq hg => by
    have h1 := (hs q hq hg).1
    have h2 := ha q hq hg
    simp only [] at h1 h2 ⊢
    rw [am_norm_ev h1]; exact h2
  have h0 := am_All_here hr hs
  have hn0 := am_All_here hr hN
  simp only [am_ref]
  generalize hb : am_norm e a = b at hN hn0
  obtain ⟨k, l⟩ := b
  cases l with
  | nil =>
    have : 0 ≤ k := by simpa [am_ev, am_ts] using hn0
    simp only [am_nn_of this]
    exact ⟨_, rfl, rfl, hs⟩
  | cons t ts =>
    simp only []
    cases hp : am_prove e fs (am_add (-1) (-1, []) (k, t :: ts)) with
    | true =>
      have := am_prove_spec h0.1 h0.2.1 hp
      rw [am_add_ev] at this
      have h3 : am_ev r (-1, []) = -1 := rfl
      omega
    | false =>
      have hF : ∀ q, am_Rg q → am_Ag n r q → am_Fs q ((k, t :: ts) :: fs) := fun q hq hg f hm => by
        rcases List.mem_cons.mp hm with h | h
        · rw [h]; exact hN q hq hg
        · exact (hs q hq hg).2.1 f h
      obtain ⟨e', h1, h2⟩ := am_tights_spec ((k, t :: ts) :: fs) e h0.1 (hF r hr (am_Ag_refl n r))
      simp only [h1]
      refine ⟨_, rfl, rfl, ?_⟩
      intro q hq hg
      obtain ⟨e2, h3, h4⟩ := am_tights_spec ((k, t :: ts) :: fs) e (hs q hq hg).1 (hF q hq hg)
      rw [h1] at h3
      injection h3 with h3
      subst h3
      exact ⟨h4, am_addF_Fs (hN q hq hg) (hs q hq hg).2.1, (hs q hq hg).2.2⟩
/-- the ranges with one more at their end -/
def am_snoc {α : Type} : List α → α → List α
  | [], x => [x]
  | y :: l, x => y :: am_snoc l x
theorem am_nth_snoc {α : Type} (d x : α) : ∀ (l : List α) (v : Nat), v ≠ l.length → am_nth d (am_snoc l x) v = am_nth d l v
  | [], 0, h => absurd rfl h
  | [], _ + 1, _ => rfl
  | _ :: _, 0, _ => rfl
  | _ :: l, v + 1, h => am_nth_snoc d x l v (fun hv => h (by rw [hv]; rfl))
theorem am_nth_snoc_at {α : Type} (d x : α) : ∀ (l : List α), am_nth d (am_snoc l x) l.length = x
  | [] => rfl
  | _ :: l => am_nth_snoc_at d x l
