noncomputable section
/-! LAYER 2, a state after a write; what a state knows of a slot. -/
/-- two indexes are one -/
def am_eqN (e : am_E) (j i : am_L) : Bool := match am_norm e (am_add (-1) j i) with
  | (k, []) => am_z k
  | (_, _ :: _) => false
def am_eqI (e : am_E) (j i : am_L) : Bool := List.rec (motive := fun _ => Bool) (List.rec (motive := fun _ => Bool) (am_ie j.1 i.1) (fun _ _ _ => am_eqN e j i) i.2) (fun _ _ _ => am_eqN e j i) j.2
theorem am_eqN_spec {r : am_V} {e : am_E} (he : am_In r e) {j i : am_L} (h : am_eqN e j i = true) : am_ev r j = am_ev r i := by
  have hn := am_norm_ev he (am_add (-1) j i)
  rw [am_add_ev] at hn
  unfold am_eqN at h
  split at h
  · rename_i k hk
    have hz := am_z_spec h
    rw [hk] at hn
    simp only [am_ev, am_ts] at hn ⊢
    omega
  · simp at h
theorem am_eqI_spec {r : am_V} {e : am_E} (he : am_In r e) {j i : am_L} (h : am_eqI e j i = true) : am_ev r j = am_ev r i := by
  obtain ⟨j1, j2⟩ := j
  obtain ⟨i1, i2⟩ := i
  cases j2 with
  | nil =>
    cases i2 with
    | nil =>
      have h : am_ie j1 i1 = true := h
      rw [am_ie_eq] at h
      have hz := am_z_spec h
      simp only [am_ev, am_ts]
      omega
    | cons p t => exact am_eqN_spec he h
  | cons p t => exact am_eqN_spec he h
def am_find (e : am_E) (c : Nat) (i : am_L) (ov : List ((Nat × am_L) × am_L)) : Option am_L := List.rec (motive := fun _ => Option am_L) none (fun o _ ih => Bool.rec (motive := fun _ => Option am_L) ih (Bool.rec (motive := fun _ => Option am_L) ih (some o.2) (am_eqI e o.1.2 i)) (Nat.beq o.1.1 c)) ov
theorem am_find_n (e : am_E) (c : Nat) (i : am_L) : am_find e c i [] = none := rfl
theorem am_find_c (e : am_E) (c : Nat) (i : am_L) (d : Nat) (j v : am_L) (ov : List ((Nat × am_L) × am_L)) : am_find e c i (((d, j), v) :: ov) = (match Nat.beq d c with
    | false => am_find e c i ov
    | true => match am_eqI e j i with
      | true => some v
      | false => am_find e c i ov) := by
  show Bool.rec (motive := fun _ => Option am_L) (am_find e c i ov) (Bool.rec (motive := fun _ => Option am_L) (am_find e c i ov) (some v) (am_eqI e j i)) (Nat.beq d c) = _
  cases Nat.beq d c with
  | false => rfl
  | true =>
    show Bool.rec (motive := fun _ => Option am_L) (am_find e c i ov) (some v) (am_eqI e j i) = _
    cases am_eqI e j i <;> rfl
theorem am_find_spec {r : am_V} {e : am_E} (he : am_In r e) {c : Nat} {i : am_L} : ∀ (ov : List ((Nat × am_L) × am_L)) (v : am_L), am_find e c i ov = some v → ∃ j, ((c, j), v) ∈ ov ∧ am_ev r j = am_ev r i
  | [], v, h => by simp [am_find_n] at h
  | ((d, j), w) :: ov, v, h => by
    have go : am_find e c i ov = some v → ∃ j', ((c, j'), v) ∈ ((d, j), w) :: ov ∧ am_ev r j' = am_ev r i := fun hg => by
      obtain ⟨j', h1, h2⟩ := am_find_spec he ov v hg
      exact ⟨j', List.mem_cons_of_mem _ h1, h2⟩
    rw [am_find_c] at h
    split at h
    · exact go h
    · rename_i hb
      have hd : d = c := Nat.eq_of_beq_eq_true hb
      split at h
      · rename_i hz
        injection h with h
        refine ⟨j, ?_, am_eqI_spec he hz⟩
        rw [← hd, ← h]; exact List.mem_cons_self ..
      · exact go h
/-- what is found there is what lies there -/
theorem am_find_slot {xs : List Int32} {s : am_S} {r : am_V} {h : cm_H} (hs : am_holds xs s r h) {c : Nat} {i v : am_L} (hf : am_find s.2.1 c i s.2.2.2 = some v) (hc : c < 2000000) {j : Nat} (hj : am_All s.1 r (fun q => am_ev q i = (j : Int)))
    {x : Int32} (hx : am_slot xs h c j = some (.int x)) : am_All s.1 r (fun q => x.toInt = am_ev q v) := by
  intro q hq hg
  obtain ⟨h1, _, h3⟩ := hs q hq hg
  obtain ⟨j', hm, he⟩ := am_find_spec h1 _ _ hf
  obtain ⟨_, y, hy, hv⟩ := (h3 _ hm).1 hc
  have hi : am_ev q i = (j : Int) := hj q hq hg
  simp only [he, hi, Int.toNat_natCast] at hy
  rw [hx] at hy
  injection hy with hy
  injection hy with hy
  rw [hy]; exact hv
/-- the terms of a cell that is not written -/
theorem am_tms_out {ms : List (Nat × Nat)} {h h' : cm_H} (ho : am_out ms h h') {c : Nat} (hc : ∀ j : Nat, (c, j) ∉ ms) : am_tms h'[c]? = am_tms h[c]? :=
  List.ext_getElem? (fun j => ho.2 c (hc 0) j (hc (j + 1)))
theorem am_fe_out {ms : List (Nat × Nat)} {h h' : cm_H} {r : am_V} {o : (Nat × am_L) × am_L} (ho : am_out ms h h') (h1 : ∀ j : Nat, (59, j) ∉ ms) (h2 : ∀ j : Nat, (104, j) ∉ ms) (hf : am_fe h r o) : am_fe h' r o := by
  unfold am_fe
  rw [am_tms_out ho h1, am_tms_out ho h2]
  exact hf
theorem am_fe_wr {e : am_E} {fs : am_F} {h h' : cm_H} {r : am_V} {c j : Nat} {i : am_L} {o : (Nat × am_L) × am_L} (he : am_In r e) (hf : am_Fs r fs) (_hc : c < 1000000) (ho : am_out [(c, 0)] h h') (ht : ∀ k, k ≠ j → (am_tms h'[c]?)[k]? = (am_tms h[c]?)[k]?) (hi : am_ev r i = (j : Int)) (_h3 : 3000000 ≤ o.1.1) (h5 : 5000000 ≤ o.1.1)
    (hk : am_kp e fs c i o.1.1 o.2 = true) (hfe : am_fe h r o) : am_fe h' r o := by
  unfold am_kp at hk
  split at hk
  · rename_i hb
    have := Nat.eq_of_beq_eq_true hb
    omega
  · split at hk
    · rename_i hb
      have h5' : Nat.ble 5000000 o.1.1 = true := by simpa using h5
      rw [h5', Bool.true_and] at hb
      obtain ⟨g1, g2⟩ := am_isTp_spec hb
      refine am_fe_out ho (fun k hm => ?_) (fun k hm => ?_) hfe
      · simp only [List.mem_cons, Prod.mk.injEq, List.not_mem_nil, or_false] at hm; exact g1 hm.1.symm
      · simp only [List.mem_cons, Prod.mk.injEq, List.not_mem_nil, or_false] at hm; exact g2 hm.1.symm
    · simp only [Bool.and_eq_true] at hk
      have hk1 := Nat.eq_of_beq_eq_true hk.1
      have hp := am_prove_spec he hf hk.2
      rw [am_add_ev] at hp
      unfold am_fe at hfe ⊢
      rw [hk1, am_fw_2] at hfe ⊢
      intro k hkk
      have hkj : k ≠ j := by omega
      have key : ∀ d : Nat, (am_tms h'[d]?)[k]? = (am_tms h[d]?)[k]? := fun d => by
        by_cases hd : d = c
        · rw [hd]; exact ht k hkj
        · exact ho.2 d (by simpa using hd) k (by simp)
      rw [key 59, key 104]
      exact hfe k hkk
def am_wr (s : am_S) (c : Nat) (i v : am_L) : am_S := match s with
  | (n, e, fs, ov) => (n, e, fs, ((c, i), v) :: am_drop e fs c i ov)
theorem am_wr_wf {s : am_S} {c : Nat} {i v : am_L} (hw : am_wf s) : am_wf (am_wr s c i v) := hw
theorem am_wr_spec {xs : List Int32} {s : am_S} {r : am_V} {h h' : cm_H} (hs : am_holds xs s r h) {c j : Nat} {i v : am_L} {x : Int32} (hc : c < 1000000) (hl : h.length ≤ 1000000) (ho : am_out [(c, 0)] h h')
    (ht : ∀ k, k ≠ j → (am_tms h'[c]?)[k]? = (am_tms h[c]?)[k]?) (hx : am_slot xs h' c j = some (.int x))
    (hj : am_All s.1 r (fun q => am_ev q i = (j : Int))) (hv : am_All s.1 r (fun q => x.toInt = am_ev q v)) : am_holds xs (am_wr s c i v) r h' := by
  obtain ⟨n, e, fs, ov⟩ := s
  intro q hq hg
  obtain ⟨h1, h2, h3⟩ := hs q hq hg
  have hi : am_ev q i = (j : Int) := hj q hq hg
  refine ⟨h1, h2, ?_⟩
  intro o hm
  rcases List.mem_cons.mp hm with hm | hm
  · subst hm
    refine am_ent_slot (by simp only []; omega) ?_
    refine ⟨by simp only [hi]; exact Int.natCast_nonneg j, x, ?_, hv q hq hg⟩
    simp only [hi, Int.toNat_natCast]
    exact hx
  · obtain ⟨hm1, hm2, hm3⟩ := am_drop_mem h1 h2 ov o hm
    have h4 := h3 o hm1
    refine ⟨fun hlt => ?_, h4.2.1, fun h33 => ?_, fun h55 => ?_⟩
    · obtain ⟨h5, y, h6, h7⟩ := h4.1 hlt
      refine ⟨h5, y, ?_, h7⟩
      rw [am_slot_ne hl ho ht]
      · exact h6
      · intro hn
        refine hm2 ⟨hn.1, ?_⟩
        have := hn.2
        omega
    · have hz := hm3 (by omega) (by omega)
      unfold am_kp at hz
      rw [h33] at hz
      have hz : (!(am_isFz c)) = true := hz
      have hz : am_isFz c = false := by simpa using hz
      refine am_I_out hl ho (fun d hd k hk => ?_) (h4.2.2.1 h33)
      simp only [List.mem_cons, Prod.mk.injEq, List.not_mem_nil, or_false] at hk
      exact am_isFz_spec hz d hd hk.1
    · have hz := hm3 (by omega) (by omega)
      refine am_fe_wr h1 h2 hc ho ht hi (by omega) h55 hz (h4.2.2.2 h55)
/-- one entry more -/
def am_kn (s : am_S) (c : Nat) (i v : am_L) : am_S := match s with
  | (n, e, fs, ov) => (n, e, fs, ((c, i), v) :: ov)
theorem am_kn_wf {s : am_S} {c : Nat} {i v : am_L} (hw : am_wf s) : am_wf (am_kn s c i v) := hw
theorem am_kn_1 (s : am_S) (c : Nat) (i v : am_L) : (am_kn s c i v).1 = s.1 := rfl
theorem am_kn_ent {xs : List Int32} {s : am_S} {r : am_V} {h : cm_H} (hs : am_holds xs s r h) {c : Nat} {i v : am_L} (he : am_All s.1 r (fun q => am_ent xs h q ((c, i), v))) : am_holds xs (am_kn s c i v) r h := by
  obtain ⟨n, e, fs, ov⟩ := s
  intro q hq hg
  obtain ⟨h1, h2, h3⟩ := hs q hq hg
  refine ⟨h1, h2, ?_⟩
  intro o hm
  rcases List.mem_cons.mp hm with hm | hm
  · subst hm; exact he q hq hg
  · exact h3 o hm
/-- the mode: a number that tells which contracts are meant -/
def am_mode (s : am_S) : Int := match am_find s.2.1 4000000 (0, []) s.2.2.2 with
  | some (k, _) => k
  | none => 0
theorem am_kn_pt {xs : List Int32} {s : am_S} {r : am_V} {h : cm_H} (hs : am_holds xs s r h) {c : Nat} {i v : am_L} (hp : ∀ q, am_Rg q → am_holds xs s q h → am_ent xs h q ((c, i), v)) : am_holds xs (am_kn s c i v) r h :=
  am_kn_ent hs (fun q hq hg => hp q hq (am_All_more (Nat.le_refl _) hg hs))
theorem am_kn_any {xs : List Int32} {s : am_S} {r : am_V} {h : cm_H} (hs : am_holds xs s r h) {c : Nat} (h1 : 4000000 ≤ c) (h2 : c < 5000000) (i v : am_L) : am_holds xs (am_kn s c i v) r h :=
  am_kn_ent hs (fun _ _ _ => am_ent_any h1 h2)
theorem am_kn_spec {xs : List Int32} {s : am_S} {r : am_V} {h : cm_H} (hs : am_holds xs s r h) {c j : Nat} {i v : am_L} {x : Int32} (hc : c < 2000000) (hx : am_slot xs h c j = some (.int x))
    (hj : am_All s.1 r (fun q => am_ev q i = (j : Int))) (hv : am_All s.1 r (fun q => x.toInt = am_ev q v)) : am_holds xs (am_kn s c i v) r h := by
  refine am_kn_ent hs (fun q hq hg => am_ent_slot hc ?_)
  have hi : am_ev q i = (j : Int) := hj q hq hg
  refine ⟨by simp only [hi]; exact Int.natCast_nonneg j, x, ?_, hv q hq hg⟩
  simp only [hi, Int.toNat_natCast]
  exact hx
end
