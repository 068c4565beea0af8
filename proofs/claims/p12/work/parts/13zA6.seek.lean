noncomputable section
/-! L3: the class seeks the best plan. -/
section
variable {X : Term} {xs : List Int32}
def pK (c : Nat) : Prop := c = 65 ∨ c = 68 ∨ (71 ≤ c ∧ c ≤ 77) ∨ c = 79 ∨ (81 ≤ c ∧ c ≤ 84)
theorem pK_Q {H G : fl_H} (o : oc pQ H G) : oc pK H G := oc_mono o (fun c h => by unfold pQ at h; unfold pK; omega)
theorem pK_S {H G : fl_H} (o : oc pS H G) : oc pK H G := oc_mono o (fun c h => by unfold pS at h; unfold pK; omega)
/-- bonds that no good that is in has are kept; no page of an empty plan lacks room -/
theorem zke_0 (z : Nat → Int) (b : Nat) : zke z (fun _ => 0) b := Or.inl rfl
theorem zcn_0 (p : Nat) : zcn (fun _ => 0) p = 0 := by
  have key : ∀ n, ncd (fun _ => 0) p n = 0 := by
    intro n
    have e : ∀ k, ndg (fun _ => 0) p k = 0 := fun k => if_neg (fun h => h.1 rfl)
    induction n with
    | zero => rfl
    | succ n ih => unfold ncd; rw [ih, e n]; simp
  exact key 6
theorem zfit_0 (z : Nat → Int) (p : Nat) : zfit z (zcn (fun _ => 0) p) := by
  rw [zcn_0]
  have f : ∀ g, zM 0 g = true → False := fun g h => by
    have := zM_t.mp h
    exact this (by unfold dig; simp)
  exact ⟨fun _ => 0, fun g _ h => (f g h).elim, fun g k _ _ h _ _ => (f g h).elim⟩
theorem zso_0 (z : Nat → Int) : zso z (fun _ => 0) := ⟨fun b _ => zke_0 z b, fun p _ => zfit_0 z p⟩
theorem nod_0 {z : Nat → Int} (hw : wf z) : nod z 0 (fun _ => 0) := ⟨rk_0 hw.1.1, fun _ _ => rfl, fun b _ _ => zke_0 z b, fun p _ => zfit_0 z p⟩
theorem zgd_0 (z : Nat → Int) (r : Nat → Nat) : zgd z r 0 = 0 := psm_zero (fun b _ => by (try dsimp only); rw [if_neg (by omega)])
theorem zwo_0 {z : Nat → Int} (h : (z 1).toNat = 0) : zwo z (fun _ => 0) = 0 := by
  have e1 : zus z (fun _ => 0) = 0 := psm_zero (fun p _ => by
    have : ncr (fun _ => 0) p = 0 := psm_zero (fun g _ => fcr_0 p g)
    (try dsimp only)
    rw [this, if_neg (by omega)])
  have e2 : psm (zga z (fun _ => 0)) (z 2).toNat = 0 := psm_zero (fun b _ => by unfold zga; rw [if_pos (Or.inl rfl)])
  have e3 : psm (fun g => if (0 : Nat) = 0 then 0 else zsh z (fun _ => 0) g ((z 1).toNat - 0)) 0 = 0 := rfl
  unfold zwo zbr
  have e4 : ((0 : Int) + 1).tdiv 2 = 0 := by decide +kernel
  rw [e2, h, e1, Int.zero_mul, e4, Int.zero_mul]
  rfl
theorem ds_seek {m : Nat} {z : Nat → Int} {H : fl_H} {e1 e2 e3 : Int} (hw : wf z) (hd : dcx z (fun _ => 0) H) (hb : -1 ≤ e2 ∧ e2 ≤ 6) (hl : 0 ≤ e3 ∧ e3 ≤ 100) (bA : -1000000000 ≤ e1 ∧ e1 ≤ 1000000000) (h0 : (z 1).toNat = 0 → e1 < 0) (R : Nat → Nat) : ck (cm_pg X xs) m cm_m60 [.index 79, fl_t e1, fl_t e2, fl_t e3] H (fun r' H' => ∃ A' R' F', r' = some (fl_b F') ∧ oc pK H H' ∧ (∀ i, i ≠ 4 → i ≠ 5 → i ≠ 6 → H' 79 i = H 79 i) ∧ dcx z (fun _ => 0) H' ∧ sst A' R' F' H' ∧ bst z (alw z (fun g => fl_w (H 80 g)) e2 0 e3 (fun _ => 0)) e1 R False A' R' F') := by
  refine ve_Search_seek_79 (fun H1 q1 H3 q3 H5 q5 m1 hm1 => ?_)
  have o5 : oc (fun c => c = 79) H H5 := by
    have u : ∀ (G : fl_H) (i : Nat) (v : Int), oc (fun c => c = 79) G (fl_up G 79 i v) := fun G i v c hc => fl_up_cell G 79 i v hc
    rw [q5, q3, q1]; exact oc_trans (oc_trans (u _ _ _) (u _ _ _)) (u _ _ _)
  have d5 : dcx z (fun _ => 0) H5 := ⟨dz_oc hd.1 o5 (fun c hc => by omega), dr_oc hd.2.1 o5 (fun c a b => by omega), mo_oc hd.2.2.1 o5 (by omega), flo_oc hd.2.2.2 o5 (fun c a b => by omega)⟩
  have i5 : ∀ i, i ≠ 4 → i ≠ 5 → i ≠ 6 → H5 79 i = H 79 i := fun i h4 h5 h6 => by rw [q5, fl_up_i _ _ _ _ h5, q3, fl_up_i _ _ _ _ h6, q1, fl_up_i _ _ _ _ h4]
  have v4 : H5 79 4 = e1 := by rw [q5, fl_up_i _ _ _ _ (by decide), q3, fl_up_i _ _ _ _ (by decide), q1, fl_up_at]
  have v5 : H5 79 5 = 0 := by rw [q5, fl_up_at]
  have v6 : H5 79 6 = e2 := by rw [q5, fl_up_i _ _ _ _ (by decide), q3, fl_up_at]
  refine ck_mono (ds_sort (X := X) (xs := xs) d5.1 hw) (fun r7 H7 h7 => ⟨h7.1, fun m2 hm2 => ?_⟩)
  obtain ⟨-, o7, s7⟩ := h7
  have d7 : dcx z (fun _ => 0) H7 := ⟨dz_oc d5.1 o7 (fun c hc => by unfold pS; omega), dr_oc d5.2.1 o7 (fun c a b => by unfold pS; omega), mo_oc d5.2.2.1 o7 (by unfold pS; omega), flo_oc d5.2.2.2 o7 (fun c a b => by unfold pS; omega)⟩
  have e79 : H7 79 = H5 79 := o7 79 (by unfold pS; omega)
  have e80 : H7 80 = H 80 := (o7 80 (by unfold pS; omega)).trans (o5 80 (by decide))
  have x7 : scx z (fun g => fl_w (H 80 g)) e2 (fun _ => 0) H7 := ⟨d7, s7, by rw [e79, v6], fun g _ => by rw [e80]⟩
  have t7 : sst e1 R False H7 := ⟨by rw [e79, v4], by rw [e79, v5, fl_b0 (fun h => h)], fun h => h.elim⟩
  refine ck_mono (ds_decide (X := X) (xs := xs) (lk := fun g => fl_w (H 80 g)) (ban := e2) hw (fl_wi (by omega) (by omega)) (z 1).toNat 0 (by omega) m2 H7 (fun _ => 0) R False e1 e3 0 e3 0 x7 t7 (nod_0 hw) hl.1 hl.2 bA (fun e => by rw [zwo_0 e.symm]; exact h0 e.symm) rfl rfl (zgd_0 z _).symm) (fun r9 H9 h9 => ⟨h9.1, ?_⟩)
  obtain ⟨-, o9, t9, d9, A', R', F', s9, b9⟩ := h9
  exact ⟨A', R', F', by rw [s9.2.1], oc_trans (oc_trans (oc_mono o5 (fun c h => by unfold pK; omega)) (pK_S o7)) (pK_Q o9), fun i h4 h5 h6 => by rw [t9 i h4 h5, e79, i5 i h4 h5 h6], d9, s9, b9⟩
end
end
