noncomputable section
/-! L3: the class climbs by steps. -/
section
variable {X : Term} {xs : List Int32}
theorem rlt_no {z : Nat → Int} {r R : Nat → Nat} (hr : rk z r) (hR : rk z R) (h : ∀ g : Nat, (g : Int) < z 1 → r g = R g) : ¬ rlt r R := by
  rintro ⟨k, k6, k1, -⟩
  by_cases e : (k : Int) < z 1
  · have := h k e; omega
  · have a := (hr.1 k k6).2 (by omega)
    have b := (hR.1 k k6).2 (by omega)
    omega
theorem rlt_fst {r R : Nat → Nat} {k : Nat} (k6 : k < 6) (h : ∀ j, j < k → r j = R j) (ne : r k ≠ R k) : rlt r R ↔ r k < R k := by
  constructor
  · rintro ⟨i, i6, i1, i2⟩
    rcases Nat.lt_trichotomy i k with q | q | q
    · have := h i q; omega
    · subst q; exact i1
    · exact absurd (i2 k q) ne
  · intro q
    exact ⟨k, k6, q, h⟩
theorem ds_ahead {m : Nat} {z : Nat → Int} {r R : Nat → Nat} {H : fl_H} (h : dcx z r H) (hw : wf z) (hr : rk z r) (hR : rk z R) (h8 : ∀ g, g < 6 → H 81 g = ((R g : Nat) : Int)) : ck (cm_pg X xs) m cm_m29 [.index 69, .index 81] H (fun r' H' => r' = some (fl_b (rlt r R)) ∧ H' = H) := by
  obtain ⟨z00, z3, z10, z6, -⟩ := hw.1
  obtain ⟨n, hn⟩ : ∃ n : Nat, z 1 = (n : Int) := ⟨(z 1).toNat, by omega⟩
  have lp : ∀ (f k : Nat), k + f = n → (∀ j, j < k → r j = R j) → ∀ N, hd_Draft_isAheadOf_69_81_2 (cm_pg X xs) N H (k : Int) (fun r' H' => r' = some (fl_b (rlt r R)) ∧ H' = H) := by
    intro f
    induction f with
    | zero =>
      intro k hk hj N
      have e : k = n := by omega
      subst e
      refine vh_Draft_isAheadOf_69_81_2 ?_
      rw [gz_1 h.1.1, hn]
      refine ⟨fun _ => ⟨?_, rfl⟩, fun hh => absurd (Int.le_refl _) hh⟩
      rw [fl_b0 (rlt_no hr hR (fun g hg => hj g (by omega)))]
    | succ f ih =>
      intro k hk hj N
      have ek : (k : Int) + 1 = ((k + 1 : Nat) : Int) := by omega
      have k6 : k < 6 := by omega
      have r1 := (hr.1 k k6).1
      have r2 := (hR.1 k k6).1
      refine vh_Draft_isAheadOf_69_81_2 ?_
      rw [gz_1 h.1.1, hn, fl_wi (x := (n : Int)) (by omega) (by omega), fl_wi (x := (k : Int)) (by omega) (by omega), Int.toNat_natCast, (h.2.1.2.1 k k6).1, h8 k k6, fl_wi (x := ((r k : Nat) : Int)) (by omega) (by omega), fl_wi (x := ((R k : Nat) : Int)) (by omega) (by omega), ek]
      refine ⟨fun hh => by omega, fun _ _ _ => ⟨fun q m hm => ih (k + 1) (by omega) (fun j hjk => ?_) m, fun q _ _ => ⟨fun q2 => ⟨?_, rfl⟩, fun q2 => ⟨?_, rfl⟩⟩⟩⟩
      · by_cases e : j = k
        · rw [e]; omega
        · exact hj j (by omega)
      · rw [fl_b0 (fun q3 => by have := (rlt_fst k6 hj (by omega)).mp q3; omega)]
      · rw [fl_b1 ((rlt_fst k6 hj (by omega)).mpr (by omega))]
  exact ve_Draft_isAheadOf_69_81 (lp n 0 (by omega) (fun j hj => absurd hj (by omega)) m)
def zupd (z : Nat → Int) (s : Nat → Nat) (A1 : Int) (R1 : Nat → Nat) (F1 : Prop) (A2 : Int) (R2 : Nat → Nat) (F2 : Prop) : Prop :=
  (A2 = A1 ∧ R2 = R1 ∧ (F2 ↔ F1) ∧ (zso z s → zwo z s ≤ A1 ∧ (zwo z s = A1 → F1 → s = R1 ∨ rlt R1 s))) ∨ (F2 ∧ R2 = s ∧ zso z s ∧ A2 = zwo z s ∧ A1 ≤ A2 ∧ (A2 = A1 → F1 ∧ rlt s R1))
theorem zfb_bd {z : Nat → Int} {r : Nat → Nat} (hw : wf z) : -4 ≤ zfb z r ∧ zfb z r < 12 ∧ (0 ≤ zfb z r ∨ zfb z r = -4) := by
  have := ffo_rg (zke z r) (z 2).toNat 0
  have b := hw.1.2.2.2.2
  unfold zfb
  omega
theorem zfc_bd {z : Nat → Int} {r : Nat → Nat} (hw : wf z) : -4 ≤ zfc z r ∧ zfc z r < 3 ∧ (0 ≤ zfc z r ∨ zfc z r = -4) := by
  have := ffo_rg (fun p => zfit z (zcn r p)) (z 0).toNat 0
  have b := hw.1.1
  have c := hw.1.2.1
  unfold zfc
  omega
theorem ds_weigh {m : Nat} {z : Nat → Int} {s R1 : Nat → Nat} {F1 : Prop} {A1 : Int} {H : fl_H} (hw : wf z) (hd : dcx z s H) (hs : rk z s) (st : sst A1 R1 F1 H) (bA : -1000000000 ≤ A1 ∧ A1 ≤ 1000000000) (hR : F1 → rk z R1) : ck (cm_pg X xs) m cm_m59 [.index 79] H (fun r' H' => r' = none ∧ oc pQ H H' ∧ s79 H H' ∧ dcx z s H' ∧ ∃ A2 R2 F2, sst A2 R2 F2 H' ∧ (F2 → rk z R2) ∧ zupd z s A1 R1 F1 A2 R2 F2) := by
  have wb := zwo_bd hw hs.1
  have stay : (zso z s → zwo z s ≤ A1 ∧ (zwo z s = A1 → F1 → s = R1 ∨ rlt R1 s)) → ∀ G, oc pQ H G → s79 H G → G 81 = H 81 → G 79 = H 79 → dcx z s G → (none : Option Int) = none ∧ oc pQ H G ∧ s79 H G ∧ dcx z s G ∧ ∃ A2 R2 F2, sst A2 R2 F2 G ∧ (F2 → rk z R2) ∧ zupd z s A1 R1 F1 A2 R2 F2 := fun k G o t e8 e7 d =>
    ⟨rfl, o, t, d, A1, R1, F1, ⟨by rw [e7]; exact st.1, by rw [e7]; exact st.2.1, fun f g hg => by rw [e8]; exact st.2.2 f g hg⟩, hR, Or.inl ⟨rfl, rfl, Iff.rfl, k⟩⟩
  refine ve_Search_weigh_79 (fun m1 hm1 => ck_mono (dc_amount (X := X) (xs := xs) hd.1 hw hd.2.1 hd.2.2.1) (fun r1 H1 h1 => ⟨_, h1.1, ?_⟩))
  have e1 := h1.2
  subst e1
  have fin : A1 ≤ zwo z s → (zwo z s = A1 → F1 ∧ rlt s R1) → ∀ m', ck (cm_pg X xs) m' cm_m27 [.index 69] H1 (fun r H11 => ∃ x13, r = some x13 ∧ ((fl_w x13 = (-4) → ∀ k, k < m → ck (cm_pg X xs) k cm_m28 [.index 69] H11 (fun r H15 => ∃ x17, r = some x17 ∧ ((fl_w x17 = (-4) → ∀ k, k < m → ck (cm_pg X xs) k cm_m66 [.index 79, fl_t (zwo z s)] H15 (fun r H19 => r = none ∧ ((none : Option Int) = none ∧ oc pQ H1 H19 ∧ s79 H1 H19 ∧ dcx z s H19 ∧ ∃ A2 R2 F2, sst A2 R2 F2 H19 ∧ (F2 → rk z R2) ∧ zupd z s A1 R1 F1 A2 R2 F2))) ∧ (¬ fl_w x17 = (-4) → ((none : Option Int) = none ∧ oc pQ H1 H15 ∧ s79 H1 H15 ∧ dcx z s H15 ∧ ∃ A2 R2 F2, sst A2 R2 F2 H15 ∧ (F2 → rk z R2) ∧ zupd z s A1 R1 F1 A2 R2 F2))))) ∧ (¬ fl_w x13 = (-4) → ((none : Option Int) = none ∧ oc pQ H1 H11 ∧ s79 H1 H11 ∧ dcx z s H11 ∧ ∃ A2 R2 F2, sst A2 R2 F2 H11 ∧ (F2 → rk z R2) ∧ zupd z s A1 R1 F1 A2 R2 F2)))) := fun hA ht m' => by
    have b1 := zfb_bd (r := s) hw
    have b2 := zfc_bd (r := s) hw
    refine ck_mono (dc_broken (X := X) (xs := xs) hd.1 hw hd.2.1) (fun r11 H11 h11 => ⟨_, h11.1, ?_⟩)
    have e11 := h11.2
    subst e11
    rw [fl_wi (x := zfb z s) (by omega) (by omega)]
    refine ⟨fun q k hk => ck_mono (dc_crowded (X := X) (xs := xs) hd.1 hw hd.2.1 hd.2.2.2) (fun r15 H15 h15 => ⟨_, h15.1, ?_⟩), fun q => stay (fun so => absurd (zfb_ok.mpr so.1) q) H11 (oc_refl _ _) (s79_refl _) rfl rfl hd⟩
    obtain ⟨-, o15, f15⟩ := h15
    have d15 := dcx_pL hd o15 f15
    rw [fl_wi (x := zfc z s) (by omega) (by omega)]
    refine ⟨fun q2 k2 hk2 => ck_mono (ds_keep (X := X) (xs := xs)) (fun r19 H19 h19 => ⟨h19.1, rfl, ?_⟩), fun q2 => stay (fun so => absurd (zfc_ok.mpr so.2) q2) H15 (pQ_L o15) (s79_oc o15 (by unfold pL; omega)) (o15 81 (by unfold pL; omega)) (o15 79 (by unfold pL; omega)) d15⟩
    obtain ⟨-, o19, t19, a19, f19, r19⟩ := h19
    have d19 : dcx z s H19 := ⟨dz_oc d15.1 o19 (fun c hc => by omega), dr_oc d15.2.1 o19 (fun c a b => by omega), mo_oc d15.2.2.1 o19 (by omega), flo_oc d15.2.2.2 o19 (fun c a b => by omega)⟩
    exact ⟨oc_trans (pQ_L o15) (oc_mono o19 (fun c h => by unfold pQ; omega)), s79_trans (s79_oc o15 (by unfold pL; omega)) t19, d19, zwo z s, s, True, ⟨a19, by rw [f19, fl_b1 trivial], fun _ g hg => by rw [r19 g hg]; exact (d15.2.1.2.1 g hg).1⟩, fun _ => hs, Or.inr ⟨trivial, rfl, ⟨zfb_ok.mp q, zfc_ok.mp q2⟩, rfl, hA, ht⟩⟩
  rw [st.1, st.2.1, fb_0, fl_wb (x := A1) (by omega) (by omega), fl_wb (x := zwo z s) (by omega) (by omega)]
  refine ⟨fun q => ⟨fun q2 => ⟨fun q3 => stay (fun so => ⟨by omega, fun _ f => absurd f q3⟩) H1 (oc_refl _ _) (s79_refl _) rfl rfl hd, fun q3 m2 hm2 => ?_⟩, fun q2 m2 hm2 => fin q (fun e => absurd e q2) m2⟩, fun q => stay (fun so => ⟨by omega, fun e => by omega⟩) H1 (oc_refl _ _) (s79_refl _) rfl rfl hd⟩
  have f1 : F1 := Classical.not_not.mp q3
  refine ck_mono (ds_ahead (X := X) (xs := xs) hd hw hs (hR f1) (st.2.2 f1)) (fun r7 H7 h7 => ⟨_, h7.1, ?_⟩)
  have e7 := h7.2
  subst e7
  rw [fb_0]
  refine ⟨fun q4 => stay (fun so => ⟨by omega, fun _ _ => ?_⟩) H7 (oc_refl _ _) (s79_refl _) rfl rfl hd, fun q4 m3 hm3 => fin q (fun _ => ⟨f1, Classical.not_not.mp q4⟩) m3⟩
  rcases rlt_tri s R1 with c | c | c
  · exact Or.inl (rk_eq hs (hR f1) c)
  · exact absurd c q4
  · exact Or.inr c
end
end
