noncomputable section
/-! L3: the reference's steps till none betters; its plan. -/
section
variable {X : Term} {xs : List Int32}
/-- choices of goods that are there, and what holds of them -/
def pln (z : Nat → Int) (g : Nat) : Nat := if (g : Int) < z 1 then (z (62 + g)).toNat else 0
def chz (z : Nat → Int) : Prop := ∀ g : Nat, (g : Int) < z 1 → 0 ≤ z (62 + g) ∧ z (62 + g) ≤ 2 * z 0
theorem pln_at {z : Nat → Int} (h : chz z) {g : Nat} (hg : (g : Int) < z 1) : ((pln z g : Nat) : Int) = z (62 + g) := by
  have := (h g hg).1
  unfold pln
  rw [if_pos hg]
  omega
theorem pln_rk {z : Nat → Int} (hw : wf z) (h : chz z) : rk z (pln z) := by
  have z6 := hw.1.2.2.2.1
  have z0 := hw.1.1
  refine ⟨fun g _ => ⟨?_, fun q => ?_⟩, fun g hg => ?_⟩
  · by_cases c : (g : Int) < z 1
    · rw [pln_at h c]; exact (h g c).2
    · unfold pln; rw [if_neg c]; omega
  · unfold pln; rw [if_neg (by omega)]
  · unfold pln; rw [if_neg (by omega)]
theorem rc_takePlan {m : Nat} {H : fl_H} (hw : wf (H 95)) (h : chz (H 95)) : ck (cm_pg X xs) m cm_m176 [.index 94] H (fun r' H' => r' = none ∧ oc (fun c => c = 100) H H' ∧ rr (pln (H 95)) H') := by
  obtain ⟨z00, z3, z10, z6, z20, z12⟩ := id hw.1
  have lp : ∀ (f k : Nat), k + f = 6 → ∀ (N : Nat) (F : fl_H), oc (fun c => c = 100) H F → (∀ g, g < k → F 100 g = ((pln (H 95) g : Nat) : Int)) → hd_GoodsBookModel_takePlan_94_2 (cm_pg X xs) N F (k : Int) (fun r' H' => r' = none ∧ oc (fun c => c = 100) H H' ∧ rr (pln (H 95)) H') := by
    intro f
    induction f with
    | zero =>
      intro k hk N F oF hF
      have ek : k = 6 := by omega
      subst ek
      exact vh_GoodsBookModel_takePlan_94_2 ⟨fun _ => ⟨rfl, oF, fun g hg => hF g (by rw [oF 95 (by decide)] at hg; omega)⟩, fun hh => absurd (by decide +kernel) hh⟩
    | succ f ih =>
      intro k hk N F oF hF
      have ek : (k : Int) + 1 = ((k + 1 : Nat) : Int) := by omega
      have e95 : F 95 = H 95 := oF 95 (by decide)
      have i62 : (62 + (k : Int)).toNat = 62 + k := by omega
      have go : ∀ (v : Int), v = ((pln (H 95) k : Nat) : Int) → ∀ H3, H3 = fl_up F 100 k v → ∀ m1, hd_GoodsBookModel_takePlan_94_2 (cm_pg X xs) m1 H3 ((k + 1 : Nat) : Int) (fun r' H' => r' = none ∧ oc (fun c => c = 100) H H' ∧ rr (pln (H 95)) H') := fun v hv H3 e3 m1 =>
        ih (k + 1) (by omega) m1 H3 (fun c hc => by rw [e3, fl_up_cell _ _ _ _ hc]; exact oF c hc) (fun g hg => by
          rw [e3]
          by_cases eg : g = k
          · rw [eg, fl_up_at, hv]
          · rw [fl_up_i _ _ _ _ eg]; exact hF g (by omega))
      refine vh_GoodsBookModel_takePlan_94_2 ?_
      rw [e95, fl_wi (x := H 95 1) (by omega) (by omega), fl_wi (x := (k : Int)) (by omega) (by omega), fl_wi (x := 62 + (k : Int)) (by omega) (by omega), Int.toNat_natCast, i62, ek]
      refine ⟨fun hh => by omega, fun _ => ⟨fun q _ H3 e3 m1 hm1 => go 0 ?_ H3 e3 m1, fun q _ _ H8 e8 m1 hm1 => go _ ?_ H8 e8 m1⟩⟩
      · unfold pln; rw [if_neg (by omega)]; rfl
      · exact (pln_at h (by omega)).symm
  exact ve_GoodsBookModel_takePlan_94 (lp 6 0 rfl m H (oc_refl _ _) (fun g hg => absurd hg (by omega)))
theorem rso_r2 {r : Nat → Nat} {H G : fl_H} (h : rr r H) (o : rso H G) (e : G 100 = H 100) : rr r G := fun g hg => by rw [rso_95 o] at hg; rw [e]; exact h g hg
def rss (z : Nat → Int) (a : Int) (H : fl_H) (r' : Option Int) (H' : fl_H) : Prop := rso H H' ∧ rkn z H' ∧ (((-2 ≤ a ∧ a ≤ z 1 - 1) ∧ ((¬ zso z (pln z) ∧ r' = some (-1000000002)) ∨ (zso z (pln z) ∧ ∃ n t, clm z n (pln z) t ∧ ztop z t ∧ r' = some (if a = -2 then ((n : Nat) : Int) else if a = -1 then zwo z t else ((t a.toNat : Nat) : Int))))) ∨ (¬ (-2 ≤ a ∧ a ≤ z 1 - 1) ∧ r' = some (-1000000001)))
theorem rc_steps {m : Nat} {H : fl_H} {a : Int} (ha : fl_w a = a) (hw : wf (H 95)) (h : chz (H 95)) (hk : rkn (H 95) H) : ck (cm_pg X xs) m cm_m208 [.index 94, fl_t a] H (rss (H 95) a H) := by
  obtain ⟨z00, z3, z10, z6, z20, z12⟩ := id hw.1
  have w2 : fl_w (-2) = -2 := rfl
  have w1 : fl_w (-1) = -1 := rfl
  have kp := pln_rk hw h
  refine ve_GoodsBookModel_steps_94 ?_
  rw [ha, fl_wi (x := H 95 1 - 1) (by omega) (by omega)]
  refine ⟨fun q m1 hm1 => ck_mono (rc_takePlan (X := X) (xs := xs) hw h) (fun r2 H2 h2 => ⟨h2.1, fun m2 hm2 => ?_⟩), fun q => ⟨rso_refl _, hk, Or.inr ⟨q, rfl⟩⟩⟩
  obtain ⟨-, o2, p2⟩ := h2
  have e2 : H2 95 = H 95 := o2 95 (by decide)
  have s2 : rso H H2 := rso_oc o2 (fun c hc => by omega)
  refine ck_mono (rc_sound (X := X) (xs := xs) (r := pln (H 95)) (by rw [e2]; exact hw) (by rw [e2]; exact kp) p2 (by rw [e2]; exact rkn_c hk (o2 96 (by decide)))) (fun r4 H4 h4 => ⟨_, h4.1, ?_⟩)
  obtain ⟨-, o4, k4⟩ := h4
  rw [e2] at k4
  have e4 : H4 95 = H 95 := (rfo_95 o4).trans e2
  have s4 : rso H H4 := rso_trans s2 (rso_fo o4)
  have p4 : rr (pln (H 95)) H4 := rr_fo o4 p2
  rw [fb_0, e2]
  refine ⟨fun q2 => ⟨s4, k4, Or.inl ⟨q, Or.inl ⟨q2, rfl⟩⟩⟩, fun q2 => ?_⟩
  have so := Classical.not_not.mp q2
  -- till none betters
  have loop : ∀ (M : Nat), ∀ (n N : Nat), N ≤ M → ∀ (t : Nat → Nat) (K : fl_H), rso H K → rkn (H 95) K → clm (H 95) n (pln (H 95)) t → rk (H 95) t → K 94 8 = zwo (H 95) t → r02 t K → hd_GoodsBookModel_steps_94_73 (cm_pg X xs) N K a (n : Int) (rss (H 95) a H) := by
    intro M
    induction M with
    | zero =>
      intro n N hN t K oK kK ct kt v8 v2
      refine vh_GoodsBookModel_steps_94_73 (fun m1 hm1 => absurd hm1 (by omega))
    | succ M ih =>
      intro n N hN t K oK kK ct kt v8 v2
      have en : (n : Int) + 1 = ((n + 1 : Nat) : Int) := by omega
      refine vh_GoodsBookModel_steps_94_73 (fun m1 hm1 => ck_mono (rc_step (X := X) (xs := xs) (z := H 95) (t := t) (rso_95 oK) hw kt v2 kK v8) (fun r1 H1 h1 => ?_))
      obtain ⟨o1, k1, c | c⟩ := h1
      · obtain ⟨c1, c2, c3, c4⟩ := c
        refine ⟨_, c1, fun _ => ?_, fun qq => absurd w_0 qq⟩
        rw [ha]
        have res : ∀ v, v = (if a = -2 then ((n : Nat) : Int) else if a = -1 then zwo (H 95) t else ((t a.toNat : Nat) : Int)) → rss (H 95) a H (some v) H1 := fun v hv => ⟨rso_trans oK o1, k1, Or.inl ⟨q, Or.inr ⟨so, n, t, ct, c2, by rw [hv]⟩⟩⟩
        refine ⟨fun q3 => res _ (by rw [if_pos q3]), fun q3 => ⟨fun q4 => res _ (by rw [if_neg q3, if_pos q4]; exact c3), fun q4 _ => res _ ?_⟩⟩
        rw [if_neg q3, if_neg q4, c4]
        exact v2 a.toNat (by rw [rso_95 oK]; omega)
      · obtain ⟨c1, t', c2, c3, c4, c5⟩ := c
        refine ⟨_, c1, fun qq => absurd qq (by decide +kernel), fun _ m2 hm2 => ?_⟩
        rw [en]
        exact ih (n + 1) m2 (by omega) t' H1 (rso_trans oK o1) k1 ⟨t, ct, c2⟩ c3 c4 c5
  -- the plan is laid down
  have copy : ∀ (f k : Nat), k + f = 6 → ∀ (N : Nat) (K : fl_H), oc (fun c => c = 102) H4 K → (∀ g, g < k → K 102 g = H4 100 g) → hd_GoodsBookModel_steps_94_39 (cm_pg X xs) N K a (k : Int) (rss (H 95) a H) := by
    intro f
    induction f with
    | zero =>
      intro k hk' N K oK hK
      have ek : k = 6 := by omega
      subst ek
      have eK : K 95 = H 95 := (oK 95 (by decide)).trans e4
      have pK : rr (pln (H 95)) K := fun g hg => by rw [oK 100 (by decide)]; exact p4 g (by rw [e4]; rw [eK] at hg; exact hg)
      have sK : rso H K := rso_trans s4 (rso_oc oK (fun c hc => by omega))
      refine vh_GoodsBookModel_steps_94_39 ⟨fun _ m1 hm1 => ck_mono (rc_worth (X := X) (xs := xs) (r := pln (H 95)) (by rw [eK]; exact hw) (by rw [eK]; exact kp) pK) (fun r5 H5 h5 => ⟨_, h5.1, fun m2 hm2 => ?_⟩), fun hh => absurd (by decide +kernel) hh⟩
      have e5 := h5.2
      subst e5
      refine ck_mono (rc_keep (X := X) (xs := xs)) (fun r6 H6 h6 => ⟨h6.1, ?_⟩)
      obtain ⟨-, c6, i6, v6, -⟩ := h6
      refine loop N 0 N (Nat.le_refl _) (pln (H 95)) H6 (rso_trans sK (rso_keep c6 i6)) (rkn_c k4 ((c6 96 (by decide) (by decide)).trans (oK 96 (by decide)))) rfl kp (by rw [v6, eK]) (fun g hg => ?_)
      rw [c6 95 (by decide) (by decide), eK] at hg
      rw [c6 102 (by decide) (by decide), hK g (by omega)]
      exact p4 g (by rw [e4]; exact hg)
    | succ f ih =>
      intro k hk' N K oK hK
      have ek : (k : Int) + 1 = ((k + 1 : Nat) : Int) := by omega
      refine vh_GoodsBookModel_steps_94_39 ?_
      rw [fl_wi (x := (k : Int)) (by omega) (by omega), Int.toNat_natCast, ek]
      refine ⟨fun hh => by omega, fun _ _ _ H9 e9 m1 hm1 => ih (k + 1) (by omega) m1 H9 (fun c hc => by rw [e9, fl_up_cell _ _ _ _ hc]; exact oK c hc) (fun g hg => ?_)⟩
      rw [e9]
      by_cases eg : g = k
      · rw [eg, fl_up_at, oK 100 (by decide)]
      · rw [fl_up_i _ _ _ _ eg]; exact hK g (by omega)
  exact copy 6 0 rfl m H4 (oc_refl _ _) (fun g hg => absurd hg (by omega))
end
end
