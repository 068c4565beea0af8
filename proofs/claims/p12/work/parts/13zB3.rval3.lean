noncomputable section
/-! L3: what the reference says of a row: its worth, its codes, whether it is sound. -/
section
variable {X : Term} {xs : List Int32}
theorem zus_bd {z : Nat → Int} (hw : wf z) (r : Nat → Nat) : 0 ≤ zus z r ∧ zus z r ≤ 3 := by
  have z3 := hw.1.2.1
  have u : 0 ≤ zus z r ∧ zus z r ≤ ((z 0).toNat : Int) * 1 := psm_bd (M := 1) (fun i _ => by
    (try dsimp only)
    by_cases c : 0 < ncr r i
    · rw [if_pos c]; omega
    · rw [if_neg c]; omega)
  omega
theorem rc_worth {m : Nat} {r : Nat → Nat} {H : fl_H} (hw : wf (H 95)) (hr : rk (H 95) r) (h : rr r H) : ck (cm_pg X xs) m cm_m183 [.index 94] H (fun r' H' => r' = some (zwo (H 95) r) ∧ H' = H) := by
  obtain ⟨z00, z3, z10, z6, z20, z12⟩ := id hw.1
  obtain ⟨P, hP⟩ : ∃ P : Nat, H 95 0 = (P : Int) := ⟨(H 95 0).toNat, by omega⟩
  obtain ⟨n, hn⟩ : ∃ n : Nat, H 95 1 = (n : Int) := ⟨(H 95 1).toNat, by omega⟩
  obtain ⟨B, hB⟩ : ∃ B : Nat, H 95 2 = (B : Int) := ⟨(H 95 2).toNat, by omega⟩
  -- the pages
  have pg : ∀ (f k : Nat), k + f = P → ∀ (N : Nat) (S : Int), S - 60 * (zus (H 95) r * H 95 5 + (zus (H 95) r + 1).tdiv 2 * H 95 6) = zwo (H 95) r → hd_GoodsBookModel_worthOf_94_63 (cm_pg X xs) N H S (psm (fun p => if 0 < ncr r p then 1 else 0) k) (k : Int) (fun r' H' => r' = some (zwo (H 95) r) ∧ H' = H) := by
    intro f
    induction f with
    | zero =>
      intro k hk N S hS
      have e : k = P := by omega
      subst e
      have ez : zus (H 95) r = psm (fun p => if 0 < ncr r p then 1 else 0) k := by unfold zus; rw [hP, Int.toNat_natCast]
      have u := zus_bd hw r
      refine vh_GoodsBookModel_worthOf_94_63 ?_
      rw [hP, ← ez]
      refine ⟨fun _ => ⟨?_, rfl⟩, fun hh => absurd (Int.le_refl _) hh⟩
      unfold fl_div
      rw [fl_wi (x := zus (H 95) r + 1) (by omega) (by omega), w_2, ← hS, Int.mul_add, Int.mul_assoc, Int.mul_assoc, Int.mul_comm (H 95 5), Int.mul_comm (H 95 6)]
      congr 1
      omega
    | succ f ih =>
      intro k hk N S hS
      have ek : (k : Int) + 1 = ((k + 1 : Nat) : Int) := by omega
      obtain ⟨c1, c2⟩ := ncr_bd r k
      refine vh_GoodsBookModel_worthOf_94_63 ?_
      rw [hP, fl_wi (x := (P : Int)) (by omega) (by omega), fl_wi (x := (k : Int)) (by omega) (by omega), ek]
      refine ⟨fun hh => by omega, fun _ m1 hm1 => ck_mono (rc_onPage (X := X) (xs := xs) (p := k) hw hr h (by omega) rfl) (fun r2 H2 h2 => ⟨_, h2.1, ?_⟩)⟩
      have e2 := h2.2
      subst e2
      have st : psm (fun p => if 0 < ncr r p then 1 else 0) (k + 1) = psm (fun p => if 0 < ncr r p then 1 else 0) k + (if 0 < ncr r k then 1 else 0) := rfl
      rw [fl_wi (x := ncr r k) (by omega) (by omega)]
      refine ⟨fun c m2 hm2 => ?_, fun c m2 hm2 => ?_⟩
      · rw [if_neg (by omega)] at st
        rw [← st]
        exact ih (k + 1) (by omega) m2 S hS
      · rw [if_pos (by omega)] at st
        rw [← st]
        exact ih (k + 1) (by omega) m2 S hS
  -- the bonds
  have bd : ∀ (f k : Nat), k + f = B → ∀ (N : Nat) (S : Int), S + psm (zga (H 95) r) B - 60 * (zus (H 95) r * H 95 5 + (zus (H 95) r + 1).tdiv 2 * H 95 6) = zwo (H 95) r → hd_GoodsBookModel_worthOf_94_30 (cm_pg X xs) N H (S + psm (zga (H 95) r) k) (k : Int) (fun r' H' => r' = some (zwo (H 95) r) ∧ H' = H) := by
    intro f
    induction f with
    | zero =>
      intro k hk N S hS
      have e : k = B := by omega
      subst e
      refine vh_GoodsBookModel_worthOf_94_30 ?_
      rw [hB]
      exact ⟨fun _ => pg P 0 (by omega) N _ hS, fun hh => absurd (Int.le_refl _) hh⟩
    | succ f ih =>
      intro k hk N S hS
      have ek : (k : Int) + 1 = ((k + 1 : Nat) : Int) := by omega
      refine vh_GoodsBookModel_worthOf_94_30 ?_
      rw [hB, fl_wi (x := (B : Int)) (by omega) (by omega), fl_wi (x := (k : Int)) (by omega) (by omega), ek]
      refine ⟨fun hh => by omega, fun _ m1 hm1 => ck_mono (rc_extra (X := X) (xs := xs) (b := k) hw hr h (by omega) (by omega)) (fun r2 H2 h2 => ⟨_, h2.1, fun m2 hm2 => ?_⟩)⟩
      have e2 := h2.2
      subst e2
      have st : psm (zga (H2 95) r) (k + 1) = psm (zga (H2 95) r) k + zga (H2 95) r k := rfl
      rw [Int.add_assoc, ← st]
      exact ih (k + 1) (by omega) m2 S hS
  -- the goods
  have gd : ∀ (f k : Nat), k + f = n → ∀ (N : Nat), hd_GoodsBookModel_worthOf_94_4 (cm_pg X xs) N H (psm (fun g => if r g = 0 then 0 else zsh (H 95) r g 0) k) (k : Int) (fun r' H' => r' = some (zwo (H 95) r) ∧ H' = H) := by
    intro f
    induction f with
    | zero =>
      intro k hk N
      have e : k = n := by omega
      subst e
      refine vh_GoodsBookModel_worthOf_94_4 ?_
      rw [hn]
      refine ⟨fun _ => ?_, fun hh => absurd (Int.le_refl _) hh⟩
      have := bd B 0 (by omega) N (psm (fun g => if r g = 0 then 0 else zsh (H 95) r g 0) k) (by
        unfold zwo zbr
        rw [hn, hB, Int.toNat_natCast, Int.toNat_natCast, Nat.sub_self]
        omega)
      rw [show psm (zga (H 95) r) 0 = 0 from rfl, Int.add_zero] at this
      exact this
    | succ f ih =>
      intro k hk N
      have ek : (k : Int) + 1 = ((k + 1 : Nat) : Int) := by omega
      refine vh_GoodsBookModel_worthOf_94_4 ?_
      rw [hn, fl_wi (x := (n : Int)) (by omega) (by omega), fl_wi (x := (k : Int)) (by omega) (by omega), ek]
      refine ⟨fun hh => by omega, fun _ m1 hm1 => ck_mono (rc_brings (X := X) (xs := xs) (g := k) hw hr h (by omega) rfl) (fun r2 H2 h2 => ⟨_, h2.1, fun m2 hm2 => ?_⟩)⟩
      have e2 := h2.2
      subst e2
      exact ih (k + 1) (by omega) m2
  exact ve_GoodsBookModel_worthOf_94 (gd n 0 (by omega) m)
theorem ncd_z {r : Nat → Nat} {p n : Nat} : ∀ k, n ≤ k → (∀ i, n ≤ i → i < k → r i = 0) → ncd r p k = ncd r p n
  | 0, h, _ => by have : n = 0 := by omega
                  rw [this]
  | k + 1, h, hz => by
    by_cases e : n = k + 1
    · rw [e]
    · have d : ndg r p k = 0 := if_neg (fun q => q.1 (hz k (by omega) (by omega)))
      have i := ncd_z (r := r) (p := p) (n := n) k (by omega) (fun i h1 h2 => hz i h1 (by omega))
      have st : ncd r p (k + 1) = ncd r p k + 3 ^ k * ndg r p k := rfl
      rw [st, d, i]; rfl
theorem zcn_top {z : Nat → Int} {r : Nat → Nat} (hw : wf z) (h : rk z r) (p : Nat) : zcn r p / 3 ^ (z 1).toNat = 0 := by
  have z6 := hw.1.2.2.2.1
  have e : zcn r p = ncd r p (z 1).toNat := ncd_z 6 (by omega) (fun i h1 _ => rk_z h h1 hw.1.2.2.1)
  rw [e]
  exact Nat.div_eq_of_lt (ncd_lt r p _)
theorem rc_code {m p : Nat} {r : Nat → Nat} {H : fl_H} {e : Int} (hw : wf (H 95)) (hr : rk (H 95) r) (h : rr r H) (hp : p < 3) (he : e = (p : Int)) : ck (cm_pg X xs) m cm_m177 [.index 94, fl_t e] H (fun r' H' => r' = some ((zcn r p : Nat) : Int) ∧ H' = H) := by
  subst he
  obtain ⟨z00, z3, z10, z6, z20, z12⟩ := id hw.1
  have top := zcn_top hw hr p
  have lp : ∀ (k : Nat), k ≤ (H 95 1).toNat → ∀ N, hd_GoodsBookModel_codeOf_94_11 (cm_pg X xs) N H (p : Int) ((zcn r p / 3 ^ k : Nat) : Int) ((k : Int) - 1) (fun r' H' => r' = some ((zcn r p : Nat) : Int) ∧ H' = H) := by
    intro k
    induction k with
    | zero =>
      intro _ N
      refine vh_GoodsBookModel_codeOf_94_11 ?_
      rw [fl_wi (x := ((0 : Nat) : Int) - 1) (by omega) (by omega)]
      exact ⟨fun _ => ⟨by rw [Nat.pow_zero, Nat.div_one], rfl⟩, fun hh => absurd (by omega) hh⟩
    | succ k ih =>
      intro hk N
      have ek : ((k + 1 : Nat) : Int) - 1 = (k : Int) := by omega
      have ek2 : (k : Int) + (-1) = (k : Int) - 1 := by omega
      have k6 : k < 6 := by omega
      have dg := zcn_dig r p k6
      have r7 := rk_7 hw hr k
      unfold dig at dg
      have st : zcn r p / 3 ^ k = 3 * (zcn r p / 3 ^ (k + 1)) + ndg r p k := by
        rw [Nat.pow_succ, ← Nat.div_div_eq_div_mul, ← dg]
        exact (Nat.div_add_mod _ 3).symm
      refine vh_GoodsBookModel_codeOf_94_11 ?_
      rw [ek, fl_wi (x := (k : Int)) (by omega) (by omega), Int.toNat_natCast, h k (by omega), ek2]
      refine ⟨fun hh => by omega, fun _ _ m1 hm1 => ck_mono (rc_pg (X := X) (xs := xs) r7 rfl) (fun r3 H3 h3 => ⟨_, h3.1, ?_⟩)⟩
      have e3 := h3.2
      subst e3
      have b := ppg_bd r7
      rw [fl_wi (x := ppg (r k)) (by omega) (by omega), fl_wi (x := (p : Int)) (by omega) (by omega), h k (by omega)]
      unfold ndg at st
      refine ⟨fun q _ m2 hm2 => ?_, fun q m2 hm2 => ?_⟩
      · rw [if_pos (by omega)] at st
        rw [ppg_rem (r k) r7 (by omega)]
        have e4 : 3 * ((zcn r p / 3 ^ (k + 1) : Nat) : Int) + (((szn (r k) : Nat) : Int) + 1) = ((zcn r p / 3 ^ k : Nat) : Int) := by omega
        rw [e4]
        exact ih (by omega) m2
      · rw [if_neg (by omega)] at st
        have e4 : 3 * ((zcn r p / 3 ^ (k + 1) : Nat) : Int) + 0 = ((zcn r p / 3 ^ k : Nat) : Int) := by omega
        rw [e4]
        exact ih (by omega) m2
  have := lp (H 95 1).toNat (Nat.le_refl _) m
  rw [top] at this
  have e5 : (((H 95 1).toNat : Nat) : Int) - 1 = H 95 1 - 1 := by omega
  rw [e5] at this
  exact ve_GoodsBookModel_codeOf_94 this
theorem rfo_c {H G : fl_H} (h : rfo H G) {c : Nat} (h1 : c ≠ 94) (h2 : ¬ (96 ≤ c ∧ c ≤ 99)) : G c = H c := (h c (by omega) (by omega) (by omega) (by omega)).1 h1
theorem rr_fo {r : Nat → Nat} {H G : fl_H} (h : rfo H G) (k : rr r H) : rr r G := fun g hg => by rw [rfo_95 h] at hg; rw [rfo_c h (by decide) (by decide)]; exact k g hg
theorem rc_full {m : Nat} {r : Nat → Nat} {H : fl_H} (hw : wf (H 95)) (hr : rk (H 95) r) (h : rr r H) (hk : rkn (H 95) H) : ck (cm_pg X xs) m cm_m186 [.index 94] H (fun r' H' => r' = some (zfc (H 95) r) ∧ rfo H H' ∧ rkn (H 95) H') := by
  obtain ⟨z00, z3, -⟩ := hw.1
  obtain ⟨P, hP⟩ : ∃ P : Nat, H 95 0 = (P : Int) := ⟨(H 95 0).toNat, by omega⟩
  have lp : ∀ (f k : Nat), k + f = P → ∀ (N : Nat) (G : fl_H), rfo H G → rkn (H 95) G → hd_GoodsBookModel_firstFull_94_2 (cm_pg X xs) N G (k : Int) (fun r' H' => r' = some (ffo (fun p => zfit (H 95) (zcn r p)) f k) ∧ rfo H H' ∧ rkn (H 95) H') := by
    intro f
    induction f with
    | zero =>
      intro k hk N G oG kG
      refine vh_GoodsBookModel_firstFull_94_2 ?_
      rw [rfo_95 oG, hP, fl_wi (x := (P : Int)) (by omega) (by omega), fl_wi (x := (k : Int)) (by omega) (by omega)]
      exact ⟨fun _ => ⟨rfl, oG, kG⟩, fun hh => by omega⟩
    | succ f ih =>
      intro k hk N G oG kG
      have ek : (k : Int) + 1 = ((k + 1 : Nat) : Int) := by omega
      have e95 := rfo_95 oG
      refine vh_GoodsBookModel_firstFull_94_2 ?_
      rw [e95, hP, fl_wi (x := (P : Int)) (by omega) (by omega), fl_wi (x := (k : Int)) (by omega) (by omega), ek]
      refine ⟨fun hh => by omega, fun _ m1 hm1 => ck_mono (rc_code (X := X) (xs := xs) (p := k) (by rw [e95]; exact hw) (by rw [e95]; exact hr) (rr_fo oG h) (by omega) rfl) (fun r2 H2 h2 => ⟨_, h2.1, fun m2 hm2 => ?_⟩)⟩
      have e2 := h2.2
      subst e2
      refine ck_mono (rc_fit (X := X) (xs := xs) (by rw [e95]; exact hw) (by rw [e95]; exact kG) (zcn_lt r k) (by rw [e95]; exact zcn_zcd hr.1 k)) (fun r5 H5 h5 => ⟨_, h5.1, ?_⟩)
      obtain ⟨-, o5, k5⟩ := h5
      rw [e95] at k5
      rw [fb_0, e95]
      refine ⟨fun q => ⟨by rw [ffo_at (P := fun p => zfit (H 95) (zcn r p)) q], rfo_trans oG o5, k5⟩, fun q m3 hm3 => ?_⟩
      rw [ffo_go (P := fun p => zfit (H 95) (zcn r p)) (Classical.not_not.mp q)]
      exact ih (k + 1) (by omega) m3 H5 (rfo_trans oG o5) k5
  have := lp P 0 (by omega) m H (rfo_refl H) hk
  unfold zfc
  rw [hP, Int.toNat_natCast]
  exact ve_GoodsBookModel_firstFull_94 this
theorem rc_sound {m : Nat} {r : Nat → Nat} {H : fl_H} (hw : wf (H 95)) (hr : rk (H 95) r) (h : rr r H) (hk : rkn (H 95) H) : ck (cm_pg X xs) m cm_m187 [.index 94] H (fun r' H' => r' = some (fl_b (zso (H 95) r)) ∧ rfo H H' ∧ rkn (H 95) H') := by
  have b1 := zfb_bd (r := r) hw
  have b2 := zfc_bd (r := r) hw
  refine ve_GoodsBookModel_isGoodPlan_94 (fun m1 hm1 => ck_mono (rc_broken (X := X) (xs := xs) hw hr h) (fun r1 H1 h1 => ⟨_, h1.1, ?_⟩))
  have e1 := h1.2
  subst e1
  rw [fl_wi (x := zfb (H1 95) r) (by omega) (by omega)]
  refine ⟨fun q => ⟨by rw [fl_b0 (fun so => by have := zfb_ok.mpr so.1; omega)], rfo_refl _, hk⟩, fun q m2 hm2 => ck_mono (rc_full (X := X) (xs := xs) hw hr h hk) (fun r5 H5 h5 => ⟨_, h5.1, ?_⟩)⟩
  rw [fl_wi (x := zfc (H1 95) r) (by omega) (by omega)]
  exact ⟨fun q2 => ⟨by rw [fl_b0 (fun so => by have := zfc_ok.mpr so.2; omega)], h5.2⟩, fun q2 => ⟨by rw [fl_b1 ⟨zfb_ok.mp (by omega), zfc_ok.mp (by omega)⟩], h5.2⟩⟩
end
end
