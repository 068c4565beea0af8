noncomputable section
/-! L3: the bound. -/
section
variable {X : Term} {xs : List Int32}
theorem wf_be {z : Nat → Int} (hw : wf z) {b : Nat} (hb : (b : Int) < z 2) : -99 ≤ z (71 + 4 * b) ∧ z (71 + 4 * b) ≤ 99 := (hw.2.2.2 b hb).2.2.2.2.1
theorem cb_sum {m n : Nat} {z : Nat → Int} {H : fl_H} (h : gz z H) (hw : wf z) (en : z 2 = (n : Int)) : ck (cm_pg X xs) m cm_m5 [.index 9] H (fun r H' => r = some (psm (fun b => max (z (71 + 4 * b)) 0) n) ∧ H' = H) := by
  have bd := hw.1
  unfold zr at bd
  have key : ∀ (f k : Nat), k + f = n → ∀ (N : Nat), hd_Bonds_sumAboveZero_9_4 (cm_pg X xs) N H (psm (fun b => max (z (71 + 4 * b)) 0) k) (k : Int) (fun r H' => r = some (psm (fun b => max (z (71 + 4 * b)) 0) n) ∧ H' = H) := by
    intro f
    induction f with
    | zero =>
      intro k hk N
      have ek : k = n := by omega
      subst ek
      refine vh_Bonds_sumAboveZero_9_4 ?_
      rw [gz_2 h, en, fl_wi (x := (k : Int)) (by omega) (by omega)]
      exact ⟨fun _ => ⟨rfl, rfl⟩, fun hh => absurd (Int.le_refl _) hh⟩
    | succ f ih =>
      intro k hk N
      have b := wf_be hw (b := k) (by omega)
      refine vh_Bonds_sumAboveZero_9_4 ?_
      rw [gz_2 h, en, fl_wi (x := (n : Int)) (by omega) (by omega), fl_wi (x := (k : Int)) (by omega) (by omega), Int.toNat_natCast, gz_be h (by omega), fl_wi (x := z (71 + 4 * k)) (by omega) (by omega), w_0, show ((k : Int) + 1) = ((k + 1 : Nat) : Int) by omega]
      exact ⟨fun hh => by omega, fun _ _ m' _ => ih (k + 1) (by omega) m'⟩
  exact ve_Bonds_sumAboveZero_9 (key n 0 (by omega) m)
theorem cb_bound {m : Nat} {H : fl_H} (t : TX H) : ck (cm_pg X xs) m cm_m122 [.index 0] H (cq (fun z v => v = zbo z) H) := by
  have bd := z_bd t
  have hw := TX_wf t
  obtain ⟨n, en⟩ : ∃ n : Nat, H 95 1 = (n : Int) := ⟨(H 95 1).toNat, by omega⟩
  obtain ⟨b, eb⟩ : ∃ n : Nat, H 95 2 = (n : Int) := ⟨(H 95 2).toNat, by omega⟩
  refine ve_GoodsBook_bound_0 (fun m1 _ => ck_mono (cb_sum (X := X) (xs := xs) (TX_bz t).1 hw eb) (fun r1 H1 h1 => ⟨_, h1.1, fun m2 _ => ?_⟩))
  rw [h1.2]
  refine ck_mono (dcx_begin (X := X) (xs := xs) (z' := H 95) rfl rfl (TX_bz t) hw (TX_flI t) (Or.inl ⟨by omega, by omega, rfl⟩)) (fun r2 H2 h2 => ⟨h2.1, ?_⟩)
  obtain ⟨-, o2, d2⟩ := h2
  have key : ∀ (f k : Nat), k + f = n → ∀ (N : Nat), hd_GoodsBook_bound_0_25 (cm_pg X xs) N H2 (60 * psm (fun b => max (H 95 (71 + 4 * b)) 0) b + psm (fun g => zmo (H 95) (fun _ => 0) g n) k) (k : Int) (cq (fun z v => v = zbo z) H) := by
    intro f
    induction f with
    | zero =>
      intro k hk N
      have ek : k = n := by omega
      subst ek
      refine vh_GoodsBook_bound_0_25 ?_
      rw [gz_1 d2.1.1, en, fl_wi (x := (k : Int)) (by omega) (by omega)]
      refine ⟨fun _ => cq_R t (pR_B o2) (Or.inr d2.2.2.2) ?_, fun hh => absurd (Int.le_refl _) hh⟩
      unfold zbo
      rw [en, eb, Int.toNat_natCast, Int.toNat_natCast]
    | succ f ih =>
      intro k hk N
      refine vh_GoodsBook_bound_0_25 ?_
      rw [gz_1 d2.1.1, en, fl_wi (x := (n : Int)) (by omega) (by omega), fl_wi (x := (k : Int)) (by omega) (by omega), show ((k : Int) + 1) = ((k + 1 : Nat) : Int) by omega]
      refine ⟨fun hh => by omega, fun _ m3 _ => ck_mono (dc_most (X := X) (xs := xs) (g := k) (o := n) d2.1 hw d2.2.1 (by omega) (by omega) (by omega) rfl rfl) (fun r4 H4 h4 => ⟨_, h4.1, fun m5 _ => ?_⟩)⟩
      rw [h4.2]
      have := ih (k + 1) (by omega) m5
      rw [Int.add_assoc]
      exact this
  have k0 := key n 0 (by omega) m
  have e0 : 60 * psm (fun b => max (H 95 (71 + 4 * b)) 0) b + psm (fun g => zmo (H 95) (fun _ => 0) g n) 0 = 60 * psm (fun b => max (H 95 (71 + 4 * b)) 0) b := Int.add_zero _
  rw [e0] at k0
  exact k0
-- ---- the reference
def zrbm (z : Nat → Int) (g o : Nat) : Nat → Int
  | 0 => 0
  | j + 1 => max (zrbm z g o j) (zmv z (fun _ => 0) g o (j / 2) (j % 2))
theorem zrbm_bd {z : Nat → Int} (hw : wf z) {g o : Nat} (hg : (g : Int) < z 1) (ho : 1 ≤ o) (ho6 : o ≤ 6) : ∀ j, j ≤ 6 → 0 ≤ zrbm z g o j ∧ zrbm z g o j ≤ 200000
  | 0, _ => ⟨Int.le_refl _, by show (0 : Int) ≤ 200000; omega⟩
  | j + 1, h => by
    have ih := zrbm_bd hw hg ho ho6 j (by omega)
    have b := zmv_bd (r := fun _ => 0) hw hg (s := j % 2) (p := j / 2) (by omega) (by omega) ho ho6
    show 0 ≤ max _ _ ∧ max _ _ ≤ 200000
    omega
theorem zrbm_mp {z : Nat → Int} (hw : wf z) {g o : Nat} (hg : (g : Int) < z 1) : ∀ p, zmp z (fun _ => 0) g o p = zrbm z g o (2 * p)
  | 0 => rfl
  | p + 1 => by
    have a0 := wf_are hw hg (s := 0) (by omega)
    have a1 := wf_are hw hg (s := 1) (by omega)
    show zms z _ g o p 1 (zms z _ g o p 0 (zmp z _ g o p)) = max (max (zrbm z g o (2 * p)) (zmv z _ g o (2 * p / 2) (2 * p % 2))) (zmv z _ g o ((2 * p + 1) / 2) ((2 * p + 1) % 2))
    rw [zrbm_mp hw hg p, show 2 * p / 2 = p by omega, show 2 * p % 2 = 0 by omega, show (2 * p + 1) / 2 = p by omega, show (2 * p + 1) % 2 = 1 by omega]
    unfold zms
    rw [nfi_0, if_pos (by omega), if_pos (by omega)]
theorem rmv_1 {z : Nat → Int} {g o p s : Nat} (h : zknd z g = 1) : zsal z g s * z (10 + p) + z 4 * z (10 + p) * ((o : Int) - 1) = zmv z (fun _ => 0) g o p s := by
  unfold zmv
  rw [if_neg (by omega), if_pos h, if_neg (by omega), ncr_0, Int.tdiv_one, Int.one_mul, Int.zero_add, Int.add_mul, Int.mul_assoc, Int.mul_assoc, Int.mul_comm ((o : Int) - 1)]
  rfl
theorem rmv_3 {z : Nat → Int} {g o p s : Nat} (h : zknd z g = 3) : 2 * (zsal z g s * z (10 + p)) = zmv z (fun _ => 0) g o p s := by
  unfold zmv
  rw [if_pos h, if_neg (by omega), if_neg (by omega), Int.tdiv_one, Int.zero_mul, Int.add_zero, Int.mul_assoc]
  rfl
theorem rmv_0 {z : Nat → Int} {g o p s : Nat} (h : ¬ zknd z g = 1) (h3 : ¬ zknd z g = 3) : zsal z g s * z (10 + p) = zmv z (fun _ => 0) g o p s := by
  unfold zmv
  rw [if_neg h3, if_neg h, nri_0, Int.zero_mul, Int.add_zero, Int.one_mul]
  by_cases c : zknd z g = 2
  · rw [if_pos c, show max (1 + (0 : Int)) 1 = 1 from rfl, Int.tdiv_one]; rfl
  · rw [if_neg c, Int.tdiv_one]; rfl
theorem rb_sz : ∀ j : Nat, j < 7 → fl_rem (((j + 1 : Nat) : Int) - 1) 2 = ((j % 2 : Nat) : Int) := by decide
theorem rl_bo33 {H : fl_H} (hw : wf (H 95)) {g n P : Nat} (en : H 95 1 = (n : Int)) (eP : H 95 0 = (P : Int)) (hg : g < n) {Q : Option Int → fl_H → Prop} {a1 : Int} (K : ∀ m, hd_GoodsBookModel_bound_94_4 (cm_pg X xs) m H (a1 + zrbm (H 95) g n (2 * P)) ((g : Int) + 1) Q) : ∀ (f j : Nat), j + f = 2 * P → ∀ N, hd_GoodsBookModel_bound_94_33 (cm_pg X xs) N H a1 (g : Int) (zrbm (H 95) g n j) (zknd (H 95) g) ((j + 1 : Nat) : Int) Q
  | 0, j, hj, N => by
    have bd := hw.1
    unfold zr at bd
    refine vh_GoodsBookModel_bound_94_33 ?_
    rw [eP, fl_wi (x := 2 * (P : Int)) (by omega) (by omega), fl_wi (x := ((j + 1 : Nat) : Int)) (by omega) (by omega)]
    refine ⟨fun _ m _ => ?_, fun hh => by omega⟩
    rw [show j = 2 * P by omega]
    exact K m
  | f + 1, j, hj, N => by
    have bd := hw.1
    unfold zr at bd
    have kd := wf_knd hw (g := g) (by omega)
    have rb := zrbm_bd hw (g := g) (o := n) (by omega) (by omega) (by omega) j (by omega)
    have vb := zmv_bd (r := fun _ => 0) hw (g := g) (o := n) (by omega) (s := j % 2) (p := j / 2) (by omega) (by omega) (by omega) (by omega)
    have next := fun m => rl_bo33 hw en eP hg K f (j + 1) (by omega) m
    have e1 : ((j + 1 : Nat) : Int) + 1 = ((j + 1 + 1 : Nat) : Int) := by omega
    refine vh_GoodsBookModel_bound_94_33 ?_
    rw [eP, fl_wi (x := 2 * (P : Int)) (by omega) (by omega), fl_wi (x := ((j + 1 : Nat) : Int)) (by omega) (by omega), e1]
    refine ⟨fun hh => by omega, fun _ m1 _ => ck_mono (rc_pg (X := X) (xs := xs) (c := j + 1) (by omega) rfl) (fun r3 H3 h3 => ⟨_, h3.1, ?_⟩)⟩
    have epg : ppg (j + 1) = ((j / 2 : Nat) : Int) := by
      unfold ppg
      rw [if_neg (by omega)]
      unfold pgn
      rw [show j + 1 - 1 = j by omega]
    rw [h3.2, epg, fl_wi (x := 10 + ((j / 2 : Nat) : Int)) (by omega) (by omega), show (10 + ((j / 2 : Nat) : Int)).toNat = 10 + j / 2 by omega]
    refine fun _ m2 _ => ck_mono (rc_sale (X := X) (xs := xs) (g := g) (s := j % 2) (by omega) (by omega) rfl (rb_sz j (by omega))) (fun r4 H4 h4 => ⟨_, h4.1, ?_⟩)
    rw [h4.2, en, fl_wi (x := zknd (H 95) g) (by omega) (by omega), fl_wi (x := zrbm (H 95) g n j) (by omega) (by omega)]
    have up : ∀ v : Int, v = zmv (H 95) (fun _ => 0) g n (j / 2) (j % 2) → (v ≤ zrbm (H 95) g n j → zrbm (H 95) g n (j + 1) = zrbm (H 95) g n j) ∧ (¬ v ≤ zrbm (H 95) g n j → zrbm (H 95) g n (j + 1) = v) := fun v ev => by
      show (_ → max _ _ = _) ∧ (_ → max _ _ = _)
      rw [← ev]
      omega
    refine ⟨fun k1 => ?_, fun k1 => ⟨fun k3 => ?_, fun k3 => ?_⟩⟩
    · rw [rmv_1 k1, fl_wi (x := zmv (H 95) (fun _ => 0) g n (j / 2) (j % 2)) (by omega) (by omega)]
      obtain ⟨u1, u2⟩ := up _ rfl
      exact ⟨fun c m _ => by have := next m; rw [u1 c] at this; exact this, fun c m _ => by have := next m; rw [u2 c] at this; exact this⟩
    · rw [rmv_3 (o := n) k3, fl_wi (x := zmv (H 95) (fun _ => 0) g n (j / 2) (j % 2)) (by omega) (by omega)]
      obtain ⟨u1, u2⟩ := up _ rfl
      exact ⟨fun c m _ => by have := next m; rw [u1 c] at this; exact this, fun c m _ => by have := next m; rw [u2 c] at this; exact this⟩
    · rw [rmv_0 (o := n) k1 k3, fl_wi (x := zmv (H 95) (fun _ => 0) g n (j / 2) (j % 2)) (by omega) (by omega)]
      obtain ⟨u1, u2⟩ := up _ rfl
      exact ⟨fun c m _ => by have := next m; rw [u1 c] at this; exact this, fun c m _ => by have := next m; rw [u2 c] at this; exact this⟩
theorem rl_bo155 {H : fl_H} (hw : wf (H 95)) {b : Nat} (eb : H 95 2 = (b : Int)) {A : Int} {Q : Option Int → fl_H → Prop} (hQ : Q (some (A + 60 * psm (fun b => max (H 95 (71 + 4 * b)) 0) b)) H) : ∀ (f k : Nat), k + f = b → ∀ N, hd_GoodsBookModel_bound_94_155 (cm_pg X xs) N H (A + 60 * psm (fun b => max (H 95 (71 + 4 * b)) 0) k) (k : Int) Q
  | 0, k, hk, N => by
    have bd := hw.1
    unfold zr at bd
    have ek : k = b := by omega
    subst ek
    refine vh_GoodsBookModel_bound_94_155 ?_
    rw [eb, fl_wi (x := (k : Int)) (by omega) (by omega)]
    exact ⟨fun _ => hQ, fun hh => absurd (Int.le_refl _) hh⟩
  | f + 1, k, hk, N => by
    have bd := hw.1
    unfold zr at bd
    have e := wf_be hw (b := k) (by omega)
    have next := fun m => rl_bo155 hw eb hQ f (k + 1) (by omega) m
    have ps : psm (fun b => max (H 95 (71 + 4 * b)) 0) (k + 1) = psm (fun b => max (H 95 (71 + 4 * b)) 0) k + max (H 95 (71 + 4 * k)) 0 := rfl
    rw [ps] at next
    refine vh_GoodsBookModel_bound_94_155 ?_
    rw [eb, fl_wi (x := (b : Int)) (by omega) (by omega), fl_wi (x := (k : Int)) (by omega) (by omega), fl_wi (x := 68 + 4 * (k : Int) + 3) (by omega) (by omega), show (68 + 4 * (k : Int) + 3).toNat = 71 + 4 * k by omega, fl_wi (x := H 95 (71 + 4 * k)) (by omega) (by omega), show ((k : Int) + 1) = ((k + 1 : Nat) : Int) by omega]
    refine ⟨fun hh => by omega, fun _ _ => ⟨fun c m _ => ?_, fun c m _ => ?_⟩⟩
    · have := next m
      rw [show A + 60 * (psm (fun b => max (H 95 (71 + 4 * b)) 0) k + max (H 95 (71 + 4 * k)) 0) = A + 60 * psm (fun b => max (H 95 (71 + 4 * b)) 0) k + 0 by omega] at this
      exact this
    · have := next m
      rw [show A + 60 * (psm (fun b => max (H 95 (71 + 4 * b)) 0) k + max (H 95 (71 + 4 * k)) 0) = A + 60 * psm (fun b => max (H 95 (71 + 4 * b)) 0) k + 60 * H 95 (71 + 4 * k) by omega] at this
      exact this
theorem rl_bo4 {H : fl_H} (hw : wf (H 95)) {n P : Nat} (en : H 95 1 = (n : Int)) (eP : H 95 0 = (P : Int)) {Q : Option Int → fl_H → Prop} (K : ∀ m, hd_GoodsBookModel_bound_94_155 (cm_pg X xs) m H (psm (fun g => zrbm (H 95) g n (2 * P)) n) 0 Q) : ∀ (f k : Nat), k + f = n → ∀ N, hd_GoodsBookModel_bound_94_4 (cm_pg X xs) N H (psm (fun g => zrbm (H 95) g n (2 * P)) k) (k : Int) Q
  | 0, k, hk, N => by
    have bd := hw.1
    unfold zr at bd
    have ek : k = n := by omega
    subst ek
    refine vh_GoodsBookModel_bound_94_4 ?_
    rw [en, fl_wi (x := (k : Int)) (by omega) (by omega)]
    exact ⟨fun _ => K N, fun hh => absurd (Int.le_refl _) hh⟩
  | f + 1, k, hk, N => by
    have bd := hw.1
    unfold zr at bd
    refine vh_GoodsBookModel_bound_94_4 ?_
    rw [en, fl_wi (x := (n : Int)) (by omega) (by omega), fl_wi (x := (k : Int)) (by omega) (by omega), fl_wi (x := 14 + 8 * (k : Int)) (by omega) (by omega), show (14 + 8 * (k : Int)).toNat = 14 + 8 * k by omega]
    refine ⟨fun hh => by omega, fun _ _ => ?_⟩
    exact rl_bo33 (X := X) (xs := xs) hw en eP (g := k) (by omega) (a1 := psm (fun g => zrbm (H 95) g n (2 * P)) k) (fun m => by
      have := rl_bo4 hw en eP K f (k + 1) (by omega) m
      rw [show ((k : Int) + 1) = ((k + 1 : Nat) : Int) by omega]
      exact this) (2 * P) 0 (by omega) N
theorem rg_bound {m : Nat} {H : fl_H} (t : TX H) : ck (cm_pg X xs) m cm_m203 [.index 94] H (rq (fun z v => v = zbo z) H) := by
  have bd := z_bd t
  have hw := TX_wf t
  obtain ⟨n, en⟩ : ∃ n : Nat, H 95 1 = (n : Int) := ⟨(H 95 1).toNat, by omega⟩
  obtain ⟨P, eP⟩ : ∃ n : Nat, H 95 0 = (n : Int) := ⟨(H 95 0).toNat, by omega⟩
  obtain ⟨b, eb⟩ : ∃ n : Nat, H 95 2 = (n : Int) := ⟨(H 95 2).toNat, by omega⟩
  have hQ : rq (fun z v => v = zbo z) H (some (psm (fun g => zrbm (H 95) g n (2 * P)) n + 60 * psm (fun b => max (H 95 (71 + 4 * b)) 0) b)) H := rq_0 t (by
    unfold zbo
    rw [en, eb, Int.toNat_natCast, Int.toNat_natCast, Int.add_comm]
    congr 1
    refine psm_congr (fun i hi => ?_)
    unfold zmo
    rw [eP, Int.toNat_natCast, zrbm_mp hw (by omega)])
  refine ve_GoodsBookModel_bound_94 (rl_bo4 (X := X) (xs := xs) hw en eP (fun m => ?_) n 0 (by omega) m)
  have := rl_bo155 (X := X) (xs := xs) hw eb hQ b 0 (by omega) m
  rw [show psm (fun g => zrbm (H 95) g n (2 * P)) n + 60 * psm (fun b => max (H 95 (71 + 4 * b)) 0) 0 = psm (fun g => zrbm (H 95) g n (2 * P)) n from Int.add_zero _] at this
  exact this
theorem tx_bound : tw X xs TX true cm_m122 cm_m203 [.index 0] [.index 94] :=
  tx_rel (P := fun z v => v = zbo z) (fun _ _ _ a b => a.trans b.symm) (fun m H t => cb_bound t) (fun m H t => rg_bound t)
end
end
