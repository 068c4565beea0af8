noncomputable section
/-! L3: which goods with sizes can lie on a page. -/
section
variable {X : Term} {xs : List Int32}
theorem zcd_lt {z : Nat → Int} {n code : Nat} (en : z 1 = (n : Int)) (h : code < 3 ^ n) : zcd z code := fun g hg hm => by
  refine Classical.byContradiction (fun q => ?_)
  have k : n ≤ g := by omega
  have e : dig code g = 0 := by
    unfold dig
    rw [Nat.div_eq_of_lt (Nat.lt_of_lt_of_le h (Nat.pow_le_pow_right (by omega) k))]
  exact absurd e (zM_t.mp hm)
theorem thr_at : ∀ n : Nat, n < 6 → ([1, 3, 9, 27, 81, 243] : List Int).getD n 0 = ((3 ^ n : Nat) : Int) := by decide
theorem thr_bd : ∀ n : Nat, n < 7 → 1 ≤ 3 ^ n ∧ 3 ^ n ≤ 729 := by decide
def oFit (a : Int) (z : Nat → Int) : Int := if 0 ≤ a ∧ a ≤ ((3 ^ (z 1).toNat : Nat) : Int) - 1 then fl_b (zfit z a.toNat) else -1
theorem fb_fits {m N n : Nat} {H : fl_H} {a : Int} (t : TX H) (en : H 95 1 = (n : Int)) (ha : 0 ≤ a ∧ a ≤ ((3 ^ n : Nat) : Int) - 1) : ck (cm_pg X xs) m cm_m32 [.index 64] H (fun r H3 => r = none ∧ ∀ m, m < N → ck (cm_pg X xs) m cm_m35 [.index 64, fl_t a] H3 (fun r H5 => ∃ x7, r = some x7 ∧ ((fl_w x7 = 0 → cq (fun z v => v = oFit a z) H (some 0) H5) ∧ (¬ fl_w x7 = 0 → cq (fun z v => v = oFit a z) H (some 1) H5)))) := by
  have bd := z_bd t
  have hw := TX_wf t
  have tb := thr_bd n (by omega)
  have eo : oFit a (H 95) = fl_b (zfit (H 95) a.toNat) := by
    unfold oFit
    rw [en, Int.toNat_natCast, if_pos ha]
  obtain ⟨c, ec⟩ : ∃ c : Nat, a = (c : Int) := ⟨a.toNat, by omega⟩
  subst ec
  rw [Int.toNat_natCast] at eo
  refine ck_mono (fc_measure (X := X) (xs := xs) (TX_bz t).1 hw (TX_flI t)) (fun r3 H3 h3 => ⟨h3.1, fun m1 _ => ?_⟩)
  obtain ⟨-, o3, e3, k3, f3, n3⟩ := h3
  refine ck_mono (fd_lies (X := X) (xs := xs) f3 hw n3 (by omega) (zcd_lt en (by omega))) (fun r5 H5 h5 => ⟨_, h5.1, ?_⟩)
  obtain ⟨-, o5, k5⟩ := h5
  have o : oc pR H H5 := fun c hc => (o5 c (fun q => hc (by unfold pL at q; unfold pR; omega))).trans (o3 c (fun q => hc (by unfold pF at q; unfold pR; omega)))
  have f : flI (H 95) H5 := Or.inr ⟨by rw [o5 64 (by unfold pL; omega)]; exact k3, fun g hg s hs => by rw [o5 67 (by unfold pL; omega), o5 66 (by unfold pL; omega)]; exact f3 g hg s hs, k5⟩
  rw [fb_0]
  exact ⟨fun q => cq_R t o f (by rw [eo, fl_b0 q]), fun q => cq_R t o f (by rw [eo, fl_b1 (Classical.not_not.mp q)])⟩
theorem cb_fits {m : Nat} {H : fl_H} {a : Int} (ha : fl_w a = a) (t : TX H) : ck (cm_pg X xs) m cm_m118 [.index 0, fl_t a] H (cq (fun z v => v = oFit a z) H) := by
  have bd := z_bd t
  obtain ⟨n, en⟩ : ∃ n : Nat, H 95 1 = (n : Int) := ⟨(H 95 1).toNat, by omega⟩
  have n6 : n ≤ 6 := by omega
  have tb := thr_bd n (by omega)
  have no : ¬ (0 ≤ a ∧ a ≤ ((3 ^ n : Nat) : Int) - 1) → cq (fun z v => v = oFit a z) H (some (-1)) H := fun q => cq_0 t (by
    unfold oFit
    rw [en, Int.toNat_natCast, if_neg q])
  refine ve_GoodsBook_fits_0 ?_
  rw [TX_1 t, en, fl_wi (x := (n : Int)) (by omega) (by omega), ha, w_0, fl_wi (x := 729 - 1) (by omega) (by omega), Int.toNat_natCast]
  refine ⟨fun h6 => ?_, fun h6 _ => ?_⟩
  · have e6 : n = 6 := by omega
    subst e6
    exact ⟨fun q m1 _ => fb_fits t en q, fun q => no q⟩
  · rw [thr_at n (by omega), fl_wi (x := ((3 ^ n : Nat) : Int) - 1) (by omega) (by omega)]
    exact ⟨fun q m1 _ => fb_fits t en q, fun q => no q⟩
theorem rl_codes (n : Nat) (n6 : n ≤ 6) : ∀ (f k : Nat), k + f = n → ∀ (N : Nat) (H : fl_H), H 95 1 = (n : Int) → hd_GoodsBookModel_codes_94_4 (cm_pg X xs) N H ((3 ^ k : Nat) : Int) (k : Int) (fun r H' => r = some ((3 ^ n : Nat) : Int) ∧ H' = H)
  | 0, k, hk, N, H, en => by
    refine vh_GoodsBookModel_codes_94_4 ?_
    rw [en, fl_wi (x := (n : Int)) (by omega) (by omega), fl_wi (x := (k : Int)) (by omega) (by omega)]
    exact ⟨fun _ => ⟨by rw [show k = n by omega], rfl⟩, fun h => absurd (by omega) h⟩
  | f + 1, k, hk, N, H, en => by
    refine vh_GoodsBookModel_codes_94_4 ?_
    have e3 : ((3 ^ k : Nat) : Int) * 3 = ((3 ^ (k + 1) : Nat) : Int) := by rw [Nat.pow_succ]; omega
    rw [en, fl_wi (x := (n : Int)) (by omega) (by omega), fl_wi (x := (k : Int)) (by omega) (by omega), e3, show ((k : Int) + 1) = ((k + 1 : Nat) : Int) by omega]
    exact ⟨fun h => by omega, fun _ m _ => rl_codes n n6 f (k + 1) (by omega) m H en⟩
theorem rm_codes {m n : Nat} {H : fl_H} (n6 : n ≤ 6) (en : H 95 1 = (n : Int)) : ck (cm_pg X xs) m cm_m174 [.index 94] H (fun r H' => r = some ((3 ^ n : Nat) : Int) ∧ H' = H) :=
  ve_GoodsBookModel_codes_94 (rl_codes n n6 n 0 (by omega) _ H en)
theorem rso_rfo {H G : fl_H} (h : rfo H G) : rso H G := by
  refine ⟨fun c a b => (h c (by omega) (by omega) (by omega) (by omega)).1 a, fun i a _ _ => (h 94 (by omega) (by omega) (by omega) (by omega)).2 rfl i a⟩
theorem rg_fits {m : Nat} {H : fl_H} {a : Int} (ha : fl_w a = a) (t : TX H) : ck (cm_pg X xs) m cm_m175 [.index 94, fl_t a] H (rq (fun z v => v = oFit a z) H) := by
  have bd := z_bd t
  have hw := TX_wf t
  obtain ⟨n, en⟩ : ∃ n : Nat, H 95 1 = (n : Int) := ⟨(H 95 1).toNat, by omega⟩
  have tb := thr_bd n (by omega)
  refine ve_GoodsBookModel_fits_94 (fun m1 _ => ck_mono (rm_codes (X := X) (xs := xs) (n := n) (by omega) en) (fun r1 H1 h1 => ⟨_, h1.1, ?_⟩))
  rw [h1.2, ha, fl_wi (x := ((3 ^ n : Nat) : Int) - 1) (by omega) (by omega)]
  refine ⟨fun q m2 _ => ?_, fun q => rq_0 t (by unfold oFit; rw [en, Int.toNat_natCast, if_neg q])⟩
  have eo : oFit a (H 95) = fl_b (zfit (H 95) a.toNat) := by
    unfold oFit
    rw [en, Int.toNat_natCast, if_pos q]
  obtain ⟨c, ec⟩ : ∃ c : Nat, a = (c : Int) := ⟨a.toNat, by omega⟩
  subst ec
  rw [Int.toNat_natCast] at eo
  refine ck_mono (rc_fit (X := X) (xs := xs) hw (TX_rkn t) (by omega) (zcd_lt en (by omega))) (fun r5 H5 h5 => ⟨_, h5.1, ?_⟩)
  obtain ⟨-, o5, k5⟩ := h5
  rw [fb_0]
  exact ⟨fun q => rq_R t (rso_rfo o5) k5 (by rw [eo, fl_b0 q]), fun q => rq_R t (rso_rfo o5) k5 (by rw [eo, fl_b1 (Classical.not_not.mp q)])⟩
theorem tx_fits {v1 : Int} (h1 : fl_w v1 = v1) : tw X xs TX true cm_m118 cm_m175 [.index 0, fl_t v1] [.index 94, fl_t v1] :=
  tx_rel (P := fun z v => v = oFit v1 z) (fun _ _ _ a b => a.trans b.symm) (fun m H t => cb_fits h1 t) (fun m H t => rg_fits h1 t)
end
end
