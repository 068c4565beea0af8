noncomputable section
/-! L3: the class's calls that tell of the plan. -/
section
variable {X : Term} {xs : List Int32}
theorem TX_chA {H : fl_H} (t : TX H) : chA 19 (H 95) H := t.2.1
theorem TX_she {H : fl_H} (t : TX H) : she H := t.2.2.2.1
theorem TX_flI {H : fl_H} (t : TX H) : flI (H 95) H := t.2.2.2.2.1
theorem TX_rkn {H : fl_H} (t : TX H) : rkn (H 95) H := t.2.2.2.2.2.1
theorem TX_kbe {H : fl_H} (t : TX H) : kbe (H 95) H := t.2.2.2.2.2.2.1
theorem TX_kst {H : fl_H} (t : TX H) : kst (H 95) H := t.2.2.2.2.2.2.2.1
theorem TX_kmd {H : fl_H} (t : TX H) : kmd (H 95) H := t.2.2.2.2.2.2.2.2
theorem TX_1 {H : fl_H} (t : TX H) : H 3 0 = H 95 1 := gz_1 (TX_bz t).1
theorem TX_0 {H : fl_H} (t : TX H) : H 1 0 = H 95 0 := (TX_bz t).2.1
theorem kbe_o {z : Nat → Int} {H G : fl_H} (k : kbe z H) (h1 : G 88 = H 88) (h2 : G 89 = H 89) : kbe z G := by unfold kbe; rw [h1, h2]; exact k
theorem kst_o {z : Nat → Int} {H G : fl_H} (k : kst z H) (h1 : G 90 = H 90) (h2 : G 91 = H 91) : kst z G := by unfold kst; rw [h1, h2]; exact k
theorem kmd_o {z : Nat → Int} {H G : fl_H} (k : kmd z H) (h0 : G 0 = H 0) (h1 : G 92 = H 92) (h2 : G 93 = H 93) : kmd z G := by unfold kmd; rw [h0, h1, h2]; exact k
theorem pR_no {c : Nat} (h : ¬ (64 ≤ c ∧ c ≤ 84)) : ¬ pR c := fun q => by unfold pR at q; omega
theorem TX_pR {H G : fl_H} (t : TX H) (o : oc pR H G) (f : flI (H 95) G) : TX G :=
  TX_cro t (cro_oc o (fun c hc => by unfold pR at hc; omega)) f (kbe_o (TX_kbe t) (o 88 (pR_no (by omega))) (o 89 (pR_no (by omega)))) (kst_o (TX_kst t) (o 90 (pR_no (by omega))) (o 91 (pR_no (by omega)))) (kmd_o (TX_kmd t) (o 0 (pR_no (by omega))) (o 92 (pR_no (by omega))) (o 93 (pR_no (by omega))))
theorem TX_ch {H : fl_H} (t : TX H) {g : Nat} (hg : (g : Int) < H 95 1) : H 19 g = ((pln (H 95) g : Nat) : Int) := (TX_chA t).2 g (by have := (TX_wf t).1; unfold zr at this; omega)
theorem fb_draw {m : Nat} {H : fl_H} (t : TX H) : ck (cm_pg X xs) m cm_m143 [.index 0] H (fun r H' => r = none ∧ oc pR H H' ∧ dcx (H 95) (pln (H 95)) H') := by
  have hw := TX_wf t
  refine ve_GoodsBook_drawPlan_0 (fun m1 _ => ck_mono (dcx_begin (X := X) (xs := xs) (z' := H 95) rfl rfl (TX_bz t) hw (TX_flI t) (Or.inl ⟨by omega, by omega, rfl⟩)) (fun r1 H1 h1 => ⟨h1.1, fun m2 _ => ?_⟩))
  refine ck_mono (dc_all19 (X := X) (xs := xs) (s := pln (H 95)) h1.2.2 hw (rk_0 hw.1.1) (pln_rk hw (TX_chA t).1) (fun g hg => ?_)) (fun r2 H2 h2 => ⟨h2.1, rfl, oc_trans (pR_B h1.2.1) (pR_D h2.2.1), h2.2.2⟩)
  rw [h1.2.1 19 (by unfold pB; omega)]
  exact TX_ch t hg
def cq (P : (Nat → Int) → Int → Prop) (H : fl_H) (r : Option Int) (H1 : fl_H) : Prop := (∃ v, r = some v ∧ P (H 95) v) ∧ H1 95 = H 95 ∧ TX H1
theorem cq_R {P : (Nat → Int) → Int → Prop} {H G : fl_H} {v : Int} (t : TX H) (o : oc pR H G) (f : flI (H 95) G) (p : P (H 95) v) : cq P H (some v) G := ⟨⟨v, rfl, p⟩, o 95 (pR_no (by omega)), TX_pR t o f⟩
theorem cq_0 {P : (Nat → Int) → Int → Prop} {H : fl_H} {v : Int} (t : TX H) (p : P (H 95) v) : cq P H (some v) H := ⟨⟨v, rfl, p⟩, rfl, t⟩
theorem z_bd {H : fl_H} (t : TX H) : (0 ≤ H 95 0 ∧ H 95 0 ≤ 3) ∧ (0 ≤ H 95 1 ∧ H 95 1 ≤ 6) ∧ (0 ≤ H 95 2 ∧ H 95 2 ≤ 12) := by
  have := (TX_wf t).1; unfold zr at this; omega
theorem eGm {H : fl_H} (t : TX H) : fl_w (H 3 0 - 1) = H 95 1 - 1 := by
  have := z_bd t
  rw [TX_1 t]; exact fl_wi (by omega) (by omega)
theorem ePm {H : fl_H} (t : TX H) : fl_w (H 1 0 - 1) = H 95 0 - 1 := by
  have := z_bd t
  rw [TX_0 t]; exact fl_wi (by omega) (by omega)
theorem gd_n {H : fl_H} (t : TX H) {a : Int} (h : 0 ≤ a ∧ a ≤ H 95 1 - 1) : ∃ g : Nat, a = (g : Int) ∧ (g : Int) < H 95 1 ∧ g < 6 := ⟨a.toNat, by omega, by omega, by have := z_bd t; omega⟩
theorem pln_7 {H : fl_H} (t : TX H) (g : Nat) : pln (H 95) g < 7 := rk_7 (TX_wf t) (pln_rk (TX_wf t) (TX_chA t).1) g
theorem w_ch {n : Nat} (h : n < 7) : fl_w ((n : Nat) : Int) = (n : Int) := fl_wi (by omega) (by omega)
-- ---- brings, worth, breaks, through
def oBri (a : Int) (z : Nat → Int) : Int := if 0 ≤ a ∧ a ≤ z 1 - 1 then (if pln z a.toNat = 0 then -4 else zsh z (pln z) a.toNat 0) else -1
def oBrk (a : Int) (z : Nat → Int) : Int := if 0 ≤ a ∧ a ≤ 1 then (if a = 0 then zfb z (pln z) else zfc z (pln z)) else -1
def oThr (a : Int) (z : Nat → Int) : Int := if 0 ≤ a ∧ a ≤ z 1 - 1 then (if pln z a.toNat = 0 then -1000000004 else zwo z (pln z) - zsh z (pln z) a.toNat 0 - zwo z (pup (pln z) a.toNat 0)) else -1000000001
theorem cb_brings {m : Nat} {H : fl_H} {a : Int} (ha : fl_w a = a) (t : TX H) : ck (cm_pg X xs) m cm_m113 [.index 0, fl_t a] H (cq (fun z v => v = oBri a z) H) := by
  have hw := TX_wf t
  refine ve_GoodsBook_brings_0 (fun m1 _ => ve_GoodsBook_isGood_0 ⟨_, rfl, ?_⟩)
  simp only [fb_0, ha, w_0, eGm t]
  refine ⟨fun q => cq_0 t (by unfold oBri; rw [if_neg q]), fun q _ => ?_⟩
  have q1 := Decidable.not_not.mp q
  obtain ⟨g, eg, g1, g6⟩ := gd_n t q1
  subst eg
  simp only [Int.toNat_natCast]
  rw [TX_ch t g1, w_ch (pln_7 t g)]
  refine ⟨fun h => cq_0 t ?_, fun h m2 _ => ck_mono (fb_draw (X := X) (xs := xs) t) (fun r2 H2 h2 => ⟨h2.1, fun m3 _ => ?_⟩)⟩
  · unfold oBri; rw [if_pos q1, Int.toNat_natCast, if_pos (by omega)]
  · obtain ⟨-, o2, d2⟩ := h2
    refine ck_mono (dc_share (X := X) (xs := xs) (o := 0) d2.1 hw d2.2.1 d2.2.2.1 g1 (by omega) (Nat.zero_le _) rfl rfl) (fun r3 H3 h3 => ⟨_, h3.1, ?_⟩)
    rw [h3.2]
    refine cq_R t o2 (Or.inr d2.2.2.2) ?_
    unfold oBri; rw [if_pos q1, Int.toNat_natCast, if_neg (by omega)]
theorem cb_worth {m : Nat} {H : fl_H} (t : TX H) : ck (cm_pg X xs) m cm_m114 [.index 0] H (cq (fun z v => v = zwo z (pln z)) H) := by
  have hw := TX_wf t
  refine ve_GoodsBook_worth_0 (fun m1 _ => ck_mono (fb_draw (X := X) (xs := xs) t) (fun r2 H2 h2 => ⟨h2.1, fun m3 _ => ?_⟩))
  obtain ⟨-, o2, d2⟩ := h2
  refine ck_mono (dc_amount (X := X) (xs := xs) d2.1 hw d2.2.1 d2.2.2.1) (fun r3 H3 h3 => ⟨_, h3.1, ?_⟩)
  rw [h3.2]
  exact cq_R t o2 (Or.inr d2.2.2.2) rfl
theorem cb_breaks {m : Nat} {H : fl_H} {a : Int} (ha : fl_w a = a) (t : TX H) : ck (cm_pg X xs) m cm_m115 [.index 0, fl_t a] H (cq (fun z v => v = oBrk a z) H) := by
  have hw := TX_wf t
  refine ve_GoodsBook_breaks_0 ?_
  simp only [ha, w_0, w_1]
  refine ⟨fun q m1 _ => ck_mono (fb_draw (X := X) (xs := xs) t) (fun r2 H2 h2 => ⟨h2.1, ?_⟩), fun q => cq_0 t (by unfold oBrk; rw [if_neg q])⟩
  obtain ⟨-, o2, d2⟩ := h2
  refine ⟨fun e m3 _ => ck_mono (dc_broken (X := X) (xs := xs) d2.1 hw d2.2.1) (fun r3 H3 h3 => ⟨_, h3.1, ?_⟩), fun e m3 _ => ck_mono (dc_crowded (X := X) (xs := xs) d2.1 hw d2.2.1 d2.2.2.2) (fun r3 H3 h3 => ⟨_, h3.1, ?_⟩)⟩
  · rw [h3.2]
    refine cq_R t o2 (Or.inr d2.2.2.2) ?_
    unfold oBrk; rw [if_pos q, if_pos e]
  · refine cq_R t (oc_trans o2 (pR_L h3.2.1)) (Or.inr h3.2.2) ?_
    unfold oBrk; rw [if_pos q, if_neg e]
theorem cb_through {m : Nat} {H : fl_H} {a : Int} (ha : fl_w a = a) (t : TX H) : ck (cm_pg X xs) m cm_m126 [.index 0, fl_t a] H (cq (fun z v => v = oThr a z) H) := by
  have hw := TX_wf t
  refine ve_GoodsBook_through_0 (fun m1 _ => ve_GoodsBook_isGood_0 ⟨_, rfl, ?_⟩)
  simp only [fb_0, ha, w_0, eGm t]
  refine ⟨fun q => cq_0 t (by unfold oThr; rw [if_neg q]), fun q _ => ?_⟩
  have q1 := Decidable.not_not.mp q
  obtain ⟨g, eg, g1, g6⟩ := gd_n t q1
  subst eg
  simp only [Int.toNat_natCast]
  rw [TX_ch t g1, w_ch (pln_7 t g)]
  refine ⟨fun h => cq_0 t ?_, fun h m2 _ => ck_mono (fb_draw (X := X) (xs := xs) t) (fun r2 H2 h2 => ⟨h2.1, fun m3 _ => ?_⟩)⟩
  · unfold oThr; rw [if_pos q1, Int.toNat_natCast, if_pos (by omega)]
  · obtain ⟨-, o2, d2⟩ := h2
    refine ck_mono (dc_amount (X := X) (xs := xs) d2.1 hw d2.2.1 d2.2.2.1) (fun r3 H3 h3 => ⟨_, h3.1, fun m4 _ => ?_⟩)
    rw [h3.2]
    refine ck_mono (dc_share (X := X) (xs := xs) (o := 0) d2.1 hw d2.2.1 d2.2.2.1 g1 (by omega) (Nat.zero_le _) rfl rfl) (fun r4 H4 h4 => ⟨_, h4.1, fun m5 _ => ?_⟩)
    rw [h4.2]
    refine ck_mono (dcx_put (X := X) (xs := xs) (c := 0) d2 hw g1 (by have := z_bd t; omega) rfl rfl) (fun r5 H5 h5 => ⟨h5.1, fun m6 _ => ?_⟩)
    obtain ⟨-, o5, d5⟩ := h5
    refine ck_mono (dc_amount (X := X) (xs := xs) d5.1 hw d5.2.1 d5.2.2.1) (fun r6 H6 h6 => ⟨_, h6.1, ?_⟩)
    rw [h6.2]
    refine cq_R t (oc_trans o2 (pR_D o5)) (Or.inr d5.2.2.2) ?_
    unfold oThr; rw [if_pos q1, Int.toNat_natCast, if_neg (by omega)]
-- ---- best, take, more, less
theorem w_m1 : fl_w (-1) = -1 := rfl
theorem w_m2 : fl_w (-2) = -2 := rfl
def pBes (a : Int) (z : Nat → Int) (v : Int) : Prop := if -1 ≤ a ∧ a ≤ z 1 - 1 then ∃ A R, zbs z (rk z) A R ∧ v = (if a = -1 then A else ((R a.toNat : Nat) : Int)) else v = -1000000001
theorem pBes_un {a : Int} (z : Nat → Int) (v w : Int) (h : pBes a z v) (k : pBes a z w) : v = w := by
  unfold pBes at h k
  by_cases q : -1 ≤ a ∧ a ≤ z 1 - 1
  · rw [if_pos q] at h k
    obtain ⟨A, R, h1, h2⟩ := h
    obtain ⟨B, S, k1, k2⟩ := k
    obtain ⟨e1, e2⟩ := zbs_un h1 k1
    rw [h2, k2, e1, e2]
  · rw [if_neg q] at h k
    rw [h, k]
theorem TX_pT {H G : fl_H} (t : TX H) (o : oc pT H G) (f : flI (H 95) G) (k : kbe (H 95) G) : TX G :=
  TX_cro t (cro_oc o (fun c hc => by unfold pT pR at hc; omega)) f k (kst_o (TX_kst t) (o 90 (fun q => by unfold pT pR at q; omega)) (o 91 (fun q => by unfold pT pR at q; omega))) (kmd_o (TX_kmd t) (o 0 (fun q => by unfold pT pR at q; omega)) (o 92 (fun q => by unfold pT pR at q; omega)) (o 93 (fun q => by unfold pT pR at q; omega)))
/-- the best of now -/
theorem fb_now {m : Nat} {H : fl_H} (t : TX H) : ck (cm_pg X xs) m cm_m144 [.index 0, fl_t (-1), fl_t (-1)] H (fun r G => TX G ∧ G 95 = H 95 ∧ (∀ c, c ≠ 0 → ¬ (64 ≤ c ∧ c ≤ 93) → G c = H c) ∧ ∃ R, zbs (H 95) (rk (H 95)) (G 88 2) R ∧ (∀ g, g < 6 → G 89 g = ((R g : Nat) : Int)) ∧ r = some (G 88 2)) :=
  ck_mono (fb_best (X := X) (xs := xs) (TX_bz t) (TX_wf t) (TX_flI t) (TX_kbe t)) (fun r G h => by
    obtain ⟨o, f, k0, R, k1, k2, e⟩ := h
    exact ⟨TX_pT t o f (Or.inr ⟨k0, R, k1, k2⟩), o 95 (fun q => by unfold pT pR at q; omega), fun c _ hc => o c (fun q => by unfold pT pR at q; omega), R, k1, k2, e⟩)
theorem cb_best {m : Nat} {H : fl_H} {a : Int} (ha : fl_w a = a) (t : TX H) : ck (cm_pg X xs) m cm_m119 [.index 0, fl_t a] H (cq (pBes a) H) := by
  refine ve_GoodsBook_best_0 ?_
  simp only [ha, w_m1, eGm t]
  refine ⟨fun q m1 _ => ck_mono (fb_now (X := X) (xs := xs) t) (fun r1 H1 h1 => ?_), fun q => cq_0 t (by unfold pBes; rw [if_neg q])⟩
  obtain ⟨t1, e1, -, R, z1, z2, er⟩ := h1
  have b := z_bd t
  have fin : ∀ v, v = (if a = -1 then H1 88 2 else ((R a.toNat : Nat) : Int)) → cq (pBes a) H (some v) H1 := fun v hv => ⟨⟨v, rfl, by unfold pBes; rw [if_pos q]; exact ⟨_, R, z1, hv⟩⟩, e1, t1⟩
  refine ⟨_, er, fun m2 _ => ve_Answer_tell_88 ?_⟩
  simp only [ha, w_m2, w_0, show fl_w 5 = 5 from rfl]
  refine ⟨fun q2 => absurd q2 (by omega), fun q2 => ⟨fun q3 _ => ⟨_, rfl, fin _ ?_⟩, fun q3 => ⟨_, rfl, fin _ ?_⟩⟩⟩
  · rw [if_neg (by omega)]; exact z2 a.toNat (by omega)
  · rw [if_pos (by omega)]
def pMor (a : Int) (z : Nat → Int) (v : Int) : Prop := if 0 ≤ a ∧ a ≤ 60 then (if z 0 < 3 then ∃ A R B Q, zbs (zadd z a) (rk (zadd z a)) A R ∧ zbs z (rk z) B Q ∧ v = A - B else v = -1000000003) else v = -1000000001
def pLes (a : Int) (z : Nat → Int) (v : Int) : Prop := if 0 ≤ a ∧ a ≤ z 0 - 1 then ∃ A R B Q, zbs (zrem z a.toNat) (rk (zrem z a.toNat)) A R ∧ zbs z (rk z) B Q ∧ v = A - B else v = -1000000001
theorem pMor_un {a : Int} (z : Nat → Int) (v w : Int) (h : pMor a z v) (k : pMor a z w) : v = w := by
  unfold pMor at h k
  by_cases q : 0 ≤ a ∧ a ≤ 60
  · rw [if_pos q] at h k
    by_cases q2 : z 0 < 3
    · rw [if_pos q2] at h k
      obtain ⟨A, R, B, Q, h1, h2, h3⟩ := h
      obtain ⟨A', R', B', Q', k1, k2, k3⟩ := k
      rw [h3, k3, (zbs_un h1 k1).1, (zbs_un h2 k2).1]
    · rw [if_neg q2] at h k
      rw [h, k]
  · rw [if_neg q] at h k
    rw [h, k]
theorem pLes_un {a : Int} (z : Nat → Int) (v w : Int) (h : pLes a z v) (k : pLes a z w) : v = w := by
  unfold pLes at h k
  by_cases q : 0 ≤ a ∧ a ≤ z 0 - 1
  · rw [if_pos q] at h k
    obtain ⟨A, R, B, Q, h1, h2, h3⟩ := h
    obtain ⟨A', R', B', Q', k1, k2, k3⟩ := k
    rw [h3, k3, (zbs_un h1 k1).1, (zbs_un h2 k2).1]
  · rw [if_neg q] at h k
    rw [h, k]
/-- the best with other pages, then that of now -/
theorem fb_two {N : Nat} {z' : Nat → Int} {a q : Int} {H : fl_H} {K : Option Int → fl_H → Prop} (t : TX H) (ha : fl_w a = a) (hq : fl_w q = q) (hp : bpg (H 95) a q z') (hn : 0 ≤ a ∨ 0 ≤ q) (hK : ∀ G A R B Q, TX G → G 95 = H 95 → zbs z' (rk z') A R → zbs (H 95) (rk (H 95)) B Q → K (some (A - B)) G) : ∀ m, m < N → ck (cm_pg X xs) m cm_m144 [.index 0, fl_t a, fl_t q] H (fun r H3 => ∃ x5, r = some x5 ∧ (∀ m, m < N → ck (cm_pg X xs) m cm_m144 [.index 0, fl_t (-1), fl_t (-1)] H3 (fun r H6 => ∃ x8, r = some x8 ∧ K (some (x5 - x8)) H6))) := fun m _ => ck_mono (fb_other (X := X) (xs := xs) ha hq (TX_bz t) (TX_wf t) (TX_flI t) hp hn) (fun r G h => by
    obtain ⟨o, f, A, R, z1, e⟩ := h
    have tG := TX_pR t o f
    have e95 : G 95 = H 95 := o 95 (pR_no (by omega))
    refine ⟨A, e, fun m2 _ => ck_mono (fb_now (X := X) (xs := xs) tG) (fun r2 H2 h2 => ?_)⟩
    obtain ⟨t2, e2, -, Q, z2, -, er⟩ := h2
    rw [e95] at z2 e2
    exact ⟨_, er, hK H2 A R _ Q t2 e2 z1 z2⟩)
theorem cb_more {m : Nat} {H : fl_H} {a : Int} (ha : fl_w a = a) (t : TX H) : ck (cm_pg X xs) m cm_m124 [.index 0, fl_t a] H (cq (pMor a) H) := by
  have b := z_bd t
  refine ve_GoodsBook_more_0 ?_
  rw [TX_0 t, fl_wi (x := H 95 0) (by omega) (by omega)]
  simp only [ha, w_0, w_3, w_60]
  refine ⟨fun q => ⟨fun q2 => fb_two (X := X) (xs := xs) t ha rfl (Or.inr (Or.inl ⟨q.1, q.2, by omega, q2, rfl⟩)) (Or.inl q.1) (fun G A R B Q tG eG h1 h2 => ⟨⟨_, rfl, ?_⟩, eG, tG⟩), fun q2 => cq_0 t ?_⟩, fun q => cq_0 t ?_⟩
  · unfold pMor; rw [if_pos q, if_pos q2]; exact ⟨A, R, B, Q, h1, h2, rfl⟩
  · unfold pMor; rw [if_pos q, if_neg q2]
  · unfold pMor; rw [if_neg q]
theorem cb_less {m : Nat} {H : fl_H} {a : Int} (ha : fl_w a = a) (t : TX H) : ck (cm_pg X xs) m cm_m125 [.index 0, fl_t a] H (cq (pLes a) H) := by
  have b := z_bd t
  refine ve_GoodsBook_less_0 (fun m1 _ => ve_GoodsBook_isPage_0 ⟨_, rfl, ?_⟩)
  simp only [fb_0, ha, w_0, ePm t]
  refine ⟨fun q => cq_0 t (by unfold pLes; rw [if_neg q]), fun q => ?_⟩
  have q1 := Decidable.not_not.mp q
  refine fb_two (X := X) (xs := xs) t rfl ha (Or.inr (Or.inr ⟨by omega, q1.1, by omega, rfl⟩)) (Or.inr q1.1) (fun G A R B Q tG eG h1 h2 => ⟨⟨_, rfl, ?_⟩, eG, tG⟩)
  unfold pLes; rw [if_pos q1]; exact ⟨A, R, B, Q, h1, h2, rfl⟩
-- ---- steps
def pSte (a : Int) (z : Nat → Int) (v : Int) : Prop := if -2 ≤ a ∧ a ≤ z 1 - 1 then (¬ zso z (pln z) ∧ v = -1000000002) ∨ (zso z (pln z) ∧ ∃ n t, clm z n (pln z) t ∧ ztop z t ∧ v = (if a = -2 then ((n : Nat) : Int) else if a = -1 then zwo z t else ((t a.toNat : Nat) : Int))) else v = -1000000001
theorem pSte_un {a : Int} (z : Nat → Int) (v w : Int) (h : pSte a z v) (k : pSte a z w) : v = w := by
  unfold pSte at h k
  by_cases q : -2 ≤ a ∧ a ≤ z 1 - 1
  · rw [if_pos q] at h k
    rcases h with ⟨h1, h2⟩ | ⟨h1, n, t, h2, h3, h4⟩
    · rcases k with ⟨k1, k2⟩ | ⟨k1, -⟩
      · rw [h2, k2]
      · exact absurd k1 h1
    · rcases k with ⟨k1, -⟩ | ⟨k1, m, s, k2, k3, k4⟩
      · exact absurd h1 k1
      · obtain ⟨e1, e2⟩ := clm_un h2 k2 h3 k3
        rw [h4, k4, e1, e2]
  · rw [if_neg q] at h k
    rw [h, k]
theorem cb_tell90 {m : Nat} {H : fl_H} {z : Nat → Int} {a : Int} {n : Nat} {t : Nat → Nat} {K : Option Int → fl_H → Prop} (ha : fl_w a = a) (h6 : z 1 ≤ 6) (q : -2 ≤ a ∧ a ≤ z 1 - 1) (e3 : H 90 3 = ((n : Nat) : Int)) (e2 : H 90 2 = zwo z t) (e1 : ∀ g, g < 6 → H 91 g = ((t g : Nat) : Int)) (k : K (some (if a = -2 then ((n : Nat) : Int) else if a = -1 then zwo z t else ((t a.toNat : Nat) : Int))) H) : ck (cm_pg X xs) m cm_m2 [.index 90, fl_t a] H (fun r G => ∃ x, r = some x ∧ K (some x) G) := by
  refine ve_Answer_tell_90 ?_
  simp only [ha, w_m2, w_0, show fl_w 5 = 5 from rfl]
  refine ⟨fun q2 => ⟨_, rfl, ?_⟩, fun q2 => ⟨fun q3 _ => ⟨_, rfl, ?_⟩, fun q3 => ⟨_, rfl, ?_⟩⟩⟩
  · rw [if_pos q2] at k; rw [e3]; exact k
  · rw [if_neg q2, if_neg (by omega)] at k; rw [e1 a.toNat (by omega)]; exact k
  · rw [if_neg q2, if_pos (by omega)] at k; rw [e2]; exact k
theorem cb_steps {m : Nat} {H : fl_H} {a : Int} (ha : fl_w a = a) (t : TX H) : ck (cm_pg X xs) m cm_m123 [.index 0, fl_t a] H (cq (pSte a) H) := by
  have hw := TX_wf t
  have b := z_bd t
  have kp := pln_rk hw (TX_chA t).1
  refine ve_GoodsBook_steps_0 ?_
  simp only [ha, w_m2, eGm t]
  refine ⟨fun q => ⟨fun k0 m1 _ => ck_mono (fb_draw (X := X) (xs := xs) t) (fun r1 H1 h1 => ⟨h1.1, fun m2 _ => ?_⟩), fun k0 m1 _ => ?_⟩, fun q => cq_0 t (by unfold pSte; rw [if_neg q])⟩
  · obtain ⟨-, o1, d1⟩ := h1
    refine ck_mono (dc_broken (X := X) (xs := xs) d1.1 hw d1.2.1) (fun r2 H2 h2 => ⟨_, h2.1, ?_⟩)
    rw [h2.2]
    have bb := zfb_bd (r := pln (H 95)) hw
    have bc := zfc_bd (r := pln (H 95)) hw
    rw [fl_wi (x := zfb (H 95) (pln (H 95))) (by omega) (by omega)]
    have bad : ∀ G, oc pR H G → flI (H 95) G → ¬ zso (H 95) (pln (H 95)) → cq (pSte a) H (some (-1000000002)) G := fun G o f s => cq_R t o f (by unfold pSte; rw [if_pos q]; exact Or.inl ⟨s, rfl⟩)
    refine ⟨fun c1 m3 _ => ck_mono (dc_crowded (X := X) (xs := xs) d1.1 hw d1.2.1 d1.2.2.2) (fun r3 H3 h3 => ⟨_, h3.1, ?_⟩), fun c1 => bad H1 o1 (Or.inr d1.2.2.2) (fun s => c1 (zfb_ok.mpr s.1))⟩
    obtain ⟨-, o3, f3⟩ := h3
    have o13 := oc_trans o1 (pR_L o3)
    rw [fl_wi (x := zfc (H 95) (pln (H 95))) (by omega) (by omega)]
    refine ⟨fun c2 m4 _ => ?_, fun c2 => bad H3 o13 (Or.inr f3) (fun s => c2 (zfc_ok.mpr s.2))⟩
    have so : zso (H 95) (pln (H 95)) := ⟨zfb_ok.mp c1, zfc_ok.mp c2⟩
    refine ck_mono (ds_climb (X := X) (xs := xs) hw (dcx_pL d1 o3 f3) kp so) (fun r4 H4 h4 => ?_)
    obtain ⟨n, s, e4, c4, p4, k4, s4, d4, a4, o4, -⟩ := h4
    refine ⟨_, e4, fun m5 _ => ve_Answer_keep_90_71 (fun J1 q1 J3 q3 J5 q5 J7 q7 => ⟨rfl, fun m6 _ => ?_⟩)⟩
    have k1 : ∀ c, c ≠ 91 → J1 c = H4 c := fun c hc => by rw [q1]; funext i; exact if_neg (fun q => hc q.1)
    have k7 : ∀ c, c ≠ 90 → J7 c = J1 c := fun c hc => by rw [q7, fl_up_cell _ _ _ _ hc, q5, fl_up_cell _ _ _ _ hc, q3, fl_up_cell _ _ _ _ hc]
    have o14 : oc pR H H4 := oc_trans o13 (pR_Q o4)
    have oJ : ∀ c, ¬ (64 ≤ c ∧ c ≤ 84) → c ≠ 90 → c ≠ 91 → J7 c = H c := fun c h1 h2 h3 => by rw [k7 c h2, k1 c h3, o14 c (pR_no h1)]
    have j90 : J7 90 0 = 1 ∧ J7 90 3 = ((n : Nat) : Int) ∧ J7 90 2 = zwo (H 95) s := by
      refine ⟨by rw [q7, fl_up_at], ?_, ?_⟩
      · rw [q7, fl_up_i _ _ _ _ (by decide), q5, fl_up_at]
      · rw [q7, fl_up_i _ _ _ _ (by decide), q5, fl_up_i _ _ _ _ (by decide), q3, fl_up_at]; exact a4
    have j91 : ∀ g, g < 6 → J7 91 g = ((s g : Nat) : Int) := fun g hg => by
      rw [k7 91 (by decide), q1]
      show (if 91 = 91 ∧ g < 6 then H4 71 g else H4 91 g) = _
      rw [if_pos ⟨rfl, hg⟩]
      exact (d4.2.1.2.1 g hg).1
    have fJ : flI (H 95) J7 := flI_fr (Or.inr d4.2.2.2) (fun c p1 p2 => (k7 c (by omega)).trans (k1 c (by omega)))
    have tJ : TX J7 := TX_cro t ⟨fun c h1 h2 => oJ c (by omega) (by omega) (by omega), fun i _ => by rw [oJ 0 (by omega) (by omega) (by omega)]⟩ fJ (kbe_o (TX_kbe t) (oJ 88 (by omega) (by omega) (by omega)) (oJ 89 (by omega) (by omega) (by omega))) (Or.inr ⟨j90.1, so, n, s, c4, p4, j90.2.1, j90.2.2, j91⟩) (kmd_o (TX_kmd t) (oJ 0 (by omega) (by omega) (by omega)) (oJ 92 (by omega) (by omega) (by omega)) (oJ 93 (by omega) (by omega) (by omega)))
    refine cb_tell90 (X := X) (xs := xs) (z := H 95) (n := n) (t := s) (K := cq (pSte a) H) ha (by omega) q j90.2.1 j90.2.2 j91 ⟨⟨_, rfl, ?_⟩, oJ 95 (by omega) (by omega) (by omega), tJ⟩
    unfold pSte; rw [if_pos q]; exact Or.inr ⟨so, n, s, c4, p4, rfl⟩
  · rcases TX_kst t with k | ⟨k1, so, n, s, c4, p4, j3, j2, j1⟩
    · exact absurd (by rw [k]; exact w_0) k0
    · refine cb_tell90 (X := X) (xs := xs) (z := H 95) (n := n) (t := s) (K := cq (pSte a) H) ha (by omega) q j3 j2 j1 (cq_0 t ?_)
      unfold pSte; rw [if_pos q]; exact Or.inr ⟨so, n, s, c4, p4, rfl⟩
-- ---- mended
theorem alw_lk {z : Nat → Int} {lk lk' : Nat → Int} {g c : Int} {s : Nat → Nat} (h : ∀ k : Nat, k < (z 1).toNat → lk k = lk' k) : alw z lk g 0 c (fun _ => 0) s ↔ alw z lk' g 0 c (fun _ => 0) s := by
  have e : ulk z lk g 0 s = ulk z lk' g 0 s := psm_congr (fun i hi => by (try dsimp only); rw [h i hi])
  unfold alw
  rw [e]
theorem zme_lk {z : Nat → Int} {lk lk' : Nat → Int} {g : Int} {c : Nat} {A : Int} {R : Nat → Nat} (h : ∀ k : Nat, k < (z 1).toNat → lk k = lk' k) (k : zme z lk g c A R) : zme z lk' g c A R := ⟨fun j hj s hs => k.1 j hj s ((alw_lk h).mpr hs), zbs_eq (fun s => alw_lk h) k.2⟩
def pMen (g a : Int) (z : Nat → Int) (v : Int) : Prop := if (0 ≤ g ∧ g ≤ z 1 - 1) ∧ (-2 ≤ a ∧ a ≤ z 1 - 1) then ∃ c A R, zme z (fun k => z (62 + k)) g c A R ∧ v = (if a = -2 then ((c : Nat) : Int) else if a = -1 then A else ((R a.toNat : Nat) : Int)) else v = -1000000001
theorem pMen_un {g a : Int} (z : Nat → Int) (v w : Int) (h : pMen g a z v) (k : pMen g a z w) : v = w := by
  unfold pMen at h k
  by_cases q : (0 ≤ g ∧ g ≤ z 1 - 1) ∧ (-2 ≤ a ∧ a ≤ z 1 - 1)
  · rw [if_pos q] at h k
    obtain ⟨c, A, R, h1, h2⟩ := h
    obtain ⟨d, B, S, k1, k2⟩ := k
    obtain ⟨e1, e2, e3⟩ := zme_un h1 k1
    rw [h2, k2, e1, e2, e3]
  · rw [if_neg q] at h k
    rw [h, k]
theorem cb_tell92 {m : Nat} {H : fl_H} {G : Int} {a A : Int} {n : Nat} {t : Nat → Nat} {K : Option Int → fl_H → Prop} (ha : fl_w a = a) (h6 : G ≤ 6) (q : -2 ≤ a ∧ a ≤ G - 1) (e3 : H 92 3 = ((n : Nat) : Int)) (e2 : H 92 2 = A) (e1 : ∀ g, g < 6 → H 93 g = ((t g : Nat) : Int)) (k : K (some (if a = -2 then ((n : Nat) : Int) else if a = -1 then A else ((t a.toNat : Nat) : Int))) H) : ck (cm_pg X xs) m cm_m2 [.index 92, fl_t a] H (fun r G => ∃ x, r = some x ∧ K (some x) G) := by
  refine ve_Answer_tell_92 ?_
  simp only [ha, w_m2, w_0, show fl_w 5 = 5 from rfl]
  refine ⟨fun q2 => ⟨_, rfl, ?_⟩, fun q2 => ⟨fun q3 _ => ⟨_, rfl, ?_⟩, fun q3 => ⟨_, rfl, ?_⟩⟩⟩
  · rw [if_pos q2] at k; rw [e3]; exact k
  · rw [if_neg q2, if_neg (by omega)] at k; rw [e1 a.toNat (by omega)]; exact k
  · rw [if_neg q2, if_pos (by omega)] at k; rw [e2]; exact k
theorem cb_mended {m : Nat} {H : fl_H} {g a : Int} (hg : fl_w g = g) (ha : fl_w a = a) (t : TX H) : ck (cm_pg X xs) m cm_m127 [.index 0, fl_t g, fl_t a] H (cq (pMen g a) H) := by
  have hw := TX_wf t
  have b := z_bd t
  refine ve_GoodsBook_mended_0 (fun m1 _ => ve_GoodsBook_isGood_0 ⟨_, rfl, ?_⟩)
  simp only [fb_0, hg, ha, w_0, w_m2, eGm t]
  refine ⟨fun q => cq_0 t (by unfold pMen; rw [if_neg (fun h => q h.1)]), fun q => ⟨fun q2 => ?_, fun q2 => cq_0 t (by unfold pMen; rw [if_neg (fun h => q2 h.2)])⟩⟩
  have q1 := Decidable.not_not.mp q
  obtain ⟨n, en, n1, n6⟩ := gd_n t q1
  subst en
  have fin : ∀ c A R, zme (H 95) (fun k => H 95 (62 + k)) (n : Int) c A R → pMen (n : Int) a (H 95) (if a = -2 then ((c : Nat) : Int) else if a = -1 then A else ((R a.toNat : Nat) : Int)) := fun c A R z => by
    unfold pMen; rw [if_pos ⟨q1, q2⟩]; exact ⟨c, A, R, z, rfl⟩
  refine ⟨fun e m2 _ => ?_, fun e m2 _ => ck_mono (fb_mended (X := X) (xs := xs) (TX_bz t) hw (TX_flI t) n1 rfl) (fun r1 H1 h1 => ⟨h1.1, fun H2 e2 m3 _ => ?_⟩)⟩
  · rcases TX_kmd t with k | ⟨g', k1, k2, c, A, R, c6, z, j2, j3, j1⟩
    · rw [k, w_m1] at e; omega
    · have eg : g' = n := by
        rw [k2, fl_wi (x := (g' : Int)) (by omega) (by omega)] at e; omega
      subst eg
      exact cb_tell92 (X := X) (xs := xs) (G := H 95 1) (n := c) (t := R) (K := cq (pMen (g' : Int) a) H) ha (by omega) q2 j3 j2 j1 (cq_0 t (fin c A R z))
  · obtain ⟨-, o1, f1, c, A, R, c6, z, j2, j3, j1⟩ := h1
    have z2 := zme_lk (lk' := fun k => H 95 (62 + k)) (fun k hk => by
      have hk1 : (k : Int) < H 95 1 := by omega
      (try dsimp only)
      rw [TX_ch t hk1, w_ch (pln_7 t k), pln_at (TX_chA t).1 hk1]) z
    have k2 : ∀ c, c ≠ 0 → H2 c = H1 c := fun c hc => by rw [e2, fl_up_cell _ _ _ _ hc]
    have oN : ∀ c, ¬ (64 ≤ c ∧ c ≤ 84) → c ≠ 92 → c ≠ 93 → c ≠ 0 → H2 c = H c := fun c h1 h2 h3 h4 => by rw [k2 c h4, o1 c (fun q => by unfold pU pR at q; omega)]
    have j14 : H2 0 14 = (n : Int) := by rw [e2, fl_up_at]
    have t2 : TX H2 := TX_cro t ⟨fun c h1 h2 => oN c (by omega) (by omega) (by omega) h1, fun i hi => by rw [e2, fl_up_i _ _ _ _ hi, o1 0 (fun q => by unfold pU pR at q; omega)]⟩ (flI_fr f1 (fun c p1 p2 => k2 c (by omega))) (kbe_o (TX_kbe t) (oN 88 (by omega) (by omega) (by omega) (by omega)) (oN 89 (by omega) (by omega) (by omega) (by omega))) (kst_o (TX_kst t) (oN 90 (by omega) (by omega) (by omega) (by omega)) (oN 91 (by omega) (by omega) (by omega) (by omega))) (Or.inr ⟨n, n1, j14, c, A, R, c6, z2, by rw [k2 92 (by omega)]; exact j2, by rw [k2 92 (by omega)]; exact j3, fun k hk => by rw [k2 93 (by omega)]; exact j1 k hk⟩)
    exact cb_tell92 (X := X) (xs := xs) (G := H 95 1) (n := c) (t := R) (K := cq (pMen (n : Int) a) H) ha (by omega) q2 (by rw [k2 92 (by omega)]; exact j3) (by rw [k2 92 (by omega)]; exact j2) (fun k hk => by rw [k2 93 (by omega)]; exact j1 k hk) ⟨⟨_, rfl, fin c A R z2⟩, oN 95 (by omega) (by omega) (by omega) (by omega), t2⟩
end
end
