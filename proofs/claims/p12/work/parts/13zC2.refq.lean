noncomputable section
/-! L3: the reference's calls that tell of the plan. -/
section
variable {X : Term} {xs : List Int32}
def rq (P : (Nat → Int) → Int → Prop) (H : fl_H) (r : Option Int) (H1 : fl_H) : Prop := (∃ v, r = some v ∧ P (H 95) v) ∧ TX H1
theorem rq_R {P : (Nat → Int) → Int → Prop} {H G : fl_H} {v : Int} (t : TX H) (o : rso H G) (k : rkn (H 95) G) (p : P (H 95) v) : rq P H (some v) G := ⟨⟨v, rfl, p⟩, TX_rsx t (rsx_o o) k⟩
theorem rq_0 {P : (Nat → Int) → Int → Prop} {H : fl_H} {v : Int} (t : TX H) (p : P (H 95) v) : rq P H (some v) H := ⟨⟨v, rfl, p⟩, t⟩
theorem eGr {H : fl_H} (t : TX H) : fl_w (H 95 1 - 1) = H 95 1 - 1 := by
  have := z_bd t
  exact fl_wi (by omega) (by omega)
theorem ePr {H : fl_H} (t : TX H) : fl_w (H 95 0 - 1) = H 95 0 - 1 := by
  have := z_bd t
  exact fl_wi (by omega) (by omega)
/-- the plan laid down -/
theorem rg_plan {m : Nat} {H : fl_H} (t : TX H) : ck (cm_pg X xs) m cm_m176 [.index 94] H (fun r' H' => r' = none ∧ rso H H' ∧ rkn (H 95) H' ∧ H' 95 = H 95 ∧ rr (pln (H 95)) H' ∧ wf (H' 95) ∧ rk (H' 95) (pln (H 95))) :=
  ck_mono (rc_takePlan (X := X) (xs := xs) (TX_wf t) (TX_chA t).1) (fun r2 H2 h2 => by
    obtain ⟨e, o2, p2⟩ := h2
    have e2 : H2 95 = H 95 := o2 95 (by decide)
    exact ⟨e, rso_oc o2 (fun c hc => by omega), rkn_c (TX_rkn t) (o2 96 (by decide)), e2, p2, by rw [e2]; exact TX_wf t, by rw [e2]; exact pln_rk (TX_wf t) (TX_chA t).1⟩)
theorem rg_brings {m : Nat} {H : fl_H} {a : Int} (ha : fl_w a = a) (t : TX H) : ck (cm_pg X xs) m cm_m189 [.index 94, fl_t a] H (rq (fun z v => v = oBri a z) H) := by
  refine ve_GoodsBookModel_brings_94 (fun m1 _ => ve_GoodsBookModel_isGood_94 ⟨_, rfl, ?_⟩)
  simp only [fb_0, ha, eGr t]
  refine ⟨fun q => rq_0 t (by unfold oBri; rw [if_neg q]), fun q m2 _ => ck_mono (rg_plan (X := X) (xs := xs) t) (fun r2 H2 h2 => ⟨h2.1, fun _ => ?_⟩)⟩
  have q1 := Decidable.not_not.mp q
  obtain ⟨g, eg, g1, g6⟩ := gd_n t q1
  subst eg
  simp only [Int.toNat_natCast]
  obtain ⟨-, o2, k2, e2, p2, w2, r2⟩ := h2
  rw [p2 g (by rw [e2]; exact g1), w_ch (pln_7 t g)]
  refine ⟨fun h => rq_R t o2 k2 ?_, fun h m3 _ => ck_mono (rc_brings (X := X) (xs := xs) (r := pln (H 95)) (H := H2) w2 r2 p2 (by rw [e2]; exact g1) rfl) (fun r3 H3 h3 => ⟨_, h3.1, ?_⟩)⟩
  · unfold oBri; rw [if_pos q1, Int.toNat_natCast, if_pos (by omega)]
  · rw [h3.2]
    refine rq_R t o2 k2 ?_
    unfold oBri; rw [if_pos q1, Int.toNat_natCast, if_neg (by omega), if_neg (by omega), e2]
theorem rg_worth {m : Nat} {H : fl_H} (t : TX H) : ck (cm_pg X xs) m cm_m190 [.index 94] H (rq (fun z v => v = zwo z (pln z)) H) := by
  refine ve_GoodsBookModel_worth_94 (fun m1 _ => ck_mono (rg_plan (X := X) (xs := xs) t) (fun r2 H2 h2 => ⟨h2.1, fun m3 _ => ?_⟩))
  obtain ⟨-, o2, k2, e2, p2, w2, r2⟩ := h2
  refine ck_mono (rc_worth (X := X) (xs := xs) w2 r2 p2) (fun r3 H3 h3 => ⟨_, h3.1, ?_⟩)
  rw [h3.2, e2]
  exact rq_R t o2 k2 rfl
theorem rg_breaks {m : Nat} {H : fl_H} {a : Int} (ha : fl_w a = a) (t : TX H) : ck (cm_pg X xs) m cm_m191 [.index 94, fl_t a] H (rq (fun z v => v = oBrk a z) H) := by
  refine ve_GoodsBookModel_breaks_94 ?_
  simp only [ha]
  refine ⟨fun q m1 _ => ck_mono (rg_plan (X := X) (xs := xs) t) (fun r2 H2 h2 => ⟨h2.1, ?_⟩), fun q => rq_0 t (by unfold oBrk; rw [if_neg q])⟩
  obtain ⟨-, o2, k2, e2, p2, w2, r2⟩ := h2
  refine ⟨fun e m3 _ => ck_mono (rc_broken (X := X) (xs := xs) w2 r2 p2) (fun r3 H3 h3 => ⟨_, h3.1, ?_⟩), fun e m3 _ => ck_mono (rc_full (X := X) (xs := xs) w2 r2 p2 (by rw [e2]; exact k2)) (fun r3 H3 h3 => ⟨_, h3.1, ?_⟩)⟩
  · rw [h3.2]
    refine rq_R t o2 k2 ?_
    unfold oBrk; rw [if_pos q, if_pos e, e2]
  · obtain ⟨-, o3, k3⟩ := h3
    rw [e2] at k3
    refine rq_R t (rso_trans o2 (rso_fo o3)) k3 ?_
    unfold oBrk; rw [if_pos q, if_neg e, e2]
theorem rg_through {m : Nat} {H : fl_H} {a : Int} (ha : fl_w a = a) (t : TX H) : ck (cm_pg X xs) m cm_m213 [.index 94, fl_t a] H (rq (fun z v => v = oThr a z) H) := by
  refine ve_GoodsBookModel_through_94 (fun m1 _ => ve_GoodsBookModel_isGood_94 ⟨_, rfl, ?_⟩)
  simp only [fb_0, ha, eGr t]
  refine ⟨fun q => rq_0 t (by unfold oThr; rw [if_neg q]), fun q m2 _ => ck_mono (rg_plan (X := X) (xs := xs) t) (fun r2 H2 h2 => ⟨h2.1, fun _ => ?_⟩)⟩
  have q1 := Decidable.not_not.mp q
  obtain ⟨g, eg, g1, g6⟩ := gd_n t q1
  subst eg
  simp only [Int.toNat_natCast]
  obtain ⟨-, o2, k2, e2, p2, w2, r2⟩ := h2
  have g2 : (g : Int) < H2 95 1 := by rw [e2]; exact g1
  rw [p2 g g2, w_ch (pln_7 t g)]
  refine ⟨fun h => rq_R t o2 k2 ?_, fun h m3 _ => ck_mono (rc_brings (X := X) (xs := xs) (r := pln (H 95)) (H := H2) w2 r2 p2 g2 rfl) (fun r3 H3 h3 => ⟨_, h3.1, fun m4 _ => ?_⟩)⟩
  · unfold oThr; rw [if_pos q1, Int.toNat_natCast, if_pos (by omega)]
  · rw [h3.2]
    refine ck_mono (rc_worth (X := X) (xs := xs) w2 r2 p2) (fun r4 H4 h4 => ⟨_, h4.1, fun _ H15 e15 m5 _ => ?_⟩)
    rw [h4.2] at e15
    have o5 : oc (fun c => c = 100) H2 H15 := fun c hc => by rw [e15, fl_up_cell _ _ _ _ hc]
    have e5 : H15 95 = H2 95 := o5 95 (by decide)
    have r5 : rr (pup (pln (H 95)) g 0) H15 := fun k hk => by
      rw [e15]
      by_cases e : k = g
      · rw [e, fl_up_at, pup_at]; rfl
      · rw [fl_up_i _ _ _ _ e, pup_ne _ _ e]; exact p2 k (by rw [← e5]; exact hk)
    refine ck_mono (rc_worth (X := X) (xs := xs) (r := pup (pln (H 95)) g 0) (by rw [e5]; exact w2) (by rw [e5]; exact rk_pup r2 g2 g6 (by have := z_bd t; rw [e2]; omega)) r5) (fun r6 H6 h6 => ⟨_, h6.1, ?_⟩)
    rw [h6.2]
    refine rq_R t (rso_trans o2 (rso_oc o5 (fun c hc => by omega))) (rkn_c k2 (o5 96 (by decide))) ?_
    unfold oThr; rw [if_pos q1, Int.toNat_natCast, if_neg (by omega), if_neg (by omega), e5, e2]; omega
theorem rg_best {m : Nat} {H : fl_H} {a : Int} (ha : fl_w a = a) (t : TX H) : ck (cm_pg X xs) m cm_m197 [.index 94, fl_t a] H (rq (pBes a) H) := by
  have b := z_bd t
  have fnd : ∀ (M : Nat), (-1 ≤ a ∧ a ≤ H 95 1 - 1) → ck (cm_pg X xs) M cm_m196 [.index 94] H (fun r H2 => r = none ∧ (((0 ≤ a) → (0 ≤ a ∧ a < 6 → rq (pBes a) H (some (H2 101 a.toNat)) H2)) ∧ (¬ (0 ≤ a) → rq (pBes a) H (some (H2 94 8)) H2))) := fun M q => ck_mono (rc_find (X := X) (xs := xs) (TX_wf t) (TX_rkn t)) (fun r2 H2 h2 => by
    obtain ⟨e, o2, k2, R, z2, b5⟩ := h2
    refine ⟨e, fun q2 _ => rq_R t o2 k2 ?_, fun q2 => rq_R t o2 k2 ?_⟩
    · unfold pBes; rw [if_pos q]
      exact ⟨_, R, z2, by rw [if_neg (by omega)]; exact b5 a.toNat (by rw [rso_95 o2]; omega)⟩
    · unfold pBes; rw [if_pos q]
      exact ⟨_, R, z2, by rw [if_pos (by omega)]⟩)
  refine ve_GoodsBookModel_best_94 ?_
  simp only [ha]
  refine ⟨fun q m1 _ => fnd m1 (by omega), fun q m1 _ => ve_GoodsBookModel_isGood_94 ⟨_, rfl, ?_⟩⟩
  simp only [fb_0, ha, eGr t]
  refine ⟨fun q2 => rq_0 t (by unfold pBes; rw [if_neg (by omega)]), fun q2 m2 _ => fnd m2 (by omega)⟩
theorem rg_steps {m : Nat} {H : fl_H} {a : Int} (ha : fl_w a = a) (t : TX H) : ck (cm_pg X xs) m cm_m208 [.index 94, fl_t a] H (rq (pSte a) H) :=
  ck_mono (rc_steps (X := X) (xs := xs) ha (TX_wf t) (TX_chA t).1 (TX_rkn t)) (fun r' H' h => by
    obtain ⟨o, k, ⟨q, (⟨c1, c2⟩ | ⟨c1, n, s, c2, c3, c4⟩)⟩ | ⟨q, c⟩⟩ := h
    · subst c2
      refine rq_R t o k ?_
      unfold pSte; rw [if_pos q]; exact Or.inl ⟨c1, rfl⟩
    · subst c4
      refine rq_R t o k ?_
      unfold pSte; rw [if_pos q]; exact Or.inr ⟨c1, n, s, c2, c3, rfl⟩
    · subst c
      refine rq_R t o k ?_
      unfold pSte; rw [if_neg q])
theorem rg_mended {m : Nat} {H : fl_H} {g a : Int} (hg : fl_w g = g) (ha : fl_w a = a) (t : TX H) : ck (cm_pg X xs) m cm_m215 [.index 94, fl_t g, fl_t a] H (rq (pMen g a) H) := by
  refine ve_GoodsBookModel_mended_94 (fun m1 _ => ve_GoodsBookModel_isGood_94 ⟨_, rfl, ?_⟩)
  simp only [fb_0, hg, ha, eGr t]
  refine ⟨fun q => rq_0 t (by unfold pMen; rw [if_neg (fun h => q h.1)]), fun q => ⟨fun q2 m2 _ => ?_, fun q2 => rq_0 t (by unfold pMen; rw [if_neg (fun h => q2 h.2)])⟩⟩
  have q1 := Decidable.not_not.mp q
  obtain ⟨n, en, n1, n6⟩ := gd_n t q1
  subst en
  refine ck_mono (rc_rows (X := X) (xs := xs) (TX_wf t)) (fun r3 H3 h3 => ⟨_, h3.1, ?_⟩)
  rw [h3.2]
  have hm := rc_mend (X := X) (xs := xs) (m := m) (TX_wf t) (TX_chA t).1 (TX_rkn t) n1 ha q2 m
  unfold hd_GoodsBookModel_mended_94_43 at hm ⊢
  intro lv l0 l1 l2 l3 l4 l5
  refine vt_mono (Nat.le_refl _) (fun r G h => ?_) (hm lv l0 l1 l2 l3 l4 l5)
  obtain ⟨o, k, c, A, R, z, e⟩ := h
  subst e
  refine rq_R t o k ?_
  unfold pMen; rw [if_pos ⟨q1, q2⟩]; exact ⟨c, A, R, z, rfl⟩
/-- what fits hangs on sizes alone -/
theorem rkn_ext {z w : Nat → Int} {H : fl_H} (h : ∀ j, 14 ≤ j → j < 62 → w j = z j) (h1 : w 1 = z 1) (k : rkn z H) : rkn w H := fun code h7 hc => by
  have := k code h7 (fun g hg hm => by rw [← h1]; exact hc g hg hm)
  rw [zfit_ext h code]
  exact this
theorem rg_back {m : Nat} {H G : fl_H} (h95 : ∀ i, 152 ≤ i → G 95 i = H 95 i) (h103 : ∀ i, i < 152 → G 103 i = H 95 i) : ck (cm_pg X xs) m cm_m210 [.index 94] G (fun r H' => r = none ∧ H' 95 = H 95 ∧ ∀ c, c ≠ 95 → H' c = G c) :=
  ck_mono (lo_back (X := X) (xs := xs)) (fun r H' k => ⟨k.1, by
    funext i
    rw [k.2.1 i]
    by_cases hi : i < 152
    · rw [if_pos hi]; exact h103 i hi
    · rw [if_neg hi]; exact h95 i (by omega), k.2.2⟩)
/-- the best with other pages, laid aside and brought back -/
theorem rg_other {m : Nat} {H H3 H5 H7 : fl_H} {z' : Nat → Int} {A : Int} {K : Option Int → fl_H → Prop} (t : TX H) (o3 : rso H H3) (k3 : rkn (H 95) H3) (f3 : ∀ j, H5 103 j = if j < 152 then H3 95 j else H3 103 j) (c3 : ∀ c, c ≠ 103 → H5 c = H3 c) (e7 : H7 95 = z') (c7 : ∀ c, c ≠ 95 → H7 c = H5 c) (hz : ∀ j, ¬ (j = 0 ∨ (10 ≤ j ∧ j < 13)) → z' j = H 95 j) (hw : wf z') (hK : ∀ G B Q, TX G → zbs z' (rk z') B Q → K (some (B - A)) G) : ∀ m', m' < m → ck (cm_pg X xs) m' cm_m196 [.index 94] H7 (fun r H12 => r = none ∧ (∀ m1, m1 < m → ck (cm_pg X xs) m1 cm_m210 [.index 94] H12 (fun r H14 => r = none ∧ K (some (H14 94 8 - A)) H14))) := fun m' _ => by
  have k7 : rkn (H7 95) H7 := by
    rw [e7]
    refine rkn_ext (fun j h1 h2 => hz j (by omega)) (hz 1 (by omega)) ?_
    refine rkn_c k3 ?_
    rw [c7 96 (by decide), c3 96 (by decide)]
  refine ck_mono (rc_find (X := X) (xs := xs) (by rw [e7]; exact hw) k7) (fun r2 H2 h2 => ?_)
  obtain ⟨er, o2, k2, Q, z2, -⟩ := h2
  refine ⟨er, fun m1 _ => ck_mono (rg_back (X := X) (xs := xs) (H := H) (fun i hi => ?_) (fun i hi => ?_)) (fun r4 H4 h4 => ⟨h4.1, ?_⟩)⟩
  · rw [rso_95 o2, e7]; exact hz i (by omega)
  · rw [o2.1 103 (by decide) (by omega), c7 103 (by decide), f3 i, if_pos hi, rso_95 o3]
  · obtain ⟨-, e4, c4⟩ := h4
    rw [e7] at k2 z2
    have tG : TX H4 := by
      refine TX_rsx t ⟨fun c h1 h2 => ?_, fun i h1 h2 h3 => ?_⟩ ?_
      · by_cases c5 : c = 95
        · rw [c5]; exact e4
        · rw [c4 c c5, o2.1 c h1 (by omega), c7 c c5, c3 c (by omega), o3.1 c h1 (by omega)]
      · rw [c4 94 (by decide), o2.2 i h1 h2 h3, c7 94 (by decide), c3 94 (by decide), o3.2 i h1 h2 h3]
      · refine rkn_c (rkn_ext (fun j h1 h2 => (hz j (by omega)).symm) (hz 1 (by omega)).symm k2) (c4 96 (by decide))
    rw [c4 94 (by decide)]
    exact hK H4 _ Q tG z2
theorem rg_more {m : Nat} {H : fl_H} {a : Int} (ha : fl_w a = a) (t : TX H) : ck (cm_pg X xs) m cm_m211 [.index 94, fl_t a] H (rq (pMor a) H) := by
  have b := z_bd t
  refine ve_GoodsBookModel_more_94 ?_
  rw [fl_wi (x := H 95 0) (by omega) (by omega)]
  simp only [ha]
  refine ⟨fun q => ⟨fun q2 => rq_0 t (by unfold pMor; rw [if_pos q, if_neg (by omega)]), fun q2 m1 _ => ck_mono (rc_find (X := X) (xs := xs) (TX_wf t) (TX_rkn t)) (fun r3 H3 h3 => ?_)⟩, fun q => rq_0 t (by unfold pMor; rw [if_neg q])⟩
  obtain ⟨er, o3, k3, R, z3, -⟩ := h3
  refine ⟨er, fun m2 _ => ck_mono (lo_aside (X := X) (xs := xs)) (fun r5 H5 h5 => ⟨h5.1, ?_⟩)⟩
  obtain ⟨-, f5, c5⟩ := h5
  have e5 : H5 95 = H 95 := (c5 95 (by decide)).trans (rso_95 o3)
  have p : bpg (H 95) a (-1) (zadd (H 95) a) := Or.inr (Or.inl ⟨q.1, q.2, by omega, by omega, rfl⟩)
  rw [e5, fl_wi (x := 10 + H 95 0) (by omega) (by omega)]
  refine fun _ H7 e7 H10 e10 => ?_
  have n10 : (10 + H 95 0).toNat = 10 + (H 95 0).toNat := by omega
  refine rg_other (X := X) (xs := xs) (z' := zadd (H 95) a) (A := H3 94 8) (K := rq (pMor a) H) t o3 k3 f5 c5 ?_ (fun c hc => by rw [e10, fl_up_cell _ _ _ _ hc, e7, fl_up_cell _ _ _ _ hc]) (bpg_out p (by omega)) (bpg_wf p (TX_wf t)) (fun G B Q tG zB => ⟨⟨_, rfl, ?_⟩, tG⟩)
  · funext j
    unfold zadd upz
    rw [e10]
    by_cases j0 : j = 0
    · subst j0
      rw [fl_up_at, if_pos rfl, e7, fl_up_i _ _ _ _ (by omega), e5]
    · rw [fl_up_i _ _ _ _ j0, if_neg j0, e7, n10]
      by_cases j1 : j = 10 + (H 95 0).toNat
      · rw [j1, fl_up_at, if_pos rfl]
      · rw [fl_up_i _ _ _ _ j1, if_neg j1, e5]
  · unfold pMor; rw [if_pos q, if_pos (by omega)]
    exact ⟨B, Q, _, R, zB, z3, rfl⟩
theorem rg_less {m : Nat} {H : fl_H} {a : Int} (ha : fl_w a = a) (t : TX H) : ck (cm_pg X xs) m cm_m212 [.index 94, fl_t a] H (rq (pLes a) H) := by
  have b := z_bd t
  refine ve_GoodsBookModel_less_94 (fun m1 _ => ve_GoodsBookModel_isPage_94 ⟨_, rfl, ?_⟩)
  simp only [fb_0, ha, ePr t]
  refine ⟨fun q => rq_0 t (by unfold pLes; rw [if_neg q]), fun q m2 _ => ck_mono (rc_find (X := X) (xs := xs) (TX_wf t) (TX_rkn t)) (fun r3 H3 h3 => ?_)⟩
  have q1 := Decidable.not_not.mp q
  obtain ⟨er, o3, k3, R, z3, -⟩ := h3
  refine ⟨er, fun m2 _ => ck_mono (lo_aside (X := X) (xs := xs)) (fun r5 H5 h5 => ⟨h5.1, ?_⟩)⟩
  obtain ⟨-, f5, c5⟩ := h5
  have e5 : H5 95 = H 95 := (c5 95 (by decide)).trans (rso_95 o3)
  obtain ⟨n, en⟩ : ∃ n : Nat, a = (n : Int) := ⟨a.toNat, by omega⟩
  subst en
  obtain ⟨P, eP⟩ : ∃ P : Nat, H 95 0 = (P : Int) := ⟨(H 95 0).toNat, by omega⟩
  have p : bpg (H 95) (-1) (n : Int) (zrem (H 95) n) := Or.inr (Or.inr ⟨by omega, by omega, by omega, by rw [Int.toNat_natCast]⟩)
  have lp : ∀ (f k : Nat), k + f = P - 1 → n ≤ k → ∀ (N : Nat) (G : fl_H), (∀ j, G 95 j = if 10 + n ≤ j ∧ j < 10 + k then H 95 (j + 1) else H 95 j) → (∀ c, c ≠ 95 → G c = H5 c) → hd_GoodsBookModel_less_94_26 (cm_pg X xs) N G (H3 94 8) (k : Int) (rq (pLes (n : Int)) H) := by
    intro f
    induction f with
    | zero =>
      intro k hk hn N G gG cG
      have g0 : G 95 0 = H 95 0 := by rw [gG, if_neg (by omega)]
      have z' : (fl_up G 95 0 (H 95 0 - 1)) 95 = zrem (H 95) n := by
        funext j
        unfold zrem
        by_cases j0 : j = 0
        · subst j0
          rw [fl_up_at, if_pos rfl]
        · rw [fl_up_i _ _ _ _ j0, if_neg j0, gG]
          by_cases j1 : 10 + n ≤ j ∧ j < 10 + k
          · rw [if_pos j1, if_pos (by omega)]
          · rw [if_neg j1, if_neg (by omega)]
      refine vh_GoodsBookModel_less_94_26 ?_
      rw [g0, fl_wi (x := H 95 0) (by omega) (by omega), fl_wi (x := (k : Int) + 1) (by omega) (by omega)]
      refine ⟨fun _ H2 e2 => rg_other (X := X) (xs := xs) (z' := zrem (H 95) n) (A := H3 94 8) (K := rq (pLes (n : Int)) H) t o3 k3 f5 c5 (by rw [e2]; exact z') (fun c hc => by rw [e2, fl_up_cell _ _ _ _ hc]; exact cG c hc) (bpg_out p (by omega)) (bpg_wf p (TX_wf t)) (fun G B Q tG zB => ⟨⟨_, rfl, ?_⟩, tG⟩), fun hh => absurd (by omega) hh⟩
      unfold pLes; rw [if_pos q1, Int.toNat_natCast]
      exact ⟨B, Q, _, R, zB, z3, rfl⟩
    | succ f ih =>
      intro k hk hn N G gG cG
      have g0 : G 95 0 = H 95 0 := by rw [gG, if_neg (by omega)]
      have ek : (k : Int) + 1 = ((k + 1 : Nat) : Int) := by omega
      refine vh_GoodsBookModel_less_94_26 ?_
      rw [g0, fl_wi (x := H 95 0) (by omega) (by omega), fl_wi (x := (k : Int) + 1) (by omega) (by omega), fl_wi (x := 10 + (k : Int) + 1) (by omega) (by omega), fl_wi (x := 10 + (k : Int)) (by omega) (by omega), ek]
      have n1 : (10 + (k : Int) + 1).toNat = 10 + k + 1 := by omega
      have n2 : (10 + (k : Int)).toNat = 10 + k := by omega
      refine ⟨fun hh => by omega, fun _ _ _ H9 e9 m3 _ => ih (k + 1) (by omega) (by omega) m3 H9 (fun j => ?_) (fun c hc => by rw [e9, fl_up_cell _ _ _ _ hc]; exact cG c hc)⟩
      rw [e9, n1, n2]
      by_cases j1 : j = 10 + k
      · rw [j1, fl_up_at, if_pos (by omega), gG, if_neg (by omega)]
      · rw [fl_up_i _ _ _ _ j1, gG]
        by_cases j2 : 10 + n ≤ j ∧ j < 10 + k
        · rw [if_pos j2, if_pos (by omega)]
        · rw [if_neg j2, if_neg (by omega)]
  exact lp (P - 1 - n) n (by omega) (Nat.le_refl _) m H5 (fun j => by rw [if_neg (by omega), e5]) (fun c _ => rfl)
-- ---- both
theorem tx_brings {v1 : Int} (h1 : fl_w v1 = v1) : tw X xs TX true cm_m113 cm_m189 [.index 0, fl_t v1] [.index 94, fl_t v1] := tx_rel (P := fun z v => v = oBri v1 z) (fun z v w a b => by rw [a, b]) (fun m H t => cb_brings h1 t) (fun m H t => rg_brings h1 t)
theorem tx_worth : tw X xs TX true cm_m114 cm_m190 [.index 0] [.index 94] := tx_rel (P := fun z v => v = zwo z (pln z)) (fun z v w a b => by rw [a, b]) (fun m H t => cb_worth t) (fun m H t => rg_worth t)
theorem tx_breaks {v1 : Int} (h1 : fl_w v1 = v1) : tw X xs TX true cm_m115 cm_m191 [.index 0, fl_t v1] [.index 94, fl_t v1] := tx_rel (P := fun z v => v = oBrk v1 z) (fun z v w a b => by rw [a, b]) (fun m H t => cb_breaks h1 t) (fun m H t => rg_breaks h1 t)
theorem tx_through {v1 : Int} (h1 : fl_w v1 = v1) : tw X xs TX true cm_m126 cm_m213 [.index 0, fl_t v1] [.index 94, fl_t v1] := tx_rel (P := fun z v => v = oThr v1 z) (fun z v w a b => by rw [a, b]) (fun m H t => cb_through h1 t) (fun m H t => rg_through h1 t)
theorem tx_best {v1 : Int} (h1 : fl_w v1 = v1) : tw X xs TX true cm_m119 cm_m197 [.index 0, fl_t v1] [.index 94, fl_t v1] := tx_rel (P := pBes v1) pBes_un (fun m H t => cb_best h1 t) (fun m H t => rg_best h1 t)
theorem tx_steps {v1 : Int} (h1 : fl_w v1 = v1) : tw X xs TX true cm_m123 cm_m208 [.index 0, fl_t v1] [.index 94, fl_t v1] := tx_rel (P := pSte v1) pSte_un (fun m H t => cb_steps h1 t) (fun m H t => rg_steps h1 t)
theorem tx_more {v1 : Int} (h1 : fl_w v1 = v1) : tw X xs TX true cm_m124 cm_m211 [.index 0, fl_t v1] [.index 94, fl_t v1] := tx_rel (P := pMor v1) pMor_un (fun m H t => cb_more h1 t) (fun m H t => rg_more h1 t)
theorem tx_less {v1 : Int} (h1 : fl_w v1 = v1) : tw X xs TX true cm_m125 cm_m212 [.index 0, fl_t v1] [.index 94, fl_t v1] := tx_rel (P := pLes v1) pLes_un (fun m H t => cb_less h1 t) (fun m H t => rg_less h1 t)
theorem tx_mended {v1 v2 : Int} (h1 : fl_w v1 = v1) (h2 : fl_w v2 = v2) : tw X xs TX true cm_m127 cm_m215 [.index 0, fl_t v1, fl_t v2] [.index 94, fl_t v1, fl_t v2] := tx_rel (P := pMen v1 v2) pMen_un (fun m H t => cb_mended h1 h2 t) (fun m H t => rg_mended h1 h2 t)
end
end
