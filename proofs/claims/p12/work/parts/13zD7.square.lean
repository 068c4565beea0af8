noncomputable section
/-! L3: where a good lies. -/
section
variable {X : Term} {xs : List Int32}
def sqc (z : Nat → Int) (g : Nat) : Nat := zcn (pln z) (pgn (pln z g))
def pSqu (a : Int) (z : Nat → Int) (v : Int) : Prop := if 0 ≤ a ∧ a ≤ z 1 - 1 then (if pln z a.toNat = 0 then v = -2 else a.toNat < 6 ∧ ((¬ zfit z (sqc z a.toNat) ∧ v = -4) ∨ (zfit z (sqc z a.toNat) ∧ ∃ pos : Nat → Nat, frst z (sqc z a.toNat) pos ∧ v = ((pos a.toNat : Nat) : Int)))) else v = -1
theorem sqc_zM {z : Nat → Int} {g : Nat} (g6 : g < 6) (h : pln z g ≠ 0) : zM (sqc z g) g = true := by
  rw [zM_t]
  unfold sqc
  rw [zcn_dig _ _ g6]
  unfold ndg
  rw [if_pos ⟨h, rfl⟩]; omega
theorem pSqu_un {a : Int} (z : Nat → Int) (v w : Int) (h : pSqu a z v) (k : pSqu a z w) : v = w := by
  unfold pSqu at h k
  by_cases q : 0 ≤ a ∧ a ≤ z 1 - 1
  · rw [if_pos q] at h k
    by_cases q2 : pln z a.toNat = 0
    · rw [if_pos q2] at h k; rw [h, k]
    · rw [if_neg q2] at h k
      obtain ⟨g6, h⟩ := h
      obtain ⟨-, k⟩ := k
      rcases h with ⟨h1, h2⟩ | ⟨h1, p, h2, h3⟩
      · rcases k with ⟨k1, k2⟩ | ⟨k1, -⟩
        · rw [h2, k2]
        · exact absurd k1 h1
      · rcases k with ⟨k1, -⟩ | ⟨k1, p', k2, k3⟩
        · exact absurd h1 k1
        · rw [h3, k3, frst_uniq h2 k2 a.toNat g6 (sqc_zM g6 q2)]
  · rw [if_neg q] at h k; rw [h, k]
theorem TX_lay {H G : fl_H} (t : TX H) (o : ∀ c, c ≠ 65 → c ≠ 68 → c ≠ 87 → G c = H c) (f : flI (H 95) G) : TX G :=
  TX_cro t ⟨fun c _ h2 => o c (by omega) (by omega) (by omega), fun i _ => by rw [o 0 (by omega) (by omega) (by omega)]⟩ f (kbe_o (TX_kbe t) (o 88 (by omega) (by omega) (by omega)) (o 89 (by omega) (by omega) (by omega))) (kst_o (TX_kst t) (o 90 (by omega) (by omega) (by omega)) (o 91 (by omega) (by omega) (by omega))) (kmd_o (TX_kmd t) (o 0 (by omega) (by omega) (by omega)) (o 92 (by omega) (by omega) (by omega)) (o 93 (by omega) (by omega) (by omega)))
theorem pgn_3 {c : Nat} (h : c < 7) : pgn c < 3 := by unfold pgn; omega
theorem cb_square {m : Nat} {H : fl_H} {a : Int} (ha : fl_w a = a) (t : TX H) : ck (cm_pg X xs) m cm_m116 [.index 0, fl_t a] H (cq (pSqu a) H) := by
  have hw := TX_wf t
  refine ve_GoodsBook_square_0 (fun m1 _ => ve_GoodsBook_isGood_0 ⟨_, rfl, ?_⟩)
  simp only [fb_0, ha, w_0, eGm t]
  refine ⟨fun q => cq_0 t (by unfold pSqu; rw [if_neg q]), fun q _ => ?_⟩
  have q1 := Decidable.not_not.mp q
  obtain ⟨g, eg, g1, g6⟩ := gd_n t q1
  subst eg
  simp only [Int.toNat_natCast]
  have p7 := pln_7 t g
  rw [TX_ch t g1, w_ch p7]
  refine ⟨fun h => cq_0 t ?_, fun h m2 _ => ck_mono (fb_draw (X := X) (xs := xs) t) (fun r2 H2 h2 => ⟨h2.1, fun m3 _ => ve_GoodsBook_pageOf ⟨_, rfl, ?_⟩⟩)⟩
  · unfold pSqu; rw [if_pos q1, Int.toNat_natCast, if_pos (by omega)]
  · obtain ⟨-, o2, d2⟩ := h2
    have p0 : pln (H 95) g ≠ 0 := by omega
    have p3 := pgn_3 p7
    have t2 : TX H2 := TX_pR t o2 (Or.inr d2.2.2.2)
    have e2 : H2 95 = H 95 := o2 95 (pR_no (by omega))
    have fl := d2.2.2.2
    have hrk := pln_rk hw (TX_chA t).1
    have hc : zcd (H 95) (sqc (H 95) g) := zcn_zcd hrk.1 _
    have e76 : H2 76 (pgn (pln (H 95) g)) = ((sqc (H 95) g : Nat) : Int) := by
      rw [(d2.2.1.2.2.1 _ p3).2.2, nco_eq]; rfl
    rw [dc_pg _ p7 (by omega), fl_wi (x := ((pgn (pln (H 95) g) : Nat) : Int)) (by omega) (by omega), Int.toNat_natCast, e76]
    refine fun _ m4 _ => ck_mono (fd_lay (X := X) (xs := xs) fl.2.1 hw fl.2.2 (zcn_lt _ _) hc) (fun r5 H5 h5 => ⟨_, h5.1, ?_⟩)
    obtain ⟨-, o5, k5, y5⟩ := h5
    have f5 : flI (H 95) H5 := Or.inr ⟨by rw [o5 64 (by omega) (by omega) (by omega)]; exact fl.1, fun g' hg' s hs => by rw [o5 67 (by omega) (by omega) (by omega), o5 66 (by omega) (by omega) (by omega)]; exact fl.2.1 g' hg' s hs, k5⟩
    have t5 : TX H5 := TX_lay t2 o5 (by rw [e2]; exact f5)
    have e5 : H5 95 = H 95 := (o5 95 (by omega) (by omega) (by omega)).trans e2
    rw [fb_0]
    refine ⟨fun n => ⟨⟨_, rfl, ?_⟩, e5, t5⟩, fun y _ => ⟨⟨_, rfl, ?_⟩, e5, t5⟩⟩
    · unfold pSqu
      rw [if_pos q1, Int.toNat_natCast, if_neg p0]
      exact ⟨g6, Or.inl ⟨n, rfl⟩⟩
    · obtain ⟨pos, y1, y2⟩ := y5 (Classical.not_not.mp y)
      unfold pSqu
      rw [if_pos q1, Int.toNat_natCast, if_neg p0]
      exact ⟨g6, Or.inr ⟨Classical.not_not.mp y, pos, y1, y2 g g6 (sqc_zM g6 p0)⟩⟩
theorem rso_lyo {H G : fl_H} (h : lyo H G) : rso H G :=
  ⟨fun c a b => (h c (by omega) (by omega) (by omega)).1 a, fun i a _ _ => (h 94 (by omega) (by omega) (by omega)).2 rfl i a⟩
theorem rl_sq {K j g : Nat} {l pos : Nat → Nat} {G : fl_H} {Q : Option Int → fl_H → Prop} (K6 : K ≤ 6) (h98 : ∀ i, i < K → G 98 i = ((l i : Nat) : Int)) (h97 : ∀ i, i < K → G 97 i = ((pos (l i) : Nat) : Int)) (hl : ∀ i, i < K → l i < 6) (hj : j < K) (ej : l j = g) (hQ : Q (some ((pos g : Nat) : Int)) G) : ∀ (d k : Nat), k + d = j → ∀ N, hd_GoodsBookModel_square_94_59 (cm_pg X xs) N G (g : Int) (k : Int) Q
  | 0, k, hk, N => by
    have e : k = j := by omega
    subst e
    have l6 := hl k hj
    refine vh_GoodsBookModel_square_94_59 ?_
    rw [fl_wi (x := (k : Int)) (by omega) (by omega), Int.toNat_natCast, h98 k hj, ej, h97 k hj, ej]
    exact fun _ => ⟨fun _ _ => hQ, fun h => absurd rfl h⟩
  | d + 1, k, hk, N => by
    have hkK : k < K := by omega
    have l6 := hl k hkK
    have g6 := hl j hj
    refine vh_GoodsBookModel_square_94_59 ?_
    rw [fl_wi (x := (k : Int)) (by omega) (by omega), Int.toNat_natCast, h98 k hkK, fl_wi (x := ((l k : Nat) : Int)) (by omega) (by omega), fl_wi (x := (g : Int)) (by omega) (by omega), h97 k hkK, show ((k : Int) + 1) = ((k + 1 : Nat) : Int) by omega]
    refine fun _ => ⟨fun h _ => ?_, fun h m _ => rl_sq K6 h98 h97 hl hj ej hQ d (k + 1) (by omega) m⟩
    rw [show l k = g by omega]; exact hQ
theorem rg_square {m : Nat} {H : fl_H} {a : Int} (ha : fl_w a = a) (t : TX H) : ck (cm_pg X xs) m cm_m192 [.index 94, fl_t a] H (rq (pSqu a) H) := by
  have hw := TX_wf t
  refine ve_GoodsBookModel_square_94 (fun m1 _ => ve_GoodsBookModel_isGood_94 ⟨_, rfl, ?_⟩)
  simp only [fb_0, ha, eGr t]
  refine ⟨fun q => rq_0 t (by unfold pSqu; rw [if_neg q]), fun q m2 _ => ck_mono (rg_plan (X := X) (xs := xs) t) (fun r2 H2 h2 => ⟨h2.1, fun _ => ?_⟩)⟩
  have q1 := Decidable.not_not.mp q
  obtain ⟨g, eg, g1, g6⟩ := gd_n t q1
  subst eg
  simp only [Int.toNat_natCast]
  obtain ⟨-, o2, k2, e2, p2, w2, r2⟩ := h2
  have p7 := pln_7 t g
  have p3 := pgn_3 p7
  rw [p2 g (by rw [e2]; exact g1), w_ch p7]
  refine ⟨fun h => rq_R t o2 k2 ?_, fun h _ m3 _ => ck_mono (rc_pg (X := X) (xs := xs) p7 rfl) (fun r3 H3 h3 => ⟨_, h3.1, fun m4 _ => ?_⟩)⟩
  · unfold pSqu; rw [if_pos q1, Int.toNat_natCast, if_pos (by omega)]
  · have p0 : pln (H 95) g ≠ 0 := by omega
    have epg : ppg (pln (H 95) g) = ((pgn (pln (H 95) g) : Nat) : Int) := by unfold ppg; rw [if_neg p0]
    rw [h3.2]
    refine ck_mono (rc_code (X := X) (xs := xs) w2 r2 p2 p3 epg) (fun r4 H4 h4 => ⟨_, h4.1, fun m5 _ => ?_⟩)
    rw [h4.2]
    have hrk := pln_rk hw (TX_chA t).1
    have hc : zcd (H 95) (sqc (H 95) g) := zcn_zcd hrk.1 _
    refine ck_mono (rc_fit (X := X) (xs := xs) (H := H2) w2 (by rw [e2]; exact k2) (zcn_lt (pln (H 95)) (pgn (pln (H 95) g))) (by rw [e2]; exact hc)) (fun r5 H5 h5 => ⟨_, h5.1, ?_⟩)
    obtain ⟨-, o5, k5⟩ := h5
    have e5 : H5 95 = H 95 := (rfo_95 o5).trans e2
    rw [e2] at k5
    rw [fb_0, e2]
    refine ⟨fun n => rq_R t (rso_trans o2 (rso_rfo o5)) k5 ?_, fun y m6 _ => ck_mono (rc_lay (X := X) (xs := xs) (H := H5) (by rw [e5]; exact hw) (zcn_lt (pln (H 95)) (pgn (pln (H 95) g))) (by rw [e5]; exact hc)) (fun r6 H6 h6 => ?_)⟩
    · unfold pSqu
      rw [if_pos q1, Int.toNat_natCast, if_neg p0]
      exact ⟨g6, Or.inl ⟨n, rfl⟩⟩
    · obtain ⟨K, l, hl, o6, e6, y6⟩ := h6
      refine ⟨_, e6, ?_⟩
      have yy := Classical.not_not.mp y
      rw [e5] at y6
      obtain ⟨-, y1, pos, y2, y3⟩ := y6 yy
      obtain ⟨j, j1, j2⟩ := hl.2.2.2 g g6 (sqc_zM g6 p0)
      refine rl_sq (X := X) (xs := xs) (pos := pos) hl.1 y1 y3 (fun i hi => (hl.2.1 i hi).1) j1 j2 (rq_R t (rso_trans (rso_trans o2 (rso_rfo o5)) (rso_lyo o6)) (rkn_c k5 ((o6 96 (by omega) (by omega) (by omega)).1 (by omega))) ?_) j 0 (by omega) _
      unfold pSqu
      rw [if_pos q1, Int.toNat_natCast, if_neg p0]
      exact ⟨g6, Or.inr ⟨yy, pos, y2, rfl⟩⟩
theorem tx_square {v1 : Int} (h1 : fl_w v1 = v1) : tw X xs TX true cm_m116 cm_m192 [.index 0, fl_t v1] [.index 94, fl_t v1] :=
  tx_rel (P := pSqu v1) pSqu_un (fun m H t => cb_square h1 t) (fun m H t => rg_square h1 t)
end
end
