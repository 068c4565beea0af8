noncomputable section
/-! L3: calls of the class that change its contents. -/
section
variable {X : Term} {xs : List Int32}
theorem fb_0 {A : Prop} : (fl_w (fl_b A) = 0) = ¬ A := by
  by_cases h : A
  · rw [fl_b1 h]; exact propext ⟨fun k => absurd k (by decide), fun k => absurd h k⟩
  · rw [fl_b0 h]; exact propext ⟨fun _ => h, fun _ => rfl⟩
theorem w_0 : fl_w 0 = 0 := rfl
theorem w_1 : fl_w 1 = 1 := rfl
theorem w_2 : fl_w 2 = 2 := rfl
theorem w_3 : fl_w 3 = 3 := rfl
theorem w_4 : fl_w 4 = 4 := rfl
theorem w_5 : fl_w 5 = 5 := rfl
theorem w_7 : fl_w 7 = 7 := rfl
theorem w_60 : fl_w 60 = 60 := rfl
theorem w_99 : fl_w 99 = 99 := rfl
theorem w_m99 : fl_w (-99) = -99 := rfl
theorem w_999 : fl_w 999 = 999 := rfl
theorem w_m0 : fl_w (-0) = 0 := rfl
theorem cz_at {H : fl_H} {b j c i : Nat} (hv : vld j = true) (hc : c = b + (slt j).1) (hi : i = (slt j).2) : cz H b j = H c i := by
  unfold cz
  rw [if_pos hv, ← hc, ← hi]
/-- the book that is now may change, nothing else -/
def own (H G : fl_H) : Prop := ∀ c i, ¬ (1 ≤ c ∧ c ≤ 19) → G c i = H c i
theorem own_refl (H : fl_H) : own H H := fun _ _ _ => rfl
theorem own_trans {H G F : fl_H} (h : own H G) (g : own G F) : own H F := fun c i k => (g c i k).trans (h c i k)
theorem own_up {H G : fl_H} (h : own H G) (c i : Nat) (v : Int) (h1 : 1 ≤ c) (h2 : c ≤ 19) : own H (fl_up G c i v) := fun d j k => by
  rw [fl_up_c _ _ _ _ (by omega)]; exact h d j k
def fgP (G : fl_H) : fl_H := fl_up (fl_up G 90 0 0) 0 14 (-1)
def fgA (G : fl_H) : fl_H := fl_up (fl_up (fl_up G 88 0 0) 90 0 0) 0 14 (-1)
def fgS (G : fl_H) : fl_H := fl_up (fl_up (fl_up (fl_up G 64 5 0) 88 0 0) 90 0 0) 0 14 (-1)
theorem cz_fgP (G : fl_H) : cz (fgP G) 1 = cz G 1 := cz_out (fun c i a b => by unfold fgP; rw [fl_up_c _ _ _ _ (by omega), fl_up_c _ _ _ _ (by omega)])
theorem cz_fgA (G : fl_H) : cz (fgA G) 1 = cz G 1 := cz_out (fun c i a b => by unfold fgA; rw [fl_up_c _ _ _ _ (by omega), fl_up_c _ _ _ _ (by omega), fl_up_c _ _ _ _ (by omega)])
theorem cz_fgS (G : fl_H) : cz (fgS G) 1 = cz G 1 := cz_out (fun c i a b => by unfold fgS; rw [fl_up_c _ _ _ _ (by omega), fl_up_c _ _ _ _ (by omega), fl_up_c _ _ _ _ (by omega), fl_up_c _ _ _ _ (by omega)])
theorem cf_plan {m : Nat} {H : fl_H} : ck (cm_pg X xs) m cm_m142 [.index 0] H (fun r H' => r = none ∧ H' = fgP H) :=
  ve_GoodsBook_forgetPlanAnswers_0 (fun H1 e1 H3 e3 => ⟨rfl, by rw [e3, e1]; rfl⟩)
/-- what a call leaves on the class's side: what is forgotten, what it does -/
def cP (fg : fl_H → fl_H) (f : fO) (H : fl_H) (r : Option Int) (H1 : fl_H) : Prop := ∃ G, own H G ∧ r = some (f (cz H 1)).1 ∧ zeq (cz G 1) (f (cz H 1)).2 ∧ (∀ j, 62 ≤ j → j < 68 → cz G 1 j = cz H 1 j) ∧ (H1 = fg G ∨ (H1 = H ∧ G = H))
theorem cP_no {fg : fl_H → fl_H} {f : fO} {H : fl_H} {v : Int} (h : f (cz H 1) = (v, cz H 1)) : cP fg f H (some v) H :=
  ⟨H, own_refl H, by rw [h], by rw [h]; exact zeq_refl _, fun _ _ _ => rfl, Or.inr ⟨rfl, rfl⟩⟩
theorem cP_go {fg : fl_H → fl_H} {f : fO} {H G H1 : fl_H} {v : Int} {w : Nat → Int} (o : own H G) (h : f (cz H 1) = (v, w)) (hz : zeq (cz G 1) w) (hc : ∀ j, 62 ≤ j → j < 68 → cz G 1 j = cz H 1 j) (e : H1 = fg G) : cP fg f H (some v) H1 :=
  ⟨G, o, by rw [h], by rw [h]; exact hz, hc, Or.inl e⟩
theorem zc_seen {m : Nat} {H : fl_H} {p v : Int} (hp : fl_w p = p) (hv : fl_w v = v) (hz : wf (cz H 1)) : ck (cm_pg X xs) m cm_m101 [.index 0, fl_t p, fl_t v] H (cP fgA (oSeen p v) H) := by
  obtain ⟨z1, z2, -⟩ := id hz.1
  rw [cz_0] at z1 z2
  have eW : fl_w (H 1 0 - 1) = H 1 0 - 1 := fl_wi (by omega) (by omega)
  refine ve_GoodsBook_seen_0 (fun m hm => ve_GoodsBook_isPage_0 ⟨_, rfl, ?_⟩)
  simp only [fb_0, hp, hv, w_0, w_60, eW]
  refine ⟨fun hb => cP_no (by unfold oSeen; rw [if_neg (fun c => hb c.1)]), fun hb => ⟨fun hc _ _ H7 e7 m hm => ck_mono (cf_ans (X := X) (xs := xs)) (fun r H1 h => ⟨h.1, ?_⟩), fun hc => cP_no (by unfold oSeen; rw [if_neg (fun c => hc c.2)])⟩⟩
  have hb' := Decidable.not_not.mp hb
  obtain ⟨n, hn⟩ : ∃ n : Nat, p = (n : Int) := ⟨p.toNat, by omega⟩
  subst hn
  rw [Int.toNat_natCast] at e7 ⊢
  obtain ⟨s1, s2⟩ := slt_pg n (by omega)
  have ev : cz H 1 (10 + n) = H 2 n := cz_at s1 (by rw [s2] <;> rfl) (by rw [s2] <;> rfl)
  have eg : cz H7 1 = upz (cz H 1) (10 + n) v := by rw [e7]; exact cz_up s1 (by rw [s2] <;> rfl) (by rw [s2] <;> rfl)
  refine cP_go (G := H7) (w := upz (cz H 1) (10 + n) v) (by rw [e7]; exact own_up (own_refl H) _ _ _ (by decide) (by decide)) ?_ (zeq_of eg) (fun j j1 j2 => by rw [eg, upz_ne _ _ (by omega)]) h.2
  unfold oSeen
  rw [if_pos ⟨hb', hc⟩, Int.toNat_natCast, ev]
theorem zc_meas {m g s : Nat} {H : fl_H} {w h v : Int} (hg : g < 6) (hs : s < 2) : ck (cm_pg X xs) m cm_m44 [.index 3, fl_t (g : Int), fl_t (s : Int), fl_t w, fl_t h, fl_t v] H (fun r H' => r = none ∧ H' = fl_up (fl_up (fl_up H 6 (2 * g + s) w) 7 (2 * g + s) h) 8 (2 * g + s) v) := by
  refine ve_Goods_measure_3 ?_
  rw [fl_wi (x := 2 * (g : Int) + (s : Int)) (by omega) (by omega)]
  have e : (2 * (g : Int) + (s : Int)).toNat = 2 * g + s := by omega
  rw [e]
  exact fun _ H1 e1 _ H4 e4 _ H7 e7 => ⟨rfl, by rw [e7, e4, e1]⟩
theorem cz_meas1 {H : fl_H} {g s : Nat} (hg : g < 6) (hs : s < 2) (w h v : Int) : cz (fl_up (fl_up (fl_up H 6 (2 * g + s) w) 7 (2 * g + s) h) 8 (2 * g + s) v) 1 = upz (upz (upz (cz H 1) (16 + 8 * g + 3 * s) w) (17 + 8 * g + 3 * s) h) (18 + 8 * g + 3 * s) v := by
  obtain ⟨a1, a2, a3, a4, a5, a6⟩ := slt_sz g hg s hs
  rw [cz_up a5 (by rw [a6] <;> rfl) (by rw [a6] <;> rfl), cz_up a3 (by rw [a4] <;> rfl) (by rw [a4] <;> rfl), cz_up a1 (by rw [a2] <;> rfl) (by rw [a2] <;> rfl)]
theorem gdz_zeq {g : Nat} {z : Nat → Int} {k f : Int} (hz : z 1 = (g : Int)) (hg : g < 6) : zeq (gdz g k f z) (apz [1, k, f, 1, 1, 0, 1, 1, 0] z) := by
  intro j hj
  have e : (z 1).toNat = g := by omega
  show gdz g k f z j = upz (upz (upz (upz (upz (upz (upz (upz (upz (upz z (14 + 8 * (z 1).toNat) k) (15 + 8 * (z 1).toNat) f) (16 + 8 * (z 1).toNat) 1) (17 + 8 * (z 1).toNat) 1) (18 + 8 * (z 1).toNat) 0) (19 + 8 * (z 1).toNat) 1) (20 + 8 * (z 1).toNat) 1) (21 + 8 * (z 1).toNat) 0) (62 + (z 1).toNat) 0) 1 (z 1 + 1) j
  rw [e, hz]
  unfold gdz
  by_cases h1 : j = 1
  · rw [h1, upz_at, upz_at]
  · rw [upz_ne _ _ h1, upz_ne _ _ h1, upz_ne _ _ (show j ≠ 62 + g by omega)]
theorem zc_good {m : Nat} {H : fl_H} {k f : Int} (hk : fl_w k = k) (hf : fl_w f = f) (hz : wf (cz H 1)) : ck (cm_pg X xs) m cm_m102 [.index 0, fl_t k, fl_t f] H (cP fgS (oGood k f) H) := by
  obtain ⟨-, -, z1, z2, -⟩ := id hz.1
  change 0 ≤ H 3 0 at z1
  change H 3 0 ≤ 6 at z2
  obtain ⟨n, hn⟩ : ∃ n : Nat, H 3 0 = (n : Int) := ⟨(H 3 0).toNat, by omega⟩
  have c1 : cz H 1 1 = (n : Int) := by rw [cz_1]; exact hn
  refine ve_GoodsBook_good_0 ?_
  simp only [hk, hf, w_0, w_3]
  refine ⟨fun h1 => ⟨fun h2 m hm => ve_Goods_add_3 ?_, fun h2 => cP_no (by unfold oGood; rw [if_neg (fun c => h2 c.2)])⟩, fun h1 => cP_no (by unfold oGood; rw [if_neg (fun c => h1 c.1)])⟩
  rw [fl_wi (x := H 3 0) (by omega) (by omega), hn, Int.toNat_natCast]
  refine ⟨fun hlt _ H2 e2 => ?_, fun hge => ⟨_, rfl, fun m hm => ck_mono (cb_forget (X := X) (xs := xs)) (fun r H6 h => ⟨h.1, ?_⟩)⟩⟩
  · have g2 : H2 3 0 = (n : Int) := by rw [e2, fl_up_c _ _ _ _ (by decide)]; exact hn
    rw [g2, fl_wi (x := (n : Int)) (by omega) (by omega), Int.toNat_natCast]
    intro _ H5 e5 m hm
    have g5 : H5 3 0 = (n : Int) := by rw [e5, fl_up_c _ _ _ _ (by decide)]; exact g2
    rw [g5]
    refine ck_mono (zc_meas (X := X) (xs := xs) (g := n) (s := 0) (by omega) (by omega)) (fun r H8 h => ⟨h.1, fun m hm => ?_⟩)
    have e8 := h.2
    have g8 : H8 3 0 = (n : Int) := by rw [e8, fl_up_c _ _ _ _ (by decide), fl_up_c _ _ _ _ (by decide), fl_up_c _ _ _ _ (by decide)]; exact g5
    rw [g8]
    refine ck_mono (zc_meas (X := X) (xs := xs) (g := n) (s := 1) (by omega) (by omega)) (fun r H10 h => ⟨h.1, fun H12 e12 => ⟨_, rfl, fun m hm => ck_mono (cb_forget (X := X) (xs := xs)) (fun r H6 hh => ⟨hh.1, ?_⟩)⟩⟩)
    have e10 := h.2
    have g10 : H10 3 0 = (n : Int) := by rw [e10, fl_up_c _ _ _ _ (by decide), fl_up_c _ _ _ _ (by decide), fl_up_c _ _ _ _ (by decide)]; exact g8
    obtain ⟨s1, s2, s3, s4⟩ := slt_gd n (by omega)
    have o : own H H12 := by
      rw [e12, e10, e8, e5, e2]
      exact own_up (own_up (own_up (own_up (own_up (own_up (own_up (own_up (own_up (own_refl H) _ _ _ (by decide) (by decide)) _ _ _ (by decide) (by decide)) _ _ _ (by decide) (by decide)) _ _ _ (by decide) (by decide)) _ _ _ (by decide) (by decide)) _ _ _ (by decide) (by decide)) _ _ _ (by decide) (by decide)) _ _ _ (by decide) (by decide)) _ _ _ (by decide) (by decide)
    have q2 : cz H2 1 = upz (cz H 1) (14 + 8 * n) k := by rw [e2]; exact cz_up s1 (by rw [s2] <;> rfl) (by rw [s2] <;> rfl)
    have q5 : cz H5 1 = upz (cz H2 1) (15 + 8 * n) f := by rw [e5]; exact cz_up s3 (by rw [s4] <;> rfl) (by rw [s4] <;> rfl)
    have q8 : cz H8 1 = upz (upz (upz (cz H5 1) (16 + 8 * n) 1) (17 + 8 * n) 1) (18 + 8 * n) 0 := by rw [e8]; exact cz_meas1 (by omega) (by omega) _ _ _
    have q10 : cz H10 1 = upz (upz (upz (cz H8 1) (19 + 8 * n) 1) (20 + 8 * n) 1) (21 + 8 * n) 0 := by
      have i1 : 19 + 8 * n = 16 + 8 * n + 3 * 1 := by omega
      have i2 : 20 + 8 * n = 17 + 8 * n + 3 * 1 := by omega
      have i3 : 21 + 8 * n = 18 + 8 * n + 3 * 1 := by omega
      rw [e10, i1, i2, i3]; exact cz_meas1 (by omega) (by omega) _ _ _
    have q12 : cz H12 1 = gdz n k f (cz H 1) := by
      have : cz H12 1 = upz (cz H10 1) 1 ((n : Int) + 1) := by rw [e12, g10]; exact cz_up (j := 1) rfl rfl rfl
      rw [this, q10, q8, q5, q2]
      rfl
    refine cP_go (G := H12) (w := apz [1, k, f, 1, 1, 0, 1, 1, 0] (cz H 1)) o ?_ (by rw [q12]; exact gdz_zeq c1 (by omega)) (fun j j1 j2 => ?_) hh.2
    · unfold oGood
      rw [if_pos ⟨h1, h2⟩, if_pos (by rw [c1]; exact hlt), c1, g10]
    · rw [q12]
      unfold gdz
      rw [upz_ne _ _ (by omega), upz_ne _ _ (by omega), upz_ne _ _ (by omega), upz_ne _ _ (by omega), upz_ne _ _ (by omega), upz_ne _ _ (by omega), upz_ne _ _ (by omega), upz_ne _ _ (by omega), upz_ne _ _ (by omega)]
  · exact cP_go (G := H) (w := cz H 1) (own_refl H) (by unfold oGood; rw [if_pos ⟨h1, h2⟩, if_neg (by rw [c1]; exact hge)]) (zeq_refl _) (fun _ _ _ => rfl) h.2
theorem zc_size {m : Nat} {H : fl_H} {g s w y v : Int} (hg : fl_w g = g) (hs : fl_w s = s) (hw : fl_w w = w) (hh : fl_w y = y) (hv : fl_w v = v) (hz : wf (cz H 1)) : ck (cm_pg X xs) m cm_m103 [.index 0, fl_t g, fl_t s, fl_t w, fl_t y, fl_t v] H (cP fgS (oSize g s w y v) H) := by
  obtain ⟨-, -, z1, z2, -⟩ := id hz.1
  change 0 ≤ H 3 0 at z1
  change H 3 0 ≤ 6 at z2
  have eW : fl_w (H 3 0 - 1) = H 3 0 - 1 := fl_wi (by omega) (by omega)
  refine ve_GoodsBook_size_0 (fun m hm => ve_GoodsBook_isGood_0 ⟨_, rfl, ?_⟩)
  simp only [fb_0, hg, hs, hw, hh, hv, w_0, w_1, w_4, w_999, eW]
  refine ⟨fun hb => cP_no (by unfold oSize; rw [if_neg (fun c => hb c.1)]), fun hb => ⟨fun h2 => ⟨fun h3 => ⟨fun h4 => ⟨fun h5 => ?_, fun h5 => cP_no (by unfold oSize; rw [if_neg (fun c => h5 c.2.2.2.2)])⟩, fun h4 => cP_no (by unfold oSize; rw [if_neg (fun c => h4 c.2.2.2.1)])⟩, fun h3 => cP_no (by unfold oSize; rw [if_neg (fun c => h3 c.2.2.1)])⟩, fun h2 => cP_no (by unfold oSize; rw [if_neg (fun c => h2 c.2.1)])⟩⟩
  have h1 := Decidable.not_not.mp hb
  obtain ⟨n, hn⟩ : ∃ n : Nat, g = (n : Int) := ⟨g.toNat, by omega⟩
  obtain ⟨t, ht⟩ : ∃ t : Nat, s = (t : Int) := ⟨s.toNat, by omega⟩
  subst hn; subst ht
  have ei : (2 * (n : Int) + (t : Int)).toNat = 2 * n + t := by omega
  rw [fl_wi (x := 2 * (n : Int) + (t : Int)) (by omega) (by omega), ei]
  refine fun _ m hm => ck_mono (zc_meas (X := X) (xs := xs) (g := n) (s := t) (by omega) (by omega)) (fun r H10 h => ⟨h.1, fun m hm => ck_mono (cb_forget (X := X) (xs := xs)) (fun r H6 hf => ⟨hf.1, ?_⟩)⟩)
  obtain ⟨a1, a2, a3, a4, a5, a6⟩ := slt_sz n (by omega) t (by omega)
  have ev : cz H 1 (18 + 8 * n + 3 * t) = H 8 (2 * n + t) := cz_at a5 (by rw [a6] <;> rfl) (by rw [a6] <;> rfl)
  have eg := cz_meas1 (H := H) (g := n) (s := t) (by omega) (by omega) w y v
  rw [← h.2] at eg
  refine cP_go (G := H10) (w := upz (upz (upz (cz H 1) (16 + 8 * n + 3 * t) w) (17 + 8 * n + 3 * t) y) (18 + 8 * n + 3 * t) v) (by rw [h.2]; exact own_up (own_up (own_up (own_refl H) _ _ _ (by decide) (by decide)) _ _ _ (by decide) (by decide)) _ _ _ (by decide) (by decide)) ?_ (zeq_of eg) (fun j j1 j2 => by rw [eg, upz_ne _ _ (by omega), upz_ne _ _ (by omega), upz_ne _ _ (by omega)]) hf.2
  unfold oSize
  rw [if_pos ⟨h1, h2, h3, h4, h5⟩, Int.toNat_natCast, Int.toNat_natCast, ev]
theorem zc_bond {m : Nat} {H : fl_H} {k a b e : Int} (hk : fl_w k = k) (ha : fl_w a = a) (hb : fl_w b = b) (he : fl_w e = e) (hz : wf (cz H 1)) : ck (cm_pg X xs) m cm_m105 [.index 0, fl_t k, fl_t a, fl_t b, fl_t e] H (cP fgA (oBond k a b e) H) := by
  obtain ⟨-, -, z1, z2, z3, z4⟩ := id hz.1
  change 0 ≤ H 3 0 at z1
  change H 3 0 ≤ 6 at z2
  change 0 ≤ H 9 0 at z3
  change H 9 0 ≤ 12 at z4
  have eW : fl_w (H 3 0 - 1) = H 3 0 - 1 := fl_wi (by omega) (by omega)
  obtain ⟨n, hn⟩ : ∃ n : Nat, H 9 0 = (n : Int) := ⟨(H 9 0).toNat, by omega⟩
  have c2 : cz H 1 2 = (n : Int) := by rw [cz_2]; exact hn
  have key : ((0 ≤ k ∧ k ≤ 5) ∧ (0 ≤ a ∧ a ≤ H 3 0 - 1) ∧ (0 ≤ b ∧ b ≤ H 3 0 - 1) ∧ ¬ a = b ∧ (-99 ≤ e ∧ e ≤ 99) ∧ (3 ≤ k → e = 0)) → ∀ m, ck (cm_pg X xs) m cm_m4 [.index 9, fl_t k, fl_t a, fl_t b, fl_t e] H (fun r H13 => ∃ x15, r = some x15 ∧ (∀ m', m' < m → ck (cm_pg X xs) m' cm_m141 [.index 0] H13 (fun r H16 => r = none ∧ cP fgA (oBond k a b e) H (some x15) H16))) := by
    intro hc m
    refine ve_Bonds_add_9 ?_
    rw [fl_wi (x := H 9 0) (by omega) (by omega), hn, Int.toNat_natCast]
    refine ⟨fun hlt _ H2 e2 => ?_, fun hge => ⟨_, rfl, fun m' hm => ck_mono (cf_ans (X := X) (xs := xs)) (fun r H6 h => ⟨h.1, ?_⟩)⟩⟩
    · have g2 : H2 9 0 = (n : Int) := by rw [e2, fl_up_c _ _ _ _ (by decide)]; exact hn
      rw [g2, fl_wi (x := (n : Int)) (by omega) (by omega), Int.toNat_natCast]
      intro _ H5 e5
      have g5 : H5 9 0 = (n : Int) := by rw [e5, fl_up_c _ _ _ _ (by decide)]; exact g2
      rw [g5, fl_wi (x := (n : Int)) (by omega) (by omega), Int.toNat_natCast]
      intro _ H8 e8
      have g8 : H8 9 0 = (n : Int) := by rw [e8, fl_up_c _ _ _ _ (by decide)]; exact g5
      rw [g8, fl_wi (x := (n : Int)) (by omega) (by omega), Int.toNat_natCast]
      intro _ H11 e11 H14 e14
      have g11 : H11 9 0 = (n : Int) := by rw [e11, fl_up_c _ _ _ _ (by decide)]; exact g8
      refine ⟨_, rfl, fun m' hm => ck_mono (cf_ans (X := X) (xs := xs)) (fun r H6 h => ⟨h.1, ?_⟩)⟩
      obtain ⟨a1, a2, a3, a4, a5, a6, a7, a8⟩ := slt_bd n (by omega)
      have q2 : cz H2 1 = upz (cz H 1) (68 + 4 * n) k := by rw [e2]; exact cz_up a1 (by rw [a2] <;> rfl) (by rw [a2] <;> rfl)
      have q5 : cz H5 1 = upz (cz H2 1) (69 + 4 * n) a := by rw [e5]; exact cz_up a3 (by rw [a4] <;> rfl) (by rw [a4] <;> rfl)
      have q8 : cz H8 1 = upz (cz H5 1) (70 + 4 * n) b := by rw [e8]; exact cz_up a5 (by rw [a6] <;> rfl) (by rw [a6] <;> rfl)
      have q11 : cz H11 1 = upz (cz H8 1) (71 + 4 * n) e := by rw [e11]; exact cz_up a7 (by rw [a8] <;> rfl) (by rw [a8] <;> rfl)
      have q14 : cz H14 1 = upz (cz H11 1) 2 ((n : Int) + 1) := by rw [e14, g11]; exact cz_up (j := 2) rfl rfl rfl
      have eg : cz H14 1 = apz [2, k, a, b, e] (cz H 1) := by
        rw [q14, q11, q8, q5, q2]
        show _ = upz (upz (upz (upz (upz (cz H 1) (68 + 4 * (cz H 1 2).toNat) k) (69 + 4 * (cz H 1 2).toNat) a) (70 + 4 * (cz H 1 2).toNat) b) (71 + 4 * (cz H 1 2).toNat) e) 2 (cz H 1 2 + 1)
        rw [c2, Int.toNat_natCast]
      refine cP_go (G := H14) (w := apz [2, k, a, b, e] (cz H 1)) ?_ ?_ (zeq_of eg) (fun j j1 j2 => ?_) h.2
      · rw [e14, e11, e8, e5, e2]
        exact own_up (own_up (own_up (own_up (own_up (own_refl H) _ _ _ (by decide) (by decide)) _ _ _ (by decide) (by decide)) _ _ _ (by decide) (by decide)) _ _ _ (by decide) (by decide)) _ _ _ (by decide) (by decide)
      · unfold oBond
        rw [show cz H 1 1 = H 3 0 from rfl, if_pos hc, if_pos (by rw [c2]; exact hlt), c2, g11]
      · rw [q14, q11, q8, q5, q2, upz_ne _ _ (by omega), upz_ne _ _ (by omega), upz_ne _ _ (by omega), upz_ne _ _ (by omega), upz_ne _ _ (by omega)]
    · exact cP_go (G := H) (w := cz H 1) (own_refl H) (by unfold oBond; rw [show cz H 1 1 = H 3 0 from rfl, if_pos hc, if_neg (by rw [c2]; exact hge)]) (zeq_refl _) (fun _ _ _ => rfl) h.2
  have kk : ∀ m N, m < N → ((0 ≤ k ∧ k ≤ 5) ∧ (0 ≤ a ∧ a ≤ H 3 0 - 1) ∧ (0 ≤ b ∧ b ≤ H 3 0 - 1) ∧ ¬ a = b ∧ (-99 ≤ e ∧ e ≤ 99) ∧ (3 ≤ k → e = 0)) → ck (cm_pg X xs) m cm_m4 [.index 9, fl_t k, fl_t a, fl_t b, fl_t e] H (fun r H13 => ∃ x15, r = some x15 ∧ (∀ m, m < N → ck (cm_pg X xs) m cm_m141 [.index 0] H13 (fun r H16 => r = none ∧ cP fgA (oBond k a b e) H (some x15) H16))) := fun m N hm hc =>
    vt_mono (Nat.le_of_lt hm) (fun r H13 ⟨x, h1, h2⟩ => ⟨x, h1, fun m hm => h2 m hm⟩) (key hc N)
  refine ve_GoodsBook_bond_0 ?_
  simp only [hk, ha, hb, he, w_0, w_5, w_99, w_m99, w_m0]
  refine ⟨fun h1 m hm => ve_GoodsBook_isGood_0 ⟨_, rfl, ?_⟩, fun h1 => cP_no (by unfold oBond; rw [if_neg (fun c => h1 c.1)])⟩
  simp only [fb_0, ha, hb, w_0, eW]
  refine ⟨fun h2 => cP_no (by unfold oBond; rw [if_neg (fun c => h2 c.2.1)]), fun h2 m hm => ve_GoodsBook_isGood_0 ⟨_, rfl, ?_⟩⟩
  simp only [fb_0, ha, hb, w_0, eW]
  have h2' := Decidable.not_not.mp h2
  refine ⟨fun h3 => cP_no (by unfold oBond; rw [if_neg (fun c => h3 c.2.2.1)]), fun h3 => ⟨fun h4 => cP_no (by unfold oBond; rw [if_neg (fun c => c.2.2.2.1 h4)]), fun h4 => ⟨fun h5 => ⟨fun h6 m hm => kk m _ hm ⟨h1, h2', Decidable.not_not.mp h3, h4, by omega, fun _ => by omega⟩, fun h6 => cP_no (by unfold oBond; rw [if_neg (fun c => h6 (by have := c.2.2.2.2.2 (by omega); omega))])⟩, fun h5 => ⟨fun h6 m hm => kk m _ hm ⟨h1, h2', Decidable.not_not.mp h3, h4, h6, fun _ => by omega⟩, fun h6 => cP_no (by unfold oBond; rw [if_neg (fun c => h6 c.2.2.2.2.1)])⟩⟩⟩⟩
theorem zc_extra {m : Nat} {H : fl_H} {b v : Int} (hb : fl_w b = b) (hv : fl_w v = v) (hz : wf (cz H 1)) : ck (cm_pg X xs) m cm_m106 [.index 0, fl_t b, fl_t v] H (cP fgA (oExtra b v) H) := by
  obtain ⟨-, -, -, -, z3, z4⟩ := id hz.1
  change 0 ≤ H 9 0 at z3
  change H 9 0 ≤ 12 at z4
  have eW : fl_w (H 9 0 - 1) = H 9 0 - 1 := fl_wi (by omega) (by omega)
  refine ve_GoodsBook_extra_0 ?_
  simp only [hb, hv, w_0, w_99, w_m99, eW]
  refine ⟨fun h1 => ⟨fun h2 => ?_, fun h2 => cP_no (by unfold oExtra; rw [if_neg (fun c => h2 c.2)])⟩, fun h1 => cP_no (by unfold oExtra; rw [if_neg (fun c => h1 c.1)])⟩
  obtain ⟨n, hn⟩ : ∃ n : Nat, b = (n : Int) := ⟨b.toNat, by omega⟩
  subst hn
  rw [Int.toNat_natCast]
  obtain ⟨a1, a2, a3, a4, a5, a6, a7, a8⟩ := slt_bd n (by omega)
  have hlt : (n : Int) < cz H 1 2 := by show (n : Int) < H 9 0; omega
  obtain ⟨p1, p2, p3, p4, p5, p6⟩ := hz.2.2.2 n hlt
  have ek : cz H 1 (68 + 4 * n) = H 10 n := cz_at a1 (by rw [a2] <;> rfl) (by rw [a2] <;> rfl)
  have ev : cz H 1 (71 + 4 * n) = H 13 n := cz_at a7 (by rw [a8] <;> rfl) (by rw [a8] <;> rfl)
  rw [ek] at p1
  rw [fl_wi (x := H 10 n) (by omega) (by omega)]
  refine fun _ => ⟨fun hlt2 _ _ H6 e6 m hm => ck_mono (cf_ans (X := X) (xs := xs)) (fun r H1 h => ⟨h.1, ?_⟩), fun hge => cP_no (by unfold oExtra; rw [if_pos ⟨h1, h2⟩, Int.toNat_natCast, ek, if_neg (by omega)])⟩
  have eg : cz H6 1 = upz (cz H 1) (71 + 4 * n) v := by rw [e6]; exact cz_up a7 (by rw [a8] <;> rfl) (by rw [a8] <;> rfl)
  refine cP_go (G := H6) (w := upz (cz H 1) (71 + 4 * n) v) (by rw [e6]; exact own_up (own_refl H) _ _ _ (by decide) (by decide)) ?_ (zeq_of eg) (fun j j1 j2 => by rw [eg, upz_ne _ _ (by omega)]) h.2
  unfold oExtra
  rw [if_pos ⟨h1, h2⟩, Int.toNat_natCast, ek, if_pos (by omega), ev]
theorem slt_st : ∀ w : Nat, w < 3 → vld (4 + w) = true ∧ slt (4 + w) = (17, w) ∧ ([99, 999, 999] : List Int).getD w 0 = if (w : Int) = 0 then 99 else 999 := by decide
theorem zc_set {m : Nat} {H : fl_H} {a v : Int} (ha : fl_w a = a) (hv : fl_w v = v) : ck (cm_pg X xs) m cm_m107 [.index 0, fl_t a, fl_t v] H (cP fgA (oSet a v) H) := by
  refine ve_GoodsBook_set_0 ?_
  simp only [ha, hv, w_0, w_2]
  refine ⟨fun h1 => ?_, fun h1 => cP_no (by unfold oSet; rw [if_neg (fun c => h1 c.1)])⟩
  obtain ⟨n, hn⟩ : ∃ n : Nat, a = (n : Int) := ⟨a.toNat, by omega⟩
  subst hn
  obtain ⟨s1, s2, s3⟩ := slt_st n (by omega)
  rw [Int.toNat_natCast, s3]
  have e9 : fl_w (if (n : Int) = 0 then 99 else 999) = if (n : Int) = 0 then 99 else 999 := by
    by_cases h : (n : Int) = 0
    · rw [if_pos h]; rfl
    · rw [if_neg h]; rfl
  rw [e9]
  refine fun _ => ⟨fun h2 _ _ H5 e5 m hm => ck_mono (cf_ans (X := X) (xs := xs)) (fun r H1 h => ⟨h.1, ?_⟩), fun h2 => cP_no (by unfold oSet; rw [if_neg (fun c => h2 c.2)])⟩
  have ev : cz H 1 (4 + n) = H 18 n := cz_at s1 (by rw [s2] <;> rfl) (by rw [s2] <;> rfl)
  have eg : cz H5 1 = upz (cz H 1) (4 + n) v := by rw [e5]; exact cz_up s1 (by rw [s2] <;> rfl) (by rw [s2] <;> rfl)
  refine cP_go (G := H5) (w := upz (cz H 1) (4 + n) v) (by rw [e5]; exact own_up (own_refl H) _ _ _ (by decide) (by decide)) ?_ (zeq_of eg) (fun j j1 j2 => by rw [eg, upz_ne _ _ (by omega)]) h.2
  unfold oSet
  rw [if_pos ⟨h1, h2⟩, Int.toNat_natCast, ev]
theorem slt_yr : ∀ y : Nat, y < 12 → vld (116 + 3 * y) = true ∧ slt (116 + 3 * y) = (14, y) ∧ vld (117 + 3 * y) = true ∧ slt (117 + 3 * y) = (15, y) ∧ vld (118 + 3 * y) = true ∧ slt (118 + 3 * y) = (16, y) := by decide
theorem zc_year {m : Nat} {H : fl_H} {g s v : Int} (hg : fl_w g = g) (hs : fl_w s = s) (hv : fl_w v = v) (hz : wf (cz H 1)) : ck (cm_pg X xs) m cm_m128 [.index 0, fl_t g, fl_t s, fl_t v] H (cP (fun G => G) (oYear g s v) H) := by
  obtain ⟨-, -, z1, z2, -⟩ := id hz.1
  change 0 ≤ H 3 0 at z1
  change H 3 0 ≤ 6 at z2
  obtain ⟨y1, y2⟩ := hz.2.1.2.2.2.2
  have c3 : cz H 1 3 = H 14 0 := rfl
  rw [c3] at y1 y2
  obtain ⟨n, hn⟩ : ∃ n : Nat, H 14 0 = (n : Int) := ⟨(H 14 0).toNat, by omega⟩
  rw [hn] at c3
  have eW : fl_w (H 3 0 - 1) = H 3 0 - 1 := fl_wi (by omega) (by omega)
  refine ve_GoodsBook_year_0 (fun m hm => ve_GoodsBook_isGood_0 ⟨_, rfl, ?_⟩)
  simp only [fb_0, hg, hs, hv, w_0, w_1, w_999, eW]
  refine ⟨fun hb => cP_no (by unfold oYear; rw [if_neg (fun c => hb c.1)]), fun hb => ⟨fun h2 => ⟨fun h3 m hm => ve_Years_add_14 ?_, fun h3 => cP_no (by unfold oYear; rw [if_neg (fun c => h3 c.2.2)])⟩, fun h2 => cP_no (by unfold oYear; rw [if_neg (fun c => h2 c.2.1)])⟩⟩
  have h1 := Decidable.not_not.mp hb
  rw [fl_wi (x := H 14 0) (by omega) (by omega), hn, Int.toNat_natCast]
  refine ⟨fun hlt _ H2 e2 => ?_, fun hge => ⟨_, rfl, cP_no (by unfold oYear; rw [if_pos ⟨h1, h2, h3⟩, if_neg (by rw [c3]; exact hge)])⟩⟩
  have g2 : H2 14 0 = (n : Int) := by rw [e2, fl_up_c _ _ _ _ (by decide)]; exact hn
  rw [g2, fl_wi (x := (n : Int)) (by omega) (by omega), Int.toNat_natCast]
  intro _ H5 e5
  have g5 : H5 14 0 = (n : Int) := by rw [e5, fl_up_c _ _ _ _ (by decide)]; exact g2
  rw [g5, fl_wi (x := (n : Int)) (by omega) (by omega), Int.toNat_natCast]
  intro _ H8 e8 H11 e11
  have g8 : H8 14 0 = (n : Int) := by rw [e8, fl_up_c _ _ _ _ (by decide)]; exact g5
  refine ⟨_, rfl, ?_⟩
  obtain ⟨a1, a2, a3, a4, a5, a6⟩ := slt_yr n (by omega)
  have q2 : cz H2 1 = upz (cz H 1) (116 + 3 * n) g := by rw [e2]; exact cz_up a1 (by rw [a2] <;> rfl) (by rw [a2] <;> rfl)
  have q5 : cz H5 1 = upz (cz H2 1) (117 + 3 * n) s := by rw [e5]; exact cz_up a3 (by rw [a4] <;> rfl) (by rw [a4] <;> rfl)
  have q8 : cz H8 1 = upz (cz H5 1) (118 + 3 * n) v := by rw [e8]; exact cz_up a5 (by rw [a6] <;> rfl) (by rw [a6] <;> rfl)
  have q11 : cz H11 1 = upz (cz H8 1) 3 ((n : Int) + 1) := by rw [e11, g8]; exact cz_up (j := 3) rfl rfl rfl
  have eg : cz H11 1 = upz (upz (upz (upz (cz H 1) (116 + 3 * n) g) (117 + 3 * n) s) (118 + 3 * n) v) 3 ((n : Int) + 1) := by rw [q11, q8, q5, q2]
  refine cP_go (G := H11) (w := upz (upz (upz (upz (cz H 1) (116 + 3 * n) g) (117 + 3 * n) s) (118 + 3 * n) v) 3 ((n : Int) + 1)) ?_ ?_ (zeq_of eg) (fun j j1 j2 => ?_) rfl
  · rw [e11, e8, e5, e2]
    exact own_up (own_up (own_up (own_up (own_refl H) _ _ _ (by decide) (by decide)) _ _ _ (by decide) (by decide)) _ _ _ (by decide) (by decide)) _ _ _ (by decide) (by decide)
  · unfold oYear
    rw [if_pos ⟨h1, h2, h3⟩, if_pos (by rw [c3]; exact hlt), c3, Int.toNat_natCast, g8]
  · rw [eg, upz_ne _ _ (by omega), upz_ne _ _ (by omega), upz_ne _ _ (by omega), upz_ne _ _ (by omega)]
end
end
