noncomputable section
/-! L3: a plan taken from a sheet. -/
section
variable {X : Term} {xs : List Int32}
def itm (b : Nat) (H : fl_H) (s f : Int) (k : Nat) : Int := H b (16 * s.toNat + f.toNat + k)
def okc (b : Nat) (H : fl_H) (s f : Int) (p : Int) (k : Nat) : Prop := 0 ≤ itm b H s f k ∧ itm b H s f k ≤ 2 * p
theorem cl_pl1 {H : fl_H} (t : TX H) {s f : Int} {n : Nat} (en : H 95 1 = (n : Int)) (hb : 0 < n → (0 ≤ s ∧ s ≤ 3) ∧ 0 ≤ f ∧ f + n ≤ 16) {Q : Option Int → fl_H → Prop} : ∀ (d k : Nat), k + d = n → ∀ N, (∀ j, j < k → okc 63 H s f (H 95 0) j) → (∀ N', (∀ j, j < n → okc 63 H s f (H 95 0) j) → hd_GoodsBook_plan_0_82 (cm_pg X xs) N' H s f 0 Q) → ((∃ j, j < n ∧ ¬ okc 63 H s f (H 95 0) j) → Q (some (-2)) H) → hd_GoodsBook_plan_0_33 (cm_pg X xs) N H s f (k : Int) Q
  | 0, k, hk, N, ha, K1, K2 => by
    have bd := z_bd t
    have ek : k = n := by omega
    subst ek
    refine vh_GoodsBook_plan_0_33 ?_
    rw [TX_1 t, en, fl_wi (x := (k : Int)) (by omega) (by omega)]
    exact ⟨fun _ => K1 N ha, fun h => absurd (by omega) h⟩
  | d + 1, k, hk, N, ha, K1, K2 => by
    have bd := z_bd t
    obtain ⟨b1, b2, b3⟩ := hb (by omega)
    have ei : (s * 16 + (f + (k : Int))).toNat = 16 * s.toNat + f.toNat + k := by omega
    refine vh_GoodsBook_plan_0_33 ?_
    rw [TX_1 t, en, fl_wi (x := (n : Int)) (by omega) (by omega), fl_wi (x := (k : Int)) (by omega) (by omega), show ((k : Int) + 1) = ((k + 1 : Nat) : Int) by omega]
    refine ⟨fun h => by omega, fun _ m1 _ => ve_Sheets_value_60 ?_⟩
    rw [fl_wi (x := s * 16 + (f + (k : Int))) (by omega) (by omega), ei]
    refine fun _ => ⟨_, rfl, fun m2 _ => ve_Book_isChoice_1 ⟨_, rfl, ?_⟩⟩
    have ew : fl_w (H 63 (16 * s.toNat + f.toNat + k)) = H 63 (16 * s.toNat + f.toNat + k) := ((TX_she t).2 _ (by omega)).2
    simp only [fb_0, w_0, e2P t, ew]
    refine ⟨fun q => K2 ⟨k, by omega, q⟩, fun q m _ => cl_pl1 t en hb d (k + 1) (by omega) m (fun j hj => ?_) K1 K2⟩
    by_cases e : j = k
    · rw [e]; exact Classical.not_not.mp q
    · exact ha j (by omega)
def plR (n : Nat) (s f : Int) (H : fl_H) (r : Option Int) (H' : fl_H) : Prop := (∃ x, r = some x) ∧ ∃ F, H' = fgP F ∧ (∀ c, c ≠ 19 → F c = H c) ∧ ∀ j, F 19 j = if j < n then itm 63 H s f j else H 19 j
theorem cl_pl2 {H : fl_H} (t : TX H) {s f : Int} {n : Nat} (en : H 95 1 = (n : Int)) (hb : 0 < n → (0 ≤ s ∧ s ≤ 3) ∧ 0 ≤ f ∧ f + n ≤ 16) : ∀ (d k : Nat), k + d = n → ∀ N G, (∀ c, c ≠ 19 → G c = H c) → (∀ j, G 19 j = if j < k then itm 63 H s f j else H 19 j) → hd_GoodsBook_plan_0_82 (cm_pg X xs) N G s f (k : Int) (plR n s f H)
  | 0, k, hk, N, G, hc, hj => by
    have bd := z_bd t
    have ek : k = n := by omega
    subst ek
    have e3 : G 3 0 = (k : Int) := by rw [hc 3 (by omega), TX_1 t, en]
    refine vh_GoodsBook_plan_0_82 ?_
    rw [e3, fl_wi (x := (k : Int)) (by omega) (by omega)]
    refine ⟨fun _ m1 _ => ck_mono (cf_plan (X := X) (xs := xs)) (fun r1 H1 h1 => ⟨h1.1, fun m2 _ => ?_⟩), fun h => absurd (by omega) h⟩
    refine ck_mono (cm_count (X := X) (xs := xs) (n := k) (by omega) (by rw [h1.2, fgP_c _ (by omega) (by omega)]; exact e3) (fun g hg => ?_)) (fun r2 H2 h2 => ⟨_, h2.1, ⟨_, rfl⟩, G, by rw [h2.2, h1.2], hc, hj⟩)
    obtain ⟨b1, b2, b3⟩ := hb (by omega)
    rw [h1.2, fgP_c _ (by omega) (by omega), hj, if_pos hg]
    exact ((TX_she t).2 _ (by omega)).2
  | d + 1, k, hk, N, G, hc, hj => by
    have bd := z_bd t
    have e3 : G 3 0 = (n : Int) := by rw [hc 3 (by omega), TX_1 t, en]
    obtain ⟨b1, b2, b3⟩ := hb (by omega)
    have ei : (s * 16 + (f + (k : Int))).toNat = 16 * s.toNat + f.toNat + k := by omega
    refine vh_GoodsBook_plan_0_82 ?_
    rw [e3, fl_wi (x := (n : Int)) (by omega) (by omega), fl_wi (x := (k : Int)) (by omega) (by omega), Int.toNat_natCast, show ((k : Int) + 1) = ((k + 1 : Nat) : Int) by omega]
    refine ⟨fun h => by omega, fun _ m1 _ => ve_Sheets_value_60 ?_⟩
    rw [fl_wi (x := s * 16 + (f + (k : Int))) (by omega) (by omega), ei]
    refine fun _ => ⟨_, rfl, fun _ H10 e10 m2 _ => cl_pl2 t en hb d (k + 1) (by omega) m2 H10 (fun c q => by rw [e10, fl_up_cell _ _ _ _ q]; exact hc c q) (fun j => ?_)⟩
    rw [e10]
    by_cases e : j = k
    · rw [e, fl_up_at, if_pos (by omega), hc 63 (by omega)]; rfl
    · rw [fl_up_i _ _ _ _ e, hj]
      by_cases q : j < k
      · rw [if_pos q, if_pos (by omega)]
      · rw [if_neg q, if_neg (by omega)]
def okA (b c n : Nat) (s l f p : Int) (H : fl_H) : Prop := shN s l ∧ lkr b H s l f n = 0 ∧ ∀ j, j < n → okc c H s f p j
theorem cs_plan {m n : Nat} {H : fl_H} {s l f : Int} (hs : fl_w s = s) (hl : fl_w l = l) (hf : fl_w f = f) (t : TX H) (en : H 95 1 = (n : Int)) : ck (cm_pg X xs) m cm_m112 [.index 0, fl_t s, fl_t l, fl_t f] H (fun r H1 => ((∃ x, r = some x) ∧ ¬ okA 61 63 n s l f (H 95 0) H ∧ H1 = H) ∨ ((n = 0 ∨ okA 61 63 n s l f (H 95 0) H) ∧ plR n s f H r H1)) := by
  have bd := z_bd t
  have e3 : H 3 0 = (n : Int) := by rw [TX_1 t, en]
  refine ve_GoodsBook_plan_0 (fun m1 _ => ?_)
  rw [e3]
  refine ck_mono (cs_refuse (X := X) (xs := xs) hs hl hf (by omega) (TX_she t)) (fun r1 H1 h1 => ?_)
  obtain ⟨e, h⟩ := h1
  rw [e]
  rcases h with ⟨a, b⟩ | ⟨a, b, c, d⟩ | ⟨a, b, d⟩
  · exact ⟨_, b, fun q => absurd q (by decide), fun _ => Or.inl ⟨⟨_, rfl⟩, fun k => a k.1, rfl⟩⟩
  · have n0 : n = 0 := by omega
    subst n0
    exact ⟨_, d, fun _ => cl_pl1 (X := X) (xs := xs) t en (fun h => by omega) 0 0 rfl m (fun j hj => by omega) (fun N' _ lv l0 l1 l2 l3 => vt_mono (Nat.le_refl _) (fun r2 H2 h2 => Or.inr ⟨Or.inl rfl, h2⟩) (cl_pl2 (X := X) (xs := xs) (s := s) (f := f) t en (fun h => by omega) 0 0 rfl N' H (fun _ _ => rfl) (fun j => by rw [if_neg (by omega)]) lv l0 l1 l2 l3)) (fun ⟨j, hj, _⟩ => by omega), fun q => absurd w_0 q⟩
  · refine ⟨_, d, ?_⟩
    rw [lkr_w]
    refine ⟨fun q => ?_, fun q => Or.inl ⟨⟨_, rfl⟩, fun k => q k.2.1, rfl⟩⟩
    obtain ⟨b1, b2, b3⟩ := lkr_0 q
    have bb := (TX_she t).1 s.toNat (by have := a.1; omega)
    have b4 : f ≤ H 62 s.toNat - n := b3
    have hb : 0 < n → (0 ≤ s ∧ s ≤ 3) ∧ 0 ≤ f ∧ f + n ≤ 16 := fun _ => ⟨a.1, b2, by omega⟩
    exact cl_pl1 (X := X) (xs := xs) t en hb n 0 (by omega) m (fun j hj => by omega) (fun N' ha lv l0 l1 l2 l3 => vt_mono (Nat.le_refl _) (fun r2 H2 h2 => Or.inr ⟨Or.inr ⟨a, q, ha⟩, h2⟩) (cl_pl2 (X := X) (xs := xs) (s := s) (f := f) t en hb n 0 (by omega) N' H (fun _ _ => rfl) (fun j => by rw [if_neg (by omega)]) lv l0 l1 l2 l3)) (fun ⟨j, hj, hn⟩ => Or.inl ⟨⟨_, rfl⟩, fun k => hn (k.2.2 j hj), rfl⟩)
-- ---- the reference
theorem rl_pl1 {H : fl_H} (hw : wf (H 95)) {s f : Int} {n : Nat} (en : H 95 1 = (n : Int)) (hi : ∀ i, i < 64 → fl_w (H 109 i) = H 109 i) (hb : 0 < n → (0 ≤ s ∧ s ≤ 3) ∧ 0 ≤ f ∧ f + n ≤ 16) {Q : Option Int → fl_H → Prop} : ∀ (d k : Nat), k + d = n → ∀ N, (∀ j, j < k → okc 109 H s f (H 95 0) j) → (∀ N', (∀ j, j < n → okc 109 H s f (H 95 0) j) → hd_GoodsBookModel_plan_94_80 (cm_pg X xs) N' H s f 0 Q) → ((∃ j, j < n ∧ ¬ okc 109 H s f (H 95 0) j) → Q (some (-2)) H) → hd_GoodsBookModel_plan_94_36 (cm_pg X xs) N H s f (k : Int) Q
  | 0, k, hk, N, ha, K1, K2 => by
    have bd := hw.1
    unfold zr at bd
    have ek : k = n := by omega
    subst ek
    refine vh_GoodsBookModel_plan_94_36 ?_
    rw [en, fl_wi (x := (k : Int)) (by omega) (by omega)]
    exact ⟨fun _ => K1 N ha, fun h => absurd (by omega) h⟩
  | d + 1, k, hk, N, ha, K1, K2 => by
    have bd := hw.1
    unfold zr at bd
    obtain ⟨b1, b2, b3⟩ := hb (by omega)
    have ei : (16 * s + f + (k : Int)).toNat = 16 * s.toNat + f.toNat + k := by omega
    refine vh_GoodsBookModel_plan_94_36 ?_
    rw [en, fl_wi (x := (n : Int)) (by omega) (by omega), fl_wi (x := (k : Int)) (by omega) (by omega), show ((k : Int) + 1) = ((k + 1 : Nat) : Int) by omega, fl_wi (x := 16 * s + f + (k : Int)) (by omega) (by omega), ei]
    refine ⟨fun h => by omega, fun _ _ m1 _ => ve_GoodsBookModel_isChoice_94 ⟨_, rfl, ?_⟩⟩
    have ew : fl_w (H 109 (16 * s.toNat + f.toNat + k)) = H 109 (16 * s.toNat + f.toNat + k) := hi _ (by omega)
    simp only [fb_0, ew]
    rw [fl_wi (x := 2 * H 95 0) (by omega) (by omega)]
    refine ⟨fun q => K2 ⟨k, by omega, q⟩, fun q m _ => rl_pl1 hw en hi hb d (k + 1) (by omega) m (fun j hj => ?_) K1 K2⟩
    by_cases e : j = k
    · rw [e]; exact Classical.not_not.mp q
    · exact ha j (by omega)
def rlR (n : Nat) (s f : Int) (H : fl_H) (r : Option Int) (H' : fl_H) : Prop := (∃ x, r = some x) ∧ (∀ c, c ≠ 95 → H' c = H c) ∧ ∀ j, H' 95 j = if 62 ≤ j ∧ j < 62 + n then itm 109 H s f (j - 62) else H 95 j
theorem rl_pl2 {H : fl_H} (hw : wf (H 95)) {s f : Int} {n : Nat} (en : H 95 1 = (n : Int)) (ho : ∀ j, j < n → okc 109 H s f (H 95 0) j) (hb : 0 < n → (0 ≤ s ∧ s ≤ 3) ∧ 0 ≤ f ∧ f + n ≤ 16) : ∀ (d k : Nat), k + d = n → ∀ N G, (∀ c, c ≠ 95 → G c = H c) → (∀ j, G 95 j = if 62 ≤ j ∧ j < 62 + k then itm 109 H s f (j - 62) else H 95 j) → hd_GoodsBookModel_plan_94_80 (cm_pg X xs) N G s f (k : Int) (rlR n s f H)
  | 0, k, hk, N, G, hc, hj => by
    have bd := hw.1
    unfold zr at bd
    have ek : k = n := by omega
    subst ek
    have e3 : G 95 1 = (k : Int) := by rw [hj, if_neg (by omega), en]
    refine vh_GoodsBookModel_plan_94_80 ?_
    rw [e3, fl_wi (x := (k : Int)) (by omega) (by omega)]
    refine ⟨fun _ m1 _ => ck_mono (rm_count (X := X) (xs := xs) (n := k) w_4 (by omega) e3 (fun g hg => ?_)) (fun r2 H2 h2 => ⟨_, h2.1, ⟨_, rfl⟩, by rw [h2.2]; exact hc, by rw [h2.2]; exact hj⟩), fun h => absurd (by omega) h⟩
    rw [hj, if_pos (by omega), show 62 + g - 62 = g by omega]
    have := ho g hg
    unfold okc at this
    omega
  | d + 1, k, hk, N, G, hc, hj => by
    have bd := hw.1
    unfold zr at bd
    have e3 : G 95 1 = (n : Int) := by rw [hj, if_neg (by omega), en]
    obtain ⟨b1, b2, b3⟩ := hb (by omega)
    have ei : (16 * s + f + (k : Int)).toNat = 16 * s.toNat + f.toNat + k := by omega
    refine vh_GoodsBookModel_plan_94_80 ?_
    rw [e3, fl_wi (x := (n : Int)) (by omega) (by omega), fl_wi (x := (k : Int)) (by omega) (by omega), show ((k : Int) + 1) = ((k + 1 : Nat) : Int) by omega, fl_wi (x := 16 * s + f + (k : Int)) (by omega) (by omega), ei, fl_wi (x := 62 + (k : Int)) (by omega) (by omega), show (62 + (k : Int)).toNat = 62 + k by omega]
    refine ⟨fun h => by omega, fun _ _ _ H10 e10 m2 _ => rl_pl2 hw en ho hb d (k + 1) (by omega) m2 H10 (fun c q => by rw [e10, fl_up_cell _ _ _ _ q]; exact hc c q) (fun j => ?_)⟩
    rw [e10]
    by_cases e : j = 62 + k
    · rw [e, fl_up_at, if_pos (by omega), hc 109 (by omega), show 62 + k - 62 = k by omega]; rfl
    · rw [fl_up_i _ _ _ _ e, hj]
      by_cases q : 62 ≤ j ∧ j < 62 + k
      · rw [if_pos q, if_pos (by omega)]
      · rw [if_neg q, if_neg (by omega)]
theorem rs_plan {m n : Nat} {H : fl_H} {s l f : Int} (hs : fl_w s = s) (hl : fl_w l = l) (hf : fl_w f = f) (hw : wf (H 95)) (t : ∀ i, i < 4 → H 61 i = H 107 i ∧ -1 ≤ H 61 i ∧ H 61 i ≤ 2 ∧ H 62 i = H 108 i ∧ 0 ≤ H 62 i ∧ H 62 i ≤ 16) (hi : ∀ i, i < 64 → fl_w (H 109 i) = H 109 i) (en : H 95 1 = (n : Int)) : ck (cm_pg X xs) m cm_m240 [.index 94, fl_t s, fl_t l, fl_t f] H (fun r H1 => ((∃ x, r = some x) ∧ ¬ okA 107 109 n s l f (H 95 0) H ∧ H1 = H) ∨ (okA 107 109 n s l f (H 95 0) H ∧ rlR n s f H r H1)) := by
  have bd := hw.1
  unfold zr at bd
  refine ve_GoodsBookModel_plan_94 (fun m2 _ => ck_mono (sr_named (X := X) (xs := xs) hs hl) (fun r1 H1 h1 => ⟨_, h1.1, ?_⟩))
  rw [h1.2]
  simp only [fb_0]
  refine ⟨fun q => Or.inl ⟨⟨_, rfl⟩, fun k => q k.1, by trivial⟩, fun q m3 _ => ?_⟩
  have a : shN s l := Classical.not_not.mp q
  rw [en]
  refine ck_mono (rs_lacks (X := X) (xs := xs) hs hl hf (by omega) a t) (fun r2 H2 h2 => ⟨_, h2.2, ?_⟩)
  rw [h2.1, lkr_w]
  have rg := lkr_rg 107 H s l f n
  refine ⟨fun q2 => ?_, fun q2 => Or.inl ⟨⟨_, rfl⟩, fun k => by have := k.2.1; omega, rfl⟩⟩
  have q : lkr 107 H s l f n = 0 := by omega
  obtain ⟨b1, b2, b3⟩ := lkr_0 q
  have bb := t s.toNat (by have := a.1; omega)
  have b4 : f ≤ H 108 s.toNat - n := b3
  have hb : 0 < n → (0 ≤ s ∧ s ≤ 3) ∧ 0 ≤ f ∧ f + n ≤ 16 := fun _ => ⟨a.1, b2, by omega⟩
  exact rl_pl1 (X := X) (xs := xs) hw en hi hb n 0 (by omega) m (fun j hj => by omega) (fun N' ha lv l0 l1 l2 l3 => vt_mono (Nat.le_refl _) (fun r2 H2 h2 => Or.inr ⟨⟨a, q, ha⟩, h2⟩) (rl_pl2 (X := X) (xs := xs) (s := s) (f := f) hw en ha hb n 0 (by omega) N' H (fun _ _ => rfl) (fun j => by rw [if_neg (by omega)]) lv l0 l1 l2 l3)) (fun ⟨j, hj, hn⟩ => Or.inl ⟨⟨_, rfl⟩, fun k => hn (k.2.2 j hj), rfl⟩)
theorem tx_plan {v1 v2 v3 : Int} (h1 : fl_w v1 = v1) (h2 : fl_w v2 = v2) (h3 : fl_w v3 = v3) : tw X xs TX false cm_m112 cm_m240 [.index 0, fl_t v1, fl_t v2, fl_t v3] [.index 94, fl_t v1, fl_t v2, fl_t v3] := fun m H t => by
  have bd := z_bd t
  have hw := TX_wf t
  obtain ⟨s1, s2⟩ := TX_she t
  obtain ⟨n, en⟩ : ∃ n : Nat, H 95 1 = (n : Int) := ⟨(H 95 1).toNat, by omega⟩
  refine ck_mono (cs_plan (X := X) (xs := xs) h1 h2 h3 t en) (fun r H1 h => ?_)
  have oc : ∀ c, c ≠ 0 → c ≠ 19 → c ≠ 90 → H1 c = H c := fun c p q u => by
    rcases h with ⟨-, -, e⟩ | ⟨-, -, F, e, e2, -⟩
    · rw [e]
    · rw [e, fgP_c _ p u, e2 c q]
  have ex : ∃ x, r = some x := by
    rcases h with ⟨e, -⟩ | ⟨-, e, -⟩
    · exact e
    · exact e
  have e95 : H1 95 = H 95 := oc 95 (by omega) (by omega) (by omega)
  have e109 : H1 109 = H 109 := oc 109 (by omega) (by omega) (by omega)
  have e107 : H1 107 = H 107 := oc 107 (by omega) (by omega) (by omega)
  have e108 : H1 108 = H 108 := oc 108 (by omega) (by omega) (by omega)
  refine ⟨ex, fun m' => ck_mono (rs_plan (X := X) (xs := xs) h1 h2 h3 (by rw [e95]; exact hw) (fun i hi => by rw [oc 61 (by omega) (by omega) (by omega), oc 62 (by omega) (by omega) (by omega), e107, e108]; exact s1 i hi) (fun i hi => by rw [e109, ← (s2 i hi).1]; exact (s2 i hi).2) (by rw [e95]; exact en)) (fun r' H2 k => ⟨?_, fun e => absurd e (by decide), ?_⟩)⟩
  · rcases k with ⟨e, -⟩ | ⟨-, e, -⟩
    · exact e
    · exact e
  rw [e95] at k
  have eI : ∀ j, shN v1 v2 → lkr 61 H v1 v2 v3 n = 0 → j < n → itm 109 H1 v1 v3 j = itm 63 H v1 v3 j := fun j a q hj => by
    obtain ⟨b1, b2, b3⟩ := lkr_0 q
    have bb := s1 v1.toNat (by have := a.1; omega)
    have b4 : v3 ≤ H 62 v1.toNat - n := b3
    have a1 := a.1
    unfold itm
    rw [e109]
    exact (s2 _ (by omega)).1.symm
  have eL : shN v1 v2 → lkr 107 H1 v1 v2 v3 n = lkr 61 H v1 v2 v3 n := fun a => by
    rw [← lkr_she (H := H) ⟨s1, s2⟩ a.1]
    unfold lkr
    rw [e107, show H1 (107 + 1) = H (107 + 1) from e108]
  have eA : okA 107 109 n v1 v2 v3 (H 95 0) H1 ↔ okA 61 63 n v1 v2 v3 (H 95 0) H := by
    constructor
    · intro ⟨a, b, c⟩
      have b' := (eL a).symm.trans b
      refine ⟨a, b', fun j hj => ?_⟩
      have := c j hj
      unfold okc at this ⊢
      rw [eI j a b' hj] at this
      exact this
    · intro ⟨a, b, c⟩
      refine ⟨a, (eL a).trans b, fun j hj => ?_⟩
      have := c j hj
      unfold okc at this ⊢
      rw [eI j a b hj]
      exact this
  rcases h with ⟨a1, a2, a3⟩ | ⟨a1, a2, F, a3, a4, a5⟩
  · rcases k with ⟨b1, b2, b3⟩ | ⟨b1, -⟩
    · rw [b3, a3]; exact t
    · exact absurd (eA.mp b1) a2
  · have key : (∀ c, c ≠ 95 → H2 c = H1 c) ∧ (∀ j, H2 95 j = if 62 ≤ j ∧ j < 62 + n then itm 63 H v1 v3 (j - 62) else H 95 j) ∧ (∀ j, j < n → okc 63 H v1 v3 (H 95 0) j) := by
      rcases k with ⟨b1, b2, b3⟩ | ⟨b1, b2, b3, b4⟩
      · have n0 : n = 0 := by
          rcases a1 with q | q
          · exact q
          · exact absurd (eA.mpr q) b2
        exact ⟨fun c _ => by rw [b3], fun j => by rw [if_neg (by omega), b3, e95], fun j hj => by omega⟩
      · have b1' := eA.mp b1
        refine ⟨b3, fun j => ?_, b1'.2.2⟩
        rw [b4, e95]
        by_cases q : 62 ≤ j ∧ j < 62 + n
        · rw [if_pos q, if_pos q, eI _ b1'.1 b1'.2.1 (by omega)]
        · rw [if_neg q, if_neg q]
    obtain ⟨k1, k2, k3⟩ := key
    have z0 : ∀ j, ¬ (62 ≤ j ∧ j < 68) → H2 95 j = H 95 j := fun j hj => by rw [k2, if_neg (by omega)]
    refine TX_cho t (fun c p q u v w _ => (k1 c w).trans (oc c p q u)) (fun i hi => ?_) (fun i _ _ _ => ?_) z0 (rkn_c (TX_rkn t) ?_) (chA_mk (fun g g1 g6 => ?_) (fun g g1 => ?_) (fun g g6 g1 => ?_)) ?_
    · rw [k1 0 (by omega), a3, fgP_0 _ hi, a4 0 (by omega)]
    · rw [k1 94 (by omega), oc 94 (by omega) (by omega) (by omega)]
    · rw [k1 96 (by omega), oc 96 (by omega) (by omega) (by omega)]
    · rw [z0 1 (by omega)] at g1
      rw [k1 19 (by omega), a3, fgP_c _ (by omega) (by omega), a5, if_pos (by omega), k2, if_pos (by omega), show 62 + g - 62 = g by omega]
    · rw [z0 1 (by omega)] at g1
      rw [z0 0 (by omega), k2, if_pos (by omega), show 62 + g - 62 = g by omega]
      exact k3 g (by omega)
    · rw [z0 1 (by omega)] at g1
      rw [k1 19 (by omega), a3, fgP_c _ (by omega) (by omega), a5, if_neg (by omega)]
      exact (chA_at (TX_chA t) g6).2 g1
    · rw [k1 90 (by omega), k1 0 (by omega), a3]; exact fgP_k _
end
end
