noncomputable section
/-! L3: what is known stays right behind a call that changes contents. -/
section
variable {X : Term} {xs : List Int32}
theorem slt_cho : ∀ g : Nat, g < 6 → vld (62 + g) = true ∧ slt (62 + g) = (18, g) := by decide +kernel
def oCh (f : fO) : Prop := ∀ z, wf z → chz z → chz (f z).2 ∧ (∀ g : Nat, pln (f z).2 g = pln z g) ∧ ∀ k : Nat, (k : Int) < z 1 → (f z).2 (62 + k) = z (62 + k)
theorem och_of {z w : Nat → Int} (hw : wf z) (h : chz z) (e : ∀ j, 62 ≤ j → j < 68 → w j = z j) (h1 : w 1 = z 1) (h0 : z 0 ≤ w 0) : chz w ∧ (∀ g : Nat, pln w g = pln z g) ∧ ∀ k : Nat, (k : Int) < z 1 → w (62 + k) = z (62 + k) := by
  have bd := hw.1
  unfold zr at bd
  have e' : ∀ k : Nat, (k : Int) < z 1 → w (62 + k) = z (62 + k) := fun k hk => e _ (by omega) (by omega)
  refine ⟨fun g hg => ?_, fun g => ?_, e'⟩
  · rw [h1] at hg
    have := h g hg
    rw [e' g hg]; omega
  · unfold pln
    by_cases q : (g : Int) < z 1
    · rw [if_pos (by rw [h1]; exact q), if_pos q, e' g q]
    · rw [if_neg (by rw [h1]; exact q), if_neg q]
theorem oPage_ch (v : Int) : oCh (oPage v) := fun z hw h => by
  unfold oPage
  have bd := hw.1
  unfold zr at bd
  by_cases c : 0 ≤ v ∧ v ≤ 60
  · rw [if_pos c]
    by_cases d : z 0 < 3
    · rw [if_pos d]
      refine och_of hw h (fun j a b => ?_) ?_ ?_
      · show upz (upz z (10 + (z 0).toNat) v) 0 (z 0 + 1) j = z j
        rw [upz_ne _ _ (by omega), upz_ne _ _ (by omega)]
      · show upz (upz z (10 + (z 0).toNat) v) 0 (z 0 + 1) 1 = z 1
        rw [upz_ne _ _ (by omega), upz_ne _ _ (by omega)]
      · show z 0 ≤ upz (upz z (10 + (z 0).toNat) v) 0 (z 0 + 1) 0
        rw [upz_at]; omega
    · rw [if_neg d]; exact och_of hw h (fun _ _ _ => rfl) rfl (Int.le_refl _)
  · rw [if_neg c]; exact och_of hw h (fun _ _ _ => rfl) rfl (Int.le_refl _)
theorem oSeen_ch (p v : Int) : oCh (oSeen p v) := fun z hw h => by
  unfold oSeen
  have bd := hw.1
  unfold zr at bd
  by_cases c : (0 ≤ p ∧ p ≤ z 0 - 1) ∧ (0 ≤ v ∧ v ≤ 60)
  · rw [if_pos c]
    have k : ∀ j, j ≠ 10 + p.toNat → upz z (10 + p.toNat) v j = z j := fun j hj => upz_ne _ _ hj
    exact och_of hw h (fun j a b => k j (by omega)) (k 1 (by omega)) (Int.le_of_eq (k 0 (by omega)).symm)
  · rw [if_neg c]; exact och_of hw h (fun _ _ _ => rfl) rfl (Int.le_refl _)
theorem oSet_ch (a v : Int) : oCh (oSet a v) := fun z hw h => by
  unfold oSet
  by_cases c : (0 ≤ a ∧ a ≤ 2) ∧ (0 ≤ v ∧ v ≤ if a = 0 then 99 else 999)
  · rw [if_pos c]
    have k : ∀ j, j ≠ 4 + a.toNat → upz z (4 + a.toNat) v j = z j := fun j hj => upz_ne _ _ hj
    exact och_of hw h (fun j _ _ => k j (by omega)) (k 1 (by omega)) (Int.le_of_eq (k 0 (by omega)).symm)
  · rw [if_neg c]; exact och_of hw h (fun _ _ _ => rfl) rfl (Int.le_refl _)
theorem oExtra_ch (b v : Int) : oCh (oExtra b v) := fun z hw h => by
  unfold oExtra
  by_cases c : (0 ≤ b ∧ b ≤ z 2 - 1) ∧ (-99 ≤ v ∧ v ≤ 99)
  · rw [if_pos c]
    by_cases d : z (68 + 4 * b.toNat) < 3
    · rw [if_pos d]
      have k : ∀ j, j ≠ 71 + 4 * b.toNat → upz z (71 + 4 * b.toNat) v j = z j := fun j hj => upz_ne _ _ hj
      exact och_of hw h (fun j _ _ => k j (by omega)) (k 1 (by omega)) (Int.le_of_eq (k 0 (by omega)).symm)
    · rw [if_neg d]; exact och_of hw h (fun _ _ _ => rfl) rfl (Int.le_refl _)
  · rw [if_neg c]; exact och_of hw h (fun _ _ _ => rfl) rfl (Int.le_refl _)
theorem oBond_ch (k a b e : Int) : oCh (oBond k a b e) := fun z hw h => by
  unfold oBond
  by_cases c : (0 ≤ k ∧ k ≤ 5) ∧ (0 ≤ a ∧ a ≤ z 1 - 1) ∧ (0 ≤ b ∧ b ≤ z 1 - 1) ∧ ¬ a = b ∧ (-99 ≤ e ∧ e ≤ 99) ∧ (3 ≤ k → e = 0)
  · rw [if_pos c]
    by_cases d : z 2 < 12
    · rw [if_pos d]
      have k : ∀ j, j ≠ 2 → j < 68 → apz [2, k, a, b, e] z j = z j := fun j q1 q2 => by
        show upz (upz (upz (upz (upz z _ k) _ a) _ b) _ e) 2 _ j = _
        rw [upz_ne _ _ q1, upz_ne _ _ (by omega), upz_ne _ _ (by omega), upz_ne _ _ (by omega), upz_ne _ _ (by omega)]
      exact och_of hw h (fun j _ _ => k j (by omega) (by omega)) (k 1 (by omega) (by omega)) (Int.le_of_eq (k 0 (by omega) (by omega)).symm)
    · rw [if_neg d]; exact och_of hw h (fun _ _ _ => rfl) rfl (Int.le_refl _)
  · rw [if_neg c]; exact och_of hw h (fun _ _ _ => rfl) rfl (Int.le_refl _)
theorem oSize_ch (g s w y v : Int) : oCh (oSize g s w y v) := fun z hw h => by
  unfold oSize
  have bd := hw.1
  unfold zr at bd
  by_cases c : (0 ≤ g ∧ g ≤ z 1 - 1) ∧ (0 ≤ s ∧ s ≤ 1) ∧ (1 ≤ w ∧ w ≤ 4) ∧ (1 ≤ y ∧ y ≤ 4) ∧ (0 ≤ v ∧ v ≤ 999)
  · rw [if_pos c]
    have k : ∀ j, j < 14 ∨ 62 ≤ j → upz (upz (upz z (16 + 8 * g.toNat + 3 * s.toNat) w) (17 + 8 * g.toNat + 3 * s.toNat) y) (18 + 8 * g.toNat + 3 * s.toNat) v j = z j := fun j hj => by
      rw [upz_ne _ _ (by omega), upz_ne _ _ (by omega), upz_ne _ _ (by omega)]
    exact och_of hw h (fun j _ _ => k j (by omega)) (k 1 (by omega)) (Int.le_of_eq (k 0 (by omega)).symm)
  · rw [if_neg c]; exact och_of hw h (fun _ _ _ => rfl) rfl (Int.le_refl _)
theorem oYear_lk (g s v : Int) (z : Nat → Int) : ∀ j, j ≠ 3 → j < 116 → (oYear g s v z).2 j = z j := fun j q1 q2 => by
  unfold oYear
  by_cases c : (0 ≤ g ∧ g ≤ z 1 - 1) ∧ (0 ≤ s ∧ s ≤ 1) ∧ (0 ≤ v ∧ v ≤ 999)
  · rw [if_pos c]
    by_cases d : z 3 < 12
    · rw [if_pos d]
      show upz (upz (upz (upz z _ g) _ s) _ v) 3 _ j = _
      rw [upz_ne _ _ q1, upz_ne _ _ (by omega), upz_ne _ _ (by omega), upz_ne _ _ (by omega)]
    · rw [if_neg d]
  · rw [if_neg c]
theorem oYear_ch (g s v : Int) : oCh (oYear g s v) := fun z hw h =>
  och_of hw h (fun j _ _ => oYear_lk g s v z j (by omega) (by omega)) (oYear_lk g s v z 1 (by omega) (by omega)) (by rw [oYear_lk g s v z 0 (by omega) (by omega)]; omega)
/-- a good put in -/
theorem och_good {z : Nat → Int} (hw : wf z) (h : chz z) (h6 : z 1 < 6) (k f w0 h0 s0 w1 h1 s1 : Int) : chz (apz [1, k, f, w0, h0, s0, w1, h1, s1] z) ∧ (∀ g : Nat, pln (apz [1, k, f, w0, h0, s0, w1, h1, s1] z) g = pln z g) ∧ ∀ i : Nat, (i : Int) < z 1 → apz [1, k, f, w0, h0, s0, w1, h1, s1] z (62 + i) = z (62 + i) := by
  have bd := hw.1
  unfold zr at bd
  have q1 : apz [1, k, f, w0, h0, s0, w1, h1, s1] z 1 = z 1 + 1 := upz_at _ _ _
  have q2 : apz [1, k, f, w0, h0, s0, w1, h1, s1] z (62 + (z 1).toNat) = 0 := (upz_ne _ _ (by omega)).trans (upz_at _ _ _)
  have q3 : ∀ j, j ≠ 1 → j ≠ 62 + (z 1).toNat → (j < 14 ∨ 62 ≤ j) → apz [1, k, f, w0, h0, s0, w1, h1, s1] z j = z j := fun j a b c => by
    show upz (upz (upz (upz (upz (upz (upz (upz (upz (upz z _ k) _ f) _ w0) _ h0) _ s0) _ w1) _ h1) _ s1) _ 0) 1 _ j = _
    rw [upz_ne _ _ a, upz_ne _ _ b, upz_ne _ _ (by omega), upz_ne _ _ (by omega), upz_ne _ _ (by omega), upz_ne _ _ (by omega), upz_ne _ _ (by omega), upz_ne _ _ (by omega), upz_ne _ _ (by omega), upz_ne _ _ (by omega)]
  have q4 : ∀ i : Nat, (i : Int) < z 1 → apz [1, k, f, w0, h0, s0, w1, h1, s1] z (62 + i) = z (62 + i) := fun i hi => q3 _ (by omega) (by omega) (by omega)
  refine ⟨fun g hg => ?_, fun g => ?_, q4⟩
  · rw [q1] at hg
    rw [q3 0 (by omega) (by omega) (by omega)]
    by_cases e : g = (z 1).toNat
    · rw [e, q2]; omega
    · rw [q4 g (by omega)]; exact h g (by omega)
  · unfold pln
    rw [q1]
    by_cases e : g = (z 1).toNat
    · rw [if_pos (by omega), e, q2, if_neg (by omega)]; rfl
    · by_cases q : (g : Int) < z 1
      · rw [if_pos (by omega), if_pos q, q4 g q]
      · rw [if_neg (by omega), if_neg q]
theorem oGood_ch (k f : Int) : oCh (oGood k f) := fun z hw h => by
  unfold oGood
  by_cases c : (0 ≤ k ∧ k ≤ 3) ∧ (0 ≤ f ∧ f ≤ 3)
  · rw [if_pos c]
    by_cases d : z 1 < 6
    · rw [if_pos d]; exact och_good hw h d k f 1 1 0 1 1 0
    · rw [if_neg d]; exact och_of hw h (fun _ _ _ => rfl) rfl (Int.le_refl _)
  · rw [if_neg c]; exact och_of hw h (fun _ _ _ => rfl) rfl (Int.le_refl _)
-- sizes that stay
def oSz (f : fO) : Prop := ∀ z, wf z → ∀ j, j = 1 ∨ (14 ≤ j ∧ j < 62) → (f z).2 j = z j
theorem oPage_sz (v : Int) : oSz (oPage v) := fun z hw j hj => by
  have bd := hw.1
  unfold zr at bd
  unfold oPage
  by_cases c : 0 ≤ v ∧ v ≤ 60
  · rw [if_pos c]
    by_cases d : z 0 < 3
    · rw [if_pos d]
      show upz (upz z _ v) 0 _ j = _
      rw [upz_ne _ _ (by omega), upz_ne _ _ (by omega)]
    · rw [if_neg d]
  · rw [if_neg c]
theorem oSeen_sz (p v : Int) : oSz (oSeen p v) := fun z hw j hj => by
  have bd := hw.1
  unfold zr at bd
  unfold oSeen
  by_cases c : (0 ≤ p ∧ p ≤ z 0 - 1) ∧ (0 ≤ v ∧ v ≤ 60)
  · rw [if_pos c]; exact upz_ne _ _ (by omega)
  · rw [if_neg c]
theorem oSet_sz (a v : Int) : oSz (oSet a v) := fun z hw j hj => by
  unfold oSet
  by_cases c : (0 ≤ a ∧ a ≤ 2) ∧ (0 ≤ v ∧ v ≤ if a = 0 then 99 else 999)
  · rw [if_pos c]; exact upz_ne _ _ (by omega)
  · rw [if_neg c]
theorem oExtra_sz (b v : Int) : oSz (oExtra b v) := fun z hw j hj => by
  unfold oExtra
  by_cases c : (0 ≤ b ∧ b ≤ z 2 - 1) ∧ (-99 ≤ v ∧ v ≤ 99)
  · rw [if_pos c]
    by_cases d : z (68 + 4 * b.toNat) < 3
    · rw [if_pos d]; exact upz_ne _ _ (by omega)
    · rw [if_neg d]
  · rw [if_neg c]
theorem oBond_sz (k a b e : Int) : oSz (oBond k a b e) := fun z hw j hj => by
  unfold oBond
  by_cases c : (0 ≤ k ∧ k ≤ 5) ∧ (0 ≤ a ∧ a ≤ z 1 - 1) ∧ (0 ≤ b ∧ b ≤ z 1 - 1) ∧ ¬ a = b ∧ (-99 ≤ e ∧ e ≤ 99) ∧ (3 ≤ k → e = 0)
  · rw [if_pos c]
    by_cases d : z 2 < 12
    · rw [if_pos d]
      show upz (upz (upz (upz (upz z _ k) _ a) _ b) _ e) 2 _ j = _
      rw [upz_ne _ _ (by omega), upz_ne _ _ (by omega), upz_ne _ _ (by omega), upz_ne _ _ (by omega), upz_ne _ _ (by omega)]
    · rw [if_neg d]
  · rw [if_neg c]
theorem oYear_sz (g s v : Int) : oSz (oYear g s v) := fun z _ j hj => oYear_lk g s v z j (by omega) (by omega)
theorem kmd_lk {z w : Nat → Int} {H G : fl_H} (h : zlk z w) (hp : ∀ k : Nat, (k : Int) < z 1 → w (62 + k) = z (62 + k)) (hw : wf z) (h0 : G 0 14 = H 0 14) (h1 : G 92 = H 92) (h2 : G 93 = H 93) (k : kmd z H) : kmd w G := by
  have e1 : w 1 = z 1 := h 1 (by omega)
  rcases k with a | ⟨g, hg, a, c, A, R, b1, b2, b3, b4, b5⟩
  · exact Or.inl (by rw [h0]; exact a)
  · refine Or.inr ⟨g, by rw [e1]; exact hg, by rw [h0]; exact a, c, A, R, b1, ?_, by rw [h1]; exact b3, by rw [h1]; exact b4, by rw [h2]; exact b5⟩
    exact zme_lk (fun k hk => (hp k (by rw [e1] at hk; omega)).symm) (xk_me h hw b2)
theorem TX_op {fg : fl_H → fl_H} {f : fO} {kk : Bool} {H H1 H2 : fl_H} {r r' : Option Int} (t : TX H) (he : oEq f) (hwf : oWf f) (hf : fgN fg) (hch : oCh f) (hN : ∀ G c, c ≠ 0 → c ≠ 64 → c ≠ 88 → c ≠ 90 → fg G c = G c) (hS : (kk = true ∧ ∀ G, fg G 64 5 = 0) ∨ (kk = false ∧ oSz f ∧ ∀ G, fg G 64 = G 64)) (hK : (∀ G, fg G 88 0 = 0 ∧ fg G 90 0 = 0 ∧ fg G 0 14 = -1) ∨ ((∀ z j, j ≠ 3 → j < 116 → (f z).2 j = z j) ∧ ∀ G, fg G = G)) (hc : cP fg f H r H1) (hr : rP kk f H1 r' H2) : (∃ x, r = some x) ∧ r' = r ∧ TX H2 := by
  have bd := z_bd t
  obtain ⟨p1, p2, T2⟩ := T1_op t.1 he hwf hf hc hr
  obtain ⟨G, g1, g2, g3, g4, g5⟩ := hc
  obtain ⟨r1, r2, r3, r4⟩ := hr
  have hw := TX_wf t
  have c1 : ∀ c, c ≠ 0 → c ≠ 64 → c ≠ 88 → c ≠ 90 → ¬ (1 ≤ c ∧ c ≤ 19) → H1 c = H c := fun c a b d e q => by
    rcases g5 with k | ⟨k, -⟩
    · rw [k, hN G c a b d e]; exact funext (fun i => g1 c i q)
    · rw [k]
  have c2 : ∀ c, c ≠ 95 → c ≠ 96 → H2 c = H1 c := r3
  have e95 : H1 95 = H 95 := c1 95 (by omega) (by omega) (by omega) (by omega) (by omega)
  rw [e95] at r2
  have c12 : ∀ c, c ≠ 0 → c ≠ 64 → c ≠ 88 → c ≠ 90 → ¬ (1 ≤ c ∧ c ≤ 19) → c ≠ 95 → c ≠ 96 → H2 c = H c := fun c a b d e q u v => (c2 c u v).trans (c1 c a b d e q)
  have c19 : ∀ g, g < 6 → H2 19 g = H 19 g := fun g hg => by
    rw [c2 19 (by omega) (by omega)]
    rcases g5 with k | ⟨k, -⟩
    · rw [k, hN G 19 (by omega) (by omega) (by omega) (by omega)]
      obtain ⟨s1, s2⟩ := slt_cho g hg
      have q := g4 (62 + g) (by omega) (by omega)
      rw [cz_at (c := 19) (i := g) s1 (by rw [s2] <;> rfl) (by rw [s2] <;> rfl), cz_at (c := 19) (i := g) s1 (by rw [s2] <;> rfl) (by rw [s2] <;> rfl)] at q
      exact q
    · rw [k]
  obtain ⟨o1, o2, o3⟩ := hch (H 95) hw (TX_chA t).1
  have q := he (cz H 1) (H 95) t.1.1.2.2.2.2.2.1 hw
  -- what stays where the class changes nothing
  have st : H1 = H → G = H → ∀ j, ¬ (62 ≤ j ∧ j < 68) → (f (H 95)).2 j = H 95 j := fun _ k j hj => by
    rw [k] at g3
    exact ((q.2 j hj).symm.trans (g3 j hj).symm).trans (t.1.1.2.2.2.2.2.1 j hj)
  have hz : pln (f (H 95)).2 = pln (H 95) := funext o2
  obtain ⟨t1, t2, t3, t4, t5, t6, t7, t8, t9⟩ := t
  refine ⟨p1, p2, T2, ?_, ?_, ?_, ?_, ?_, ?_, ?_, ?_⟩
  · rw [r2]; exact ⟨o1, fun g hg => by rw [c19 g hg, o2 g]; exact t2.2 g hg⟩
  · rw [c12 94 (by omega) (by omega) (by omega) (by omega) (by omega) (by omega) (by omega)]; intro u; unfold chA; rw [c12 106 (by omega) (by omega) (by omega) (by omega) (by omega) (by omega) (by omega), c12 57 (by omega) (by omega) (by omega) (by omega) (by omega) (by omega) (by omega)]; exact t3 u
  · unfold she
    rw [c12 61 (by omega) (by omega) (by omega) (by omega) (by omega) (by omega) (by omega), c12 62 (by omega) (by omega) (by omega) (by omega) (by omega) (by omega) (by omega), c12 63 (by omega) (by omega) (by omega) (by omega) (by omega) (by omega) (by omega), c12 107 (by omega) (by omega) (by omega) (by omega) (by omega) (by omega) (by omega), c12 108 (by omega) (by omega) (by omega) (by omega) (by omega) (by omega) (by omega), c12 109 (by omega) (by omega) (by omega) (by omega) (by omega) (by omega) (by omega)]
    exact t4
  · -- fits of the class
    rw [r2]
    have e64 : H2 64 = H1 64 := c2 64 (by omega) (by omega)
    rcases g5 with k | ⟨k, k'⟩
    · rcases hS with ⟨-, u⟩ | ⟨-, u, v⟩
      · exact Or.inl (by rw [e64, k]; exact u G)
      · refine flI_ext (fun j a b => u _ hw j (by omega)) (u _ hw 1 (by omega)) bd.2.1.2 (flI_fr t5 (fun c a b => ?_))
        by_cases e : c = 64
        · rw [e, e64, k, v]; exact funext (fun i => g1 64 i (by omega))
        · exact c12 c (by omega) e (by omega) (by omega) (by omega) (by omega) (by omega)
    · have s := st k k'
      refine flI_ext (fun j a b => s j (by omega)) (s 1 (by omega)) bd.2.1.2 (flI_fr t5 (fun c a b => ?_))
      rw [c2 c (by omega) (by omega), k]
  · -- fits of the reference
    rw [r2]
    rcases r4 with ⟨-, u⟩ | ⟨u, v⟩
    · exact fun code hc _ => Or.inl (u code hc)
    · rcases hS with ⟨w, -⟩ | ⟨w, x, -⟩
      · have e2 := v w
        rw [e2, e95] at r2
        rw [← r2]
        exact rkn_c t6 (by rw [e2]; exact c1 96 (by omega) (by omega) (by omega) (by omega) (by omega))
      · exact rkn_ext (fun j a b => x _ hw j (by omega)) (x _ hw 1 (by omega)) (rkn_c t6 (u.trans (c1 96 (by omega) (by omega) (by omega) (by omega) (by omega))))
  · rw [r2]
    have e88 : H2 88 = H1 88 := c2 88 (by omega) (by omega)
    have e89 : H2 89 = H 89 := c12 89 (by omega) (by omega) (by omega) (by omega) (by omega) (by omega) (by omega)
    rcases g5 with k | ⟨k, k'⟩
    · rcases hK with u | ⟨u, v⟩
      · exact Or.inl (by rw [e88, k]; exact (u G).1)
      · exact xk_kbe (fun j hj => u _ j (by omega) (by omega)) hw (by rw [e88, k, v]; exact funext (fun i => g1 88 i (by omega))) e89 t7
    · exact xk_kbe (fun j hj => st k k' j (by omega)) hw (by rw [e88, k]) e89 t7
  · rw [r2]
    have e90 : H2 90 = H1 90 := c2 90 (by omega) (by omega)
    have e91 : H2 91 = H 91 := c12 91 (by omega) (by omega) (by omega) (by omega) (by omega) (by omega) (by omega)
    rcases g5 with k | ⟨k, k'⟩
    · rcases hK with u | ⟨u, v⟩
      · exact Or.inl (by rw [e90, k]; exact (u G).2.1)
      · exact xk_kst (fun j hj => u _ j (by omega) (by omega)) hz hw t2.1 (by rw [e90, k, v]; exact funext (fun i => g1 90 i (by omega))) e91 t8
    · exact xk_kst (fun j hj => st k k' j (by omega)) hz hw t2.1 (by rw [e90, k]) e91 t8
  · rw [r2]
    have e0 : H2 0 = H1 0 := c2 0 (by omega) (by omega)
    have e92 : H2 92 = H 92 := c12 92 (by omega) (by omega) (by omega) (by omega) (by omega) (by omega) (by omega)
    have e93 : H2 93 = H 93 := c12 93 (by omega) (by omega) (by omega) (by omega) (by omega) (by omega) (by omega)
    rcases g5 with k | ⟨k, k'⟩
    · rcases hK with u | ⟨u, v⟩
      · exact Or.inl (by rw [e0, k]; exact (u G).2.2)
      · exact kmd_lk (fun j hj => u _ j (by omega) (by omega)) o3 hw (by rw [e0, k, v]; exact g1 0 14 (by omega)) e92 e93 t9
    · exact kmd_lk (fun j hj => st k k' j (by omega)) o3 hw (by rw [e0, k]) e92 e93 t9
theorem tx_op {fg : fl_H → fl_H} {f : fO} {kk : Bool} {M1 M2 : cm_M} {a1 a2 : List Term} (he : oEq f) (hw : oWf f) (hf : fgN fg) (hch : oCh f) (hN : ∀ G c, c ≠ 0 → c ≠ 64 → c ≠ 88 → c ≠ 90 → fg G c = G c) (hS : (kk = true ∧ ∀ G, fg G 64 5 = 0) ∨ (kk = false ∧ oSz f ∧ ∀ G, fg G 64 = G 64)) (hK : (∀ G, fg G 88 0 = 0 ∧ fg G 90 0 = 0 ∧ fg G 0 14 = -1) ∨ ((∀ z j, j ≠ 3 → j < 116 → (f z).2 j = z j) ∧ ∀ G, fg G = G)) (h1 : ∀ m H, wf (cz H 1) → ck (cm_pg X xs) m M1 a1 H (cP fg f H)) (h2 : ∀ m H, wf (H 95) → ck (cm_pg X xs) m M2 a2 H (rP kk f H)) : tw X xs TX true M1 M2 a1 a2 := fun m H t =>
  ck_mono (h1 m H (T1_wfc t.1)) (fun r H1 h => by
    obtain ⟨G, g1, g2, g3, g4, g5⟩ := id h
    have e95 : H1 95 = H 95 := by
      rcases g5 with e | ⟨e, -⟩
      · rw [e]; exact funext (fun i => (hf G 95 i rfl).trans (g1 95 i (by decide)))
      · rw [e]
    exact ⟨⟨_, g2⟩, fun m' => ck_mono (h2 m' H1 (by rw [e95]; exact TX_wf t)) (fun r' H2 k => by
      obtain ⟨q1, q2, q3⟩ := TX_op t he hw hf hch hN hS hK h k
      obtain ⟨x, hx⟩ := q1
      exact ⟨⟨x, by rw [q2, hx]⟩, fun _ => q2, q3⟩)⟩)
theorem fgA_N (G : fl_H) (c : Nat) (a : c ≠ 0) (_ : c ≠ 64) (d : c ≠ 88) (e : c ≠ 90) : fgA G c = G c := by
  unfold fgA; rw [fl_up_cell _ _ _ _ a, fl_up_cell _ _ _ _ e, fl_up_cell _ _ _ _ d]
theorem fgS_N (G : fl_H) (c : Nat) (a : c ≠ 0) (b : c ≠ 64) (d : c ≠ 88) (e : c ≠ 90) : fgS G c = G c := by
  unfold fgS; rw [fl_up_cell _ _ _ _ a, fl_up_cell _ _ _ _ e, fl_up_cell _ _ _ _ d, fl_up_cell _ _ _ _ b]
theorem fgA_K (G : fl_H) : fgA G 88 0 = 0 ∧ fgA G 90 0 = 0 ∧ fgA G 0 14 = -1 := by
  unfold fgA
  exact ⟨by rw [fl_up_c _ _ _ _ (by omega), fl_up_c _ _ _ _ (by omega), fl_up_at], by rw [fl_up_c _ _ _ _ (by omega), fl_up_at], by rw [fl_up_at]⟩
theorem fgS_K (G : fl_H) : fgS G 88 0 = 0 ∧ fgS G 90 0 = 0 ∧ fgS G 0 14 = -1 := by
  unfold fgS
  exact ⟨by rw [fl_up_c _ _ _ _ (by omega), fl_up_c _ _ _ _ (by omega), fl_up_at], by rw [fl_up_c _ _ _ _ (by omega), fl_up_at], by rw [fl_up_at]⟩
theorem fgS_5 (G : fl_H) : fgS G 64 5 = 0 := by
  unfold fgS
  rw [fl_up_c _ _ _ _ (by omega), fl_up_c _ _ _ _ (by omega), fl_up_c _ _ _ _ (by omega), fl_up_at]
theorem fgA_64 (G : fl_H) : fgA G 64 = G 64 := by
  unfold fgA; rw [fl_up_cell _ _ _ _ (by omega), fl_up_cell _ _ _ _ (by omega), fl_up_cell _ _ _ _ (by omega)]
theorem tx_opA {f : fO} {M1 M2 : cm_M} {a1 a2 : List Term} (he : oEq f) (hw : oWf f) (hch : oCh f) (hs : oSz f) (h1 : ∀ m H, wf (cz H 1) → ck (cm_pg X xs) m M1 a1 H (cP fgA f H)) (h2 : ∀ m H, wf (H 95) → ck (cm_pg X xs) m M2 a2 H (rP false f H)) : tw X xs TX true M1 M2 a1 a2 :=
  tx_op he hw fgN_A hch fgA_N (Or.inr ⟨rfl, hs, fgA_64⟩) (Or.inl fgA_K) h1 h2
theorem tx_opS {f : fO} {M1 M2 : cm_M} {a1 a2 : List Term} (he : oEq f) (hw : oWf f) (hch : oCh f) (h1 : ∀ m H, wf (cz H 1) → ck (cm_pg X xs) m M1 a1 H (cP fgS f H)) (h2 : ∀ m H, wf (H 95) → ck (cm_pg X xs) m M2 a2 H (rP true f H)) : tw X xs TX true M1 M2 a1 a2 :=
  tx_op he hw fgN_S hch fgS_N (Or.inl ⟨rfl, fgS_5⟩) (Or.inl fgS_K) h1 h2
theorem tx_year {v1 v2 v3 : Int} (h1 : fl_w v1 = v1) (h2 : fl_w v2 = v2) (h3 : fl_w v3 = v3) : tw X xs TX true cm_m128 cm_m216 [.index 0, fl_t v1, fl_t v2, fl_t v3] [.index 94, fl_t v1, fl_t v2, fl_t v3] :=
  tx_op (oYear_eq _ _ _) (oYear_wf _ _ _) fgN_I (oYear_ch _ _ _) (fun _ _ _ _ _ _ => rfl) (Or.inr ⟨rfl, oYear_sz _ _ _, fun _ => rfl⟩) (Or.inr ⟨oYear_lk _ _ _, fun _ => rfl⟩) (fun m H t => zc_year h1 h2 h3 t) (fun m H t => zq_year h1 h2 h3 t)
theorem tx_page {v1 : Int} (h1 : fl_w v1 = v1) : tw X xs TX true cm_m100 cm_m156 [.index 0, fl_t v1] [.index 94, fl_t v1] :=
  tx_opA (oPage_eq _) (oPage_wf _) (oPage_ch _) (oPage_sz _) (fun m H t => zc_pageP h1 t) (fun m H t => zq_page h1 t)
theorem tx_seen {v1 v2 : Int} (h1 : fl_w v1 = v1) (h2 : fl_w v2 = v2) : tw X xs TX true cm_m101 cm_m157 [.index 0, fl_t v1, fl_t v2] [.index 94, fl_t v1, fl_t v2] :=
  tx_opA (oSeen_eq _ _) (oSeen_wf _ _) (oSeen_ch _ _) (oSeen_sz _ _) (fun m H t => zc_seen h1 h2 t) (fun m H t => zq_seen h1 h2 t)
theorem tx_good {v1 v2 : Int} (h1 : fl_w v1 = v1) (h2 : fl_w v2 = v2) : tw X xs TX true cm_m102 cm_m159 [.index 0, fl_t v1, fl_t v2] [.index 94, fl_t v1, fl_t v2] :=
  tx_opS (oGood_eq _ _) (oGood_wf _ _) (oGood_ch _ _) (fun m H t => zc_good h1 h2 t) (fun m H t => zq_good h1 h2 t)
theorem tx_size {v1 v2 v3 v4 v5 : Int} (h1 : fl_w v1 = v1) (h2 : fl_w v2 = v2) (h3 : fl_w v3 = v3) (h4 : fl_w v4 = v4) (h5 : fl_w v5 = v5) : tw X xs TX true cm_m103 cm_m161 [.index 0, fl_t v1, fl_t v2, fl_t v3, fl_t v4, fl_t v5] [.index 94, fl_t v1, fl_t v2, fl_t v3, fl_t v4, fl_t v5] :=
  tx_opS (oSize_eq _ _ _ _ _) (oSize_wf _ _ _ _ _) (oSize_ch _ _ _ _ _) (fun m H t => zc_size h1 h2 h3 h4 h5 t) (fun m H t => zq_size h1 h2 h3 h4 h5 t)
theorem tx_bond {v1 v2 v3 v4 : Int} (h1 : fl_w v1 = v1) (h2 : fl_w v2 = v2) (h3 : fl_w v3 = v3) (h4 : fl_w v4 = v4) : tw X xs TX true cm_m105 cm_m164 [.index 0, fl_t v1, fl_t v2, fl_t v3, fl_t v4] [.index 94, fl_t v1, fl_t v2, fl_t v3, fl_t v4] :=
  tx_opA (oBond_eq _ _ _ _) (oBond_wf _ _ _ _) (oBond_ch _ _ _ _) (oBond_sz _ _ _ _) (fun m H t => zc_bond h1 h2 h3 h4 t) (fun m H t => zq_bond h1 h2 h3 h4 t)
theorem tx_extra {v1 v2 : Int} (h1 : fl_w v1 = v1) (h2 : fl_w v2 = v2) : tw X xs TX true cm_m106 cm_m165 [.index 0, fl_t v1, fl_t v2] [.index 94, fl_t v1, fl_t v2] :=
  tx_opA (oExtra_eq _ _) (oExtra_wf _ _) (oExtra_ch _ _) (oExtra_sz _ _) (fun m H t => zc_extra h1 h2 t) (fun m H t => zq_extra h1 h2 t)
theorem tx_set {v1 v2 : Int} (h1 : fl_w v1 = v1) (h2 : fl_w v2 = v2) : tw X xs TX true cm_m107 cm_m166 [.index 0, fl_t v1, fl_t v2] [.index 94, fl_t v1, fl_t v2] :=
  tx_opA (oSet_eq _ _) (oSet_wf _ _) (oSet_ch _ _) (oSet_sz _ _) (fun m H t => zc_set h1 h2) (fun m H t => zq_set h1 h2)
theorem tx_told {v1 v2 : Int} (h1 : fl_w v1 = v1) (h2 : fl_w v2 = v2) : tw X xs TX true cm_m104 cm_m162 [.index 0, fl_t v1, fl_t v2] [.index 94, fl_t v1, fl_t v2] := fun m H t =>
  ck_mono (zc_told h1 h2 (T1_wfc t.1)) (fun r H1 h => ⟨⟨_, h.1⟩, fun m' => by
    rw [h.2]
    exact ck_mono (zq_told h1 h2 (TX_wf t)) (fun r' H2 k => ⟨⟨_, k.1⟩, fun _ => by rw [k.1, h.1, oTold_eq _ _ _ _ t.1.1.2.2.2.2.2.1 (TX_wf t)], by rw [k.2]; exact t⟩)⟩)
end
end
