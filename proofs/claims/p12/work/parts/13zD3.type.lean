noncomputable section
/-! L3: type, image, restore, and what is known behind them. -/
section
variable {X : Term} {xs : List Int32}
def tyF (H H2 : fl_H) : Prop := ∀ c i, c ≠ 59 → c ≠ 104 → (c = 58 → i ≠ 1) → (c = 94 → i ≠ 13) → H2 c i = H c i
theorem TB_type {m : Nat} {H : fl_H} {a n : Int} (ha : fl_lr a) (hn : fl_w n = n) (t : T1 H) : ck (cm_pg X xs) m cm_m108 [.index 0, fl_l a, fl_t n] H (fun r H1 => (∃ x, r = some x) ∧ ∀ m', ck (cm_pg X xs) m' cm_m219 [.index 94, fl_l a, fl_t n] H1 (fun r' H2 => r' = r ∧ T1 H2 ∧ tyF H H2)) := by
  obtain ⟨⟨l, t1, t2, t3⟩, t4, t5, t6, t7, t8, t9, t10, t11⟩ := id t.1
  refine ck_mono (zc_type (X := X) (xs := xs) ha hn t1 t3) (fun r H1 h => ?_)
  by_cases hc : 1 ≤ n ∧ n ≤ 8
  · have h' := h.2 hc
    refine ⟨tyP_len h', fun m' => ?_⟩
    have h13 : H1 94 13 = (l : Int) ∧ H1 104 = H 104 := by
      by_cases ho : okb a n.toNat
      · by_cases hl : l + n.toNat ≤ 120
        · obtain ⟨-, -, -, k⟩ := (h'.1 ho).1 hl
          exact ⟨by rw [k 94 13 (by decide) (fun h => absurd h (by decide))]; exact t2, funext (fun i => k 104 i (by decide) (fun h => absurd h (by decide)))⟩
        · rw [((h'.1 ho).2 hl).2]; exact ⟨t2, rfl⟩
      · rw [(h'.2 ho).2]; exact ⟨t2, rfl⟩
    refine ck_mono (zq_type (X := X) (xs := xs) (l := l) ha hn h13.1 t3) (fun r' H2 g => ?_)
    have g' := g.2 hc
    by_cases ho : okb a n.toNat
    · by_cases hl : l + n.toNat ≤ 120
      · obtain ⟨c1, c2, c3, c4⟩ := (h'.1 ho).1 hl
        obtain ⟨d1, d2, d3, d4⟩ := (g'.1 ho).1 hl
        have o : ∀ c i, c ≠ 59 → c ≠ 104 → (c = 58 → i ≠ 1) → (c = 94 → i ≠ 13) → H2 c i = H c i := fun c i p1 p2 p3 p4 => (d4 c i p2 p4).trans (c4 c i p1 p3)
        have e59 : H2 59 = tyw a n.toNat l (H 59) := by
          rw [← c3]
          exact funext (fun i => d4 59 i (by decide) (fun h => absurd h (by decide)))
        have e104 : H2 104 = tyw a n.toNat l (H 59) := by
          rw [d3, h13.2]
          congr 1
          exact funext t4
        have e95 : H2 95 = H 95 := funext (fun i => o 95 i (by decide) (by decide) (fun h => absurd h (by decide)) (fun h => absurd h (by decide)))
        have e106 : H2 106 = H 106 := funext (fun i => o 106 i (by decide) (by decide) (fun h => absurd h (by decide)) (fun h => absurd h (by decide)))
        have e18 : H2 94 18 = H 94 18 := o 94 18 (by decide) (by decide) (fun h => absurd h (by decide)) (fun _ => by decide)
        have cz1 : cz H2 1 = cz H 1 := cz_out (fun c i p1 p2 => o c i (by omega) (by omega) (fun h => by omega) (fun h => by omega))
        have cz39 : cz H2 39 = cz H 39 := cz_out (fun c i p1 p2 => o c i (by omega) (by omega) (fun h => by omega) (fun h => by omega))
        refine ⟨by rw [d1, c1], ⟨⟨⟨l + n.toNat, ?_, d2, hl⟩, fun i => by rw [e104, e59], fun i => ?_, ?_, ?_, by rw [cz1, e95]; exact t8, by rw [e95]; exact t9, ?_, ?_⟩, by rw [e95]; exact t.2.1, by rw [e18, e106]; exact t.2.2.1, by rw [e106]; exact t.2.2.2⟩, o⟩
        · rw [d4 58 1 (by decide) (fun h => absurd h (by decide))]; exact c2
        · rw [e59]
          unfold tyw
          by_cases hj : l ≤ i ∧ i < l + n.toNat
          · rw [if_pos hj]
            have := byt_lt a (l + n.toNat - 1 - i)
            omega
          · rw [if_neg hj]; exact t5 i
        · rw [o 58 2 (by decide) (by decide) (fun _ => by decide) (fun h => absurd h (by decide))]; exact t6
        · rw [o 58 3 (by decide) (by decide) (fun _ => by decide) (fun h => absurd h (by decide))]; exact t7
        · rw [o 0 3 (by decide) (by decide) (fun h => absurd h (by decide)) (fun h => absurd h (by decide)), e18]; exact t10
        · rw [e18, cz39, e106]; exact t11
      · obtain ⟨c1, c2⟩ := (h'.1 ho).2 hl
        obtain ⟨d1, d2⟩ := (g'.1 ho).2 hl
        exact ⟨by rw [d1, c1], by rw [d2, c2]; exact t, fun c i _ _ _ _ => by rw [d2, c2]⟩
    · obtain ⟨c1, c2⟩ := h'.2 ho
      obtain ⟨d1, d2⟩ := g'.2 ho
      exact ⟨by rw [d1, c1], by rw [d2, c2]; exact t, fun c i _ _ _ _ => by rw [d2, c2]⟩
  · obtain ⟨c1, c2⟩ := h.1 hc
    refine ⟨⟨_, c1⟩, fun m' => ck_mono (zq_type (X := X) (xs := xs) (l := l) ha hn (by rw [c2]; exact t2) t3) (fun r' H2 g => ?_)⟩
    obtain ⟨d1, d2⟩ := g.1 hc
    exact ⟨by rw [d1, c1], by rw [d2, c2]; exact t, fun c i _ _ _ _ => by rw [d2, c2]⟩
theorem TX_tyF {H H2 : fl_H} (t : TX H) (T2 : T1 H2) (f : tyF H H2) : TX H2 := by
  have e : ∀ c, c ≠ 58 → c ≠ 59 → c ≠ 94 → c ≠ 104 → H2 c = H c := fun c p1 p2 p3 p4 => funext (fun i => f c i p2 p4 (by omega) (by omega))
  have e95 : H2 95 = H 95 := e 95 (by omega) (by omega) (by omega) (by omega)
  obtain ⟨t1, t2, t3, t4, t5, t6, t7, t8, t9⟩ := t
  refine ⟨T2, ?_, ?_, ?_, ?_, ?_, ?_, ?_, ?_⟩
  · unfold chA; rw [e95, e 19 (by omega) (by omega) (by omega) (by omega)]; exact t2
  · rw [f 94 18 (by omega) (by omega) (by omega) (by omega)]; intro q; unfold chA; rw [e 106 (by omega) (by omega) (by omega) (by omega), e 57 (by omega) (by omega) (by omega) (by omega)]; exact t3 q
  · unfold she; rw [e 61 (by omega) (by omega) (by omega) (by omega), e 62 (by omega) (by omega) (by omega) (by omega), e 63 (by omega) (by omega) (by omega) (by omega), e 107 (by omega) (by omega) (by omega) (by omega), e 108 (by omega) (by omega) (by omega) (by omega), e 109 (by omega) (by omega) (by omega) (by omega)]; exact t4
  · rw [e95]; exact flI_fr t5 (fun c a b => e c (by omega) (by omega) (by omega) (by omega))
  · rw [e95]; exact rkn_c t6 (e 96 (by omega) (by omega) (by omega) (by omega))
  · rw [e95]; exact kbe_o t7 (e 88 (by omega) (by omega) (by omega) (by omega)) (e 89 (by omega) (by omega) (by omega) (by omega))
  · rw [e95]; exact kst_o t8 (e 90 (by omega) (by omega) (by omega) (by omega)) (e 91 (by omega) (by omega) (by omega) (by omega))
  · rw [e95]; exact kmd_o t9 (e 0 (by omega) (by omega) (by omega) (by omega)) (e 92 (by omega) (by omega) (by omega) (by omega)) (e 93 (by omega) (by omega) (by omega) (by omega))
theorem tx_type {v1 v2 : Int} (hl : fl_lr v1) (h2 : fl_w v2 = v2) : tw X xs TX true cm_m108 cm_m219 [.index 0, fl_l v1, fl_t v2] [.index 94, fl_l v1, fl_t v2] :=
  tx_of (fun m H t => ck_mono (TB_type hl h2 t.1) (fun r H1 h => ⟨h.1, fun m' => ck_mono (h.2 m') (fun r' H2 k => ⟨k.1, TX_tyF t k.2.1 k.2.2⟩)⟩))
def imF (H H2 : fl_H) : Prop := (∀ c i, ¬ (39 ≤ c ∧ c ≤ 57) → (c = 0 → i ≠ 3) → c ≠ 106 → (c = 94 → i ≠ 18) → H2 c i = H c i) ∧ H2 106 = H 95 ∧ cz H2 39 = cz H 1
theorem TB_image {m : Nat} {H : fl_H} (t : T1 H) : ck (cm_pg X xs) m cm_m130 [.index 0] H (fun r H1 => (∃ x, r = some x) ∧ ∀ m', ck (cm_pg X xs) m' cm_m233 [.index 94] H1 (fun r' H2 => r' = r ∧ T1 H2 ∧ imF H H2)) := by
  obtain ⟨⟨⟨l, t1, t2, t3⟩, t4, t5, t6, t7, t8, t9, t10, t11⟩, tw, tk1, tk2⟩ := id t
  refine ck_mono (zc_image (X := X) (xs := xs)) (fun r H1 h => ⟨⟨_, h.1⟩, fun m' => ck_mono (lo_image (X := X) (xs := xs)) (fun r' H2 g => ?_)⟩)
  obtain ⟨c1, c2, c3, c4⟩ := h
  obtain ⟨d1, d2, d3, d4⟩ := g
  have o : ∀ c i, ¬ (39 ≤ c ∧ c ≤ 57) → (c = 0 → i ≠ 3) → c ≠ 106 → (c = 94 → i ≠ 18) → H2 c i = H c i := fun c i p1 p2 p3 p4 => (d4 c i p3 p4).trans (c4 c i p1 p2)
  have e95 : H2 95 = H 95 := funext (fun i => o 95 i (by omega) (by omega) (by omega) (by omega))
  have e195 : H1 95 = H 95 := funext (fun i => c4 95 i (by omega) (by omega))
  have e106 : H2 106 = H 95 := by
    funext j
    rw [d2 j]
    by_cases hj : j < 152
    · rw [if_pos hj, e195]
    · rw [if_neg hj, c4 106 j (by omega) (by omega), tk2 j (by omega), ← t8 j (by omega)]
      unfold cz
      rw [if_neg (fun hv => hj (vld_lt hv))]
  have z1 : cz H2 1 = cz H 1 := cz_out (fun c i p1 p2 => o c i (by omega) (by omega) (by omega) (by omega))
  have z39 : cz H2 39 = cz H 1 := by
    rw [← c3]
    exact cz_out (fun c i p1 p2 => d4 c i (by omega) (by omega))
  refine ⟨by rw [d1, c1], ⟨⟨⟨l, ?_, ?_, t3⟩, fun i => ?_, fun i => ?_, ?_, ?_, by rw [z1, e95]; exact t8, by rw [e95]; exact t9, ?_, fun _ => ⟨by rw [z39, e106]; exact t8, by rw [e106]; exact t9⟩⟩, by rw [e95]; exact tw, Or.inr ⟨d3, by rw [e106]; exact tw⟩, fun j hj => ?_⟩, o, e106, z39⟩
  · rw [o 58 1 (by omega) (by omega) (by omega) (by omega)]; exact t1
  · rw [o 94 13 (by omega) (by omega) (by omega) (by omega)]; exact t2
  · rw [o 104 i (by omega) (by omega) (by omega) (by omega), o 59 i (by omega) (by omega) (by omega) (by omega)]; exact t4 i
  · rw [o 59 i (by omega) (by omega) (by omega) (by omega)]; exact t5 i
  · rw [o 58 2 (by omega) (by omega) (by omega) (by omega)]; exact t6
  · rw [o 58 3 (by omega) (by omega) (by omega) (by omega)]; exact t7
  · rw [d3, d4 0 3 (by omega) (by omega)]; exact c2
  · rw [d2 j, if_neg (by omega), c4 106 j (by omega) (by omega)]; exact tk2 j hj
theorem TX_imF {H H2 : fl_H} (t : TX H) (T2 : T1 H2) (f : imF H H2) : TX H2 := by
  obtain ⟨f1, f2, f3⟩ := f
  have e : ∀ c, c ≠ 0 → ¬ (39 ≤ c ∧ c ≤ 57) → c ≠ 94 → c ≠ 106 → H2 c = H c := fun c p1 p2 p3 p4 => funext (fun i => f1 c i p2 (by omega) p4 (by omega))
  have e95 : H2 95 = H 95 := e 95 (by omega) (by omega) (by omega) (by omega)
  obtain ⟨t1, t2, t3, t4, t5, t6, t7, t8, t9⟩ := t
  refine ⟨T2, ?_, fun _ => ?_, ?_, ?_, ?_, ?_, ?_, ?_⟩
  · unfold chA; rw [e95, e 19 (by omega) (by omega) (by omega) (by omega)]; exact t2
  · rw [f2]
    refine ⟨t2.1, fun g hg => ?_⟩
    obtain ⟨s1, s2⟩ := slt_cho g hg
    have q := congrFun f3 (62 + g)
    rw [cz_at (c := 57) (i := g) s1 (by rw [s2] <;> rfl) (by rw [s2] <;> rfl), cz_at (c := 19) (i := g) s1 (by rw [s2] <;> rfl) (by rw [s2] <;> rfl)] at q
    rw [q]; exact t2.2 g hg
  · unfold she; rw [e 61 (by omega) (by omega) (by omega) (by omega), e 62 (by omega) (by omega) (by omega) (by omega), e 63 (by omega) (by omega) (by omega) (by omega), e 107 (by omega) (by omega) (by omega) (by omega), e 108 (by omega) (by omega) (by omega) (by omega), e 109 (by omega) (by omega) (by omega) (by omega)]; exact t4
  · rw [e95]; exact flI_fr t5 (fun c a b => e c (by omega) (by omega) (by omega) (by omega))
  · rw [e95]; exact rkn_c t6 (e 96 (by omega) (by omega) (by omega) (by omega))
  · rw [e95]; exact kbe_o t7 (e 88 (by omega) (by omega) (by omega) (by omega)) (e 89 (by omega) (by omega) (by omega) (by omega))
  · rw [e95]; exact kst_o t8 (e 90 (by omega) (by omega) (by omega) (by omega)) (e 91 (by omega) (by omega) (by omega) (by omega))
  · rw [e95]
    unfold kmd
    rw [f1 0 14 (by omega) (by omega) (by omega) (by omega), e 92 (by omega) (by omega) (by omega) (by omega), e 93 (by omega) (by omega) (by omega) (by omega)]
    exact t9
theorem tx_image : tw X xs TX true cm_m130 cm_m233 [.index 0] [.index 94] :=
  tx_of (fun m H t => ck_mono (TB_image t.1) (fun r H1 h => ⟨h.1, fun m' => ck_mono (h.2 m') (fun r' H2 k => ⟨k.1, TX_imF t k.2.1 k.2.2⟩)⟩))
def reF (H H2 : fl_H) : Prop := H2 = H ∨ (H 94 18 = 1 ∧ ∃ G H1, own H G ∧ cz G 1 = cz H 39 ∧ H1 = fgS G ∧ H2 95 = H 106 ∧ (∀ c, c ≠ 95 → c ≠ 96 → H2 c = H1 c) ∧ ∀ i, i < 729 → H2 96 i = 0)
theorem TB_restore {m : Nat} {H : fl_H} (t : T1 H) : ck (cm_pg X xs) m cm_m131 [.index 0] H (fun r H1 => (∃ x, r = some x) ∧ ∀ m', ck (cm_pg X xs) m' cm_m234 [.index 94] H1 (fun r' H2 => r' = r ∧ T1 H2 ∧ reF H H2)) := by
  obtain ⟨⟨⟨l, t1, t2, t3⟩, t4, t5, t6, t7, t8, t9, t10, t11⟩, tw, tk1, tk2⟩ := id t
  refine ck_mono (zc_restore (X := X) (xs := xs)) (fun r H1 h => ?_)
  rw [t10] at h
  rcases tk1 with hk | ⟨hk, hw⟩
  · have h0 : fl_w (H 94 18) = 0 := by rw [hk]; rfl
    obtain ⟨c1, c2⟩ := h.1 h0
    refine ⟨⟨_, c1⟩, fun m' => ck_mono (lo_restore (X := X) (xs := xs)) (fun r' H2 g => ?_)⟩
    obtain ⟨d1, d2⟩ := g.1 (by rw [c2]; exact h0)
    exact ⟨by rw [d1, c1], by rw [d2, c2]; exact t, Or.inl (by rw [d2, c2])⟩
  · have h0 : ¬ fl_w (H 94 18) = 0 := by rw [hk]; decide
    obtain ⟨c1, G, g1, g2, g3⟩ := h.2 h0
    have c2 : cOnly H H1 := fun c i p1 p2 => by rw [g3, fgN_S G c i p2]; exact g1 c i p1
    have z1 : cz H1 1 = cz H 39 := by rw [g3, cz_fgS, g2]
    have e95 : H1 95 = H 95 := funext (fun i => c2 95 i (by decide) rfl)
    have e106 : H1 106 = H 106 := funext (fun i => c2 106 i (by decide) rfl)
    have e18 : H1 94 18 = H 94 18 := c2 94 18 (by decide) rfl
    refine ⟨⟨_, c1⟩, fun m' => ck_mono (lo_restore (X := X) (xs := xs)) (fun r' H2 g => ?_)⟩
    obtain ⟨d1, d2, d3, d4⟩ := g.2 (by rw [e18]; exact h0)
    have k95 : H2 95 = H 106 := by
      funext j
      rw [d2 j]
      by_cases hj : j < 152
      · rw [if_pos hj, e106]
      · rw [if_neg hj, e95, tk2 j (by omega), ← t8 j (by omega)]
        unfold cz
        rw [if_neg (fun hv => hj (vld_lt hv))]
    have c3 : rOnly H1 H2 := fun c i p1 p2 => by rw [d3 c p1 (fun h => by rw [h] at p2; exact Bool.false_ne_true p2)]
    have k106 : H2 106 = H 106 := by rw [d3 106 (by decide) (by decide), e106]
    have k18 : H2 94 18 = H 94 18 := by rw [d3 94 (by decide) (by decide), e18]
    refine ⟨by rw [d1, c1], ⟨zT_two t.1 c2 c3 (by rw [z1, k95]; exact (t11 hk).1) (by rw [k95]; exact (t11 hk).2), by rw [k95]; exact hw, by rw [k18, k106]; exact Or.inr ⟨hk, hw⟩, by rw [k106]; exact tk2⟩, Or.inr ⟨hk, G, H1, g1, g2, g3, k95, d3, d4⟩⟩
theorem TX_reF {H H2 : fl_H} (t : TX H) (T2 : T1 H2) (f : reF H H2) : TX H2 := by
  rcases f with e | ⟨hk, G, H1, g1, g2, g3, k95, d3, d4⟩
  · rw [e]; exact t
  · obtain ⟨t1, t2, t3, t4, t5, t6, t7, t8, t9⟩ := t
    have c1 : ∀ c, c ≠ 0 → c ≠ 64 → c ≠ 88 → c ≠ 90 → ¬ (1 ≤ c ∧ c ≤ 19) → c ≠ 95 → c ≠ 96 → H2 c = H c := fun c p1 p2 p3 p4 p5 p6 p7 => by
      rw [d3 c p6 p7, g3, fgS_N G c p1 p2 p3 p4]
      exact funext (fun i => g1 c i p5)
    have fk := fgS_K G
    refine ⟨T2, ?_, ?_, ?_, Or.inl ?_, fun code hc _ => Or.inl (d4 code hc), Or.inl ?_, Or.inl ?_, Or.inl ?_⟩
    · rw [k95]
      refine ⟨(t3 hk).1, fun g hg => ?_⟩
      obtain ⟨s1, s2⟩ := slt_cho g hg
      have q := congrFun g2 (62 + g)
      rw [cz_at (c := 19) (i := g) s1 (by rw [s2] <;> rfl) (by rw [s2] <;> rfl), cz_at (c := 57) (i := g) s1 (by rw [s2] <;> rfl) (by rw [s2] <;> rfl)] at q
      rw [d3 19 (by omega) (by omega), g3, fgS_N G 19 (by omega) (by omega) (by omega) (by omega), q]
      exact (t3 hk).2 g hg
    · rw [c1 94 (by omega) (by omega) (by omega) (by omega) (by omega) (by omega) (by omega)]; intro q; unfold chA; rw [c1 106 (by omega) (by omega) (by omega) (by omega) (by omega) (by omega) (by omega), c1 57 (by omega) (by omega) (by omega) (by omega) (by omega) (by omega) (by omega)]; exact t3 q
    · unfold she
      rw [c1 61 (by omega) (by omega) (by omega) (by omega) (by omega) (by omega) (by omega), c1 62 (by omega) (by omega) (by omega) (by omega) (by omega) (by omega) (by omega), c1 63 (by omega) (by omega) (by omega) (by omega) (by omega) (by omega) (by omega), c1 107 (by omega) (by omega) (by omega) (by omega) (by omega) (by omega) (by omega), c1 108 (by omega) (by omega) (by omega) (by omega) (by omega) (by omega) (by omega), c1 109 (by omega) (by omega) (by omega) (by omega) (by omega) (by omega) (by omega)]
      exact t4
    · rw [d3 64 (by omega) (by omega), g3]; exact fgS_5 G
    · rw [d3 88 (by omega) (by omega), g3]; exact fk.1
    · rw [d3 90 (by omega) (by omega), g3]; exact fk.2.1
    · rw [d3 0 (by omega) (by omega), g3]; exact fk.2.2
theorem tx_restore : tw X xs TX true cm_m131 cm_m234 [.index 0] [.index 94] :=
  tx_of (fun m H t => ck_mono (TB_restore t.1) (fun r H1 h => ⟨h.1, fun m' => ck_mono (h.2 m') (fun r' H2 k => ⟨k.1, TX_reF t k.2.1 k.2.2⟩)⟩))
end
end
