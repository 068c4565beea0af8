noncomputable section
/-! L3: book, and what is known behind it. -/
section
variable {X : Term} {xs : List Int32}
def ckn (H H' : fl_H) : Prop := (H' 64 5 = 0 ∧ H' 88 0 = 0 ∧ H' 90 0 = 0 ∧ H' 0 14 = -1) ∨ (H' 64 5 = H 64 5 ∧ H' 88 0 = H 88 0 ∧ H' 90 0 = H 90 0 ∧ H' 0 14 = H 0 14 ∧ cz H' 1 = cz H 1)
theorem cy_book {n m : Nat} {H : fl_H} (h1 : H 58 1 = (n : Int)) (h2 : H 58 2 = 0) (h3 : H 58 3 = -1) (hn : n ≤ 120) (ht : ∀ i, i < n → 0 ≤ H 59 i ∧ H 59 i ≤ 255) (hz : zr (cz H 1)) : ck (cm_pg X xs) m cm_m109 [.index 0] H (fun r H' => r = some (bka (H 59) n (cz H 1)) ∧ zeq (cz H' 1) (bkz (H 59) n (cz H 1)) ∧ H' 58 1 = 0 ∧ H' 58 2 = 0 ∧ H' 58 3 = -1 ∧ cfo H H' ∧ (∀ g, g < 6 → H' 19 g = H 19 g) ∧ ckn H H') := by
  refine ve_GoodsBook_book_0 (fun m hm => ck_mono (cb_book_20 (X := X) (xs := xs)) (fun r H1 h => ⟨h.1, fun m hm => ?_⟩))
  obtain ⟨-, o1, z1⟩ := h
  have hs : cst H1 n 0 := by
    have e58 : H1 58 = H 58 := o1 58 (Or.inr (by decide))
    have e59 : H1 59 = H 59 := o1 59 (Or.inr (by decide))
    unfold cst
    rw [e58, e59]
    exact ⟨h1, h2, Nat.zero_le _, hn, ht, by omega, by omega⟩
  have f1 : H1 58 3 = -1 := by rw [o1 58 (Or.inr (by decide))]; exact h3
  have t1 : H1 59 = H 59 := o1 59 (Or.inr (by decide))
  refine ck_mono (cr_read (X := X) (xs := xs) hs f1 (by rw [z1]; exact hz)) (fun r H3 h => ?_)
  obtain ⟨c3, h⟩ := h
  rw [t1, z1] at h
  have z3 : cz H3 1 = cz H 1 := by rw [cz_out (H := H1) (fun c i g1 g2 => c3 c i (fun hc => by omega) (Or.inl (by omega))), cz_out (fun c i g1 g2 => by rw [o1 c (Or.inl (by omega))])]
  have o3 : ∀ c i, ¬ (20 ≤ c ∧ c ≤ 38) → c ≠ 58 → H3 c i = H c i := fun c i g1 g2 => by
    rw [c3 c i (fun hc => absurd hc g2) (by omega), o1 c (by omega)]
  -- the answer
  obtain ⟨ans, hans, hneg, hpos⟩ : ∃ ans : Int, r = some ans ∧ (¬ 0 ≤ ans → ans = bka (H 59) n (cz H 1) ∧ bkz (H 59) n (cz H 1) = cz H 1) ∧ (0 ≤ ans → ans = bka (H 59) n (cz H 1) ∧ zeq (cz H3 20) (bkz (H 59) n (cz H 1))) ∧ True := by
    unfold bka bkz
    cases o : cls (H 59) n 12 (cz H 1 1) 0 with
    | inl p =>
      rw [o] at h
      exact ⟨_, h, fun _ => ⟨rfl, rfl⟩, fun g => by omega, trivial⟩
    | inr v =>
      obtain ⟨l, b⟩ := v
      rw [o] at h
      by_cases hr : rml l (cz H 1)
      · obtain ⟨k1, k2⟩ := h.1 ⟨rfl, hr⟩
        refine ⟨_, k1, fun g => by omega, fun _ => ⟨by dsimp only; rw [if_pos hr]; omega, by dsimp only; rw [if_pos hr]; exact k2⟩, trivial⟩
      · have k1 := h.2 (fun g => hr g.2)
        refine ⟨_, k1, fun _ => ⟨by dsimp only; rw [if_neg hr], by dsimp only; rw [if_neg hr]⟩, fun g => by omega, trivial⟩
  have hpos := hpos.1
  have hbd : -200 ≤ ans ∧ ans ≤ 200 := by
    have : ans = bka (H 59) n (cz H 1) := by
      by_cases g : 0 ≤ ans
      · exact (hpos g).1
      · exact (hneg g).1
    rw [this]
    unfold bka
    cases o : cls (H 59) n 12 (cz H 1 1) 0 with
    | inl p =>
      have := cls_p (Nat.zero_le n) o
      show -200 ≤ -20 - (p : Int) ∧ -20 - (p : Int) ≤ 200
      omega
    | inr v =>
      obtain ⟨l, b⟩ := v
      have := cls_len o
      by_cases hr : rml l (cz H 1)
      · dsimp only; rw [if_pos hr]; omega
      · dsimp only; rw [if_neg hr]; omega
  refine ⟨ans, hans, fun m hm => ck_mono (cb_wipe (X := X) (xs := xs)) (fun r H6 h => ⟨h.1, ?_⟩)⟩
  have e6 := h.2
  have o6 : ∀ c i, ¬ (20 ≤ c ∧ c ≤ 38) → c ≠ 58 → H6 c i = H c i := fun c i g1 g2 => by
    rw [e6, fl_up_c _ _ _ _ g2, fl_up_c _ _ _ _ g2, fl_up_c _ _ _ _ g2]
    exact o3 c i g1 g2
  have z6 : cz H6 1 = cz H 1 := cz_out (fun c i g1 g2 => o6 c i (by omega) (by omega))
  have z620 : cz H6 20 = cz H3 20 := by rw [e6]; exact cz_out (fun c i g1 g2 => by rw [fl_up_c _ _ _ _ (by omega), fl_up_c _ _ _ _ (by omega), fl_up_c _ _ _ _ (by omega)])
  have a1 : H6 58 1 = 0 := by rw [e6, fl_up_i _ _ _ _ (by decide), fl_up_i _ _ _ _ (by decide), fl_up_at]
  have a2 : H6 58 2 = 0 := by rw [e6, fl_up_i _ _ _ _ (by decide), fl_up_at]
  have a3 : H6 58 3 = -1 := by rw [e6, fl_up_at]
  rw [fl_wi (x := ans) (by omega) (by omega)]
  refine ⟨fun hge m hm => ck_mono (cb_book_1 (X := X) (xs := xs)) (fun r H9 h => ⟨h.1, fun m hm => ck_mono (cb_forget (X := X) (xs := xs)) (fun r H11 g => ⟨g.1, ?_⟩)⟩), fun hlt => ?_⟩
  · obtain ⟨-, o9, z9⟩ := h
    have e11 := g.2
    have o11 : ∀ c i, (c = 0 → i ≠ 14) → (c = 64 → i ≠ 5) → (c = 88 → i ≠ 0) → (c = 90 → i ≠ 0) → H11 c i = H9 c i := fun c i g1 g2 g3 g4 => by
      rw [e11]
      unfold fl_up
      rw [if_neg (fun hh => g1 hh.1 hh.2), if_neg (fun hh => g4 hh.1 hh.2), if_neg (fun hh => g3 hh.1 hh.2), if_neg (fun hh => g2 hh.1 hh.2)]
    have z11 : cz H11 1 = cz H9 1 := cz_out (fun c i g1 g2 => o11 c i (by omega) (by omega) (by omega) (by omega))
    have t11 : ∀ i, H11 58 i = H6 58 i := fun i => by rw [o11 58 i (by omega) (by omega) (by omega) (by omega), o9 58 (by omega)]
    refine ⟨congrArg some (hpos hge).1, ?_, by rw [t11]; exact a1, by rw [t11]; exact a2, by rw [t11]; exact a3, fun c i g1 g2 g3 g4 g5 g6 => ?_, fun g hg => ?_, Or.inl ?_⟩
    · rw [z11, z9, z620]
      exact (hpos hge).2
    · rw [o11 c i g3 g4 g5 g6, o9 c (by omega)]
      exact o6 c i (by omega) g2
    · obtain ⟨s1, s2⟩ := slt_cho g hg
      have q9 := congrFun z9 (62 + g)
      rw [cz_at (c := 19) (i := g) s1 (by rw [s2] <;> rfl) (by rw [s2] <;> rfl), cz_at (c := 38) (i := g) s1 (by rw [s2] <;> rfl) (by rw [s2] <;> rfl)] at q9
      have q1 := congrFun z1 (62 + g)
      rw [cz_at (c := 38) (i := g) s1 (by rw [s2] <;> rfl) (by rw [s2] <;> rfl), cz_at (c := 19) (i := g) s1 (by rw [s2] <;> rfl) (by rw [s2] <;> rfl)] at q1
      rw [o11 19 g (by omega) (by omega) (by omega) (by omega), q9, e6, fl_up_c _ _ _ _ (by omega), fl_up_c _ _ _ _ (by omega), fl_up_c _ _ _ _ (by omega), c3 38 g (fun hc => by omega) (by omega), q1]
    · have e12 : H11 = fgS H9 := e11
      rw [e12]
      exact ⟨fgS_5 _, (fgS_K _).1, (fgS_K _).2.1, (fgS_K _).2.2⟩
  · refine ⟨congrArg some (hneg hlt).1, ?_, a1, a2, a3, fun c i g1 g2 _ _ _ _ => o6 c i (by omega) g2, fun g _ => o6 19 g (by omega) (by omega), Or.inr ⟨o6 64 5 (by omega) (by omega), o6 88 0 (by omega) (by omega), o6 90 0 (by omega) (by omega), o6 0 14 (by omega) (by omega), z6⟩⟩
    rw [z6, (hneg hlt).2]
    exact zeq_refl _
def bkF (H H2 : fl_H) : Prop := (∀ c i, c < 94 → ¬ (1 ≤ c ∧ c ≤ 38) → c ≠ 58 → (c = 0 → i ≠ 14) → (c = 64 → i ≠ 5) → (c = 88 → i ≠ 0) → (c = 90 → i ≠ 0) → H2 c i = H c i) ∧ (∀ c i, 97 ≤ c → c ≠ 105 → H2 c i = H c i) ∧ H2 94 18 = H 94 18 ∧ (∃ n, H2 95 = bkz (H 59) n (H 95)) ∧ (∀ g, g < 6 → H2 19 g = H 19 g) ∧ ckn H H2 ∧ f96 H H2
theorem TB_book {m : Nat} {H : fl_H} (t : T1 H) : ck (cm_pg X xs) m cm_m109 [.index 0] H (fun r H1 => (∃ x, r = some x) ∧ ∀ m', ck (cm_pg X xs) m' cm_m232 [.index 94] H1 (fun r' H2 => r' = r ∧ T1 H2 ∧ bkF H H2)) := by
  obtain ⟨⟨⟨n, t1, t2, t3⟩, t4, t5, t6, t7, t8, t9, t10, t11⟩, tw, tk1, tk2⟩ := t
  have z0 : zr (cz H 1) := zr_zeq (fun j hj => (t8 j hj).symm) t9
  refine ck_mono (cy_book (X := X) (xs := xs) t1 t6 t7 t3 (fun i _ => t5 i) z0) (fun r H1 h => ?_)
  obtain ⟨a1, a2, a3, a4, a5, a6, a7, a8⟩ := h
  refine ⟨⟨_, a1⟩, fun m' => ?_⟩
  have o1 : ∀ c i, 39 ≤ c → c ≠ 58 → c ≠ 64 → c ≠ 88 → c ≠ 90 → H1 c i = H c i := fun c i b1 b2 b3 b4 b5 => a6 c i (by omega) b2 (fun hc => by omega) (fun hc => absurd hc b3) (fun hc => absurd hc b4) (fun hc => absurd hc b5)
  have e95 : H1 95 = H 95 := funext (fun i => o1 95 i (by decide) (by decide) (by decide) (by decide) (by decide))
  have e104 : H1 104 = H 59 := funext (fun i => (o1 104 i (by decide) (by decide) (by decide) (by decide) (by decide)).trans (t4 i))
  refine ck_mono (ry_book (X := X) (xs := xs) (n := n) (by rw [o1 94 13 (by decide) (by decide) (by decide) (by decide) (by decide)]; exact t2) t3 (fun i _ => by rw [e104]; exact t5 i) (by rw [e95]; exact t9)) (fun r' H2 h => ?_)
  obtain ⟨b1, b2, b3, b4, b5⟩ := h
  rw [e104, e95] at b1 b2
  have q := bk_zeq (t := H 59) (n := n) t8
  have o2 : ∀ c i, c < 94 → H2 c i = H1 c i := fun c i hc => b4 c i (by omega) (by omega) (by omega) (fun h => by omega)
  have e106 : H2 106 = H 106 := funext (fun i => (b4 106 i (by decide) (by decide) (by decide) (fun h => absurd h (by decide))).trans (o1 106 i (by decide) (by decide) (by decide) (by decide) (by decide)))
  have e9418 : H2 94 18 = H 94 18 := by rw [b4 94 18 (by decide) (by decide) (by decide) (fun _ => ⟨by decide, by decide, by decide, by decide⟩), o1 94 18 (by decide) (by decide) (by decide) (by decide) (by decide)]
  have w2 : wf (H2 95) := by rw [b2]; exact wf_bkz tw
  have bF : bkF H H2 := by
    refine ⟨fun c i h94 p1 p2 p3 p4 p5 p6 => (o2 c i h94).trans (a6 c i p1 p2 p3 p4 p5 p6), fun c i p1 p2 => (b4 c i (by omega) (by omega) p2 (by omega)).trans (a6 c i (by omega) (by omega) (by omega) (by omega) (by omega) (by omega)), e9418, ⟨n, b2⟩, fun g hg => (o2 19 g (by decide)).trans (a7 g hg), ?_, ?_⟩
    · have cz1 : cz H2 1 = cz H1 1 := cz_out (fun c i g1 g2 => o2 c i (by omega))
      rcases a8 with ⟨u1, u2, u3, u4⟩ | ⟨u1, u2, u3, u4, u5⟩
      · exact Or.inl ⟨(o2 64 5 (by decide)).trans u1, (o2 88 0 (by decide)).trans u2, (o2 90 0 (by decide)).trans u3, (o2 0 14 (by decide)).trans u4⟩
      · exact Or.inr ⟨(o2 64 5 (by decide)).trans u1, (o2 88 0 (by decide)).trans u2, (o2 90 0 (by decide)).trans u3, (o2 0 14 (by decide)).trans u4, cz1.trans u5⟩
    · have e96 : H1 96 = H 96 := funext (fun i => o1 96 i (by decide) (by decide) (by decide) (by decide) (by decide))
      rcases b5 with ⟨u1, u2⟩ | u
      · exact Or.inl ⟨u1.trans e96, fun j hj => by rw [u2 j hj, e95]⟩
      · exact Or.inr u
  refine ⟨by rw [a1, b1, q.1], ⟨⟨⟨0, by rw [o2 58 1 (by decide)]; exact a3, b3, by omega⟩, fun i => ?_, fun i => ?_, by rw [o2 58 2 (by decide)]; exact a4, by rw [o2 58 3 (by decide)]; exact a5, ?_, w2.1, ?_, fun g => ?_⟩, w2, by rw [e9418, e106]; exact tk1, by rw [e106]; exact tk2⟩, bF⟩
  · rw [b4 104 i (by decide) (by decide) (by decide) (fun h => absurd h (by decide)), e104, o2 59 i (by decide), o1 59 i (by decide) (by decide) (by decide) (by decide) (by decide)]
  · rw [o2 59 i (by decide), o1 59 i (by decide) (by decide) (by decide) (by decide) (by decide)]; exact t5 i
  · rw [cz_out (G := H2) (H := H1) (b := 1) (fun c i g1 g2 => o2 c i (by omega)), b2]
    exact zeq_trans a2 q.2
  · rw [o2 0 3 (by decide), e9418, a6 0 3 (by decide) (by decide) (fun _ => by decide) (fun h => absurd h (by decide)) (fun h => absurd h (by decide)) (fun h => absurd h (by decide))]
    exact t10
  · rw [e9418] at g
    rw [e106, cz_out (G := H2) (H := H) (b := 39) (fun c i g1 g2 => (o2 c i (by omega)).trans (o1 c i (by omega) (by omega) (by omega) (by omega) (by omega)))]
    exact t11 g
theorem och_apz {e : List Int} {z : Nat → Int} (h : evw e (z 1)) (hr : rom e z) (hw : wf z) (hc : chz z) : chz (apz e z) ∧ (∀ g : Nat, pln (apz e z) g = pln z g) ∧ ∀ k : Nat, (k : Int) < z 1 → apz e z (62 + k) = z (62 + k) := by
  have bd := hw.1
  unfold zr at bd
  rcases h with ⟨v, rfl, -⟩ | ⟨k, f, w0, h0, s0, w1, h1, s1, rfl, -⟩ | ⟨k, x, y, v, rfl, -⟩
  · have q : ∀ j, j ≠ 0 → j ≠ 10 + (z 0).toNat → apz [0, v] z j = z j := fun j a b => by
      show upz (upz z (10 + (z 0).toNat) v) 0 (z 0 + 1) j = z j
      rw [upz_ne _ _ a, upz_ne _ _ b]
    exact och_of hw hc (fun j _ _ => q j (by omega) (by omega)) (q 1 (by omega) (by omega)) (by
      show z 0 ≤ upz (upz z (10 + (z 0).toNat) v) 0 (z 0 + 1) 0
      rw [upz_at]; omega)
  · exact och_good hw hc (hr.2.1 rfl) k f w0 h0 s0 w1 h1 s1
  · have q : ∀ j, j ≠ 2 → j < 68 → apz [2, k, x, y, v] z j = z j := fun j a b => by
      show upz (upz (upz (upz (upz z (68 + 4 * (z 2).toNat) k) (69 + 4 * (z 2).toNat) x) (70 + 4 * (z 2).toNat) y) (71 + 4 * (z 2).toNat) v) 2 (z 2 + 1) j = z j
      rw [upz_ne _ _ a, upz_ne _ _ (by omega), upz_ne _ _ (by omega), upz_ne _ _ (by omega), upz_ne _ _ (by omega)]
    exact och_of hw hc (fun j _ _ => q j (by omega) (by omega)) (q 1 (by omega) (by omega)) (Int.le_of_eq (q 0 (by omega) (by omega)).symm)
theorem isg_ge (e : List Int) : 0 ≤ isg e := by
  unfold isg
  split <;> omega
theorem och_apl : ∀ {l : List (List Int)} {z : Nat → Int}, evl l (z 1) → rml l z → wf z → chz z → chz (apl l z) ∧ (∀ g : Nat, pln (apl l z) g = pln z g) ∧ ∀ k : Nat, (k : Int) < z 1 → apl l z (62 + k) = z (62 + k)
  | [], _, _, _, _, hc => ⟨hc, fun _ => rfl, fun _ _ => rfl⟩
  | e :: l, z, he, hr, hw, hc => by
    obtain ⟨h1, h2⟩ := he
    obtain ⟨r1, r2⟩ := hr
    obtain ⟨w1, w2⟩ := wf_apz h1 r1 hw
    obtain ⟨c1, c2, c3⟩ := och_apz h1 r1 hw hc
    obtain ⟨d1, d2, d3⟩ := och_apl (l := l) (z := apz e z) (by rw [w2]; exact h2) r2 w1 c1
    have := isg_ge e
    exact ⟨d1, fun g => (d2 g).trans (c2 g), fun k hk => (d3 k (by rw [w2]; omega)).trans (c3 k hk)⟩
theorem och_bkz {t : Nat → Int} {n : Nat} {z : Nat → Int} (hw : wf z) (hc : chz z) : chz (bkz t n z) ∧ (∀ g : Nat, pln (bkz t n z) g = pln z g) ∧ ∀ k : Nat, (k : Int) < z 1 → bkz t n z (62 + k) = z (62 + k) := by
  unfold bkz
  cases o : cls t n 12 (z 1) 0 with
  | inl p => exact ⟨hc, fun _ => rfl, fun _ _ => rfl⟩
  | inr q =>
    obtain ⟨l, b⟩ := q
    dsimp only
    by_cases hr : rml l z
    · rw [if_pos hr]
      exact och_apl (cls_evl o) hr hw hc
    · rw [if_neg hr]
      exact ⟨hc, fun _ => rfl, fun _ _ => rfl⟩
theorem TX_bkF {H H2 : fl_H} (t : TX H) (T2 : T1 H2) (b : bkF H H2) : TX H2 := by
  have bd := z_bd t
  have hw := TX_wf t
  obtain ⟨b1, b2, b3, ⟨n, b4⟩, b5, b6, b7⟩ := b
  obtain ⟨o1, o2, o3⟩ := och_bkz (t := H 59) (n := n) hw (TX_chA t).1
  rw [← b4] at o1 o2 o3
  obtain ⟨t1, t2, t3, t4, t5, t6, t7, t8, t9⟩ := t
  have e : ∀ c, 39 ≤ c → c < 94 → c ≠ 58 → c ≠ 64 → c ≠ 88 → c ≠ 90 → H2 c = H c := fun c p1 p2 p3 p4 p5 p6 => funext (fun i => b1 c i p2 (by omega) p3 (by omega) (by omega) (by omega) (by omega))
  have e' : ∀ c, 97 ≤ c → c ≠ 105 → H2 c = H c := fun c p1 p2 => funext (fun i => b2 c i p1 p2)
  have st : cz H2 1 = cz H 1 → ∀ j, ¬ (62 ≤ j ∧ j < 68) → H2 95 j = H 95 j := fun u j hj => by
    have q1 := T2.1.2.2.2.2.2.1 j hj
    have q2 := t1.1.2.2.2.2.2.1 j hj
    rw [u] at q1
    exact q1.symm.trans q2
  refine ⟨T2, ⟨o1, fun g hg => by rw [b5 g hg, o2 g]; exact t2.2 g hg⟩, ?_, ?_, ?_, ?_, ?_, ?_, ?_⟩
  · rw [b3]; intro u; unfold chA; rw [e' 106 (by omega) (by omega), e 57 (by omega) (by omega) (by omega) (by omega) (by omega) (by omega)]; exact t3 u
  · unfold she; rw [e 61 (by omega) (by omega) (by omega) (by omega) (by omega) (by omega), e 62 (by omega) (by omega) (by omega) (by omega) (by omega) (by omega), e 63 (by omega) (by omega) (by omega) (by omega) (by omega) (by omega), e' 107 (by omega) (by omega), e' 108 (by omega) (by omega), e' 109 (by omega) (by omega)]; exact t4
  · rcases b6 with ⟨u, -⟩ | ⟨u1, -, -, -, u5⟩
    · exact Or.inl u
    · have s := st u5
      refine flI_ext (fun j p q => s j (by omega)) (s 1 (by omega)) bd.2.1.2 (flI_fr t5 (fun c p q => ?_))
      by_cases e0 : c = 64
      · subst e0
        funext i
        by_cases ei : i = 5
        · rw [ei, u1]
        · exact b1 64 i (by omega) (by omega) (by omega) (by omega) (by omega) (by omega) (by omega)
      · exact e c (by omega) (by omega) (by omega) e0 (by omega) (by omega)
  · rcases b7 with ⟨u1, u2⟩ | u
    · exact rkn_ext (fun j p q => u2 j (by omega)) (u2 1 (by omega)) (rkn_c t6 u1)
    · exact fun code hc _ => Or.inl (u code hc)
  · rcases b6 with ⟨-, u, -⟩ | ⟨-, u2, -, -, u5⟩
    · exact Or.inl u
    · have s := st u5
      refine xk_kbe (fun j hj => s j (by omega)) hw ?_ (e 89 (by omega) (by omega) (by omega) (by omega) (by omega) (by omega)) t7
      funext i
      by_cases ei : i = 0
      · rw [ei, u2]
      · exact b1 88 i (by omega) (by omega) (by omega) (by omega) (by omega) (by omega) (by omega)
  · rcases b6 with ⟨-, -, u, -⟩ | ⟨-, -, u3, -, u5⟩
    · exact Or.inl u
    · have s := st u5
      refine xk_kst (fun j hj => s j (by omega)) (funext o2) hw t2.1 ?_ (e 91 (by omega) (by omega) (by omega) (by omega) (by omega) (by omega)) t8
      funext i
      by_cases ei : i = 0
      · rw [ei, u3]
      · exact b1 90 i (by omega) (by omega) (by omega) (by omega) (by omega) (by omega) (by omega)
  · rcases b6 with ⟨-, -, -, u⟩ | ⟨-, -, -, u4, u5⟩
    · exact Or.inl u
    · have s := st u5
      exact kmd_lk (fun j hj => s j (by omega)) o3 hw u4 (e 92 (by omega) (by omega) (by omega) (by omega) (by omega) (by omega)) (e 93 (by omega) (by omega) (by omega) (by omega) (by omega) (by omega)) t9
theorem tx_of {M1 M2 : cm_M} {a1 a2 : List Term} (h : ∀ m H, TX H → ck (cm_pg X xs) m M1 a1 H (fun r H1 => (∃ x, r = some x) ∧ ∀ m', ck (cm_pg X xs) m' M2 a2 H1 (fun r' H2 => r' = r ∧ TX H2))) : tw X xs TX true M1 M2 a1 a2 := fun m H t =>
  ck_mono (h m H t) (fun r H1 k => ⟨k.1, fun m' => ck_mono (k.2 m') (fun r' H2 q => ⟨by rw [q.1]; exact k.1, fun _ => q.1, q.2⟩)⟩)
theorem tx_book : tw X xs TX true cm_m109 cm_m232 [.index 0] [.index 94] :=
  tx_of (fun m H t => ck_mono (TB_book t.1) (fun r H1 h => ⟨h.1, fun m' => ck_mono (h.2 m') (fun r' H2 k => ⟨k.1, TX_bkF t k.2.1 k.2.2⟩)⟩))
end
end
