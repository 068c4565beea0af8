noncomputable section
/-! L3: choices put otherwise: choose, count, take. -/
section
variable {X : Term} {xs : List Int32}
theorem fgP_c (G : fl_H) {c : Nat} (h0 : c ≠ 0) (h90 : c ≠ 90) : fgP G c = G c := by
  unfold fgP; rw [fl_up_cell _ _ _ _ h0, fl_up_cell _ _ _ _ h90]
theorem fgP_0 (G : fl_H) {i : Nat} (h : i ≠ 14) : fgP G 0 i = G 0 i := by
  unfold fgP; rw [fl_up_i _ _ _ _ h, fl_up_c _ _ _ _ (by omega)]
theorem fgP_k (G : fl_H) : fgP G 90 0 = 0 ∧ fgP G 0 14 = -1 := by
  unfold fgP
  exact ⟨by rw [fl_up_c _ _ _ _ (by omega), fl_up_at], by rw [fl_up_at]⟩
theorem flI_ext {z w : Nat → Int} {H : fl_H} (h : ∀ j, 14 ≤ j → j < 62 → w j = z j) (h1 : w 1 = z 1) (z6 : z 1 ≤ 6) (k : flI z H) : flI w H := by
  rcases k with a | ⟨a, b, c⟩
  · exact Or.inl a
  · exact Or.inr ⟨a, fm_ext h h1 z6 b, kn_ext h h1 c⟩
theorem chA_mk {b : Nat} {z : Nat → Int} {G : fl_H} (h : ∀ g : Nat, (g : Int) < z 1 → g < 6 → G b g = z (62 + g)) (hb : ∀ g : Nat, (g : Int) < z 1 → 0 ≤ z (62 + g) ∧ z (62 + g) ≤ 2 * z 0) (h0 : ∀ g : Nat, g < 6 → z 1 ≤ (g : Int) → G b g = 0) : chA b z G := ⟨hb, fun g hg => by
  unfold pln
  by_cases q : (g : Int) < z 1
  · have := hb g q
    rw [if_pos q, h g q hg]; omega
  · rw [if_neg q, h0 g hg (by omega)]; rfl⟩
theorem chA_at {b : Nat} {z : Nat → Int} {H : fl_H} (h : chA b z H) {g : Nat} (hg : g < 6) : ((g : Int) < z 1 → H b g = z (62 + g)) ∧ (z 1 ≤ (g : Int) → H b g = 0) := by
  refine ⟨fun q => ?_, fun q => ?_⟩
  · rw [h.2 g hg, pln_at h.1 q]
  · rw [h.2 g hg]; unfold pln; rw [if_neg (by omega)]; rfl
theorem TX_cho {H G : fl_H} (t : TX H) (h1 : ∀ c, c ≠ 0 → c ≠ 19 → c ≠ 90 → c ≠ 94 → c ≠ 95 → ¬ (96 ≤ c ∧ c ≤ 103) → G c = H c) (h0 : ∀ i, i ≠ 14 → G 0 i = H 0 i) (h94 : ∀ i, i ≠ 4 → i ≠ 8 → i ≠ 10 → G 94 i = H 94 i) (h95 : ∀ j, ¬ (62 ≤ j ∧ j < 68) → G 95 j = H 95 j) (hk : rkn (H 95) G) (hc : chA 19 (G 95) G) (hp : G 90 0 = 0 ∧ G 0 14 = -1) : TX G := by
  have bd := z_bd t
  have lk : zlk (H 95) (G 95) := fun j hj => h95 j (fun q => hj (Or.inr (Or.inl q)))
  obtain ⟨t1, t2, t3, t4, t5, t6, t7, t8, t9⟩ := t
  have hw : wf (H 95) := t1.2.1
  have T : T1 G := T1_frC (fun c i k => by
    by_cases c0 : c = 0
    · subst c0
      exact h0 i (fun e => by rw [e] at k; exact absurd (sC_T k) (by decide))
    · by_cases c1 : c = 19
      · subst c1
        unfold sC at k; simp at k
      · by_cases c2 : c = 95
        · subst c2
          refine h95 i (fun q => ?_)
          unfold sC at k
          rw [Nat.ble_eq_true_of_le q.1, Nat.ble_eq_true_of_le (show i ≤ 67 by omega)] at k
          simp at k
        · by_cases c3 : c = 94
          · subst c3
            refine h94 i (fun e => ?_) (fun e => ?_) (fun e => ?_)
            · rw [e] at k; exact absurd (sC_T k) (by decide)
            · rw [e] at k; exact absurd (sC_T k) (by decide)
            · rw [e] at k; exact absurd (sC_T k) (by decide)
          · by_cases c4 : c = 90 ∨ (96 ≤ c ∧ c ≤ 103)
            · have := sC_T k
              rw [sT_no (by omega)] at this
              exact absurd this (by decide)
            · rw [h1 c c0 c1 (by omega) c3 c2 (by omega)]) t1
  have e : ∀ c, c ≠ 0 → c ≠ 19 → c ≠ 90 → c < 94 → G c = H c := fun c a b d q => h1 c a b d (by omega) (by omega) (by omega)
  refine ⟨T, hc, ?_, ?_, ?_, ?_, ?_, Or.inl hp.1, Or.inl hp.2⟩
  · rw [h94 18 (by omega) (by omega) (by omega)]; intro q; unfold chA; rw [h1 106 (by omega) (by omega) (by omega) (by omega) (by omega) (by omega), e 57 (by omega) (by omega) (by omega) (by omega)]; exact t3 q
  · unfold she; rw [e 61 (by omega) (by omega) (by omega) (by omega), e 62 (by omega) (by omega) (by omega) (by omega), e 63 (by omega) (by omega) (by omega) (by omega), h1 107 (by omega) (by omega) (by omega) (by omega) (by omega) (by omega), h1 108 (by omega) (by omega) (by omega) (by omega) (by omega) (by omega), h1 109 (by omega) (by omega) (by omega) (by omega) (by omega) (by omega)]; exact t4
  · exact flI_ext (fun j a b => h95 j (by omega)) (h95 1 (by omega)) bd.2.1.2 (flI_fr t5 (fun c a b => e c (by omega) (by omega) (by omega) (by omega)))
  · exact rkn_ext (fun j a b => h95 j (by omega)) (h95 1 (by omega)) hk
  · exact xk_kbe lk hw (e 88 (by omega) (by omega) (by omega) (by omega)) (e 89 (by omega) (by omega) (by omega) (by omega)) t7
-- ---- choose
def chK (z : Nat → Int) (g c : Int) : Prop := (0 ≤ g ∧ g ≤ z 1 - 1) ∧ (0 ≤ c ∧ c ≤ 2 * z 0)
theorem e2P {H : fl_H} (t : TX H) : fl_w (2 * H 1 0) = 2 * H 95 0 := by
  have bd := z_bd t
  rw [TX_0 t]; exact fl_wi (by omega) (by omega)
theorem cs_choose {m : Nat} {H : fl_H} {g c : Int} (hg : fl_w g = g) (hc : fl_w c = c) (t : TX H) : ck (cm_pg X xs) m cm_m111 [.index 0, fl_t g, fl_t c] H (fun r H1 => (¬ chK (H 95) g c ∧ r = some (-1) ∧ H1 = H) ∨ (chK (H 95) g c ∧ r = some (H 95 (62 + g.toNat)) ∧ H1 = fgP (fl_up H 19 g.toNat c))) := by
  have bd := z_bd t
  refine ve_GoodsBook_choose_0 (fun m1 _ => ve_GoodsBook_isGood_0 ⟨_, rfl, ?_⟩)
  simp only [fb_0, hg, w_0, eGm t]
  refine ⟨fun q => Or.inl ⟨fun k => q k.1, by trivial, by trivial⟩, fun q m2 _ => ve_Book_isChoice_1 ⟨_, rfl, ?_⟩⟩
  have q1 := Classical.not_not.mp q
  simp only [fb_0, hc, w_0, e2P t]
  refine ⟨fun p => Or.inl ⟨fun k => p k.2, by trivial, by trivial⟩, fun p _ _ H10 e10 m3 _ => ck_mono (cf_plan (X := X) (xs := xs)) (fun r H13 h => ⟨h.1, Or.inr ⟨⟨q1, Classical.not_not.mp p⟩, ?_, ?_⟩⟩)⟩
  · rw [(chA_at (TX_chA t) (g := g.toNat) (by omega)).1 (by omega)]
  · rw [h.2, e10]
theorem rs_choose {m : Nat} {H : fl_H} {g c : Int} (hg : fl_w g = g) (hc : fl_w c = c) (hw : wf (H 95)) : ck (cm_pg X xs) m cm_m188 [.index 94, fl_t g, fl_t c] H (fun r H1 => (¬ chK (H 95) g c ∧ r = some (-1) ∧ H1 = H) ∨ (chK (H 95) g c ∧ r = some (H 95 (62 + g.toNat)) ∧ H1 = fl_up H 95 (62 + g.toNat) c)) := by
  have bd := hw.1
  unfold zr at bd
  refine ve_GoodsBookModel_choose_94 (fun m1 _ => ve_GoodsBookModel_isGood_94 ⟨_, rfl, ?_⟩)
  simp only [fb_0, hg]
  rw [fl_wi (x := H 95 1 - 1) (by omega) (by omega)]
  refine ⟨fun q => Or.inl ⟨fun k => q k.1, by trivial, by trivial⟩, fun q m2 _ => ve_GoodsBookModel_isChoice_94 ⟨_, rfl, ?_⟩⟩
  have q1 := Classical.not_not.mp q
  simp only [fb_0, hc]
  have ei : (62 + g).toNat = 62 + g.toNat := by omega
  rw [fl_wi (x := 2 * H 95 0) (by omega) (by omega), fl_wi (x := 62 + g) (by omega) (by omega), ei]
  exact ⟨fun p => Or.inl ⟨fun k => p k.2, by trivial, by trivial⟩, fun p _ _ H10 e10 => Or.inr ⟨⟨q1, Classical.not_not.mp p⟩, rfl, e10⟩⟩
theorem tx_choose {v1 v2 : Int} (h1 : fl_w v1 = v1) (h2 : fl_w v2 = v2) : tw X xs TX true cm_m111 cm_m188 [.index 0, fl_t v1, fl_t v2] [.index 94, fl_t v1, fl_t v2] := fun m H t => by
  have bd := z_bd t
  have hw := TX_wf t
  refine ck_mono (cs_choose (X := X) (xs := xs) h1 h2 t) (fun r H1 h => ?_)
  have e95 : H1 95 = H 95 := by
    rcases h with ⟨-, -, e⟩ | ⟨-, -, e⟩
    · rw [e]
    · rw [e, fgP_c _ (by omega) (by omega), fl_up_cell _ _ _ _ (by omega)]
  have ex : ∃ x, r = some x := by
    rcases h with ⟨-, e, -⟩ | ⟨-, e, -⟩
    · exact ⟨_, e⟩
    · exact ⟨_, e⟩
  refine ⟨ex, fun m' => ck_mono (rs_choose (X := X) (xs := xs) h1 h2 (by rw [e95]; exact hw)) (fun r' H2 k => ?_)⟩
  rw [e95] at k
  rcases h with ⟨a1, a2, a3⟩ | ⟨a1, a2, a3⟩
  · rcases k with ⟨b1, b2, b3⟩ | ⟨b1, -⟩
    · rw [b3, a3]; exact ⟨⟨_, b2⟩, fun _ => by rw [a2, b2], t⟩
    · exact absurd b1 a1
  · rcases k with ⟨b1, -⟩ | ⟨b1, b2, b3⟩
    · exact absurd a1 b1
    · have c95 : H2 95 = upz (H 95) (62 + v1.toNat) v2 := by rw [b3, upz_up, e95]
      have oc2 : ∀ c, c ≠ 95 → H2 c = H1 c := fun c hc => by rw [b3, fl_up_cell _ _ _ _ hc]
      have oc1 : ∀ c, c ≠ 0 → c ≠ 19 → c ≠ 90 → H1 c = H c := fun c p q s => by rw [a3, fgP_c _ p s, fl_up_cell _ _ _ _ q]
      have q1 := a1.1
      have q2 := a1.2
      refine ⟨⟨_, b2⟩, fun _ => by rw [a2, b2], TX_cho t (fun c p q s u v _ => (oc2 c v).trans (oc1 c p q s)) (fun i hi => ?_) (fun i _ _ _ => ?_) (fun j hj => ?_) (rkn_c (TX_rkn t) ?_) (chA_mk (fun g g1 g6 => ?_) (fun g g1 => ?_) (fun g g6 g1 => ?_)) ?_⟩
      · rw [oc2 0 (by omega), a3, fgP_0 _ hi, fl_up_c _ _ _ _ (by omega)]
      · rw [oc2 94 (by omega), oc1 94 (by omega) (by omega) (by omega)]
      · rw [c95, upz_ne _ _ (by omega)]
      · rw [oc2 96 (by omega), oc1 96 (by omega) (by omega) (by omega)]
      · rw [c95, upz_ne _ _ (by omega)] at g1
        rw [oc2 19 (by omega), a3, fgP_c _ (by omega) (by omega), c95]
        by_cases e : g = v1.toNat
        · rw [e, fl_up_at, upz_at]
        · rw [fl_up_i _ _ _ _ e, upz_ne _ _ (by omega)]
          exact (chA_at (TX_chA t) g6).1 g1
      · rw [c95, upz_ne _ _ (show (1 : Nat) ≠ 62 + v1.toNat by omega)] at g1
        rw [c95, upz_ne _ _ (show (0 : Nat) ≠ 62 + v1.toNat by omega)]
        by_cases e : g = v1.toNat
        · rw [e, upz_at]; exact q2
        · rw [upz_ne _ _ (by omega)]
          exact (TX_chA t).1 g g1
      · rw [c95, upz_ne _ _ (by omega)] at g1
        rw [oc2 19 (by omega), a3, fgP_c _ (by omega) (by omega), fl_up_i _ _ _ _ (by omega)]
        exact (chA_at (TX_chA t) g6).2 g1
      · rw [oc2 90 (by omega), oc2 0 (by omega), a3]; exact fgP_k _
-- ---- count
def cnz (f : Nat → Int) : Nat → Int
  | 0 => 0
  | k + 1 => cnz f k + (if f k = 0 then 0 else 1)
theorem cnz_ext {f f' : Nat → Int} : ∀ (n : Nat), (∀ k, k < n → f k = f' k) → cnz f n = cnz f' n
  | 0, _ => rfl
  | n + 1, h => by
    show cnz f n + _ = cnz f' n + _
    rw [cnz_ext n (fun k hk => h k (by omega)), h n (by omega)]
theorem cnz_rg (f : Nat → Int) : ∀ n : Nat, 0 ≤ cnz f n ∧ cnz f n ≤ (n : Int)
  | 0 => ⟨by show (0 : Int) ≤ 0; omega, by show (0 : Int) ≤ _; omega⟩
  | n + 1 => by
    have := cnz_rg f n
    show 0 ≤ cnz f n + _ ∧ cnz f n + _ ≤ _
    by_cases h : f n = 0
    · rw [if_pos h]; omega
    · rw [if_neg h]; omega
theorem cl_count (n : Nat) (n6 : n ≤ 6) : ∀ (f k : Nat), k + f = n → ∀ (N : Nat) (H : fl_H) (a : Int), H 3 0 = (n : Int) → (∀ g, g < n → fl_w (H 19 g) = H 19 g) → a = cnz (H 19) k → hd_Book_countIn_1_4 (cm_pg X xs) N H a (k : Int) (fun r H' => r = some (cnz (H 19) n) ∧ H' = H)
  | 0, k, hk, N, H, a, h3, hw, ea => by
    refine vh_Book_countIn_1_4 ?_
    rw [h3, fl_wi (x := (n : Int)) (by omega) (by omega), fl_wi (x := (k : Int)) (by omega) (by omega)]
    exact ⟨fun _ => ⟨by rw [ea, show k = n by omega], rfl⟩, fun h => absurd (by omega) h⟩
  | f + 1, k, hk, N, H, a, h3, hw, ea => by
    refine vh_Book_countIn_1_4 ?_
    rw [h3, fl_wi (x := (n : Int)) (by omega) (by omega), fl_wi (x := (k : Int)) (by omega) (by omega), Int.toNat_natCast, hw k (by omega), show ((k : Int) + 1) = ((k + 1 : Nat) : Int) by omega]
    refine ⟨fun h => by omega, fun _ _ => ⟨fun h m _ => cl_count n n6 f (k + 1) (by omega) m H a h3 hw ?_, fun h m _ => cl_count n n6 f (k + 1) (by omega) m H (a + 1) h3 hw ?_⟩⟩
    · show a = cnz (H 19) k + _
      rw [if_pos h, ea]; omega
    · show a + 1 = cnz (H 19) k + _
      rw [if_neg h, ea]
theorem cm_count {m n : Nat} {H : fl_H} (n6 : n ≤ 6) (h3 : H 3 0 = (n : Int)) (hw : ∀ g, g < n → fl_w (H 19 g) = H 19 g) : ck (cm_pg X xs) m cm_m10 [.index 1] H (fun r H' => r = some (cnz (H 19) n) ∧ H' = H) :=
  ve_Book_countIn_1 (cl_count n n6 n 0 (by omega) _ H 0 h3 hw rfl)
theorem rl_count (n : Nat) (n6 : n ≤ 6) {b : Int} (hb : fl_w b = b) (b4 : 0 ≤ b ∧ b ≤ 4) : ∀ (f k : Nat), k + f = n → ∀ (N : Nat) (H : fl_H) (a : Int), H 95 1 = (n : Int) → (∀ g, g < n → 0 ≤ H 95 (62 + g) ∧ H 95 (62 + g) ≤ 6) → a = cnz (fun g => H 95 (62 + g)) k → hd_GoodsBookModel_count_94_18 (cm_pg X xs) N H b a (k : Int) (fun r H' => r = some (if b = 4 then cnz (fun g => H 95 (62 + g)) n else H 95 b.toNat) ∧ H' = H)
  | 0, k, hk, N, H, a, h3, hw, ea => by
    refine vh_GoodsBookModel_count_94_18 ?_
    rw [h3, hb, fl_wi (x := (n : Int)) (by omega) (by omega), fl_wi (x := (k : Int)) (by omega) (by omega)]
    refine ⟨fun _ => ⟨fun h => ⟨by rw [if_pos (by omega), ea, show k = n by omega], rfl⟩, fun h _ => ⟨by rw [if_neg (by omega)], rfl⟩⟩, fun h => absurd (by omega) h⟩
  | f + 1, k, hk, N, H, a, h3, hw, ea => by
    have w := hw k (by omega)
    refine vh_GoodsBookModel_count_94_18 ?_
    rw [h3, hb, fl_wi (x := (n : Int)) (by omega) (by omega), fl_wi (x := (k : Int)) (by omega) (by omega), fl_wi (x := 62 + (k : Int)) (by omega) (by omega), show (62 + (k : Int)).toNat = 62 + k by omega, fl_wi (x := H 95 (62 + k)) (by omega) (by omega), show ((k : Int) + 1) = ((k + 1 : Nat) : Int) by omega]
    refine ⟨fun h => by omega, fun _ _ => ⟨fun h m _ => rl_count n n6 hb b4 f (k + 1) (by omega) m H (a + 0) h3 hw ?_, fun h m _ => rl_count n n6 hb b4 f (k + 1) (by omega) m H (a + 1) h3 hw ?_⟩⟩
    · show a + 0 = cnz _ k + (if H 95 (62 + k) = 0 then 0 else 1)
      rw [if_pos (by omega), ea]
    · show a + 1 = cnz _ k + (if H 95 (62 + k) = 0 then 0 else 1)
      rw [if_neg (by omega), ea]
theorem rm_count {m n : Nat} {H : fl_H} {b : Int} (hb : fl_w b = b) (n6 : n ≤ 6) (h3 : H 95 1 = (n : Int)) (hw : ∀ g, g < n → 0 ≤ H 95 (62 + g) ∧ H 95 (62 + g) ≤ 6) : ck (cm_pg X xs) m cm_m167 [.index 94, fl_t b] H (fun r H' => r = some (if 0 ≤ b ∧ b ≤ 4 then (if b = 4 then cnz (fun g => H 95 (62 + g)) n else H 95 b.toNat) else -1) ∧ H' = H) := by
  refine ve_GoodsBookModel_count_94 ?_
  rw [hb]
  refine ⟨fun q => ?_, fun q => ⟨by rw [if_neg q], rfl⟩⟩
  rw [if_pos q]
  exact rl_count n n6 hb q n 0 (by omega) _ H 0 h3 hw rfl
def oCnt (b : Int) (z : Nat → Int) : Int := if 0 ≤ b ∧ b ≤ 4 then (if b = 4 then cnz (fun g => z (62 + g)) (z 1).toNat else z b.toNat) else -1
theorem TX_c6 {H : fl_H} (t : TX H) : ∀ g : Nat, g < (H 95 1).toNat → 0 ≤ H 95 (62 + g) ∧ H 95 (62 + g) ≤ 6 := fun g hg => by
  have bd := z_bd t
  have := (TX_chA t).1 g (by omega)
  omega
theorem cs_count {m : Nat} {H : fl_H} {b : Int} (hb : fl_w b = b) (t : TX H) : ck (cm_pg X xs) m cm_m110 [.index 0, fl_t b] H (fun r H' => r = some (oCnt b (H 95)) ∧ H' = H) := by
  have bd := z_bd t
  have q := t.1.1.2.2.2.2.2.1
  have e2 : H 9 0 = H 95 2 := (cz_at (H := H) (b := 1) (j := 2) rfl rfl rfl).symm.trans (q 2 (by omega))
  have e3 : H 14 0 = H 95 3 := (cz_at (H := H) (b := 1) (j := 3) rfl rfl rfl).symm.trans (q 3 (by omega))
  have w6 := TX_c6 t
  have ew : ∀ g, g < (H 95 1).toNat → H 19 g = H 95 (62 + g) := fun g hg => (chA_at (TX_chA t) (by omega)).1 (by omega)
  refine ve_GoodsBook_count_0 ?_
  rw [hb]
  refine ⟨fun h => ⟨?_, rfl⟩, fun h => ⟨?_, rfl⟩, fun h => ⟨?_, rfl⟩, fun h => ⟨?_, rfl⟩, fun h m1 _ => ck_mono (cm_count (X := X) (xs := xs) (n := (H 95 1).toNat) (by omega) (by rw [TX_1 t]; omega) (fun g hg => by rw [ew g hg]; have := w6 g hg; exact fl_wi (by omega) (by omega))) (fun r1 H1 h1 => ⟨_, h1.1, ?_, h1.2⟩), fun h => ⟨?_, rfl⟩⟩
  · rw [h, TX_0 t]; rfl
  · rw [h, TX_1 t]; rfl
  · rw [h, e2]; rfl
  · rw [h, e3]; rfl
  · rw [h]; unfold oCnt; rw [if_pos (by omega), if_pos rfl, cnz_ext _ ew]
  · unfold oCnt; rw [if_neg (by omega)]
theorem tx_count {v1 : Int} (h1 : fl_w v1 = v1) : tw X xs TX true cm_m110 cm_m167 [.index 0, fl_t v1] [.index 94, fl_t v1] := fun m H t => by
  have bd := z_bd t
  refine ck_mono (cs_count (X := X) (xs := xs) h1 t) (fun r H1 h => ⟨⟨_, h.1⟩, fun m' => ?_⟩)
  rw [h.2]
  refine ck_mono (rm_count (X := X) (xs := xs) (n := (H 95 1).toNat) h1 (by omega) (by omega) (TX_c6 t)) (fun r' H2 k => ⟨⟨_, k.1⟩, fun _ => ?_, ?_⟩)
  · rw [k.1, h.1]; rfl
  · rw [k.2]; exact t
-- ---- take
theorem rl_take (n : Nat) (n6 : n ≤ 6) (H0 : fl_H) : ∀ (f k : Nat), k + f = n → ∀ (N : Nat) (H : fl_H), H0 95 1 = (n : Int) → (∀ c, c ≠ 95 → H c = H0 c) → (∀ j, H 95 j = if 62 ≤ j ∧ j < 62 + k then H0 101 (j - 62) else H0 95 j) → hd_GoodsBookModel_take_94_6 (cm_pg X xs) N H (k : Int) (fun r H' => r = some (H0 94 8) ∧ (∀ c, c ≠ 95 → H' c = H0 c) ∧ ∀ j, H' 95 j = if 62 ≤ j ∧ j < 62 + n then H0 101 (j - 62) else H0 95 j)
  | 0, k, hk, N, H, h3, hc, hj => by
    have e1 : H 95 1 = (n : Int) := by rw [hj, if_neg (by omega), h3]
    refine vh_GoodsBookModel_take_94_6 ?_
    rw [e1, fl_wi (x := (n : Int)) (by omega) (by omega), fl_wi (x := (k : Int)) (by omega) (by omega)]
    exact ⟨fun _ => ⟨by rw [hc 94 (by omega)], hc, by rw [← (show k = n by omega)]; exact hj⟩, fun h => absurd (by omega) h⟩
  | f + 1, k, hk, N, H, h3, hc, hj => by
    have e1 : H 95 1 = (n : Int) := by rw [hj, if_neg (by omega), h3]
    refine vh_GoodsBookModel_take_94_6 ?_
    rw [e1, fl_wi (x := (n : Int)) (by omega) (by omega), fl_wi (x := (k : Int)) (by omega) (by omega), fl_wi (x := 62 + (k : Int)) (by omega) (by omega), Int.toNat_natCast, show (62 + (k : Int)).toNat = 62 + k by omega, show ((k : Int) + 1) = ((k + 1 : Nat) : Int) by omega]
    refine ⟨fun h => by omega, fun _ _ _ H3 e3 m _ => rl_take n n6 H0 f (k + 1) (by omega) m H3 h3 (fun c q => by rw [e3, fl_up_cell _ _ _ _ q]; exact hc c q) (fun j => ?_)⟩
    rw [e3]
    by_cases e : j = 62 + k
    · rw [e, fl_up_at, if_pos (by omega), hc 101 (by omega), show 62 + k - 62 = k by omega]
    · rw [fl_up_i _ _ _ _ e, hj]
      by_cases q : 62 ≤ j ∧ j < 62 + k
      · rw [if_pos q, if_pos (by omega)]
      · rw [if_neg q, if_neg (by omega)]
theorem tx_take : tw X xs TX true cm_m120 cm_m198 [.index 0] [.index 94] := fun m H t => by
  refine ve_GoodsBook_take_0 (fun m1 _ => ck_mono (fb_now (X := X) (xs := xs) t) (fun r1 G h => ?_))
  obtain ⟨tG, e95, -, R, hR, hr, er⟩ := h
  rw [← e95] at hR
  have bd := z_bd tG
  have hw := TX_wf tG
  refine ⟨_, er, fun H4 e4 m2 _ => ck_mono (cf_plan (X := X) (xs := xs)) (fun r2 H6 h2 => ⟨h2.1, ?_⟩)⟩
  have c6 : ∀ c, c ≠ 0 → c ≠ 19 → c ≠ 90 → H6 c = G c := fun c p q s => by
    rw [h2.2, fgP_c _ p s, e4]
    funext i
    unfold fl_cp
    rw [if_neg (fun a => q a.1)]
  have c19 : ∀ g, g < 6 → H6 19 g = ((R g : Nat) : Int) := fun g hg => by
    rw [h2.2, fgP_c _ (by omega) (by omega), e4]
    unfold fl_cp
    rw [if_pos ⟨rfl, hg⟩]; exact hr g hg
  have c0 : ∀ i, i ≠ 14 → H6 0 i = G 0 i := fun i hi => by
    rw [h2.2, fgP_0 _ hi, e4]
    unfold fl_cp
    rw [if_neg (fun a => by omega)]
  have e6 : H6 95 = G 95 := c6 95 (by omega) (by omega) (by omega)
  refine ⟨⟨_, rfl⟩, fun m' => ve_GoodsBookModel_take_94 (fun m3 _ => ck_mono (rc_find (X := X) (xs := xs) (by rw [e6]; exact hw) (by rw [e6]; exact rkn_c (TX_rkn tG) (c6 96 (by omega) (by omega) (by omega)))) (fun r3 F h3 => ⟨h3.1, ?_⟩))⟩
  obtain ⟨-, o3, k3, R', b3, f3⟩ := h3
  rw [e6] at k3 b3
  obtain ⟨eA, eR⟩ := zbs_un b3 hR
  have F95 : F 95 = G 95 := (o3.1 95 (by omega) (by omega)).trans e6
  obtain ⟨n, en⟩ : ∃ n : Nat, F 95 1 = (n : Int) := ⟨(F 95 1).toNat, by rw [F95]; omega⟩
  have n6 : n ≤ 6 := by rw [F95] at en; omega
  have oF : ∀ c, c ≠ 0 → c ≠ 19 → c ≠ 90 → c ≠ 94 → ¬ (96 ≤ c ∧ c ≤ 102) → F c = G c := fun c p q s u v => (o3.1 c u v).trans (c6 c p q s)
  have rb := hR.1
  have F101 : ∀ g : Nat, g < n → F 101 g = ((R g : Nat) : Int) := fun g hg => by
    rw [f3 g (by omega), eR]
  have key := rl_take (X := X) (xs := xs) n n6 F n 0 (by omega) m' F en (fun _ _ => rfl) (fun j => by rw [if_neg (by omega)])
  intro lv l0 l1
  refine vt_mono (Nat.le_refl _) (fun r' H2 k => ?_) (key lv l0 l1)
  obtain ⟨k1, k2, k3'⟩ := k
  have z0 : ∀ j, ¬ (62 ≤ j ∧ j < 68) → H2 95 j = G 95 j := fun j hj => by rw [k3', if_neg (by omega), F95]
  have zc : ∀ g : Nat, g < n → H2 95 (62 + g) = ((R g : Nat) : Int) := fun g hg => by
    rw [k3', if_pos (by omega), show 62 + g - 62 = g by omega]; exact F101 g hg
  refine ⟨⟨_, k1⟩, fun _ => ?_, TX_cho tG (fun c p q s u v w => (k2 c v).trans (oF c p q s u (by omega))) (fun i hi => ?_) (fun i p q s => ?_) z0 ?_ (chA_mk (fun g g1 g6 => ?_) (fun g g1 => ?_) (fun g g6 g1 => ?_)) ?_⟩
  · rw [k1, eA, c6 88 (by omega) (by omega) (by omega)]
  · rw [k2 0 (by omega), o3.1 0 (by omega) (by omega)]; exact c0 i hi
  · rw [k2 94 (by omega), o3.2 i p q s, c6 94 (by omega) (by omega) (by omega)]
  · exact rkn_c k3 (k2 96 (by omega))
  · rw [z0 1 (by omega), ← F95] at g1
    rw [k2 19 (by omega), o3.1 19 (by omega) (by omega), c19 g g6, zc g (by omega)]
  · rw [z0 1 (by omega), ← F95] at g1
    rw [zc g (by omega), z0 0 (by omega)]
    exact ⟨by omega, (rb.1 g (by omega)).1⟩
  · rw [z0 1 (by omega)] at g1
    rw [k2 19 (by omega), o3.1 19 (by omega) (by omega), c19 g g6, (rb.1 g g6).2 g1]; rfl
  · rw [k2 90 (by omega), k2 0 (by omega), o3.1 90 (by omega) (by omega), o3.1 0 (by omega) (by omega), h2.2]; exact fgP_k _
end
end
