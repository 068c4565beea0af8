noncomputable section
/-! L3: the reference puts in what it has read. -/
section
variable {X : Term} {xs : List Int32}
theorem fl_up_z (H : fl_H) (c i : Nat) (v : Int) : (fl_up H c i v) c = upz (H c) i v := by
  funext j
  unfold fl_up upz
  by_cases h : j = i
  · rw [if_pos ⟨rfl, h⟩, if_pos h]
  · rw [if_neg (fun hh => h hh.2), if_neg h]
theorem upz_at (z : Nat → Int) (i : Nat) (v : Int) : upz z i v i = v := if_pos rfl
theorem upz_ne (z : Nat → Int) {i j : Nat} (v : Int) (h : j ≠ i) : upz z i v j = z j := if_neg h
/-- only z and what is kept of fits has changed -/
def oz (H G : fl_H) : Prop := ∀ c, c ≠ 95 → c ≠ 96 → G c = H c
theorem oz_refl (H : fl_H) : oz H H := fun _ _ _ => rfl
theorem oz_trans {H G F : fl_H} (h : oz H G) (g : oz G F) : oz H F := fun c h1 h2 => (g c h1 h2).trans (h c h1 h2)
theorem oz_z (H : fl_H) (i : Nat) (v : Int) : oz H (fl_up H 95 i v) := fun c h1 _ => fl_up_cell H 95 i v h1
theorem oz_f (H : fl_H) (i : Nat) (v : Int) : oz H (fl_up H 96 i v) := fun c _ h2 => fl_up_cell H 96 i v h2
def zr (z : Nat → Int) : Prop := 0 ≤ z 0 ∧ z 0 ≤ 3 ∧ 0 ≤ z 1 ∧ z 1 ≤ 6 ∧ 0 ≤ z 2 ∧ z 2 ≤ 12
theorem rz_page {m : Nat} {H : fl_H} {v : Int} (h1 : 0 ≤ v) (h2 : v ≤ 60) (h3 : 0 ≤ H 95 0) (h4 : H 95 0 < 3) : ck (cm_pg X xs) m cm_m156 [.index 94, fl_t v] H (fun r H' => (∃ x, r = some x) ∧ H' 95 = apz [0, v] (H 95) ∧ oz H H') := by
  refine ve_GoodsBookModel_page_94 ?_
  rw [fl_wi (x := v) (by omega) (by omega), fl_wi (x := H 95 0) (by omega) (by omega), fl_wi (x := 10 + H 95 0) (by omega) (by omega)]
  refine ⟨fun _ => ⟨fun h => by omega, fun _ _ H3 e3 H6 e6 => ⟨⟨_, rfl⟩, ?_, ?_⟩⟩, fun h => absurd ⟨h1, h2⟩ h⟩
  · have ei : (10 + H 95 0).toNat = 10 + (H 95 0).toNat := by omega
    have e0 : H3 95 0 = H 95 0 := by rw [e3, ei, fl_up_i _ _ _ _ (by omega)]
    rw [e6, e0, fl_up_z, e3, fl_up_z, ei]
    rfl
  · rw [e6, e3]
    exact oz_trans (oz_z _ _ _) (oz_z _ _ _)
theorem rz_ff : ∀ (N : Nat) (H : fl_H) (a : Int), 0 ≤ a → a ≤ 729 → hd_GoodsBookModel_forgetFits_94_2 (cm_pg X xs) N H a (fun r H' => r = none ∧ ∀ c, c ≠ 96 → H' c = H c) := by
  intro N
  induction N using Nat.strongRecOn with
  | ind N ih =>
    intro H a h0 h1
    refine vh_GoodsBookModel_forgetFits_94_2 ?_
    rw [fl_wi (by omega) (by omega)]
    refine ⟨fun _ => ⟨rfl, fun _ _ => rfl⟩, fun hlt _ H2 e2 m hm => ?_⟩
    have := ih m hm H2 (a + 1) (by omega) (by omega)
    intro lv l0 l1
    refine vt_mono (Nat.le_refl _) (fun r H' hr => ⟨hr.1, fun c hc => ?_⟩) (this lv l0 l1)
    rw [hr.2 c hc, e2, fl_up_cell _ _ _ _ hc]
theorem rz_forget {m : Nat} {H : fl_H} : ck (cm_pg X xs) m cm_m168 [.index 94] H (fun r H' => r = none ∧ ∀ c, c ≠ 96 → H' c = H c) :=
  ve_GoodsBookModel_forgetFits_94 (rz_ff _ H 0 (by omega) (by omega))
theorem rz_good1 (g : Nat) (hg : g ≤ 5) : ∀ (f k : Nat), k + f = 8 → 2 ≤ k → ∀ (N : Nat) (H : fl_H), H 95 1 = (g : Int) → hd_GoodsBookModel_addGood_94_32 (cm_pg X xs) N H (14 + 8 * (g : Int)) (k : Int) (fun r H' => r = none ∧ (∀ j, ¬ (14 + 8 * g + k ≤ j ∧ j < 22 + 8 * g) → H' 95 j = upz (upz (H 95) (62 + g) 0) 1 ((g : Int) + 1) j) ∧ oz H H')
  | 0, k, hk, h2, N, H, h1 => by
    refine vh_GoodsBookModel_addGood_94_32 ?_
    rw [fl_wi (x := (k : Int)) (by omega) (by omega), h1, fl_wi (x := 62 + (g : Int)) (by omega) (by omega)]
    have ei : (62 + (g : Int)).toNat = 62 + g := by omega
    rw [ei]
    refine ⟨fun _ _ H2 e2 H5 e5 m hm => ck_mono (rz_forget (X := X) (xs := xs)) (fun r H' hr => ⟨hr.1, rfl, fun j _ => ?_, fun c c1 c2 => ?_⟩), fun h => by omega⟩
    · rw [hr.2 95 (by decide), e5, fl_up_z, e2, fl_up_z, upz_ne _ _ (show (1 : Nat) ≠ 62 + g by omega), h1]
    · rw [hr.2 c c2, e5, fl_up_cell _ _ _ _ c1, e2, fl_up_cell _ _ _ _ c1]
  | f + 1, k, hk, h2, N, H, h1 => by
    refine vh_GoodsBookModel_addGood_94_32 ?_
    rw [fl_wi (x := (k : Int)) (by omega) (by omega), fl_wi (x := 14 + 8 * (g : Int) + (k : Int)) (by omega) (by omega)]
    have ei : (14 + 8 * (g : Int) + (k : Int)).toNat = 14 + 8 * g + k := by omega
    have ek : (k : Int) + 1 = ((k + 1 : Nat) : Int) := by omega
    rw [ei, ek]
    have key : ∀ v : Int, ∀ H', H' = fl_up H 95 (14 + 8 * g + k) v → ∀ m, hd_GoodsBookModel_addGood_94_32 (cm_pg X xs) m H' (14 + 8 * (g : Int)) ((k + 1 : Nat) : Int) (fun r H' => r = none ∧ (∀ j, ¬ (14 + 8 * g + k ≤ j ∧ j < 22 + 8 * g) → H' 95 j = upz (upz (H 95) (62 + g) 0) 1 ((g : Int) + 1) j) ∧ oz H H') := fun v H1 e1 m => by
      have := rz_good1 g hg f (k + 1) (by omega) (by omega) m H1 (by rw [e1, fl_up_i _ _ _ _ (by omega)]; exact h1)
      intro lv l0 l1 l2
      refine vt_mono (Nat.le_refl _) (fun r H' hr => ⟨hr.1, fun j hj => ?_, oz_trans (by rw [e1]; exact oz_z _ _ _) hr.2.2⟩) (this lv l0 l1 l2)
      rw [hr.2.1 j (by omega), e1, fl_up_z]
      unfold upz
      by_cases j1 : j = 1
      · rw [if_pos j1, if_pos j1]
      · rw [if_neg j1, if_neg j1]
        by_cases j2 : j = 62 + g
        · rw [if_pos j2, if_pos j2]
        · rw [if_neg j2, if_neg j2, if_neg (by omega)]
    refine ⟨fun h => by omega, fun _ => ⟨fun _ _ H10 e10 m hm => key 0 H10 e10 m, fun _ => ⟨fun _ _ H15 e15 m hm => key 0 H15 e15 m, fun _ _ H19 e19 m hm => key 1 H19 e19 m⟩⟩⟩
theorem rz_size {m g s : Nat} {H : fl_H} (hg : g ≤ 5) (hs : s ≤ 1) {w h v : Int} : ck (cm_pg X xs) m cm_m160 [.index 94, fl_t (g : Int), fl_t (s : Int), fl_t w, fl_t h, fl_t v] H (fun r H' => (∃ x, r = some x) ∧ H' 95 = upz (upz (upz (H 95) (16 + 8 * g + 3 * s) w) (17 + 8 * g + 3 * s) h) (18 + 8 * g + 3 * s) v ∧ oz H H') := by
  refine ve_GoodsBookModel_setSize_94 ?_
  rw [fl_wi (x := 14 + 8 * (g : Int) + 2 + 3 * (s : Int)) (by omega) (by omega), fl_wi (x := 14 + 8 * (g : Int) + 2 + 3 * (s : Int) + 1) (by omega) (by omega), fl_wi (x := 14 + 8 * (g : Int) + 2 + 3 * (s : Int) + 2) (by omega) (by omega)]
  have e0 : (14 + 8 * (g : Int) + 2 + 3 * (s : Int)).toNat = 16 + 8 * g + 3 * s := by omega
  have e1 : (14 + 8 * (g : Int) + 2 + 3 * (s : Int) + 1).toNat = 17 + 8 * g + 3 * s := by omega
  have e2 : (14 + 8 * (g : Int) + 2 + 3 * (s : Int) + 2).toNat = 18 + 8 * g + 3 * s := by omega
  rw [e0, e1, e2]
  refine fun _ _ H2 q2 _ H5 q5 _ H8 q8 m hm => ck_mono (rz_forget (X := X) (xs := xs)) (fun r H' hr => ⟨hr.1, ⟨_, rfl⟩, ?_, fun c c1 c2 => ?_⟩)
  · rw [hr.2 95 (by decide), q8, fl_up_z, q5, fl_up_z, q2, fl_up_z]
  · rw [hr.2 c c2, q8, fl_up_cell _ _ _ _ c1, q5, fl_up_cell _ _ _ _ c1, q2, fl_up_cell _ _ _ _ c1]
theorem rz_good {m g : Nat} {H : fl_H} (hg : g ≤ 5) (h1 : H 95 1 = (g : Int)) {k f : Int} : ck (cm_pg X xs) m cm_m158 [.index 94, fl_t k, fl_t f] H (fun r H' => r = none ∧ (∀ j, ¬ (16 + 8 * g ≤ j ∧ j < 22 + 8 * g) → H' 95 j = upz (upz (upz (upz (H 95) (14 + 8 * g) k) (15 + 8 * g) f) (62 + g) 0) 1 ((g : Int) + 1) j) ∧ oz H H') := by
  refine ve_GoodsBookModel_addGood_94 ?_
  rw [h1, fl_wi (x := 14 + 8 * (g : Int)) (by omega) (by omega), fl_wi (x := 14 + 8 * (g : Int) + 1) (by omega) (by omega)]
  have e0 : (14 + 8 * (g : Int)).toNat = 14 + 8 * g := by omega
  have e1 : (14 + 8 * (g : Int) + 1).toNat = 15 + 8 * g := by omega
  rw [e0, e1]
  refine fun _ H1 q1 _ H4 q4 => ?_
  have hh : H4 95 1 = (g : Int) := by rw [q4, fl_up_i _ _ _ _ (by omega), q1, fl_up_i _ _ _ _ (by omega)]; exact h1
  have := rz_good1 (X := X) (xs := xs) g hg 6 2 rfl (by omega) m H4 hh
  intro lv l0 l1 l2
  refine vt_mono (Nat.le_refl _) (fun r H' hr => ⟨hr.1, fun j hj => ?_, oz_trans (by rw [q4, q1]; exact oz_trans (oz_z _ _ _) (oz_z _ _ _)) hr.2.2⟩) (this lv l0 l1 l2)
  rw [hr.2.1 j (by omega), q4, fl_up_z, q1, fl_up_z]
theorem rz_bond {m : Nat} {H : fl_H} (h0 : 0 ≤ H 95 2) (h1 : H 95 2 < 12) {k x y v : Int} : ck (cm_pg X xs) m cm_m163 [.index 94, fl_t k, fl_t x, fl_t y, fl_t v] H (fun r H' => r = none ∧ H' 95 = apz [2, k, x, y, v] (H 95) ∧ oz H H') := by
  refine ve_GoodsBookModel_addBond_94 ?_
  rw [fl_wi (x := 68 + 4 * H 95 2) (by omega) (by omega), fl_wi (x := 68 + 4 * H 95 2 + 1) (by omega) (by omega), fl_wi (x := 68 + 4 * H 95 2 + 2) (by omega) (by omega), fl_wi (x := 68 + 4 * H 95 2 + 3) (by omega) (by omega)]
  have e0 : (68 + 4 * H 95 2).toNat = 68 + 4 * (H 95 2).toNat := by omega
  have e1 : (68 + 4 * H 95 2 + 1).toNat = 69 + 4 * (H 95 2).toNat := by omega
  have e2 : (68 + 4 * H 95 2 + 2).toNat = 70 + 4 * (H 95 2).toNat := by omega
  have e3 : (68 + 4 * H 95 2 + 3).toNat = 71 + 4 * (H 95 2).toNat := by omega
  rw [e0, e1, e2, e3]
  refine fun _ H1 q1 _ H4 q4 _ H7 q7 _ H10 q10 H13 q13 => ⟨rfl, ?_, ?_⟩
  · have g2 : H10 95 2 = H 95 2 := by
      rw [q10, fl_up_i _ _ _ _ (by omega), q7, fl_up_i _ _ _ _ (by omega), q4, fl_up_i _ _ _ _ (by omega), q1, fl_up_i _ _ _ _ (by omega)]
    rw [q13, g2, fl_up_z, q10, fl_up_z, q7, fl_up_z, q4, fl_up_z, q1, fl_up_z]
    rfl
  · rw [q13, q10, q7, q4, q1]
    exact oz_trans (oz_trans (oz_trans (oz_trans (oz_z _ _ _) (oz_z _ _ _)) (oz_z _ _ _)) (oz_z _ _ _)) (oz_z _ _ _)
theorem rz_do {m k : Nat} {H : fl_H} {e : List Int} (hk : 12 * k + 8 < 144) (he : evk e) (hx : ∀ q, q < e.length → H 105 (12 * k + q) = e.getD q 0) (hz : zr (H 95)) (hr : rom e (H 95)) : ck (cm_pg X xs) m cm_m231 [.index 94, fl_t ((12 * k : Nat) : Int)] H (fun r H' => r = none ∧ H' 95 = apz e (H 95) ∧ oz H H') := by
  have wj : ∀ d : Nat, d ≤ 8 → fl_w (((12 * k : Nat) : Int) + (d : Int)) = ((12 * k + d : Nat) : Int) := fun d hd => by rw [fl_wi (by omega) (by omega)]; omega
  have w0 : fl_w ((12 * k : Nat) : Int) = ((12 * k : Nat) : Int) := fl_wi (by omega) (by omega)
  have w1 : fl_w (((12 * k : Nat) : Int) + 1) = ((12 * k + 1 : Nat) : Int) := wj 1 (by omega)
  have w2 : fl_w (((12 * k : Nat) : Int) + 2) = ((12 * k + 2 : Nat) : Int) := wj 2 (by omega)
  have w3 : fl_w (((12 * k : Nat) : Int) + 3) = ((12 * k + 3 : Nat) : Int) := wj 3 (by omega)
  have w4 : fl_w (((12 * k : Nat) : Int) + 4) = ((12 * k + 4 : Nat) : Int) := wj 4 (by omega)
  have w5 : fl_w (((12 * k : Nat) : Int) + 5) = ((12 * k + 5 : Nat) : Int) := wj 5 (by omega)
  have w6 : fl_w (((12 * k : Nat) : Int) + 6) = ((12 * k + 6 : Nat) : Int) := wj 6 (by omega)
  have w7 : fl_w (((12 * k : Nat) : Int) + 7) = ((12 * k + 7 : Nat) : Int) := wj 7 (by omega)
  have w8 : fl_w (((12 * k : Nat) : Int) + 8) = ((12 * k + 8 : Nat) : Int) := wj 8 (by omega)
  obtain ⟨z1, z2, z3, z4, z5, z6⟩ := hz
  refine ve_GoodsBookModel_doClause_94 ?_
  rw [w0, w1, w2, w3, w4, w5, w6, w7, w8]
  simp only [Int.toNat_natCast]
  rcases he with ⟨v, rfl, hv0, hv1⟩ | ⟨kk, f, a0, b0, c0, a1, b1, c1, rfl⟩ | ⟨kk, x, y, v, rfl⟩
  · have x0 : H 105 (12 * k) = 0 := hx 0 (Nat.le_of_ble_eq_true rfl)
    have x1 : H 105 (12 * k + 1) = v := hx 1 (Nat.le_of_ble_eq_true rfl)
    rw [x0, x1]
    refine fun _ => ⟨fun _ _ m hm => ck_mono (rz_page (X := X) (xs := xs) hv0 hv1 z1 (hr.1 rfl)) (fun r H4 h => ?_), fun h => absurd (show fl_w 0 = 0 from rfl) h⟩
    obtain ⟨⟨x, hx⟩, h2, h3⟩ := h
    exact ⟨x, hx, trivial, h2, h3⟩
  · have x0 : H 105 (12 * k) = 1 := hx 0 (Nat.le_of_ble_eq_true rfl)
    have x1 : H 105 (12 * k + 1) = kk := hx 1 (Nat.le_of_ble_eq_true rfl)
    have x2 : H 105 (12 * k + 2) = f := hx 2 (Nat.le_of_ble_eq_true rfl)
    rw [x0, x1, x2]
    refine fun _ => ⟨fun h => absurd h (show ¬ fl_w 1 = 0 by decide), fun _ _ => ⟨fun _ _ _ m hm => ?_, fun h => absurd (show fl_w 1 = 1 by decide) h⟩⟩
    obtain ⟨g, hg⟩ : ∃ g : Nat, H 95 1 = (g : Int) := ⟨(H 95 1).toNat, by omega⟩
    have hg5 : g ≤ 5 := by have := hr.2.1 rfl; omega
    refine ck_mono (rz_good (X := X) (xs := xs) hg5 hg) (fun r H11 h => ⟨h.1, fun _ _ _ m hm => ?_⟩)
    obtain ⟨-, h2, h3⟩ := h
    have o11 : H11 105 = H 105 := h3 105 (by decide) (by decide)
    rw [hg, o11, show H 105 (12 * k + 3) = a0 from hx 3 (Nat.le_of_ble_eq_true rfl), show H 105 (12 * k + 4) = b0 from hx 4 (Nat.le_of_ble_eq_true rfl), show H 105 (12 * k + 5) = c0 from hx 5 (Nat.le_of_ble_eq_true rfl)]
    refine ck_mono (rz_size (X := X) (xs := xs) (g := g) (s := 0) hg5 (by omega)) (fun r H16 h => ?_)
    obtain ⟨⟨x, hx1⟩, h4, h5⟩ := h
    refine ⟨x, hx1, fun _ _ _ m hm => ?_⟩
    have o16 : H16 105 = H 105 := (h5 105 (by decide) (by decide)).trans o11
    rw [o16, show H 105 (12 * k + 6) = a1 from hx 6 (Nat.le_of_ble_eq_true rfl), show H 105 (12 * k + 7) = b1 from hx 7 (Nat.le_of_ble_eq_true rfl), show H 105 (12 * k + 8) = c1 from hx 8 (Nat.le_of_ble_eq_true rfl)]
    refine ck_mono (rz_size (X := X) (xs := xs) (g := g) (s := 1) hg5 (by omega)) (fun r H22 h => ?_)
    obtain ⟨⟨x', hx1'⟩, h6, h7⟩ := h
    refine ⟨x', hx1', trivial, ?_, oz_trans (oz_trans h3 h5) h7⟩
    rw [h6, h4]
    funext j
    show _ = upz _ 1 (H 95 1 + 1) j
    rw [hg, Int.toNat_natCast]
    by_cases hj : 16 + 8 * g ≤ j ∧ j < 22 + 8 * g
    · unfold upz
      rw [if_neg (by omega : ¬ j = 1), if_neg (by omega : ¬ j = 62 + g)]
      by_cases j1 : j = 21 + 8 * g
      · rw [if_pos (by omega), if_pos j1]
      · rw [if_neg (by omega), if_neg j1]
        by_cases j2 : j = 20 + 8 * g
        · rw [if_pos (by omega), if_pos j2]
        · rw [if_neg (by omega), if_neg j2]
          by_cases j3 : j = 19 + 8 * g
          · rw [if_pos (by omega), if_pos j3]
          · rw [if_neg (by omega), if_neg j3]
            by_cases j4 : j = 18 + 8 * g
            · rw [if_pos (by omega), if_pos j4]
            · rw [if_neg (by omega), if_neg j4]
              by_cases j5 : j = 17 + 8 * g
              · rw [if_pos (by omega), if_pos j5]
              · rw [if_neg (by omega), if_neg j5, if_pos (by omega), if_pos (by omega)]
    · have := h2 j hj
      unfold upz at this ⊢
      rw [if_neg (by omega), if_neg (by omega), if_neg (by omega), if_neg (by omega), if_neg (by omega), if_neg (by omega), this]
      by_cases j1 : j = 1
      · rw [if_pos j1, if_pos j1]
      · rw [if_neg j1, if_neg j1]
        by_cases j2 : j = 62 + g
        · rw [if_pos j2, if_pos j2]
        · rw [if_neg j2, if_neg j2, if_neg (by omega : ¬ j = 21 + 8 * g), if_neg (by omega : ¬ j = 20 + 8 * g), if_neg (by omega : ¬ j = 19 + 8 * g), if_neg (by omega : ¬ j = 18 + 8 * g), if_neg (by omega : ¬ j = 17 + 8 * g), if_neg (by omega : ¬ j = 16 + 8 * g)]
  · have x0 : H 105 (12 * k) = 2 := hx 0 (Nat.le_of_ble_eq_true rfl)
    rw [x0, show H 105 (12 * k + 1) = kk from hx 1 (Nat.le_of_ble_eq_true rfl), show H 105 (12 * k + 2) = x from hx 2 (Nat.le_of_ble_eq_true rfl), show H 105 (12 * k + 3) = y from hx 3 (Nat.le_of_ble_eq_true rfl), show H 105 (12 * k + 4) = v from hx 4 (Nat.le_of_ble_eq_true rfl)]
    refine fun _ => ⟨fun h => absurd h (show ¬ fl_w 2 = 0 by decide), fun _ _ => ⟨fun h => absurd h (show ¬ fl_w 2 = 1 by decide), fun _ _ _ _ _ m hm => ck_mono (rz_bond (X := X) (xs := xs) z5 (hr.2.2 rfl)) (fun r H4 h => ⟨h.1, trivial, h.2.1, h.2.2⟩)⟩⟩
end
end
