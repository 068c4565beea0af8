noncomputable section
/-! L3: book of the reference, with what becomes of the fits that were kept. -/
section
variable {X : Term} {xs : List Int32}
def n96 (l : List (List Int)) (H H' : fl_H) : Prop := (cnt 1 l = 0 ∧ H' 96 = H 96) ∨ ∀ i, i < 729 → H' 96 i = 0
theorem ry_page {m : Nat} {H : fl_H} {v : Int} (h1 : 0 ≤ v) (h2 : v ≤ 60) (h3 : 0 ≤ H 95 0) (h4 : H 95 0 < 3) : ck (cm_pg X xs) m cm_m156 [.index 94, fl_t v] H (fun r H' => (∃ x, r = some x) ∧ H' 95 = apz [0, v] (H 95) ∧ oz H H' ∧ H' 96 = H 96) := by
  refine ve_GoodsBookModel_page_94 ?_
  rw [fl_wi (x := v) (by omega) (by omega), fl_wi (x := H 95 0) (by omega) (by omega), fl_wi (x := 10 + H 95 0) (by omega) (by omega)]
  refine ⟨fun _ => ⟨fun h => by omega, fun _ _ H3 e3 H6 e6 => ⟨⟨_, rfl⟩, ?_, ?_, by rw [e6, e3, fl_up_cell _ _ _ _ (by omega), fl_up_cell _ _ _ _ (by omega)]⟩⟩, fun h => absurd ⟨h1, h2⟩ h⟩
  · have ei : (10 + H 95 0).toNat = 10 + (H 95 0).toNat := by omega
    have e0 : H3 95 0 = H 95 0 := by rw [e3, ei, fl_up_i _ _ _ _ (by omega)]
    rw [e6, e0, fl_up_z, e3, fl_up_z, ei]
    rfl
  · rw [e6, e3]
    exact oz_trans (oz_z _ _ _) (oz_z _ _ _)
theorem ry_bond {m : Nat} {H : fl_H} (h0 : 0 ≤ H 95 2) (h1 : H 95 2 < 12) {k x y v : Int} : ck (cm_pg X xs) m cm_m163 [.index 94, fl_t k, fl_t x, fl_t y, fl_t v] H (fun r H' => r = none ∧ H' 95 = apz [2, k, x, y, v] (H 95) ∧ oz H H' ∧ H' 96 = H 96) := by
  refine ve_GoodsBookModel_addBond_94 ?_
  rw [fl_wi (x := 68 + 4 * H 95 2) (by omega) (by omega), fl_wi (x := 68 + 4 * H 95 2 + 1) (by omega) (by omega), fl_wi (x := 68 + 4 * H 95 2 + 2) (by omega) (by omega), fl_wi (x := 68 + 4 * H 95 2 + 3) (by omega) (by omega)]
  have e0 : (68 + 4 * H 95 2).toNat = 68 + 4 * (H 95 2).toNat := by omega
  have e1 : (68 + 4 * H 95 2 + 1).toNat = 69 + 4 * (H 95 2).toNat := by omega
  have e2 : (68 + 4 * H 95 2 + 2).toNat = 70 + 4 * (H 95 2).toNat := by omega
  have e3 : (68 + 4 * H 95 2 + 3).toNat = 71 + 4 * (H 95 2).toNat := by omega
  rw [e0, e1, e2, e3]
  refine fun _ H1 q1 _ H4 q4 _ H7 q7 _ H10 q10 H13 q13 => ⟨rfl, ?_, ?_, by rw [q13, q10, q7, q4, q1, fl_up_cell _ _ _ _ (by omega), fl_up_cell _ _ _ _ (by omega), fl_up_cell _ _ _ _ (by omega), fl_up_cell _ _ _ _ (by omega), fl_up_cell _ _ _ _ (by omega)]⟩
  · have g2 : H10 95 2 = H 95 2 := by
      rw [q10, fl_up_i _ _ _ _ (by omega), q7, fl_up_i _ _ _ _ (by omega), q4, fl_up_i _ _ _ _ (by omega), q1, fl_up_i _ _ _ _ (by omega)]
    rw [q13, g2, fl_up_z, q10, fl_up_z, q7, fl_up_z, q4, fl_up_z, q1, fl_up_z]
    rfl
  · rw [q13, q10, q7, q4, q1]
    exact oz_trans (oz_trans (oz_trans (oz_trans (oz_z _ _ _) (oz_z _ _ _)) (oz_z _ _ _)) (oz_z _ _ _)) (oz_z _ _ _)
theorem ry_do {m k : Nat} {H : fl_H} {e : List Int} (hk : 12 * k + 8 < 144) (he : evk e) (hx : ∀ q, q < e.length → H 105 (12 * k + q) = e.getD q 0) (hz : zr (H 95)) (hr : rom e (H 95)) : ck (cm_pg X xs) m cm_m231 [.index 94, fl_t ((12 * k : Nat) : Int)] H (fun r H' => r = none ∧ H' 95 = apz e (H 95) ∧ oz H H' ∧ ((e.getD 0 0 ≠ 1 ∧ H' 96 = H 96) ∨ ∀ i, i < 729 → H' 96 i = 0)) := by
  have wj : ∀ d : Nat, d ≤ 8 → fl_w (((12 * k : Nat) : Int) + (d : Int)) = ((12 * k + d : Nat) : Int) := fun d hd => by rw [fl_wi (by omega) (by omega)]; omega
  have w0 : fl_w ((12 * k : Nat) : Int) = ((12 * k : Nat) : Int) := fl_wi (by omega) (by omega)
  have w1 : fl_w (((12 * k : Nat) : Int) + 1) = ((12 * k + 1 : Nat) : Int) := wj 1 (by omega)
  have w2 : fl_w (((12 * k : Nat) : Int) + 2) = ((12 * k + 2 : Nat) : Int) := wj 2 (by omega)
  have w3 : fl_w (((12 * k : Nat) : Int) + 3) = ((12 * k + 3 : Nat) : Int) := wj 3 (by omega)
  have w4 : fl_w (((12 * k : Nat) : Int) + 4) = ((12 * k + 4 : Nat) : Int) := wj 4 (by omega)
  have w5 : fl_w (((12 * k : Nat) : Int) + 5) = ((12 * k + 5 : Nat) : Int) := wj 5 (by omega)
  have w6 : fl_w (((12 * k : Nat) : Int) + 6) = ((12 * k + 6 : Nat) : Int) := wj 6 (by omega)
  have w7 : fl_w (((12 * k : Nat) : Int) + 7) = ((12 * k + 7 : Nat) : Int) := wj 7 (by omega)
  have w8 : fl_w (((12 * k : Nat) : Int) + 8) = ((12 * k + 8 : Nat) : Int) := wj 8 (by omega)
  obtain ⟨z1, z2, z3, z4, z5, z6⟩ := hz
  refine ve_GoodsBookModel_doClause_94 ?_
  rw [w0, w1, w2, w3, w4, w5, w6, w7, w8]
  simp only [Int.toNat_natCast]
  rcases he with ⟨v, rfl, hv0, hv1⟩ | ⟨kk, f, a0, b0, c0, a1, b1, c1, rfl⟩ | ⟨kk, x, y, v, rfl⟩
  · have x0 : H 105 (12 * k) = 0 := hx 0 (Nat.le_of_ble_eq_true rfl)
    have x1 : H 105 (12 * k + 1) = v := hx 1 (Nat.le_of_ble_eq_true rfl)
    rw [x0, x1]
    refine fun _ => ⟨fun _ _ m hm => ck_mono (ry_page (X := X) (xs := xs) hv0 hv1 z1 (hr.1 rfl)) (fun r H4 h => ?_), fun h => absurd (show fl_w 0 = 0 from rfl) h⟩
    obtain ⟨⟨x, hx⟩, h2, h3, h96⟩ := h
    exact ⟨x, hx, trivial, h2, h3, Or.inl ⟨show ¬ (0 : Int) = 1 by decide, h96⟩⟩
  · have x0 : H 105 (12 * k) = 1 := hx 0 (Nat.le_of_ble_eq_true rfl)
    have x1 : H 105 (12 * k + 1) = kk := hx 1 (Nat.le_of_ble_eq_true rfl)
    have x2 : H 105 (12 * k + 2) = f := hx 2 (Nat.le_of_ble_eq_true rfl)
    rw [x0, x1, x2]
    refine fun _ => ⟨fun h => absurd h (show ¬ fl_w 1 = 0 by decide), fun _ _ => ⟨fun _ _ _ m hm => ?_, fun h => absurd (show fl_w 1 = 1 by decide) h⟩⟩
    obtain ⟨g, hg⟩ : ∃ g : Nat, H 95 1 = (g : Int) := ⟨(H 95 1).toNat, by omega⟩
    have hg5 : g ≤ 5 := by have := hr.2.1 rfl; omega
    refine ck_mono (rz_good (X := X) (xs := xs) hg5 hg) (fun r H11 h => ⟨h.1, fun _ _ _ m hm => ?_⟩)
    obtain ⟨-, h2, h3⟩ := h
    have o11 : H11 105 = H 105 := h3 105 (by decide) (by decide)
    rw [hg, o11, show H 105 (12 * k + 3) = a0 from hx 3 (Nat.le_of_ble_eq_true rfl), show H 105 (12 * k + 4) = b0 from hx 4 (Nat.le_of_ble_eq_true rfl), show H 105 (12 * k + 5) = c0 from hx 5 (Nat.le_of_ble_eq_true rfl)]
    refine ck_mono (rz_size (X := X) (xs := xs) (g := g) (s := 0) hg5 (by omega)) (fun r H16 h => ?_)
    obtain ⟨⟨x, hx1⟩, h4, h5⟩ := h
    refine ⟨x, hx1, fun _ _ _ m hm => ?_⟩
    have o16 : H16 105 = H 105 := (h5 105 (by decide) (by decide)).trans o11
    rw [o16, show H 105 (12 * k + 6) = a1 from hx 6 (Nat.le_of_ble_eq_true rfl), show H 105 (12 * k + 7) = b1 from hx 7 (Nat.le_of_ble_eq_true rfl), show H 105 (12 * k + 8) = c1 from hx 8 (Nat.le_of_ble_eq_true rfl)]
    refine ck_mono (rq_size (X := X) (xs := xs) (g := g) (s := 1) hg5 (by omega)) (fun r H22 h => ?_)
    obtain ⟨hx1', h6, h7, h96⟩ := h
    refine ⟨_, hx1', trivial, ?_, oz_trans (oz_trans h3 h5) h7, Or.inr h96⟩
    rw [h6, h4]
    funext j
    show _ = upz _ 1 (H 95 1 + 1) j
    rw [hg, Int.toNat_natCast]
    by_cases hj : 16 + 8 * g ≤ j ∧ j < 22 + 8 * g
    · unfold upz
      rw [if_neg (by omega : ¬ j = 1), if_neg (by omega : ¬ j = 62 + g)]
      by_cases j1 : j = 21 + 8 * g
      · rw [if_pos (by omega), if_pos j1]
      · rw [if_neg (by omega), if_neg j1]
        by_cases j2 : j = 20 + 8 * g
        · rw [if_pos (by omega), if_pos j2]
        · rw [if_neg (by omega), if_neg j2]
          by_cases j3 : j = 19 + 8 * g
          · rw [if_pos (by omega), if_pos j3]
          · rw [if_neg (by omega), if_neg j3]
            by_cases j4 : j = 18 + 8 * g
            · rw [if_pos (by omega), if_pos j4]
            · rw [if_neg (by omega), if_neg j4]
              by_cases j5 : j = 17 + 8 * g
              · rw [if_pos (by omega), if_pos j5]
              · rw [if_neg (by omega), if_neg j5, if_pos (by omega), if_pos (by omega)]
    · have := h2 j hj
      unfold upz at this ⊢
      rw [if_neg (by omega), if_neg (by omega), if_neg (by omega), if_neg (by omega), if_neg (by omega), if_neg (by omega), this]
      by_cases j1 : j = 1
      · rw [if_pos j1, if_pos j1]
      · rw [if_neg j1, if_neg j1]
        by_cases j2 : j = 62 + g
        · rw [if_pos j2, if_pos j2]
        · rw [if_neg j2, if_neg j2, if_neg (by omega : ¬ j = 21 + 8 * g), if_neg (by omega : ¬ j = 20 + 8 * g), if_neg (by omega : ¬ j = 19 + 8 * g), if_neg (by omega : ¬ j = 18 + 8 * g), if_neg (by omega : ¬ j = 17 + 8 * g), if_neg (by omega : ¬ j = 16 + 8 * g)]
  · have x0 : H 105 (12 * k) = 2 := hx 0 (Nat.le_of_ble_eq_true rfl)
    rw [x0, show H 105 (12 * k + 1) = kk from hx 1 (Nat.le_of_ble_eq_true rfl), show H 105 (12 * k + 2) = x from hx 2 (Nat.le_of_ble_eq_true rfl), show H 105 (12 * k + 3) = y from hx 3 (Nat.le_of_ble_eq_true rfl), show H 105 (12 * k + 4) = v from hx 4 (Nat.le_of_ble_eq_true rfl)]
    refine fun _ => ⟨fun h => absurd h (show ¬ fl_w 2 = 0 by decide), fun _ _ => ⟨fun h => absurd h (show ¬ fl_w 2 = 1 by decide), fun _ _ _ _ _ m hm => ck_mono (ry_bond (X := X) (xs := xs) z5 (hr.2.2 rfl)) (fun r H4 h => ⟨h.1, trivial, h.2.1, h.2.2.1, Or.inl ⟨show ¬ (2 : Int) = 1 by decide, h.2.2.2⟩⟩)⟩⟩
theorem rows_oy {k : Nat} {l : List (List Int)} {H G : fl_H} (h : rows k l H) (o : oz H G) : rows k l G := rows_oz h o
theorem ry_dos (l : List (List Int)) (hl : l.length ≤ 12) (hv : ∀ e ∈ l, evk e) : ∀ (f k : Nat), k + f = l.length → ∀ (N : Nat) (H : fl_H), rows 0 l H → H 94 15 = (l.length : Int) → zr (H 95) → rml (l.drop k) (H 95) → hd_GoodsBookModel_book_94_153 (cm_pg X xs) N H (k : Int) (fun r H' => r = some (l.length : Int) ∧ H' 95 = apl (l.drop k) (H 95) ∧ oz H H' ∧ n96 (l.drop k) H H')
  | 0, k, hk, N, H, hrw, hn, hz, hr => by
    refine vh_GoodsBookModel_book_94_153 ?_
    rw [hn, fl_wi (x := (l.length : Int)) (by omega) (by omega), fl_wi (x := (k : Int)) (by omega) (by omega)]
    refine ⟨fun _ => ⟨rfl, ?_, oz_refl _, Or.inl ⟨?_, rfl⟩⟩, fun h => by omega⟩
    · rw [List.drop_eq_nil_of_le (by omega)]
      rfl
    · rw [List.drop_eq_nil_of_le (by omega)]
      rfl
  | f + 1, k, hk, N, H, hrw, hn, hz, hr => by
    have hlt : k < l.length := by omega
    have hd : l.drop k = l[k] :: l.drop (k + 1) := List.drop_eq_getElem_cons hlt
    rw [hd] at hr
    have he := hv l[k] (List.getElem_mem hlt)
    refine vh_GoodsBookModel_book_94_153 ?_
    rw [hn, fl_wi (x := (l.length : Int)) (by omega) (by omega), fl_wi (x := (k : Int)) (by omega) (by omega)]
    have e12 : (12 : Int) * (k : Int) = ((12 * k : Nat) : Int) := by omega
    rw [e12]
    refine ⟨fun h => by omega, fun _ m hm => ck_mono (ry_do (X := X) (xs := xs) (k := k) (by omega) he (fun q hq => by have := hrw k l[k] (List.getElem?_eq_getElem hlt) q hq; rw [Nat.zero_add] at this; exact this) hz hr.1) (fun r H2 h => ⟨h.1, fun m hm => ?_⟩)⟩
    obtain ⟨-, h2, h3, h96⟩ := h
    have e1 : (k : Int) + 1 = ((k + 1 : Nat) : Int) := by omega
    rw [e1]
    have := ry_dos l hl hv f (k + 1) (by omega) m H2 (rows_oz hrw h3) (by rw [h3 94 (by decide) (by decide)]; exact hn) (by rw [h2]; exact zr_apz he hz hr.1) (by rw [h2]; exact hr.2)
    intro lv l0 l1
    refine vt_mono (Nat.le_refl _) (fun r H' hr' => ⟨hr'.1, ?_, oz_trans h3 hr'.2.2.1, ?_⟩) (this lv l0 l1)
    · rw [hr'.2.1, h2, hd]
      rfl
    · rcases hr'.2.2.2 with ⟨a, b⟩ | a
      · rcases h96 with ⟨c, d⟩ | c
        · refine Or.inl ⟨?_, b.trans d⟩
          rw [hd]
          show (if l[k].getD 0 0 = 1 then 1 else 0) + cnt 1 (l.drop (k + 1)) = 0
          rw [if_neg c, a]; rfl
        · exact Or.inr (fun i hi => by rw [b]; exact c i hi)
      · exact Or.inr a
def bkq (l : List (List Int)) (H : fl_H) (r : Option Int) (H' : fl_H) : Prop := (rml l (H 95) → r = some (l.length : Int) ∧ H' 95 = apl l (H 95) ∧ oz H H' ∧ n96 l H H') ∧ (¬ rml l (H 95) → r = some (-3) ∧ H' = H)
theorem ry_cnt (l : List (List Int)) (hl : l.length ≤ 12) (hv : ∀ e ∈ l, evk e) : ∀ (f k : Nat), k + f = l.length → ∀ (N : Nat) (H : fl_H) (p g b : Int), rows 0 l H → H 94 15 = (l.length : Int) → zr (H 95) → 0 ≤ p → p ≤ 3 + k → 0 ≤ g → g ≤ 6 + k → 0 ≤ b → b ≤ 12 + k → p + cnt 0 (l.drop k) = H 95 0 + cnt 0 l → g + cnt 1 (l.drop k) = H 95 1 + cnt 1 l → b + cnt 2 (l.drop k) = H 95 2 + cnt 2 l → hd_GoodsBookModel_book_94_47 (cm_pg X xs) N H p g b (k : Int) (bkq l H)
  | 0, k, hk, N, H, p, g, b, hrw, hn, hz, p0, p1, g0, g1, b0, b1, ep, eg, eb => by
    rw [List.drop_eq_nil_of_le (by omega)] at ep eg eb
    simp only [cnt, Int.add_zero] at ep eg eb
    have hiff := rml_iff l (H 95) hv hz.2.1 hz.2.2.2.1 hz.2.2.2.2.2
    refine vh_GoodsBookModel_book_94_47 ?_
    rw [hn, fl_wi (x := (l.length : Int)) (by omega) (by omega), fl_wi (x := (k : Int)) (by omega) (by omega), fl_wi (x := p) (by omega) (by omega), fl_wi (x := g) (by omega) (by omega), fl_wi (x := b) (by omega) (by omega)]
    have bad : ¬ rml l (H 95) → bkq l H (some (-3)) H := fun hn => ⟨fun h => absurd h hn, fun _ => ⟨rfl, rfl⟩⟩
    refine ⟨fun _ => ⟨fun h3 => bad (fun hh => by have := hiff.mp hh; omega), fun h3 => ⟨fun h6 => bad (fun hh => by have := hiff.mp hh; omega), fun h6 => ⟨fun h12 => ?_, fun h12 => bad (fun hh => by have := hiff.mp hh; omega)⟩⟩⟩, fun h => by omega⟩
    have hr : rml l (H 95) := hiff.mpr (by omega)
    have key := ry_dos (X := X) (xs := xs) l hl hv l.length 0 (by omega) N H hrw hn hz (by rw [List.drop_zero]; exact hr)
    intro lv l0 l1
    refine vt_mono (Nat.le_refl _) (fun r H' hr' => ⟨fun _ => ⟨hr'.1, by rw [hr'.2.1, List.drop_zero], hr'.2.2.1, by have := hr'.2.2.2; rw [List.drop_zero] at this; exact this⟩, fun h => absurd hr h⟩) (key lv l0 l1)
  | f + 1, k, hk, N, H, p, g, b, hrw, hn, hz, p0, p1, g0, g1, b0, b1, ep, eg, eb => by
    have hlt : k < l.length := by omega
    have hd : l.drop k = l[k] :: l.drop (k + 1) := List.drop_eq_getElem_cons hlt
    rw [hd] at ep eg eb
    simp only [cnt] at ep eg eb
    have he := hv l[k] (List.getElem_mem hlt)
    have htag : H 105 (12 * k) = l[k].getD 0 0 := by
      have := hrw k l[k] (List.getElem?_eq_getElem hlt) 0 (evk_len he).2
      rw [Nat.zero_add] at this
      exact this
    refine vh_GoodsBookModel_book_94_47 ?_
    have e12 : (12 : Int) * (k : Int) = ((12 * k : Nat) : Int) := by omega
    rw [hn, fl_wi (x := (l.length : Int)) (by omega) (by omega), fl_wi (x := (k : Int)) (by omega) (by omega), e12, fl_wi (x := ((12 * k : Nat) : Int)) (by omega) (by omega), Int.toNat_natCast, htag]
    have e1 : (k : Int) + 1 = ((k + 1 : Nat) : Int) := by omega
    rw [e1]
    refine ⟨fun h => by omega, fun _ _ => ?_⟩
    rcases evk_tag he with t | t | t <;> rw [t] at ep eg eb ⊢ <;> simp at ep eg eb
    · refine ⟨fun _ _ => ⟨fun h => absurd h (show ¬ fl_w 0 = 1 by decide), fun _ _ => ⟨fun h => absurd h (show ¬ fl_w 0 = 2 by decide), fun _ m hm => ?_⟩⟩, fun h => absurd (show fl_w 0 = 0 from rfl) h⟩
      exact ry_cnt l hl hv f (k + 1) (by omega) m H _ _ _ hrw hn hz (by omega) (by omega) (by omega) (by omega) (by omega) (by omega) (by omega) (by omega) (by omega)
    · refine ⟨fun h => absurd h (show ¬ fl_w 1 = 0 by decide), fun _ _ => ⟨fun _ _ => ⟨fun h => absurd h (show ¬ fl_w 1 = 2 by decide), fun _ m hm => ?_⟩, fun h => absurd (show fl_w 1 = 1 by decide) h⟩⟩
      exact ry_cnt l hl hv f (k + 1) (by omega) m H _ _ _ hrw hn hz (by omega) (by omega) (by omega) (by omega) (by omega) (by omega) (by omega) (by omega) (by omega)
    · refine ⟨fun h => absurd h (show ¬ fl_w 2 = 0 by decide), fun _ _ => ⟨fun h => absurd h (show ¬ fl_w 2 = 1 by decide), fun _ _ => ⟨fun _ m hm => ?_, fun h => absurd (show fl_w 2 = 2 by decide) h⟩⟩⟩
      exact ry_cnt l hl hv f (k + 1) (by omega) m H _ _ _ hrw hn hz (by omega) (by omega) (by omega) (by omega) (by omega) (by omega) (by omega) (by omega) (by omega)
theorem apl_sz : ∀ (l : List (List Int)) (z : Nat → Int), (∀ e ∈ l, evk e) → cnt 1 l = 0 → (∀ j, j = 1 ∨ (14 ≤ j ∧ j < 62) → 0 ≤ z 0 → z 0 + cnt 0 l ≤ 3 → apl l z j = z j)
  | [], _, _, _ => fun _ _ _ _ => rfl
  | e :: l, z, hl, h => fun j hj h0 h3 => by
    have he := hl e (List.mem_cons_self ..)
    have c1 := cnt_ge 1 l
    have c0 := cnt_ge 0 l
    have a0 := apz_0 he z
    have h' : (if e.getD 0 0 = 1 then 1 else 0) + cnt 1 l = 0 := h
    have h3' : z 0 + ((if e.getD 0 0 = 0 then 1 else 0) + cnt 0 l) ≤ 3 := h3
    show apl l (apz e z) j = z j
    rcases he with ⟨v, rfl, hv⟩ | ⟨kk, f, a0', b0, c0', a1, b1, c1', rfl⟩ | ⟨kk, x, y, v, rfl⟩
    · have e1 : (if ([0, v] : List Int).getD 0 0 = 0 then (1 : Int) else 0) = 1 := rfl
      have e2 : (if ([0, v] : List Int).getD 0 0 = 1 then (1 : Int) else 0) = 0 := rfl
      rw [e1] at h3' a0
      rw [e2] at h'
      rw [apl_sz l _ (fun x hx => hl x (List.mem_cons_of_mem _ hx)) (by omega) j hj (by omega) (by omega)]
      show upz (upz z (10 + (z 0).toNat) v) 0 (z 0 + 1) j = z j
      rw [upz_ne _ _ (by omega), upz_ne _ _ (by omega)]
    · have e2 : (if ([1, kk, f, a0', b0, c0', a1, b1, c1'] : List Int).getD 0 0 = 1 then (1 : Int) else 0) = 1 := rfl
      rw [e2] at h'
      omega
    · have e1 : (if ([2, kk, x, y, v] : List Int).getD 0 0 = 0 then (1 : Int) else 0) = 0 := rfl
      have e2 : (if ([2, kk, x, y, v] : List Int).getD 0 0 = 1 then (1 : Int) else 0) = 0 := rfl
      rw [e1] at h3' a0
      rw [e2] at h'
      rw [apl_sz l _ (fun x hx => hl x (List.mem_cons_of_mem _ hx)) (by omega) j hj (by omega) (by omega)]
      show upz (upz (upz (upz (upz z (68 + 4 * (z 2).toNat) kk) (69 + 4 * (z 2).toNat) x) (70 + 4 * (z 2).toNat) y) (71 + 4 * (z 2).toNat) v) 2 (z 2 + 1) j = z j
      rw [upz_ne _ _ (by omega), upz_ne _ _ (by omega), upz_ne _ _ (by omega), upz_ne _ _ (by omega), upz_ne _ _ (by omega)]
/-- fits that were kept: gone, or none of the sizes has changed -/
def f96 (H H' : fl_H) : Prop := (H' 96 = H 96 ∧ ∀ j, j = 1 ∨ (14 ≤ j ∧ j < 62) → H' 95 j = H 95 j) ∨ ∀ i, i < 729 → H' 96 i = 0
theorem ry_book {n m : Nat} {H : fl_H} (h1 : H 94 13 = (n : Int)) (h2 : n ≤ 120) (h3 : ∀ i, i < n → 0 ≤ H 104 i ∧ H 104 i ≤ 255) (hz : zr (H 95)) : ck (cm_pg X xs) m cm_m232 [.index 94] H (fun r H' => r = some (bka (H 104) n (H 95)) ∧ H' 95 = bkz (H 104) n (H 95) ∧ H' 94 13 = 0 ∧ ofr H H' ∧ f96 H H') := by
  refine ve_GoodsBookModel_book_94 (fun k hk => ck_mono (rn_read (X := X) (xs := xs) h1 h2 h3 hz.2.2.1 hz.2.2.2.1) (fun r H1 h => ?_))
  obtain ⟨h, f1⟩ := h
  unfold bka bkz
  have z1 : H1 95 = H 95 := funext (fun i => f1 95 i (fun hc => absurd hc (by decide)) (fun hc => absurd hc (by decide)))
  have o4 : ∀ H4, H4 = fl_up H1 94 13 0 → ofr H H4 := fun H4 e4 c i c1 c2 c3 c4 => by
    rw [e4]
    unfold fl_up
    rw [if_neg (fun hh => (c4 hh.1).1 hh.2)]
    exact f1 c i (fun hc => (c4 hc).2) (fun hc => absurd hc c3)
  have q4 : ∀ H4, H4 = fl_up H1 94 13 0 → H4 96 = H 96 := fun H4 e4 => by
    rw [e4, fl_up_cell _ _ _ _ (by omega)]
    exact funext (fun i => f1 96 i (fun hc => absurd hc (by decide)) (fun hc => absurd hc (by decide)))
  cases o : cls (H 104) n 12 (H 95 1) 0 with
  | inl p =>
    rw [o] at h
    obtain ⟨e1, e2⟩ := h
    refine ⟨_, e1, fun H4 e4 => ⟨fun _ => ⟨?_, ?_, by rw [e4, fl_up_at], o4 H4 e4, Or.inl ⟨q4 H4 e4, fun j _ => by rw [e4, fl_up_cell _ _ _ _ (by omega), z1]⟩⟩, fun hq => absurd (show fl_w 0 = 0 from rfl) hq⟩⟩
    · rw [e4, fl_up_i _ _ _ _ (by decide), e2]
    · rw [e4, fl_up_cell _ _ _ _ (by decide)]; exact z1
  | inr q =>
    obtain ⟨l, b⟩ := q
    rw [o] at h
    obtain ⟨e1, e2, e3⟩ := h
    refine ⟨_, e1, fun H4 e4 => ⟨fun hq => absurd hq (show ¬ fl_w 1 = 0 by decide), fun _ => ?_⟩⟩
    have z4 : H4 95 = H 95 := by rw [e4, fl_up_cell _ _ _ _ (by decide)]; exact z1
    have hl := cls_len o
    have hv := cls_evk o
    have n4 : H4 94 15 = (l.length : Int) := by rw [e4, fl_up_i _ _ _ _ (by decide), e2]; simp
    have r4 : rows 0 l H4 := fun i e he q hq => by rw [e4, fl_up_c _ _ _ _ (by decide)]; exact e3 i e he q hq
    have key := ry_cnt (X := X) (xs := xs) l hl hv l.length 0 (by omega) m H4 (H4 95 0) (H4 95 1) (H4 95 2) r4 n4 (by rw [z4]; exact hz) (by rw [z4]; exact hz.1) (by rw [z4]; have := hz.2.1; omega) (by rw [z4]; exact hz.2.2.1) (by rw [z4]; have := hz.2.2.2.1; omega) (by rw [z4]; exact hz.2.2.2.2.1) (by rw [z4]; have := hz.2.2.2.2.2; omega) (by rw [List.drop_zero]) (by rw [List.drop_zero]) (by rw [List.drop_zero])
    intro lv l0 l1 l2 l3 l4
    refine vt_mono (Nat.le_refl _) (fun r H' hr => ?_) (key lv l0 l1 l2 l3 l4)
    obtain ⟨g1, g2⟩ := hr
    rw [z4] at g1 g2
    by_cases hc : rml l (H 95)
    · obtain ⟨k1, k2, k3, k4⟩ := g1 hc
      simp only [if_pos hc]
      refine ⟨k1, k2, by rw [k3 94 (by decide) (by decide), e4, fl_up_at], fun c i c1 c2 c3 c4 => ?_, ?_⟩
      · rw [k3 c c1 c2]
        exact o4 H4 e4 c i c1 c2 c3 c4
      · rcases k4 with ⟨u, v⟩ | u
        · have rm := (rml_iff l (H 95) hv hz.2.1 hz.2.2.2.1 hz.2.2.2.2.2).mp hc
          exact Or.inl ⟨v.trans (q4 H4 e4), fun j hj => by rw [k2]; exact apl_sz l _ hv u j hj hz.1 rm.1⟩
        · exact Or.inr u
    · obtain ⟨k1, k2⟩ := g2 hc
      simp only [if_neg hc]
      subst k2
      exact ⟨k1, z4, by rw [e4, fl_up_at], o4 _ e4, Or.inl ⟨q4 _ e4, fun j _ => by rw [z4]⟩⟩
end
end
