noncomputable section
/-! L3: sheets: made, dropped, written. -/
section
variable {X : Term} {xs : List Int32}
theorem sT_no {c i : Nat} (h : (60 ≤ c ∧ c ≤ 93) ∨ (96 ≤ c ∧ c ≤ 103) ∨ c = 105 ∨ 107 ≤ c) : sT c i = false := by
  unfold sT
  have e1 : Nat.beq c 0 = false := by
    cases hb : Nat.beq c 0
    · rfl
    · have := Nat.eq_of_beq_eq_true hb; omega
  have e2 : Nat.ble c 19 = false := by
    cases hb : Nat.ble c 19
    · rfl
    · have := Nat.le_of_ble_eq_true hb; omega
  have e3 : Nat.ble c 59 = false := by
    cases hb : Nat.ble c 59
    · rfl
    · have := Nat.le_of_ble_eq_true hb; omega
  have e4 : ∀ d, d = 94 ∨ d = 95 ∨ d = 104 ∨ d = 106 → Nat.beq c d = false := fun d hd => by
    cases hb : Nat.beq c d
    · rfl
    · have := Nat.eq_of_beq_eq_true hb; omega
  rw [e1, e2, e3, e4 94 (by omega), e4 95 (by omega), e4 104 (by omega), e4 106 (by omega)]
  simp
theorem TX_sh {H H1 H2 : fl_H} (t : TX H) (h1 : ∀ c, ¬ (61 ≤ c ∧ c ≤ 63) → H1 c = H c) (h2 : ∀ c, ¬ (107 ≤ c ∧ c ≤ 109) → H2 c = H1 c) (s : she H2) : TX H2 := by
  have e : ∀ c, ¬ (61 ≤ c ∧ c ≤ 63) → ¬ (107 ≤ c ∧ c ≤ 109) → H2 c = H c := fun c a b => (h2 c b).trans (h1 c a)
  have e95 : H2 95 = H 95 := e 95 (by omega) (by omega)
  obtain ⟨t1, t2, t3, -, t5, t6, t7, t8, t9⟩ := t
  refine ⟨T1_fr (fun c i k => ?_) t1, ?_, ?_, s, ?_, ?_, ?_, ?_, ?_⟩
  · by_cases q : (61 ≤ c ∧ c ≤ 63) ∨ (107 ≤ c ∧ c ≤ 109)
    · rw [sT_no (by omega)] at k; exact absurd k (by decide)
    · rw [e c (fun a => q (Or.inl a)) (fun a => q (Or.inr a))]
  · unfold chA; rw [e95, e 19 (by omega) (by omega)]; exact t2
  · rw [e 94 (by omega) (by omega)]; intro q; unfold chA; rw [e 106 (by omega) (by omega), e 57 (by omega) (by omega)]; exact t3 q
  · rw [e95]; exact flI_fr t5 (fun c a b => e c (by omega) (by omega))
  · rw [e95]; exact rkn_c t6 (e 96 (by omega) (by omega))
  · rw [e95]; exact kbe_o t7 (e 88 (by omega) (by omega)) (e 89 (by omega) (by omega))
  · rw [e95]; exact kst_o t8 (e 90 (by omega) (by omega)) (e 91 (by omega) (by omega))
  · rw [e95]; exact kmd_o t9 (e 0 (by omega) (by omega)) (e 92 (by omega) (by omega)) (e 93 (by omega) (by omega))
def shN (s l : Int) : Prop := (0 ≤ s ∧ s ≤ 3) ∧ (0 ≤ l ∧ l ≤ 2)
theorem sh_named {m : Nat} {H : fl_H} {a b : Int} (ha : fl_w a = a) (hb : fl_w b = b) : ck (cm_pg X xs) m cm_m73 [fl_t a, fl_t b] H (fun r H' => r = some (fl_b (shN a b)) ∧ H' = H) := by
  refine ve_Sheets_isNamed ?_
  simp only [ha, hb, w_0, w_3, w_2]
  exact ⟨fun p => ⟨fun q => ⟨by rw [fl_b1 ⟨p, q⟩], trivial⟩, fun q => ⟨by rw [fl_b0 (fun h => q h.2)], trivial⟩⟩, fun p => ⟨by rw [fl_b0 (fun h => p h.1)], trivial⟩⟩
theorem sr_named {m : Nat} {H : fl_H} {a b : Int} (ha : fl_w a = a) (hb : fl_w b = b) : ck (cm_pg X xs) m cm_m235 [fl_t a, fl_t b] H (fun r H' => r = some (fl_b (shN a b)) ∧ H' = H) := by
  refine ve_GoodsBookModel_isSheet ?_
  simp only [ha, hb]
  exact ⟨fun p => ⟨fun q => ⟨by rw [fl_b1 ⟨p, q⟩], trivial⟩, fun q => ⟨by rw [fl_b0 (fun h => q h.2)], trivial⟩⟩, fun p => ⟨by rw [fl_b0 (fun h => p h.1)], trivial⟩⟩
-- ---- sheet
def shR (b : Nat) (s l n : Int) (H : fl_H) (r : Option Int) (H' : fl_H) : Prop :=
  (¬ (shN s l ∧ n ≤ 16) ∧ r = some (-1) ∧ H' = H) ∨ ((shN s l ∧ n ≤ 16) ∧ n < 0 ∧ r = some (-14) ∧ H' = H) ∨ ((shN s l ∧ n ≤ 16) ∧ 0 ≤ n ∧ r = some n ∧ (∀ c, ¬ (b ≤ c ∧ c ≤ b + 2) → H' c = H c) ∧ H' b = upz (H b) s.toNat l ∧ H' (b + 1) = upz (H (b + 1)) s.toNat n ∧ ∀ i, H' (b + 2) i = if 16 * s.toNat ≤ i ∧ i < 16 * s.toNat + 16 then 0 else H (b + 2) i)
theorem upz_up (H : fl_H) (c i : Nat) (v : Int) : fl_up H c i v c = upz (H c) i v := by
  funext j
  unfold upz
  by_cases e : j = i
  · rw [e, fl_up_at, if_pos rfl]
  · rw [fl_up_i _ _ _ _ e, if_neg e]
theorem cs_sheet {m : Nat} {H : fl_H} {s l n : Int} (hs : fl_w s = s) (hl : fl_w l = l) (hn : fl_w n = n) : ck (cm_pg X xs) m cm_m132 [.index 0, fl_t s, fl_t l, fl_t n] H (shR 61 s l n H) := by
  refine ve_GoodsBook_sheet_0 (fun m1 _ => ve_Sheets_renew_60 (fun m2 _ => ck_mono (sh_named (X := X) (xs := xs) hs hl) (fun r1 H1 h1 => ⟨_, h1.1, ?_⟩)))
  rw [h1.2]
  simp only [fb_0, hs, hn]
  refine ⟨fun q => ⟨_, rfl, Or.inl ⟨fun h => q h.1, rfl, rfl⟩⟩, fun q => ⟨fun q2 => ⟨fun q3 => ?_, fun q3 => ⟨_, rfl, Or.inr (Or.inl ⟨⟨Classical.not_not.mp q, q2⟩, by omega, rfl, rfl⟩)⟩⟩, fun q2 => ⟨_, rfl, Or.inl ⟨fun h => q2 h.2, rfl, rfl⟩⟩⟩⟩
  have q1 : shN s l := Classical.not_not.mp q
  obtain ⟨a, ea⟩ : ∃ a : Nat, s = (a : Int) := ⟨s.toNat, by have := q1.1; omega⟩
  subst ea
  have a4 : a < 4 := by have := q1.1; omega
  simp only [Int.toNat_natCast]
  refine fun _ H7 e7 _ H10 e10 => ?_
  have lp : ∀ (f k : Nat), k + f = 16 → ∀ (N : Nat) (G : fl_H), (∀ i, G 63 i = if 16 * a ≤ i ∧ i < 16 * a + k then 0 else H 63 i) → (∀ c, c ≠ 63 → G c = H10 c) → hd_Sheets_renew_60_40 (cm_pg X xs) N G (a : Int) n (k : Int) (fun r H' => ∃ x, r = some x ∧ shR 61 (a : Int) l n H (some x) H') := by
    intro f
    induction f with
    | zero =>
      intro k hk N G gG cG
      have ek : k = 16 := by omega
      subst ek
      refine vh_Sheets_renew_60_40 ⟨fun _ => ⟨_, rfl, Or.inr (Or.inr ⟨⟨q1, q2⟩, q3, rfl, fun c hc => ?_, ?_, ?_, ?_⟩)⟩, fun hh => absurd (by decide +kernel) hh⟩
      · rw [cG c (by omega), e10, fl_up_cell _ _ _ _ (by omega), e7, fl_up_cell _ _ _ _ (by omega)]
      · rw [cG 61 (by omega), e10, fl_up_cell _ _ _ _ (by omega), e7, upz_up, Int.toNat_natCast]
      · rw [cG 62 (by omega), e10, upz_up, e7, fl_up_cell _ _ _ _ (by omega), Int.toNat_natCast]
      · rw [Int.toNat_natCast]; exact gG
    | succ f ih =>
      intro k hk N G gG cG
      have ek : (k : Int) + 1 = ((k + 1 : Nat) : Int) := by omega
      have ei : ((a : Int) * 16 + (k : Int)).toNat = 16 * a + k := by omega
      refine vh_Sheets_renew_60_40 ?_
      rw [fl_wi (x := (k : Int)) (by omega) (by omega), fl_wi (x := (a : Int) * 16 + (k : Int)) (by omega) (by omega), ei, ek]
      refine ⟨fun hh => by omega, fun _ _ H2 e2 m3 _ => ih (k + 1) (by omega) m3 H2 (fun i => ?_) (fun c hc => by rw [e2, fl_up_cell _ _ _ _ hc]; exact cG c hc)⟩
      rw [e2]
      by_cases e : i = 16 * a + k
      · rw [e, fl_up_at, if_pos (by omega)]
      · rw [fl_up_i _ _ _ _ e, gG]
        by_cases e2 : 16 * a ≤ i ∧ i < 16 * a + k
        · rw [if_pos e2, if_pos (by omega)]
        · rw [if_neg e2, if_neg (by omega)]
  exact lp 16 0 rfl _ H10 (fun i => by rw [if_neg (by omega), e10, fl_up_cell _ _ _ _ (by omega), e7, fl_up_cell _ _ _ _ (by omega)]) (fun _ _ => rfl)
theorem rs_sheet {m : Nat} {H : fl_H} {s l n : Int} (hs : fl_w s = s) (hl : fl_w l = l) (hn : fl_w n = n) : ck (cm_pg X xs) m cm_m236 [.index 94, fl_t s, fl_t l, fl_t n] H (shR 107 s l n H) := by
  refine ve_GoodsBookModel_sheet_94 (fun m2 _ => ck_mono (sr_named (X := X) (xs := xs) hs hl) (fun r1 H1 h1 => ⟨_, h1.1, ?_⟩))
  rw [h1.2]
  simp only [fb_0, hs, hn]
  refine ⟨fun q => Or.inl ⟨fun h => q h.1, rfl, rfl⟩, fun q => ⟨fun q2 => ⟨fun q3 => ?_, fun q3 => Or.inr (Or.inl ⟨⟨Classical.not_not.mp q, q2⟩, by omega, rfl, rfl⟩)⟩, fun q2 => Or.inl ⟨fun h => q2 h.2, rfl, rfl⟩⟩⟩
  have q1 : shN s l := Classical.not_not.mp q
  obtain ⟨a, ea⟩ : ∃ a : Nat, s = (a : Int) := ⟨s.toNat, by have := q1.1; omega⟩
  subst ea
  have a4 : a < 4 := by have := q1.1; omega
  simp only [Int.toNat_natCast]
  refine fun _ H7 e7 _ H10 e10 => ?_
  have lp : ∀ (f k : Nat), k + f = 16 → ∀ (N : Nat) (G : fl_H), (∀ i, G 109 i = if 16 * a ≤ i ∧ i < 16 * a + k then 0 else H 109 i) → (∀ c, c ≠ 109 → G c = H10 c) → hd_GoodsBookModel_sheet_94_40 (cm_pg X xs) N G (a : Int) n (k : Int) (shR 107 (a : Int) l n H) := by
    intro f
    induction f with
    | zero =>
      intro k hk N G gG cG
      have ek : k = 16 := by omega
      subst ek
      refine vh_GoodsBookModel_sheet_94_40 ⟨fun _ => Or.inr (Or.inr ⟨⟨q1, q2⟩, q3, rfl, fun c hc => ?_, ?_, ?_, ?_⟩), fun hh => absurd (by decide +kernel) hh⟩
      · rw [cG c (by omega), e10, fl_up_cell _ _ _ _ (by omega), e7, fl_up_cell _ _ _ _ (by omega)]
      · rw [cG 107 (by omega), e10, fl_up_cell _ _ _ _ (by omega), e7, upz_up, Int.toNat_natCast]
      · rw [cG 108 (by omega), e10, upz_up, e7, fl_up_cell _ _ _ _ (by omega), Int.toNat_natCast]
      · rw [Int.toNat_natCast]; exact gG
    | succ f ih =>
      intro k hk N G gG cG
      have ek : (k : Int) + 1 = ((k + 1 : Nat) : Int) := by omega
      have ei : (16 * (a : Int) + (k : Int)).toNat = 16 * a + k := by omega
      refine vh_GoodsBookModel_sheet_94_40 ?_
      rw [fl_wi (x := (k : Int)) (by omega) (by omega), fl_wi (x := 16 * (a : Int) + (k : Int)) (by omega) (by omega), ei, ek]
      refine ⟨fun hh => by omega, fun _ _ H2 e2 m3 _ => ih (k + 1) (by omega) m3 H2 (fun i => ?_) (fun c hc => by rw [e2, fl_up_cell _ _ _ _ hc]; exact cG c hc)⟩
      rw [e2]
      by_cases e : i = 16 * a + k
      · rw [e, fl_up_at, if_pos (by omega)]
      · rw [fl_up_i _ _ _ _ e, gG]
        by_cases e2 : 16 * a ≤ i ∧ i < 16 * a + k
        · rw [if_pos e2, if_pos (by omega)]
        · rw [if_neg e2, if_neg (by omega)]
  exact lp 16 0 rfl _ H10 (fun i => by rw [if_neg (by omega), e10, fl_up_cell _ _ _ _ (by omega), e7, fl_up_cell _ _ _ _ (by omega)]) (fun _ _ => rfl)
theorem shR_two {s l n : Int} {H H1 H2 : fl_H} {r r' : Option Int} (hn : fl_w n = n) (t : TX H) (h : shR 61 s l n H r H1) (k : shR 107 s l n H1 r' H2) : (∃ x, r = some x) ∧ r' = r ∧ TX H2 := by
  rcases h with ⟨h1, h2, h3⟩ | ⟨h1, h2, h3, h4⟩ | ⟨h1, h2, h3, h4, h5, h6, h7⟩
  · subst h3
    rcases k with ⟨k1, k2, k3⟩ | ⟨k1, -⟩ | ⟨k1, -⟩
    · subst k3; exact ⟨⟨_, h2⟩, by rw [h2, k2], t⟩
    · exact absurd k1 h1
    · exact absurd k1 h1
  · subst h4
    rcases k with ⟨k1, -⟩ | ⟨k1, k2, k3, k4⟩ | ⟨k1, k2, -⟩
    · exact absurd h1 k1
    · subst k4; exact ⟨⟨_, h3⟩, by rw [h3, k3], t⟩
    · omega
  · rcases k with ⟨k1, -⟩ | ⟨k1, k2, -⟩ | ⟨k1, k2, k3, k4, k5, k6, k7⟩
    · exact absurd h1 k1
    · omega
    · obtain ⟨s1, s2⟩ := TX_she t
      have hs := h1.1.1
      have hl := h1.1.2
      have hn2 := h1.2
      refine ⟨⟨_, h3⟩, by rw [h3, k3], TX_sh t (fun c hc => h4 c (by omega)) (fun c hc => k4 c (by omega)) ⟨fun i hi => ?_, fun i hi => ?_⟩⟩
      · have e1 : H2 61 = upz (H 61) s.toNat l := by rw [k4 61 (by omega)]; exact h5
        have e2 : H2 62 = upz (H 62) s.toNat n := by rw [k4 62 (by omega)]; exact h6
        have e3 : H2 107 = upz (H 107) s.toNat l := by rw [k5, h4 107 (by omega)]
        have e4 : H2 108 = upz (H 108) s.toNat n := by
          have := k6
          rw [h4 (107 + 1) (by omega)] at this
          exact this
        rw [e1, e2, e3, e4]
        unfold upz
        by_cases e : i = s.toNat
        · rw [if_pos e, if_pos e, if_pos e, if_pos e]
          exact ⟨rfl, by omega, by omega, rfl, by omega, by omega⟩
        · rw [if_neg e, if_neg e, if_neg e, if_neg e]; exact s1 i hi
      · have e1 : H2 63 i = if 16 * s.toNat ≤ i ∧ i < 16 * s.toNat + 16 then 0 else H 63 i := by rw [k4 63 (by omega)]; exact h7 i
        have e2 : H2 109 i = if 16 * s.toNat ≤ i ∧ i < 16 * s.toNat + 16 then 0 else H 109 i := by
          have := k7 i
          rw [h4 (107 + 2) (by omega)] at this
          exact this
        rw [e1, e2]
        by_cases e : 16 * s.toNat ≤ i ∧ i < 16 * s.toNat + 16
        · rw [if_pos e, if_pos e]; exact ⟨rfl, w_0⟩
        · rw [if_neg e, if_neg e]; exact s2 i hi
theorem tx_sheet {v1 v2 v3 : Int} (h1 : fl_w v1 = v1) (h2 : fl_w v2 = v2) (h3 : fl_w v3 = v3) : tw X xs TX true cm_m132 cm_m236 [.index 0, fl_t v1, fl_t v2, fl_t v3] [.index 94, fl_t v1, fl_t v2, fl_t v3] := fun m H t =>
  ck_mono (cs_sheet (X := X) (xs := xs) h1 h2 h3) (fun r H1 h => by
    have ex : ∃ x, r = some x := by
      rcases h with ⟨-, h2, -⟩ | ⟨-, -, h3, -⟩ | ⟨-, -, h3, -⟩
      · exact ⟨_, h2⟩
      · exact ⟨_, h3⟩
      · exact ⟨_, h3⟩
    refine ⟨ex, fun m' => ck_mono (rs_sheet (X := X) (xs := xs) h1 h2 h3) (fun r' H2 k => ?_)⟩
    obtain ⟨a, b, c⟩ := shR_two h3 t h k
    exact ⟨by rw [b]; exact a, fun _ => b, c⟩)
-- ---- drop
def drR (b : Nat) (s : Int) (H : fl_H) (r : Option Int) (H' : fl_H) : Prop :=
  (¬ (0 ≤ s ∧ s ≤ 3) ∧ r = some (-1) ∧ H' = H) ∨ ((0 ≤ s ∧ s ≤ 3) ∧ H b s.toNat = -1 ∧ r = some (-11) ∧ H' = H) ∨ ((0 ≤ s ∧ s ≤ 3) ∧ H b s.toNat ≠ -1 ∧ r = some (H (b + 1) s.toNat) ∧ (∀ c, c ≠ b → H' c = H c) ∧ H' b = upz (H b) s.toNat (-1))
theorem cs_drop {m : Nat} {H : fl_H} {s : Int} (hs : fl_w s = s) (t : she H) : ck (cm_pg X xs) m cm_m133 [.index 0, fl_t s] H (drR 61 s H) := by
  refine ve_GoodsBook_drop_0 (fun m1 _ => ve_Sheets_clear_60 (fun m2 _ => ck_mono (sh_named (X := X) (xs := xs) hs w_0) (fun r1 H1 h1 => ⟨_, h1.1, ?_⟩)))
  rw [h1.2]
  simp only [fb_0, hs]
  refine ⟨fun q => ⟨_, rfl, Or.inl ⟨fun h => q ⟨h, by omega, by omega⟩, rfl, rfl⟩⟩, fun q _ => ?_⟩
  have q1 : 0 ≤ s ∧ s ≤ 3 := (Classical.not_not.mp q).1
  have b := t.1 s.toNat (by omega)
  rw [fl_wi (x := H 61 s.toNat) (by omega) (by omega)]
  refine ⟨fun h => ⟨_, rfl, Or.inr (Or.inl ⟨q1, h, rfl, rfl⟩)⟩, fun h _ H7 e7 _ => ⟨_, rfl, Or.inr (Or.inr ⟨q1, h, ?_, fun c hc => by rw [e7, fl_up_cell _ _ _ _ hc], by rw [e7, upz_up]⟩)⟩⟩
  rw [e7, fl_up_cell _ _ _ _ (by omega)]
theorem rs_drop {m : Nat} {H : fl_H} {s : Int} (hs : fl_w s = s) (t : ∀ i, i < 4 → -1 ≤ H 107 i ∧ H 107 i ≤ 2) : ck (cm_pg X xs) m cm_m237 [.index 94, fl_t s] H (drR 107 s H) := by
  refine ve_GoodsBookModel_drop_94 ?_
  simp only [hs]
  refine ⟨fun q _ => ?_, fun q => Or.inl ⟨q, rfl, rfl⟩⟩
  have b := t s.toNat (by omega)
  rw [fl_wi (x := H 107 s.toNat) (by omega) (by omega)]
  refine ⟨fun h _ H4 e4 _ => Or.inr (Or.inr ⟨q, by omega, ?_, fun c hc => by rw [e4, fl_up_cell _ _ _ _ hc], by rw [e4, upz_up]⟩), fun h => Or.inr (Or.inl ⟨q, by omega, rfl, rfl⟩)⟩
  rw [e4, fl_up_cell _ _ _ _ (by omega)]
theorem tx_drop {v1 : Int} (h1 : fl_w v1 = v1) : tw X xs TX true cm_m133 cm_m237 [.index 0, fl_t v1] [.index 94, fl_t v1] := fun m H t => by
  obtain ⟨s1, s2⟩ := TX_she t
  refine ck_mono (cs_drop (X := X) (xs := xs) h1 ⟨s1, s2⟩) (fun r H1 h => ?_)
  have c1 : ∀ c, c ≠ 61 → H1 c = H c := fun c hc => by
    rcases h with ⟨-, -, e⟩ | ⟨-, -, -, e⟩ | ⟨-, -, -, e, -⟩
    · rw [e]
    · rw [e]
    · exact e c hc
  have ex : ∃ x, r = some x := by
    rcases h with ⟨-, e, -⟩ | ⟨-, -, e, -⟩ | ⟨-, -, e, -⟩
    · exact ⟨_, e⟩
    · exact ⟨_, e⟩
    · exact ⟨_, e⟩
  refine ⟨ex, fun m' => ck_mono (rs_drop (X := X) (xs := xs) h1 (fun i hi => by rw [c1 107 (by omega)]; have := s1 i hi; omega)) (fun r' H2 k => ?_)⟩
  have e107 : ∀ i, i < 4 → H1 107 i = H 61 i := fun i hi => by rw [c1 107 (by omega)]; exact (s1 i hi).1.symm
  rcases h with ⟨a1, a2, a3⟩ | ⟨a1, a2, a3, a4⟩ | ⟨a1, a2, a3, a4, a5⟩
  · rcases k with ⟨b1, b2, b3⟩ | ⟨b1, -⟩ | ⟨b1, -⟩
    · subst b3; subst a3; exact ⟨⟨_, b2⟩, fun _ => by rw [a2, b2], t⟩
    · exact absurd b1 a1
    · exact absurd b1 a1
  · have e := e107 v1.toNat (by omega)
    rcases k with ⟨b1, -⟩ | ⟨b1, b2, b3, b4⟩ | ⟨b1, b2, -⟩
    · exact absurd a1 b1
    · subst b4; subst a4; exact ⟨⟨_, b3⟩, fun _ => by rw [a3, b3], t⟩
    · exact absurd (e.trans a2) b2
  · have e := e107 v1.toNat (by omega)
    rcases k with ⟨b1, -⟩ | ⟨b1, b2, -⟩ | ⟨b1, b2, b3, b4, b5⟩
    · exact absurd a1 b1
    · exact absurd (e.symm.trans b2) a2
    · have e8 : H1 (107 + 1) v1.toNat = H (61 + 1) v1.toNat := by
        rw [c1 (107 + 1) (by omega)]; exact (s1 v1.toNat (by omega)).2.2.2.1.symm
      refine ⟨⟨_, b3⟩, fun _ => by rw [a3, b3, e8], TX_sh t (fun c hc => c1 c (by omega)) (fun c hc => b4 c (by omega)) ⟨fun i hi => ?_, fun i hi => ?_⟩⟩
      · rw [b4 61 (by omega), a5, b5, b4 62 (by omega), c1 62 (by omega), b4 108 (by omega), c1 108 (by omega), c1 107 (by omega)]
        unfold upz
        by_cases ei : i = v1.toNat
        · rw [if_pos ei, if_pos ei]; exact ⟨rfl, by omega, by omega, (s1 i hi).2.2.2⟩
        · rw [if_neg ei, if_neg ei]; exact s1 i hi
      · rw [b4 63 (by omega), c1 63 (by omega), b4 109 (by omega), c1 109 (by omega)]; exact s2 i hi
-- ---- what a sheet lacks
def lkr (b : Nat) (H : fl_H) (s l f n : Int) : Int := if H b s.toNat = l then (if 0 ≤ f ∧ f ≤ H (b + 1) s.toNat - n then 0 else -13) else if H b s.toNat = -1 then -11 else -12
theorem lkr_rg (b : Nat) (H : fl_H) (s l f n : Int) : lkr b H s l f n = 0 ∨ lkr b H s l f n = -13 ∨ lkr b H s l f n = -11 ∨ lkr b H s l f n = -12 := by
  unfold lkr
  by_cases q1 : H b s.toNat = l
  · rw [if_pos q1]
    by_cases q2 : 0 ≤ f ∧ f ≤ H (b + 1) s.toNat - n
    · rw [if_pos q2]; omega
    · rw [if_neg q2]; omega
  · rw [if_neg q1]
    by_cases q2 : H b s.toNat = -1
    · rw [if_pos q2]; omega
    · rw [if_neg q2]; omega
theorem lkr_0 {b : Nat} {H : fl_H} {s l f n : Int} (h : lkr b H s l f n = 0) : H b s.toNat = l ∧ 0 ≤ f ∧ f ≤ H (b + 1) s.toNat - n := by
  unfold lkr at h
  by_cases q1 : H b s.toNat = l
  · rw [if_pos q1] at h
    by_cases q2 : 0 ≤ f ∧ f ≤ H (b + 1) s.toNat - n
    · exact ⟨q1, q2⟩
    · rw [if_neg q2] at h; omega
  · rw [if_neg q1] at h
    by_cases q2 : H b s.toNat = -1
    · rw [if_pos q2] at h; omega
    · rw [if_neg q2] at h; omega
theorem lkr_she {H : fl_H} (t : she H) {s l f n : Int} (hs : 0 ≤ s ∧ s ≤ 3) : lkr 107 H s l f n = lkr 61 H s l f n := by
  have := t.1 s.toNat (by omega)
  unfold lkr
  rw [← this.1, show H (107 + 1) s.toNat = H (61 + 1) s.toNat from this.2.2.2.1.symm]
/-- the class's refusal -/
theorem cs_refuse {m : Nat} {H : fl_H} {s l f n : Int} (hs : fl_w s = s) (hl : fl_w l = l) (hf : fl_w f = f) (hn : 0 ≤ n ∧ n ≤ 16) (t : she H) : ck (cm_pg X xs) m cm_m70 [.index 60, fl_t s, fl_t l, fl_t f, fl_t n] H (fun r H' => H' = H ∧ ((¬ shN s l ∧ r = some (-1)) ∨ (shN s l ∧ H 61 s.toNat = l ∧ n = 0 ∧ r = some 0) ∨ (shN s l ∧ ¬ (H 61 s.toNat = l ∧ n = 0) ∧ r = some (lkr 61 H s l f n)))) := by
  refine ve_Sheets_refusal_60 (fun m2 _ => ck_mono (sh_named (X := X) (xs := xs) hs hl) (fun r1 H1 h1 => ⟨_, h1.1, ?_⟩))
  rw [h1.2]
  simp only [fb_0, hs, hl, hf, w_0, w_m1]
  rw [fl_wi (x := n) (by omega) (by omega)]
  refine ⟨fun q => ⟨trivial, Or.inl ⟨q, trivial⟩⟩, fun q _ => ?_⟩
  have q1 : shN s l := Classical.not_not.mp q
  have q0 := q1.1
  have ql := q1.2
  have b := t.1 s.toNat (by omega)
  rw [fl_wi (x := H 61 s.toNat) (by omega) (by omega), fl_wi (x := H 62 s.toNat - n) (by omega) (by omega)]
  refine ⟨fun h => ⟨trivial, Or.inr (Or.inr ⟨q1, fun k => by omega, ?_⟩)⟩, fun h _ => ⟨fun h2 => ⟨fun h3 => ⟨trivial, Or.inr (Or.inl ⟨q1, h2, h3, trivial⟩)⟩, fun h3 _ => ⟨fun h4 => ⟨trivial, Or.inr (Or.inr ⟨q1, fun k => h3 k.2, ?_⟩)⟩, fun h4 => ⟨trivial, Or.inr (Or.inr ⟨q1, fun k => h3 k.2, ?_⟩)⟩⟩⟩, fun h2 => ⟨trivial, Or.inr (Or.inr ⟨q1, fun k => h2 k.1, ?_⟩)⟩⟩⟩
  · unfold lkr; rw [if_neg (by omega), if_pos h]
  · unfold lkr; rw [if_pos h2, if_pos h4]
  · unfold lkr; rw [if_pos h2, if_neg h4]
  · unfold lkr; rw [if_neg h2, if_neg h]
theorem rs_lacks {m : Nat} {H : fl_H} {s l f n : Int} (hs : fl_w s = s) (hl : fl_w l = l) (hf : fl_w f = f) (hn : 0 ≤ n ∧ n ≤ 16) (q1 : shN s l) (t : ∀ i, i < 4 → H 61 i = H 107 i ∧ -1 ≤ H 61 i ∧ H 61 i ≤ 2 ∧ H 62 i = H 108 i ∧ 0 ≤ H 62 i ∧ H 62 i ≤ 16) : ck (cm_pg X xs) m cm_m238 [.index 94, fl_t s, fl_t l, fl_t f, fl_t n] H (fun r H' => H' = H ∧ r = some (lkr 107 H s l f n)) := by
  have q0 := q1.1
  have ql := q1.2
  have b := t s.toNat (by omega)
  refine ve_GoodsBookModel_lacksRow_94 ?_
  simp only [hs, hl, hf]
  rw [fl_wi (x := H 107 s.toNat) (by omega) (by omega), fl_wi (x := H 108 s.toNat - n) (by omega) (by omega)]
  refine fun _ => ⟨fun h _ => ⟨fun h2 => ⟨trivial, ?_⟩, fun h2 => ⟨trivial, ?_⟩⟩, fun h _ => ⟨fun h2 => ⟨trivial, ?_⟩, fun h2 => ⟨trivial, ?_⟩⟩⟩
  · unfold lkr; rw [if_pos h, if_pos h2]
  · unfold lkr; rw [if_pos h, if_neg h2]
  · unfold lkr; rw [if_neg h, if_neg (by omega)]
  · unfold lkr; rw [if_neg h, if_pos (by omega)]
-- ---- item
theorem i2b_sh (x : Int32) : x.toInt8.toInt32 = (x <<< 24) >>> 24 := by
  apply Int32.toBitVec_inj.mp
  rw [Int32.toBitVec_shiftRight, Int32.toBitVec_shiftLeft, Int8.toBitVec_toInt32, Int32.toBitVec_toInt8]
  have e : ((24 : Int32).toBitVec.smod 32) = (24#32 : BitVec 32) := by decide
  rw [e]
  apply BitVec.eq_of_getLsbD_eq
  intro i hi
  simp only [BitVec.getLsbD_signExtend, BitVec.getLsbD_setWidth, BitVec.sshiftRight_eq', BitVec.getLsbD_sshiftRight, BitVec.shiftLeft_eq', BitVec.getLsbD_shiftLeft, BitVec.msb_eq_getLsbD_last, show (24#32).toNat = 24 from rfl, hi]
  by_cases h8 : i < 8
  · have e1 : 24 + i < 32 := by omega
    have e2 : ¬ 24 + i < 24 := by omega
    have e3 : 24 + i - 24 = i := by omega
    simp [h8, e1, e2, e3, hi]
  · have e1 : ¬ 24 + i < 32 := by omega
    have e2 : ¬ 32 ≤ i := by omega
    simp [h8, e1, e2, hi]
theorem i2s_sh (x : Int32) : x.toInt16.toInt32 = (x <<< 16) >>> 16 := by
  apply Int32.toBitVec_inj.mp
  rw [Int32.toBitVec_shiftRight, Int32.toBitVec_shiftLeft, Int16.toBitVec_toInt32, Int32.toBitVec_toInt16]
  have e : ((16 : Int32).toBitVec.smod 32) = (16#32 : BitVec 32) := by decide
  rw [e]
  apply BitVec.eq_of_getLsbD_eq
  intro i hi
  simp only [BitVec.getLsbD_signExtend, BitVec.getLsbD_setWidth, BitVec.sshiftRight_eq', BitVec.getLsbD_sshiftRight, BitVec.shiftLeft_eq', BitVec.getLsbD_shiftLeft, BitVec.msb_eq_getLsbD_last, show (16#32).toNat = 16 from rfl, hi]
  by_cases h8 : i < 16
  · have e1 : 16 + i < 32 := by omega
    have e2 : ¬ 16 + i < 16 := by omega
    have e3 : 16 + i - 16 = i := by omega
    simp [h8, e1, e2, e3, hi]
  · have e1 : ¬ 16 + i < 32 := by omega
    have e2 : ¬ 32 ≤ i := by omega
    simp [h8, e1, e2, hi]
end
end
