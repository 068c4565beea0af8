noncomputable section
/-! L3: an item written. -/
section
variable {X : Term} {xs : List Int32}
theorem sh_b (v : Int) : fl_shr (fl_shl v 24) 24 = fl_i2b v := by
  unfold fl_shr fl_shl fl_i2b
  rw [show (Int32.ofInt 24 &&& 31) = 24 from by decide, Int32.ofInt_toInt, i2b_sh]
theorem sh_s (v : Int) : fl_shr (fl_shl v 16) 16 = fl_i2s v := by
  unfold fl_shr fl_shl fl_i2s
  rw [show (Int32.ofInt 16 &&& 31) = 16 from by decide, Int32.ofInt_toInt, i2s_sh]
theorem w_i32 (x : Int32) : fl_w x.toInt = x.toInt := fl_w_id (by have := Int32.le_toInt x; omega) (by have := Int32.toInt_lt x; omega)
def wrv (l v : Int) : Int := if l = 0 then fl_i2b v else if l = 1 then fl_i2s v else v
theorem wrv_w {l v : Int} (hv : fl_w v = v) : fl_w (wrv l v) = wrv l v := by
  unfold wrv
  by_cases h : l = 0
  · rw [if_pos h]; exact w_i32 _
  · rw [if_neg h]
    by_cases h1 : l = 1
    · rw [if_pos h1]; exact w_i32 _
    · rw [if_neg h1]; exact hv
def itR (b : Nat) (s l i v : Int) (H : fl_H) (r : Option Int) (H' : fl_H) : Prop :=
  (¬ shN s l ∧ r = some (-1) ∧ H' = H) ∨ (shN s l ∧ lkr b H s l i 1 ≠ 0 ∧ r = some (lkr b H s l i 1) ∧ H' = H) ∨ (shN s l ∧ lkr b H s l i 1 = 0 ∧ r = some 1 ∧ (∀ c, c ≠ b + 2 → H' c = H c) ∧ H' (b + 2) = upz (H (b + 2)) (16 * s.toNat + i.toNat) (wrv l v))
theorem lkr_w (b : Nat) (H : fl_H) (s l f n : Int) : fl_w (lkr b H s l f n) = lkr b H s l f n := by
  have := lkr_rg b H s l f n
  exact fl_wi (by omega) (by omega)
theorem cs_item {m : Nat} {H : fl_H} {s l i v : Int} (hs : fl_w s = s) (hl : fl_w l = l) (hi : fl_w i = i) (t : she H) : ck (cm_pg X xs) m cm_m134 [.index 0, fl_t s, fl_t l, fl_t i, fl_t v] H (itR 61 s l i v H) := by
  refine ve_GoodsBook_item_0 (fun m1 _ => ck_mono (cs_refuse (X := X) (xs := xs) hs hl hi (by omega) t) (fun r1 H1 h1 => ?_))
  obtain ⟨e, h⟩ := h1
  rw [e]
  rcases h with ⟨a, b⟩ | ⟨a, b, c, d⟩ | ⟨a, b, d⟩
  · exact ⟨_, b, fun q => absurd q (by decide), fun _ => Or.inl ⟨a, rfl, rfl⟩⟩
  · exact absurd c (by decide)
  · refine ⟨_, d, ?_⟩
    rw [lkr_w]
    refine ⟨fun q m2 _ => ve_Sheets_write_60 ?_, fun q => Or.inr (Or.inl ⟨a, q, rfl, rfl⟩)⟩
    obtain ⟨b1, b2, b3⟩ := lkr_0 q
    have bb := t.1 s.toNat (by have := a.1; omega)
    have b4 : i ≤ H 62 s.toNat - 1 := b3
    have a1 := a.1
    have ei : (s * 16 + i).toNat = 16 * s.toNat + i.toNat := by omega
    rw [hs, b1, hl, fl_wi (x := s * 16 + i) (by omega) (by omega), ei]
    refine fun _ => ⟨fun c0 _ H3 e3 => ?_, fun c0 _ H3 e3 => ?_, fun c0 _ H3 e3 => ?_⟩
    · refine ⟨rfl, Or.inr (Or.inr ⟨a, q, rfl, fun c hc => by rw [e3, fl_up_cell _ _ _ _ (show c ≠ 63 from hc)], ?_⟩)⟩
      rw [e3]
      show fl_up H 63 _ _ 63 = _
      rw [upz_up]; unfold wrv; rw [if_pos c0]
    · refine ⟨rfl, Or.inr (Or.inr ⟨a, q, rfl, fun c hc => by rw [e3, fl_up_cell _ _ _ _ (show c ≠ 63 from hc)], ?_⟩)⟩
      rw [e3]
      show fl_up H 63 _ _ 63 = _
      rw [upz_up]; unfold wrv; rw [if_neg (by omega), if_pos c0]
    · refine ⟨rfl, Or.inr (Or.inr ⟨a, q, rfl, fun c hc => by rw [e3, fl_up_cell _ _ _ _ (show c ≠ 63 from hc)], ?_⟩)⟩
      rw [e3]
      show fl_up H 63 _ _ 63 = _
      rw [upz_up]; unfold wrv; rw [if_neg c0.1, if_neg c0.2]
theorem rs_item {m : Nat} {H : fl_H} {s l i v : Int} (hs : fl_w s = s) (hl : fl_w l = l) (hi : fl_w i = i) (t : ∀ i, i < 4 → H 61 i = H 107 i ∧ -1 ≤ H 61 i ∧ H 61 i ≤ 2 ∧ H 62 i = H 108 i ∧ 0 ≤ H 62 i ∧ H 62 i ≤ 16) : ck (cm_pg X xs) m cm_m239 [.index 94, fl_t s, fl_t l, fl_t i, fl_t v] H (itR 107 s l i v H) := by
  refine ve_GoodsBookModel_item_94 (fun m2 _ => ck_mono (sr_named (X := X) (xs := xs) hs hl) (fun r1 H1 h1 => ⟨_, h1.1, ?_⟩))
  rw [h1.2]
  simp only [fb_0]
  refine ⟨fun q => Or.inl ⟨q, rfl, rfl⟩, fun q m3 _ => ?_⟩
  have a : shN s l := Classical.not_not.mp q
  refine ck_mono (rs_lacks (X := X) (xs := xs) hs hl hi (by omega) a t) (fun r2 H2 h2 => ⟨_, h2.2, ?_⟩)
  rw [h2.1, lkr_w]
  have rg := lkr_rg 107 H s l i 1
  refine ⟨fun q2 => ?_, fun q2 => Or.inr (Or.inl ⟨a, by omega, rfl, rfl⟩)⟩
  have q : lkr 107 H s l i 1 = 0 := by omega
  obtain ⟨b1, b2, b3⟩ := lkr_0 q
  have bb := t s.toNat (by have := a.1; omega)
  have b4 : i ≤ H 108 s.toNat - 1 := b3
  have a1 := a.1
  have ei : (16 * s + i).toNat = 16 * s.toNat + i.toNat := by omega
  rw [hl, fl_wi (x := 16 * s + i) (by omega) (by omega), ei]
  refine ⟨fun c0 _ H3 e3 => ?_, fun c0 => ⟨fun c1 _ H3 e3 => ?_, fun c1 _ H3 e3 => ?_⟩⟩
  · refine Or.inr (Or.inr ⟨a, q, rfl, fun c hc => by rw [e3, fl_up_cell _ _ _ _ (show c ≠ 109 from hc)], ?_⟩)
    rw [e3]
    show fl_up H 109 _ _ 109 = _
    rw [upz_up, sh_b]; unfold wrv; rw [if_pos c0]
  · refine Or.inr (Or.inr ⟨a, q, rfl, fun c hc => by rw [e3, fl_up_cell _ _ _ _ (show c ≠ 109 from hc)], ?_⟩)
    rw [e3]
    show fl_up H 109 _ _ 109 = _
    rw [upz_up, sh_s]; unfold wrv; rw [if_neg c0, if_pos c1]
  · refine Or.inr (Or.inr ⟨a, q, rfl, fun c hc => by rw [e3, fl_up_cell _ _ _ _ (show c ≠ 109 from hc)], ?_⟩)
    rw [e3]
    show fl_up H 109 _ _ 109 = _
    rw [upz_up]; unfold wrv; rw [if_neg c0, if_neg c1]
theorem tx_item {v1 v2 v3 v4 : Int} (h1 : fl_w v1 = v1) (h2 : fl_w v2 = v2) (h3 : fl_w v3 = v3) (h4 : fl_w v4 = v4) : tw X xs TX true cm_m134 cm_m239 [.index 0, fl_t v1, fl_t v2, fl_t v3, fl_t v4] [.index 94, fl_t v1, fl_t v2, fl_t v3, fl_t v4] := fun m H t => by
  obtain ⟨s1, s2⟩ := TX_she t
  refine ck_mono (cs_item (X := X) (xs := xs) h1 h2 h3 ⟨s1, s2⟩) (fun r H1 h => ?_)
  have c1 : ∀ c, c ≠ 63 → H1 c = H c := fun c hc => by
    rcases h with ⟨-, -, e⟩ | ⟨-, -, -, e⟩ | ⟨-, -, -, e, -⟩
    · rw [e]
    · rw [e]
    · exact e c hc
  have ex : ∃ x, r = some x := by
    rcases h with ⟨-, e, -⟩ | ⟨-, -, e, -⟩ | ⟨-, -, e, -⟩
    · exact ⟨_, e⟩
    · exact ⟨_, e⟩
    · exact ⟨_, e⟩
  have s3 : ∀ i, i < 4 → H1 61 i = H1 107 i ∧ -1 ≤ H1 61 i ∧ H1 61 i ≤ 2 ∧ H1 62 i = H1 108 i ∧ 0 ≤ H1 62 i ∧ H1 62 i ≤ 16 := fun i hi => by
    rw [c1 61 (by omega), c1 62 (by omega), c1 107 (by omega), c1 108 (by omega)]; exact s1 i hi
  have el : shN v1 v2 → lkr 107 H1 v1 v2 v3 1 = lkr 61 H v1 v2 v3 1 := fun a => by
    rw [← lkr_she (H := H) ⟨s1, s2⟩ a.1]
    unfold lkr
    rw [c1 107 (by omega), c1 (107 + 1) (by omega)]
  refine ⟨ex, fun m' => ck_mono (rs_item (X := X) (xs := xs) h1 h2 h3 s3) (fun r' H2 k => ?_)⟩
  rcases h with ⟨a1, a2, a3⟩ | ⟨a1, a2, a3, a4⟩ | ⟨a1, a2, a3, a4, a5⟩
  · rcases k with ⟨b1, b2, b3⟩ | ⟨b1, -⟩ | ⟨b1, -⟩
    · rw [b3, a3]; exact ⟨⟨_, b2⟩, fun _ => by rw [a2, b2], t⟩
    · exact absurd b1 a1
    · exact absurd b1 a1
  · have e := el a1
    rcases k with ⟨b1, -⟩ | ⟨b1, b2, b3, b4⟩ | ⟨b1, b2, -⟩
    · exact absurd a1 b1
    · rw [b4, a4]; exact ⟨⟨_, b3⟩, fun _ => by rw [a3, b3, e], t⟩
    · exact absurd (e.symm.trans b2) a2
  · have e := el a1
    rcases k with ⟨b1, -⟩ | ⟨b1, b2, -⟩ | ⟨b1, b2, b3, b4, b5⟩
    · exact absurd a1 b1
    · exact absurd (e.trans a2) b2
    · refine ⟨⟨_, b3⟩, fun _ => by rw [a3, b3], TX_sh t (fun c hc => c1 c (by omega)) (fun c hc => b4 c (by omega)) ⟨fun i hi => ?_, fun i hi => ?_⟩⟩
      · rw [b4 61 (by omega), b4 62 (by omega), b4 107 (by omega), b4 108 (by omega)]; exact s3 i hi
      · have e1 : H2 63 = upz (H 63) (16 * v1.toNat + v3.toNat) (wrv v2 v4) := by rw [b4 63 (by omega)]; exact a5
        have e2 : H2 109 = upz (H 109) (16 * v1.toNat + v3.toNat) (wrv v2 v4) := by
          have := b5
          rw [c1 (107 + 2) (by omega)] at this
          exact this
        rw [e1, e2]
        unfold upz
        by_cases ei : i = 16 * v1.toNat + v3.toNat
        · rw [if_pos ei, if_pos ei]; exact ⟨rfl, wrv_w h4⟩
        · rw [if_neg ei, if_neg ei]; exact s2 i hi
end
end
