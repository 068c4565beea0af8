noncomputable section
/-! L3: the class reads clauses. -/
section
variable {X : Term} {xs : List Int32}
theorem cz_0 (H : fl_H) (b : Nat) : cz H b 0 = H b 0 := rfl
theorem cz_1 (H : fl_H) (b : Nat) : cz H b 1 = H (b + 2) 0 := rfl
theorem cz_2 (H : fl_H) (b : Nat) : cz H b 2 = H (b + 8) 0 := rfl
theorem slt_pg : ∀ p : Nat, p < 3 → vld (10 + p) = true ∧ slt (10 + p) = (1, p) := by decide
theorem slt_gd : ∀ g : Nat, g < 6 → vld (14 + 8 * g) = true ∧ slt (14 + 8 * g) = (3, g) ∧ vld (15 + 8 * g) = true ∧ slt (15 + 8 * g) = (4, g) := by decide
theorem slt_sz : ∀ g : Nat, g < 6 → ∀ s : Nat, s < 2 → vld (16 + 8 * g + 3 * s) = true ∧ slt (16 + 8 * g + 3 * s) = (5, 2 * g + s) ∧ vld (17 + 8 * g + 3 * s) = true ∧ slt (17 + 8 * g + 3 * s) = (6, 2 * g + s) ∧ vld (18 + 8 * g + 3 * s) = true ∧ slt (18 + 8 * g + 3 * s) = (7, 2 * g + s) := by decide
theorem slt_bd : ∀ p : Nat, p < 12 → vld (68 + 4 * p) = true ∧ slt (68 + 4 * p) = (9, p) ∧ vld (69 + 4 * p) = true ∧ slt (69 + 4 * p) = (10, p) ∧ vld (70 + 4 * p) = true ∧ slt (70 + 4 * p) = (11, p) ∧ vld (71 + 4 * p) = true ∧ slt (71 + 4 * p) = (12, p) := by decide
/-- only the spare book has changed -/
def spo (H G : fl_H) : Prop := ∀ c, (c < 20 ∨ 32 < c) → G c = H c
theorem spo_refl (H : fl_H) : spo H H := fun _ _ => rfl
theorem spo_trans {H G F : fl_H} (h : spo H G) (g : spo G F) : spo H F := fun c k => (g c k).trans (h c k)
theorem spo_up (H : fl_H) (c i : Nat) (v : Int) (h1 : 20 ≤ c) (h2 : c ≤ 32) : spo H (fl_up H c i v) := fun d k => fl_up_cell H c i v (by omega)
theorem cz_page {H : fl_H} {p : Nat} (hp : p < 3) (v : Int) : cz (fl_up H 21 p v) 20 = upz (cz H 20) (10 + p) v := by
  obtain ⟨h1, h2⟩ := slt_pg p hp
  exact cz_up h1 (by rw [h2] <;> rfl) (by rw [h2] <;> rfl)
theorem cp_page {m : Nat} {H : fl_H} {v : Int} (h0 : 0 ≤ H 20 0) (h1 : H 20 0 ≤ 3) : ck (cm_pg X xs) m cm_m8 [.index 20, fl_t v] H (fun r H' => ∃ x, r = some x ∧ -3 ≤ x ∧ x ≤ 11 ∧ spo H H' ∧ (cz H 20 0 < 3 → x ≠ -3 ∧ cz H' 20 = apz [0, v] (cz H 20)) ∧ (¬ cz H 20 0 < 3 → x = -3 ∧ H' = H)) := by
  refine ve_Book_addPage_20 ?_
  rw [fl_wi (x := H 20 0) (by omega) (by omega), cz_0]
  obtain ⟨p, hp⟩ : ∃ p : Nat, H 20 0 = (p : Int) := ⟨(H 20 0).toNat, by omega⟩
  rw [hp, Int.toNat_natCast]
  refine ⟨fun hlt _ H2 e2 H5 e5 => ?_, fun hge => ⟨_, rfl, by omega, by omega, spo_refl _, fun h => absurd h hge, fun _ => ⟨rfl, rfl⟩⟩⟩
  have g2 : H2 20 0 = (p : Int) := by rw [e2, fl_up_c _ _ _ _ (by decide)]; exact hp
  refine ⟨_, rfl, by omega, by omega, ?_, fun _ => ⟨by omega, ?_⟩, fun h => absurd hlt h⟩
  · rw [e5, e2]
    exact spo_trans (spo_up _ _ _ _ (by decide) (by decide)) (spo_up _ _ _ _ (by decide) (by decide))
  · have c5 : cz H5 20 = upz (cz H2 20) 0 (H2 20 0 + 1) := by rw [e5]; exact cz_up (j := 0) rfl rfl rfl
    rw [c5, g2, e2, cz_page (by omega)]
    show upz (upz (cz H 20) (10 + p) v) 0 ((p : Int) + 1) = upz (upz (cz H 20) (10 + (H 20 0).toNat) v) 0 (H 20 0 + 1)
    rw [hp, Int.toNat_natCast]
theorem cz_meas {H : fl_H} {g s : Nat} (hg : g < 6) (hs : s < 2) (w h v : Int) : cz (fl_up (fl_up (fl_up H 25 (2 * g + s) w) 26 (2 * g + s) h) 27 (2 * g + s) v) 20 = upz (upz (upz (cz H 20) (16 + 8 * g + 3 * s) w) (17 + 8 * g + 3 * s) h) (18 + 8 * g + 3 * s) v := by
  obtain ⟨a1, a2, a3, a4, a5, a6⟩ := slt_sz g hg s hs
  rw [cz_up (j := 18 + 8 * g + 3 * s) a5 (by rw [a6] <;> rfl) (by rw [a6] <;> rfl), cz_up (j := 17 + 8 * g + 3 * s) a3 (by rw [a4] <;> rfl) (by rw [a4] <;> rfl), cz_up (j := 16 + 8 * g + 3 * s) a1 (by rw [a2] <;> rfl) (by rw [a2] <;> rfl)]
theorem cp_meas {m g s : Nat} {H : fl_H} {w h v : Int} (hg : g < 6) (hs : s < 2) : ck (cm_pg X xs) m cm_m44 [.index 22, fl_t (g : Int), fl_t (s : Int), fl_t w, fl_t h, fl_t v] H (fun r H' => r = none ∧ H' = fl_up (fl_up (fl_up H 25 (2 * g + s) w) 26 (2 * g + s) h) 27 (2 * g + s) v) := by
  refine ve_Goods_measure_22 ?_
  rw [fl_wi (x := 2 * (g : Int) + (s : Int)) (by omega) (by omega)]
  have e0 : (2 * (g : Int) + (s : Int)).toNat = 2 * g + s := by omega
  rw [e0]
  intro _ H1 e1 _ H4 e4 _ H7 e7
  exact ⟨rfl, by rw [e7, e4, e1]⟩
theorem spo_meas {H : fl_H} {i : Nat} {w h v : Int} : spo H (fl_up (fl_up (fl_up H 25 i w) 26 i h) 27 i v) :=
  spo_trans (spo_trans (spo_up _ _ _ _ (by decide) (by decide)) (spo_up _ _ _ _ (by decide) (by decide))) (spo_up _ _ _ _ (by decide) (by decide))
/-- a new good -/
def gdz (g : Nat) (k f : Int) (z : Nat → Int) : Nat → Int := upz (upz (upz (upz (upz (upz (upz (upz (upz z (14 + 8 * g) k) (15 + 8 * g) f) (16 + 8 * g) 1) (17 + 8 * g) 1) (18 + 8 * g) 0) (19 + 8 * g) 1) (20 + 8 * g) 1) (21 + 8 * g) 0) 1 ((g : Int) + 1)
theorem cp_good {m : Nat} {H : fl_H} {k f : Int} (h0 : 0 ≤ H 22 0) (h1 : H 22 0 ≤ 6) : ck (cm_pg X xs) m cm_m43 [.index 22, fl_t k, fl_t f] H (fun r H' => ∃ x, r = some x ∧ spo H H' ∧ (cz H 20 1 < 6 → x = H 22 0 ∧ cz H' 20 = gdz (H 22 0).toNat k f (cz H 20)) ∧ (¬ cz H 20 1 < 6 → x = -3 ∧ H' = H)) := by
  refine ve_Goods_add_22 ?_
  have c1 : cz H 20 1 = H 22 0 := rfl
  rw [fl_wi (x := H 22 0) (by omega) (by omega), c1]
  obtain ⟨g, hg⟩ : ∃ g : Nat, H 22 0 = (g : Int) := ⟨(H 22 0).toNat, by omega⟩
  rw [hg, Int.toNat_natCast]
  refine ⟨fun hlt _ H2 e2 => ?_, fun hge => ⟨_, rfl, spo_refl _, fun h => absurd h hge, fun _ => ⟨rfl, rfl⟩⟩⟩
  have hg6 : g < 6 := by omega
  have g2 : H2 22 0 = (g : Int) := by rw [e2, fl_up_c _ _ _ _ (by decide)]; exact hg
  rw [g2, fl_wi (x := (g : Int)) (by omega) (by omega), Int.toNat_natCast]
  intro _ H5 e5 m hm
  have g5 : H5 22 0 = (g : Int) := by rw [e5, fl_up_c _ _ _ _ (by decide)]; exact g2
  rw [g5]
  refine ck_mono (cp_meas (X := X) (xs := xs) (g := g) (s := 0) hg6 (by decide)) (fun r H8 h => ⟨h.1, fun m hm => ?_⟩)
  have e8 := h.2
  have g8 : H8 22 0 = (g : Int) := by rw [e8, fl_up_c _ _ _ _ (by decide), fl_up_c _ _ _ _ (by decide), fl_up_c _ _ _ _ (by decide)]; exact g5
  rw [g8]
  refine ck_mono (cp_meas (X := X) (xs := xs) (g := g) (s := 1) hg6 (by decide)) (fun r H10 h => ⟨h.1, fun H12 e12 => ?_⟩)
  have e10 := h.2
  have g10 : H10 22 0 = (g : Int) := by rw [e10, fl_up_c _ _ _ _ (by decide), fl_up_c _ _ _ _ (by decide), fl_up_c _ _ _ _ (by decide)]; exact g8
  obtain ⟨a1, a2, a3, a4⟩ := slt_gd g hg6
  refine ⟨_, rfl, ?_, fun _ => ⟨g10, ?_⟩, fun h => absurd hlt h⟩
  · rw [e12, e10, e8, e5, e2]
    exact spo_trans (spo_trans (spo_trans (spo_trans (spo_up _ _ _ _ (by decide) (by decide)) (spo_up _ _ _ _ (by decide) (by decide))) spo_meas) spo_meas) (spo_up _ _ _ _ (by decide) (by decide))
  · have c12 : cz H12 20 = upz (cz H10 20) 1 (H10 22 0 + 1) := by rw [e12]; exact cz_up (j := 1) rfl rfl rfl
    have c5 : cz H5 20 = upz (cz H2 20) (15 + 8 * g) f := by rw [e5]; exact cz_up a3 (by rw [a4] <;> rfl) (by rw [a4] <;> rfl)
    have c2 : cz H2 20 = upz (cz H 20) (14 + 8 * g) k := by rw [e2]; exact cz_up a1 (by rw [a2] <;> rfl) (by rw [a2] <;> rfl)
    rw [c12, g10, e10, cz_meas hg6 (by decide), e8, cz_meas hg6 (by decide), c5, c2]
    rw [show 16 + 8 * g + 3 * 1 = 19 + 8 * g by omega, show 17 + 8 * g + 3 * 1 = 20 + 8 * g by omega, show 18 + 8 * g + 3 * 1 = 21 + 8 * g by omega]
    rfl
theorem cp_bond {m : Nat} {H : fl_H} {k x y v : Int} (h0 : 0 ≤ H 28 0) (h1 : H 28 0 ≤ 12) : ck (cm_pg X xs) m cm_m4 [.index 28, fl_t k, fl_t x, fl_t y, fl_t v] H (fun r H' => ∃ q, r = some q ∧ -3 ≤ q ∧ q ≤ 11 ∧ spo H H' ∧ (cz H 20 2 < 12 → q ≠ -3 ∧ cz H' 20 = apz [2, k, x, y, v] (cz H 20)) ∧ (¬ cz H 20 2 < 12 → q = -3 ∧ H' = H)) := by
  refine ve_Bonds_add_28 ?_
  have c1 : cz H 20 2 = H 28 0 := rfl
  rw [fl_wi (x := H 28 0) (by omega) (by omega), c1]
  obtain ⟨p, hp⟩ : ∃ p : Nat, H 28 0 = (p : Int) := ⟨(H 28 0).toNat, by omega⟩
  rw [hp, Int.toNat_natCast]
  refine ⟨fun hlt _ H2 e2 => ?_, fun hge => ⟨_, rfl, by omega, by omega, spo_refl _, fun h => absurd h hge, fun _ => ⟨rfl, rfl⟩⟩⟩
  have hp12 : p < 12 := by omega
  have g2 : H2 28 0 = (p : Int) := by rw [e2, fl_up_c _ _ _ _ (by decide)]; exact hp
  rw [g2, fl_wi (x := (p : Int)) (by omega) (by omega), Int.toNat_natCast]
  intro _ H5 e5
  have g5 : H5 28 0 = (p : Int) := by rw [e5, fl_up_c _ _ _ _ (by decide)]; exact g2
  rw [g5, fl_wi (x := (p : Int)) (by omega) (by omega), Int.toNat_natCast]
  intro _ H8 e8
  have g8 : H8 28 0 = (p : Int) := by rw [e8, fl_up_c _ _ _ _ (by decide)]; exact g5
  rw [g8, fl_wi (x := (p : Int)) (by omega) (by omega), Int.toNat_natCast]
  intro _ H11 e11 H14 e14
  have g11 : H11 28 0 = (p : Int) := by rw [e11, fl_up_c _ _ _ _ (by decide)]; exact g8
  obtain ⟨a1, a2, a3, a4, a5, a6, a7, a8⟩ := slt_bd p hp12
  refine ⟨_, rfl, by omega, by omega, ?_, fun _ => ⟨by omega, ?_⟩, fun h => absurd hlt h⟩
  · rw [e14, e11, e8, e5, e2]
    exact spo_trans (spo_trans (spo_trans (spo_trans (spo_up _ _ _ _ (by decide) (by decide)) (spo_up _ _ _ _ (by decide) (by decide))) (spo_up _ _ _ _ (by decide) (by decide))) (spo_up _ _ _ _ (by decide) (by decide))) (spo_up _ _ _ _ (by decide) (by decide))
  · have q14 : cz H14 20 = upz (cz H11 20) 2 (H11 28 0 + 1) := by rw [e14]; exact cz_up (j := 2) rfl rfl rfl
    have q11 : cz H11 20 = upz (cz H8 20) (71 + 4 * p) v := by rw [e11]; exact cz_up a7 (by rw [a8] <;> rfl) (by rw [a8] <;> rfl)
    have q8 : cz H8 20 = upz (cz H5 20) (70 + 4 * p) y := by rw [e8]; exact cz_up a5 (by rw [a6] <;> rfl) (by rw [a6] <;> rfl)
    have q5 : cz H5 20 = upz (cz H2 20) (69 + 4 * p) x := by rw [e5]; exact cz_up a3 (by rw [a4] <;> rfl) (by rw [a4] <;> rfl)
    have q2 : cz H2 20 = upz (cz H 20) (68 + 4 * p) k := by rw [e2]; exact cz_up a1 (by rw [a2] <;> rfl) (by rw [a2] <;> rfl)
    rw [q14, g11, q11, q8, q5, q2]
    show _ = upz (upz (upz (upz (upz (cz H 20) (68 + 4 * (H 28 0).toNat) k) (69 + 4 * (H 28 0).toNat) x) (70 + 4 * (H 28 0).toNat) y) (71 + 4 * (H 28 0).toNat) v) 2 (H 28 0 + 1)
    rw [hp, Int.toNat_natCast]
/-- cells but 58 as they were: so is the spare book -/
theorem cz_58 {H G : fl_H} (h : ∀ c, c ≠ 58 → G c = H c) : cz G 20 = cz H 20 := cz_out (fun c i h1 h2 => by rw [h c (by omega)])
theorem cp_size {n a m s : Nat} {H : fl_H} (hs : cst H n a) {x : Int} (hx : x = -3 ∨ (0 ≤ x ∧ x < 6)) (h2 : s < 2) : ck (cm_pg X xs) m cm_m82 [.index 58, .index 20, fl_t x, fl_t (s : Int)] H (fun r H' => r = none ∧ ∃ p : Int × Int × Int, stp n (fun b => siz (H 59) n b) H H' p ∧ (H' 58 3 = -1 → 0 ≤ x → cz H' 20 = upz (upz (upz (cz H 20) (16 + 8 * x.toNat + 3 * s) p.1) (17 + 8 * x.toNat + 3 * s) p.2.1) (18 + 8 * x.toNat + 3 * s) p.2.2) ∧ (x < 0 → cz H' 20 = cz H 20)) := by
  have r0 : rnn n (siz (H 59) n a) H H (fun b => pb (tk (H 59) n b (one [49, 50, 51, 52])) fun i a => pb (tk (H 59) n a (skp 120)) fun _ a => pb (tk (H 59) n a (one [49, 50, 51, 52])) fun k a => pb (tk (H 59) n a (skp 61)) fun _ a => pb (num (H 59) n a 999) fun s a => .inr ((i + 1, k + 1, s), a)) := by
    rw [siz_eq]
    exact rnn_0 hs (fun b => pb (tk (H 59) n b (one [49, 50, 51, 52])) fun i a => pb (tk (H 59) n a (skp 120)) fun _ a => pb (tk (H 59) n a (one [49, 50, 51, 52])) fun k a => pb (tk (H 59) n a (skp 61)) fun _ a => pb (num (H 59) n a 999) fun s a => .inr ((i + 1, k + 1, s), a))
  refine ve_Tape_aSize_58_20 (fun m hm => ck_mono (cn_of6 (X := X) (xs := xs) hs) (fun r H1 h => ?_))
  obtain ⟨x3, hr, c1⟩ := h
  refine ⟨x3, hr, fun m hm => ?_⟩
  obtain ⟨s1, f1⟩ := stp_cto (o := fun b => tk (H 59) n b (one [49, 50, 51, 52])) hs c1
  have r1 := rnn_stp r0 s1
  have b3 : 0 ≤ x3 ∧ x3 ≤ 3 := ⟨c1.1, c1.2.1⟩
  clear c1
  obtain ⟨q1, hq1, -⟩ := id r1.2.1
  have t1 := cfr_t r1.1
  refine ck_mono (cn_skip (X := X) (xs := xs) hq1 (c := 120) (by omega) (by omega)) (fun r H4 h => ⟨h.1, fun m hm => ?_⟩)
  have c2 := h.2
  clear h
  rw [t1] at c2
  obtain ⟨s2, f2⟩ := stp_cto (o := fun b => tk (H 59) n b (skp 120)) hq1 c2
  have r2 := rnn_stp r1 s2
  obtain ⟨q2, hq2, -⟩ := id r2.2.1
  have t2 := cfr_t r2.1
  refine ck_mono (cn_of6 (X := X) (xs := xs) hq2) (fun r H6 h => ?_)
  obtain ⟨x8, hr, c3⟩ := h
  refine ⟨x8, hr, fun m hm => ?_⟩
  rw [t2] at c3
  obtain ⟨s3, f3⟩ := stp_cto (o := fun b => tk (H 59) n b (one [49, 50, 51, 52])) hq2 c3
  have r3 := rnn_stp r2 s3
  have b8 : 0 ≤ x8 ∧ x8 ≤ 3 := ⟨c3.1, c3.2.1⟩
  clear c3
  obtain ⟨q3, hq3, -⟩ := id r3.2.1
  have t3 := cfr_t r3.1
  refine ck_mono (cn_skip (X := X) (xs := xs) hq3 (c := 61) (by omega) (by omega)) (fun r H9 h => ⟨h.1, fun m hm => ?_⟩)
  have c4 := h.2
  clear h
  rw [t3] at c4
  obtain ⟨s4, f4⟩ := stp_cto (o := fun b => tk (H 59) n b (skp 61)) hq3 c4
  have r4 := rnn_stp r3 s4
  obtain ⟨q4, hq4, -⟩ := id r4.2.1
  have t4 := cfr_t r4.1
  refine ck_mono (cn_num (X := X) (xs := xs) hq4 (most := 999) (by omega) (by omega)) (fun r H11 h => ?_)
  obtain ⟨x13, hr, c5⟩ := h
  refine ⟨x13, hr, ?_⟩
  rw [t4] at c5
  obtain ⟨s5, f5⟩ := stp_cto (o := fun b => num (H 59) n b 999) hq4 c5
  have r5 := rnn_stp r4 s5
  have e5 : cz H11 20 = cz H 20 := by rw [cz_58 f5, cz_58 f4, cz_58 f3, cz_58 f2, cz_58 f1]
  obtain ⟨q5, hq5, -⟩ := id r5.2.1
  rw [fl_wi (x := H11 58 3) (by have := hq5.2.2.2.2.2.1; omega) (by have := hq5.2.2.2.2.2.2; omega), fl_wi (x := x) (by omega) (by omega)]
  refine ⟨fun hf => ⟨fun hneg => ⟨rfl, (x3 + 1, x8 + 1, x13), rnn_end hs r5, fun _ hh => by omega, fun _ => e5⟩, fun hpos m hm => ?_⟩, fun hf => ⟨rfl, (x3 + 1, x8 + 1, x13), rnn_end hs r5, fun hh => absurd hh hf, fun _ => e5⟩⟩
  obtain ⟨g, hg⟩ : ∃ g : Nat, x = (g : Int) := ⟨x.toNat, by omega⟩
  subst hg
  refine ck_mono (cp_meas (X := X) (xs := xs) (g := g) (s := s) (by omega) h2) (fun r H16 h => ⟨h.1, rfl, (x3 + 1, x8 + 1, x13), ?_, fun _ _ => ?_, fun hh => by omega⟩)
  · refine rnn_end hs (rnn_put r5 ?_)
    rw [h.2]
    exact spo_meas
  · rw [h.2, cz_meas (by omega) h2, e5, Int.toNat_natCast]
end
end
