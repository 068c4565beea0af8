noncomputable section
/-! L3: the class reads a clause. -/
section
variable {X : Term} {xs : List Int32}
/-- alike but for choices -/
def zeq (z w : Nat → Int) : Prop := ∀ j, ¬ (62 ≤ j ∧ j < 68) → z j = w j
theorem zeq_refl (z : Nat → Int) : zeq z z := fun _ _ => rfl
theorem zeq_of {z w : Nat → Int} (h : z = w) : zeq z w := fun j _ => by rw [h]
theorem gd_fin {g : Nat} {z : Nat → Int} (hz : z 1 = (g : Int)) (hg : g < 6) {k f w0 h0 s0 w1 h1 s1 : Int} : zeq (upz (upz (upz (upz (upz (upz (gdz g k f z) (16 + 8 * g + 3 * 0) w0) (17 + 8 * g + 3 * 0) h0) (18 + 8 * g + 3 * 0) s0) (16 + 8 * g + 3 * 1) w1) (17 + 8 * g + 3 * 1) h1) (18 + 8 * g + 3 * 1) s1) (apz [1, k, f, w0, h0, s0, w1, h1, s1] z) := by
  intro j hj
  show _ = upz (upz (upz (upz (upz (upz (upz (upz (upz (upz z (14 + 8 * (z 1).toNat) k) (15 + 8 * (z 1).toNat) f) (16 + 8 * (z 1).toNat) w0) (17 + 8 * (z 1).toNat) h0) (18 + 8 * (z 1).toNat) s0) (19 + 8 * (z 1).toNat) w1) (20 + 8 * (z 1).toNat) h1) (21 + 8 * (z 1).toNat) s1) (62 + (z 1).toNat) 0) 1 (z 1 + 1) j
  rw [hz, Int.toNat_natCast]
  unfold gdz upz
  by_cases j0 : j = 1
  · subst j0; repeat (first | rw [if_pos (by omega)] | rw [if_neg (by omega)])
  · by_cases j1 : j = 14 + 8 * g
    · subst j1; repeat (first | rw [if_pos (by omega)] | rw [if_neg (by omega)])
    · by_cases j2 : j = 15 + 8 * g
      · subst j2; repeat (first | rw [if_pos (by omega)] | rw [if_neg (by omega)])
      · by_cases j3 : j = 16 + 8 * g
        · subst j3; repeat (first | rw [if_pos (by omega)] | rw [if_neg (by omega)])
        · by_cases j4 : j = 17 + 8 * g
          · subst j4; repeat (first | rw [if_pos (by omega)] | rw [if_neg (by omega)])
          · by_cases j5 : j = 18 + 8 * g
            · subst j5; repeat (first | rw [if_pos (by omega)] | rw [if_neg (by omega)])
            · by_cases j6 : j = 19 + 8 * g
              · subst j6; repeat (first | rw [if_pos (by omega)] | rw [if_neg (by omega)])
              · by_cases j7 : j = 20 + 8 * g
                · subst j7; repeat (first | rw [if_pos (by omega)] | rw [if_neg (by omega)])
                · by_cases j8 : j = 21 + 8 * g
                  · subst j8; repeat (first | rw [if_pos (by omega)] | rw [if_neg (by omega)])
                  · repeat (first | rw [if_pos (by omega)] | rw [if_neg (by omega)])
theorem letr_min (g x c : Int) : letr g x c = letr (min g 6) x c := by
  unfold letr
  by_cases h : 0 ≤ c - 97 ∧ c - 97 ≤ g - 1 ∧ c - 97 < 6 ∧ ¬ c - 97 = x
  · rw [if_pos h, if_pos ⟨h.1, by omega, h.2.2.1, h.2.2.2⟩]
  · rw [if_neg h, if_neg (fun k => h ⟨k.1, by omega, k.2.2.1, k.2.2.2⟩)]
theorem tk_nb {α : Type} (t : Nat → Int) (n a : Nat) (f : Int → Option α) : tk t n (nb t n a) f = tk t n a f := by
  unfold tk bc
  rw [nb_nb]
theorem bc_nb (t : Nat → Int) (n a : Nat) : bc t n (nb t n a) = bc t n a := by
  unfold bc
  rw [nb_nb]
/-- what a clause comes to in the class -/
def clo (e : List Int) (x : Int) (H H' : fl_H) : Prop := -3 ≤ x ∧ x ≤ 11 ∧ (H' 58 3 = -1 → (rom e (cz H 20) → x ≠ -3 ∧ zeq (cz H' 20) (apz e (cz H 20))) ∧ (¬ rom e (cz H 20) → x = -3 ∧ cz H' 20 = cz H 20))
theorem cp_aPage {n a m : Nat} {H : fl_H} (hs : cst H n a) (hz : zr (cz H 20)) : ck (cm_pg X xs) m cm_m80 [.index 58, .index 20] H (fun r H' => ∃ x e, r = some x ∧ stp n (fun b => pb (tk (H 59) n b (skp 112)) fun _ b => pb (num (H 59) n b 60) fun v b => .inr (([0, v] : List Int), b)) H H' e ∧ clo e x H H') := by
  have r0 := rnn_0 hs (fun b => pb (tk (H 59) n b (skp 112)) fun _ b => pb (num (H 59) n b 60) fun v b => (.inr (([0, v] : List Int), b) : PR (List Int)))
  refine ve_Tape_aPage_58_20 (fun m hm => ck_mono (cn_skip (X := X) (xs := xs) hs (c := 112) (by omega) (by omega)) (fun r H1 h => ⟨h.1, fun m hm => ?_⟩))
  obtain ⟨s1, f1⟩ := stp_cto (o := fun b => tk (H 59) n b (skp 112)) hs h.2
  have r1 := rnn_stp r0 s1
  obtain ⟨q1, hq1, -⟩ := id r1.2.1
  have t1 := cfr_t r1.1
  refine ck_mono (cn_num (X := X) (xs := xs) hq1 (most := 60) (by omega) (by omega)) (fun r H3 h => ?_)
  obtain ⟨x5, hr, c2⟩ := h
  refine ⟨x5, hr, ?_⟩
  rw [t1] at c2
  obtain ⟨s2, f2⟩ := stp_cto (o := fun b => num (H 59) n b 60) hq1 c2
  have r2 := rnn_stp r1 s2
  obtain ⟨q2, hq2, -⟩ := id r2.2.1
  have e2 : cz H3 20 = cz H 20 := by rw [cz_58 f2, cz_58 f1]
  rw [fl_wi (x := H3 58 3) (by have := hq2.2.2.2.2.2.1; omega) (by have := hq2.2.2.2.2.2.2; omega)]
  refine ⟨fun hf m hm => ?_, fun hf => ⟨0, [0, x5], rfl, rnn_end hs r2, by omega, by omega, fun hh => absurd hh hf⟩⟩
  have z0 : H3 20 0 = cz H 20 0 := by rw [← e2]; rfl
  refine ck_mono (cp_page (X := X) (xs := xs) (H := H3) (v := x5) (by rw [z0]; exact hz.1) (by rw [z0]; exact hz.2.1)) (fun r H7 h => ?_)
  obtain ⟨x9, hr9, b1, b2, sp, h1, h2⟩ := h
  rw [e2] at h1 h2
  refine ⟨x9, hr9, x9, [0, x5], rfl, rnn_end hs (rnn_put r2 sp), b1, b2, fun _ => ⟨fun hrm => ?_, fun hrm => ?_⟩⟩
  · obtain ⟨k1, k2⟩ := h1 (hrm.1 rfl)
    exact ⟨k1, zeq_of k2⟩
  · have : ¬ cz H 20 0 < 3 := fun hh => hrm ⟨fun _ => hh, fun k => absurd (show (0 : Int) = 1 from k) (by decide), fun k => absurd (show (0 : Int) = 2 from k) (by decide)⟩
    obtain ⟨k1, k2⟩ := h2 this
    exact ⟨k1, by rw [k2]; exact e2⟩
theorem cp_aBond {n a m : Nat} {H : fl_H} (hs : cst H n a) (hz : zr (cz H 20)) {g : Int} (hg0 : 0 ≤ g) (hg : cz H 20 1 = min g 6) : ck (cm_pg X xs) m cm_m83 [.index 58, .index 20] H (fun r H' => ∃ x e, r = some x ∧ stp n (fun b => pb (tk (H 59) n b (letr g (-1))) fun x b => bnd (H 59) n g x b) H H' e ∧ clo e x H H') := by
  have r0 := rnn_0 hs (fun b => pb (tk (H 59) n b (letr g (-1))) fun x b => bnd (H 59) n g x b)
  have hh : H 22 0 = min g 6 := hg
  have hl : ∀ x, letr g x = letr (H 22 0) x := fun x => by funext c; rw [hh]; exact letr_min g x c
  refine ve_Tape_aBond_58_20 (fun m hm => ck_mono (cn_let (X := X) (xs := xs) hs (g := H 22 0) (x := -1) (by omega) (by omega) (by omega) (by omega)) (fun r H1 h => ?_))
  obtain ⟨x3, hr, c1⟩ := h
  refine ⟨x3, hr, fun m hm => ?_⟩
  rw [← hl] at c1
  have b3 : 0 ≤ x3 ∧ x3 ≤ 5 := ⟨c1.1, c1.2.1⟩
  obtain ⟨s1, f1⟩ := stp_cto (o := fun b => tk (H 59) n b (letr g (-1))) hs c1
  have r1 := rnn_stp r0 s1
  unfold bnd at r1
  obtain ⟨q1, hq1, -⟩ := id r1.2.1
  have t1 := cfr_t r1.1
  have h1 : H1 22 0 = H 22 0 := by rw [f1 22 (by decide)]
  rw [h1]
  refine ck_mono (cn_let (X := X) (xs := xs) hq1 (g := H 22 0) (x := x3) (by omega) (by omega) (by omega) (by omega)) (fun r H4 h => ?_)
  obtain ⟨x6, hr, c2⟩ := h
  refine ⟨x6, hr, fun m hm => ?_⟩
  rw [← hl, t1] at c2
  obtain ⟨s2, f2⟩ := stp_cto (o := fun b => tk (H 59) n b (letr g x3)) hq1 c2
  have r2 := rnn_stp r1 s2
  obtain ⟨q2, hq2, -⟩ := id r2.2.1
  have t2 := cfr_t r2.1
  refine ck_mono (cn_of7 (X := X) (xs := xs) hq2) (fun r H7 h => ?_)
  obtain ⟨x9, hr, c3⟩ := h
  refine ⟨x9, hr, ?_⟩
  rw [t2] at c3
  have b9 : 0 ≤ x9 ∧ x9 ≤ 5 := ⟨c3.1, c3.2.1⟩
  obtain ⟨s3, f3⟩ := stp_cto (o := fun b => tk (H 59) n b (one [111, 102, 101, 110, 118, 104])) hq2 c3
  have r3 := rnn_stp r2 s3
  obtain ⟨q3, hq3, -⟩ := id r3.2.1
  have t3 := cfr_t r3.1
  have e3 : cz H7 20 = cz H 20 := by rw [cz_58 f3, cz_58 f2, cz_58 f1]
  -- the end of a bond
  have fin : ∀ (N : Nat) (e : Int) (H9 : fl_H), rnn n (pb (tk (H 59) n a (letr g (-1))) fun x b => bnd (H 59) n g x b) H H9 (fun b => .inr ([2, x9, x3, x6, e], b)) → cz H9 20 = cz H 20 → (fl_w (H9 58 3) = -1 → ∀ m, m < N → ck (cm_pg X xs) m cm_m4 [.index 28, fl_t x9, fl_t x3, fl_t x6, fl_t e] H9 (fun r H12 => ∃ x14, r = some x14 ∧ ∃ x e, some x14 = some x ∧ stp n (fun b => pb (tk (H 59) n b (letr g (-1))) fun x b => bnd (H 59) n g x b) H H12 e ∧ clo e x H H12)) ∧ (¬ fl_w (H9 58 3) = -1 → ∃ x e, some 0 = some x ∧ stp n (fun b => pb (tk (H 59) n b (letr g (-1))) fun x b => bnd (H 59) n g x b) H H9 e ∧ clo e x H H9) := by
    intro N e H9 r9 e9
    obtain ⟨q9, hq9, -⟩ := id r9.2.1
    rw [fl_wi (x := H9 58 3) (by have := hq9.2.2.2.2.2.1; omega) (by have := hq9.2.2.2.2.2.2; omega)]
    refine ⟨fun hf m hm => ?_, fun hf => ⟨0, [2, x9, x3, x6, e], rfl, rnn_end (o := fun b => pb (tk (H 59) n b (letr g (-1))) fun x b => bnd (H 59) n g x b) hs r9, by omega, by omega, fun hh => absurd hh hf⟩⟩
    have z2 : H9 28 0 = cz H 20 2 := by rw [← e9]; rfl
    refine ck_mono (cp_bond (X := X) (xs := xs) (H := H9) (k := x9) (x := x3) (y := x6) (v := e) (by rw [z2]; exact hz.2.2.2.2.1) (by rw [z2]; exact hz.2.2.2.2.2)) (fun r H12 h => ?_)
    obtain ⟨x14, hr9, b1, b2, sp, h1, h2⟩ := h
    rw [e9] at h1 h2
    refine ⟨x14, hr9, x14, [2, x9, x3, x6, e], rfl, rnn_end (o := fun b => pb (tk (H 59) n b (letr g (-1))) fun x b => bnd (H 59) n g x b) hs (rnn_put r9 sp), b1, b2, fun _ => ⟨fun hrm => ?_, fun hrm => ?_⟩⟩
    · obtain ⟨k1, k2⟩ := h1 (hrm.2.2 rfl)
      exact ⟨k1, zeq_of k2⟩
    · have : ¬ cz H 20 2 < 12 := fun hh => hrm ⟨fun k => absurd (show (2 : Int) = 0 from k) (by decide), fun k => absurd (show (2 : Int) = 1 from k) (by decide), fun _ => hh⟩
      obtain ⟨k1, k2⟩ := h2 this
      exact ⟨k1, by rw [k2]; exact e9⟩
  rw [fl_wi (x := x9) (by omega) (by omega)]
  refine ⟨fun h2 => ?_, fun h2 m hm => ?_⟩
  · have r3' : rnn n (pb (tk (H 59) n a (letr g (-1))) fun x b => bnd (H 59) n g x b) H H7 (fun b => .inr ([2, x9, x3, x6, 0], b)) := by
      have := r3
      simp only [if_neg (by omega : ¬ x9 ≤ 2)] at this
      exact this
    exact fin _ 0 H7 r3' e3
  · have r3' : rnn n (pb (tk (H 59) n a (letr g (-1))) fun x b => bnd (H 59) n g x b) H H7 (fun b => pb (tk (H 59) n b (one [43, 45])) fun s b => pb (num (H 59) n b 99) fun v b => .inr ([2, x9, x3, x6, if s = 0 then v else -v], b)) := by
      have := r3
      simp only [if_pos (by omega : x9 ≤ 2)] at this
      exact this
    refine ck_mono (cn_of8 (X := X) (xs := xs) hq3) (fun r H15 h => ?_)
    obtain ⟨x17, hr, c4⟩ := h
    refine ⟨x17, hr, ?_⟩
    rw [t3] at c4
    have b17 : 0 ≤ x17 ∧ x17 ≤ 1 := ⟨c4.1, c4.2.1⟩
    obtain ⟨s4, f4⟩ := stp_cto (o := fun b => tk (H 59) n b (one [43, 45])) hq3 c4
    have r4 := rnn_stp r3' s4
    obtain ⟨q4, hq4, -⟩ := id r4.2.1
    have t4 := cfr_t r4.1
    rw [fl_wi (x := x17) (by omega) (by omega)]
    refine ⟨fun hx m hm => ?_, fun hx m hm => ?_⟩
    · refine ck_mono (cn_num (X := X) (xs := xs) hq4 (most := 99) (by omega) (by omega)) (fun r H19 h => ?_)
      obtain ⟨x21, hr, c5⟩ := h
      refine ⟨x21, hr, ?_⟩
      rw [t4] at c5
      obtain ⟨s5, f5⟩ := stp_cto (o := fun b => num (H 59) n b 99) hq4 c5
      have r5 := rnn_stp r4 s5
      have e5 : cz H19 20 = cz H 20 := by rw [cz_58 f5, cz_58 f4, e3]
      simp only [if_pos hx] at r5
      rw [Int.one_mul]
      exact fin _ x21 H19 r5 e5
    · refine ck_mono (cn_num (X := X) (xs := xs) hq4 (most := 99) (by omega) (by omega)) (fun r H26 h => ?_)
      obtain ⟨x28, hr, c5⟩ := h
      refine ⟨x28, hr, ?_⟩
      rw [t4] at c5
      obtain ⟨s5, f5⟩ := stp_cto (o := fun b => num (H 59) n b 99) hq4 c5
      have r5 := rnn_stp r4 s5
      have e5 : cz H26 20 = cz H 20 := by rw [cz_58 f5, cz_58 f4, e3]
      simp only [if_neg hx] at r5
      have em : (-1 : Int) * x28 = -x28 := by omega
      rw [em]
      exact fin _ (-x28) H26 r5 e5
theorem cp_aGood {n a m : Nat} {H : fl_H} (hs : cst H n a) (hz : zr (cz H 20)) : ck (cm_pg X xs) m cm_m81 [.index 58, .index 20] H (fun r H' => ∃ x e, r = some x ∧ stp n (fun b => pb (tk (H 59) n b (skp 103)) fun _ b => gds (H 59) n b) H H' e ∧ clo e x H H') := by
  have r0 := rnn_0 hs (fun b => pb (tk (H 59) n b (skp 103)) fun _ b => gds (H 59) n b)
  refine ve_Tape_aGood_58_20 (fun m hm => ck_mono (cn_skip (X := X) (xs := xs) hs (c := 103) (by omega) (by omega)) (fun r H1 h => ⟨h.1, fun m hm => ?_⟩))
  obtain ⟨s1, f1⟩ := stp_cto (o := fun b => tk (H 59) n b (skp 103)) hs h.2
  have r1 := rnn_stp r0 s1
  unfold gds at r1
  obtain ⟨q1, hq1, -⟩ := id r1.2.1
  have t1 := cfr_t r1.1
  refine ck_mono (cn_of4 (X := X) (xs := xs) hq1) (fun r H3 h => ?_)
  obtain ⟨x5, hr, c2⟩ := h
  refine ⟨x5, hr, fun m hm => ?_⟩
  rw [t1] at c2
  obtain ⟨s2, f2⟩ := stp_cto (o := fun b => tk (H 59) n b (one [112, 108, 114, 102])) hq1 c2
  have r2 := rnn_stp r1 s2
  obtain ⟨q2, hq2, -⟩ := id r2.2.1
  have t2 := cfr_t r2.1
  refine ck_mono (cn_of5 (X := X) (xs := xs) hq2) (fun r H6 h => ?_)
  obtain ⟨x8, hr, c3⟩ := h
  refine ⟨x8, hr, ?_⟩
  have hfe : fig 0 3 = one [48, 49, 50, 51] := funext (fun c => one_fig0)
  rw [t2, ← hfe] at c3
  obtain ⟨s3, f3⟩ := stp_cto (o := fun b => tk (H 59) n b (fig 0 3)) hq2 c3
  have r3 := rnn_stp r2 s3
  obtain ⟨q3, hq3, -⟩ := id r3.2.1
  have t3 := cfr_t r3.1
  have e3 : cz H6 20 = cz H 20 := by rw [cz_58 f3, cz_58 f2, cz_58 f1]
  have z1 : H6 22 0 = cz H 20 1 := by rw [← e3]; rfl
  -- behind the number: two sizes
  have fin : ∀ (N : Nat) (x : Int) (H10 : fl_H), (x = -3 ∨ (0 ≤ x ∧ x < 6)) → rnn n (pb (tk (H 59) n a (skp 103)) fun _ b => gds (H 59) n b) H H10 (fun b => pb (siz (H 59) n b) fun p b => pb (tk (H 59) n b (skp 44)) fun _ b => pb (siz (H 59) n b) fun q b => .inr ([1, x5, x8, p.1, p.2.1, p.2.2, q.1, q.2.1, q.2.2], b)) → ∀ m, m < N → ck (cm_pg X xs) m cm_m82 [.index 58, .index 20, fl_t x, fl_t 0] H10 (fun r H13 => r = none ∧ ∀ m, m < N → ck (cm_pg X xs) m cm_m88 [.index 58, fl_t 44] H13 (fun r H15 => r = none ∧ ∀ m, m < N → ck (cm_pg X xs) m cm_m82 [.index 58, .index 20, fl_t x, fl_t 1] H15 (fun r H17 => r = none ∧ ∃ p q : Int × Int × Int, stp n (fun b => pb (tk (H 59) n b (skp 103)) fun _ b => gds (H 59) n b) H H17 [1, x5, x8, p.1, p.2.1, p.2.2, q.1, q.2.1, q.2.2] ∧ (H17 58 3 = -1 → H10 58 3 = -1 ∧ (0 ≤ x → cz H17 20 = upz (upz (upz (upz (upz (upz (cz H10 20) (16 + 8 * x.toNat + 3 * 0) p.1) (17 + 8 * x.toNat + 3 * 0) p.2.1) (18 + 8 * x.toNat + 3 * 0) p.2.2) (16 + 8 * x.toNat + 3 * 1) q.1) (17 + 8 * x.toNat + 3 * 1) q.2.1) (18 + 8 * x.toNat + 3 * 1) q.2.2) ∧ (x < 0 → cz H17 20 = cz H10 20))))) := by
    intro N x H10 hx r10 m hm
    obtain ⟨q10, hq10, -⟩ := id r10.2.1
    have t10 := cfr_t r10.1
    refine ck_mono (cp_size (X := X) (xs := xs) (s := 0) hq10 hx (by decide)) (fun r H13 h => ⟨h.1, fun m hm => ?_⟩)
    obtain ⟨-, p, s4, z4, z4'⟩ := h
    rw [t10] at s4
    have r13 := rnn_stp r10 s4
    obtain ⟨q13, hq13, -⟩ := id r13.2.1
    have t13 := cfr_t r13.1
    refine ck_mono (cn_skip (X := X) (xs := xs) hq13 (c := 44) (by omega) (by omega)) (fun r H15 h => ⟨h.1, fun m hm => ?_⟩)
    have c5 := h.2
    rw [t13] at c5
    obtain ⟨s5, f5⟩ := stp_cto (o := fun b => tk (H 59) n b (skp 44)) hq13 c5
    have r15 := rnn_stp r13 s5
    obtain ⟨q15, hq15, -⟩ := id r15.2.1
    have t15 := cfr_t r15.1
    refine ck_mono (cp_size (X := X) (xs := xs) (s := 1) hq15 hx (by decide)) (fun r H17 h => ⟨h.1, ?_⟩)
    obtain ⟨-, q, s6, z6, z6'⟩ := h
    rw [t15] at s6
    have r17 := rnn_stp r15 s6
    refine ⟨p, q, rnn_end (o := fun b => pb (tk (H 59) n b (skp 103)) fun _ b => gds (H 59) n b) hs r17, fun h17 => ?_⟩
    have h15 : H15 58 3 = -1 := Classical.byContradiction (fun hh => by rw [s6.2.2.1 hh] at h17; exact hh h17)
    have h13 : H13 58 3 = -1 := Classical.byContradiction (fun hh => by rw [s5.2.2.1 hh] at h15; exact hh h15)
    have h10 : H10 58 3 = -1 := Classical.byContradiction (fun hh => by rw [s4.2.2.1 hh] at h13; exact hh h13)
    have e15 : cz H15 20 = cz H13 20 := cz_58 f5
    refine ⟨h10, fun hpos => ?_, fun hneg => ?_⟩
    · rw [z6 h17 hpos, e15, z4 h13 hpos]
    · rw [z6' hneg, e15, z4' hneg]
  rw [fl_wi (x := H6 58 3) (by have := hq3.2.2.2.2.2.1; omega) (by have := hq3.2.2.2.2.2.2; omega)]
  refine ⟨fun hf m hm => ?_, fun hf m hm => ?_⟩
  · refine ck_mono (cp_good (X := X) (xs := xs) (H := H6) (k := x5) (f := x8) (by rw [z1]; exact hz.2.2.1) (by rw [z1]; exact hz.2.2.2.1)) (fun r H10 h => ?_)
    obtain ⟨x12, hr, sp, g1, g2⟩ := h
    rw [e3, z1] at g1
    rw [e3] at g2
    have hz1 := hz.2.2.1
    have hx : x12 = -3 ∨ (0 ≤ x12 ∧ x12 < 6) := by
      by_cases hc : cz H 20 1 < 6
      · obtain ⟨k, -⟩ := g1 hc
        omega
      · exact Or.inl (g2 hc).1
    refine ⟨x12, hr, fun m hm => ?_⟩
    refine ck_mono (fin _ x12 H10 hx (rnn_put r3 sp) m hm) (fun r H13 h => ⟨h.1, fun m hm => ck_mono (h.2 m hm) (fun r H15 h => ⟨h.1, fun m hm => ck_mono (h.2 m hm) (fun r H17 h => ⟨h.1, ?_⟩)⟩)⟩)
    obtain ⟨-, p, q, st, he⟩ := h
    refine ⟨x12, _, rfl, st, by omega, by omega, fun h17 => ?_⟩
    obtain ⟨h10, k1, k2⟩ := he h17
    refine ⟨fun hrm => ?_, fun hrm => ?_⟩
    · have hc := hrm.2.1 rfl
      obtain ⟨d1, d2⟩ := g1 hc
      refine ⟨by omega, ?_⟩
      obtain ⟨g, hg⟩ : ∃ g : Nat, cz H 20 1 = (g : Int) := ⟨(cz H 20 1).toNat, by omega⟩
      rw [k1 (by omega), d2, d1, hg, Int.toNat_natCast]
      exact gd_fin hg (by omega)
    · have hc : ¬ cz H 20 1 < 6 := fun hh => hrm ⟨fun k => absurd k (by show ¬ (1 : Int) = 0; decide), fun _ => hh, fun k => absurd k (by show ¬ (1 : Int) = 2; decide)⟩
      obtain ⟨d1, d2⟩ := g2 hc
      refine ⟨d1, ?_⟩
      rw [k2 (by omega), d2]
      exact e3
  · refine ck_mono (fin _ 0 H6 (Or.inr ⟨by omega, by omega⟩) r3 m hm) (fun r H13 h => ⟨h.1, fun m hm => ck_mono (h.2 m hm) (fun r H15 h => ⟨h.1, fun m hm => ck_mono (h.2 m hm) (fun r H17 h => ⟨h.1, ?_⟩)⟩)⟩)
    obtain ⟨-, p, q, st, he⟩ := h
    exact ⟨0, _, rfl, st, by omega, by omega, fun h17 => absurd (he h17).1 hf⟩
theorem skp_go {β : Type} {t : Nat → Int} {n a : Nat} {c : Int} {f : Int → Nat → PR β} (h : bc t n a = c) : pb (tk t n a (skp c)) f = f 0 (nb t n a + 1) := by
  unfold tk skp
  rw [if_pos h]
  rfl
theorem cp_clause {n a m : Nat} {H : fl_H} (hs : cst H n a) (hz : zr (cz H 20)) {g : Int} (hg0 : 0 ≤ g) (hg : cz H 20 1 = min g 6) : ck (cm_pg X xs) m cm_m79 [.index 58, .index 20] H (fun r H' => ∃ x e, r = some x ∧ stp n (fun b => cla (H 59) n g b) H H' e ∧ clo e x H H') := by
  have hb := bc_rg hs.2.2.2.2.1 a
  have hle := nb_le (t := H 59) hs.2.2.1
  refine ve_Tape_clause_58_20 (fun m hm => ck_mono (cn_look (X := X) (xs := xs) hs) (fun r H1 h => ⟨_, h.1, ?_⟩))
  have e1 := h.2
  clear h
  have t1 : H1 59 = H 59 := by rw [e1, fl_up_cell _ _ _ _ (by decide)]
  have hs1 : cst H1 n (nb (H 59) n a) := by rw [e1]; exact cst_at hs hle
  have z1 : cz H1 20 = cz H 20 := by rw [e1]; exact cz_out (fun c i h1 h2 => fl_up_c _ _ _ _ (by omega))
  have c1 : cfr H H1 := by rw [e1]; exact cfr_58 _ _ _ (Or.inl rfl)
  have f1 : H1 58 3 = H 58 3 := by rw [e1, fl_up_i _ _ _ _ (by decide)]
  -- a piece read from behind the blanks is read from here
  have back : ∀ (o : Nat → PR (List Int)) (H' : fl_H) (x : Int) (e : List Int), o (nb (H 59) n a) = cla (H 59) n g a → stp n o H1 H' e → clo e x H1 H' → stp n (fun b => cla (H 59) n g b) H H' e ∧ clo e x H H' := fun o H' x e ho hst hcl => by
    refine ⟨⟨cfr_trans c1 hst.1, hst.2.1, fun hh => by rw [hst.2.2.1 (by rw [f1]; exact hh), f1], fun q hq hh => ?_⟩, ?_⟩
    · have := cst_q hs hq
      subst this
      have := hst.2.2.2 (nb (H 59) n a) hs1 (by rw [f1]; exact hh)
      rw [ho] at this
      exact this
    · unfold clo at hcl ⊢
      rw [z1] at hcl
      exact hcl
  rw [fl_wi (x := bc (H 59) n a) (by omega) (by omega)]
  refine ⟨fun hp m hm => ck_mono (cp_aPage (X := X) (xs := xs) hs1 (by rw [z1]; exact hz)) (fun r H5 h => ?_), fun hp => ⟨fun hq m hm => ck_mono (cp_aGood (X := X) (xs := xs) hs1 (by rw [z1]; exact hz)) (fun r H9 h => ?_), fun hq m hm => ck_mono (cp_aBond (X := X) (xs := xs) hs1 (by rw [z1]; exact hz) hg0 (by rw [z1]; exact hg)) (fun r H12 h => ?_)⟩⟩
  · obtain ⟨x, e, hr, st, cl⟩ := h
    rw [t1] at st
    refine ⟨x, hr, x, e, rfl, back _ H5 x e ?_ st cl⟩
    rw [skp_go (by rw [bc_nb]; exact hp), nb_nb]
    unfold cla
    rw [if_pos hp]
  · obtain ⟨x, e, hr, st, cl⟩ := h
    rw [t1] at st
    refine ⟨x, hr, x, e, rfl, back _ H9 x e ?_ st cl⟩
    rw [skp_go (by rw [bc_nb]; exact hq), nb_nb]
    unfold cla
    rw [if_neg hp, if_pos hq]
  · obtain ⟨x, e, hr, st, cl⟩ := h
    rw [t1] at st
    refine ⟨x, hr, x, e, rfl, back _ H12 x e ?_ st cl⟩
    rw [tk_nb]
    unfold cla
    rw [if_neg hp, if_neg hq]
end
end
