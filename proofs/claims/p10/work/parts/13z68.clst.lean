noncomputable section
/-! L3: the class reads tokens. -/
section
variable {X : Term} {xs : List Int32}
def cst (H : fl_H) (n a : Nat) : Prop := H 58 1 = (n : Int) ∧ H 58 2 = (a : Int) ∧ a ≤ n ∧ n ≤ 120 ∧ (∀ i, i < n → 0 ≤ H 59 i ∧ H 59 i ≤ 255) ∧ -1 ≤ H 58 3 ∧ H 58 3 ≤ 120
theorem cst_up {H : fl_H} {n a : Nat} (h : cst H n a) {b : Nat} (hb : b ≤ n) {f : Int} (f0 : -1 ≤ f) (f1 : f ≤ 120) : cst (fl_up (fl_up H 58 2 (b : Int)) 58 3 f) n b :=
  ⟨by rw [fl_up_i _ _ _ _ (by decide), fl_up_i _ _ _ _ (by decide)]; exact h.1, by rw [fl_up_i _ _ _ _ (by decide), fl_up_at], hb, h.2.2.2.1, fun i hi => by rw [fl_up_c _ _ _ _ (by decide), fl_up_c _ _ _ _ (by decide)]; exact h.2.2.2.2.1 i hi, by rw [fl_up_at]; exact f0, by rw [fl_up_at]; exact f1⟩
theorem cst_at {H : fl_H} {n a : Nat} (h : cst H n a) {b : Nat} (hb : b ≤ n) : cst (fl_up H 58 2 (b : Int)) n b :=
  ⟨by rw [fl_up_i _ _ _ _ (by decide)]; exact h.1, fl_up_at _ _ _ _, hb, h.2.2.2.1, fun i hi => by rw [fl_up_c _ _ _ _ (by decide)]; exact h.2.2.2.2.1 i hi, by rw [fl_up_i _ _ _ _ (by decide)]; exact h.2.2.2.2.2.1, by rw [fl_up_i _ _ _ _ (by decide)]; exact h.2.2.2.2.2.2⟩
/-- what a token comes to: behind a fault it stays; else the value, or the fault's place -/
def cto (n : Nat) (lo hi : Int) (o : PR Int) (H : fl_H) (x : Int) (H' : fl_H) : Prop := lo ≤ x ∧ x ≤ hi ∧ ∃ (q : Nat) (f : Int), q ≤ n ∧ H' = fl_up (fl_up H 58 2 (q : Int)) 58 3 f ∧ (H 58 3 ≠ -1 → f = H 58 3) ∧ (H 58 3 = -1 → match o with
    | .inr (v, a) => x = v ∧ q = a ∧ f = -1
    | .inl p => f = (p : Int) ∧ p ≤ n)
theorem cn_head (n : Nat) : ∀ (N : Nat) (H : fl_H) (a : Nat), cst H n a → hd_Tape_look_58_0 (cm_pg X xs) N H (fun r H' => r = some (bc (H 59) n a) ∧ H' = fl_up H 58 2 (nb (H 59) n a : Nat)) := by
  intro N
  induction N using Nat.strongRecOn with
  | ind N ih =>
    intro H a hs
    obtain ⟨h1, h2, h3, h4, h5, -, -⟩ := id hs
    have w1 := fl_wn h1 (by omega)
    have w2 := fl_wn h2 (by omega)
    refine vh_Tape_look_58_0 ?_
    rw [w1, w2, Int.toNat_natCast]
    by_cases ha : a < n
    · have hb := h5 a ha
      have w3 : fl_w (H 59 a) = H 59 a := fl_wi (by omega) (by omega)
      rw [w3]
      by_cases hc : H 59 a = 32
      · refine ⟨fun h => by omega, fun _ _ => ⟨fun _ H6 e m hm => ?_, fun h => absurd hc h⟩⟩
        subst e
        have e1 : H 58 2 + 1 = ((a + 1 : Nat) : Int) := by omega
        rw [e1]
        have := ih m hm _ (a + 1) (cst_at hs (b := a + 1) (by omega))
        rw [fl_up_cell _ _ _ _ (by decide), fl_up_up] at this
        have e2 : bc (H 59) n a = bc (H 59) n (a + 1) := by unfold bc; rw [nb_go ⟨ha, hc⟩]
        rw [e2, nb_go ⟨ha, hc⟩]
        exact this
      · refine ⟨fun h => by omega, fun _ _ => ⟨fun h => absurd h hc, fun _ => ⟨fun h => by omega, fun _ _ => ⟨?_, ?_⟩⟩⟩⟩
        · unfold bc
          rw [nb_stop (fun h => hc h.2), if_pos ha]
        · rw [nb_stop (fun h => hc h.2), fl_up_same _ _ _ h2]
    · refine ⟨fun _ => ⟨fun _ => ⟨?_, ?_⟩, fun h => by omega⟩, fun h => by omega⟩
      · unfold bc
        rw [nb_stop (fun h => ha h.1), if_neg ha]
      · rw [nb_stop (fun h => ha h.1), fl_up_same _ _ _ h2]
theorem cn_look {n a m : Nat} {H : fl_H} (hs : cst H n a) : ck (cm_pg X xs) m cm_m85 [.index 58] H (fun r H' => r = some (bc (H 59) n a) ∧ H' = fl_up H 58 2 (nb (H 59) n a : Nat)) :=
  ve_Tape_look_58 (cn_head n m H a hs)
theorem cn_failAt {m : Nat} {H : fl_H} (h0 : -1 ≤ H 58 3) (h1 : H 58 3 ≤ 120) {p : Int} : ck (cm_pg X xs) m cm_m87 [.index 58, fl_t p] H (fun r H' => r = none ∧ H' = fl_up H 58 3 (if H 58 3 = -1 then p else H 58 3)) := by
  refine ve_Tape_failAt_58 ?_
  rw [fl_wi (by omega) (by omega)]
  refine ⟨fun h H2 e => ⟨rfl, by rw [e, if_pos h]⟩, fun h => ⟨rfl, by rw [if_neg h, fl_up_same _ _ _ rfl]⟩⟩
theorem cn_fail {n a m : Nat} {H : fl_H} (hs : cst H n a) : ck (cm_pg X xs) m cm_m86 [.index 58] H (fun r H' => r = none ∧ H' = fl_up (fl_up H 58 2 (nb (H 59) n a : Nat)) 58 3 (if H 58 3 = -1 then ((nb (H 59) n a : Nat) : Int) else H 58 3)) := by
  refine ve_Tape_fail_58 (fun m hm => ck_mono (cn_look hs) (fun r H1 h => ⟨_, h.1, fun m hm => ?_⟩))
  have h2 := h.2
  have e3 : H1 58 3 = H 58 3 := by rw [h2, fl_up_i _ _ _ _ (by decide)]
  have e2 : H1 58 2 = (nb (H 59) n a : Nat) := by rw [h2, fl_up_at]
  refine ck_mono (cn_failAt (X := X) (xs := xs) (H := H1) (by rw [e3]; exact hs.2.2.2.2.2.1) (by rw [e3]; exact hs.2.2.2.2.2.2)) (fun r H4 g => ⟨g.1, rfl, ?_⟩)
  rw [g.2, e3, e2, h2]
/-- a fault at p: what it comes to -/
theorem cto_fail {n p : Nat} {lo hi x : Int} {o : PR Int} {H H' : fl_H} (hp : p ≤ n) (h1 : lo ≤ x) (h2 : x ≤ hi) (ho : o = .inl p) (e : H' = fl_up (fl_up H 58 2 (p : Int)) 58 3 (if H 58 3 = -1 then (p : Int) else H 58 3)) : cto n lo hi o H x H' := by
  refine ⟨h1, h2, p, _, hp, e, fun h => if_neg h, fun h => ?_⟩
  subst ho
  exact ⟨if_pos h, hp⟩
theorem cto_ok {n q : Nat} {lo hi x : Int} {o : PR Int} {H H' : fl_H} (hq : q ≤ n) (h1 : lo ≤ x) (h2 : x ≤ hi) (ho : o = .inr (x, q)) (e : H' = fl_up H 58 2 (q : Int)) : cto n lo hi o H x H' := by
  refine ⟨h1, h2, q, H 58 3, hq, ?_, fun h => rfl, fun h => ?_⟩
  · rw [e, fl_up_same _ _ _ (fl_up_i _ _ _ _ (by decide))]
  · subst ho
    exact ⟨rfl, rfl, h⟩
theorem bc_lt {t : Nat → Int} {n a : Nat} {c : Int} (h : bc t n a = c) (h0 : 0 ≤ c) : nb t n a < n := by
  by_cases hq : nb t n a < n
  · exact hq
  · have e : bc t n a = -1 := if_neg hq
    omega
theorem cn_skip {n a m : Nat} {H : fl_H} (hs : cst H n a) {c : Int} (h1 : 0 ≤ c) (h2 : c ≤ 255) : ck (cm_pg X xs) m cm_m88 [.index 58, fl_t c] H (fun r H' => r = none ∧ cto n 0 0 (tk (H 59) n a (skp c)) H 0 H') := by
  have hb := bc_rg hs.2.2.2.2.1 a
  have hle := nb_le (t := H 59) hs.2.2.1
  refine ve_Tape_skip_58 (fun m hm => ck_mono (cn_look hs) (fun r H1 h => ⟨_, h.1, ?_⟩))
  have e1 := h.2
  have t1 : H1 59 = H 59 := by rw [e1, fl_up_cell _ _ _ _ (by decide)]
  rw [fl_wi (by omega) (by omega), fl_wi (by omega) (by omega)]
  refine ⟨fun hc H5 e5 => ⟨rfl, ?_⟩, fun hc m hm => ?_⟩
  · have hlt := bc_lt hc h1
    refine cto_ok (q := nb (H 59) n a + 1) (by omega) (Int.le_refl 0) (Int.le_refl 0) ?_ ?_
    · unfold tk skp
      rw [if_pos hc]
    · rw [e5, e1, fl_up_at, fl_up_up, nb_cast]
  · have hs1 : cst H1 n (nb (H 59) n a) := by rw [e1]; exact cst_at hs hle
    refine ck_mono (cn_fail (X := X) (xs := xs) hs1) (fun r H7 g => ⟨g.1, rfl, ?_⟩)
    refine cto_fail (p := nb (H 59) n a) hle (Int.le_refl 0) (Int.le_refl 0) ?_ ?_
    · unfold tk skp
      rw [if_neg hc]
    · rw [g.2, t1, nb_nb, e1, fl_up_up, fl_up_i _ _ _ _ (by decide)]
theorem cn_of4L {n a : Nat} {H0 : fl_H} (hs : cst H0 n a) : ∀ (f i : Nat), i + f = 4 → ∀ N : Nat, (ixf (([112, 108, 114, 102] : List Int).drop i) (bc (H0 59) n a) (i : Int) = one [112, 108, 114, 102] (bc (H0 59) n a)) → hd_Tape_oneOf_58_s4_7 (cm_pg X xs) N (fl_up H0 58 2 (nb (H0 59) n a : Nat)) (bc (H0 59) n a) (i : Int) (fun r H' => ∃ x, r = some x ∧ cto n 0 3 (tk (H0 59) n a (one [112, 108, 114, 102])) H0 x H')
  | 0, i, hi, N, hx => by
    have hb := bc_rg hs.2.2.2.2.1 a
    have hle := nb_le (t := H0 59) hs.2.2.1
    have hi : i = 4 := by omega
    subst hi
    refine vh_Tape_oneOf_58_s4_7 ⟨fun _ m hm => ?_, fun h => absurd (show (4 : Int) ≤ fl_w ((4 : Nat) : Int) by decide) h⟩
    have hs1 : cst (fl_up H0 58 2 (nb (H0 59) n a : Nat)) n (nb (H0 59) n a) := cst_at hs hle
    have t1 : (fl_up H0 58 2 ((nb (H0 59) n a : Nat) : Int)) 59 = H0 59 := fl_up_cell _ _ _ _ (by decide)
    refine ck_mono (cn_fail (X := X) (xs := xs) hs1) (fun r H7 g => ⟨g.1, 0, rfl, ?_⟩)
    refine cto_fail (p := nb (H0 59) n a) hle (Int.le_refl 0) (by omega) ?_ ?_
    · unfold tk
      rw [← hx]
      rfl
    · rw [g.2, t1, nb_nb, fl_up_up, fl_up_i _ _ _ _ (by decide)]
  | f + 1, i, hi, N, hx => by
    have hb := bc_rg hs.2.2.2.2.1 a
    have hle := nb_le (t := H0 59) hs.2.2.1
    have wi : fl_w (i : Int) = (i : Int) := fl_wi (by omega) (by omega)
    have hL : ∀ j : Nat, j < 4 → 0 ≤ ([112, 108, 114, 102] : List Int).getD j 0 ∧ ([112, 108, 114, 102] : List Int).getD j 0 ≤ 255 := by decide
    have hLi := hL i (by omega)
    have hdr : ∀ j : Nat, j < 4 → ([112, 108, 114, 102] : List Int).drop j = ([112, 108, 114, 102] : List Int).getD j 0 :: ([112, 108, 114, 102] : List Int).drop (j + 1) := by decide
    rw [hdr i (by omega)] at hx
    unfold ixf at hx
    refine vh_Tape_oneOf_58_s4_7 ?_
    rw [wi, Int.toNat_natCast, fl_wi (x := ([112, 108, 114, 102] : List Int).getD i 0) (by omega) (by omega), fl_wi (x := bc (H0 59) n a) (by omega) (by omega)]
    refine ⟨fun h => by omega, fun _ => ⟨fun hc H5 e5 => ⟨_, rfl, ?_⟩, fun hc m hm => ?_⟩⟩
    · have hlt := bc_lt hc.symm hLi.1
      rw [if_pos hc] at hx
      refine cto_ok (q := nb (H0 59) n a + 1) (by omega) (by omega) (by omega) ?_ ?_
      · unfold tk
        rw [← hx]
      · rw [e5, fl_up_at, fl_up_up, nb_cast]
    · rw [if_neg hc] at hx
      have e1 : (i : Int) + 1 = ((i + 1 : Nat) : Int) := by omega
      rw [e1] at hx ⊢
      exact cn_of4L hs f (i + 1) (by omega) m hx
theorem cn_of4 {n a m : Nat} {H : fl_H} (hs : cst H n a) : ck (cm_pg X xs) m cm_m89 [.index 58, .string "" 4] H (fun r H' => ∃ x, r = some x ∧ cto n 0 3 (tk (H 59) n a (one [112, 108, 114, 102])) H x H') := by
  refine ve_Tape_oneOf_58_s4 (fun m hm => ck_mono (cn_look hs) (fun r H1 h => ⟨_, h.1, ?_⟩))
  rw [h.2]
  exact cn_of4L (X := X) (xs := xs) hs 4 0 rfl _ rfl
theorem cn_of5L {n a : Nat} {H0 : fl_H} (hs : cst H0 n a) : ∀ (f i : Nat), i + f = 4 → ∀ N : Nat, (ixf (([48, 49, 50, 51] : List Int).drop i) (bc (H0 59) n a) (i : Int) = one [48, 49, 50, 51] (bc (H0 59) n a)) → hd_Tape_oneOf_58_s5_7 (cm_pg X xs) N (fl_up H0 58 2 (nb (H0 59) n a : Nat)) (bc (H0 59) n a) (i : Int) (fun r H' => ∃ x, r = some x ∧ cto n 0 3 (tk (H0 59) n a (one [48, 49, 50, 51])) H0 x H')
  | 0, i, hi, N, hx => by
    have hb := bc_rg hs.2.2.2.2.1 a
    have hle := nb_le (t := H0 59) hs.2.2.1
    have hi : i = 4 := by omega
    subst hi
    refine vh_Tape_oneOf_58_s5_7 ⟨fun _ m hm => ?_, fun h => absurd (show (4 : Int) ≤ fl_w ((4 : Nat) : Int) by decide) h⟩
    have hs1 : cst (fl_up H0 58 2 (nb (H0 59) n a : Nat)) n (nb (H0 59) n a) := cst_at hs hle
    have t1 : (fl_up H0 58 2 ((nb (H0 59) n a : Nat) : Int)) 59 = H0 59 := fl_up_cell _ _ _ _ (by decide)
    refine ck_mono (cn_fail (X := X) (xs := xs) hs1) (fun r H7 g => ⟨g.1, 0, rfl, ?_⟩)
    refine cto_fail (p := nb (H0 59) n a) hle (Int.le_refl 0) (by omega) ?_ ?_
    · unfold tk
      rw [← hx]
      rfl
    · rw [g.2, t1, nb_nb, fl_up_up, fl_up_i _ _ _ _ (by decide)]
  | f + 1, i, hi, N, hx => by
    have hb := bc_rg hs.2.2.2.2.1 a
    have hle := nb_le (t := H0 59) hs.2.2.1
    have wi : fl_w (i : Int) = (i : Int) := fl_wi (by omega) (by omega)
    have hL : ∀ j : Nat, j < 4 → 0 ≤ ([48, 49, 50, 51] : List Int).getD j 0 ∧ ([48, 49, 50, 51] : List Int).getD j 0 ≤ 255 := by decide
    have hLi := hL i (by omega)
    have hdr : ∀ j : Nat, j < 4 → ([48, 49, 50, 51] : List Int).drop j = ([48, 49, 50, 51] : List Int).getD j 0 :: ([48, 49, 50, 51] : List Int).drop (j + 1) := by decide
    rw [hdr i (by omega)] at hx
    unfold ixf at hx
    refine vh_Tape_oneOf_58_s5_7 ?_
    rw [wi, Int.toNat_natCast, fl_wi (x := ([48, 49, 50, 51] : List Int).getD i 0) (by omega) (by omega), fl_wi (x := bc (H0 59) n a) (by omega) (by omega)]
    refine ⟨fun h => by omega, fun _ => ⟨fun hc H5 e5 => ⟨_, rfl, ?_⟩, fun hc m hm => ?_⟩⟩
    · have hlt := bc_lt hc.symm hLi.1
      rw [if_pos hc] at hx
      refine cto_ok (q := nb (H0 59) n a + 1) (by omega) (by omega) (by omega) ?_ ?_
      · unfold tk
        rw [← hx]
      · rw [e5, fl_up_at, fl_up_up, nb_cast]
    · rw [if_neg hc] at hx
      have e1 : (i : Int) + 1 = ((i + 1 : Nat) : Int) := by omega
      rw [e1] at hx ⊢
      exact cn_of5L hs f (i + 1) (by omega) m hx
theorem cn_of5 {n a m : Nat} {H : fl_H} (hs : cst H n a) : ck (cm_pg X xs) m cm_m89 [.index 58, .string "" 5] H (fun r H' => ∃ x, r = some x ∧ cto n 0 3 (tk (H 59) n a (one [48, 49, 50, 51])) H x H') := by
  refine ve_Tape_oneOf_58_s5 (fun m hm => ck_mono (cn_look hs) (fun r H1 h => ⟨_, h.1, ?_⟩))
  rw [h.2]
  exact cn_of5L (X := X) (xs := xs) hs 4 0 rfl _ rfl
theorem cn_of6L {n a : Nat} {H0 : fl_H} (hs : cst H0 n a) : ∀ (f i : Nat), i + f = 4 → ∀ N : Nat, (ixf (([49, 50, 51, 52] : List Int).drop i) (bc (H0 59) n a) (i : Int) = one [49, 50, 51, 52] (bc (H0 59) n a)) → hd_Tape_oneOf_58_s6_7 (cm_pg X xs) N (fl_up H0 58 2 (nb (H0 59) n a : Nat)) (bc (H0 59) n a) (i : Int) (fun r H' => ∃ x, r = some x ∧ cto n 0 3 (tk (H0 59) n a (one [49, 50, 51, 52])) H0 x H')
  | 0, i, hi, N, hx => by
    have hb := bc_rg hs.2.2.2.2.1 a
    have hle := nb_le (t := H0 59) hs.2.2.1
    have hi : i = 4 := by omega
    subst hi
    refine vh_Tape_oneOf_58_s6_7 ⟨fun _ m hm => ?_, fun h => absurd (show (4 : Int) ≤ fl_w ((4 : Nat) : Int) by decide) h⟩
    have hs1 : cst (fl_up H0 58 2 (nb (H0 59) n a : Nat)) n (nb (H0 59) n a) := cst_at hs hle
    have t1 : (fl_up H0 58 2 ((nb (H0 59) n a : Nat) : Int)) 59 = H0 59 := fl_up_cell _ _ _ _ (by decide)
    refine ck_mono (cn_fail (X := X) (xs := xs) hs1) (fun r H7 g => ⟨g.1, 0, rfl, ?_⟩)
    refine cto_fail (p := nb (H0 59) n a) hle (Int.le_refl 0) (by omega) ?_ ?_
    · unfold tk
      rw [← hx]
      rfl
    · rw [g.2, t1, nb_nb, fl_up_up, fl_up_i _ _ _ _ (by decide)]
  | f + 1, i, hi, N, hx => by
    have hb := bc_rg hs.2.2.2.2.1 a
    have hle := nb_le (t := H0 59) hs.2.2.1
    have wi : fl_w (i : Int) = (i : Int) := fl_wi (by omega) (by omega)
    have hL : ∀ j : Nat, j < 4 → 0 ≤ ([49, 50, 51, 52] : List Int).getD j 0 ∧ ([49, 50, 51, 52] : List Int).getD j 0 ≤ 255 := by decide
    have hLi := hL i (by omega)
    have hdr : ∀ j : Nat, j < 4 → ([49, 50, 51, 52] : List Int).drop j = ([49, 50, 51, 52] : List Int).getD j 0 :: ([49, 50, 51, 52] : List Int).drop (j + 1) := by decide
    rw [hdr i (by omega)] at hx
    unfold ixf at hx
    refine vh_Tape_oneOf_58_s6_7 ?_
    rw [wi, Int.toNat_natCast, fl_wi (x := ([49, 50, 51, 52] : List Int).getD i 0) (by omega) (by omega), fl_wi (x := bc (H0 59) n a) (by omega) (by omega)]
    refine ⟨fun h => by omega, fun _ => ⟨fun hc H5 e5 => ⟨_, rfl, ?_⟩, fun hc m hm => ?_⟩⟩
    · have hlt := bc_lt hc.symm hLi.1
      rw [if_pos hc] at hx
      refine cto_ok (q := nb (H0 59) n a + 1) (by omega) (by omega) (by omega) ?_ ?_
      · unfold tk
        rw [← hx]
      · rw [e5, fl_up_at, fl_up_up, nb_cast]
    · rw [if_neg hc] at hx
      have e1 : (i : Int) + 1 = ((i + 1 : Nat) : Int) := by omega
      rw [e1] at hx ⊢
      exact cn_of6L hs f (i + 1) (by omega) m hx
theorem cn_of6 {n a m : Nat} {H : fl_H} (hs : cst H n a) : ck (cm_pg X xs) m cm_m89 [.index 58, .string "" 6] H (fun r H' => ∃ x, r = some x ∧ cto n 0 3 (tk (H 59) n a (one [49, 50, 51, 52])) H x H') := by
  refine ve_Tape_oneOf_58_s6 (fun m hm => ck_mono (cn_look hs) (fun r H1 h => ⟨_, h.1, ?_⟩))
  rw [h.2]
  exact cn_of6L (X := X) (xs := xs) hs 4 0 rfl _ rfl
theorem cn_of7L {n a : Nat} {H0 : fl_H} (hs : cst H0 n a) : ∀ (f i : Nat), i + f = 6 → ∀ N : Nat, (ixf (([111, 102, 101, 110, 118, 104] : List Int).drop i) (bc (H0 59) n a) (i : Int) = one [111, 102, 101, 110, 118, 104] (bc (H0 59) n a)) → hd_Tape_oneOf_58_s7_7 (cm_pg X xs) N (fl_up H0 58 2 (nb (H0 59) n a : Nat)) (bc (H0 59) n a) (i : Int) (fun r H' => ∃ x, r = some x ∧ cto n 0 5 (tk (H0 59) n a (one [111, 102, 101, 110, 118, 104])) H0 x H')
  | 0, i, hi, N, hx => by
    have hb := bc_rg hs.2.2.2.2.1 a
    have hle := nb_le (t := H0 59) hs.2.2.1
    have hi : i = 6 := by omega
    subst hi
    refine vh_Tape_oneOf_58_s7_7 ⟨fun _ m hm => ?_, fun h => absurd (show (6 : Int) ≤ fl_w ((6 : Nat) : Int) by decide) h⟩
    have hs1 : cst (fl_up H0 58 2 (nb (H0 59) n a : Nat)) n (nb (H0 59) n a) := cst_at hs hle
    have t1 : (fl_up H0 58 2 ((nb (H0 59) n a : Nat) : Int)) 59 = H0 59 := fl_up_cell _ _ _ _ (by decide)
    refine ck_mono (cn_fail (X := X) (xs := xs) hs1) (fun r H7 g => ⟨g.1, 0, rfl, ?_⟩)
    refine cto_fail (p := nb (H0 59) n a) hle (Int.le_refl 0) (by omega) ?_ ?_
    · unfold tk
      rw [← hx]
      rfl
    · rw [g.2, t1, nb_nb, fl_up_up, fl_up_i _ _ _ _ (by decide)]
  | f + 1, i, hi, N, hx => by
    have hb := bc_rg hs.2.2.2.2.1 a
    have hle := nb_le (t := H0 59) hs.2.2.1
    have wi : fl_w (i : Int) = (i : Int) := fl_wi (by omega) (by omega)
    have hL : ∀ j : Nat, j < 6 → 0 ≤ ([111, 102, 101, 110, 118, 104] : List Int).getD j 0 ∧ ([111, 102, 101, 110, 118, 104] : List Int).getD j 0 ≤ 255 := by decide
    have hLi := hL i (by omega)
    have hdr : ∀ j : Nat, j < 6 → ([111, 102, 101, 110, 118, 104] : List Int).drop j = ([111, 102, 101, 110, 118, 104] : List Int).getD j 0 :: ([111, 102, 101, 110, 118, 104] : List Int).drop (j + 1) := by decide
    rw [hdr i (by omega)] at hx
    unfold ixf at hx
    refine vh_Tape_oneOf_58_s7_7 ?_
    rw [wi, Int.toNat_natCast, fl_wi (x := ([111, 102, 101, 110, 118, 104] : List Int).getD i 0) (by omega) (by omega), fl_wi (x := bc (H0 59) n a) (by omega) (by omega)]
    refine ⟨fun h => by omega, fun _ => ⟨fun hc H5 e5 => ⟨_, rfl, ?_⟩, fun hc m hm => ?_⟩⟩
    · have hlt := bc_lt hc.symm hLi.1
      rw [if_pos hc] at hx
      refine cto_ok (q := nb (H0 59) n a + 1) (by omega) (by omega) (by omega) ?_ ?_
      · unfold tk
        rw [← hx]
      · rw [e5, fl_up_at, fl_up_up, nb_cast]
    · rw [if_neg hc] at hx
      have e1 : (i : Int) + 1 = ((i + 1 : Nat) : Int) := by omega
      rw [e1] at hx ⊢
      exact cn_of7L hs f (i + 1) (by omega) m hx
theorem cn_of7 {n a m : Nat} {H : fl_H} (hs : cst H n a) : ck (cm_pg X xs) m cm_m89 [.index 58, .string "" 7] H (fun r H' => ∃ x, r = some x ∧ cto n 0 5 (tk (H 59) n a (one [111, 102, 101, 110, 118, 104])) H x H') := by
  refine ve_Tape_oneOf_58_s7 (fun m hm => ck_mono (cn_look hs) (fun r H1 h => ⟨_, h.1, ?_⟩))
  rw [h.2]
  exact cn_of7L (X := X) (xs := xs) hs 6 0 rfl _ rfl
theorem cn_of8L {n a : Nat} {H0 : fl_H} (hs : cst H0 n a) : ∀ (f i : Nat), i + f = 2 → ∀ N : Nat, (ixf (([43, 45] : List Int).drop i) (bc (H0 59) n a) (i : Int) = one [43, 45] (bc (H0 59) n a)) → hd_Tape_oneOf_58_s8_7 (cm_pg X xs) N (fl_up H0 58 2 (nb (H0 59) n a : Nat)) (bc (H0 59) n a) (i : Int) (fun r H' => ∃ x, r = some x ∧ cto n 0 1 (tk (H0 59) n a (one [43, 45])) H0 x H')
  | 0, i, hi, N, hx => by
    have hb := bc_rg hs.2.2.2.2.1 a
    have hle := nb_le (t := H0 59) hs.2.2.1
    have hi : i = 2 := by omega
    subst hi
    refine vh_Tape_oneOf_58_s8_7 ⟨fun _ m hm => ?_, fun h => absurd (show (2 : Int) ≤ fl_w ((2 : Nat) : Int) by decide) h⟩
    have hs1 : cst (fl_up H0 58 2 (nb (H0 59) n a : Nat)) n (nb (H0 59) n a) := cst_at hs hle
    have t1 : (fl_up H0 58 2 ((nb (H0 59) n a : Nat) : Int)) 59 = H0 59 := fl_up_cell _ _ _ _ (by decide)
    refine ck_mono (cn_fail (X := X) (xs := xs) hs1) (fun r H7 g => ⟨g.1, 0, rfl, ?_⟩)
    refine cto_fail (p := nb (H0 59) n a) hle (Int.le_refl 0) (by omega) ?_ ?_
    · unfold tk
      rw [← hx]
      rfl
    · rw [g.2, t1, nb_nb, fl_up_up, fl_up_i _ _ _ _ (by decide)]
  | f + 1, i, hi, N, hx => by
    have hb := bc_rg hs.2.2.2.2.1 a
    have hle := nb_le (t := H0 59) hs.2.2.1
    have wi : fl_w (i : Int) = (i : Int) := fl_wi (by omega) (by omega)
    have hL : ∀ j : Nat, j < 2 → 0 ≤ ([43, 45] : List Int).getD j 0 ∧ ([43, 45] : List Int).getD j 0 ≤ 255 := by decide
    have hLi := hL i (by omega)
    have hdr : ∀ j : Nat, j < 2 → ([43, 45] : List Int).drop j = ([43, 45] : List Int).getD j 0 :: ([43, 45] : List Int).drop (j + 1) := by decide
    rw [hdr i (by omega)] at hx
    unfold ixf at hx
    refine vh_Tape_oneOf_58_s8_7 ?_
    rw [wi, Int.toNat_natCast, fl_wi (x := ([43, 45] : List Int).getD i 0) (by omega) (by omega), fl_wi (x := bc (H0 59) n a) (by omega) (by omega)]
    refine ⟨fun h => by omega, fun _ => ⟨fun hc H5 e5 => ⟨_, rfl, ?_⟩, fun hc m hm => ?_⟩⟩
    · have hlt := bc_lt hc.symm hLi.1
      rw [if_pos hc] at hx
      refine cto_ok (q := nb (H0 59) n a + 1) (by omega) (by omega) (by omega) ?_ ?_
      · unfold tk
        rw [← hx]
      · rw [e5, fl_up_at, fl_up_up, nb_cast]
    · rw [if_neg hc] at hx
      have e1 : (i : Int) + 1 = ((i + 1 : Nat) : Int) := by omega
      rw [e1] at hx ⊢
      exact cn_of8L hs f (i + 1) (by omega) m hx
theorem cn_of8 {n a m : Nat} {H : fl_H} (hs : cst H n a) : ck (cm_pg X xs) m cm_m89 [.index 58, .string "" 8] H (fun r H' => ∃ x, r = some x ∧ cto n 0 1 (tk (H 59) n a (one [43, 45])) H x H') := by
  refine ve_Tape_oneOf_58_s8 (fun m hm => ck_mono (cn_look hs) (fun r H1 h => ⟨_, h.1, ?_⟩))
  rw [h.2]
  exact cn_of8L (X := X) (xs := xs) hs 2 0 rfl _ rfl
theorem cn_numL (n p : Nat) (most : Int) (hm0 : 0 ≤ most) (hm1 : most ≤ 999) : ∀ (N : Nat) (H : fl_H) (b : Nat) (v u : Int), cst H n b → p ≤ b → p ≤ n → 0 ≤ v → v ≤ 1000 → 0 ≤ u → (v = u ∨ (v = 1000 ∧ 1000 ≤ u)) → hd_Tape_number_58_23 (cm_pg X xs) N H most (p : Int) v (fun r H' => ∃ x, r = some x ∧ 0 ≤ x ∧ x ≤ 1000 ∧ ((nu (H 59) n (n - b) b u).1 ≤ most → x = (nu (H 59) n (n - b) b u).1 ∧ H' = fl_up H 58 2 ((nu (H 59) n (n - b) b u).2 : Int)) ∧ (most < (nu (H 59) n (n - b) b u).1 → H' = fl_up (fl_up H 58 2 ((nu (H 59) n (n - b) b u).2 : Int)) 58 3 (if H 58 3 = -1 then (p : Int) else H 58 3))) := by
  intro N
  induction N using Nat.strongRecOn with
  | ind N ih =>
    intro H b v u hs hpb hpn hv0 hv1 hu0 hvu
    obtain ⟨h1, h2, h3, h4, h5, h6, h7⟩ := id hs
    have w1 := fl_wn h1 (by omega)
    have w2 := fl_wn h2 (by omega)
    have w4 : fl_w v = v := fl_wi (by omega) (by omega)
    have w5 : fl_w most = most := fl_wi (by omega) (by omega)
    have hstop : ¬ (b < n ∧ 48 ≤ H 59 b ∧ H 59 b ≤ 57) → ∀ m' : Nat, (v ≤ most → (∃ x, some v = some x ∧ 0 ≤ x ∧ x ≤ 1000 ∧ ((nu (H 59) n (n - b) b u).1 ≤ most → x = (nu (H 59) n (n - b) b u).1 ∧ H = fl_up H 58 2 ((nu (H 59) n (n - b) b u).2 : Int)) ∧ (most < (nu (H 59) n (n - b) b u).1 → H = fl_up (fl_up H 58 2 ((nu (H 59) n (n - b) b u).2 : Int)) 58 3 (if H 58 3 = -1 then (p : Int) else H 58 3)))) ∧ (¬ v ≤ most → ∀ m, m < m' → ck (cm_pg X xs) m cm_m87 [.index 58, fl_t (p : Int)] H (fun r H3 => r = none ∧ (∃ x, some v = some x ∧ 0 ≤ x ∧ x ≤ 1000 ∧ ((nu (H 59) n (n - b) b u).1 ≤ most → x = (nu (H 59) n (n - b) b u).1 ∧ H3 = fl_up H 58 2 ((nu (H 59) n (n - b) b u).2 : Int)) ∧ (most < (nu (H 59) n (n - b) b u).1 → H3 = fl_up (fl_up H 58 2 ((nu (H 59) n (n - b) b u).2 : Int)) 58 3 (if H 58 3 = -1 then (p : Int) else H 58 3))))) := fun hn m' => by
      have e := nu_0 (v := u) hn
      rw [e]
      have eH : fl_up H 58 2 (b : Int) = H := fl_up_same _ _ _ h2
      rw [eH]
      refine ⟨fun hle => ⟨v, rfl, hv0, hv1, fun _ => ⟨?_, rfl⟩, fun hgt => ?_⟩, fun hle m hm => ck_mono (cn_failAt (X := X) (xs := xs) h6 h7) (fun r H3 g => ⟨g.1, v, rfl, hv0, hv1, fun hge => ?_, fun _ => g.2⟩)⟩
      · rcases hvu with hvu | hvu <;> omega
      · have hgt : most < u := hgt
        rcases hvu with hvu | hvu <;> omega
      · have hge : u ≤ most := hge
        rcases hvu with hvu | hvu <;> omega
    refine vh_Tape_number_58_23 ?_
    rw [w1, w2, w4, w5, Int.toNat_natCast]
    by_cases hb : b < n
    · have hr := h5 b hb
      have w6 : fl_w (H 59 b) = H 59 b := fl_wi (by omega) (by omega)
      rw [w6]
      refine ⟨fun h => by omega, fun _ _ => ⟨fun hd _ H9 e9 m hm => ?_, fun hd => hstop (fun h => hd h.2) N⟩⟩
      have hn1 := nu_1 (v := u) ⟨hb, hd⟩
      rw [fl_wi (x := 10 * v + H 59 b - 48) (by omega) (by omega)]
      have w7 : fl_w 1000 = 1000 := rfl
      rw [w7]
      have e1 : H 58 2 + 1 = ((b + 1 : Nat) : Int) := by omega
      rw [e1] at e9
      subst e9
      have := ih m hm _ (b + 1) (min (10 * v + H 59 b - 48) 1000) (10 * u + H 59 b - 48) (cst_at hs (b := b + 1) (by omega)) (by omega) hpn (by omega) (by omega) (by omega) (by rcases hvu with hvu | hvu <;> omega)
      rw [fl_up_cell _ _ _ _ (by decide), fl_up_i _ _ _ _ (by decide)] at this
      rw [hn1]
      simp only [fl_up_up] at this
      exact this
    · refine ⟨fun _ => hstop (fun h => hb h.1) N, fun h => by omega⟩
theorem cn_num {n a m : Nat} {H : fl_H} (hs : cst H n a) {most : Int} (hm0 : 0 ≤ most) (hm1 : most ≤ 999) : ck (cm_pg X xs) m cm_m90 [.index 58, fl_t most] H (fun r H' => ∃ x, r = some x ∧ cto n 0 1000 (num (H 59) n a most) H x H') := by
  have hb := bc_rg hs.2.2.2.2.1 a
  have hle := nb_le (t := H 59) hs.2.2.1
  refine ve_Tape_number_58 (fun k hk => ck_mono (cn_look hs) (fun r H1 h => ⟨_, h.1, ?_⟩))
  have e1 := h.2
  have t1 : H1 59 = H 59 := by rw [e1, fl_up_cell _ _ _ _ (by decide)]
  have hs1 : cst H1 n (nb (H 59) n a) := by rw [e1]; exact cst_at hs hle
  rw [fl_wi (x := bc (H 59) n a) (by omega) (by omega)]
  refine ⟨fun hd => ?_, fun hd m hm => ?_⟩
  · have hlt := bc_lt (t := H 59) (n := n) (a := a) rfl (by omega)
    have hbc : bc (H 59) n a = H 59 (nb (H 59) n a) := if_pos hlt
    have e0 : H1 58 2 = (nb (H 59) n a : Nat) := by rw [e1, fl_up_at]
    rw [e0]
    have key := cn_numL (X := X) (xs := xs) n (nb (H 59) n a) most hm0 hm1 m H1 (nb (H 59) n a) 0 0 hs1 (Nat.le_refl _) hle (Int.le_refl 0) (by omega) (Int.le_refl 0) (Or.inl rfl)
    rw [t1] at key
    have hq := (nu_q (t := H 59) (n := n) (n - nb (H 59) n a) (nb (H 59) n a) 0).2 hle
    intro lv l0 l1 l2 l3
    refine vt_mono (Nat.le_refl _) (fun r' H' hr => ?_) (key lv l0 l1 l2 l3)
    obtain ⟨x, r1, r2, r3, r4, r5⟩ := hr
    refine ⟨x, r1, r2, r3, ?_⟩
    have e3 : H1 58 3 = H 58 3 := by rw [e1, fl_up_i _ _ _ _ (by decide)]
    rw [e3, e1] at r5
    rw [e1] at r4
    simp only [fl_up_up] at r4 r5
    unfold num
    rw [if_pos hd]
    by_cases hm : (nu (H 59) n (n - nb (H 59) n a) (nb (H 59) n a) 0).1 ≤ most
    · obtain ⟨g1, g2⟩ := r4 hm
      rw [if_pos hm]
      refine ⟨_, H 58 3, hq, ?_, fun _ => rfl, fun h => ⟨g1, rfl, h⟩⟩
      rw [g2, fl_up_same _ 58 3 (fl_up_i _ _ _ _ (by decide))]
    · rw [if_neg hm]
      refine ⟨_, _, hq, r5 (by omega), fun h => if_neg h, fun h => ⟨if_pos h, hle⟩⟩
  · refine ck_mono (cn_fail (X := X) (xs := xs) hs1) (fun r H7 g => ⟨g.1, 0, rfl, ?_⟩)
    refine cto_fail (p := nb (H 59) n a) hle (Int.le_refl 0) (by omega) ?_ ?_
    · unfold num
      rw [if_neg hd]
    · rw [g.2, t1, nb_nb, e1, fl_up_up, fl_up_i _ _ _ _ (by decide)]
theorem cn_let {n a m : Nat} {H : fl_H} (hs : cst H n a) {g x : Int} (g0 : 0 ≤ g) (g1 : g ≤ 6) (x0 : -1 ≤ x) (x1 : x ≤ 6) : ck (cm_pg X xs) m cm_m84 [.index 58, fl_t g, fl_t x] H (fun r H' => ∃ y, r = some y ∧ cto n 0 5 (tk (H 59) n a (letr g x)) H y H') := by
  have hb := bc_rg hs.2.2.2.2.1 a
  have hle := nb_le (t := H 59) hs.2.2.1
  refine ve_Tape_aLetter_58 (fun m hm => ck_mono (cn_look hs) (fun r H1 h => ⟨_, h.1, ?_⟩))
  have e1 := h.2
  have t1 : H1 59 = H 59 := by rw [e1, fl_up_cell _ _ _ _ (by decide)]
  have hs1 : cst H1 n (nb (H 59) n a) := by rw [e1]; exact cst_at hs hle
  have w0 : fl_w 0 = 0 := rfl
  rw [fl_wi (x := bc (H 59) n a - 97) (by omega) (by omega), fl_wi (x := g - 1) (by omega) (by omega), fl_wi (x := x) (by omega) (by omega), w0]
  have bad : letr g x (bc (H 59) n a) = none → ∀ m', ck (cm_pg X xs) m' cm_m86 [.index 58] H1 (fun r H7 => r = none ∧ ∃ y, some 0 = some y ∧ cto n 0 5 (tk (H 59) n a (letr g x)) H y H7) := fun hl m' => by
    refine ck_mono (cn_fail (X := X) (xs := xs) hs1) (fun r H7 g => ⟨g.1, 0, rfl, ?_⟩)
    refine cto_fail (p := nb (H 59) n a) hle (Int.le_refl 0) (by omega) ?_ ?_
    · unfold tk
      rw [hl]
    · rw [g.2, t1, nb_nb, e1, fl_up_up, fl_up_i _ _ _ _ (by decide)]
  refine ⟨fun hi => ⟨fun hx m hm => bad (by unfold letr; rw [if_neg (fun hh => hh.2.2.2 hx)]) m, fun hx H11 e11 => ⟨_, rfl, ?_⟩⟩, fun hi m hm => bad (by unfold letr; rw [if_neg (fun hh => hi ⟨hh.1, hh.2.1⟩)]) m⟩
  have hlt := bc_lt (t := H 59) (n := n) (a := a) rfl (by omega)
  refine cto_ok (q := nb (H 59) n a + 1) (by omega) hi.1 (by omega) ?_ ?_
  · unfold tk letr
    rw [if_pos ⟨hi.1, hi.2, by omega, hx⟩]
  · rw [e11, e1, fl_up_at, fl_up_up, nb_cast]
end
end
