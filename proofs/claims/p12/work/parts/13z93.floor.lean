noncomputable section
/-! L3: bits of small numbers; the class's floor. -/
section
variable {X : Term} {xs : List Int32}
theorem fn_bv (a : Nat) : (Int32.ofInt (a : Int)).toBitVec = BitVec.ofNat 32 a := BitVec.ofInt_natCast ..
theorem fn_int {v : BitVec 32} {n : Nat} (h : v.toNat = n) (hn : n < 2147483648) : v.toInt = (n : Int) := by
  rw [BitVec.toInt_eq_toNat_of_lt (by rw [h]; omega), h]
theorem fn_and {a b : Nat} (ha : a < 2147483648) (hb : b < 2147483648) : fl_and (a : Int) (b : Int) = ((a &&& b : Nat) : Int) := by
  refine fn_int (v := (Int32.ofInt (a : Int)).toBitVec &&& (Int32.ofInt (b : Int)).toBitVec) ?_ (Nat.lt_of_le_of_lt Nat.and_le_left ha)
  rw [fn_bv, fn_bv, BitVec.toNat_and, BitVec.toNat_ofNat, BitVec.toNat_ofNat, Nat.mod_eq_of_lt (by omega), Nat.mod_eq_of_lt (by omega)]
theorem fn_or {a b : Nat} (ha : a < 1073741824) (hb : b < 1073741824) : fl_or (a : Int) (b : Int) = ((a ||| b : Nat) : Int) := by
  have h : a ||| b < 1073741824 := Nat.or_lt_two_pow (n := 30) ha hb
  refine fn_int (v := (Int32.ofInt (a : Int)).toBitVec ||| (Int32.ofInt (b : Int)).toBitVec) ?_ (by omega)
  rw [fn_bv, fn_bv, BitVec.toNat_or, BitVec.toNat_ofNat, BitVec.toNat_ofNat, Nat.mod_eq_of_lt (by omega), Nat.mod_eq_of_lt (by omega)]
theorem fn_k : ∀ b : Nat, b < 32 → ((Int32.ofInt (b : Int) &&& 31).toBitVec.smod 32).toNat = b := by decide +kernel
theorem fn_shr {a b : Nat} (ha : a < 2147483648) (hb : b < 32) : fl_shr (a : Int) (b : Int) = ((a >>> b : Nat) : Int) := by
  refine fn_int (v := ((Int32.ofInt (a : Int)).toBitVec.sshiftRight' ((Int32.ofInt (b : Int) &&& 31).toBitVec.smod 32))) ?_ (Nat.lt_of_le_of_lt (Nat.shiftRight_le a b) ha)
  have h : (Int32.ofInt (a : Int)).toBitVec.msb = false := by
    rw [fn_bv, BitVec.msb_eq_false_iff_two_mul_lt, BitVec.toNat_ofNat, Nat.mod_eq_of_lt (by omega)]
    omega
  show ((Int32.ofInt (a : Int)).toBitVec.sshiftRight ((Int32.ofInt (b : Int) &&& 31).toBitVec.smod 32).toNat).toNat = _
  rw [fn_k b hb, BitVec.sshiftRight_eq_of_msb_false h, BitVec.toNat_ushiftRight, fn_bv, BitVec.toNat_ofNat, Nat.mod_eq_of_lt (by omega)]
theorem fn_bit {t i : Nat} (ht : t < 2147483648) (hi : i < 32) : fl_and (fl_shr (t : Int) (i : Int)) 1 = if t.testBit i = true then 1 else 0 := by
  have h1 : t >>> i < 2147483648 := Nat.lt_of_le_of_lt (Nat.shiftRight_le t i) ht
  have e1 : fl_and ((t >>> i : Nat) : Int) ((1 : Nat) : Int) = ((t >>> i &&& 1 : Nat) : Int) := fn_and h1 (by decide)
  rw [fn_shr ht hi]
  refine e1.trans ?_
  rw [Nat.and_one_is_mod, Nat.shiftRight_eq_div_pow]
  have e2 := Nat.testBit_eq_decide_div_mod_eq (x := t) (i := i)
  by_cases h : t / 2 ^ i % 2 = 1
  · rw [e2, h, if_pos (by decide)]; rfl
  · have : t / 2 ^ i % 2 = 0 := by omega
    rw [e2, this, if_neg (by decide)]; rfl
/-- goods as bits -/
def rep (L : Nat) (M : Nat → Bool) : Prop := L < 64 ∧ ∀ g, g < 6 → L.testBit g = M g
theorem rp_set : ∀ a : Nat, a < 64 → ∀ g : Nat, g < 6 → fl_or (a : Int) (fl_shl 1 (g : Int)) = ((a ||| 2 ^ g : Nat) : Int) ∧ (a ||| 2 ^ g) < 64 ∧ ∀ k : Nat, k < 6 → (a ||| 2 ^ g).testBit k = (if k = g then true else a.testBit k) := by decide +kernel
theorem rp_clr : ∀ a : Nat, a < 64 → ∀ g : Nat, g < 6 → fl_and (a : Int) (fl_xor (fl_shl 1 (g : Int)) (-1)) = ((a &&& (63 ^^^ 2 ^ g) : Nat) : Int) ∧ (a &&& (63 ^^^ 2 ^ g)) < 64 ∧ ∀ k : Nat, k < 6 → (a &&& (63 ^^^ 2 ^ g)).testBit k = (if k = g then false else a.testBit k) := by decide +kernel
theorem rep_del {L : Nat} {M : Nat → Bool} {g : Nat} (h : rep L M) (hg : g < 6) : rep (L &&& (63 ^^^ 2 ^ g)) (mdel M g) := by
  obtain ⟨-, k2, k3⟩ := rp_clr L h.1 g hg
  refine ⟨k2, fun k hk => ?_⟩
  rw [k3 k hk, h.2 k hk]
  rfl
theorem rep_0 {M : Nat → Bool} (h : rep 0 M) : ∀ g, g < 6 → M g = false := fun g hg => by rw [← h.2 g hg, Nat.zero_testBit]
-- ---- cover
theorem cv_rd : ∀ q : Nat, q < 16 → fl_rem (q : Int) 4 = ((q % 4 : Nat) : Int) ∧ fl_div (q : Int) 4 = ((q / 4 : Nat) : Int) := by decide +kernel
theorem cv_ln : ∀ w : Nat, w < 5 → fl_shl 1 (w : Int) - 1 = ((2 ^ w - 1 : Nat) : Int) := by decide +kernel
theorem cv_st : ∀ w : Nat, w < 5 → ∀ y : Nat, y < 4 → fl_or ((cvl w y : Nat) : Int) (fl_shl ((2 ^ w - 1 : Nat) : Int) (4 * (y : Int))) = ((cvl w (y + 1) : Nat) : Int) := by decide +kernel
theorem cv_en : ((List.range 5).all fun w => (List.range 5).all fun h => (List.range 16).all fun q => !(Nat.ble (q % 4 + w) 4) || (!(Nat.ble (q / 4 + h) 4) || decide (fl_shl ((cvl w h : Nat) : Int) (q : Int) = ((cvl w h <<< q : Nat) : Int)))) = true := by decide +kernel
theorem cv_end {w h q : Nat} (hw : w < 5) (hh : h < 5) (hq : q < 16) (h1 : q % 4 + w ≤ 4) (h2 : q / 4 + h ≤ 4) : fl_shl ((cvl w h : Nat) : Int) (q : Int) = ((cvl w h <<< q : Nat) : Int) := by
  have k := List.all_eq_true.mp (List.all_eq_true.mp (List.all_eq_true.mp cv_en w (List.mem_range.mpr hw)) h (List.mem_range.mpr hh)) q (List.mem_range.mpr hq)
  rw [Nat.ble_eq_true_of_le h1, Nat.ble_eq_true_of_le h2] at k
  exact of_decide_eq_true k
theorem fc_loop {g s q w h : Nat} {z : Nat → Int} {H : fl_H} (hz : gz z H) (hg : g < 6) (hs : s < 2) (hq : q < 16) (ew : z (16 + 8 * g + 3 * s) = (w : Int)) (eh : z (17 + 8 * g + 3 * s) = (h : Int)) (hw : w < 5) (hh : h < 5) (h1 : q % 4 + w ≤ 4) (h2 : q / 4 + h ≤ 4) : ∀ (f y : Nat), y + f = h → ∀ N, hd_Floor_cover_64_56 (cm_pg X xs) N H ((2 * g + s : Nat) : Int) (q : Int) ((2 ^ w - 1 : Nat) : Int) ((cvl w y : Nat) : Int) (y : Int) (fun r H' => r = some ((cvb w h q : Nat) : Int) ∧ H' = H)
  | 0, y, hy, N => by
    refine vh_Floor_cover_64_56 ?_
    rw [fl_wi (x := ((2 * g + s : Nat) : Int)) (by omega) (by omega), Int.toNat_natCast, gz_hg hz hg hs, eh, fl_wi (x := (h : Int)) (by omega) (by omega), fl_wi (x := (y : Int)) (by omega) (by omega)]
    have e : y = h := by omega
    subst e
    refine fun _ => ⟨fun _ => ⟨?_, rfl⟩, fun hh => absurd (Int.le_refl _) hh⟩
    rw [cv_end hw hh hq h1 h2]
    unfold cvb
    rw [if_pos ⟨h1, h2⟩]
  | f + 1, y, hy, N => by
    refine vh_Floor_cover_64_56 ?_
    rw [fl_wi (x := ((2 * g + s : Nat) : Int)) (by omega) (by omega), Int.toNat_natCast, gz_hg hz hg hs, eh, fl_wi (x := (h : Int)) (by omega) (by omega), fl_wi (x := (y : Int)) (by omega) (by omega), cv_st w hw y (by omega)]
    refine fun _ => ⟨fun hh => by omega, fun _ m hm => ?_⟩
    have ek : (y : Int) + 1 = ((y + 1 : Nat) : Int) := by omega
    rw [ek]
    exact fc_loop hz hg hs hq ew eh hw hh h1 h2 f (y + 1) (by omega) m
theorem fl_ws {a b : Nat} (ha : a < 1000) (hb : b < 1000) : fl_w ((a : Int) + (b : Int)) = ((a + b : Nat) : Int) := by
  rw [fl_wi (by omega) (by omega)]; rfl
theorem nlt4 {x : Nat} (h : 4 < (x : Int)) : ¬ x ≤ 4 := by omega
theorem nge4 {x : Nat} (h : ¬ 4 < (x : Int)) : x ≤ 4 := by omega
theorem nle4 {x : Nat} (h : (x : Int) ≤ 4) : x ≤ 4 := by omega
theorem nnle4 {x : Nat} (h : ¬ (x : Int) ≤ 4) : ¬ x ≤ 4 := by omega
theorem q4lt (q : Nat) (h : q < 16) : q % 4 < 1000 ∧ q / 4 < 1000 := ⟨Nat.lt_of_lt_of_le (Nat.mod_lt q (by decide)) (by decide), Nat.lt_of_le_of_lt (Nat.div_le_self q 4) (Nat.lt_of_lt_of_le h (by decide))⟩
theorem fc_cover {m g s q : Nat} {z : Nat → Int} {H : fl_H} {e : Int} (hz : gz z H) (hw : wf z) (hg : (g : Int) < z 1) (hs : s < 2) (hq : q < 16) (he : e = ((2 * g + s : Nat) : Int)) : ck (cm_pg X xs) m cm_m33 [.index 64, fl_t e, fl_t (q : Int)] H (fun r H' => r = some ((cvb (z (16 + 8 * g + 3 * s)).toNat (z (17 + 8 * g + 3 * s)).toNat q : Nat) : Int) ∧ H' = H) := by
  subst he
  have g6 : g < 6 := by have := hw.1.2.2.2.1; omega
  obtain ⟨-, -, a1, a2⟩ := wf_are hw hg hs
  obtain ⟨w, ew⟩ : ∃ w : Nat, z (16 + 8 * g + 3 * s) = (w : Int) := ⟨(z (16 + 8 * g + 3 * s)).toNat, by omega⟩
  obtain ⟨h, eh⟩ : ∃ h : Nat, z (17 + 8 * g + 3 * s) = (h : Int) := ⟨(z (17 + 8 * g + 3 * s)).toNat, by omega⟩
  obtain ⟨r1, r2⟩ := cv_rd q hq
  have w5 : w < 5 := by omega
  have h5 : h < 5 := by omega
  have q1 := q4lt q hq
  clear a1 a2
  refine ve_Floor_cover_64 ?_
  rw [fl_wi (x := ((2 * g + s : Nat) : Int)) (by omega) (by omega), Int.toNat_natCast, gz_hg hz g6 hs, gz_wd hz g6 hs, ew, eh, Int.toNat_natCast, Int.toNat_natCast, r1, r2, cv_ln w w5, fl_ws q1.1 (Nat.lt_of_lt_of_le w5 (by decide)), fl_ws q1.2 (Nat.lt_of_lt_of_le h5 (by decide))]
  refine fun _ => ⟨fun hc => ⟨?_, rfl⟩, fun hc _ => ⟨fun hd _ => fc_loop hz g6 hs hq ew eh w5 h5 (nge4 hc) (nle4 hd) h 0 (Nat.zero_add h) m, fun hd => ⟨?_, rfl⟩⟩⟩
  · unfold cvb
    rw [if_neg (fun k => nlt4 hc k.1)]; rfl
  · unfold cvb
    rw [if_neg (fun k => nnle4 hd k.2)]; rfl
/-- sizes are measured -/
def fm (z : Nat → Int) (H : fl_H) : Prop := ∀ g : Nat, (g : Int) < z 1 → ∀ s, s < 2 → H 67 (2 * g + s) = zare z g s ∧ ∀ q, q < 16 → H 66 ((2 * g + s) * 16 + q) = ((cvb (z (16 + 8 * g + 3 * s)).toNat (z (17 + 8 * g + 3 * s)).toNat q : Nat) : Int)
/-- what is known of codes is right -/
def kn (z : Nat → Int) (H : fl_H) : Prop := ∀ code, code < 729 → zcd z code → H 65 code = 0 ∨ (H 65 code = 1 ∧ zfit z code) ∨ (H 65 code = 2 ∧ ¬ zfit z code)
def flI (z : Nat → Int) (H : fl_H) : Prop := H 64 5 = 0 ∨ (H 64 5 = 1 ∧ fm z H ∧ kn z H)
theorem fb_fill : ∀ (N : Nat) (H : fl_H) (a : Nat), a ≤ 729 → hd_Arrays_fill_65_5 (cm_pg X xs) N H 0 (a : Int) 729 (fun r H' => r = none ∧ (∀ i, H' 65 i = if a ≤ i ∧ i < 729 then 0 else H 65 i) ∧ ∀ c, c ≠ 65 → H' c = H c) := by
  intro N
  induction N using Nat.strongRecOn with
  | ind N ih =>
    intro H a ha
    refine vh_Arrays_fill_65_5 ?_
    have w729 : fl_w 729 = 729 := rfl
    have i0 : fl_i2b 0 = 0 := by decide
    rw [w729, fl_wi (x := (a : Int)) (by omega) (by omega), i0, Int.toNat_natCast]
    refine ⟨fun h => ⟨rfl, fun i => by rw [if_neg (by omega)], fun _ _ => rfl⟩, fun h _ H2 e2 m hm => ?_⟩
    have ek : (a : Int) + 1 = ((a + 1 : Nat) : Int) := by omega
    rw [ek]
    have := ih m hm H2 (a + 1) (by omega)
    intro lv l0 l1 l2 l3
    refine vt_mono (Nat.le_refl _) (fun r H' hr => ⟨hr.1, fun i => ?_, fun c hc => by rw [hr.2.2 c hc, e2, fl_up_cell _ _ _ _ hc]⟩) (this lv l0 l1 l2 l3)
    rw [hr.2.1 i, e2]
    by_cases hi : i = a
    · subst hi
      rw [if_neg (by omega), fl_up_at, if_pos (by omega)]
    · rw [fl_up_i _ _ _ _ hi]
      by_cases h2 : a ≤ i ∧ i < 729
      · rw [if_pos h2, if_pos (by omega)]
      · rw [if_neg h2, if_neg (by omega)]
def pF (c : Nat) : Prop := 64 ≤ c ∧ c ≤ 67
theorem gz_oc {z : Nat → Int} {P : Nat → Prop} {H G : fl_H} (h : gz z H) (k : oc P H G) (hp : ∀ c, 1 ≤ c → c ≤ 19 → ¬ P c) : gz z G := gz_fr h (fun c i a b => by rw [k c (hp c a b)])
theorem fc_measure {m : Nat} {z : Nat → Int} {H : fl_H} (hz : gz z H) (hw : wf z) (hf : flI z H) : ck (cm_pg X xs) m cm_m32 [.index 64] H (fun r H' => r = none ∧ oc pF H H' ∧ (∀ i, i ≠ 5 → H' 64 i = H 64 i) ∧ H' 64 5 = 1 ∧ fm z H' ∧ kn z H') := by
  obtain ⟨-, -, z1, z2, -⟩ := id hw.1
  obtain ⟨n, hn⟩ : ∃ n : Nat, z 1 = (n : Int) := ⟨(z 1).toNat, by omega⟩
  -- the squares of a piece
  have k47 : ∀ (N : Nat) (G : fl_H) (g s q : Nat), gz z G → (g : Int) < z 1 → s < 2 → q ≤ 16 → (∀ G', gz z G' → oc pF G G' → (∀ i, i ≠ 5 → G' 64 i = G 64 i) → G' 64 5 = G 64 5 → G' 65 = G 65 → G' 67 = G 67 → (∀ i, ¬ ((2 * g + s) * 16 + q ≤ i ∧ i < (2 * g + s) * 16 + 16) → G' 66 i = G 66 i) → (∀ i, q ≤ i → i < 16 → G' 66 ((2 * g + s) * 16 + i) = ((cvb (z (16 + 8 * g + 3 * s)).toNat (z (17 + 8 * g + 3 * s)).toNat i : Nat) : Int)) → ∀ m, m < N → hd_Floor_measureOnce_64_18 (cm_pg X xs) m G' (((2 * g + s : Nat) : Int) + 1) (fun r H' => r = none ∧ oc pF H H' ∧ (∀ i, i ≠ 5 → H' 64 i = H 64 i) ∧ H' 64 5 = 1 ∧ fm z H' ∧ kn z H')) → hd_Floor_measureOnce_64_47 (cm_pg X xs) N G ((2 * g + s : Nat) : Int) (q : Int) (fun r H' => r = none ∧ oc pF H H' ∧ (∀ i, i ≠ 5 → H' 64 i = H 64 i) ∧ H' 64 5 = 1 ∧ fm z H' ∧ kn z H') := by
    intro N
    induction N using Nat.strongRecOn with
    | ind N ih =>
      intro G g s q zG hg hs hq K
      refine vh_Floor_measureOnce_64_47 ?_
      rw [fl_wi (x := (q : Int)) (by omega) (by omega)]
      refine ⟨fun h => ?_, fun h m hm => ck_mono (fc_cover (X := X) (xs := xs) zG hw hg hs (q := q) (by omega) rfl) (fun r H3 h3 => ⟨_, h3.1, ?_⟩)⟩
      · intro m hm
        exact K G zG (oc_refl _ _) (fun _ _ => rfl) rfl rfl rfl (fun _ _ => rfl) (fun i a b => by omega) m hm
      · have e3 := h3.2
        subst e3
        have g6 : g < 6 := by omega
        rw [fl_wi (x := ((2 * g + s : Nat) : Int) * 16 + (q : Int)) (by omega) (by omega)]
        have ei : (((2 * g + s : Nat) : Int) * 16 + (q : Int)).toNat = (2 * g + s) * 16 + q := by omega
        rw [ei]
        intro _ H6 e6 m hm
        have ek : (q : Int) + 1 = ((q + 1 : Nat) : Int) := by omega
        rw [ek]
        have z6 : gz z H6 := gz_fr zG (fun c i a b => by rw [e6, fl_up_c _ _ _ _ (by omega)])
        refine ih m hm H6 g s (q + 1) z6 hg hs (by omega) (fun G' a1 a2 a3 a4 a5 a6 a7 a8 m' hm' => K G' a1 ?_ ?_ ?_ ?_ ?_ ?_ ?_ m' (Nat.lt_trans hm' hm))
        · exact oc_trans (by rw [e6]; exact oc_up (oc_refl _ _) (by unfold pF; omega)) a2
        · intro i hi; rw [a3 i hi, e6, fl_up_c _ _ _ _ (by decide)]
        · rw [a4, e6, fl_up_c _ _ _ _ (by decide)]
        · rw [a5, e6, fl_up_cell _ _ _ _ (by decide)]
        · rw [a6, e6, fl_up_cell _ _ _ _ (by decide)]
        · intro i hi
          rw [a7 i (by omega), e6, fl_up_i _ _ _ _ (by omega)]
        · intro i b1 b2
          by_cases hh : i = q
          · subst hh
            rw [a7 _ (by omega), e6, fl_up_at]
          · exact a8 i (by omega) b2
  -- the pieces
  have k18 : ∀ (N : Nat) (G : fl_H) (p : Nat), p ≤ 2 * n → gz z G → oc pF H G → (∀ i, i ≠ 5 → G 64 i = H 64 i) → kn z G → (∀ g s : Nat, s < 2 → 2 * g + s < p → G 67 (2 * g + s) = zare z g s ∧ ∀ q, q < 16 → G 66 ((2 * g + s) * 16 + q) = ((cvb (z (16 + 8 * g + 3 * s)).toNat (z (17 + 8 * g + 3 * s)).toNat q : Nat) : Int)) → hd_Floor_measureOnce_64_18 (cm_pg X xs) N G (p : Int) (fun r H' => r = none ∧ oc pF H H' ∧ (∀ i, i ≠ 5 → H' 64 i = H 64 i) ∧ H' 64 5 = 1 ∧ fm z H' ∧ kn z H') := by
    intro N
    induction N using Nat.strongRecOn with
    | ind N ih =>
      intro G p hp zG oG g64 kG mG
      refine vh_Floor_measureOnce_64_18 ?_
      rw [gz_1 zG, hn, fl_wi (x := 2 * (n : Int)) (by omega) (by omega), fl_wi (x := (p : Int)) (by omega) (by omega), Int.toNat_natCast]
      refine ⟨fun h H2 e2 => ⟨rfl, ?_, fun i hi => ?_, by rw [e2, fl_up_at], fun g hg s hs => ?_, fun code hc hz' => ?_⟩, fun h m hm => ?_⟩
      · rw [e2]; exact oc_up oG (by unfold pF; omega)
      · rw [e2, fl_up_i _ _ _ _ hi]; exact g64 i hi
      · rw [e2, fl_up_c _ _ _ _ (by decide)]
        obtain ⟨a, b⟩ := mG g s hs (by omega)
        exact ⟨a, fun q hq => by rw [fl_up_c _ _ _ _ (by decide)]; exact b q hq⟩
      · rw [e2, fl_up_c _ _ _ _ (by decide)]; exact kG code hc hz'
      · obtain ⟨g, s, hs, hgs⟩ : ∃ g s : Nat, s < 2 ∧ p = 2 * g + s := ⟨p / 2, p % 2, by omega, by omega⟩
        have hg : (g : Int) < z 1 := by omega
        refine ck_mono (dc_area (X := X) (xs := xs) zG (g := g) (s := s) (by omega) hs (by omega)) (fun r H4 h4 => ⟨_, h4.1, ?_⟩)
        have e4 := h4.2
        subst e4
        intro _ H7 e7
        have z7 : gz z H7 := gz_fr zG (fun c i a b => by rw [e7, fl_up_c _ _ _ _ (by omega)])
        have := k47 N H7 g s 0 z7 hg hs (by omega) (fun G' a1 a2 a3 a4 a5 a6 a7 a8 m' hm' => by
          have ek : ((2 * g + s : Nat) : Int) + 1 = ((p + 1 : Nat) : Int) := by omega
          rw [ek]
          have o7 : oc pF H4 H7 := by rw [e7]; exact oc_up (oc_refl _ _) (by unfold pF; omega)
          refine ih m' hm' G' (p + 1) (by omega) a1 (oc_trans oG (oc_trans o7 a2)) (fun i hi => by rw [a3 i hi, e7, fl_up_c _ _ _ _ (by decide)]; exact g64 i hi) (fun code hc hz' => by rw [a5, e7, fl_up_c _ _ _ _ (by decide)]; exact kG code hc hz') (fun g' s' hs' hlt => ?_)
          rw [a6, e7]
          by_cases hh : 2 * g' + s' = p
          · have e1 : g' = g := by omega
            have e2 : s' = s := by omega
            subst e1; subst e2
            refine ⟨by rw [← hgs, fl_up_at], fun q hq => a8 q (by omega) hq⟩
          · obtain ⟨b1, b2⟩ := mG g' s' hs' (by omega)
            refine ⟨by rw [fl_up_i _ _ _ _ hh]; exact b1, fun q hq => ?_⟩
            rw [a7 _ (by omega), e7, fl_up_c _ _ _ _ (by decide)]
            exact b2 q hq)
        rw [← hgs] at this
        exact this
  refine ve_Floor_measureOnce_64 ⟨fun h0 m' hm => ve_Arrays_fill_65 ?_, fun h0 => ?_⟩
  · have := fb_fill (X := X) (xs := xs) m' H 0 (by omega)
    intro lv l0 l1 l2 l3
    refine vt_mono (Nat.le_refl _) (fun r H2 h2 => ⟨h2.1, ?_⟩) (this lv l0 l1 l2 l3)
    refine k18 m H2 0 (by omega) (gz_fr hz (fun c i a b => by rw [h2.2.2 c (by omega)])) (fun c hc => h2.2.2 c (fun hh => hc (by rw [hh]; unfold pF; omega))) (fun i _ => by rw [h2.2.2 64 (by decide)]) (fun code hc _ => Or.inl (by rw [h2.2.1, if_pos ⟨by omega, hc⟩])) (fun g s hs hlt => absurd hlt (by omega))
  · rcases hf with hf | ⟨h1, h2, h3⟩
    · rw [hf] at h0; exact absurd (show fl_w 0 = 0 from rfl) h0
    · exact ⟨rfl, oc_refl _ _, fun _ _ => rfl, h1, h2, h3⟩
end
end
