noncomputable section
/-! L3: the reference finds whether goods with sizes fit, and the first laying. -/
section
variable {X : Term} {xs : List Int32}
theorem rc_wide {m g s : Nat} {H : fl_H} {e1 e2 : Int} (hg : g < 6) (hs : s < 2) (h1 : e1 = (g : Int)) (h2 : e2 = (s : Int)) : ck (cm_pg X xs) m cm_m152 [.index 94, fl_t e1, fl_t e2] H (fun r H' => r = some (H 95 (16 + 8 * g + 3 * s)) ∧ H' = H) := by
  subst h1; subst h2
  refine ve_GoodsBookModel_wideOf_94 ?_
  rw [fl_wi (x := 14 + 8 * (g : Int) + 2 + 3 * (s : Int)) (by omega) (by omega)]
  have e : (14 + 8 * (g : Int) + 2 + 3 * (s : Int)).toNat = 16 + 8 * g + 3 * s := by omega
  rw [e]
  exact fun _ => ⟨rfl, rfl⟩
theorem rc_high {m g s : Nat} {H : fl_H} {e1 e2 : Int} (hg : g < 6) (hs : s < 2) (h1 : e1 = (g : Int)) (h2 : e2 = (s : Int)) : ck (cm_pg X xs) m cm_m153 [.index 94, fl_t e1, fl_t e2] H (fun r H' => r = some (H 95 (17 + 8 * g + 3 * s)) ∧ H' = H) := by
  subst h1; subst h2
  refine ve_GoodsBookModel_highOf_94 ?_
  rw [fl_wi (x := 14 + 8 * (g : Int) + 3 + 3 * (s : Int)) (by omega) (by omega)]
  have e : (14 + 8 * (g : Int) + 3 + 3 * (s : Int)).toNat = 17 + 8 * g + 3 * s := by omega
  rw [e]
  exact fun _ => ⟨rfl, rfl⟩
theorem rc_sale {m g s : Nat} {H : fl_H} {e1 e2 : Int} (hg : g < 6) (hs : s < 2) (h1 : e1 = (g : Int)) (h2 : e2 = (s : Int)) : ck (cm_pg X xs) m cm_m154 [.index 94, fl_t e1, fl_t e2] H (fun r H' => r = some (zsal (H 95) g s) ∧ H' = H) := by
  subst h1; subst h2
  refine ve_GoodsBookModel_saleOf_94 ?_
  rw [fl_wi (x := 14 + 8 * (g : Int) + 4 + 3 * (s : Int)) (by omega) (by omega)]
  have e : (14 + 8 * (g : Int) + 4 + 3 * (s : Int)).toNat = 18 + 8 * g + 3 * s := by omega
  rw [e]
  exact fun _ => ⟨rfl, rfl⟩
theorem rc_area {m g s : Nat} {H : fl_H} {e1 e2 : Int} (hg : g < 6) (hs : s < 2) (h1 : e1 = (g : Int)) (h2 : e2 = (s : Int)) : ck (cm_pg X xs) m cm_m155 [.index 94, fl_t e1, fl_t e2] H (fun r H' => r = some (zare (H 95) g s) ∧ H' = H) :=
  ve_GoodsBookModel_areaOf_94 (fun m hm => ck_mono (rc_wide (X := X) (xs := xs) hg hs h1 h2) (fun r H1 k1 => ⟨_, k1.1, fun m hm => by
    rw [k1.2]
    exact ck_mono (rc_high (X := X) (xs := xs) hg hs h1 h2) (fun r H4 k4 => ⟨_, k4.1, rfl, k4.2⟩)⟩))
/-- bits of rows that are done, and of the row that is begun -/
def rb (w q j i : Nat) : Nat := (cvl w j <<< q) ||| ((2 ^ i - 1) <<< (4 * j + q))
theorem rb_all : ((List.range 5).all fun w => (List.range 4).all fun j => (List.range 16).all fun q => (Nat.beq w 0 || (!(Nat.ble (q % 4 + w) 4) || !(Nat.ble (q / 4 + j + 1) 4))) || ((List.range 4).all (fun i => !(Nat.ble (i + 1) w) || decide (fl_or ((rb w q j i : Nat) : Int) (fl_shl 1 (4 * (((q / 4 : Nat) : Int) + (j : Int)) + ((q % 4 : Nat) : Int) + (i : Int))) = ((rb w q j (i + 1) : Nat) : Int))) && decide (rb w q j w = rb w q (j + 1) 0))) = true := by decide +kernel
theorem rb_st {w q j : Nat} (hw : w < 5) (w0 : 1 ≤ w) (hj : j < 4) (hq : q < 16) (h1 : q % 4 + w ≤ 4) (h2 : q / 4 + j + 1 ≤ 4) : (∀ i, i < w → fl_or ((rb w q j i : Nat) : Int) (fl_shl 1 (4 * (((q / 4 : Nat) : Int) + (j : Int)) + ((q % 4 : Nat) : Int) + (i : Int))) = ((rb w q j (i + 1) : Nat) : Int)) ∧ rb w q j w = rb w q (j + 1) 0 := by
  have k := List.all_eq_true.mp (List.all_eq_true.mp (List.all_eq_true.mp rb_all w (List.mem_range.mpr hw)) j (List.mem_range.mpr hj)) q (List.mem_range.mpr hq)
  have z : Nat.beq w 0 = false := by
    cases hb : Nat.beq w 0
    · rfl
    · exact absurd (Nat.eq_of_beq_eq_true hb) (by omega)
  rw [Nat.ble_eq_true_of_le h1, Nat.ble_eq_true_of_le h2, z] at k
  have k : ((List.range 4).all (fun i => !(Nat.ble (i + 1) w) || decide (fl_or ((rb w q j i : Nat) : Int) (fl_shl 1 (4 * (((q / 4 : Nat) : Int) + (j : Int)) + ((q % 4 : Nat) : Int) + (i : Int))) = ((rb w q j (i + 1) : Nat) : Int))) && decide (rb w q j w = rb w q (j + 1) 0)) = true := k
  rw [Bool.and_eq_true] at k
  refine ⟨fun i hi => ?_, of_decide_eq_true k.2⟩
  have k1 := List.all_eq_true.mp k.1 i (List.mem_range.mpr (by omega))
  rw [Nat.ble_eq_true_of_le (show i + 1 ≤ w by omega)] at k1
  exact of_decide_eq_true k1
theorem rc_bloop {w h q : Nat} {H : fl_H} (hw : w < 5) (w0 : 1 ≤ w) (hh : h < 5) (hq : q < 16) (h1 : q % 4 + w ≤ 4) (h2 : q / 4 + h ≤ 4) : ∀ (f j : Nat), j + f = h → ∀ N, hd_GoodsBookModel_bitsAt_94_52 (cm_pg X xs) N H ((q % 4 : Nat) : Int) ((q / 4 : Nat) : Int) (w : Int) (h : Int) ((rb w q j 0 : Nat) : Int) (j : Int) (fun r H' => r = some ((cvb w h q : Nat) : Int) ∧ H' = H)
  | 0, j, hj, N => by
    have e : j = h := by omega
    subst e
    refine vh_GoodsBookModel_bitsAt_94_52 ⟨fun _ => ⟨?_, rfl⟩, fun hc => absurd (Int.le_refl _) hc⟩
    unfold cvb rb
    rw [if_pos ⟨h1, h2⟩]
    simp
  | f + 1, j, hj, N => by
    obtain ⟨st, en⟩ := rb_st hw w0 (j := j) (by omega) hq h1 (by omega)
    refine vh_GoodsBookModel_bitsAt_94_52 ?_
    rw [fl_wi (x := (h : Int)) (by omega) (by omega), fl_wi (x := (j : Int)) (by omega) (by omega)]
    refine ⟨fun hc => by omega, fun _ => ?_⟩
    have inner : ∀ (d i : Nat), i + d = w → ∀ N, hd_GoodsBookModel_bitsAt_94_62 (cm_pg X xs) N H ((q % 4 : Nat) : Int) ((q / 4 : Nat) : Int) (w : Int) (h : Int) ((rb w q j i : Nat) : Int) (j : Int) (i : Int) (fun r H' => r = some ((cvb w h q : Nat) : Int) ∧ H' = H) := by
      intro d
      induction d with
      | zero =>
        intro i hi N
        have e : i = w := by omega
        subst e
        refine vh_GoodsBookModel_bitsAt_94_62 ⟨fun _ m hm => ?_, fun hc => absurd (Int.le_refl _) hc⟩
        have ek : (j : Int) + 1 = ((j + 1 : Nat) : Int) := by omega
        rw [ek, en]
        exact rc_bloop hw w0 hh hq h1 h2 f (j + 1) (by omega) m
      | succ d ih =>
        intro i hi N
        refine vh_GoodsBookModel_bitsAt_94_62 ?_
        rw [fl_wi (x := (w : Int)) (by omega) (by omega), fl_wi (x := (i : Int)) (by omega) (by omega), st i (by omega)]
        refine ⟨fun hc => by omega, fun _ m hm => ?_⟩
        have ek : (i : Int) + 1 = ((i + 1 : Nat) : Int) := by omega
        rw [ek]
        exact ih (i + 1) (by omega) m
    exact inner w 0 (by omega) N
theorem rb_00 {w q : Nat} : ((rb w q 0 0 : Nat) : Int) = 0 := by
  unfold rb
  show (((0 <<< q) ||| ((2 ^ 0 - 1) <<< (4 * 0 + q)) : Nat) : Int) = 0
  simp
theorem rc_bits {m g s q : Nat} {H : fl_H} {e1 e2 e3 : Int} (hw : wf (H 95)) (hg : (g : Int) < H 95 1) (hs : s < 2) (hq : q < 16) (h1 : e1 = (g : Int)) (h2 : e2 = (s : Int)) (h3 : e3 = (q : Int)) : ck (cm_pg X xs) m cm_m170 [.index 94, fl_t e1, fl_t e2, fl_t e3] H (fun r H' => r = some ((cvb (H 95 (16 + 8 * g + 3 * s)).toNat (H 95 (17 + 8 * g + 3 * s)).toNat q : Nat) : Int) ∧ H' = H) := by
  have g6 : g < 6 := by have := hw.1.2.2.2.1; omega
  obtain ⟨-, -, a1, a2⟩ := wf_are hw hg hs
  obtain ⟨w, ew⟩ : ∃ w : Nat, H 95 (16 + 8 * g + 3 * s) = (w : Int) := ⟨(H 95 (16 + 8 * g + 3 * s)).toNat, by omega⟩
  obtain ⟨h, eh⟩ : ∃ h : Nat, H 95 (17 + 8 * g + 3 * s) = (h : Int) := ⟨(H 95 (17 + 8 * g + 3 * s)).toNat, by omega⟩
  have w5 : w < 5 := by omega
  have w1 : 1 ≤ w := by omega
  have h5 : h < 5 := by omega
  clear a1 a2
  obtain ⟨r1, r2⟩ := cv_rd q hq
  have q1 := q4lt q hq
  rw [ew, eh, Int.toNat_natCast, Int.toNat_natCast]
  refine ve_GoodsBookModel_bitsAt_94 (fun m1 hm => ck_mono (rc_wide (X := X) (xs := xs) g6 hs h1 h2) (fun r H1 k1 => ⟨_, k1.1, fun m' hm' => ?_⟩))
  rw [k1.2]
  refine ck_mono (rc_high (X := X) (xs := xs) g6 hs h1 h2) (fun r H4 k4 => ⟨_, k4.1, ?_⟩)
  rw [k4.2, ew, eh, h3, r1, r2, fl_ws q1.1 (Nat.lt_of_lt_of_le w5 (by decide)), fl_ws q1.2 (Nat.lt_of_lt_of_le h5 (by decide))]
  refine ⟨fun hc => ⟨?_, rfl⟩, fun hc => ⟨fun hd => by
    have k := rc_bloop (X := X) (xs := xs) (H := H) w5 w1 h5 hq (nge4 hc) (nle4 hd) h 0 (Nat.zero_add h) m
    rw [rb_00] at k
    exact k, fun hd => ⟨?_, rfl⟩⟩⟩
  · unfold cvb
    rw [if_neg (fun k => nlt4 hc k.1)]; rfl
  · unfold cvb
    rw [if_neg (fun k => nnle4 hd k.2)]; rfl
theorem rc_digit {m code g : Nat} {H : fl_H} {e1 e2 : Int} (hc : code < 729) (hg : g < 7) (h1 : e1 = (code : Int)) (h2 : e2 = (g : Int)) : ck (cm_pg X xs) m cm_m169 [fl_t e1, fl_t e2] H (fun r H' => r = some ((dig code g : Nat) : Int) ∧ H' = H) := by
  subst h1; subst h2
  have key : ∀ (f k : Nat), k + f = g → ∀ N, hd_GoodsBookModel_digitOf_4 (cm_pg X xs) N H (g : Int) ((code / 3 ^ k : Nat) : Int) (k : Int) (fun r H' => r = some ((dig code g : Nat) : Int) ∧ H' = H) := by
    intro f
    induction f with
    | zero =>
      intro k hk N
      have e : k = g := by omega
      subst e
      obtain ⟨d1, d2⟩ := fn_dr (code / 3 ^ k) (Nat.lt_of_le_of_lt (Nat.div_le_self _ _) hc)
      refine vh_GoodsBookModel_digitOf_4 ⟨fun _ => ⟨by rw [d1]; rfl, rfl⟩, fun hh => absurd (Int.le_refl _) hh⟩
    | succ f ih =>
      intro k hk N
      obtain ⟨d1, d2⟩ := fn_dr (code / 3 ^ k) (Nat.lt_of_le_of_lt (Nat.div_le_self _ _) hc)
      have e3 : code / 3 ^ k / 3 = code / 3 ^ (k + 1) := by rw [Nat.div_div_eq_div_mul, Nat.pow_succ]
      have ek : (k : Int) + 1 = ((k + 1 : Nat) : Int) := by omega
      refine vh_GoodsBookModel_digitOf_4 ?_
      rw [d2, e3, ek, fl_wi (x := (g : Int)) (by omega) (by omega), fl_wi (x := (k : Int)) (by omega) (by omega)]
      exact ⟨fun hh => by omega, fun _ m hm => ih (k + 1) (by omega) m⟩
  have e0 : code / 3 ^ 0 = code := by rw [Nat.pow_zero, Nat.div_one]
  have := key g 0 (by omega) m
  rw [e0] at this
  exact ve_GoodsBookModel_digitOf this
theorem rc_areaC {m code : Nat} {H : fl_H} (hw : wf (H 95)) (h7 : code < 729) (hc : zcd (H 95) code) : ck (cm_pg X xs) m cm_m172 [.index 94, fl_t (code : Int)] H (fun r H' => r = some (mar (zA (H 95) code) (zM code) 6) ∧ H' = H) := by
  obtain ⟨-, -, z1, z2, -⟩ := id hw.1
  obtain ⟨n, hn⟩ : ∃ n : Nat, H 95 1 = (n : Int) := ⟨(H 95 1).toNat, by omega⟩
  have key : ∀ (f k : Nat), k + f = n → ∀ N, hd_GoodsBookModel_areaOfCode_94_4 (cm_pg X xs) N H (code : Int) (mar (zA (H 95) code) (zM code) k) (k : Int) (fun r H' => r = some (mar (zA (H 95) code) (zM code) 6) ∧ H' = H) := by
    intro f
    induction f with
    | zero =>
      intro k hk N
      have e : k = n := by omega
      subst e
      refine vh_GoodsBookModel_areaOfCode_94_4 ?_
      rw [hn]
      refine ⟨fun _ => ⟨?_, rfl⟩, fun hh => absurd (Int.le_refl _) hh⟩
      congr 1
      refine (psm_ext (m := k) (n := 6) (by omega) (fun i h1 h2 => ?_)).symm
      rw [if_neg (fun hm => by have := hc i h2 hm; omega)]
    | succ f ih =>
      intro k hk N
      have ek : (k : Int) + 1 = ((k + 1 : Nat) : Int) := by omega
      have st : mar (zA (H 95) code) (zM code) (k + 1) = mar (zA (H 95) code) (zM code) k + (if zM code k = true then zA (H 95) code k else 0) := rfl
      refine vh_GoodsBookModel_areaOfCode_94_4 ?_
      rw [hn, fl_wi (x := (n : Int)) (by omega) (by omega), fl_wi (x := (k : Int)) (by omega) (by omega)]
      refine ⟨fun hh => by omega, fun _ m hm => ck_mono (rc_digit (X := X) (xs := xs) h7 (g := k) (by omega) rfl rfl) (fun r H2 h2 => ⟨_, h2.1, ?_⟩)⟩
      have e2 := h2.2
      subst e2
      have d3 := dig_lt code k
      rw [fl_wi (x := ((dig code k : Nat) : Int)) (by omega) (by omega), ek]
      refine ⟨fun h0 m hm => ?_, fun h0 m hm => ck_mono (rc_area (X := X) (xs := xs) (g := k) (s := dig code k - 1) (by omega) (by omega) rfl (by omega)) (fun r H9 h9 => ⟨_, h9.1, fun m hm => ?_⟩)⟩
      · rw [if_neg (fun hm => by have := zM_t.mp hm; omega)] at st
        have := ih (k + 1) (by omega) m
        rw [st] at this
        exact this
      · rw [if_pos (zM_t.mpr (by omega))] at st
        have e9 := h9.2
        subst e9
        have := ih (k + 1) (by omega) m
        rw [st] at this
        exact this
  exact ve_GoodsBookModel_areaOfCode_94 (key n 0 (by omega) m)
-- ---- the laying
theorem plF_congr {B : Nat → Nat → Nat} {M M' : Nat → Bool} {t s : Nat} (h : ∀ g, g < 6 → M g = M' g) : plF B M t s ↔ plF B M' t s :=
  ⟨fun ⟨pos, p1, p2⟩ => ⟨pos, fun g hg hm => p1 g hg (by rw [h g hg]; exact hm), fun g k hg hk hm km => p2 g k hg hk (by rw [h g hg]; exact hm) (by rw [h k hk]; exact km)⟩, fun ⟨pos, p1, p2⟩ => ⟨pos, fun g hg hm => p1 g hg (by rw [← h g hg]; exact hm), fun g k hg hk hm km => p2 g k hg hk (by rw [← h g hg]; exact hm) (by rw [← h k hk]; exact km)⟩⟩
/-- a good by itself, then the others -/
theorem plF_good {B : Nat → Nat → Nat} {M : Nat → Bool} {t g : Nat} (hg : g < 6) (hm : M g = true) : plF B M t 0 ↔ ∃ q, q < 16 ∧ B g q ≠ 0 ∧ dj (B g q) t ∧ plF B (mdel M g) (t ||| B g q) 0 := by
  constructor
  · rintro ⟨pos, p1, p2⟩
    obtain ⟨-, b, c, d⟩ := p1 g hg hm
    refine ⟨pos g, b, c, d, pos, fun k hk km => ?_, fun k l hk hl km lm hkl => p2 k l hk hl (mdel_ne km).2 (mdel_ne lm).2 hkl⟩
    obtain ⟨kg, km'⟩ := mdel_ne km
    obtain ⟨-, b', c', d'⟩ := p1 k hk km'
    exact ⟨by omega, b', c', dj_or.mpr ⟨d', p2 k g hk hg km' hm kg⟩⟩
  · rintro ⟨q, hq, c, d, pos, p1, p2⟩
    refine ⟨pup pos g q, fun k hk km => ?_, fun k l hk hl km lm hkl => ?_⟩
    · by_cases e : k = g
      · subst e
        rw [pup_at]
        exact ⟨by omega, hq, c, d⟩
      · rw [pup_ne _ _ e]
        obtain ⟨a', b', c', d'⟩ := p1 k hk (mdel_of km e)
        exact ⟨by omega, b', c', (dj_or.mp d').1⟩
    · by_cases e : k = g
      · subst e
        rw [pup_at, pup_ne _ _ (fun hh => hkl hh.symm)]
        obtain ⟨-, -, -, d'⟩ := p1 l hl (mdel_of lm (fun hh => hkl hh.symm))
        exact dj_comm (dj_or.mp d').2
      · by_cases e' : l = g
        · subst e'
          rw [pup_at, pup_ne _ _ e]
          obtain ⟨-, -, -, d'⟩ := p1 k hk (mdel_of km e)
          exact (dj_or.mp d').2
        · rw [pup_ne _ _ e, pup_ne _ _ e']
          exact p2 k l hk hl (mdel_of km e) (mdel_of lm e') hkl
/-- goods of a code from one on -/
def mge (code b : Nat) : Nat → Bool := fun g => zM code g && Nat.ble b g
/-- a square can't be a good's, those ahead of it lying on t -/
def bad (z : Nat → Int) (code g t q : Nat) : Prop := ¬ (zB z code g q ≠ 0 ∧ dj (zB z code g q) t ∧ plF (zB z code) (mge code (g + 1)) (t ||| zB z code g q) 0)
/-- what those of a code ahead of a good cover, laid by pos -/
def cvr (z : Nat → Int) (code : Nat) (pos : Nat → Nat) (g : Nat) : Nat := uni (zB z code) (zM code) pos 0 g
/-- the first laying -/
def frst (z : Nat → Int) (code : Nat) (pos : Nat → Nat) : Prop := ∀ g, g < 6 → zM code g = true → pos g < 16 ∧ ¬ bad z code g (cvr z code pos g) (pos g) ∧ ∀ q, q < pos g → bad z code g (cvr z code pos g) q
theorem uni_congr {B : Nat → Nat → Nat} {M : Nat → Bool} {pos pos' : Nat → Nat} {t : Nat} : ∀ {n : Nat}, (∀ g, g < n → M g = true → pos g = pos' g) → uni B M pos t n = uni B M pos' t n
  | 0, _ => rfl
  | n + 1, h => by
    show (if M n = true then uni B M pos t n ||| B n (pos n) else uni B M pos t n) = (if M n = true then uni B M pos' t n ||| B n (pos' n) else uni B M pos' t n)
    rw [uni_congr (n := n) (fun g hg hm => h g (by omega) hm)]
    by_cases hm : M n = true
    · rw [if_pos hm, if_pos hm, h n (by omega) hm]
    · rw [if_neg hm, if_neg hm]
/-- there is but one -/
theorem frst_uniq {z : Nat → Int} {code : Nat} {pos pos' : Nat → Nat} (h : frst z code pos) (k : frst z code pos') : ∀ g, g < 6 → zM code g = true → pos g = pos' g := by
  intro g
  induction g using Nat.strongRecOn with
  | ind g ih =>
    intro hg hm
    have e : cvr z code pos g = cvr z code pos' g := uni_congr (fun i hi him => ih i hi (by omega) him)
    obtain ⟨a1, a2, a3⟩ := h g hg hm
    obtain ⟨b1, b2, b3⟩ := k g hg hm
    rw [← e] at b2 b3
    rcases Nat.lt_trichotomy (pos g) (pos' g) with hl | hl | hl
    · exact absurd (b3 _ hl) a2
    · exact hl
    · exact absurd (a3 _ hl) b2
/-- a list of a code's goods, as they come -/
def lso (code K : Nat) (l : Nat → Nat) : Prop := K ≤ 6 ∧ (∀ j, j < K → l j < 6 ∧ zM code (l j) = true) ∧ (∀ i j, i < j → j < K → l i < l j) ∧ ∀ g, g < 6 → zM code g = true → ∃ j, j < K ∧ l j = g
def lbo (K : Nat) (l : Nat → Nat) (k : Nat) : Nat := if k < K then l k else 6
theorem lso_inj {code K : Nat} {l : Nat → Nat} (h : lso code K l) {i j : Nat} (hi : i < K) (hj : j < K) (e : l i = l j) : i = j := by
  rcases Nat.lt_trichotomy i j with hl | hl | hl
  · have := h.2.2.1 i j hl hj; omega
  · exact hl
  · have := h.2.2.1 j i hl hi; omega
theorem lso_nx {code K : Nat} {l : Nat → Nat} (h : lso code K l) {k : Nat} (hk : k < K) : ∀ g, g < 6 → mge code (l k + 1) g = mge code (lbo K l (k + 1)) g := by
  intro g hg
  unfold mge
  cases hm : zM code g
  · rfl
  · have key : l k + 1 ≤ g ↔ lbo K l (k + 1) ≤ g := by
      unfold lbo
      obtain ⟨j, hj, e⟩ := h.2.2.2 g hg hm
      by_cases h1 : k + 1 < K
      · rw [if_pos h1]
        have := h.2.2.1 k (k + 1) (by omega) h1
        constructor
        · intro q
          have hkj : k < j := by
            rcases Nat.lt_trichotomy j k with hl | hl | hl
            · have := h.2.2.1 j k hl hk; omega
            · rw [hl] at e; omega
            · exact hl
          rcases Nat.lt_trichotomy (k + 1) j with hl | hl | hl
          · have := h.2.2.1 (k + 1) j hl hj; omega
          · rw [hl]; omega
          · omega
        · omega
      · rw [if_neg h1]
        have hjk : j ≤ k := by omega
        rcases Nat.lt_trichotomy j k with hl | hl | hl
        · have := h.2.2.1 j k hl hk; omega
        · rw [hl] at e; omega
        · omega
    by_cases q : l k + 1 ≤ g
    · rw [Nat.ble_eq_true_of_le q, Nat.ble_eq_true_of_le (key.mp q)]
    · have q2 : ¬ lbo K l (k + 1) ≤ g := fun hh => q (key.mpr hh)
      have f1 : Nat.ble (l k + 1) g = false := by
        cases hb : Nat.ble (l k + 1) g
        · rfl
        · exact absurd (Nat.le_of_ble_eq_true hb) q
      have f2 : Nat.ble (lbo K l (k + 1)) g = false := by
        cases hb : Nat.ble (lbo K l (k + 1)) g
        · rfl
        · exact absurd (Nat.le_of_ble_eq_true hb) q2
      rw [f1, f2]
/-- the next good on the list, on t -/
theorem lso_plF {z : Nat → Int} {code K t : Nat} {l : Nat → Nat} (h : lso code K l) {k : Nat} (hk : k < K) : plF (zB z code) (mge code (lbo K l k)) t 0 ↔ ∃ q, q < 16 ∧ ¬ bad z code (l k) t q := by
  obtain ⟨g6, gm⟩ := h.2.1 k hk
  have el : lbo K l k = l k := if_pos hk
  have hm : mge code (lbo K l k) (l k) = true := by
    unfold mge
    rw [gm, el, Nat.ble_eq_true_of_le (Nat.le_refl _)]; rfl
  have cg : ∀ u, plF (zB z code) (mdel (mge code (lbo K l k)) (l k)) u 0 ↔ plF (zB z code) (mge code (l k + 1)) u 0 := fun u => plF_congr (fun g hg => by
    unfold mdel mge
    rw [el]
    by_cases e : g = l k
    · rw [if_pos e, e]
      have f1 : Nat.ble (l k + 1) (l k) = false := by
        cases hb : Nat.ble (l k + 1) (l k)
        · rfl
        · exact absurd (Nat.le_of_ble_eq_true hb) (by omega)
      rw [f1, Bool.and_false]
    · rw [if_neg e]
      by_cases q : l k + 1 ≤ g
      · rw [Nat.ble_eq_true_of_le q, Nat.ble_eq_true_of_le (show l k ≤ g by omega)]
      · have f1 : Nat.ble (l k + 1) g = false := by
          cases hb : Nat.ble (l k + 1) g
          · rfl
          · exact absurd (Nat.le_of_ble_eq_true hb) q
        have f2 : Nat.ble (l k) g = false := by
          cases hb : Nat.ble (l k) g
          · rfl
          · exact absurd (Nat.le_of_ble_eq_true hb) (by omega)
        rw [f1, f2])
  rw [plF_good g6 hm]
  constructor
  · rintro ⟨q, hq, a, b, c⟩
    exact ⟨q, hq, fun hb => hb ⟨a, b, (cg _).mp c⟩⟩
  · rintro ⟨q, hq, hb⟩
    obtain ⟨a, b, c⟩ := Classical.not_not.mp hb
    exact ⟨q, hq, a, b, (cg _).mpr c⟩
end
end
