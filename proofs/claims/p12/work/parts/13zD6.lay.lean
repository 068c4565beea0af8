noncomputable section
/-! L3: the first laying, in the class. -/
section
variable {X : Term} {xs : List Int32}
theorem fd_largerM {m code L : Nat} {M : Nat → Bool} {z : Nat → Int} {H : fl_H} (h : fm z H) (hw : wf z) (hc : zcd z code) (hp : fp code H) (hM : ∀ g, g < 6 → M g = true → zM code g = true) (hL : rep L M) : ck (cm_pg X xs) m cm_m40 [.index 64, fl_t (L : Int)] H (fun r H' => H' = H ∧ ∃ L' : Nat, r = some (L' : Int) ∧ rep L' (fun g => M g && !(decide (zA z code g = 1)))) := by
  have key : ∀ (f k : Nat), k + f = 6 → ∀ (N : Nat) (Lk : Nat), Lk < 64 → (∀ g, g < 6 → Lk.testBit g = if g < k then M g && !(decide (zA z code g = 1)) else M g) → hd_Floor_larger_64_4 (cm_pg X xs) N H (L : Int) (Lk : Int) (k : Int) (fun r H' => H' = H ∧ ∃ L' : Nat, r = some (L' : Int) ∧ rep L' (fun g => M g && !(decide (zA z code g = 1)))) := by
    intro f
    induction f with
    | zero =>
      intro k hk N Lk hl h1
      have e : k = 6 := by omega
      subst e
      exact vh_Floor_larger_64_4 ⟨fun _ => ⟨rfl, Lk, rfl, hl, fun g hg => by rw [h1 g hg, if_pos hg]⟩, fun h => absurd (show (6 : Int) ≤ fl_w ((6 : Nat) : Int) by decide) h⟩
    | succ f ih =>
      intro k hk N Lk hl h1
      have k6 : k < 6 := by omega
      have ek : (k : Int) + 1 = ((k + 1 : Nat) : Int) := by omega
      refine vh_Floor_larger_64_4 ?_
      rw [fn_bit (t := L) (i := k) (by have := hL.1; omega) (by omega), hL.2 k k6, ek, fl_wi (x := (k : Int)) (by omega) (by omega), Int.toNat_natCast]
      refine ⟨fun h => by omega, fun _ => ⟨fun h0 m hm => ?_, fun h0 _ => ?_⟩⟩
      · have hz : M k = false := by
          cases hb : M k
          · rfl
          · rw [hb, if_pos rfl] at h0; exact absurd h0 (by decide)
        refine ih (k + 1) (by omega) m Lk hl (fun g hg => ?_)
        rw [h1 g hg]
        by_cases e : g = k
        · rw [e, if_neg (by omega), if_pos (by omega), hz]; rfl
        · by_cases hlk : g < k
          · rw [if_pos hlk, if_pos (by omega)]
          · rw [if_neg hlk, if_neg (by omega)]
      · have hz : M k = true := by
          cases hb : M k
          · rw [hb, if_neg (by decide)] at h0; exact absurd rfl h0
          · rfl
        have hzc := hM k k6 hz
        have d3 := dig_lt code k
        have ar := wf_are hw (hc k k6 hzc) (show dig code k - 1 < 2 by omega)
        rw [hp k k6 hzc, fl_wi (x := ((2 * k + (dig code k - 1) : Nat) : Int)) (by omega) (by omega), Int.toNat_natCast, zA_fm h hc k6 hzc, fl_wi (x := zA z code k) (by unfold zA; omega) (by unfold zA; omega)]
        refine fun _ => ⟨fun h2 m hm => ?_, fun h2 m hm => ?_⟩
        · obtain ⟨s1, s2, s3⟩ := rp_clr Lk hl k k6
          rw [s1]
          refine ih (k + 1) (by omega) m _ s2 (fun g hg => ?_)
          rw [s3 g hg, h1 g hg]
          by_cases e : g = k
          · rw [if_pos e, e, if_pos (by omega), h2]; simp
          · rw [if_neg e]
            by_cases hlk : g < k
            · rw [if_pos hlk, if_pos (by omega)]
            · rw [if_neg hlk, if_neg (by omega)]
        · refine ih (k + 1) (by omega) m Lk hl (fun g hg => ?_)
          rw [h1 g hg]
          by_cases e : g = k
          · rw [e, if_neg (by omega), if_pos (by omega), hz]; simp [h2]
          · by_cases hlk : g < k
            · rw [if_pos hlk, if_pos (by omega)]
            · rw [if_neg hlk, if_neg (by omega)]
  exact ve_Floor_larger_64 (key 6 0 rfl m L hL.1 (fun g hg => by rw [hL.2 g hg, if_neg (by omega)]))
abbrev mlg (z : Nat → Int) (code : Nat) (M : Nat → Bool) : Nat → Bool := fun g => M g && !(decide (zA z code g = 1))
theorem plF_sub {B : Nat → Nat → Nat} {M M' : Nat → Bool} {t s : Nat} (h : ∀ g, g < 6 → M' g = true → M g = true) (k : plF B M t s) : plF B M' t s := by
  obtain ⟨pos, p1, p2⟩ := k
  exact ⟨pos, fun g hg hm => p1 g hg (h g hg hm), fun g l hg hl mg ml ne => p2 g l hg hl (h g hg mg) (h l hl ml) ne⟩
theorem fre_pop (t : Nat) : fre t 0 = 16 - pop t := by
  have k : dj t 0 := fun i _ h => by rw [Nat.zero_testBit] at h; exact absurd h (by decide)
  have := fre_or (s := 0) k (fun i _ => Nat.zero_le i)
  rw [Nat.zero_or, fre_all] at this
  omega
theorem mge_zM {code b g : Nat} (h : mge code b g = true) : zM code g = true := (Bool.and_eq_true_iff.mp h).1
theorem ble_f {a b : Nat} (h : ¬ a ≤ b) : Nat.ble a b = false := by
  cases hb : Nat.ble a b
  · rfl
  · exact absurd (Nat.le_of_ble_eq_true hb) h
theorem mge_at (code k : Nat) : mge code k k = zM code k := by
  unfold mge
  rw [Nat.ble_eq_true_of_le (Nat.le_refl k), Bool.and_true]
theorem mge_del (code k g : Nat) : mdel (mge code k) k g = mge code (k + 1) g := by
  unfold mdel mge
  by_cases e : g = k
  · rw [if_pos e, e, ble_f (by omega), Bool.and_false]
  · rw [if_neg e]
    by_cases q : k + 1 ≤ g
    · rw [Nat.ble_eq_true_of_le q, Nat.ble_eq_true_of_le (show k ≤ g by omega)]
    · rw [ble_f q, ble_f (show ¬ k ≤ g by omega)]
theorem mge_skip {code k : Nat} (h : zM code k = false) (g : Nat) : mge code k g = mge code (k + 1) g := by
  unfold mge
  by_cases e : g = k
  · rw [e, h]; rfl
  · by_cases q : k + 1 ≤ g
    · rw [Nat.ble_eq_true_of_le q, Nat.ble_eq_true_of_le (show k ≤ g by omega)]
    · rw [ble_f q, ble_f (show ¬ k ≤ g by omega)]
theorem zB_lt {z : Nat → Int} {code k q : Nat} (hw : wf z) (hc : zcd z code) (k6 : k < 6) (hm : zM code k = true) (hq : q < 16) : zB z code k q < 65536 := by
  have d3 := dig_lt code k
  have ar := wf_are hw (hc k k6 hm) (show dig code k - 1 < 2 by omega)
  exact (cv_all (w := (z (16 + 8 * k + 3 * (dig code k - 1))).toNat) (by omega) (by omega) (h := (z (17 + 8 * k + 3 * (dig code k - 1))).toNat) (by omega) (by omega) hq).1
theorem fd_first {m code k t L : Nat} {z : Nat → Int} {H : fl_H} (h : fm z H) (hw : wf z) (hc : zcd z code) (hp : fp code H) (k6 : k < 6) (hm : zM code k = true) (ht : t < 65536) (hL : rep L (mlg z code (mge code (k + 1)))) (hfr : mar (zA z code) (mge code k) 6 ≤ fre t 0) (hex : ∃ q, q < 16 ∧ ¬ bad z code k t q) : ck (cm_pg X xs) m cm_m37 [.index 64, fl_t (k : Int), fl_t (t : Int), fl_t (L : Int)] H (fun r H' => H' = H ∧ ∃ p : Nat, p < 16 ∧ r = some (p : Int) ∧ ¬ bad z code k t p ∧ ∀ q, q < p → bad z code k t q) := by
  have hB := zgB hw hc
  have M1 : ∀ g, g < 6 → mge code (k + 1) g = true → zM code g = true := fun g _ hg => mge_zM hg
  have M2 : ∀ g, g < 6 → mlg z code (mge code (k + 1)) g = true → zM code g = true := fun g _ hg => mge_zM (Bool.and_eq_true_iff.mp hg).1
  have d3 := dig_lt code k
  have key : ∀ (f q : Nat), q + f = 16 → ∀ (N : Nat), (∀ j, j < q → bad z code k t j) → hd_Floor_firstSquare_64_3 (cm_pg X xs) N H (k : Int) (t : Int) (L : Int) (q : Int) (fun r H' => H' = H ∧ ∃ p : Nat, p < 16 ∧ r = some (p : Int) ∧ ¬ bad z code k t p ∧ ∀ q, q < p → bad z code k t q) := by
    intro f
    induction f with
    | zero =>
      intro q hq N hb
      obtain ⟨q', a, b⟩ := hex
      exact absurd (hb q' (by omega)) b
    | succ f ih =>
      intro q hq N hb
      have q16 : q < 16 := by omega
      have bl := zB_lt hw hc k6 hm q16
      have ei : (((2 * k + (dig code k - 1) : Nat) : Int) * 16 + (q : Int)).toNat = (2 * k + (dig code k - 1)) * 16 + q := by omega
      refine vh_Floor_firstSquare_64_3 ?_
      rw [fl_wi (x := (q : Int)) (by omega) (by omega), fl_wi (x := (k : Int)) (by omega) (by omega), Int.toNat_natCast, hp k k6 hm, fl_wi (x := ((2 * k + (dig code k - 1) : Nat) : Int) * 16 + (q : Int)) (by omega) (by omega), ei, zB_fm h hc k6 hm q16, fl_wi (x := ((zB z code k q : Nat) : Int)) (by omega) (by omega), fn_and (a := zB z code k q) (b := t) (by omega) (by omega), fn_or (a := t) (b := zB z code k q) (by omega) (by omega), show ((q : Int) + 1) = ((q + 1 : Nat) : Int) by omega]
      have al : zB z code k q &&& t ≤ zB z code k q := Nat.and_le_left
      rw [fl_wi (x := ((zB z code k q &&& t : Nat) : Int)) (by omega) (by omega)]
      have nxt : ∀ m', bad z code k t q → hd_Floor_firstSquare_64_3 (cm_pg X xs) m' H (k : Int) (t : Int) (L : Int) ((q + 1 : Nat) : Int) (fun r H' => H' = H ∧ ∃ p : Nat, p < 16 ∧ r = some (p : Int) ∧ ¬ bad z code k t p ∧ ∀ q, q < p → bad z code k t q) := fun m' hq' => ih (q + 1) (by omega) m' (fun j hj => by
        by_cases e : j = q
        · rw [e]; exact hq'
        · exact hb j (by omega))
      refine ⟨fun hh => by omega, fun _ _ _ => ⟨fun h1 m' _ => nxt m' (fun hh => hh.1 (by omega)), fun h1 => ⟨fun h2 m' _ => ?_, fun h2 m' _ => nxt m' (fun hh => absurd (dj_iff.mpr hh.2.1) (by omega))⟩⟩⟩
      have hb0 : zB z code k q ≠ 0 := by omega
      have hdj : dj (zB z code k q) t := dj_iff.mp (by omega)
      have tl : t ||| zB z code k q < 65536 := Nat.or_lt_two_pow (n := 16) ht bl
      obtain ⟨c1, c2⟩ := (hB k k6 hm q q16).2 hb0
      have f1 := fre_or (s := 0) hdj (fun i _ => Nat.zero_le i)
      rw [c2] at f1
      have f3 := mar_del (A := zA z code) (M := mge code k) (g := k) (by rw [mge_at]; exact hm) k6
      have f4 : mar (zA z code) (mdel (mge code k) k) 6 = mar (zA z code) (mge code (k + 1)) 6 := psm_congr (fun i _ => by rw [mge_del])
      refine ck_mono (fn_count (X := X) (xs := xs) tl) (fun r8 H8 h8 => ⟨_, h8.1, fun m1 _ => ?_⟩)
      rw [h8.2]
      refine ck_mono (fd_area (X := X) (xs := xs) h hw hc hp M2 hL) (fun r11 H11 h11 => ⟨_, h11.2, fun m2 _ => ?_⟩)
      rw [h11.1]
      have call := fd_can (X := X) (xs := xs) h hw hc hp m2 (t ||| zB z code k q) L 0 (mlg z code (mge code (k + 1))) (16 - pop (t ||| zB z code k q) - mar (zA z code) (mlg z code (mge code (k + 1))) 6) tl hL M2 (by omega) (by rw [fre_pop])
      refine ck_mono call (fun r15 H15 h15 => ⟨_, h15.2, ?_⟩)
      rw [h15.1, fb_0]
      have iff : plF (zB z code) (mlg z code (mge code (k + 1))) (t ||| zB z code k q) 0 ↔ plF (zB z code) (mge code (k + 1)) (t ||| zB z code k q) 0 := by
        refine ⟨fun hh => plF_large (gB_sub hB M1) (fun g hg hm' => zone hw hc g hg (M1 g hg hm')) (fun g hg hm' => ?_) (by omega) hh, fun hh => plF_sub (fun g _ hg => (Bool.and_eq_true_iff.mp hg).1) hh⟩
        have d3' := dig_lt code g
        have ar := wf_are hw (hc g hg (M1 g hg hm')) (show dig code g - 1 < 2 by omega)
        unfold zA; omega
      exact ⟨fun hh m' _ => nxt m' (fun hh' => hh (iff.mpr hh'.2.2)), fun hh => ⟨rfl, q, q16, rfl, fun hh' => hh' ⟨hb0, hdj, iff.mp (Classical.not_not.mp hh)⟩, hb⟩⟩
  exact ve_Floor_firstSquare_64 (key 16 0 rfl m (fun j hj => absurd hj (by omega)))
def lyP (z : Nat → Int) (code : Nat) (H : fl_H) (r : Option Int) (H' : fl_H) : Prop := r = some (fl_b (zfit z code)) ∧ (∀ c, c ≠ 65 → c ≠ 68 → c ≠ 87 → H' c = H c) ∧ kn z H' ∧ (zfit z code → ∃ pos : Nat → Nat, frst z code pos ∧ ∀ g, g < 6 → zM code g = true → H' 87 g = ((pos g : Nat) : Int))
theorem fd_lay {m code : Nat} {z : Nat → Int} {H : fl_H} (h : fm z H) (hw : wf z) (hk : kn z H) (h7 : code < 729) (hc : zcd z code) : ck (cm_pg X xs) m cm_m36 [.index 64, fl_t (code : Int), .index 87] H (lyP z code H) := by
  have hB := zgB hw hc
  refine ve_Floor_lay_64_87 (fun m1 _ => ck_mono (fd_lies (X := X) (xs := xs) h hw hk h7 hc) (fun r1 H1 h1 => ⟨_, h1.1, ?_⟩))
  obtain ⟨-, o1, k1⟩ := h1
  rw [fb_0]
  refine ⟨fun q => ⟨by rw [fl_b0 q], fun c a b _ => o1 c (by unfold pL; omega), k1, fun y => absurd y q⟩, fun q m2 _ => ?_⟩
  have y : zfit z code := Classical.not_not.mp q
  have f1 : fm z H1 := fun g hg s hs => by rw [o1 67 (by unfold pL; omega), o1 66 (by unfold pL; omega)]; exact h g hg s hs
  refine ck_mono (fd_pick (X := X) (xs := xs) h7) (fun r5 H5 h5 => ?_)
  obtain ⟨L0, e5, rL0, p5, o5⟩ := h5
  refine ⟨_, e5, ?_⟩
  have f5 : fm z H5 := fun g hg s hs => by rw [o5 67 (by omega), o5 66 (by omega)]; exact f1 g hg s hs
  have key : ∀ (f k : Nat), k + f = 6 → ∀ (N L t : Nat) (pos : Nat → Nat) (G : fl_H), (∀ c, c ≠ 87 → G c = H5 c) → rep L (mge code k) → t = cvr z code pos k → t < 65536 → plF (zB z code) (mge code k) t 0 → (∀ g, g < k → zM code g = true → (pos g < 16 ∧ ¬ bad z code g (cvr z code pos g) (pos g) ∧ ∀ q, q < pos g → bad z code g (cvr z code pos g) q) ∧ G 87 g = ((pos g : Nat) : Int)) → hd_Floor_lay_64_87_22 (cm_pg X xs) N G (L : Int) (t : Int) (k : Int) (lyP z code H) := by
    intro f
    induction f with
    | zero =>
      intro k hk N L t pos G hG rL et tl pl ha
      have e6 : k = 6 := by omega
      subst e6
      refine vh_Floor_lay_64_87_22 ⟨fun _ => ⟨by rw [fl_b1 y], fun c a b d => ?_, fun c' a b => ?_, fun _ => ⟨pos, fun g hg hm => (ha g hg hm).1, fun g hg hm => (ha g hg hm).2⟩⟩, fun hh => absurd (show (6 : Int) ≤ fl_w ((6 : Nat) : Int) by decide) hh⟩
      · rw [hG c d, o5 c b, o1 c (by unfold pL; omega)]
      · rw [hG 65 (by omega), o5 65 (by omega)]; exact k1 c' a b
    | succ f ih =>
      intro k hk N L t pos G hG rL et tl pl ha
      have k6 : k < 6 := by omega
      refine vh_Floor_lay_64_87_22 ?_
      rw [fn_bit (t := L) (i := k) (by have := rL.1; omega) (by omega), rL.2 k k6, mge_at, fl_wi (x := (k : Int)) (by omega) (by omega), Int.toNat_natCast, show ((k : Int) + 1) = ((k + 1 : Nat) : Int) by omega]
      refine ⟨fun hh => by omega, fun _ => ⟨fun h0 m' _ => ?_, fun h0 m' _ => ?_⟩⟩
      · have hz : zM code k = false := by
          cases hb : zM code k
          · rfl
          · rw [hb, if_pos rfl] at h0; exact absurd h0 (by decide)
        refine ih (k + 1) (by omega) m' L t pos G hG ⟨rL.1, fun g hg => by rw [rL.2 g hg, mge_skip hz]⟩ ?_ tl ((plF_congr (fun g _ => mge_skip hz g)).mp pl) (fun g hg hm => ?_)
        · rw [et]
          show _ = if zM code k = true then _ else uni (zB z code) (zM code) pos 0 k
          rw [if_neg (by rw [hz]; decide)]; rfl
        · by_cases e : g = k
          · rw [e, hz] at hm; exact absurd hm (by decide)
          · exact ha g (by omega) hm
      · have hz : zM code k = true := by
          cases hb : zM code k
          · rw [hb, if_neg (by decide)] at h0; exact absurd rfl h0
          · rfl
        have d3 := dig_lt code k
        obtain ⟨s1, s2, -⟩ := rp_clr L rL.1 k k6
        rw [s1]
        have hL' : rep (L &&& (63 ^^^ 2 ^ k)) (mge code (k + 1)) := ⟨(rep_del rL k6).1, fun g hg => by rw [(rep_del rL k6).2 g hg, mge_del]⟩
        have fG : fm z G := fun g hg s hs => by rw [hG 67 (by omega), hG 66 (by omega)]; exact f5 g hg s hs
        have pG : fp code G := fun g hg hm => by rw [hG 68 (by omega)]; exact p5 g hg hm
        refine ck_mono (fd_largerM (X := X) (xs := xs) fG hw hc pG (fun g _ hg => mge_zM hg) hL') (fun r6 H6 h6 => ?_)
        obtain ⟨e6, L3, q6, r6'⟩ := h6
        refine ⟨_, q6, fun m3 _ => ?_⟩
        rw [e6]
        have hcnt : mar (zA z code) (mge code k) 6 ≤ fre t 0 := plF_cnt (gB_sub hB (fun g _ hg => mge_zM hg)) pl
        have hex : ∃ q, q < 16 ∧ ¬ bad z code k t q := by
          obtain ⟨q', a, b, c, d⟩ := (plF_good k6 (by rw [mge_at]; exact hz)).mp pl
          exact ⟨q', a, fun hh => hh ⟨b, c, (plF_congr (fun g _ => mge_del code k g)).mp d⟩⟩
        refine ck_mono (fd_first (X := X) (xs := xs) fG hw hc pG k6 hz tl r6' hcnt hex) (fun r8 H8 h8 => ?_)
        obtain ⟨e8, p, p16, q8, nb, bb⟩ := h8
        refine ⟨_, q8, ?_⟩
        rw [e8]
        intro _ H11 e11 _ _
        have bl := zB_lt hw hc k6 hz p16
        have g68 : H11 68 k = ((2 * k + (dig code k - 1) : Nat) : Int) := by rw [e11, fl_up_cell _ _ _ _ (by omega)]; exact pG k k6 hz
        have g87 : H11 87 k = (p : Int) := by rw [e11, fl_up_at]
        have f11 : fm z H11 := fun g hg s hs => by rw [e11, fl_up_cell _ _ _ _ (by omega), fl_up_cell _ _ _ _ (by omega)]; exact fG g hg s hs
        have ei : (((2 * k + (dig code k - 1) : Nat) : Int) * 16 + (p : Int)).toNat = (2 * k + (dig code k - 1)) * 16 + p := by omega
        rw [g68, g87, fl_wi (x := ((2 * k + (dig code k - 1) : Nat) : Int) * 16 + (p : Int)) (by omega) (by omega), ei, zB_fm f11 hc k6 hz p16, fn_or (a := t) (b := zB z code k p) (by omega) (by omega)]
        intro _ m4 _
        obtain ⟨n1, n2, n3⟩ := Classical.not_not.mp nb
        have cv : ∀ g, g ≤ k → cvr z code (pup pos k p) g = cvr z code pos g := fun g hg => uni_congr (fun i hi _ => pup_ne pos p (by omega))
        refine ih (k + 1) (by omega) m4 _ _ (pup pos k p) H11 (fun c hc' => by rw [e11, fl_up_cell _ _ _ _ hc']; exact hG c hc') hL' ?_ (Nat.or_lt_two_pow (n := 16) tl bl) n3 (fun g hg hm => ?_)
        · show _ = if zM code k = true then uni (zB z code) (zM code) (pup pos k p) 0 k ||| zB z code k (pup pos k p k) else _
          rw [if_pos hz, pup_at, et]
          show _ = cvr z code (pup pos k p) k ||| _
          rw [cv k (Nat.le_refl k)]
        · by_cases e : g = k
          · rw [e, pup_at, cv k (Nat.le_refl k), ← et]
            exact ⟨⟨p16, nb, bb⟩, g87⟩
          · rw [pup_ne _ _ e, cv g (by omega)]
            refine ⟨(ha g (by omega) hm).1, ?_⟩
            rw [e11, fl_up_i _ _ _ _ e]
            exact (ha g (by omega) hm).2
  have m0 : ∀ g, mge code 0 g = zM code g := fun g => by
    unfold mge
    rw [Nat.ble_eq_true_of_le (Nat.zero_le g), Bool.and_true]
  exact key 6 0 rfl m L0 0 (fun _ => 0) H5 (fun _ _ => rfl) ⟨rL0.1, fun g hg => by rw [rL0.2 g hg, m0]⟩ rfl (by decide) ((plF_congr (fun g _ => (m0 g).symm)).mp y) (fun g hg => absurd hg (by omega))
end
end
