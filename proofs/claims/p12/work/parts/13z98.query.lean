noncomputable section
/-! L3: what a plan that is put in comes to: share, gain, keeps, amount. -/
section
variable {X : Term} {xs : List Int32}
theorem fl_wb {x : Int} (h1 : -2000000000 ≤ x) (h2 : x ≤ 2000000000) : fl_w x = x := fl_w_id (by omega) (by omega)
theorem psm_bd {f : Nat → Int} {M : Int} {n : Nat} (h : ∀ i, i < n → 0 ≤ f i ∧ f i ≤ M) : 0 ≤ psm f n ∧ psm f n ≤ (n : Int) * M := by
  have h1 := psm_le (f := fun _ => 0) (g := f) (n := n) (fun i hi => (h i hi).1)
  have h2 := psm_le (f := f) (g := fun _ => M) (n := n) (fun i hi => (h i hi).2)
  rw [psm_const] at h1 h2
  exact ⟨by omega, h2⟩
theorem ncr_bd (r : Nat → Nat) (p : Nat) : 0 ≤ ncr r p ∧ ncr r p ≤ 6 := by
  have h := psm_bd (f := fun g => fcr p g (r g)) (M := 1) (n := 6) (fun i _ => by
    (try dsimp only)
    unfold fcr
    by_cases h : r i ≠ 0 ∧ pgn (r i) = p
    · rw [if_pos h]; omega
    · rw [if_neg h]; omega)
  unfold ncr
  omega
theorem nri_bd (z : Nat → Int) (r : Nat → Nat) (f : Int) : 0 ≤ nri z r f ∧ nri z r f ≤ 6 := by
  have h := psm_bd (f := fun g => fri z f g (r g)) (M := 1) (n := 6) (fun i _ => by
    (try dsimp only)
    unfold fri
    by_cases h : r i ≠ 0 ∧ zknd z i = 2 ∧ zfam z i = f
    · rw [if_pos h]; omega
    · rw [if_neg h]; omega)
  unfold nri
  omega
theorem rok_in {z : Nat → Int} {r : Nat → Nat} (h : rok z r) {g : Nat} (hg : g < 6) (hr : r g ≠ 0) : (g : Int) < z 1 := by
  by_cases e : z 1 ≤ (g : Int)
  · exact absurd ((h g hg).2 e) hr
  · omega
theorem nfi_bd {z : Nat → Int} {r : Nat → Nat} (hw : wf z) (h : rok z r) (p : Nat) : 0 ≤ nfi z r p ∧ nfi z r p ≤ 96 := by
  have h := psm_bd (f := fun g => ffi z p g (r g)) (M := 16) (n := 6) (fun i hi => by
    (try dsimp only)
    unfold ffi
    by_cases c : r i ≠ 0 ∧ pgn (r i) = p
    · rw [if_pos c]
      have := wf_are hw (rok_in h hi c.1) (szn_lt (r i))
      omega
    · rw [if_neg c]; omega)
  unfold nfi
  omega
theorem rok_pg {z : Nat → Int} {r : Nat → Nat} (hw : wf z) (h : rok z r) {g : Nat} (hg : g < 6) (hr : r g ≠ 0) : ((pgn (r g) : Nat) : Int) < z 0 ∧ pgn (r g) < 3 ∧ r g < 7 := by
  have h1 := (h g hg).1
  have h2 := hw.1.2.1
  unfold pgn
  omega
theorem zpl_bd {z : Nat → Int} {r : Nat → Nat} (hw : wf z) (h : rok z r) {g : Nat} (hg : g < 6) (hr : r g ≠ 0) : 0 ≤ zpl z r g ∧ zpl z r g ≤ 59940 := by
  obtain ⟨s1, s2⟩ := wf_sal hw (rok_in h hg hr) (szn_lt (r g))
  obtain ⟨v1, v2⟩ := wf_vw hw (rok_pg hw h hg hr).2.1
  unfold zpl
  have := Int.mul_le_mul s2 v2 v1 (by omega)
  have := Int.mul_nonneg s1 v1
  omega
theorem zmx_bd {z : Nat → Int} (hw : wf z) {g : Nat} (hg : (g : Int) < z 1) : 1 ≤ zmx z g ∧ zmx z g ≤ 16 := by
  have a0 := wf_are hw hg (show 0 < 2 by decide)
  have a1 := wf_are hw hg (show 1 < 2 by decide)
  unfold zmx
  omega
theorem zop_bd {z : Nat → Int} (hw : wf z) : ∀ o, o ≤ (z 1).toNat → 0 ≤ zop z (z 1).toNat o ∧ zop z (z 1).toNat o ≤ 16 * (o : Int)
  | 0, _ => ⟨Int.le_refl _, by show (0 : Int) ≤ 16 * 0; omega⟩
  | o + 1, h => by
    obtain ⟨h1, h2⟩ := zop_bd hw o (by omega)
    have h3 := zmx_bd hw (g := (z 1).toNat - (o + 1)) (by omega)
    show 0 ≤ zop z (z 1).toNat o + zmx z ((z 1).toNat - (o + 1)) ∧ zop z (z 1).toNat o + zmx z ((z 1).toNat - (o + 1)) ≤ 16 * ((o + 1 : Nat) : Int)
    omega
/-- the draft knows the squares that goods from one on can have -/
def mo (z : Nat → Int) (H : fl_H) : Prop := ∀ o, o ≤ (z 1).toNat → H 78 ((z 1).toNat - o) = zop z (z 1).toNat o
theorem dr_pg {z : Nat → Int} {r : Nat → Nat} {H : fl_H} (hd : dr z r H) {g : Nat} (hg : g < 6) : H 72 g = (if r g = 0 then -1 else ((pgn (r g) : Nat) : Int)) := (hd.2.1 g hg).2.1
theorem dc_share {m g o : Nat} {z : Nat → Int} {r : Nat → Nat} {H : fl_H} {e1 e2 : Int} (h : dz z H) (hw : wf z) (hd : dr z r H) (hm : mo z H) (hg : (g : Int) < z 1) (hr : r g ≠ 0) (ho : o ≤ (z 1).toNat) (h1 : e1 = (g : Int)) (h2 : e2 = (o : Int)) : ck (cm_pg X xs) m cm_m21 [.index 69, fl_t e1, fl_t e2] H (fun r' H' => r' = some (zsh z r g o) ∧ H' = H) := by
  subst h1; subst h2
  have z6 : z 1 ≤ 6 := hw.1.2.2.2.1
  have g6 : g < 6 := by omega
  obtain ⟨k1, k2⟩ := wf_knd hw hg
  obtain ⟨p1, p2, p3⟩ := rok_pg hw hd.1 g6 hr
  obtain ⟨b1, b2⟩ := nfi_bd hw hd.1 (pgn (r g))
  obtain ⟨c1, c2⟩ := zop_bd hw o ho
  obtain ⟨d1, d2⟩ := nri_bd z r (zfam z g)
  obtain ⟨i1, i2, i3⟩ := hd.2.1 g g6
  obtain ⟨s1, s2, s3⟩ := hd.2.2.1 (pgn (r g)) p2
  obtain ⟨l1, l2⟩ := zpl_bd hw hd.1 g6 hr
  rw [if_neg hr] at i2
  have i3 := i3 hr
  obtain ⟨f, hf⟩ : ∃ f : Nat, zfam z g = (f : Int) := ⟨(zfam z g).toNat, by omega⟩
  have q77 : H 77 f = nri z r (zfam z g) := by rw [hf]; exact hd.2.2.2 f (by omega)
  refine ve_Draft_share_69 ?_
  rw [fl_wi (x := (g : Int)) (by omega) (by omega), Int.toNat_natCast, gz_kd h.1 g6, gz_fm h.1 g6, gz_1 h.1, gz_4 h.1, i2, i3, fl_wi (x := zknd z g) (by omega) (by omega), hf, fl_wi (x := (f : Int)) (by omega) (by omega), fl_wi (x := ((pgn (r g) : Nat) : Int)) (by omega) (by omega), Int.toNat_natCast, Int.toNat_natCast, s1, s2, h.2.2 _ p1, q77, fl_wi (x := nri z r (zfam z g)) (by omega) (by omega), fl_wi (x := nfi z r (pgn (r g))) (by omega) (by omega), fl_wi (x := z 1 - (o : Int)) (by omega) (by omega)]
  have e78 : (z 1 - (o : Int)).toNat = (z 1).toNat - o := by omega
  rw [e78, hm o ho, fl_wi (x := nfi z r (pgn (r g)) + zop z (z 1).toNat o) (by omega) (by omega)]
  unfold zsh
  refine fun _ _ => ⟨fun q _ _ _ => ⟨by rw [if_pos q], rfl⟩, fun q _ _ => ⟨fun c _ => ⟨by rw [if_neg (by omega), if_pos q, if_neg (by omega)], rfl⟩, fun c _ => ⟨?_, rfl⟩⟩, fun q _ => ⟨fun c _ => ⟨by rw [if_neg (by omega), if_neg (by omega), if_pos q, if_neg (by omega)], rfl⟩, fun c _ _ => ⟨fun c2 _ => ⟨by rw [if_neg (by omega), if_neg (by omega), if_pos q, if_neg (by omega)], rfl⟩, fun c2 _ => ⟨by rw [if_neg (by omega), if_neg (by omega), if_pos q, if_pos (by omega)], rfl⟩⟩⟩, fun q _ => ⟨by rw [if_neg (by omega), if_neg (by omega), if_neg (by omega)], rfl⟩⟩
  rw [if_neg (by omega), if_pos q, if_pos (by omega)]
  unfold fl_div
  rw [fl_wi (x := zpl z r g) (by omega) (by omega), fl_wi (x := nri z r (zfam z g)) (by omega) (by omega)]
/-- the goods of a bond -/
theorem wf_bd {z : Nat → Int} (hw : wf z) {b : Nat} (hb : (b : Int) < z 2) : b < 12 ∧ (z (69 + 4 * b)).toNat < 6 ∧ (z (70 + 4 * b)).toNat < 6 ∧ ((z (69 + 4 * b)).toNat : Int) = z (69 + 4 * b) ∧ ((z (70 + 4 * b)).toNat : Int) = z (70 + 4 * b) ∧ (0 ≤ z (68 + 4 * b) ∧ z (68 + 4 * b) ≤ 5) ∧ (-99 ≤ z (71 + 4 * b) ∧ z (71 + 4 * b) ≤ 99) ∧ (3 ≤ z (68 + 4 * b) → z (71 + 4 * b) = 0) := by
  obtain ⟨a1, a2, a3, a4, a5, a6⟩ := hw.2.2.2 b hb
  obtain ⟨-, -, -, w1, -, w2⟩ := hw.1
  exact ⟨by omega, by omega, by omega, by omega, by omega, a1, a5, a6⟩
theorem dc_gain {m b : Nat} {z : Nat → Int} {r : Nat → Nat} {H : fl_H} (h : dz z H) (hw : wf z) (hd : dr z r H) (hb : (b : Int) < z 2) : ck (cm_pg X xs) m cm_m24 [.index 69, fl_t (b : Int)] H (fun r' H' => r' = some (zga z r b) ∧ H' = H) := by
  obtain ⟨b12, x6, y6, ex, ey, kd, ex2, ex3⟩ := wf_bd hw hb
  obtain ⟨x, hx⟩ : ∃ x : Nat, x = (z (69 + 4 * b)).toNat := ⟨_, rfl⟩
  obtain ⟨y, hy⟩ : ∃ y : Nat, y = (z (70 + 4 * b)).toNat := ⟨_, rfl⟩
  rw [← hx] at x6 ex
  rw [← hy] at y6 ey
  have ix := dr_pg hd x6
  have iy := dr_pg hd y6
  refine ve_Draft_gain_69 ?_
  rw [fl_wi (x := (b : Int)) (by omega) (by omega), Int.toNat_natCast, gz_ba h.1 b12, gz_bb h.1 b12, gz_bk h.1 b12, gz_be h.1 b12, ← ex, ← ey, fl_wi (x := (x : Int)) (by omega) (by omega), fl_wi (x := (y : Int)) (by omega) (by omega), Int.toNat_natCast, Int.toNat_natCast, ix, iy, fl_wi (x := z (68 + 4 * b)) (by omega) (by omega)]
  unfold zga
  rw [← hx, ← hy]
  by_cases rx : r x = 0
  · rw [if_pos rx, if_pos (Or.inl rx)]
    exact fun _ _ _ _ => ⟨fun _ => ⟨rfl, rfl⟩, fun hh => absurd (show fl_w (-1) = -1 from rfl) hh⟩
  · by_cases ry : r y = 0
    · obtain ⟨p1, p2, p3⟩ := rok_pg hw hd.1 x6 rx
      rw [if_neg rx, if_pos ry, if_pos (Or.inr ry), fl_wi (x := ((pgn (r x) : Nat) : Int)) (by omega) (by omega)]
      exact fun _ _ _ _ => ⟨fun hh => by omega, fun _ => ⟨fun _ => ⟨rfl, rfl⟩, fun hh => absurd (show fl_w (-1) = -1 from rfl) hh⟩⟩
    · obtain ⟨p1, p2, p3⟩ := rok_pg hw hd.1 x6 rx
      obtain ⟨q1, q2, q3⟩ := rok_pg hw hd.1 y6 ry
      obtain ⟨v1, v2⟩ := wf_vw hw p2
      obtain ⟨u1, u2⟩ := wf_vw hw q2
      rw [if_neg rx, if_neg ry, if_neg (fun hh => hh.elim rx ry), fl_wi (x := ((pgn (r x) : Nat) : Int)) (by omega) (by omega), fl_wi (x := ((pgn (r y) : Nat) : Int)) (by omega) (by omega), Int.toNat_natCast, Int.toNat_natCast, h.2.2 _ p1, h.2.2 _ q1, fl_wi (x := zvw z (pgn (r x))) (by omega) (by omega), fl_wi (x := zvw z (pgn (r y))) (by omega) (by omega), fl_wi (x := min ((pgn (r x) : Nat) : Int) ((pgn (r y) : Nat) : Int)) (by omega) (by omega), fl_wi (x := max ((pgn (r x) : Nat) : Int) ((pgn (r y) : Nat) : Int)) (by omega) (by omega)]
      refine fun _ _ _ _ => ⟨fun hh => by omega, fun _ => ⟨fun hh => by omega, fun _ _ => ⟨fun k0 => ⟨fun e => ⟨fun k1 => by omega, fun _ _ _ _ => ⟨?_, rfl⟩⟩, fun e => ⟨?_, rfl⟩⟩, fun k0 => ⟨fun k1 => ⟨fun m1 => ⟨fun m2 _ _ _ => ⟨?_, rfl⟩, fun m2 => ⟨?_, rfl⟩⟩, fun m1 => ⟨?_, rfl⟩⟩, fun k1 _ _ _ => ⟨?_, rfl⟩⟩⟩⟩⟩
      · rw [if_neg (fun hh => hh.2 (by omega)), if_neg (fun hh => by omega)]
      · rw [if_pos ⟨k0, fun hh => e (by omega)⟩]
      · rw [if_neg (fun hh => by omega), if_neg (fun hh => by omega)]
      · rw [if_neg (fun hh => by omega), if_pos ⟨k1, by omega⟩]
      · rw [if_neg (fun hh => by omega), if_pos ⟨k1, by omega⟩]
      · rw [if_neg (fun hh => by omega), if_neg (fun hh => by omega)]
theorem dc_keeps {m b : Nat} {z : Nat → Int} {r : Nat → Nat} {H : fl_H} (h : dz z H) (hw : wf z) (hd : dr z r H) (hb : (b : Int) < z 2) : ck (cm_pg X xs) m cm_m25 [.index 69, fl_t (b : Int)] H (fun r' H' => r' = some (fl_b (zke z r b)) ∧ H' = H) := by
  obtain ⟨b12, x6, y6, ex, ey, kd, ex2, ex3⟩ := wf_bd hw hb
  obtain ⟨x, hx⟩ : ∃ x : Nat, x = (z (69 + 4 * b)).toNat := ⟨_, rfl⟩
  obtain ⟨y, hy⟩ : ∃ y : Nat, y = (z (70 + 4 * b)).toNat := ⟨_, rfl⟩
  rw [← hx] at x6 ex
  rw [← hy] at y6 ey
  have ix := dr_pg hd x6
  have iy := dr_pg hd y6
  have yes : zke z r b → (some 1 : Option Int) = some (fl_b (zke z r b)) ∧ H = H := fun hp => ⟨by rw [fl_b1 hp], rfl⟩
  have no : ¬ zke z r b → (some 0 : Option Int) = some (fl_b (zke z r b)) ∧ H = H := fun hp => ⟨by rw [fl_b0 hp], rfl⟩
  have ke : zke z r b ↔ (r x = 0 ∨ (z (68 + 4 * b) = 3 → r y ≠ 0) ∧ (r y ≠ 0 → (z (68 + 4 * b) = 4 → pgn (r x) ≠ pgn (r y)) ∧ (z (68 + 4 * b) = 5 → pgn (r x) < pgn (r y)))) := by
    unfold zke
    rw [← hx, ← hy]
  refine ve_Draft_keeps_69 ?_
  rw [fl_wi (x := (b : Int)) (by omega) (by omega), Int.toNat_natCast, gz_ba h.1 b12, gz_bb h.1 b12, gz_bk h.1 b12, ← ex, ← ey, fl_wi (x := (x : Int)) (by omega) (by omega), fl_wi (x := (y : Int)) (by omega) (by omega), Int.toNat_natCast, Int.toNat_natCast, ix, iy, fl_wi (x := z (68 + 4 * b)) (by omega) (by omega)]
  by_cases rx : r x = 0
  · rw [if_pos rx]
    exact fun _ _ _ _ _ => ⟨fun _ => yes (ke.mpr (Or.inl rx)), fun hh => absurd (show fl_w (-1) = -1 from rfl) hh⟩
  · by_cases ry : r y = 0
    · obtain ⟨p1, p2, p3⟩ := rok_pg hw hd.1 x6 rx
      rw [if_neg rx, if_pos ry, fl_wi (x := ((pgn (r x) : Nat) : Int)) (by omega) (by omega)]
      exact fun _ _ _ _ _ => ⟨fun hh => by omega, fun _ => ⟨fun _ => ⟨fun k3 => no (fun q => (ke.mp q).elim rx (fun q => q.1 k3 ry)), fun k3 => yes (ke.mpr (Or.inr ⟨fun hh => absurd hh k3, fun hh => absurd ry hh⟩))⟩, fun hh => absurd (show fl_w (-1) = -1 from rfl) hh⟩⟩
    · obtain ⟨p1, p2, p3⟩ := rok_pg hw hd.1 x6 rx
      obtain ⟨q1, q2, q3⟩ := rok_pg hw hd.1 y6 ry
      rw [if_neg rx, if_neg ry, fl_wi (x := ((pgn (r x) : Nat) : Int)) (by omega) (by omega), fl_wi (x := ((pgn (r y) : Nat) : Int)) (by omega) (by omega)]
      exact fun _ _ _ _ _ => ⟨fun hh => by omega, fun _ => ⟨fun hh => by omega, fun _ => ⟨fun k4 => ⟨fun e => no (fun q => (ke.mp q).elim rx (fun q => (q.2 ry).1 k4 (by omega))), fun e => yes (ke.mpr (Or.inr ⟨fun _ => ry, fun _ => ⟨fun _ hh => e (by omega), fun k5 => by omega⟩⟩))⟩, fun k4 => ⟨fun k5 => ⟨fun e => no (fun q => (ke.mp q).elim rx (fun q => by have := (q.2 ry).2 k5; omega)), fun e => yes (ke.mpr (Or.inr ⟨fun _ => ry, fun _ => ⟨fun hh => absurd hh k4, fun _ => by omega⟩⟩))⟩, fun k5 => yes (ke.mpr (Or.inr ⟨fun _ => ry, fun _ => ⟨fun hh => absurd hh k4, fun hh => absurd hh k5⟩⟩))⟩⟩⟩⟩
/-- what is brought, by goods that are decided -/
theorem dc_brought {m d : Nat} {z : Nat → Int} {r : Nat → Nat} {H : fl_H} {e1 : Int} (h : dz z H) (hw : wf z) (hd : dr z r H) (hm0 : mo z H) (hdd : d ≤ (z 1).toNat) (he : e1 = (d : Int)) : ck (cm_pg X xs) m cm_m20 [.index 69, fl_t e1] H (fun r' H' => r' = some (zbr z r d) ∧ H' = H) := by
  subst he
  obtain ⟨z01, z02, z11, z12, -⟩ := hw.1
  obtain ⟨n, hn⟩ : ∃ n : Nat, z 1 = (n : Int) := ⟨(z 1).toNat, by omega⟩
  obtain ⟨P, hP⟩ : ∃ P : Nat, z 0 = (P : Int) := ⟨(z 0).toNat, by omega⟩
  have en : (z 1).toNat = n := by omega
  have eP : (z 0).toNat = P := by omega
  -- the pages
  have pg : ∀ (f k : Nat), k + f = P → ∀ (N : Nat) (S : Int), hd_Draft_brought_69_49 (cm_pg X xs) N H S (psm (fun p => if 0 < ncr r p then 1 else 0) k) (k : Int) (fun r' H' => r' = some (S - 60 * (zus z r * z 5 + (zus z r + 1).tdiv 2 * z 6)) ∧ H' = H) := by
    intro f
    induction f with
    | zero =>
      intro k hk N S
      have e : k = P := by omega
      subst e
      have ez : zus z r = psm (fun p => if 0 < ncr r p then 1 else 0) k := by unfold zus; rw [eP]
      obtain ⟨b1, b2⟩ := psm_bd (f := fun p => if 0 < ncr r p then 1 else 0) (M := 1) (n := k) (fun i _ => by
        (try dsimp only)
        by_cases c : 0 < ncr r i
        · rw [if_pos c]; omega
        · rw [if_neg c]; omega)
      refine vh_Draft_brought_69_49 ?_
      rw [h.2.1, hP]
      refine ⟨fun _ => ⟨?_, rfl⟩, fun hh => absurd (Int.le_refl _) hh⟩
      unfold fl_div
      rw [gz_5 h.1, gz_6 h.1, ez, fl_wi (x := psm (fun p => if 0 < ncr r p then 1 else 0) k + 1) (by omega) (by omega), w_2]
    | succ f ih =>
      intro k hk N S
      have ek : (k : Int) + 1 = ((k + 1 : Nat) : Int) := by omega
      obtain ⟨c1, c2⟩ := ncr_bd r k
      refine vh_Draft_brought_69_49 ?_
      rw [h.2.1, hP, fl_wi (x := (P : Int)) (by omega) (by omega), fl_wi (x := (k : Int)) (by omega) (by omega), Int.toNat_natCast, (hd.2.2.1 k (by omega)).1, fl_wi (x := ncr r k) (by omega) (by omega), ek]
      have st : psm (fun p => if 0 < ncr r p then 1 else 0) (k + 1) = psm (fun p => if 0 < ncr r p then 1 else 0) k + (if 0 < ncr r k then 1 else 0) := rfl
      refine ⟨fun hh => by omega, fun _ _ => ⟨fun c m hm => ?_, fun c m hm => ?_⟩⟩
      · rw [if_neg (by omega), Int.add_zero] at st
        rw [← st]
        exact ih (k + 1) (by omega) m S
      · rw [if_pos (by omega)] at st
        rw [← st]
        exact ih (k + 1) (by omega) m S
  -- the goods
  have gd : ∀ (f k : Nat), k + f = d → ∀ (N : Nat), hd_Draft_brought_69_4 (cm_pg X xs) N H (d : Int) (psm (fun g => if r g = 0 then 0 else zsh z r g ((z 1).toNat - d)) k) (k : Int) (fun r' H' => r' = some (zbr z r d) ∧ H' = H) := by
    intro f
    induction f with
    | zero =>
      intro k hk N
      have e : k = d := by omega
      subst e
      refine vh_Draft_brought_69_4 ⟨fun _ => ?_, fun hh => absurd (Int.le_refl _) hh⟩
      exact pg P 0 (by omega) N _
    | succ f ih =>
      intro k hk N
      have ek : (k : Int) + 1 = ((k + 1 : Nat) : Int) := by omega
      have k6 : k < 6 := by omega
      obtain ⟨i1, i2, i3⟩ := hd.2.1 k k6
      have rk := (hd.1 k k6).1
      refine vh_Draft_brought_69_4 ?_
      rw [fl_wi (x := (d : Int)) (by omega) (by omega), fl_wi (x := (k : Int)) (by omega) (by omega), Int.toNat_natCast, i1, fl_wi (x := ((r k : Nat) : Int)) (by omega) (by omega), gz_1 h.1, ek]
      have st : psm (fun g => if r g = 0 then 0 else zsh z r g ((z 1).toNat - d)) (k + 1) = psm (fun g => if r g = 0 then 0 else zsh z r g ((z 1).toNat - d)) k + (if r k = 0 then 0 else zsh z r k ((z 1).toNat - d)) := rfl
      refine ⟨fun hh => by omega, fun _ _ => ⟨fun c m hm => ?_, fun c m hm => ck_mono (dc_share (X := X) (xs := xs) (g := k) (o := (z 1).toNat - d) h hw hd hm0 (by omega) (by omega) (by omega) rfl (by omega)) (fun r7 H7 h7 => ⟨_, h7.1, fun m' hm' => ?_⟩)⟩⟩
      · rw [if_pos (by omega), Int.add_zero] at st
        rw [← st]
        exact ih (k + 1) (by omega) m
      · rw [if_neg (by omega)] at st
        rw [← st, h7.2]
        exact ih (k + 1) (by omega) m'
  exact ve_Draft_brought_69 (gd d 0 (by omega) m)
theorem dc_amount {m : Nat} {z : Nat → Int} {r : Nat → Nat} {H : fl_H} (h : dz z H) (hw : wf z) (hd : dr z r H) (hm : mo z H) : ck (cm_pg X xs) m cm_m19 [.index 69] H (fun r' H' => r' = some (zwo z r) ∧ H' = H) := by
  obtain ⟨z01, z02, z11, z12, z21, z22⟩ := hw.1
  obtain ⟨B, hB⟩ : ∃ B : Nat, z 2 = (B : Int) := ⟨(z 2).toNat, by omega⟩
  have eB : (z 2).toNat = B := by omega
  have bd : ∀ (f k : Nat), k + f = B → ∀ (N : Nat), hd_Draft_amount_69_17 (cm_pg X xs) N H (zbr z r (z 1).toNat + psm (zga z r) k) (k : Int) (fun r' H' => r' = some (zwo z r) ∧ H' = H) := by
    intro f
    induction f with
    | zero =>
      intro k hk N
      have e : k = B := by omega
      subst e
      refine vh_Draft_amount_69_17 ?_
      rw [gz_2 h.1, hB]
      exact ⟨fun _ => ⟨by unfold zwo; rw [eB], rfl⟩, fun hh => absurd (Int.le_refl _) hh⟩
    | succ f ih =>
      intro k hk N
      have ek : (k : Int) + 1 = ((k + 1 : Nat) : Int) := by omega
      refine vh_Draft_amount_69_17 ?_
      rw [gz_2 h.1, hB, fl_wi (x := (B : Int)) (by omega) (by omega), fl_wi (x := (k : Int)) (by omega) (by omega), ek]
      refine ⟨fun hh => by omega, fun _ m hm => ck_mono (dc_gain (X := X) (xs := xs) (b := k) h hw hd (by omega)) (fun r2 H2 h2 => ⟨_, h2.1, fun m' hm' => ?_⟩)⟩
      rw [h2.2, Int.add_assoc]
      exact ih (k + 1) (by omega) m'
  refine ve_Draft_amount_69 (fun m' hm' => ck_mono (dc_brought (X := X) (xs := xs) (d := (z 1).toNat) h hw hd hm (Nat.le_refl _) (by rw [gz_1 h.1]; omega)) (fun r1 H1 h1 => ⟨_, h1.1, ?_⟩))
  rw [h1.2]
  have := bd B 0 (by omega) m
  rw [show psm (zga z r) 0 = 0 from rfl, Int.add_zero] at this
  exact this
end
end
