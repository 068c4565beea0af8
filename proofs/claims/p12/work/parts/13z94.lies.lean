noncomputable section
/-! L3: the class finds whether goods with sizes fit. -/
section
variable {X : Term} {xs : List Int32}
/-- the pieces of a code are in hand -/
def fp (code : Nat) (H : fl_H) : Prop := ∀ g, g < 6 → zM code g = true → H 68 g = ((2 * g + (dig code g - 1) : Nat) : Int)
theorem fn_dr : ∀ c : Nat, c < 729 → fl_rem (c : Int) 3 = ((c % 3 : Nat) : Int) ∧ fl_div (c : Int) 3 = ((c / 3 : Nat) : Int) := by decide +kernel
theorem zB_fm {z : Nat → Int} {H : fl_H} {code g q : Nat} (h : fm z H) (hc : zcd z code) (hg : g < 6) (hm : zM code g = true) (hq : q < 16) : H 66 ((2 * g + (dig code g - 1)) * 16 + q) = ((zB z code g q : Nat) : Int) := (h g (hc g hg hm) (dig code g - 1) (by have := dig_lt code g; omega)).2 q hq
theorem zA_fm {z : Nat → Int} {H : fl_H} {code g : Nat} (h : fm z H) (hc : zcd z code) (hg : g < 6) (hm : zM code g = true) : H 67 (2 * g + (dig code g - 1)) = zA z code g := (h g (hc g hg hm) (dig code g - 1) (by have := dig_lt code g; omega)).1
theorem fd_pick {m code : Nat} {H : fl_H} (hc : code < 729) : ck (cm_pg X xs) m cm_m39 [.index 64, fl_t (code : Int)] H (fun r H' => ∃ L : Nat, r = some (L : Int) ∧ rep L (zM code) ∧ fp code H' ∧ ∀ c, c ≠ 68 → H' c = H c) := by
  have key : ∀ (f k : Nat), k + f = 6 → ∀ (N : Nat) (G : fl_H) (L : Nat), L < 64 → (∀ g, g < 6 → L.testBit g = if g < k then zM code g else false) → (∀ g, g < k → zM code g = true → G 68 g = ((2 * g + (dig code g - 1) : Nat) : Int)) → (∀ c, c ≠ 68 → G c = H c) → hd_Floor_pick_64_7 (cm_pg X xs) N G (L : Int) ((code / 3 ^ k : Nat) : Int) (k : Int) (fun r H' => ∃ L : Nat, r = some (L : Int) ∧ rep L (zM code) ∧ fp code H' ∧ ∀ c, c ≠ 68 → H' c = H c) := by
    intro f
    induction f with
    | zero =>
      intro k hk N G L hL h1 h2 h3
      have e : k = 6 := by omega
      subst e
      refine vh_Floor_pick_64_7 ⟨fun _ => ⟨L, rfl, ⟨hL, fun g hg => by rw [h1 g hg, if_pos hg]⟩, fun g hg hm => h2 g hg hm, h3⟩, fun h => absurd (show (6 : Int) ≤ fl_w ((6 : Nat) : Int) by decide) h⟩
    | succ f ih =>
      intro k hk N G L hL h1 h2 h3
      have k6 : k < 6 := by omega
      have hlt : code / 3 ^ k < 729 := Nat.lt_of_le_of_lt (Nat.div_le_self _ _) hc
      obtain ⟨d1, d2⟩ := fn_dr (code / 3 ^ k) hlt
      have e3 : code / 3 ^ k / 3 = code / 3 ^ (k + 1) := by rw [Nat.div_div_eq_div_mul, Nat.pow_succ]
      have ek : (k : Int) + 1 = ((k + 1 : Nat) : Int) := by omega
      have hd : code / 3 ^ k % 3 = dig code k := rfl
      have d3 := dig_lt code k
      refine vh_Floor_pick_64_7 ?_
      rw [d1, d2, e3, ek, hd, fl_wi (x := (k : Int)) (by omega) (by omega), fl_wi (x := ((dig code k : Nat) : Int)) (by omega) (by omega), Int.toNat_natCast]
      refine ⟨fun h => by omega, fun _ => ⟨fun h0 m hm => ?_, fun h0 _ H6 e6 m hm => ?_⟩⟩
      · have hz : zM code k = false := by
          cases hb : zM code k
          · rfl
          · exact absurd (by omega : dig code k = 0) (zM_t.mp hb)
        refine ih (k + 1) (by omega) m G L hL (fun g hg => ?_) (fun g hg hm' => ?_) h3
        · rw [h1 g hg]
          by_cases e : g = k
          · rw [e, if_neg (by omega), if_pos (by omega), hz]
          · by_cases hl : g < k
            · rw [if_pos hl, if_pos (by omega)]
            · rw [if_neg hl, if_neg (by omega)]
        · by_cases e : g = k
          · rw [e, hz] at hm'; exact absurd hm' (by decide)
          · exact h2 g (by omega) hm'
      · obtain ⟨s1, s2, s3⟩ := rp_set L hL k k6
        have hz : zM code k = true := zM_t.mpr (by omega)
        rw [s1]
        refine ih (k + 1) (by omega) m H6 (L ||| 2 ^ k) s2 (fun g hg => ?_) (fun g hg hm' => ?_) (fun c hcc => by rw [e6, fl_up_cell _ _ _ _ hcc]; exact h3 c hcc)
        · rw [s3 g hg, h1 g hg]
          by_cases e : g = k
          · rw [if_pos e, e, if_pos (by omega), hz]
          · rw [if_neg e]
            by_cases hl : g < k
            · rw [if_pos hl, if_pos (by omega)]
            · rw [if_neg hl, if_neg (by omega)]
        · rw [e6]
          by_cases e : g = k
          · rw [e, fl_up_at]; omega
          · rw [fl_up_i _ _ _ _ e]; exact h2 g (by omega) hm'
  have e0 : code / 3 ^ 0 = code := by rw [Nat.pow_zero, Nat.div_one]
  have := key 6 0 rfl m H 0 (by decide) (fun g hg => by rw [Nat.zero_testBit, if_neg (by omega)]) (fun g hg => absurd hg (by omega)) (fun _ _ => rfl)
  rw [e0] at this
  exact ve_Floor_pick_64 this
theorem fd_larger {m code L : Nat} {z : Nat → Int} {H : fl_H} (h : fm z H) (hw : wf z) (hc : zcd z code) (hp : fp code H) (hL : rep L (zM code)) : ck (cm_pg X xs) m cm_m40 [.index 64, fl_t (L : Int)] H (fun r H' => H' = H ∧ ∃ L' : Nat, r = some (L' : Int) ∧ rep L' (fun g => zM code g && !(decide (zA z code g = 1)))) := by
  have key : ∀ (f k : Nat), k + f = 6 → ∀ (N : Nat) (Lk : Nat), Lk < 64 → (∀ g, g < 6 → Lk.testBit g = if g < k then zM code g && !(decide (zA z code g = 1)) else zM code g) → hd_Floor_larger_64_4 (cm_pg X xs) N H (L : Int) (Lk : Int) (k : Int) (fun r H' => H' = H ∧ ∃ L' : Nat, r = some (L' : Int) ∧ rep L' (fun g => zM code g && !(decide (zA z code g = 1)))) := by
    intro f
    induction f with
    | zero =>
      intro k hk N Lk hl h1
      have e : k = 6 := by omega
      subst e
      exact vh_Floor_larger_64_4 ⟨fun _ => ⟨rfl, Lk, rfl, hl, fun g hg => by rw [h1 g hg, if_pos hg]⟩, fun h => absurd (show (6 : Int) ≤ fl_w ((6 : Nat) : Int) by decide) h⟩
    | succ f ih =>
      intro k hk N Lk hl h1
      have k6 : k < 6 := by omega
      have ek : (k : Int) + 1 = ((k + 1 : Nat) : Int) := by omega
      refine vh_Floor_larger_64_4 ?_
      rw [fn_bit (t := L) (i := k) (by have := hL.1; omega) (by omega), hL.2 k k6, ek, fl_wi (x := (k : Int)) (by omega) (by omega), Int.toNat_natCast]
      refine ⟨fun h => by omega, fun _ => ⟨fun h0 m hm => ?_, fun h0 _ => ?_⟩⟩
      · have hz : zM code k = false := by
          cases hb : zM code k
          · rfl
          · rw [hb, if_pos rfl] at h0; exact absurd h0 (by decide)
        refine ih (k + 1) (by omega) m Lk hl (fun g hg => ?_)
        rw [h1 g hg]
        by_cases e : g = k
        · rw [e, if_neg (by omega), if_pos (by omega), hz]; rfl
        · by_cases hlk : g < k
          · rw [if_pos hlk, if_pos (by omega)]
          · rw [if_neg hlk, if_neg (by omega)]
      · have hz : zM code k = true := by
          cases hb : zM code k
          · rw [hb, if_neg (by decide)] at h0; exact absurd rfl h0
          · rfl
        have d3 := dig_lt code k
        have ar := wf_are hw (hc k k6 hz) (show dig code k - 1 < 2 by omega)
        rw [hp k k6 hz, fl_wi (x := ((2 * k + (dig code k - 1) : Nat) : Int)) (by omega) (by omega), Int.toNat_natCast, zA_fm h hc k6 hz, fl_wi (x := zA z code k) (by unfold zA; omega) (by unfold zA; omega)]
        refine fun _ => ⟨fun h2 m hm => ?_, fun h2 m hm => ?_⟩
        · obtain ⟨s1, s2, s3⟩ := rp_clr Lk hl k k6
          rw [s1]
          refine ih (k + 1) (by omega) m _ s2 (fun g hg => ?_)
          rw [s3 g hg, h1 g hg]
          by_cases e : g = k
          · rw [if_pos e, e, if_pos (by omega), h2]; simp
          · rw [if_neg e]
            by_cases hlk : g < k
            · rw [if_pos hlk, if_pos (by omega)]
            · rw [if_neg hlk, if_neg (by omega)]
        · refine ih (k + 1) (by omega) m Lk hl (fun g hg => ?_)
          rw [h1 g hg]
          by_cases e : g = k
          · rw [e, if_neg (by omega), if_pos (by omega), hz]; simp [h2]
          · by_cases hlk : g < k
            · rw [if_pos hlk, if_pos (by omega)]
            · rw [if_neg hlk, if_neg (by omega)]
  exact ve_Floor_larger_64 (key 6 0 rfl m L hL.1 (fun g hg => by rw [hL.2 g hg, if_neg (by omega)]))
theorem mar_bd {z : Nat → Int} {code : Nat} {M : Nat → Bool} (hw : wf z) (hc : zcd z code) (hM : ∀ g, g < 6 → M g = true → zM code g = true) : ∀ n, n ≤ 6 → 0 ≤ mar (zA z code) M n ∧ mar (zA z code) M n ≤ 16 * (n : Int)
  | 0, _ => ⟨Int.le_refl _, by show (0 : Int) ≤ 16 * 0; omega⟩
  | n + 1, hn => by
    obtain ⟨h1, h2⟩ := mar_bd hw hc hM n (by omega)
    show 0 ≤ mar (zA z code) M n + (if M n = true then zA z code n else 0) ∧ mar (zA z code) M n + (if M n = true then zA z code n else 0) ≤ 16 * ((n + 1 : Nat) : Int)
    by_cases hm : M n = true
    · have d3 := dig_lt code n
      have ar := wf_are hw (hc n (by omega) (hM n (by omega) hm)) (show dig code n - 1 < 2 by omega)
      rw [if_pos hm, show zA z code n = zare z n (dig code n - 1) from rfl]
      omega
    · rw [if_neg hm]
      omega
theorem fd_area {m code L : Nat} {M : Nat → Bool} {z : Nat → Int} {H : fl_H} (h : fm z H) (hw : wf z) (hc : zcd z code) (hp : fp code H) (hM : ∀ g, g < 6 → M g = true → zM code g = true) (hL : rep L M) : ck (cm_pg X xs) m cm_m41 [.index 64, fl_t (L : Int)] H (fun r H' => H' = H ∧ r = some (mar (zA z code) M 6)) := by
  have key : ∀ (f k : Nat), k + f = 6 → ∀ (N : Nat), hd_Floor_areaOf_64_4 (cm_pg X xs) N H (L : Int) (mar (zA z code) M k) (k : Int) (fun r H' => H' = H ∧ r = some (mar (zA z code) M 6)) := by
    intro f
    induction f with
    | zero =>
      intro k hk N
      have e : k = 6 := by omega
      subst e
      exact vh_Floor_areaOf_64_4 ⟨fun _ => ⟨rfl, rfl⟩, fun h => absurd (show (6 : Int) ≤ fl_w ((6 : Nat) : Int) by decide) h⟩
    | succ f ih =>
      intro k hk N
      have k6 : k < 6 := by omega
      have ek : (k : Int) + 1 = ((k + 1 : Nat) : Int) := by omega
      have st : mar (zA z code) M (k + 1) = mar (zA z code) M k + (if M k = true then zA z code k else 0) := rfl
      refine vh_Floor_areaOf_64_4 ?_
      rw [fn_bit (t := L) (i := k) (by have := hL.1; omega) (by omega), hL.2 k k6, ek, fl_wi (x := (k : Int)) (by omega) (by omega), Int.toNat_natCast]
      refine ⟨fun h => by omega, fun _ => ⟨fun h0 m hm => ?_, fun h0 _ => ?_⟩⟩
      · have hz : ¬ M k = true := fun hb => by rw [if_pos hb] at h0; exact absurd h0 (by decide)
        rw [if_neg hz] at st
        have := ih (k + 1) (by omega) m
        rw [st, Int.add_zero] at this
        exact this
      · have hz : M k = true := by
          cases hb : M k
          · rw [hb, if_neg (by decide)] at h0; exact absurd rfl h0
          · rfl
        have d3 := dig_lt code k
        rw [hp k k6 (hM k k6 hz), fl_wi (x := ((2 * k + (dig code k - 1) : Nat) : Int)) (by omega) (by omega), Int.toNat_natCast, zA_fm h hc k6 (hM k k6 hz)]
        rw [if_pos hz] at st
        refine fun _ m hm => ?_
        have := ih (k + 1) (by omega) m
        rw [st] at this
        exact this
  exact ve_Floor_areaOf_64 (key 6 0 rfl m)
theorem mar_del {A : Nat → Int} {M : Nat → Bool} {g : Nat} (hm : M g = true) : ∀ {n : Nat}, g < n → mar A (mdel M g) n + A g = mar A M n
  | 0, h => absurd h (by omega)
  | n + 1, h => by
    show mar A (mdel M g) n + (if mdel M g n = true then A n else 0) + A g = mar A M n + (if M n = true then A n else 0)
    by_cases e : g = n
    · subst e
      have e1 : mar A (mdel M g) g = mar A M g := psm_congr (fun i hi => by
        unfold mdel
        rw [if_neg (by omega : ¬ i = g)])
      have e2 : mdel M g g = false := if_pos rfl
      rw [e1, e2, if_neg (by decide), if_pos hm]
      omega
    · have ih := mar_del (A := A) hm (n := n) (by omega)
      have e2 : mdel M g n = M n := if_neg (fun hh => e hh.symm)
      rw [e2]
      omega
theorem fre_bit {t s : Nat} (ht : t.testBit s = true) : fre t (s + 1) = fre t s := psm_congr (fun i _ => by
  by_cases e : i = s
  · subst e
    try dsimp only
    rw [if_neg (fun q => absurd q.1 (by omega)), if_neg (fun q => by rw [ht] at q; exact absurd q.2 (by decide))]
  · try dsimp only
    by_cases h : s ≤ i ∧ t.testBit i = false
    · rw [if_pos h, if_pos ⟨by omega, h.2⟩]
    · rw [if_neg h, if_neg (fun q => h ⟨by omega, q.2⟩)])
theorem fre_le (t s : Nat) : fre t s ≤ 16 := by
  have h := psm_le (f := fun i => if s ≤ i ∧ t.testBit i = false then 1 else 0) (g := fun _ => 1) (n := 16) (fun i _ => by
    by_cases h : s ≤ i ∧ t.testBit i = false
    · (try dsimp only); rw [if_pos h]; omega
    · (try dsimp only); rw [if_neg h]; omega)
  rw [psm_const] at h
  unfold fre
  omega
/-- can goods that are left lie? -/
theorem fd_can {code : Nat} {z : Nat → Int} {H : fl_H} (h : fm z H) (hw : wf z) (hc : zcd z code) (hp : fp code H) : ∀ (N t L s : Nat) (M : Nat → Bool) (e : Int), t < 65536 → rep L M → (∀ g, g < 6 → M g = true → zM code g = true) → s ≤ 16 → e = fre t s - mar (zA z code) M 6 → ck (cm_pg X xs) N cm_m38 [.index 64, fl_t (t : Int), fl_t (L : Int), fl_t (s : Int), fl_t e] H (fun r H' => H' = H ∧ r = some (fl_b (plF (zB z code) M t s))) := by
  intro N
  induction N using Nat.strongRecOn with
  | ind N IH =>
    intro t L s M e ht hL hM hs he
    have hB : gB (zB z code) (zA z code) M := gB_sub (zgB hw hc) hM
    obtain ⟨mb1, mb2⟩ := mar_bd hw hc hM 6 (by omega)
    have yes : ∀ {P : Prop}, P → H = H ∧ (some 1 : Option Int) = some (fl_b P) := fun hp => ⟨rfl, by rw [fl_b1 hp]⟩
    have no : ∀ {P : Prop}, ¬ P → H = H ∧ (some 0 : Option Int) = some (fl_b P) := fun hp => ⟨rfl, by rw [fl_b0 hp]⟩
    -- the goods, at a free square
    have c43 : ∀ (s : Nat), s < 16 → t.testBit s = false → ∀ (e : Int), e = fre t s - mar (zA z code) M 6 → ∀ (n k : Nat), n ≤ N → k ≤ 6 → (∀ j, j < k → M j = true → zB z code j s ≠ 0 → dj (zB z code j s) t → ¬ plF (zB z code) (mdel M j) (t ||| zB z code j s) (s + 1)) → hd_Floor_canLie_64_43 (cm_pg X xs) n H (t : Int) (L : Int) e (s : Int) (k : Int) (fun r H' => H' = H ∧ r = some (fl_b (plF (zB z code) M t s))) := by
      intro s hs16 hts e he n
      induction n using Nat.strongRecOn with
      | ind n ih =>
        intro k hn hk hno
        have fr1 := fre_free hs16 hts
        have fl1 := fre_le t s
        have fn1 := fre_nn t s
        have es : (s : Int) + 1 = ((s + 1 : Nat) : Int) := by omega
        refine vh_Floor_canLie_64_43 ?_
        rw [fl_wi (x := (k : Int)) (by omega) (by omega), fl_wi (x := e) (by omega) (by omega), es, Int.toNat_natCast]
        have st := plF_step (t := t) (s := s) hB hs16
        refine ⟨fun h6 => ?_, fun h6 => ?_⟩
        · have first : ¬ ∃ g, g < 6 ∧ M g = true ∧ zB z code g s ≠ 0 ∧ dj (zB z code g s) t ∧ plF (zB z code) (mdel M g) (t ||| zB z code g s) (s + 1) := fun ⟨g, g1, g2, g3, g4, g5⟩ => hno g (by omega) g2 g3 g4 g5
          have st2 : plF (zB z code) M t s ↔ plF (zB z code) M t (s + 1) := ⟨fun q => (st.mp q).resolve_left first, fun q => st.mpr (Or.inr q)⟩
          refine ⟨fun h0 => no (fun q => ?_), fun h0 m hm => ?_⟩
          · have := plF_cnt hB (st2.mp q)
            omega
          · refine ck_mono (IH m (by omega) t L (s + 1) M (e - 1) ht hL hM (by omega) (by omega)) (fun r H3 h3 => ⟨_, h3.2, ?_⟩)
            rw [h3.1, fb_0]
            exact ⟨fun q => no (fun p => q (st2.mp p)), fun q => yes (st2.mpr (Classical.not_not.mp q))⟩
        · have k6 : k < 6 := by omega
          have ek : (k : Int) + 1 = ((k + 1 : Nat) : Int) := by omega
          rw [fn_bit (t := L) (i := k) (by have := hL.1; omega) (by omega), hL.2 k k6, ek]
          have nxt : ∀ m, m < n → (M k = true → zB z code k s ≠ 0 → dj (zB z code k s) t → ¬ plF (zB z code) (mdel M k) (t ||| zB z code k s) (s + 1)) → hd_Floor_canLie_64_43 (cm_pg X xs) m H (t : Int) (L : Int) e (s : Int) ((k + 1 : Nat) : Int) (fun r H' => H' = H ∧ r = some (fl_b (plF (zB z code) M t s))) := fun m hm hk' => ih m hm (k + 1) (by omega) (by omega) (fun j hj => by
            by_cases ej : j = k
            · rw [ej]; exact hk'
            · exact hno j (by omega))
          refine ⟨fun h0 m hm => nxt m hm (fun hb => by rw [if_pos hb] at h0; exact absurd h0 (by decide)), fun h0 _ => ?_⟩
          have hz : M k = true := by
            cases hb : M k
            · rw [hb, if_neg (by decide)] at h0; exact absurd rfl h0
            · rfl
          have hzc := hM k k6 hz
          have d3 := dig_lt code k
          have hB1 := hB k k6 hz s hs16
          have ar := wf_are hw (hc k k6 hzc) (show dig code k - 1 < 2 by omega)
          have bl : zB z code k s < 65536 := (cv_all (w := (z (16 + 8 * k + 3 * (dig code k - 1))).toNat) (by omega) (by omega) (h := (z (17 + 8 * k + 3 * (dig code k - 1))).toNat) (by omega) (by omega) hs16).1
          have ei : (((2 * k + (dig code k - 1) : Nat) : Int) * 16 + (s : Int)).toNat = (2 * k + (dig code k - 1)) * 16 + s := by omega
          rw [hp k k6 hzc, fl_wi (x := ((2 * k + (dig code k - 1) : Nat) : Int) * 16 + (s : Int)) (by omega) (by omega), ei, zB_fm h hc k6 hzc hs16, fl_wi (x := ((zB z code k s : Nat) : Int)) (by omega) (by omega), fn_and (a := zB z code k s) (b := t) (by omega) (by omega), fn_or (a := t) (b := zB z code k s) (by omega) (by omega)]
          have al : zB z code k s &&& t ≤ zB z code k s := Nat.and_le_left
          rw [fl_wi (x := ((zB z code k s &&& t : Nat) : Int)) (by omega) (by omega)]
          refine fun _ => ⟨fun h1 m hm => nxt m hm (fun _ hb => absurd (by omega) hb), fun h1 => ⟨fun h2 m hm => ?_, fun h2 m hm => nxt m hm (fun _ _ hd => absurd (dj_iff.mpr hd) (by omega))⟩⟩
          have hb0 : zB z code k s ≠ 0 := by omega
          have hdj : dj (zB z code k s) t := dj_iff.mp (by omega)
          obtain ⟨c1, c2⟩ := hB1.2 hb0
          have f1 := fre_or (s := s) hdj (fun i hi => (hB1.1 i hi).1)
          rw [c2] at f1
          have f2 : fre (t ||| zB z code k s) (s + 1) = fre (t ||| zB z code k s) s := fre_bit (by rw [Nat.testBit_or, c1]; simp)
          have f3 := mar_del (A := zA z code) hz k6
          obtain ⟨s1, s2, -⟩ := rp_clr L hL.1 k k6
          rw [s1]
          refine ck_mono (IH m (by omega) (t ||| zB z code k s) _ (s + 1) (mdel M k) e (Nat.or_lt_two_pow (n := 16) ht bl) (rep_del hL k6) (fun g hg hm' => hM g hg (mdel_ne hm').2) (by omega) (by omega)) (fun r H15 h15 => ⟨_, h15.2, ?_⟩)
          rw [h15.1, fb_0]
          exact ⟨fun q m' hm' => nxt m' hm' (fun _ _ _ => q), fun q => yes (st.mpr (Or.inl ⟨k, k6, hz, hb0, hdj, Classical.not_not.mp q⟩))⟩
    -- the first free square
    have c9 : ∀ (n s : Nat), n ≤ N → s ≤ 16 → (∃ g, g < 6 ∧ M g = true) → ∀ e : Int, e = fre t s - mar (zA z code) M 6 → hd_Floor_canLie_64_9 (cm_pg X xs) n H (t : Int) (L : Int) e (s : Int) (fun r H' => H' = H ∧ r = some (fl_b (plF (zB z code) M t s))) := by
      intro n
      induction n using Nat.strongRecOn with
      | ind n ih =>
        intro s hn hs hmem e he
        have es : (s : Int) + 1 = ((s + 1 : Nat) : Int) := by omega
        refine vh_Floor_canLie_64_9 ?_
        rw [fl_wi (x := (s : Int)) (by omega) (by omega), fn_bit (t := t) (i := s) (by omega) (by omega), es]
        have w16 : fl_w 16 = 16 := rfl
        refine ⟨fun h16 => ⟨fun h => by omega, fun _ => no (fun q => ?_)⟩, fun h16 => ⟨fun h0 => ⟨fun h => c43 s (by omega) ?_ e he n 0 hn (by omega) (fun j hj => absurd hj (by omega)), fun h => by omega⟩, fun h0 m hm => ?_⟩⟩
        · obtain ⟨g, g1, g2⟩ := hmem
          have := plF_end (by omega) q g g1
          rw [g2] at this; exact absurd this (by decide)
        · cases hb : t.testBit s
          · rfl
          · rw [hb, if_pos rfl] at h0; exact absurd h0 (by decide)
        · have hb : t.testBit s = true := by
            cases hb : t.testBit s
            · rw [hb, if_neg (by decide)] at h0; exact absurd rfl h0
            · rfl
          have := ih m hm (s + 1) (by omega) (by omega) hmem e (by rw [fre_bit hb]; exact he)
          rw [propext (plF_skip hB hb)]
          exact this
    refine ve_Floor_canLie_64 ?_
    rw [fl_wi (x := (L : Int)) (by have := hL.1; omega) (by have := hL.1; omega)]
    refine ⟨fun h0 => yes (plF_none (rep_0 (by have : L = 0 := by omega
                                               rw [this] at hL; exact hL))), fun h0 => c9 N s (Nat.le_refl _) hs ?_ e he⟩
    by_cases hmem : ∃ g, g < 6 ∧ M g = true
    · exact hmem
    · have z6 : ∀ g, g < 6 → L.testBit g = false := fun g hg => by
        rw [hL.2 g hg]
        cases hb : M g
        · rfl
        · exact absurd ⟨g, hg, hb⟩ hmem
      have : L = 0 := by
        apply Nat.eq_of_testBit_eq
        intro i
        rw [Nat.zero_testBit]
        by_cases hi : i < 6
        · exact z6 i hi
        · exact Nat.testBit_lt_two_pow (Nat.lt_of_lt_of_le hL.1 (Nat.pow_le_pow_right (n := 2) (by decide) (show 6 ≤ i by omega)))
      omega
def pL (c : Nat) : Prop := c = 65 ∨ c = 68
/-- do goods with sizes fit? -/
theorem fd_lies {m code : Nat} {z : Nat → Int} {H : fl_H} (h : fm z H) (hw : wf z) (hk : kn z H) (h7 : code < 729) (hc : zcd z code) : ck (cm_pg X xs) m cm_m35 [.index 64, fl_t (code : Int)] H (fun r H' => r = some (fl_b (zfit z code)) ∧ oc pL H H' ∧ kn z H') := by
  have i1 : fl_i2b (fl_i2b 1) = 1 := by decide
  have i2 : fl_i2b (fl_i2b 2) = 2 := by decide
  have w1 : fl_w 1 = 1 := rfl
  have w2 : ¬ fl_w 2 = 1 := by decide
  have fmo : ∀ G : fl_H, oc pL H G → fm z G := fun G o g hg s hs => by
    rw [o 67 (by unfold pL; omega), o 66 (by unfold pL; omega)]; exact h g hg s hs
  -- what was found is written down
  have wr : ∀ (G : fl_H) (v : Int) (G' : fl_H), oc pL H G → G 65 = H 65 → G' = fl_up G 65 code v → ((v = 1 ∧ zfit z code) ∨ (v = 2 ∧ ¬ zfit z code)) → oc pL H G' ∧ kn z G' := fun G v G' o e65 e hv => by
    refine ⟨by rw [e]; exact oc_up o (Or.inl rfl), fun c hc7 hcc => ?_⟩
    rw [e]
    by_cases hh : c = code
    · rw [hh, fl_up_at]; exact Or.inr hv
    · rw [fl_up_i _ _ _ _ hh, e65]; exact hk c hc7 hcc
  refine ve_Floor_lies_64 ?_
  rw [fl_wi (x := (code : Int)) (by omega) (by omega), Int.toNat_natCast]
  refine fun _ => ⟨fun h0 m hm => ck_mono (fd_pick (X := X) (xs := xs) h7) (fun r3 H3 h3 => ?_), fun h0 _ => ?_⟩
  · obtain ⟨L, e3, r3, p3, o3⟩ := h3
    have oc3 : oc pL H H3 := fun c hcc => o3 c (fun hh => hcc (Or.inr hh))
    have f3 := fmo H3 oc3
    refine ⟨_, e3, fun m hm => ck_mono (fd_larger (X := X) (xs := xs) f3 hw hc p3 r3) (fun r6 H6 h6 => ?_)⟩
    obtain ⟨e6, L', q6, r6⟩ := h6
    subst e6
    refine ⟨_, q6, fun m hm => ck_mono (fd_area (X := X) (xs := xs) f3 hw hc p3 (fun _ _ hh => hh) r3) (fun r9 H9 h9 => ⟨_, h9.2, ?_⟩)⟩
    have e9 := h9.1
    subst e9
    obtain ⟨b1, b2⟩ := mar_bd hw hc (fun _ _ hh => hh) 6 (by omega)
    have iff := zfit_iff hw hc
    rw [fl_wi (x := mar (zA z code) (zM code) 6) (by omega) (by omega), i1, i2]
    refine ⟨fun h16 _ H14 e14 _ => ?_, fun h16 m hm => ck_mono (fd_area (X := X) (xs := xs) f3 hw hc p3 (M := fun g => zM code g && !(decide (zA z code g = 1))) (fun g _ hh => (Bool.and_eq_true_iff.mp hh).1) r6) (fun r19 H19 h19 => ⟨_, h19.2, ?_⟩)⟩
    · have nf : ¬ zfit z code := fun q => by have := (iff.mp q).1; omega
      obtain ⟨w1', w2'⟩ := wr H9 2 H14 oc3 (o3 65 (by decide)) e14 (Or.inr ⟨rfl, nf⟩)
      rw [e14, fl_up_at] 
      refine ⟨fun hh => absurd hh w2, fun _ => ⟨by rw [fl_b0 nf], ?_⟩⟩
      rw [← e14]; exact ⟨w1', w2'⟩
    · have e19 := h19.1
      subst e19
      intro m hm
      have e0 : (0 : Int) = ((0 : Nat) : Int) := rfl
      have call := fd_can (X := X) (xs := xs) f3 hw hc p3 m 0 L' 0 (fun g => zM code g && !(decide (zA z code g = 1))) (16 - mar (zA z code) (fun g => zM code g && !(decide (zA z code g = 1))) 6) (by decide) r6 (fun g _ hh => (Bool.and_eq_true_iff.mp hh).1) (by omega) (by rw [fre_all])
      refine ck_mono call (fun r22 H22 h22 => ⟨_, h22.2, ?_⟩)
      have e22 := h22.1
      subst e22
      rw [fb_0]
      refine ⟨fun hn _ H27 e27 _ => ?_, fun hy _ H33 e33 _ => ?_⟩
      · have nf : ¬ zfit z code := fun q => hn (iff.mp q).2
        obtain ⟨w1', w2'⟩ := wr H22 2 H27 oc3 (o3 65 (by decide)) e27 (Or.inr ⟨rfl, nf⟩)
        rw [e27, fl_up_at]
        refine ⟨fun hh => absurd hh w2, fun _ => ⟨by rw [fl_b0 nf], ?_⟩⟩
        rw [← e27]; exact ⟨w1', w2'⟩
      · have yf : zfit z code := iff.mpr ⟨by omega, Classical.not_not.mp hy⟩
        obtain ⟨w1', w2'⟩ := wr H22 1 H33 oc3 (o3 65 (by decide)) e33 (Or.inl ⟨rfl, yf⟩)
        rw [e33, fl_up_at]
        refine ⟨fun _ => ⟨by rw [fl_b1 yf], ?_⟩, fun hh => absurd w1 hh⟩
        rw [← e33]; exact ⟨w1', w2'⟩
  · rcases hk code h7 hc with k | ⟨k, kf⟩ | ⟨k, kf⟩
    · rw [k] at h0; exact absurd (show fl_w 0 = 0 from rfl) h0
    · rw [k]
      exact ⟨fun _ => ⟨by rw [fl_b1 kf], oc_refl _ _, hk⟩, fun hh => absurd w1 hh⟩
    · rw [k]
      exact ⟨fun hh => absurd hh w2, fun _ => ⟨by rw [fl_b0 kf], oc_refl _ _, hk⟩⟩
end
end
