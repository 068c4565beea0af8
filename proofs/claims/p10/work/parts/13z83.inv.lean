noncomputable section
/-! L3: what holds between calls, with all well formed. -/
section
variable {X : Term} {xs : List Int32}
theorem pb_in {α β : Type} {x : PR α} {f : α → Nat → PR β} {r : β × Nat} (h : pb x f = .inr r) : ∃ v a, x = .inr (v, a) ∧ f v a = .inr r := by
  cases x with
  | inl p => simp [pb] at h
  | inr q => exact ⟨q.1, q.2, rfl, h⟩
theorem siz_rg {t : Nat → Int} {n a : Nat} {r : (Int × Int × Int) × Nat} (h : siz t n a = .inr r) : (1 ≤ r.1.1 ∧ r.1.1 ≤ 4) ∧ (1 ≤ r.1.2.1 ∧ r.1.2.1 ≤ 4) ∧ (0 ≤ r.1.2.2 ∧ r.1.2.2 ≤ 999) := by
  unfold siz at h
  obtain ⟨w, a1, o1, h⟩ := pb_in h
  obtain ⟨w2, a2, o2, h⟩ := pb_in h
  obtain ⟨y, a3, o3, h⟩ := pb_in h
  obtain ⟨w4, a4, o4, h⟩ := pb_in h
  obtain ⟨s, a5, o5, h⟩ := pb_in h
  simp only [Sum.inr.injEq] at h
  subst h
  exact ⟨fig_rg (tk_some o1).1, fig_rg (tk_some o3).1, num_rg o5⟩
theorem letr_rg {g b c v : Int} (h : letr g b c = some v) : 0 ≤ v ∧ v ≤ g - 1 ∧ ¬ v = b := by
  unfold letr at h
  split at h
  · rename_i hc
    simp only [Option.some.injEq] at h
    subst h
    exact ⟨hc.1, hc.2.1, hc.2.2.2⟩
  · simp at h
def evw (e : List Int) (g : Int) : Prop := (∃ v, e = [0, v] ∧ 0 ≤ v ∧ v ≤ 60) ∨ (∃ k f w0 h0 s0 w1 h1 s1, e = [1, k, f, w0, h0, s0, w1, h1, s1] ∧ gdw k f w0 h0 s0 w1 h1 s1) ∨ (∃ k x y v, e = [2, k, x, y, v] ∧ (0 ≤ k ∧ k ≤ 5) ∧ (0 ≤ x ∧ x < g) ∧ (0 ≤ y ∧ y < g) ∧ ¬ x = y ∧ (-99 ≤ v ∧ v ≤ 99) ∧ (3 ≤ k → v = 0))
theorem gds_evw {t : Nat → Int} {n a : Nat} {g : Int} {r : List Int × Nat} (h : gds t n a = .inr r) : evw r.1 g := by
  unfold gds at h
  obtain ⟨k, a1, o1, h⟩ := pb_in h
  obtain ⟨f, a2, o2, h⟩ := pb_in h
  obtain ⟨p, a3, o3, h⟩ := pb_in h
  obtain ⟨w, a4, o4, h⟩ := pb_in h
  obtain ⟨q, a5, o5, h⟩ := pb_in h
  simp only [Sum.inr.injEq] at h
  subst h
  have hk := one_rg (tk_some o1).1
  have hf := fig_rg (tk_some o2).1
  have hp := siz_rg o3
  have hq := siz_rg o5
  have hl : (([112, 108, 114, 102] : List Int).length : Int) = 4 := rfl
  exact Or.inr (Or.inl ⟨_, _, _, _, _, _, _, _, rfl, ⟨by omega, by omega⟩, hf, hp, hq⟩)
theorem bnd_evw {t : Nat → Int} {n a : Nat} {g x : Int} {r : List Int × Nat} (hx : 0 ≤ x ∧ x < g) (h : bnd t n g x a = .inr r) : evw r.1 g := by
  unfold bnd at h
  obtain ⟨y, a1, o1, h⟩ := pb_in h
  obtain ⟨k, a2, o2, h⟩ := pb_in h
  have hy := letr_rg (tk_some o1).1
  have hk := one_rg (tk_some o2).1
  have hl : (([111, 102, 101, 110, 118, 104] : List Int).length : Int) = 6 := rfl
  by_cases hc : k ≤ 2
  · rw [if_pos hc] at h
    obtain ⟨s, a3, o3, h⟩ := pb_in h
    obtain ⟨v, a4, o4, h⟩ := pb_in h
    simp only [Sum.inr.injEq] at h
    subst h
    have hv := num_rg o4
    refine Or.inr (Or.inr ⟨_, _, _, _, rfl, ⟨by omega, by omega⟩, hx, ⟨hy.1, by omega⟩, fun hh => hy.2.2 hh.symm, ?_, fun hh => by omega⟩)
    by_cases hs : s = 0
    · rw [if_pos hs]; omega
    · rw [if_neg hs]; omega
  · rw [if_neg hc] at h
    simp only [Sum.inr.injEq] at h
    subst h
    exact Or.inr (Or.inr ⟨_, _, _, _, rfl, ⟨by omega, by omega⟩, hx, ⟨hy.1, by omega⟩, fun hh => hy.2.2 hh.symm, ⟨by omega, by omega⟩, fun _ => rfl⟩)
theorem cla_evw {t : Nat → Int} {n a : Nat} {g : Int} {r : List Int × Nat} (h : cla t n g a = .inr r) : evw r.1 g := by
  unfold cla at h
  split at h
  · obtain ⟨v, a1, o1, h⟩ := pb_in h
    simp only [Sum.inr.injEq] at h
    subst h
    have := num_rg o1
    exact Or.inl ⟨v, rfl, this.1, this.2⟩
  · split at h
    · exact gds_evw h
    · obtain ⟨x, a1, o1, h⟩ := pb_in h
      have := letr_rg (tk_some o1).1
      exact bnd_evw ⟨this.1, by omega⟩ h
def evl : List (List Int) → Int → Prop
  | [], _ => True
  | e :: l, g => evw e g ∧ evl l (g + isg e)
theorem cls_evl {t : Nat → Int} {n : Nat} : ∀ {f : Nat} {g : Int} {a : Nat} {r : List (List Int) × Nat}, cls t n f g a = .inr r → evl r.1 g
  | 0, g, a, r, h => by simp [cls] at h
  | f + 1, g, a, r, h => by
    unfold cls at h
    obtain ⟨e, a1, o1, h⟩ := pb_in h
    have h0 := cla_evw o1
    split at h
    · simp only [Sum.inr.injEq] at h
      subst h
      exact ⟨h0, trivial⟩
    · split at h
      · obtain ⟨l, a2, o2, h⟩ := pb_in h
        simp only [Sum.inr.injEq] at h
        subst h
        exact ⟨h0, cls_evl o2⟩
      · simp at h
theorem wf_apz {e : List Int} {z : Nat → Int} (h : evw e (z 1)) (hr : rom e z) (k : wf z) : wf (apz e z) ∧ apz e z 1 = z 1 + isg e := by
  rcases h with ⟨v, rfl, h1, h2⟩ | ⟨k', f, w0, h0, s0, w1, h1, s1, rfl, hg⟩ | ⟨k', x, y, v, rfl, c1, c2, c3, c4, c5, c6⟩
  · refine ⟨wf_page k h1 h2 (hr.1 rfl), ?_⟩
    show upz (upz z (10 + (z 0).toNat) v) 0 (z 0 + 1) 1 = z 1 + 0
    rw [upz_ne _ _ (by decide), upz_ne _ _ (by omega)]
    omega
  · exact ⟨wf_good k hg (hr.2.1 rfl), rfl⟩
  · refine ⟨wf_bond k c1 c2 c3 c4 c5 c6 (hr.2.2 rfl), ?_⟩
    show upz (upz (upz (upz (upz z (68 + 4 * (z 2).toNat) k') (69 + 4 * (z 2).toNat) x) (70 + 4 * (z 2).toNat) y) (71 + 4 * (z 2).toNat) v) 2 (z 2 + 1) 1 = z 1 + 0
    rw [upz_ne _ _ (by decide), upz_ne _ _ (by omega), upz_ne _ _ (by omega), upz_ne _ _ (by omega), upz_ne _ _ (by omega)]
    omega
theorem wf_apl : ∀ {l : List (List Int)} {z : Nat → Int}, evl l (z 1) → rml l z → wf z → wf (apl l z)
  | [], _, _, _, h => h
  | e :: l, z, he, hr, h => by
    obtain ⟨h1, h2⟩ := wf_apz he.1 hr.1 h
    exact wf_apl (l := l) (by rw [h2]; exact he.2) hr.2 h1
theorem wf_bkz {t : Nat → Int} {n : Nat} {z : Nat → Int} (h : wf z) : wf (bkz t n z) := by
  unfold bkz
  cases o : cls t n 12 (z 1) 0 with
  | inl p => exact h
  | inr q =>
    obtain ⟨l, b⟩ := q
    dsimp only
    by_cases hc : rml l z
    · rw [if_pos hc]
      exact wf_apl (cls_evl o) hc h
    · rw [if_neg hc]
      exact h
/-- what holds between calls -/
def T1 (H : fl_H) : Prop := zT H ∧ wf (H 95) ∧ (H 94 18 = 0 ∨ (H 94 18 = 1 ∧ wf (H 106))) ∧ ∀ j, 152 ≤ j → H 106 j = 0
theorem T1_fr {H G : fl_H} (h : fr sT H G) (t : T1 H) : T1 G := by
  have e95 : G 95 = H 95 := funext (fun i => h 95 i rfl)
  have e106 : G 106 = H 106 := funext (fun i => h 106 i rfl)
  exact ⟨zT_fr h t.1, by rw [e95]; exact t.2.1, by rw [e106, h 94 18 rfl]; exact t.2.2.1, by rw [e106]; exact t.2.2.2⟩
theorem T1_wfc {H : fl_H} (t : T1 H) : wf (cz H 1) := wf_zeq t.1.2.2.2.2.2.1 t.2.1
/-- what is forgotten is no contents -/
def fgN (fg : fl_H → fl_H) : Prop := ∀ G c i, sT c i = true → fg G c i = G c i
theorem fgN_A : fgN fgA := fun G c i h => by
  unfold fgA fl_up
  rw [if_neg (fun hh => by rw [hh.1, hh.2] at h; exact absurd h (by decide)), if_neg (fun hh => by rw [hh.1, hh.2] at h; exact absurd h (by decide)), if_neg (fun hh => by rw [hh.1, hh.2] at h; exact absurd h (by decide))]
theorem fgN_S : fgN fgS := fun G c i h => by
  unfold fgS fl_up
  rw [if_neg (fun hh => by rw [hh.1, hh.2] at h; exact absurd h (by decide)), if_neg (fun hh => by rw [hh.1, hh.2] at h; exact absurd h (by decide)), if_neg (fun hh => by rw [hh.1, hh.2] at h; exact absurd h (by decide)), if_neg (fun hh => by rw [hh.1, hh.2] at h; exact absurd h (by decide))]
theorem fgN_P : fgN fgP := fun G c i h => by
  unfold fgP fl_up
  rw [if_neg (fun hh => by rw [hh.1, hh.2] at h; exact absurd h (by decide)), if_neg (fun hh => by rw [hh.1, hh.2] at h; exact absurd h (by decide))]
theorem fgN_I : fgN (fun G => G) := fun _ _ _ _ => rfl
theorem cz_fgN {fg : fl_H → fl_H} (h : fgN fg) (G : fl_H) : cz (fg G) 1 = cz G 1 := cz_out (fun c i a b => h G c i (by
  unfold sT
  rw [Nat.ble_eq_true_of_le a, Nat.ble_eq_true_of_le (show c ≤ 19 by omega)]
  simp))
/-- a call of both sides, one behind the other -/
theorem T1_op {fg : fl_H → fl_H} {f : fO} {kk : Bool} {H H1 H2 : fl_H} {r r' : Option Int} (t : T1 H) (he : oEq f) (hw : oWf f) (hf : fgN fg) (hc : cP fg f H r H1) (hr : rP kk f H1 r' H2) : (∃ x, r = some x) ∧ r' = r ∧ T1 H2 := by
  obtain ⟨G, g1, g2, g3, g4, g5⟩ := hc
  obtain ⟨r1, r2, r3, r4⟩ := hr
  have c1 : cOnly H H1 := fun c i h1 h2 => by
    rcases g5 with e | ⟨e, -⟩
    · rw [e, hf G c i h2]; exact g1 c i h1
    · rw [e]
  have z1 : cz H1 1 = cz G 1 := by
    rcases g5 with e | ⟨e, e'⟩
    · rw [e]; exact cz_fgN hf G
    · rw [e, e']
  have e95 : H1 95 = H 95 := funext (fun i => c1 95 i (by decide) rfl)
  have e106 : H1 106 = H 106 := funext (fun i => c1 106 i (by decide) rfl)
  have c2 : rOnly H1 H2 := fun c i h1 h2 => by rw [r3 c h1 (fun h => by rw [h] at h2; exact Bool.false_ne_true h2)]
  rw [e95] at r1 r2
  obtain ⟨q1, q2⟩ := he (cz H 1) (H 95) t.1.2.2.2.2.2.1 t.2.1
  have w2 : wf (H2 95) := by rw [r2]; exact hw _ t.2.1
  refine ⟨⟨_, g2⟩, by rw [r1, g2, q1], zT_two t.1 c1 c2 (by rw [z1, r2]; exact zeq_trans g3 q2) w2.1, w2, ?_, ?_⟩
  · rw [r3 94 (by decide) (by decide), c1 94 18 (by decide) rfl, r3 106 (by decide) (by decide), e106]
    exact t.2.2.1
  · rw [r3 106 (by decide) (by decide), e106]
    exact t.2.2.2
theorem T1_book {m : Nat} {H : fl_H} (t : T1 H) : ck (cm_pg X xs) m cm_m109 [.index 0] H (fun r H1 => (∃ x, r = some x) ∧ ∀ m', ck (cm_pg X xs) m' cm_m232 [.index 94] H1 (fun r' H2 => r' = r ∧ T1 H2)) := by
  obtain ⟨⟨⟨n, t1, t2, t3⟩, t4, t5, t6, t7, t8, t9, t10, t11⟩, tw, tk1, tk2⟩ := t
  have z0 : zr (cz H 1) := zr_zeq (fun j hj => (t8 j hj).symm) t9
  refine ck_mono (cb_book (X := X) (xs := xs) t1 t6 t7 t3 (fun i _ => t5 i) z0) (fun r H1 h => ?_)
  obtain ⟨a1, a2, a3, a4, a5, a6⟩ := h
  refine ⟨⟨_, a1⟩, fun m' => ?_⟩
  have o1 : ∀ c i, 39 ≤ c → c ≠ 58 → c ≠ 64 → c ≠ 88 → c ≠ 90 → H1 c i = H c i := fun c i b1 b2 b3 b4 b5 => a6 c i (by omega) b2 (fun hc => by omega) (fun hc => absurd hc b3) (fun hc => absurd hc b4) (fun hc => absurd hc b5)
  have e95 : H1 95 = H 95 := funext (fun i => o1 95 i (by decide) (by decide) (by decide) (by decide) (by decide))
  have e104 : H1 104 = H 59 := funext (fun i => (o1 104 i (by decide) (by decide) (by decide) (by decide) (by decide)).trans (t4 i))
  refine ck_mono (rk_book (X := X) (xs := xs) (n := n) (by rw [o1 94 13 (by decide) (by decide) (by decide) (by decide) (by decide)]; exact t2) t3 (fun i _ => by rw [e104]; exact t5 i) (by rw [e95]; exact t9)) (fun r' H2 h => ?_)
  obtain ⟨b1, b2, b3, b4⟩ := h
  rw [e104, e95] at b1 b2
  have q := bk_zeq (t := H 59) (n := n) t8
  have o2 : ∀ c i, c < 94 → H2 c i = H1 c i := fun c i hc => b4 c i (by omega) (by omega) (by omega) (fun h => by omega)
  have e106 : H2 106 = H 106 := funext (fun i => (b4 106 i (by decide) (by decide) (by decide) (fun h => absurd h (by decide))).trans (o1 106 i (by decide) (by decide) (by decide) (by decide) (by decide)))
  have e9418 : H2 94 18 = H 94 18 := by rw [b4 94 18 (by decide) (by decide) (by decide) (fun _ => ⟨by decide, by decide, by decide, by decide⟩), o1 94 18 (by decide) (by decide) (by decide) (by decide) (by decide)]
  have w2 : wf (H2 95) := by rw [b2]; exact wf_bkz tw
  refine ⟨by rw [a1, b1, q.1], ⟨⟨0, by rw [o2 58 1 (by decide)]; exact a3, b3, by omega⟩, fun i => ?_, fun i => ?_, by rw [o2 58 2 (by decide)]; exact a4, by rw [o2 58 3 (by decide)]; exact a5, ?_, w2.1, ?_, fun g => ?_⟩, w2, by rw [e9418, e106]; exact tk1, by rw [e106]; exact tk2⟩
  · rw [b4 104 i (by decide) (by decide) (by decide) (fun h => absurd h (by decide)), e104, o2 59 i (by decide), o1 59 i (by decide) (by decide) (by decide) (by decide) (by decide)]
  · rw [o2 59 i (by decide), o1 59 i (by decide) (by decide) (by decide) (by decide) (by decide)]; exact t5 i
  · rw [cz_out (G := H2) (H := H1) (b := 1) (fun c i g1 g2 => o2 c i (by omega)), b2]
    exact zeq_trans a2 q.2
  · rw [o2 0 3 (by decide), e9418, a6 0 3 (by decide) (by decide) (fun _ => by decide) (fun h => absurd h (by decide)) (fun h => absurd h (by decide)) (fun h => absurd h (by decide))]
    exact t10
  · rw [e9418] at g
    rw [e106, cz_out (G := H2) (H := H) (b := 39) (fun c i g1 g2 => (o2 c i (by omega)).trans (o1 c i (by omega) (by omega) (by omega) (by omega) (by omega)))]
    exact t11 g
theorem tyP_len {cl pl ct n l : Nat} {a : Int} {H H' : fl_H} {r : Option Int} (h : tyP cl pl ct a n l H r H') : ∃ x, r = some x := by
  by_cases ho : okb a n
  · by_cases hl : l + n ≤ 120
    · exact ⟨_, ((h.1 ho).1 hl).1⟩
    · exact ⟨_, ((h.1 ho).2 hl).1⟩
  · exact ⟨_, (h.2 ho).1⟩
theorem T1_type {m : Nat} {H : fl_H} {a n : Int} (ha : fl_lr a) (hn : fl_w n = n) (t : T1 H) : ck (cm_pg X xs) m cm_m108 [.index 0, fl_l a, fl_t n] H (fun r H1 => (∃ x, r = some x) ∧ ∀ m', ck (cm_pg X xs) m' cm_m219 [.index 94, fl_l a, fl_t n] H1 (fun r' H2 => r' = r ∧ T1 H2)) := by
  obtain ⟨⟨l, t1, t2, t3⟩, t4, t5, t6, t7, t8, t9, t10, t11⟩ := id t.1
  refine ck_mono (zc_type (X := X) (xs := xs) ha hn t1 t3) (fun r H1 h => ?_)
  by_cases hc : 1 ≤ n ∧ n ≤ 8
  · have h' := h.2 hc
    refine ⟨tyP_len h', fun m' => ?_⟩
    have h13 : H1 94 13 = (l : Int) ∧ H1 104 = H 104 := by
      by_cases ho : okb a n.toNat
      · by_cases hl : l + n.toNat ≤ 120
        · obtain ⟨-, -, -, k⟩ := (h'.1 ho).1 hl
          exact ⟨by rw [k 94 13 (by decide) (fun h => absurd h (by decide))]; exact t2, funext (fun i => k 104 i (by decide) (fun h => absurd h (by decide)))⟩
        · rw [((h'.1 ho).2 hl).2]; exact ⟨t2, rfl⟩
      · rw [(h'.2 ho).2]; exact ⟨t2, rfl⟩
    refine ck_mono (zq_type (X := X) (xs := xs) (l := l) ha hn h13.1 t3) (fun r' H2 g => ?_)
    have g' := g.2 hc
    by_cases ho : okb a n.toNat
    · by_cases hl : l + n.toNat ≤ 120
      · obtain ⟨c1, c2, c3, c4⟩ := (h'.1 ho).1 hl
        obtain ⟨d1, d2, d3, d4⟩ := (g'.1 ho).1 hl
        have o : ∀ c i, c ≠ 59 → c ≠ 104 → (c = 58 → i ≠ 1) → (c = 94 → i ≠ 13) → H2 c i = H c i := fun c i p1 p2 p3 p4 => (d4 c i p2 p4).trans (c4 c i p1 p3)
        have e59 : H2 59 = tyw a n.toNat l (H 59) := by
          rw [← c3]
          exact funext (fun i => d4 59 i (by decide) (fun h => absurd h (by decide)))
        have e104 : H2 104 = tyw a n.toNat l (H 59) := by
          rw [d3, h13.2]
          congr 1
          exact funext t4
        have e95 : H2 95 = H 95 := funext (fun i => o 95 i (by decide) (by decide) (fun h => absurd h (by decide)) (fun h => absurd h (by decide)))
        have e106 : H2 106 = H 106 := funext (fun i => o 106 i (by decide) (by decide) (fun h => absurd h (by decide)) (fun h => absurd h (by decide)))
        have e18 : H2 94 18 = H 94 18 := o 94 18 (by decide) (by decide) (fun h => absurd h (by decide)) (fun _ => by decide)
        have cz1 : cz H2 1 = cz H 1 := cz_out (fun c i p1 p2 => o c i (by omega) (by omega) (fun h => by omega) (fun h => by omega))
        have cz39 : cz H2 39 = cz H 39 := cz_out (fun c i p1 p2 => o c i (by omega) (by omega) (fun h => by omega) (fun h => by omega))
        refine ⟨by rw [d1, c1], ⟨⟨l + n.toNat, ?_, d2, hl⟩, fun i => by rw [e104, e59], fun i => ?_, ?_, ?_, by rw [cz1, e95]; exact t8, by rw [e95]; exact t9, ?_, ?_⟩, by rw [e95]; exact t.2.1, by rw [e18, e106]; exact t.2.2.1, by rw [e106]; exact t.2.2.2⟩
        · rw [d4 58 1 (by decide) (fun h => absurd h (by decide))]; exact c2
        · rw [e59]
          unfold tyw
          by_cases hj : l ≤ i ∧ i < l + n.toNat
          · rw [if_pos hj]
            have := byt_lt a (l + n.toNat - 1 - i)
            omega
          · rw [if_neg hj]; exact t5 i
        · rw [o 58 2 (by decide) (by decide) (fun _ => by decide) (fun h => absurd h (by decide))]; exact t6
        · rw [o 58 3 (by decide) (by decide) (fun _ => by decide) (fun h => absurd h (by decide))]; exact t7
        · rw [o 0 3 (by decide) (by decide) (fun h => absurd h (by decide)) (fun h => absurd h (by decide)), e18]; exact t10
        · rw [e18, cz39, e106]; exact t11
      · obtain ⟨c1, c2⟩ := (h'.1 ho).2 hl
        obtain ⟨d1, d2⟩ := (g'.1 ho).2 hl
        exact ⟨by rw [d1, c1], by rw [d2, c2]; exact t⟩
    · obtain ⟨c1, c2⟩ := h'.2 ho
      obtain ⟨d1, d2⟩ := g'.2 ho
      exact ⟨by rw [d1, c1], by rw [d2, c2]; exact t⟩
  · obtain ⟨c1, c2⟩ := h.1 hc
    refine ⟨⟨_, c1⟩, fun m' => ck_mono (zq_type (X := X) (xs := xs) (l := l) ha hn (by rw [c2]; exact t2) t3) (fun r' H2 g => ?_)⟩
    obtain ⟨d1, d2⟩ := g.1 hc
    exact ⟨by rw [d1, c1], by rw [d2, c2]; exact t⟩
theorem T1_image {m : Nat} {H : fl_H} (t : T1 H) : ck (cm_pg X xs) m cm_m130 [.index 0] H (fun r H1 => (∃ x, r = some x) ∧ ∀ m', ck (cm_pg X xs) m' cm_m233 [.index 94] H1 (fun r' H2 => r' = r ∧ T1 H2)) := by
  obtain ⟨⟨⟨l, t1, t2, t3⟩, t4, t5, t6, t7, t8, t9, t10, t11⟩, tw, tk1, tk2⟩ := id t
  refine ck_mono (zc_image (X := X) (xs := xs)) (fun r H1 h => ⟨⟨_, h.1⟩, fun m' => ck_mono (lo_image (X := X) (xs := xs)) (fun r' H2 g => ?_)⟩)
  obtain ⟨c1, c2, c3, c4⟩ := h
  obtain ⟨d1, d2, d3, d4⟩ := g
  have o : ∀ c i, ¬ (39 ≤ c ∧ c ≤ 57) → (c = 0 → i ≠ 3) → c ≠ 106 → (c = 94 → i ≠ 18) → H2 c i = H c i := fun c i p1 p2 p3 p4 => (d4 c i p3 p4).trans (c4 c i p1 p2)
  have e95 : H2 95 = H 95 := funext (fun i => o 95 i (by omega) (by omega) (by omega) (by omega))
  have e195 : H1 95 = H 95 := funext (fun i => c4 95 i (by omega) (by omega))
  have e106 : H2 106 = H 95 := by
    funext j
    rw [d2 j]
    by_cases hj : j < 152
    · rw [if_pos hj, e195]
    · rw [if_neg hj, c4 106 j (by omega) (by omega), tk2 j (by omega), ← t8 j (by omega)]
      unfold cz
      rw [if_neg (fun hv => hj (vld_lt hv))]
  have z1 : cz H2 1 = cz H 1 := cz_out (fun c i p1 p2 => o c i (by omega) (by omega) (by omega) (by omega))
  have z39 : cz H2 39 = cz H 1 := by
    rw [← c3]
    exact cz_out (fun c i p1 p2 => d4 c i (by omega) (by omega))
  refine ⟨by rw [d1, c1], ⟨⟨l, ?_, ?_, t3⟩, fun i => ?_, fun i => ?_, ?_, ?_, by rw [z1, e95]; exact t8, by rw [e95]; exact t9, ?_, fun _ => ⟨by rw [z39, e106]; exact t8, by rw [e106]; exact t9⟩⟩, by rw [e95]; exact tw, Or.inr ⟨d3, by rw [e106]; exact tw⟩, fun j hj => ?_⟩
  · rw [o 58 1 (by omega) (by omega) (by omega) (by omega)]; exact t1
  · rw [o 94 13 (by omega) (by omega) (by omega) (by omega)]; exact t2
  · rw [o 104 i (by omega) (by omega) (by omega) (by omega), o 59 i (by omega) (by omega) (by omega) (by omega)]; exact t4 i
  · rw [o 59 i (by omega) (by omega) (by omega) (by omega)]; exact t5 i
  · rw [o 58 2 (by omega) (by omega) (by omega) (by omega)]; exact t6
  · rw [o 58 3 (by omega) (by omega) (by omega) (by omega)]; exact t7
  · rw [d3, d4 0 3 (by omega) (by omega)]; exact c2
  · rw [d2 j, if_neg (by omega), c4 106 j (by omega) (by omega)]; exact tk2 j hj
theorem T1_restore {m : Nat} {H : fl_H} (t : T1 H) : ck (cm_pg X xs) m cm_m131 [.index 0] H (fun r H1 => (∃ x, r = some x) ∧ ∀ m', ck (cm_pg X xs) m' cm_m234 [.index 94] H1 (fun r' H2 => r' = r ∧ T1 H2)) := by
  obtain ⟨⟨⟨l, t1, t2, t3⟩, t4, t5, t6, t7, t8, t9, t10, t11⟩, tw, tk1, tk2⟩ := id t
  refine ck_mono (zc_restore (X := X) (xs := xs)) (fun r H1 h => ?_)
  rw [t10] at h
  rcases tk1 with hk | ⟨hk, hw⟩
  · have h0 : fl_w (H 94 18) = 0 := by rw [hk]; rfl
    obtain ⟨c1, c2⟩ := h.1 h0
    refine ⟨⟨_, c1⟩, fun m' => ck_mono (lo_restore (X := X) (xs := xs)) (fun r' H2 g => ?_)⟩
    obtain ⟨d1, d2⟩ := g.1 (by rw [c2]; exact h0)
    exact ⟨by rw [d1, c1], by rw [d2, c2]; exact t⟩
  · have h0 : ¬ fl_w (H 94 18) = 0 := by rw [hk]; decide
    obtain ⟨c1, G, g1, g2, g3⟩ := h.2 h0
    have c2 : cOnly H H1 := fun c i p1 p2 => by rw [g3, fgN_S G c i p2]; exact g1 c i p1
    have z1 : cz H1 1 = cz H 39 := by rw [g3, cz_fgS, g2]
    have e95 : H1 95 = H 95 := funext (fun i => c2 95 i (by decide) rfl)
    have e106 : H1 106 = H 106 := funext (fun i => c2 106 i (by decide) rfl)
    have e18 : H1 94 18 = H 94 18 := c2 94 18 (by decide) rfl
    refine ⟨⟨_, c1⟩, fun m' => ck_mono (lo_restore (X := X) (xs := xs)) (fun r' H2 g => ?_)⟩
    obtain ⟨d1, d2, d3, d4⟩ := g.2 (by rw [e18]; exact h0)
    have k95 : H2 95 = H 106 := by
      funext j
      rw [d2 j]
      by_cases hj : j < 152
      · rw [if_pos hj, e106]
      · rw [if_neg hj, e95, tk2 j (by omega), ← t8 j (by omega)]
        unfold cz
        rw [if_neg (fun hv => hj (vld_lt hv))]
    have c3 : rOnly H1 H2 := fun c i p1 p2 => by rw [d3 c p1 (fun h => by rw [h] at p2; exact Bool.false_ne_true p2)]
    have k106 : H2 106 = H 106 := by rw [d3 106 (by decide) (by decide), e106]
    have k18 : H2 94 18 = H 94 18 := by rw [d3 94 (by decide) (by decide), e18]
    refine ⟨by rw [d1, c1], zT_two t.1 c2 c3 (by rw [z1, k95]; exact (t11 hk).1) (by rw [k95]; exact (t11 hk).2), by rw [k95]; exact hw, by rw [k18, k106]; exact Or.inr ⟨hk, hw⟩, by rw [k106]; exact tk2⟩
end
end
