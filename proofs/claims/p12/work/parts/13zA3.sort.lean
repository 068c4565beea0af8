noncomputable section
/-! L3: the class's search sorts bonds by their later good; may a choice stay, what it gains. -/
section
variable {X : Term} {xs : List Int32}
theorem ds_goods {m : Nat} {z : Nat → Int} {H : fl_H} (h : gz z H) : ck (cm_pg X xs) m cm_m15 [.index 69] H (fun r' H' => r' = some (z 1) ∧ H' = H) :=
  ve_Draft_goods_69 ⟨by rw [gz_1 h], rfl⟩
theorem zgo_st {z : Nat → Int} (g : Nat) : zgo z g = zgo z (g + 1) + psm (fun b => if zlt z b = g then zmg z b else 0) (z 2).toNat := by
  unfold zgo
  rw [← psm_add]
  refine psm_congr (fun i _ => ?_)
  (try dsimp only)
  by_cases c1 : zlt z i < g
  · rw [if_pos c1, if_pos (by omega), if_neg (by omega)]; rfl
  · rw [if_neg c1]
    by_cases c2 : zlt z i = g
    · rw [if_pos c2, if_pos (by omega)]; omega
    · rw [if_neg c2, if_neg (by omega)]; omega
theorem zgd_st {z : Nat → Int} (r : Nat → Nat) (g : Nat) : zgd z r (g + 1) = zgd z r g + psm (fun b => if zlt z b = g then zga z r b else 0) (z 2).toNat := by
  unfold zgd
  rw [← psm_add]
  refine psm_congr (fun i _ => ?_)
  (try dsimp only)
  by_cases c1 : zlt z i < g
  · rw [if_pos (show zlt z i < g + 1 by omega), if_pos c1, if_neg (by omega)]; omega
  · rw [if_neg c1]
    by_cases c2 : zlt z i = g
    · rw [if_pos c2, if_pos (by omega)]; omega
    · rw [if_neg c2, if_neg (by omega)]; rfl
/-- the j-th of the bonds of a later good -/
theorem zps_at {z : Nat → Int} {g b j : Nat} (h1 : zlt z b = g) (h2 : zcb z g b = j) : zps z b = ztf z g + j := by
  unfold zps
  rw [h1, h2]
theorem ztf_12 {z : Nat → Int} (hw : wf z) (g : Nat) : ztf z g ≤ 12 := by
  have := ztf_le (z := z) g
  have := hw.1.2.2.2.2.2
  omega
theorem ztf_st (z : Nat → Int) (g : Nat) : ztf z (g + 1) = ztf z g + zcb z g (z 2).toNat := rfl
theorem ds_gain {m g : Nat} {z : Nat → Int} {r : Nat → Nat} {H : fl_H} {e : Int} (h : dcx z r H) (hw : wf z) (hs : srt z H) (hg : (g : Int) < z 1) (he : e = (g : Int)) : ck (cm_pg X xs) m cm_m65 [.index 79, fl_t e] H (fun r' H' => r' = some (psm (fun b => if zlt z b = g then zga z r b else 0) (z 2).toNat) ∧ H' = H) := by
  subst he
  have z6 := hw.1.2.2.2.1
  have b12 := hw.1.2.2.2.2.2
  have b0 := hw.1.2.2.2.2.1
  have t1 := ztf_12 hw (g + 1)
  have st := ztf_st z g
  have e1 : (g : Int) + 1 = ((g + 1 : Nat) : Int) := by omega
  have key : ∀ (f j : Nat), j + f = zcb z g (z 2).toNat → ∀ (b : Nat), zcb z g b = j → ∀ N, hd_Search_gainOf_79_9 (cm_pg X xs) N H (g : Int) (psm (fun b => if zlt z b = g then zga z r b else 0) b) ((ztf z g + j : Nat) : Int) (fun r' H' => r' = some (psm (fun b => if zlt z b = g then zga z r b else 0) (z 2).toNat) ∧ H' = H) := by
    intro f
    induction f with
    | zero =>
      intro j hj b hb N
      refine vh_Search_gainOf_79_9 ?_
      rw [e1, fl_wi (x := ((g + 1 : Nat) : Int)) (by omega) (by omega), Int.toNat_natCast, hs.1 (g + 1) (by omega), fl_wi (x := ((ztf z (g + 1) : Nat) : Int)) (by omega) (by omega), fl_wi (x := ((ztf z g + j : Nat) : Int)) (by omega) (by omega)]
      refine fun _ => ⟨fun _ => ⟨?_, rfl⟩, fun hh => by omega⟩
      rw [zcb_sum' (F := zga z r) (show zcb z g b = zcb z g (z 2).toNat by omega)]
    | succ f ih =>
      intro j hj b hb N
      obtain ⟨c, c1, c2, c3⟩ := zcb_ex (z := z) (g := g) (n := (z 2).toNat) (j := j) (by omega)
      have ej : ((ztf z g + j : Nat) : Int) + 1 = ((ztf z g + (j + 1) : Nat) : Int) := by omega
      refine vh_Search_gainOf_79_9 ?_
      rw [e1, fl_wi (x := ((g + 1 : Nat) : Int)) (by omega) (by omega), Int.toNat_natCast, hs.1 (g + 1) (by omega), fl_wi (x := ((ztf z (g + 1) : Nat) : Int)) (by omega) (by omega), fl_wi (x := ((ztf z g + j : Nat) : Int)) (by omega) (by omega), Int.toNat_natCast, ← zps_at c2 c3, hs.2.1 c c1]
      refine fun _ => ⟨fun hh => by rw [zps_at c2 c3] at hh; omega, fun _ _ m hm => ck_mono (dc_gain (X := X) (xs := xs) (b := c) h.1 hw h.2.1 (by omega)) (fun r4 H4 h4 => ⟨_, h4.1, fun m' hm' => ?_⟩)⟩
      rw [h4.2, zps_at c2 c3, ej]
      have s1 : psm (fun b => if zlt z b = g then zga z r b else 0) b + zga z r c = psm (fun b => if zlt z b = g then zga z r b else 0) (c + 1) := by
        show _ = psm (fun b => if zlt z b = g then zga z r b else 0) c + (if zlt z c = g then zga z r c else 0)
        rw [if_pos c2, zcb_sum' (F := zga z r) (show zcb z g b = zcb z g c by omega)]
      rw [s1]
      refine ih (j + 1) (by omega) (c + 1) ?_ m'
      show zcb z g c + (if zlt z c = g then 1 else 0) = j + 1
      rw [if_pos c2, c3]
  refine ve_Search_gainOf_79 ?_
  rw [fl_wi (x := (g : Int)) (by omega) (by omega), Int.toNat_natCast, hs.1 g (by omega)]
  exact fun _ => key (zcb z g (z 2).toNat) 0 (Nat.zero_add _) 0 rfl _
/-- may the choice of a good stay? -/
def zcs (z : Nat → Int) (r : Nat → Nat) (g : Nat) : Prop := (∀ b : Nat, (b : Int) < z 2 → zlt z b = g → zke z r b) ∧ (r g = 0 ∨ zfit z (zcn r (pgn (r g))))
theorem ds_stay {m g : Nat} {z : Nat → Int} {r : Nat → Nat} {H : fl_H} {e : Int} (h : dcx z r H) (hw : wf z) (hs : srt z H) (hg : (g : Int) < z 1) (he : e = (g : Int)) : ck (cm_pg X xs) m cm_m64 [.index 79, fl_t e] H (fun r' H' => r' = some (fl_b (zcs z r g)) ∧ oc pL H H' ∧ flo z H') := by
  subst he
  have z6 := hw.1.2.2.2.1
  have b12 := hw.1.2.2.2.2.2
  have b0 := hw.1.2.2.2.2.1
  have t1 := ztf_12 hw (g + 1)
  have st := ztf_st z g
  have e1 : (g : Int) + 1 = ((g + 1 : Nat) : Int) := by omega
  have key : ∀ (f j : Nat), j + f = zcb z g (z 2).toNat → ∀ (b : Nat), zcb z g b = j → (∀ c, c < b → c < (z 2).toNat → zlt z c = g → zke z r c) → ∀ N, hd_Search_canStay_79_7 (cm_pg X xs) N H (g : Int) ((ztf z g + j : Nat) : Int) (fun r' H' => r' = some (fl_b (zcs z r g)) ∧ oc pL H H' ∧ flo z H') := by
    intro f
    induction f with
    | zero =>
      intro j hj b hb hk N
      have all : ∀ c : Nat, (c : Int) < z 2 → zlt z c = g → zke z r c := fun c hc hg' => by
        by_cases q : c < b
        · exact hk c q (by omega) hg'
        · have q1 := zcb_lt (z := z) (g := g) (a := c) (b := (z 2).toNat) (by omega) hg'
          have q2 := zcb_mono z g (show b ≤ c by omega)
          omega
      refine vh_Search_canStay_79_7 ?_
      rw [e1, fl_wi (x := ((g + 1 : Nat) : Int)) (by omega) (by omega), Int.toNat_natCast, hs.1 (g + 1) (by omega), fl_wi (x := ((ztf z (g + 1) : Nat) : Int)) (by omega) (by omega), fl_wi (x := ((ztf z g + j : Nat) : Int)) (by omega) (by omega)]
      refine fun _ => ⟨fun _ m hm => ck_mono (dc_fitAt (X := X) (xs := xs) h.1 hw h.2.1 h.2.2.2 (g := g) (by omega) rfl) (fun r3 H3 h3 => ⟨_, h3.1, ?_, h3.2⟩), fun hh => by omega⟩
      by_cases q : r g = 0 ∨ zfit z (zcn r (pgn (r g)))
      · rw [fl_b1 q, fl_b1 (show zcs z r g from ⟨all, q⟩)]
      · rw [fl_b0 q, fl_b0 (show ¬ zcs z r g from fun k => q k.2)]
    | succ f ih =>
      intro j hj b hb hk N
      obtain ⟨c, c1, c2, c3⟩ := zcb_ex (z := z) (g := g) (n := (z 2).toNat) (j := j) (by omega)
      have ej : ((ztf z g + j : Nat) : Int) + 1 = ((ztf z g + (j + 1) : Nat) : Int) := by omega
      refine vh_Search_canStay_79_7 ?_
      rw [e1, fl_wi (x := ((g + 1 : Nat) : Int)) (by omega) (by omega), Int.toNat_natCast, hs.1 (g + 1) (by omega), fl_wi (x := ((ztf z (g + 1) : Nat) : Int)) (by omega) (by omega), fl_wi (x := ((ztf z g + j : Nat) : Int)) (by omega) (by omega), Int.toNat_natCast, ← zps_at c2 c3, hs.2.1 c c1]
      refine fun _ => ⟨fun hh => by rw [zps_at c2 c3] at hh; omega, fun _ _ m hm => ck_mono (dc_keeps (X := X) (xs := xs) (b := c) h.1 hw h.2.1 (by omega)) (fun r7 H7 h7 => ⟨_, h7.1, ?_⟩)⟩
      rw [h7.2, fb_0, zps_at c2 c3, ej]
      refine ⟨fun q => ⟨by rw [fl_b0 (show ¬ zcs z r g from fun k => q (k.1 c (by omega) c2))], oc_refl _ _, h.2.2.2⟩, fun q m' hm' => ih (j + 1) (by omega) (c + 1) ?_ (fun c' q1 q2 q3 => ?_) m'⟩
      · show zcb z g c + (if zlt z c = g then 1 else 0) = j + 1
        rw [if_pos c2, c3]
      · by_cases e : c' = c
        · rw [e]; exact Classical.not_not.mp q
        · by_cases e2 : c' < b
          · exact hk c' e2 q2 q3
          · have p1 := zcb_lt (z := z) (g := g) (a := c') (b := c) (by omega) q3
            have p2 := zcb_mono z g (show b ≤ c' by omega)
            omega
  refine ve_Search_canStay_79 ?_
  rw [fl_wi (x := (g : Int)) (by omega) (by omega), Int.toNat_natCast, hs.1 g (by omega)]
  exact fun _ => key (zcb z g (z 2).toNat) 0 (Nat.zero_add _) 0 rfl (fun c hc => absurd hc (by omega)) _
def pS (c : Nat) : Prop := c = 82 ∨ c = 83 ∨ c = 84
theorem ds_sort {m : Nat} {z : Nat → Int} {H : fl_H} (h : dz z H) (hw : wf z) : ck (cm_pg X xs) m cm_m61 [.index 79] H (fun r' H' => r' = none ∧ oc pS H H' ∧ srt z H') := by
  obtain ⟨z01, z02, z11, z12, z21, z22⟩ := id hw.1
  obtain ⟨n, hn⟩ : ∃ n : Nat, z 1 = (n : Int) := ⟨(z 1).toNat, by omega⟩
  obtain ⟨B, hB⟩ : ∃ B : Nat, z 2 = (B : Int) := ⟨(z 2).toNat, by omega⟩
  have en : (z 1).toNat = n := by omega
  have eB : (z 2).toNat = B := by omega
  have dzo : ∀ G, oc pS H G → dz z G := fun G o => dz_oc h o (fun c hc => by unfold pS; omega)
  have mx : ∀ b, b < B → max (z (69 + 4 * b)) (z (70 + 4 * b)) = ((zlt z b : Nat) : Int) ∧ zlt z b < n := fun b hb => by
    obtain ⟨-, -, -, ex, ey, -⟩ := wf_bd hw (b := b) (by omega)
    have := zlt_bd hw (b := b) (by omega)
    unfold zlt at this ⊢
    omega
  have tn : ztf z n = B := by
    have h1 := ztf_le (z := z) n
    -- each bond has a later good below n
    have key : ∀ k, k ≤ B → ∀ g, (∀ b, b < k → zlt z b < g) → k ≤ psm (fun h => ((zcb z h k : Nat) : Int)) g := by
      intro k
      induction k with
      | zero =>
        intro _ g _
        have := (psm_bd (f := fun h => ((zcb z h 0 : Nat) : Int)) (M := 0) (n := g) (fun i _ => ⟨Int.le_refl _, Int.le_refl _⟩)).1
        omega
      | succ k ih =>
        intro hk g hg
        have a := ih (by omega) g (fun b hb => hg b (by omega))
        have e : psm (fun h => ((zcb z h (k + 1) : Nat) : Int)) g = psm (fun h => ((zcb z h k : Nat) : Int)) g + 1 := by
          rw [← psm_one 1 (g := zlt z k) (n := g) (hg k (by omega)), ← psm_add]
          refine psm_congr (fun i _ => ?_)
          (try dsimp only)
          show ((zcb z i k + (if zlt z k = i then 1 else 0) : Nat) : Int) = _
          by_cases c : i = zlt z k
          · rw [if_pos c, if_pos c.symm]; omega
          · rw [if_neg c, if_neg (fun q => c q.symm)]; omega
        omega
    have e : ∀ g, ((ztf z g : Nat) : Int) = psm (fun h => ((zcb z h B : Nat) : Int)) g := by
      intro g
      induction g with
      | zero => rfl
      | succ g ih =>
        show ((ztf z g + zcb z g (z 2).toNat : Nat) : Int) = psm (fun h => ((zcb z h B : Nat) : Int)) g + ((zcb z g B : Nat) : Int)
        rw [← ih, eB]; omega
    have := key B (Nat.le_refl _) n (fun b hb => (mx b hb).2)
    rw [← e n] at this
    omega
  -- going down: the most that may come
  have down : ∀ (f k : Nat), k + f = n → ∀ (N : Nat) (G : fl_H), oc pS H G → (∀ g, g ≤ n → G 83 g = ((ztf z g : Nat) : Int)) → (∀ b, b < B → G 82 (zps z b) = (b : Int)) → (∀ g, n - k ≤ g → g ≤ n → G 84 g = zgo z g) → hd_Search_sortBonds_79_125 (cm_pg X xs) N G (zgo z (n - k)) ((n : Int) - 1 - (k : Int)) (fun r' H' => r' = none ∧ oc pS H H' ∧ srt z H') := by
    intro f
    induction f with
    | zero =>
      intro k hk N G oG g1 g2 g3
      refine vh_Search_sortBonds_79_125 ?_
      rw [fl_wi (x := (n : Int) - 1 - (k : Int)) (by omega) (by omega)]
      exact ⟨fun _ => ⟨rfl, oG, by rw [srt, en, eB]; exact ⟨g1, g2, fun g hg => g3 g (by omega) hg⟩⟩, fun hh => by omega⟩
    | succ f ih =>
      intro k hk N G oG g1 g2 g3
      obtain ⟨g, hg⟩ : ∃ g : Nat, (n : Int) - 1 - (k : Int) = (g : Int) := ⟨n - 1 - k, by omega⟩
      have eg : n - k = g + 1 := by omega
      have t1 := ztf_12 hw (g + 1)
      have st := ztf_st z g
      rw [eB] at st
      have dG := dzo G oG
      rw [hg, eg]
      refine vh_Search_sortBonds_79_125 ?_
      rw [fl_wi (x := (g : Int)) (by omega) (by omega), Int.toNat_natCast, g1 g (by omega)]
      refine ⟨fun hh => by omega, fun _ _ => ?_⟩
      have inner : ∀ (d j : Nat), j + d = zcb z g B → ∀ (b : Nat), zcb z g b = j → ∀ N, (∀ m, m < N → ∀ F, F = fl_up G 84 g (zgo z g) → hd_Search_sortBonds_79_125 (cm_pg X xs) m F (zgo z g) ((g : Int) + (-1)) (fun r' H' => r' = none ∧ oc pS H H' ∧ srt z H')) → hd_Search_sortBonds_79_137 (cm_pg X xs) N G (zgo z (g + 1) + psm (fun b => if zlt z b = g then zmg z b else 0) b) (g : Int) ((ztf z g + j : Nat) : Int) (fun r' H' => r' = none ∧ oc pS H H' ∧ srt z H') := by
        intro d
        induction d with
        | zero =>
          intro j hj b hb N K
          have e1 : (g : Int) + 1 = ((g + 1 : Nat) : Int) := by omega
          refine vh_Search_sortBonds_79_137 ?_
          rw [e1, fl_wi (x := ((g + 1 : Nat) : Int)) (by omega) (by omega), Int.toNat_natCast, g1 (g + 1) (by omega), fl_wi (x := ((ztf z (g + 1) : Nat) : Int)) (by omega) (by omega), fl_wi (x := ((ztf z g + j : Nat) : Int)) (by omega) (by omega), fl_wi (x := (g : Int)) (by omega) (by omega), Int.toNat_natCast]
          refine fun _ => ⟨fun _ _ H3 e3 m hm => ?_, fun hh => by omega⟩
          have es : zgo z (g + 1) + psm (fun b => if zlt z b = g then zmg z b else 0) b = zgo z g := by
            rw [zgo_st g, eB, zcb_sum' (F := zmg z) (show zcb z g b = zcb z g B by omega)]
          rw [es] at e3 ⊢
          exact K m hm H3 e3
        | succ d ihd =>
          intro j hj b hb N K
          obtain ⟨c, c1, c2, c3⟩ := zcb_ex (z := z) (g := g) (n := B) (j := j) (by omega)
          have ej : ((ztf z g + j : Nat) : Int) + 1 = ((ztf z g + (j + 1) : Nat) : Int) := by omega
          have e1 : (g : Int) + 1 = ((g + 1 : Nat) : Int) := by omega
          refine vh_Search_sortBonds_79_137 ?_
          rw [e1, fl_wi (x := ((g + 1 : Nat) : Int)) (by omega) (by omega), Int.toNat_natCast, g1 (g + 1) (by omega), fl_wi (x := ((ztf z (g + 1) : Nat) : Int)) (by omega) (by omega), fl_wi (x := ((ztf z g + j : Nat) : Int)) (by omega) (by omega), Int.toNat_natCast, ← zps_at c2 c3, g2 c c1]
          refine fun _ => ⟨fun hh => by rw [zps_at c2 c3] at hh; omega, fun _ _ m hm => ck_mono (ds_most (X := X) (xs := xs) (b := c) dG hw (by omega) rfl) (fun r8 H8 h8 => ⟨_, h8.1, fun m' hm' => ?_⟩)⟩
          rw [h8.2, zps_at c2 c3, ej]
          have s1 : zgo z (g + 1) + psm (fun b => if zlt z b = g then zmg z b else 0) b + zmg z c = zgo z (g + 1) + psm (fun b => if zlt z b = g then zmg z b else 0) (c + 1) := by
            have : psm (fun b => if zlt z b = g then zmg z b else 0) (c + 1) = psm (fun b => if zlt z b = g then zmg z b else 0) c + (if zlt z c = g then zmg z c else 0) := rfl
            rw [this, if_pos c2, zcb_sum' (F := zmg z) (show zcb z g b = zcb z g c by omega)]
            omega
          rw [s1]
          refine ihd (j + 1) (by omega) (c + 1) ?_ m' (fun m'' hm'' => K m'' (by omega))
          show zcb z g c + (if zlt z c = g then 1 else 0) = j + 1
          rw [if_pos c2, c3]
      have := inner (zcb z g B) 0 (by omega) 0 rfl N (fun m hm F eF => by
        have eb : (g : Int) + -1 = (n : Int) - 1 - ((k + 1 : Nat) : Int) := by omega
        have eg' : g = n - (k + 1) := by omega
        rw [eb]
        have r := ih (k + 1) (by omega) m F (by rw [eF]; exact oc_up oG (Or.inr (Or.inr rfl))) (fun g' hg' => by rw [eF, fl_up_c _ _ _ _ (by decide)]; exact g1 g' hg') (fun b hb => by rw [eF, fl_up_c _ _ _ _ (by decide)]; exact g2 b hb) (fun g' q1 q2 => by
          rw [eF]
          by_cases e : g' = g
          · rw [e, fl_up_at]
          · rw [fl_up_i _ _ _ _ e]; exact g3 g' (by omega) q2)
        rw [← eg'] at r
        exact r)
      rw [show psm (fun b => if zlt z b = g then zmg z b else 0) 0 = 0 from rfl, Int.add_zero, Nat.add_zero] at this
      exact this
  -- going up: bonds sorted
  have up : ∀ (f g : Nat), g + f = n → ∀ (N : Nat) (G : fl_H), oc pS H G → (∀ g', g' < g → G 83 g' = ((ztf z g' : Nat) : Int)) → (∀ b, b < B → zlt z b < g → G 82 (zps z b) = (b : Int)) → hd_Search_sortBonds_79_6 (cm_pg X xs) N G ((ztf z g : Nat) : Int) 0 (g : Int) (fun r' H' => r' = none ∧ oc pS H H' ∧ srt z H') := by
    intro f
    induction f with
    | zero =>
      intro g hg N G oG g1 g2
      have e : g = n := by omega
      subst e
      have dG := dzo G oG
      refine vh_Search_sortBonds_79_6 (fun m hm => ck_mono (ds_goods (X := X) (xs := xs) dG.1) (fun r1 H1 h1 => ⟨_, h1.1, ?_⟩))
      have e1 := h1.2
      subst e1
      rw [hn, fl_wi (x := (g : Int)) (by omega) (by omega)]
      refine ⟨fun _ m' hm' => ck_mono (ds_goods (X := X) (xs := xs) dG.1) (fun r5 H5 h5 => ⟨_, h5.1, ?_⟩), fun hh => absurd (Int.le_refl _) hh⟩
      have e5 := h5.2
      subst e5
      rw [hn, fl_wi (x := (g : Int)) (by omega) (by omega), Int.toNat_natCast]
      intro _ H8 e8 m'' hm''
      have o8 : oc pS H H8 := by rw [e8]; exact oc_up oG (Or.inr (Or.inl rfl))
      refine ck_mono (ds_goods (X := X) (xs := xs) (dzo H8 o8).1) (fun r11 H11 h11 => ⟨_, h11.1, ?_⟩)
      have e11 := h11.2
      subst e11
      rw [hn, fl_wi (x := (g : Int)) (by omega) (by omega), Int.toNat_natCast]
      intro _ H14 e14 m3 hm3
      have o14 : oc pS H H14 := by rw [e14]; exact oc_up o8 (Or.inr (Or.inr rfl))
      refine ck_mono (ds_goods (X := X) (xs := xs) (dzo H14 o14).1) (fun r17 H17 h17 => ⟨_, h17.1, ?_⟩)
      have e17 := h17.2
      subst e17
      rw [hn]
      have z0 : zgo z (g - 0) = 0 := psm_zero (fun b hb => by
        (try dsimp only)
        rw [if_pos (by have := (mx b (by omega)).2; omega)])
      have r := down g 0 (by omega) N H17 o14 (fun g' hg' => by
        rw [e14, fl_up_c _ _ _ _ (by decide), e8]
        by_cases e : g' = g
        · rw [e, fl_up_at]
        · rw [fl_up_i _ _ _ _ e]; exact g1 g' (by omega)) (fun b hb => by
        rw [e14, fl_up_c _ _ _ _ (by decide), e8, fl_up_c _ _ _ _ (by decide)]
        exact g2 b hb (mx b hb).2) (fun g' q1 q2 => by
        have e : g' = g := by omega
        rw [e14, e, fl_up_at]
        exact z0.symm)
      rw [z0] at r
      have eb : (g : Int) - 1 = (g : Int) - 1 - ((0 : Nat) : Int) := by omega
      rw [eb]
      exact r
    | succ f ih =>
      intro g hg N G oG g1 g2
      have dG := dzo G oG
      have t1 := ztf_12 hw (g + 1)
      have st := ztf_st z g
      rw [eB] at st
      refine vh_Search_sortBonds_79_6 (fun m hm => ck_mono (ds_goods (X := X) (xs := xs) dG.1) (fun r1 H1 h1 => ⟨_, h1.1, ?_⟩))
      have e1 := h1.2
      subst e1
      rw [hn, fl_wi (x := (n : Int)) (by omega) (by omega), fl_wi (x := (g : Int)) (by omega) (by omega), Int.toNat_natCast]
      refine ⟨fun hh => by omega, fun _ _ H21 e21 => ?_⟩
      have inner : ∀ (d b : Nat), b + d = B → ∀ (N : Nat) (F : fl_H), oc pS H F → (∀ g', g' < g + 1 → F 83 g' = ((ztf z g' : Nat) : Int)) → (∀ b', b' < B → (zlt z b' < g ∨ (zlt z b' = g ∧ b' < b)) → F 82 (zps z b') = (b' : Int)) → (∀ m, m < N → ∀ F', oc pS H F' → (∀ g', g' < g + 1 → F' 83 g' = ((ztf z g' : Nat) : Int)) → (∀ b', b' < B → zlt z b' < g + 1 → F' 82 (zps z b') = (b' : Int)) → hd_Search_sortBonds_79_6 (cm_pg X xs) m F' ((ztf z (g + 1) : Nat) : Int) 0 ((g : Int) + 1) (fun r' H' => r' = none ∧ oc pS H H' ∧ srt z H')) → hd_Search_sortBonds_79_27 (cm_pg X xs) N F ((ztf z g + zcb z g b : Nat) : Int) 0 (g : Int) (b : Int) (fun r' H' => r' = none ∧ oc pS H H' ∧ srt z H') := by
        intro d
        induction d with
        | zero =>
          intro b hb N F oF f1 f2 K
          have e : b = B := by omega
          subst e
          refine vh_Search_sortBonds_79_27 ?_
          rw [gz_2 (dzo F oF).1, hB]
          refine ⟨fun _ m hm => ?_, fun hh => absurd (Int.le_refl _) hh⟩
          rw [← st]
          exact K m hm F oF f1 (fun b' hb' hl => f2 b' hb' (by omega))
        | succ d ihd =>
          intro b hb N F oF f1 f2 K
          obtain ⟨b12, -⟩ := wf_bd hw (b := b) (by omega)
          have dF := dzo F oF
          obtain ⟨m1, m2⟩ := mx b (by omega)
          obtain ⟨-, -, -, ex, ey, -⟩ := wf_bd hw (b := b) (by omega)
          have eb : (b : Int) + 1 = ((b + 1 : Nat) : Int) := by omega
          have a6 := hw.2.2.2 b (by omega)
          refine vh_Search_sortBonds_79_27 ?_
          rw [gz_2 dF.1, hB, fl_wi (x := (B : Int)) (by omega) (by omega), fl_wi (x := (b : Int)) (by omega) (by omega), Int.toNat_natCast, gz_ba dF.1 b12, gz_bb dF.1 b12, fl_wi (x := z (69 + 4 * b)) (by omega) (by omega), fl_wi (x := z (70 + 4 * b)) (by omega) (by omega), m1, fl_wi (x := ((zlt z b : Nat) : Int)) (by omega) (by omega), fl_wi (x := (g : Int)) (by omega) (by omega), eb]
          have stb : zcb z g (b + 1) = zcb z g b + (if zlt z b = g then 1 else 0) := rfl
          have mono := zcb_mono z g (show b + 1 ≤ B by omega)
          refine ⟨fun hh => by omega, fun _ _ _ => ⟨fun q => ?_, fun q m' hm' => ?_⟩⟩
          · have q' : zlt z b = g := by omega
            rw [if_pos q'] at stb
            rw [fl_wi (x := ((ztf z g + zcb z g b : Nat) : Int)) (by omega) (by omega), Int.toNat_natCast, ← zps_at q' rfl]
            intro _ H7 e7 m' hm'
            have ep : ((zps z b : Nat) : Int) + 1 = ((ztf z g + zcb z g (b + 1) : Nat) : Int) := by rw [zps_at q' rfl]; omega
            rw [ep]
            refine ihd (b + 1) (by omega) m' H7 (by rw [e7]; exact oc_up oF (Or.inl rfl)) (fun g' hg' => by rw [e7, fl_up_c _ _ _ _ (by decide)]; exact f1 g' hg') (fun b' hb' hl => ?_) (fun m'' hm'' => K m'' (by omega))
            rw [e7]
            by_cases e : b' = b
            · rw [e, fl_up_at]
            · rw [fl_up_i _ _ _ _ (fun hh => by
                have := zps_lt (z := z) (b := b') (c := b) (by omega) (by omega)
                omega)]
              exact f2 b' hb' (by omega)
          · have q' : ¬ zlt z b = g := by omega
            have stb' : zcb z g (b + 1) = zcb z g b := by rw [stb, if_neg q']; rfl
            rw [← stb']
            exact ihd (b + 1) (by omega) m' F oF f1 (fun b' hb' hl => f2 b' hb' (by
              rcases hl with hl | ⟨hl1, hl2⟩
              · exact Or.inl hl
              · refine Or.inr ⟨hl1, ?_⟩
                by_cases e : b' = b
                · rw [e] at hl1; exact absurd hl1 q'
                · omega)) (fun m'' hm'' => K m'' (by omega))
      have := inner B 0 (by omega) N H21 (by rw [e21]; exact oc_up oG (Or.inr (Or.inl rfl))) (fun g' hg' => by
        rw [e21]
        by_cases e : g' = g
        · rw [e, fl_up_at]
        · rw [fl_up_i _ _ _ _ e]; exact g1 g' (by omega)) (fun b' hb' hl => by
        rw [e21, fl_up_c _ _ _ _ (by decide)]
        exact g2 b' hb' (by omega)) (fun m' hm' F' oF' f1 f2 => by
        have ek : (g : Int) + 1 = ((g + 1 : Nat) : Int) := by omega
        rw [ek]
        exact ih (g + 1) (by omega) m' F' oF' f1 f2)
      exact this
  exact ve_Search_sortBonds_79 (up n 0 (by omega) m H (oc_refl _ _) (fun g hg => absurd hg (by omega)) (fun b _ hl => absurd hl (by omega)))
end
end
