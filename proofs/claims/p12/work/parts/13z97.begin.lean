noncomputable section
/-! L3: the class's draft begun (printed by g97.py). -/
section
variable {X : Term} {xs : List Int32}
theorem fz_71_l {v : Int} : ∀ (N : Nat) (H : fl_H) (a : Nat), a ≤ 6 → hd_Arrays_fill_71_5 (cm_pg X xs) N H v (a : Int) 6 (fun r H' => r = none ∧ (∀ i, a ≤ i → i < 6 → H' 71 i = v) ∧ (∀ i, i < a → H' 71 i = H 71 i) ∧ oc (fun d => d = 71) H H') := by
  intro N
  induction N using Nat.strongRecOn with
  | ind N ih =>
    intro H a ha
    refine vh_Arrays_fill_71_5 ?_
    have wn : fl_w 6 = 6 := rfl
    rw [wn, fl_wi (x := (a : Int)) (by omega) (by omega), Int.toNat_natCast]
    refine ⟨fun h => ⟨rfl, fun i h1 h2 => by omega, fun _ _ => rfl, oc_refl _ _⟩, fun h _ H2 e2 m hm => ?_⟩
    have ek : (a : Int) + 1 = ((a + 1 : Nat) : Int) := by omega
    rw [ek]
    have := ih m hm H2 (a + 1) (by omega)
    intro lv l0 l1 l2 l3
    refine vt_mono (Nat.le_refl _) (fun r H' hr => ?_) (this lv l0 l1 l2 l3)
    obtain ⟨r1, r2, r3, r4⟩ := hr
    refine ⟨r1, fun i h1 h2 => ?_, fun i hi => ?_, oc_trans (by rw [e2]; exact oc_up (oc_refl _ _) rfl) r4⟩
    · by_cases hi : i = a
      · rw [hi, r3 a (by omega), e2, fl_up_at]
      · exact r2 i (by omega) h2
    · rw [r3 i (by omega), e2, fl_up_i _ _ _ _ (by omega)]
theorem fz_71 {m : Nat} {H : fl_H} {v : Int} : ck (cm_pg X xs) m cm_m249 [.index 71, fl_t v] H (fun r H' => r = none ∧ (∀ i, i < 6 → H' 71 i = v) ∧ oc (fun d => d = 71) H H') :=
  ve_Arrays_fill_71 (by
    have := fz_71_l (X := X) (xs := xs) (v := v) m H 0 (by omega)
    intro lv l0 l1 l2 l3
    exact vt_mono (Nat.le_refl _) (fun r H' hr => ⟨hr.1, fun i hi => hr.2.1 i (by omega) hi, hr.2.2.2⟩) (this lv l0 l1 l2 l3))
theorem fz_72_l {v : Int} : ∀ (N : Nat) (H : fl_H) (a : Nat), a ≤ 6 → hd_Arrays_fill_72_5 (cm_pg X xs) N H v (a : Int) 6 (fun r H' => r = none ∧ (∀ i, a ≤ i → i < 6 → H' 72 i = v) ∧ (∀ i, i < a → H' 72 i = H 72 i) ∧ oc (fun d => d = 72) H H') := by
  intro N
  induction N using Nat.strongRecOn with
  | ind N ih =>
    intro H a ha
    refine vh_Arrays_fill_72_5 ?_
    have wn : fl_w 6 = 6 := rfl
    rw [wn, fl_wi (x := (a : Int)) (by omega) (by omega), Int.toNat_natCast]
    refine ⟨fun h => ⟨rfl, fun i h1 h2 => by omega, fun _ _ => rfl, oc_refl _ _⟩, fun h _ H2 e2 m hm => ?_⟩
    have ek : (a : Int) + 1 = ((a + 1 : Nat) : Int) := by omega
    rw [ek]
    have := ih m hm H2 (a + 1) (by omega)
    intro lv l0 l1 l2 l3
    refine vt_mono (Nat.le_refl _) (fun r H' hr => ?_) (this lv l0 l1 l2 l3)
    obtain ⟨r1, r2, r3, r4⟩ := hr
    refine ⟨r1, fun i h1 h2 => ?_, fun i hi => ?_, oc_trans (by rw [e2]; exact oc_up (oc_refl _ _) rfl) r4⟩
    · by_cases hi : i = a
      · rw [hi, r3 a (by omega), e2, fl_up_at]
      · exact r2 i (by omega) h2
    · rw [r3 i (by omega), e2, fl_up_i _ _ _ _ (by omega)]
theorem fz_72 {m : Nat} {H : fl_H} {v : Int} : ck (cm_pg X xs) m cm_m249 [.index 72, fl_t v] H (fun r H' => r = none ∧ (∀ i, i < 6 → H' 72 i = v) ∧ oc (fun d => d = 72) H H') :=
  ve_Arrays_fill_72 (by
    have := fz_72_l (X := X) (xs := xs) (v := v) m H 0 (by omega)
    intro lv l0 l1 l2 l3
    exact vt_mono (Nat.le_refl _) (fun r H' hr => ⟨hr.1, fun i hi => hr.2.1 i (by omega) hi, hr.2.2.2⟩) (this lv l0 l1 l2 l3))
theorem fz_74_l {v : Int} : ∀ (N : Nat) (H : fl_H) (a : Nat), a ≤ 3 → hd_Arrays_fill_74_5 (cm_pg X xs) N H v (a : Int) 3 (fun r H' => r = none ∧ (∀ i, a ≤ i → i < 3 → H' 74 i = v) ∧ (∀ i, i < a → H' 74 i = H 74 i) ∧ oc (fun d => d = 74) H H') := by
  intro N
  induction N using Nat.strongRecOn with
  | ind N ih =>
    intro H a ha
    refine vh_Arrays_fill_74_5 ?_
    have wn : fl_w 3 = 3 := rfl
    rw [wn, fl_wi (x := (a : Int)) (by omega) (by omega), Int.toNat_natCast]
    refine ⟨fun h => ⟨rfl, fun i h1 h2 => by omega, fun _ _ => rfl, oc_refl _ _⟩, fun h _ H2 e2 m hm => ?_⟩
    have ek : (a : Int) + 1 = ((a + 1 : Nat) : Int) := by omega
    rw [ek]
    have := ih m hm H2 (a + 1) (by omega)
    intro lv l0 l1 l2 l3
    refine vt_mono (Nat.le_refl _) (fun r H' hr => ?_) (this lv l0 l1 l2 l3)
    obtain ⟨r1, r2, r3, r4⟩ := hr
    refine ⟨r1, fun i h1 h2 => ?_, fun i hi => ?_, oc_trans (by rw [e2]; exact oc_up (oc_refl _ _) rfl) r4⟩
    · by_cases hi : i = a
      · rw [hi, r3 a (by omega), e2, fl_up_at]
      · exact r2 i (by omega) h2
    · rw [r3 i (by omega), e2, fl_up_i _ _ _ _ (by omega)]
theorem fz_74 {m : Nat} {H : fl_H} {v : Int} : ck (cm_pg X xs) m cm_m249 [.index 74, fl_t v] H (fun r H' => r = none ∧ (∀ i, i < 3 → H' 74 i = v) ∧ oc (fun d => d = 74) H H') :=
  ve_Arrays_fill_74 (by
    have := fz_74_l (X := X) (xs := xs) (v := v) m H 0 (by omega)
    intro lv l0 l1 l2 l3
    exact vt_mono (Nat.le_refl _) (fun r H' hr => ⟨hr.1, fun i hi => hr.2.1 i (by omega) hi, hr.2.2.2⟩) (this lv l0 l1 l2 l3))
theorem fz_75_l {v : Int} : ∀ (N : Nat) (H : fl_H) (a : Nat), a ≤ 3 → hd_Arrays_fill_75_5 (cm_pg X xs) N H v (a : Int) 3 (fun r H' => r = none ∧ (∀ i, a ≤ i → i < 3 → H' 75 i = v) ∧ (∀ i, i < a → H' 75 i = H 75 i) ∧ oc (fun d => d = 75) H H') := by
  intro N
  induction N using Nat.strongRecOn with
  | ind N ih =>
    intro H a ha
    refine vh_Arrays_fill_75_5 ?_
    have wn : fl_w 3 = 3 := rfl
    rw [wn, fl_wi (x := (a : Int)) (by omega) (by omega), Int.toNat_natCast]
    refine ⟨fun h => ⟨rfl, fun i h1 h2 => by omega, fun _ _ => rfl, oc_refl _ _⟩, fun h _ H2 e2 m hm => ?_⟩
    have ek : (a : Int) + 1 = ((a + 1 : Nat) : Int) := by omega
    rw [ek]
    have := ih m hm H2 (a + 1) (by omega)
    intro lv l0 l1 l2 l3
    refine vt_mono (Nat.le_refl _) (fun r H' hr => ?_) (this lv l0 l1 l2 l3)
    obtain ⟨r1, r2, r3, r4⟩ := hr
    refine ⟨r1, fun i h1 h2 => ?_, fun i hi => ?_, oc_trans (by rw [e2]; exact oc_up (oc_refl _ _) rfl) r4⟩
    · by_cases hi : i = a
      · rw [hi, r3 a (by omega), e2, fl_up_at]
      · exact r2 i (by omega) h2
    · rw [r3 i (by omega), e2, fl_up_i _ _ _ _ (by omega)]
theorem fz_75 {m : Nat} {H : fl_H} {v : Int} : ck (cm_pg X xs) m cm_m249 [.index 75, fl_t v] H (fun r H' => r = none ∧ (∀ i, i < 3 → H' 75 i = v) ∧ oc (fun d => d = 75) H H') :=
  ve_Arrays_fill_75 (by
    have := fz_75_l (X := X) (xs := xs) (v := v) m H 0 (by omega)
    intro lv l0 l1 l2 l3
    exact vt_mono (Nat.le_refl _) (fun r H' hr => ⟨hr.1, fun i hi => hr.2.1 i (by omega) hi, hr.2.2.2⟩) (this lv l0 l1 l2 l3))
theorem fz_76_l {v : Int} : ∀ (N : Nat) (H : fl_H) (a : Nat), a ≤ 3 → hd_Arrays_fill_76_5 (cm_pg X xs) N H v (a : Int) 3 (fun r H' => r = none ∧ (∀ i, a ≤ i → i < 3 → H' 76 i = v) ∧ (∀ i, i < a → H' 76 i = H 76 i) ∧ oc (fun d => d = 76) H H') := by
  intro N
  induction N using Nat.strongRecOn with
  | ind N ih =>
    intro H a ha
    refine vh_Arrays_fill_76_5 ?_
    have wn : fl_w 3 = 3 := rfl
    rw [wn, fl_wi (x := (a : Int)) (by omega) (by omega), Int.toNat_natCast]
    refine ⟨fun h => ⟨rfl, fun i h1 h2 => by omega, fun _ _ => rfl, oc_refl _ _⟩, fun h _ H2 e2 m hm => ?_⟩
    have ek : (a : Int) + 1 = ((a + 1 : Nat) : Int) := by omega
    rw [ek]
    have := ih m hm H2 (a + 1) (by omega)
    intro lv l0 l1 l2 l3
    refine vt_mono (Nat.le_refl _) (fun r H' hr => ?_) (this lv l0 l1 l2 l3)
    obtain ⟨r1, r2, r3, r4⟩ := hr
    refine ⟨r1, fun i h1 h2 => ?_, fun i hi => ?_, oc_trans (by rw [e2]; exact oc_up (oc_refl _ _) rfl) r4⟩
    · by_cases hi : i = a
      · rw [hi, r3 a (by omega), e2, fl_up_at]
      · exact r2 i (by omega) h2
    · rw [r3 i (by omega), e2, fl_up_i _ _ _ _ (by omega)]
theorem fz_76 {m : Nat} {H : fl_H} {v : Int} : ck (cm_pg X xs) m cm_m249 [.index 76, fl_t v] H (fun r H' => r = none ∧ (∀ i, i < 3 → H' 76 i = v) ∧ oc (fun d => d = 76) H H') :=
  ve_Arrays_fill_76 (by
    have := fz_76_l (X := X) (xs := xs) (v := v) m H 0 (by omega)
    intro lv l0 l1 l2 l3
    exact vt_mono (Nat.le_refl _) (fun r H' hr => ⟨hr.1, fun i hi => hr.2.1 i (by omega) hi, hr.2.2.2⟩) (this lv l0 l1 l2 l3))
theorem fz_77_l {v : Int} : ∀ (N : Nat) (H : fl_H) (a : Nat), a ≤ 4 → hd_Arrays_fill_77_5 (cm_pg X xs) N H v (a : Int) 4 (fun r H' => r = none ∧ (∀ i, a ≤ i → i < 4 → H' 77 i = v) ∧ (∀ i, i < a → H' 77 i = H 77 i) ∧ oc (fun d => d = 77) H H') := by
  intro N
  induction N using Nat.strongRecOn with
  | ind N ih =>
    intro H a ha
    refine vh_Arrays_fill_77_5 ?_
    have wn : fl_w 4 = 4 := rfl
    rw [wn, fl_wi (x := (a : Int)) (by omega) (by omega), Int.toNat_natCast]
    refine ⟨fun h => ⟨rfl, fun i h1 h2 => by omega, fun _ _ => rfl, oc_refl _ _⟩, fun h _ H2 e2 m hm => ?_⟩
    have ek : (a : Int) + 1 = ((a + 1 : Nat) : Int) := by omega
    rw [ek]
    have := ih m hm H2 (a + 1) (by omega)
    intro lv l0 l1 l2 l3
    refine vt_mono (Nat.le_refl _) (fun r H' hr => ?_) (this lv l0 l1 l2 l3)
    obtain ⟨r1, r2, r3, r4⟩ := hr
    refine ⟨r1, fun i h1 h2 => ?_, fun i hi => ?_, oc_trans (by rw [e2]; exact oc_up (oc_refl _ _) rfl) r4⟩
    · by_cases hi : i = a
      · rw [hi, r3 a (by omega), e2, fl_up_at]
      · exact r2 i (by omega) h2
    · rw [r3 i (by omega), e2, fl_up_i _ _ _ _ (by omega)]
theorem fz_77 {m : Nat} {H : fl_H} {v : Int} : ck (cm_pg X xs) m cm_m249 [.index 77, fl_t v] H (fun r H' => r = none ∧ (∀ i, i < 4 → H' 77 i = v) ∧ oc (fun d => d = 77) H H') :=
  ve_Arrays_fill_77 (by
    have := fz_77_l (X := X) (xs := xs) (v := v) m H 0 (by omega)
    intro lv l0 l1 l2 l3
    exact vt_mono (Nat.le_refl _) (fun r H' hr => ⟨hr.1, fun i hi => hr.2.1 i (by omega) hi, hr.2.2.2⟩) (this lv l0 l1 l2 l3))
theorem dc_open {m : Nat} {z : Nat → Int} {H : fl_H} (hz : gz z H) (hw : wf z) : ck (cm_pg X xs) m cm_m14 [.index 69] H (fun r H' => r = none ∧ (∀ o, o ≤ (z 1).toNat → H' 78 ((z 1).toNat - o) = zop z (z 1).toNat o) ∧ oc (fun d => d = 78) H H') := by
  obtain ⟨-, -, z1, z2, -⟩ := id hw.1
  obtain ⟨n, hn⟩ : ∃ n : Nat, z 1 = (n : Int) := ⟨(z 1).toNat, by omega⟩
  have key : ∀ (f k : Nat), k + f = n → ∀ (N : Nat) (G : fl_H), oc (fun d => d = 78) H G → (∀ o, o ≤ k → G 78 (n - o) = zop z n o) → hd_Draft_measureOpen_69_29 (cm_pg X xs) N G ((n : Int) - 1 - (k : Int)) (fun r H' => r = none ∧ (∀ o, o ≤ n → H' 78 (n - o) = zop z n o) ∧ oc (fun d => d = 78) H H') := by
    intro f
    induction f with
    | zero =>
      intro k hk N G oG hG
      refine vh_Draft_measureOpen_69_29 ?_
      rw [fl_wi (x := (n : Int) - 1 - (k : Int)) (by omega) (by omega)]
      refine ⟨fun _ => ⟨rfl, fun o ho => hG o (by omega), oG⟩, fun h => by omega⟩
    | succ f ih =>
      intro k hk N G oG hG
      obtain ⟨g, hg⟩ : ∃ g : Nat, (n : Int) - 1 - (k : Int) = (g : Int) := ⟨n - 1 - k, by omega⟩
      have zG : gz z G := gz_oc hz oG (fun c a b => by omega)
      have eg : n - (k + 1) = g := by omega
      rw [hg]
      refine vh_Draft_measureOpen_69_29 ?_
      rw [fl_wi (x := (g : Int)) (by omega) (by omega), fl_wi (x := (g : Int) + 1) (by omega) (by omega)]
      have e1 : ((g : Int) + 1).toNat = n - k := by omega
      rw [e1, Int.toNat_natCast]
      refine ⟨fun h => by omega, fun _ m hm => ck_mono (dc_area (X := X) (xs := xs) zG (g := g) (s := 0) (by omega) (by omega) (by omega)) (fun r2 H2 h2 => ⟨_, h2.1, fun m' hm' => ?_⟩)⟩
      have q2 := h2.2
      subst q2
      refine ck_mono (dc_area (X := X) (xs := xs) zG (g := g) (s := 1) (by omega) (by omega) (by omega)) (fun r5 H5 h5 => ⟨_, h5.1, ?_⟩)
      have q5 := h5.2
      subst q5
      have a0 := wf_are hw (g := g) (s := 0) (by omega) (by omega)
      have a1 := wf_are hw (g := g) (s := 1) (by omega) (by omega)
      rw [fl_wi (x := zare z g 0) (by omega) (by omega), fl_wi (x := zare z g 1) (by omega) (by omega), hG k (Nat.le_refl _)]
      intro _ _ H10 e10 m'' hm''
      have eb : (g : Int) + -1 = (n : Int) - 1 - ((k + 1 : Nat) : Int) := by omega
      rw [eb]
      refine ih (k + 1) (by omega) m'' H10 (by rw [e10]; exact oc_up oG rfl) (fun o ho => ?_)
      rw [e10]
      by_cases e : o = k + 1
      · rw [e, eg, fl_up_at]
        show _ = zop z n k + zmx z (n - (k + 1))
        rw [eg]; rfl
      · rw [fl_up_i _ _ _ _ (by omega)]; exact hG o (by omega)
  refine ve_Draft_measureOpen_69 ?_
  rw [gz_1 hz, hn, Int.toNat_natCast, fl_wi (x := (n : Int)) (by omega) (by omega), Int.toNat_natCast]
  intro _ H1 e1
  have z1' : gz z H1 := gz_fr hz (fun c i a b => by rw [e1, fl_up_c _ _ _ _ (by omega)])
  have en : H1 3 0 - 1 = (n : Int) - 1 - ((0 : Nat) : Int) := by rw [gz_1 z1', hn]; omega
  rw [en]
  exact key n 0 (by omega) m H1 (by rw [e1]; exact oc_up (oc_refl _ _) rfl) (fun o ho => by
    have : o = 0 := by omega
    rw [this, e1, Nat.sub_zero, fl_up_at]; rfl)
-- ---- contents with like sizes
theorem zB_ext {z w : Nat → Int} (h : ∀ j, 14 ≤ j → j < 62 → w j = z j) {code g : Nat} (hg : g < 6) (q : Nat) : zB w code g q = zB z code g q := by
  have d := dig_lt code g
  unfold zB
  rw [h _ (by omega) (by omega), h _ (by omega) (by omega)]
theorem zare_ext {z w : Nat → Int} (h : ∀ j, 14 ≤ j → j < 62 → w j = z j) {g s : Nat} (hg : g < 6) (hs : s < 2) : zare w g s = zare z g s := by
  unfold zare
  rw [h _ (by omega) (by omega), h _ (by omega) (by omega)]
theorem plF_Bext {B B' : Nat → Nat → Nat} {M : Nat → Bool} {t s : Nat} (h : ∀ g q, g < 6 → B g q = B' g q) : plF B M t s ↔ plF B' M t s :=
  ⟨fun ⟨pos, p1, p2⟩ => ⟨pos, fun g hg hm => by rw [← h g _ hg]; exact p1 g hg hm, fun g k hg hk hm km hgk => by rw [← h g _ hg, ← h k _ hk]; exact p2 g k hg hk hm km hgk⟩, fun ⟨pos, p1, p2⟩ => ⟨pos, fun g hg hm => by rw [h g _ hg]; exact p1 g hg hm, fun g k hg hk hm km hgk => by rw [h g _ hg, h k _ hk]; exact p2 g k hg hk hm km hgk⟩⟩
theorem zfit_ext {z w : Nat → Int} (h : ∀ j, 14 ≤ j → j < 62 → w j = z j) (code : Nat) : zfit w code ↔ zfit z code := plF_Bext (fun g q hg => zB_ext h hg q)
theorem fm_ext {z w : Nat → Int} {H : fl_H} (h : ∀ j, 14 ≤ j → j < 62 → w j = z j) (h1 : w 1 = z 1) (z6 : z 1 ≤ 6) (k : fm z H) : fm w H := fun g hg s hs => by
  rw [h1] at hg
  rw [zare_ext h (by omega) hs, h (16 + 8 * g + 3 * s) (by omega) (by omega), h (17 + 8 * g + 3 * s) (by omega) (by omega)]
  exact k g hg s hs
theorem kn_ext {z w : Nat → Int} {H : fl_H} (h : ∀ j, 14 ≤ j → j < 62 → w j = z j) (h1 : w 1 = z 1) (k : kn z H) : kn w H := fun code hc hz => by
  rw [zfit_ext h code]
  exact k code hc (fun g hg hm => by rw [← h1]; exact hz g hg hm)
-- ---- pages
def zadd (z : Nat → Int) (a : Int) : Nat → Int := upz (upz z (10 + (z 0).toNat) a) 0 (z 0 + 1)
def zrem (z : Nat → Int) (q : Nat) : Nat → Int := fun j => if j = 0 then z 0 - 1 else if 10 + q ≤ j ∧ (j : Int) + 1 < 10 + z 0 then z (j + 1) else z j
def bpg (z : Nat → Int) (a q : Int) (z' : Nat → Int) : Prop := (a < 0 ∧ q < 0 ∧ z' = z) ∨ (0 ≤ a ∧ a ≤ 60 ∧ q < 0 ∧ z 0 < 3 ∧ z' = zadd z a) ∨ (a < 0 ∧ 0 ≤ q ∧ q < z 0 ∧ z' = zrem z q.toNat)
theorem bpg_out {z z' : Nat → Int} {a q : Int} (h : bpg z a q z') (h3 : 0 ≤ z 0 ∧ z 0 ≤ 3) : ∀ j, ¬ (j = 0 ∨ (10 ≤ j ∧ j < 13)) → z' j = z j := by
  intro j hj
  rcases h with ⟨-, -, rfl⟩ | ⟨-, -, -, h4, rfl⟩ | ⟨-, h5, h6, rfl⟩
  · rfl
  · unfold zadd
    rw [upz_ne _ _ (by omega), upz_ne _ _ (by omega)]
  · unfold zrem
    rw [if_neg (by omega), if_neg (by omega)]
theorem bpg_wf {z z' : Nat → Int} {a q : Int} (h : bpg z a q z') (k : wf z) : wf z' := by
  have h3 : 0 ≤ z 0 ∧ z 0 ≤ 3 := ⟨k.1.1, k.1.2.1⟩
  have out := bpg_out h h3
  obtain ⟨a0, b, c, d⟩ := k
  obtain ⟨b1, b2, b3, b4, b5⟩ := b
  refine ⟨⟨?_, ?_, by rw [out 1 (by omega)]; exact a0.2.2.1, by rw [out 1 (by omega)]; exact a0.2.2.2.1, by rw [out 2 (by omega)]; exact a0.2.2.2.2.1, by rw [out 2 (by omega)]; exact a0.2.2.2.2.2⟩, ⟨fun p hp => ?_, by rw [out 4 (by omega)]; exact b2, by rw [out 5 (by omega)]; exact b3, by rw [out 6 (by omega)]; exact b4, by rw [out 3 (by omega)]; exact b5⟩, wfG_ext (fun j hj => out j (by omega)) a0.2.2.2.1 c, wfB_ext (fun j hj => out j (by omega)) a0.2.2.2.2.2 (by rw [out 1 (by omega)]; exact Int.le_refl _) d⟩
  · rcases h with ⟨-, -, rfl⟩ | ⟨-, -, -, h4, rfl⟩ | ⟨-, h5, h6, rfl⟩
    · exact h3.1
    · show 0 ≤ z 0 + 1; omega
    · show 0 ≤ z 0 - 1; omega
  · rcases h with ⟨-, -, rfl⟩ | ⟨-, -, -, h4, rfl⟩ | ⟨-, h5, h6, rfl⟩
    · exact h3.2
    · show z 0 + 1 ≤ 3; omega
    · show z 0 - 1 ≤ 3; omega
  · rcases h with ⟨-, -, rfl⟩ | ⟨h1, h2, -, h4, rfl⟩ | ⟨-, h5, h6, rfl⟩
    · exact b1 p hp
    · unfold zadd
      rw [upz_ne _ _ (by omega)]
      by_cases e : p = (z 0).toNat
      · rw [e, upz_at]; exact ⟨h1, h2⟩
      · rw [upz_ne _ _ (by omega)]; exact b1 p hp
    · unfold zrem
      rw [if_neg (by omega)]
      by_cases e : 10 + q.toNat ≤ 10 + p ∧ ((10 + p : Nat) : Int) + 1 < 10 + z 0
      · rw [if_pos e]
        have := b1 (p + 1) (by omega)
        exact this
      · rw [if_neg e]; exact b1 p hp
/-- the book's cells hold z -/
def bz (z : Nat → Int) (H : fl_H) : Prop := gz z H ∧ H 1 0 = z 0 ∧ ∀ p, p < 3 → H 2 p = zvw z p
theorem bz_cz (H : fl_H) : bz (cz H 1) H := ⟨fun _ _ _ => rfl, rfl, fun p hp => by
  obtain ⟨s1, s2⟩ := slt_pg p hp
  exact (cz_at s1 (by rw [s2] <;> rfl) (by rw [s2] <;> rfl)).symm⟩
/-- what beginning leaves -/
def pB (c : Nat) : Prop := (64 ≤ c ∧ c ≤ 67) ∨ (69 ≤ c ∧ c ≤ 78)
/-- a draft begun: all out -/
def dbg (z' : Nat → Int) (H' : fl_H) : Prop := dz z' H' ∧ dr z' (fun _ => 0) H' ∧ (∀ o, o ≤ (z' 1).toNat → H' 78 ((z' 1).toNat - o) = zop z' (z' 1).toNat o) ∧ H' 64 5 = 1 ∧ fm z' H' ∧ kn z' H'
theorem ncr_0 (p : Nat) : ncr (fun _ => 0) p = 0 := psm_zero (fun i _ => fcr_0 p i)
theorem nfi_0 (z : Nat → Int) (p : Nat) : nfi z (fun _ => 0) p = 0 := psm_zero (fun i _ => ffi_0 z p i)
theorem nco_0 (p : Nat) : nco (fun _ => 0) p = 0 := psm_zero (fun i _ => fco_0 p i)
theorem nri_0 (z : Nat → Int) (f : Int) : nri z (fun _ => 0) f = 0 := psm_zero (fun i _ => fri_0 z f i)
theorem flI_fr {z : Nat → Int} {H G : fl_H} (h : flI z H) (k : ∀ c, 64 ≤ c → c ≤ 67 → G c = H c) : flI z G := by
  rcases h with h | ⟨h1, h2, h3⟩
  · exact Or.inl (by rw [k 64 (by omega) (by omega)]; exact h)
  · refine Or.inr ⟨by rw [k 64 (by omega) (by omega)]; exact h1, fun g hg s hs => ?_, fun code hc hz => ?_⟩
    · rw [k 67 (by omega) (by omega), k 66 (by omega) (by omega)]; exact h2 g hg s hs
    · rw [k 65 (by omega) (by omega)]; exact h3 code hc hz
theorem dc_tail {N : Nat} {z : Nat → Int} {H G : fl_H} {Q : Option Int → fl_H → Prop} (hw : wf z) (oG : oc pB H G) (hd : dz z G) (hf : flI z G) (k : ∀ F, oc pB H F → dbg z F → Q none F) : ∀ m, m < N → ck (cm_pg X xs) m cm_m249 [.index 71, fl_t 0] G (fun r F1 => r = none ∧ (∀ m, m < N → ck (cm_pg X xs) m cm_m249 [.index 72, fl_t (-1)] F1 (fun r F2 => r = none ∧ (∀ m, m < N → ck (cm_pg X xs) m cm_m249 [.index 74, fl_t 0] F2 (fun r F3 => r = none ∧ (∀ m, m < N → ck (cm_pg X xs) m cm_m249 [.index 75, fl_t 0] F3 (fun r F4 => r = none ∧ (∀ m, m < N → ck (cm_pg X xs) m cm_m249 [.index 76, fl_t 0] F4 (fun r F5 => r = none ∧ (∀ m, m < N → ck (cm_pg X xs) m cm_m249 [.index 77, fl_t 0] F5 (fun r F6 => r = none ∧ (∀ m, m < N → ck (cm_pg X xs) m cm_m32 [.index 64] F6 (fun r F7 => r = none ∧ (∀ m, m < N → ck (cm_pg X xs) m cm_m14 [.index 69] F7 (fun r F8 => r = none ∧ (Q none F8)))))))))))))))) := by
  have zf : ∀ {c : Nat}, 69 ≤ c → c ≤ 78 → pB c := fun a b => Or.inr ⟨a, b⟩
  refine fun m1 _ => ck_mono (fz_71 (X := X) (xs := xs)) (fun r1 F1 h1 => ⟨h1.1, fun m2 _ => ck_mono (fz_72 (X := X) (xs := xs)) (fun r2 F2 h2 => ⟨h2.1, fun m3 _ => ck_mono (fz_74 (X := X) (xs := xs)) (fun r3 F3 h3 => ⟨h3.1, fun m4 _ => ck_mono (fz_75 (X := X) (xs := xs)) (fun r4 F4 h4 => ⟨h4.1, fun m5 _ => ck_mono (fz_76 (X := X) (xs := xs)) (fun r5 F5 h5 => ⟨h5.1, fun m6 _ => ck_mono (fz_77 (X := X) (xs := xs)) (fun r6 F6 h6 => ⟨h6.1, fun m7 _ => ?_⟩)⟩)⟩)⟩)⟩)⟩)
  obtain ⟨-, a1, o1⟩ := h1
  obtain ⟨-, a2, o2⟩ := h2
  obtain ⟨-, a3, o3⟩ := h3
  obtain ⟨-, a4, o4⟩ := h4
  obtain ⟨-, a5, o5⟩ := h5
  obtain ⟨-, a6, o6⟩ := h6
  have oF : oc (fun c => 71 ≤ c ∧ c ≤ 77) G F6 := oc_trans (oc_trans (oc_trans (oc_trans (oc_trans (oc_mono o1 (fun c h => by omega)) (oc_mono o2 (fun c h => by omega))) (oc_mono o3 (fun c h => by omega))) (oc_mono o4 (fun c h => by omega))) (oc_mono o5 (fun c h => by omega))) (oc_mono o6 (fun c h => by omega))
  have d6 : dz z F6 := dz_oc hd oF (fun c hc => by omega)
  have f6 : flI z F6 := flI_fr hf (fun c a b => oF c (by omega))
  have s6 : dr z (fun _ => 0) F6 := by
    refine ⟨fun g _ => ⟨by have := hw.1.1; show ((0 : Nat) : Int) ≤ _; omega, fun _ => rfl⟩, fun g hg => ⟨?_, ?_, fun hh => absurd rfl hh⟩, fun p hp => ⟨?_, ?_, ?_⟩, fun f hf' => ?_⟩
    · rw [o6 71 (by decide), o5 71 (by decide), o4 71 (by decide), o3 71 (by decide), o2 71 (by decide), a1 g hg]; rfl
    · rw [o6 72 (by decide), o5 72 (by decide), o4 72 (by decide), o3 72 (by decide), a2 g hg, if_pos rfl]
    · rw [o6 74 (by decide), o5 74 (by decide), o4 74 (by decide), a3 p hp, ncr_0]
    · rw [o6 75 (by decide), o5 75 (by decide), a4 p hp, nfi_0]
    · rw [o6 76 (by decide), a5 p hp, nco_0]
    · rw [a6 f hf', nri_0]
  refine ck_mono (fc_measure (X := X) (xs := xs) d6.1 hw f6) (fun r7 F7 h7 => ⟨h7.1, fun m8 _ => ?_⟩)
  obtain ⟨-, o7, b7, c7, e7, k7⟩ := h7
  have d7 : dz z F7 := dz_oc d6 o7 (fun c hc => by unfold pF; omega)
  refine ck_mono (dc_open (X := X) (xs := xs) d7.1 hw) (fun r8 F8 h8 => ⟨h8.1, k F8 ?_ ⟨?_, ?_, h8.2.1, ?_, ?_, ?_⟩⟩)
  · exact oc_trans oG (oc_trans (oc_mono oF (fun c h => by unfold pB; omega)) (oc_trans (oc_mono o7 (fun c h => by unfold pF at h; unfold pB; omega)) (oc_mono h8.2.2 (fun c h => by unfold pB; omega))))
  · exact dz_oc d7 h8.2.2 (fun c hc => by omega)
  · obtain ⟨q1, q2, q3⟩ := s6
    have e : ∀ c, 69 ≤ c → c ≤ 77 → F8 c = F6 c := fun c p q => by rw [h8.2.2 c (by omega), o7 c (by unfold pF; omega)]
    exact ⟨q1, fun g hg => by rw [e 71 (by omega) (by omega), e 72 (by omega) (by omega), e 73 (by omega) (by omega)]; exact q2 g hg, ds_oc q3 (fun c p q => e c (by omega) q)⟩
  · rw [h8.2.2 64 (by decide)]; exact c7
  · intro g hg s hs
    rw [h8.2.2 67 (by decide), h8.2.2 66 (by decide)]; exact e7 g hg s hs
  · intro code hc hz
    rw [h8.2.2 65 (by decide)]; exact k7 code hc hz
theorem dc_begin {m : Nat} {z z' : Nat → Int} {a q : Int} {H : fl_H} (ha : fl_w a = a) (hq : fl_w q = q) (hb : bz z H) (hw : wf z) (hf : flI z H) (hp : bpg z a q z') : ck (cm_pg X xs) m cm_m13 [.index 69, fl_t a, fl_t q] H (fun r H' => r = none ∧ oc pB H H' ∧ dbg z' H') := by
  have h3 : 0 ≤ z 0 ∧ z 0 ≤ 3 := ⟨hw.1.1, hw.1.2.1⟩
  obtain ⟨n, hn⟩ : ∃ n : Nat, z 0 = (n : Int) := ⟨(z 0).toNat, by omega⟩
  have out := bpg_out hp h3
  have hw' := bpg_wf hp hw
  have gz' : ∀ G, oc pB H G → gz z' G := fun G oG j hv hj => by
    rw [cz_out (G := G) (H := H) (b := 1) (fun c i p1 p2 => by rw [oG c (by unfold pB; omega)]), hb.1 j hv hj, out j (by omega)]
  have fl' : ∀ G, (∀ c, 64 ≤ c → c ≤ 67 → G c = H c) → flI z' G := fun G k => by
    have e : ∀ j, 14 ≤ j → j < 62 → z' j = z j := fun j p1 p2 => out j (by omega)
    rcases flI_fr hf k with h | ⟨q1, q2, q3⟩
    · exact Or.inl h
    · exact Or.inr ⟨q1, fm_ext e (out 1 (by omega)) hw.1.2.2.2.1 q2, kn_ext e (out 1 (by omega)) q3⟩
  have loop : ∀ (f t : Nat), t + f = n → ∀ (N : Nat) (G : fl_H), oc (fun d => d = 69 ∨ d = 70) H G → G 69 2 = ((t - (if 0 ≤ q ∧ q < (t : Int) then 1 else 0) : Nat) : Int) → (∀ j, j < t - (if 0 ≤ q ∧ q < (t : Int) then 1 else 0) → G 70 j = zvw z (if 0 ≤ q ∧ q ≤ (j : Int) then j + 1 else j)) → hd_Draft_begin_69_7 (cm_pg X xs) N G a q (t : Int) (fun r H' => r = none ∧ oc pB H H' ∧ dbg z' H') := by
    intro f
    induction f with
    | zero =>
      intro t ht N G oG g1 g2
      have e : t = n := by omega
      subst e
      have oB : oc pB H G := oc_mono oG (fun c h => by unfold pB; omega)
      have e1 : G 1 0 = (t : Int) := by rw [oG 1 (by omega), hb.2.1, hn]
      refine vh_Draft_begin_69_7 ?_
      rw [e1, ha]
      refine ⟨fun _ => ⟨fun ha0 => ?_, fun ha0 => ?_⟩, fun h => absurd (Int.le_refl _) h⟩
      · -- nothing added
        have dG : dz z' G := by
          refine ⟨gz' G oB, ?_, fun p hp' => ?_⟩
          · rw [g1]
            rcases hp with ⟨-, h2, rfl⟩ | ⟨h1, -⟩ | ⟨-, h5, h6, rfl⟩
            · rw [if_neg (by omega), hn]; omega
            · omega
            · rw [if_pos (by omega)]
              show _ = z 0 - 1
              omega
          · rcases hp with ⟨-, h2, rfl⟩ | ⟨h1, -⟩ | ⟨-, h5, h6, rfl⟩
            · rw [g2 p (by rw [if_neg (by omega)]; omega), if_neg (by omega)]
            · omega
            · have hp' : (p : Int) < z 0 - 1 := hp'
              rw [g2 p (by rw [if_pos (by omega)]; omega)]
              by_cases c : 0 ≤ q ∧ q ≤ (p : Int)
              · rw [if_pos c]
                show z (10 + (p + 1)) = zrem z q.toNat (10 + p)
                unfold zrem
                rw [if_neg (by omega), if_pos (by omega)]
                rfl
              · rw [if_neg c]
                show z (10 + p) = zrem z q.toNat (10 + p)
                unfold zrem
                rw [if_neg (by omega), if_neg (by omega)]
        exact dc_tail (X := X) (xs := xs) (N := N) (Q := fun r H' => r = none ∧ oc pB H H' ∧ dbg z' H') hw' oB dG (fl' G (fun c p1 p2 => oG c (by omega))) (fun F oF hF => ⟨rfl, oF, hF⟩)
      · rcases hp with ⟨h1, -, -⟩ | ⟨h1, h2, hq0, h4, rfl⟩ | ⟨h1, -⟩
        · omega
        · rw [if_neg (by omega)] at g1
          rw [g1, fl_wi (x := ((t - 0 : Nat) : Int)) (by omega) (by omega), Int.toNat_natCast]
          refine ⟨fun h => by omega, fun _ H36 e36 _ H38 e38 => ?_⟩
          have o38 : oc (fun d => d = 69 ∨ d = 70) H H38 := by rw [e38, e36]; exact oc_up (oc_up oG (Or.inl rfl)) (Or.inr rfl)
          have oB38 : oc pB H H38 := oc_mono o38 (fun c h => by unfold pB; omega)
          have et : (z 0).toNat = t := by omega
          have dG : dz (zadd z a) H38 := by
            refine ⟨gz' H38 oB38, ?_, fun p hp' => ?_⟩
            · rw [e38, fl_up_c _ _ _ _ (by decide), e36, fl_up_at]
              show _ = z 0 + 1
              omega
            · have hp' : (p : Int) < z 0 + 1 := hp'
              unfold zvw zadd
              rw [upz_ne _ _ (by omega), et, e38]
              by_cases e : p = t
              · rw [e, Nat.sub_zero, fl_up_at, upz_at]
              · rw [fl_up_i _ _ _ _ (by omega), e36, fl_up_c _ _ _ _ (by decide), upz_ne _ _ (by omega), g2 p (by rw [if_neg (by omega)]; omega), if_neg (by omega)]
                rfl
          exact dc_tail (X := X) (xs := xs) (N := N) (Q := fun r H' => r = none ∧ oc pB H H' ∧ dbg (zadd z a) H') hw' oB38 dG (fl' H38 (fun c p1 p2 => o38 c (by omega))) (fun F oF hF => ⟨rfl, oF, hF⟩)
        · omega
    | succ f ih =>
      intro t ht N G oG g1 g2
      have e1 : G 1 0 = (n : Int) := by rw [oG 1 (by omega), hb.2.1, hn]
      have ek : (t : Int) + 1 = ((t + 1 : Nat) : Int) := by omega
      refine vh_Draft_begin_69_7 ?_
      rw [e1, hq, fl_wi (x := (t : Int)) (by omega) (by omega), fl_wi (x := (n : Int)) (by omega) (by omega), ek, Int.toNat_natCast]
      refine ⟨fun h => by omega, fun _ => ⟨fun hqt m hm => ?_, fun hqt H59 e59 => ?_⟩⟩
      · have c1 : ¬ (0 ≤ q ∧ q < (t : Int)) := by omega
        have c2 : 0 ≤ q ∧ q < ((t + 1 : Nat) : Int) := by omega
        rw [if_neg c1] at g1 g2
        refine ih (t + 1) (by omega) m G oG ?_ (fun j hj => ?_)
        · rw [g1, if_pos c2]; omega
        · rw [if_pos c2] at hj
          exact g2 j (by omega)
      · rw [g1, fl_wi (x := ((t - (if 0 ≤ q ∧ q < (t : Int) then 1 else 0) : Nat) : Int)) (by omega) (by omega), Int.toNat_natCast]
        intro _ _ H62 e62 m hm
        have v2 : H59 2 t = zvw z t := by rw [e59, fl_up_c _ _ _ _ (by decide), oG 2 (by omega)]; exact hb.2.2 t (by omega)
        rw [v2] at e62
        have sk : (if 0 ≤ q ∧ q ≤ ((t - (if 0 ≤ q ∧ q < (t : Int) then 1 else 0) : Nat) : Int) then (t - (if 0 ≤ q ∧ q < (t : Int) then 1 else 0)) + 1 else (t - (if 0 ≤ q ∧ q < (t : Int) then 1 else 0))) = t := by
          by_cases c : 0 ≤ q ∧ q < (t : Int)
          · rw [if_pos c, if_pos (by omega)]; omega
          · rw [if_neg c, if_neg (by omega)]; omega
        have ct : (t + 1 - (if 0 ≤ q ∧ q < ((t + 1 : Nat) : Int) then 1 else 0)) = (t - (if 0 ≤ q ∧ q < (t : Int) then 1 else 0)) + 1 := by
          by_cases c : 0 ≤ q ∧ q < (t : Int)
          · rw [if_pos c, if_pos (by omega)]; omega
          · rw [if_neg c, if_neg (by omega)]; omega
        refine ih (t + 1) (by omega) m H62 (by rw [e62, e59]; exact oc_up (oc_up oG (Or.inl rfl)) (Or.inr rfl)) ?_ (fun j hj => ?_)
        · rw [ct, e62, fl_up_c _ _ _ _ (by decide), e59, fl_up_at, g1]; omega
        · rw [ct] at hj
          rw [e62]
          by_cases e : j = t - (if 0 ≤ q ∧ q < (t : Int) then 1 else 0)
          · rw [e, fl_up_at, sk]
          · rw [fl_up_i _ _ _ _ e, e59, fl_up_c _ _ _ _ (by decide)]
            exact g2 j (by omega)
  refine ve_Draft_begin_69 (fun H1 e1 => ?_)
  exact loop n 0 (by omega) m H1 (by rw [e1]; exact oc_up (oc_refl _ _) (Or.inl rfl)) (by rw [e1, fl_up_at, if_neg (by omega)]; rfl) (fun j hj => absurd hj (by omega))
end
end
