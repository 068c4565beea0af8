noncomputable section
/-! L3: calls that change choices alone; a page more, a page less of the reference. -/
section
variable {X : Term} {xs : List Int32}
/-- all but choices -/
def sC (c i : Nat) : Bool := sT c i && !(Nat.beq c 19 || (Nat.beq c 95 && (Nat.ble 62 i && Nat.ble i 67)))
theorem sC_T {c i : Nat} (h : sC c i = true) : sT c i = true := by
  unfold sC at h
  exact (Bool.and_eq_true_iff.mp h).1
theorem fr_TC {H G : fl_H} (h : fr sT H G) : fr sC H G := fun c i k => h c i (sC_T k)
theorem fr_UC {H G : fl_H} (h : fr sU H G) : fr sC H G := fr_TC (fr_UT h)
theorem fr_C19 (H : fl_H) (i : Nat) (v : Int) : fr sC H (fl_up H 19 i v) := fun c j k => by
  unfold fl_up
  rw [if_neg (fun hh => by rw [hh.1] at k; unfold sC at k; simp at k)]
theorem fr_C95 (H : fl_H) {i : Nat} (v : Int) (h1 : 62 ≤ i) (h2 : i ≤ 67) : fr sC H (fl_up H 95 i v) := fun c j k => by
  unfold fl_up
  rw [if_neg (fun hh => by
    rw [hh.1, hh.2] at k
    unfold sC at k
    rw [Nat.ble_eq_true_of_le h1, Nat.ble_eq_true_of_le h2] at k
    simp at k)]
theorem fr_Cfg {fg : fl_H → fl_H} (hf : fgN fg) (G : fl_H) : fr sC G (fg G) := fun c i k => hf G c i (sC_T k)
theorem slt_18 : ∀ j : Nat, j < 152 → vld j = true → (slt j).1 = 18 → 62 ≤ j ∧ j < 68 := by decide +kernel
theorem T1_frC {H G : fl_H} (h : fr sC H G) (t : T1 H) : T1 G := by
  obtain ⟨⟨⟨n, t1, t2, t3⟩, t4, t5, t6, t7, t8, t9, t10, t11⟩, tw, tk1, tk2⟩ := t
  have s1 : ∀ c i, 1 ≤ c → c ≤ 18 → G c i = H c i := fun c i a b => h c i (by
    unfold sC sT
    rw [Nat.ble_eq_true_of_le a, Nat.ble_eq_true_of_le (show c ≤ 19 by omega)]
    have : Nat.beq c 19 = false := by
      cases hb : Nat.beq c 19
      · rfl
      · have := Nat.eq_of_beq_eq_true hb; omega
    rw [this]
    have : Nat.beq c 95 = false := by
      cases hb : Nat.beq c 95
      · rfl
      · have := Nat.eq_of_beq_eq_true hb; omega
    rw [this]
    simp)
  have s39 : ∀ c i, 39 ≤ c → c ≤ 59 → G c i = H c i := fun c i a b => h c i (by
    unfold sC sT
    rw [Nat.ble_eq_true_of_le a, Nat.ble_eq_true_of_le b]
    have : Nat.beq c 19 = false := by
      cases hb : Nat.beq c 19
      · rfl
      · have := Nat.eq_of_beq_eq_true hb; omega
    rw [this]
    have : Nat.beq c 95 = false := by
      cases hb : Nat.beq c 95
      · rfl
      · have := Nat.eq_of_beq_eq_true hb; omega
    rw [this]
    simp)
  have z95 : ∀ j, ¬ (62 ≤ j ∧ j < 68) → G 95 j = H 95 j := fun j hj => h 95 j (by
    unfold sC
    have : (Nat.ble 62 j && Nat.ble j 67) = false := by
      cases hb : (Nat.ble 62 j && Nat.ble j 67)
      · rfl
      · obtain ⟨p, q⟩ := Bool.and_eq_true_iff.mp hb
        have := Nat.le_of_ble_eq_true p
        have := Nat.le_of_ble_eq_true q
        omega
    rw [this]
    rfl)
  have c1 : ∀ j, ¬ (62 ≤ j ∧ j < 68) → cz G 1 j = cz H 1 j := fun j hj => by
    unfold cz
    by_cases hv : vld j = true
    · rw [if_pos hv, if_pos hv]
      have h1 := slt_le j (vld_lt hv)
      have h2 : (slt j).1 ≠ 18 := fun hh => hj (slt_18 j (vld_lt hv) hv hh)
      exact s1 _ _ (by omega) (by omega)
    · rw [if_neg hv, if_neg hv]
  have z39 : cz G 39 = cz H 39 := cz_out (fun c i a b => s39 c i a (by omega))
  have e106 : G 106 = H 106 := funext (fun i => h 106 i rfl)
  have e18 : G 94 18 = H 94 18 := h 94 18 rfl
  refine ⟨⟨⟨n, by rw [s39 58 1 (by decide) (by decide)]; exact t1, by rw [h 94 13 rfl]; exact t2, t3⟩, fun i => by rw [h 104 i rfl, s39 59 i (by decide) (by decide)]; exact t4 i, fun i => by rw [s39 59 i (by decide) (by decide)]; exact t5 i, by rw [s39 58 2 (by decide) (by decide)]; exact t6, by rw [s39 58 3 (by decide) (by decide)]; exact t7, fun j hj => by rw [c1 j hj, z95 j hj]; exact t8 j hj, zr_ext (fun j hj => z95 j (by omega)) t9, by rw [h 0 3 rfl, e18]; exact t10, by rw [e18, z39, e106]; exact t11⟩, wf_ext (fun j _ hj => z95 j hj) tw, by rw [e18, e106]; exact tk1, by rw [e106]; exact tk2⟩
theorem wc_choose {m : Nat} {H : fl_H} {a b : Int} : ck (cm_pg X xs) m cm_m111 [.index 0, fl_t a, fl_t b] H (fpI sC H) :=
  ve_GoodsBook_choose_0 (fun m hm => ve_GoodsBook_isGood_0 ⟨_, rfl, fun _ => ⟨⟨_, rfl⟩, fr_refl _ _⟩, fun _ m hm => ve_Book_isChoice_1 ⟨_, rfl, fun _ => ⟨⟨_, rfl⟩, fr_refl _ _⟩, fun _ _ _ H10 e10 m hm => ck_mono (cf_plan (X := X) (xs := xs)) (fun r H13 h => ⟨h.1, ⟨_, rfl⟩, by rw [h.2, e10]; exact fr_trans (fr_C19 _ _ _) (fr_Cfg fgN_P _)⟩)⟩⟩)
theorem wq_choose {m : Nat} {H : fl_H} {a b : Int} (ha : fl_w a = a) (hz : zr (H 95)) : ck (cm_pg X xs) m cm_m188 [.index 94, fl_t a, fl_t b] H (fpI sC H) := by
  obtain ⟨-, -, z1, z2, -⟩ := hz
  refine ve_GoodsBookModel_choose_94 (fun m hm => ve_GoodsBookModel_isGood_94 ⟨_, rfl, ?_⟩)
  simp only [fb_0, ha]
  rw [fl_wi (x := H 95 1 - 1) (by omega) (by omega)]
  refine ⟨fun _ => ⟨⟨_, rfl⟩, fr_refl _ _⟩, fun hb m hm => ve_GoodsBookModel_isChoice_94 ⟨_, rfl, fun _ => ⟨⟨_, rfl⟩, fr_refl _ _⟩, fun _ => ?_⟩⟩
  have hb' := Decidable.not_not.mp hb
  rw [fl_wi (x := 62 + a) (by omega) (by omega)]
  exact fun _ _ H10 e10 => ⟨⟨_, rfl⟩, by rw [e10]; exact fr_C95 _ _ (by omega) (by omega)⟩
theorem wc_plan {m : Nat} {H : fl_H} {a b c : Int} : ck (cm_pg X xs) m cm_m112 [.index 0, fl_t a, fl_t b, fl_t c] H (fpI sC H) := by
  have k82 : ∀ (N : Nat) (G : fl_H) (a5 : Int), fr sC H G → hd_GoodsBook_plan_0_82 (cm_pg X xs) N G a c a5 (fpI sC H) := by
    intro N
    induction N using Nat.strongRecOn with
    | ind N ih =>
      intro G a5 hG
      exact vh_GoodsBook_plan_0_82 ⟨fun _ m hm => ck_mono (cf_plan (X := X) (xs := xs)) (fun r H2 h => ⟨h.1, fun m hm => ck_mono ((fa_Book_countIn_1 (X := X) (xs := xs) m).2 _) (fun r H4 k => by
        obtain ⟨⟨x, hx⟩, k2⟩ := k
        exact ⟨x, hx, ⟨_, rfl⟩, fr_trans (fr_trans hG (by rw [h.2]; exact fr_Cfg fgN_P _)) (fr_UC k2)⟩)⟩), fun _ m hm => ve_Sheets_value_60 (fun _ => ⟨_, rfl, fun _ H10 e10 m hm => ih m hm H10 (a5 + 1) (by rw [e10]; exact fr_trans hG (fr_C19 _ _ _))⟩)⟩
  have k33 : ∀ (N : Nat) (G : fl_H) (a5 : Int), fr sC H G → hd_GoodsBook_plan_0_33 (cm_pg X xs) N G a c a5 (fpI sC H) := by
    intro N
    induction N using Nat.strongRecOn with
    | ind N ih =>
      intro G a5 hG
      exact vh_GoodsBook_plan_0_33 ⟨fun _ => k82 N G 0 hG, fun _ m hm => ve_Sheets_value_60 (fun _ => ⟨_, rfl, fun m hm => ve_Book_isChoice_1 ⟨_, rfl, fun _ => ⟨⟨_, rfl⟩, hG⟩, fun _ m hm => ih m hm G (a5 + 1) hG⟩⟩)⟩
  exact ve_GoodsBook_plan_0 (fun m' hm => ck_mono ((fa_Sheets_refusal_60 (X := X) (xs := xs) m') _ _ _ _ _) (fun r H1 h => by
    obtain ⟨⟨x, hx⟩, h2⟩ := h
    exact ⟨x, hx, fun _ => k33 m H1 0 (fr_UC h2), fun _ => ⟨⟨_, rfl⟩, fr_UC h2⟩⟩))
theorem wq_plan {m : Nat} {H : fl_H} {a b c : Int} (hz : zr (H 95)) : ck (cm_pg X xs) m cm_m240 [.index 94, fl_t a, fl_t b, fl_t c] H (fpI sC H) := by
  obtain ⟨-, -, z1, z2, -⟩ := hz
  obtain ⟨n, hn⟩ : ∃ n : Nat, H 95 1 = (n : Int) := ⟨(H 95 1).toNat, by omega⟩
  have k80 : ∀ (N : Nat) (G : fl_H) (k : Nat), k ≤ n → fr sC H G → hd_GoodsBookModel_plan_94_80 (cm_pg X xs) N G a c (k : Int) (fpI sC H) := by
    intro N
    induction N using Nat.strongRecOn with
    | ind N ih =>
      intro G k hk hG
      have e1 : G 95 1 = H 95 1 := hG 95 1 rfl
      refine vh_GoodsBookModel_plan_94_80 ⟨fun _ m hm => ck_mono ((fa_GoodsBookModel_count_94 (X := X) (xs := xs) m).2 _ _) (fun r H4 k => by
        obtain ⟨⟨x, hx⟩, k2⟩ := k
        exact ⟨x, hx, ⟨_, rfl⟩, fr_trans hG (fr_UC k2)⟩), fun hlt => ?_⟩
      rw [e1, hn, fl_wi (x := (n : Int)) (by omega) (by omega), fl_wi (x := (k : Int)) (by omega) (by omega)] at hlt
      rw [fl_wi (x := 62 + (k : Int)) (by omega) (by omega)]
      have ek : (k : Int) + 1 = ((k + 1 : Nat) : Int) := by omega
      rw [ek]
      exact fun _ _ H6 e6 m hm => ih m hm H6 (k + 1) (by omega) (by rw [e6]; exact fr_trans hG (fr_C95 _ _ (by omega) (by omega)))
  have k36 : ∀ (N : Nat) (G : fl_H) (a5 : Int), fr sC H G → hd_GoodsBookModel_plan_94_36 (cm_pg X xs) N G a c a5 (fpI sC H) := by
    intro N
    induction N using Nat.strongRecOn with
    | ind N ih =>
      intro G a5 hG
      exact vh_GoodsBookModel_plan_94_36 ⟨fun _ => k80 N G 0 (by omega) hG, fun _ _ m hm => ve_GoodsBookModel_isChoice_94 ⟨_, rfl, fun _ => ⟨⟨_, rfl⟩, hG⟩, fun _ m hm => ih m hm G (a5 + 1) hG⟩⟩
  exact ve_GoodsBookModel_plan_94 (fun m' hm => ck_mono ((fa_GoodsBookModel_isSheet (X := X) (xs := xs) m') _ _ _) (fun r H1 h => by
    obtain ⟨⟨x, hx⟩, h2⟩ := h
    exact ⟨x, hx, fun _ => ⟨⟨_, rfl⟩, fr_UC h2⟩, fun _ m' hm => ck_mono ((fa_GoodsBookModel_lacksRow_94 (X := X) (xs := xs) m') _ _ _ _ _) (fun r H5 k => by
      obtain ⟨⟨y, hy⟩, k2⟩ := k
      exact ⟨y, hy, fun _ => k36 m H5 0 (fr_trans (fr_UC h2) (fr_UC k2)), fun _ => ⟨⟨_, rfl⟩, fr_trans (fr_UC h2) (fr_UC k2)⟩⟩)⟩))
theorem fr_Ccp (H : fl_H) (a n : Nat) : fr sC H (fl_cp H a 19 n) := fun c j k => by
  unfold fl_cp
  rw [if_neg (fun hh => by rw [hh.1] at k; unfold sC at k; simp at k)]
theorem wc_take {m : Nat} {H : fl_H} : ck (cm_pg X xs) m cm_m120 [.index 0] H (fpI sC H) :=
  ve_GoodsBook_take_0 (fun m hm => ck_mono ((fa_GoodsBook_findBest_0 (X := X) (xs := xs) m) _ _ _) (fun r H1 h => by
    obtain ⟨⟨x, hx⟩, h2⟩ := h
    exact ⟨x, hx, fun H4 e4 m hm => ck_mono (cf_plan (X := X) (xs := xs)) (fun r H6 k => ⟨k.1, ⟨_, rfl⟩, by rw [k.2, e4]; exact fr_trans (fr_trans (fr_UC h2) (fr_Ccp _ _ _)) (fr_Cfg fgN_P _)⟩)⟩))
theorem wq_take {m : Nat} {H : fl_H} (hz : zr (H 95)) : ck (cm_pg X xs) m cm_m198 [.index 94] H (fpI sC H) := by
  obtain ⟨-, -, z1, z2, -⟩ := hz
  obtain ⟨n, hn⟩ : ∃ n : Nat, H 95 1 = (n : Int) := ⟨(H 95 1).toNat, by omega⟩
  have k6 : ∀ (N : Nat) (G : fl_H) (k : Nat), k ≤ n → fr sC H G → hd_GoodsBookModel_take_94_6 (cm_pg X xs) N G (k : Int) (fpI sC H) := by
    intro N
    induction N using Nat.strongRecOn with
    | ind N ih =>
      intro G k hk hG
      have e1 : G 95 1 = H 95 1 := hG 95 1 rfl
      refine vh_GoodsBookModel_take_94_6 ⟨fun _ => ⟨⟨_, rfl⟩, hG⟩, fun hlt => ?_⟩
      rw [e1, hn, fl_wi (x := (n : Int)) (by omega) (by omega), fl_wi (x := (k : Int)) (by omega) (by omega)] at hlt
      rw [fl_wi (x := 62 + (k : Int)) (by omega) (by omega)]
      have ek : (k : Int) + 1 = ((k + 1 : Nat) : Int) := by omega
      rw [ek]
      exact fun _ _ H3 e3 m hm => ih m hm H3 (k + 1) (by omega) (by rw [e3]; exact fr_trans hG (fr_C95 _ _ (by omega) (by omega)))
  exact ve_GoodsBookModel_take_94 (fun m' hm => ck_mono ((fa_GoodsBookModel_findBest_94 (X := X) (xs := xs) m').2 _) (fun r H1 h => ⟨h.1, k6 m H1 0 (by omega) (fr_UC h.2)⟩))
/-- what the reference has laid aside comes back -/
theorem bk_aside {m : Nat} {H G : fl_H} (h : ∀ c i, c ≠ 95 → c ≠ 103 → sT c i = true → G c i = H c i) (h95 : ∀ i, 152 ≤ i → G 95 i = H 95 i) (h103 : ∀ i, i < 152 → G 103 i = H 95 i) : ck (cm_pg X xs) m cm_m210 [.index 94] G (fun r H' => r = none ∧ fr sT H H') :=
  ck_mono (lo_back (X := X) (xs := xs)) (fun r H' k => ⟨k.1, fun c i hs => by
    by_cases hc : c = 95
    · subst hc
      rw [k.2.1 i]
      by_cases hi : i < 152
      · rw [if_pos hi]; exact h103 i hi
      · rw [if_neg hi]; exact h95 i (by omega)
    · rw [k.2.2 c hc]
      exact h c i hc (fun hh => by rw [hh] at hs; exact Bool.false_ne_true hs) hs⟩)
theorem wq_more {m : Nat} {H : fl_H} {a : Int} : ck (cm_pg X xs) m cm_m211 [.index 94, fl_t a] H (fpI sT H) := by
  refine ve_GoodsBookModel_more_94 ⟨fun _ => ⟨fun _ => ⟨⟨_, rfl⟩, fr_refl _ _⟩, fun _ m hm => ck_mono ((fa_GoodsBookModel_findBest_94 (X := X) (xs := xs) m).2 _) (fun r H3 h3 => ⟨h3.1, fun m hm => ck_mono (lo_aside (X := X) (xs := xs)) (fun r H5 h5 => ⟨h5.1, fun hx H7 e7 H10 e10 m hm => ck_mono ((fa_GoodsBookModel_findBest_94 (X := X) (xs := xs) m).2 _) (fun r H12 h12 => ⟨h12.1, fun m hm => ck_mono (bk_aside (X := X) (xs := xs) (H := H) ?_ ?_ ?_) (fun r H14 h14 => ⟨h14.1, ⟨_, rfl⟩, h14.2⟩)⟩)⟩)⟩)⟩, fun _ => ⟨⟨_, rfl⟩, fr_refl _ _⟩⟩
  · intro c i c1 c2 hs
    rw [fr_UT h12.2 c i hs, e10, fl_up_c _ _ _ _ c1, e7, fl_up_c _ _ _ _ c1, h5.2.2 c c2, fr_UT h3.2 c i hs]
  · intro i hi
    rw [fr_UT h12.2 95 i rfl, e10, fl_up_i _ _ _ _ (by omega), e7, fl_up_i _ _ _ _ (by omega), h5.2.2 95 (by decide), fr_UT h3.2 95 i rfl]
  · intro i hi
    rw [h12.2 103 i rfl, e10, fl_up_c _ _ _ _ (by decide), e7, fl_up_c _ _ _ _ (by decide), h5.2.1 i, if_pos hi, fr_UT h3.2 95 i rfl]
theorem wq_less {m : Nat} {H : fl_H} {a : Int} : ck (cm_pg X xs) m cm_m212 [.index 94, fl_t a] H (fpI sT H) := by
  have k26 : ∀ (N : Nat) (G : fl_H) (a2 a3 : Int), (∀ c i, c ≠ 95 → c ≠ 103 → sT c i = true → G c i = H c i) → (∀ i, 152 ≤ i → G 95 i = H 95 i) → (∀ i, i < 152 → G 103 i = H 95 i) → hd_GoodsBookModel_less_94_26 (cm_pg X xs) N G a2 a3 (fpI sT H) := by
    intro N
    induction N using Nat.strongRecOn with
    | ind N ih =>
      intro G a2 a3 g1 g2 g3
      refine vh_GoodsBookModel_less_94_26 ⟨fun _ H2 e2 m hm => ck_mono ((fa_GoodsBookModel_findBest_94 (X := X) (xs := xs) m).2 _) (fun r H4 h4 => ⟨h4.1, fun m hm => ck_mono (bk_aside (X := X) (xs := xs) (H := H) ?_ ?_ ?_) (fun r H6 h6 => ⟨h6.1, ⟨_, rfl⟩, h6.2⟩)⟩), fun _ hx hy H9 e9 m hm => ih m hm H9 a2 (a3 + 1) ?_ ?_ ?_⟩
      · intro c i c1 c2 hs
        rw [fr_UT h4.2 c i hs, e2, fl_up_c _ _ _ _ c1]; exact g1 c i c1 c2 hs
      · intro i hi
        rw [fr_UT h4.2 95 i rfl, e2, fl_up_i _ _ _ _ (by omega)]; exact g2 i hi
      · intro i hi
        rw [h4.2 103 i rfl, e2, fl_up_c _ _ _ _ (by decide)]; exact g3 i hi
      · intro c i c1 c2 hs
        rw [e9, fl_up_c _ _ _ _ c1]; exact g1 c i c1 c2 hs
      · intro i hi
        rw [e9, fl_up_i _ _ _ _ (by omega)]; exact g2 i hi
      · intro i hi
        rw [e9, fl_up_c _ _ _ _ (by decide)]; exact g3 i hi
  exact ve_GoodsBookModel_less_94 (fun m' hm => ck_mono ((fa_GoodsBookModel_isPage_94 (X := X) (xs := xs) m') _ _) (fun r H1 h => by
    obtain ⟨⟨x, hx⟩, h2⟩ := h
    exact ⟨x, hx, fun _ => ⟨⟨_, rfl⟩, fr_UT h2⟩, fun _ m' hm => ck_mono ((fa_GoodsBookModel_findBest_94 (X := X) (xs := xs) m').2 _) (fun r H5 h5 => ⟨h5.1, fun m' hm => ck_mono (lo_aside (X := X) (xs := xs)) (fun r H7 h7 => ⟨h7.1, k26 m H7 _ _ (fun c i c1 c2 hs => by rw [h7.2.2 c c2, fr_UT h5.2 c i hs, fr_UT h2 c i hs]) (fun i hi => by rw [h7.2.2 95 (by decide), fr_UT h5.2 95 i rfl, fr_UT h2 95 i rfl]) (fun i hi => by rw [h7.2.1 i, if_pos hi, fr_UT h5.2 95 i rfl, fr_UT h2 95 i rfl])⟩)⟩)⟩))
end
end
