noncomputable section
/-! L3: calls of the reference that change its contents; page of the class. -/
section
variable {X : Term} {xs : List Int32}
theorem zc_pageP {m : Nat} {H : fl_H} {v : Int} (hv : fl_w v = v) (hz : wf (cz H 1)) : ck (cm_pg X xs) m cm_m100 [.index 0, fl_t v] H (cP fgA (oPage v) H) := by
  obtain ⟨z1, z2, -⟩ := id hz.1
  change 0 ≤ H 1 0 at z1
  change H 1 0 ≤ 3 at z2
  obtain ⟨p, hp⟩ : ∃ p : Nat, H 1 0 = (p : Int) := ⟨(H 1 0).toNat, by omega⟩
  have c0 : cz H 1 0 = (p : Int) := hp
  refine ve_GoodsBook_page_0 ?_
  simp only [hv, w_0, w_60]
  refine ⟨fun h1 m hm => ve_Book_addPage_1 ?_, fun h1 => cP_no (by unfold oPage; rw [if_neg h1])⟩
  rw [fl_wi (x := H 1 0) (by omega) (by omega), hp, Int.toNat_natCast]
  refine ⟨fun hlt _ H2 e2 H5 e5 => ⟨_, rfl, fun m hm => ck_mono (cf_ans (X := X) (xs := xs)) (fun r H7 h => ⟨h.1, ?_⟩)⟩, fun hge => ⟨_, rfl, fun m hm => ck_mono (cf_ans (X := X) (xs := xs)) (fun r H7 h => ⟨h.1, ?_⟩)⟩⟩
  · have g2 : H2 1 0 = (p : Int) := by rw [e2, fl_up_c _ _ _ _ (by decide)]; exact hp
    obtain ⟨a1, a2⟩ := slt_pg p (by omega)
    have c5 : cz H5 1 = upz (cz H2 1) 0 ((p : Int) + 1) := by rw [e5, g2]; exact cz_up (j := 0) rfl rfl rfl
    have c2 : cz H2 1 = upz (cz H 1) (10 + p) v := by rw [e2]; exact cz_up a1 (by rw [a2] <;> rfl) (by rw [a2] <;> rfl)
    have eg : cz H5 1 = apz [0, v] (cz H 1) := by
      rw [c5, c2]
      show _ = upz (upz (cz H 1) (10 + (cz H 1 0).toNat) v) 0 (cz H 1 0 + 1)
      rw [c0, Int.toNat_natCast]
    refine cP_go (G := H5) (w := apz [0, v] (cz H 1)) ?_ ?_ (zeq_of eg) (fun j j1 j2 => ?_) h.2
    · rw [e5, e2]; exact own_up (own_up (own_refl H) _ _ _ (by decide) (by decide)) _ _ _ (by decide) (by decide)
    · unfold oPage
      rw [if_pos h1, if_pos (by rw [c0]; exact hlt), c0, g2]
    · rw [c5, c2, upz_ne _ _ (by omega), upz_ne _ _ (by omega)]
  · exact cP_go (G := H) (w := cz H 1) (own_refl H) (by unfold oPage; rw [if_pos h1, if_neg (by rw [c0]; exact hge)]) (zeq_refl _) (fun _ _ _ => rfl) h.2
/-- what a call leaves on the reference's side: are fits forgotten, what it does -/
def rP (kk : Bool) (f : fO) (H : fl_H) (r : Option Int) (H1 : fl_H) : Prop := r = some (f (H 95)).1 ∧ H1 95 = (f (H 95)).2 ∧ (∀ c, c ≠ 95 → c ≠ 96 → H1 c = H c) ∧ ((kk = true ∧ ∀ i, i < 729 → H1 96 i = 0) ∨ (H1 96 = H 96 ∧ (kk = true → H1 = H)))
theorem rP_no {kk : Bool} {f : fO} {H : fl_H} {v : Int} (h : f (H 95) = (v, H 95)) : rP kk f H (some v) H :=
  ⟨by rw [h], by rw [h], fun _ _ _ => rfl, Or.inr ⟨rfl, fun _ => rfl⟩⟩
theorem rP_go {f : fO} {H H1 : fl_H} {v : Int} {w : Nat → Int} (h : f (H 95) = (v, w)) (e : H1 95 = w) (o : ∀ c, c ≠ 95 → H1 c = H c) : rP false f H (some v) H1 :=
  ⟨by rw [h], by rw [h]; exact e, fun c a _ => o c a, Or.inr ⟨o 96 (by decide), fun k => absurd k (by decide)⟩⟩
theorem rP_gk {f : fO} {H H1 : fl_H} {v : Int} {w : Nat → Int} (h : f (H 95) = (v, w)) (e : H1 95 = w) (o : ∀ c, c ≠ 95 → c ≠ 96 → H1 c = H c) (k : ∀ i, i < 729 → H1 96 i = 0) : rP true f H (some v) H1 :=
  ⟨by rw [h], by rw [h]; exact e, o, Or.inl ⟨rfl, k⟩⟩
theorem rq_ff : ∀ (N : Nat) (H : fl_H) (a : Nat), a ≤ 729 → (∀ i, i < a → H 96 i = 0) → hd_GoodsBookModel_forgetFits_94_2 (cm_pg X xs) N H (a : Int) (fun r H' => r = none ∧ (∀ c, c ≠ 96 → H' c = H c) ∧ ∀ i, i < 729 → H' 96 i = 0) := by
  intro N
  induction N using Nat.strongRecOn with
  | ind N ih =>
    intro H a h0 h1
    refine vh_GoodsBookModel_forgetFits_94_2 ?_
    rw [fl_wi (by omega) (by omega)]
    refine ⟨fun hge => ⟨rfl, fun _ _ => rfl, fun i hi => h1 i (by omega)⟩, fun hlt _ H2 e2 m hm => ?_⟩
    rw [Int.toNat_natCast] at e2
    have := ih m hm H2 (a + 1) (by omega) (fun i hi => by
      rw [e2]
      by_cases hh : i = a
      · rw [hh, fl_up_at]
      · rw [fl_up_i _ _ _ _ hh]; exact h1 i (by omega))
    intro lv l0 l1
    refine vt_mono (Nat.le_refl _) (fun r H' hr => ⟨hr.1, fun c hc => ?_, hr.2.2⟩) (this lv l0 l1)
    rw [hr.2.1 c hc, e2, fl_up_cell _ _ _ _ hc]
theorem rq_forget {m : Nat} {H : fl_H} : ck (cm_pg X xs) m cm_m168 [.index 94] H (fun r H' => r = none ∧ (∀ c, c ≠ 96 → H' c = H c) ∧ ∀ i, i < 729 → H' 96 i = 0) :=
  ve_GoodsBookModel_forgetFits_94 (rq_ff _ H 0 (by omega) (fun i hi => absurd hi (by omega)))
theorem rq_good1 (g : Nat) (hg : g ≤ 5) : ∀ (f k : Nat), k + f = 8 → 2 ≤ k → ∀ (N : Nat) (H : fl_H), H 95 1 = (g : Int) → hd_GoodsBookModel_addGood_94_32 (cm_pg X xs) N H (14 + 8 * (g : Int)) (k : Int) (fun r H' => r = none ∧ (∀ j, H' 95 j = upz (upz (fun j => if 14 + 8 * g + k ≤ j ∧ j < 22 + 8 * g then (if j = 18 + 8 * g ∨ j = 21 + 8 * g then 0 else 1) else H 95 j) (62 + g) 0) 1 ((g : Int) + 1) j) ∧ (∀ c, c ≠ 95 → c ≠ 96 → H' c = H c) ∧ ∀ i, i < 729 → H' 96 i = 0)
  | 0, k, hk, h2, N, H, h1 => by
    refine vh_GoodsBookModel_addGood_94_32 ?_
    rw [fl_wi (x := (k : Int)) (by omega) (by omega), h1, fl_wi (x := 62 + (g : Int)) (by omega) (by omega)]
    have ei : (62 + (g : Int)).toNat = 62 + g := by omega
    rw [ei]
    refine ⟨fun _ _ H2 e2 H5 e5 m hm => ck_mono (rq_forget (X := X) (xs := xs)) (fun r H' hr => ⟨hr.1, rfl, fun j => ?_, fun c c1 c2 => ?_, hr.2.2⟩), fun h => by omega⟩
    · rw [hr.2.1 95 (by decide), e5, fl_up_z, e2, fl_up_z, upz_ne _ _ (show (1 : Nat) ≠ 62 + g by omega), h1]
      unfold upz
      by_cases j1 : j = 1
      · rw [if_pos j1, if_pos j1]
      · rw [if_neg j1, if_neg j1]
        by_cases j2 : j = 62 + g
        · rw [if_pos j2, if_pos j2]
        · rw [if_neg j2, if_neg j2]
          dsimp only
          rw [if_neg (by omega)]
    · rw [hr.2.1 c c2, e5, fl_up_cell _ _ _ _ c1, e2, fl_up_cell _ _ _ _ c1]
  | f + 1, k, hk, h2, N, H, h1 => by
    refine vh_GoodsBookModel_addGood_94_32 ?_
    rw [fl_wi (x := (k : Int)) (by omega) (by omega), fl_wi (x := 14 + 8 * (g : Int) + (k : Int)) (by omega) (by omega)]
    have ei : (14 + 8 * (g : Int) + (k : Int)).toNat = 14 + 8 * g + k := by omega
    have ek : (k : Int) + 1 = ((k + 1 : Nat) : Int) := by omega
    rw [ei, ek]
    have key : ∀ v : Int, (v = if 14 + 8 * g + k = 18 + 8 * g ∨ 14 + 8 * g + k = 21 + 8 * g then 0 else 1) → ∀ H', H' = fl_up H 95 (14 + 8 * g + k) v → ∀ m, hd_GoodsBookModel_addGood_94_32 (cm_pg X xs) m H' (14 + 8 * (g : Int)) ((k + 1 : Nat) : Int) (fun r H' => r = none ∧ (∀ j, H' 95 j = upz (upz (fun j => if 14 + 8 * g + k ≤ j ∧ j < 22 + 8 * g then (if j = 18 + 8 * g ∨ j = 21 + 8 * g then 0 else 1) else H 95 j) (62 + g) 0) 1 ((g : Int) + 1) j) ∧ (∀ c, c ≠ 95 → c ≠ 96 → H' c = H c) ∧ ∀ i, i < 729 → H' 96 i = 0) := fun v hv H1 e1 m => by
      have := rq_good1 g hg f (k + 1) (by omega) (by omega) m H1 (by rw [e1, fl_up_i _ _ _ _ (by omega)]; exact h1)
      intro lv l0 l1 l2
      refine vt_mono (Nat.le_refl _) (fun r H' hr => ⟨hr.1, fun j => ?_, fun c c1 c2 => by rw [hr.2.2.1 c c1 c2, e1, fl_up_cell _ _ _ _ c1], hr.2.2.2⟩) (this lv l0 l1 l2)
      rw [hr.2.1 j, e1, fl_up_z]
      unfold upz
      by_cases j1 : j = 1
      · rw [if_pos j1, if_pos j1]
      · rw [if_neg j1, if_neg j1]
        by_cases j2 : j = 62 + g
        · rw [if_pos j2, if_pos j2]
        · rw [if_neg j2, if_neg j2]
          dsimp only
          by_cases j3 : j = 14 + 8 * g + k
          · subst j3
            rw [if_neg (by omega), if_pos rfl, hv, if_pos (show 14 + 8 * g + k ≤ 14 + 8 * g + k ∧ 14 + 8 * g + k < 22 + 8 * g by omega)]
          · rw [if_neg j3]
            by_cases j4 : 14 + 8 * g + k ≤ j ∧ j < 22 + 8 * g
            · rw [if_pos j4, if_pos (by omega)]
            · rw [if_neg j4, if_neg (by omega)]
    refine ⟨fun h => by omega, fun _ => ⟨fun h4 _ H10 e10 m hm => key 0 (by rw [if_pos (by omega)]) H10 e10 m, fun h4 => ⟨fun h7 _ H15 e15 m hm => key 0 (by rw [if_pos (by omega)]) H15 e15 m, fun h7 _ H19 e19 m hm => key 1 (by rw [if_neg (by omega)]) H19 e19 m⟩⟩⟩
theorem rq_good {m g : Nat} {H : fl_H} (hg : g ≤ 5) (h1 : H 95 1 = (g : Int)) {k f : Int} : ck (cm_pg X xs) m cm_m158 [.index 94, fl_t k, fl_t f] H (fun r H' => r = none ∧ H' 95 = apz [1, k, f, 1, 1, 0, 1, 1, 0] (H 95) ∧ (∀ c, c ≠ 95 → c ≠ 96 → H' c = H c) ∧ ∀ i, i < 729 → H' 96 i = 0) := by
  refine ve_GoodsBookModel_addGood_94 ?_
  rw [h1, fl_wi (x := 14 + 8 * (g : Int)) (by omega) (by omega), fl_wi (x := 14 + 8 * (g : Int) + 1) (by omega) (by omega)]
  have e0 : (14 + 8 * (g : Int)).toNat = 14 + 8 * g := by omega
  have e1 : (14 + 8 * (g : Int) + 1).toNat = 15 + 8 * g := by omega
  rw [e0, e1]
  refine fun _ H1 q1 _ H4 q4 => ?_
  have hh : H4 95 1 = (g : Int) := by rw [q4, fl_up_i _ _ _ _ (by omega), q1, fl_up_i _ _ _ _ (by omega)]; exact h1
  have := rq_good1 (X := X) (xs := xs) g hg 6 2 rfl (by omega) m H4 hh
  intro lv l0 l1 l2
  refine vt_mono (Nat.le_refl _) (fun r H' hr => ⟨hr.1, ?_, fun c c1 c2 => by rw [hr.2.2.1 c c1 c2, q4, fl_up_cell _ _ _ _ c1, q1, fl_up_cell _ _ _ _ c1], hr.2.2.2⟩) (this lv l0 l1 l2)
  funext j
  rw [hr.2.1 j, q4, fl_up_z, q1, fl_up_z]
  show _ = upz (upz (upz (upz (upz (upz (upz (upz (upz (upz (H 95) (14 + 8 * (H 95 1).toNat) k) (15 + 8 * (H 95 1).toNat) f) (16 + 8 * (H 95 1).toNat) 1) (17 + 8 * (H 95 1).toNat) 1) (18 + 8 * (H 95 1).toNat) 0) (19 + 8 * (H 95 1).toNat) 1) (20 + 8 * (H 95 1).toNat) 1) (21 + 8 * (H 95 1).toNat) 0) (62 + (H 95 1).toNat) 0) 1 (H 95 1 + 1) j
  rw [h1, Int.toNat_natCast]
  unfold upz
  by_cases j1 : j = 1
  · rw [if_pos j1, if_pos j1]
  · rw [if_neg j1, if_neg j1]
    by_cases j2 : j = 62 + g
    · rw [if_pos j2, if_pos j2]
    · rw [if_neg j2, if_neg j2]
      dsimp only
      by_cases j3 : 14 + 8 * g + 2 ≤ j ∧ j < 22 + 8 * g
      · rw [if_pos j3]
        by_cases i1 : j = 21 + 8 * g
        · rw [if_pos (Or.inr i1), if_pos i1]
        · rw [if_neg i1]
          by_cases i2 : j = 20 + 8 * g
          · rw [if_neg (by omega), if_pos i2]
          · rw [if_neg i2]
            by_cases i3 : j = 19 + 8 * g
            · rw [if_neg (by omega), if_pos i3]
            · rw [if_neg i3]
              by_cases i4 : j = 18 + 8 * g
              · rw [if_pos (Or.inl i4), if_pos i4]
              · rw [if_neg i4, if_neg (by omega)]
                by_cases i5 : j = 17 + 8 * g
                · rw [if_pos i5]
                · rw [if_neg i5, if_pos (by omega)]
      · rw [if_neg j3, if_neg (by omega : ¬ j = 21 + 8 * g), if_neg (by omega : ¬ j = 20 + 8 * g), if_neg (by omega : ¬ j = 19 + 8 * g), if_neg (by omega : ¬ j = 18 + 8 * g), if_neg (by omega : ¬ j = 17 + 8 * g), if_neg (by omega : ¬ j = 16 + 8 * g)]
theorem rq_size {m g s : Nat} {H : fl_H} (hg : g ≤ 5) (hs : s ≤ 1) {w h v : Int} : ck (cm_pg X xs) m cm_m160 [.index 94, fl_t (g : Int), fl_t (s : Int), fl_t w, fl_t h, fl_t v] H (fun r H' => r = some (H 95 (18 + 8 * g + 3 * s)) ∧ H' 95 = upz (upz (upz (H 95) (16 + 8 * g + 3 * s) w) (17 + 8 * g + 3 * s) h) (18 + 8 * g + 3 * s) v ∧ (∀ c, c ≠ 95 → c ≠ 96 → H' c = H c) ∧ ∀ i, i < 729 → H' 96 i = 0) := by
  refine ve_GoodsBookModel_setSize_94 ?_
  rw [fl_wi (x := 14 + 8 * (g : Int) + 2 + 3 * (s : Int)) (by omega) (by omega), fl_wi (x := 14 + 8 * (g : Int) + 2 + 3 * (s : Int) + 1) (by omega) (by omega), fl_wi (x := 14 + 8 * (g : Int) + 2 + 3 * (s : Int) + 2) (by omega) (by omega)]
  have e0 : (14 + 8 * (g : Int) + 2 + 3 * (s : Int)).toNat = 16 + 8 * g + 3 * s := by omega
  have e1 : (14 + 8 * (g : Int) + 2 + 3 * (s : Int) + 1).toNat = 17 + 8 * g + 3 * s := by omega
  have e2 : (14 + 8 * (g : Int) + 2 + 3 * (s : Int) + 2).toNat = 18 + 8 * g + 3 * s := by omega
  rw [e0, e1, e2]
  refine fun _ _ H2 q2 _ H5 q5 _ H8 q8 m hm => ck_mono (rq_forget (X := X) (xs := xs)) (fun r H' hr => ⟨hr.1, rfl, ?_, fun c c1 c2 => ?_, hr.2.2⟩)
  · rw [hr.2.1 95 (by decide), q8, fl_up_z, q5, fl_up_z, q2, fl_up_z]
  · rw [hr.2.1 c c2, q8, fl_up_cell _ _ _ _ c1, q5, fl_up_cell _ _ _ _ c1, q2, fl_up_cell _ _ _ _ c1]
theorem zq_page {m : Nat} {H : fl_H} {v : Int} (hv : fl_w v = v) (hz : wf (H 95)) : ck (cm_pg X xs) m cm_m156 [.index 94, fl_t v] H (rP false (oPage v) H) := by
  obtain ⟨z1, z2, -⟩ := id hz.1
  obtain ⟨p, hp⟩ : ∃ p : Nat, H 95 0 = (p : Int) := ⟨(H 95 0).toNat, by omega⟩
  refine ve_GoodsBookModel_page_94 ?_
  rw [hv, fl_wi (x := H 95 0) (by omega) (by omega), fl_wi (x := 10 + H 95 0) (by omega) (by omega), hp]
  have ei : (10 + (p : Int)).toNat = 10 + p := by omega
  rw [ei]
  refine ⟨fun h1 => ⟨fun h3 => rP_no (by unfold oPage; rw [if_pos h1, if_neg (by omega)]), fun h3 _ H3 e3 H6 e6 => ?_⟩, fun h1 => rP_no (by unfold oPage; rw [if_neg h1])⟩
  have g3 : H3 95 0 = (p : Int) := by rw [e3, fl_up_i _ _ _ _ (by omega)]; exact hp
  have e95 : H6 95 = apz [0, v] (H 95) := by
    rw [e6, fl_up_z, g3, e3, fl_up_z]
    show _ = upz (upz (H 95) (10 + (H 95 0).toNat) v) 0 (H 95 0 + 1)
    rw [hp, Int.toNat_natCast]
  have g6 : H6 95 0 - 1 = (p : Int) := by rw [e6, fl_up_at, g3]; omega
  rw [g6]
  refine rP_go (w := apz [0, v] (H 95)) ?_ e95 (fun c hc => by rw [e6, fl_up_cell _ _ _ _ hc, e3, fl_up_cell _ _ _ _ hc])
  unfold oPage
  rw [if_pos h1, if_pos (by omega), hp]
theorem zq_seen {m : Nat} {H : fl_H} {p v : Int} (hp : fl_w p = p) (hv : fl_w v = v) (hz : wf (H 95)) : ck (cm_pg X xs) m cm_m157 [.index 94, fl_t p, fl_t v] H (rP false (oSeen p v) H) := by
  obtain ⟨z1, z2, -⟩ := id hz.1
  have eW : fl_w (H 95 0 - 1) = H 95 0 - 1 := fl_wi (by omega) (by omega)
  refine ve_GoodsBookModel_seen_94 (fun m hm => ve_GoodsBookModel_isPage_94 ⟨_, rfl, ?_⟩)
  simp only [fb_0, hp, hv, eW]
  refine ⟨fun hb => rP_no (by unfold oSeen; rw [if_neg (fun c => hb c.1)]), fun hb => ⟨fun hc => ?_, fun hc => rP_no (by unfold oSeen; rw [if_neg (fun c => hc c.2)])⟩⟩
  have hb' := Decidable.not_not.mp hb
  obtain ⟨n, hn⟩ : ∃ n : Nat, p = (n : Int) := ⟨p.toNat, by omega⟩
  subst hn
  have ei : (10 + (n : Int)).toNat = 10 + n := by omega
  rw [fl_wi (x := 10 + (n : Int)) (by omega) (by omega), ei]
  intro _ _ H7 e7
  refine rP_go (w := upz (H 95) (10 + n) v) ?_ (by rw [e7, fl_up_z]) (fun c hc => by rw [e7, fl_up_cell _ _ _ _ hc])
  unfold oSeen
  rw [if_pos ⟨hb', hc⟩, Int.toNat_natCast]
theorem zq_good {m : Nat} {H : fl_H} {k f : Int} (hk : fl_w k = k) (hf : fl_w f = f) (hz : wf (H 95)) : ck (cm_pg X xs) m cm_m159 [.index 94, fl_t k, fl_t f] H (rP true (oGood k f) H) := by
  obtain ⟨-, -, z1, z2, -⟩ := id hz.1
  obtain ⟨n, hn⟩ : ∃ n : Nat, H 95 1 = (n : Int) := ⟨(H 95 1).toNat, by omega⟩
  refine ve_GoodsBookModel_good_94 ?_
  rw [hk, hf, fl_wi (x := H 95 1) (by omega) (by omega)]
  refine ⟨fun h1 => ⟨fun h2 => ⟨fun h6 => rP_no (by unfold oGood; rw [if_pos ⟨h1, h2⟩, if_neg (by omega)]), fun h6 m hm => ck_mono (rq_good (X := X) (xs := xs) (g := n) (by omega) hn) (fun r H4 h => ⟨h.1, ?_⟩)⟩, fun h2 => rP_no (by unfold oGood; rw [if_neg (fun c => h2 c.2)])⟩, fun h1 => rP_no (by unfold oGood; rw [if_neg (fun c => h1 c.1)])⟩
  have g4 : H4 95 1 - 1 = H 95 1 := by
    rw [h.2.1]
    show (H 95 1 + 1) - 1 = H 95 1
    omega
  rw [g4]
  refine rP_gk (w := apz [1, k, f, 1, 1, 0, 1, 1, 0] (H 95)) ?_ h.2.1 h.2.2.1 h.2.2.2
  unfold oGood
  rw [if_pos ⟨h1, h2⟩, if_pos (by omega)]
theorem zq_size {m : Nat} {H : fl_H} {g s w y v : Int} (hg : fl_w g = g) (hs : fl_w s = s) (hw : fl_w w = w) (hy : fl_w y = y) (hv : fl_w v = v) (hz : wf (H 95)) : ck (cm_pg X xs) m cm_m161 [.index 94, fl_t g, fl_t s, fl_t w, fl_t y, fl_t v] H (rP true (oSize g s w y v) H) := by
  obtain ⟨-, -, z1, z2, -⟩ := id hz.1
  have eW : fl_w (H 95 1 - 1) = H 95 1 - 1 := fl_wi (by omega) (by omega)
  refine ve_GoodsBookModel_size_94 (fun m hm => ve_GoodsBookModel_isGood_94 ⟨_, rfl, ?_⟩)
  simp only [fb_0, hg, hs, hw, hy, hv, eW]
  refine ⟨fun hb => rP_no (by unfold oSize; rw [if_neg (fun c => hb c.1)]), fun hb => ⟨fun h2 => ⟨fun h3 => ⟨fun h4 => ⟨fun h5 m hm => ?_, fun h5 => rP_no (by unfold oSize; rw [if_neg (fun c => h5 c.2.2.2.2)])⟩, fun h4 => rP_no (by unfold oSize; rw [if_neg (fun c => h4 c.2.2.2.1)])⟩, fun h3 => rP_no (by unfold oSize; rw [if_neg (fun c => h3 c.2.2.1)])⟩, fun h2 => rP_no (by unfold oSize; rw [if_neg (fun c => h2 c.2.1)])⟩⟩
  have h1 := Decidable.not_not.mp hb
  obtain ⟨n, hn⟩ : ∃ n : Nat, g = (n : Int) := ⟨g.toNat, by omega⟩
  obtain ⟨t, ht⟩ : ∃ t : Nat, s = (t : Int) := ⟨s.toNat, by omega⟩
  subst hn; subst ht
  refine ck_mono (rq_size (X := X) (xs := xs) (g := n) (s := t) (by omega) (by omega)) (fun r H9 h => ⟨_, h.1, ?_⟩)
  refine rP_gk ?_ h.2.1 h.2.2.1 h.2.2.2
  unfold oSize
  rw [if_pos ⟨h1, h2, h3, h4, h5⟩, Int.toNat_natCast, Int.toNat_natCast]
theorem zq_bond {m : Nat} {H : fl_H} {k a b e : Int} (hk : fl_w k = k) (ha : fl_w a = a) (hb : fl_w b = b) (he : fl_w e = e) (hz : wf (H 95)) : ck (cm_pg X xs) m cm_m164 [.index 94, fl_t k, fl_t a, fl_t b, fl_t e] H (rP false (oBond k a b e) H) := by
  obtain ⟨-, -, z1, z2, z3, z4⟩ := id hz.1
  have eW : fl_w (H 95 1 - 1) = H 95 1 - 1 := fl_wi (by omega) (by omega)
  have eV : fl_w (H 95 2) = H 95 2 := fl_wi (by omega) (by omega)
  have full : H 95 2 = 12 → ((0 ≤ k ∧ k ≤ 5) ∧ (0 ≤ a ∧ a ≤ H 95 1 - 1) ∧ (0 ≤ b ∧ b ≤ H 95 1 - 1) ∧ ¬ a = b ∧ (-99 ≤ e ∧ e ≤ 99) ∧ (3 ≤ k → e = 0)) → rP false (oBond k a b e) H (some (-3)) H := fun h hc => rP_no (by unfold oBond; rw [if_pos hc, if_neg (by omega)])
  have key : ∀ m, ¬ H 95 2 = 12 → ((0 ≤ k ∧ k ≤ 5) ∧ (0 ≤ a ∧ a ≤ H 95 1 - 1) ∧ (0 ≤ b ∧ b ≤ H 95 1 - 1) ∧ ¬ a = b ∧ (-99 ≤ e ∧ e ≤ 99) ∧ (3 ≤ k → e = 0)) → ck (cm_pg X xs) m cm_m163 [.index 94, fl_t k, fl_t a, fl_t b, fl_t e] H (fun r H14 => r = none ∧ rP false (oBond k a b e) H (some ((H14 95 2) - 1)) H14) := by
    intro m hn hc
    refine ve_GoodsBookModel_addBond_94 ?_
    rw [fl_wi (x := 68 + 4 * H 95 2) (by omega) (by omega), fl_wi (x := 68 + 4 * H 95 2 + 1) (by omega) (by omega), fl_wi (x := 68 + 4 * H 95 2 + 2) (by omega) (by omega), fl_wi (x := 68 + 4 * H 95 2 + 3) (by omega) (by omega)]
    have e0 : (68 + 4 * H 95 2).toNat = 68 + 4 * (H 95 2).toNat := by omega
    have e1 : (68 + 4 * H 95 2 + 1).toNat = 69 + 4 * (H 95 2).toNat := by omega
    have e2 : (68 + 4 * H 95 2 + 2).toNat = 70 + 4 * (H 95 2).toNat := by omega
    have e3 : (68 + 4 * H 95 2 + 3).toNat = 71 + 4 * (H 95 2).toNat := by omega
    rw [e0, e1, e2, e3]
    refine fun _ H1 q1 _ H4 q4 _ H7 q7 _ H10 q10 H13 q13 => ⟨rfl, ?_⟩
    have g2 : H10 95 2 = H 95 2 := by
      rw [q10, fl_up_i _ _ _ _ (by omega), q7, fl_up_i _ _ _ _ (by omega), q4, fl_up_i _ _ _ _ (by omega), q1, fl_up_i _ _ _ _ (by omega)]
    have e95 : H13 95 = apz [2, k, a, b, e] (H 95) := by
      rw [q13, g2, fl_up_z, q10, fl_up_z, q7, fl_up_z, q4, fl_up_z, q1, fl_up_z]
      rfl
    have g13 : H13 95 2 - 1 = H 95 2 := by rw [q13, fl_up_at, g2]; omega
    rw [g13]
    refine rP_go (w := apz [2, k, a, b, e] (H 95)) ?_ e95 (fun c hc => by rw [q13, fl_up_cell _ _ _ _ hc, q10, fl_up_cell _ _ _ _ hc, q7, fl_up_cell _ _ _ _ hc, q4, fl_up_cell _ _ _ _ hc, q1, fl_up_cell _ _ _ _ hc])
    unfold oBond
    rw [if_pos hc, if_pos (by omega)]
  refine ve_GoodsBookModel_bond_94 ?_
  simp only [hk, ha, hb, he]
  refine ⟨fun h1 m hm => ve_GoodsBookModel_isGood_94 ⟨_, rfl, ?_⟩, fun h1 => rP_no (by unfold oBond; rw [if_neg (fun c => h1 c.1)])⟩
  simp only [fb_0, ha, hb, eW]
  refine ⟨fun h2 => rP_no (by unfold oBond; rw [if_neg (fun c => h2 c.2.1)]), fun h2 m hm => ve_GoodsBookModel_isGood_94 ⟨_, rfl, ?_⟩⟩
  simp only [fb_0, ha, hb, eW, eV]
  have h2' := Decidable.not_not.mp h2
  refine ⟨fun h3 => rP_no (by unfold oBond; rw [if_neg (fun c => h3 c.2.2.1)]), fun h3 => ⟨fun h4 => rP_no (by unfold oBond; rw [if_neg (fun c => c.2.2.2.1 h4)]), fun h4 => ⟨fun h6 => ⟨fun h5 => ⟨fun hf => full hf ⟨h1, h2', Decidable.not_not.mp h3, h4, h6, fun _ => by omega⟩, fun hf m hm => key m hf ⟨h1, h2', Decidable.not_not.mp h3, h4, h6, fun _ => by omega⟩⟩, fun h5 => ⟨fun h7 => ⟨fun hf => full hf ⟨h1, h2', Decidable.not_not.mp h3, h4, h6, fun _ => h7⟩, fun hf m hm => key m hf ⟨h1, h2', Decidable.not_not.mp h3, h4, h6, fun _ => h7⟩⟩, fun h7 => rP_no (by unfold oBond; rw [if_neg (fun c => h7 (c.2.2.2.2.2 (by omega)))])⟩⟩, fun h6 => rP_no (by unfold oBond; rw [if_neg (fun c => h6 c.2.2.2.2.1)])⟩⟩⟩
theorem zq_extra {m : Nat} {H : fl_H} {b v : Int} (hb : fl_w b = b) (hv : fl_w v = v) (hz : wf (H 95)) : ck (cm_pg X xs) m cm_m165 [.index 94, fl_t b, fl_t v] H (rP false (oExtra b v) H) := by
  obtain ⟨-, -, -, -, z3, z4⟩ := id hz.1
  have eW : fl_w (H 95 2 - 1) = H 95 2 - 1 := fl_wi (by omega) (by omega)
  refine ve_GoodsBookModel_extra_94 ?_
  simp only [hb, hv, eW]
  refine ⟨fun h1 => ⟨fun h2 => ?_, fun h2 => rP_no (by unfold oExtra; rw [if_neg (fun c => h2 c.2)])⟩, fun h1 => rP_no (by unfold oExtra; rw [if_neg (fun c => h1 c.1)])⟩
  obtain ⟨n, hn⟩ : ∃ n : Nat, b = (n : Int) := ⟨b.toNat, by omega⟩
  subst hn
  have e0 : (68 + 4 * (n : Int)).toNat = 68 + 4 * n := by omega
  have e1 : (68 + 4 * (n : Int) + 3).toNat = 71 + 4 * n := by omega
  rw [fl_wi (x := 68 + 4 * (n : Int)) (by omega) (by omega), fl_wi (x := 68 + 4 * (n : Int) + 3) (by omega) (by omega), e0, e1]
  have hlt : (n : Int) < H 95 2 := by omega
  obtain ⟨p1, p2, p3, p4, p5, p6⟩ := hz.2.2.2 n hlt
  rw [fl_wi (x := H 95 (68 + 4 * n)) (by omega) (by omega)]
  refine fun _ => ⟨fun h3 _ _ H6 e6 => ?_, fun h3 => rP_no (by unfold oExtra; rw [if_pos ⟨h1, h2⟩, Int.toNat_natCast, if_neg h3])⟩
  refine rP_go (w := upz (H 95) (71 + 4 * n) v) ?_ (by rw [e6, fl_up_z]) (fun c hc => by rw [e6, fl_up_cell _ _ _ _ hc])
  unfold oExtra
  rw [if_pos ⟨h1, h2⟩, Int.toNat_natCast, if_pos h3]
theorem zq_set {m : Nat} {H : fl_H} {a v : Int} (ha : fl_w a = a) (hv : fl_w v = v) : ck (cm_pg X xs) m cm_m166 [.index 94, fl_t a, fl_t v] H (rP false (oSet a v) H) := by
  refine ve_GoodsBookModel_set_94 ?_
  simp only [ha, hv]
  refine ⟨fun h1 => ?_, fun h1 => rP_no (by unfold oSet; rw [if_neg (fun c => h1 c.1)])⟩
  obtain ⟨n, hn⟩ : ∃ n : Nat, a = (n : Int) := ⟨a.toNat, by omega⟩
  subst hn
  have ei : (4 + (n : Int)).toNat = 4 + n := by omega
  rw [fl_wi (x := 4 + (n : Int)) (by omega) (by omega), ei]
  have key : ∀ H', H' = fl_up H 95 (4 + n) v → (0 ≤ v ∧ v ≤ if (n : Int) = 0 then 99 else 999) → rP false (oSet (n : Int) v) H (some (H 95 (4 + n))) H' := fun H' e' hc => by
    refine rP_go (w := upz (H 95) (4 + n) v) ?_ (by rw [e', fl_up_z]) (fun c hc => by rw [e', fl_up_cell _ _ _ _ hc])
    unfold oSet
    rw [if_pos ⟨h1, hc⟩, Int.toNat_natCast]
  refine ⟨fun h0 => ⟨fun h2 _ _ H5 e5 => key H5 e5 (by rw [if_pos h0]; exact h2), fun h2 => rP_no (by unfold oSet; rw [if_neg (fun c => h2 (by have := c.2; rw [if_pos h0] at this; exact this))])⟩, fun h0 => ⟨fun h2 _ _ H10 e10 => key H10 e10 (by rw [if_neg h0]; exact h2), fun h2 => rP_no (by unfold oSet; rw [if_neg (fun c => h2 (by have := c.2; rw [if_neg h0] at this; exact this))])⟩⟩
theorem zq_year {m : Nat} {H : fl_H} {g s v : Int} (hg : fl_w g = g) (hs : fl_w s = s) (hv : fl_w v = v) (hz : wf (H 95)) : ck (cm_pg X xs) m cm_m216 [.index 94, fl_t g, fl_t s, fl_t v] H (rP false (oYear g s v) H) := by
  obtain ⟨-, -, z1, z2, -⟩ := id hz.1
  obtain ⟨y1, y2⟩ := hz.2.1.2.2.2.2
  obtain ⟨n, hn⟩ : ∃ n : Nat, H 95 3 = (n : Int) := ⟨(H 95 3).toNat, by omega⟩
  have eW : fl_w (H 95 1 - 1) = H 95 1 - 1 := fl_wi (by omega) (by omega)
  have e0 : (116 + 3 * (n : Int)).toNat = 116 + 3 * n := by omega
  have e1 : (116 + 3 * (n : Int) + 1).toNat = 117 + 3 * n := by omega
  have e2 : (116 + 3 * (n : Int) + 2).toNat = 118 + 3 * n := by omega
  refine ve_GoodsBookModel_year_94 (fun m hm => ve_GoodsBookModel_isGood_94 ⟨_, rfl, ?_⟩)
  simp only [fb_0, hg, hs, hv, eW, hn]
  rw [fl_wi (x := (n : Int)) (by omega) (by omega), fl_wi (x := 116 + 3 * (n : Int)) (by omega) (by omega), fl_wi (x := 116 + 3 * (n : Int) + 1) (by omega) (by omega), fl_wi (x := 116 + 3 * (n : Int) + 2) (by omega) (by omega), e0, e1, e2]
  refine ⟨fun hb => rP_no (by unfold oYear; rw [if_neg (fun c => hb c.1)]), fun hb => ⟨fun h2 => ⟨fun h3 => ⟨fun h4 => rP_no (by unfold oYear; rw [if_pos ⟨Decidable.not_not.mp hb, h2, h3⟩, if_neg (by omega)]), fun h4 _ H8 e8 _ H11 e11 _ H14 e14 H17 e17 => ?_⟩, fun h3 => rP_no (by unfold oYear; rw [if_neg (fun c => h3 c.2.2)])⟩, fun h2 => rP_no (by unfold oYear; rw [if_neg (fun c => h2 c.2.1)])⟩⟩
  have h1 := Decidable.not_not.mp hb
  have g14 : H14 95 3 = (n : Int) := by rw [e14, fl_up_i _ _ _ _ (by omega), e11, fl_up_i _ _ _ _ (by omega), e8, fl_up_i _ _ _ _ (by omega)]; exact hn
  have g17 : H17 95 3 - 1 = (n : Int) := by rw [e17, fl_up_at, g14]; omega
  rw [g17]
  refine rP_go (w := upz (upz (upz (upz (H 95) (116 + 3 * n) g) (117 + 3 * n) s) (118 + 3 * n) v) 3 ((n : Int) + 1)) ?_ (by rw [e17, g14, fl_up_z, e14, fl_up_z, e11, fl_up_z, e8, fl_up_z]) (fun c hc => by rw [e17, fl_up_cell _ _ _ _ hc, e14, fl_up_cell _ _ _ _ hc, e11, fl_up_cell _ _ _ _ hc, e8, fl_up_cell _ _ _ _ hc])
  unfold oYear
  rw [if_pos ⟨h1, h2, h3⟩, hn, if_pos (by omega), Int.toNat_natCast]
end
end
