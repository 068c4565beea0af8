noncomputable section
/-! L3: the class climbs by steps: all choices, all rounds, till none betters. -/
section
variable {X : Term} {xs : List Int32}
theorem pup_self (r : Nat → Nat) (g : Nat) : pup r g (r g) = r := by
  funext k
  by_cases e : k = g
  · rw [e, pup_at]
  · rw [pup_ne _ _ e]
theorem pup_back (r : Nat → Nat) {g h : Nat} (hn : h ≠ g) : pup (pup (pup r g (r h)) h (r g)) h (r h) = pup r g (r h) := by
  rw [pup_pup]
  have e : (pup r g (r h)) h = r h := pup_ne _ _ hn
  conv => lhs; arg 3; rw [← e]
  exact pup_self _ _
theorem pup_swap (r : Nat → Nat) {g h : Nat} (hn : h ≠ g) (e : r h = r g) : pup (pup r g (r h)) h (r g) = r := by
  rw [e, pup_self, ← e, pup_self]
/-- what has been found of some rows, with a row to start from -/
def scl (z : Nat → Int) (r : Nat → Nat) (S : (Nat → Nat) → Prop) (H : fl_H) : Prop := ∃ A' R' F', sst A' R' F' H ∧ (F' → rk z R') ∧ (-1000000000 ≤ A' ∧ A' ≤ 1000000000) ∧ bst z S (zwo z r) (fun _ => 0) False A' R' F'
theorem scl_oc {z : Nat → Int} {r : Nat → Nat} {S : (Nat → Nat) → Prop} {P : Nat → Prop} {H G : fl_H} (h : scl z r S H) (o : oc P H G) (hp : ¬ P 79) (h8 : ¬ P 81) : scl z r S G := by
  obtain ⟨A', R', F', a, b, c, d⟩ := h
  exact ⟨A', R', F', sst_oc a o hp h8, b, c, d⟩
theorem scl_eq {z : Nat → Int} {r : Nat → Nat} {S S' : (Nat → Nat) → Prop} {H : fl_H} (e : ∀ t, S t ↔ S' t) (h : scl z r S H) : scl z r S' H := by
  obtain ⟨A', R', F', a, b, c, d⟩ := h
  exact ⟨A', R', F', a, b, c, bst_congr e d⟩
theorem scl_r {z : Nat → Int} {r : Nat → Nat} {S : (Nat → Nat) → Prop} {H : fl_H} (h : scl z r S H) : scl z r (fun t => S t ∨ t = r) H := by
  obtain ⟨A', R', F', a, b, c, d⟩ := h
  exact ⟨A', R', F', a, b, c, bst_skip d (Int.le_refl _)⟩
theorem ds_wei {m : Nat} {z : Nat → Int} {r s : Nat → Nat} {S : (Nat → Nat) → Prop} {H : fl_H} (hw : wf z) (hd : dcx z s H) (hs : rk z s) (h : scl z r S H) : ck (cm_pg X xs) m cm_m59 [.index 79] H (fun r' H' => r' = none ∧ oc pQ H H' ∧ s79 H H' ∧ dcx z s H' ∧ scl z r (fun t => S t ∨ t = s) H') := by
  obtain ⟨A', R', F', a, b, c, d⟩ := h
  refine ck_mono (ds_weigh (X := X) (xs := xs) hw hd hs a c b) (fun r' H' h' => ?_)
  obtain ⟨h1, h2, h3, h4, A2, R2, F2, h5, h6, h7⟩ := h'
  have wb := zwo_bd hw hs.1
  refine ⟨h1, h2, h3, h4, A2, R2, F2, h5, h6, ?_, bst_add d (fun q => q) h7 (fun t _ q1 q2 => rlt_tr q1 q2)⟩
  rcases h7 with ⟨q, -⟩ | ⟨-, -, -, q, -⟩
  · rw [q]; exact c
  · rw [q]; omega
theorem ds_tryC {m g : Nat} {z : Nat → Int} {r : Nat → Nat} {S : (Nat → Nat) → Prop} {H : fl_H} {e : Int} (hw : wf z) (hd : dcx z r H) (hr : rk z r) (hg : (g : Int) < z 1) (h : scl z r S H) (he : e = (g : Int)) : ck (cm_pg X xs) m cm_m57 [.index 79, fl_t e] H (fun r' H' => r' = none ∧ oc pQ H H' ∧ s79 H H' ∧ dcx z r H' ∧ scl z r (fun t => S t ∨ nbA r g (2 * (z 0).toNat + 1) t) H') := by
  subst he
  obtain ⟨z00, z3, z10, z6, -⟩ := hw.1
  have g6 : g < 6 := by omega
  have rg := (hr.1 g g6).1
  have lp : ∀ (f c : Nat), c + f = 2 * (z 0).toNat + 1 → ∀ (N x : Nat) (G : fl_H), oc pQ H G → s79 H G → dcx z (pup r g x) G → scl z r (fun t => S t ∨ nbA r g c t) G → hd_Search_tryChoices_79_12 (cm_pg X xs) N G (g : Int) ((r g : Nat) : Int) (c : Int) (fun r' H' => r' = none ∧ oc pQ H H' ∧ s79 H H' ∧ dcx z r H' ∧ scl z r (fun t => S t ∨ nbA r g (2 * (z 0).toNat + 1) t) H') := by
    intro f
    induction f with
    | zero =>
      intro c hc N x G oG tG dG sG
      have e : c = 2 * (z 0).toNat + 1 := by omega
      refine vh_Search_tryChoices_79_12 ?_
      rw [dG.1.2.1, fl_wi (x := 2 * z 0) (by omega) (by omega), fl_wi (x := (c : Int)) (by omega) (by omega)]
      refine ⟨fun _ m hm => ck_mono (dcx_put (X := X) (xs := xs) dG hw hg rg rfl rfl) (fun r2 H2 h2 => ⟨h2.1, rfl, ?_⟩), fun hh => absurd (by omega) hh⟩
      obtain ⟨-, o2, d2⟩ := h2
      rw [pup_pup, pup_self] at d2
      rw [e] at sG
      exact ⟨oc_trans oG (pQ_D o2), s79_trans tG (s79_oc o2 (by unfold pD; omega)), d2, scl_oc sG o2 (by unfold pD; omega) (by unfold pD; omega)⟩
    | succ f ih =>
      intro c hc N x G oG tG dG sG
      have ec : (c : Int) + 1 = ((c + 1 : Nat) : Int) := by omega
      have st : ∀ t, ((S t ∨ nbA r g c t) ∨ t = pup r g c) ↔ (S t ∨ nbA r g (c + 1) t) := fun t => by
        rw [nb_A, or_assoc]
      refine vh_Search_tryChoices_79_12 ?_
      rw [dG.1.2.1, fl_wi (x := 2 * z 0) (by omega) (by omega), fl_wi (x := (c : Int)) (by omega) (by omega), fl_wi (x := ((r g : Nat) : Int)) (by omega) (by omega), ec]
      refine ⟨fun hh => by omega, fun _ => ⟨fun q m hm => ih (c + 1) (by omega) m x G oG tG dG (scl_eq st ?_), fun q m hm => ck_mono (dcx_put (X := X) (xs := xs) dG hw hg (by omega) rfl rfl) (fun r6 H6 h6 => ⟨h6.1, fun m2 hm2 => ?_⟩)⟩⟩
      · have e : c = r g := by omega
        rw [e] at sG ⊢
        rw [pup_self]
        exact scl_r sG
      · obtain ⟨-, o6, d6⟩ := h6
        rw [pup_pup] at d6
        refine ck_mono (ds_wei (X := X) (xs := xs) hw d6 (rk_pup hr hg g6 (by omega)) (scl_oc sG o6 (by unfold pD; omega) (by unfold pD; omega))) (fun r8 H8 h8 => ⟨h8.1, fun m3 hm3 => ?_⟩)
        obtain ⟨-, o8, t8, d8, s8⟩ := h8
        exact ih (c + 1) (by omega) m3 c H8 (oc_trans (oc_trans oG (pQ_D o6)) o8) (s79_trans (s79_trans tG (s79_oc o6 (by unfold pD; omega))) t8) d8 (scl_eq st s8)
  refine ve_Search_tryChoices_79 ?_
  rw [fl_wi (x := (g : Int)) (by omega) (by omega), Int.toNat_natCast, (hd.2.1.2.1 g g6).1]
  exact fun _ => lp (2 * (z 0).toNat + 1) 0 (by omega) m (r g) H (oc_refl _ _) (s79_refl _) (by rw [pup_self]; exact hd) (scl_eq (fun t => ⟨fun q => Or.inl q, fun q => q.elim id (fun ⟨k, k1, _⟩ => absurd k1 (by omega))⟩) h)
theorem ds_tryR {m g : Nat} {z : Nat → Int} {r : Nat → Nat} {S : (Nat → Nat) → Prop} {H : fl_H} {e : Int} (hw : wf z) (hd : dcx z r H) (hr : rk z r) (hg : (g : Int) < z 1) (h : scl z r S H) (he : e = (g : Int)) : ck (cm_pg X xs) m cm_m58 [.index 79, fl_t e] H (fun r' H' => r' = none ∧ oc pQ H H' ∧ s79 H H' ∧ dcx z r H' ∧ scl z r (fun t => S t ∨ nbB r g (z 1).toNat t) H') := by
  subst he
  obtain ⟨z00, z3, z10, z6, -⟩ := hw.1
  have g6 : g < 6 := by omega
  have rg := (hr.1 g g6).1
  have lp : ∀ (f k : Nat), k + f = (z 1).toNat → g < k → ∀ (N x : Nat) (G : fl_H), oc pQ H G → s79 H G → dcx z (pup r g x) G → scl z r (fun t => S t ∨ nbB r g k t) G → hd_Search_tryRounds_79_14 (cm_pg X xs) N G (g : Int) ((r g : Nat) : Int) (k : Int) (fun r' H' => r' = none ∧ oc pQ H H' ∧ s79 H H' ∧ dcx z r H' ∧ scl z r (fun t => S t ∨ nbB r g (z 1).toNat t) H') := by
    intro f
    induction f with
    | zero =>
      intro k hk gk N x G oG tG dG sG
      have e : k = (z 1).toNat := by omega
      refine vh_Search_tryRounds_79_14 (fun m1 hm1 => ck_mono (ds_goods (X := X) (xs := xs) dG.1.1) (fun r1 H1 h1 => ⟨_, h1.1, ?_⟩))
      have e1 := h1.2
      subst e1
      rw [fl_wi (x := z 1) (by omega) (by omega), fl_wi (x := (k : Int)) (by omega) (by omega)]
      refine ⟨fun _ m hm => ck_mono (dcx_put (X := X) (xs := xs) dG hw hg rg rfl rfl) (fun r2 H2 h2 => ⟨h2.1, rfl, ?_⟩), fun hh => absurd (by omega) hh⟩
      obtain ⟨-, o2, d2⟩ := h2
      rw [pup_pup, pup_self] at d2
      rw [e] at sG
      exact ⟨oc_trans oG (pQ_D o2), s79_trans tG (s79_oc o2 (by unfold pD; omega)), d2, scl_oc sG o2 (by unfold pD; omega) (by unfold pD; omega)⟩
    | succ f ih =>
      intro k hk gk N x G oG tG dG sG
      have ek : (k : Int) + 1 = ((k + 1 : Nat) : Int) := by omega
      have k6 : k < 6 := by omega
      have rk1 := (hr.1 k k6).1
      have st : ∀ t, ((S t ∨ nbB r g k t) ∨ t = pup (pup r g (r k)) k (r g)) ↔ (S t ∨ nbB r g (k + 1) t) := fun t => by
        rw [nb_B r gk, or_assoc]
      refine vh_Search_tryRounds_79_14 (fun m1 hm1 => ck_mono (ds_goods (X := X) (xs := xs) dG.1.1) (fun r1 H1 h1 => ⟨_, h1.1, ?_⟩))
      have e1 := h1.2
      subst e1
      have ev : H1 71 k = ((r k : Nat) : Int) := by rw [(dG.2.1.2.1 k k6).1, pup_ne _ _ (by omega)]
      rw [fl_wi (x := z 1) (by omega) (by omega), fl_wi (x := (k : Int)) (by omega) (by omega), Int.toNat_natCast, ev, fl_wi (x := ((r k : Nat) : Int)) (by omega) (by omega), fl_wi (x := ((r g : Nat) : Int)) (by omega) (by omega), ek]
      refine ⟨fun hh => by omega, fun _ _ => ⟨fun q m hm => ih (k + 1) (by omega) (by omega) m x H1 oG tG dG (scl_eq st ?_), fun q m hm => ck_mono (dcx_put (X := X) (xs := xs) dG hw hg rk1 rfl rfl) (fun r6 H6 h6 => ⟨h6.1, fun m2 hm2 => ?_⟩)⟩⟩
      · rw [pup_swap r (by omega) (by omega)]
        exact scl_r sG
      · obtain ⟨-, o6, d6⟩ := h6
        rw [pup_pup] at d6
        refine ck_mono (dcx_put (X := X) (xs := xs) d6 hw (g := k) (by omega) rg rfl rfl) (fun r7 H7 h7 => ⟨h7.1, fun m3 hm3 => ?_⟩)
        obtain ⟨-, o7, d7⟩ := h7
        refine ck_mono (ds_wei (X := X) (xs := xs) hw d7 (rk_pup (rk_pup hr hg g6 rk1) (by omega) k6 rg) (scl_oc (scl_oc sG o6 (by unfold pD; omega) (by unfold pD; omega)) o7 (by unfold pD; omega) (by unfold pD; omega))) (fun r8 H8 h8 => ⟨h8.1, fun m4 hm4 => ?_⟩)
        obtain ⟨-, o8, t8, d8, s8⟩ := h8
        refine ck_mono (dcx_put (X := X) (xs := xs) d8 hw (g := k) (by omega) rk1 rfl rfl) (fun r9 H9 h9 => ⟨h9.1, fun m5 hm5 => ?_⟩)
        obtain ⟨-, o9, d9⟩ := h9
        rw [pup_back r (by omega)] at d9
        have nD : ¬ pD 79 := by unfold pD; omega
        exact ih (k + 1) (by omega) (by omega) m5 (r k) H9 (oc_trans (oc_trans (oc_trans (oc_trans oG (pQ_D o6)) (pQ_D o7)) o8) (pQ_D o9)) (s79_trans (s79_trans (s79_trans (s79_trans tG (s79_oc o6 nD)) (s79_oc o7 nD)) t8) (s79_oc o9 nD)) d9 (scl_eq st (scl_oc s8 o9 nD (by unfold pD; omega)))
  refine ve_Search_tryRounds_79 ?_
  have eg : (g : Int) + 1 = ((g + 1 : Nat) : Int) := by omega
  rw [fl_wi (x := (g : Int)) (by omega) (by omega), Int.toNat_natCast, (hd.2.1.2.1 g g6).1, eg]
  exact fun _ => lp ((z 1).toNat - (g + 1)) (g + 1) (by omega) (by omega) m (r g) H (oc_refl _ _) (s79_refl _) (by rw [pup_self]; exact hd) (scl_eq (fun t => ⟨fun q => Or.inl q, fun q => q.elim id (fun ⟨k, k1, k2, _⟩ => absurd k1 (by omega))⟩) h)
theorem ds_climb {m : Nat} {z : Nat → Int} {r : Nat → Nat} {H : fl_H} (hw : wf z) (hd : dcx z r H) (hr : rk z r) (hs : zso z r) : ck (cm_pg X xs) m cm_m56 [.index 79] H (fun r' H' => ∃ n t, r' = some ((n : Nat) : Int) ∧ clm z n r t ∧ ztop z t ∧ rk z t ∧ zso z t ∧ dcx z t H' ∧ H' 79 4 = zwo z t ∧ oc pQ H H' ∧ s79 H H') := by
  obtain ⟨z00, z3, z10, z6, -⟩ := hw.1
  have lp : ∀ (M n : Nat), ∀ N, N ≤ M → ∀ (t : Nat → Nat) (G : fl_H), clm z n r t → rk z t → zso z t → dcx z t G → oc pQ H G → s79 H G → hd_Search_climb_79_10 (cm_pg X xs) N G (z 1) (n : Int) (fun r' H' => ∃ n t, r' = some ((n : Nat) : Int) ∧ clm z n r t ∧ ztop z t ∧ rk z t ∧ zso z t ∧ dcx z t H' ∧ H' 79 4 = zwo z t ∧ oc pQ H H' ∧ s79 H H') := by
    intro M
    induction M with
    | zero =>
      intro n N hN t G ct kt st dG oG tG
      have lim := clm_lim hw hr ct
      refine vh_Search_climb_79_10 ?_
      rw [fl_wi (x := (n : Int)) (by omega) (by omega)]
      refine ⟨fun hh => by omega, fun _ H2 e2 m1 hm1 => absurd hm1 (by omega)⟩
    | succ M ihM =>
      intro n N hN t G ct kt st dG oG tG
      have lim := clm_lim hw hr ct
      have en : (n : Int) + 1 = ((n + 1 : Nat) : Int) := by omega
      have wb := zwo_bd hw kt.1
      refine vh_Search_climb_79_10 ?_
      rw [fl_wi (x := (n : Int)) (by omega) (by omega)]
      refine ⟨fun hh => by omega, fun _ H2 e2 m1 hm1 => ?_⟩
      have u : ∀ (G : fl_H) (i : Nat) (v : Int), oc (fun c => c = 79) G (fl_up G 79 i v) := fun G i v c hc => fl_up_cell G 79 i v hc
      have o2 : oc (fun c => c = 79) G H2 := by rw [e2]; exact u _ _ _
      have fr : ∀ F, oc (fun c => c = 79) G F → dcx z t F := fun F o => ⟨dz_oc dG.1 o (fun c hc => by omega), dr_oc dG.2.1 o (fun c a b => by omega), mo_oc dG.2.2.1 o (by omega), flo_oc dG.2.2.2 o (fun c a b => by omega)⟩
      have d2 := fr H2 o2
      refine ck_mono (dc_amount (X := X) (xs := xs) d2.1 hw d2.2.1 d2.2.2.1) (fun r4 H4 h4 => ⟨_, h4.1, fun H7 e7 => ?_⟩)
      have e4 := h4.2
      subst e4
      have o7 : oc (fun c => c = 79) G H7 := by rw [e7]; exact oc_trans o2 (u _ _ _)
      have d7 := fr H7 o7
      have t7 : s79 G H7 := fun i h4 h5 => by rw [e7, fl_up_i _ _ _ _ h4, e2, fl_up_i _ _ _ _ h5]
      have s7 : scl z t (nbG z t 0) H7 := ⟨zwo z t, fun _ => 0, False, ⟨by rw [e7, fl_up_at], by rw [e7, fl_up_i _ _ _ _ (by decide), e2, fl_up_at, fl_b0 (fun q => q)], fun q => q.elim⟩, fun q => q.elim, by omega, bst_none (fun s ⟨k, k1, _⟩ _ => absurd k1 (by omega))⟩
      have inner : ∀ (f g : Nat), g + f = (z 1).toNat → ∀ N', N' ≤ N → ∀ F, oc pQ H F → s79 H F → dcx z t F → scl z t (nbG z t g) F → hd_Search_climb_79_34 (cm_pg X xs) N' F (z 1) (n : Int) (g : Int) (fun r' H' => ∃ n t, r' = some ((n : Nat) : Int) ∧ clm z n r t ∧ ztop z t ∧ rk z t ∧ zso z t ∧ dcx z t H' ∧ H' 79 4 = zwo z t ∧ oc pQ H H' ∧ s79 H H') := by
        intro f
        induction f with
        | zero =>
          intro g hg N' hN' F oF tF dF sF
          have eg : g = (z 1).toNat := by omega
          rw [eg] at sF
          obtain ⟨A', R', F', s1, s2, s3, s4⟩ := sF
          refine vh_Search_climb_79_34 ?_
          rw [fl_wi (x := z 1) (by omega) (by omega), fl_wi (x := (g : Int)) (by omega) (by omega), s1.2.1, fb_0]
          refine ⟨fun _ => ⟨fun q => ?_, fun q m2 hm2 => ?_⟩, fun hh => absurd (by omega) hh⟩
          · rcases zstp_bst s4 with ⟨-, a, b⟩ | ⟨a, -⟩
            · exact ⟨n, t, rfl, ct, b, kt, st, dF, by rw [s1.1]; exact a, oF, tF⟩
            · exact absurd a q
          · have q' : F' := Classical.not_not.mp q
            rcases zstp_bst s4 with ⟨a, -⟩ | ⟨-, a, b⟩
            · exact absurd q' a
            · refine ck_mono (dc_all81 (X := X) (xs := xs) dF hw kt (s2 q') (s1.2.2 q')) (fun r3 H3 h3 => ⟨h3.1, fun m3 hm3 => ?_⟩)
              obtain ⟨-, o3, d3⟩ := h3
              rw [en]
              exact ihM (n + 1) m3 (by omega) R' H3 ⟨t, ct, a⟩ (s2 q') a.2.1 d3 (oc_trans oF (pQ_D o3)) (s79_trans tF (s79_oc o3 (by unfold pD; omega)))
        | succ f ih =>
          intro g hg N' hN' F oF tF dF sF
          have eg : (g : Int) + 1 = ((g + 1 : Nat) : Int) := by omega
          refine vh_Search_climb_79_34 ?_
          rw [fl_wi (x := z 1) (by omega) (by omega), fl_wi (x := (g : Int)) (by omega) (by omega), eg]
          refine ⟨fun hh => by omega, fun _ m2 hm2 => ck_mono (ds_tryC (X := X) (xs := xs) (g := g) hw dF kt (by omega) sF rfl) (fun r6 H6 h6 => ⟨h6.1, fun m3 hm3 => ?_⟩)⟩
          obtain ⟨-, o6, t6, d6, s6⟩ := h6
          refine ck_mono (ds_tryR (X := X) (xs := xs) (g := g) hw d6 kt (by omega) s6 rfl) (fun r8 H8 h8 => ⟨h8.1, fun m4 hm4 => ?_⟩)
          obtain ⟨-, o8, t8, d8, s8⟩ := h8
          exact ih (g + 1) (by omega) m4 (by omega) H8 (oc_trans (oc_trans oF o6) o8) (s79_trans (s79_trans tF t6) t8) d8 (scl_eq (fun s => (nb_G z t g s).symm) s8)
      exact inner (z 1).toNat 0 (by omega) N (Nat.le_refl _) H7 (oc_trans oG (oc_mono o7 (fun c h => by unfold pQ; omega))) (s79_trans tG t7) d7 s7
  refine ve_Search_climb_79 (fun m1 hm1 => ck_mono (ds_goods (X := X) (xs := xs) hd.1.1) (fun r1 H1 h1 => ⟨_, h1.1, ?_⟩))
  have e1 := h1.2
  subst e1
  exact lp m 0 m (Nat.le_refl _) r H1 rfl hr hs hd (oc_refl _ _) (s79_refl _)
end
end
