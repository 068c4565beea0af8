noncomputable section
/-! L3: the class finds the best plan, and the book mended. -/
section
variable {X : Term} {xs : List Int32}
/-- the best of a set of rows -/
def zbs (z : Nat → Int) (S : (Nat → Nat) → Prop) (A : Int) (R : Nat → Nat) : Prop := S R ∧ zso z R ∧ A = zwo z R ∧ ∀ s, S s → zso z s → zwo z s ≤ A ∧ (zwo z s = A → s = R ∨ rlt R s)
theorem zbs_un {z : Nat → Int} {S : (Nat → Nat) → Prop} {A B : Int} {R Q : Nat → Nat} (h : zbs z S A R) (k : zbs z S B Q) : A = B ∧ R = Q := by
  obtain ⟨h1, h2, h3, h4⟩ := h
  obtain ⟨k1, k2, k3, k4⟩ := k
  have a := h4 Q k1 k2
  have b := k4 R h1 h2
  refine ⟨by omega, ?_⟩
  rcases b.2 (by omega) with q | q
  · exact q
  · rcases a.2 (by omega) with q' | q'
    · exact q'.symm
    · exact (rlt_as q q').elim
theorem zbs_bst {z : Nat → Int} {S : (Nat → Nat) → Prop} {A A' : Int} {R R' : Nat → Nat} {F' : Prop} (h : bst z S A R False A' R' F') : (F' ∧ zbs z S A' R') ∨ (¬ F' ∧ ∀ s, S s → zso z s → zwo z s ≤ A) := by
  rcases h with ⟨h1, h2, h3, h4⟩ | ⟨h1, h2, h3, h4, h5, h6⟩
  · exact Or.inr ⟨fun q => h3.mp q, h4⟩
  · exact Or.inl ⟨h1, h2, h3, h4, h6⟩
theorem zbs_eq {z : Nat → Int} {S S' : (Nat → Nat) → Prop} {A : Int} {R : Nat → Nat} (e : ∀ s, S s ↔ S' s) (h : zbs z S A R) : zbs z S' A R :=
  ⟨(e R).mp h.1, h.2.1, h.2.2.1, fun s hs => h.2.2.2 s ((e s).mpr hs)⟩
/-- what finding leaves -/
def pR (c : Nat) : Prop := (64 ≤ c ∧ c ≤ 79) ∨ (81 ≤ c ∧ c ≤ 84)
theorem pR_B {H G : fl_H} (o : oc pB H G) : oc pR H G := oc_mono o (fun c h => by unfold pB at h; unfold pR; omega)
theorem pR_Q {H G : fl_H} (o : oc pQ H G) : oc pR H G := oc_mono o (fun c h => by unfold pQ at h; unfold pR; omega)
theorem pR_K {H G : fl_H} (o : oc pK H G) : oc pR H G := oc_mono o (fun c h => by unfold pK at h; unfold pR; omega)
theorem pR_L {H G : fl_H} (o : oc pL H G) : oc pR H G := oc_mono o (fun c h => by unfold pL at h; unfold pR; omega)
theorem pR_D {H G : fl_H} (o : oc pD H G) : oc pR H G := oc_mono o (fun c h => by unfold pD at h; unfold pR; omega)
theorem bz_oc {z : Nat → Int} {H G : fl_H} (h : bz z H) (o : oc pR H G) : bz z G :=
  ⟨gz_oc h.1 o (fun c a b => by unfold pR; omega), by rw [o 1 (by unfold pR; omega)]; exact h.2.1, fun p hp => by rw [o 2 (by unfold pR; omega)]; exact h.2.2 p hp⟩
theorem dcx_begin {m : Nat} {z z' : Nat → Int} {a q : Int} {H : fl_H} (ha : fl_w a = a) (hq : fl_w q = q) (hb : bz z H) (hw : wf z) (hf : flI z H) (hp : bpg z a q z') : ck (cm_pg X xs) m cm_m13 [.index 69, fl_t a, fl_t q] H (fun r H' => r = none ∧ oc pB H H' ∧ dcx z' (fun _ => 0) H') :=
  ck_mono (dc_begin (X := X) (xs := xs) ha hq hb hw hf hp) (fun r H' h => ⟨h.1, h.2.1, h.2.2.1, h.2.2.2.1, h.2.2.2.2.1, h.2.2.2.2.2.1, h.2.2.2.2.2.2.1, h.2.2.2.2.2.2.2⟩)
/-- what a floor knows does not hang on pages -/
theorem flI_of {z z' : Nat → Int} {a q : Int} {H : fl_H} (hw : wf z) (hp : bpg z a q z') (h : flo z' H) : flI z H := by
  have out := bpg_out hp ⟨hw.1.1, hw.1.2.1⟩
  have hw' := bpg_wf hp hw
  have e : ∀ j, 14 ≤ j → j < 62 → z j = z' j := fun j p1 p2 => (out j (by omega)).symm
  exact Or.inr ⟨h.1, fm_ext e (out 1 (by omega)).symm hw'.1.2.2.2.1 h.2.1, kn_ext e (out 1 (by omega)).symm h.2.2⟩
theorem alw_all {z : Nat → Int} {lk : Nat → Int} {s : Nat → Nat} (hw : wf z) : alw z lk (-1) 0 6 (fun _ => 0) s ↔ rk z s :=
  ⟨fun h => h.1, fun h => ⟨h, fun k hk => absurd hk (by omega), fun k _ hk => absurd hk (by omega), by
    have := (ulk_nn z lk (-1) 0 s).2
    have := hw.1.2.2.2.1
    have := hw.1.2.2.1
    omega⟩⟩
theorem rk_nil {z : Nat → Int} {t : Nat → Nat} (h : rk z t) (h0 : z 1 = 0) : t = fun _ => 0 := by
  funext g
  by_cases hg : g < 6
  · exact (h.1 g hg).2 (by omega)
  · exact h.2 g (by omega)
theorem fb_path {m N : Nat} {z z' : Nat → Int} {a q : Int} {H : fl_H} {K : fl_H → Prop} (ha : fl_w a = a) (hq : fl_w q = q) (hb : bz z H) (hw : wf z) (hf : flI z H) (hp : bpg z a q z')
    (hK : ∀ G R, oc pR H G → flI z G → zbs z' (rk z') (G 79 4) R → (∀ g, g < 6 → G 81 g = ((R g : Nat) : Int)) → K G) : ck (cm_pg X xs) m cm_m13 [.index 69, fl_t a, fl_t q] H (fun r H3 => r = none ∧ (∀ m, m < N → ck (cm_pg X xs) m cm_m56 [.index 79] H3 (fun r H5 => ∃ x7, r = some x7 ∧ (∀ m, m < N → ck (cm_pg X xs) m cm_m13 [.index 69, fl_t a, fl_t q] H5 (fun r H8 => r = none ∧ (∀ m, m < N → ck (cm_pg X xs) m cm_m60 [.index 79, fl_t ((H5 79 4) - 1), fl_t (-1), fl_t 6] H8 (fun r H10 => ∃ x12, r = some x12 ∧ K H10))))))) := by
  have hw' := bpg_wf hp hw
  have r0 : rk z' (fun _ => 0) := rk_0 hw'.1.1
  refine ck_mono (dcx_begin (X := X) (xs := xs) ha hq hb hw hf hp) (fun r3 H3 h3 => ⟨h3.1, fun m1 hm1 => ?_⟩)
  obtain ⟨-, o3, d3⟩ := h3
  refine ck_mono (ds_climb (X := X) (xs := xs) hw' d3 r0 (zso_0 z')) (fun r5 H5 h5 => ?_)
  obtain ⟨n, t, h5a, -, -, rt, st, d5, e5, o5, -⟩ := h5
  refine ⟨_, h5a, fun m2 hm2 => ?_⟩
  have oo : oc pR H H5 := oc_trans (pR_B o3) (pR_Q o5)
  refine ck_mono (dcx_begin (X := X) (xs := xs) ha hq (bz_oc hb oo) hw (flI_of hw hp d5.2.2.2) hp) (fun r8 H8 h8 => ⟨h8.1, fun m3 hm3 => ?_⟩)
  obtain ⟨-, o8, d8⟩ := h8
  have wb := zwo_bd hw' rt.1
  rw [e5]
  refine ck_mono (ds_seek (X := X) (xs := xs) hw' d8 (by omega) (by omega) (by omega) (fun e => ?_) (fun _ => 0)) (fun r10 H10 h10 => ?_)
  · have e0 : z' 1 = 0 := by have := hw'.1.2.2.1; omega
    rw [rk_nil rt e0, zwo_0 e]; omega
  · obtain ⟨A', R', F', x1, o10, -, d10, s10, b10⟩ := h10
    refine ⟨_, x1, ?_⟩
    rcases zbs_bst (bst_congr (fun s => alw_all hw') b10) with ⟨f, b⟩ | ⟨-, b⟩
    · exact hK H10 R' (oc_trans oo (oc_trans (pR_B o8) (pR_K o10))) (flI_of hw hp d10.2.2.2) (by rw [s10.1]; exact b) (s10.2.2 f)
    · have := b t rt st; omega
/-- known of the best -/
def kbe (z : Nat → Int) (H : fl_H) : Prop := H 88 0 = 0 ∨ (H 88 0 = 1 ∧ ∃ R, zbs z (rk z) (H 88 2) R ∧ ∀ g, g < 6 → H 89 g = ((R g : Nat) : Int))
def pT (c : Nat) : Prop := pR c ∨ c = 88 ∨ c = 89
theorem fb_best {m : Nat} {z : Nat → Int} {H : fl_H} (hb : bz z H) (hw : wf z) (hf : flI z H) (hk : kbe z H) : ck (cm_pg X xs) m cm_m144 [.index 0, fl_t (-1), fl_t (-1)] H (fun r G => oc pT H G ∧ flI z G ∧ G 88 0 = 1 ∧ ∃ R, zbs z (rk z) (G 88 2) R ∧ (∀ g, g < 6 → G 89 g = ((R g : Nat) : Int)) ∧ r = some (G 88 2)) := by
  have w1 : fl_w (-1) = -1 := rfl
  have hp : bpg z (-1) (-1) z := Or.inl ⟨by omega, by omega, rfl⟩
  refine ve_GoodsBook_findBest_0 ⟨fun h => absurd h (by decide +kernel), fun _ => ⟨fun h => absurd h (by decide +kernel), fun _ => ⟨fun h m1 hm1 => ?_, fun h => ?_⟩⟩⟩
  · refine fb_path (X := X) (xs := xs) w1 w1 hb hw hf hp (fun G R oG fG zG rG m2 hm2 => ?_)
    refine ve_Answer_keep_88_81 (fun H1 e1 H3 e3 H5 e5 H7 e7 => ⟨rfl, ?_⟩)
    have k1 : ∀ c, c ≠ 89 → H1 c = G c := fun c hc => by rw [e1]; funext i; exact if_neg (fun q => hc q.1)
    have k7 : ∀ c, c ≠ 88 → H7 c = H1 c := fun c hc => by rw [e7, fl_up_cell _ _ _ _ hc, e5, fl_up_cell _ _ _ _ hc, e3, fl_up_cell _ _ _ _ hc]
    have o7 : oc (fun c => c = 88 ∨ c = 89) G H7 := fun c hc => by rw [k7 c (fun q => hc (Or.inl q)), k1 c (fun q => hc (Or.inr q))]
    have e2 : H7 88 2 = G 79 4 := by rw [e7, fl_up_i _ _ _ _ (by decide), e5, fl_up_i _ _ _ _ (by decide), e3, fl_up_at]
    refine ⟨oc_trans (oc_mono oG (fun c h => Or.inl h)) (oc_mono o7 (fun c h => Or.inr h)), flI_fr fG (fun c p1 p2 => o7 c (by omega)), by rw [e7, fl_up_at], R, by rw [e2]; exact zG, fun g hg => ?_, by rw [e2, o7 79 (by decide)]⟩
    rw [k7 89 (by decide), e1]
    show (if 89 = 89 ∧ g < 6 then G 81 g else G 89 g) = _
    rw [if_pos ⟨rfl, hg⟩]; exact rG g hg
  · rcases hk with k | ⟨k1, R, k2, k3⟩
    · rw [k] at h; exact absurd rfl h
    · exact ⟨oc_refl _ _, hf, k1, R, k2, k3, rfl⟩
theorem fb_other {m : Nat} {z z' : Nat → Int} {a q : Int} {H : fl_H} (ha : fl_w a = a) (hq : fl_w q = q) (hb : bz z H) (hw : wf z) (hf : flI z H) (hp : bpg z a q z') (hn : 0 ≤ a ∨ 0 ≤ q) : ck (cm_pg X xs) m cm_m144 [.index 0, fl_t a, fl_t q] H (fun r G => oc pR H G ∧ flI z G ∧ ∃ A R, zbs z' (rk z') A R ∧ r = some A) := by
  refine ve_GoodsBook_findBest_0 ?_
  rw [ha, hq]
  refine ⟨fun h m1 hm1 => fb_path (X := X) (xs := xs) ha hq hb hw hf hp (fun G R oG fG zG _ => ⟨oG, fG, _, R, zG, rfl⟩), fun h => ⟨fun h2 m1 hm1 => fb_path (X := X) (xs := xs) ha hq hb hw hf hp (fun G R oG fG zG _ => ⟨oG, fG, _, R, zG, rfl⟩), fun h2 => ?_⟩⟩
  rcases hn with q1 | q1
  · exact absurd q1 h
  · exact absurd q1 h2
/-- a book mended: least many unlike, the best of those -/
def zme (z : Nat → Int) (lk : Nat → Int) (g : Int) (c : Nat) (A : Int) (R : Nat → Nat) : Prop := (∀ k, k < c → ∀ s, alw z lk g 0 ((k : Nat) : Int) (fun _ => 0) s → ¬ zso z s) ∧ zbs z (alw z lk g 0 ((c : Nat) : Int) (fun _ => 0)) A R
theorem zme_un {z : Nat → Int} {lk : Nat → Int} {g : Int} {c d : Nat} {A B : Int} {R Q : Nat → Nat} (h : zme z lk g c A R) (k : zme z lk g d B Q) : c = d ∧ A = B ∧ R = Q := by
  have e : c = d := by
    rcases Nat.lt_trichotomy c d with q | q | q
    · exact absurd h.2.2.1 (k.1 c q R h.2.1)
    · exact q
    · exact absurd k.2.2.1 (h.1 d q Q k.2.1)
  subst e
  exact ⟨rfl, zbs_un h.2 k.2⟩
def pU (c : Nat) : Prop := pR c ∨ c = 80 ∨ c = 92 ∨ c = 93
theorem fb_mended {m g : Nat} {z : Nat → Int} {H : fl_H} {e : Int} (hb : bz z H) (hw : wf z) (hf : flI z H) (hg : (g : Int) < z 1) (he : e = (g : Int)) : ck (cm_pg X xs) m cm_m145 [.index 0, fl_t e] H (fun r G => r = none ∧ oc pU H G ∧ flI z G ∧ ∃ c A R, c < 6 ∧ zme z (fun k => fl_w (H 19 k)) (g : Int) c A R ∧ G 92 2 = A ∧ G 92 3 = (c : Int) ∧ ∀ k, k < 6 → G 93 k = ((R k : Nat) : Int)) := by
  subst he
  have z6 := hw.1.2.2.2.1
  have w1 : fl_w (-1) = -1 := rfl
  have hp : bpg z (-1) (-1) z := Or.inl ⟨by omega, by omega, rfl⟩
  refine ve_GoodsBook_findMended_0 (fun m1 hm1 => ck_mono (dcx_begin (X := X) (xs := xs) w1 w1 hb hw hf hp) (fun r1 H1 h1 => ⟨h1.1, fun H3 e3 => ?_⟩))
  obtain ⟨-, o1, d1⟩ := h1
  have o3 : oc (fun c => c = 80) H1 H3 := fun c hc => by rw [e3]; funext i; exact if_neg (fun q => hc q.1)
  have d3 : dcx z (fun _ => 0) H3 := ⟨dz_oc d1.1 o3 (fun c hc => by omega), dr_oc d1.2.1 o3 (fun c a b => by omega), mo_oc d1.2.2.1 o3 (by omega), flo_oc d1.2.2.2 o3 (fun c a b => by omega)⟩
  have l3 : ∀ k, k < 6 → H3 80 k = H 19 k := fun k hk => by
    rw [e3]
    show (if 80 = 80 ∧ k < 6 then H1 19 k else H1 80 k) = H 19 k
    rw [if_pos ⟨rfl, hk⟩, o1 19 (by unfold pB; omega)]
  have oU : oc pU H H3 := oc_trans (oc_mono (pR_B o1) (fun c h => Or.inl h)) (oc_mono o3 (fun c h => Or.inr (Or.inl h)))
  have lkE : ∀ G : fl_H, G 80 = H3 80 → ∀ c s, alw z (fun k => fl_w (G 80 k)) (g : Int) 0 c (fun _ => 0) s ↔ alw z (fun k => fl_w (H 19 k)) (g : Int) 0 c (fun _ => 0) s := fun G e c s => by
    have eu : ulk z (fun k => fl_w (G 80 k)) (g : Int) 0 s = ulk z (fun k => fl_w (H 19 k)) (g : Int) 0 s := psm_congr (fun i hi => by
      (try dsimp only)
      have h1 := l3 i (by omega)
      simp only [e, h1])
    unfold alw
    rw [eu]
  have lp : ∀ (f c : Nat), c + f = 6 → (∀ k, k < c → ∀ s, alw z (fun k => fl_w (H 19 k)) (g : Int) 0 ((k : Nat) : Int) (fun _ => 0) s → ¬ zso z s) → ∀ (N : Nat) (G : fl_H), oc pU H G → G 80 = H3 80 → dcx z (fun _ => 0) G → hd_GoodsBook_findMended_0_32 (cm_pg X xs) N G (g : Int) (c : Int) (fun r G => r = none ∧ oc pU H G ∧ flI z G ∧ ∃ c A R, c < 6 ∧ zme z (fun k => fl_w (H 19 k)) (g : Int) c A R ∧ G 92 2 = A ∧ G 92 3 = (c : Int) ∧ ∀ k, k < 6 → G 93 k = ((R k : Nat) : Int)) := by
    intro f
    induction f with
    | zero =>
      intro c hc hk N G oG eG dG
      have e : c = 6 := by omega
      refine absurd (zso_0 z) (hk 5 (by omega) (fun _ => 0) ⟨rk_0 hw.1.1, fun _ _ => rfl, fun _ _ _ => rfl, ?_⟩)
      -- the empty plan is unlike in five goods at most
      have st : psm (fun k => if k = g then 1 else 0) (z 1).toNat = 1 := psm_one 1 (by omega)
      have le : ulk z (fun k => fl_w (H 19 k)) (g : Int) 0 (fun _ => 0) + psm (fun k => if k = g then 1 else 0) (z 1).toNat ≤ psm (fun _ => 1) (z 1).toNat := by
        unfold ulk
        rw [← psm_add]
        refine psm_le (fun i hi => ?_)
        (try dsimp only)
        by_cases q : i = g
        · rw [if_pos q, if_neg (fun hh => hh.2.1 (by omega))]; omega
        · rw [if_neg q]
          by_cases q2 : 0 ≤ i ∧ (i : Int) ≠ (g : Int) ∧ ((0 : Nat) : Int) ≠ fl_w (H 19 i)
          · rw [if_pos q2]; omega
          · rw [if_neg q2]; omega
      rw [psm_const] at le
      omega
    | succ f ih =>
      intro c hc hk N G oG eG dG
      have ec : (c : Int) + 1 = ((c + 1 : Nat) : Int) := by omega
      refine vh_GoodsBook_findMended_0_32 ?_
      rw [fl_wi (x := (c : Int)) (by omega) (by omega), ec]
      refine ⟨fun hh => by omega, fun _ m2 hm2 => ck_mono (ds_seek (X := X) (xs := xs) hw dG (by omega) (by omega) (by omega) (fun _ => by omega) (fun _ => 0)) (fun r2 H2 h2 => ?_)⟩
      obtain ⟨A', R', F', x1, o2, -, d2, s2, b2⟩ := h2
      refine ⟨_, x1, ?_⟩
      rw [fb_0]
      have oc2 : oc pU H H2 := oc_trans oG (oc_mono (pR_K o2) (fun c h => Or.inl h))
      rcases zbs_bst (bst_congr (lkE G eG (c : Int)) b2) with ⟨f2, b⟩ | ⟨f2, b⟩
      · refine ⟨fun q => absurd f2 q, fun _ m3 hm3 => ve_Answer_keep_92_81 (fun J1 q1 J3 q3 J5 q5 J7 q7 => ⟨rfl, ?_⟩)⟩
        have k1 : ∀ c, c ≠ 93 → J1 c = H2 c := fun c hc => by rw [q1]; funext i; exact if_neg (fun q => hc q.1)
        have k7 : ∀ c, c ≠ 92 → J7 c = J1 c := fun c hc => by rw [q7, fl_up_cell _ _ _ _ hc, q5, fl_up_cell _ _ _ _ hc, q3, fl_up_cell _ _ _ _ hc]
        have o7 : oc (fun c => c = 92 ∨ c = 93) H2 J7 := fun c hc => by rw [k7 c (fun q => hc (Or.inl q)), k1 c (fun q => hc (Or.inr q))]
        refine ⟨rfl, oc_trans oc2 (oc_mono o7 (fun c h => Or.inr (Or.inr h))), flI_fr (Or.inr d2.2.2.2) (fun c p1 p2 => o7 c (by omega)), c, A', R', by omega, ⟨hk, b⟩, ?_, ?_, fun k hk6 => ?_⟩
        · rw [q7, fl_up_i _ _ _ _ (by decide), q5, fl_up_i _ _ _ _ (by decide), q3, fl_up_at]; exact s2.1
        · rw [q7, fl_up_i _ _ _ _ (by decide), q5, fl_up_at]
        · rw [k7 93 (by decide), q1]
          show (if 93 = 93 ∧ k < 6 then H2 81 k else H2 93 k) = _
          rw [if_pos ⟨rfl, hk6⟩]; exact s2.2.2 f2 k hk6
      · refine ⟨fun _ m3 hm3 => ih (c + 1) (by omega) (fun k hk2 s hs so => ?_) m3 H2 oc2 ((o2 80 (by unfold pK; omega)).trans eG) d2, fun q => absurd f2 q⟩
        by_cases e : k = c
        · subst e
          have := b s hs so
          have := zwo_bd hw hs.1.1
          omega
        · exact hk k (by omega) s hs so
  exact lp 6 0 rfl (fun k hk => absurd hk (by omega)) m H3 oU rfl d3
end
end
