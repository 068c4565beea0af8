noncomputable section
/-! L3: the class's search goes through plans: the best of all that go on from a row. -/
section
variable {X : Term} {xs : List Int32}
def pQ (c : Nat) : Prop := c = 65 ∨ c = 68 ∨ (71 ≤ c ∧ c ≤ 77) ∨ c = 79 ∨ c = 81
def s79 (H G : fl_H) : Prop := ∀ i, i ≠ 4 → i ≠ 5 → G 79 i = H 79 i
theorem s79_refl (H : fl_H) : s79 H H := fun _ _ _ => rfl
theorem s79_trans {H G F : fl_H} (a : s79 H G) (b : s79 G F) : s79 H F := fun i h1 h2 => (b i h1 h2).trans (a i h1 h2)
theorem s79_oc {P : Nat → Prop} {H G : fl_H} (o : oc P H G) (h : ¬ P 79) : s79 H G := fun i _ _ => by rw [o 79 h]
theorem pQ_D {H G : fl_H} (o : oc pD H G) : oc pQ H G := oc_mono o (fun c h => Or.inr (Or.inr (Or.inl h)))
theorem pQ_L {H G : fl_H} (o : oc pL H G) : oc pQ H G := oc_mono o (fun c h => by unfold pL at h; unfold pQ; omega)
/-- a search at a row: its draft, its tables, which good is out, what is like -/
def scx (z : Nat → Int) (lk : Nat → Int) (ban : Int) (r : Nat → Nat) (H : fl_H) : Prop := dcx z r H ∧ srt z H ∧ H 79 6 = ban ∧ ∀ g : Nat, g < (z 1).toNat → fl_w (H 80 g) = lk g
/-- what it has found -/
def sst (A : Int) (R : Nat → Nat) (F : Prop) (H : fl_H) : Prop := H 79 4 = A ∧ H 79 5 = fl_b F ∧ (F → ∀ g, g < 6 → H 81 g = ((R g : Nat) : Int))
theorem scx_oc {z : Nat → Int} {lk : Nat → Int} {ban : Int} {r s : Nat → Nat} {P : Nat → Prop} {H G : fl_H} (h : scx z lk ban r H) (o : oc P H G) (hp : ∀ c, 79 ≤ c ∧ c ≤ 84 → ¬ P c) (d : dcx z s G) : scx z lk ban s G :=
  ⟨d, srt_oc h.2.1 o (hp 82 (by omega)) (hp 83 (by omega)) (hp 84 (by omega)), by rw [o 79 (hp 79 (by omega))]; exact h.2.2.1, fun g hg => by rw [o 80 (hp 80 (by omega))]; exact h.2.2.2 g hg⟩
theorem scx_pQ {z : Nat → Int} {lk : Nat → Int} {ban : Int} {r s : Nat → Nat} {H G : fl_H} (h : scx z lk ban r H) (o : oc pQ H G) (q : s79 H G) (d : dcx z s G) : scx z lk ban s G :=
  ⟨d, srt_oc h.2.1 o (by unfold pQ; omega) (by unfold pQ; omega) (by unfold pQ; omega), by rw [q 6 (by omega) (by omega)]; exact h.2.2.1, fun g hg => by rw [o 80 (by unfold pQ; omega)]; exact h.2.2.2 g hg⟩
theorem sst_oc {A : Int} {R : Nat → Nat} {F : Prop} {P : Nat → Prop} {H G : fl_H} (h : sst A R F H) (o : oc P H G) (hp : ¬ P 79) (h8 : ¬ P 81) : sst A R F G :=
  ⟨by rw [o 79 hp]; exact h.1, by rw [o 79 hp]; exact h.2.1, fun f g hg => by rw [o 81 h8]; exact h.2.2 f g hg⟩
theorem dcx_pL {z : Nat → Int} {r : Nat → Nat} {H G : fl_H} (h : dcx z r H) (o : oc pL H G) (f : flo z G) : dcx z r G :=
  ⟨dz_oc h.1 o (fun c hc => by unfold pL; omega), dr_oc h.2.1 o (fun c a b => by unfold pL; omega), mo_oc h.2.2.1 o (by unfold pL; omega), f⟩
theorem ds_keep {m : Nat} {H : fl_H} {e : Int} : ck (cm_pg X xs) m cm_m66 [.index 79, fl_t e] H (fun r' H' => r' = none ∧ oc (fun c => c = 79 ∨ c = 81) H H' ∧ s79 H H' ∧ H' 79 4 = e ∧ H' 79 5 = 1 ∧ ∀ g, g < 6 → H' 81 g = H 71 g) := by
  refine ve_Search_keep_79 (fun H1 e1 H3 e3 H5 e5 => ?_)
  have o3 : oc (fun c => c = 79 ∨ c = 81) H H3 := by rw [e3, e1]; exact oc_up (oc_up (oc_refl _ _) (Or.inl rfl)) (Or.inl rfl)
  have c5 : ∀ c, c ≠ 81 → H5 c = H3 c := fun c hc => by rw [e5]; funext i; exact if_neg (fun q => hc q.1)
  refine ⟨rfl, fun c hc => by rw [c5 c (fun q => hc (Or.inr q))]; exact o3 c hc, fun i h4 h5 => ?_, ?_, ?_, fun g hg => ?_⟩
  · rw [c5 79 (by decide), e3, fl_up_i _ _ _ _ h4, e1, fl_up_i _ _ _ _ h5]
  · rw [c5 79 (by decide), e3, fl_up_at]
  · rw [c5 79 (by decide), e3, fl_up_i _ _ _ _ (by decide), e1, fl_up_at]
  · rw [e5]
    show (if 81 = 81 ∧ g < 6 then H3 71 g else H3 81 g) = H 71 g
    rw [if_pos ⟨rfl, hg⟩, o3 71 (by decide)]
theorem bst_A {z : Nat → Int} {S : (Nat → Nat) → Prop} {A A' : Int} {R R' : Nat → Nat} {F F' : Prop} (hw : wf z) (h : bst z S A R F A' R' F') (hS : ∀ s, S s → rk z s) (b : -1000000000 ≤ A ∧ A ≤ 1000000000) : -1000000000 ≤ A' ∧ A' ≤ 1000000000 := by
  rcases h with ⟨h1, -⟩ | ⟨-, h2, -, h4, -⟩
  · rw [h1]; exact b
  · have := zwo_bd hw (hS _ h2).1
    omega
/-- what it has done -/
def dpo (z : Nat → Int) (lk : Nat → Int) (ban : Int) (g : Nat) (left : Int) (r : Nat → Nat) (A : Int) (R : Nat → Nat) (F : Prop) (H H' : fl_H) : Prop :=
  oc pQ H H' ∧ s79 H H' ∧ dcx z r H' ∧ ∃ A' R' F', sst A' R' F' H' ∧ bst z (alw z lk ban g left r) A R F A' R' F'
def dOK (X : Term) (xs : List Int32) (z : Nat → Int) (lk : Nat → Int) (ban : Int) (g : Nat) : Prop :=
  ∀ (N : Nat) (H : fl_H) (r R : Nat → Nat) (F : Prop) (A left e1 e2 e3 : Int), scx z lk ban r H → sst A R F H → nod z g r → 0 ≤ left → left ≤ 100 → -1000000000 ≤ A ∧ A ≤ 1000000000 → (g = (z 1).toNat → A < zwo z r) → e1 = (g : Int) → e2 = left → e3 = zgd z r g → ck (cm_pg X xs) N cm_m63 [.index 79, fl_t e1, fl_t e2, fl_t e3] H (fun r' H' => r' = none ∧ dpo z lk ban g left r A R F H H')
/-- one choice -/
def dbody (P : cm_G) (N : Nat) (H : fl_H) (a1 a2 a3 a7 : Int) (K : Nat → fl_H → Prop) : Prop :=
  ((0 ≤ fl_w a2) → ∀ m, m < N → ck P m cm_m17 [.index 69, fl_t a1, fl_t a7] H (fun r H9 => r = none ∧ (∀ m, m < N → ck P m cm_m64 [.index 79, fl_t a1] H9 (fun r H11 => ∃ x13, r = some x13 ∧ ((fl_w x13 = 0 → ∀ m, m < N → K m H11) ∧ (¬ fl_w x13 = 0 → ∀ m, m < N → ck P m cm_m65 [.index 79, fl_t a1] H11 (fun r H16 => ∃ x18, r = some x18 ∧ (∀ m, m < N → ck P m cm_m20 [.index 69, fl_t (a1 + 1)] H16 (fun r H20 => ∃ x22, r = some x22 ∧ (∀ m, m < N → ck P m cm_m22 [.index 69, fl_t (a1 + 1)] H20 (fun r H23 => ∃ x25, r = some x25 ∧ ((0 ≤ fl_w (a1 + 1) ∧ fl_w (a1 + 1) < 7 → ((fl_w (((x22 + x25) + (a3 + x18)) + (H23 84 (fl_w (a1 + 1)).toNat)) ≤ fl_w (H23 79 4)) → ∀ m, m < N → K m H23) ∧ (¬ (fl_w (((x22 + x25) + (a3 + x18)) + (H23 84 (fl_w (a1 + 1)).toNat)) ≤ fl_w (H23 79 4)) → ∀ m, m < N → ck P m cm_m63 [.index 79, fl_t (a1 + 1), fl_t a2, fl_t (a3 + x18)] H23 (fun r H30 => r = none ∧ (∀ m, m < N → K m H30)))))))))))))))) ∧ (¬ (0 ≤ fl_w a2) → ∀ m, m < N → K m H)
theorem dbody_ok {z : Nat → Int} {lk : Nat → Int} {ban : Int} {g c x N : Nat} {r R : Nat → Nat} {F : Prop} {A left : Int} {H : fl_H} {K : Nat → fl_H → Prop} (hw : wf z) (ih : dOK X xs z lk ban (g + 1)) (hx : scx z lk ban (pup r g x) H) (st : sst A R F H) (nd : nod z g r) (hg : (g : Int) < z 1) (hc : (c : Int) ≤ 2 * z 0) (hl : -100 ≤ left ∧ left ≤ 100) (bA : -1000000000 ≤ A ∧ A ≤ 1000000000)
    (K1 : ∀ m, m < N → ∀ H' A' R' F' x', oc pQ H H' → s79 H H' → scx z lk ban (pup r g x') H' → sst A' R' F' H' → bst z (alw z lk ban (g + 1) left (pup r g c)) A R F A' R' F' → K m H') : dbody (cm_pg X xs) N H (g : Int) left (zgd z r g) (c : Int) K := by
  have z6 := hw.1.2.2.2.1
  have g6 : g < 6 := by omega
  have ek : (g : Int) + 1 = ((g + 1 : Nat) : Int) := by omega
  have rk1 : rk z (pup r g c) := rk_pup nd.1 hg g6 hc
  have b1 := zbr_bd (d := g + 1) hw rk1.1 (by omega)
  have b2 := zho_bd (r := pup r g c) (d := g + 1) hw
  have b3 := zgd_bd (d := g + 1) hw rk1.1
  have b4 := zgo_bd (d := g + 1) hw
  unfold dbody
  rw [fl_wi (x := left) (by omega) (by omega)]
  refine ⟨fun q m hm => ck_mono (dcx_put (X := X) (xs := xs) hx.1 hw hg hc rfl rfl) (fun r9 H9 h9 => ⟨h9.1, fun m1 hm1 => ?_⟩), fun q m hm => K1 m hm H A R F x (oc_refl _ _) (s79_refl _) hx st (bst_none (fun s hs _ => by
    have := (ulk_nn z lk ban (g + 1) s).1
    have := hs.2.2.2
    omega))⟩
  obtain ⟨-, o9, d9⟩ := h9
  rw [pup_pup] at d9
  have x9 : scx z lk ban (pup r g c) H9 := scx_oc hx o9 (fun c hc => by unfold pD; omega) d9
  have s9 : sst A R F H9 := sst_oc st o9 (by unfold pD; omega) (by unfold pD; omega)
  refine ck_mono (ds_stay (X := X) (xs := xs) x9.1 hw x9.2.1 hg rfl) (fun r11 H11 h11 => ⟨_, h11.1, ?_⟩)
  obtain ⟨-, o11, f11⟩ := h11
  have d11 := dcx_pL d9 o11 f11
  have x11 : scx z lk ban (pup r g c) H11 := scx_oc x9 o11 (fun c hc => by unfold pL; omega) d11
  have s11 : sst A R F H11 := sst_oc s9 o11 (by unfold pL; omega) (by unfold pL; omega)
  have oo : oc pQ H H11 := oc_trans (pQ_D o9) (pQ_L o11)
  have ss : s79 H H11 := s79_trans (s79_oc o9 (by unfold pD; omega)) (s79_oc o11 (by unfold pL; omega))
  rw [fb_0]
  refine ⟨fun q2 m hm => K1 m hm H11 A R F c oo ss x11 s11 (bst_none (fun s hs so => absurd so (nod_no hw nd hg hc q2 hs))), fun q2 m hm => ck_mono (ds_gain (X := X) (xs := xs) d11 hw x11.2.1 hg rfl) (fun r16 H16 h16 => ⟨_, h16.1, fun m2 hm2 => ?_⟩)⟩
  have q2' : zcs z (pup r g c) g := Classical.not_not.mp q2
  have e16 := h16.2
  subst e16
  refine ck_mono (dc_brought (X := X) (xs := xs) (d := g + 1) d11.1 hw d11.2.1 d11.2.2.1 (by omega) ek) (fun r20 H20 h20 => ⟨_, h20.1, fun m3 hm3 => ?_⟩)
  have e20 := h20.2
  subst e20
  refine ck_mono (dc_hope (X := X) (xs := xs) (d := g + 1) d11.1 hw d11.2.1 (by omega) ek) (fun r23 H23 h23 => ⟨_, h23.1, ?_⟩)
  have e23 := h23.2
  subst e23
  rw [ek, fl_wi (x := ((g + 1 : Nat) : Int)) (by omega) (by omega), Int.toNat_natCast, x11.2.1.2.2 (g + 1) (by omega), s11.1, ← zgd_pup (z := z) (r := r) (g := g) (c := c), fl_wb (x := A) (by omega) (by omega), fl_wb (x := zbr z (pup r g c) (g + 1) + zho z (pup r g c) (g + 1) + zgd z (pup r g c) (g + 1) + zgo z (g + 1)) (by omega) (by omega)]
  refine fun _ => ⟨fun q3 m hm => K1 m hm H23 A R F c oo ss x11 s11 (bst_none (fun s hs so => ?_)), fun q3 m hm => ck_mono (ih m H23 (pup r g c) R F A left _ _ _ x11 s11 (nod_st hw nd hg hc q2') q hl.2 bA (fun e => ?_) rfl rfl rfl) (fun r30 H30 h30 => ⟨h30.1, fun m4 hm4 => ?_⟩)⟩
  · have cp : cpl z (g + 1) (pup r g c) s := nod_cpl rk1 (fun k hk => by rw [pup_ne _ _ (by omega)]; exact nd.2.1 k (by omega)) (by omega) hs
    exact Int.le_trans (cp_wo hw cp so.2) q3
  · rw [← zwo_all hw, ← e]
    have h1 := zho_all z (pup r g c)
    have h2 := zgo_all (z := z) hw
    rw [← e] at h1 h2
    omega
  · obtain ⟨-, o30, t30, d30, A', R', F', s30, k30⟩ := h30
    exact K1 m4 hm4 H30 A' R' F' c (oc_trans oo o30) (s79_trans ss t30) (scx_pQ x11 o30 t30 d30) s30 k30
theorem ds_dec_st {z : Nat → Int} {lk : Nat → Int} {ban : Int} {g : Nat} (hw : wf z) (hb : fl_w ban = ban) (hg : (g : Int) < z 1) (ih : dOK X xs z lk ban (g + 1)) : dOK X xs z lk ban g := by
  intro N H r R F A left e1 e2 e3 hx st nd l0 l1 bA hA h1 h2 h3
  subst h1; subst h2; subst h3
  have z6 := hw.1.2.2.2.1
  have z3 := hw.1.2.1
  have z00 := hw.1.1
  have g6 : g < 6 := by omega
  have r0 : r g = 0 := nd.2.1 g (Nat.le_refl _)
  have loop : ∀ (bn : Int) (L : Nat), ((bn = 1 ∧ (g : Int) = ban ∧ L = 0) ∨ (bn = 0 ∧ (g : Int) ≠ ban ∧ (L : Int) = 2 * z 0)) → (L : Int) ≤ 2 * z 0 → ∀ (f c : Nat), c + f = L + 1 → ∀ (N : Nat) (G : fl_H) (A' : Int) (R' : Nat → Nat) (F' : Prop) (x : Nat), oc pQ H G → s79 H G → scx z lk ban (pup r g x) G → sst A' R' F' G → bst z (fun s => alw z lk ban g e2 r s ∧ s g < c) A R F A' R' F' → hd_Search_decide_79_64 (cm_pg X xs) N G (g : Int) e2 (zgd z r g) bn (L : Int) (c : Int) (fun r' H' => r' = none ∧ dpo z lk ban g e2 r A R F H H') := by
    intro bn L hbn hL f
    induction f with
    | zero =>
      intro c hc N G A' R' F' x oG sG xG tG bG
      have ec : c = L + 1 := by omega
      subst ec
      refine vh_Search_decide_79_64 ?_
      rw [fl_wi (x := (L : Int)) (by omega) (by omega), fl_wi (x := ((L + 1 : Nat) : Int)) (by omega) (by omega)]
      refine ⟨fun _ m hm => ck_mono (dcx_put (X := X) (xs := xs) (c := 0) xG.1 hw hg (by omega) rfl rfl) (fun r2 H2 h2 => ⟨h2.1, rfl, ?_⟩), fun hh => absurd (by omega) hh⟩
      obtain ⟨-, o2, d2⟩ := h2
      rw [pup_0 r0] at d2
      refine ⟨oc_trans oG (pQ_D o2), s79_trans sG (s79_oc o2 (by unfold pD; omega)), d2, A', R', F', sst_oc tG o2 (by unfold pD; omega) (by unfold pD; omega), bst_congr (fun s => ⟨fun q => q.1, fun q => ⟨q, ?_⟩⟩) bG⟩
      rcases hbn with ⟨-, hban, hL0⟩ | ⟨-, -, hL2⟩
      · have := q.2.2.1 g (Nat.le_refl _) hban
        omega
      · have := (q.1.1 g g6).1
        omega
    | succ f ihl =>
      intro c hc N G A' R' F' x oG sG xG tG bG
      have ec : (c : Int) + 1 = ((c + 1 : Nat) : Int) := by omega
      have c2 : (c : Int) ≤ 2 * z 0 := by omega
      have bA' := bst_A hw bG (fun s hs => hs.1.1) bA
      have K2 : ∀ left : Int, (left = if (g : Int) = ban ∨ (c : Int) = lk g then e2 else e2 - 1) → dbody (cm_pg X xs) N G (g : Int) left (zgd z r g) (c : Int) (fun m H' => hd_Search_decide_79_64 (cm_pg X xs) m H' (g : Int) e2 (zgd z r g) bn (L : Int) ((c : Int) + 1) (fun r' H' => r' = none ∧ dpo z lk ban g e2 r A R F H H')) := fun left hleft => by
        have hl : -100 ≤ left ∧ left ≤ 100 := by
          by_cases q : (g : Int) = ban ∨ (c : Int) = lk g
          · rw [if_pos q] at hleft; omega
          · rw [if_neg q] at hleft; omega
        refine dbody_ok (X := X) (xs := xs) hw ih xG tG nd hg c2 hl bA' (fun m hm H' A2 R2 F2 x2 o2 s2 sx2 st2 b2 => ?_)
        (try dsimp only)
        rw [ec]
        refine ihl (c + 1) (by omega) m H' A2 R2 F2 x2 (oc_trans oG o2) (s79_trans sG s2) sx2 st2 ?_
        have hst : ∀ s, (alw z lk ban g e2 r s ∧ s g = c) ↔ alw z lk ban (g + 1) left (pup r g c) s := fun s => by
          rw [hleft]
          refine alw_st (by omega) (fun q => ?_)
          rcases hbn with ⟨-, -, hL0⟩ | ⟨-, hn, -⟩
          · omega
          · exact absurd q hn
        refine bst_congr (fun s => ?_) (bst_seq bG b2 (fun a b ha hb' => ?_))
        · constructor
          · rintro (q | q)
            · exact ⟨q.1, by omega⟩
            · have := (hst s).mpr q
              exact ⟨this.1, by omega⟩
          · rintro ⟨q1, q2⟩
            by_cases e : s g = c
            · exact Or.inr ((hst s).mp ⟨q1, e⟩)
            · exact Or.inl ⟨q1, by omega⟩
        · have hb2 := (hst b).mpr hb'
          exact ⟨g, g6, by omega, fun j hj => by rw [ha.1.2.1 j hj, hb2.1.2.1 j hj]⟩
      refine vh_Search_decide_79_64 ?_
      rw [fl_wi (x := (L : Int)) (by omega) (by omega), fl_wi (x := (c : Int)) (by omega) (by omega), fl_wi (x := (g : Int)) (by omega) (by omega), Int.toNat_natCast, xG.2.2.2 g (by omega)]
      refine ⟨fun hh => by omega, fun _ => ⟨fun hb0 _ => ⟨fun hl => ?_, fun hl => ?_⟩, fun hb1 => ?_⟩⟩
      · exact K2 e2 (by rw [if_pos (Or.inr hl)])
      · have hn : ¬ ((g : Int) = ban ∨ (c : Int) = lk g) := by
          rintro (q | q)
          · rcases hbn with ⟨rfl, -, -⟩ | ⟨-, hn, -⟩
            · exact absurd hb0 (by decide +kernel)
            · exact hn q
          · exact hl q
        exact K2 (e2 - 1) (by rw [if_neg hn])
      · rcases hbn with ⟨-, q, -⟩ | ⟨rfl, -, -⟩
        · exact K2 e2 (by rw [if_pos (Or.inl q)])
        · exact absurd w_0 hb1
  refine ve_Search_decide_79 (fun m hm => ck_mono (ds_goods (X := X) (xs := xs) hx.1.1.1) (fun r1 H1 h1 => ⟨_, h1.1, ?_⟩))
  have e1 := h1.2
  subst e1
  have n1 : fl_w (z 1) = z 1 := fl_wi (by omega) (by omega)
  rw [hx.2.2.1, hb, fl_wi (x := (g : Int)) (by omega) (by omega), n1]
  have x0 : pup r g 0 = r := by
    funext k
    by_cases e : k = g
    · rw [e, pup_at, r0]
    · rw [pup_ne _ _ e]
  have start : bst z (fun s => alw z lk ban g e2 r s ∧ s g < 0) A R F A R F := bst_none (fun s hs _ => absurd hs.2 (by omega))
  refine ⟨fun _ => ⟨fun q => ?_, fun q => ?_⟩, fun hh => absurd hg hh⟩
  · exact loop 1 0 (Or.inl ⟨rfl, q, rfl⟩) (by omega) 1 0 rfl N H1 A R F 0 (oc_refl _ _) (s79_refl _) (by rw [x0]; exact hx) st start
  · obtain ⟨L, hL⟩ : ∃ L : Nat, (L : Int) = 2 * z 0 := ⟨(2 * z 0).toNat, by omega⟩
    rw [hx.1.1.2.1, ← hL]
    exact loop 0 L (Or.inr ⟨rfl, q, hL⟩) (by omega) (L + 1) 0 (by omega) N H1 A R F 0 (oc_refl _ _) (s79_refl _) (by rw [x0]; exact hx) st start
theorem ds_dec_end {z : Nat → Int} {lk : Nat → Int} {ban : Int} (hw : wf z) : dOK X xs z lk ban (z 1).toNat := by
  intro N H r R F A left e1 e2 e3 hx st nd l0 l1 bA hA h1 h2 h3
  subst h1; subst h2; subst h3
  have z6 := hw.1.2.2.2.1
  have z1 := hw.1.2.2.1
  refine ve_Search_decide_79 (fun m hm => ck_mono (ds_goods (X := X) (xs := xs) hx.1.1.1) (fun r1 H1 h1 => ⟨_, h1.1, ?_⟩))
  have e1 := h1.2
  subst e1
  rw [fl_wi (x := z 1) (by omega) (by omega), fl_wi (x := (((z 1).toNat : Nat) : Int)) (by omega) (by omega)]
  refine ⟨fun hh => by omega, fun _ m hm => ck_mono (dc_brought (X := X) (xs := xs) (d := (z 1).toNat) hx.1.1 hw hx.1.2.1 hx.1.2.2.1 (Nat.le_refl _) rfl) (fun r8 H8 h8 => ⟨_, h8.1, fun m2 hm2 => ?_⟩)⟩
  have e8 := h8.2
  subst e8
  rw [zwo_all hw]
  refine ck_mono (ds_keep (X := X) (xs := xs)) (fun r11 H11 h11 => ⟨h11.1, rfl, ?_⟩)
  obtain ⟨-, o11, t11, a11, f11, r11⟩ := h11
  have d11 : dcx z r H11 := ⟨dz_oc hx.1.1 o11 (fun c hc => by omega), dr_oc hx.1.2.1 o11 (fun c a b => by omega), mo_oc hx.1.2.2.1 o11 (by omega), flo_oc hx.1.2.2.2 o11 (fun c a b => by omega)⟩
  refine ⟨oc_mono o11 (fun c h => by unfold pQ; omega), t11, d11, zwo z r, r, True, ⟨a11, by rw [f11, fl_b1 trivial], fun _ g hg => by rw [r11 g hg]; exact (hx.1.2.1.2.1 g hg).1⟩, ?_⟩
  refine bst_one (fun s => alw_end nd.1 z1 l0) ⟨fun b hb => nd.2.2.1 b hb (zlt_bd hw hb), nd.2.2.2⟩ (hA rfl) trivial
theorem ds_decide {z : Nat → Int} {lk : Nat → Int} {ban : Int} (hw : wf z) (hb : fl_w ban = ban) : ∀ (f g : Nat), g + f = (z 1).toNat → dOK X xs z lk ban g
  | 0, g, h => by
    have e : g = (z 1).toNat := by omega
    rw [e]; exact ds_dec_end hw
  | f + 1, g, h => ds_dec_st hw hb (by omega) (ds_decide hw hb f (g + 1) (by omega))
end
end
