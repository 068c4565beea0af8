noncomputable section
/-! L3: the reference's steps, one and all. -/
section
variable {X : Term} {xs : List Int32}
/-- a row laid down to start from -/
def r02 (t : Nat → Nat) (H : fl_H) : Prop := ∀ g : Nat, (g : Int) < H 95 1 → H 102 g = ((t g : Nat) : Int)
def rti (z : Nat → Int) (t : Nat → Nat) (S : (Nat → Nat) → Prop) (H F : fl_H) : Prop := rso H F ∧ F 102 = H 102 ∧ rkn z F ∧ rcl z t S F
theorem rti_100 {z : Nat → Int} {t : Nat → Nat} {S : (Nat → Nat) → Prop} {H F G : fl_H} (h : rti z t S H F) (o : oc (fun c => c = 100) F G) : rti z t S H G :=
  ⟨rso_trans h.1 (rso_oc o (fun c hc => by omega)), (o 102 (by decide)).trans h.2.1, rkn_c h.2.2.1 (o 96 (by decide)), rcl_fr h.2.2.2 (by rw [o 94 (by decide)]) (by rw [o 94 (by decide)]) (o 101 (by decide))⟩
theorem rti_eq {z : Nat → Int} {t : Nat → Nat} {S S' : (Nat → Nat) → Prop} {H F : fl_H} (e : ∀ s, S s ↔ S' s) (h : rti z t S H F) : rti z t S' H F := ⟨h.1, h.2.1, h.2.2.1, rcl_eq e h.2.2.2⟩
theorem rc_tri {m : Nat} {z : Nat → Int} {s t : Nat → Nat} {S : (Nat → Nat) → Prop} {H F : fl_H} (ez : H 95 = z) (hw : wf z) (hs : rk z s) (h : rr s F) (hc : rti z t S H F) : ck (cm_pg X xs) m cm_m206 [.index 94] F (fun r' H' => r' = none ∧ rti z t (fun x => S x ∨ x = s) H H') :=
  ck_mono (rc_try (X := X) (xs := xs) (z := z) ((rso_95 hc.1).trans ez) hw hs h hc.2.2.1 hc.2.2.2) (fun r' H' h' => ⟨h'.1, rso_trans hc.1 h'.2.1.1, h'.2.1.2.2.trans hc.2.1, h'.2.2.1, h'.2.2.2⟩)
def rsp (z : Nat → Int) (t : Nat → Nat) (H : fl_H) (r' : Option Int) (H' : fl_H) : Prop := rso H H' ∧ rkn z H' ∧ ((r' = some 0 ∧ ztop z t ∧ H' 94 8 = zwo z t ∧ H' 102 = H 102) ∨ (r' = some 1 ∧ ∃ t', zstp z t t' ∧ rk z t' ∧ H' 94 8 = zwo z t' ∧ r02 t' H'))
theorem rc_step {m : Nat} {z : Nat → Int} {t : Nat → Nat} {H : fl_H} (ez : H 95 = z) (hw : wf z) (ht : rk z t) (h2 : r02 t H) (hk : rkn z H) (h8 : H 94 8 = zwo z t) : ck (cm_pg X xs) m cm_m207 [.index 94] H (rsp z t H) := by
  obtain ⟨z00, z3, z10, z6, z20, z12⟩ := id hw.1
  have wb := zwo_bd hw ht.1
  -- the end: what was found is laid down
  have fin : ∀ (N : Nat) (F : fl_H), rti z t (nbG z t (z 1).toNat) H F → hd_GoodsBookModel_step_94_112 (cm_pg X xs) N F 0 (rsp z t H) := by
    intro N F hF
    obtain ⟨oF, f102, kF, A', R', F', ⟨a1, a2, a3⟩, hR, -, hB⟩ := hF
    rcases zstp_bst hB with ⟨f0, eA, tp⟩ | ⟨f1, sp, eA⟩
    · refine vh_GoodsBookModel_step_94_112 ?_
      rw [a2, fl_b0 f0]
      exact ⟨fun q => absurd q (by decide +kernel), fun _ => ⟨fun _ => ⟨oF, kF, Or.inl ⟨rfl, tp, by rw [a1]; exact eA, f102⟩⟩, fun q => absurd w_0 q⟩⟩
    · have lp : ∀ (f k : Nat), k + f = 6 → ∀ (N : Nat) (K : fl_H), oc (fun c => c = 102) F K → (∀ g, g < k → K 102 g = F 101 g) → hd_GoodsBookModel_step_94_112 (cm_pg X xs) N K (k : Int) (rsp z t H) := by
        intro f
        induction f with
        | zero =>
          intro k hk' N K oK hK
          have ek : k = 6 := by omega
          subst ek
          refine vh_GoodsBookModel_step_94_112 ⟨fun _ => ⟨rso_trans oF (rso_oc oK (fun c hc => by omega)), rkn_c kF (oK 96 (by decide)), Or.inr ⟨?_, R', sp, hR f1, ?_, fun g hg => ?_⟩⟩, fun hh => absurd (by decide +kernel) hh⟩
          · rw [oK 94 (by decide), a2, fl_b1 f1]
          · rw [oK 94 (by decide), a1]; exact eA
          · rw [oK 95 (by decide), rso_95 oF, ez] at hg
            rw [hK g (by omega)]; exact a3 f1 g hg
        | succ f ih =>
          intro k hk' N K oK hK
          have ek : (k : Int) + 1 = ((k + 1 : Nat) : Int) := by omega
          refine vh_GoodsBookModel_step_94_112 ?_
          rw [oK 94 (by decide), a2, fl_b1 f1, fl_wi (x := (k : Int)) (by omega) (by omega), Int.toNat_natCast, ek]
          refine ⟨fun hh => by omega, fun _ => ⟨fun q => absurd q (by decide +kernel), fun _ _ _ H4 e4 m1 hm1 => ih (k + 1) (by omega) m1 H4 (fun c hc => by rw [e4, fl_up_cell _ _ _ _ hc]; exact oK c hc) (fun g hg => ?_)⟩⟩
          rw [e4]
          by_cases eg : g = k
          · rw [eg, fl_up_at, oK 101 (by decide)]
          · rw [fl_up_i _ _ _ _ eg]; exact hK g (by omega)
      exact lp 6 0 rfl N F (oc_refl _ _) (fun g hg => absurd hg (by omega))
  have r102 : ∀ (F : fl_H), F 102 = H 102 → ∀ g : Nat, (g : Int) < z 1 → F 102 g = ((t g : Nat) : Int) := fun F e g hg => by rw [e]; exact h2 g (by rw [ez]; exact hg)
  -- goods, one behind the other
  have goods : ∀ (f g : Nat), g + f = (z 1).toNat → ∀ (N : Nat) (F : fl_H), rti z t (nbG z t g) H F → hd_GoodsBookModel_step_94_7 (cm_pg X xs) N F (g : Int) (rsp z t H) := by
    intro f
    induction f with
    | zero =>
      intro g hg N F hF
      have eg : g = (z 1).toNat := by omega
      refine vh_GoodsBookModel_step_94_7 ?_
      rw [rso_95 hF.1, ez, fl_wi (x := z 1) (by omega) (by omega), fl_wi (x := (g : Int)) (by omega) (by omega)]
      rw [eg] at hF
      exact ⟨fun _ => fin N F hF, fun hh => absurd (by omega) hh⟩
    | succ f ih =>
      intro g hg N F hF
      have g6 : g < 6 := by omega
      have gG : (g : Int) < z 1 := by omega
      have tg := (ht.1 g g6).1
      -- rounds
      have rounds : ∀ (e k : Nat), k + e = (z 1).toNat → g < k → ∀ (N : Nat) (K : fl_H), rti z t (fun s => (nbG z t g s ∨ nbA t g (2 * (z 0).toNat + 1) s) ∨ nbB t g k s) H K → hd_GoodsBookModel_step_94_56 (cm_pg X xs) N K (g : Int) (k : Int) (rsp z t H) := by
        intro e
        induction e with
        | zero =>
          intro k hk' gk N K hK
          have ek : k = (z 1).toNat := by omega
          have eg : (g : Int) + 1 = ((g + 1 : Nat) : Int) := by omega
          refine vh_GoodsBookModel_step_94_56 ?_
          rw [rso_95 hK.1, ez, fl_wi (x := z 1) (by omega) (by omega), fl_wi (x := (k : Int)) (by omega) (by omega), eg]
          rw [ek] at hK
          exact ⟨fun _ m1 _ => ih (g + 1) (by omega) m1 K (rti_eq (fun s => (nb_G z t g s).symm) hK), fun hh => absurd (by omega) hh⟩
        | succ e ihe =>
          intro k hk' gk N K hK
          have ek : (k : Int) + 1 = ((k + 1 : Nat) : Int) := by omega
          have k6 : k < 6 := by omega
          have tk := (ht.1 k k6).1
          refine vh_GoodsBookModel_step_94_56 ?_
          rw [rso_95 hK.1, ez, fl_wi (x := z 1) (by omega) (by omega), fl_wi (x := (k : Int)) (by omega) (by omega), ek]
          refine ⟨fun hh => by omega, fun _ m1 hm1 => ck_mono (rc_from (X := X) (xs := xs)) (fun r3 H3 h3 => ⟨h3.1, ?_⟩)⟩
          obtain ⟨-, o3, v3⟩ := h3
          rw [fl_wi (x := (g : Int)) (by omega) (by omega), Int.toNat_natCast, Int.toNat_natCast]
          refine fun _ _ H6 e6 _ _ H10 e10 m2 hm2 => ?_
          have o10 : oc (fun c => c = 100) K H10 := fun c hc => by rw [e10, fl_up_cell _ _ _ _ hc, e6, fl_up_cell _ _ _ _ hc]; exact o3 c hc
          have i10 := rti_100 hK o10
          have vk : H3 102 k = ((t k : Nat) : Int) := by rw [o3 102 (by decide)]; exact r102 K hK.2.1 k (by omega)
          have vg : H6 102 g = ((t g : Nat) : Int) := by rw [e6, fl_up_c _ _ _ _ (by decide), o3 102 (by decide)]; exact r102 K hK.2.1 g gG
          have rw10 : rr (pup (pup t g (t k)) k (t g)) H10 := fun j hj => by
            rw [rso_95 i10.1, ez] at hj
            rw [e10]
            by_cases c1 : j = k
            · rw [c1, fl_up_at, pup_at, vg]
            · rw [fl_up_i _ _ _ _ c1, pup_ne _ _ c1, e6]
              by_cases c2 : j = g
              · rw [c2, fl_up_at, pup_at, vk]
              · rw [fl_up_i _ _ _ _ c2, pup_ne _ _ c2, v3 j (by omega)]
                exact r102 K hK.2.1 j hj
          refine ck_mono (rc_tri (X := X) (xs := xs) ez hw (rk_pup (rk_pup ht gG g6 tk) (by omega) k6 tg) rw10 i10) (fun r13 H13 h13 => ⟨h13.1, fun m3 hm3 => ?_⟩)
          exact ihe (k + 1) (by omega) (by omega) m3 H13 (rti_eq (fun s => by rw [nb_B t gk, or_assoc]) h13.2)
      -- choices
      have choices : ∀ (e c : Nat), c + e = 2 * (z 0).toNat + 1 → ∀ (N : Nat) (K : fl_H), rti z t (fun s => nbG z t g s ∨ nbA t g c s) H K → hd_GoodsBookModel_step_94_19 (cm_pg X xs) N K (g : Int) (c : Int) (rsp z t H) := by
        intro e
        induction e with
        | zero =>
          intro c hc N K hK
          have ec : c = 2 * (z 0).toNat + 1 := by omega
          have eg : (g : Int) + 1 = ((g + 1 : Nat) : Int) := by omega
          refine vh_GoodsBookModel_step_94_19 ?_
          rw [rso_95 hK.1, ez, fl_wi (x := 2 * z 0) (by omega) (by omega), fl_wi (x := (c : Int)) (by omega) (by omega), eg]
          rw [ec] at hK
          refine ⟨fun _ => rounds ((z 1).toNat - (g + 1)) (g + 1) (by omega) (by omega) N K (rti_eq (fun s => ⟨fun q => Or.inl q, fun q => q.elim id (fun ⟨k, k1, k2, _⟩ => absurd k1 (by omega))⟩) hK), fun hh => absurd (by omega) hh⟩
        | succ e ihe =>
          intro c hc N K hK
          have ec : (c : Int) + 1 = ((c + 1 : Nat) : Int) := by omega
          refine vh_GoodsBookModel_step_94_19 ?_
          rw [rso_95 hK.1, ez, fl_wi (x := 2 * z 0) (by omega) (by omega), fl_wi (x := (c : Int)) (by omega) (by omega), ec]
          refine ⟨fun hh => by omega, fun _ m1 hm1 => ck_mono (rc_from (X := X) (xs := xs)) (fun r3 H3 h3 => ⟨h3.1, ?_⟩)⟩
          obtain ⟨-, o3, v3⟩ := h3
          rw [fl_wi (x := (g : Int)) (by omega) (by omega), Int.toNat_natCast]
          refine fun _ H5 e5 m2 hm2 => ?_
          have o5 : oc (fun c => c = 100) K H5 := fun c hc => by rw [e5, fl_up_cell _ _ _ _ hc]; exact o3 c hc
          have i5 := rti_100 hK o5
          have rw5 : rr (pup t g c) H5 := fun j hj => by
            rw [rso_95 i5.1, ez] at hj
            rw [e5]
            by_cases c2 : j = g
            · rw [c2, fl_up_at, pup_at]
            · rw [fl_up_i _ _ _ _ c2, pup_ne _ _ c2, v3 j (by omega)]
              exact r102 K hK.2.1 j hj
          refine ck_mono (rc_tri (X := X) (xs := xs) ez hw (rk_pup ht gG g6 (by omega)) rw5 i5) (fun r8 H8 h8 => ⟨h8.1, fun m3 hm3 => ?_⟩)
          exact ihe (c + 1) (by omega) m3 H8 (rti_eq (fun s => by rw [nb_A, or_assoc]) h8.2)
      refine vh_GoodsBookModel_step_94_7 ?_
      rw [rso_95 hF.1, ez, fl_wi (x := z 1) (by omega) (by omega), fl_wi (x := (g : Int)) (by omega) (by omega)]
      refine ⟨fun hh => by omega, fun _ => ?_⟩
      exact choices (2 * (z 0).toNat + 1) 0 (by omega) N F (rti_eq (fun s => ⟨fun q => Or.inl q, fun q => q.elim id (fun ⟨k, k1, _⟩ => absurd k1 (by omega))⟩) hF)
  refine ve_GoodsBookModel_step_94 (fun H1 e1 => ?_)
  have c1 : ∀ c, c ≠ 94 → H1 c = H c := fun c hc => by rw [e1]; exact fl_up_cell _ _ _ _ hc
  have i1 : rti z t (nbG z t 0) H H1 := ⟨⟨fun c h _ => c1 c h, fun i _ _ h10 => by rw [e1, fl_up_i _ _ _ _ h10]⟩, c1 102 (by decide), rkn_c hk (c1 96 (by decide)), zwo z t, fun _ => 0, False, ⟨by rw [e1, fl_up_i _ _ _ _ (by decide)]; exact h8, by rw [e1, fl_up_at, fl_b0 (fun q => q)], fun q => q.elim⟩, fun q => q.elim, by omega, bst_none (fun s ⟨k, k1, _⟩ _ => absurd k1 (by omega))⟩
  exact goods (z 1).toNat 0 (by omega) m H1 i1
end
end
