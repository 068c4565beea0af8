noncomputable section
/-! L3: the reference reads bonds; a clause. -/
section
variable {X : Term} {xs : List Int32}
theorem nb_cast (a : Nat) : ((a : Int) + 1) = ((a + 1 : Nat) : Int) := by omega
theorem letr_n1 (g x : Int) : letr g x (-1) = none := by
  unfold letr
  rw [if_neg (by omega)]
theorem rn_bnd {n a m j : Nat} {H : fl_H} (hs : rst H n a) (hj : j + 4 < 144) {x : Int} (hx0 : -1 ≤ x) (hx1 : x ≤ 100) (hg : 0 ≤ H 94 17 ∧ H 94 17 ≤ 100) : ck (cm_pg X xs) m cm_m228 [.index 94, fl_t (j : Int), fl_t x] H (fun r H' => wrc j (bnd (H 104) n (H 94 17) x a) H r H' ∧ rfr (j + 1) H H') := by
  have wj : ∀ d : Nat, d ≤ 8 → fl_w ((j : Int) + (d : Int)) = ((j + d : Nat) : Int) := fun d hd => by rw [fl_wi (by omega) (by omega)]; omega
  have w1 : fl_w ((j : Int) + 1) = ((j + 1 : Nat) : Int) := wj 1 (by omega)
  have w2 : fl_w ((j : Int) + 2) = ((j + 2 : Nat) : Int) := wj 2 (by omega)
  have w3 : fl_w ((j : Int) + 3) = ((j + 3 : Nat) : Int) := wj 3 (by omega)
  have w4 : fl_w ((j : Int) + 4) = ((j + 4 : Nat) : Int) := wj 4 (by omega)
  have wx : fl_w x = x := fl_wi (by omega) (by omega)
  have hb := bc_rg hs.2.2.2.2 a
  have wb : fl_w (bc (H 104) n a - 97) = bc (H 104) n a - 97 := fl_wi (by omega) (by omega)
  refine ve_GoodsBookModel_readBond_94 ?_
  rw [w1, w2, w3, w4, wx]
  simp only [Int.toNat_natCast]
  refine fun m hm => ck_mono (rn_next (X := X) (xs := xs) hs) (fun r H1 h => ⟨_, h.1, ?_⟩)
  have h2 := h.2
  clear h
  have f1 : rfr (j + 1) H H1 := by rw [h2]; exact rfr_at _
  have t1 : H1 94 14 = (nb (H 104) n a : Nat) := by rw [h2, fl_up_at]
  have q1 : H1 94 17 = H 94 17 := by rw [h2, fl_up_i _ _ _ _ (by decide)]
  have wg : fl_w (H 94 17 - 1) = H 94 17 - 1 := fl_wi (by omega) (by omega)
  rw [wb, q1, wg]
  unfold bnd
  by_cases hl : letr (H 94 17) x (bc (H 104) n a) = none
  · have p1 : tk (H 104) n a (letr (H 94 17) x) = .inl (nb (H 104) n a) := by unfold tk; rw [hl]
    have hno : wrc j (pb (tk (H 104) n a (letr (H 94 17) x)) fun y a => pb (tk (H 104) n a (one [111, 102, 101, 110, 118, 104])) fun k a => if k ≤ 2 then pb (tk (H 104) n a (one [43, 45])) fun s a => pb (num (H 104) n a 99) fun v a => .inr ([2, k, x, y, if s = 0 then v else -v], a) else .inr ([2, k, x, y, 0], a)) H (some 0) H1 := by
      simp only [pb, p1]
      exact ⟨rfl, t1⟩
    have hnl : ¬ (0 ≤ bc (H 104) n a - 97 ∧ bc (H 104) n a - 97 ≤ H 94 17 - 1 ∧ bc (H 104) n a - 97 < 6 ∧ ¬ bc (H 104) n a - 97 = x) := fun hc => by
      unfold letr at hl
      rw [if_pos hc] at hl
      simp at hl
    refine ⟨fun hq => ⟨fun _ => ⟨hno, f1⟩, fun h6 => ⟨fun _ => ⟨hno, f1⟩, fun hne => absurd ⟨hq.1, hq.2, by omega, hne⟩ hnl⟩⟩, fun _ => ⟨hno, f1⟩⟩
  · have hyes : 0 ≤ bc (H 104) n a - 97 ∧ bc (H 104) n a - 97 ≤ H 94 17 - 1 ∧ bc (H 104) n a - 97 < 6 ∧ ¬ bc (H 104) n a - 97 = x := by
      by_cases hc : 0 ≤ bc (H 104) n a - 97 ∧ bc (H 104) n a - 97 ≤ H 94 17 - 1 ∧ bc (H 104) n a - 97 < 6 ∧ ¬ bc (H 104) n a - 97 = x
      · exact hc
      · exfalso; apply hl; unfold letr; rw [if_neg hc]
    have hl' : letr (H 94 17) x (bc (H 104) n a) = some (bc (H 104) n a - 97) := by unfold letr; rw [if_pos hyes]
    have p1 : tk (H 104) n a (letr (H 94 17) x) = .inr (bc (H 104) n a - 97, nb (H 104) n a + 1) := by unfold tk; rw [hl']
    have l1 := tk_le (t := H 104) hs.2.2.1 (f := letr (H 94 17) x) (letr_n1 _ _)
    rw [p1] at l1
    generalize bc (H 104) n a - 97 = y at p1 hyes ⊢
    refine ⟨fun hq => ⟨fun h6 => by omega, fun h6 => ⟨fun he => absurd he hyes.2.2.2, fun hne H7 e7 m hm => ?_⟩⟩, fun hq => absurd ⟨hyes.1, hyes.2.1⟩ hq⟩
    rw [t1, nb_cast] at e7
    have f7 : rfr (j + 1) H H7 := by rw [e7]; exact rfr_trans f1 (rfr_at _) (Nat.le_refl _)
    have t7 : H7 94 14 = ((nb (H 104) n a + 1 : Nat) : Int) := by rw [e7, fl_up_at]
    have q7 : H7 94 17 = H 94 17 := by rw [e7, fl_up_i _ _ _ _ (by decide)]; exact q1
    have s7 := rst_k hs f7 t7 l1
    refine ck_mono (rn_next (X := X) (xs := xs) s7) (fun r H9 h => ⟨_, h.1, fun m hm => ?_⟩)
    have h9 := h.2
    clear h
    rw [rfr_t f7] at h9 ⊢
    have hb2 := bc_rg hs.2.2.2.2 (nb (H 104) n a + 1)
    refine ck_mono (rn_bond (X := X) (xs := xs) hb2.1 hb2.2) (fun r H12 g => ⟨_, g.1, ?_⟩)
    have g2 := g.2
    clear g
    subst g2
    have hle2 := nb_le (t := H 104) l1
    have f12 : rfr (j + 1) H H12 := by rw [h9]; exact rfr_trans f7 (rfr_at _) (Nat.le_refl _)
    have t12 : H12 94 14 = (nb (H 104) n (nb (H 104) n a + 1) : Nat) := by rw [h9, fl_up_at]
    have q12 : H12 94 17 = H 94 17 := by rw [h9, fl_up_i _ _ _ _ (by decide)]; exact q7
    have l2 := tk_le (t := H 104) l1 (f := one [111, 102, 101, 110, 118, 104]) rfl
    cases o2 : one [111, 102, 101, 110, 118, 104] (bc (H 104) n (nb (H 104) n a + 1)) with
    | none =>
      have p2 : tk (H 104) n (nb (H 104) n a + 1) (one [111, 102, 101, 110, 118, 104]) = .inl (nb (H 104) n (nb (H 104) n a + 1)) := by unfold tk; rw [o2]
      refine ⟨fun hq => absurd hq (show ¬ (0 : Int) ≤ fl_w (-1) by decide), fun _ => ?_⟩
      simp only [pb, p1, p2]
      exact ⟨⟨rfl, t12⟩, f12⟩
    | some k =>
      have p2 : tk (H 104) n (nb (H 104) n a + 1) (one [111, 102, 101, 110, 118, 104]) = .inr (k, nb (H 104) n (nb (H 104) n a + 1) + 1) := by unfold tk; rw [o2]
      rw [p2] at l2
      have hk := one_rg o2
      have hk : 0 ≤ k ∧ k < 6 := ⟨hk.1, by have := hk.2; simp at this; omega⟩
      show _ ∧ _
      rw [Option.getD_some, fl_wi (by omega) (by omega)]
      refine ⟨fun _ H16 e16 _ H18 e18 _ H21 e21 _ H24 e24 _ H27 e27 => ?_, fun hq => absurd hk.1 hq⟩
      rw [t12, nb_cast] at e16
      have f27 : rfr (j + 1) H H27 := by
        rw [e27, e24, e21, e18, e16]
        exact rfr_trans (rfr_trans (rfr_trans (rfr_trans (rfr_trans f12 (rfr_at _) (Nat.le_refl _)) (rfr_wr _ (by omega)) (Nat.le_refl _)) (rfr_wr _ (by omega)) (Nat.le_refl _)) (rfr_wr _ (by omega)) (Nat.le_refl _)) (rfr_wr _ (by omega)) (Nat.le_refl _)
      have t27 : H27 94 14 = ((nb (H 104) n (nb (H 104) n a + 1) + 1 : Nat) : Int) := by
        rw [e27, fl_up_c _ _ _ _ (by decide), e24, fl_up_c _ _ _ _ (by decide), e21, fl_up_c _ _ _ _ (by decide), e18, fl_up_c _ _ _ _ (by decide), e16, fl_up_at]
      have q27 : H27 94 17 = H 94 17 := by
        rw [e27, fl_up_c _ _ _ _ (by decide), e24, fl_up_c _ _ _ _ (by decide), e21, fl_up_c _ _ _ _ (by decide), e18, fl_up_c _ _ _ _ (by decide), e16, fl_up_i _ _ _ _ (by decide)]; exact q12
      have v1 : H27 105 (j + 1) = k := by
        rw [e27, fl_up_i _ _ _ _ (by omega), e24, fl_up_i _ _ _ _ (by omega), e21, fl_up_i _ _ _ _ (by omega), e18, fl_up_at]
      have v2 : H27 105 (j + 2) = x := by
        rw [e27, fl_up_i _ _ _ _ (by omega), e24, fl_up_i _ _ _ _ (by omega), e21, fl_up_at]
      have v3 : H27 105 (j + 3) = y := by
        rw [e27, fl_up_i _ _ _ _ (by omega), e24, fl_up_at]
      have v4 : H27 105 (j + 4) = 0 := by rw [e27, fl_up_at]
      refine ⟨fun h3 => ?_, fun h3 m hm => ?_⟩
      · simp only [pb, p1, p2]
        rw [if_neg (by omega)]
        refine ⟨⟨rfl, t27, fun i hi1 hi2 => ?_, by rw [q27]; exact (Int.add_zero _).symm⟩, f27⟩
        have hi2 : i < 5 := hi2
        match i, hi1, hi2 with
        | 1, _, _ => exact v1
        | 2, _, _ => exact v2
        | 3, _, _ => exact v3
        | 4, _, _ => exact v4
      · have s27 := rst_k hs f27 t27 l2
        generalize hA : nb (H 104) n (nb (H 104) n a + 1) + 1 = A at p2 l2 t27 s27
        refine ck_mono (rn_next (X := X) (xs := xs) s27) (fun r H31 h => ⟨_, h.1, ?_⟩)
        have h31 := h.2
        clear h
        rw [rfr_t f27] at h31 ⊢
        have hb3 := bc_rg hs.2.2.2.2 A
        rw [fl_wi (x := bc (H 104) n A) (by omega) (by omega)]
        have hle3 := nb_le (t := H 104) l2
        have f31 : rfr (j + 1) H H31 := by rw [h31]; exact rfr_trans f27 (rfr_at _) (Nat.le_refl _)
        have t31 : H31 94 14 = (nb (H 104) n A : Nat) := by rw [h31, fl_up_at]
        have q31 : H31 94 17 = H 94 17 := by rw [h31, fl_up_i _ _ _ _ (by decide)]; exact q27
        have x31 : ∀ i, H31 105 i = H27 105 i := fun i => by rw [h31, fl_up_c _ _ _ _ (by decide)]
        have l3 := tk_le (t := H 104) l2 (f := one [43, 45]) rfl
        -- behind the sign
        have fin : ∀ s : Int, tk (H 104) n A (one [43, 45]) = .inr (s, nb (H 104) n A + 1) → (s = 0 ∨ s = 1) → ∀ H35, H35 = fl_up H31 94 14 (H31 94 14 + 1) → ∀ m, ck (cm_pg X xs) m cm_m223 [.index 94, fl_t 99] H35 (fun r H37 => ∃ x39, r = some x39 ∧ ((0 ≤ fl_w x39 → ∀ H42, H42 = fl_up H37 105 (j + 4) (if s = 0 then x39 else -x39) → wrc j (pb (tk (H 104) n a (letr (H 94 17) x)) fun y a => pb (tk (H 104) n a (one [111, 102, 101, 110, 118, 104])) fun k a => if k ≤ 2 then pb (tk (H 104) n a (one [43, 45])) fun s a => pb (num (H 104) n a 99) fun v a => .inr ([2, k, x, y, if s = 0 then v else -v], a) else .inr ([2, k, x, y, 0], a)) H (some 1) H42 ∧ rfr (j + 1) H H42) ∧ (¬ 0 ≤ fl_w x39 → wrc j (pb (tk (H 104) n a (letr (H 94 17) x)) fun y a => pb (tk (H 104) n a (one [111, 102, 101, 110, 118, 104])) fun k a => if k ≤ 2 then pb (tk (H 104) n a (one [43, 45])) fun s a => pb (num (H 104) n a 99) fun v a => .inr ([2, k, x, y, if s = 0 then v else -v], a) else .inr ([2, k, x, y, 0], a)) H (some 0) H37 ∧ rfr (j + 1) H H37))) := by
          intro s p3 hs01 H35 e35 m
          rw [p3] at l3
          rw [t31, nb_cast] at e35
          have f35 : rfr (j + 1) H H35 := by rw [e35]; exact rfr_trans f31 (rfr_at _) (Nat.le_refl _)
          have t35 : H35 94 14 = ((nb (H 104) n A + 1 : Nat) : Int) := by rw [e35, fl_up_at]
          have q35 : H35 94 17 = H 94 17 := by rw [e35, fl_up_i _ _ _ _ (by decide)]; exact q31
          have x35 : ∀ i, H35 105 i = H27 105 i := fun i => by rw [e35, fl_up_c _ _ _ _ (by decide)]; exact x31 i
          have s35 := rst_k hs f35 t35 l3
          refine ck_mono (rn_num (X := X) (xs := xs) s35 (most := 99) (by omega) (by omega)) (fun r H37 h => ?_)
          rw [rfr_t f35] at h
          simp only [pb, p1, p2, p3]
          rw [if_pos (by omega)]
          cases o5 : num (H 104) n (nb (H 104) n A + 1) 99 with
          | inl p =>
            rw [o5] at h
            obtain ⟨e1, e2⟩ := h
            refine ⟨_, e1, fun hq => absurd hq (show ¬ (0 : Int) ≤ fl_w (-1) by decide), fun _ => ⟨⟨rfl, by rw [e2, fl_up_at]⟩, rfr_trans f35 (by rw [e2]; exact rfr_at _) (Nat.le_refl _)⟩⟩
          | inr q =>
            obtain ⟨v5, a5⟩ := q
            rw [o5] at h
            obtain ⟨e1, e2⟩ := h
            have hv5 := num_rg o5
            refine ⟨_, e1, fun _ H42 e42 => ?_, fun hq => ?_⟩
            · refine ⟨⟨rfl, by rw [e42, fl_up_c _ _ _ _ (by decide), e2, fl_up_at], fun i hi1 hi2 => ?_, by rw [e42, fl_up_c _ _ _ _ (by decide), e2, fl_up_i _ _ _ _ (by decide), q35]; exact (Int.add_zero _).symm⟩, rfr_trans f35 (rfr_trans (G := H37) (by rw [e2]; exact rfr_at _) (by rw [e42]; exact rfr_wr _ (by omega)) (Nat.le_refl _)) (Nat.le_refl _)⟩
              have hi2 : i < 5 := hi2
              match i, hi1, hi2 with
              | 1, _, _ => rw [e42, fl_up_i _ _ _ _ (by omega), e2, fl_up_c _ _ _ _ (by decide), x35]; exact v1
              | 2, _, _ => rw [e42, fl_up_i _ _ _ _ (by omega), e2, fl_up_c _ _ _ _ (by decide), x35]; exact v2
              | 3, _, _ => rw [e42, fl_up_i _ _ _ _ (by omega), e2, fl_up_c _ _ _ _ (by decide), x35]; exact v3
              | 4, _, _ => rw [e42, fl_up_at]; rfl
            · rw [fl_wi (by omega) (by omega)] at hq
              exact absurd hv5.1 hq
        refine ⟨fun h43 H35 e35 m hm => ?_, fun h43 => ⟨fun h45 H49 e49 m hm => ?_, fun h45 => ?_⟩⟩
        · have p3 : tk (H 104) n A (one [43, 45]) = .inr (0, nb (H 104) n A + 1) := by
            unfold tk one ixf
            rw [if_pos h43.symm]
          refine ck_mono (fin 0 p3 (Or.inl rfl) H35 e35 m) (fun r H37 h => ?_)
          obtain ⟨x39, h1, h2, h3⟩ := h
          exact ⟨x39, h1, fun g => ⟨fun _ _ H42 e42 => h2 g H42 e42, fun g' => absurd h43 g'⟩, fun g => h3 g⟩
        · have p3 : tk (H 104) n A (one [43, 45]) = .inr (1, nb (H 104) n A + 1) := by
            unfold tk one ixf ixf
            rw [if_neg (fun h => h43 h.symm), if_pos h45.symm]
            rfl
          refine ck_mono (fin 1 p3 (Or.inr rfl) H49 e49 m) (fun r H37 h => ?_)
          obtain ⟨x39, h1, h2, h3⟩ := h
          exact ⟨x39, h1, fun g => ⟨fun g' => absurd g' h43, fun _ _ H42 e42 => h2 g H42 e42⟩, fun g => h3 g⟩
        · have p3 : tk (H 104) n A (one [43, 45]) = .inl (nb (H 104) n A) := by
            unfold tk one ixf ixf ixf
            rw [if_neg (fun h => h43 h.symm), if_neg (fun h => h45 h.symm)]
          simp only [pb, p1, p2, p3]
          rw [if_pos (by omega)]
          exact ⟨⟨rfl, t31⟩, f31⟩
/-- a clause written down from j on -/
def wrk (j : Nat) (o : PR (List Int)) (H : fl_H) (r : Option Int) (H' : fl_H) : Prop := match o with
  | .inr (e, a) => r = some 1 ∧ H' 94 14 = (a : Int) ∧ (∀ i, i < e.length → H' 105 (j + i) = e.getD i 0) ∧ H' 94 17 = H 94 17 + isg e
  | .inl p => r = some 0 ∧ H' 94 14 = (p : Int)
theorem bnd_hd {t : Nat → Int} {n : Nat} {g x : Int} {a b : Nat} {e : List Int} (h : bnd t n g x a = .inr (e, b)) : e.getD 0 0 = 2 := by
  unfold bnd at h
  cases o1 : tk t n a (letr g x) with
  | inl p => rw [o1] at h; simp [pb] at h
  | inr q =>
    rw [o1] at h
    simp only [pb] at h
    split at h
    · simp at h
    · split at h
      · split at h
        · simp at h
        · split at h
          · simp at h
          · simp only [Sum.inr.injEq, Prod.mk.injEq] at h
            rw [← h.1]; rfl
      · simp only [Sum.inr.injEq, Prod.mk.injEq] at h
        rw [← h.1]; rfl
theorem gds_hd {t : Nat → Int} {n : Nat} {a b : Nat} {e : List Int} (h : gds t n a = .inr (e, b)) : e.getD 0 0 = 1 := by
  unfold gds at h
  simp only [pb] at h
  split at h
  · simp at h
  · split at h
    · simp at h
    · split at h
      · simp at h
      · split at h
        · simp at h
        · split at h
          · simp at h
          · simp only [Sum.inr.injEq, Prod.mk.injEq] at h
            rw [← h.1]; rfl
theorem rn_clause {n a m j : Nat} {H : fl_H} (hs : rst H n a) (hj : j + 8 < 144) (hg : 0 ≤ H 94 17 ∧ H 94 17 ≤ 100) : ck (cm_pg X xs) m cm_m229 [.index 94, fl_t (j : Int)] H (fun r H' => wrk j (cla (H 104) n (H 94 17) a) H r H' ∧ rfr j H H') := by
  have w0 : fl_w (j : Int) = (j : Int) := fl_wi (by omega) (by omega)
  have w1 : fl_w ((j : Int) + 1) = ((j + 1 : Nat) : Int) := by rw [fl_wi (by omega) (by omega)]; omega
  have hb := bc_rg hs.2.2.2.2 a
  have wb : fl_w (bc (H 104) n a - 97) = bc (H 104) n a - 97 := fl_wi (by omega) (by omega)
  refine ve_GoodsBookModel_readClause_94 ?_
  rw [w0, w1]
  simp only [Int.toNat_natCast]
  refine fun m hm => ck_mono (rn_next (X := X) (xs := xs) hs) (fun r H1 h => ⟨_, h.1, ?_⟩)
  have h2 := h.2
  clear h
  have f1 : rfr j H H1 := by rw [h2]; exact rfr_at _
  have t1 : H1 94 14 = (nb (H 104) n a : Nat) := by rw [h2, fl_up_at]
  have q1 : H1 94 17 = H 94 17 := by rw [h2, fl_up_i _ _ _ _ (by decide)]
  have wg : fl_w (H 94 17 - 1) = H 94 17 - 1 := fl_wi (by omega) (by omega)
  have hle := nb_le (t := H 104) hs.2.2.1
  have wbc : fl_w (bc (H 104) n a) = bc (H 104) n a := fl_wi (by omega) (by omega)
  rw [wb, q1, wg, wbc]
  unfold cla
  have hlt : ∀ c : Int, bc (H 104) n a = c → 0 ≤ c → nb (H 104) n a < n := fun c hc h0 => by
    by_cases hq : nb (H 104) n a < n
    · exact hq
    · have e : bc (H 104) n a = -1 := if_neg hq
      omega
  refine ⟨fun hp H5 e5 _ H7 e7 m hm => ?_, fun hp => ⟨fun hgd H19 e19 _ H21 e21 m hm => ?_, fun hgd => ?_⟩⟩
  · rw [if_pos hp]
    have hlt := hlt 112 hp (by omega)
    rw [t1, nb_cast] at e5
    have f7 : rfr j H H7 := by rw [e7, e5]; exact rfr_trans (rfr_trans f1 (rfr_at _) (Nat.le_refl _)) (rfr_wr _ (Nat.le_refl _)) (Nat.le_refl _)
    have t7 : H7 94 14 = ((nb (H 104) n a + 1 : Nat) : Int) := by rw [e7, fl_up_c _ _ _ _ (by decide), e5, fl_up_at]
    have q7 : H7 94 17 = H 94 17 := by rw [e7, fl_up_c _ _ _ _ (by decide), e5, fl_up_i _ _ _ _ (by decide)]; exact q1
    have v7 : H7 105 j = 0 := by rw [e7, fl_up_at]
    have s7 := rst_k hs f7 t7 (by omega)
    refine ck_mono (rn_num (X := X) (xs := xs) s7 (most := 60) (by omega) (by omega)) (fun r H10 h => ?_)
    rw [rfr_t f7] at h
    cases o5 : num (H 104) n (nb (H 104) n a + 1) 60 with
    | inl p =>
      rw [o5] at h
      obtain ⟨e1, e2⟩ := h
      refine ⟨_, e1, fun _ H13 e13 _ => ⟨fun _ => ?_, fun hq => ?_⟩⟩
      · simp only [pb]
        exact ⟨⟨rfl, by rw [e13, fl_up_c _ _ _ _ (by decide), e2, fl_up_at]⟩, rfr_trans f7 (rfr_trans (G := H10) (by rw [e2]; exact rfr_at _) (by rw [e13]; exact rfr_wr _ (Nat.le_succ _)) (Nat.le_refl _)) (Nat.le_refl _)⟩
      · rw [e13, fl_up_at] at hq
        exact absurd (show fl_w (-1) < 0 by decide) hq
    | inr q =>
      obtain ⟨v5, a5⟩ := q
      rw [o5] at h
      obtain ⟨e1, e2⟩ := h
      have hv5 := num_rg o5
      refine ⟨_, e1, fun _ H13 e13 _ => ⟨fun hq => ?_, fun _ => ?_⟩⟩
      · rw [e13, fl_up_at, fl_wi (by omega) (by omega)] at hq
        omega
      · simp only [pb]
        refine ⟨⟨rfl, by rw [e13, fl_up_c _ _ _ _ (by decide), e2, fl_up_at], fun i hi => ?_, by rw [e13, fl_up_c _ _ _ _ (by decide), e2, fl_up_i _ _ _ _ (by decide), q7]; exact (Int.add_zero _).symm⟩, rfr_trans f7 (rfr_trans (G := H10) (by rw [e2]; exact rfr_at _) (by rw [e13]; exact rfr_wr _ (Nat.le_succ _)) (Nat.le_refl _)) (Nat.le_refl _)⟩
        have hi : i < 2 := hi
        match i, hi with
        | 0, _ => rw [e13, fl_up_i _ _ _ _ (by omega), e2, fl_up_c _ _ _ _ (by decide)]; exact v7
        | 1, _ => rw [e13, fl_up_at]; rfl
  · rw [if_neg hp, if_pos hgd]
    have hlt := hlt 103 hgd (by omega)
    rw [t1, nb_cast] at e19
    have f7 : rfr j H H21 := by rw [e21, e19]; exact rfr_trans (rfr_trans f1 (rfr_at _) (Nat.le_refl _)) (rfr_wr _ (Nat.le_refl _)) (Nat.le_refl _)
    have t7 : H21 94 14 = ((nb (H 104) n a + 1 : Nat) : Int) := by rw [e21, fl_up_c _ _ _ _ (by decide), e19, fl_up_at]
    have q7 : H21 94 17 = H 94 17 := by rw [e21, fl_up_c _ _ _ _ (by decide), e19, fl_up_i _ _ _ _ (by decide)]; exact q1
    have v7 : H21 105 j = 1 := by rw [e21, fl_up_at]
    have s7 := rst_k hs f7 t7 (by omega)
    refine ck_mono (rn_good (X := X) (xs := xs) s7 hj (by rw [q7]; exact hg)) (fun r H24 h => ?_)
    rw [rfr_t f7] at h
    obtain ⟨h, f24⟩ := h
    cases o5 : gds (H 104) n (nb (H 104) n a + 1) with
    | inl p =>
      rw [o5] at h
      obtain ⟨e1, e2⟩ := h
      exact ⟨_, e1, ⟨rfl, e2⟩, rfr_trans f7 f24 (by omega)⟩
    | inr q =>
      obtain ⟨ev, a5⟩ := q
      rw [o5] at h
      obtain ⟨e1, e2, e3, e4⟩ := h
      refine ⟨_, e1, ⟨rfl, e2, fun i hi => ?_, by rw [e4, q7]⟩, rfr_trans f7 f24 (by omega)⟩
      cases i with
      | zero => rw [gds_hd o5]; exact (f24 105 j (fun hc => absurd hc (by decide)) (fun _ => by omega)).trans v7
      | succ i => exact e3 _ (by omega) hi
  · rw [if_neg hp, if_neg hgd]
    by_cases hl : letr (H 94 17) (-1) (bc (H 104) n a) = none
    · have p1 : tk (H 104) n a (letr (H 94 17) (-1)) = .inl (nb (H 104) n a) := by unfold tk; rw [hl]
      have hno : wrk j (pb (tk (H 104) n a (letr (H 94 17) (-1))) fun x a => bnd (H 104) n (H 94 17) x a) H (some 0) H1 := by
        simp only [pb, p1]
        exact ⟨rfl, t1⟩
      have hnl : ¬ (0 ≤ bc (H 104) n a - 97 ∧ bc (H 104) n a - 97 ≤ H 94 17 - 1 ∧ bc (H 104) n a - 97 < 6 ∧ ¬ bc (H 104) n a - 97 = -1) := fun hc => by
        unfold letr at hl
        rw [if_pos hc] at hl
        simp at hl
      exact ⟨fun hq => ⟨fun h6 => absurd ⟨hq.1, hq.2, h6, by omega⟩ hnl, fun _ => ⟨hno, f1⟩⟩, fun _ => ⟨hno, f1⟩⟩
    · have hyes : 0 ≤ bc (H 104) n a - 97 ∧ bc (H 104) n a - 97 ≤ H 94 17 - 1 ∧ bc (H 104) n a - 97 < 6 ∧ ¬ bc (H 104) n a - 97 = -1 := by
        by_cases hc : 0 ≤ bc (H 104) n a - 97 ∧ bc (H 104) n a - 97 ≤ H 94 17 - 1 ∧ bc (H 104) n a - 97 < 6 ∧ ¬ bc (H 104) n a - 97 = -1
        · exact hc
        · exfalso; apply hl; unfold letr; rw [if_neg hc]
      have hl' : letr (H 94 17) (-1) (bc (H 104) n a) = some (bc (H 104) n a - 97) := by unfold letr; rw [if_pos hyes]
      have p1 : tk (H 104) n a (letr (H 94 17) (-1)) = .inr (bc (H 104) n a - 97, nb (H 104) n a + 1) := by unfold tk; rw [hl']
      have l1 := tk_le (t := H 104) hs.2.2.1 (f := letr (H 94 17) (-1)) (letr_n1 _ _)
      rw [p1] at l1
      generalize bc (H 104) n a - 97 = y at p1 hyes ⊢
      refine ⟨fun hq => ⟨fun h6 H29 e29 _ H31 e31 m hm => ?_, fun h6 => absurd hyes.2.2.1 h6⟩, fun hq => absurd ⟨hyes.1, hyes.2.1⟩ hq⟩
      rw [t1, nb_cast] at e29
      have f7 : rfr j H H31 := by rw [e31, e29]; exact rfr_trans (rfr_trans f1 (rfr_at _) (Nat.le_refl _)) (rfr_wr _ (Nat.le_refl _)) (Nat.le_refl _)
      have t7 : H31 94 14 = ((nb (H 104) n a + 1 : Nat) : Int) := by rw [e31, fl_up_c _ _ _ _ (by decide), e29, fl_up_at]
      have q7 : H31 94 17 = H 94 17 := by rw [e31, fl_up_c _ _ _ _ (by decide), e29, fl_up_i _ _ _ _ (by decide)]; exact q1
      have v7 : H31 105 j = 2 := by rw [e31, fl_up_at]
      have s7 := rst_k hs f7 t7 l1
      refine ck_mono (rn_bnd (X := X) (xs := xs) s7 (by omega) (x := y) (by omega) (by omega) (by rw [q7]; exact hg)) (fun r H34 h => ?_)
      rw [rfr_t f7, q7] at h
      obtain ⟨h, f24⟩ := h
      simp only [pb, p1]
      cases o5 : bnd (H 104) n (H 94 17) y (nb (H 104) n a + 1) with
      | inl p =>
        rw [o5] at h
        obtain ⟨e1, e2⟩ := h
        exact ⟨_, e1, ⟨rfl, e2⟩, rfr_trans f7 f24 (by omega)⟩
      | inr q =>
        obtain ⟨ev, a5⟩ := q
        rw [o5] at h
        obtain ⟨e1, e2, e3, e4⟩ := h
        refine ⟨_, e1, ⟨rfl, e2, fun i hi => ?_, by rw [e4, q7]⟩, rfr_trans f7 f24 (by omega)⟩
        cases i with
        | zero => rw [bnd_hd o5]; exact (f24 105 j (fun hc => absurd hc (by decide)) (fun _ => by omega)).trans v7
        | succ i => exact e3 _ (by omega) hi
end
end
