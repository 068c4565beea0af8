noncomputable section
/-! L3, GOING THROUGH PLANS: no completion comes to more than what is hoped for. -/
theorem psm_one (v : Int) {g : Nat} : ∀ {n : Nat}, g < n → psm (fun k => if k = g then v else 0) n = v
  | 0, h => absurd h (by omega)
  | n + 1, h => by
    show psm (fun k => if k = g then v else 0) n + (if n = g then v else 0) = v
    by_cases e : n = g
    · rw [if_pos e, psm_zero (fun i hi => by (try dsimp only); rw [if_neg (by omega)])]; omega
    · rw [if_neg e, psm_one v (n := n) (by omega)]; omega
theorem psm_split (f : Nat → Int) (d : Nat) : ∀ e : Nat, psm f (d + e) = psm f d + psm (fun i => f (d + i)) e
  | 0 => by show psm f d = psm f d + 0; omega
  | e + 1 => by
    show psm f (d + e) + f (d + e) = psm f d + (psm (fun i => f (d + i)) e + f (d + e))
    rw [psm_split f d e]
    omega
theorem psm_int : ∀ b : Nat, b < 7 → ∀ a : Nat, a < 7 → a ≤ b → psm (fun k => if a ≤ k ∧ k < b then 1 else 0) 6 = (b : Int) - (a : Int) := by decide +kernel
theorem td_nat (a b : Nat) : Int.tdiv (a : Int) (b : Int) = ((a / b : Nat) : Int) := rfl
theorem td_anti {A a b : Int} (hA : 0 ≤ A) (ha : 0 < a) (hab : a ≤ b) : A.tdiv b ≤ A.tdiv a := by
  obtain ⟨n, rfl⟩ : ∃ n : Nat, A = (n : Int) := ⟨A.toNat, by omega⟩
  obtain ⟨x, rfl⟩ : ∃ x : Nat, a = (x : Int) := ⟨a.toNat, by omega⟩
  obtain ⟨y, rfl⟩ : ∃ y : Nat, b = (y : Int) := ⟨b.toNat, by omega⟩
  rw [td_nat, td_nat]
  have := Nat.div_le_div_left (a := n) (show x ≤ y by omega) (show 0 < x by omega)
  omega
theorem td_self {A : Int} (hA : 0 ≤ A) (b : Int) : A.tdiv b ≤ A := Int.tdiv_le_self (b := b) hA
/-- a plan s that goes on from r, decided below d -/
def cpl (z : Nat → Int) (d : Nat) (r s : Nat → Nat) : Prop := rk z r ∧ rk z s ∧ (∀ k, d ≤ k → r k = 0) ∧ (∀ k, k < d → s k = r k) ∧ d ≤ (z 1).toNat
theorem cpl_bd {z : Nat → Int} {d : Nat} {r s : Nat → Nat} (h : cpl z d r s) {k : Nat} (hd : d ≤ k) (hs : s k ≠ 0) : k < (z 1).toNat ∧ k < 6 := by
  have k6 : k < 6 := by
    by_cases e : k < 6
    · exact e
    · exact absurd (h.2.1.2 k (by omega)) hs
  exact ⟨by have := rok_in h.2.1.1 k6 hs; omega, k6⟩
theorem cp_ncr {z : Nat → Int} {d : Nat} {r s : Nat → Nat} (hw : wf z) (h : cpl z d r s) (p : Nat) : ncr r p ≤ ncr s p ∧ ncr s p ≤ ncr r p + (((z 1).toNat - d : Nat) : Int) := by
  have g6 := hw.1.2.2.2.1
  have h5 := h.2.2.2.2
  constructor
  · refine psm_le (fun k hk => ?_)
    (try dsimp only)
    by_cases e : k < d
    · rw [h.2.2.2.1 k e]; exact Int.le_refl _
    · rw [h.2.2.1 k (by omega), fcr_0]
      unfold fcr
      by_cases c : s k ≠ 0 ∧ pgn (s k) = p
      · rw [if_pos c]; omega
      · rw [if_neg c]; omega
  · have e1 : ncr r p + (((z 1).toNat - d : Nat) : Int) = psm (fun k => fcr p k (r k) + (if d ≤ k ∧ k < (z 1).toNat then 1 else 0)) 6 := by
      rw [psm_add, psm_int (z 1).toNat (by omega) d (by omega) h5]
      unfold ncr
      omega
    rw [e1]
    refine psm_le (fun k hk => ?_)
    (try dsimp only)
    by_cases e : k < d
    · rw [h.2.2.2.1 k e, if_neg (by omega)]; omega
    · rw [h.2.2.1 k (by omega), fcr_0]
      unfold fcr
      by_cases c : s k ≠ 0 ∧ pgn (s k) = p
      · rw [if_pos c, if_pos ⟨by omega, (cpl_bd h (by omega) c.1).1⟩]; omega
      · rw [if_neg c]
        by_cases c2 : d ≤ k ∧ k < (z 1).toNat
        · rw [if_pos c2]; omega
        · rw [if_neg c2]; omega
theorem cp_nri {z : Nat → Int} {d : Nat} {r s : Nat → Nat} (h : cpl z d r s) (f : Int) : nri z r f ≤ nri z s f ∧ ∀ g, d ≤ g → s g ≠ 0 → zknd z g = 2 → zfam z g = f → nri z r f + 1 ≤ nri z s f := by
  have key : ∀ k, k < 6 → fri z f k (r k) ≤ fri z f k (s k) := fun k hk => by
    by_cases e : k < d
    · rw [h.2.2.2.1 k e]; exact Int.le_refl _
    · rw [h.2.2.1 k (by omega), fri_0]
      unfold fri
      by_cases c : s k ≠ 0 ∧ zknd z k = 2 ∧ zfam z k = f
      · rw [if_pos c]; omega
      · rw [if_neg c]; omega
  refine ⟨psm_le key, fun g hg hs hk hf => ?_⟩
  have g6 := (cpl_bd h hg hs).2
  have e1 : nri z r f + 1 = psm (fun k => fri z f k (r k) + (if k = g then 1 else 0)) 6 := by
    rw [psm_add, psm_one 1 g6]; rfl
  rw [e1]
  refine psm_le (fun k hk' => ?_)
  (try dsimp only)
  by_cases e : k = g
  · rw [if_pos e, e, h.2.2.1 g hg, fri_0]
    unfold fri
    rw [if_pos ⟨hs, hk, hf⟩]; omega
  · rw [if_neg e]
    have := key k hk'
    omega
theorem zop_psm {z : Nat → Int} (G : Nat) (hG : G ≤ 6) : ∀ o, o ≤ G → zop z G o = psm (fun k => if G - o ≤ k ∧ k < G then zmx z k else 0) 6
  | 0, _ => (psm_zero (fun i _ => by (try dsimp only); rw [if_neg (by omega)])).symm
  | o + 1, h => by
    show zop z G o + zmx z (G - (o + 1)) = _
    rw [zop_psm G hG o (by omega), ← psm_one (zmx z (G - (o + 1))) (g := G - (o + 1)) (n := 6) (by omega), ← psm_add]
    refine psm_congr (fun k hk => ?_)
    (try dsimp only)
    by_cases e : k = G - (o + 1)
    · rw [if_pos e, if_neg (by omega), if_pos (by omega), e]; omega
    · rw [if_neg e]
      by_cases c : G - o ≤ k ∧ k < G
      · rw [if_pos c, if_pos (by omega)]; omega
      · rw [if_neg c, if_neg (by omega)]; rfl
theorem are_mx {z : Nat → Int} (g : Nat) {s : Nat} (hs : s < 2) : zare z g s ≤ zmx z g := by
  unfold zmx
  have : s = 0 ∨ s = 1 := by omega
  rcases this with rfl | rfl
  · omega
  · omega
theorem cp_nfi {z : Nat → Int} {d : Nat} {r s : Nat → Nat} (hw : wf z) (h : cpl z d r s) (p : Nat) : nfi z r p ≤ nfi z s p ∧ nfi z s p ≤ nfi z r p + zop z (z 1).toNat ((z 1).toNat - d) ∧ ∀ g, d ≤ g → s g ≠ 0 → pgn (s g) = p → nfi z r p + zare z g (szn (s g)) ≤ nfi z s p := by
  have g6 := hw.1.2.2.2.1
  have h5 := h.2.2.2.2
  have key : ∀ k, k < 6 → ffi z p k (r k) ≤ ffi z p k (s k) := fun k hk => by
    by_cases e : k < d
    · rw [h.2.2.2.1 k e]; exact Int.le_refl _
    · rw [h.2.2.1 k (by omega), ffi_0]
      unfold ffi
      by_cases c : s k ≠ 0 ∧ pgn (s k) = p
      · rw [if_pos c]
        have := wf_are hw (rok_in h.2.1.1 hk c.1) (szn_lt (s k))
        omega
      · rw [if_neg c]; omega
  refine ⟨psm_le key, ?_, fun g hg hs hp => ?_⟩
  · rw [zop_psm _ (by omega) _ (by omega)]
    have e1 : nfi z r p + psm (fun k => if (z 1).toNat - ((z 1).toNat - d) ≤ k ∧ k < (z 1).toNat then zmx z k else 0) 6 = psm (fun k => ffi z p k (r k) + (if (z 1).toNat - ((z 1).toNat - d) ≤ k ∧ k < (z 1).toNat then zmx z k else 0)) 6 := by
      rw [psm_add]; rfl
    rw [e1]
    refine psm_le (fun k hk => ?_)
    (try dsimp only)
    by_cases e : k < d
    · rw [h.2.2.2.1 k e, if_neg (by omega)]; omega
    · rw [h.2.2.1 k (by omega), ffi_0]
      unfold ffi
      by_cases c : s k ≠ 0 ∧ pgn (s k) = p
      · rw [if_pos c, if_pos ⟨by omega, (cpl_bd h (by omega) c.1).1⟩]
        have := are_mx (z := z) k (szn_lt (s k))
        omega
      · rw [if_neg c]
        by_cases c2 : (z 1).toNat - ((z 1).toNat - d) ≤ k ∧ k < (z 1).toNat
        · rw [if_pos c2]
          have := zmx_bd hw (g := k) (by omega)
          omega
        · rw [if_neg c2]; omega
  · have gg := cpl_bd h hg hs
    have e1 : nfi z r p + zare z g (szn (s g)) = psm (fun k => ffi z p k (r k) + (if k = g then zare z g (szn (s g)) else 0)) 6 := by
      rw [psm_add, psm_one _ gg.2]; rfl
    rw [e1]
    refine psm_le (fun k hk' => ?_)
    (try dsimp only)
    by_cases e : k = g
    · rw [if_pos e, e, h.2.2.1 g hg, ffi_0]
      unfold ffi
      rw [if_pos ⟨hs, hp⟩]; omega
    · rw [if_neg e]
      have := key k hk'
      omega
/-- what lies on a page has room -/
theorem fit_area {z : Nat → Int} {s : Nat → Nat} {p : Nat} (hw : wf z) (h : rok z s) (hf : zfit z (zcn s p)) : nfi z s p ≤ 16 := by
  have k := (zfit_iff hw (zcn_zcd h p)).mp hf
  have e : mar (zA z (zcn s p)) (zM (zcn s p)) 6 = nfi z s p := psm_congr (fun g hg => by
    have d := zcn_dig s p hg
    unfold ffi
    by_cases c : s g ≠ 0 ∧ pgn (s g) = p
    · have e1 : ndg s p g = szn (s g) + 1 := if_pos c
      rw [if_pos c, if_pos (zM_t.mpr (by omega))]
      unfold zA
      rw [d, e1]; rfl
    · have e1 : ndg s p g = 0 := if_neg c
      rw [if_neg c, if_neg (fun q => zM_t.mp q (by omega))])
  omega
theorem cp_sh {z : Nat → Int} {d g : Nat} {r s : Nat → Nat} (hw : wf z) (h : cpl z d r s) (hg : g < d) (hr : r g ≠ 0) : zsh z s g 0 ≤ zsh z r g ((z 1).toNat - d) := by
  have e : s g = r g := h.2.2.2.1 g hg
  have g1 : g < (z 1).toNat := by have := h.2.2.2.2; omega
  have z6 := hw.1.2.2.2.1
  have g6 : g < 6 := by omega
  have epl : zpl z s g = zpl z r g := by unfold zpl; rw [e]
  obtain ⟨l1, l2⟩ := zpl_bd hw h.1.1 g6 hr
  have c1 := cp_ncr hw h (pgn (r g))
  have c2 := (cp_nri h (zfam z g)).1
  have c3 := cp_nfi hw h (pgn (r g))
  have n1 := nri_bd z r (zfam z g)
  have v := wf_vw hw (rok_pg hw h.1.1 g6 hr).2.1
  have l4 := hw.2.1.2.1
  unfold zsh
  rw [epl, e]
  by_cases k1 : zknd z g = 1
  · rw [if_pos k1, if_pos k1]
    have := Int.mul_le_mul_of_nonneg_left (show ncr s (pgn (r g)) - 1 + ((0 : Nat) : Int) ≤ ncr r (pgn (r g)) - 1 + (((z 1).toNat - d : Nat) : Int) by omega) (Int.mul_nonneg l4.1 v.1)
    omega
  · rw [if_neg k1, if_neg k1]
    by_cases k2 : zknd z g = 2
    · rw [if_pos k2, if_pos k2]
      by_cases q1 : 1 < nri z r (zfam z g)
      · rw [if_pos q1, if_pos (by omega)]
        exact td_anti l1 (by omega) c2
      · rw [if_neg q1]
        by_cases q2 : 1 < nri z s (zfam z g)
        · rw [if_pos q2]; exact td_self l1 _
        · rw [if_neg q2]; exact Int.le_refl _
    · rw [if_neg k2, if_neg k2]
      by_cases k3 : zknd z g = 3
      · rw [if_pos k3, if_pos k3]
        have z0 : zop z (z 1).toNat 0 = 0 := rfl
        by_cases q2 : nfi z s (pgn (r g)) ≤ 16 ∧ 16 ≤ nfi z s (pgn (r g)) + zop z (z 1).toNat 0
        · rw [if_pos q2, if_pos (by omega)]; exact Int.le_refl _
        · rw [if_neg q2]
          by_cases q1 : nfi z r (pgn (r g)) ≤ 16 ∧ 16 ≤ nfi z r (pgn (r g)) + zop z (z 1).toNat ((z 1).toNat - d)
          · rw [if_pos q1]; omega
          · rw [if_neg q1]; exact Int.le_refl _
      · rw [if_neg k3, if_neg k3]; exact Int.le_refl _
theorem zmp_ge {z : Nat → Int} {r : Nat → Nat} {g o p s : Nat} (hs : s < 2) (hf : nfi z r p + zare z g s ≤ 16) : ∀ n, p < n → zmv z r g o p s ≤ zmp z r g o n
  | 0, h => absurd h (by omega)
  | n + 1, h => by
    have mono : ∀ q t (x : Int), x ≤ zms z r g o q t x := fun q t x => by
      unfold zms
      by_cases c : nfi z r q + zare z g t ≤ 16
      · rw [if_pos c]; omega
      · rw [if_neg c]; exact Int.le_refl _
    have at' : ∀ (x : Int), zmv z r g o p s ≤ zms z r g o p s x := fun x => by
      unfold zms
      rw [if_pos hf]; omega
    show zmv z r g o p s ≤ zms z r g o n 1 (zms z r g o n 0 (zmp z r g o n))
    by_cases e : p = n
    · subst e
      have : s = 0 ∨ s = 1 := by omega
      rcases this with rfl | rfl
      · exact Int.le_trans (at' _) (mono _ _ _)
      · exact at' _
    · have ih := zmp_ge (z := z) (r := r) (g := g) (o := o) (p := p) hs hf n (by omega)
      exact Int.le_trans ih (Int.le_trans (mono _ _ _) (mono _ _ _))
theorem cp_mo {z : Nat → Int} {d g : Nat} {r s : Nat → Nat} (hw : wf z) (h : cpl z d r s) (hso : ∀ p : Nat, (p : Int) < z 0 → zfit z (zcn s p)) (hg : d ≤ g) (hs : s g ≠ 0) : zsh z s g 0 ≤ zmo z r g ((z 1).toNat - d) := by
  obtain ⟨gG, g6⟩ := cpl_bd h hg hs
  obtain ⟨p1, p2, p3⟩ := rok_pg hw h.2.1.1 g6 hs
  have c1 := cp_ncr hw h (pgn (s g))
  have c2 := (cp_nri h (zfam z g)).2 g hg hs
  have c3 := (cp_nfi hw h (pgn (s g))).2.2 g hg hs rfl
  have fa := fit_area hw h.2.1.1 (hso _ p1)
  have n1 := nri_bd z r (zfam z g)
  obtain ⟨l1, l2⟩ := zpl_bd hw h.2.1.1 g6 hs
  have v := wf_vw hw p2
  have l4 := hw.2.1.2.1
  refine Int.le_trans ?_ (zmp_ge (p := pgn (s g)) (szn_lt (s g)) (by omega) (z 0).toNat (by omega))
  have kd := (wf_knd hw (g := g) (by omega)).1
  unfold zsh zmv
  have epl : zsal z g (szn (s g)) * zvw z (pgn (s g)) = zpl z s g := rfl
  by_cases k1 : zknd z g = 1
  · rw [if_pos k1, if_neg (show ¬ zknd z g = 3 by omega), if_pos k1, if_neg (show ¬ zknd z g = 2 by omega), Int.tdiv_one, Int.add_mul, Int.one_mul, epl, Int.mul_right_comm]
    have := Int.mul_le_mul_of_nonneg_right (show ncr s (pgn (s g)) - 1 + ((0 : Nat) : Int) ≤ ncr r (pgn (s g)) + (((z 1).toNat - d : Nat) : Int) - 1 by omega) (show 0 ≤ zvw z (pgn (s g)) from v.1)
    have := Int.mul_le_mul_of_nonneg_left this l4.1
    rw [Int.mul_assoc, Int.mul_assoc]
    omega
  · rw [if_neg k1, if_neg k1, Int.zero_mul, Int.add_zero]
    by_cases k2 : zknd z g = 2
    · have c2 := c2 k2 rfl
      rw [if_pos k2, if_neg (show ¬ zknd z g = 3 by omega), if_pos k2, Int.one_mul, epl]
      by_cases q2 : 1 < nri z s (zfam z g)
      · rw [if_pos q2]
        exact td_anti l1 (by omega) (by omega)
      · rw [if_neg q2]
        have e1 : max (1 + nri z r (zfam z g)) 1 = 1 := by omega
        rw [e1, Int.tdiv_one]; exact Int.le_refl _
    · rw [if_neg k2, if_neg k2, Int.tdiv_one]
      by_cases k3 : zknd z g = 3
      · rw [if_pos k3, if_pos k3, Int.mul_assoc, epl]
        by_cases q : nfi z s (pgn (s g)) ≤ 16 ∧ 16 ≤ nfi z s (pgn (s g)) + zop z (z 1).toNat 0
        · rw [if_pos q]; exact Int.le_refl _
        · rw [if_neg q]; omega
      · rw [if_neg k3, if_neg k3, Int.one_mul, epl]; exact Int.le_refl _
theorem cp_us {z : Nat → Int} {d : Nat} {r s : Nat → Nat} (hw : wf z) (h : cpl z d r s) : 0 ≤ zus z r ∧ zus z r ≤ zus z s := by
  refine ⟨(psm_bd (M := 1) (fun i _ => ?_)).1, psm_le (fun p _ => ?_)⟩
  · (try dsimp only)
    by_cases c : 0 < ncr r i
    · rw [if_pos c]; omega
    · rw [if_neg c]; omega
  · have := (cp_ncr hw h p).1
    (try dsimp only)
    by_cases c : 0 < ncr r p
    · rw [if_pos c, if_pos (by omega)]; omega
    · rw [if_neg c]
      by_cases c2 : 0 < ncr s p
      · rw [if_pos c2]; omega
      · rw [if_neg c2]; omega
/-- no completion brings more -/
theorem cp_br {z : Nat → Int} {d : Nat} {r s : Nat → Nat} (hw : wf z) (h : cpl z d r s) (hso : ∀ p : Nat, (p : Int) < z 0 → zfit z (zcn s p)) : zbr z s (z 1).toNat ≤ zbr z r d + zho z r d := by
  have h5 := h.2.2.2.2
  obtain ⟨u1, u2⟩ := cp_us hw h
  have l5 := hw.2.1.2.2.1
  have l6 := hw.2.1.2.2.2.1
  -- costs
  have cost : zus z r * z 5 + (zus z r + 1).tdiv 2 * z 6 ≤ zus z s * z 5 + (zus z s + 1).tdiv 2 * z 6 := by
    have a := Int.mul_le_mul_of_nonneg_right u2 l5.1
    have b : (zus z r + 1).tdiv 2 ≤ (zus z s + 1).tdiv 2 := by
      obtain ⟨x, hx⟩ : ∃ x : Nat, zus z r + 1 = (x : Int) := ⟨(zus z r + 1).toNat, by omega⟩
      obtain ⟨y, hy⟩ : ∃ y : Nat, zus z s + 1 = (y : Int) := ⟨(zus z s + 1).toNat, by omega⟩
      rw [hx, hy]
      have e2 : (2 : Int) = ((2 : Nat) : Int) := rfl
      rw [e2, td_nat, td_nat]
      have := Nat.div_le_div_right (c := 2) (show x ≤ y by omega)
      omega
    have c := Int.mul_le_mul_of_nonneg_right b l6.1
    omega
  have eG : (z 1).toNat = d + ((z 1).toNat - d) := by omega
  have split : psm (fun g => if s g = 0 then 0 else zsh z s g ((z 1).toNat - (z 1).toNat)) (z 1).toNat ≤ psm (fun g => if r g = 0 then 0 else zsh z r g ((z 1).toNat - d)) d + zho z r d := by
    rw [Nat.sub_self]
    have e := psm_split (fun g => if s g = 0 then 0 else zsh z s g 0) d ((z 1).toNat - d)
    rw [← eG] at e
    rw [e]
    have a : psm (fun g => if s g = 0 then 0 else zsh z s g 0) d ≤ psm (fun g => if r g = 0 then 0 else zsh z r g ((z 1).toNat - d)) d := psm_le (fun g hg => by
      (try dsimp only)
      have e := h.2.2.2.1 g hg
      by_cases c : r g = 0
      · rw [if_pos c, if_pos (by omega)]; exact Int.le_refl _
      · rw [if_neg c, if_neg (by omega)]; exact cp_sh hw h hg c)
    have b : psm (fun i => if s (d + i) = 0 then 0 else zsh z s (d + i) 0) ((z 1).toNat - d) ≤ zho z r d := psm_le (fun i hi => by
      (try dsimp only)
      by_cases c : s (d + i) = 0
      · rw [if_pos c]
        have nn : ∀ n, 0 ≤ zmp z r (d + i) ((z 1).toNat - d) n := by
          intro n
          induction n with
          | zero => exact Int.le_refl _
          | succ n ih =>
            have mono : ∀ q t (x : Int), x ≤ zms z r (d + i) ((z 1).toNat - d) q t x := fun q t x => by
              unfold zms
              by_cases c : nfi z r q + zare z (d + i) t ≤ 16
              · rw [if_pos c]; omega
              · rw [if_neg c]; exact Int.le_refl _
            exact Int.le_trans ih (Int.le_trans (mono _ _ _) (mono _ _ _))
        exact nn _
      · rw [if_neg c]; exact cp_mo hw h hso (by omega) c)
    omega
  unfold zbr
  omega
theorem ncr_ge {r : Nat → Nat} {p : Nat} : 0 ≤ ncr r p := (ncr_bd r p).1
/-- a bond whose goods are both decided -/
theorem cp_ga {z : Nat → Int} {d b : Nat} {r s : Nat → Nat} (h : cpl z d r s) (hb : zlt z b < d) : zga z s b = zga z r b := by
  have a : s (z (69 + 4 * b)).toNat = r (z (69 + 4 * b)).toNat := h.2.2.2.1 _ (by unfold zlt at hb; omega)
  have c : s (z (70 + 4 * b)).toNat = r (z (70 + 4 * b)).toNat := h.2.2.2.1 _ (by unfold zlt at hb; omega)
  unfold zga
  rw [a, c]
theorem cp_ke {z : Nat → Int} {d b : Nat} {r s : Nat → Nat} (h : cpl z d r s) (hb : zlt z b < d) : zke z s b ↔ zke z r b := by
  have a : s (z (69 + 4 * b)).toNat = r (z (69 + 4 * b)).toNat := h.2.2.2.1 _ (by unfold zlt at hb; omega)
  have c : s (z (70 + 4 * b)).toNat = r (z (70 + 4 * b)).toNat := h.2.2.2.1 _ (by unfold zlt at hb; omega)
  unfold zke
  rw [a, c]
/-- what comes by bonds that are decided -/
def zgd (z : Nat → Int) (r : Nat → Nat) (d : Nat) : Int := psm (fun b => if zlt z b < d then zga z r b else 0) (z 2).toNat
/-- the most that may come by others -/
def zgo (z : Nat → Int) (d : Nat) : Int := psm (fun b => if zlt z b < d then 0 else zmg z b) (z 2).toNat
theorem cp_wo {z : Nat → Int} {d : Nat} {r s : Nat → Nat} (hw : wf z) (h : cpl z d r s) (hso : ∀ p : Nat, (p : Int) < z 0 → zfit z (zcn s p)) : zwo z s ≤ zbr z r d + zho z r d + zgd z r d + zgo z d := by
  have a := cp_br hw h hso
  have b : psm (zga z s) (z 2).toNat ≤ zgd z r d + zgo z d := by
    unfold zgd zgo
    rw [← psm_add]
    refine psm_le (fun k hk => ?_)
    (try dsimp only)
    by_cases c : zlt z k < d
    · rw [if_pos c, if_pos c, cp_ga h c]; omega
    · rw [if_neg c, if_neg c]
      have := zga_le hw h.2.1.1 (b := k) (by have := hw.1.2.2.2.2.1; omega)
      omega
  unfold zwo
  omega
/-- a page that has no room has none for more -/
theorem cp_fit {z : Nat → Int} {d : Nat} {r s : Nat → Nat} (h : cpl z d r s) (p : Nat) (hf : zfit z (zcn s p)) : zfit z (zcn r p) := by
  obtain ⟨pos, p1, p2⟩ := hf
  have key : ∀ g, g < 6 → zM (zcn r p) g = true → zM (zcn s p) g = true ∧ dig (zcn r p) g = dig (zcn s p) g := fun g hg hm => by
    have h0 := zM_t.mp hm
    rw [zcn_dig r p hg] at h0
    have e : s g = r g := by
      by_cases k : g < d
      · exact h.2.2.2.1 g k
      · exact absurd (show ndg r p g = 0 by unfold ndg; rw [if_neg (fun q => q.1 (h.2.2.1 g (by omega)))]) h0
    have e2 : ndg s p g = ndg r p g := by unfold ndg; rw [e]
    exact ⟨zM_t.mpr (by rw [zcn_dig s p hg, e2]; exact h0), by rw [zcn_dig r p hg, zcn_dig s p hg, e2]⟩
  have eB : ∀ g, g < 6 → zM (zcn r p) g = true → ∀ q, zB z (zcn r p) g q = zB z (zcn s p) g q := fun g hg hm q => by
    unfold zB
    rw [(key g hg hm).2]
  exact ⟨pos, fun g hg hm => by rw [eB g hg hm]; exact p1 g hg (key g hg hm).1, fun g k hg hk hm km hgk => by rw [eB g hg hm, eB k hk km]; exact p2 g k hg hk (key g hg hm).1 (key k hk km).1 hgk⟩
end
