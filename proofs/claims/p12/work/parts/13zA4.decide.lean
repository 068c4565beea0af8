noncomputable section
/-! L3: the class's search goes through plans: the best of all that go on from a row. -/
section
variable {X : Term} {xs : List Int32}
-- ---- how great all can be
theorem zsh_bd {z : Nat → Int} {r : Nat → Nat} {g o : Nat} (hw : wf z) (h : rok z r) (hg : g < 6) (hr : r g ≠ 0) (ho : o ≤ 6) : 0 ≤ zsh z r g o ∧ zsh z r g o ≤ 200000 := by
  obtain ⟨l1, l2⟩ := zpl_bd hw h hg hr
  obtain ⟨v1, v2⟩ := wf_vw hw (rok_pg hw h hg hr).2.1
  obtain ⟨c1, c2⟩ := ncr_bd r (pgn (r g))
  obtain ⟨n1, n2⟩ := nri_bd z r (zfam z g)
  have c0 : 1 ≤ ncr r (pgn (r g)) := by
    have e : psm (fun k => if k = g then 1 else 0) 6 ≤ ncr r (pgn (r g)) := psm_le (fun k _ => by
      (try dsimp only)
      by_cases c : k = g
      · rw [if_pos c, c]; unfold fcr; rw [if_pos ⟨hr, rfl⟩]; exact Int.le_refl _
      · rw [if_neg c]
        unfold fcr
        by_cases d : r k ≠ 0 ∧ pgn (r k) = pgn (r g)
        · rw [if_pos d]; omega
        · rw [if_neg d]; omega)
    rw [psm_one 1 hg] at e
    exact e
  have l4 := hw.2.1.2.1
  have a1 : 0 ≤ z 4 * zvw z (pgn (r g)) ∧ z 4 * zvw z (pgn (r g)) ≤ 99 * 60 := ⟨Int.mul_nonneg l4.1 v1, Int.mul_le_mul l4.2 v2 v1 (by omega)⟩
  have a2 : 0 ≤ z 4 * zvw z (pgn (r g)) * (ncr r (pgn (r g)) - 1 + (o : Int)) ∧ z 4 * zvw z (pgn (r g)) * (ncr r (pgn (r g)) - 1 + (o : Int)) ≤ (99 * 60) * 11 := ⟨Int.mul_nonneg a1.1 (by omega), Int.mul_le_mul a1.2 (by omega) (by omega) (by omega)⟩
  unfold zsh
  by_cases k1 : zknd z g = 1
  · rw [if_pos k1]; omega
  · rw [if_neg k1]
    by_cases k2 : zknd z g = 2
    · rw [if_pos k2]
      by_cases q : 1 < nri z r (zfam z g)
      · rw [if_pos q]
        have := td_self l1 (nri z r (zfam z g))
        have := Int.tdiv_nonneg l1 (show 0 ≤ nri z r (zfam z g) by omega)
        omega
      · rw [if_neg q]; omega
    · rw [if_neg k2]
      by_cases k3 : zknd z g = 3
      · rw [if_pos k3]
        by_cases q : nfi z r (pgn (r g)) ≤ 16 ∧ 16 ≤ nfi z r (pgn (r g)) + zop z (z 1).toNat o
        · rw [if_pos q]; omega
        · rw [if_neg q]; omega
      · rw [if_neg k3]; omega
theorem zbr_bd {z : Nat → Int} {r : Nat → Nat} {d : Nat} (hw : wf z) (h : rok z r) (hd : d ≤ (z 1).toNat) : -1000000 ≤ zbr z r d ∧ zbr z r d ≤ 1200000 := by
  have z6 := hw.1.2.2.2.1
  have z3 := hw.1.2.1
  have a := psm_bd (f := fun g => if r g = 0 then 0 else zsh z r g ((z 1).toNat - d)) (M := 200000) (n := d) (fun i hi => by
    (try dsimp only)
    by_cases c : r i = 0
    · rw [if_pos c]; omega
    · rw [if_neg c]; exact zsh_bd hw h (by omega) c (by omega))
  have u : 0 ≤ zus z r ∧ zus z r ≤ ((z 0).toNat : Int) * 1 := psm_bd (M := 1) (fun i _ => by
    (try dsimp only)
    by_cases c : 0 < ncr r i
    · rw [if_pos c]; omega
    · rw [if_neg c]; omega)
  have l5 := hw.2.1.2.2.1
  have l6 := hw.2.1.2.2.2.1
  have p5 : 0 ≤ zus z r * z 5 ∧ zus z r * z 5 ≤ 3 * 999 := ⟨Int.mul_nonneg u.1 l5.1, Int.mul_le_mul (by omega) l5.2 l5.1 (by omega)⟩
  have t2 : 0 ≤ (zus z r + 1).tdiv 2 ∧ (zus z r + 1).tdiv 2 ≤ 4 := ⟨Int.tdiv_nonneg (by omega) (by omega), by have := Int.tdiv_le_self (b := 2) (show 0 ≤ zus z r + 1 by omega); omega⟩
  have p6 : 0 ≤ (zus z r + 1).tdiv 2 * z 6 ∧ (zus z r + 1).tdiv 2 * z 6 ≤ 4 * 999 := ⟨Int.mul_nonneg t2.1 l6.1, Int.mul_le_mul t2.2 l6.2 l6.1 (by omega)⟩
  unfold zbr
  omega
theorem zmo_bd {z : Nat → Int} {r : Nat → Nat} {g o : Nat} (hw : wf z) (hg : (g : Int) < z 1) (ho : 1 ≤ o) (ho6 : o ≤ 6) : 0 ≤ zmo z r g o ∧ zmo z r g o ≤ 200000 := by
  have key : ∀ n, n ≤ 3 → 0 ≤ zmp z r g o n ∧ zmp z r g o n ≤ 200000 := by
    intro n
    induction n with
    | zero => intro _; show (0 : Int) ≤ 0 ∧ (0 : Int) ≤ 200000; omega
    | succ n ih =>
      intro hn
      have st : ∀ (s : Nat) (x : Int), s < 2 → 0 ≤ x ∧ x ≤ 200000 → 0 ≤ zms z r g o n s x ∧ zms z r g o n s x ≤ 200000 := fun s x hs hx => by
        have b := zmv_bd (r := r) hw hg hs (show n < 3 by omega) ho ho6
        unfold zms
        by_cases c : nfi z r n + zare z g s ≤ 16
        · rw [if_pos c]; omega
        · rw [if_neg c]; exact hx
      exact st 1 _ (by omega) (st 0 _ (by omega) (ih (by omega)))
  exact key _ (by have := hw.1.2.1; omega)
theorem zho_bd {z : Nat → Int} {r : Nat → Nat} {d : Nat} (hw : wf z) : 0 ≤ zho z r d ∧ zho z r d ≤ 1200000 := by
  have z6 := hw.1.2.2.2.1
  have a := psm_bd (f := fun i => zmo z r (d + i) ((z 1).toNat - d)) (M := 200000) (n := (z 1).toNat - d) (fun i hi => zmo_bd hw (by omega) (by omega) (by omega))
  unfold zho
  omega
theorem zga_bd {z : Nat → Int} {r : Nat → Nat} {b : Nat} (hw : wf z) (h : rok z r) (hb : (b : Int) < z 2) : -5940 ≤ zga z r b ∧ zga z r b ≤ 5940 := by
  obtain ⟨b12, x6, y6, -, -, -, e1, -⟩ := wf_bd hw hb
  refine ⟨?_, Int.le_trans (zga_le hw h hb) (zmg_bd hw hb).2⟩
  unfold zga
  by_cases c1 : r (z (69 + 4 * b)).toNat = 0 ∨ r (z (70 + 4 * b)).toNat = 0
  · rw [if_pos c1]; omega
  · rw [if_neg c1]
    by_cases c2 : z (68 + 4 * b) = 0 ∧ pgn (r (z (69 + 4 * b)).toNat) ≠ pgn (r (z (70 + 4 * b)).toNat)
    · rw [if_pos c2]; omega
    · rw [if_neg c2]
      by_cases c3 : z (68 + 4 * b) = 1 ∧ (min (pgn (r (z (69 + 4 * b)).toNat)) (pgn (r (z (70 + 4 * b)).toNat)) ≠ 1 ∨ max (pgn (r (z (69 + 4 * b)).toNat)) (pgn (r (z (70 + 4 * b)).toNat)) ≠ 2)
      · rw [if_pos c3]; omega
      · rw [if_neg c3]
        have v1 := wf_vw hw (rok_pg hw h x6 (fun q => c1 (Or.inl q))).2.1
        have v2 := wf_vw hw (rok_pg hw h y6 (fun q => c1 (Or.inr q))).2.1
        have m0 : 0 ≤ min (zvw z (pgn (r (z (69 + 4 * b)).toNat))) (zvw z (pgn (r (z (70 + 4 * b)).toNat))) := by omega
        have m1 : min (zvw z (pgn (r (z (69 + 4 * b)).toNat))) (zvw z (pgn (r (z (70 + 4 * b)).toNat))) ≤ 60 := by omega
        have a := Int.mul_le_mul_of_nonneg_right (show -99 ≤ z (71 + 4 * b) from e1.1) m0
        omega
theorem zgd_bd {z : Nat → Int} {r : Nat → Nat} {d : Nat} (hw : wf z) (h : rok z r) : -100000 ≤ zgd z r d ∧ zgd z r d ≤ 100000 := by
  have b12 := hw.1.2.2.2.2.2
  have a := psm_bd (f := fun b => (if zlt z b < d then zga z r b else 0) + 5940) (M := 11880) (n := (z 2).toNat) (fun i hi => by
    (try dsimp only)
    by_cases c : zlt z i < d
    · rw [if_pos c]
      have := zga_bd hw h (b := i) (by omega)
      omega
    · rw [if_neg c]; omega)
  rw [psm_add, psm_const] at a
  unfold zgd
  omega
theorem zgo_bd {z : Nat → Int} {d : Nat} (hw : wf z) : 0 ≤ zgo z d ∧ zgo z d ≤ 100000 := by
  have b12 := hw.1.2.2.2.2.2
  have a := psm_bd (f := fun b => if zlt z b < d then 0 else zmg z b) (M := 5940) (n := (z 2).toNat) (fun i hi => by
    (try dsimp only)
    by_cases c : zlt z i < d
    · rw [if_pos c]; omega
    · rw [if_neg c]; exact zmg_bd hw (by omega))
  unfold zgo
  omega
theorem zgd_all {z : Nat → Int} {r : Nat → Nat} (hw : wf z) : zgd z r (z 1).toNat = psm (zga z r) (z 2).toNat := psm_congr (fun b hb => by
  (try dsimp only)
  rw [if_pos (zlt_bd hw (by omega))])
theorem zgo_all {z : Nat → Int} (hw : wf z) : zgo z (z 1).toNat = 0 := psm_zero (fun b hb => by
  (try dsimp only)
  rw [if_pos (zlt_bd hw (by omega))])
theorem zho_all (z : Nat → Int) (r : Nat → Nat) : zho z r (z 1).toNat = 0 := by unfold zho; rw [Nat.sub_self]; rfl
theorem zwo_all {z : Nat → Int} {r : Nat → Nat} (hw : wf z) : zbr z r (z 1).toNat + zgd z r (z 1).toNat = zwo z r := by rw [zgd_all hw]; rfl
theorem zwo_bd {z : Nat → Int} {r : Nat → Nat} (hw : wf z) (h : rok z r) : -2000000 ≤ zwo z r ∧ zwo z r ≤ 2000000 := by
  have a := zbr_bd hw h (Nat.le_refl (z 1).toNat)
  have b := zgd_bd (d := (z 1).toNat) hw h
  rw [← zwo_all hw]
  omega
-- ---- a row below a good, and its next
/-- decided below a good; all that can be asked of it is kept -/
def nod (z : Nat → Int) (g : Nat) (r : Nat → Nat) : Prop := rk z r ∧ (∀ k, g ≤ k → r k = 0) ∧ (∀ b : Nat, (b : Int) < z 2 → zlt z b < g → zke z r b) ∧ ∀ p : Nat, (p : Int) < z 0 → zfit z (zcn r p)
theorem nod_cpl {z : Nat → Int} {g : Nat} {r s : Nat → Nat} {lk : Nat → Int} {ban left : Int} (hr : rk z r) (h0 : ∀ k, g ≤ k → r k = 0) (hg : g ≤ (z 1).toNat) (ha : alw z lk ban g left r s) : cpl z g r s := ⟨hr, ha.1, h0, ha.2.1, hg⟩
theorem pup_0 {r : Nat → Nat} {g : Nat} (h : r g = 0) (x : Nat) : pup (pup r g x) g 0 = r := by
  funext k
  by_cases e : k = g
  · rw [e, pup_at, h]
  · rw [pup_ne _ _ e, pup_ne _ _ e]
theorem pup_pup (r : Nat → Nat) (g x c : Nat) : pup (pup r g x) g c = pup r g c := by
  funext k
  by_cases e : k = g
  · rw [e, pup_at, pup_at]
  · rw [pup_ne _ _ e, pup_ne _ _ e, pup_ne _ _ e]
theorem zcn_pup {r : Nat → Nat} {g c p : Nat} (h : r g = 0) (hc : c = 0 ∨ pgn c ≠ p) : zcn (pup r g c) p = zcn r p := by
  have key : ∀ n, ncd (pup r g c) p n = ncd r p n := by
    intro n
    have e : ∀ k, ndg (pup r g c) p k = ndg r p k := fun k => by
      unfold ndg
      by_cases q : k = g
      · rw [q, pup_at, h, if_neg (fun hh => hc.elim hh.1 (fun hn => hn hh.2) : ¬ (c ≠ 0 ∧ pgn c = p)), if_neg (fun hh => hh.1 rfl)]
      · rw [pup_ne _ _ q]
    induction n with
    | zero => rfl
    | succ n ih => unfold ncd; rw [ih, e n]
  exact key 6
theorem zga_pup {z : Nat → Int} {r : Nat → Nat} {g c b : Nat} (h : zlt z b < g) : zga z (pup r g c) b = zga z r b := by
  have a : pup r g c (z (69 + 4 * b)).toNat = r (z (69 + 4 * b)).toNat := pup_ne _ _ (by unfold zlt at h; omega)
  have d : pup r g c (z (70 + 4 * b)).toNat = r (z (70 + 4 * b)).toNat := pup_ne _ _ (by unfold zlt at h; omega)
  unfold zga
  rw [a, d]
theorem zke_pup {z : Nat → Int} {r : Nat → Nat} {g c b : Nat} (h : zlt z b < g) : zke z (pup r g c) b ↔ zke z r b := by
  have a : pup r g c (z (69 + 4 * b)).toNat = r (z (69 + 4 * b)).toNat := pup_ne _ _ (by unfold zlt at h; omega)
  have d : pup r g c (z (70 + 4 * b)).toNat = r (z (70 + 4 * b)).toNat := pup_ne _ _ (by unfold zlt at h; omega)
  unfold zke
  rw [a, d]
theorem zgd_pup {z : Nat → Int} {r : Nat → Nat} {g c : Nat} : zgd z (pup r g c) (g + 1) = zgd z r g + psm (fun b => if zlt z b = g then zga z (pup r g c) b else 0) (z 2).toNat := by
  rw [zgd_st]
  have e : zgd z (pup r g c) g = zgd z r g := psm_congr (fun b _ => by
    (try dsimp only)
    by_cases h : zlt z b < g
    · rw [if_pos h, if_pos h, zga_pup h]
    · rw [if_neg h, if_neg h])
  rw [e]
theorem nod_st {z : Nat → Int} {g c : Nat} {r : Nat → Nat} (hw : wf z) (h : nod z g r) (hg : (g : Int) < z 1) (hc : (c : Int) ≤ 2 * z 0) (hs : zcs z (pup r g c) g) : nod z (g + 1) (pup r g c) := by
  obtain ⟨h1, h2, h3, h4⟩ := h
  have z6 := hw.1.2.2.2.1
  refine ⟨rk_pup h1 hg (by omega) hc, fun k hk => by rw [pup_ne _ _ (by omega)]; exact h2 k (by omega), fun b hb hl => ?_, fun p hp => ?_⟩
  · by_cases e : zlt z b < g
    · exact (zke_pup e).mpr (h3 b hb e)
    · exact hs.1 b hb (by omega)
  · by_cases e : c = 0 ∨ pgn c ≠ p
    · rw [zcn_pup (h2 g (Nat.le_refl _)) e]; exact h4 p hp
    · have c0 : ¬ c = 0 := fun q => e (Or.inl q)
      have cp : pgn c = p := Classical.not_not.mp (fun q => e (Or.inr q))
      rcases hs.2 with q | q
      · rw [pup_at] at q; exact absurd q c0
      · rw [pup_at, cp] at q; exact q
/-- what is not kept, no plan that goes on mends -/
theorem nod_no {z : Nat → Int} {g c : Nat} {r s : Nat → Nat} {lk : Nat → Int} {ban left : Int} (hw : wf z) (h : nod z g r) (hg : (g : Int) < z 1) (hc : (c : Int) ≤ 2 * z 0) (hs : ¬ zcs z (pup r g c) g) (ha : alw z lk ban (g + 1) left (pup r g c) s) : ¬ zso z s := by
  intro so
  have z6 := hw.1.2.2.2.1
  have cp : cpl z (g + 1) (pup r g c) s := nod_cpl (rk_pup h.1 hg (by omega) hc) (fun k hk => by rw [pup_ne _ _ (by omega)]; exact h.2.1 k (by omega)) (by omega) ha
  refine hs ⟨fun b hb hl => (cp_ke cp (by omega)).mp (so.1 b hb), ?_⟩
  by_cases e : pup r g c g = 0
  · exact Or.inl e
  · have := rok_pg hw cp.1.1 (show g < 6 by omega) e
    exact Or.inr (cp_fit cp _ (so.2 _ this.1))
end
end
