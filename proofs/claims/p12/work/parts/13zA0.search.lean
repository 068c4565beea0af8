noncomputable section
/-! L3, GOING THROUGH PLANS: rows in order, the best of some, what can't be better; no program. -/
/-- rows: of goods that are there; nothing beyond -/
def rk (z : Nat → Int) (r : Nat → Nat) : Prop := rok z r ∧ ∀ g, 6 ≤ g → r g = 0
theorem rk_eq {z : Nat → Int} {a b : Nat → Nat} (ha : rk z a) (hb : rk z b) (h : ∀ g, g < 6 → a g = b g) : a = b := by
  funext g
  by_cases hg : g < 6
  · exact h g hg
  · rw [ha.2 g (by omega), hb.2 g (by omega)]
theorem rk_0 {z : Nat → Int} (h : 0 ≤ z 0) : rk z (fun _ => 0) := ⟨fun g _ => ⟨by show ((0 : Nat) : Int) ≤ _; omega, fun _ => rfl⟩, fun _ _ => rfl⟩
theorem rk_pup {z : Nat → Int} {r : Nat → Nat} {g c : Nat} (h : rk z r) (hg : (g : Int) < z 1) (h6 : g < 6) (hc : (c : Int) ≤ 2 * z 0) : rk z (pup r g c) :=
  ⟨rok_pup h.1 hg hc, fun k hk => by rw [pup_ne _ _ (by omega)]; exact h.2 k hk⟩
/-- ahead, as rows -/
def rlt (a b : Nat → Nat) : Prop := ∃ k, k < 6 ∧ a k < b k ∧ ∀ j, j < k → a j = b j
theorem rlt_tri (a b : Nat → Nat) : (∀ g, g < 6 → a g = b g) ∨ rlt a b ∨ rlt b a := by
  have key : ∀ n, n ≤ 6 → (∀ g, g < n → a g = b g) ∨ rlt a b ∨ rlt b a := by
    intro n
    induction n with
    | zero => intro _; exact Or.inl (fun g hg => absurd hg (by omega))
    | succ n ih =>
      intro hn
      rcases ih (by omega) with h | h
      · rcases Nat.lt_trichotomy (a n) (b n) with q | q | q
        · exact Or.inr (Or.inl ⟨n, by omega, q, h⟩)
        · refine Or.inl (fun g hg => ?_)
          by_cases e : g = n
          · rw [e]; exact q
          · exact h g (by omega)
        · exact Or.inr (Or.inr ⟨n, by omega, q, fun j hj => (h j hj).symm⟩)
      · exact Or.inr h
  exact key 6 (by omega)
theorem rlt_as {a b : Nat → Nat} (h : rlt a b) (g : rlt b a) : False := by
  obtain ⟨k, k6, k1, k2⟩ := h
  obtain ⟨l, l6, l1, l2⟩ := g
  rcases Nat.lt_trichotomy k l with q | q | q
  · have := l2 k q; omega
  · subst q; omega
  · have := k2 l q; omega
/-- the best of those of S, as found behind an amount, a row, whether any was found -/
def bst (z : Nat → Int) (S : (Nat → Nat) → Prop) (A : Int) (R : Nat → Nat) (F : Prop) (A' : Int) (R' : Nat → Nat) (F' : Prop) : Prop :=
  (A' = A ∧ R' = R ∧ (F' ↔ F) ∧ ∀ r, S r → zso z r → zwo z r ≤ A) ∨ (F' ∧ S R' ∧ zso z R' ∧ A' = zwo z R' ∧ A < A' ∧ ∀ r, S r → zso z r → zwo z r ≤ A' ∧ (zwo z r = A' → r = R' ∨ rlt R' r))
theorem bst_none {z : Nat → Int} {S : (Nat → Nat) → Prop} {A : Int} {R : Nat → Nat} {F : Prop} (h : ∀ r, S r → zso z r → zwo z r ≤ A) : bst z S A R F A R F := Or.inl ⟨rfl, rfl, Iff.rfl, h⟩
theorem bst_one {z : Nat → Int} {S : (Nat → Nat) → Prop} {A : Int} {R r0 : Nat → Nat} {F F' : Prop} (hS : ∀ r, S r ↔ r = r0) (hs : zso z r0) (ha : A < zwo z r0) (hF : F') : bst z S A R F (zwo z r0) r0 F' :=
  Or.inr ⟨hF, (hS r0).mpr rfl, hs, rfl, ha, fun r hr _ => by rw [(hS r).mp hr]; exact ⟨Int.le_refl _, fun _ => Or.inl rfl⟩⟩
theorem bst_congr {z : Nat → Int} {S S' : (Nat → Nat) → Prop} {A A' : Int} {R R' : Nat → Nat} {F F' : Prop} (hS : ∀ r, S r ↔ S' r) (h : bst z S A R F A' R' F') : bst z S' A R F A' R' F' := by
  rcases h with ⟨h1, h2, h3, h4⟩ | ⟨h1, h2, h3, h4, h5, h6⟩
  · exact Or.inl ⟨h1, h2, h3, fun r hr => h4 r ((hS r).mpr hr)⟩
  · exact Or.inr ⟨h1, (hS R').mp h2, h3, h4, h5, fun r hr => h6 r ((hS r).mpr hr)⟩
theorem bst_seq {z : Nat → Int} {S1 S2 : (Nat → Nat) → Prop} {A A1 A2 : Int} {R R1 R2 : Nat → Nat} {F F1 F2 : Prop} (h1 : bst z S1 A R F A1 R1 F1) (h2 : bst z S2 A1 R1 F1 A2 R2 F2) (hl : ∀ a b, S1 a → S2 b → rlt a b) : bst z (fun r => S1 r ∨ S2 r) A R F A2 R2 F2 := by
  rcases h1 with ⟨e1, e2, e3, e4⟩ | ⟨a1, a2, a3, a4, a5, a6⟩
  · rcases h2 with ⟨f1, f2, f3, f4⟩ | ⟨b1, b2, b3, b4, b5, b6⟩
    · refine Or.inl ⟨f1.trans e1, f2.trans e2, f3.trans e3, fun r hr hs => ?_⟩
      rcases hr with hr | hr
      · exact e4 r hr hs
      · rw [← e1]; exact f4 r hr hs
    · refine Or.inr ⟨b1, Or.inr b2, b3, b4, by omega, fun r hr hs => ?_⟩
      rcases hr with hr | hr
      · have := e4 r hr hs
        exact ⟨by omega, fun q => by omega⟩
      · exact b6 r hr hs
  · rcases h2 with ⟨f1, f2, f3, f4⟩ | ⟨b1, b2, b3, b4, b5, b6⟩
    · subst f1; subst f2
      refine Or.inr ⟨f3.mpr a1, Or.inl a2, a3, a4, a5, fun r hr hs => ?_⟩
      rcases hr with hr | hr
      · exact a6 r hr hs
      · exact ⟨f4 r hr hs, fun _ => Or.inr (hl _ r a2 hr)⟩
    · refine Or.inr ⟨b1, Or.inr b2, b3, b4, by omega, fun r hr hs => ?_⟩
      rcases hr with hr | hr
      · have := (a6 r hr hs).1
        exact ⟨by omega, fun q => by omega⟩
      · exact b6 r hr hs
theorem bst_uniq {z : Nat → Int} {S : (Nat → Nat) → Prop} {A B A1 B1 : Int} {R Q R1 Q1 : Nat → Nat} {F E F1 E1 : Prop} (h : bst z S A R F A1 R1 F1) (k : bst z S B Q E B1 Q1 E1) (hA : ∃ r, S r ∧ zso z r ∧ A < zwo z r) (hB : ∃ r, S r ∧ zso z r ∧ B < zwo z r) : A1 = B1 ∧ R1 = Q1 ∧ S R1 ∧ zso z R1 ∧ A1 = zwo z R1 ∧ F1 ∧ E1 := by
  rcases h with ⟨e1, e2, e3, e4⟩ | ⟨a1, a2, a3, a4, a5, a6⟩
  · obtain ⟨r, r1, r2, r3⟩ := hA
    have := e4 r r1 r2; omega
  · rcases k with ⟨e1, e2, e3, e4⟩ | ⟨b1, b2, b3, b4, b5, b6⟩
    · obtain ⟨r, r1, r2, r3⟩ := hB
      have := e4 r r1 r2; omega
    · have p1 := (b6 R1 a2 a3).1
      have p2 := (a6 Q1 b2 b3).1
      have e : A1 = B1 := by omega
      refine ⟨e, ?_, a2, a3, a4, a1, b1⟩
      rcases (b6 R1 a2 a3).2 (by omega) with q | q
      · exact q
      · rcases (a6 Q1 b2 b3).2 (by omega) with q' | q'
        · exact q'.symm
        · exact (rlt_as q q').elim
-- ---- completions
/-- how many choices are unlike, of goods from one on, one left out -/
def ulk (z : Nat → Int) (lk : Nat → Int) (ban : Int) (g : Nat) (r : Nat → Nat) : Int := psm (fun k => if g ≤ k ∧ (k : Int) ≠ ban ∧ ((r k : Nat) : Int) ≠ lk k then 1 else 0) (z 1).toNat
theorem ulk_nn (z : Nat → Int) (lk : Nat → Int) (ban : Int) (g : Nat) (r : Nat → Nat) : 0 ≤ ulk z lk ban g r ∧ ulk z lk ban g r ≤ ((z 1).toNat : Int) := by
  have h := psm_bd (f := fun k => if g ≤ k ∧ (k : Int) ≠ ban ∧ ((r k : Nat) : Int) ≠ lk k then 1 else 0) (M := 1) (n := (z 1).toNat) (fun i _ => by
    (try dsimp only)
    by_cases c : g ≤ i ∧ (i : Int) ≠ ban ∧ ((r i : Nat) : Int) ≠ lk i
    · rw [if_pos c]; omega
    · rw [if_neg c]; omega)
  unfold ulk
  omega
theorem ulk_st {z : Nat → Int} {lk : Nat → Int} {ban : Int} {g : Nat} {r : Nat → Nat} (hg : g < (z 1).toNat) : ulk z lk ban g r = (if (g : Int) ≠ ban ∧ ((r g : Nat) : Int) ≠ lk g then 1 else 0) + ulk z lk ban (g + 1) r := by
  have one : ∀ (v : Int) (n : Nat), g < n → psm (fun k => if k = g then v else 0) n = v := by
    intro v n
    induction n with
    | zero => intro h; omega
    | succ n ih =>
      intro h
      show psm (fun k => if k = g then v else 0) n + (if n = g then v else 0) = v
      by_cases e : n = g
      · rw [if_pos e, psm_zero (fun i hi => by (try dsimp only); rw [if_neg (by omega)])]; omega
      · rw [if_neg e, ih (by omega)]; omega
  rw [← one (if (g : Int) ≠ ban ∧ ((r g : Nat) : Int) ≠ lk g then 1 else 0) (z 1).toNat hg]
  unfold ulk
  rw [← psm_add]
  refine psm_congr (fun i _ => ?_)
  (try dsimp only)
  by_cases e : i = g
  · rw [if_pos e, if_neg (fun q => by omega : ¬ (g + 1 ≤ i ∧ (i : Int) ≠ ban ∧ ((r i : Nat) : Int) ≠ lk i)), e]
    by_cases c : (g : Int) ≠ ban ∧ ((r g : Nat) : Int) ≠ lk g
    · rw [if_pos c, if_pos ⟨Nat.le_refl _, c⟩]; rfl
    · rw [if_neg c, if_neg (fun q => c q.2)]; rfl
  · rw [if_neg e]
    by_cases c : g ≤ i ∧ (i : Int) ≠ ban ∧ ((r i : Nat) : Int) ≠ lk i
    · rw [if_pos c, if_pos ⟨by omega, c.2⟩]; rfl
    · rw [if_neg c, if_neg (fun q => c ⟨by omega, q.2⟩)]; rfl
/-- rows that go on from a row from a good on, one good out, so many unlike at most -/
def alw (z : Nat → Int) (lk : Nat → Int) (ban : Int) (g : Nat) (left : Int) (r s : Nat → Nat) : Prop := rk z s ∧ (∀ k, k < g → s k = r k) ∧ (∀ k : Nat, g ≤ k → (k : Int) = ban → s k = 0) ∧ ulk z lk ban g s ≤ left
theorem alw_st {z : Nat → Int} {lk : Nat → Int} {ban : Int} {g c : Nat} {left : Int} {r s : Nat → Nat} (hg : g < (z 1).toNat) (hb : (g : Int) = ban → c = 0) : (alw z lk ban g left r s ∧ s g = c) ↔ alw z lk ban (g + 1) (if (g : Int) = ban ∨ (c : Int) = lk g then left else left - 1) (pup r g c) s := by
  have key : s g = c → (ulk z lk ban g s ≤ left ↔ ulk z lk ban (g + 1) s ≤ (if (g : Int) = ban ∨ (c : Int) = lk g then left else left - 1)) := fun e => by
    rw [ulk_st hg, e]
    by_cases h : (g : Int) = ban ∨ (c : Int) = lk g
    · rw [if_pos h, if_neg (fun q => h.elim q.1 q.2)]
      omega
    · rw [if_neg h, if_pos ⟨fun q => h (Or.inl q), fun q => h (Or.inr q)⟩]
      omega
  constructor
  · rintro ⟨⟨h1, h2, h3, h4⟩, e⟩
    refine ⟨h1, fun k hk => ?_, fun k hk hkb => h3 k (by omega) hkb, (key e).mp h4⟩
    by_cases ek : k = g
    · rw [ek, pup_at]; exact e
    · rw [pup_ne _ _ ek]; exact h2 k (by omega)
  · rintro ⟨h1, h2, h3, h4⟩
    have e : s g = c := by rw [h2 g (by omega), pup_at]
    refine ⟨⟨h1, fun k hk => by rw [h2 k (by omega), pup_ne _ _ (by omega)], fun k hk hkb => ?_, (key e).mpr h4⟩, e⟩
    by_cases ek : k = g
    · rw [ek, e]; exact hb (by rw [← ek]; exact hkb)
    · exact h3 k (by omega) hkb
theorem alw_end {z : Nat → Int} {lk : Nat → Int} {ban left : Int} {r s : Nat → Nat} (hr : rk z r) (hz : 0 ≤ z 1) (hl : 0 ≤ left) : alw z lk ban (z 1).toNat left r s ↔ s = r := by
  constructor
  · rintro ⟨h1, h2, -, -⟩
    refine rk_eq h1 hr (fun g hg => ?_)
    by_cases k : g < (z 1).toNat
    · exact h2 g k
    · rw [(h1.1 g hg).2 (by omega), (hr.1 g hg).2 (by omega)]
  · intro e
    subst e
    refine ⟨hr, fun _ _ => rfl, fun k hk _ => ?_, ?_⟩
    · by_cases k6 : k < 6
      · exact (hr.1 k k6).2 (by omega)
      · exact hr.2 k (by omega)
    · have : ulk z lk ban (z 1).toNat s = 0 := psm_zero (fun i hi => by (try dsimp only); rw [if_neg (fun q => by omega)])
      omega
-- ---- what a completion can come to
def zmxv (z : Nat → Int) : Nat → Int
  | 0 => 0
  | p + 1 => max (zmxv z p) (zvw z p)
theorem zmxv_ge {z : Nat → Int} : ∀ {n p : Nat}, p < n → zvw z p ≤ zmxv z n
  | 0, p, h => absurd h (by omega)
  | n + 1, p, h => by
    show zvw z p ≤ max (zmxv z n) (zvw z n)
    by_cases e : p = n
    · rw [e]; omega
    · have := zmxv_ge (z := z) (n := n) (p := p) (by omega)
      omega
theorem zmxv_nn (z : Nat → Int) : ∀ n, 0 ≤ zmxv z n
  | 0 => Int.le_refl _
  | n + 1 => by
    have := zmxv_nn z n
    show 0 ≤ max (zmxv z n) (zvw z n)
    omega
/-- the most that may come by a bond -/
def zmg (z : Nat → Int) (b : Nat) : Int := (if z (68 + 4 * b) = 1 then (if z 0 = 3 then min (zvw z 1) (zvw z 2) else 0) else zmxv z (z 0).toNat) * max (z (71 + 4 * b)) 0
/-- the later good of a bond -/
def zlt (z : Nat → Int) (b : Nat) : Nat := max (z (69 + 4 * b)).toNat (z (70 + 4 * b)).toNat
theorem zmg_nn {z : Nat → Int} (hw : wf z) (b : Nat) : 0 ≤ zmg z b := by
  have v1 := wf_vw hw (show 1 < 3 by decide)
  have v2 := wf_vw hw (show 2 < 3 by decide)
  have := zmxv_nn z (z 0).toNat
  unfold zmg
  refine Int.mul_nonneg ?_ (by omega)
  by_cases h : z (68 + 4 * b) = 1
  · rw [if_pos h]
    by_cases h3 : z 0 = 3
    · rw [if_pos h3]; omega
    · rw [if_neg h3]; omega
  · rw [if_neg h]; exact this
theorem zga_le {z : Nat → Int} {r : Nat → Nat} {b : Nat} (hw : wf z) (h : rok z r) (hb : (b : Int) < z 2) : zga z r b ≤ zmg z b := by
  obtain ⟨b12, x6, y6, -, -, -, -, -⟩ := wf_bd hw hb
  have z3 := hw.1.2.1
  have nn := zmg_nn hw b
  have mul : ∀ (e m M : Int), 0 ≤ m → m ≤ M → e * m ≤ M * max e 0 := fun e m M h1 h2 => by
    by_cases k : 0 ≤ e
    · have e1 : max e 0 = e := by omega
      rw [e1, Int.mul_comm e m]
      exact Int.mul_le_mul_of_nonneg_right h2 k
    · have e1 : max e 0 = 0 := by omega
      rw [e1, Int.mul_zero]
      have := Int.mul_nonneg (show 0 ≤ -e by omega) h1
      rw [Int.neg_mul] at this
      omega
  unfold zga
  by_cases c1 : r (z (69 + 4 * b)).toNat = 0 ∨ r (z (70 + 4 * b)).toNat = 0
  · rw [if_pos c1]; exact nn
  · rw [if_neg c1]
    obtain ⟨p1, p2, p3⟩ := rok_pg hw h x6 (fun q => c1 (Or.inl q))
    obtain ⟨q1, q2, q3⟩ := rok_pg hw h y6 (fun q => c1 (Or.inr q))
    have v1 := wf_vw hw p2
    have v2 := wf_vw hw q2
    by_cases c2 : z (68 + 4 * b) = 0 ∧ pgn (r (z (69 + 4 * b)).toNat) ≠ pgn (r (z (70 + 4 * b)).toNat)
    · rw [if_pos c2]; exact nn
    · rw [if_neg c2]
      by_cases c3 : z (68 + 4 * b) = 1 ∧ (min (pgn (r (z (69 + 4 * b)).toNat)) (pgn (r (z (70 + 4 * b)).toNat)) ≠ 1 ∨ max (pgn (r (z (69 + 4 * b)).toNat)) (pgn (r (z (70 + 4 * b)).toNat)) ≠ 2)
      · rw [if_pos c3]; exact nn
      · rw [if_neg c3]
        unfold zmg
        refine mul _ _ _ (by omega) ?_
        by_cases k1 : z (68 + 4 * b) = 1
        · rw [if_pos k1, if_pos (by omega)]
          have e : (pgn (r (z (69 + 4 * b)).toNat) = 1 ∧ pgn (r (z (70 + 4 * b)).toNat) = 2) ∨ (pgn (r (z (69 + 4 * b)).toNat) = 2 ∧ pgn (r (z (70 + 4 * b)).toNat) = 1) := by omega
          rcases e with ⟨e1, e2⟩ | ⟨e1, e2⟩
          · rw [e1, e2]; omega
          · rw [e1, e2]; omega
        · rw [if_neg k1]
          have := zmxv_ge (z := z) (n := (z 0).toNat) (p := pgn (r (z (69 + 4 * b)).toNat)) (by omega)
          omega
end
