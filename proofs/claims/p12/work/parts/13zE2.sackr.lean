noncomputable section
/-! L3: by squares alone, in the reference. -/
section
variable {X : Term} {xs : List Int32}
theorem rc_alone {m g n : Nat} {s p : Int} {H : fl_H} {e1 : Int} (hw : wf (H 95)) (en : H 95 1 = (n : Int)) (hg : g < n) (hs : 0 ≤ s ∧ s ≤ 60) (hp : 0 ≤ p ∧ p ≤ 59940) (h1 : e1 = (g : Int)) : ck (cm_pg X xs) m cm_m199 [.index 94, fl_t e1, fl_t s, fl_t p] H (fun r H' => (∃ d : Nat, r = some (d : Int) ∧ d < 3 ∧ sqA (H 95) g d = zTk (H 95) s g p) ∧ H' = H) := by
  subst h1
  have bd := hw.1
  unfold zr at bd
  have gz1 : (g : Int) < H 95 1 := by omega
  have ps : ∀ (c : Nat), c < 2 → ∀ (N f : Nat) (q : Int × Int), f ≤ c → q.2 = sqA (H 95) g f → 0 ≤ q.1 → q.1 ≤ 59940 → (∀ m' (f' : Nat), f' ≤ c + 1 → (tk2 q (zsal (H 95) g c * s) (zare (H 95) g c) p).2 = sqA (H 95) g f' → hd_GoodsBookModel_alone_94_9 (cm_pg X xs) m' H (g : Int) s p (f' : Int) (tk2 q (zsal (H 95) g c * s) (zare (H 95) g c) p).1 ((c : Int) + 1) (fun r H' => (∃ d : Nat, r = some (d : Int) ∧ d < 3 ∧ sqA (H 95) g d = zTk (H 95) s g p) ∧ H' = H)) → hd_GoodsBookModel_alone_94_9 (cm_pg X xs) N H (g : Int) s p (f : Int) q.1 (c : Int) (fun r H' => (∃ d : Nat, r = some (d : Int) ∧ d < 3 ∧ sqA (H 95) g d = zTk (H 95) s g p) ∧ H' = H) := by
    intro c hc N f q hf hq q1 q2 nx
    have ar := wf_are hw gz1 hc
    have v := sk_V hw hs gz1 hc
    have m0 : 0 ≤ p * zare (H 95) g c := Int.mul_nonneg hp.1 (by omega)
    have m1 : p * zare (H 95) g c ≤ 59940 * zare (H 95) g c := Int.mul_le_mul_of_nonneg_right hp.2 (by omega)
    have et : (tk2 q (zsal (H 95) g c * s) (zare (H 95) g c) p) = if q.1 < zsal (H 95) g c * s - p * zare (H 95) g c ∨ (zsal (H 95) g c * s - p * zare (H 95) g c = q.1 ∧ zare (H 95) g c < q.2) then (zsal (H 95) g c * s - p * zare (H 95) g c, zare (H 95) g c) else q := rfl
    have tak : (q.1 < zsal (H 95) g c * s - p * zare (H 95) g c ∨ (zsal (H 95) g c * s - p * zare (H 95) g c = q.1 ∧ zare (H 95) g c < q.2)) → ∀ m', hd_GoodsBookModel_alone_94_9 (cm_pg X xs) m' H (g : Int) s p ((c : Int) + 1) (zsal (H 95) g c * s - p * zare (H 95) g c) ((c : Int) + 1) (fun r H' => (∃ d : Nat, r = some (d : Int) ∧ d < 3 ∧ sqA (H 95) g d = zTk (H 95) s g p) ∧ H' = H) := fun k m' => by
      have := nx m' (c + 1) (by omega) (by rw [et, if_pos k]; unfold sqA; rw [if_neg (by omega), show c + 1 - 1 = c by omega])
      rw [et, if_pos k] at this
      exact this
    have kep : ¬ (q.1 < zsal (H 95) g c * s - p * zare (H 95) g c ∨ (zsal (H 95) g c * s - p * zare (H 95) g c = q.1 ∧ zare (H 95) g c < q.2)) → ∀ m', hd_GoodsBookModel_alone_94_9 (cm_pg X xs) m' H (g : Int) s p (f : Int) q.1 ((c : Int) + 1) (fun r H' => (∃ d : Nat, r = some (d : Int) ∧ d < 3 ∧ sqA (H 95) g d = zTk (H 95) s g p) ∧ H' = H) := fun k m' => by
      have := nx m' f (by omega) (by rw [et, if_neg k]; exact hq)
      rw [et, if_neg k] at this
      exact this
    refine vh_GoodsBookModel_alone_94_9 ?_
    rw [fl_wi (x := (c : Int)) (by omega) (by omega)]
    refine ⟨fun hh => by omega, fun _ m1' _ => ck_mono (rc_sale (X := X) (xs := xs) (g := g) (s := c) (by omega) hc rfl rfl) (fun r2 H2 h2 => ⟨_, h2.1, fun m2 _ => ?_⟩)⟩
    rw [h2.2]
    refine ck_mono (rc_area (X := X) (xs := xs) (g := g) (s := c) (by omega) hc rfl rfl) (fun r3 H3 h3 => ⟨_, h3.1, ?_⟩)
    rw [h3.2, fl_wi (x := (f : Int)) (by omega) (by omega), fl_wi (x := q.1) (by omega) (by omega), fl_wi (x := zsal (H 95) g c * s - p * zare (H 95) g c) (by omega) (by omega)]
    refine ⟨fun f0 => ?_, fun f0 => ?_⟩
    · have e2 : q.2 = 0 := by rw [hq]; exact if_pos (by omega)
      exact ⟨fun c1 m' _ => tak (Or.inl c1) m', fun c1 m' _ => kep (by omega) m'⟩
    · have e2 : q.2 = zare (H 95) g (f - 1) := by rw [hq]; exact if_neg (by omega)
      have arf := wf_are hw gz1 (s := f - 1) (by omega)
      refine ⟨fun c1 m4 _ => ?_, fun c1 => ⟨fun c2 m' _ => tak (Or.inl c2) m', fun c2 m' _ => kep (by omega) m'⟩⟩
      refine ck_mono (rc_area (X := X) (xs := xs) (g := g) (s := c) (by omega) hc rfl rfl) (fun r5 H5 h5 => ⟨_, h5.1, fun m6 _ => ?_⟩)
      rw [h5.2]
      refine ck_mono (rc_area (X := X) (xs := xs) (g := g) (s := f - 1) (by omega) (by omega) rfl (by omega)) (fun r7 H7 h7 => ⟨_, h7.1, ?_⟩)
      rw [h7.2, fl_wi (x := zare (H 95) g c) (by omega) (by omega), fl_wi (x := zare (H 95) g (f - 1)) (by omega) (by omega)]
      exact ⟨fun c3 => ⟨fun c4 m' _ => tak (Or.inl c4) m', fun c4 m' _ => kep (by omega) m'⟩, fun c3 => ⟨fun c4 m' _ => tak (Or.inl c4) m', fun c4 m' _ => tak (Or.inr ⟨c1, by omega⟩) m'⟩⟩
  have a0 := wf_are hw gz1 (s := 0) (by omega)
  have v0 := sk_V hw hs gz1 (c := 0) (by omega)
  have m0 : 0 ≤ p * zare (H 95) g 0 := Int.mul_nonneg hp.1 (by omega)
  have e1 : tk2 ((0, 0) : Int × Int) (zsal (H 95) g 0 * s) (zare (H 95) g 0) p = tk1 (zsal (H 95) g 0 * s) (zare (H 95) g 0) p := by
    unfold tk2 tk1
    by_cases c : 0 < zsal (H 95) g 0 * s - p * zare (H 95) g 0
    · rw [if_pos c, if_pos (Or.inl c)]
    · rw [if_neg c, if_neg (by show ¬ ((0 : Int) < _ ∨ _ ∧ _ < (0 : Int)); omega)]
  have b : 0 ≤ (tk1 (zsal (H 95) g 0 * s) (zare (H 95) g 0) p).1 ∧ (tk1 (zsal (H 95) g 0 * s) (zare (H 95) g 0) p).1 ≤ 59940 := by
    unfold tk1
    by_cases c : 0 < zsal (H 95) g 0 * s - p * zare (H 95) g 0
    · rw [if_pos c]; dsimp only; omega
    · rw [if_neg c]; dsimp only; omega
  refine ve_GoodsBookModel_alone_94 (ps 0 (by omega) m 0 (0, 0) (Nat.le_refl _) rfl (Int.le_refl _) (by decide) (fun m' f' hf' e' => ?_))
  rw [e1] at e' ⊢
  have s2 := ps 1 (by omega) m' f' (tk1 (zsal (H 95) g 0 * s) (zare (H 95) g 0) p) hf' e' b.1 b.2 (fun m'' f'' hf'' e'' => by
    refine vh_GoodsBookModel_alone_94_9 ?_
    exact ⟨fun _ => ⟨⟨f'', rfl, by omega, by rw [← e'']; rfl⟩, rfl⟩, fun hh => absurd (by decide) hh⟩)
  exact s2
theorem rc_prices {m n : Nat} {s : Int} {H : fl_H} (hw : wf (H 95)) (en : H 95 1 = (n : Int)) (hs : 0 ≤ s ∧ s ≤ 60) : ck (cm_pg X xs) m cm_m200 [.index 94, fl_t s] H (fun r H' => (∃ v, r = some v ∧ pPri (H 95) s n v) ∧ H' = H) := by
  have bd := hw.1
  unfold zr at bd
  have hA : ∀ i, i < n → ∀ c, c < 2 → 1 ≤ zare (H 95) i c := fun i hi c hc => (wf_are hw (by omega) hc).1
  have hV : ∀ i, i < n → ∀ c, c < 2 → zsal (H 95) i c * s ≤ 59940 := fun i hi c hc => (sk_V hw hs (by omega) hc).2
  have key : ∀ (N : Nat) (p : Int), 0 ≤ p → (∀ x : Int, 0 ≤ x → x < p → ¬ zTa (H 95) s n x ≤ 16) → hd_GoodsBookModel_priceFor_94_4 (cm_pg X xs) N H s p 1 (fun r H' => (∃ v, r = some v ∧ pPri (H 95) s n v) ∧ H' = H) := by
    intro N
    induction N using Nat.strongRecOn with
    | ind N IH =>
      intro p p0 hx
      have p1 : p ≤ 59940 := by
        refine Classical.byContradiction (fun q => hx 59940 (by omega) (by omega) ?_)
        rw [zTa_hi hA hV]; omega
      have lp : ∀ (f k : Nat), k + f = n → ∀ N', N' ≤ N → hd_GoodsBookModel_priceFor_94_14 (cm_pg X xs) N' H s p (zTa (H 95) s k p) (k : Int) (fun r H' => (∃ v, r = some v ∧ pPri (H 95) s n v) ∧ H' = H) := by
        intro f
        induction f with
        | zero =>
          intro k hk N' hN
          have e : k = n := by omega
          subst e
          have tb : 0 ≤ zTa (H 95) s k p ∧ zTa (H 95) s k p ≤ 100 := by
            have u : zTa (H 95) s k p ≤ psm (fun _ => 16) k := psm_le (fun i hi' => by
              have a0 := wf_are hw (show (i : Int) < H 95 1 by omega) (s := 0) (by omega)
              have a1 := wf_are hw (show (i : Int) < H 95 1 by omega) (s := 1) (by omega)
              unfold zTk tk2 tk1
              split <;> dsimp only <;> split <;> dsimp only <;> omega)
            have l : psm (fun _ => (0 : Int)) k ≤ zTa (H 95) s k p := psm_le (fun i hi' => by
              have a0 := wf_are hw (show (i : Int) < H 95 1 by omega) (s := 0) (by omega)
              have a1 := wf_are hw (show (i : Int) < H 95 1 by omega) (s := 1) (by omega)
              unfold zTk tk2 tk1
              split <;> dsimp only <;> split <;> dsimp only <;> omega)
            rw [psm_const] at u l
            omega
          refine vh_GoodsBookModel_priceFor_94_14 ?_
          rw [en, fl_wi (x := (k : Int)) (by omega) (by omega), fl_wi (x := zTa (H 95) s k p) (by omega) (by omega)]
          refine ⟨fun _ => ⟨fun c m' _ => ?_, fun c m' hm' => ?_⟩, fun hh => absurd (Int.le_refl _) hh⟩
          · refine vh_GoodsBookModel_priceFor_94_4 ⟨fun _ => ⟨⟨_, rfl, by omega, by rw [Int.add_zero]; exact c, fun x x0 x1 => hx x x0 (by omega)⟩, rfl⟩, fun hh => absurd rfl hh⟩
          · refine IH m' (by omega) (p + 1) (by omega) (fun x x0 x1 => ?_)
            by_cases e : x = p
            · rw [e]; exact c
            · exact hx x x0 (by omega)
        | succ f ih =>
          intro k hk N' hN
          refine vh_GoodsBookModel_priceFor_94_14 ?_
          rw [en, fl_wi (x := (n : Int)) (by omega) (by omega), fl_wi (x := (k : Int)) (by omega) (by omega), show ((k : Int) + 1) = ((k + 1 : Nat) : Int) by omega]
          refine ⟨fun hh => by omega, fun _ m1 _ => ck_mono (rc_alone (X := X) (xs := xs) (g := k) hw en (by omega) hs ⟨p0, p1⟩ rfl) (fun r2 H2 h2 => ?_)⟩
          obtain ⟨⟨d, d1, d2, d3⟩, e2⟩ := h2
          refine ⟨_, d1, ?_⟩
          rw [e2, fl_wi (x := (d : Int)) (by omega) (by omega)]
          have es : zTa (H 95) s (k + 1) p = zTa (H 95) s k p + zTk (H 95) s k p := rfl
          refine ⟨fun c m' hm' => ?_, fun c m' hm' => ck_mono (rc_area (X := X) (xs := xs) (g := k) (s := d - 1) (by omega) (by omega) rfl (by omega)) (fun r3 H3 h3 => ⟨_, h3.1, fun m4 hm4 => ?_⟩)⟩
          · have := ih (k + 1) (by omega) m' (by omega)
            rw [es, ← d3, show sqA (H 95) k d = 0 from if_pos (by omega)] at this
            exact this
          · have := ih (k + 1) (by omega) m4 (by omega)
            rw [es, ← d3, show sqA (H 95) k d = zare (H 95) k (d - 1) from if_neg (by omega)] at this
            rw [h3.2]; exact this
      refine vh_GoodsBookModel_priceFor_94_4 ⟨fun hh => absurd hh (by decide), fun _ => lp n 0 (by omega) N (Nat.le_refl _)⟩
  exact ve_GoodsBookModel_priceFor_94 (key m 0 (by omega) (fun x x0 x1 => by omega))
-- ---- going through all
theorem rc_turned {m n u : Nat} {H : fl_H} {e1 : Int} (n6 : n ≤ 6) (en : H 95 1 = (n : Int)) (hu : u < 729) (h1 : e1 = (u : Int)) : ck (cm_pg X xs) m cm_m201 [.index 94, fl_t e1] H (fun r H' => (∃ c : Nat, r = some (c : Int) ∧ c < 3 ^ n ∧ ∀ g, g < n → dig c g = dnn n u g) ∧ H' = H) := by
  subst h1
  have key : ∀ (f j : Nat), j + f = n → ∀ (N c : Nat), c < 3 ^ j → (∀ g, g < j → dig c g = u / 3 ^ (j - 1 - g) % 3) → hd_GoodsBookModel_turned_94_7 (cm_pg X xs) N H (c : Int) ((u / 3 ^ j : Nat) : Int) (j : Int) (fun r H' => (∃ c : Nat, r = some (c : Int) ∧ c < 3 ^ n ∧ ∀ g, g < n → dig c g = dnn n u g) ∧ H' = H) := by
    intro f
    induction f with
    | zero =>
      intro j hj N c hc hd
      have e : j = n := by omega
      subst e
      refine vh_GoodsBookModel_turned_94_7 ?_
      rw [en, fl_wi (x := (j : Int)) (by omega) (by omega)]
      exact ⟨fun _ => ⟨⟨c, rfl, hc, hd⟩, rfl⟩, fun hh => absurd (Int.le_refl _) hh⟩
    | succ f ih =>
      intro j hj N c hc hd
      have ul : u / 3 ^ j < 729 := Nat.lt_of_le_of_lt (Nat.div_le_self _ _) hu
      obtain ⟨d1, d2⟩ := fn_dr (u / 3 ^ j) ul
      have m3 : u / 3 ^ j % 3 < 3 := Nat.mod_lt _ (by decide)
      refine vh_GoodsBookModel_turned_94_7 ?_
      rw [en, fl_wi (x := (n : Int)) (by omega) (by omega), fl_wi (x := (j : Int)) (by omega) (by omega), d1, d2, show ((j : Int) + 1) = ((j + 1 : Nat) : Int) by omega, show 3 * (c : Int) + ((u / 3 ^ j % 3 : Nat) : Int) = ((3 * c + u / 3 ^ j % 3 : Nat) : Int) by omega, Nat.div_div_eq_div_mul, ← Nat.pow_succ]
      refine ⟨fun hh => by omega, fun _ m' _ => ih (j + 1) (by omega) m' _ (by rw [Nat.pow_succ]; omega) (fun g hg => ?_)⟩
      cases g with
      | zero =>
        show (3 * c + u / 3 ^ j % 3) / 3 ^ 0 % 3 = _
        rw [Nat.pow_zero, Nat.div_one, Nat.mul_add_mod, Nat.mod_mod, show j + 1 - 1 - 0 = j by omega]
      | succ g =>
        have := hd g (by omega)
        show (3 * c + u / 3 ^ j % 3) / 3 ^ (g + 1) % 3 = _
        rw [Nat.pow_succ, Nat.mul_comm (3 ^ g) 3, ← Nat.div_div_eq_div_mul, show (3 * c + u / 3 ^ j % 3) / 3 = c by omega, show j + 1 - 1 - (g + 1) = j - 1 - g by omega]
        exact this
  have := key n 0 (by omega) m 0 (by decide) (fun g hg => absurd hg (by omega))
  rw [Nat.pow_zero, Nat.div_one] at this
  exact ve_GoodsBookModel_turned_94 this
theorem mar_sq {z : Nat → Int} {n c : Nat} {d : Nat → Nat} (n6 : n ≤ 6) (en : z 1 = (n : Int)) (hc : zcd z c) (hd : ∀ g, g < n → dig c g = d g) : mar (zA z c) (zM c) 6 = fsm (fun w => sqA z w (d w)) n 0 := by
  rw [← fsm_0]
  unfold mar
  rw [psm_ext n6 (fun i a b => if_neg (fun hm => by have := hc i b hm; omega))]
  refine psm_congr (fun i hi => ?_)
  show (if zM c i = true then zA z c i else 0) = sqA z i (d i)
  rw [← hd i hi]
  unfold sqA zA
  by_cases h : dig c i = 0
  · rw [if_pos h, if_neg (fun hm => (zM_t.mp hm) h)]
  · rw [if_neg h, if_pos (zM_t.mpr h)]
abbrev sfe (z : Nat → Int) (n m : Nat) : Prop := fsm (fun w => sqA z w (dnn n m w)) n 0 ≤ 16
abbrev svl (z : Nat → Int) (s : Int) (n m : Nat) : Int := fsm (fun w => sqV z s w (dnn n m w)) n 0
def zqst (z : Nat → Int) (s : Int) (n k : Nat) (a4 a5 : Int) : Prop := (a4 = -1 ∧ a5 = 0 ∧ ∀ m, m < k → ¬ sfe z n m) ∨ (∃ m, m < k ∧ sfe z n m ∧ a4 = svl z s n m ∧ (∀ m', m' < k → sfe z n m' → svl z s n m' ≤ svl z s n m) ∧ (∀ m', m' < m → sfe z n m' → svl z s n m' < svl z s n m) ∧ ∃ cd : Nat, a5 = (cd : Int) ∧ cd < 3 ^ n ∧ ∀ g, g < n → dig cd g = dnn n m g)
theorem svl_bd {z : Nat → Int} {s : Int} {n : Nat} (hV : ∀ i, i < n → ∀ c, c < 2 → 0 ≤ zsal z i c * s ∧ zsal z i c * s ≤ 59940) {d : Nat → Nat} (hd : ∀ w, d w < 3) : ∀ k g, g + k = n → 0 ≤ fsm (fun w => sqV z s w (d w)) k g ∧ fsm (fun w => sqV z s w (d w)) k g ≤ 59940 * (k : Int)
  | 0, g, _ => ⟨Int.le_refl _, by show (0 : Int) ≤ _; omega⟩
  | k + 1, g, h => by
    have ih := svl_bd hV hd k (g + 1) (by omega)
    have d3 := hd g
    show 0 ≤ sqV z s g (d g) + _ ∧ sqV z s g (d g) + _ ≤ _
    have b : 0 ≤ sqV z s g (d g) ∧ sqV z s g (d g) ≤ 59940 := by
      unfold sqV
      by_cases c : d g = 0
      · rw [if_pos c]; omega
      · rw [if_neg c]
        exact hV g (by omega) (d g - 1) (by omega)
    omega
theorem zqst_up {z : Nat → Int} {s : Int} {n k : Nat} {a4 a5 : Int} (h : zqst z s n k a4 a5) : (¬ sfe z n k → zqst z s n (k + 1) a4 a5) ∧ (0 ≤ svl z s n k → svl z s n k ≤ a4 → zqst z s n (k + 1) a4 a5) ∧ (sfe z n k → ¬ svl z s n k ≤ a4 → ∀ cd : Nat, cd < 3 ^ n → (∀ g, g < n → dig cd g = dnn n k g) → zqst z s n (k + 1) (svl z s n k) (cd : Int)) := by
  refine ⟨fun nf => ?_, fun v0 vl => ?_, fun fe vl cd c1 c2 => Or.inr ⟨k, by omega, fe, rfl, fun m' hm' fm => ?_, fun m' hm' fm => ?_, cd, rfl, c1, c2⟩⟩
  · rcases h with ⟨a, b, c⟩ | ⟨m, m1, m2, m3, m4, m5, m6⟩
    · refine Or.inl ⟨a, b, fun m hm => ?_⟩
      by_cases e : m = k
      · rw [e]; exact nf
      · exact c m (by omega)
    · refine Or.inr ⟨m, by omega, m2, m3, fun m' hm' fm => ?_, m5, m6⟩
      by_cases e : m' = k
      · rw [e] at fm; exact absurd fm nf
      · exact m4 m' (by omega) fm
  · rcases h with ⟨a, b, c⟩ | ⟨m, m1, m2, m3, m4, m5, m6⟩
    · omega
    · refine Or.inr ⟨m, by omega, m2, m3, fun m' hm' fm => ?_, m5, m6⟩
      by_cases e : m' = k
      · rw [e]; omega
      · exact m4 m' (by omega) fm
  · by_cases e : m' = k
    · rw [e]; exact Int.le_refl _
    · rcases h with ⟨a, b, c⟩ | ⟨m, m1, m2, m3, m4, m5, m6⟩
      · exact absurd fm (c m' (by omega))
      · have := m4 m' (by omega) fm
        omega
  · rcases h with ⟨a, b, c⟩ | ⟨m, m1, m2, m3, m4, m5, m6⟩
    · exact absurd fm (c m' (by omega))
    · have := m4 m' (by omega) fm
      omega
theorem zqst_end {z : Nat → Int} {s : Int} {n : Nat} {a4 a5 : Int} (hA : ∀ i, i < n → ∀ c, c < 2 → 1 ≤ zare z i c) (h : zqst z s n (3 ^ n) a4 a5) : a4 = smx z s n 0 16 ∧ ∃ cd : Nat, a5 = (cd : Int) ∧ cd < 3 ^ n ∧ ∀ g, g < n → dig cd g = spk z s n 0 16 g := by
  rcases h with ⟨a, b, c⟩ | ⟨m, m1, m2, m3, m4, m5, cd, c1, c2, c3⟩
  · refine absurd ?_ (c 0 (Nat.pow_pos (by decide)))
    show fsm (fun w => sqA z w (dnn n 0 w)) n 0 ≤ 16
    rw [← fsm_0, psm_zero (fun i _ => ?_)]
    · omega
    · show sqA z i (dnn n 0 i) = 0
      unfold dnn
      rw [Nat.zero_div]
      rfl
  · obtain ⟨f1, f2⟩ := sq_first (s := s) hA m1 m2 m4 m5
    exact ⟨m3.trans f1, cd, c1, c2, fun g hg => (c3 g hg).trans (f2 g hg)⟩
theorem rl_sum {s : Int} {n : Nat} {H : fl_H} (hw : wf (H 95)) (en : H 95 1 = (n : Int)) (hs : 0 ≤ s ∧ s ≤ 60) {w a4 a5 a6 a7 : Int} {c u : Nat} (hc : c < 3 ^ n) (hd : ∀ g, g < n → dig c g = dnn n u g) (h4 : -1 ≤ a4 ∧ a4 ≤ 400000) {Q : Option Int → fl_H → Prop} (K1 : svl (H 95) s n u ≤ a4 → ∀ m, hd_GoodsBookModel_squares_94_67 (cm_pg X xs) m H w s a4 a5 a6 (a7 + 1) Q) (K2 : ¬ svl (H 95) s n u ≤ a4 → ∀ m, hd_GoodsBookModel_squares_94_67 (cm_pg X xs) m H w s (svl (H 95) s n u) (c : Int) a6 (a7 + 1) Q) : ∀ (f g : Nat), g + f = n → ∀ N, hd_GoodsBookModel_squares_94_99 (cm_pg X xs) N H w s a4 a5 a6 a7 (c : Int) (psm (fun g => sqV (H 95) s g (dnn n u g)) g) (g : Int) Q
  | 0, g, hg, N => by
    have bd := hw.1
    unfold zr at bd
    have e : g = n := by omega
    subst e
    have hV : ∀ i, i < g → ∀ c, c < 2 → 0 ≤ zsal (H 95) i c * s ∧ zsal (H 95) i c * s ≤ 59940 := fun i hi c hc => sk_V hw hs (by omega) hc
    have sb := svl_bd hV (dnn_lt g u) g 0 (by omega)
    rw [fsm_0]
    refine vh_GoodsBookModel_squares_94_99 ?_
    rw [en, fl_wi (x := (g : Int)) (by omega) (by omega), fl_wi (x := fsm (fun w => sqV (H 95) s w (dnn g u w)) g 0) (by omega) (by omega), fl_wi (x := a4) (by omega) (by omega)]
    exact ⟨fun _ => ⟨fun c1 => ⟨fun _ m _ => K1 c1 m, fun c2 => absurd c1 c2⟩, fun c1 => ⟨fun c2 => absurd c2 c1, fun _ m _ => K2 c1 m⟩⟩, fun hh => absurd (Int.le_refl _) hh⟩
  | f + 1, g, hg, N => by
    have bd := hw.1
    unfold zr at bd
    have tb := thr_bd n (by omega)
    have nx := fun m => rl_sum hw en hs (w := w) (a5 := a5) (a6 := a6) (a7 := a7) hc hd h4 K1 K2 f (g + 1) (by omega) m
    have es : psm (fun g => sqV (H 95) s g (dnn n u g)) (g + 1) = psm (fun g => sqV (H 95) s g (dnn n u g)) g + sqV (H 95) s g (dnn n u g) := rfl
    have d3 := dnn_lt n u g
    refine vh_GoodsBookModel_squares_94_99 ?_
    rw [en, fl_wi (x := (n : Int)) (by omega) (by omega), fl_wi (x := (g : Int)) (by omega) (by omega), show ((g : Int) + 1) = ((g + 1 : Nat) : Int) by omega]
    refine ⟨fun hh => by omega, fun _ m1 _ => ck_mono (rc_digit (X := X) (xs := xs) (code := c) (g := g) (by omega) (by omega) rfl rfl) (fun r2 H2 h2 => ⟨_, h2.1, ?_⟩)⟩
    rw [h2.2, hd g (by omega), fl_wi (x := ((dnn n u g : Nat) : Int)) (by omega) (by omega)]
    refine ⟨fun c1 m' _ => ?_, fun c1 m' _ => ck_mono (rc_sale (X := X) (xs := xs) (g := g) (s := dnn n u g - 1) (by omega) (by omega) rfl (by omega)) (fun r3 H3 h3 => ⟨_, h3.1, fun m4 _ => ?_⟩)⟩
    · have := nx m'
      rw [es, show sqV (H 95) s g (dnn n u g) = 0 from if_pos (by omega)] at this
      exact this
    · have := nx m4
      rw [es, show sqV (H 95) s g (dnn n u g) = zsal (H 95) g (dnn n u g - 1) * s from if_neg (by omega)] at this
      rw [h3.2]; exact this
theorem rl_all {s : Int} {n : Nat} {H : fl_H} (hw : wf (H 95)) (en : H 95 1 = (n : Int)) (hs : 0 ≤ s ∧ s ≤ 60) {w : Int} (hw1 : fl_w w = w) (hwn : -1 ≤ w ∧ w < (n : Int)) : ∀ (f k : Nat), k + f = 3 ^ n → ∀ (N : Nat) (a4 a5 : Int), zqst (H 95) s n k a4 a5 → hd_GoodsBookModel_squares_94_67 (cm_pg X xs) N H w s a4 a5 ((3 ^ n : Nat) : Int) (k : Int) (fun r H' => r = some (if w = -1 then smx (H 95) s n 0 16 else ((spk (H 95) s n 0 16 w.toNat : Nat) : Int)) ∧ H' = H)
  | 0, k, hk, N, a4, a5, h => by
    have bd := hw.1
    unfold zr at bd
    have tb := thr_bd n (by omega)
    have hA : ∀ i, i < n → ∀ c, c < 2 → 1 ≤ zare (H 95) i c := fun i hi c hc => (wf_are hw (by omega) hc).1
    have e : k = 3 ^ n := by omega
    subst e
    obtain ⟨h1, cd, h2, h3, h4⟩ := zqst_end hA h
    subst h2
    refine vh_GoodsBookModel_squares_94_67 ?_
    rw [fl_wi (x := ((3 ^ n : Nat) : Int)) (by omega) (by omega), hw1]
    refine ⟨fun _ => ⟨fun w0 m' _ => ck_mono (rc_digit (X := X) (xs := xs) (code := cd) (g := w.toNat) (by omega) (by omega) rfl (by omega)) (fun r2 H2 h2 => ⟨_, h2.1, ?_, h2.2⟩), fun w0 => ⟨by rw [if_pos (by omega), h1], rfl⟩⟩, fun hh => absurd (Int.le_refl _) hh⟩
    rw [if_neg (by omega), h4 w.toNat (by omega)]
  | f + 1, k, hk, N, a4, a5, h => by
    have bd := hw.1
    unfold zr at bd
    have tb := thr_bd n (by omega)
    have hV : ∀ i, i < n → ∀ c, c < 2 → 0 ≤ zsal (H 95) i c * s ∧ zsal (H 95) i c * s ≤ 59940 := fun i hi c hc => sk_V hw hs (by omega) hc
    obtain ⟨u1, u2, u3⟩ := zqst_up h
    have sb := svl_bd hV (dnn_lt n k) n 0 (by omega)
    have b4 : -1 ≤ a4 ∧ a4 ≤ 400000 := by
      rcases h with ⟨a, -⟩ | ⟨m, -, -, m3, -⟩
      · omega
      · have := svl_bd hV (dnn_lt n m) n 0 (by omega)
        rw [m3]
        show -1 ≤ fsm _ n 0 ∧ fsm _ n 0 ≤ 400000
        omega
    have nx := fun m a4 a5 h => rl_all hw en hs hw1 hwn f (k + 1) (by omega) m a4 a5 h
    refine vh_GoodsBookModel_squares_94_67 ?_
    rw [fl_wi (x := ((3 ^ n : Nat) : Int)) (by omega) (by omega), fl_wi (x := (k : Int)) (by omega) (by omega)]
    refine ⟨fun hh => by omega, fun _ m1 _ => ck_mono (rc_turned (X := X) (xs := xs) (n := n) (u := k) (by omega) en (by omega) rfl) (fun r2 H2 h2 => ?_)⟩
    obtain ⟨⟨c, c1, c2, c3⟩, e2⟩ := h2
    refine ⟨_, c1, fun m3 _ => ?_⟩
    rw [e2]
    have hz := zcd_lt en c2
    refine ck_mono (rc_areaC (X := X) (xs := xs) hw (by omega) hz) (fun r4 H4 h4 => ⟨_, h4.1, ?_⟩)
    have ma := mar_bd hw hz (M := zM c) (fun _ _ q => q) 6 (by omega)
    rw [h4.2, fl_wi (x := mar (zA (H 95) c) (zM c) 6) (by omega) (by omega), mar_sq (by omega) en hz c3]
    refine ⟨fun nf m5 _ => ?_, fun fe => ?_⟩
    · rw [show ((k : Int) + 1) = ((k + 1 : Nat) : Int) by omega]
      exact nx m5 a4 a5 (u1 (by show ¬ fsm _ n 0 ≤ 16; omega))
    · refine rl_sum (X := X) (xs := xs) hw en hs c2 c3 b4 (fun v m5 => ?_) (fun v m5 => ?_) n 0 (by omega) N
      · rw [show ((k : Int) + 1) = ((k + 1 : Nat) : Int) by omega]
        exact nx m5 a4 a5 (u2 sb.1 v)
      · rw [show ((k : Int) + 1) = ((k + 1 : Nat) : Int) by omega]
        exact nx m5 _ _ (u3 (by show fsm _ n 0 ≤ 16; omega) v c c2 c3)
end
end
