noncomputable section
/-! L3: what a plan that is put in comes to: first broken, first crowded, the most that may come. -/
section
variable {X : Term} {xs : List Int32}
-- ---- a page's goods as a code
def ndg (r : Nat → Nat) (p g : Nat) : Nat := if r g ≠ 0 ∧ pgn (r g) = p then szn (r g) + 1 else 0
def ncd (r : Nat → Nat) (p : Nat) : Nat → Nat
  | 0 => 0
  | n + 1 => ncd r p n + 3 ^ n * ndg r p n
theorem ndg_lt (r : Nat → Nat) (p g : Nat) : ndg r p g < 3 := by
  have := szn_lt (r g)
  unfold ndg
  by_cases c : r g ≠ 0 ∧ pgn (r g) = p
  · rw [if_pos c]; omega
  · rw [if_neg c]; omega
theorem ncd_lt (r : Nat → Nat) (p : Nat) : ∀ n, ncd r p n < 3 ^ n
  | 0 => by show 0 < 1; omega
  | n + 1 => by
    have h1 := ncd_lt r p n
    have h2 := ndg_lt r p n
    have h3 : 3 ^ n * ndg r p n ≤ 3 ^ n * 2 := Nat.mul_le_mul_left _ (by omega)
    show ncd r p n + 3 ^ n * ndg r p n < 3 ^ (n + 1)
    rw [Nat.pow_succ]
    omega
theorem nco_ncd (r : Nat → Nat) (p : Nat) : ∀ n, psm (fun g => fco p g (r g)) n = ((ncd r p n : Nat) : Int)
  | 0 => rfl
  | n + 1 => by
    show psm (fun g => fco p g (r g)) n + fco p n (r n) = ((ncd r p n + 3 ^ n * ndg r p n : Nat) : Int)
    rw [nco_ncd r p n, Int.natCast_add, Int.natCast_mul]
    congr 1
    unfold fco ndg
    by_cases c : r n ≠ 0 ∧ pgn (r n) = p
    · rw [if_pos c, if_pos c]; rfl
    · rw [if_neg c, if_neg c]; simp
theorem ncd_dig (r : Nat → Nat) (p : Nat) : ∀ n k, k < n → dig (ncd r p n) k = ndg r p k
  | 0, k, h => absurd h (by omega)
  | n + 1, k, h => by
    show (ncd r p n + 3 ^ n * ndg r p n) / 3 ^ k % 3 = ndg r p k
    by_cases e : k = n
    · subst e
      rw [Nat.add_mul_div_left _ _ (Nat.pow_pos (by decide)), Nat.div_eq_of_lt (ncd_lt r p k), Nat.zero_add, Nat.mod_eq_of_lt (ndg_lt r p k)]
    · have ih := ncd_dig r p n k (by omega)
      obtain ⟨d, hd⟩ : ∃ d, n = k + (d + 1) := ⟨n - k - 1, by omega⟩
      have e2 : 3 ^ n * ndg r p n = 3 ^ k * (3 * (3 ^ d * ndg r p n)) := by
        rw [hd, Nat.pow_add, Nat.pow_succ]
        simp only [Nat.mul_assoc, Nat.mul_comm, Nat.mul_left_comm]
      rw [e2, Nat.add_mul_div_left _ _ (Nat.pow_pos (by decide)), Nat.add_mul_mod_self_left]
      exact ih
/-- the code of a page's goods -/
def zcn (r : Nat → Nat) (p : Nat) : Nat := ncd r p 6
theorem nco_eq (r : Nat → Nat) (p : Nat) : nco r p = ((zcn r p : Nat) : Int) := nco_ncd r p 6
theorem zcn_lt (r : Nat → Nat) (p : Nat) : zcn r p < 729 := ncd_lt r p 6
theorem zcn_dig (r : Nat → Nat) (p : Nat) {k : Nat} (h : k < 6) : dig (zcn r p) k = ndg r p k := ncd_dig r p 6 k h
theorem zcn_zcd {z : Nat → Int} {r : Nat → Nat} (h : rok z r) (p : Nat) : zcd z (zcn r p) := fun g hg hm => by
  have h0 := zM_t.mp hm
  rw [zcn_dig r p hg] at h0
  unfold ndg at h0
  by_cases c : r g ≠ 0 ∧ pgn (r g) = p
  · exact rok_in h hg c.1
  · rw [if_neg c] at h0; exact absurd rfl h0
-- ---- first ones
/-- the first of those from k on, f at most, for which P does not hold; -4 if none -/
def ffo (P : Nat → Prop) : Nat → Nat → Int
  | 0, _ => -4
  | f + 1, k => @ite Int (P k) (Classical.propDecidable _) (ffo P f (k + 1)) (k : Int)
theorem ffo_go {P : Nat → Prop} {f k : Nat} (h : P k) : ffo P (f + 1) k = ffo P f (k + 1) := if_pos h
theorem ffo_at {P : Nat → Prop} {f k : Nat} (h : ¬ P k) : ffo P (f + 1) k = (k : Int) := if_neg h
theorem ffo_m4 {P : Nat → Prop} : ∀ {f k : Nat}, ffo P f k = -4 ↔ ∀ j, k ≤ j → j < k + f → P j
  | 0, k => ⟨fun _ j a b => by omega, fun _ => rfl⟩
  | f + 1, k => by
    by_cases h : P k
    · rw [ffo_go h, ffo_m4 (f := f) (k := k + 1)]
      constructor
      · intro q j a b
        by_cases e : j = k
        · rw [e]; exact h
        · exact q j (by omega) (by omega)
      · intro q j a b
        exact q j (by omega) (by omega)
    · rw [ffo_at h]
      exact ⟨fun q => by omega, fun q => absurd (q k (Nat.le_refl _) (by omega)) h⟩
theorem ffo_rg (P : Nat → Prop) : ∀ (f k : Nat), ffo P f k = -4 ∨ ((k : Int) ≤ ffo P f k ∧ ffo P f k < ((k + f : Nat) : Int))
  | 0, k => Or.inl rfl
  | f + 1, k => by
    by_cases h : P k
    · rw [ffo_go h]
      rcases ffo_rg P f (k + 1) with q | ⟨q1, q2⟩
      · exact Or.inl q
      · exact Or.inr ⟨by omega, by omega⟩
    · rw [ffo_at h]
      exact Or.inr ⟨Int.le_refl _, by omega⟩
def zfb (z : Nat → Int) (r : Nat → Nat) : Int := ffo (zke z r) (z 2).toNat 0
def zfc (z : Nat → Int) (r : Nat → Nat) : Int := ffo (fun p => zfit z (zcn r p)) (z 0).toNat 0
/-- sound -/
def zso (z : Nat → Int) (r : Nat → Nat) : Prop := (∀ b : Nat, (b : Int) < z 2 → zke z r b) ∧ ∀ p : Nat, (p : Int) < z 0 → zfit z (zcn r p)
theorem zfb_ok {z : Nat → Int} {r : Nat → Nat} : zfb z r = -4 ↔ ∀ b : Nat, (b : Int) < z 2 → zke z r b :=
  ffo_m4.trans ⟨fun h b hb => h b (by omega) (by omega), fun h j _ hj => h j (by omega)⟩
theorem zfc_ok {z : Nat → Int} {r : Nat → Nat} : zfc z r = -4 ↔ ∀ p : Nat, (p : Int) < z 0 → zfit z (zcn r p) :=
  ffo_m4.trans ⟨fun h b hb => h b (by omega) (by omega), fun h j _ hj => h j (by omega)⟩
theorem dc_broken {m : Nat} {z : Nat → Int} {r : Nat → Nat} {H : fl_H} (h : dz z H) (hw : wf z) (hd : dr z r H) : ck (cm_pg X xs) m cm_m27 [.index 69] H (fun r' H' => r' = some (zfb z r) ∧ H' = H) := by
  obtain ⟨-, -, -, -, z21, z22⟩ := hw.1
  obtain ⟨B, hB⟩ : ∃ B : Nat, z 2 = (B : Int) := ⟨(z 2).toNat, by omega⟩
  have eB : (z 2).toNat = B := by omega
  have lp : ∀ (f k : Nat), k + f = B → ∀ (N : Nat), hd_Draft_firstBroken_69_2 (cm_pg X xs) N H (k : Int) (fun r' H' => r' = some (ffo (zke z r) f k) ∧ H' = H) := by
    intro f
    induction f with
    | zero =>
      intro k hk N
      refine vh_Draft_firstBroken_69_2 ?_
      rw [gz_2 h.1, hB, fl_wi (x := (B : Int)) (by omega) (by omega), fl_wi (x := (k : Int)) (by omega) (by omega)]
      exact ⟨fun _ => ⟨rfl, rfl⟩, fun hh => by omega⟩
    | succ f ih =>
      intro k hk N
      have ek : (k : Int) + 1 = ((k + 1 : Nat) : Int) := by omega
      refine vh_Draft_firstBroken_69_2 ?_
      rw [gz_2 h.1, hB, fl_wi (x := (B : Int)) (by omega) (by omega), fl_wi (x := (k : Int)) (by omega) (by omega), ek]
      refine ⟨fun hh => by omega, fun _ m hm => ck_mono (dc_keeps (X := X) (xs := xs) (b := k) h hw hd (by omega)) (fun r2 H2 h2 => ⟨_, h2.1, ?_⟩)⟩
      rw [h2.2, fb_0]
      refine ⟨fun q => ⟨by rw [ffo_at q], rfl⟩, fun q m' hm' => ?_⟩
      rw [ffo_go (Classical.not_not.mp q)]
      exact ih (k + 1) (by omega) m'
  have := lp B 0 (by omega) m
  unfold zfb
  rw [eB]
  exact ve_Draft_firstBroken_69 this
/-- the floor is measured, what is known is right -/
def flo (z : Nat → Int) (H : fl_H) : Prop := H 64 5 = 1 ∧ fm z H ∧ kn z H
theorem flo_oc {z : Nat → Int} {P : Nat → Prop} {H G : fl_H} (h : flo z H) (o : oc P H G) (hp : ∀ c, 64 ≤ c → c ≤ 67 → ¬ P c) : flo z G := by
  obtain ⟨h1, h2, h3⟩ := h
  refine ⟨by rw [o 64 (hp 64 (by omega) (by omega))]; exact h1, fun g hg s hs => ?_, fun code hc hz => ?_⟩
  · rw [o 67 (hp 67 (by omega) (by omega)), o 66 (hp 66 (by omega) (by omega))]; exact h2 g hg s hs
  · rw [o 65 (hp 65 (by omega) (by omega))]; exact h3 code hc hz
theorem dc_lies {m code : Nat} {z : Nat → Int} {H : fl_H} (h : flo z H) (hw : wf z) (h7 : code < 729) (hc : zcd z code) : ck (cm_pg X xs) m cm_m35 [.index 64, fl_t (code : Int)] H (fun r H' => r = some (fl_b (zfit z code)) ∧ oc pL H H' ∧ flo z H') :=
  ck_mono (fd_lies (X := X) (xs := xs) h.2.1 hw h.2.2 h7 hc) (fun r H' k => ⟨k.1, k.2.1, by rw [k.2.1 64 (by unfold pL; omega)]; exact h.1, fun g hg s hs => by rw [k.2.1 67 (by unfold pL; omega), k.2.1 66 (by unfold pL; omega)]; exact h.2.1 g hg s hs, k.2.2⟩)
theorem dr_oc {z : Nat → Int} {r : Nat → Nat} {P : Nat → Prop} {H G : fl_H} (h : dr z r H) (o : oc P H G) (hp : ∀ c, 71 ≤ c → c ≤ 77 → ¬ P c) : dr z r G := by
  obtain ⟨h1, h2, h3⟩ := h
  exact ⟨h1, fun g hg => by rw [o 71 (hp 71 (by omega) (by omega)), o 72 (hp 72 (by omega) (by omega)), o 73 (hp 73 (by omega) (by omega))]; exact h2 g hg, ds_oc h3 (fun c a b => o c (hp c (by omega) b))⟩
theorem dc_crowded {m : Nat} {z : Nat → Int} {r : Nat → Nat} {H : fl_H} (h : dz z H) (hw : wf z) (hd : dr z r H) (hf : flo z H) : ck (cm_pg X xs) m cm_m28 [.index 69] H (fun r' H' => r' = some (zfc z r) ∧ oc pL H H' ∧ flo z H') := by
  obtain ⟨z01, z02, -⟩ := hw.1
  obtain ⟨P, hP⟩ : ∃ P : Nat, z 0 = (P : Int) := ⟨(z 0).toNat, by omega⟩
  have eP : (z 0).toNat = P := by omega
  have lp : ∀ (f k : Nat), k + f = P → ∀ (N : Nat) (G : fl_H), oc pL H G → flo z G → hd_Draft_firstCrowded_69_2 (cm_pg X xs) N G (k : Int) (fun r' H' => r' = some (ffo (fun p => zfit z (zcn r p)) f k) ∧ oc pL H H' ∧ flo z H') := by
    intro f
    induction f with
    | zero =>
      intro k hk N G oG fG
      refine vh_Draft_firstCrowded_69_2 ?_
      rw [oG 69 (by unfold pL; omega), h.2.1, hP, fl_wi (x := (P : Int)) (by omega) (by omega), fl_wi (x := (k : Int)) (by omega) (by omega)]
      exact ⟨fun _ => ⟨rfl, oG, fG⟩, fun hh => by omega⟩
    | succ f ih =>
      intro k hk N G oG fG
      have ek : (k : Int) + 1 = ((k + 1 : Nat) : Int) := by omega
      refine vh_Draft_firstCrowded_69_2 ?_
      rw [oG 69 (by unfold pL; omega), h.2.1, hP, fl_wi (x := (P : Int)) (by omega) (by omega), fl_wi (x := (k : Int)) (by omega) (by omega), Int.toNat_natCast, oG 76 (by unfold pL; omega), (hd.2.2.1 k (by omega)).2.2, nco_eq, ek]
      refine ⟨fun hh => by omega, fun _ _ m hm => ck_mono (dc_lies (X := X) (xs := xs) fG hw (zcn_lt r k) (zcn_zcd hd.1 k)) (fun r3 H3 h3 => ⟨_, h3.1, ?_⟩)⟩
      rw [fb_0]
      refine ⟨fun q => ⟨by rw [ffo_at (P := fun p => zfit z (zcn r p)) q], oc_trans oG h3.2.1, h3.2.2⟩, fun q m' hm' => ?_⟩
      rw [ffo_go (P := fun p => zfit z (zcn r p)) (Classical.not_not.mp q)]
      exact ih (k + 1) (by omega) m' H3 (oc_trans oG h3.2.1) h3.2.2
  have := lp P 0 (by omega) m H (oc_refl _ _) hf
  unfold zfc
  rw [eP]
  exact ve_Draft_firstCrowded_69 this
theorem dc_fitAt {m g : Nat} {z : Nat → Int} {r : Nat → Nat} {H : fl_H} {e : Int} (h : dz z H) (hw : wf z) (hd : dr z r H) (hf : flo z H) (hg : g < 6) (he : e = (g : Int)) : ck (cm_pg X xs) m cm_m26 [.index 69, fl_t e] H (fun r' H' => r' = some (fl_b (r g = 0 ∨ zfit z (zcn r (pgn (r g))))) ∧ oc pL H H' ∧ flo z H') := by
  subst he
  obtain ⟨i1, i2, i3⟩ := hd.2.1 g hg
  have rg := (hd.1 g hg).1
  have z02 := hw.1.2.1
  refine ve_Draft_isFitAt_69 ?_
  rw [fl_wi (x := (g : Int)) (by omega) (by omega), Int.toNat_natCast, i1, fl_wi (x := ((r g : Nat) : Int)) (by omega) (by omega)]
  refine fun _ => ⟨fun h0 => ⟨by rw [fl_b1 (Or.inl (by omega))], oc_refl _ _, hf⟩, fun h0 _ => ?_⟩
  have r0 : r g ≠ 0 := by omega
  obtain ⟨p1, p2, p3⟩ := rok_pg hw hd.1 hg r0
  rw [i2, if_neg r0, fl_wi (x := ((pgn (r g) : Nat) : Int)) (by omega) (by omega), Int.toNat_natCast, (hd.2.2.1 _ p2).2.2, nco_eq]
  refine fun _ m hm => ck_mono (dc_lies (X := X) (xs := xs) hf hw (zcn_lt r _) (zcn_zcd hd.1 _)) (fun r5 H5 h5 => ⟨_, h5.1, ?_⟩)
  rw [fb_0]
  exact ⟨fun q => ⟨by rw [fl_b0 (fun hh => hh.elim r0 q)], h5.2⟩, fun q => ⟨by rw [fl_b1 (Or.inr (Classical.not_not.mp q))], h5.2⟩⟩
-- ---- the most that a good can bring that is open
theorem zmv_bd {z : Nat → Int} {r : Nat → Nat} (hw : wf z) {g o p s : Nat} (hg : (g : Int) < z 1) (hs : s < 2) (hp : p < 3) (ho : 1 ≤ o) (ho6 : o ≤ 6) : 0 ≤ zmv z r g o p s ∧ zmv z r g o p s ≤ 200000 ∧ 0 ≤ (((if zknd z g = 3 then 2 else 1) * zsal z g s + (if zknd z g = 1 then z 4 else 0) * (ncr r p + (o : Int) - 1)) * zvw z p) ∧ (((if zknd z g = 3 then 2 else 1) * zsal z g s + (if zknd z g = 1 then z 4 else 0) * (ncr r p + (o : Int) - 1)) * zvw z p) ≤ 200000 := by
  obtain ⟨s1, s2⟩ := wf_sal hw hg hs
  obtain ⟨v1, v2⟩ := wf_vw hw hp
  obtain ⟨c1, c2⟩ := ncr_bd r p
  obtain ⟨n1, n2⟩ := nri_bd z r (zfam z g)
  have l4 := hw.2.1.2.1
  have a1 : 0 ≤ (if zknd z g = 3 then 2 else 1) * zsal z g s ∧ (if zknd z g = 3 then 2 else 1) * zsal z g s ≤ 1998 := by
    by_cases k : zknd z g = 3
    · rw [if_pos k]; omega
    · rw [if_neg k]; omega
  have a2 : 0 ≤ (if zknd z g = 1 then z 4 else 0) * (ncr r p + (o : Int) - 1) ∧ (if zknd z g = 1 then z 4 else 0) * (ncr r p + (o : Int) - 1) ≤ 99 * 11 := by
    by_cases k : zknd z g = 1
    · rw [if_pos k]
      exact ⟨Int.mul_nonneg l4.1 (by omega), Int.mul_le_mul l4.2 (by omega) (by omega) (by omega)⟩
    · rw [if_neg k, Int.zero_mul]; omega
  have a3 : 0 ≤ (((if zknd z g = 3 then 2 else 1) * zsal z g s + (if zknd z g = 1 then z 4 else 0) * (ncr r p + (o : Int) - 1)) * zvw z p) := Int.mul_nonneg (by omega) v1
  have a4 : (((if zknd z g = 3 then 2 else 1) * zsal z g s + (if zknd z g = 1 then z 4 else 0) * (ncr r p + (o : Int) - 1)) * zvw z p) ≤ 3087 * 60 := Int.mul_le_mul (by omega) v2 v1 (by omega)
  refine ⟨?_, ?_, a3, by omega⟩
  · unfold zmv
    exact Int.tdiv_nonneg a3 (by by_cases k : zknd z g = 2
                                 · rw [if_pos k]; omega
                                 · rw [if_neg k]; omega)
  · unfold zmv
    have := Int.tdiv_le_self (b := if zknd z g = 2 then max (1 + nri z r (zfam z g)) 1 else 1) a3
    omega
theorem dc_most {m g o : Nat} {z : Nat → Int} {r : Nat → Nat} {H : fl_H} {e1 e2 : Int} (h : dz z H) (hw : wf z) (hd : dr z r H) (hg : (g : Int) < z 1) (ho : 1 ≤ o) (ho6 : o ≤ 6) (h1 : e1 = (g : Int)) (h2 : e2 = (o : Int)) : ck (cm_pg X xs) m cm_m23 [.index 69, fl_t e1, fl_t e2] H (fun r' H' => r' = some (zmo z r g o) ∧ H' = H) := by
  subst h1; subst h2
  obtain ⟨z01, z02, z11, z12, -⟩ := hw.1
  have g6 : g < 6 := by omega
  obtain ⟨P, hP⟩ : ∃ P : Nat, z 0 = (P : Int) := ⟨(z 0).toNat, by omega⟩
  have eP : (z 0).toNat = P := by omega
  obtain ⟨k1, k2⟩ := wf_knd hw hg
  obtain ⟨f, hf⟩ : ∃ f : Nat, zfam z g = (f : Int) := ⟨(zfam z g).toNat, by omega⟩
  have q77 : H 77 f = nri z r (zfam z g) := by rw [hf]; exact hd.2.2.2 f (by omega)
  obtain ⟨n1, n2⟩ := nri_bd z r (zfam z g)
  have mp_bd : ∀ p, p ≤ 3 → 0 ≤ zmp z r g o p ∧ zmp z r g o p ≤ 200000 := by
    intro p
    induction p with
    | zero => intro _; exact ⟨Int.le_refl _, by show (0 : Int) ≤ 200000; omega⟩
    | succ p ih =>
      intro hp
      have ih := ih (by omega)
      have b0 := zmv_bd (r := r) hw hg (s := 0) (by omega) (p := p) (by omega) ho ho6
      have b1 := zmv_bd (r := r) hw hg (s := 1) (by omega) (p := p) (by omega) ho ho6
      have st : ∀ s (x : Int), (0 ≤ x ∧ x ≤ 200000) → (0 ≤ zmv z r g o p s ∧ zmv z r g o p s ≤ 200000) → 0 ≤ zms z r g o p s x ∧ zms z r g o p s x ≤ 200000 := fun s x hx hv => by
        unfold zms
        by_cases c : nfi z r p + zare z g s ≤ 16
        · rw [if_pos c]; omega
        · rw [if_neg c]; exact hx
      exact st 1 _ (st 0 _ ih ⟨b0.1, b0.2.1⟩) ⟨b1.1, b1.2.1⟩
  have st_bd : ∀ p, p < 3 → ∀ s, s < 2 → ∀ x : Int, (0 ≤ x ∧ x ≤ 200000) → 0 ≤ zms z r g o p s x ∧ zms z r g o p s x ≤ 200000 := fun p hp s hs x hx => by
    have b := zmv_bd (r := r) hw hg (s := s) hs (p := p) hp ho ho6
    unfold zms
    by_cases c : nfi z r p + zare z g s ≤ 16
    · rw [if_pos c]; omega
    · rw [if_neg c]; exact hx
  have lp : ∀ (f p : Nat), p + f = P → ∀ (N : Nat), hd_Draft_mostOf_69_85 (cm_pg X xs) N H (g : Int) (o : Int) (if zknd z g = 3 then 2 else 1) (if zknd z g = 2 then max (1 + nri z r (zfam z g)) 1 else 1) (if zknd z g = 1 then z 4 else 0) (zmp z r g o p) (p : Int) (fun r' H' => r' = some (zmo z r g o) ∧ H' = H) := by
    intro f
    induction f with
    | zero =>
      intro p hp N
      have e : p = P := by omega
      subst e
      refine vh_Draft_mostOf_69_85 ?_
      rw [h.2.1, hP]
      exact ⟨fun _ => ⟨by unfold zmo; rw [eP], rfl⟩, fun hh => absurd (Int.le_refl _) hh⟩
    | succ f ih =>
      intro p hp N
      have ep : (p : Int) + 1 = ((p + 1 : Nat) : Int) := by omega
      have p3 : p < 3 := by omega
      have pb := mp_bd p (by omega)
      refine vh_Draft_mostOf_69_85 ?_
      rw [h.2.1, hP, fl_wi (x := (P : Int)) (by omega) (by omega), fl_wi (x := (p : Int)) (by omega) (by omega)]
      refine ⟨fun hh => by omega, fun _ => ?_⟩
      -- a size
      have sz : ∀ (N : Nat) (s : Nat) (x : Int) (e : Int), s < 2 → e = ((2 * g + s : Nat) : Int) → (0 ≤ x ∧ x ≤ 200000) → (∀ m, m < N → hd_Draft_mostOf_69_99 (cm_pg X xs) m H (g : Int) (o : Int) (if zknd z g = 3 then 2 else 1) (if zknd z g = 2 then max (1 + nri z r (zfam z g)) 1 else 1) (if zknd z g = 1 then z 4 else 0) (zms z r g o p s x) (p : Int) (((2 * g + s : Nat) : Int) + 1) (fun r' H' => r' = some (zmo z r g o) ∧ H' = H)) → hd_Draft_mostOf_69_99 (cm_pg X xs) N H (g : Int) (o : Int) (if zknd z g = 3 then 2 else 1) (if zknd z g = 2 then max (1 + nri z r (zfam z g)) 1 else 1) (if zknd z g = 1 then z 4 else 0) x (p : Int) e (fun r' H' => r' = some (zmo z r g o) ∧ H' = H) := by
        intro N s x e hs he hx K
        subst he
        obtain ⟨b1, b2, b3, b4⟩ := zmv_bd (r := r) hw hg (s := s) hs (p := p) p3 ho ho6
        obtain ⟨f1, f2⟩ := nfi_bd hw hd.1 p
        have ar := wf_are hw hg hs
        obtain ⟨d1, d2, d3⟩ := hd.2.2.1 p p3
        refine vh_Draft_mostOf_69_99 ?_
        rw [fl_wi (x := 2 * (g : Int) + 1) (by omega) (by omega), fl_wi (x := ((2 * g + s : Nat) : Int)) (by omega) (by omega), fl_wi (x := (p : Int)) (by omega) (by omega), Int.toNat_natCast, Int.toNat_natCast]
        refine ⟨fun hh => by omega, fun _ _ m hm => ck_mono (dc_area (X := X) (xs := xs) (g := g) (s := s) h.1 g6 hs rfl) (fun r4 H4 h4 => ⟨_, h4.1, ?_⟩)⟩
        have e4 := h4.2
        subst e4
        rw [d1, d2, gz_sl h.1 g6 hs, h.2.2 p (by omega), fl_wi (x := nfi z r p + zare z g s) (by omega) (by omega)]
        refine ⟨fun c _ _ _ m' hm' => ?_, fun c m' hm' => ?_⟩
        · have e1 : max (fl_w x) (fl_w (fl_div (((if zknd z g = 3 then 2 else 1) * zsal z g s + (if zknd z g = 1 then z 4 else 0) * (ncr r p + (o : Int) - 1)) * zvw z p) (if zknd z g = 2 then max (1 + nri z r (zfam z g)) 1 else 1))) = zms z r g o p s x := by
            have ed : fl_div (((if zknd z g = 3 then 2 else 1) * zsal z g s + (if zknd z g = 1 then z 4 else 0) * (ncr r p + (o : Int) - 1)) * zvw z p) (if zknd z g = 2 then max (1 + nri z r (zfam z g)) 1 else 1) = zmv z r g o p s := by
              unfold fl_div zmv
              rw [fl_wi (by omega) (by omega)]
              congr 1
              by_cases k : zknd z g = 2
              · rw [if_pos k]; exact fl_wi (by omega) (by omega)
              · rw [if_neg k]; rfl
            rw [ed, fl_wi (x := x) (by omega) (by omega), fl_wi (x := zmv z r g o p s) (by omega) (by omega)]
            unfold zms
            rw [if_pos c]
          rw [e1]
          exact K m' (by omega)
        · have e1 : zms z r g o p s x = x := by
            unfold zms
            rw [if_neg c]
          have := K m' (by omega)
          rw [e1] at this
          exact this
      refine sz N 0 (zmp z r g o p) _ (by omega) (by omega) pb (fun m1 hm1 => ?_)
      refine sz m1 1 _ _ (by omega) (by omega) (st_bd p p3 0 (by omega) _ pb) (fun m2 hm2 => ?_)
      refine vh_Draft_mostOf_69_99 ?_
      rw [fl_wi (x := 2 * (g : Int) + 1) (by omega) (by omega), fl_wi (x := ((2 * g + 1 : Nat) : Int) + 1) (by omega) (by omega), ep]
      exact ⟨fun _ m3 hm3 => ih (p + 1) (by omega) m3, fun hh => absurd (show 2 * (g : Int) + 1 < ((2 * g + 1 : Nat) : Int) + 1 by omega) hh⟩
  have start := lp P 0 (by omega) m
  refine ve_Draft_mostOf_69 ?_
  rw [fl_wi (x := (g : Int)) (by omega) (by omega), Int.toNat_natCast, gz_kd h.1 g6, gz_fm h.1 g6, gz_4 h.1, fl_wi (x := zknd z g) (by omega) (by omega), hf, fl_wi (x := (f : Int)) (by omega) (by omega), Int.toNat_natCast, q77, fl_wi (x := 1 + nri z r (zfam z g)) (by omega) (by omega), w_1]
  refine fun _ => ⟨fun k3 => ⟨fun k2' => by omega, fun _ => ⟨fun k1' => by omega, fun _ => ?_⟩⟩, fun k3 => ⟨fun k2' _ _ => ⟨fun k1' => by omega, fun _ => ?_⟩, fun k2' => ⟨fun k1' => ?_, fun k1' => ?_⟩⟩⟩
  · rw [if_pos k3, if_neg (by omega), if_neg (by omega)] at start; exact start
  · rw [if_neg k3, if_pos k2', if_neg (by omega)] at start; exact start
  · rw [if_neg k3, if_neg k2', if_pos k1'] at start; exact start
  · rw [if_neg k3, if_neg k2', if_neg k1'] at start; exact start
/-- the most that open goods can bring -/
def zho (z : Nat → Int) (r : Nat → Nat) (d : Nat) : Int := psm (fun i => zmo z r (d + i) ((z 1).toNat - d)) ((z 1).toNat - d)
theorem dc_hope {m d : Nat} {z : Nat → Int} {r : Nat → Nat} {H : fl_H} {e1 : Int} (h : dz z H) (hw : wf z) (hd : dr z r H) (hdd : d ≤ (z 1).toNat) (he : e1 = (d : Int)) : ck (cm_pg X xs) m cm_m22 [.index 69, fl_t e1] H (fun r' H' => r' = some (zho z r d) ∧ H' = H) := by
  subst he
  obtain ⟨-, -, z11, z12, -⟩ := hw.1
  obtain ⟨n, hn⟩ : ∃ n : Nat, z 1 = (n : Int) := ⟨(z 1).toNat, by omega⟩
  have en : (z 1).toNat = n := by omega
  have lp : ∀ (f k : Nat), k + f = n - d → ∀ (N : Nat), hd_Draft_hope_69_4 (cm_pg X xs) N H (d : Int) (psm (fun i => zmo z r (d + i) (n - d)) k) (((d + k : Nat)) : Int) (fun r' H' => r' = some (zho z r d) ∧ H' = H) := by
    intro f
    induction f with
    | zero =>
      intro k hk N
      have e : k = n - d := by omega
      subst e
      refine vh_Draft_hope_69_4 ?_
      rw [gz_1 h.1, hn, fl_wi (x := (n : Int)) (by omega) (by omega), fl_wi (x := ((d + (n - d) : Nat) : Int)) (by omega) (by omega)]
      exact ⟨fun _ => ⟨by unfold zho; rw [en], rfl⟩, fun hh => by omega⟩
    | succ f ih =>
      intro k hk N
      have ek : ((d + k : Nat) : Int) + 1 = ((d + (k + 1) : Nat) : Int) := by omega
      refine vh_Draft_hope_69_4 ?_
      rw [gz_1 h.1, hn, fl_wi (x := (n : Int)) (by omega) (by omega), fl_wi (x := ((d + k : Nat) : Int)) (by omega) (by omega), ek]
      refine ⟨fun hh => by omega, fun _ m hm => ck_mono (dc_most (X := X) (xs := xs) (g := d + k) (o := n - d) h hw hd (by omega) (by omega) (by omega) rfl (by omega)) (fun r2 H2 h2 => ⟨_, h2.1, fun m' hm' => ?_⟩)⟩
      rw [h2.2]
      exact ih (k + 1) (by omega) m'
  exact ve_Draft_hope_69 (lp (n - d) 0 (by omega) m)
end
end
