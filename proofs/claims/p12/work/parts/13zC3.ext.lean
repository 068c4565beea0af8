noncomputable section
/-! L3: what of a book a plan's worth hangs on: not on years, not on choices. -/
section
/-- alike but for years and choices -/
def zlk (z w : Nat → Int) : Prop := ∀ j, ¬ (j = 3 ∨ (62 ≤ j ∧ j < 68) ∨ 116 ≤ j) → w j = z j
theorem zlk_sy {z w : Nat → Int} (h : zlk z w) : zlk w z := fun j hj => (h j hj).symm
theorem zlk_rf (z : Nat → Int) : zlk z z := fun _ _ => rfl
theorem xk_rok {z w : Nat → Int} (h : zlk z w) {r : Nat → Nat} (k : rok z r) : rok w r := fun g hg => by
  rw [h 0 (by omega), h 1 (by omega)]; exact k g hg
theorem xk_rk {z w : Nat → Int} (h : zlk z w) {r : Nat → Nat} (k : rk z r) : rk w r := ⟨xk_rok h k.1, k.2⟩
theorem xk_are {z w : Nat → Int} (h : zlk z w) {g s : Nat} (hg : g < 6) (hs : s < 2) : zare w g s = zare z g s := by
  unfold zare; rw [h _ (by omega), h _ (by omega)]
theorem xk_sal {z w : Nat → Int} (h : zlk z w) {g s : Nat} (hg : g < 6) (hs : s < 2) : zsal w g s = zsal z g s := by
  unfold zsal; rw [h _ (by omega)]
theorem xk_knd {z w : Nat → Int} (h : zlk z w) {g : Nat} (hg : g < 6) : zknd w g = zknd z g := by
  unfold zknd; rw [h _ (by omega)]
theorem xk_fam {z w : Nat → Int} (h : zlk z w) {g : Nat} (hg : g < 6) : zfam w g = zfam z g := by
  unfold zfam; rw [h _ (by omega)]
theorem xk_vw {z w : Nat → Int} (h : zlk z w) {p : Nat} (hp : p < 3) : zvw w p = zvw z p := by
  unfold zvw; rw [h _ (by omega)]
theorem xk_mx {z w : Nat → Int} (h : zlk z w) {g : Nat} (hg : g < 6) : zmx w g = zmx z g := by
  unfold zmx; rw [xk_are h hg (by omega), xk_are h hg (by omega)]
theorem xk_op {z w : Nat → Int} (h : zlk z w) {G : Nat} (hG : G ≤ 6) : ∀ k, zop w G k = zop z G k
  | 0 => rfl
  | k + 1 => by
    show zop w G k + zmx w (G - (k + 1)) = zop z G k + zmx z (G - (k + 1))
    rw [xk_op h hG k]
    by_cases e : G - (k + 1) < 6
    · rw [xk_mx h e]
    · omega
theorem xk_nfi {z w : Nat → Int} (h : zlk z w) (r : Nat → Nat) (p : Nat) : nfi w r p = nfi z r p :=
  psm_congr (fun g hg => by unfold ffi; rw [xk_are h hg (szn_lt _)])
theorem xk_nri {z w : Nat → Int} (h : zlk z w) (r : Nat → Nat) (f : Int) : nri w r f = nri z r f :=
  psm_congr (fun g hg => by unfold fri; rw [xk_knd h hg, xk_fam h hg])
theorem xk_sh {z w : Nat → Int} (h : zlk z w) (hw : wf z) {r : Nat → Nat} (k : rok z r) {g : Nat} (hg : (g : Int) < z 1) (hr : r g ≠ 0) (o : Nat) : zsh w r g o = zsh z r g o := by
  have g6 : g < 6 := by have := hw.1; unfold zr at this; omega
  have p3 := (rok_pg hw k g6 hr).2.1
  have e : zpl w r g = zpl z r g := by unfold zpl; rw [xk_sal h g6 (szn_lt _), xk_vw h p3]
  unfold zsh
  rw [e, xk_knd h g6, h 4 (by omega), xk_vw h p3, xk_nri h, xk_fam h g6, xk_nfi h, h 1 (by omega), xk_op h (by have := hw.1; unfold zr at this; omega)]
theorem xk_us {z w : Nat → Int} (h : zlk z w) (r : Nat → Nat) : zus w r = zus z r := by
  unfold zus; rw [h 0 (by omega)]
theorem xk_br {z w : Nat → Int} (h : zlk z w) (hw : wf z) {r : Nat → Nat} (k : rok z r) {d : Nat} (hd : d ≤ (z 1).toNat) : zbr w r d = zbr z r d := by
  unfold zbr
  rw [xk_us h, h 5 (by omega), h 6 (by omega), h 1 (by omega)]
  have e : psm (fun g => if r g = 0 then 0 else zsh w r g ((z 1).toNat - d)) d = psm (fun g => if r g = 0 then 0 else zsh z r g ((z 1).toNat - d)) d := psm_congr (fun g hg => by
    (try dsimp only)
    by_cases q : r g = 0
    · rw [if_pos q, if_pos q]
    · rw [if_neg q, if_neg q, xk_sh h hw k (by have := hw.1; unfold zr at this; omega) q])
  rw [e]
theorem xk_b {z w : Nat → Int} (h : zlk z w) {b : Nat} (hb : b < 12) : w (68 + 4 * b) = z (68 + 4 * b) ∧ w (69 + 4 * b) = z (69 + 4 * b) ∧ w (70 + 4 * b) = z (70 + 4 * b) ∧ w (71 + 4 * b) = z (71 + 4 * b) :=
  ⟨h _ (by omega), h _ (by omega), h _ (by omega), h _ (by omega)⟩
theorem xk_ga {z w : Nat → Int} (h : zlk z w) (hw : wf z) {r : Nat → Nat} (k : rok z r) {b : Nat} (hb : (b : Int) < z 2) : zga w r b = zga z r b := by
  obtain ⟨b12, a6, c6, -⟩ := wf_bd hw hb
  obtain ⟨e1, e2, e3, e4⟩ := xk_b h b12
  unfold zga
  rw [e1, e2, e3, e4]
  by_cases q : r (z (69 + 4 * b)).toNat = 0 ∨ r (z (70 + 4 * b)).toNat = 0
  · rw [if_pos q, if_pos q]
  · rw [if_neg q, if_neg q]
    have p1 := (rok_pg hw k a6 (fun e => q (Or.inl e))).2.1
    have p2 := (rok_pg hw k c6 (fun e => q (Or.inr e))).2.1
    rw [xk_vw h p1, xk_vw h p2]
theorem xk_wo {z w : Nat → Int} (h : zlk z w) (hw : wf z) {r : Nat → Nat} (k : rok z r) : zwo w r = zwo z r := by
  unfold zwo
  rw [h 1 (by omega), h 2 (by omega), xk_br h hw k (Nat.le_refl _)]
  have e : psm (zga w r) (z 2).toNat = psm (zga z r) (z 2).toNat := psm_congr (fun b hb => xk_ga h hw k (by have := hw.1; unfold zr at this; omega))
  rw [e]
theorem xk_ke {z w : Nat → Int} (h : zlk z w) {r : Nat → Nat} {b : Nat} (hb : b < 12) : zke w r b ↔ zke z r b := by
  obtain ⟨e1, e2, e3, -⟩ := xk_b h hb
  unfold zke
  rw [e1, e2, e3]
theorem xk_so {z w : Nat → Int} (h : zlk z w) (hw : wf z) (r : Nat → Nat) : zso w r ↔ zso z r := by
  have b2 : z 2 ≤ 12 := by have := hw.1; unfold zr at this; omega
  unfold zso
  rw [h 0 (by omega), h 2 (by omega)]
  refine ⟨fun k => ⟨fun b hb => (xk_ke h (by omega)).mp (k.1 b hb), fun p hp => (zfit_ext (fun j h1 h2 => h j (by omega)) _).mp (k.2 p hp)⟩, fun k => ⟨fun b hb => (xk_ke h (by omega)).mpr (k.1 b hb), fun p hp => (zfit_ext (fun j h1 h2 => h j (by omega)) _).mpr (k.2 p hp)⟩⟩
theorem xk_bs {z w : Nat → Int} (h : zlk z w) (hw : wf z) {S S' : (Nat → Nat) → Prop} (hS : ∀ s, S s ↔ S' s) (hk : ∀ s, S s → rk z s) {A : Int} {R : Nat → Nat} (k : zbs z S A R) : zbs w S' A R := by
  obtain ⟨k1, k2, k3, k4⟩ := k
  refine ⟨(hS R).mp k1, (xk_so h hw R).mpr k2, by rw [xk_wo h hw (hk R k1).1]; exact k3, fun s hs so => ?_⟩
  have hs' := (hS s).mpr hs
  rw [xk_wo h hw (hk s hs').1]
  exact k4 s hs' ((xk_so h hw s).mp so)
theorem xk_bs0 {z w : Nat → Int} (h : zlk z w) (hw : wf z) {A : Int} {R : Nat → Nat} (k : zbs z (rk z) A R) : zbs w (rk w) A R :=
  xk_bs h hw (fun _ => ⟨xk_rk h, xk_rk (zlk_sy h)⟩) (fun _ q => q) k
theorem xk_kbe {z w : Nat → Int} {H G : fl_H} (h : zlk z w) (hw : wf z) (h1 : G 88 = H 88) (h2 : G 89 = H 89) (k : kbe z H) : kbe w G := by
  unfold kbe
  rw [h1, h2]
  rcases k with k | ⟨k1, R, k2, k3⟩
  · exact Or.inl k
  · exact Or.inr ⟨k1, R, xk_bs0 h hw k2, k3⟩
theorem xk_nb {z w : Nat → Int} (h : zlk z w) (r : Nat → Nat) (g : Nat) (s : Nat → Nat) : nbG w r g s ↔ nbG z r g s := by
  unfold nbG
  rw [h 0 (by omega), h 1 (by omega)]
theorem xk_stp {z w : Nat → Int} (h : zlk z w) (hw : wf z) {r s : Nat → Nat} (hr : rk z r) (k : zstp z r s) : zstp w r s := by
  obtain ⟨k1, k2, k3, k4⟩ := k
  have nk : ∀ t, nbG z r (z 1).toNat t → rk z t := fun t ht => nbG_rk hw hr (Nat.le_refl _) ht
  have e1 : (w 1).toNat = (z 1).toNat := by rw [h 1 (by omega)]
  refine ⟨by rw [e1]; exact (xk_nb h _ _ _).mpr k1, (xk_so h hw s).mpr k2, by rw [xk_wo h hw hr.1, xk_wo h hw (nk s k1).1]; exact k3, fun t ht so => ?_⟩
  rw [e1] at ht
  have ht' := (xk_nb h _ _ _).mp ht
  rw [xk_wo h hw (nk t ht').1, xk_wo h hw (nk s k1).1]
  exact k4 t ht' ((xk_so h hw t).mp so)
theorem xk_top {z w : Nat → Int} (h : zlk z w) (hw : wf z) {r : Nat → Nat} (hr : rk z r) (k : ztop z r) : ztop w r := fun t ht so => by
  have e1 : (w 1).toNat = (z 1).toNat := by rw [h 1 (by omega)]
  rw [e1] at ht
  have ht' := (xk_nb h _ _ _).mp ht
  rw [xk_wo h hw (nbG_rk hw hr (Nat.le_refl _) ht').1, xk_wo h hw hr.1]
  exact k t ht' ((xk_so h hw t).mp so)
theorem xk_clm {z w : Nat → Int} (h : zlk z w) (hw : wf z) {r : Nat → Nat} (hr : rk z r) : ∀ (n : Nat) (t : Nat → Nat), clm z n r t → clm w n r t
  | 0, _, k => k
  | n + 1, t, ⟨s, k1, k2⟩ => ⟨s, xk_clm h hw hr n s k1, xk_stp h hw (clm_bd hw hr n s k1).1 k2⟩
/-- steps and the book mended hang on the plan too -/
theorem xk_kst {z w : Nat → Int} {H G : fl_H} (h : zlk z w) (hp : pln w = pln z) (hw : wf z) (hc : chz z) (h1 : G 90 = H 90) (h2 : G 91 = H 91) (k : kst z H) : kst w G := by
  unfold kst
  rw [h1, h2, hp]
  rcases k with k | ⟨k1, k2, n, t, k3, k4, k5, k6, k7⟩
  · exact Or.inl k
  · have kp := pln_rk hw hc
    have kt := (clm_bd hw kp n t k3).1
    exact Or.inr ⟨k1, (xk_so h hw _).mpr k2, n, t, xk_clm h hw kp n t k3, xk_top h hw kt k4, k5, by rw [xk_wo h hw kt.1]; exact k6, k7⟩
theorem xk_alw {z w : Nat → Int} (h : zlk z w) (lk : Nat → Int) (g c : Int) (s : Nat → Nat) : alw z lk g 0 c (fun _ => 0) s ↔ alw w lk g 0 c (fun _ => 0) s := by
  have e : ulk w lk g 0 s = ulk z lk g 0 s := by unfold ulk; rw [h 1 (by omega)]
  unfold alw
  rw [e]
  exact ⟨fun q => ⟨xk_rk h q.1, q.2⟩, fun q => ⟨xk_rk (zlk_sy h) q.1, q.2⟩⟩
theorem xk_me {z w : Nat → Int} (h : zlk z w) (hw : wf z) {lk : Nat → Int} {g : Int} {c : Nat} {A : Int} {R : Nat → Nat} (k : zme z lk g c A R) : zme w lk g c A R :=
  ⟨fun j hj s hs so => k.1 j hj s ((xk_alw h _ _ _ s).mpr hs) ((xk_so h hw s).mp so), xk_bs h hw (xk_alw h _ _ _) (fun s hs => hs.1) k.2⟩
theorem xk_kmd {z w : Nat → Int} {H G : fl_H} (h : zlk z w) (hp : ∀ k, k < 6 → w (62 + k) = z (62 + k)) (hw : wf z) (h0 : G 0 14 = H 0 14) (h1 : G 92 = H 92) (h2 : G 93 = H 93) (k : kmd z H) : kmd w G := by
  have g6 : z 1 ≤ 6 := by have := hw.1; unfold zr at this; omega
  unfold kmd
  rw [h0, h1, h2, h 1 (by omega)]
  rcases k with k | ⟨g, k1, k2, c, A, R, k3, k4, k5⟩
  · exact Or.inl k
  · exact Or.inr ⟨g, k1, k2, c, A, R, k3, zme_lk (fun i hi => (hp i (by rw [h 1 (by omega)] at hi; omega)).symm) (xk_me h hw k4), k5⟩
end
end
