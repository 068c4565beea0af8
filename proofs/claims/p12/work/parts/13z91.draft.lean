noncomputable section
/-! L3: the class's draft: a plan put in, good by good. -/
section
variable {X : Term} {xs : List Int32}
/-- the book's cells hold z, but for pages and choices -/
def gz (z : Nat → Int) (H : fl_H) : Prop := ∀ j, vld j = true → ¬ (j = 0 ∨ (10 ≤ j ∧ j < 13) ∨ (62 ≤ j ∧ j < 68)) → cz H 1 j = z j
theorem gz_at {z : Nat → Int} {H : fl_H} (h : gz z H) {j c i : Nat} (hv : vld j = true) (hn : ¬ (j = 0 ∨ (10 ≤ j ∧ j < 13) ∨ (62 ≤ j ∧ j < 68))) (hs : slt j = (c, i)) : H (1 + c) i = z j := by
  rw [← h j hv hn]
  exact (cz_at hv (by rw [hs]) (by rw [hs])).symm
theorem gz_1 {z : Nat → Int} {H : fl_H} (h : gz z H) : H 3 0 = z 1 := gz_at h (j := 1) (c := 2) (i := 0) rfl (by omega) rfl
theorem gz_2 {z : Nat → Int} {H : fl_H} (h : gz z H) : H 9 0 = z 2 := gz_at h (j := 2) (c := 8) (i := 0) rfl (by omega) rfl
theorem gz_4 {z : Nat → Int} {H : fl_H} (h : gz z H) : H 18 0 = z 4 := gz_at h (j := 4) (c := 17) (i := 0) rfl (by omega) rfl
theorem gz_5 {z : Nat → Int} {H : fl_H} (h : gz z H) : H 18 1 = z 5 := gz_at h (j := 5) (c := 17) (i := 1) rfl (by omega) rfl
theorem gz_6 {z : Nat → Int} {H : fl_H} (h : gz z H) : H 18 2 = z 6 := gz_at h (j := 6) (c := 17) (i := 2) rfl (by omega) rfl
theorem gz_kd {z : Nat → Int} {H : fl_H} (h : gz z H) {g : Nat} (hg : g < 6) : H 4 g = zknd z g := gz_at h (slt_gd g hg).1 (by omega) (slt_gd g hg).2.1
theorem gz_fm {z : Nat → Int} {H : fl_H} (h : gz z H) {g : Nat} (hg : g < 6) : H 5 g = zfam z g := gz_at h (slt_gd g hg).2.2.1 (by omega) (slt_gd g hg).2.2.2
theorem gz_wd {z : Nat → Int} {H : fl_H} (h : gz z H) {g s : Nat} (hg : g < 6) (hs : s < 2) : H 6 (2 * g + s) = z (16 + 8 * g + 3 * s) := gz_at h (slt_sz g hg s hs).1 (by omega) (slt_sz g hg s hs).2.1
theorem gz_hg {z : Nat → Int} {H : fl_H} (h : gz z H) {g s : Nat} (hg : g < 6) (hs : s < 2) : H 7 (2 * g + s) = z (17 + 8 * g + 3 * s) := gz_at h (slt_sz g hg s hs).2.2.1 (by omega) (slt_sz g hg s hs).2.2.2.1
theorem gz_sl {z : Nat → Int} {H : fl_H} (h : gz z H) {g s : Nat} (hg : g < 6) (hs : s < 2) : H 8 (2 * g + s) = zsal z g s := gz_at h (slt_sz g hg s hs).2.2.2.2.1 (by omega) (slt_sz g hg s hs).2.2.2.2.2
theorem gz_bk {z : Nat → Int} {H : fl_H} (h : gz z H) {b : Nat} (hb : b < 12) : H 10 b = z (68 + 4 * b) := gz_at h (slt_bd b hb).1 (by omega) (slt_bd b hb).2.1
theorem gz_ba {z : Nat → Int} {H : fl_H} (h : gz z H) {b : Nat} (hb : b < 12) : H 11 b = z (69 + 4 * b) := gz_at h (slt_bd b hb).2.2.1 (by omega) (slt_bd b hb).2.2.2.1
theorem gz_bb {z : Nat → Int} {H : fl_H} (h : gz z H) {b : Nat} (hb : b < 12) : H 12 b = z (70 + 4 * b) := gz_at h (slt_bd b hb).2.2.2.2.1 (by omega) (slt_bd b hb).2.2.2.2.2.1
theorem gz_be {z : Nat → Int} {H : fl_H} (h : gz z H) {b : Nat} (hb : b < 12) : H 13 b = z (71 + 4 * b) := gz_at h (slt_bd b hb).2.2.2.2.2.2.1 (by omega) (slt_bd b hb).2.2.2.2.2.2.2
theorem gz_fr {z : Nat → Int} {H G : fl_H} (h : gz z H) (k : ∀ c i, 1 ≤ c → c ≤ 19 → G c i = H c i) : gz z G := fun j hv hn => by
  rw [cz_out (G := G) (H := H) (b := 1) (fun c i a b => k c i a (by omega))]; exact h j hv hn
/-- and the draft has its pages -/
def dz (z : Nat → Int) (H : fl_H) : Prop := gz z H ∧ H 69 2 = z 0 ∧ ∀ p : Nat, (p : Int) < z 0 → H 70 p = zvw z p
/-- only cells of a kind differ -/
def oc (P : Nat → Prop) (H G : fl_H) : Prop := ∀ c, ¬ P c → G c = H c
theorem oc_refl (P : Nat → Prop) (H : fl_H) : oc P H H := fun _ _ => rfl
theorem oc_trans {P : Nat → Prop} {H G F : fl_H} (h : oc P H G) (g : oc P G F) : oc P H F := fun c k => (g c k).trans (h c k)
theorem oc_up {P : Nat → Prop} {H G : fl_H} (h : oc P H G) {c i : Nat} {v : Int} (hp : P c) : oc P H (fl_up G c i v) := fun d k => by
  rw [fl_up_cell _ _ _ _ (fun hh => k (by rw [hh]; exact hp))]; exact h d k
theorem oc_mono {P Q : Nat → Prop} {H G : fl_H} (h : oc P H G) (k : ∀ c, P c → Q c) : oc Q H G := fun c hc => h c (fun hp => hc (k c hp))
/-- cells of a plan put in -/
def pD (c : Nat) : Prop := 71 ≤ c ∧ c ≤ 77
theorem dz_oc {z : Nat → Int} {P : Nat → Prop} {H G : fl_H} (h : dz z H) (k : oc P H G) (hp : ∀ c, (1 ≤ c ∧ c ≤ 19) ∨ c = 69 ∨ c = 70 → ¬ P c) : dz z G :=
  ⟨gz_fr h.1 (fun c i a b => by rw [k c (hp c (Or.inl ⟨a, b⟩))]), by rw [k 69 (hp 69 (Or.inr (Or.inl rfl)))]; exact h.2.1, fun p hpp => by rw [k 70 (hp 70 (Or.inr (Or.inr rfl)))]; exact h.2.2 p hpp⟩
theorem dz_pD {z : Nat → Int} {H G : fl_H} (h : dz z H) (k : oc pD H G) : dz z G := dz_oc h k (fun c hc => by unfold pD; omega)
/-- sizes of goods that are there are small -/
theorem wf_are {z : Nat → Int} (h : wf z) {g s : Nat} (hg : (g : Int) < z 1) (hs : s < 2) : 1 ≤ zare z g s ∧ zare z g s ≤ 16 ∧ (1 ≤ z (16 + 8 * g + 3 * s) ∧ z (16 + 8 * g + 3 * s) ≤ 4) ∧ (1 ≤ z (17 + 8 * g + 3 * s) ∧ z (17 + 8 * g + 3 * s) ≤ 4) := by
  obtain ⟨-, -, k⟩ := h.2.2.1 g hg
  obtain ⟨k1, k2, -⟩ := k s hs
  refine ⟨?_, ?_, k1, k2⟩
  · unfold zare
    exact Int.mul_le_mul k1.1 k2.1 (by omega) (by omega) |> fun h => by simpa using h
  · unfold zare
    exact Int.mul_le_mul k1.2 k2.2 (by omega) (by omega)
theorem wf_sal {z : Nat → Int} (h : wf z) {g s : Nat} (hg : (g : Int) < z 1) (hs : s < 2) : 0 ≤ zsal z g s ∧ zsal z g s ≤ 999 := by
  obtain ⟨-, -, k⟩ := h.2.2.1 g hg
  exact (k s hs).2.2
theorem wf_knd {z : Nat → Int} (h : wf z) {g : Nat} (hg : (g : Int) < z 1) : (0 ≤ zknd z g ∧ zknd z g ≤ 3) ∧ (0 ≤ zfam z g ∧ zfam z g ≤ 3) := by
  obtain ⟨k1, k2, -⟩ := h.2.2.1 g hg
  exact ⟨k1, k2⟩
theorem wf_vw {z : Nat → Int} (h : wf z) {p : Nat} (hp : p < 3) : 0 ≤ zvw z p ∧ zvw z p ≤ 60 := h.2.1.1 p hp
theorem dc_area {m g s : Nat} {z : Nat → Int} {H : fl_H} {e : Int} (h : gz z H) (hg : g < 6) (hs : s < 2) (he : e = ((2 * g + s : Nat) : Int)) : ck (cm_pg X xs) m cm_m45 [.index 3, fl_t e] H (fun r H' => r = some (zare z g s) ∧ H' = H) := by
  subst he
  refine ve_Goods_area_3 ?_
  rw [fl_wi (x := ((2 * g + s : Nat) : Int)) (by omega) (by omega), Int.toNat_natCast, gz_wd h hg hs, gz_hg h hg hs]
  exact fun _ _ => ⟨rfl, rfl⟩
theorem dc_pg : ∀ c : Nat, c < 7 → 1 ≤ c → fl_shr ((c : Int) - 1) 1 = ((pgn c : Nat) : Int) := by decide +kernel
theorem dc_sz : ∀ c : Nat, c < 7 → 1 ≤ c → fl_and ((c : Int) - 1) 1 = ((szn c : Nat) : Int) := by decide +kernel
theorem dc_3 : ∀ g : Nat, g < 6 → ([1, 3, 9, 27, 81, 243] : List Int).getD g 0 = ((3 ^ g : Nat) : Int) := by decide +kernel
/-- the sums of a plan -/
def ds (z : Nat → Int) (r : Nat → Nat) (H : fl_H) : Prop := (∀ p, p < 3 → H 74 p = ncr r p ∧ H 75 p = nfi z r p ∧ H 76 p = nco r p) ∧ ∀ f : Nat, f < 4 → H 77 f = nri z r (f : Int)
theorem ds_pup {z : Nat → Int} {r : Nat → Nat} {H G : fl_H} {g c : Nat} {s : Int} (h : ds z r H) (hg : g < 6) (h0 : (r g = 0 ∧ s = 1) ∨ (r g = c ∧ s = -1)) (k1 : ∀ p, p < 3 → G 74 p = H 74 p + s * fcr p g c ∧ G 75 p = H 75 p + s * ffi z p g c ∧ G 76 p = H 76 p + s * fco p g c) (k2 : ∀ f : Nat, f < 4 → G 77 f = H 77 f + s * fri z (f : Int) g c) : ds z (pup r g (if s = 1 then c else 0)) G := by
  refine ⟨fun p hp => ?_, fun f hf => ?_⟩
  · obtain ⟨a1, a2, a3⟩ := k1 p hp
    obtain ⟨b1, b2, b3⟩ := h.1 p hp
    rw [a1, a2, a3, b1, b2, b3]
    unfold ncr nfi nco
    rw [psm_up hg, psm_up hg, psm_up hg]
    rcases h0 with ⟨e, rfl⟩ | ⟨e, rfl⟩
    · rw [if_pos rfl, e, fcr_0, ffi_0, fco_0]; omega
    · rw [if_neg (by omega), e, fcr_0, ffi_0, fco_0]; omega
  · rw [k2 f hf, h.2 f hf]
    unfold nri
    rw [psm_up hg]
    rcases h0 with ⟨e, rfl⟩ | ⟨e, rfl⟩
    · rw [if_pos rfl, e, fri_0]; omega
    · rw [if_neg (by omega), e, fri_0]; omega
theorem dc_mark {m g c : Nat} {s : Int} {z : Nat → Int} {H : fl_H} (h : gz z H) (hw : wf z) (hg : (g : Int) < z 1) (hc1 : 1 ≤ c) (hc : c < 7) (hs : s = 1 ∨ s = -1) : ck (cm_pg X xs) m cm_m18 [.index 69, fl_t (g : Int), fl_t (c : Int), fl_t s] H (fun r H' => r = none ∧ oc (fun d => 74 ≤ d ∧ d ≤ 77) H H' ∧ (∀ p, p < 3 → H' 74 p = H 74 p + s * fcr p g c ∧ H' 75 p = H 75 p + s * ffi z p g c ∧ H' 76 p = H 76 p + s * fco p g c) ∧ ∀ f : Nat, f < 4 → H' 77 f = H 77 f + s * fri z (f : Int) g c) := by
  have g6 : g < 6 := by have := hw.1.2.2.2.1; omega
  have hp3 : pgn c < 3 := by unfold pgn; omega
  have hs2 := szn_lt c
  obtain ⟨kd, fm⟩ := wf_knd hw hg
  refine ve_Draft_mark_69 (fun m hm => ve_GoodsBook_pageOf ⟨_, rfl, fun m hm => ve_GoodsBook_sizeOf ⟨_, rfl, ?_⟩⟩)
  rw [dc_pg c hc hc1, dc_sz c hc hc1, fl_wi (x := ((pgn c : Nat) : Int)) (by omega) (by omega), fl_wi (x := (g : Int)) (by omega) (by omega), Int.toNat_natCast, Int.toNat_natCast, dc_3 g g6]
  intro _ _ H8 e8 _ m hm
  have z8 : gz z H8 := gz_fr h (fun c i a b => by rw [e8, fl_up_c _ _ _ _ (by omega)])
  refine ck_mono (dc_area (X := X) (xs := xs) z8 g6 hs2 (by omega)) (fun r H12 hh => ⟨_, hh.1, ?_⟩)
  have e12 := hh.2
  subst e12
  intro _ H15 e15 _ _ _ H20 e20 _
  have z20 : gz z H20 := gz_fr z8 (fun c i a b => by rw [e20, fl_up_c _ _ _ _ (by omega), e15, fl_up_c _ _ _ _ (by omega)])
  rw [gz_kd z20 g6, gz_fm z20 g6, fl_wi (x := zknd z g) (by omega) (by omega), fl_wi (x := zfam z g) (by omega) (by omega)]
  obtain ⟨f, hf⟩ : ∃ f : Nat, zfam z g = (f : Int) := ⟨(zfam z g).toNat, by omega⟩
  rw [hf, Int.toNat_natCast]
  have o20 : oc (fun d => 74 ≤ d ∧ d ≤ 77) H H20 := by
    rw [e20, e15, e8]
    exact oc_up (oc_up (oc_up (oc_refl _ _) (by omega)) (by omega)) (by omega)
  have p20 : ∀ p, p < 3 → H20 74 p = H 74 p + s * fcr p g c ∧ H20 75 p = H 75 p + s * ffi z p g c ∧ H20 76 p = H 76 p + s * fco p g c := fun p hp => by
    have c0 : c ≠ 0 := by omega
    have q1 : H20 74 p = if p = pgn c then H 74 p + s else H 74 p := by
      rw [e20, fl_up_c _ _ _ _ (by decide), e15, fl_up_c _ _ _ _ (by decide), e8]
      by_cases hh : p = pgn c
      · rw [hh, fl_up_at, if_pos rfl]
      · rw [fl_up_i _ _ _ _ hh, if_neg hh]
    have q2 : H20 75 p = if p = pgn c then H 75 p + s * zare z g (szn c) else H 75 p := by
      rw [e20, fl_up_c _ _ _ _ (by decide), e15]
      by_cases hh : p = pgn c
      · rw [hh, fl_up_at, if_pos rfl, e8, fl_up_c _ _ _ _ (by decide)]
      · rw [fl_up_i _ _ _ _ hh, if_neg hh, e8, fl_up_c _ _ _ _ (by decide)]
    have q3 : H20 76 p = if p = pgn c then H 76 p + s * ((3 ^ g : Nat) : Int) * ((szn c : Int) + 1) else H 76 p := by
      rw [e20]
      by_cases hh : p = pgn c
      · rw [hh, fl_up_at, if_pos rfl, e15, fl_up_c _ _ _ _ (by decide), e8, fl_up_c _ _ _ _ (by decide)]
      · rw [fl_up_i _ _ _ _ hh, if_neg hh, e15, fl_up_c _ _ _ _ (by decide), e8, fl_up_c _ _ _ _ (by decide)]
    rw [q1, q2, q3]
    unfold fcr ffi fco
    by_cases hh : p = pgn c
    · have hh' : c ≠ 0 ∧ pgn c = p := ⟨c0, hh.symm⟩
      rw [if_pos hh, if_pos hh, if_pos hh, if_pos hh', if_pos hh', if_pos hh', Int.mul_one, Int.mul_assoc]
      exact ⟨rfl, rfl, rfl⟩
    · have hh' : ¬ (c ≠ 0 ∧ pgn c = p) := fun k => hh k.2.symm
      rw [if_neg hh, if_neg hh, if_neg hh, if_neg hh', if_neg hh', if_neg hh', Int.mul_zero]
      omega
  refine ⟨fun h2 _ _ _ H27 e27 => ⟨rfl, ?_, fun p hp => ?_, fun f' hf' => ?_⟩, fun h2 => ⟨rfl, o20, p20, fun f' hf' => ?_⟩⟩
  · rw [e27]; exact oc_up o20 (by omega)
  · rw [e27, fl_up_c _ _ _ _ (by decide), fl_up_c _ _ _ _ (by decide), fl_up_c _ _ _ _ (by decide)]; exact p20 p hp
  · have q : H20 77 f' = H 77 f' := by rw [e20, fl_up_c _ _ _ _ (by decide), e15, fl_up_c _ _ _ _ (by decide), e8, fl_up_c _ _ _ _ (by decide)]
    unfold fri
    rw [e27]
    by_cases hh : f' = f
    · rw [hh, fl_up_at, ← hh, q, if_pos ⟨by omega, h2, by rw [hf, hh]⟩]
      omega
    · rw [fl_up_i _ _ _ _ hh, q, if_neg (fun k => hh (by have := k.2.2; rw [hf] at this; omega))]
      omega
  · have q : H20 77 f' = H 77 f' := by rw [e20, fl_up_c _ _ _ _ (by decide), e15, fl_up_c _ _ _ _ (by decide), e8, fl_up_c _ _ _ _ (by decide)]
    unfold fri
    rw [q, if_neg (fun k => h2 k.2.1)]
    omega
/-- a plan is put in -/
def dr (z : Nat → Int) (r : Nat → Nat) (H : fl_H) : Prop := rok z r ∧ (∀ g, g < 6 → H 71 g = (r g : Int) ∧ H 72 g = (if r g = 0 then -1 else ((pgn (r g) : Nat) : Int)) ∧ (r g ≠ 0 → H 73 g = zpl z r g)) ∧ ds z r H
theorem rok_pup {z : Nat → Int} {r : Nat → Nat} {g c : Nat} (h : rok z r) (hg : (g : Int) < z 1) (hc : (c : Int) ≤ 2 * z 0) : rok z (pup r g c) := by
  intro k hk
  by_cases e : k = g
  · subst e
    rw [pup_at]
    exact ⟨hc, fun hh => by omega⟩
  · rw [pup_ne _ _ e]
    exact h k hk
theorem ds_oc {z : Nat → Int} {r : Nat → Nat} {H G : fl_H} (h : ds z r H) (k : ∀ c, 74 ≤ c → c ≤ 77 → G c = H c) : ds z r G := by
  refine ⟨fun p hp => ?_, fun f hf => ?_⟩
  · rw [k 74 (by omega) (by omega), k 75 (by omega) (by omega), k 76 (by omega) (by omega)]; exact h.1 p hp
  · rw [k 77 (by omega) (by omega)]; exact h.2 f hf
theorem dc_put {m g c : Nat} {z : Nat → Int} {r : Nat → Nat} {H : fl_H} (h : dz z H) (hw : wf z) (hd : dr z r H) (hg : (g : Int) < z 1) (hc : (c : Int) ≤ 2 * z 0) : ck (cm_pg X xs) m cm_m17 [.index 69, fl_t (g : Int), fl_t (c : Int)] H (fun r' H' => r' = none ∧ oc pD H H' ∧ dr z (pup r g c) H') := by
  have g6 : g < 6 := by have := hw.1.2.2.2.1; omega
  have z03 : z 0 ≤ 3 := hw.1.2.1
  obtain ⟨hr, hrow, hds⟩ := hd
  obtain ⟨i1, i2, i3⟩ := hrow g g6
  have hrg : r g < 7 := by have := (hr g g6).1; omega
  -- from cells whose sums lack the good
  have tail : ∀ (N : Nat) (G : fl_H), oc pD H G → ds z (pup r g 0) G → (∀ k, k < 6 → k ≠ g → G 71 k = H 71 k ∧ G 72 k = H 72 k ∧ G 73 k = H 73 k) → (0 ≤ fl_w (g : Int) ∧ fl_w (g : Int) < 6 → ∀ H3, H3 = fl_up G 71 (fl_w (g : Int)).toNat (c : Int) → (0 ≤ fl_w (g : Int) ∧ fl_w (g : Int) < 6 → ∀ H6, H6 = fl_up H3 72 (fl_w (g : Int)).toNat (-1) → (fl_w (c : Int) = 0 → (fun r' H' => r' = none ∧ oc pD H H' ∧ dr z (pup r g c) H') (none : Option Int) H6) ∧ (¬ fl_w (c : Int) = 0 → ∀ m, m < N → ck (cm_pg X xs) m cm_m18 [.index 69, fl_t (g : Int), fl_t (c : Int), fl_t 1] H6 (fun r10 H10 => r10 = none ∧ (∀ m, m < N → ck (cm_pg X xs) m cm_m136 [fl_t (c : Int)] H10 (fun r12 H12 => ∃ x14, r12 = some x14 ∧ ((0 ≤ fl_w (g : Int) ∧ fl_w (g : Int) < 6 → ∀ H15, H15 = fl_up H12 72 (fl_w (g : Int)).toNat x14 → ∀ m, m < N → ck (cm_pg X xs) m cm_m137 [fl_t (c : Int)] H15 (fun r18 H18 => ∃ x20, r18 = some x20 ∧ ((0 ≤ fl_w ((2 * (g : Int)) + x20) ∧ fl_w ((2 * (g : Int)) + x20) < 12 → (0 ≤ fl_w (g : Int) ∧ fl_w (g : Int) < 6 → (0 ≤ fl_w (H18 72 (fl_w (g : Int)).toNat) ∧ fl_w (H18 72 (fl_w (g : Int)).toNat) < 3 → (0 ≤ fl_w (g : Int) ∧ fl_w (g : Int) < 6 → ∀ H24, H24 = fl_up H18 73 (fl_w (g : Int)).toNat ((H18 8 (fl_w ((2 * (g : Int)) + x20)).toNat) * (H18 70 (fl_w (H18 72 (fl_w (g : Int)).toNat)).toNat)) → (fun r' H' => r' = none ∧ oc pD H H' ∧ dr z (pup r g c) H') (none : Option Int) H24)))))))))))))) := by
    intro N G oG sG rG
    rw [fl_wi (x := (g : Int)) (by omega) (by omega), fl_wi (x := (c : Int)) (by omega) (by omega), Int.toNat_natCast]
    intro _ H3 e3 _ H6 e6
    have o6 : oc pD H H6 := by rw [e6, e3]; exact oc_up (oc_up oG (by unfold pD; omega)) (by unfold pD; omega)
    have s6 : ds z (pup r g 0) H6 := ds_oc sG (fun d a b => by rw [e6, fl_up_cell _ _ _ _ (by omega), e3, fl_up_cell _ _ _ _ (by omega)])
    have r6 : ∀ k, k < 6 → k ≠ g → H6 71 k = H 71 k ∧ H6 72 k = H 72 k ∧ H6 73 k = H 73 k := fun k hk hkg => by
      obtain ⟨a1, a2, a3⟩ := rG k hk hkg
      refine ⟨?_, ?_, ?_⟩
      · rw [e6, fl_up_c _ _ _ _ (by decide), e3, fl_up_i _ _ _ _ hkg]; exact a1
      · rw [e6, fl_up_i _ _ _ _ hkg, e3, fl_up_c _ _ _ _ (by decide)]; exact a2
      · rw [e6, fl_up_c _ _ _ _ (by decide), e3, fl_up_c _ _ _ _ (by decide)]; exact a3
    refine ⟨fun h0 => ⟨rfl, o6, ?_⟩, fun h0 m hm => ?_⟩
    · have c0 : c = 0 := by omega
      subst c0
      refine ⟨rok_pup hr hg hc, fun k hk => ?_, s6⟩
      by_cases e : k = g
      · subst e
        rw [pup_at, if_pos rfl]
        refine ⟨?_, ?_, fun hh => absurd rfl hh⟩
        · rw [e6, fl_up_c _ _ _ _ (by decide), e3, fl_up_at]
        · rw [e6, fl_up_at]
      · obtain ⟨a1, a2, a3⟩ := r6 k hk e
        rw [pup_ne _ _ e, a1, a2, a3]
        obtain ⟨b1, b2, b3⟩ := hrow k hk
        refine ⟨b1, b2, fun hh => ?_⟩
        rw [b3 hh]
        unfold zpl
        rw [pup_ne _ _ e]
    · have c1 : 1 ≤ c := by omega
      have c7 : c < 7 := by omega
      have hp3 : ((pgn c : Nat) : Int) < z 0 := by unfold pgn; omega
      have hs2 := szn_lt c
      have g6z : gz z H6 := gz_fr h.1 (fun d i a b => by rw [o6 d (by unfold pD; omega)])
      refine ck_mono (dc_mark (X := X) (xs := xs) (s := 1) g6z hw hg c1 c7 (Or.inl rfl)) (fun r10 H10 h10 => ⟨h10.1, fun m hm => ve_GoodsBook_pageOf ⟨_, rfl, fun _ H15 e15 m hm => ve_GoodsBook_sizeOf ⟨_, rfl, ?_⟩⟩⟩)
      obtain ⟨-, o10, p10, f10⟩ := h10
      rw [dc_pg c c7 c1] at e15
      have v15 : H15 72 g = ((pgn c : Nat) : Int) := by rw [e15, fl_up_at]
      have hp33 : pgn c < 3 := by omega
      rw [dc_sz c c7 c1, v15, fl_wi (x := ((pgn c : Nat) : Int)) (by omega) (by omega), fl_wi (x := 2 * (g : Int) + ((szn c : Nat) : Int)) (by omega) (by omega), Int.toNat_natCast]
      have ei : (2 * (g : Int) + ((szn c : Nat) : Int)).toNat = 2 * g + szn c := by omega
      rw [ei]
      intro _ _ _ _ H24 e24
      have o15 : oc pD H H15 := by
        rw [e15]
        exact oc_up (oc_trans o6 (oc_mono o10 (fun d hd => by unfold pD; omega))) (by unfold pD; omega)
      have o24 : oc pD H H24 := by rw [e24]; exact oc_up o15 (by unfold pD; omega)
      have d15 : dz z H15 := dz_pD h o15
      have s10 : ds z (pup r g c) H10 := by
        have := ds_pup (c := c) (s := 1) s6 g6 (Or.inl ⟨pup_at r g 0, rfl⟩) p10 f10
        rw [if_pos rfl] at this
        have e : pup (pup r g 0) g c = pup r g c := by
          funext k
          unfold pup
          by_cases hk : k = g
          · rw [if_pos hk, if_pos hk]
          · rw [if_neg hk, if_neg hk, if_neg hk]
        rw [e] at this
        exact this
      refine ⟨rfl, o24, rok_pup hr hg hc, fun k hk => ?_, ds_oc s10 (fun d a b => by rw [e24, fl_up_cell _ _ _ _ (by omega), e15, fl_up_cell _ _ _ _ (by omega)])⟩
      by_cases e : k = g
      · subst e
        rw [pup_at, if_neg (by omega)]
        refine ⟨?_, ?_, fun _ => ?_⟩
        · rw [e24, fl_up_c _ _ _ _ (by decide), e15, fl_up_c _ _ _ _ (by decide), o10 71 (by omega), e6, fl_up_c _ _ _ _ (by decide), e3, fl_up_at]
        · rw [e24, fl_up_c _ _ _ _ (by decide)]; exact v15
        · rw [e24, fl_up_at, gz_sl d15.1 g6 hs2, d15.2.2 _ hp3]
          unfold zpl
          rw [pup_at]
      · have q : H24 71 k = H6 71 k ∧ H24 72 k = H6 72 k ∧ H24 73 k = H6 73 k := by
          refine ⟨?_, ?_, ?_⟩
          · rw [e24, fl_up_c _ _ _ _ (by decide), e15, fl_up_c _ _ _ _ (by decide), o10 71 (by omega)]
          · rw [e24, fl_up_c _ _ _ _ (by decide), e15, fl_up_i _ _ _ _ e, o10 72 (by omega)]
          · rw [e24, fl_up_i _ _ _ _ e, e15, fl_up_c _ _ _ _ (by decide), o10 73 (by omega)]
        obtain ⟨a1, a2, a3⟩ := r6 k hk e
        rw [pup_ne _ _ e, q.1, q.2.1, q.2.2, a1, a2, a3]
        obtain ⟨b1, b2, b3⟩ := hrow k hk
        refine ⟨b1, b2, fun hh => ?_⟩
        rw [b3 hh]
        unfold zpl
        rw [pup_ne _ _ e]
  refine ve_Draft_put_69 (fun _ => ⟨fun h0 => tail m H (oc_refl _ _) ?_ (fun _ _ _ => ⟨rfl, rfl, rfl⟩), fun h0 _ m' hm => ?_⟩)
  · rw [fl_wi (x := (g : Int)) (by omega) (by omega), Int.toNat_natCast, i1, fl_wi (x := ((r g : Nat) : Int)) (by omega) (by omega)] at h0
    have e : pup r g 0 = r := by
      funext k
      unfold pup
      by_cases hk : k = g
      · rw [if_pos hk, hk]; omega
      · rw [if_neg hk]
    rw [e]
    exact hds
  · rw [fl_wi (x := (g : Int)) (by omega) (by omega), Int.toNat_natCast, i1] at h0 ⊢
    rw [fl_wi (x := ((r g : Nat) : Int)) (by omega) (by omega)] at h0
    refine ck_mono (dc_mark (X := X) (xs := xs) (s := -1) h.1 hw hg (by omega) hrg (Or.inr rfl)) (fun r28 H28 h28 => ⟨h28.1, ?_⟩)
    obtain ⟨-, o28, p28, f28⟩ := h28
    have s28 : ds z (pup r g 0) H28 := by
      have := ds_pup (c := r g) (s := -1) hds g6 (Or.inr ⟨rfl, rfl⟩) p28 f28
      rw [if_neg (by omega)] at this
      exact this
    have t := tail m H28 (oc_mono o28 (fun d hd => by unfold pD; omega)) s28 (fun k _ _ => by rw [o28 71 (by omega), o28 72 (by omega), o28 73 (by omega)]; exact ⟨rfl, rfl, rfl⟩)
    rw [fl_wi (x := (g : Int)) (by omega) (by omega), Int.toNat_natCast] at t
    exact t
end
end
