noncomputable section
/-! L3: by squares alone, in the class. -/
section
variable {X : Term} {xs : List Int32}
def skh (z : Nat → Int) (s : Int) (n : Nat) (H : fl_H) : Prop := gz z H ∧ z 1 = (n : Int) ∧ H 85 1 = s ∧ (0 ≤ s ∧ s ≤ 60)
def stb (z : Nat → Int) (s : Int) (n g : Nat) (H : fl_H) : Prop := ∀ q : Nat, q ≤ 16 → H 86 (g * 17 + q) = smx z s (n - g) g (q : Int)
theorem sk_V {z : Nat → Int} (hw : wf z) {s : Int} (hs : 0 ≤ s ∧ s ≤ 60) {g c : Nat} (hg : (g : Int) < z 1) (hc : c < 2) : 0 ≤ zsal z g c * s ∧ zsal z g c * s ≤ 59940 := by
  have v := wf_sal hw hg hc
  refine ⟨Int.mul_nonneg v.1 hs.1, ?_⟩
  have := Int.mul_le_mul_of_nonneg_right v.2 hs.1
  omega
theorem swt_bd {z : Nat → Int} {s : Int} {B : Int → Int} {M : Int} {g d : Nat} {r : Int} (hB : ∀ r, 0 ≤ B r ∧ B r ≤ M) (hV : ∀ c, c < 2 → 0 ≤ zsal z g c * s ∧ zsal z g c * s ≤ 59940) (hd : d < 3) : -1 ≤ swt z s B g r d ∧ swt z s B g r d ≤ 59940 + M := by
  have b0 := hB r
  have b1 := hB (r - zare z g (d - 1))
  unfold swt
  by_cases c : d = 0
  · rw [if_pos c]; omega
  · rw [if_neg c]
    have v := hV (d - 1) (by omega)
    by_cases c2 : 0 ≤ r - zare z g (d - 1)
    · rw [if_pos c2]; omega
    · rw [if_neg c2]; omega
theorem smx_bd {z : Nat → Int} {s : Int} {n : Nat} (hV : ∀ i, i < n → ∀ c, c < 2 → 0 ≤ zsal z i c * s ∧ zsal z i c * s ≤ 59940) : ∀ (k g : Nat), g + k = n → ∀ r, 0 ≤ smx z s k g r ∧ smx z s k g r ≤ 59940 * (k : Int)
  | 0, g, _, r => ⟨Int.le_refl _, by show (0 : Int) ≤ _; omega⟩
  | k + 1, g, h, r => by
    have ih := smx_bd hV k (g + 1) (by omega)
    have b0 := swt_bd (g := g) (r := r) ih (hV g (by omega)) (show 0 < 3 by omega)
    have b1 := swt_bd (g := g) (r := r) ih (hV g (by omega)) (show 1 < 3 by omega)
    have b2 := swt_bd (g := g) (r := r) ih (hV g (by omega)) (show 2 < 3 by omega)
    rw [smx_s]
    omega
theorem cl_with {m g d : Nat} {z : Nat → Int} {H : fl_H} {s : Int} {B : Int → Int} {r e1 e3 : Int} (hz : gz z H) (hw : wf z) (hg : (g : Int) < z 1) (hd : d < 3) (hr : 0 ≤ r ∧ r ≤ 16) (h85 : H 85 1 = s) (hB : ∀ q : Nat, q ≤ 16 → H 86 ((g + 1) * 17 + q) = B (q : Int)) (h1 : e1 = (g : Int)) (h3 : e3 = (d : Int)) : ck (cm_pg X xs) m cm_m52 [.index 85, fl_t e1, fl_t r, fl_t e3] H (fun r' H' => r' = some (swt z s B g r d) ∧ H' = H) := by
  subst h1; subst h3
  have bd := hw.1
  unfold zr at bd
  obtain ⟨q, eq⟩ : ∃ q : Nat, r = (q : Int) := ⟨r.toNat, by omega⟩
  subst eq
  refine ve_Sack_with_85 ?_
  rw [fl_wi (x := (d : Int)) (by omega) (by omega)]
  refine ⟨fun h0 => ?_, fun h0 m1 _ => ck_mono (dc_area (X := X) (xs := xs) (g := g) (s := d - 1) hz (by omega) (by omega) (by omega)) (fun r3 H3 h3 => ⟨_, h3.1, ?_⟩)⟩
  · have d0 : d = 0 := by omega
    rw [fl_wi (x := ((g : Int) + 1) * 17 + (q : Int)) (by omega) (by omega), show (((g : Int) + 1) * 17 + (q : Int)).toNat = (g + 1) * 17 + q by omega, hB q (by omega)]
    exact fun _ => ⟨by rw [d0]; rfl, rfl⟩
  · have ar := wf_are hw hg (s := d - 1) (by omega)
    rw [h3.2, fl_wi (x := (q : Int) - zare z g (d - 1)) (by omega) (by omega)]
    refine ⟨fun k => ?_, fun k => ⟨by unfold swt; rw [if_neg (by omega), if_neg k], rfl⟩⟩
    obtain ⟨q', eq'⟩ : ∃ q' : Nat, (q : Int) - zare z g (d - 1) = (q' : Int) := ⟨((q : Int) - zare z g (d - 1)).toNat, by omega⟩
    rw [fl_wi (x := 2 * (g : Int) + (d : Int) - 1) (by omega) (by omega), show (2 * (g : Int) + (d : Int) - 1).toNat = 2 * g + (d - 1) by omega, gz_sl hz (by omega) (by omega), h85, eq', fl_wi (x := ((g : Int) + 1) * 17 + (q' : Int)) (by omega) (by omega), show (((g : Int) + 1) * 17 + (q' : Int)).toNat = (g + 1) * 17 + q' by omega, hB q' (by omega)]
    exact fun _ _ => ⟨by unfold swt; rw [if_neg (by omega), if_pos (by omega), eq'], rfl⟩
theorem cl_f86 : ∀ (N : Nat) (H : fl_H) (a : Nat), a ≤ 119 → hd_Arrays_fill_86_5 (cm_pg X xs) N H 0 (a : Int) 119 (fun r H' => r = none ∧ (∀ i, H' 86 i = if a ≤ i ∧ i < 119 then 0 else H 86 i) ∧ ∀ c, c ≠ 86 → H' c = H c) := by
  intro N
  induction N using Nat.strongRecOn with
  | ind N ih =>
    intro H a ha
    refine vh_Arrays_fill_86_5 ?_
    rw [fl_wi (x := 119) (by omega) (by omega), fl_wi (x := (a : Int)) (by omega) (by omega), Int.toNat_natCast, show ((a : Int) + 1) = ((a + 1 : Nat) : Int) by omega]
    refine ⟨fun h => ⟨rfl, fun i => by rw [if_neg (by omega)], fun _ _ => rfl⟩, fun h _ H2 e2 m hm => ?_⟩
    have := ih m hm H2 (a + 1) (by omega)
    intro lv l0 l1 l2 l3
    refine vt_mono (Nat.le_refl _) (fun r H' hr => ⟨hr.1, fun i => ?_, fun c hc => by rw [hr.2.2 c hc, e2, fl_up_cell _ _ _ _ hc]⟩) (this lv l0 l1 l2 l3)
    rw [hr.2.1 i, e2]
    by_cases hi : i = a
    · subst hi
      rw [if_neg (by omega), fl_up_at, if_pos (by omega)]
    · rw [fl_up_i _ _ _ _ hi]
      by_cases h2 : a ≤ i ∧ i < 119
      · rw [if_pos h2, if_pos (by omega)]
      · rw [if_neg h2, if_neg (by omega)]
def sbm (z : Nat → Int) (s : Int) (B : Int → Int) (g : Nat) (r : Int) : Nat → Int
  | 0 => 0
  | d + 1 => max (sbm z s B g r d) (swt z s B g r d)
theorem sbm_3 (z : Nat → Int) (s : Int) (k g : Nat) (r : Int) : sbm z s (smx z s k (g + 1)) g r 3 = smx z s (k + 1) g r := rfl
theorem sbm_bd {z : Nat → Int} {s : Int} {B : Int → Int} {M : Int} {g : Nat} {r : Int} (hB : ∀ r, 0 ≤ B r ∧ B r ≤ M) (hV : ∀ c, c < 2 → 0 ≤ zsal z g c * s ∧ zsal z g c * s ≤ 59940) : ∀ d, d ≤ 3 → 0 ≤ sbm z s B g r d ∧ sbm z s B g r d ≤ 59940 + M
  | 0, _ => by
    have := hB 0
    show (0 : Int) ≤ 0 ∧ (0 : Int) ≤ _
    omega
  | d + 1, h => by
    have ih := sbm_bd (g := g) (r := r) hB hV d (by omega)
    have b := swt_bd (g := g) (r := r) hB hV (show d < 3 by omega)
    show 0 ≤ max _ _ ∧ max _ _ ≤ _
    omega
theorem cl_dig {z : Nat → Int} {s : Int} {n g k q : Nat} {H : fl_H} (hw : wf z) (hk : skh z s n H) (hn : g + (k + 1) = n) (hq : q ≤ 16) (ht : stb z s n (g + 1) H) {Q : Option Int → fl_H → Prop} (K : ∀ m H2, H2 = fl_up H 86 (g * 17 + q) (smx z s (k + 1) g (q : Int)) → hd_Sack_fill_85_29 (cm_pg X xs) m H2 (g : Int) ((q + 1 : Nat) : Int) Q) : ∀ (f d : Nat), d + f = 3 → ∀ N, hd_Sack_fill_85_41 (cm_pg X xs) N H (g : Int) (q : Int) (sbm z s (smx z s k (g + 1)) g (q : Int) d) (d : Int) Q
  | 0, d, hd, N => by
    obtain ⟨k1, k2, k3, k4⟩ := hk
    have bd := hw.1
    unfold zr at bd
    have e3 : d = 3 := by omega
    subst e3
    refine vh_Sack_fill_85_41 ⟨fun _ => ?_, fun hh => absurd (by decide) hh⟩
    rw [fl_wi (x := (g : Int) * 17 + (q : Int)) (by omega) (by omega), show ((g : Int) * 17 + (q : Int)).toNat = g * 17 + q by omega, sbm_3, show ((q : Int) + 1) = ((q + 1 : Nat) : Int) by omega]
    exact fun _ H2 e2 m _ => K m H2 e2
  | f + 1, d, hd, N => by
    have hk' := hk
    obtain ⟨k1, k2, k3, k4⟩ := hk
    have bd := hw.1
    unfold zr at bd
    have hV : ∀ i, i < n → ∀ c, c < 2 → 0 ≤ zsal z i c * s ∧ zsal z i c * s ≤ 59940 := fun i hi c hc => sk_V hw k4 (by omega) hc
    have mb := smx_bd hV k (g + 1) (by omega)
    have b1 := sbm_bd (g := g) (r := (q : Int)) mb (hV g (by omega)) d (by omega)
    have b2 := swt_bd (g := g) (r := (q : Int)) mb (hV g (by omega)) (show d < 3 by omega)
    refine vh_Sack_fill_85_41 ?_
    rw [fl_wi (x := (d : Int)) (by omega) (by omega), show ((d : Int) + 1) = ((d + 1 : Nat) : Int) by omega]
    refine ⟨fun hh => by omega, fun _ m1 _ => ck_mono (cl_with (X := X) (xs := xs) (g := g) (d := d) (B := smx z s k (g + 1)) k1 hw (by omega) (by omega) (by omega) k3 (fun q' hq' => by rw [ht q' hq', show n - (g + 1) = k by omega]) rfl rfl) (fun r H' h => ⟨_, h.1, fun m2 _ => ?_⟩)⟩
    rw [h.2, fl_wi (x := sbm z s (smx z s k (g + 1)) g (q : Int) d) (by omega) (by omega), fl_wi (x := swt z s (smx z s k (g + 1)) g (q : Int) d) (by omega) (by omega)]
    exact cl_dig hw hk' hn hq ht K f (d + 1) (by omega) m2
theorem skh_86 {z : Nat → Int} {s : Int} {n : Nat} {H G : fl_H} (h : skh z s n H) (k : ∀ c, c ≠ 86 → G c = H c) : skh z s n G :=
  ⟨gz_fr h.1 (fun c i a b => by rw [k c (by omega)]), h.2.1, by rw [k 85 (by omega)]; exact h.2.2.1, h.2.2.2⟩
theorem cl_room {z : Nat → Int} {s : Int} {n g k : Nat} {H : fl_H} (hw : wf z) (hk : skh z s n H) (hn : g + (k + 1) = n) (ht : stb z s n (g + 1) H) {Q : Option Int → fl_H → Prop} (K : ∀ m G, (∀ c, c ≠ 86 → G c = H c) → (∀ i, ¬ (g * 17 ≤ i ∧ i < g * 17 + 17) → G 86 i = H 86 i) → stb z s n g G → hd_Sack_fill_85_23 (cm_pg X xs) m G ((g : Int) - 1) Q) : ∀ (f q : Nat), q + f = 17 → ∀ N G, (∀ c, c ≠ 86 → G c = H c) → (∀ i, ¬ (g * 17 ≤ i ∧ i < g * 17 + q) → G 86 i = H 86 i) → (∀ j, j < q → G 86 (g * 17 + j) = smx z s (k + 1) g (j : Int)) → hd_Sack_fill_85_29 (cm_pg X xs) N G (g : Int) (q : Int) Q
  | 0, q, hq, N, G, g1, g2, g3 => by
    have e17 : q = 17 := by omega
    subst e17
    refine vh_Sack_fill_85_29 ⟨fun _ m _ => ?_, fun hh => absurd (by decide) hh⟩
    rw [show (g : Int) + (-1) = (g : Int) - 1 by omega]
    exact K m G g1 g2 (fun j hj => by rw [show n - g = k + 1 by omega]; exact g3 j (by omega))
  | f + 1, q, hq, N, G, g1, g2, g3 => by
    refine vh_Sack_fill_85_29 ?_
    rw [fl_wi (x := (q : Int)) (by omega) (by omega)]
    refine ⟨fun hh => by omega, fun _ => ?_⟩
    refine cl_dig (X := X) (xs := xs) hw (skh_86 hk g1) hn (by omega) (fun j hj => by rw [g2 _ (by omega)]; exact ht j hj) (fun m H2 e2 => ?_) 3 0 rfl N
    refine cl_room hw hk hn ht K f (q + 1) (by omega) m H2 (fun c hc => by rw [e2, fl_up_cell _ _ _ _ hc]; exact g1 c hc) (fun i hi => by rw [e2, fl_up_i _ _ _ _ (by omega)]; exact g2 i (by omega)) (fun j hj => ?_)
    rw [e2]
    by_cases e : j = q
    · rw [e, fl_up_at]
    · rw [fl_up_i _ _ _ _ (by omega)]; exact g3 j (by omega)
theorem cl_goods {z : Nat → Int} {s : Int} {n : Nat} {H : fl_H} (hw : wf z) (hk : skh z s n H) : ∀ (j : Nat), j ≤ n → ∀ N G, (∀ c, c ≠ 86 → G c = H c) → (∀ g, j ≤ g → g ≤ n → stb z s n g G) → hd_Sack_fill_85_23 (cm_pg X xs) N G ((j : Int) - 1) (fun r H' => r = none ∧ (∀ c, c ≠ 86 → H' c = H c) ∧ ∀ g, g ≤ n → stb z s n g H')
  | 0, hj, N, G, g1, g2 => by
    refine vh_Sack_fill_85_23 ⟨fun _ => ⟨rfl, g1, fun g hg => g2 g (by omega) hg⟩, fun hh => absurd (by decide) hh⟩
  | j + 1, hj, N, G, g1, g2 => by
    have bd := hw.1
    unfold zr at bd
    have k2 := hk.2.1
    refine vh_Sack_fill_85_23 ?_
    rw [show ((j + 1 : Nat) : Int) - 1 = (j : Int) by omega, fl_wi (x := (j : Int)) (by omega) (by omega)]
    refine ⟨fun hh => by omega, fun _ => ?_⟩
    refine cl_room (X := X) (xs := xs) hw (skh_86 hk g1) (show j + (n - j - 1 + 1) = n by omega) (g2 (j + 1) (by omega) (by omega)) (fun m G' a1 a2 a3 => ?_) 17 0 rfl N G (fun _ _ => rfl) (fun _ _ => rfl) (fun i hi => by omega)
    refine cl_goods hw hk j (by omega) m G' (fun c hc => (a1 c hc).trans (g1 c hc)) (fun g h1 h2 => ?_)
    by_cases e : g = j
    · rw [e]; exact a3
    · exact fun q hq => by rw [a2 _ (by omega)]; exact g2 g (by omega) h2 q hq
theorem cl_fill {m n : Nat} {z : Nat → Int} {s : Int} {H : fl_H} (hw : wf z) (hz : gz z H) (en : z 1 = (n : Int)) (hs : 0 ≤ s ∧ s ≤ 60) : ck (cm_pg X xs) m cm_m49 [.index 85, fl_t s] H (fun r H' => r = none ∧ (∀ c, c ≠ 85 → c ≠ 86 → H' c = H c) ∧ skh z s n H' ∧ ∀ g, g ≤ n → stb z s n g H') := by
  have bd := hw.1
  unfold zr at bd
  refine ve_Sack_fill_85 (fun H1 e1 m1 _ => ck_mono (ve_Arrays_fill_86 (cl_f86 (X := X) (xs := xs) m1 H1 0 (by omega))) (fun r3 H3 h3 => ⟨h3.1, ?_⟩))
  obtain ⟨-, z3, o3⟩ := h3
  have o : ∀ c, c ≠ 85 → c ≠ 86 → H3 c = H c := fun c a b => by rw [o3 c b, e1, fl_up_cell _ _ _ _ a]
  have hk : skh z s n H3 := ⟨gz_fr hz (fun c i a b => by rw [o c (by omega) (by omega)]), en, by rw [o3 85 (by omega), e1, fl_up_at], hs⟩
  rw [gz_1 hk.1, en]
  have key := cl_goods (X := X) (xs := xs) hw hk n (Nat.le_refl n) m H3 (fun _ _ => rfl) (fun g h1 h2 q hq => by
    rw [z3, if_pos (by omega), show n - g = 0 by omega]; rfl)
  intro lv l0 l1
  exact vt_mono (Nat.le_refl _) (fun r H' h => ⟨h.1, fun c a b => (h.2.1 c b).trans (o c a b), skh_86 hk h.2.1, h.2.2⟩) (key lv l0 l1)
theorem cl_pick {n w : Nat} {z : Nat → Int} {s : Int} {H : fl_H} (hw : wf z) (hk : skh z s n H) (ht : ∀ g, g ≤ n → stb z s n g H) (hwn : w < n) {Q : Option Int → fl_H → Prop} : ∀ (k g : Nat), g + k = n → g ≤ w → ∀ (r : Int), 0 ≤ r → r ≤ 16 → Q (some ((spk z s k g r w : Nat) : Int)) H → ∀ N, hd_Sack_picked_85_5 (cm_pg X xs) N H (w : Int) r (g : Int) Q
  | 0, g, hn, hgw, r, r0, r1, K, N => by omega
  | k + 1, g, hn, hgw, r, r0, r1, K, N => by
    have hk' := hk
    obtain ⟨k1, k2, k3, k4⟩ := hk
    have bd := hw.1
    unfold zr at bd
    have gz1 : (g : Int) < z 1 := by omega
    have hV : ∀ i, i < n → ∀ c, c < 2 → 0 ≤ zsal z i c * s ∧ zsal z i c * s ≤ 59940 := fun i hi c hc => sk_V hw k4 (by omega) hc
    have mb := smx_bd hV k (g + 1) (by omega)
    have mb1 := smx_bd hV (k + 1) g hn r
    have D3 := sdg_lt z s k g r
    have Df := sdg_fit (z := z) (s := s) (k := k) (g := g) r0
    have Dn : 0 ≤ sqA z g (sdg z s k g r) := by
      unfold sqA
      by_cases c : sdg z s k g r = 0
      · rw [if_pos c]; exact Int.le_refl _
      · rw [if_neg c]
        have := wf_are hw gz1 (s := sdg z s k g r - 1) (by omega)
        omega
    have fin : ∀ (N' d : Nat), sdg z s k g r = d → ((g : Int) = (w : Int) → Q (some (d : Int)) H) ∧ (¬ (g : Int) = (w : Int) → ((d : Int) ≤ 0 → ∀ m, m < N' → hd_Sack_picked_85_5 (cm_pg X xs) m H (w : Int) r ((g : Int) + 1) Q) ∧ (¬ (d : Int) ≤ 0 → ∀ m, m < N' → ck (cm_pg X xs) m cm_m45 [.index 3, fl_t (2 * (g : Int) + (d : Int) - 1)] H (fun r1 H5 => ∃ x7, r1 = some x7 ∧ (∀ m, m < N' → hd_Sack_picked_85_5 (cm_pg X xs) m H5 (w : Int) (r - x7) ((g : Int) + 1) Q)))) := by
      intro N' d ed
      refine ⟨fun e => ?_, fun e => ?_⟩
      · rw [spk_s, if_pos (by omega), ed] at K; exact K
      · rw [spk_s, if_neg (by omega), ed] at K
        rw [ed] at Df Dn
        rw [show ((g : Int) + 1) = ((g + 1 : Nat) : Int) by omega]
        have nx := fun m => cl_pick hw hk' ht hwn k (g + 1) (by omega) (by omega) (r - sqA z g d) (by omega) (by omega) K m
        refine ⟨fun e0 m _ => ?_, fun e0 m _ => ck_mono (dc_area (X := X) (xs := xs) (g := g) (s := d - 1) k1 (by omega) (by omega) (by omega)) (fun r5 H5 h5 => ⟨_, h5.1, fun m' _ => ?_⟩)⟩
        · have := nx m
          rw [show sqA z g d = 0 from if_pos (by omega), Int.sub_zero] at this
          exact this
        · have := nx m'
          rw [show sqA z g d = zare z g (d - 1) from if_neg (by omega)] at this
          rw [h5.2]; exact this
    have lp : ∀ (f d : Nat), d + f = 2 → ∀ N', (∀ d', d' < d → swt z s (smx z s k (g + 1)) g r d' ≠ smx z s (k + 1) g r) → hd_Sack_picked_85_19 (cm_pg X xs) N' H (w : Int) r (g : Int) (d : Int) Q := by
      intro f
      induction f with
      | zero =>
        intro d hd N' hno
        have e2 : d = 2 := by omega
        subst e2
        have ed : sdg z s k g r = 2 := by
          unfold sdg
          rw [if_neg (hno 0 (by omega)), if_neg (hno 1 (by omega))]
        refine vh_Sack_picked_85_19 ?_
        rw [fl_wi (x := ((2 : Nat) : Int)) (by omega) (by omega), fl_wi (x := (g : Int)) (by omega) (by omega), fl_wi (x := (w : Int)) (by omega) (by omega)]
        exact ⟨fun _ => fin N' 2 ed, fun hh => absurd (by omega) hh⟩
      | succ f ih =>
        intro d hd N' hno
        obtain ⟨q, eq⟩ : ∃ q : Nat, r = (q : Int) := ⟨r.toNat, by omega⟩
        have tb := ht g (by omega) q (by omega)
        rw [show n - g = k + 1 by omega, ← eq] at tb
        have b2 := swt_bd (g := g) (r := r) mb (hV g (by omega)) (show d < 3 by omega)
        refine vh_Sack_picked_85_19 ?_
        rw [fl_wi (x := (d : Int)) (by omega) (by omega), fl_wi (x := (g : Int)) (by omega) (by omega), fl_wi (x := (w : Int)) (by omega) (by omega), fl_wi (x := (g : Int) * 17 + r) (by omega) (by omega), show ((g : Int) * 17 + r).toNat = g * 17 + q by omega]
        refine ⟨fun hh => by omega, fun _ m1 _ => ck_mono (cl_with (X := X) (xs := xs) (g := g) (d := d) (B := smx z s k (g + 1)) k1 hw gz1 (by omega) (by omega) k3 (fun q' hq' => by rw [ht (g + 1) (by omega) q' hq', show n - (g + 1) = k by omega]) rfl rfl) (fun r2 H2 h2 => ⟨_, h2.1, ?_⟩)⟩
        rw [h2.2, tb, fl_wi (x := swt z s (smx z s k (g + 1)) g r d) (by omega) (by omega), fl_wi (x := smx z s (k + 1) g r) (by omega) (by omega)]
        refine fun _ => ⟨fun he => fin N' d ?_, fun he m' _ => ?_⟩
        · have l1 := sdg_le (z := z) (s := s) (k := k) (g := g) (r := r) (d := d) he (by omega)
          have a1 := sdg_at z s k g r
          refine Classical.byContradiction (fun ne => ?_)
          exact hno (sdg z s k g r) (by omega) a1
        · rw [show ((d : Int) + 1) = ((d + 1 : Nat) : Int) by omega]
          refine ih (d + 1) (by omega) m' (fun d' hd' => ?_)
          by_cases e : d' = d
          · rw [e]; exact he
          · exact hno d' (by omega)
    refine vh_Sack_picked_85_5 ?_
    rw [gz_1 k1, k2, fl_wi (x := (n : Int)) (by omega) (by omega), fl_wi (x := (g : Int)) (by omega) (by omega)]
    exact ⟨fun hh => by omega, fun _ => lp 2 0 rfl N (fun d' h => absurd h (by omega))⟩
-- ---- the price
theorem cl_tk {z : Nat → Int} {s : Int} {n g : Nat} {p : Int} {H : fl_H} (hw : wf z) (hk : skh z s n H) (hg : g < n) (hp : 0 ≤ p ∧ p ≤ 59940) {Q : Option Int → fl_H → Prop} {S : Int} (K : ∀ m, hd_Sack_taken_85_4 (cm_pg X xs) m H p (S + zTk z s g p) ((g : Int) + 1) Q) : ∀ N, hd_Sack_taken_85_26 (cm_pg X xs) N H p S (g : Int) 0 0 (2 * (g : Int)) Q := by
  obtain ⟨k1, k2, k3, k4⟩ := hk
  have bd := hw.1
  unfold zr at bd
  have gz1 : (g : Int) < z 1 := by omega
  -- a piece
  have ps : ∀ (c : Nat), c < 2 → ∀ (N : Nat) (q : Int × Int), 0 ≤ q.1 → q.1 ≤ 59940 → 0 ≤ q.2 → q.2 ≤ 16 → (∀ m, hd_Sack_taken_85_26 (cm_pg X xs) m H p S (g : Int) (tk2 q (zsal z g c * s) (zare z g c) p).2 (tk2 q (zsal z g c * s) (zare z g c) p).1 (2 * (g : Int) + (c : Int) + 1) Q) → hd_Sack_taken_85_26 (cm_pg X xs) N H p S (g : Int) q.2 q.1 (2 * (g : Int) + (c : Int)) Q := by
    intro c hc N q q1 q2 q3 q4 nx
    have ar := wf_are hw gz1 hc
    have v := sk_V hw k4 gz1 hc
    have m0 : 0 ≤ p * zare z g c := Int.mul_nonneg hp.1 (by omega)
    have m1 : p * zare z g c ≤ 59940 * zare z g c := Int.mul_le_mul_of_nonneg_right hp.2 (by omega)
    have et : (tk2 q (zsal z g c * s) (zare z g c) p) = if q.1 < zsal z g c * s - p * zare z g c ∨ (zsal z g c * s - p * zare z g c = q.1 ∧ zare z g c < q.2) then (zsal z g c * s - p * zare z g c, zare z g c) else q := rfl
    refine vh_Sack_taken_85_26 ?_
    rw [fl_wi (x := 2 * (g : Int) + 1) (by omega) (by omega), fl_wi (x := 2 * (g : Int) + (c : Int)) (by omega) (by omega), show (2 * (g : Int) + (c : Int)).toNat = 2 * g + c by omega]
    refine ⟨fun hh => by omega, fun _ m1' _ => ck_mono (dc_area (X := X) (xs := xs) (g := g) (s := c) k1 (by omega) hc (by omega)) (fun r4 H4 h4 => ⟨_, h4.1, ?_⟩)⟩
    rw [h4.2, gz_sl k1 (by omega) hc, k3, fl_wi (x := zsal z g c * s - p * zare z g c) (by omega) (by omega), fl_wi (x := q.1) (by omega) (by omega), fl_wi (x := q.2) (by omega) (by omega), fl_wi (x := zare z g c) (by omega) (by omega)]
    refine fun _ => ⟨fun c1 m _ => ?_, fun c1 => ⟨fun c2 => ⟨fun c3 m _ => ?_, fun c3 m _ => ?_⟩, fun c2 m _ => ?_⟩⟩
    · have := nx m
      rw [et, if_neg (by omega)] at this
      exact this
    · have := nx m
      rw [et, if_pos (Or.inr ⟨c2, c3⟩)] at this
      exact this
    · have := nx m
      rw [et, if_neg (by omega)] at this
      exact this
    · have := nx m
      rw [et, if_pos (by omega)] at this
      exact this
  intro N
  have a0 := wf_are hw gz1 (s := 0) (by omega)
  have a1 := wf_are hw gz1 (s := 1) (by omega)
  have v0 := sk_V hw k4 gz1 (c := 0) (by omega)
  have m0 : 0 ≤ p * zare z g 0 := Int.mul_nonneg hp.1 (by omega)
  have e1 : tk2 ((0, 0) : Int × Int) (zsal z g 0 * s) (zare z g 0) p = tk1 (zsal z g 0 * s) (zare z g 0) p := by
    unfold tk2 tk1
    by_cases c : 0 < zsal z g 0 * s - p * zare z g 0
    · rw [if_pos c, if_pos (Or.inl c)]
    · rw [if_neg c, if_neg (by show ¬ ((0 : Int) < _ ∨ _ ∧ _ < (0 : Int)); omega)]
  have b : 0 ≤ (tk1 (zsal z g 0 * s) (zare z g 0) p).1 ∧ (tk1 (zsal z g 0 * s) (zare z g 0) p).1 ≤ 59940 ∧ 0 ≤ (tk1 (zsal z g 0 * s) (zare z g 0) p).2 ∧ (tk1 (zsal z g 0 * s) (zare z g 0) p).2 ≤ 16 := by
    unfold tk1
    by_cases c : 0 < zsal z g 0 * s - p * zare z g 0
    · rw [if_pos c]; dsimp only; omega
    · rw [if_neg c]; dsimp only; omega
  have st := ps 0 (by omega) N (0, 0) (Int.le_refl _) (by decide) (Int.le_refl _) (by decide) (fun m => by
    rw [e1]
    have s2 := ps 1 (by omega) m (tk1 (zsal z g 0 * s) (zare z g 0) p) b.1 b.2.1 b.2.2.1 b.2.2.2 (fun m' => ?_)
    · rw [show 2 * (g : Int) + ((0 : Nat) : Int) + 1 = 2 * (g : Int) + ((1 : Nat) : Int) by omega]
      exact s2
    · refine vh_Sack_taken_85_26 ?_
      rw [fl_wi (x := 2 * (g : Int) + 1) (by omega) (by omega), fl_wi (x := 2 * (g : Int) + ((1 : Nat) : Int) + 1) (by omega) (by omega)]
      exact ⟨fun _ m'' _ => K m'', fun hh => by omega⟩)
  rw [show 2 * (g : Int) + ((0 : Nat) : Int) = 2 * (g : Int) by omega] at st
  exact st
theorem cl_taken {m n : Nat} {z : Nat → Int} {s p : Int} {H : fl_H} (hw : wf z) (hk : skh z s n H) (hp : 0 ≤ p ∧ p ≤ 59940) : ck (cm_pg X xs) m cm_m54 [.index 85, fl_t p] H (fun r H' => r = some (zTa z s n p) ∧ H' = H) := by
  have bd := hw.1
  unfold zr at bd
  have k2 := hk.2.1
  have key : ∀ (f k : Nat), k + f = n → ∀ N, hd_Sack_taken_85_4 (cm_pg X xs) N H p (zTa z s k p) (k : Int) (fun r H' => r = some (zTa z s n p) ∧ H' = H) := by
    intro f
    induction f with
    | zero =>
      intro k hk' N
      have e : k = n := by omega
      subst e
      refine vh_Sack_taken_85_4 ?_
      rw [gz_1 hk.1, k2, fl_wi (x := (k : Int)) (by omega) (by omega)]
      exact ⟨fun _ => ⟨rfl, rfl⟩, fun hh => absurd (Int.le_refl _) hh⟩
    | succ f ih =>
      intro k hk' N
      refine vh_Sack_taken_85_4 ?_
      rw [gz_1 hk.1, k2, fl_wi (x := (n : Int)) (by omega) (by omega), fl_wi (x := (k : Int)) (by omega) (by omega)]
      refine ⟨fun hh => by omega, fun _ => cl_tk (X := X) (xs := xs) hw hk (by omega) hp (fun m' => ?_) N⟩
      have := ih (k + 1) (by omega) m'
      rw [show ((k : Int) + 1) = ((k + 1 : Nat) : Int) by omega]
      exact this
  exact ve_Sack_taken_85 (key n 0 (by omega) m)
theorem cl_price {m n : Nat} {z : Nat → Int} {s : Int} {H : fl_H} (hw : wf z) (hz : gz z H) (en : z 1 = (n : Int)) (hs : 0 ≤ s ∧ s ≤ 60) : ck (cm_pg X xs) m cm_m53 [.index 85, fl_t s] H (fun r H' => (∃ v, r = some v ∧ pPri z s n v) ∧ ∀ c, c ≠ 85 → H' c = H c) := by
  have hA : ∀ i, i < n → ∀ c, c < 2 → 1 ≤ zare z i c := fun i hi c hc => (wf_are hw (by omega) hc).1
  have hV : ∀ i, i < n → ∀ c, c < 2 → zsal z i c * s ≤ 59940 := fun i hi c hc => (sk_V hw hs (by omega) hc).2
  refine ve_Sack_price_85 (fun H1 e1 => ?_)
  have o : ∀ c, c ≠ 85 → H1 c = H c := fun c a => by rw [e1, fl_up_cell _ _ _ _ a]
  have hk : skh z s n H1 := ⟨gz_fr hz (fun c i a b => by rw [o c (by omega)]), en, by rw [e1, fl_up_at], hs⟩
  have key : ∀ (f a4 : Nat), a4 + f = 32 → ∀ (N : Nat) (lo hi : Nat), lo ≤ hi → hi ≤ 59940 → hi - lo < 2 ^ f → zTa z s n (hi : Int) ≤ 16 → (∀ x : Int, 0 ≤ x → x < (lo : Int) → ¬ zTa z s n x ≤ 16) → hd_Sack_price_85_13 (cm_pg X xs) N H1 (lo : Int) (hi : Int) (a4 : Int) (fun r H' => (∃ v, r = some v ∧ pPri z s n v) ∧ ∀ c, c ≠ 85 → H' c = H c) := by
    intro f
    induction f with
    | zero =>
      intro a4 h4 N lo hi hl hh hd hT hx
      have h1 : hi - lo < 1 := hd
      have e : lo = hi := by omega
      subst e
      refine vh_Sack_price_85_13 ?_
      rw [fl_wi (x := (a4 : Int)) (by omega) (by omega)]
      exact ⟨fun _ => ⟨⟨_, rfl, by omega, hT, hx⟩, o⟩, fun q => absurd (by omega) q⟩
    | succ f ih =>
      intro a4 h4 N lo hi hl hh hd hT hx
      rw [Nat.pow_succ] at hd
      have p2 : 0 < 2 ^ f := Nat.pow_pos (by decide)
      have ed : fl_div ((lo : Int) + (hi : Int)) 2 = (((lo + hi) / 2 : Nat) : Int) := by
        unfold fl_div
        rw [fl_wi (x := (lo : Int) + (hi : Int)) (by omega) (by omega), w_2, ← Int.natCast_add]
        exact td_nat (lo + hi) 2
      refine vh_Sack_price_85_13 ?_
      rw [fl_wi (x := (a4 : Int)) (by omega) (by omega), fl_wi (x := (lo : Int)) (by omega) (by omega), fl_wi (x := (hi : Int)) (by omega) (by omega), ed, show ((a4 : Int) + 1) = ((a4 + 1 : Nat) : Int) by omega]
      refine ⟨fun q => by omega, fun _ => ⟨fun q => ?_, fun q m1 _ => ?_⟩⟩
      · have e : lo = hi := by omega
        subst e
        exact ⟨⟨_, rfl, by omega, hT, hx⟩, o⟩
      · refine ck_mono (cl_taken (X := X) (xs := xs) hw hk (p := (((lo + hi) / 2 : Nat) : Int)) (by omega)) (fun r4 H4 h4' => ⟨_, h4'.1, ?_⟩)
        have tb : 0 ≤ zTa z s n (((lo + hi) / 2 : Nat) : Int) ∧ zTa z s n (((lo + hi) / 2 : Nat) : Int) ≤ 100 := by
          have u : zTa z s n (((lo + hi) / 2 : Nat) : Int) ≤ psm (fun _ => 16) n := psm_le (fun i hi' => by
            have a0 := wf_are hw (show (i : Int) < z 1 by omega) (s := 0) (by omega)
            have a1 := wf_are hw (show (i : Int) < z 1 by omega) (s := 1) (by omega)
            unfold zTk tk2 tk1
            split <;> dsimp only <;> split <;> dsimp only <;> omega)
          have l : psm (fun _ => (0 : Int)) n ≤ zTa z s n (((lo + hi) / 2 : Nat) : Int) := psm_le (fun i hi' => by
            have a0 := wf_are hw (show (i : Int) < z 1 by omega) (s := 0) (by omega)
            have a1 := wf_are hw (show (i : Int) < z 1 by omega) (s := 1) (by omega)
            unfold zTk tk2 tk1
            split <;> dsimp only <;> split <;> dsimp only <;> omega)
          rw [psm_const] at u l
          have bd := hw.1
          unfold zr at bd
          omega
        rw [h4'.2, fl_wi (x := zTa z s n (((lo + hi) / 2 : Nat) : Int)) (by omega) (by omega)]
        refine ⟨fun c m2 _ => ?_, fun c m2 _ => ?_⟩
        · rw [show (((lo + hi) / 2 : Nat) : Int) + 1 = (((lo + hi) / 2 + 1 : Nat) : Int) by omega]
          refine ih (a4 + 1) (by omega) m2 ((lo + hi) / 2 + 1) hi (by omega) hh (by omega) hT (fun x x0 x1 => ?_)
          have := zTa_anti hA (show x ≤ (((lo + hi) / 2 : Nat) : Int) by omega) (s := s)
          omega
        · exact ih (a4 + 1) (by omega) m2 lo ((lo + hi) / 2) (by omega) (by omega) (by omega) (by omega) hx
  exact key 32 0 rfl m 0 59940 (by omega) (by omega) (by decide) (by rw [show (((59940 : Nat) : Int)) = 59940 from rfl, zTa_hi hA hV]; omega) (fun x x0 x1 => by omega)
end
end
