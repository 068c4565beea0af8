noncomputable section
/-! L3: the reference's laying, by going on and back; what it keeps of fits. -/
section
variable {X : Term} {xs : List Int32}
/-- what a laying leaves -/
def lyo (H G : fl_H) : Prop := ∀ c, c ≠ 97 → c ≠ 98 → c ≠ 99 → (c ≠ 94 → G c = H c) ∧ (c = 94 → ∀ i, i ≠ 4 → G c i = H c i)
theorem lyo_refl (H : fl_H) : lyo H H := fun _ _ _ _ => ⟨fun _ => rfl, fun _ _ _ => rfl⟩
theorem lyo_trans {H G F : fl_H} (h : lyo H G) (g : lyo G F) : lyo H F := fun c a b d => ⟨fun e => ((g c a b d).1 e).trans ((h c a b d).1 e), fun e i hi => ((g c a b d).2 e i hi).trans ((h c a b d).2 e i hi)⟩
theorem lyo_up {H G : fl_H} (h : lyo H G) {c i : Nat} (v : Int) (hc : c = 97 ∨ c = 98 ∨ c = 99 ∨ (c = 94 ∧ i = 4)) : lyo H (fl_up G c i v) := fun d a b e => by
  refine ⟨fun hd => ?_, fun hd j hj => ?_⟩
  · rw [fl_up_cell _ _ _ _ (by omega)]; exact (h d a b e).1 hd
  · have : fl_up G c i v d j = G d j := by
      unfold fl_up
      rw [if_neg (by omega)]
    rw [this]; exact (h d a b e).2 hd j hj
theorem lyo_95 {H G : fl_H} (h : lyo H G) : G 95 = H 95 := (h 95 (by decide) (by decide) (by decide)).1 (by decide)
/-- the state of the search: k goods lie -/
def lst (z : Nat → Int) (code K : Nat) (l : Nat → Nat) (G : fl_H) (k b : Nat) : Prop :=
  G 94 4 = (K : Int) ∧ (∀ j, j < K → G 98 j = ((l j : Nat) : Int)) ∧ ∃ pos tk : Nat → Nat, tk 0 = 0 ∧ (∀ j, j ≤ k → G 99 j = ((tk j : Nat) : Int) ∧ tk j < 65536) ∧ (∀ j, j < k → G 97 j = ((pos j : Nat) : Int) ∧ pos j < 16 ∧ tk (j + 1) = tk j ||| zB z code (l j) (pos j) ∧ zB z code (l j) (pos j) ≠ 0 ∧ dj (zB z code (l j) (pos j)) (tk j) ∧ ∀ q, q < pos j → bad z code (l j) (tk j) q) ∧ (k < K → ∀ q, q < b → bad z code (l k) (tk k) q)
/-- what the search comes to -/
def lpo (z : Nat → Int) (code K : Nat) (l : Nat → Nat) (H : fl_H) (r : Option Int) (G : fl_H) : Prop :=
  lyo H G ∧ r = some (fl_b (zfit z code)) ∧ (zfit z code → G 94 4 = (K : Int) ∧ (∀ j, j < K → G 98 j = ((l j : Nat) : Int)) ∧ ∃ pos, frst z code pos ∧ ∀ j, j < K → G 97 j = ((pos (l j) : Nat) : Int))
theorem lst_done {z : Nat → Int} {code K : Nat} {l : Nat → Nat} {G : fl_H} {b : Nat} (hl : lso code K l) (h : lst z code K l G K b) : zfit z code ∧ ∃ pos, frst z code pos ∧ ∀ j, j < K → G 97 j = ((pos (l j) : Nat) : Int) := by
  obtain ⟨-, -, pos, tk, h0, h1, h2, -⟩ := h
  -- from k on they can lie: by what lies
  have up : ∀ f k, k + f = K → plF (zB z code) (mge code (lbo K l k)) (tk k) 0 := by
    intro f
    induction f with
    | zero =>
      intro k hk
      refine plF_none (fun g hg => ?_)
      unfold mge lbo
      rw [if_neg (by omega)]
      have : Nat.ble 6 g = false := by
        cases hb : Nat.ble 6 g
        · rfl
        · exact absurd (Nat.le_of_ble_eq_true hb) (by omega)
      rw [this, Bool.and_false]
    | succ f ih =>
      intro k hk
      have ih := ih (k + 1) (by omega)
      obtain ⟨a1, a2, a3, a4, a5, a6⟩ := h2 k (by omega)
      rw [a3] at ih
      refine (lso_plF hl (by omega)).mpr ⟨pos k, a2, fun hb => hb ⟨a4, a5, (plF_congr (lso_nx hl (by omega))).mpr ih⟩⟩
  have ok : ∀ j, j < K → ¬ bad z code (l j) (tk j) (pos j) := fun j hj hb => by
    obtain ⟨a1, a2, a3, a4, a5, a6⟩ := h2 j hj
    have := up (K - (j + 1)) (j + 1) (by omega)
    rw [a3] at this
    exact hb ⟨a4, a5, (plF_congr (lso_nx hl hj)).mpr this⟩
  -- by goods
  obtain ⟨ix, hix⟩ : ∃ ix : Nat → Nat, ∀ g, g < 6 → zM code g = true → ix g < K ∧ l (ix g) = g := by
    refine ⟨fun g => if h : ∃ j, j < K ∧ l j = g then Classical.choose h else 0, fun g hg hm => ?_⟩
    have h := hl.2.2.2 g hg hm
    dsimp only
    rw [dif_pos h]
    exact Classical.choose_spec h
  have ixl : ∀ j, j < K → ix (l j) = j := fun j hj => by
    obtain ⟨a, b⟩ := hix (l j) (hl.2.1 j hj).1 (hl.2.1 j hj).2
    exact lso_inj hl a hj b
  -- what lies ahead of the j-th of the list
  have cv : ∀ j, j ≤ K → ∀ n, n ≤ 6 → (∀ i, i < j → l i < n) → (∀ g, g < n → zM code g = true → ∃ i, i < j ∧ l i = g) → uni (zB z code) (zM code) (fun g => pos (ix g)) 0 n = tk j := by
    intro j
    induction j with
    | zero =>
      intro _ n
      induction n with
      | zero => intro _ _ _; exact h0.symm
      | succ n ihn =>
        intro hn ha hb
        show (if zM code n = true then _ else uni (zB z code) (zM code) (fun g => pos (ix g)) 0 n) = tk 0
        rw [if_neg (fun hm => by obtain ⟨i, hi, -⟩ := hb n (by omega) hm; omega)]
        exact ihn (by omega) (fun i hi => absurd hi (by omega)) (fun g hg hm => hb g (by omega) hm)
    | succ j ihj =>
      intro hj n
      induction n with
      | zero => intro _ ha _; exact absurd (ha 0 (by omega)) (by omega)
      | succ n ihn =>
        intro hn ha hb
        show (if zM code n = true then uni (zB z code) (zM code) (fun g => pos (ix g)) 0 n ||| zB z code n (pos (ix n)) else uni (zB z code) (zM code) (fun g => pos (ix g)) 0 n) = tk (j + 1)
        by_cases hm : zM code n = true
        · rw [if_pos hm]
          obtain ⟨i, hi, e⟩ := hb n (by omega) hm
          have eij : i = j := by
            rcases Nat.lt_trichotomy i j with q | q | q
            · have := hl.2.2.1 i j q (by omega); have := ha j (by omega); omega
            · exact q
            · omega
          subst eij
          have e2 : ix n = i := by rw [← e]; exact ixl i (by omega)
          rw [e2, ihj (by omega) n (by omega) (fun i' hi' => by have := hl.2.2.1 i' i hi' (by omega); omega) (fun g hg hgm => ?_)]
          · obtain ⟨a1, a2, a3, a4, a5, a6⟩ := h2 i (by omega)
            rw [a3, e]
          · obtain ⟨i', hi', e'⟩ := hb g (by omega) hgm
            refine ⟨i', ?_, e'⟩
            rcases Nat.lt_trichotomy i' i with q | q | q
            · exact q
            · rw [q] at e'; omega
            · omega
        · rw [if_neg hm]
          refine ihn (by omega) (fun i hi => ?_) (fun g hg hgm => hb g (by omega) hgm)
          have h1 := ha i hi
          by_cases e : l i = n
          · exact absurd (by rw [← e]; exact (hl.2.1 i (by omega)).2) hm
          · omega
  have cvl : ∀ j, j < K → cvr z code (fun g => pos (ix g)) (l j) = tk j := fun j hj => cv j (by omega) (l j) (by have := (hl.2.1 j hj).1; omega) (fun i hi => hl.2.2.1 i j hi hj) (fun g hg hm => by
    obtain ⟨i, hi, e⟩ := hl.2.2.2 g (by have := (hl.2.1 j hj).1; omega) hm
    refine ⟨i, ?_, e⟩
    rcases Nat.lt_trichotomy i j with q | q | q
    · exact q
    · rw [q] at e; omega
    · have := hl.2.2.1 j i q hi; omega)
  refine ⟨?_, fun g => pos (ix g), fun g hg hm => ?_, fun j hj => ?_⟩
  · have := up K 0 (by omega)
    rw [h0] at this
    refine (plF_congr (fun g hg => ?_)).mpr this
    unfold mge
    cases hm : zM code g
    · rfl
    · obtain ⟨j, hj, e⟩ := hl.2.2.2 g hg hm
      have : lbo K l 0 ≤ g := by
        unfold lbo
        rw [if_pos (by omega)]
        rcases Nat.lt_trichotomy 0 j with q | q | q
        · have := hl.2.2.1 0 j q hj; omega
        · rw [q, e]; omega
        · omega
      rw [Nat.ble_eq_true_of_le this]; rfl
  · obtain ⟨a, b⟩ := hix g hg hm
    have e := cvl (ix g) a
    rw [b] at e
    obtain ⟨a1, a2, a3, a4, a5, a6⟩ := h2 (ix g) a
    have o := ok (ix g) a
    rw [b] at o a6
    rw [e]
    exact ⟨a2, o, a6⟩
  · dsimp only
    rw [ixl j hj]
    exact (h2 j hj).1
theorem rc_search {code K : Nat} {l : Nat → Nat} {H : fl_H} (hw : wf (H 95)) (h7 : code < 729) (hc : zcd (H 95) code) (hl : lso code K l) : ∀ (N : Nat) (G : fl_H), lyo H G → (∀ k b, k ≤ K → b ≤ 16 → lst (H 95) code K l G k b → hd_GoodsBookModel_lay_94_62 (cm_pg X xs) N G (code : Int) (k : Int) (b : Int) (lpo (H 95) code K l H)) ∧ (∀ k b, k < K → b ≤ 16 → lst (H 95) code K l G k b → hd_GoodsBookModel_lay_94_95 (cm_pg X xs) N G (code : Int) (k : Int) ((l k : Nat) : Int) ((dig code (l k) - 1 : Nat) : Int) (b : Int) (lpo (H 95) code K l H)) ∧ (¬ zfit (H 95) code → hd_GoodsBookModel_lay_94_62 (cm_pg X xs) N G (code : Int) (-1) 0 (lpo (H 95) code K l H)) := by
  intro N
  induction N using Nat.strongRecOn with
  | ind N IH =>
    intro G hG
    have K6 := hl.1
    have e95 : G 95 = H 95 := lyo_95 hG
    have c95 : ∀ k b, k < K → b ≤ 16 → lst (H 95) code K l G k b → hd_GoodsBookModel_lay_94_95 (cm_pg X xs) N G (code : Int) (k : Int) ((l k : Nat) : Int) ((dig code (l k) - 1 : Nat) : Int) (b : Int) (lpo (H 95) code K l H) := by
      intro k b hk hb hs
      obtain ⟨g6, gm⟩ := hl.2.1 k hk
      have d0 := zM_t.mp gm
      have d3 := dig_lt code (l k)
      have glt := hc (l k) g6 gm
      have hB := zgB hw hc (l k) g6 gm
      obtain ⟨s1, s2, pos, tk, s3, s4, s5, s6⟩ := id hs
      obtain ⟨t1, t2⟩ := s4 k (Nat.le_refl _)
      -- back
      have back : 16 ≤ b → (fl_w ((k : Int) + (-1)) < 0 → ∀ m, m < N → hd_GoodsBookModel_lay_94_62 (cm_pg X xs) m G (code : Int) ((k : Int) + (-1)) 0 (lpo (H 95) code K l H)) ∧ (¬ fl_w ((k : Int) + (-1)) < 0 → (0 ≤ fl_w ((k : Int) + (-1)) ∧ fl_w ((k : Int) + (-1)) < 6 → ∀ m, m < N → hd_GoodsBookModel_lay_94_62 (cm_pg X xs) m G (code : Int) ((k : Int) + (-1)) (G 97 (fl_w ((k : Int) + (-1))).toNat + 1) (lpo (H 95) code K l H))) := by
        intro h16
        have none : ¬ plF (zB (H 95) code) (mge code (lbo K l k)) (tk k) 0 := fun q => by
          obtain ⟨q', hq, hn⟩ := (lso_plF hl hk).mp q
          exact hn (s6 hk q' (by omega))
        rw [fl_wi (x := (k : Int) + -1) (by omega) (by omega)]
        refine ⟨fun h0 m hm => ?_, fun h0 _ m hm => ?_⟩
        · have k0 : k = 0 := by omega
          have em : (k : Int) + -1 = -1 := by omega
          rw [em]
          refine (IH m hm G hG).2.2 (fun q => none ?_)
          rw [k0, s3]
          refine (plF_congr (fun g hg => ?_)).mp q
          unfold mge
          cases hm : zM code g
          · rfl
          · obtain ⟨j, hj, e⟩ := hl.2.2.2 g hg hm
            have : lbo K l 0 ≤ g := by
              unfold lbo
              rw [if_pos (by omega)]
              rcases Nat.lt_trichotomy 0 j with q | q | q
              · have := hl.2.2.1 0 j q hj; omega
              · rw [q, e]; omega
              · omega
            rw [Nat.ble_eq_true_of_le this]; rfl
        · obtain ⟨k', rfl⟩ : ∃ k', k = k' + 1 := ⟨k - 1, by omega⟩
          have em : ((k' + 1 : Nat) : Int) + -1 = (k' : Int) := by omega
          obtain ⟨a1, a2, a3, a4, a5, a6⟩ := s5 k' (by omega)
          rw [em, Int.toNat_natCast, a1]
          have en : ((pos k' : Nat) : Int) + 1 = ((pos k' + 1 : Nat) : Int) := by omega
          rw [en]
          refine (IH m hm G hG).1 k' (pos k' + 1) (by omega) (by omega) ⟨s1, s2, pos, tk, s3, fun j hj => s4 j (by omega), fun j hj => s5 j (by omega), fun _ q hq => ?_⟩
          by_cases e : q = pos k'
          · rw [e]
            intro hb'
            have := (plF_congr (lso_nx hl (show k' < K by omega))).mp hb'.2.2
            rw [← a3] at this
            exact none this
          · exact a6 q (by omega)
      -- on
      have on : b < 16 → ∀ v : Nat, v = zB (H 95) code (l k) b → v ≠ 0 → dj v (tk k) → ∀ F F' : fl_H, F = fl_up G 97 k (b : Int) → F' = fl_up F 99 (k + 1) (fl_or (F 99 k) (v : Int)) → ∀ m, m < N → hd_GoodsBookModel_lay_94_62 (cm_pg X xs) m F' (code : Int) ((k : Int) + 1) 0 (lpo (H 95) code K l H) := by
        intro hb16 v hv hv0 hvd F F' eF eF' m hm
        subst hv
        have bl : zB (H 95) code (l k) b < 65536 := by
          have ar := wf_are hw glt (show dig code (l k) - 1 < 2 by omega)
          exact (cv_all (w := ((H 95) (16 + 8 * l k + 3 * (dig code (l k) - 1))).toNat) (by omega) (by omega) (h := ((H 95) (17 + 8 * l k + 3 * (dig code (l k) - 1))).toNat) (by omega) (by omega) hb16).1
        have ek : (k : Int) + 1 = ((k + 1 : Nat) : Int) := by omega
        have v99 : F 99 k = ((tk k : Nat) : Int) := by rw [eF, fl_up_c _ _ _ _ (by decide)]; exact t1
        rw [v99, fn_or (by omega) (by omega)] at eF'
        rw [ek]
        have oF : lyo H F' := by rw [eF', eF]; exact lyo_up (lyo_up hG _ (Or.inl rfl)) _ (Or.inr (Or.inr (Or.inl rfl)))
        refine (IH m hm F' oF).1 (k + 1) 0 (by omega) (by omega) ⟨?_, fun j hj => ?_, pup pos k b, pup tk (k + 1) (tk k ||| zB (H 95) code (l k) b), ?_, fun j hj => ?_, fun j hj => ?_, fun _ q hq => absurd hq (by omega)⟩
        · rw [eF', fl_up_c _ _ _ _ (by decide), eF, fl_up_c _ _ _ _ (by decide)]; exact s1
        · rw [eF', fl_up_c _ _ _ _ (by decide), eF, fl_up_c _ _ _ _ (by decide)]; exact s2 j hj
        · rw [pup_ne _ _ (by omega)]; exact s3
        · by_cases e : j = k + 1
          · rw [e, pup_at, eF', fl_up_at]
            exact ⟨rfl, Nat.or_lt_two_pow (n := 16) t2 bl⟩
          · rw [pup_ne _ _ e, eF', fl_up_i _ _ _ _ e, eF, fl_up_c _ _ _ _ (by decide)]
            exact s4 j (by omega)
        · by_cases e : j = k
          · subst e
            rw [pup_at, pup_at, pup_ne _ _ (show j ≠ j + 1 by omega), eF', fl_up_c _ _ _ _ (by decide), eF, fl_up_at]
            exact ⟨rfl, hb16, rfl, hv0, hvd, s6 hk⟩
          · rw [pup_ne _ _ e, pup_ne _ _ (show j + 1 ≠ k + 1 by omega), pup_ne _ _ (show j ≠ k + 1 by omega), eF', fl_up_c _ _ _ _ (by decide), eF, fl_up_i _ _ _ _ e]
            exact s5 j (by omega)
      -- a square further
      have further : b < 16 → bad (H 95) code (l k) (tk k) b → ∀ m, m < N → hd_GoodsBookModel_lay_94_95 (cm_pg X xs) m G (code : Int) (k : Int) ((l k : Nat) : Int) ((dig code (l k) - 1 : Nat) : Int) ((b : Int) + 1) (lpo (H 95) code K l H) := by
        intro hb16 hbad m hm
        have eb : (b : Int) + 1 = ((b + 1 : Nat) : Int) := by omega
        rw [eb]
        refine (IH m hm G hG).2.1 k (b + 1) hk (by omega) ⟨s1, s2, pos, tk, s3, s4, s5, fun _ q hq => ?_⟩
        by_cases e : q = b
        · rw [e]; exact hbad
        · exact s6 hk q (by omega)
      have w16 : fl_w 16 = 16 := rfl
      have ek1 : ((k : Int) + 1).toNat = k + 1 := by omega
      have eG : G 95 = H 95 := e95
      refine vh_GoodsBookModel_lay_94_95 ?_
      rw [fl_wi (x := (b : Int)) (by omega) (by omega), fl_wi (x := (k : Int)) (by omega) (by omega), fl_wi (x := (k : Int) + 1) (by omega) (by omega), Int.toNat_natCast, ek1]
      have bits : ∀ (m : Nat) (F : fl_H), F 95 = H 95 → b < 16 → ck (cm_pg X xs) m cm_m170 [.index 94, fl_t ((l k : Nat) : Int), fl_t ((dig code (l k) - 1 : Nat) : Int), fl_t (b : Int)] F (fun r F' => r = some ((zB (H 95) code (l k) b : Nat) : Int) ∧ F' = F) := fun m F hF hb16 => by
        have := rc_bits (X := X) (xs := xs) (m := m) (H := F) (g := l k) (s := dig code (l k) - 1) (q := b) (by rw [hF]; exact hw) (by rw [hF]; exact glt) (by omega) hb16 rfl rfl rfl
        rw [hF] at this
        exact this
      refine ⟨fun h16 => ⟨fun _ => back (by omega), fun h => absurd h16 h⟩, fun h16 m hm => ck_mono (bits m G eG (by omega)) (fun r20 H20 h20 => ⟨_, h20.1, ?_⟩)⟩
      have e20 := h20.2
      subst e20
      have bl : zB (H 95) code (l k) b < 65536 := by
        have ar := wf_are hw glt (show dig code (l k) - 1 < 2 by omega)
        exact (cv_all (w := ((H 95) (16 + 8 * l k + 3 * (dig code (l k) - 1))).toNat) (by omega) (by omega) (h := ((H 95) (17 + 8 * l k + 3 * (dig code (l k) - 1))).toNat) (by omega) (by omega) (show b < 16 by omega)).1
      rw [fl_wi (x := ((zB (H 95) code (l k) b : Nat) : Int)) (by omega) (by omega)]
      refine ⟨fun h0 m hm => further (by omega) (fun hb' => hb'.1 (by omega)) m hm, fun h0 m hm => ck_mono (bits m _ eG (by omega)) (fun r25 H25 h25 => ⟨_, h25.1, ?_⟩)⟩
      have e25 := h25.2
      subst e25
      have al : zB (H 95) code (l k) b &&& tk k ≤ zB (H 95) code (l k) b := Nat.and_le_left
      rw [t1, fn_and (by omega) (by omega), fl_wi (x := ((zB (H 95) code (l k) b &&& tk k : Nat) : Int)) (by omega) (by omega)]
      refine fun _ => ⟨fun ha => ⟨fun h16' => absurd h16' h16, fun _ _ H36 e36 _ m hm => ck_mono (bits m H36 (by rw [e36, fl_up_cell _ _ _ _ (by decide)]; exact eG) (by omega)) (fun r40 H40 h40 => ⟨_, h40.1, ?_⟩)⟩, fun ha m hm => further (by omega) (fun hb' => ha (by have := dj_iff.mpr hb'.2.1; omega)) m hm⟩
      have e40 := h40.2
      subst e40
      exact fun _ H43 e43 m hm => on (by omega) _ rfl (by omega) (dj_iff.mp (by omega)) H40 H43 e36 e43 m hm
    refine ⟨fun k b hk hb hs => ?_, c95, fun hn => ?_⟩
    · obtain ⟨s1, s2, -⟩ := id hs
      refine vh_GoodsBookModel_lay_94_62 ?_
      rw [s1, fl_wi (x := (k : Int)) (by omega) (by omega), fl_wi (x := (K : Int)) (by omega) (by omega), Int.toNat_natCast]
      refine ⟨fun h => by omega, fun _ => ⟨fun hK => ⟨fun h => by omega, fun _ => ?_⟩, fun hK _ m hm => ?_⟩⟩
      · have e : k = K := by omega
        rw [e] at hs
        obtain ⟨f1, f2⟩ := lst_done hl hs
        exact ⟨hG, by rw [fl_b1 f1], fun _ => ⟨s1, s2, f2⟩⟩
      · have kK : k < K := by omega
        obtain ⟨g6, gm⟩ := hl.2.1 k kK
        have d0 := zM_t.mp gm
        rw [s2 k kK]
        refine ck_mono (rc_digit (X := X) (xs := xs) h7 (g := l k) (by omega) rfl rfl) (fun r7 H7 h7' => ⟨_, h7'.1, ?_⟩)
        have e7 := h7'.2
        subst e7
        have ed : ((dig code (l k) : Nat) : Int) - 1 = ((dig code (l k) - 1 : Nat) : Int) := by omega
        rw [ed]
        exact c95 k b kK hb hs
    · refine vh_GoodsBookModel_lay_94_62 ?_
      have wm : fl_w (-1) = -1 := rfl
      rw [wm]
      exact ⟨fun _ => ⟨fun _ => ⟨hG, by rw [fl_b0 hn], fun hf => absurd hf hn⟩, fun h => absurd (show (-1 : Int) < 0 by decide) h⟩, fun h => absurd (show (-1 : Int) < 0 by decide) h⟩
/-- the laying: does it fit; the goods as they are listed, the first squares -/
def lpq (z : Nat → Int) (code : Nat) (H : fl_H) (r : Option Int) (G : fl_H) : Prop := ∃ K l, lso code K l ∧ lpo z code K l H r G
theorem rc_lay {m code : Nat} {H : fl_H} (hw : wf (H 95)) (h7 : code < 729) (hc : zcd (H 95) code) : ck (cm_pg X xs) m cm_m171 [.index 94, fl_t (code : Int)] H (lpq (H 95) code H) := by
  obtain ⟨-, -, z1, z2, -⟩ := id hw.1
  obtain ⟨n, hn⟩ : ∃ n : Nat, H 95 1 = (n : Int) := ⟨(H 95 1).toNat, by omega⟩
  have key : ∀ (f g : Nat), g + f = n → ∀ (N : Nat) (G : fl_H) (K : Nat) (l : Nat → Nat), lyo H G → K ≤ g → G 94 4 = (K : Int) → (∀ j, j < K → G 98 j = ((l j : Nat) : Int) ∧ l j < g ∧ zM code (l j) = true) → (∀ i j, i < j → j < K → l i < l j) → (∀ g', g' < g → zM code g' = true → ∃ j, j < K ∧ l j = g') → hd_GoodsBookModel_lay_94_7 (cm_pg X xs) N G (code : Int) (g : Int) (lpq (H 95) code H) := by
    intro f
    induction f with
    | zero =>
      intro g hg N G K l hG hK k1 k2 k3 k4
      have e : g = n := by omega
      subst e
      refine vh_GoodsBookModel_lay_94_7 ?_
      rw [lyo_95 hG, hn]
      refine ⟨fun _ H4 e4 => ?_, fun hh => absurd (Int.le_refl _) hh⟩
      have hl : lso code K l := ⟨by omega, fun j hj => ⟨by have := (k2 j hj).2.1; omega, (k2 j hj).2.2⟩, k3, fun g' hg' hm => k4 g' (by have := hc g' hg' hm; omega) hm⟩
      have o4 : lyo H H4 := by rw [e4]; exact lyo_up hG _ (Or.inr (Or.inr (Or.inl rfl)))
      have := (rc_search (X := X) (xs := xs) hw h7 hc hl N H4 o4).1 0 0 (by omega) (by omega) ⟨by rw [e4, fl_up_c _ _ _ _ (by decide)]; exact k1, fun j hj => by rw [e4, fl_up_c _ _ _ _ (by decide)]; exact (k2 j hj).1, fun _ => 0, fun _ => 0, rfl, fun j hj => by
        have : j = 0 := by omega
        rw [this, e4, fl_up_at]; exact ⟨rfl, by decide⟩, fun j hj => absurd hj (by omega), fun _ q hq => absurd hq (by omega)⟩
      intro lv l0 l1 l2 l3
      exact vt_mono (Nat.le_refl _) (fun r H' hr => ⟨K, l, hl, hr⟩) (this lv l0 l1 l2 l3)
    | succ f ih =>
      intro g hg N G K l hG hK k1 k2 k3 k4
      have eg : (g : Int) + 1 = ((g + 1 : Nat) : Int) := by omega
      refine vh_GoodsBookModel_lay_94_7 ?_
      rw [lyo_95 hG, hn, fl_wi (x := (n : Int)) (by omega) (by omega), fl_wi (x := (g : Int)) (by omega) (by omega), eg]
      refine ⟨fun hh => by omega, fun _ m hm => ck_mono (rc_digit (X := X) (xs := xs) h7 (g := g) (by omega) rfl rfl) (fun r6 H6 h6 => ⟨_, h6.1, ?_⟩)⟩
      have e6 := h6.2
      subst e6
      have d3 := dig_lt code g
      rw [k1, fl_wi (x := ((dig code g : Nat) : Int)) (by omega) (by omega), fl_wi (x := (K : Int)) (by omega) (by omega), Int.toNat_natCast]
      refine ⟨fun h0 m hm => ih (g + 1) (by omega) m _ K l hG (by omega) k1 (fun j hj => ⟨(k2 j hj).1, by have := (k2 j hj).2.1; omega, (k2 j hj).2.2⟩) k3 (fun g' hg' hm' => ?_), fun h0 _ H11 e11 H14 e14 m hm => ?_⟩
      · by_cases e : g' = g
        · rw [e] at hm'; exact absurd (zM_t.mp hm') (by omega)
        · exact k4 g' (by omega) hm'
      · have g11 : H11 94 4 = (K : Int) := by rw [e11, fl_up_c _ _ _ _ (by decide)]; exact k1
        rw [g11] at e14
        refine ih (g + 1) (by omega) m H14 (K + 1) (pup l K g) ?_ (by omega) ?_ (fun j hj => ?_) (fun i j hij hj => ?_) (fun g' hg' hm' => ?_)
        · rw [e14, e11]; exact lyo_up (lyo_up hG _ (Or.inr (Or.inl rfl))) _ (Or.inr (Or.inr (Or.inr ⟨rfl, rfl⟩)))
        · rw [e14, fl_up_at]; omega
        · rw [e14, fl_up_c _ _ _ _ (by decide), e11]
          by_cases e : j = K
          · rw [e, pup_at, fl_up_at]
            exact ⟨rfl, by omega, zM_t.mpr (by omega)⟩
          · rw [pup_ne _ _ e, fl_up_i _ _ _ _ e]
            obtain ⟨a, b, c⟩ := k2 j (by omega)
            exact ⟨a, by omega, c⟩
        · by_cases e : j = K
          · rw [e, pup_at, pup_ne _ _ (by omega)]
            exact (k2 i (by omega)).2.1
          · rw [pup_ne _ _ e, pup_ne _ _ (by omega)]
            exact k3 i j hij (by omega)
        · by_cases e : g' = g
          · exact ⟨K, by omega, by rw [pup_at]; exact e.symm⟩
          · obtain ⟨j, hj, ej⟩ := k4 g' (by omega) hm'
            exact ⟨j, by omega, by rw [pup_ne _ _ (by omega)]; exact ej⟩
  refine ve_GoodsBookModel_lay_94 (fun H1 e1 => ?_)
  exact key n 0 (by omega) m H1 0 (fun _ => 0) (by rw [e1]; exact lyo_up (lyo_refl H) _ (Or.inr (Or.inr (Or.inr ⟨rfl, rfl⟩)))) (by omega) (by rw [e1, fl_up_at]; rfl) (fun j hj => absurd hj (by omega)) (fun i j _ hj => absurd hj (by omega)) (fun g' hg' => absurd hg' (by omega))
/-- what the reference keeps of fits is right -/
def rkn (z : Nat → Int) (H : fl_H) : Prop := ∀ code, code < 729 → zcd z code → H 96 code = 0 ∨ (H 96 code = 1 ∧ zfit z code) ∨ (H 96 code = 2 ∧ ¬ zfit z code)
/-- finding whether goods fit leaves that -/
def rfo (H G : fl_H) : Prop := ∀ c, c ≠ 96 → c ≠ 97 → c ≠ 98 → c ≠ 99 → (c ≠ 94 → G c = H c) ∧ (c = 94 → ∀ i, i ≠ 4 → G c i = H c i)
theorem rfo_refl (H : fl_H) : rfo H H := fun _ _ _ _ _ => ⟨fun _ => rfl, fun _ _ _ => rfl⟩
theorem rfo_trans {H G F : fl_H} (h : rfo H G) (g : rfo G F) : rfo H F := fun c a b d e => ⟨fun q => ((g c a b d e).1 q).trans ((h c a b d e).1 q), fun q i hi => ((g c a b d e).2 q i hi).trans ((h c a b d e).2 q i hi)⟩
theorem rfo_95 {H G : fl_H} (h : rfo H G) : G 95 = H 95 := (h 95 (by decide) (by decide) (by decide) (by decide)).1 (by decide)
theorem rc_fit {m code : Nat} {H : fl_H} (hw : wf (H 95)) (hk : rkn (H 95) H) (h7 : code < 729) (hc : zcd (H 95) code) : ck (cm_pg X xs) m cm_m173 [.index 94, fl_t (code : Int)] H (fun r H' => r = some (fl_b (zfit (H 95) code)) ∧ rfo H H' ∧ rkn (H 95) H') := by
  have w1 : fl_w 1 = 1 := rfl
  have w2 : ¬ fl_w 2 = 1 := by decide
  have wr : ∀ (G : fl_H) (v : Int) (G' : fl_H), lyo H G → G' = fl_up G 96 code v → ((v = 1 ∧ zfit (H 95) code) ∨ (v = 2 ∧ ¬ zfit (H 95) code)) → rfo H G' ∧ rkn (H 95) G' := fun G v G' o e hv => by
    refine ⟨fun c a b d e' => ?_, fun c hc7 hcc => ?_⟩
    · rw [e, fl_up_cell _ _ _ _ a]; exact o c b d e'
    · rw [e]
      by_cases hh : c = code
      · rw [hh, fl_up_at]; exact Or.inr hv
      · rw [fl_up_i _ _ _ _ hh, (o 96 (by decide) (by decide) (by decide)).1 (by decide)]; exact hk c hc7 hcc
  refine ve_GoodsBookModel_doFit_94 ?_
  rw [fl_wi (x := (code : Int)) (by omega) (by omega), Int.toNat_natCast]
  refine fun _ => ⟨fun h0 m hm => ck_mono (rc_areaC (X := X) (xs := xs) hw h7 hc) (fun r3 H3 h3 => ⟨_, h3.1, ?_⟩), fun h0 _ => ?_⟩
  · have e3 := h3.2
    subst e3
    obtain ⟨b1, b2⟩ := mar_bd hw hc (fun _ _ hh => hh) 6 (by omega)
    have iff := zfit_iff hw hc
    rw [fl_wi (x := mar (zA (H3 95) code) (zM code) 6) (by omega) (by omega)]
    refine ⟨fun h16 _ H7 e7 _ => ?_, fun h16 m hm => ck_mono (rc_lay (X := X) (xs := xs) hw h7 hc) (fun r12 H12 h12 => ?_)⟩
    · have nf : ¬ zfit (H3 95) code := fun q => by have := (iff.mp q).1; omega
      obtain ⟨w1', w2'⟩ := wr H3 2 H7 (lyo_refl _) e7 (Or.inr ⟨rfl, nf⟩)
      rw [e7, fl_up_at]
      refine ⟨fun hh => absurd hh w2, fun _ => ⟨by rw [fl_b0 nf], ?_⟩⟩
      rw [← e7]; exact ⟨w1', w2'⟩
    · obtain ⟨K, l, hl, o12, r12', -⟩ := h12
      refine ⟨_, r12', ?_⟩
      rw [fb_0]
      refine ⟨fun hn _ H16 e16 _ => ?_, fun hy _ H21 e21 _ => ?_⟩
      · obtain ⟨w1', w2'⟩ := wr H12 2 H16 o12 e16 (Or.inr ⟨rfl, hn⟩)
        rw [e16, fl_up_at]
        refine ⟨fun hh => absurd hh w2, fun _ => ⟨by rw [fl_b0 hn], ?_⟩⟩
        rw [← e16]; exact ⟨w1', w2'⟩
      · have yf := Classical.not_not.mp hy
        obtain ⟨w1', w2'⟩ := wr H12 1 H21 o12 e21 (Or.inl ⟨rfl, yf⟩)
        rw [e21, fl_up_at]
        refine ⟨fun _ => ⟨by rw [fl_b1 yf], ?_⟩, fun hh => absurd w1 hh⟩
        rw [← e21]; exact ⟨w1', w2'⟩
  · rcases hk code h7 hc with k | ⟨k, kf⟩ | ⟨k, kf⟩
    · rw [k] at h0; exact absurd (show fl_w 0 = 0 from rfl) h0
    · rw [k]
      exact ⟨fun _ => ⟨by rw [fl_b1 kf], rfo_refl _, hk⟩, fun hh => absurd w1 hh⟩
    · rw [k]
      exact ⟨fun hh => absurd hh w2, fun _ => ⟨by rw [fl_b0 kf], rfo_refl _, hk⟩⟩
end
end
