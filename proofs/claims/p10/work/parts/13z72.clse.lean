noncomputable section
/-! L3: the class reads a whole text; book, of the class. -/
section
variable {X : Term} {xs : List Int32}
/-- the end of reading -/
def tlp (n : Nat) (H : fl_H) (q k : Nat) (hr : Int) (r : Option Int) (H' : fl_H) : Prop :=
  (∀ c, c ≠ 58 → H' c = H c) ∧ cfr H H' ∧ (H 58 3 ≠ -1 → r = some (-20 - H 58 3)) ∧ (H 58 3 = -1 → bc (H 59) n q = -1 → r = some (if hr = 0 then -3 else (k : Int))) ∧ (H 58 3 = -1 → ¬ bc (H 59) n q = -1 → r = some (-20 - ((nb (H 59) n q : Nat) : Int)))
theorem cr_tail {n q k : Nat} {H : fl_H} (hs : cst H n q) (hk : k ≤ 12) {hr : Int} (h0 : hr = 0 ∨ hr = 1) (N m : Nat) : ck (cm_pg X xs) m cm_m85 [.index 58] H (fun r H2 => ∃ x4, r = some x4 ∧ (((fl_w x4 < 0) → ((fl_w (H2 58 3) = (-1)) → ((fl_w hr = 0) → (tlp n H q k hr) (some (-3)) H2) ∧ (¬ (fl_w hr = 0) → (tlp n H q k hr) (some (k : Int)) H2)) ∧ (¬ (fl_w (H2 58 3) = (-1)) → (tlp n H q k hr) (some ((-20) - (H2 58 3))) H2)) ∧ (¬ (fl_w x4 < 0) → ∀ m, m < N → ck (cm_pg X xs) m cm_m86 [.index 58] H2 (fun r H8 => r = none ∧ (((fl_w (H8 58 3) = (-1)) → ((fl_w hr = 0) → (tlp n H q k hr) (some (-3)) H8) ∧ (¬ (fl_w hr = 0) → (tlp n H q k hr) (some (k : Int)) H8)) ∧ (¬ (fl_w (H8 58 3) = (-1)) → (tlp n H q k hr) (some ((-20) - (H8 58 3))) H8)))))) := by
  have hb := bc_rg hs.2.2.2.2.1 q
  have hle := nb_le (t := H 59) hs.2.2.1
  have whr : fl_w hr = hr := fl_wi (by omega) (by omega)
  refine ck_mono (cn_look (X := X) (xs := xs) hs) (fun r H2 h => ⟨_, h.1, ?_⟩)
  have e2 := h.2
  have f2 : H2 58 3 = H 58 3 := by rw [e2, fl_up_i _ _ _ _ (by decide)]
  have t2 : H2 59 = H 59 := by rw [e2, fl_up_cell _ _ _ _ (by decide)]
  have hs2 : cst H2 n (nb (H 59) n q) := by rw [e2]; exact cst_at hs hle
  have o2 : ∀ c, c ≠ 58 → H2 c = H c := fun c hc => by rw [e2, fl_up_cell _ _ _ _ hc]
  have c2 : cfr H H2 := by rw [e2]; exact cfr_58 _ _ _ (Or.inl rfl)
  have w3 : fl_w (H2 58 3) = H 58 3 := by rw [f2]; exact fl_wi (by have := hs.2.2.2.2.2.1; omega) (by have := hs.2.2.2.2.2.2; omega)
  rw [w3, whr, f2, fl_wi (x := bc (H 59) n q) (by omega) (by omega)]
  refine ⟨fun hn => ⟨fun hf => ⟨fun hh => ⟨o2, c2, fun g => absurd hf g, fun _ _ => by rw [if_pos hh], fun _ g => by omega⟩, fun hh => ⟨o2, c2, fun g => absurd hf g, fun _ _ => by rw [if_neg hh], fun _ g => by omega⟩⟩, fun hf => ⟨o2, c2, fun _ => rfl, fun g => absurd g hf, fun g => absurd g hf⟩⟩, fun hn m hm => ?_⟩
  refine ck_mono (cn_fail (X := X) (xs := xs) hs2) (fun r H8 h => ⟨h.1, ?_⟩)
  have e8 := h.2
  rw [t2, nb_nb, f2] at e8
  have f8 : H8 58 3 = if H 58 3 = -1 then ((nb (H 59) n q : Nat) : Int) else H 58 3 := by rw [e8, fl_up_at]
  have o8 : ∀ c, c ≠ 58 → H8 c = H c := fun c hc => by rw [e8, fl_up_cell _ _ _ _ hc, fl_up_cell _ _ _ _ hc]; exact o2 c hc
  have c8 : cfr H H8 := by rw [e8]; exact cfr_trans c2 (cfr_trans (cfr_58 _ _ _ (Or.inl rfl)) (cfr_58 _ _ _ (Or.inr rfl)))
  have b3 := hs.2.2.2.2.2
  have w8 : fl_w (H8 58 3) = H8 58 3 := fl_wi (by rw [f8]; split <;> omega) (by rw [f8]; have := hs.2.2.2.1; split <;> omega)
  rw [w8, f8]
  by_cases hf : H 58 3 = -1
  · rw [if_pos hf]
    refine ⟨fun g => by omega, fun _ => ⟨o8, c8, fun g => absurd hf g, fun _ g => by omega, fun _ _ => rfl⟩⟩
  · rw [if_neg hf]
    refine ⟨fun g => absurd g hf, fun _ => ⟨o8, c8, fun _ => rfl, fun g => absurd g hf, fun g => absurd g hf⟩⟩
theorem cr_end {n q k : Nat} {H : fl_H} (hs : cst H n q) (hk : k ≤ 12) {hr : Int} (h0 : hr = 0 ∨ hr = 1) (N : Nat) : hd_Tape_read_58_20_7 (cm_pg X xs) N H (k : Int) hr 0 (tlp n H q k hr) :=
  vh_Tape_read_58_20_7 ⟨fun _ m _ => cr_tail hs hk h0 N m, fun h => absurd (show fl_w 0 = 0 from rfl) h⟩
theorem upz_zeq {z w : Nat → Int} (h : zeq z w) (i : Nat) (v : Int) : zeq (upz z i v) (upz w i v) := fun j hj => by
  unfold upz
  split
  · rfl
  · exact h j hj
theorem zeq_trans {z w u : Nat → Int} (h : zeq z w) (g : zeq w u) : zeq z u := fun j hj => (h j hj).trans (g j hj)
theorem apz_zeq {e : List Int} (he : evk e) {z w : Nat → Int} (h : zeq z w) : zeq (apz e z) (apz e w) := by
  have h0 := h 0 (by omega)
  have h1 := h 1 (by omega)
  have h2 := h 2 (by omega)
  rcases he with ⟨v, rfl, -⟩ | ⟨kk, f, a0, b0, c0, a1, b1, c1, rfl⟩ | ⟨kk, x, y, v, rfl⟩
  · show zeq (upz (upz z (10 + (z 0).toNat) v) 0 (z 0 + 1)) (upz (upz w (10 + (w 0).toNat) v) 0 (w 0 + 1))
    rw [h0]
    exact upz_zeq (upz_zeq h _ _) _ _
  · unfold apz
    simp only [h1]
    exact upz_zeq (upz_zeq (upz_zeq (upz_zeq (upz_zeq (upz_zeq (upz_zeq (upz_zeq (upz_zeq (upz_zeq h _ _) _ _) _ _) _ _) _ _) _ _) _ _) _ _) _ _) _ _
  · unfold apz
    simp only [h2]
    exact upz_zeq (upz_zeq (upz_zeq (upz_zeq (upz_zeq h _ _) _ _) _ _) _ _) _ _
theorem rom_zeq {e : List Int} {z w : Nat → Int} (h : zeq z w) : rom e z ↔ rom e w := by
  unfold rom
  rw [h 0 (by omega), h 1 (by omega), h 2 (by omega)]
theorem apl_zeq : ∀ {l : List (List Int)}, (∀ e ∈ l, evk e) → ∀ {z w : Nat → Int}, zeq z w → zeq (apl l z) (apl l w)
  | [], _, _, _, h => h
  | e :: l, hl, _, _, h => apl_zeq (fun x hx => hl x (List.mem_cons_of_mem _ hx)) (apz_zeq (hl e (List.mem_cons_self ..)) h)
theorem rml_zeq : ∀ {l : List (List Int)}, (∀ e ∈ l, evk e) → ∀ {z w : Nat → Int}, zeq z w → (rml l z ↔ rml l w)
  | [], _, _, _, _ => Iff.rfl
  | e :: l, hl, _, _, h => and_congr (rom_zeq h) (rml_zeq (fun x hx => hl x (List.mem_cons_of_mem _ hx)) (apz_zeq (hl e (List.mem_cons_self ..)) h))
theorem zr_zeq {z w : Nat → Int} (h : zeq z w) (hz : zr z) : zr w := by
  unfold zr at hz ⊢
  rw [← h 0 (by omega), ← h 1 (by omega), ← h 2 (by omega)]
  exact hz
/-- behind a fault: on to the end -/
theorem cr_flt {n q k : Nat} {H : fl_H} (hs : cst H n q) (hf : ¬ H 58 3 = -1) (hz : zr (cz H 20)) {g : Int} (hg0 : 0 ≤ g) (hg : cz H 20 1 = min g 6) (hk : k ≤ 11) {hr : Int} (h0 : hr = 0 ∨ hr = 1) (N : Nat) : hd_Tape_read_58_20_7 (cm_pg X xs) N H (k : Int) hr 1 (fun r H' => cfr H H' ∧ r = some (-20 - H 58 3)) := by
  refine vh_Tape_read_58_20_7 ?_
  have wk : fl_w (k : Int) = (k : Int) := fl_wi (by omega) (by omega)
  have wk1 : fl_w ((k : Int) + 1) = (k : Int) + 1 := fl_wi (by omega) (by omega)
  rw [wk, wk1]
  have ek : (k : Int) + 1 = ((k + 1 : Nat) : Int) := by omega
  refine ⟨fun h => absurd h (show ¬ fl_w 1 = 0 by decide), fun _ => ⟨fun h => by omega, fun _ m hm => ck_mono (cp_clause (X := X) (xs := xs) hs hz hg0 hg) (fun r H23 h => ?_)⟩⟩
  obtain ⟨x25, e25, hr25, ⟨s1, ⟨q', hq'⟩, f23, -⟩, b1, b2, -⟩ := h
  have f23 := f23 hf
  refine ⟨x25, hr25, ?_⟩
  have hne : ¬ H23 58 3 = -1 := by rw [f23]; exact hf
  rw [fl_wi (x := x25) (by omega) (by omega), fl_wi (x := H23 58 3) (by have := hq'.2.2.2.2.2.1; omega) (by have := hq'.2.2.2.2.2.2; omega), ek]
  have fin : ∀ hr2 : Int, (hr2 = 0 ∨ hr2 = 1) → hd_Tape_read_58_20_7 (cm_pg X xs) N H23 ((k + 1 : Nat) : Int) hr2 0 (fun r H' => cfr H H' ∧ r = some (-20 - H 58 3)) := fun hr2 h2 => by
    intro lv l0 l1 l2 l3 l4
    refine vt_mono (Nat.le_refl _) (fun r H' hh => ?_) (cr_end (X := X) (xs := xs) hq' (k := k + 1) (by omega) h2 N lv l0 l1 l2 l3 l4)
    exact ⟨cfr_trans s1 hh.2.1, by rw [hh.2.2.1 hne, f23]⟩
  exact ⟨fun _ => ⟨fun _ => fin 0 (Or.inl rfl), fun _ => ⟨fun hh => absurd hh hne, fun _ => fin 0 (Or.inl rfl)⟩⟩, fun _ => ⟨fun _ => fin hr h0, fun _ => ⟨fun hh => absurd hh hne, fun _ => fin hr h0⟩⟩⟩
/-- what reading from a clause on comes to -/
def rdp (n f k : Nat) (g : Int) (a : Nat) (hr : Int) (H : fl_H) (r : Option Int) (H' : fl_H) : Prop := cfr H H' ∧ match cls (H 59) n f g a with
  | .inl p => r = some (-20 - (p : Int))
  | .inr (l, _) => (hr = 1 ∧ rml l (cz H 20) → r = some ((k + l.length : Nat) : Int) ∧ zeq (cz H' 20) (apl l (cz H 20))) ∧ (¬ (hr = 1 ∧ rml l (cz H 20)) → r = some (-3))
theorem cr_all (n : Nat) : ∀ (f k : Nat), k + f = 12 → ∀ (N : Nat) (H : fl_H) (a : Nat) (g hr : Int), cst H n a → H 58 3 = -1 → zr (cz H 20) → 0 ≤ g → cz H 20 1 = min g 6 → (hr = 0 ∨ hr = 1) → 1 ≤ f → hd_Tape_read_58_20_7 (cm_pg X xs) N H (k : Int) hr 1 (rdp n f k g a hr H)
  | 0, k, hk, N, H, a, g, hr, hs, hf, hz, hg0, hg, h01, h1 => by omega
  | f + 1, k, hk, N, H, a, g, hr, hs, hf, hz, hg0, hg, h01, _ => by
    refine vh_Tape_read_58_20_7 ?_
    have wk : fl_w (k : Int) = (k : Int) := fl_wi (by omega) (by omega)
    have wk1 : fl_w ((k : Int) + 1) = (k : Int) + 1 := fl_wi (by omega) (by omega)
    rw [wk, wk1]
    have ek : (k : Int) + 1 = ((k + 1 : Nat) : Int) := by omega
    refine ⟨fun h => absurd h (show ¬ fl_w 1 = 0 by decide), fun _ => ⟨fun h => by omega, fun _ m hm => ck_mono (cp_clause (X := X) (xs := xs) hs hz hg0 hg) (fun r H23 h => ?_)⟩⟩
    obtain ⟨x25, e, hr25, st, cl⟩ := h
    refine ⟨x25, hr25, ?_⟩
    obtain ⟨b1, b2, cl⟩ := cl
    obtain ⟨s1, ⟨q, hq⟩, s3, s4⟩ := st
    have t23 := cfr_t s1
    have s4 := s4 a hs hf
    rw [fl_wi (x := x25) (by omega) (by omega), fl_wi (x := H23 58 3) (by have := hq.2.2.2.2.2.1; omega) (by have := hq.2.2.2.2.2.2; omega)]
    -- the same for both: hr2 is whether there is room
    have go : ∀ (hr2 : Int), (hr2 = 0 ∨ hr2 = 1) → (H23 58 3 = -1 → (hr2 = 1 ↔ hr = 1 ∧ rom e (cz H 20))) → ((((12 : Int) ≤ (k : Int) + 1) → hd_Tape_read_58_20_7 (cm_pg X xs) N H23 ((k : Int) + 1) hr2 0 (rdp n (f + 1) k g a hr H)) ∧ (¬ ((12 : Int) ≤ (k : Int) + 1) → (H23 58 3 = -1 → ∀ m, m < N → ck (cm_pg X xs) m cm_m85 [.index 58] H23 (fun r H33 => ∃ x35, r = some x35 ∧ (((fl_w x35 < 0) → hd_Tape_read_58_20_7 (cm_pg X xs) N H33 ((k : Int) + 1) hr2 0 (rdp n (f + 1) k g a hr H)) ∧ (¬ (fl_w x35 < 0) → ∀ m, m < N → ck (cm_pg X xs) m cm_m88 [.index 58, fl_t 59] H33 (fun r H41 => r = none ∧ (∀ m, m < N → hd_Tape_read_58_20_7 (cm_pg X xs) m H41 ((k : Int) + 1) hr2 1 (rdp n (f + 1) k g a hr H))))))) ∧ (¬ H23 58 3 = -1 → hd_Tape_read_58_20_7 (cm_pg X xs) N H23 ((k : Int) + 1) hr2 0 (rdp n (f + 1) k g a hr H)))) := by
      intro hr2 h2 hiff
      rw [ek]
      cases o : cla (H 59) n g a with
      | inl p =>
        simp only [o] at s4
        obtain ⟨f23, hp⟩ := s4
        have hne : ¬ H23 58 3 = -1 := by omega
        -- a fault: to the end
        have fin : ∀ N', hd_Tape_read_58_20_7 (cm_pg X xs) N' H23 ((k + 1 : Nat) : Int) hr2 0 (rdp n (f + 1) k g a hr H) := fun N' => by
          intro lv l0 l1 l2 l3 l4
          refine vt_mono (Nat.le_refl _) (fun r H' hh => ?_) (cr_end (X := X) (xs := xs) hq (k := k + 1) (by omega) h2 N' lv l0 l1 l2 l3 l4)
          obtain ⟨k1, k2, k3, -, -⟩ := hh
          refine ⟨cfr_trans s1 k2, ?_⟩
          unfold cls
          simp only [o, pb]
          rw [k3 hne, f23]
        exact ⟨fun _ => fin N, fun _ => ⟨fun hh => absurd hh hne, fun _ => fin N⟩⟩
      | inr v =>
        obtain ⟨ev, a1⟩ := v
        simp only [o] at s4
        obtain ⟨ee, p23, f23⟩ := s4
        subst ee
        have hev := cla_evk o
        have hq1 : q = a1 := by have := hq.2.1; omega
        subst hq1
        obtain ⟨cl1, cl2⟩ := cl f23
        have hiff := hiff f23
        -- the contents behind the clause
        have zc : zr (cz H23 20) ∧ (cz H23 20 1 = min (g + isg e) 6) ∧ (rom e (cz H 20) → zeq (cz H23 20) (apz e (cz H 20))) := by
          by_cases hrm : rom e (cz H 20)
          · have ze := (cl1 hrm).2
            refine ⟨zr_zeq (fun j hj => (ze j hj).symm) (zr_apz hev hz hrm), ?_, fun _ => ze⟩
            rw [ze 1 (by omega), apz_1 hev, hg]
            unfold rom at hrm
            rw [hd_gd] at hrm
            unfold isg
            rw [hd_gd]
            by_cases ht : e.getD 0 0 = 1
            · have := hrm.2.1 ht
              rw [if_pos ht]
              omega
            · rw [if_neg ht]
              omega
          · have ze := (cl2 hrm).2
            refine ⟨by rw [ze]; exact hz, ?_, fun h => absurd h hrm⟩
            rw [ze, hg]
            unfold rom at hrm
            rw [hd_gd] at hrm
            unfold isg
            rw [hd_gd]
            by_cases ht : e.getD 0 0 = 1
            · have : ¬ cz H 20 1 < 6 := fun hh => hrm ⟨fun g => by omega, fun _ => hh, fun g => by omega⟩
              rw [if_pos ht]
              omega
            · rw [if_neg ht]
              omega
        obtain ⟨zc1, zc2, zc3⟩ := zc
        -- the end behind this clause
        have fin : ∀ (N' : Nat) (H33 : fl_H) (q' : Nat), cst H33 n q' → cfr H H33 → H33 58 3 = -1 → cz H33 20 = cz H23 20 → nb (H 59) n q' = nb (H 59) n q → bc (H 59) n q' = bc (H 59) n q → (bc (H 59) n q = -1 ∨ f = 0) → hd_Tape_read_58_20_7 (cm_pg X xs) N' H33 ((k + 1 : Nat) : Int) hr2 0 (rdp n (f + 1) k g a hr H) := fun N' H33 q' hq' c33 f33 z33 en eb hor => by
          intro lv l0 l1 l2 l3 l4
          refine vt_mono (Nat.le_refl _) (fun r H' hh => ?_) (cr_end (X := X) (xs := xs) hq' (k := k + 1) (by omega) h2 N' lv l0 l1 l2 l3 l4)
          obtain ⟨k1, k2, -, k4, k5⟩ := hh
          have t33 := cfr_t c33
          rw [t33, en, eb] at k5
          rw [t33, eb] at k4
          refine ⟨cfr_trans c33 k2, ?_⟩
          unfold cls
          simp only [o, pb]
          by_cases hend : bc (H 59) n q = -1
          · rw [if_pos hend]
            have k4 := k4 f33 hend
            have zz : cz H' 20 = cz H23 20 := (cz_58 k1).trans z33
            refine ⟨fun hh => ?_, fun hh => ?_⟩
            · have := hiff.mpr ⟨hh.1, hh.2.1⟩
              rw [if_neg (by omega)] at k4
              exact ⟨k4, by rw [zz]; exact zc3 hh.2.1⟩
            · have : ¬ hr2 = 1 := fun g => hh ⟨(hiff.mp g).1, (hiff.mp g).2, trivial⟩
              rw [if_pos (by omega)] at k4
              exact k4
          · have hf0 : f = 0 := by rcases hor with hh | hh; exact absurd hh hend; exact hh
            rw [if_neg hend, if_neg (fun hh => hh.2 hf0)]
            exact k5 f33 hend
        refine ⟨fun h12 => fin N H23 q hq s1 f23 rfl rfl rfl (Or.inr (by omega)), fun h12 => ⟨fun _ m hm => ?_, fun hh => absurd f23 hh⟩⟩
        refine ck_mono (cn_look (X := X) (xs := xs) hq) (fun r H33 h => ⟨_, h.1, ?_⟩)
        have e33 := h.2
        clear h
        rw [t23] at e33 ⊢
        have hb := bc_rg hs.2.2.2.2.1 q
        have hle := nb_le (t := H 59) hq.2.2.1
        have f33 : H33 58 3 = -1 := by rw [e33, fl_up_i _ _ _ _ (by decide)]; exact f23
        have hs33 : cst H33 n (nb (H 59) n q) := by rw [e33]; exact cst_at hq hle
        have c33 : cfr H H33 := by rw [e33]; exact cfr_trans s1 (cfr_58 _ _ _ (Or.inl rfl))
        have z33 : cz H33 20 = cz H23 20 := by rw [e33]; exact cz_out (fun c i h1 h2 => fl_up_c _ _ _ _ (by omega))
        have t33 := cfr_t c33
        rw [fl_wi (x := bc (H 59) n q) (by omega) (by omega)]
        refine ⟨fun hneg => fin N H33 _ hs33 c33 f33 z33 (nb_nb _ _ _) (bc_nb _ _ _) (Or.inl (by omega)), fun hneg m hm => ?_⟩
        refine ck_mono (cn_skip (X := X) (xs := xs) hs33 (c := 59) (by omega) (by omega)) (fun r H41 h => ⟨h.1, fun m hm => ?_⟩)
        have c41 := h.2
        clear h
        rw [t33, tk_nb] at c41
        obtain ⟨-, -, q4, f4, hq4, e41, -, n41⟩ := c41
        have n41 := n41 f33
        have cf41 : cfr H H41 := by rw [e41]; exact cfr_trans c33 (cfr_trans (cfr_58 _ _ _ (Or.inl rfl)) (cfr_58 _ _ _ (Or.inr rfl)))
        have z41 : cz H41 20 = cz H23 20 := by rw [e41, cz_out (fun c i h1 h2 => fl_up_c _ _ _ _ (by omega)), cz_out (fun c i h1 h2 => fl_up_c _ _ _ _ (by omega))]; exact z33
        have f41 : H41 58 3 = f4 := by rw [e41, fl_up_at]
        by_cases h59 : bc (H 59) n q = 59
        · have hp : tk (H 59) n q (skp 59) = .inr (0, nb (H 59) n q + 1) := by unfold tk skp; rw [if_pos h59]
          rw [hp] at n41
          obtain ⟨-, eq4, ef4⟩ := n41
          subst eq4
          have hs41 : cst H41 n (nb (H 59) n q + 1) := by rw [e41, ef4]; exact cst_up hs33 hq4 (by omega) (by omega)
          have h01' := isg_01 e
          have ih := cr_all n f (k + 1) (by omega) m H41 (nb (H 59) n q + 1) (g + isg e) hr2 hs41 (by rw [f41, ef4]) (by rw [z41]; exact zc1) (by omega) (by rw [z41]; exact zc2) h2 (by omega)
          intro lv l0 l1 l2 l3 l4
          refine vt_mono (Nat.le_refl _) (fun r H' hh => ?_) (ih lv l0 l1 l2 l3 l4)
          obtain ⟨k1, k2⟩ := hh
          refine ⟨cfr_trans cf41 k1, ?_⟩
          have hf0 : ¬ f = 0 := by omega
          unfold cls
          simp only [o, pb]
          rw [if_neg (by omega), if_pos ⟨h59, hf0⟩]
          rw [cfr_t cf41] at k2
          cases o2 : cls (H 59) n f (g + isg e) (nb (H 59) n q + 1) with
          | inl p =>
            rw [o2] at k2
            exact k2
          | inr v =>
            obtain ⟨l2', b2'⟩ := v
            rw [o2] at k2
            obtain ⟨k2, k3⟩ := k2
            have hv2 := cls_evk o2
            rw [z41] at k2 k3
            refine ⟨fun hh => ?_, fun hh => ?_⟩
            · obtain ⟨g1, g2, g3⟩ := hh
              have hzz := zc3 g2
              obtain ⟨d1, d2⟩ := k2 ⟨hiff.mpr ⟨g1, g2⟩, (rml_zeq hv2 hzz).mpr g3⟩
              refine ⟨by rw [d1]; exact congrArg (fun z : Nat => some (z : Int)) (by simp only [List.length_cons]; omega), zeq_trans d2 (apl_zeq hv2 hzz)⟩
            · refine k3 (fun gg => hh ?_)
              obtain ⟨g1, g2⟩ := gg
              obtain ⟨d1, d2⟩ := hiff.mp g1
              exact ⟨d1, d2, (rml_zeq hv2 (zc3 d2)).mp g2⟩
        · have hp : tk (H 59) n q (skp 59) = .inl (nb (H 59) n q) := by unfold tk skp; rw [if_neg h59]
          rw [hp] at n41
          obtain ⟨ef4, hpn⟩ := n41
          have hs41 : cst H41 n q4 := by rw [e41]; exact cst_up hs33 hq4 (by omega) (by have := hs.2.2.2.1; omega)
          have hne : ¬ H41 58 3 = -1 := by omega
          have h01' := isg_01 e
          have key := cr_flt (X := X) (xs := xs) (k := k + 1) hs41 hne (by rw [z41]; exact zc1) (g := g + isg e) (by omega) (by rw [z41]; exact zc2) (by omega) h2 m
          intro lv l0 l1 l2 l3 l4
          refine vt_mono (Nat.le_refl _) (fun r H' hh => ?_) (key lv l0 l1 l2 l3 l4)
          obtain ⟨k1, k2⟩ := hh
          refine ⟨cfr_trans cf41 k1, ?_⟩
          unfold cls
          simp only [o, pb]
          rw [if_neg (by omega), if_neg (fun hh => h59 hh.1), k2, f41, ef4]
    refine ⟨fun h3 => go 0 (Or.inl rfl) (fun f23 => ⟨fun h => absurd h (by omega), fun h => absurd h3 ((cl f23).1 h.2).1⟩), fun h3 => go hr h01 (fun f23 => ⟨fun h => ⟨h, Classical.byContradiction (fun hh => h3 ((cl f23).2 hh).1)⟩, fun h => h.1⟩)⟩
theorem cr_read {n m : Nat} {H : fl_H} (hs : cst H n 0) (hf : H 58 3 = -1) (hz : zr (cz H 20)) : ck (cm_pg X xs) m cm_m78 [.index 58, .index 20] H (rdp n 12 0 (cz H 20 1) 0 1 H) :=
  ve_Tape_read_58_20 (cr_all n 12 0 rfl _ H 0 (cz H 20 1) 1 hs hf hz hz.2.2.1 (by have := hz.2.2.2.1; omega) (Or.inr rfl) (by omega))
end
end
