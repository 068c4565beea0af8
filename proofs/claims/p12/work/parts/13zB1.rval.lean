noncomputable section
/-! L3: what the reference says of a row: pages, shares, extras, worth. -/
section
variable {X : Term} {xs : List Int32}
def rr (r : Nat → Nat) (H : fl_H) : Prop := ∀ g : Nat, (g : Int) < H 95 1 → H 100 g = ((r g : Nat) : Int)
/-- where a choice puts; -4 if out -/
def ppg (c : Nat) : Int := if c = 0 then -4 else ((pgn c : Nat) : Int)
theorem ppg_div : ∀ c : Nat, c < 7 → 1 ≤ c → fl_div ((c : Int) - 1) 2 = ((pgn c : Nat) : Int) := by decide +kernel
theorem ppg_rem : ∀ c : Nat, c < 7 → 1 ≤ c → fl_rem ((c : Int) - 1) 2 = ((szn c : Nat) : Int) := by decide +kernel
theorem ppg_bd {c : Nat} (h : c < 7) : ppg c = -4 ∧ c = 0 ∨ (c ≠ 0 ∧ ppg c = ((pgn c : Nat) : Int) ∧ pgn c < 3) := by
  unfold ppg
  by_cases e : c = 0
  · rw [if_pos e]; exact Or.inl ⟨rfl, e⟩
  · rw [if_neg e]; exact Or.inr ⟨e, rfl, by unfold pgn; omega⟩
theorem rc_pg {m c : Nat} {H : fl_H} {e : Int} (h : c < 7) (he : e = (c : Int)) : ck (cm_pg X xs) m cm_m151 [fl_t e] H (fun r H' => r = some (ppg c) ∧ H' = H) := by
  subst he
  refine ve_GoodsBookModel_pageOf ?_
  rw [fl_wi (x := (c : Int)) (by omega) (by omega)]
  unfold ppg
  refine ⟨fun q => ⟨by rw [if_pos (by omega)], rfl⟩, fun q => ⟨?_, rfl⟩⟩
  rw [if_neg (by omega), ppg_div c h (by omega)]
theorem rk_7 {z : Nat → Int} {r : Nat → Nat} (hw : wf z) (h : rk z r) (g : Nat) : r g < 7 := by
  have z3 := hw.1.2.1
  by_cases hg : g < 6
  · have := (h.1 g hg).1; omega
  · rw [h.2 g (by omega)]; omega
theorem rk_z {z : Nat → Int} {r : Nat → Nat} (h : rk z r) {g : Nat} (hg : (z 1).toNat ≤ g) (z0 : 0 ≤ z 1) : r g = 0 := by
  by_cases g6 : g < 6
  · exact (h.1 g g6).2 (by omega)
  · exact h.2 g (by omega)
theorem ncr_G {z : Nat → Int} {r : Nat → Nat} (hw : wf z) (h : rk z r) (p : Nat) : psm (fun g => fcr p g (r g)) (z 1).toNat = ncr r p := by
  have z6 := hw.1.2.2.2.1
  exact (psm_ext (by omega) (fun i h1 h2 => by (try dsimp only); rw [rk_z h h1 hw.1.2.2.1, fcr_0])).symm
theorem nfi_G {z : Nat → Int} {r : Nat → Nat} (hw : wf z) (h : rk z r) (p : Nat) : psm (fun g => ffi z p g (r g)) (z 1).toNat = nfi z r p := by
  have z6 := hw.1.2.2.2.1
  exact (psm_ext (by omega) (fun i h1 h2 => by (try dsimp only); rw [rk_z h h1 hw.1.2.2.1, ffi_0])).symm
theorem nri_G {z : Nat → Int} {r : Nat → Nat} (hw : wf z) (h : rk z r) (f : Int) : psm (fun g => fri z f g (r g)) (z 1).toNat = nri z r f := by
  have z6 := hw.1.2.2.2.1
  exact (psm_ext (by omega) (fun i h1 h2 => by (try dsimp only); rw [rk_z h h1 hw.1.2.2.1, fri_0])).symm
theorem rc_onPage {m p : Nat} {r : Nat → Nat} {H : fl_H} {e : Int} (hw : wf (H 95)) (hr : rk (H 95) r) (h : rr r H) (hp : p < 3) (he : e = (p : Int)) : ck (cm_pg X xs) m cm_m178 [.index 94, fl_t e] H (fun r' H' => r' = some (ncr r p) ∧ H' = H) := by
  subst he
  have z6 := hw.1.2.2.2.1
  obtain ⟨n, hn⟩ : ∃ n : Nat, H 95 1 = (n : Int) := ⟨(H 95 1).toNat, by have := hw.1.2.2.1; omega⟩
  have lp : ∀ (f k : Nat), k + f = n → ∀ N, hd_GoodsBookModel_onPage_94_4 (cm_pg X xs) N H (p : Int) (psm (fun g => fcr p g (r g)) k) (k : Int) (fun r' H' => r' = some (ncr r p) ∧ H' = H) := by
    intro f
    induction f with
    | zero =>
      intro k hk N
      have e : k = n := by omega
      subst e
      refine vh_GoodsBookModel_onPage_94_4 ?_
      rw [hn, ← ncr_G hw hr p, hn, Int.toNat_natCast]
      exact ⟨fun _ => ⟨rfl, rfl⟩, fun hh => absurd (Int.le_refl _) hh⟩
    | succ f ih =>
      intro k hk N
      have ek : (k : Int) + 1 = ((k + 1 : Nat) : Int) := by omega
      refine vh_GoodsBookModel_onPage_94_4 ?_
      rw [hn, fl_wi (x := (n : Int)) (by omega) (by omega), fl_wi (x := (k : Int)) (by omega) (by omega), Int.toNat_natCast, h k (by omega), ek]
      refine ⟨fun hh => by omega, fun _ _ m1 hm1 => ck_mono (rc_pg (X := X) (xs := xs) (rk_7 hw hr k) rfl) (fun r3 H3 h3 => ⟨_, h3.1, ?_⟩)⟩
      have e3 := h3.2
      subst e3
      have b := ppg_bd (rk_7 hw hr k)
      rw [fl_wi (x := ppg (r k)) (by omega) (by omega), fl_wi (x := (p : Int)) (by omega) (by omega)]
      have st : psm (fun g => fcr p g (r g)) (k + 1) = psm (fun g => fcr p g (r g)) k + fcr p k (r k) := rfl
      unfold fcr at st
      refine ⟨fun q m2 hm2 => ?_, fun q m2 hm2 => ?_⟩
      · have := ih (k + 1) (by omega) m2
        have e : fcr p k (r k) = 1 := if_pos ⟨by omega, by omega⟩
        unfold psm at this
        rw [e] at this
        exact this
      · have := ih (k + 1) (by omega) m2
        have e : fcr p k (r k) = 0 := if_neg (fun hh => by omega)
        unfold psm at this
        rw [e] at this
        exact this
  exact ve_GoodsBookModel_onPage_94 (lp n 0 (by omega) m)
theorem rc_areaOn {m p : Nat} {r : Nat → Nat} {H : fl_H} {e : Int} (hw : wf (H 95)) (hr : rk (H 95) r) (h : rr r H) (hp : p < 3) (he : e = (p : Int)) : ck (cm_pg X xs) m cm_m179 [.index 94, fl_t e] H (fun r' H' => r' = some (nfi (H 95) r p) ∧ H' = H) := by
  subst he
  have z6 := hw.1.2.2.2.1
  obtain ⟨n, hn⟩ : ∃ n : Nat, H 95 1 = (n : Int) := ⟨(H 95 1).toNat, by have := hw.1.2.2.1; omega⟩
  have lp : ∀ (f k : Nat), k + f = n → ∀ N, hd_GoodsBookModel_areaOn_94_4 (cm_pg X xs) N H (p : Int) (psm (fun g => ffi (H 95) p g (r g)) k) (k : Int) (fun r' H' => r' = some (nfi (H 95) r p) ∧ H' = H) := by
    intro f
    induction f with
    | zero =>
      intro k hk N
      have e : k = n := by omega
      subst e
      refine vh_GoodsBookModel_areaOn_94_4 ?_
      rw [hn, ← nfi_G hw hr p, hn, Int.toNat_natCast]
      exact ⟨fun _ => ⟨rfl, rfl⟩, fun hh => absurd (Int.le_refl _) hh⟩
    | succ f ih =>
      intro k hk N
      have ek : (k : Int) + 1 = ((k + 1 : Nat) : Int) := by omega
      refine vh_GoodsBookModel_areaOn_94_4 ?_
      rw [hn, fl_wi (x := (n : Int)) (by omega) (by omega), fl_wi (x := (k : Int)) (by omega) (by omega), Int.toNat_natCast, h k (by omega), ek]
      refine ⟨fun hh => by omega, fun _ _ m1 hm1 => ck_mono (rc_pg (X := X) (xs := xs) (rk_7 hw hr k) rfl) (fun r3 H3 h3 => ⟨_, h3.1, ?_⟩)⟩
      have e3 := h3.2
      subst e3
      have b := ppg_bd (rk_7 hw hr k)
      rw [fl_wi (x := ppg (r k)) (by omega) (by omega), fl_wi (x := (p : Int)) (by omega) (by omega), h k (by omega)]
      refine ⟨fun q _ m2 hm2 => ck_mono (rc_area (X := X) (xs := xs) (g := k) (s := szn (r k)) (by omega) (szn_lt _) rfl (by rw [ppg_rem (r k) (rk_7 hw hr k) (by omega)])) (fun r8 H8 h8 => ⟨_, h8.1, fun m3 hm3 => ?_⟩), fun q m2 hm2 => ?_⟩
      · have e8 := h8.2
        subst e8
        have := ih (k + 1) (by omega) m3
        have e : ffi (H8 95) p k (r k) = zare (H8 95) k (szn (r k)) := if_pos ⟨by omega, by omega⟩
        unfold psm at this
        rw [e] at this
        exact this
      · have := ih (k + 1) (by omega) m2
        have e : ffi (H3 95) p k (r k) = 0 := if_neg (fun hh => by omega)
        unfold psm at this
        rw [e] at this
        exact this
  exact ve_GoodsBookModel_areaOn_94 (lp n 0 (by omega) m)
/-- other rivals -/
def fro (z : Nat → Int) (g k c : Nat) : Int := if k ≠ g ∧ c ≠ 0 ∧ zknd z k = 2 ∧ zfam z k = zfam z g then 1 else 0
theorem fro_sum {z : Nat → Int} {r : Nat → Nat} {g : Nat} (hw : wf z) (h : rk z r) (hg : (g : Int) < z 1) (hr : r g ≠ 0) (h2 : zknd z g = 2) : psm (fun k => fro z g k (r k)) (z 1).toNat + 1 = nri z r (zfam z g) := by
  rw [← nri_G hw h, ← psm_one 1 (g := g) (n := (z 1).toNat) (by omega), ← psm_add]
  refine psm_congr (fun k hk => ?_)
  (try dsimp only)
  unfold fro fri
  by_cases e : k = g
  · rw [if_pos e, if_neg (fun hh => hh.1 e), e, if_pos ⟨hr, h2, rfl⟩]; rfl
  · rw [if_neg e]
    by_cases c : r k ≠ 0 ∧ zknd z k = 2 ∧ zfam z k = zfam z g
    · rw [if_pos c, if_pos ⟨e, c⟩]; rfl
    · rw [if_neg c, if_neg (fun hh => c hh.2)]; rfl
theorem rc_rivals {m g : Nat} {r : Nat → Nat} {H : fl_H} {e : Int} (hw : wf (H 95)) (hr : rk (H 95) r) (h : rr r H) (hg : (g : Int) < H 95 1) (he : e = (g : Int)) : ck (cm_pg X xs) m cm_m180 [.index 94, fl_t e] H (fun r' H' => r' = some (psm (fun k => fro (H 95) g k (r k)) (H 95 1).toNat) ∧ H' = H) := by
  subst he
  have z6 := hw.1.2.2.2.1
  obtain ⟨n, hn⟩ : ∃ n : Nat, H 95 1 = (n : Int) := ⟨(H 95 1).toNat, by have := hw.1.2.2.1; omega⟩
  have lp : ∀ (f k : Nat), k + f = n → ∀ N, hd_GoodsBookModel_rivalsOf_94_4 (cm_pg X xs) N H (g : Int) (psm (fun k => fro (H 95) g k (r k)) k) (k : Int) (fun r' H' => r' = some (psm (fun k => fro (H 95) g k (r k)) (H 95 1).toNat) ∧ H' = H) := by
    intro f
    induction f with
    | zero =>
      intro k hk N
      have e : k = n := by omega
      subst e
      refine vh_GoodsBookModel_rivalsOf_94_4 ?_
      rw [hn, Int.toNat_natCast]
      exact ⟨fun _ => ⟨rfl, rfl⟩, fun hh => absurd (Int.le_refl _) hh⟩
    | succ f ih =>
      intro k hk N
      have ek : (k : Int) + 1 = ((k + 1 : Nat) : Int) := by omega
      have r7 := rk_7 hw hr k
      obtain ⟨kd, fm⟩ := wf_knd hw (g := k) (by omega)
      obtain ⟨kd', fm'⟩ := wf_knd hw hg
      have i0 : (14 + 8 * (k : Int)).toNat = 14 + 8 * k := by omega
      have i1 : (14 + 8 * (k : Int) + 1).toNat = 15 + 8 * k := by omega
      have i2 : (14 + 8 * (g : Int) + 1).toNat = 15 + 8 * g := by omega
      have v0 : H 95 (14 + 8 * k) = zknd (H 95) k := rfl
      have v1 : H 95 (15 + 8 * k) = zfam (H 95) k := rfl
      have v2 : H 95 (15 + 8 * g) = zfam (H 95) g := rfl
      refine vh_GoodsBookModel_rivalsOf_94_4 ?_
      rw [hn, fl_wi (x := (n : Int)) (by omega) (by omega), fl_wi (x := (k : Int)) (by omega) (by omega), Int.toNat_natCast k, h k (by omega), fl_wi (x := (g : Int)) (by omega) (by omega), fl_wi (x := ((r k : Nat) : Int)) (by omega) (by omega), fl_wi (x := 14 + 8 * (k : Int)) (by omega) (by omega), fl_wi (x := 14 + 8 * (k : Int) + 1) (by omega) (by omega), fl_wi (x := 14 + 8 * (g : Int) + 1) (by omega) (by omega), i0, i1, i2, v0, v1, v2, fl_wi (x := zknd (H 95) k) (by omega) (by omega), fl_wi (x := zfam (H 95) k) (by omega) (by omega), fl_wi (x := zfam (H 95) g) (by omega) (by omega), ek]
      have yes : k ≠ g ∧ r k ≠ 0 ∧ zknd (H 95) k = 2 ∧ zfam (H 95) k = zfam (H 95) g → ∀ m2, hd_GoodsBookModel_rivalsOf_94_4 (cm_pg X xs) m2 H (g : Int) (psm (fun k => fro (H 95) g k (r k)) k + 1) ((k + 1 : Nat) : Int) (fun r' H' => r' = some (psm (fun k => fro (H 95) g k (r k)) (H 95 1).toNat) ∧ H' = H) := fun q m2 => by
        have := ih (k + 1) (by omega) m2
        have e : fro (H 95) g k (r k) = 1 := if_pos q
        have st : psm (fun k => fro (H 95) g k (r k)) (k + 1) = psm (fun k => fro (H 95) g k (r k)) k + fro (H 95) g k (r k) := rfl
        rw [st, e] at this
        exact this
      have no : ¬ (k ≠ g ∧ r k ≠ 0 ∧ zknd (H 95) k = 2 ∧ zfam (H 95) k = zfam (H 95) g) → ∀ m2, hd_GoodsBookModel_rivalsOf_94_4 (cm_pg X xs) m2 H (g : Int) (psm (fun k => fro (H 95) g k (r k)) k + 0) ((k + 1 : Nat) : Int) (fun r' H' => r' = some (psm (fun k => fro (H 95) g k (r k)) (H 95 1).toNat) ∧ H' = H) := fun q m2 => by
        have := ih (k + 1) (by omega) m2
        have e : fro (H 95) g k (r k) = 0 := if_neg q
        have st : psm (fun k => fro (H 95) g k (r k)) (k + 1) = psm (fun k => fro (H 95) g k (r k)) k + fro (H 95) g k (r k) := rfl
        rw [st, e] at this
        exact this
      rw [hn] at yes no
      exact ⟨fun hh => by omega, fun _ => ⟨fun q m2 _ => no (fun hh => by omega) m2, fun q _ => ⟨fun q2 m2 _ => no (fun hh => by omega) m2, fun q2 _ => ⟨fun q3 _ _ => ⟨fun q4 m2 _ => yes ⟨by omega, by omega, q3, q4⟩ m2, fun q4 m2 _ => no (fun hh => q4 hh.2.2.2) m2⟩, fun q3 m2 _ => no (fun hh => q3 hh.2.2.1) m2⟩⟩⟩⟩
  exact ve_GoodsBookModel_rivalsOf_94 (lp n 0 (by omega) m)
theorem rc_brings {m g : Nat} {r : Nat → Nat} {H : fl_H} {e : Int} (hw : wf (H 95)) (hr : rk (H 95) r) (h : rr r H) (hg : (g : Int) < H 95 1) (he : e = (g : Int)) : ck (cm_pg X xs) m cm_m181 [.index 94, fl_t e] H (fun r' H' => r' = some (if r g = 0 then 0 else zsh (H 95) r g 0) ∧ H' = H) := by
  subst he
  have z6 := hw.1.2.2.2.1
  have g6 : g < 6 := by omega
  have r7 := rk_7 hw hr g
  refine ve_GoodsBookModel_bringsOf_94 ?_
  rw [fl_wi (x := (g : Int)) (by omega) (by omega), Int.toNat_natCast, h g hg, fl_wi (x := ((r g : Nat) : Int)) (by omega) (by omega)]
  refine fun _ => ⟨fun q => ⟨by rw [if_pos (by omega)], rfl⟩, fun q _ m1 hm1 => ?_⟩
  have r0 : r g ≠ 0 := by omega
  rw [if_neg r0]
  refine ck_mono (rc_pg (X := X) (xs := xs) r7 rfl) (fun r4 H4 h4 => ⟨_, h4.1, ?_⟩)
  have e4 := h4.2
  subst e4
  obtain ⟨p1, p2, p3⟩ := rok_pg hw hr.1 g6 r0
  have eg : ppg (r g) = ((pgn (r g) : Nat) : Int) := if_neg r0
  have i0 : (10 + ((pgn (r g) : Nat) : Int)).toNat = 10 + pgn (r g) := by omega
  have i1 : (14 + 8 * (g : Int)).toNat = 14 + 8 * g := by omega
  obtain ⟨kd, fm⟩ := wf_knd hw hg
  rw [eg, fl_wi (x := 10 + ((pgn (r g) : Nat) : Int)) (by omega) (by omega), i0, h g hg]
  refine fun _ _ m2 hm2 => ck_mono (rc_sale (X := X) (xs := xs) (g := g) (s := szn (r g)) g6 (szn_lt _) rfl (ppg_rem (r g) r7 (by omega))) (fun r9 H9 h9 => ⟨_, h9.1, ?_⟩)
  have e9 := h9.2
  subst e9
  have v0 : H9 95 (14 + 8 * g) = zknd (H9 95) g := rfl
  have v1 : zsal (H9 95) g (szn (r g)) * H9 95 (10 + pgn (r g)) = zpl (H9 95) r g := rfl
  have v2 : H9 95 (10 + pgn (r g)) = zvw (H9 95) (pgn (r g)) := rfl
  rw [fl_wi (x := 14 + 8 * (g : Int)) (by omega) (by omega), i1, v0, v1, v2, fl_wi (x := zknd (H9 95) g) (by omega) (by omega)]
  unfold zsh
  refine fun _ => ⟨fun k m3 hm3 => ck_mono (rc_onPage (X := X) (xs := xs) hw hr h p2 rfl) (fun r5 H5 h5 => ⟨_, h5.1, ?_, h5.2⟩), fun k m3 hm3 => ck_mono (rc_rivals (X := X) (xs := xs) hw hr h hg rfl) (fun r5 H5 h5 => ⟨_, h5.1, ?_, h5.2⟩), fun k m3 hm3 => ck_mono (rc_areaOn (X := X) (xs := xs) hw hr h p2 rfl) (fun r5 H5 h5 => ⟨_, h5.1, ?_⟩), fun k => ⟨?_, rfl⟩⟩
  · rw [if_pos k]
    have : ncr r (pgn (r g)) - 1 + ((0 : Nat) : Int) = ncr r (pgn (r g)) - 1 := by omega
    rw [this]
  · rw [if_neg (by omega), if_pos k, Int.add_comm 1, fro_sum hw hr hg r0 k]
    obtain ⟨l1, l2⟩ := zpl_bd hw hr.1 g6 r0
    have n1 := nri_bd (H9 95) r (zfam (H9 95) g)
    unfold fl_div
    rw [fl_wi (x := zpl (H9 95) r g) (by omega) (by omega), fl_wi (x := nri (H9 95) r (zfam (H9 95) g)) (by omega) (by omega)]
    by_cases c : 1 < nri (H9 95) r (zfam (H9 95) g)
    · rw [if_pos c]
    · rw [if_neg c]
      have s := fro_sum hw hr hg r0 k
      have nn : 0 ≤ psm (fun k => fro (H9 95) g k (r k)) (H9 95 1).toNat := (psm_bd (M := 1) (fun i _ => by
        (try dsimp only)
        unfold fro
        by_cases c : i ≠ g ∧ r i ≠ 0 ∧ zknd (H9 95) i = 2 ∧ zfam (H9 95) i = zfam (H9 95) g
        · rw [if_pos c]; omega
        · rw [if_neg c]; omega)).1
      have e1 : nri (H9 95) r (zfam (H9 95) g) = 1 := by omega
      rw [e1, Int.tdiv_one]
  · have b := nfi_bd hw hr.1 (pgn (r g))
    have z0 : zop (H9 95) (H9 95 1).toNat 0 = 0 := rfl
    rw [fl_wi (x := nfi (H9 95) r (pgn (r g))) (by omega) (by omega), if_neg (by omega), if_neg (by omega), if_pos k]
    refine ⟨fun q => ⟨by rw [if_pos (by omega)], h5.2⟩, fun q => ⟨by rw [if_neg (by omega)], h5.2⟩⟩
  · rw [if_neg (by omega), if_neg (by omega), if_neg (by omega)]
end
end
