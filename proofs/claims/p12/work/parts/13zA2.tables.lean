noncomputable section
/-! L3: the class puts all in; its search's tables. -/
section
variable {X : Term} {xs : List Int32}
def mix (r s : Nat → Nat) (k : Nat) : Nat → Nat := fun g => if g < k then s g else r g
theorem mix_st (r s : Nat → Nat) (k : Nat) : pup (mix r s k) k (s k) = mix r s (k + 1) := by
  funext g
  unfold pup mix
  by_cases e : g = k
  · rw [if_pos e, if_pos (by omega), e]
  · rw [if_neg e]
    by_cases h : g < k
    · rw [if_pos h, if_pos (by omega)]
    · rw [if_neg h, if_neg (by omega)]
theorem mix_all {z : Nat → Int} {r s : Nat → Nat} (hr : rk z r) (hs : rk z s) (h1 : 0 ≤ z 1) : mix r s (z 1).toNat = s := by
  funext g
  unfold mix
  by_cases h : g < (z 1).toNat
  · rw [if_pos h]
  · rw [if_neg h]
    by_cases g6 : g < 6
    · rw [(hr.1 g g6).2 (by omega), (hs.1 g g6).2 (by omega)]
    · rw [hr.2 g (by omega), hs.2 g (by omega)]
theorem mo_oc {z : Nat → Int} {P : Nat → Prop} {H G : fl_H} (h : mo z H) (o : oc P H G) (hp : ¬ P 78) : mo z G := fun k hk => by rw [o 78 hp]; exact h k hk
/-- a draft of a row: all that is asked of it -/
def dcx (z : Nat → Int) (r : Nat → Nat) (H : fl_H) : Prop := dz z H ∧ dr z r H ∧ mo z H ∧ flo z H
theorem dcx_put {m g c : Nat} {z : Nat → Int} {r : Nat → Nat} {H : fl_H} {e1 e2 : Int} (h : dcx z r H) (hw : wf z) (hg : (g : Int) < z 1) (hc : (c : Int) ≤ 2 * z 0) (h1 : e1 = (g : Int)) (h2 : e2 = (c : Int)) : ck (cm_pg X xs) m cm_m17 [.index 69, fl_t e1, fl_t e2] H (fun r' H' => r' = none ∧ oc pD H H' ∧ dcx z (pup r g c) H') := by
  subst h1; subst h2
  exact ck_mono (dc_put (X := X) (xs := xs) h.1 hw h.2.1 hg hc) (fun r' H' k => ⟨k.1, k.2.1, dz_pD h.1 k.2.1, k.2.2, mo_oc h.2.2.1 k.2.1 (by unfold pD; omega), flo_oc h.2.2.2 k.2.1 (fun c a b => by unfold pD; omega)⟩)
theorem dc_all81 {m : Nat} {z : Nat → Int} {r s : Nat → Nat} {H : fl_H} (h : dcx z r H) (hw : wf z) (hr : rk z r) (hs : rk z s) (h8 : ∀ g, g < 6 → H 81 g = ((s g : Nat) : Int)) : ck (cm_pg X xs) m cm_m16 [.index 69, .index 81] H (fun r' H' => r' = none ∧ oc pD H H' ∧ dcx z s H') := by
  obtain ⟨-, -, z11, z12, -⟩ := hw.1
  obtain ⟨n, hn⟩ : ∃ n : Nat, z 1 = (n : Int) := ⟨(z 1).toNat, by omega⟩
  have en : (z 1).toNat = n := by omega
  have key : ∀ (f k : Nat), k + f = n → ∀ (N : Nat) (G : fl_H), oc pD H G → dcx z (mix r s k) G → hd_Draft_putAll_69_81_2 (cm_pg X xs) N G (k : Int) (fun r' H' => r' = none ∧ oc pD H H' ∧ dcx z s H') := by
    intro f
    induction f with
    | zero =>
      intro k hk N G oG hG
      have e : k = n := by omega
      subst e
      refine vh_Draft_putAll_69_81_2 ?_
      rw [gz_1 hG.1.1, hn]
      refine ⟨fun _ => ⟨rfl, oG, ?_⟩, fun hh => absurd (Int.le_refl _) hh⟩
      rw [← en, mix_all hr hs z11] at hG
      exact hG
    | succ f ih =>
      intro k hk N G oG hG
      have ek : (k : Int) + 1 = ((k + 1 : Nat) : Int) := by omega
      refine vh_Draft_putAll_69_81_2 ?_
      rw [gz_1 hG.1.1, hn, fl_wi (x := (n : Int)) (by omega) (by omega), fl_wi (x := (k : Int)) (by omega) (by omega), Int.toNat_natCast, oG 81 (by unfold pD; omega), h8 k (by omega), ek]
      refine ⟨fun hh => by omega, fun _ _ m hm => ck_mono (dcx_put (X := X) (xs := xs) hG hw (g := k) (by omega) (hs.1 k (by omega)).1 rfl rfl) (fun r3 H3 h3 => ⟨h3.1, fun m' hm' => ?_⟩)⟩
      have h33 := h3.2.2
      rw [mix_st] at h33
      exact ih (k + 1) (by omega) m' H3 (oc_trans oG h3.2.1) h33
  have h0 : mix r s 0 = r := by
    funext g
    unfold mix
    rw [if_neg (by omega)]
  exact ve_Draft_putAll_69_81 (key n 0 (by omega) m H (oc_refl _ _) (by rw [h0]; exact h))
theorem dc_all19 {m : Nat} {z : Nat → Int} {r s : Nat → Nat} {H : fl_H} (h : dcx z r H) (hw : wf z) (hr : rk z r) (hs : rk z s) (h8 : ∀ g : Nat, (g : Int) < z 1 → H 19 g = ((s g : Nat) : Int)) : ck (cm_pg X xs) m cm_m16 [.index 69, .index 19] H (fun r' H' => r' = none ∧ oc pD H H' ∧ dcx z s H') := by
  obtain ⟨-, -, z11, z12, -⟩ := hw.1
  obtain ⟨n, hn⟩ : ∃ n : Nat, z 1 = (n : Int) := ⟨(z 1).toNat, by omega⟩
  have en : (z 1).toNat = n := by omega
  have key : ∀ (f k : Nat), k + f = n → ∀ (N : Nat) (G : fl_H), oc pD H G → dcx z (mix r s k) G → hd_Draft_putAll_69_19_2 (cm_pg X xs) N G (k : Int) (fun r' H' => r' = none ∧ oc pD H H' ∧ dcx z s H') := by
    intro f
    induction f with
    | zero =>
      intro k hk N G oG hG
      have e : k = n := by omega
      subst e
      refine vh_Draft_putAll_69_19_2 ?_
      rw [gz_1 hG.1.1, hn]
      refine ⟨fun _ => ⟨rfl, oG, ?_⟩, fun hh => absurd (Int.le_refl _) hh⟩
      rw [← en, mix_all hr hs z11] at hG
      exact hG
    | succ f ih =>
      intro k hk N G oG hG
      have ek : (k : Int) + 1 = ((k + 1 : Nat) : Int) := by omega
      refine vh_Draft_putAll_69_19_2 ?_
      rw [gz_1 hG.1.1, hn, fl_wi (x := (n : Int)) (by omega) (by omega), fl_wi (x := (k : Int)) (by omega) (by omega), Int.toNat_natCast, oG 19 (by unfold pD; omega), h8 k (by omega), ek]
      refine ⟨fun hh => by omega, fun _ _ m hm => ck_mono (dcx_put (X := X) (xs := xs) hG hw (g := k) (by omega) (hs.1 k (by omega)).1 rfl rfl) (fun r3 H3 h3 => ⟨h3.1, fun m' hm' => ?_⟩)⟩
      have h33 := h3.2.2
      rw [mix_st] at h33
      exact ih (k + 1) (by omega) m' H3 (oc_trans oG h3.2.1) h33
  have h0 : mix r s 0 = r := by
    funext g
    unfold mix
    rw [if_neg (by omega)]
  exact ve_Draft_putAll_69_19 (key n 0 (by omega) m H (oc_refl _ _) (by rw [h0]; exact h))
-- ---- bonds by their later good
/-- how many bonds below n have this later good; how many have a lesser one -/
def zcb (z : Nat → Int) (g : Nat) : Nat → Nat
  | 0 => 0
  | n + 1 => zcb z g n + (if zlt z n = g then 1 else 0)
def ztf (z : Nat → Int) : Nat → Nat
  | 0 => 0
  | g + 1 => ztf z g + zcb z g (z 2).toNat
theorem zcb_mono (z : Nat → Int) (g : Nat) {a b : Nat} (h : a ≤ b) : zcb z g a ≤ zcb z g b := by
  induction b with
  | zero => have : a = 0 := by omega
            rw [this]; exact Nat.le_refl _
  | succ b ih =>
    by_cases e : a = b + 1
    · rw [e]; exact Nat.le_refl _
    · have := ih (by omega)
      show zcb z g a ≤ zcb z g b + (if zlt z b = g then 1 else 0)
      omega
theorem zcb_lt {z : Nat → Int} {g a b : Nat} (h : a < b) (e : zlt z a = g) : zcb z g a < zcb z g b := by
  have := zcb_mono z g (show a + 1 ≤ b by omega)
  have h1 : zcb z g (a + 1) = zcb z g a + (if zlt z a = g then 1 else 0) := rfl
  rw [if_pos e] at h1
  omega
theorem zcb_ex {z : Nat → Int} {g : Nat} : ∀ {n j : Nat}, j < zcb z g n → ∃ b, b < n ∧ zlt z b = g ∧ zcb z g b = j
  | 0, j, h => absurd h (by show ¬ j < 0; omega)
  | n + 1, j, h => by
    have h : j < zcb z g n + (if zlt z n = g then 1 else 0) := h
    by_cases e : j < zcb z g n
    · obtain ⟨b, b1, b2, b3⟩ := zcb_ex e
      exact ⟨b, by omega, b2, b3⟩
    · by_cases c : zlt z n = g
      · rw [if_pos c] at h
        exact ⟨n, by omega, c, by omega⟩
      · rw [if_neg c] at h; omega
/-- sums over bonds of a later good are told by how many there were -/
theorem zcb_sum {z : Nat → Int} {g : Nat} {F : Nat → Int} {a b : Nat} (hab : a ≤ b) (h : zcb z g a = zcb z g b) : psm (fun k => if zlt z k = g then F k else 0) a = psm (fun k => if zlt z k = g then F k else 0) b :=
  (psm_ext hab (fun i h1 h2 => if_neg (fun e => by
    have := zcb_lt (z := z) (g := g) h2 e
    have := zcb_mono z g h1
    omega))).symm
theorem zcb_sum' {z : Nat → Int} {g : Nat} {F : Nat → Int} {a b : Nat} (h : zcb z g a = zcb z g b) : psm (fun k => if zlt z k = g then F k else 0) a = psm (fun k => if zlt z k = g then F k else 0) b := by
  by_cases e : a ≤ b
  · exact zcb_sum e h
  · exact (zcb_sum (by omega) h.symm).symm
theorem ztf_mono (z : Nat → Int) {a b : Nat} (h : a ≤ b) : ztf z a ≤ ztf z b := by
  induction b with
  | zero => have : a = 0 := by omega
            rw [this]; exact Nat.le_refl _
  | succ b ih =>
    by_cases e : a = b + 1
    · rw [e]; exact Nat.le_refl _
    · have := ih (by omega)
      show ztf z a ≤ ztf z b + zcb z b (z 2).toNat
      omega
/-- where a bond stands among the ties -/
def zps (z : Nat → Int) (b : Nat) : Nat := ztf z (zlt z b) + zcb z (zlt z b) b
theorem zps_lt {z : Nat → Int} {b c : Nat} (hb : b < (z 2).toNat) (h : zlt z b < zlt z c ∨ (zlt z b = zlt z c ∧ b < c)) : zps z b < zps z c := by
  unfold zps
  rcases h with h | ⟨h, k⟩
  · have h1 := zcb_lt (z := z) (g := zlt z b) hb rfl
    have h2 : ztf z (zlt z b + 1) = ztf z (zlt z b) + zcb z (zlt z b) (z 2).toNat := rfl
    have h3 := ztf_mono z (show zlt z b + 1 ≤ zlt z c by omega)
    omega
  · rw [h]
    have := zcb_lt (z := z) (g := zlt z c) k h
    omega
/-- all counts together are no more than there are bonds -/
theorem ztf_le {z : Nat → Int} : ∀ g, ztf z g ≤ (z 2).toNat := by
  intro g
  have key : ∀ g n, psm (fun b => if zlt z b < g then 1 else 0) n = ((psm (fun h => ((zcb z h n : Nat) : Int)) g)) := by
    intro g
    induction g with
    | zero => intro n; exact psm_zero (fun i _ => by (try dsimp only); rw [if_neg (by omega)])
    | succ g ih =>
      intro n
      show _ = psm (fun h => ((zcb z h n : Nat) : Int)) g + ((zcb z g n : Nat) : Int)
      rw [← ih n]
      have : ((zcb z g n : Nat) : Int) = psm (fun b => if zlt z b = g then 1 else 0) n := by
        induction n with
        | zero => rfl
        | succ n ihn =>
          show ((zcb z g n + (if zlt z n = g then 1 else 0) : Nat) : Int) = psm (fun b => if zlt z b = g then 1 else 0) n + (if zlt z n = g then 1 else 0)
          rw [← ihn]
          by_cases c : zlt z n = g
          · rw [if_pos c, if_pos c]; omega
          · rw [if_neg c, if_neg c]; omega
      rw [this, ← psm_add]
      refine psm_congr (fun i _ => ?_)
      (try dsimp only)
      by_cases c1 : zlt z i < g
      · rw [if_pos c1, if_pos (by omega), if_neg (by omega)]; rfl
      · rw [if_neg c1]
        by_cases c2 : zlt z i = g
        · rw [if_pos c2, if_pos (by omega)]; rfl
        · rw [if_neg c2, if_neg (by omega)]; rfl
  have e : ((ztf z g : Nat) : Int) = psm (fun h => ((zcb z h (z 2).toNat : Nat) : Int)) g := by
    induction g with
    | zero => rfl
    | succ g ih =>
      show ((ztf z g + zcb z g (z 2).toNat : Nat) : Int) = psm (fun h => ((zcb z h (z 2).toNat : Nat) : Int)) g + ((zcb z g (z 2).toNat : Nat) : Int)
      rw [← ih]; omega
  rw [← key g] at e
  have b := (psm_bd (f := fun b => if zlt z b < g then 1 else 0) (M := 1) (n := (z 2).toNat) (fun i _ => by
    (try dsimp only)
    by_cases c : zlt z i < g
    · rw [if_pos c]; omega
    · rw [if_neg c]; omega)).2
  omega
/-- the tables: bonds sorted, the most that may come by those of a good and behind it -/
def srt (z : Nat → Int) (H : fl_H) : Prop := (∀ g, g ≤ (z 1).toNat → H 83 g = ((ztf z g : Nat) : Int)) ∧ (∀ b, b < (z 2).toNat → H 82 (zps z b) = (b : Int)) ∧ ∀ g, g ≤ (z 1).toNat → H 84 g = zgo z g
theorem srt_oc {z : Nat → Int} {P : Nat → Prop} {H G : fl_H} (h : srt z H) (o : oc P H G) (h2 : ¬ P 82) (h3 : ¬ P 83) (h4 : ¬ P 84) : srt z G := by
  obtain ⟨a, b, c⟩ := h
  exact ⟨fun g hg => by rw [o 83 h3]; exact a g hg, fun k hk => by rw [o 82 h2]; exact b k hk, fun g hg => by rw [o 84 h4]; exact c g hg⟩
theorem zlt_bd {z : Nat → Int} (hw : wf z) {b : Nat} (hb : (b : Int) < z 2) : zlt z b < (z 1).toNat := by
  obtain ⟨a1, a2, a3, a4, -⟩ := hw.2.2.2 b hb
  unfold zlt
  omega
theorem zmg_bd {z : Nat → Int} (hw : wf z) {b : Nat} (hb : (b : Int) < z 2) : 0 ≤ zmg z b ∧ zmg z b ≤ 5940 := by
  have v1 := wf_vw hw (show 1 < 3 by decide)
  have v2 := wf_vw hw (show 2 < 3 by decide)
  obtain ⟨-, -, -, -, -, -, e1, -⟩ := wf_bd hw hb
  have mx : ∀ n, n ≤ 3 → zmxv z n ≤ 60 := by
    intro n
    induction n with
    | zero => intro _; show (0 : Int) ≤ 60; omega
    | succ n ih =>
      intro hn
      have := ih (by omega)
      have := wf_vw hw (show n < 3 by omega)
      show max (zmxv z n) (zvw z n) ≤ 60
      omega
  have m1 := mx (z 0).toNat (by have := hw.1.2.1; omega)
  have m0 := zmxv_nn z (z 0).toNat
  refine ⟨zmg_nn hw b, ?_⟩
  unfold zmg
  have key : ∀ s e : Int, 0 ≤ s → s ≤ 60 → 0 ≤ e → e ≤ 99 → s * e ≤ 5940 := fun s e h1 h2 h3 h4 => by
    have := Int.mul_le_mul h2 h4 h3 (by omega)
    omega
  by_cases k1 : z (68 + 4 * b) = 1
  · rw [if_pos k1]
    by_cases k3 : z 0 = 3
    · rw [if_pos k3]; exact key _ _ (by omega) (by omega) (by omega) (by omega)
    · rw [if_neg k3, Int.zero_mul]; omega
  · rw [if_neg k1]; exact key _ _ m0 m1 (by omega) (by omega)
theorem ds_most {m b : Nat} {z : Nat → Int} {H : fl_H} {e : Int} (h : dz z H) (hw : wf z) (hb : (b : Int) < z 2) (he : e = (b : Int)) : ck (cm_pg X xs) m cm_m62 [.index 79, fl_t e] H (fun r' H' => r' = some (zmg z b) ∧ H' = H) := by
  subst he
  obtain ⟨b12, -, -, -, -, kd, ex, -⟩ := wf_bd hw hb
  obtain ⟨z01, z02, -⟩ := hw.1
  obtain ⟨P, hP⟩ : ∃ P : Nat, z 0 = (P : Int) := ⟨(z 0).toNat, by omega⟩
  have eP : (z 0).toNat = P := by omega
  have lp : ∀ (f p : Nat), p + f = P → ∀ N, hd_Search_mostGain_79_17 (cm_pg X xs) N H (b : Int) (zmxv z p) (p : Int) (fun r' H' => r' = some (zmxv z P * max (z (71 + 4 * b)) 0) ∧ H' = H) := by
    intro f
    induction f with
    | zero =>
      intro p hp N
      have e : p = P := by omega
      subst e
      refine vh_Search_mostGain_79_17 ?_
      rw [h.2.1, hP, fl_wi (x := (b : Int)) (by omega) (by omega), Int.toNat_natCast, gz_be h.1 b12, fl_wi (x := z (71 + 4 * b)) (by omega) (by omega), w_0]
      exact ⟨fun _ _ => ⟨rfl, rfl⟩, fun hh => absurd (Int.le_refl _) hh⟩
    | succ f ih =>
      intro p hp N
      have ep : (p : Int) + 1 = ((p + 1 : Nat) : Int) := by omega
      have v := wf_vw hw (show p < 3 by omega)
      have mm := zmxv_nn z p
      have mx : zmxv z p ≤ 60 := by
        have : ∀ n, n ≤ 3 → zmxv z n ≤ 60 := by
          intro n
          induction n with
          | zero => intro _; show (0 : Int) ≤ 60; omega
          | succ n ih =>
            intro hn
            have := ih (by omega)
            have := wf_vw hw (show n < 3 by omega)
            show max (zmxv z n) (zvw z n) ≤ 60
            omega
        exact this p (by omega)
      refine vh_Search_mostGain_79_17 ?_
      rw [h.2.1, hP, fl_wi (x := (P : Int)) (by omega) (by omega), fl_wi (x := (p : Int)) (by omega) (by omega), Int.toNat_natCast, h.2.2 p (by omega), fl_wi (x := zvw z p) (by omega) (by omega), fl_wi (x := zmxv z p) (by omega) (by omega), ep]
      exact ⟨fun hh => by omega, fun _ _ m hm => ih (p + 1) (by omega) m⟩
  refine ve_Search_mostGain_79 ?_
  rw [fl_wi (x := (b : Int)) (by omega) (by omega), Int.toNat_natCast, gz_bk h.1 b12, gz_be h.1 b12, fl_wi (x := z (68 + 4 * b)) (by omega) (by omega), fl_wi (x := z (71 + 4 * b)) (by omega) (by omega), h.2.1, fl_wi (x := z 0) (by omega) (by omega), w_0]
  unfold zmg
  refine fun _ => ⟨fun k1 => ⟨fun k3 _ => ⟨?_, rfl⟩, fun k3 _ => ⟨?_, rfl⟩⟩, fun k1 => ?_⟩
  · have v1 := wf_vw hw (show 1 < 3 by decide)
    have v2 := wf_vw hw (show 2 < 3 by decide)
    rw [if_pos k1, if_pos k3, h.2.2 1 (by omega), h.2.2 2 (by omega), fl_wi (x := zvw z 1) (by omega) (by omega), fl_wi (x := zvw z 2) (by omega) (by omega)]
  · rw [if_pos k1, if_neg k3]
  · have := lp P 0 (by omega) m
    rw [if_neg k1, eP]
    exact this
end
end
