noncomputable section
/-! L3: what holds between calls, plans and answers with it. -/
section
variable {X : Term} {xs : List Int32}
/-- known of steps, of a book mended -/
def kst (z : Nat → Int) (H : fl_H) : Prop := H 90 0 = 0 ∨ (H 90 0 = 1 ∧ zso z (pln z) ∧ ∃ n t, clm z n (pln z) t ∧ ztop z t ∧ H 90 3 = ((n : Nat) : Int) ∧ H 90 2 = zwo z t ∧ ∀ g, g < 6 → H 91 g = ((t g : Nat) : Int))
def kmd (z : Nat → Int) (H : fl_H) : Prop := H 0 14 = -1 ∨ ∃ g : Nat, (g : Int) < z 1 ∧ H 0 14 = (g : Int) ∧ ∃ c A R, c < 6 ∧ zme z (fun k => z (62 + k)) (g : Int) c A R ∧ H 92 2 = A ∧ H 92 3 = (c : Int) ∧ ∀ k, k < 6 → H 93 k = ((R k : Nat) : Int)
/-- sheets alike -/
def she (H : fl_H) : Prop := (∀ i, i < 4 → H 61 i = H 107 i ∧ -1 ≤ H 61 i ∧ H 61 i ≤ 2 ∧ H 62 i = H 108 i ∧ 0 ≤ H 62 i ∧ H 62 i ≤ 16) ∧ ∀ i, i < 64 → H 63 i = H 109 i ∧ fl_w (H 63 i) = H 63 i
/-- choices alike -/
def chA (b : Nat) (z : Nat → Int) (H : fl_H) : Prop := chz z ∧ ∀ g, g < 6 → H b g = ((pln z g : Nat) : Int)
def TX (H : fl_H) : Prop := T1 H ∧ chA 19 (H 95) H ∧ (H 94 18 = 1 → chA 57 (H 106) H) ∧ she H ∧ flI (H 95) H ∧ rkn (H 95) H ∧ kbe (H 95) H ∧ kst (H 95) H ∧ kmd (H 95) H
theorem TX_bz {H : fl_H} (t : TX H) : bz (H 95) H := by
  have hz := t.1.1.2.2.2.2.2.1
  have h : ∀ j, ¬ (62 ≤ j ∧ j < 68) → cz H 1 j = H 95 j := fun j hj => hz j hj
  refine ⟨fun j _ hj => h j (fun q => hj (Or.inr (Or.inr q))), h 0 (by omega), fun p hp => ?_⟩
  have := h (10 + p) (by omega)
  exact ((bz_cz H).2.2 p hp).trans (show zvw (cz H 1) p = zvw (H 95) p from this)
theorem TX_wf {H : fl_H} (t : TX H) : wf (H 95) := t.1.2.1
/-- a call of the class that changes no contents -/
def cro (H H1 : fl_H) : Prop := (∀ c, c ≠ 0 → ¬ (64 ≤ c ∧ c ≤ 93) → H1 c = H c) ∧ ∀ i, i ≠ 14 → H1 0 i = H 0 i
theorem cro_refl (H : fl_H) : cro H H := ⟨fun _ _ _ => rfl, fun _ _ => rfl⟩
theorem cro_trans {H G F : fl_H} (a : cro H G) (b : cro G F) : cro H F := ⟨fun c h1 h2 => (b.1 c h1 h2).trans (a.1 c h1 h2), fun i h => (b.2 i h).trans (a.2 i h)⟩
theorem cro_oc {P : Nat → Prop} {H G : fl_H} (o : oc P H G) (hp : ∀ c, P c → 64 ≤ c ∧ c ≤ 93) : cro H G := ⟨fun c _ h2 => o c (fun q => h2 (hp c q)), fun i _ => by rw [o 0 (fun q => by have := hp 0 q; omega)]⟩
theorem cro_fr {H H1 : fl_H} (h : cro H H1) : fr sT H H1 := fun c i k => by
  by_cases c0 : c = 0
  · subst c0
    refine h.2 i (fun e => ?_)
    rw [e] at k
    exact absurd k (by decide)
  · by_cases c1 : 64 ≤ c ∧ c ≤ 93
    · unfold sT at k
      have e1 : Nat.beq c 0 = false := by
        cases hb : Nat.beq c 0
        · rfl
        · have := Nat.eq_of_beq_eq_true hb; omega
      have e2 : Nat.ble c 19 = false := by
        cases hb : Nat.ble c 19
        · rfl
        · have := Nat.le_of_ble_eq_true hb; omega
      have e3 : Nat.ble c 59 = false := by
        cases hb : Nat.ble c 59
        · rfl
        · have := Nat.le_of_ble_eq_true hb; omega
      have e4 : ∀ d, 94 ≤ d → Nat.beq c d = false := fun d hd => by
        cases hb : Nat.beq c d
        · rfl
        · have := Nat.eq_of_beq_eq_true hb; omega
      rw [e1, e2, e3, e4 94 (by omega), e4 95 (by omega), e4 104 (by omega), e4 106 (by omega)] at k
      simp at k
    · rw [h.1 c c0 c1]
theorem TX_cro {H H1 : fl_H} (t : TX H) (h : cro H H1) (hf : flI (H 95) H1) (hb : kbe (H 95) H1) (hs : kst (H 95) H1) (hm : kmd (H 95) H1) : TX H1 := by
  have e : ∀ c, 94 ≤ c → H1 c = H c := fun c hc => h.1 c (by omega) (by omega)
  have e' : ∀ c, 1 ≤ c → c ≤ 63 → H1 c = H c := fun c h1 h2 => h.1 c (by omega) (by omega)
  obtain ⟨t1, t2, t3, t4, -, t6, -⟩ := t
  refine ⟨T1_fr (cro_fr h) t1, ?_, ?_, ?_, ?_, ?_, ?_, ?_, ?_⟩
  · unfold chA; rw [e 95 (by omega), e' 19 (by omega) (by omega)]; exact t2
  · rw [e 94 (by omega)]; intro q; unfold chA; rw [e 106 (by omega), e' 57 (by omega) (by omega)]; exact t3 q
  · unfold she; rw [e' 61 (by omega) (by omega), e' 62 (by omega) (by omega), e' 63 (by omega) (by omega), e 107 (by omega), e 108 (by omega), e 109 (by omega)]; exact t4
  · rw [e 95 (by omega)]; exact hf
  · rw [e 95 (by omega)]; exact rkn_c t6 (e 96 (by omega))
  · rw [e 95 (by omega)]; exact hb
  · rw [e 95 (by omega)]; exact hs
  · rw [e 95 (by omega)]; exact hm
/-- a call of the reference that changes no contents -/
def rsx (H G : fl_H) : Prop := (∀ c, c ≠ 94 → ¬ (96 ≤ c ∧ c ≤ 103) → G c = H c) ∧ ∀ i, i ≠ 4 → i ≠ 8 → i ≠ 10 → G 94 i = H 94 i
theorem rsx_o {H G : fl_H} (h : rso H G) : rsx H G := ⟨fun c a b => h.1 c a (by omega), h.2⟩
theorem rsx_fr {H G : fl_H} (h : rsx H G) : fr sT H G := fun c i k => by
  by_cases c0 : c = 94
  · subst c0
    refine h.2 i (fun e => ?_) (fun e => ?_) (fun e => ?_)
    · rw [e] at k; exact absurd k (by decide)
    · rw [e] at k; exact absurd k (by decide)
    · rw [e] at k; exact absurd k (by decide)
  · by_cases c1 : 96 ≤ c ∧ c ≤ 103
    · obtain ⟨c1, c2⟩ := c1
      have d : c = 96 ∨ c = 97 ∨ c = 98 ∨ c = 99 ∨ c = 100 ∨ c = 101 ∨ c = 102 ∨ c = 103 := by omega
      have key : ∀ c, 96 ≤ c → c < 104 → sT c i = false := fun c a b => by
        unfold sT
        have e1 : Nat.beq c 0 = false := by
          cases hb : Nat.beq c 0
          · rfl
          · have := Nat.eq_of_beq_eq_true hb; omega
        have e2 : Nat.ble c 19 = false := by
          cases hb : Nat.ble c 19
          · rfl
          · have := Nat.le_of_ble_eq_true hb; omega
        have e3 : Nat.ble c 59 = false := by
          cases hb : Nat.ble c 59
          · rfl
          · have := Nat.le_of_ble_eq_true hb; omega
        have e4 : ∀ d, d = 94 ∨ d = 95 ∨ d = 104 ∨ d = 106 → Nat.beq c d = false := fun d hd => by
          cases hb : Nat.beq c d
          · rfl
          · have := Nat.eq_of_beq_eq_true hb; omega
        rw [e1, e2, e3, e4 94 (by omega), e4 95 (by omega), e4 104 (by omega), e4 106 (by omega)]
        simp
      rw [key c c1 (by omega)] at k
      exact absurd k (by decide)
    · rw [h.1 c c0 c1]
theorem TX_rsx {H H1 : fl_H} (t : TX H) (h : rsx H H1) (hk : rkn (H 95) H1) : TX H1 := by
  have e : ∀ c, c < 94 → H1 c = H c := fun c hc => h.1 c (by omega) (by omega)
  have e95 : H1 95 = H 95 := h.1 95 (by omega) (by omega)
  obtain ⟨t1, t2, t3, t4, t5, -, t7, t8, t9⟩ := t
  refine ⟨T1_fr (rsx_fr h) t1, ?_, ?_, ?_, ?_, ?_, ?_, ?_, ?_⟩
  · unfold chA; rw [e95, e 19 (by omega)]; exact t2
  · rw [h.2 18 (by omega) (by omega) (by omega)]; intro q; unfold chA; rw [h.1 106 (by omega) (by omega), e 57 (by omega)]; exact t3 q
  · unfold she; rw [e 61 (by omega), e 62 (by omega), e 63 (by omega), h.1 107 (by omega) (by omega), h.1 108 (by omega) (by omega), h.1 109 (by omega) (by omega)]; exact t4
  · rw [e95]; exact flI_fr t5 (fun c a b => e c (by omega))
  · rw [e95]; exact hk
  · unfold kbe; rw [e95, e 88 (by omega), e 89 (by omega)]; exact t7
  · unfold kst; rw [e95, e 90 (by omega), e 91 (by omega)]; exact t8
  · unfold kmd; rw [e95, e 0 (by omega), e 92 (by omega), e 93 (by omega)]; exact t9
/-- a call of both that only tells -/
theorem tx_rel {P : (Nat → Int) → Int → Prop} {M1 M2 : cm_M} {a1 a2 : List Term} (hu : ∀ z v w, P z v → P z w → v = w) (h1 : ∀ m H, TX H → ck (cm_pg X xs) m M1 a1 H (fun r H1 => (∃ v, r = some v ∧ P (H 95) v) ∧ H1 95 = H 95 ∧ TX H1)) (h2 : ∀ m H, TX H → ck (cm_pg X xs) m M2 a2 H (fun r H1 => (∃ v, r = some v ∧ P (H 95) v) ∧ TX H1)) : tw X xs TX true M1 M2 a1 a2 := fun m H t =>
  ck_mono (h1 m H t) (fun r H1 h => by
    obtain ⟨⟨v, v1, v2⟩, e, t1⟩ := h
    exact ⟨⟨v, v1⟩, fun m' => ck_mono (h2 m' H1 t1) (fun r' H2 k => by
      obtain ⟨⟨w, w1, w2⟩, t2⟩ := k
      rw [e] at w2
      exact ⟨⟨w, w1⟩, fun _ => by rw [w1, v1, hu _ _ _ w2 v2], t2⟩)⟩)
theorem tx_no {M1 M2 : cm_M} {a1 a2 : List Term} (h1 : ∀ m H, TX H → ck (cm_pg X xs) m M1 a1 H (fun r H1 => (∃ v, r = some v) ∧ TX H1)) (h2 : ∀ m H, TX H → ck (cm_pg X xs) m M2 a2 H (fun r H1 => (∃ v, r = some v) ∧ TX H1)) : tw X xs TX false M1 M2 a1 a2 := fun m H t =>
  ck_mono (h1 m H t) (fun r H1 h => ⟨h.1, fun m' => ck_mono (h2 m' H1 h.2) (fun r' H2 k => ⟨k.1, fun e => absurd e (by decide), k.2⟩)⟩)
end
end
