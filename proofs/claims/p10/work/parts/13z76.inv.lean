noncomputable section
/-! L3: what holds between calls. -/
section
variable {X : Term} {xs : List Int32}
/-- the contents of both sides are alike -/
def zT (H : fl_H) : Prop := (∃ n : Nat, H 58 1 = (n : Int) ∧ H 94 13 = (n : Int) ∧ n ≤ 120) ∧ (∀ i, H 104 i = H 59 i) ∧ (∀ i, 0 ≤ H 59 i ∧ H 59 i ≤ 255) ∧ H 58 2 = 0 ∧ H 58 3 = -1 ∧ zeq (cz H 1) (H 95) ∧ zr (H 95) ∧ H 0 3 = H 94 18 ∧ (H 94 18 = 1 → zeq (cz H 39) (H 106) ∧ zr (H 106))
theorem zT_fr {H G : fl_H} (h : fr sT H G) (t : zT H) : zT G := by
  obtain ⟨⟨n, t1, t2, t3⟩, t4, t5, t6, t7, t8, t9, t10, t11⟩ := t
  have e95 : G 95 = H 95 := funext (fun i => h 95 i rfl)
  have e106 : G 106 = H 106 := funext (fun i => h 106 i rfl)
  have s1 : ∀ c i, 1 ≤ c → c ≤ 19 → sT c i = true := fun c i a b => by
    unfold sT
    rw [Nat.ble_eq_true_of_le a, Nat.ble_eq_true_of_le b]
    simp
  have s39 : ∀ c i, 39 ≤ c → c ≤ 59 → sT c i = true := fun c i a b => by
    unfold sT
    rw [Nat.ble_eq_true_of_le a, Nat.ble_eq_true_of_le b]
    simp
  have z1 : cz G 1 = cz H 1 := cz_out (fun c i a b => h c i (s1 c i a (by omega)))
  have z39 : cz G 39 = cz H 39 := cz_out (fun c i a b => h c i (s39 c i a (by omega)))
  refine ⟨⟨n, by rw [h 58 1 rfl]; exact t1, by rw [h 94 13 rfl]; exact t2, t3⟩, fun i => by rw [h 104 i rfl, h 59 i rfl]; exact t4 i, fun i => by rw [h 59 i rfl]; exact t5 i, by rw [h 58 2 rfl]; exact t6, by rw [h 58 3 rfl]; exact t7, by rw [z1, e95]; exact t8, by rw [e95]; exact t9, by rw [h 0 3 rfl, h 94 18 rfl]; exact t10, fun g => ?_⟩
  rw [h 94 18 rfl] at g
  rw [z39, e106]
  exact t11 g
/-- a BOOK read over contents alike -/
theorem bk_zeq {t : Nat → Int} {n : Nat} {z w : Nat → Int} (h : zeq z w) : bka t n z = bka t n w ∧ zeq (bkz t n z) (bkz t n w) := by
  unfold bka bkz
  rw [h 1 (by omega)]
  cases o : cls t n 12 (w 1) 0 with
  | inl p => exact ⟨rfl, h⟩
  | inr q =>
    obtain ⟨l, b⟩ := q
    have hv := cls_evk o
    have hr := rml_zeq hv h
    dsimp only
    by_cases hc : rml l w
    · rw [if_pos hc, if_pos (hr.mpr hc), if_pos hc, if_pos (hr.mpr hc)]
      exact ⟨rfl, apl_zeq hv h⟩
    · rw [if_neg hc, if_neg (fun k => hc (hr.mp k)), if_neg hc, if_neg (fun k => hc (hr.mp k))]
      exact ⟨rfl, h⟩
theorem apl_zr : ∀ {l : List (List Int)} {z : Nat → Int}, (∀ e ∈ l, evk e) → zr z → rml l z → zr (apl l z)
  | [], _, _, h, _ => h
  | e :: l, _, hl, h, hr => apl_zr (l := l) (fun x hx => hl x (List.mem_cons_of_mem _ hx)) (zr_apz (hl e (List.mem_cons_self ..)) h hr.1) hr.2
theorem bkz_zr {t : Nat → Int} {n : Nat} {z : Nat → Int} (h : zr z) : zr (bkz t n z) := by
  unfold bkz
  cases o : cls t n 12 (z 1) 0 with
  | inl p => exact h
  | inr q =>
    obtain ⟨l, b⟩ := q
    dsimp only
    by_cases hc : rml l z
    · rw [if_pos hc]
      exact apl_zr (cls_evk o) h hc
    · rw [if_neg hc]
      exact h
/-- book of both sides, one behind the other: alike answers, contents alike again -/
theorem zT_book {m : Nat} {H : fl_H} (t : zT H) {Q : Option Int → Option Int → fl_H → Prop} (k : ∀ v H', zT H' → Q (some v) (some v) H') : ck (cm_pg X xs) m cm_m109 [.index 0] H (fun r H1 => ∀ m', ck (cm_pg X xs) m' cm_m232 [.index 94] H1 (fun r' H2 => Q r r' H2)) := by
  obtain ⟨⟨n, t1, t2, t3⟩, t4, t5, t6, t7, t8, t9, t10, t11⟩ := t
  have z0 : zr (cz H 1) := zr_zeq (fun j hj => (t8 j hj).symm) t9
  refine ck_mono (cb_book (X := X) (xs := xs) t1 t6 t7 t3 (fun i _ => t5 i) z0) (fun r H1 h m' => ?_)
  obtain ⟨a1, a2, a3, a4, a5, a6⟩ := h
  have o1 : ∀ c i, 39 ≤ c → c ≠ 58 → c ≠ 64 → c ≠ 88 → c ≠ 90 → H1 c i = H c i := fun c i b1 b2 b3 b4 b5 => a6 c i (by omega) b2 (fun hc => by omega) (fun hc => absurd hc b3) (fun hc => absurd hc b4) (fun hc => absurd hc b5)
  have e95 : H1 95 = H 95 := funext (fun i => o1 95 i (by decide) (by decide) (by decide) (by decide) (by decide))
  have e104 : H1 104 = H 59 := funext (fun i => (o1 104 i (by decide) (by decide) (by decide) (by decide) (by decide)).trans (t4 i))
  refine ck_mono (rk_book (X := X) (xs := xs) (n := n) (by rw [o1 94 13 (by decide) (by decide) (by decide) (by decide) (by decide)]; exact t2) t3 (fun i _ => by rw [e104]; exact t5 i) (by rw [e95]; exact t9)) (fun r' H2 h => ?_)
  obtain ⟨b1, b2, b3, b4⟩ := h
  rw [e104, e95] at b1 b2
  have q := bk_zeq (t := H 59) (n := n) t8
  have o2 : ∀ c i, c < 94 → H2 c i = H1 c i := fun c i hc => b4 c i (by omega) (by omega) (by omega) (fun h => by omega)
  rw [a1, b1, q.1]
  refine k _ H2 ⟨⟨0, by rw [o2 58 1 (by decide)]; exact a3, b3, by omega⟩, fun i => ?_, fun i => ?_, by rw [o2 58 2 (by decide)]; exact a4, by rw [o2 58 3 (by decide)]; exact a5, ?_, ?_, ?_, fun g => ?_⟩
  · rw [b4 104 i (by decide) (by decide) (by decide) (fun h => absurd h (by decide)), e104, o2 59 i (by decide), o1 59 i (by decide) (by decide) (by decide) (by decide) (by decide)]
  · rw [o2 59 i (by decide), o1 59 i (by decide) (by decide) (by decide) (by decide) (by decide)]; exact t5 i
  · rw [cz_out (G := H2) (H := H1) (b := 1) (fun c i g1 g2 => o2 c i (by omega)), b2]
    exact zeq_trans a2 q.2
  · rw [b2]; exact bkz_zr t9
  · rw [o2 0 3 (by decide), b4 94 18 (by decide) (by decide) (by decide) (fun _ => ⟨by decide, by decide, by decide, by decide⟩), o1 94 18 (by decide) (by decide) (by decide) (by decide) (by decide), a6 0 3 (by decide) (by decide) (fun _ => by decide) (fun h => absurd h (by decide)) (fun h => absurd h (by decide)) (fun h => absurd h (by decide))]
    exact t10
  · rw [b4 94 18 (by decide) (by decide) (by decide) (fun _ => ⟨by decide, by decide, by decide, by decide⟩), o1 94 18 (by decide) (by decide) (by decide) (by decide) (by decide)] at g
    have e106 : H2 106 = H 106 := funext (fun i => (b4 106 i (by decide) (by decide) (by decide) (fun h => absurd h (by decide))).trans (o1 106 i (by decide) (by decide) (by decide) (by decide) (by decide)))
    rw [e106, cz_out (G := H2) (H := H) (b := 39) (fun c i g1 g2 => (o2 c i (by omega)).trans (o1 c i (by omega) (by omega) (by omega) (by omega) (by omega)))]
    exact t11 g
end
end
