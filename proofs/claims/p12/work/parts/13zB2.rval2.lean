noncomputable section
/-! L3: what the reference says of a row: extras, worth, what is kept, what is sound. -/
section
variable {X : Term} {xs : List Int32}
theorem zga_0 {z : Nat → Int} {r : Nat → Nat} {b : Nat} (hw : wf z) (hb : (b : Int) < z 2) (h : 3 ≤ z (68 + 4 * b) ∨ r (z (69 + 4 * b)).toNat = 0 ∨ r (z (70 + 4 * b)).toNat = 0 ∨ (z (68 + 4 * b) = 0 ∧ pgn (r (z (69 + 4 * b)).toNat) ≠ pgn (r (z (70 + 4 * b)).toNat)) ∨ (z (68 + 4 * b) = 1 ∧ (min (pgn (r (z (69 + 4 * b)).toNat)) (pgn (r (z (70 + 4 * b)).toNat)) ≠ 1 ∨ max (pgn (r (z (69 + 4 * b)).toNat)) (pgn (r (z (70 + 4 * b)).toNat)) ≠ 2))) : zga z r b = 0 := by
  obtain ⟨-, -, -, -, -, -, -, e3⟩ := wf_bd hw hb
  unfold zga
  by_cases c1 : r (z (69 + 4 * b)).toNat = 0 ∨ r (z (70 + 4 * b)).toNat = 0
  · rw [if_pos c1]
  · rw [if_neg c1]
    by_cases c2 : z (68 + 4 * b) = 0 ∧ pgn (r (z (69 + 4 * b)).toNat) ≠ pgn (r (z (70 + 4 * b)).toNat)
    · rw [if_pos c2]
    · rw [if_neg c2]
      by_cases c3 : z (68 + 4 * b) = 1 ∧ (min (pgn (r (z (69 + 4 * b)).toNat)) (pgn (r (z (70 + 4 * b)).toNat)) ≠ 1 ∨ max (pgn (r (z (69 + 4 * b)).toNat)) (pgn (r (z (70 + 4 * b)).toNat)) ≠ 2)
      · rw [if_pos c3]
      · rw [if_neg c3, e3 (by
          rcases h with h | h | h | h | h
          · exact h
          · exact absurd (Or.inl h) c1
          · exact absurd (Or.inr h) c1
          · exact absurd h c2
          · exact absurd h c3), Int.zero_mul]
theorem zga_1 {z : Nat → Int} {r : Nat → Nat} {b : Nat} (h : ¬ (r (z (69 + 4 * b)).toNat = 0 ∨ r (z (70 + 4 * b)).toNat = 0) ∧ ¬ (z (68 + 4 * b) = 0 ∧ pgn (r (z (69 + 4 * b)).toNat) ≠ pgn (r (z (70 + 4 * b)).toNat)) ∧ ¬ (z (68 + 4 * b) = 1 ∧ (min (pgn (r (z (69 + 4 * b)).toNat)) (pgn (r (z (70 + 4 * b)).toNat)) ≠ 1 ∨ max (pgn (r (z (69 + 4 * b)).toNat)) (pgn (r (z (70 + 4 * b)).toNat)) ≠ 2))) {v : Int} (hv : v = min (zvw z (pgn (r (z (69 + 4 * b)).toNat))) (zvw z (pgn (r (z (70 + 4 * b)).toNat)))) : z (71 + 4 * b) * v = zga z r b := by
  unfold zga
  rw [if_neg h.1, if_neg h.2.1, if_neg h.2.2, hv]
theorem rc_extra {m b : Nat} {r : Nat → Nat} {H : fl_H} {e : Int} (hw : wf (H 95)) (hr : rk (H 95) r) (h : rr r H) (hb : (b : Int) < H 95 2) (he : e = ((68 + 4 * b : Nat) : Int)) : ck (cm_pg X xs) m cm_m182 [.index 94, fl_t e] H (fun r' H' => r' = some (zga (H 95) r b) ∧ H' = H) := by
  subst he
  obtain ⟨b12, x6, y6, ex, ey, kd, ev, -⟩ := wf_bd hw hb
  obtain ⟨-, wx, wy, -⟩ := hw.2.2.2 b hb
  have a1 : ((68 + 4 * b : Nat) : Int) + 1 = ((69 + 4 * b : Nat) : Int) := by omega
  have a2 : ((68 + 4 * b : Nat) : Int) + 2 = ((70 + 4 * b : Nat) : Int) := by omega
  have a3 : ((68 + 4 * b : Nat) : Int) + 3 = ((71 + 4 * b : Nat) : Int) := by omega
  have rx := rk_7 hw hr (H 95 (69 + 4 * b)).toNat
  have ry := rk_7 hw hr (H 95 (70 + 4 * b)).toNat
  have bx := ppg_bd rx
  have bY := ppg_bd ry
  refine ve_GoodsBookModel_extraOf_94 ?_
  rw [a1, a2, a3, fl_wi (x := ((68 + 4 * b : Nat) : Int)) (by omega) (by omega), fl_wi (x := ((69 + 4 * b : Nat) : Int)) (by omega) (by omega), fl_wi (x := ((70 + 4 * b : Nat) : Int)) (by omega) (by omega), fl_wi (x := ((71 + 4 * b : Nat) : Int)) (by omega) (by omega), Int.toNat_natCast, Int.toNat_natCast, Int.toNat_natCast, Int.toNat_natCast, fl_wi (x := H 95 (69 + 4 * b)) (by omega) (by omega), h _ (show (((H 95 (69 + 4 * b)).toNat : Nat) : Int) < H 95 1 by omega)]
  refine fun _ _ m1 hm1 => ck_mono (rc_pg (X := X) (xs := xs) rx rfl) (fun r3 H3 h3 => ⟨_, h3.1, ?_⟩)
  have e3 := h3.2
  subst e3
  rw [fl_wi (x := H3 95 (70 + 4 * b)) (by omega) (by omega), h _ (show (((H3 95 (70 + 4 * b)).toNat : Nat) : Int) < H3 95 1 by omega)]
  refine fun _ _ m2 hm2 => ck_mono (rc_pg (X := X) (xs := xs) ry rfl) (fun r8 H8 h8 => ⟨_, h8.1, ?_⟩)
  have e8 := h8.2
  subst e8
  rw [fl_wi (x := H8 95 (68 + 4 * b)) (by omega) (by omega), fl_wi (x := ppg (r (H8 95 (69 + 4 * b)).toNat)) (by omega) (by omega), fl_wi (x := ppg (r (H8 95 (70 + 4 * b)).toNat)) (by omega) (by omega), fl_wi (x := 10 + ppg (r (H8 95 (69 + 4 * b)).toNat)) (by omega) (by omega), fl_wi (x := 10 + ppg (r (H8 95 (70 + 4 * b)).toNat)) (by omega) (by omega), fl_wi (x := ppg (r (H8 95 (69 + 4 * b)).toNat) + ppg (r (H8 95 (70 + 4 * b)).toNat)) (by omega) (by omega)]
  have N0 : (3 ≤ H8 95 (68 + 4 * b) ∨ r (H8 95 (69 + 4 * b)).toNat = 0 ∨ r (H8 95 (70 + 4 * b)).toNat = 0 ∨ (H8 95 (68 + 4 * b) = 0 ∧ pgn (r (H8 95 (69 + 4 * b)).toNat) ≠ pgn (r (H8 95 (70 + 4 * b)).toNat)) ∨ (H8 95 (68 + 4 * b) = 1 ∧ (min (pgn (r (H8 95 (69 + 4 * b)).toNat)) (pgn (r (H8 95 (70 + 4 * b)).toNat)) ≠ 1 ∨ max (pgn (r (H8 95 (69 + 4 * b)).toNat)) (pgn (r (H8 95 (70 + 4 * b)).toNat)) ≠ 2))) → some (0 : Int) = some (zga (H8 95) r b) ∧ H8 = H8 := fun q => ⟨by rw [zga_0 hw hb q], rfl⟩
  by_cases c1 : 3 ≤ H8 95 (68 + 4 * b)
  · refine fun _ => ⟨fun _ => N0 (Or.inl c1), fun q => absurd c1 q⟩
  by_cases c2 : r (H8 95 (69 + 4 * b)).toNat = 0
  · refine fun _ => ⟨fun _ => N0 (Or.inr (Or.inl c2)), fun _ => ⟨fun _ => N0 (Or.inr (Or.inl c2)), fun q => absurd (by omega) q⟩⟩
  by_cases c3 : r (H8 95 (70 + 4 * b)).toNat = 0
  · refine fun _ => ⟨fun q => absurd q c1, fun _ => ⟨fun q => by omega, fun _ => ⟨fun q => by omega, fun _ => N0 (Or.inr (Or.inr (Or.inl c3)))⟩⟩⟩
  have ax : ppg (r (H8 95 (69 + 4 * b)).toNat) = ((pgn (r (H8 95 (69 + 4 * b)).toNat) : Nat) : Int) := by omega
  have ay : ppg (r (H8 95 (70 + 4 * b)).toNat) = ((pgn (r (H8 95 (70 + 4 * b)).toNat) : Nat) : Int) := by omega
  have px : pgn (r (H8 95 (69 + 4 * b)).toNat) < 3 := by omega
  have py : pgn (r (H8 95 (70 + 4 * b)).toNat) < 3 := by omega
  have i1 : (10 + ((pgn (r (H8 95 (69 + 4 * b)).toNat) : Nat) : Int)).toNat = 10 + pgn (r (H8 95 (69 + 4 * b)).toNat) := by omega
  have i2 : (10 + ((pgn (r (H8 95 (70 + 4 * b)).toNat) : Nat) : Int)).toNat = 10 + pgn (r (H8 95 (70 + 4 * b)).toNat) := by omega
  have vx := wf_vw hw px
  have vy := wf_vw hw py
  have ux : H8 95 (10 + pgn (r (H8 95 (69 + 4 * b)).toNat)) = zvw (H8 95) (pgn (r (H8 95 (69 + 4 * b)).toNat)) := rfl
  have uy : H8 95 (10 + pgn (r (H8 95 (70 + 4 * b)).toNat)) = zvw (H8 95) (pgn (r (H8 95 (70 + 4 * b)).toNat)) := rfl
  rw [ax, ay, i1, i2, ux, uy, fl_wi (x := zvw (H8 95) (pgn (r (H8 95 (69 + 4 * b)).toNat))) (by omega) (by omega), fl_wi (x := zvw (H8 95) (pgn (r (H8 95 (70 + 4 * b)).toNat))) (by omega) (by omega)]
  have N1 : ∀ v : Int, v = min (zvw (H8 95) (pgn (r (H8 95 (69 + 4 * b)).toNat))) (zvw (H8 95) (pgn (r (H8 95 (70 + 4 * b)).toNat))) → (¬ (H8 95 (68 + 4 * b) = 0 ∧ pgn (r (H8 95 (69 + 4 * b)).toNat) ≠ pgn (r (H8 95 (70 + 4 * b)).toNat)) ∧ ¬ (H8 95 (68 + 4 * b) = 1 ∧ (min (pgn (r (H8 95 (69 + 4 * b)).toNat)) (pgn (r (H8 95 (70 + 4 * b)).toNat)) ≠ 1 ∨ max (pgn (r (H8 95 (69 + 4 * b)).toNat)) (pgn (r (H8 95 (70 + 4 * b)).toNat)) ≠ 2))) → some (H8 95 (71 + 4 * b) * v) = some (zga (H8 95) r b) ∧ H8 = H8 := fun v hv q => ⟨by rw [zga_1 ⟨by omega, q⟩ hv], rfl⟩
  refine fun _ => ⟨fun q => absurd q c1, fun _ => ⟨fun q => by omega, fun _ => ⟨fun _ _ => ⟨fun k2 _ _ => ⟨fun q _ _ => N1 _ (by omega) ⟨by omega, by omega⟩, fun q _ _ => N1 _ (by omega) ⟨by omega, by omega⟩⟩, fun k2 _ => ⟨fun k1 => ⟨fun s3 => ⟨fun q1 _ _ => ⟨fun q _ => N0 (by omega), fun q _ => N0 (by omega)⟩, fun q1 => ⟨fun q2 _ _ => ⟨fun q _ => N0 (by omega), fun q _ => N0 (by omega)⟩, fun q2 => ⟨fun q3 _ _ => ⟨fun q _ => N0 (by omega), fun q _ => N0 (by omega)⟩, fun q3 _ _ => ⟨fun q _ _ => N1 _ (by omega) ⟨by omega, by omega⟩, fun q _ _ => N1 _ (by omega) ⟨by omega, by omega⟩⟩⟩⟩⟩, fun s3 _ _ => ⟨fun q _ => N0 (by omega), fun q _ => N0 (by omega)⟩⟩, fun k1 => ⟨fun s1 _ _ => ⟨fun q _ _ => N1 _ (by omega) ⟨by omega, by omega⟩, fun q _ _ => N1 _ (by omega) ⟨by omega, by omega⟩⟩, fun s1 _ _ => ⟨fun q _ => N0 (by omega), fun q _ => N0 (by omega)⟩⟩⟩⟩, fun q => by omega⟩⟩⟩
theorem rc_keeps {m b : Nat} {r : Nat → Nat} {H : fl_H} {e : Int} (hw : wf (H 95)) (hr : rk (H 95) r) (h : rr r H) (hb : (b : Int) < H 95 2) (he : e = ((68 + 4 * b : Nat) : Int)) : ck (cm_pg X xs) m cm_m184 [.index 94, fl_t e] H (fun r' H' => r' = some (fl_b (zke (H 95) r b)) ∧ H' = H) := by
  subst he
  obtain ⟨b12, x6, y6, ex, ey, kd, ev, -⟩ := wf_bd hw hb
  obtain ⟨-, wx, wy, -⟩ := hw.2.2.2 b hb
  have a1 : ((68 + 4 * b : Nat) : Int) + 1 = ((69 + 4 * b : Nat) : Int) := by omega
  have a2 : ((68 + 4 * b : Nat) : Int) + 2 = ((70 + 4 * b : Nat) : Int) := by omega
  have rx := rk_7 hw hr (H 95 (69 + 4 * b)).toNat
  have ry := rk_7 hw hr (H 95 (70 + 4 * b)).toNat
  have bx := ppg_bd rx
  have bY := ppg_bd ry
  refine ve_GoodsBookModel_keeps_94 ?_
  rw [a1, a2, fl_wi (x := ((68 + 4 * b : Nat) : Int)) (by omega) (by omega), fl_wi (x := ((69 + 4 * b : Nat) : Int)) (by omega) (by omega), fl_wi (x := ((70 + 4 * b : Nat) : Int)) (by omega) (by omega), Int.toNat_natCast, Int.toNat_natCast, Int.toNat_natCast, fl_wi (x := H 95 (69 + 4 * b)) (by omega) (by omega), h _ (show (((H 95 (69 + 4 * b)).toNat : Nat) : Int) < H 95 1 by omega)]
  refine fun _ _ m1 hm1 => ck_mono (rc_pg (X := X) (xs := xs) rx rfl) (fun r3 H3 h3 => ⟨_, h3.1, ?_⟩)
  have e3 := h3.2
  subst e3
  rw [fl_wi (x := H3 95 (70 + 4 * b)) (by omega) (by omega), h _ (show (((H3 95 (70 + 4 * b)).toNat : Nat) : Int) < H3 95 1 by omega)]
  refine fun _ _ m2 hm2 => ck_mono (rc_pg (X := X) (xs := xs) ry rfl) (fun r8 H8 h8 => ⟨_, h8.1, ?_⟩)
  have e8 := h8.2
  subst e8
  rw [fl_wi (x := H8 95 (68 + 4 * b)) (by omega) (by omega), fl_wi (x := ppg (r (H8 95 (69 + 4 * b)).toNat)) (by omega) (by omega), fl_wi (x := ppg (r (H8 95 (70 + 4 * b)).toNat)) (by omega) (by omega)]
  have Y : zke (H8 95) r b → some (1 : Int) = some (fl_b (zke (H8 95) r b)) ∧ H8 = H8 := fun q => ⟨by rw [fl_b1 q], rfl⟩
  have N : ¬ zke (H8 95) r b → some (0 : Int) = some (fl_b (zke (H8 95) r b)) ∧ H8 = H8 := fun q => ⟨by rw [fl_b0 q], rfl⟩
  unfold zke at Y N ⊢
  exact fun _ => ⟨fun k => ⟨fun q => Y (by omega), fun q => ⟨fun q2 => N (by omega), fun q2 => Y (by omega)⟩⟩, fun k => ⟨fun q => Y (by omega), fun q => ⟨fun q2 => Y (by omega), fun q2 => ⟨fun q3 => N (by omega), fun q3 => Y (by omega)⟩⟩⟩, fun k => ⟨fun q => Y (by omega), fun q => ⟨fun q2 => Y (by omega), fun q2 => ⟨fun q3 => N (by omega), fun q3 => Y (by omega)⟩⟩⟩, fun k => Y (by omega)⟩
theorem rc_broken {m : Nat} {r : Nat → Nat} {H : fl_H} (hw : wf (H 95)) (hr : rk (H 95) r) (h : rr r H) : ck (cm_pg X xs) m cm_m185 [.index 94] H (fun r' H' => r' = some (zfb (H 95) r) ∧ H' = H) := by
  obtain ⟨-, -, -, -, z21, z22⟩ := hw.1
  obtain ⟨B, hB⟩ : ∃ B : Nat, H 95 2 = (B : Int) := ⟨(H 95 2).toNat, by omega⟩
  have lp : ∀ (f k : Nat), k + f = B → ∀ (N : Nat), hd_GoodsBookModel_firstBroken_94_2 (cm_pg X xs) N H (k : Int) (fun r' H' => r' = some (ffo (zke (H 95) r) f k) ∧ H' = H) := by
    intro f
    induction f with
    | zero =>
      intro k hk N
      refine vh_GoodsBookModel_firstBroken_94_2 ?_
      rw [hB, fl_wi (x := (B : Int)) (by omega) (by omega), fl_wi (x := (k : Int)) (by omega) (by omega)]
      exact ⟨fun _ => ⟨rfl, rfl⟩, fun hh => by omega⟩
    | succ f ih =>
      intro k hk N
      have ek : (k : Int) + 1 = ((k + 1 : Nat) : Int) := by omega
      refine vh_GoodsBookModel_firstBroken_94_2 ?_
      rw [hB, fl_wi (x := (B : Int)) (by omega) (by omega), fl_wi (x := (k : Int)) (by omega) (by omega), ek]
      refine ⟨fun hh => by omega, fun _ m hm => ck_mono (rc_keeps (X := X) (xs := xs) (b := k) hw hr h (by omega) (by omega)) (fun r2 H2 h2 => ⟨_, h2.1, ?_⟩)⟩
      rw [h2.2, fb_0]
      refine ⟨fun q => ⟨by rw [ffo_at q], rfl⟩, fun q m' hm' => ?_⟩
      rw [ffo_go (Classical.not_not.mp q)]
      exact ih (k + 1) (by omega) m'
  have := lp B 0 (by omega) m
  unfold zfb
  rw [hB, Int.toNat_natCast]
  exact ve_GoodsBookModel_firstBroken_94 this
end
end
