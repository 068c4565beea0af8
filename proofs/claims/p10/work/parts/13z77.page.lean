noncomputable section
/-! L3: calls that change the contents of one side; page. -/
section
variable {X : Term} {xs : List Int32}
def cOnly (H G : fl_H) : Prop := ∀ c i, ¬ (1 ≤ c ∧ c ≤ 19) → sT c i = true → G c i = H c i
def rOnly (H G : fl_H) : Prop := ∀ c i, c ≠ 95 → sT c i = true → G c i = H c i
theorem zT_two {H G F : fl_H} (t : zT H) (h1 : cOnly H G) (h2 : rOnly G F) (hz : zeq (cz G 1) (F 95)) (hr : zr (F 95)) : zT F := by
  obtain ⟨⟨n, t1, t2, t3⟩, t4, t5, t6, t7, -, -, t10, t11⟩ := t
  have h : ∀ c i, ¬ (1 ≤ c ∧ c ≤ 19) → c ≠ 95 → sT c i = true → F c i = H c i := fun c i a b k => (h2 c i b k).trans (h1 c i a k)
  have s1 : ∀ c i, 1 ≤ c → c ≤ 19 → sT c i = true := fun c i a b => by
    unfold sT
    rw [Nat.ble_eq_true_of_le a, Nat.ble_eq_true_of_le b]
    simp
  have s39 : ∀ c i, 39 ≤ c → c ≤ 59 → sT c i = true := fun c i a b => by
    unfold sT
    rw [Nat.ble_eq_true_of_le a, Nat.ble_eq_true_of_le b]
    simp
  have e106 : F 106 = H 106 := funext (fun i => h 106 i (by decide) (by decide) rfl)
  have z1 : cz F 1 = cz G 1 := cz_out (fun c i a b => h2 c i (by omega) (s1 c i a (by omega)))
  have z39 : cz F 39 = cz H 39 := cz_out (fun c i a b => h c i (by omega) (by omega) (s39 c i a (by omega)))
  have k59 : ∀ i, F 59 i = H 59 i := fun i => h 59 i (by decide) (by decide) rfl
  refine ⟨⟨n, by rw [h 58 1 (by decide) (by decide) rfl]; exact t1, by rw [h 94 13 (by decide) (by decide) rfl]; exact t2, t3⟩, fun i => by rw [h 104 i (by decide) (by decide) rfl, k59]; exact t4 i, fun i => by rw [k59]; exact t5 i, by rw [h 58 2 (by decide) (by decide) rfl]; exact t6, by rw [h 58 3 (by decide) (by decide) rfl]; exact t7, by rw [z1]; exact hz, hr, by rw [h 0 3 (by decide) (by decide) rfl, h 94 18 (by decide) (by decide) rfl]; exact t10, fun g => ?_⟩
  rw [h 94 18 (by decide) (by decide) rfl] at g
  rw [z39, e106]
  exact t11 g
theorem cf_ans {m : Nat} {H : fl_H} : ck (cm_pg X xs) m cm_m141 [.index 0] H (fun r H' => r = none ∧ H' = fl_up (fl_up (fl_up H 88 0 0) 90 0 0) 0 14 (-1)) :=
  ve_GoodsBook_forgetAnswers_0 (fun H2 e2 m hm => ve_GoodsBook_forgetPlanAnswers_0 (fun H3 e3 H5 e5 => ⟨rfl, rfl, by rw [e5, e3, e2]⟩))
theorem cOnly_ans {H G F : fl_H} (h : cOnly H G) (e : F = fl_up (fl_up (fl_up G 88 0 0) 90 0 0) 0 14 (-1)) : cOnly H F ∧ cz F 1 = cz G 1 := by
  refine ⟨fun c i h1 h2 => ?_, by rw [e]; exact cz_out (fun c i a b => by rw [fl_up_c _ _ _ _ (by omega), fl_up_c _ _ _ _ (by omega), fl_up_c _ _ _ _ (by omega)])⟩
  rw [← h c i h1 h2, e]
  unfold fl_up
  rw [if_neg (fun hh => by rw [hh.1, hh.2] at h2; exact absurd h2 (by decide)), if_neg (fun hh => by rw [hh.1, hh.2] at h2; exact absurd h2 (by decide)), if_neg (fun hh => by rw [hh.1, hh.2] at h2; exact absurd h2 (by decide))]
/-- page, on contents z -/
def pgA (v : Int) (z : Nat → Int) (r : Option Int) (z' : Nat → Int) : Prop := ((0 ≤ fl_w v ∧ fl_w v ≤ 60) → (z 0 < 3 → r = some (z 0) ∧ z' = apz [0, v] z) ∧ (¬ z 0 < 3 → r = some (-3) ∧ z' = z)) ∧ (¬ (0 ≤ fl_w v ∧ fl_w v ≤ 60) → r = some (-1) ∧ z' = z)
theorem zc_page {m : Nat} {H : fl_H} {v : Int} (hz : zr (cz H 1)) : ck (cm_pg X xs) m cm_m100 [.index 0, fl_t v] H (fun r H1 => cOnly H H1 ∧ pgA v (cz H 1) r (cz H1 1)) := by
  refine ve_GoodsBook_page_0 ?_
  have w0 : fl_w 0 = 0 := rfl
  have w60 : fl_w 60 = 60 := rfl
  rw [w0, w60]
  have c0 : cz H 1 0 = H 1 0 := rfl
  obtain ⟨z1, z2, -⟩ := id hz
  unfold pgA
  rw [c0] at z1 z2 ⊢
  obtain ⟨p, hp⟩ : ∃ p : Nat, H 1 0 = (p : Int) := ⟨(H 1 0).toNat, by omega⟩
  refine ⟨fun hv m hm => ve_Book_addPage_1 ?_, fun hv => ⟨fun _ _ _ _ => rfl, fun h => absurd h hv, fun _ => ⟨rfl, rfl⟩⟩⟩
  rw [fl_wi (x := H 1 0) (by omega) (by omega), hp, Int.toNat_natCast]
  refine ⟨fun hlt _ H2 e2 H5 e5 => ⟨_, rfl, fun m hm => ck_mono (cf_ans (X := X) (xs := xs)) (fun r H7 h => ⟨h.1, ?_⟩)⟩, fun hge => ⟨_, rfl, fun m hm => ck_mono (cf_ans (X := X) (xs := xs)) (fun r H7 h => ⟨h.1, ?_⟩)⟩⟩
  · have g2 : H2 1 0 = (p : Int) := by rw [e2, fl_up_c _ _ _ _ (by decide)]; exact hp
    have o5 : cOnly H H5 := fun c i a _ => by rw [e5, fl_up_c _ _ _ _ (by omega), e2, fl_up_c _ _ _ _ (by omega)]
    obtain ⟨k1, k2⟩ := cOnly_ans o5 h.2
    obtain ⟨a1, a2⟩ := slt_pg p (by omega)
    have c5 : cz H5 1 = upz (cz H2 1) 0 (H2 1 0 + 1) := by rw [e5]; exact cz_up (j := 0) rfl rfl rfl
    have c2 : cz H2 1 = upz (cz H 1) (10 + p) v := by rw [e2]; exact cz_up a1 (by rw [a2] <;> rfl) (by rw [a2] <;> rfl)
    refine ⟨k1, fun _ => ⟨fun _ => ⟨by rw [g2], ?_⟩, fun h => absurd hlt h⟩, fun h => absurd hv h⟩
    rw [k2, c5, g2, c2]
    show _ = upz (upz (cz H 1) (10 + (H 1 0).toNat) v) 0 (H 1 0 + 1)
    rw [hp, Int.toNat_natCast]
  · obtain ⟨k1, k2⟩ := cOnly_ans (H := H) (fun _ _ _ _ => rfl) h.2
    exact ⟨k1, fun _ => ⟨fun h => absurd h hge, fun _ => ⟨rfl, k2⟩⟩, fun h => absurd hv h⟩
theorem zr_page {m : Nat} {H : fl_H} {v : Int} (hz : zr (H 95)) : ck (cm_pg X xs) m cm_m156 [.index 94, fl_t v] H (fun r H1 => rOnly H H1 ∧ pgA v (H 95) r (H1 95)) := by
  refine ve_GoodsBookModel_page_94 ?_
  obtain ⟨z1, z2, -⟩ := id hz
  unfold pgA
  rw [fl_wi (x := H 95 0) (by omega) (by omega), fl_wi (x := 10 + H 95 0) (by omega) (by omega)]
  have ei : (10 + H 95 0).toNat = 10 + (H 95 0).toNat := by omega
  rw [ei]
  refine ⟨fun hv => ⟨fun h3 => ⟨fun _ _ _ _ => rfl, fun _ => ⟨fun h => by omega, fun _ => ⟨rfl, rfl⟩⟩, fun h => absurd hv h⟩, fun h3 _ H3 e3 H6 e6 => ?_⟩, fun hv => ⟨fun _ _ _ _ => rfl, fun h => absurd h hv, fun _ => ⟨rfl, rfl⟩⟩⟩
  have g3 : H3 95 0 = H 95 0 := by rw [e3, fl_up_i _ _ _ _ (by omega)]
  refine ⟨fun c i a _ => by rw [e6, fl_up_c _ _ _ _ a, e3, fl_up_c _ _ _ _ a], fun _ => ⟨fun _ => ⟨?_, ?_⟩, fun h => by omega⟩, fun h => absurd hv h⟩
  · rw [e6, fl_up_at, g3]
    exact congrArg some (by omega)
  · rw [e6, fl_up_z, g3, e3, fl_up_z]
    rfl
theorem pgA_zeq {v : Int} {z w z' w' : Nat → Int} {r r' : Option Int} (hvv : fl_w v = v) (h : zeq z w) (hw : zr w) (a : pgA v z r z') (b : pgA v w r' w') : r = r' ∧ (∃ x, r = some x) ∧ zeq z' w' ∧ zr w' := by
  have h0 := h 0 (by omega)
  by_cases hv : 0 ≤ fl_w v ∧ fl_w v ≤ 60
  · by_cases h3 : w 0 < 3
    · obtain ⟨a1, a2⟩ := (a.1 hv).1 (by rw [h0]; exact h3)
      obtain ⟨b1, b2⟩ := (b.1 hv).1 h3
      have he : evk [0, v] := Or.inl ⟨v, rfl, by omega, by omega⟩
      exact ⟨by rw [a1, b1, h0], ⟨_, a1⟩, by rw [a2, b2]; exact apz_zeq he h, by rw [b2]; exact zr_apz he hw ⟨fun _ => h3, fun k => absurd (show (0 : Int) = 1 from k) (by decide), fun k => absurd (show (0 : Int) = 2 from k) (by decide)⟩⟩
    · obtain ⟨a1, a2⟩ := (a.1 hv).2 (by rw [h0]; exact h3)
      obtain ⟨b1, b2⟩ := (b.1 hv).2 h3
      exact ⟨by rw [a1, b1], ⟨_, a1⟩, by rw [a2, b2]; exact h, by rw [b2]; exact hw⟩
  · obtain ⟨a1, a2⟩ := a.2 hv
    obtain ⟨b1, b2⟩ := b.2 hv
    exact ⟨by rw [a1, b1], ⟨_, a1⟩, by rw [a2, b2]; exact h, by rw [b2]; exact hw⟩
/-- page of both sides, one behind the other -/
theorem zT_page {m : Nat} {H : fl_H} {v : Int} (t : zT H) (hv : fl_w v = v) : ck (cm_pg X xs) m cm_m100 [.index 0, fl_t v] H (fun r H1 => ∀ m', ck (cm_pg X xs) m' cm_m156 [.index 94, fl_t v] H1 (fun r' H2 => r = r' ∧ (∃ x, r = some x) ∧ zT H2)) := by
  obtain ⟨-, -, -, -, -, t8, t9, -, -⟩ := id t
  refine ck_mono (zc_page (X := X) (xs := xs) (zr_zeq (fun j hj => (t8 j hj).symm) t9)) (fun r H1 h m' => ?_)
  obtain ⟨c1, p1⟩ := h
  have e95 : H1 95 = H 95 := funext (fun i => c1 95 i (by decide) rfl)
  refine ck_mono (zr_page (X := X) (xs := xs) (H := H1) (by rw [e95]; exact t9)) (fun r' H2 h => ?_)
  obtain ⟨c2, p2⟩ := h
  rw [e95] at p2
  obtain ⟨q1, q2, q3, q4⟩ := pgA_zeq hv t8 t9 p1 p2
  exact ⟨q1, q2, zT_two t c1 c2 q3 q4⟩
end
end
