noncomputable section
/-! L3: told. -/
section
variable {X : Term} {xs : List Int32}
def oTold (g w : Int) (z : Nat → Int) : Int := if (0 ≤ g ∧ g ≤ z 1 - 1) ∧ (0 ≤ w ∧ w ≤ 7) then z (14 + 8 * g.toNat + w.toNat) else -1
theorem oTold_eq (g w : Int) (z u : Nat → Int) (h : zeq z u) (k : wf u) : oTold g w z = oTold g w u := by
  obtain ⟨-, -, k1, k2, -⟩ := k.1
  unfold oTold
  rw [h 1 (by omega)]
  by_cases c : (0 ≤ g ∧ g ≤ u 1 - 1) ∧ (0 ≤ w ∧ w ≤ 7)
  · rw [if_pos c, if_pos c]; exact h _ (by omega)
  · rw [if_neg c, if_neg c]
theorem zc_told {m : Nat} {H : fl_H} {g w : Int} (hg : fl_w g = g) (hw : fl_w w = w) (hz : wf (cz H 1)) : ck (cm_pg X xs) m cm_m104 [.index 0, fl_t g, fl_t w] H (fun r H1 => r = some (oTold g w (cz H 1)) ∧ H1 = H) := by
  obtain ⟨-, -, z1, z2, -⟩ := id hz.1
  change 0 ≤ H 3 0 at z1
  change H 3 0 ≤ 6 at z2
  have eW : fl_w (H 3 0 - 1) = H 3 0 - 1 := fl_wi (by omega) (by omega)
  have no : ¬ ((0 ≤ g ∧ g ≤ H 3 0 - 1) ∧ (0 ≤ w ∧ w ≤ 7)) → some (-1 : Int) = some (oTold g w (cz H 1)) ∧ True := fun h => by
    unfold oTold
    rw [show cz H 1 1 = H 3 0 from rfl, if_neg h]
    exact ⟨rfl, trivial⟩
  refine ve_GoodsBook_told_0 (fun m hm => ve_GoodsBook_isGood_0 ⟨_, rfl, ?_⟩)
  simp only [fb_0, hg, hw, w_0, w_7, eW]
  refine ⟨fun hb => no (fun c => hb c.1), fun hb => ⟨fun h2 m hm => ve_Goods_fact_3 ?_, fun h2 => no (fun c => h2 c.2)⟩⟩
  have h1 := Decidable.not_not.mp hb
  obtain ⟨n, hn⟩ : ∃ n : Nat, g = (n : Int) := ⟨g.toNat, by omega⟩
  subst hn
  have e0 : (2 * (n : Int)).toNat = 2 * n := by omega
  have e1 : (2 * (n : Int) + 1).toNat = 2 * n + 1 := by omega
  rw [hg, hw, fl_wi (x := 2 * (n : Int)) (by omega) (by omega), fl_wi (x := 2 * (n : Int) + 1) (by omega) (by omega), e0, e1, Int.toNat_natCast]
  have yes : ∀ q c i : Nat, w = (q : Int) → vld (14 + 8 * n + q) = true → slt (14 + 8 * n + q) = (c, i) → some (H (1 + c) i) = some (oTold (n : Int) w (cz H 1)) := fun q c i hq hv hs => by
    unfold oTold
    rw [if_pos ⟨h1, h2⟩, hq, Int.toNat_natCast, Int.toNat_natCast, cz_at hv (c := 1 + c) (i := i) (by rw [hs]) (by rw [hs])]
  obtain ⟨a1, a2, a3, a4⟩ := slt_gd n (by omega)
  obtain ⟨b1, b2, b3, b4, b5, b6⟩ := slt_sz n (by omega) 0 (by omega)
  obtain ⟨c1, c2, c3, c4, c5, c6⟩ := slt_sz n (by omega) 1 (by omega)
  have i1 : 15 + 8 * n = 14 + 8 * n + 1 := by omega
  have i2 : 16 + 8 * n + 3 * 0 = 14 + 8 * n + 2 := by omega
  have i3 : 17 + 8 * n + 3 * 0 = 14 + 8 * n + 3 := by omega
  have i4 : 18 + 8 * n + 3 * 0 = 14 + 8 * n + 4 := by omega
  have i5 : 16 + 8 * n + 3 * 1 = 14 + 8 * n + 5 := by omega
  have i6 : 17 + 8 * n + 3 * 1 = 14 + 8 * n + 6 := by omega
  have i7 : 18 + 8 * n + 3 * 1 = 14 + 8 * n + 7 := by omega
  rw [i1] at a3 a4
  rw [i2] at b1 b2
  rw [i3] at b3 b4
  rw [i4] at b5 b6
  rw [i5] at c1 c2
  rw [i6] at c3 c4
  rw [i7] at c5 c6
  exact ⟨fun h _ => ⟨_, rfl, yes 0 _ _ h a1 a2, rfl⟩, fun h _ => ⟨_, rfl, yes 1 _ _ h a3 a4, rfl⟩, fun h _ => ⟨_, rfl, yes 2 _ _ h b1 b2, rfl⟩, fun h _ => ⟨_, rfl, yes 3 _ _ h b3 b4, rfl⟩, fun h _ => ⟨_, rfl, yes 4 _ _ h b5 b6, rfl⟩, fun h _ => ⟨_, rfl, yes 5 _ _ h c1 c2, rfl⟩, fun h _ => ⟨_, rfl, yes 6 _ _ h c3 c4, rfl⟩, fun h _ => ⟨_, rfl, yes 7 _ _ (by omega) c5 c6, rfl⟩⟩
theorem zq_told {m : Nat} {H : fl_H} {g w : Int} (hg : fl_w g = g) (hw : fl_w w = w) (hz : wf (H 95)) : ck (cm_pg X xs) m cm_m162 [.index 94, fl_t g, fl_t w] H (fun r H1 => r = some (oTold g w (H 95)) ∧ H1 = H) := by
  obtain ⟨-, -, z1, z2, -⟩ := id hz.1
  have eW : fl_w (H 95 1 - 1) = H 95 1 - 1 := fl_wi (by omega) (by omega)
  have no : ¬ ((0 ≤ g ∧ g ≤ H 95 1 - 1) ∧ (0 ≤ w ∧ w ≤ 7)) → some (-1 : Int) = some (oTold g w (H 95)) ∧ True := fun h => by
    unfold oTold
    rw [if_neg h]
    exact ⟨rfl, trivial⟩
  refine ve_GoodsBookModel_told_94 (fun m hm => ve_GoodsBookModel_isGood_94 ⟨_, rfl, ?_⟩)
  simp only [fb_0, hg, hw, eW]
  refine ⟨fun hb => no (fun c => hb c.1), fun hb => ⟨fun h2 => ?_, fun h2 => no (fun c => h2 c.2)⟩⟩
  have h1 := Decidable.not_not.mp hb
  rw [fl_wi (x := 14 + 8 * g + w) (by omega) (by omega)]
  have e : (14 + 8 * g + w).toNat = 14 + 8 * g.toNat + w.toNat := by omega
  rw [e]
  refine fun _ => ⟨?_, trivial⟩
  unfold oTold
  rw [if_pos ⟨h1, h2⟩]
end
end
