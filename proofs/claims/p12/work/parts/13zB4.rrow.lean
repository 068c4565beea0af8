noncomputable section
/-! L3: rows by number. -/
section
variable {X : Term} {xs : List Int32}
/-- the row of a number -/
def rwn (b G n g : Nat) : Nat := if g < G then n / b ^ (G - 1 - g) % b else 0
/-- the first k of a row as a number -/
def rwc (b : Nat) (s : Nat → Nat) : Nat → Nat
  | 0 => 0
  | k + 1 => b * rwc b s k + s k
theorem rwc_lt {b : Nat} {s : Nat → Nat} : ∀ {k : Nat}, (∀ g, g < k → s g < b) → rwc b s k < b ^ k
  | 0, _ => by show 0 < 1; omega
  | k + 1, h => by
    have i := rwc_lt (b := b) (s := s) (k := k) (fun g hg => h g (by omega))
    have j := h k (by omega)
    have m : b * (rwc b s k + 1) ≤ b * b ^ k := Nat.mul_le_mul_left b i
    rw [Nat.mul_add, Nat.mul_one] at m
    show b * rwc b s k + s k < b ^ (k + 1)
    rw [Nat.pow_succ, Nat.mul_comm (b ^ k) b]
    omega
theorem rwc_div {b : Nat} {s : Nat → Nat} : ∀ (d j : Nat), (∀ g, g < j + d → s g < b) → rwc b s (j + d) / b ^ d = rwc b s j
  | 0, j, _ => by rw [Nat.pow_zero, Nat.div_one]; rfl
  | d + 1, j, h => by
    have i := rwc_div d j (fun g hg => h g (by omega))
    have hb := h (j + d) (by omega)
    have e : rwc b s (j + (d + 1)) = b * rwc b s (j + d) + s (j + d) := rfl
    rw [Nat.pow_succ, Nat.mul_comm (b ^ d) b, ← Nat.div_div_eq_div_mul, e, Nat.mul_add_div (by omega), Nat.div_eq_of_lt hb, Nat.add_zero]
    exact i
theorem rwn_rwc {b G : Nat} {s : Nat → Nat} (h : ∀ g, g < G → s g < b) (h0 : ∀ g, G ≤ g → s g = 0) : rwn b G (rwc b s G) = s := by
  funext g
  unfold rwn
  by_cases hg : g < G
  · rw [if_pos hg]
    have e := rwc_div (b := b) (s := s) (G - 1 - g) (g + 1) (fun k hk => h k (by omega))
    have eg : g + 1 + (G - 1 - g) = G := by omega
    rw [eg] at e
    rw [e]
    show (b * rwc b s g + s g) % b = s g
    rw [Nat.mul_add_mod, Nat.mod_eq_of_lt (h g hg)]
  · rw [if_neg hg, h0 g (by omega)]
theorem rwn_rk {z : Nat → Int} (hw : wf z) (n : Nat) : rk z (rwn (2 * (z 0).toNat + 1) (z 1).toNat n) := by
  have z0 := hw.1.1
  refine ⟨fun g hg => ⟨?_, fun h => ?_⟩, fun g hg => ?_⟩
  · unfold rwn
    by_cases c : g < (z 1).toNat
    · rw [if_pos c]
      have := Nat.mod_lt (n / (2 * (z 0).toNat + 1) ^ ((z 1).toNat - 1 - g)) (show 0 < 2 * (z 0).toNat + 1 by omega)
      omega
    · rw [if_neg c]; omega
  · unfold rwn; rw [if_neg (by omega)]
  · unfold rwn; rw [if_neg (by have := hw.1.2.2.2.1; omega)]
theorem rwn_all {z : Nat → Int} {s : Nat → Nat} (hw : wf z) (h : rk z s) : ∃ n, n < (2 * (z 0).toNat + 1) ^ (z 1).toNat ∧ rwn (2 * (z 0).toNat + 1) (z 1).toNat n = s := by
  have z6 := hw.1.2.2.2.1
  have b : ∀ g, g < (z 1).toNat → s g < 2 * (z 0).toNat + 1 := fun g hg => by
    have := (h.1 g (by omega)).1
    omega
  exact ⟨rwc (2 * (z 0).toNat + 1) s (z 1).toNat, rwc_lt b, rwn_rwc b (fun g hg => rk_z h hg hw.1.2.2.1)⟩
/-- lesser numbers are ahead -/
theorem rwn_lt {b G n m : Nat} (hG : G ≤ 6) (hb : 0 < b) (h : n < m) (hm : m < b ^ G) : rlt (rwn b G n) (rwn b G m) := by
  -- the first digit in which they differ
  have key : ∀ d, d ≤ G → (∀ j, j < d → rwn b G n j = rwn b G m j) ∧ n / b ^ (G - d) = m / b ^ (G - d) ∨ ∃ k, k < G ∧ rwn b G n k < rwn b G m k ∧ ∀ j, j < k → rwn b G n j = rwn b G m j := by
    intro d
    induction d with
    | zero =>
      intro _
      refine Or.inl ⟨fun j hj => absurd hj (by omega), ?_⟩
      rw [Nat.sub_zero, Nat.div_eq_of_lt hm, Nat.div_eq_of_lt (by omega)]
    | succ d ih =>
      intro hd
      rcases ih (by omega) with ⟨h1, h2⟩ | h1
      · have ep : G - d = (G - (d + 1)) + 1 := by omega
        have eq : G - 1 - d = G - (d + 1) := by omega
        rw [ep, Nat.pow_succ, ← Nat.div_div_eq_div_mul, ← Nat.div_div_eq_div_mul] at h2
        have rn : rwn b G n d = n / b ^ (G - (d + 1)) % b := by unfold rwn; rw [if_pos (by omega), eq]
        have rm : rwn b G m d = m / b ^ (G - (d + 1)) % b := by unfold rwn; rw [if_pos (by omega), eq]
        have an := Nat.div_add_mod (n / b ^ (G - (d + 1))) b
        have am := Nat.div_add_mod (m / b ^ (G - (d + 1))) b
        have le : n / b ^ (G - (d + 1)) ≤ m / b ^ (G - (d + 1)) := Nat.div_le_div_right (by omega)
        rw [h2] at an
        by_cases e : n / b ^ (G - (d + 1)) = m / b ^ (G - (d + 1))
        · refine Or.inl ⟨fun j hj => ?_, e⟩
          by_cases ej : j = d
          · rw [ej, rn, rm, e]
          · exact h1 j (by omega)
        · exact Or.inr ⟨d, by omega, by omega, h1⟩
      · exact Or.inr h1
  rcases key G (Nat.le_refl _) with ⟨-, e⟩ | ⟨k, k1, k2, k3⟩
  · rw [Nat.sub_self, Nat.pow_zero, Nat.div_one, Nat.div_one] at e
    omega
  · exact ⟨k, by omega, k2, k3⟩
theorem pow_lim : ∀ b, b < 8 → ∀ g, g < 7 → b ^ g ≤ 117649 := by decide +kernel
theorem fl_rn {a b : Nat} (ha : a ≤ 1000000) (hb : b ≤ 1000) : fl_rem (a : Int) (b : Int) = ((a % b : Nat) : Int) := by
  unfold fl_rem
  rw [fl_wi (x := (a : Int)) (by omega) (by omega), fl_wi (x := (b : Int)) (by omega) (by omega)]
  rfl
theorem fl_dn {a b : Nat} (ha : a ≤ 1000000) (hb : b ≤ 1000) : fl_div (a : Int) (b : Int) = ((a / b : Nat) : Int) := by
  unfold fl_div
  rw [fl_wi (x := (a : Int)) (by omega) (by omega), fl_wi (x := (b : Int)) (by omega) (by omega)]
  rfl
theorem rc_layRow {m n : Nat} {H : fl_H} {e : Int} (hw : wf (H 95)) (hn : n ≤ 117649) (he : e = (n : Int)) : ck (cm_pg X xs) m cm_m194 [.index 94, fl_t e] H (fun r' H' => r' = none ∧ oc (fun c => c = 100) H H' ∧ rr (rwn (2 * (H 95 0).toNat + 1) (H 95 1).toNat n) H') := by
  subst he
  obtain ⟨z00, z3, z10, z6, z20, z12⟩ := id hw.1
  obtain ⟨b, hb⟩ : ∃ b : Nat, b = 2 * (H 95 0).toNat + 1 := ⟨_, rfl⟩
  obtain ⟨G, hG⟩ : ∃ G : Nat, G = (H 95 1).toNat := ⟨_, rfl⟩
  have eb : 2 * H 95 0 + 1 = (b : Int) := by omega
  have lp : ∀ (k : Nat), k ≤ G → ∀ (N : Nat) (F : fl_H), oc (fun c => c = 100) H F → (∀ g, k ≤ g → g < G → F 100 g = ((n / b ^ (G - 1 - g) % b : Nat) : Int)) → hd_GoodsBookModel_layRow_94_11 (cm_pg X xs) N F ((n / b ^ (G - k) : Nat) : Int) ((k : Int) - 1) (fun r' H' => r' = none ∧ oc (fun c => c = 100) H H' ∧ rr (rwn b G n) H') := by
    intro k
    induction k with
    | zero =>
      intro _ N F oF h
      refine vh_GoodsBookModel_layRow_94_11 ?_
      rw [fl_wi (x := ((0 : Nat) : Int) - 1) (by omega) (by omega)]
      refine ⟨fun _ => ⟨rfl, oF, fun g hg => ?_⟩, fun hh => absurd (by omega) hh⟩
      rw [oF 95 (by decide)] at hg
      unfold rwn
      rw [if_pos (by omega)]
      exact h g (by omega) (by omega)
    | succ k ih =>
      intro hk N F oF h
      have ek : ((k + 1 : Nat) : Int) - 1 = (k : Int) := by omega
      have ek2 : (k : Int) + (-1) = (k : Int) - 1 := by omega
      have e95 : F 95 = H 95 := oF 95 (by decide)
      have le : n / b ^ (G - (k + 1)) ≤ n := Nat.div_le_self _ _
      refine vh_GoodsBookModel_layRow_94_11 ?_
      rw [ek, fl_wi (x := (k : Int)) (by omega) (by omega), Int.toNat_natCast, e95, eb, fl_rn (a := n / b ^ (G - (k + 1))) (by omega) (by omega), ek2]
      refine ⟨fun hh => by omega, fun _ _ H2 e2 m1 hm1 => ?_⟩
      have o2 : oc (fun c => c = 100) H H2 := fun c hc => by rw [e2, fl_up_cell _ _ _ _ hc]; exact oF c hc
      rw [o2 95 (by decide), eb, fl_dn (a := n / b ^ (G - (k + 1))) (by omega) (by omega), Nat.div_div_eq_div_mul, ← Nat.pow_succ, show (G - (k + 1)).succ = G - k by omega]
      refine ih (by omega) m1 H2 o2 (fun g g1 g2 => ?_)
      rw [e2]
      by_cases e : g = k
      · rw [e, fl_up_at, show G - (k + 1) = G - 1 - k by omega]
      · rw [fl_up_i _ _ _ _ e]; exact h g (by omega) g2
  have := lp G (Nat.le_refl _) m H (oc_refl _ _) (fun g g1 g2 => absurd g1 (by omega))
  rw [Nat.sub_self, Nat.pow_zero, Nat.div_one, show (G : Int) - 1 = H 95 1 - 1 by omega] at this
  rw [← hb, ← hG]
  exact ve_GoodsBookModel_layRow_94 this
theorem rc_rows {m : Nat} {H : fl_H} (hw : wf (H 95)) : ck (cm_pg X xs) m cm_m193 [.index 94] H (fun r' H' => r' = some (((2 * (H 95 0).toNat + 1) ^ (H 95 1).toNat : Nat) : Int) ∧ H' = H) := by
  obtain ⟨z00, z3, z10, z6, z20, z12⟩ := id hw.1
  obtain ⟨b, hb⟩ : ∃ b : Nat, b = 2 * (H 95 0).toNat + 1 := ⟨_, rfl⟩
  obtain ⟨G, hG⟩ : ∃ G : Nat, G = (H 95 1).toNat := ⟨_, rfl⟩
  have eb : 2 * H 95 0 + 1 = (b : Int) := by omega
  have eG : H 95 1 = (G : Int) := by omega
  have lp : ∀ (f k : Nat), k + f = G → ∀ N, hd_GoodsBookModel_rows_94_4 (cm_pg X xs) N H ((b ^ k : Nat) : Int) (k : Int) (fun r' H' => r' = some ((b ^ G : Nat) : Int) ∧ H' = H) := by
    intro f
    induction f with
    | zero =>
      intro k hk N
      have e : k = G := by omega
      subst e
      refine vh_GoodsBookModel_rows_94_4 ?_
      rw [eG]
      exact ⟨fun _ => ⟨rfl, rfl⟩, fun hh => absurd (Int.le_refl _) hh⟩
    | succ f ih =>
      intro k hk N
      have ek : (k : Int) + 1 = ((k + 1 : Nat) : Int) := by omega
      refine vh_GoodsBookModel_rows_94_4 ?_
      rw [eG, fl_wi (x := (G : Int)) (by omega) (by omega), fl_wi (x := (k : Int)) (by omega) (by omega), ek, eb, ← Int.natCast_mul, ← Nat.pow_succ]
      exact ⟨fun hh => by omega, fun _ m1 _ => ih (k + 1) (by omega) m1⟩
  rw [← hb, ← hG]
  exact ve_GoodsBookModel_rows_94 (lp G 0 (by omega) m)
end
end
