noncomputable section
/-! L3: how many bits are set. -/
section
variable {X : Term} {xs : List Int32}
theorem fn_uk : ∀ b : Nat, b < 32 → ((((Int32.ofInt (b : Int)).toUInt32 &&& Int32.toUInt32 31).toBitVec % 32).toNat) = b := by decide
theorem fn_ushr {a b : Nat} (ha : a < 2147483648) (hb : b < 32) : fl_ushr (a : Int) (b : Int) = ((a >>> b : Nat) : Int) := by
  refine fn_int (v := ((Int32.ofInt (a : Int)).toUInt32 >>> ((Int32.ofInt (b : Int)).toUInt32 &&& Int32.toUInt32 31)).toBitVec) ?_ (Nat.lt_of_le_of_lt (Nat.shiftRight_le a b) ha)
  rw [UInt32.toBitVec_shiftRight, BitVec.ushiftRight_eq', BitVec.toNat_ushiftRight, fn_uk b hb]
  show (Int32.ofInt (a : Int)).toBitVec.toNat >>> b = a >>> b
  rw [fn_bv, BitVec.toNat_ofNat, Nat.mod_eq_of_lt (by omega)]
def bn1 (v : Nat) : Nat := v - ((v >>> 1) &&& 1431655765)
def bn2 (v : Nat) : Nat := (v &&& 858993459) + ((v >>> 2) &&& 858993459)
def bn3 (v : Nat) : Nat := (v + (v >>> 4)) &&& 252645135
def bn4 (v : Nat) : Nat := v + (v >>> 8)
def bn5 (v : Nat) : Nat := v + (v >>> 16)
def pnb (v : Nat) : Nat → Nat
  | 0 => 0
  | k + 1 => pnb v k + v / 2 ^ k % 2
theorem and_by (p q m k : Nat) (hq : q < 256) (hk : k < 256) : (256 * p + q) &&& (256 * m + k) = 256 * (p &&& m) + (q &&& k) := by
  apply Nat.eq_of_testBit_eq
  intro i
  have h1 : (256 * p + q).testBit i = if i < 8 then q.testBit i else p.testBit (i - 8) := Nat.testBit_two_pow_mul_add (i := 8) p (by omega) i
  have h2 : (256 * m + k).testBit i = if i < 8 then k.testBit i else m.testBit (i - 8) := Nat.testBit_two_pow_mul_add (i := 8) m (by omega) i
  have h3 : (256 * (p &&& m) + (q &&& k)).testBit i = if i < 8 then (q &&& k).testBit i else (p &&& m).testBit (i - 8) := Nat.testBit_two_pow_mul_add (i := 8) (p &&& m) (Nat.lt_of_le_of_lt Nat.and_le_left (by omega)) i
  rw [Nat.testBit_and, h1, h2, h3]
  by_cases c : i < 8
  · rw [if_pos c, if_pos c, if_pos c, Nat.testBit_and]
  · rw [if_neg c, if_neg c, if_neg c, Nat.testBit_and]
def by1 (x : Nat) : Nat := x - ((x / 2) &&& 85)
def by2 (x : Nat) : Nat := (x &&& 51) + ((x / 4) &&& 51)
def by3 (x : Nat) : Nat := (x + x / 16) % 16
theorem by_t : (∀ x, x < 256 → x &&& 5592405 = x &&& 85 ∧ x &&& 3355443 = x &&& 51 ∧ x &&& 986895 = x % 16) := by decide +kernel
theorem by_u : (∀ e, e < 2 → ∀ y, y < 128 → (128 * e + y) &&& 85 = y &&& 85) ∧ (∀ e, e < 4 → ∀ y, y < 64 → (64 * e + y) &&& 51 = y &&& 51) := by decide +kernel
theorem by_v : ∀ x, x < 256 → by1 x < 256 ∧ by2 (by1 x) ≤ 68 ∧ by2 (by1 x) % 16 ≤ 4 ∧ by3 (by2 (by1 x)) = pnb x 8 ∧ pnb x 8 ≤ 8 := by decide +kernel
theorem by_1 {a b : Nat} (ha : a < 256) (hb : b < 256) : bn1 (256 * a + b) = 256 * by1 a + by1 b := by
  have e : (256 * a + b) >>> 1 = 256 * (a / 2) + (128 * (a % 2) + b / 2) := by
    rw [Nat.shiftRight_eq_div_pow]; omega
  unfold bn1 by1
  rw [e, show (1431655765 : Nat) = 256 * 5592405 + 85 from rfl, and_by _ _ _ _ (by omega) (by decide), (by_t (a / 2) (by omega)).1, by_u.1 (a % 2) (by omega) (b / 2) (by omega)]
  have h1 : (a / 2) &&& 85 ≤ a / 2 := Nat.and_le_left
  have h2 : (b / 2) &&& 85 ≤ b / 2 := Nat.and_le_left
  omega
theorem by_2 {a b : Nat} (ha : a < 256) (hb : b < 256) : bn2 (256 * a + b) = 256 * by2 a + by2 b := by
  have e : (256 * a + b) >>> 2 = 256 * (a / 4) + (64 * (a % 4) + b / 4) := by
    rw [Nat.shiftRight_eq_div_pow]; omega
  unfold bn2 by2
  rw [e, show (858993459 : Nat) = 256 * 3355443 + 51 from rfl, and_by _ _ _ _ (by omega) (by decide), and_by _ _ _ _ (by omega) (by decide), (by_t a ha).2.1, (by_t (a / 4) (by omega)).2.1, by_u.2 (a % 4) (by omega) (b / 4) (by omega)]
  omega
theorem by_3 {a b : Nat} (ha : a ≤ 68) (ha' : a % 16 ≤ 4) (hb : b ≤ 68) : bn3 (256 * a + b) = 256 * by3 a + by3 b := by
  have e : 256 * a + b + (256 * a + b) >>> 4 = 256 * (a + a / 16) + (b + b / 16 + 16 * (a % 16)) := by
    rw [Nat.shiftRight_eq_div_pow]; omega
  have h15 : (15 : Nat) = 2 ^ 4 - 1 := rfl
  unfold bn3 by3
  rw [e, show (252645135 : Nat) = 256 * 986895 + 15 from rfl, and_by _ _ _ _ (by omega) (by decide), (by_t (a + a / 16) (by omega)).2.2, h15, Nat.and_two_pow_sub_one_eq_mod]
  omega
theorem by_p {a b : Nat} (hb : b < 256) : pnb (256 * a + b) 16 = pnb a 8 + pnb b 8 := by
  simp only [pnb]
  have q0 : (256 * a + b) / 2 ^ 0 % 2 = b / 2 ^ 0 % 2 := by omega
  have q1 : (256 * a + b) / 2 ^ 1 % 2 = b / 2 ^ 1 % 2 := by omega
  have q2 : (256 * a + b) / 2 ^ 2 % 2 = b / 2 ^ 2 % 2 := by omega
  have q3 : (256 * a + b) / 2 ^ 3 % 2 = b / 2 ^ 3 % 2 := by omega
  have q4 : (256 * a + b) / 2 ^ 4 % 2 = b / 2 ^ 4 % 2 := by omega
  have q5 : (256 * a + b) / 2 ^ 5 % 2 = b / 2 ^ 5 % 2 := by omega
  have q6 : (256 * a + b) / 2 ^ 6 % 2 = b / 2 ^ 6 % 2 := by omega
  have q7 : (256 * a + b) / 2 ^ 7 % 2 = b / 2 ^ 7 % 2 := by omega
  have q8 : (256 * a + b) / 2 ^ 8 % 2 = a / 2 ^ 0 % 2 := by omega
  have q9 : (256 * a + b) / 2 ^ 9 % 2 = a / 2 ^ 1 % 2 := by omega
  have q10 : (256 * a + b) / 2 ^ 10 % 2 = a / 2 ^ 2 % 2 := by omega
  have q11 : (256 * a + b) / 2 ^ 11 % 2 = a / 2 ^ 3 % 2 := by omega
  have q12 : (256 * a + b) / 2 ^ 12 % 2 = a / 2 ^ 4 % 2 := by omega
  have q13 : (256 * a + b) / 2 ^ 13 % 2 = a / 2 ^ 5 % 2 := by omega
  have q14 : (256 * a + b) / 2 ^ 14 % 2 = a / 2 ^ 6 % 2 := by omega
  have q15 : (256 * a + b) / 2 ^ 15 % 2 = a / 2 ^ 7 % 2 := by omega
  rw [q0, q1, q2, q3, q4, q5, q6, q7, q8, q9, q10, q11, q12, q13, q14, q15]
  generalize a / 2 ^ 0 % 2 = a0
  generalize a / 2 ^ 1 % 2 = a1
  generalize a / 2 ^ 2 % 2 = a2
  generalize a / 2 ^ 3 % 2 = a3
  generalize a / 2 ^ 4 % 2 = a4
  generalize a / 2 ^ 5 % 2 = a5
  generalize a / 2 ^ 6 % 2 = a6
  generalize a / 2 ^ 7 % 2 = a7
  omega
theorem bn_all {a b : Nat} (ha : a < 256) (hb : b < 256) : bn5 (bn4 (bn3 (bn2 (bn1 (256 * a + b))))) &&& 63 = pnb (256 * a + b) 16 := by
  obtain ⟨a1, a2, a3, a4, a5⟩ := by_v a ha
  obtain ⟨b1, b2, b3, b4, b5⟩ := by_v b hb
  have h63 : (63 : Nat) = 2 ^ 6 - 1 := rfl
  rw [by_1 ha hb, by_2 a1 b1, by_3 a2 a3 b2, a4, b4, by_p hb]
  unfold bn5 bn4
  rw [h63, Nat.and_two_pow_sub_one_eq_mod, Nat.shiftRight_eq_div_pow, Nat.shiftRight_eq_div_pow]
  generalize pnb a 8 = h at a5 ⊢
  generalize pnb b 8 = l at b5 ⊢
  have e1 : (256 * h + l) / 2 ^ 8 = h := by omega
  rw [e1]
  have e2 : (256 * h + l + h) / 2 ^ 16 = 0 := by omega
  rw [e2]
  omega
theorem pnb_pop (v : Nat) : ∀ n : Nat, psm (fun i => if v.testBit i then 1 else 0) n = ((pnb v n : Nat) : Int)
  | 0 => rfl
  | n + 1 => by
    show psm (fun i => if v.testBit i then 1 else 0) n + (if v.testBit n then 1 else 0) = ((pnb v n + v / 2 ^ n % 2 : Nat) : Int)
    rw [pnb_pop v n, Nat.testBit_eq_decide_div_mod_eq]
    have : v / 2 ^ n % 2 < 2 := Nat.mod_lt _ (by decide)
    by_cases h : v / 2 ^ n % 2 = 1
    · rw [if_pos (by simp [h])]; omega
    · rw [if_neg (by simp [h])]; omega
theorem bn_pop {v : Nat} (h : v < 65536) : ((bn5 (bn4 (bn3 (bn2 (bn1 v)))) &&& 63 : Nat) : Int) = pop v := by
  have k := bn_all (a := v / 256) (b := v % 256) (by omega) (by omega)
  have e : 256 * (v / 256) + v % 256 = v := Nat.div_add_mod v 256
  rw [e] at k
  unfold pop
  rw [pnb_pop, k]
theorem fn_count {m v : Nat} {H : fl_H} (hv : v < 65536) : ck (cm_pg X xs) m cm_m242 [fl_t (v : Int)] H (fun r H' => r = some (pop v) ∧ H' = H) := by
  have s1 : v >>> 1 ≤ v := Nat.shiftRight_le v 1
  have a1 : (v >>> 1) &&& 1431655765 ≤ v >>> 1 := Nat.and_le_left
  have e1 : (v : Int) - fl_and (fl_ushr (v : Int) 1) 1431655765 = ((bn1 v : Nat) : Int) := by
    rw [show fl_ushr (v : Int) 1 = ((v >>> 1 : Nat) : Int) from fn_ushr (b := 1) (by omega) (by omega), show fl_and ((v >>> 1 : Nat) : Int) 1431655765 = (((v >>> 1) &&& 1431655765 : Nat) : Int) from fn_and (b := 1431655765) (by omega) (by omega)]
    unfold bn1
    omega
  have b1 : bn1 v < 65536 := by unfold bn1; omega
  have s2 : bn1 v >>> 2 ≤ bn1 v := Nat.shiftRight_le _ 2
  have a2 : bn1 v &&& 858993459 ≤ bn1 v := Nat.and_le_left
  have a2' : (bn1 v >>> 2) &&& 858993459 ≤ bn1 v >>> 2 := Nat.and_le_left
  have e2 : fl_and ((bn1 v : Nat) : Int) 858993459 + fl_and (fl_ushr ((bn1 v : Nat) : Int) 2) 858993459 = ((bn2 (bn1 v) : Nat) : Int) := by
    rw [show fl_ushr ((bn1 v : Nat) : Int) 2 = ((bn1 v >>> 2 : Nat) : Int) from fn_ushr (b := 2) (by omega) (by omega), show fl_and ((bn1 v >>> 2 : Nat) : Int) 858993459 = (((bn1 v >>> 2) &&& 858993459 : Nat) : Int) from fn_and (b := 858993459) (by omega) (by omega), show fl_and ((bn1 v : Nat) : Int) 858993459 = ((bn1 v &&& 858993459 : Nat) : Int) from fn_and (b := 858993459) (by omega) (by omega)]
    unfold bn2
    omega
  have b2 : bn2 (bn1 v) < 131072 := by unfold bn2; omega
  have s3 : bn2 (bn1 v) >>> 4 ≤ bn2 (bn1 v) := Nat.shiftRight_le _ 4
  have e3 : fl_and (((bn2 (bn1 v) : Nat) : Int) + fl_ushr ((bn2 (bn1 v) : Nat) : Int) 4) 252645135 = ((bn3 (bn2 (bn1 v)) : Nat) : Int) := by
    rw [show fl_ushr ((bn2 (bn1 v) : Nat) : Int) 4 = ((bn2 (bn1 v) >>> 4 : Nat) : Int) from fn_ushr (b := 4) (by omega) (by omega), ← Int.natCast_add]
    exact fn_and (b := 252645135) (by omega) (by omega)
  have a3 : bn3 (bn2 (bn1 v)) ≤ bn2 (bn1 v) + (bn2 (bn1 v) >>> 4) := by unfold bn3; exact Nat.and_le_left
  have s4 : bn3 (bn2 (bn1 v)) >>> 8 ≤ bn3 (bn2 (bn1 v)) := Nat.shiftRight_le _ 8
  have e4 : ((bn3 (bn2 (bn1 v)) : Nat) : Int) + fl_ushr ((bn3 (bn2 (bn1 v)) : Nat) : Int) 8 = ((bn4 (bn3 (bn2 (bn1 v))) : Nat) : Int) := by
    rw [show fl_ushr ((bn3 (bn2 (bn1 v)) : Nat) : Int) 8 = ((bn3 (bn2 (bn1 v)) >>> 8 : Nat) : Int) from fn_ushr (b := 8) (by omega) (by omega), ← Int.natCast_add]
    rfl
  have b4 : bn4 (bn3 (bn2 (bn1 v))) ≤ 2 * bn3 (bn2 (bn1 v)) := by unfold bn4; omega
  have s5 : bn4 (bn3 (bn2 (bn1 v))) >>> 16 ≤ bn4 (bn3 (bn2 (bn1 v))) := Nat.shiftRight_le _ 16
  have e5 : ((bn4 (bn3 (bn2 (bn1 v))) : Nat) : Int) + fl_ushr ((bn4 (bn3 (bn2 (bn1 v))) : Nat) : Int) 16 = ((bn5 (bn4 (bn3 (bn2 (bn1 v)))) : Nat) : Int) := by
    rw [show fl_ushr ((bn4 (bn3 (bn2 (bn1 v))) : Nat) : Int) 16 = ((bn4 (bn3 (bn2 (bn1 v))) >>> 16 : Nat) : Int) from fn_ushr (b := 16) (by omega) (by omega), ← Int.natCast_add]
    rfl
  have b5 : bn5 (bn4 (bn3 (bn2 (bn1 v)))) ≤ 2 * bn4 (bn3 (bn2 (bn1 v))) := by unfold bn5; omega
  refine ve_Integer_bitCount ?_
  rw [e1, e2, e3, e4, e5, show fl_and ((bn5 (bn4 (bn3 (bn2 (bn1 v)))) : Nat) : Int) 63 = ((bn5 (bn4 (bn3 (bn2 (bn1 v)))) &&& 63 : Nat) : Int) from fn_and (b := 63) (by omega) (by omega), bn_pop hv]
  exact ⟨rfl, rfl⟩
end
end
