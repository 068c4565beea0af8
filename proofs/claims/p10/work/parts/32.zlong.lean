noncomputable section
/-! LAYER 2, longs as forms: masks, shifts, sums of parts. -/
theorem am64_nat (x : Int64) : (x.toBitVec.toNat : Int) = x.toInt % 18446744073709551616 := by
  have h1 := x.toBitVec.isLt
  have h2 : x.toInt = x.toBitVec.toInt := rfl
  rw [h2, BitVec.toInt_eq_toNat_cond]
  split <;> omega
theorem am64_of (z : Int64) {n : Nat} (h : z.toBitVec.toNat = n) (hn : n < 9223372036854775808) : z.toInt = (n : Int) := by
  have h2 : z.toInt = z.toBitVec.toInt := rfl
  rw [h2, BitVec.toInt_eq_toNat_cond, h, if_pos (by omega)]
theorem am64_dvd {j : Nat} (hj : j ≤ 64) : ((2 ^ j : Nat) : Int) ∣ 18446744073709551616 := by
  have h : (18446744073709551616 : Int) = ((2 ^ 64 : Nat) : Int) := by decide
  rw [h]
  exact Int.natCast_dvd_natCast.mpr (Nat.pow_dvd_pow 2 hj)
/-- a mask of the lowest bits -/
theorem am64_mask {x y : Int64} {j : Nat} (hj : j ≤ 62) (hy : y.toInt = ((2 ^ j : Nat) : Int) - 1) : (x &&& y).toInt = x.toInt % ((2 ^ j : Nat) : Int) := by
  have hp : 2 ^ j ≤ 2 ^ 62 := Nat.pow_le_pow_right (by omega) hj
  have hpos : 0 < 2 ^ j := Nat.two_pow_pos j
  have hyn : y.toBitVec.toNat = 2 ^ j - 1 := by
    have h1 := am64_nat y
    rw [hy] at h1
    generalize 2 ^ j = p at h1 hp hpos ⊢
    rw [Int.emod_eq_of_lt (by omega) (by omega)] at h1
    omega
  have hb : (x &&& y).toBitVec.toNat = x.toBitVec.toNat % 2 ^ j := by
    rw [Int64.toBitVec_and, BitVec.toNat_and, hyn, Nat.and_two_pow_sub_one_eq_mod]
  have hlt := Nat.mod_lt x.toBitVec.toNat hpos
  rw [am64_of _ hb (by omega), Int.natCast_emod, am64_nat x]
  exact Int.emod_emod_of_dvd _ (am64_dvd (by omega))
/-- the amounts of shifts that are taken -/
def am_sh8 (k : Int) : Option Nat := match k with
  | 0 => some 0
  | 8 => some 8
  | 16 => some 16
  | 24 => some 24
  | 32 => some 32
  | 40 => some 40
  | 48 => some 48
  | 56 => some 56
  | _ => none
theorem am_sh8_spec {k : Int} {n : Nat} (h : am_sh8 k = some n) : k = (n : Int) ∧ (n = 0 ∨ n = 8 ∨ n = 16 ∨ n = 24 ∨ n = 32 ∨ n = 40 ∨ n = 48 ∨ n = 56) := by
  unfold am_sh8 at h
  split at h <;> first | (injection h with h; subst h; simp) | simp at h
theorem am_sh_y {y : Int32} {n : Nat} (hy : y.toInt = (n : Int)) (hn : n = 0 ∨ n = 8 ∨ n = 16 ∨ n = 24 ∨ n = 32 ∨ n = 40 ∨ n = 48 ∨ n = 56) : ((y.toInt64 &&& 63).toBitVec.smod 64).toNat = n ∧ (UInt64.mod (y.toInt64.toUInt64 &&& Int64.toUInt64 63) 64).toBitVec.toNat = n := by
  have e : ∀ z : Int32, z.toInt = (n : Int) → y = z := fun z hz => (am_eq32 y z).mpr (by rw [hy, hz])
  rcases hn with h | h | h | h | h | h | h | h <;> subst h
  · rw [e 0 rfl]; decide
  · rw [e 8 rfl]; decide
  · rw [e 16 rfl]; decide
  · rw [e 24 rfl]; decide
  · rw [e 32 rfl]; decide
  · rw [e 40 rfl]; decide
  · rw [e 48 rfl]; decide
  · rw [e 56 rfl]; decide
theorem am64_shr {x : Int64} {y : Int32} {n : Nat} (hy : y.toInt = (n : Int)) (hn : n = 0 ∨ n = 8 ∨ n = 16 ∨ n = 24 ∨ n = 32 ∨ n = 40 ∨ n = 48 ∨ n = 56) : (x >>> (y.toInt64 &&& 63)).toInt = x.toInt / ((2 ^ n : Nat) : Int) := by
  have h := (am_sh_y hy hn).1
  show (x.toBitVec.sshiftRight' ((y.toInt64 &&& 63).toBitVec.smod 64)).toInt = _
  rw [BitVec.sshiftRight_eq', h, BitVec.toInt_sshiftRight, Int.shiftRight_eq_div_pow]
  rfl
theorem am64_ushr {x : Int64} {y : Int32} {n : Nat} (hy : y.toInt = (n : Int)) (hn : n = 0 ∨ n = 8 ∨ n = 16 ∨ n = 24 ∨ n = 32 ∨ n = 40 ∨ n = 48 ∨ n = 56) (h0 : n ≠ 0) : ((x.toUInt64 >>> (y.toInt64.toUInt64 &&& Int64.toUInt64 63)).toInt64).toInt = (x.toInt % 18446744073709551616) / ((2 ^ n : Nat) : Int) := by
  have h := (am_sh_y hy hn).2
  have hb : ((x.toUInt64 >>> (y.toInt64.toUInt64 &&& Int64.toUInt64 63)).toInt64).toBitVec.toNat = x.toBitVec.toNat / 2 ^ n := by
    show (x.toBitVec >>> (UInt64.mod (y.toInt64.toUInt64 &&& Int64.toUInt64 63) 64).toBitVec).toNat = _
    rw [BitVec.ushiftRight_eq', BitVec.toNat_ushiftRight, h, Nat.shiftRight_eq_div_pow]
  have hlt := x.toBitVec.isLt
  have h8 : 8 ≤ n := by omega
  have hp : 2 ^ 8 ≤ 2 ^ n := Nat.pow_le_pow_right (by omega) h8
  have hd : x.toBitVec.toNat / 2 ^ n < 9223372036854775808 := by
    refine Nat.lt_of_le_of_lt (Nat.div_le_div_left hp (by omega)) ?_
    omega
  rw [am64_of _ hb hd, Int.natCast_ediv, am64_nat x]
theorem am64_shl {x : Int64} {y : Int32} (hy : y.toInt = 32) (h1 : -2147483648 ≤ x.toInt) (h2 : x.toInt ≤ 2147483647) : (x <<< (y.toInt64 &&& 63)).toInt = 4294967296 * x.toInt := by
  have h := (am_sh_y (n := 32) hy (by simp)).1
  have hb : (x <<< (y.toInt64 &&& 63)).toBitVec.toNat = x.toBitVec.toNat <<< 32 % 2 ^ 64 := by
    show (x.toBitVec <<< ((y.toInt64 &&& 63).toBitVec.smod 64)).toNat = _
    rw [BitVec.shiftLeft_eq', h, BitVec.toNat_shiftLeft]
  have hz := am64_nat (x <<< (y.toInt64 &&& 63))
  have hx := am64_nat x
  rw [hb, Nat.shiftLeft_eq] at hz
  have hr : ∀ z : Int64, -9223372036854775808 ≤ z.toInt ∧ z.toInt ≤ 9223372036854775807 := fun z => by
    have g1 := z.toBitVec.isLt
    have g2 : z.toInt = z.toBitVec.toInt := rfl
    rw [g2, BitVec.toInt_eq_toNat_cond]
    split <;> omega
  have hr := hr (x <<< (y.toInt64 &&& 63))
  generalize (x <<< (y.toInt64 &&& 63)).toInt = z at hz hr ⊢
  omega
/-- parts that do not meet -/
theorem am64_or {x y : Int64} (hx : x.toInt % 4294967296 = 0) (h1 : 0 ≤ y.toInt) (h2 : y.toInt < 4294967296) : (x ||| y).toInt = x.toInt + y.toInt := by
  have nx := am64_nat x
  have ny := am64_nat y
  have hyn : y.toBitVec.toNat < 2 ^ 32 := by omega
  have hxn : x.toBitVec.toNat = (x.toBitVec.toNat / 2 ^ 32) <<< 32 := by rw [Nat.shiftLeft_eq]; omega
  have hb : (x ||| y).toBitVec.toNat = x.toBitVec.toNat + y.toBitVec.toNat := by
    rw [Int64.toBitVec_or, BitVec.toNat_or]
    rw [hxn, ← Nat.shiftLeft_add_eq_or_of_lt hyn]
  have nz := am64_nat (x ||| y)
  rw [hb] at nz
  have hr : ∀ z : Int64, -9223372036854775808 ≤ z.toInt ∧ z.toInt ≤ 9223372036854775807 := fun z => by
    have g1 := z.toBitVec.isLt
    have g2 : z.toInt = z.toBitVec.toInt := rfl
    rw [g2, BitVec.toInt_eq_toNat_cond]
    split <;> omega
  have rx := hr x
  have rz := hr (x ||| y)
  generalize (x ||| y).toInt = z at nz rz ⊢
  omega
theorem am64_low {x : Int64} : ∃ m : Int, (m = 0 ∨ m = 1) ∧ x.toInt32.toInt = x.toInt % 4294967296 - 4294967296 * m := by
  rw [Int64.toInt_toInt32]
  by_cases h : x.toInt % 4294967296 < 2147483648
  · refine ⟨0, Or.inl rfl, ?_⟩
    rw [Int.bmod_def, if_pos (by omega)]; omega
  · refine ⟨1, Or.inr rfl, ?_⟩
    rw [Int.bmod_def, if_neg (by omega)]; omega
/-- an int in four bytes -/
theorem am32_bytes (x : Int32) : ∃ b0 b1 b2 b3 m : Int, (0 ≤ b0 ∧ b0 ≤ 255) ∧ (0 ≤ b1 ∧ b1 ≤ 255) ∧ (0 ≤ b2 ∧ b2 ≤ 255) ∧ (0 ≤ b3 ∧ b3 ≤ 255) ∧ (0 ≤ m ∧ m ≤ 1) ∧ x.toInt = b0 + 256 * b1 + 65536 * b2 + 16777216 * b3 - 4294967296 * m := by
  have h1 := x.toBitVec.isLt
  have h2 : x.toInt = x.toBitVec.toInt := rfl
  rw [h2, BitVec.toInt_eq_toNat_cond]
  generalize x.toBitVec.toNat = u at h1 ⊢
  by_cases h : 2 * u < 2 ^ 32
  · refine ⟨(u % 256 : Nat), (u / 256 % 256 : Nat), (u / 65536 % 256 : Nat), (u / 16777216 : Nat), 0, ?_⟩
    rw [if_pos h]; omega
  · refine ⟨(u % 256 : Nat), (u / 256 % 256 : Nat), (u / 65536 % 256 : Nat), (u / 16777216 : Nat), 1, ?_⟩
    rw [if_neg h]; omega
end
