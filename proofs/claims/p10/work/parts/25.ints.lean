noncomputable section
/-! LAYER 2, the ints: when an operation is that of the whole numbers. -/
theorem am_i1 (x : Int32) : -2147483648 ≤ x.toInt := by have := Int32.le_toInt x; omega
theorem am_i2 (x : Int32) : x.toInt ≤ 2147483647 := by have := Int32.toInt_lt x; omega
theorem am_bm {x : Int} (h1 : -2147483648 ≤ x) (h2 : x ≤ 2147483647) : x.bmod (2 ^ 32) = x := Int.bmod_eq_of_le (by omega) (by omega)
theorem am_add32 {x y : Int32} (h1 : -2147483648 ≤ x.toInt + y.toInt) (h2 : x.toInt + y.toInt ≤ 2147483647) : (x + y).toInt = x.toInt + y.toInt := by
  rw [Int32.toInt_add]; exact am_bm h1 h2
theorem am_sub32 {x y : Int32} (h1 : -2147483648 ≤ x.toInt - y.toInt) (h2 : x.toInt - y.toInt ≤ 2147483647) : (x - y).toInt = x.toInt - y.toInt := by
  rw [Int32.toInt_sub]; exact am_bm h1 h2
theorem am_mul32 {x y : Int32} (h1 : -2147483648 ≤ x.toInt * y.toInt) (h2 : x.toInt * y.toInt ≤ 2147483647) : (x * y).toInt = x.toInt * y.toInt := by
  rw [Int32.toInt_mul]; exact am_bm h1 h2
theorem am_neg32 {x : Int32} (h1 : x.toInt ≠ -2147483648) : (-x).toInt = -x.toInt := by
  have := am_i1 x
  have := am_i2 x
  rw [Int32.toInt_neg]; exact am_bm (by omega) (by omega)
theorem am_of32 {k : Int} (h1 : -2147483648 ≤ k) (h2 : k ≤ 2147483647) : (Int32.ofInt k).toInt = k := by
  rw [Int32.toInt_ofInt]; exact am_bm h1 h2
/-- how a comparison is one of whole numbers -/
theorem am_lt32 (x y : Int32) : (x < y) ↔ x.toInt < y.toInt := Int32.lt_iff_toInt_lt
theorem am_eq32 (x y : Int32) : x = y ↔ x.toInt = y.toInt := ⟨fun h => by rw [h], fun h => Int32.toInt.inj h⟩
/-- what a branch that is taken says: forms that are not below 0, of the difference -/
def am_cond (c : ClassFile.Cond) (d : Int) : Prop := match c with
  | .lt => d < 0
  | .ge => 0 ≤ d
  | .gt => 0 < d
  | .le => d ≤ 0
  | .eq => d = 0
  | .ne => d ≠ 0
theorem am_cb_iff (c : ClassFile.Cond) (x y : Int32) : cm_cb c x y = true ↔ am_cond c (x.toInt - y.toInt) := by
  have hl := am_lt32 x y
  have hg := am_lt32 y x
  have he := am_eq32 x y
  cases c <;> simp only [cm_cb, am_cond, decide_eq_true_eq, Bool.not_eq_true', decide_eq_false_iff_not, hl, hg, he] <;> omega
end
