noncomputable section
/-! LAYER 2, forms by a number: quotients and remainders that can be seen; a mask of a byte. -/
theorem am32_mask {x y : Int32} (hy : y.toInt = 255) : (x &&& y).toInt = x.toInt % 256 := by
  have e : y = 255 := (am_eq32 y 255).mpr (by rw [hy]; rfl)
  subst e
  have hb : (x &&& 255).toBitVec.toNat = x.toBitVec.toNat % 256 := by
    rw [Int32.toBitVec_and, BitVec.toNat_and]
    exact Nat.and_two_pow_sub_one_eq_mod _ 8
  have h1 : (x &&& 255).toInt = (x &&& 255).toBitVec.toInt := rfl
  have h2 : x.toInt = x.toBitVec.toInt := rfl
  have hlt := x.toBitVec.isLt
  rw [h1, h2, BitVec.toInt_eq_toNat_cond, BitVec.toInt_eq_toNat_cond, hb, if_pos (by omega)]
  split <;> omega
/-- a form by M: quotient and remainder, if the rest can be seen to be one -/
def am_dm (e : am_E) (M : Int) (f : am_L) : Option (am_L × am_L) := match am_part M f.2 with
  | (q, t) => match am_nn (f.1 % M + am_lo e t) && am_nn (M - 1 - (f.1 % M + am_hi e t)) with
    | true => some ((f.1 / M, q), (f.1 % M, t))
    | false => none
theorem am_dm_spec {r : am_V} {e : am_E} (h : am_In r e) {M : Int} (hM : 0 < M) {f Q R : am_L} (hd : am_dm e M f = some (Q, R)) : am_ev r f % M = am_ev r R ∧ am_ev r f / M = am_ev r Q := by
  have hp := am_part_spec r M f.2
  unfold am_dm at hd
  generalize am_part M f.2 = qt at hp hd
  obtain ⟨q, t⟩ := qt
  simp only [] at hd hp
  split at hd
  · rename_i hb
    simp only [Bool.and_eq_true] at hb
    have h1 := am_nn_spec hb.1
    have h2 := am_nn_spec hb.2
    have h3 := am_lo_le h t
    have h4 := am_hi_le h t
    injection hd with hd
    injection hd with hq hr
    subst hq; subst hr
    simp only [am_ev]
    have hf : f.1 = M * (f.1 / M) + f.1 % M := (Int.mul_ediv_add_emod f.1 M).symm
    have he : f.1 + am_ts r f.2 = (f.1 % M + am_ts r t) + M * (f.1 / M + am_ts r q) := by
      rw [hp, Int.mul_add]; omega
    constructor
    · rw [he, Int.add_mul_emod_self_left]
      exact Int.emod_eq_of_lt (by omega) (by omega)
    · rw [he, Int.add_mul_ediv_left _ _ (by omega), Int.ediv_eq_zero_of_lt (by omega) (by omega)]
      omega
  · simp at hd
end
