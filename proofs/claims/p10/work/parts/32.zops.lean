noncomputable section
/-! LAYER 2, operations of longs over forms. -/
theorem am_satL {q : am_V} {f : am_L} {x : Int64} (h : x.toInt = am_ev q f) : am_sat q (2, f) (some (.long x)) := ⟨x, rfl, h⟩
theorem am_satN {q : am_V} {x : Int64} : am_sat q (3, (0, [])) (some (.long x)) := ⟨x, rfl⟩
theorem am_ev_k (q : am_V) (k : Int) : am_ev q (k, []) = k := by simp [am_ev, am_ts]
theorem am64_ushr0 {x : Int64} {y : Int32} (hy : y.toInt = 0) : ((x.toUInt64 >>> (y.toInt64.toUInt64 &&& Int64.toUInt64 63)).toInt64).toInt = x.toInt := by
  have h := (am_sh_y (n := 0) hy (by simp)).2
  have hb : ((x.toUInt64 >>> (y.toInt64.toUInt64 &&& Int64.toUInt64 63)).toInt64).toBitVec = x.toBitVec := by
    apply BitVec.eq_of_toNat_eq
    show (x.toBitVec >>> (UInt64.mod (y.toInt64.toUInt64 &&& Int64.toUInt64 63) 64).toBitVec).toNat = _
    rw [BitVec.ushiftRight_eq', BitVec.toNat_ushiftRight, h, Nat.shiftRight_zero]
  show ((x.toUInt64 >>> (y.toInt64.toUInt64 &&& Int64.toUInt64 63)).toInt64).toBitVec.toInt = x.toBitVec.toInt
  rw [hb]
def am_lshl (e : am_E) (fs : am_F) (y : am_L) (a : am_A) : am_A := match am_norm e y, a with
  | (k, []), (2, X) => (match am_z (k - 32) && (am_prove e fs (am_add 1 (2147483648, []) X) && am_prove e fs (am_add (-1) (2147483647, []) X)) with
    | true => (2, am_add 4294967296 (0, []) X)
    | false => (3, (0, [])))
  | _, _ => (3, (0, []))
theorem am_lshl_spec {q : am_V} {e : am_E} {fs : am_F} (he : am_In q e) (hfs : am_Fs q fs) {y : am_L} {a : am_A} {x : Int64} {z : Int32} (hz : z.toInt = am_ev q y) (hx : a.1 = 2 → x.toInt = am_ev q a.2) : am_sat q (am_lshl e fs y a) (some (.long (x <<< (z.toInt64 &&& 63)))) := by
  have hn := am_norm_ev he y
  unfold am_lshl
  split
  · rename_i k X hk
    have hx : x.toInt = am_ev q X := hx rfl
    rw [hk, am_ev_k] at hn
    split
    · rename_i hb
      simp only [Bool.and_eq_true] at hb
      have b1 := am_z_spec hb.1
      have b2 := am_prove_spec he hfs hb.2.1
      have b3 := am_prove_spec he hfs hb.2.2
      rw [am_add_ev, am_ev_k] at b2 b3
      refine am_satL ?_
      rw [am64_shl (by omega) (by omega) (by omega), am_add_ev, am_ev_k, hx]
      omega
    · exact am_satN
  · exact am_satN
def am_lshr (e : am_E) (y : am_L) (a : am_A) : am_A := match am_norm e y, a with
  | (k, []), (2, X) => (match am_sh8 k with
    | some n => (match am_dm e (Int.ofNat (Nat.pow 2 n)) X with
      | some (Q, _) => (2, Q)
      | none => (3, (0, [])))
    | none => (3, (0, [])))
  | _, _ => (3, (0, []))
theorem am_pow_pos (n : Nat) : (0 : Int) < Int.ofNat (Nat.pow 2 n) := Int.ofNat_lt.mpr (Nat.two_pow_pos n)
theorem am_lshr_spec {q : am_V} {e : am_E} (he : am_In q e) {y : am_L} {a : am_A} {x : Int64} {z : Int32} (hz : z.toInt = am_ev q y) (hx : a.1 = 2 → x.toInt = am_ev q a.2) : am_sat q (am_lshr e y a) (some (.long (x >>> (z.toInt64 &&& 63)))) := by
  have hn := am_norm_ev he y
  unfold am_lshr
  split
  · rename_i k X hk
    have hx : x.toInt = am_ev q X := hx rfl
    rw [hk, am_ev_k] at hn
    split
    · rename_i n hs
      obtain ⟨s1, s2⟩ := am_sh8_spec hs
      split
      · rename_i Q R hd
        have hd := am_dm_spec he (am_pow_pos n) hd
        refine am_satL ?_
        rw [am64_shr (n := n) (by omega) s2, hx]
        exact hd.2
      · exact am_satN
    · exact am_satN
  · exact am_satN
def am_lush (e : am_E) (y : am_L) (a : am_A) : am_A := match am_norm e y, a with
  | (k, []), (2, X) => (match am_sh8 k with
    | some n => (match Nat.beq n 0 with
      | true => (2, X)
      | false => match am_dm e 18446744073709551616 X with
        | some (_, U) => (match am_dm e (Int.ofNat (Nat.pow 2 n)) U with
          | some (Q, _) => (2, Q)
          | none => (3, (0, [])))
        | none => (3, (0, [])))
    | none => (3, (0, [])))
  | _, _ => (3, (0, []))
theorem am_lush_spec {q : am_V} {e : am_E} (he : am_In q e) {y : am_L} {a : am_A} {x : Int64} {z : Int32} (hz : z.toInt = am_ev q y) (hx : a.1 = 2 → x.toInt = am_ev q a.2) : am_sat q (am_lush e y a) (some (.long ((x.toUInt64 >>> (z.toInt64.toUInt64 &&& Int64.toUInt64 63)).toInt64))) := by
  have hn := am_norm_ev he y
  unfold am_lush
  split
  · rename_i k X hk
    have hx : x.toInt = am_ev q X := hx rfl
    rw [hk, am_ev_k] at hn
    split
    · rename_i n hs
      obtain ⟨s1, s2⟩ := am_sh8_spec hs
      split
      · rename_i h0
        have h0 := Nat.eq_of_beq_eq_true h0
        subst h0
        refine am_satL ?_
        rw [am64_ushr0 (by omega)]; exact hx
      · rename_i h0
        have h0 : n ≠ 0 := fun h => by rw [h] at h0; simp at h0
        split
        · rename_i V U hd1
          have hd1 := am_dm_spec he (by omega) hd1
          split
          · rename_i Q R hd2
            have hd2 := am_dm_spec he (am_pow_pos n) hd2
            refine am_satL ?_
            rw [am64_ushr (n := n) (by omega) s2 h0, hx, hd1.1]
            exact hd2.2
          · exact am_satN
        · exact am_satN
    · exact am_satN
  · exact am_satN
/-- a long by a mask -/
def am_lmk (e : am_E) (k : Int) (a : am_A) : Option am_L := match am_z (k - 255) || am_z (k - 4294967295), a with
  | true, (2, f) => (match am_dm e (k + 1) f with
    | some (_, R) => some R
    | none => none)
  | _, _ => none
theorem am_lmk_spec {q : am_V} {e : am_E} (he : am_In q e) {k : Int} {a : am_A} {R : am_L} {x y : Int64} (hy : y.toInt = k) (hx : a.1 = 2 → x.toInt = am_ev q a.2) (h : am_lmk e k a = some R) : (x &&& y).toInt = am_ev q R := by
  unfold am_lmk at h
  split at h
  · rename_i f hb
    have hx : x.toInt = am_ev q f := hx rfl
    simp only [Bool.or_eq_true] at hb
    split at h
    · rename_i V R' hd
      injection h with h
      subst h
      rcases hb with hb | hb
      · have hb := am_z_spec hb
        have hk : k + 1 = 256 := by omega
        rw [hk] at hd
        have hd := am_dm_spec he (by omega) hd
        rw [am64_mask (j := 8) (by omega) (by rw [hy]; show k = 256 - 1; omega), hx]
        exact hd.1
      · have hb := am_z_spec hb
        have hk : k + 1 = 4294967296 := by omega
        rw [hk] at hd
        have hd := am_dm_spec he (by omega) hd
        rw [am64_mask (j := 32) (by omega) (by rw [hy]; show k = 4294967296 - 1; omega), hx]
        exact hd.1
    · simp at h
  · simp at h
/-- parts that do not meet -/
def am_lorB (e : am_E) (X Y : am_L) : Bool := (match am_dm e 4294967296 X with
  | some (_, (k, [])) => am_z k
  | _ => false) && (am_nn (Y.1 + am_lo e Y.2) && am_nn (4294967295 - (Y.1 + am_hi e Y.2)))
theorem am_lorB_spec {q : am_V} {e : am_E} (he : am_In q e) {X Y : am_L} {x y : Int64} (hx : x.toInt = am_ev q X) (hy : y.toInt = am_ev q Y) (h : am_lorB e X Y = true) : (x ||| y).toInt = am_ev q (am_add 1 X Y) := by
  simp only [am_lorB, Bool.and_eq_true] at h
  obtain ⟨h1, h2, h3⟩ := h
  have h2 := am_nn_spec h2
  have h3 := am_nn_spec h3
  have l1 := am_lo_le he Y.2
  have l2 := am_hi_le he Y.2
  have hev : am_ev q Y = Y.1 + am_ts q Y.2 := rfl
  split at h1
  · rename_i V k hd
    have hd := am_dm_spec he (by omega) hd
    rw [am_ev_k, am_z_spec h1] at hd
    rw [am64_or (by rw [hx]; exact hd.1) (by omega) (by omega), am_add_ev, hx, hy]
    omega
  · simp at h1
end
