noncomputable section
/-! L3, FLAT CELLS: all slots of ints as one function of the cell and the place; references never change. fl_K (printed): the cells. -/
abbrev fl_H : Type := Nat → Nat → Int
abbrev fl_t (e : Int) : Term := .int (Int32.ofInt e)
/-- an int as 32 bits hold it -/
def fl_w (x : Int) : Int := x.bmod 4294967296
theorem fl_w_toInt (x : Int) : (Int32.ofInt x).toInt = fl_w x := Int32.toInt_ofInt
theorem fl_w_id {x : Int} (h1 : -2147483648 ≤ x) (h2 : x ≤ 2147483647) : fl_w x = x := Int.bmod_eq_of_le (by omega) (by omega)
theorem fl_w_lo (x : Int) : -2147483648 ≤ fl_w x := by rw [← fl_w_toInt]; have := Int32.le_toInt (Int32.ofInt x); omega
theorem fl_w_hi (x : Int) : fl_w x ≤ 2147483647 := by rw [← fl_w_toInt]; have := Int32.toInt_lt (Int32.ofInt x); omega
theorem fl_w_w (x : Int) : fl_w (fl_w x) = fl_w x := fl_w_id (fl_w_lo x) (fl_w_hi x)
theorem fl_of_w (x : Int) : Int32.ofInt (fl_w x) = Int32.ofInt x := by
  apply Int32.toInt.inj
  rw [fl_w_toInt, fl_w_toInt, fl_w_w]
theorem fl_of_toInt (x : Int32) : Int32.ofInt x.toInt = x := by
  apply Int32.toInt.inj
  rw [fl_w_toInt]
  exact fl_w_id (by have := Int32.le_toInt x; omega) (by have := Int32.toInt_lt x; omega)
theorem fl_bm (x y : Int) (h : x.bmod 4294967296 = y.bmod 4294967296) : Int32.ofInt x = Int32.ofInt y := by
  apply Int32.toInt.inj
  rw [fl_w_toInt, fl_w_toInt]
  exact h
theorem fl_add (a b : Int) : Int32.ofInt a + Int32.ofInt b = Int32.ofInt (a + b) := by
  apply Int32.toInt.inj
  rw [Int32.toInt_add, fl_w_toInt, fl_w_toInt, fl_w_toInt]
  show (a.bmod 4294967296 + b.bmod 4294967296).bmod 4294967296 = (a + b).bmod 4294967296
  rw [Int.bmod_add_bmod, Int.add_bmod_bmod]
theorem fl_sub (a b : Int) : Int32.ofInt a - Int32.ofInt b = Int32.ofInt (a - b) := by
  apply Int32.toInt.inj
  rw [Int32.toInt_sub, fl_w_toInt, fl_w_toInt, fl_w_toInt]
  show (a.bmod 4294967296 - b.bmod 4294967296).bmod 4294967296 = (a - b).bmod 4294967296
  rw [Int.bmod_sub_bmod, Int.sub_bmod_bmod]
theorem fl_mul (a b : Int) : Int32.ofInt a * Int32.ofInt b = Int32.ofInt (a * b) := by
  apply Int32.toInt.inj
  rw [Int32.toInt_mul, fl_w_toInt, fl_w_toInt, fl_w_toInt]
  show (a.bmod 4294967296 * b.bmod 4294967296).bmod 4294967296 = (a * b).bmod 4294967296
  rw [Int.bmod_mul_bmod, Int.mul_bmod_bmod]
theorem fl_neg (a : Int) : -(Int32.ofInt a) = Int32.ofInt (-a) := by
  apply Int32.toInt.inj
  rw [Int32.toInt_neg, fl_w_toInt, fl_w_toInt]
  show (-(a.bmod 4294967296)).bmod 4294967296 = (-a).bmod 4294967296
  rw [Int.bmod_neg_bmod]
theorem fl_divE (a b : Int) : Int32.ofInt a / Int32.ofInt b = Int32.ofInt ((fl_w a).tdiv (fl_w b)) := by
  apply Int32.toInt.inj
  rw [Int32.toInt_div, fl_w_toInt, fl_w_toInt, fl_w_toInt]
  rfl
def fl_div (a b : Int) : Int := (fl_w a).tdiv (fl_w b)
def fl_rem (a b : Int) : Int := (fl_w a).tmod (fl_w b)
theorem fl_remE (a b : Int) : Int32.ofInt a - Int32.ofInt a / Int32.ofInt b * Int32.ofInt b = Int32.ofInt (fl_rem a b) := by
  rw [fl_divE, ← fl_of_w a, ← fl_of_w b, fl_mul, fl_sub]
  congr 1
  unfold fl_rem
  rw [Int.tmod_def, Int.mul_comm]
def fl_and (a b : Int) : Int := (Int32.ofInt a &&& Int32.ofInt b).toInt
def fl_or (a b : Int) : Int := (Int32.ofInt a ||| Int32.ofInt b).toInt
def fl_xor (a b : Int) : Int := (Int32.ofInt a ^^^ Int32.ofInt b).toInt
def fl_shl (a b : Int) : Int := (Int32.ofInt a <<< (Int32.ofInt b &&& 31)).toInt
def fl_shr (a b : Int) : Int := (Int32.ofInt a >>> (Int32.ofInt b &&& 31)).toInt
def fl_ushr (a b : Int) : Int := ((Int32.ofInt a).toUInt32 >>> ((Int32.ofInt b).toUInt32 &&& Int32.toUInt32 31)).toInt32.toInt
def fl_abs (a : Int) : Int := if 0 ≤ fl_w a then fl_w a else 0 - fl_w a
def fl_i2b (a : Int) : Int := (Int32.ofInt a).toInt8.toInt32.toInt
def fl_i2c (a : Int) : Int := ((Int32.ofInt a).toUInt32 % 65536).toInt32.toInt
def fl_i2s (a : Int) : Int := (Int32.ofInt a).toInt16.toInt32.toInt
/-- the elements of an array from one on -/
def fl_arr (H : fl_H) (c i : Nat) : Nat → List Term
  | 0 => []
  | n + 1 => fl_t (H c i) :: fl_arr H c (i + 1) n
theorem fl_arr_at (H : fl_H) (c : Nat) : ∀ (n i j : Nat), (fl_arr H c i n)[j]? = if j < n then some (fl_t (H c (i + j))) else none
  | 0, i, j => by simp [fl_arr]
  | n + 1, i, 0 => by simp [fl_arr]
  | n + 1, i, j + 1 => by
    have e : i + (j + 1) = i + 1 + j := by omega
    rw [e]
    show (fl_arr H c (i + 1) n)[j]? = _
    rw [fl_arr_at H c n (i + 1) j]
    by_cases h : j < n
    · rw [if_pos h, if_pos (by omega)]
    · rw [if_neg h, if_neg (by omega)]
theorem fl_arr_len (H : fl_H) (c : Nat) : ∀ (n i : Nat), (fl_arr H c i n).length = n
  | 0, _ => rfl
  | n + 1, i => by simp [fl_arr, fl_arr_len H c n (i + 1)]
/-- the fields of an object from one on -/
def fl_fld (H : fl_H) (c i : Nat) : List (Option Nat) → List Term
  | [] => []
  | none :: l => fl_t (H c i) :: fl_fld H c (i + 1) l
  | some r :: l => .index r :: fl_fld H c (i + 1) l
def fl_fv (H : fl_H) (c i : Nat) (o : Option Nat) : Term := match o with
  | none => fl_t (H c i)
  | some r => .index r
theorem fl_fld_at (H : fl_H) (c : Nat) : ∀ (l : List (Option Nat)) (i j : Nat), (fl_fld H c i l)[j]? = (l[j]?).map (fl_fv H c (i + j))
  | [], i, j => by simp [fl_fld]
  | none :: l, i, 0 => by simp [fl_fld, fl_fv]
  | some r :: l, i, 0 => by simp [fl_fld, fl_fv]
  | none :: l, i, j + 1 => by
    have e : i + (j + 1) = i + 1 + j := by omega
    rw [e]
    show (fl_fld H c (i + 1) l)[j]? = _
    rw [fl_fld_at H c l (i + 1) j]
    rfl
  | some r :: l, i, j + 1 => by
    have e : i + (j + 1) = i + 1 + j := by omega
    rw [e]
    show (fl_fld H c (i + 1) l)[j]? = _
    rw [fl_fld_at H c l (i + 1) j]
    rfl
theorem fl_fld_len (H : fl_H) (c : Nat) : ∀ (l : List (Option Nat)) (i : Nat), (fl_fld H c i l).length = l.length
  | [], _ => rfl
  | none :: l, i => by simp [fl_fld, fl_fld_len H c l (i + 1)]
  | some _ :: l, i => by simp [fl_fld, fl_fld_len H c l (i + 1)]
def fl_ty (k : Nat) : FieldType := match k with
  | 0 => .int
  | _ => .byte
def fl_cell (H : fl_H) (c : Nat) (s : fl_S) : cm_C := match s with
  | .inl (k, n) => .inl (fl_ty k, fl_arr H c 0 n)
  | .inr (ci, fs) => .inr (ci, fl_fld H c 0 fs)
def fl_mkC (H : fl_H) (c : Nat) : List fl_S → cm_H
  | [] => []
  | s :: l => fl_cell H c s :: fl_mkC H (c + 1) l
theorem fl_mkC_at (H : fl_H) : ∀ (l : List fl_S) (i j : Nat), (fl_mkC H i l)[j]? = (l[j]?).map (fl_cell H (i + j))
  | [], i, j => by simp [fl_mkC]
  | s :: l, i, 0 => by simp [fl_mkC]
  | s :: l, i, j + 1 => by
    have e : i + (j + 1) = i + 1 + j := by omega
    rw [e]
    show (fl_mkC H (i + 1) l)[j]? = _
    rw [fl_mkC_at H l (i + 1) j]
    rfl
theorem fl_mkC_len (H : fl_H) : ∀ (l : List fl_S) (i : Nat), (fl_mkC H i l).length = l.length
  | [], _ => rfl
  | s :: l, i => by simp [fl_mkC, fl_mkC_len H l (i + 1)]
def fl_mk (H : fl_H) : cm_H := fl_mkC H 0 fl_K
theorem fl_mk_at {H : fl_H} {c : Nat} {s : fl_S} (h : cm_nth fl_K c = some s) : cm_nth (fl_mk H) c = some (fl_cell H c s) := by
  rw [cm_nth_eq] at h ⊢
  unfold fl_mk
  rw [fl_mkC_at, h, Nat.zero_add]
  rfl
/-- one slot written -/
def fl_up (H : fl_H) (c i : Nat) (v : Int) : fl_H := fun d j => if d = c ∧ j = i then v else H d j
theorem fl_up_at (H : fl_H) (c i : Nat) (v : Int) : fl_up H c i v c i = v := if_pos ⟨rfl, rfl⟩
theorem fl_up_c (H : fl_H) (c i : Nat) (v : Int) {d j : Nat} (h : d ≠ c) : fl_up H c i v d j = H d j := if_neg (fun a => h a.1)
theorem fl_up_i (H : fl_H) (c i : Nat) (v : Int) {d j : Nat} (h : j ≠ i) : fl_up H c i v d j = H d j := if_neg (fun a => h a.2)
/-- cells that agree are made alike -/
theorem fl_cell_eq {H G : fl_H} {c : Nat} (h : ∀ i, H c i = G c i) (s : fl_S) : fl_cell H c s = fl_cell G c s := by
  cases s with
  | inl p =>
    obtain ⟨k, n⟩ := p
    show (Sum.inl (fl_ty k, fl_arr H c 0 n) : cm_C) = Sum.inl (fl_ty k, fl_arr G c 0 n)
    congr 2
    refine List.ext_getElem? (fun j => ?_)
    rw [fl_arr_at, fl_arr_at, h]
  | inr p =>
    obtain ⟨k, fs⟩ := p
    show (Sum.inr (k, fl_fld H c 0 fs) : cm_C) = Sum.inr (k, fl_fld G c 0 fs)
    congr 2
    refine List.ext_getElem? (fun j => ?_)
    rw [fl_fld_at, fl_fld_at]
    congr 1
    funext o
    cases o with
    | none => simp [fl_fv, h]
    | some r => rfl
/-- one cell put in -/
theorem fl_mk_set {H G : fl_H} {c : Nat} {s : fl_S} {x : cm_C} (hs : cm_nth fl_K c = some s) (hx : x = fl_cell G c s) (hg : ∀ d, d ≠ c → ∀ i, H d i = G d i) : (fl_mk H).set c x = fl_mk G := by
  rw [cm_nth_eq] at hs
  have hl : c < (fl_mk H).length := by
    unfold fl_mk
    rw [fl_mkC_len]
    exact (List.getElem?_eq_some_iff.mp hs).1
  refine List.ext_getElem? (fun j => ?_)
  by_cases hj : c = j
  · subst hj
    rw [List.getElem?_set_self hl]
    unfold fl_mk
    rw [fl_mkC_at, hs, Nat.zero_add, hx]
    rfl
  · rw [List.getElem?_set_ne hj]
    unfold fl_mk
    rw [fl_mkC_at, fl_mkC_at, Nat.zero_add]
    cases fl_K[j]? with
    | none => rfl
    | some s' =>
      show some _ = some _
      rw [fl_cell_eq (hg j (fun h => hj h.symm)) s']
theorem fl_set_arr {H : fl_H} {c i n : Nat} {v : Int} (hi : i < n) : (fl_arr H c 0 n).set i (fl_t v) = fl_arr (fl_up H c i v) c 0 n := by
  refine List.ext_getElem? (fun j => ?_)
  rw [fl_arr_at]
  by_cases hj : i = j
  · subst hj
    rw [List.getElem?_set_self (by rw [fl_arr_len]; exact hi), if_pos hi, Nat.zero_add, fl_up_at]
  · rw [List.getElem?_set_ne hj, fl_arr_at, Nat.zero_add, fl_up_i _ _ _ _ (fun h => hj h.symm)]
theorem fl_set_fld {H : fl_H} {c i : Nat} {fs : List (Option Nat)} {v : Int} (hi : fs[i]? = some none) : (fl_fld H c 0 fs).set i (fl_t v) = fl_fld (fl_up H c i v) c 0 fs := by
  have hlt : i < fs.length := (List.getElem?_eq_some_iff.mp hi).1
  refine List.ext_getElem? (fun j => ?_)
  rw [fl_fld_at]
  by_cases hj : i = j
  · subst hj
    rw [List.getElem?_set_self (by rw [fl_fld_len]; exact hlt), hi, Nat.zero_add]
    show _ = some (fl_fv (fl_up H c i v) c i none)
    simp only [fl_fv, fl_up_at]
  · rw [List.getElem?_set_ne hj, fl_fld_at, Nat.zero_add]
    congr 1
    funext o
    cases o with
    | none => simp only [fl_fv]; rw [fl_up_i _ _ _ _ (fun h => hj h.symm)]
    | some r => rfl
end
