noncomputable section
/-! L3: more longs; the script. -/
section
variable {P : cm_G} {N : Nat} {mr : cm_M} {pc np : Nat} {rs : List Nat} {lv : cm_Lv} {st : List Term} {H : fl_H} {Q : Option Int → fl_H → Prop} {a b e : Int}
/-- operations on longs, as integers -/
def fl_land (a b : Int) : Int := (Int64.ofInt a &&& Int64.ofInt b).toInt
def fl_lor (a b : Int) : Int := (Int64.ofInt a ||| Int64.ofInt b).toInt
def fl_lshl (a b : Int) : Int := (Int64.ofInt a <<< ((Int32.ofInt b).toInt64 &&& 63)).toInt
def fl_lshr (a b : Int) : Int := (Int64.ofInt a >>> ((Int32.ofInt b).toInt64 &&& 63)).toInt
def fl_lushr (a b : Int) : Int := ((Int64.ofInt a).toUInt64 >>> ((Int32.ofInt b).toInt64.toUInt64 &&& Int64.toUInt64 63)).toInt64.toInt
def fl_l2i (a : Int) : Int := (Int64.ofInt a).toInt32.toInt
theorem fl_lr64 (x : Int64) : fl_lr x.toInt := ⟨Int64.le_toInt x, by have := Int64.toInt_lt x; omega⟩
theorem fl_lr_land (a b : Int) : fl_lr (fl_land a b) := fl_lr64 _
theorem fl_lr_lor (a b : Int) : fl_lr (fl_lor a b) := fl_lr64 _
theorem fl_lr_lshl (a b : Int) : fl_lr (fl_lshl a b) := fl_lr64 _
theorem fl_lr_lshr (a b : Int) : fl_lr (fl_lshr a b) := fl_lr64 _
theorem fl_lr_lushr (a b : Int) : fl_lr (fl_lushr a b) := fl_lr64 _
theorem vt_land (hat : cm_at mr.1 pc = some (.land, np, rs)) (k : vt P N mr np lv (fl_l (fl_land a b) :: st) H Q) : vt P N mr pc lv (fl_l b :: fl_l a :: st) H Q :=
  vt_go (fun ih d => by simp only [cm_step, hat, cm_twoL, fl_land, fl_l, Int64.ofInt_toInt]) k
theorem vt_lor (hat : cm_at mr.1 pc = some (.lor, np, rs)) (k : vt P N mr np lv (fl_l (fl_lor a b) :: st) H Q) : vt P N mr pc lv (fl_l b :: fl_l a :: st) H Q :=
  vt_go (fun ih d => by simp only [cm_step, hat, cm_twoL, fl_lor, fl_l, Int64.ofInt_toInt]) k
theorem vt_lshl (hat : cm_at mr.1 pc = some (.lshl, np, rs)) (k : vt P N mr np lv (fl_l (fl_lshl a b) :: st) H Q) : vt P N mr pc lv (fl_t b :: fl_l a :: st) H Q :=
  vt_go (fun ih d => by simp only [cm_step, hat, cm_twoM, fl_lshl, fl_l, Int64.ofInt_toInt]) k
theorem vt_lshr (hat : cm_at mr.1 pc = some (.lshr, np, rs)) (k : vt P N mr np lv (fl_l (fl_lshr a b) :: st) H Q) : vt P N mr pc lv (fl_t b :: fl_l a :: st) H Q :=
  vt_go (fun ih d => by simp only [cm_step, hat, cm_twoM, fl_lshr, fl_l, Int64.ofInt_toInt]) k
theorem vt_lushr (hat : cm_at mr.1 pc = some (.lushr, np, rs)) (k : vt P N mr np lv (fl_l (fl_lushr a b) :: st) H Q) : vt P N mr pc lv (fl_t b :: fl_l a :: st) H Q :=
  vt_go (fun ih d => by simp only [cm_step, hat, cm_twoM, fl_lushr, fl_l, Int64.ofInt_toInt]) k
theorem vt_l2i (hat : cm_at mr.1 pc = some (.l2i, np, rs)) (k : vt P N mr np lv (fl_t (fl_l2i a) :: st) H Q) : vt P N mr pc lv (fl_l a :: st) H Q :=
  vt_go (fun ih d => by simp only [cm_step, hat, fl_t, fl_l2i, fl_of_toInt]) k
/-- a number of the script -/
def xi (l : List Int32) (j : Nat) : Int := (l.map Int32.toInt).getD j 0
theorem vt_iolx {q : Nat} {l : List Int32} {m : List Term} (hat : cm_at mr.1 pc = some (.iaload, np, rs)) (hc : cm_nth P.2.2.2.1 q = some (some (.int, m))) (hm : m = l.map Term.int) (kk : 0 ≤ fl_w e ∧ fl_w e < (l.length : Int) → vt P N mr np lv (fl_t (xi l (fl_w e).toNat) :: st) H Q) : vt P N mr pc lv (fl_t e :: .string "" q :: st) H Q :=
  vt_iold (l := l.map Int32.toInt) hat hc (by
    subst hm
    rw [List.map_map]
    congr 1
    funext v
    exact (congrArg Term.int (fl_of_toInt v)).symm) (fun h => kk ⟨h.1, by rw [List.length_map] at h; exact h.2⟩)
theorem vt_alenx {q : Nat} {l : List Int32} {m : List Term} (hat : cm_at mr.1 pc = some (.arraylength, np, rs)) (hc : cm_nth P.2.2.2.1 q = some (some (.int, m))) (hm : m = l.map Term.int) (kk : vt P N mr np lv (fl_t (l.length : Int) :: st) H Q) : vt P N mr pc lv (.string "" q :: st) H Q :=
  vt_aleno hat hc (by subst hm; exact List.length_map ..) kk
end
end
