noncomputable section
/-! LAYER 2, bits and conversions. -/
theorem am_shr1 (x : Int32) : (x >>> ((1 : Int32) &&& 31)).toInt = x.toInt / 2 := by
  have h : ((1 : Int32) &&& 31) = 1 := by decide
  rw [h]
  have e : (x >>> (1 : Int32)).toBitVec = x.toBitVec.sshiftRight 1 := by
    rw [Int32.toBitVec_shiftRight]
    rfl
  show (x >>> (1 : Int32)).toBitVec.toInt = x.toBitVec.toInt / 2
  rw [e, BitVec.toInt_sshiftRight, Int.shiftRight_eq_div_pow]
  rfl
theorem am_shr0 (x : Int32) : (x >>> ((0 : Int32) &&& 31)) = x := by
  have h : ((0 : Int32) &&& 31) = 0 := by decide
  rw [h]
  apply Int32.toBitVec_inj.mp
  rw [Int32.toBitVec_shiftRight]
  have h2 : (Int32.toBitVec 0).smod 32 = 0#32 := by decide
  rw [h2]
  apply BitVec.eq_of_toInt_eq
  show (x.toBitVec.sshiftRight 0).toInt = x.toBitVec.toInt
  rw [BitVec.toInt_sshiftRight]
  exact Int.shiftRight_zero _
theorem am_of_toInt {x : Int32} {k : Int} (h : x.toInt = k) : x = Int32.ofInt k := by rw [← h, Int32.ofInt_toInt]
theorem am_and32 {x y : Int32} (hy : 0 ≤ y.toInt) : 0 ≤ (x &&& y).toInt ∧ (x &&& y).toInt ≤ y.toInt := by
  have hb : (x &&& y).toBitVec = x.toBitVec &&& y.toBitVec := Int32.toBitVec_and ..
  have hyb : 0 ≤ y.toBitVec.toInt := hy
  have hyn : y.toBitVec.toInt = y.toBitVec.toNat := by
    rw [BitVec.toInt_eq_toNat_cond]
    split
    · rfl
    · rename_i hc
      rw [BitVec.toInt_eq_toNat_cond, if_neg hc] at hyb
      have := y.toBitVec.isLt
      omega
  have hlt : 2 * y.toBitVec.toNat < 2 ^ 32 := by
    rw [BitVec.toInt_eq_toNat_cond] at hyb
    split at hyb
    · assumption
    · have := y.toBitVec.isLt
      omega
  have hle : (x.toBitVec &&& y.toBitVec).toNat ≤ y.toBitVec.toNat := by
    rw [BitVec.toNat_and]; exact Nat.and_le_right
  have hzn : (x.toBitVec &&& y.toBitVec).toInt = (x.toBitVec &&& y.toBitVec).toNat := by
    rw [BitVec.toInt_eq_toNat_cond, if_pos (by omega)]
  have e : (x &&& y).toInt = (x.toBitVec &&& y.toBitVec).toInt := by rw [← hb]; rfl
  have e2 : y.toInt = y.toBitVec.toInt := rfl
  rw [e, hzn, e2, hyn]
  omega
def am_oand (s : am_S) (a b : am_L) : am_L × am_S := match am_norm s.2.1 a, am_norm s.2.1 b with
  | (j, []), (k, []) => (((Int32.ofInt j &&& Int32.ofInt k).toInt, []), s)
  | a, (k, []) => (match am_z (k - 255), am_dm s.2.1 256 a with
    | true, some (_, R) => (R, s)
    | _, _ => match am_nn k with
      | true => am_newv s (0, k)
      | false => am_newv s am_full)
  | _, _ => am_newv s am_full
theorem am_oand_spec {xs : List Int32} {K : List am_K} {s : am_S} {lv st : List am_A} {r : am_V} {L : cm_Lv} {T : List Term} {h : cm_H} (hf : am_fr xs K s lv st r L T h) {a b : am_L} {x y : Int32}
    (hx : am_All s.1 r (fun q => x.toInt = am_ev q a)) (hy : am_All s.1 r (fun q => y.toInt = am_ev q b)) : am_Val xs K s lv st r L T h (x &&& y).toInt (am_oand s a b) := by
  have hx := am_norm_eq hf.2.2.1 hx
  have hy := am_norm_eq hf.2.2.1 hy
  unfold am_oand
  generalize am_norm s.2.1 a = a at hx
  generalize am_norm s.2.1 b = b at hy
  have hx0 : x.toInt = am_ev r a := am_All_here hf.1 hx
  have hy0 : y.toInt = am_ev r b := am_All_here hf.1 hy
  split
  · rename_i j k
    have hj : x.toInt = j := by rw [hx0]; simp [am_ev, am_ts]
    have hk : y.toInt = k := by rw [hy0]; simp [am_ev, am_ts]
    refine am_Val_same hf (fun q hq hg => ?_)
    rw [am_of_toInt hj, am_of_toInt hk]
    simp [am_ev, am_ts]
  · rename_i k _
    have hk : y.toInt = k := by rw [hy0]; simp [am_ev, am_ts]
    split
    · rename_i R hz hd
      have hz := am_z_spec hz
      have hm := am32_mask (x := x) (y := y) (by omega)
      refine am_Val_same hf (fun q hq hg => ?_)
      have hd := am_dm_spec (hf.2.2.1 q hq hg).1 (by omega) hd
      have hxq : x.toInt = am_ev q _ := hx q hq hg
      show (x &&& y).toInt = am_ev q R
      rw [hm, hxq, hd.1]
    · split
      · rename_i hn
        have hn := am_nn_spec hn
        have := am_and32 (x := x) (y := y) (by omega)
        exact am_Val_new hf this.1 (by show _ ≤ k; omega) (am_i1 _) (am_i2 _)
      · exact am_Val_full hf _
  · exact am_Val_full hf _
def am_oshr (s : am_S) (a b : am_L) : am_L × am_S := match am_norm s.2.1 b with
  | (0, []) => (am_norm s.2.1 a, s)
  | (1, []) => (match am_norm s.2.1 a with
    | x => match am_rg s.2.1 x with
      | (l, h) => match am_scp s.1 x.2 && (am_nn (l + 2147483648) && am_nn (2147483647 - h)) with
        | false => am_newv s am_full
        | true => match am_fresh s (l / 2, h / 2) with
          | (n, e, fs, ov) => (am_var s, (n, e, am_mf (am_add (-2) x (am_var s)) :: am_mf (am_add (-1) (1, []) (am_add (-2) x (am_var s))) :: fs, ov)))
  | _ => am_newv s am_full
theorem am_oshr_spec {xs : List Int32} {K : List am_K} {s : am_S} {lv st : List am_A} {r : am_V} {L : cm_Lv} {T : List Term} {h : cm_H} (hf : am_fr xs K s lv st r L T h) {a b : am_L} {x y : Int32}
    (hx : am_All s.1 r (fun q => x.toInt = am_ev q a)) (hy : am_All s.1 r (fun q => y.toInt = am_ev q b)) : am_Val xs K s lv st r L T h (x >>> (y &&& 31)).toInt (am_oshr s a b) := by
  have hx := am_norm_eq hf.2.2.1 hx
  have hy := am_norm_eq hf.2.2.1 hy
  unfold am_oshr
  generalize am_norm s.2.1 a = a at hx
  generalize am_norm s.2.1 b = b at hy
  have h0 := (am_All_here hf.1 hf.2.2.1).1
  have hy0 : y.toInt = am_ev r b := am_All_here hf.1 hy
  split
  · have hk : y.toInt = 0 := by rw [hy0]; simp [am_ev, am_ts]
    have : y = 0 := by rw [am_of_toInt hk]; rfl
    rw [this, am_shr0]
    exact am_Val_same hf hx
  · have hk : y.toInt = 1 := by rw [hy0]; simp [am_ev, am_ts]
    have : y = 1 := by rw [am_of_toInt hk]; rfl
    rw [this, am_shr1]
    have hx0 : x.toInt = am_ev r a := am_All_here hf.1 hx
    have hrg := am_rg_spec h0 a
    simp only []
    have hdv := am_ediv_mono (k := 2) (by omega) hrg.1 hrg.2
    have hi1 := am_i1 x
    have hi2 := am_i2 x
    cases hsc : (am_scp s.1 a.2 && (am_nn ((am_rg s.2.1 a).1 + 2147483648) && am_nn (2147483647 - (am_rg s.2.1 a).2))) with
    | false => exact am_Val_new hf (by show (-2147483648 : Int) ≤ _; omega) (by show _ ≤ (2147483647 : Int); omega) (by omega) (by omega)
    | true =>
      obtain ⟨a1, a2, a3⟩ := am_fr_fresh hf (g := ((am_rg s.2.1 a).1 / 2, (am_rg s.2.1 a).2 / 2)) (x := am_ev r a / 2) hdv.1 hdv.2 (by omega) (by omega)
      have hq : ∀ q, am_Rg q → am_Ag (am_fresh s ((am_rg s.2.1 a).1 / 2, (am_rg s.2.1 a).2 / 2)).1 (am_up r s.1 (am_ev r a / 2)) q → am_ev q a = x.toInt ∧ am_ev q (am_var s) = x.toInt / 2 := fun q hq hg => by
        have hg0 : am_Ag s.1 r q := am_Ag_trans a2.1 a2.2.1 hg
        refine ⟨(hx q hq hg0).symm, ?_⟩
        rw [hx0]; exact a3 q hq hg
      have f1 : am_All (am_fresh s ((am_rg s.2.1 a).1 / 2, (am_rg s.2.1 a).2 / 2)).1 (am_up r s.1 (am_ev r a / 2)) (fun q => 0 ≤ am_ev q (am_add (-2) a (am_var s))) := fun q hq' hg => by
        obtain ⟨e1, e2⟩ := hq q hq' hg
        show 0 ≤ am_ev q (am_add (-2) a (am_var s))
        rw [am_add_ev, e1, e2]; omega
      have f2 : am_All (am_fresh s ((am_rg s.2.1 a).1 / 2, (am_rg s.2.1 a).2 / 2)).1 (am_up r s.1 (am_ev r a / 2)) (fun q => 0 ≤ am_ev q (am_add (-1) (1, []) (am_add (-2) a (am_var s)))) := fun q hq' hg => by
        obtain ⟨e1, e2⟩ := hq q hq' hg
        have e3 : am_ev q (1, []) = 1 := rfl
        show 0 ≤ am_ev q (am_add (-1) (1, []) (am_add (-2) a (am_var s)))
        rw [am_add_ev, am_add_ev, e1, e2, e3]; omega
      exact ⟨_, ⟨a2.1, a2.2.1, a2.2.2⟩, am_fr_facts a1 f1 f2, fun q hq' hg => (hq q hq' hg).2.symm⟩
  · exact am_Val_full hf _
/-- the same if within, else any of a range -/
def am_ocut (s : am_S) (a : am_L) (g : Int × Int) : am_L × am_S := match am_rg s.2.1 a with
  | (l, h) => match am_nn (l - g.1), am_nn (g.2 - h) with
    | true, true => (a, s)
    | _, _ => am_newv s g
theorem am_ocut_spec {xs : List Int32} {K : List am_K} {s : am_S} {lv st : List am_A} {r : am_V} {L : cm_Lv} {T : List Term} {h : cm_H} (hf : am_fr xs K s lv st r L T h) {a : am_L} {g : Int × Int} {x z : Int} (hg1 : -2147483648 ≤ g.1) (hg2 : g.2 ≤ 2147483647)
    (hx : am_All s.1 r (fun q => x = am_ev q a)) (h1 : g.1 ≤ z) (h2 : z ≤ g.2) (hz : g.1 ≤ x → x ≤ g.2 → z = x) : am_Val xs K s lv st r L T h z (am_ocut s a g) := by
  have h0 := (am_All_here hf.1 hf.2.2.1).1
  have hx0 : x = am_ev r a := am_All_here hf.1 hx
  have hrg := am_rg_spec h0 a
  unfold am_ocut
  simp only []
  split
  · rename_i hl hh
    have hl := am_nn_spec hl
    have hh := am_nn_spec hh
    rw [hz (by omega) (by omega)]
    exact am_Val_same hf hx
  · exact am_Val_new hf h1 h2 (by omega) (by omega)
theorem am_i2b (x : Int32) : -128 ≤ x.toInt8.toInt32.toInt ∧ x.toInt8.toInt32.toInt ≤ 127 ∧ (-128 ≤ x.toInt → x.toInt ≤ 127 → x.toInt8.toInt32.toInt = x.toInt) := by
  have e : x.toInt8.toInt32.toInt = x.toInt8.toInt := Int8.toInt_toInt32 _
  have h1 := Int8.le_toInt x.toInt8
  have h2 := Int8.toInt_lt x.toInt8
  have h3 : x.toInt8.toInt = x.toInt.bmod (2 ^ 8) := Int32.toInt_toInt8 x
  rw [e]
  refine ⟨by omega, by omega, fun a b => ?_⟩
  rw [h3]; exact Int.bmod_eq_of_le (by omega) (by omega)
theorem am_i2s (x : Int32) : -32768 ≤ x.toInt16.toInt32.toInt ∧ x.toInt16.toInt32.toInt ≤ 32767 ∧ (-32768 ≤ x.toInt → x.toInt ≤ 32767 → x.toInt16.toInt32.toInt = x.toInt) := by
  have e : x.toInt16.toInt32.toInt = x.toInt16.toInt := Int16.toInt_toInt32 _
  have h1 := Int16.le_toInt x.toInt16
  have h2 := Int16.toInt_lt x.toInt16
  have h3 : x.toInt16.toInt = x.toInt.bmod (2 ^ 16) := Int32.toInt_toInt16 x
  rw [e]
  refine ⟨by omega, by omega, fun a b => ?_⟩
  rw [h3]; exact Int.bmod_eq_of_le (by omega) (by omega)
theorem am_i2c {x : Int32} (h1 : 0 ≤ x.toInt) (h2 : x.toInt ≤ 65535) : (x.toUInt32 % 65536).toInt32 = x := by
  have hn : x.toBitVec.toInt = x.toBitVec.toNat := by
    have h1 : 0 ≤ x.toBitVec.toInt := h1
    rw [BitVec.toInt_eq_toNat_cond] at h1 ⊢
    split at h1
    · rw [if_pos (by assumption)]
    · have := x.toBitVec.isLt
      omega
  have h2 : x.toBitVec.toInt ≤ 65535 := h2
  have hu : x.toUInt32 % 65536 = x.toUInt32 := by
    apply UInt32.toNat_inj.mp
    rw [UInt32.toNat_mod]
    have e : x.toUInt32.toNat = x.toBitVec.toNat := rfl
    have e2 : (65536 : UInt32).toNat = 65536 := rfl
    rw [e, e2]
    exact Nat.mod_eq_of_lt (by omega)
  rw [hu]
  rfl
def am_oi2c (s : am_S) (a : am_L) : am_L × am_S := match am_rg s.2.1 a with
  | (l, h) => match am_nn l, am_nn (65535 - h) with
    | true, true => (a, s)
    | _, _ => am_newv s am_full
theorem am_oi2c_spec {xs : List Int32} {K : List am_K} {s : am_S} {lv st : List am_A} {r : am_V} {L : cm_Lv} {T : List Term} {h : cm_H} (hf : am_fr xs K s lv st r L T h) {a : am_L} {x : Int32}
    (hx : am_All s.1 r (fun q => x.toInt = am_ev q a)) : am_Val xs K s lv st r L T h (x.toUInt32 % 65536).toInt32.toInt (am_oi2c s a) := by
  have h0 := (am_All_here hf.1 hf.2.2.1).1
  have hx0 : x.toInt = am_ev r a := am_All_here hf.1 hx
  have hrg := am_rg_spec h0 a
  unfold am_oi2c
  simp only []
  split
  · rename_i hl hh
    have hl := am_nn_spec hl
    have hh := am_nn_spec hh
    rw [am_i2c (by omega) (by omega)]
    exact am_Val_same hf hx
  · exact am_Val_full hf _
/-! longs -/
theorem am_i2l (x : Int32) : x.toInt64.toInt = x.toInt := Int32.toInt_toInt64 x
theorem am_l2i {x : Int64} (h1 : -2147483648 ≤ x.toInt) (h2 : x.toInt ≤ 2147483647) : x.toInt32.toInt = x.toInt := by
  rw [Int64.toInt_toInt32]; exact am_bm h1 h2
theorem am_and64 {x y : Int64} (hy : 0 ≤ y.toInt) : 0 ≤ (x &&& y).toInt ∧ (x &&& y).toInt ≤ y.toInt := by
  have hb : (x &&& y).toBitVec = x.toBitVec &&& y.toBitVec := Int64.toBitVec_and ..
  have hyb : 0 ≤ y.toBitVec.toInt := hy
  have hlt : 2 * y.toBitVec.toNat < 2 ^ 64 := by
    rw [BitVec.toInt_eq_toNat_cond] at hyb
    split at hyb
    · assumption
    · have := y.toBitVec.isLt
      omega
  have hyn : y.toBitVec.toInt = y.toBitVec.toNat := by
    rw [BitVec.toInt_eq_toNat_cond, if_pos hlt]
  have hle : (x.toBitVec &&& y.toBitVec).toNat ≤ y.toBitVec.toNat := by
    rw [BitVec.toNat_and]; exact Nat.and_le_right
  have hzn : (x.toBitVec &&& y.toBitVec).toInt = (x.toBitVec &&& y.toBitVec).toNat := by
    rw [BitVec.toInt_eq_toNat_cond, if_pos (by omega)]
  have e : (x &&& y).toInt = (x.toBitVec &&& y.toBitVec).toInt := by rw [← hb]; rfl
  have e2 : y.toInt = y.toBitVec.toInt := rfl
  rw [e, hzn, e2, hyn]
  omega
theorem am_cmp64 (x y : Int64) : (0 < x.toInt - y.toInt → lg_cmp x y = 1) ∧ (x.toInt - y.toInt = 0 → lg_cmp x y = 0) ∧ (x.toInt - y.toInt < 0 → lg_cmp x y = -1) := by
  have hl : x < y ↔ x.toInt < y.toInt := Int64.lt_iff_toInt_lt
  have hg : y < x ↔ y.toInt < x.toInt := Int64.lt_iff_toInt_lt
  have he : x = y ↔ x.toInt = y.toInt := ⟨fun h => by rw [h], fun h => Int64.toInt.inj h⟩
  unfold lg_cmp
  simp only [hl, hg, he]
  refine ⟨fun h => ?_, fun h => ?_, fun h => ?_⟩
  all_goals
    repeat' split
    all_goals first | rfl | omega
end
