noncomputable section
/-! L3: bytes of a long; type of both sides. -/
section
variable {X : Term} {xs : List Int32}
/-- byte i of a long, the lowest first -/
def byt (a : Int) (i : Nat) : Nat := (Int64.ofInt a).toBitVec.toNat / 2 ^ (8 * i) % 256
theorem byt_lt (a : Int) (i : Nat) : byt a i < 256 := Nat.mod_lt _ (by decide)
theorem ty_255 (j : Nat) : Nat.testBit 255 j = decide (j < 8) := Nat.testBit_two_pow_sub_one 8 j
theorem ty_bv (v : BitVec 64) (k : Nat) (hk : k + 8 ≤ 64) : (v.sshiftRight k) &&& 255#64 = (v >>> k) &&& 255#64 := by
  apply BitVec.eq_of_getLsbD_eq
  intro j hj
  rw [BitVec.getLsbD_and, BitVec.getLsbD_and, BitVec.getLsbD_ushiftRight, BitVec.getLsbD_sshiftRight, BitVec.getLsbD_ofNat, ty_255]
  by_cases h8 : j < 8
  · have h1 : ¬ 64 ≤ j := by omega
    have h2 : k + j < 64 := by omega
    rw [if_pos h2]
    simp [h1]
  · simp [h8]
theorem ty_n64 (v : BitVec 64) (k : Nat) : ((v >>> k) &&& 255#64).toInt = ((v.toNat / 2 ^ k % 256 : Nat) : Int) := by
  have e : ((v >>> k) &&& 255#64).toNat = v.toNat / 2 ^ k % 256 := by
    rw [BitVec.toNat_and, BitVec.toNat_ushiftRight, Nat.shiftRight_eq_div_pow]
    exact Nat.and_two_pow_sub_one_eq_mod _ 8
  rw [BitVec.toInt_eq_toNat_of_lt (by rw [e]; have := Nat.mod_lt (v.toNat / 2 ^ k) (show 0 < 256 by decide); omega), e]
theorem ty_n32 (v : BitVec 64) (k : Nat) : ((v >>> k).signExtend 32 &&& 255#32).toInt = ((v.toNat / 2 ^ k % 256 : Nat) : Int) := by
  have e : ((v >>> k).signExtend 32 &&& 255#32).toNat = v.toNat / 2 ^ k % 256 := by
    rw [BitVec.signExtend_eq_setWidth_of_le _ (by decide), BitVec.toNat_and, BitVec.toNat_setWidth, BitVec.toNat_ushiftRight, Nat.shiftRight_eq_div_pow]
    have h : (255#32).toNat = 2 ^ 8 - 1 := rfl
    rw [h, Nat.and_two_pow_sub_one_eq_mod]
    exact Nat.mod_mod_of_dvd _ (by decide)
  rw [BitVec.toInt_eq_toNat_of_lt (by rw [e]; have := Nat.mod_lt (v.toNat / 2 ^ k) (show 0 < 256 by decide); omega), e]
theorem ty_cls (a : Int) : ∀ i : Nat, i < 8 → fl_and (fl_l2i (fl_lushr a (8 * (i : Int)))) 255 = (byt a i : Int) := by
  have key : ∀ (c : UInt64) (k : Nat), (c.toBitVec % 64).toNat = k → (Int32.ofInt ((Int64.ofInt (((Int64.ofInt a).toUInt64 >>> c).toInt64.toInt)).toInt32.toInt) &&& Int32.ofInt 255).toInt = (((Int64.ofInt a).toBitVec.toNat / 2 ^ k % 256 : Nat) : Int) := fun c k hc => by
    rw [fl_of_toInt, Int64.ofInt_toInt, ← ty_n32, ← hc]
    rfl
  intro i hi
  match i, hi with
  | 0, _ => exact key _ 0 (by decide)
  | 1, _ => exact key _ 8 (by decide)
  | 2, _ => exact key _ 16 (by decide)
  | 3, _ => exact key _ 24 (by decide)
  | 4, _ => exact key _ 32 (by decide)
  | 5, _ => exact key _ 40 (by decide)
  | 6, _ => exact key _ 48 (by decide)
  | 7, _ => exact key _ 56 (by decide)
theorem ty_ref (a : Int) : ∀ i : Nat, i < 8 → fl_land (fl_lshr a (8 * (i : Int))) 255 = (byt a i : Int) := by
  have key : ∀ (c : Int64) (k : Nat), (c.toBitVec.smod 64).toNat = k → k + 8 ≤ 64 → (Int64.ofInt (((Int64.ofInt a) >>> c).toInt) &&& Int64.ofInt 255).toInt = (((Int64.ofInt a).toBitVec.toNat / 2 ^ k % 256 : Nat) : Int) := fun c k hc hk => by
    rw [Int64.ofInt_toInt, ← ty_n64, ← ty_bv _ _ hk, ← hc]
    rfl
  intro i hi
  match i, hi with
  | 0, _ => exact key _ 0 (by decide) (by decide)
  | 1, _ => exact key _ 8 (by decide) (by decide)
  | 2, _ => exact key _ 16 (by decide) (by decide)
  | 3, _ => exact key _ 24 (by decide) (by decide)
  | 4, _ => exact key _ 32 (by decide) (by decide)
  | 5, _ => exact key _ 40 (by decide) (by decide)
  | 6, _ => exact key _ 48 (by decide) (by decide)
  | 7, _ => exact key _ 56 (by decide) (by decide)
theorem ty_l2i : ∀ x : Nat, x < 256 → fl_l2i (x : Int) = (x : Int) := by decide +kernel
theorem ty_i2b : ∀ x : Nat, x < 128 → fl_i2b (x : Int) = (x : Int) := by decide +kernel
/-- may the n lowest bytes stand on a tape? -/
def okb (a : Int) (n : Nat) : Prop := ∀ i, i < n → 32 ≤ byt a i ∧ byt a i ≤ 126
def tyw (a : Int) (n l : Nat) (t : Nat → Int) : Nat → Int := fun j => if l ≤ j ∧ j < l + n then (byt a (l + n - 1 - j) : Int) else t j
theorem tyw_step {a : Int} {k l : Nat} {t u : Nat → Int} (h : ∀ j, u j = if j = l then (byt a k : Int) else t j) : tyw a k (l + 1) u = tyw a (k + 1) l t := by
  funext j
  unfold tyw
  by_cases h1 : l + 1 ≤ j ∧ j < l + 1 + k
  · rw [if_pos h1, if_pos (by omega)]
    have : l + 1 + k - 1 - j = l + (k + 1) - 1 - j := by omega
    rw [this]
  · rw [if_neg h1, h j]
    by_cases h2 : j = l
    · rw [if_pos h2, if_pos (by omega), h2]
      have : l + (k + 1) - 1 - l = k := by omega
      rw [this]
    · rw [if_neg h2, if_neg (by omega)]
/-- what type does, of the tape in cell ct and its length at place pl of cell cl -/
def tyP (cl pl ct : Nat) (a : Int) (n l : Nat) (H : fl_H) (r : Option Int) (H' : fl_H) : Prop :=
  (okb a n → (l + n ≤ 120 → r = some ((l + n : Nat) : Int) ∧ H' cl pl = ((l + n : Nat) : Int) ∧ H' ct = tyw a n l (H ct) ∧ ∀ c i, c ≠ ct → (c = cl → i ≠ pl) → H' c i = H c i) ∧ (¬ l + n ≤ 120 → r = some (-3) ∧ H' = H)) ∧ (¬ okb a n → r = some (-1) ∧ H' = H)
theorem tc_64 {a : Int} (ha : fl_lr a) : ∀ (k l : Nat), k ≤ 8 → okb a k → l + k ≤ 120 → ∀ (N : Nat) (H : fl_H), H 58 1 = (l : Int) → hd_Tape_append_58_64 (cm_pg X xs) N H a ((k : Int) - 1) (fun r H' => r = some ((l + k : Nat) : Int) ∧ H' 58 1 = ((l + k : Nat) : Int) ∧ H' 59 = tyw a k l (H 59) ∧ ∀ c i, c ≠ 59 → (c = 58 → i ≠ 1) → H' c i = H c i)
  | 0, l, hk, ho, hl, N, H, h1 => by
    refine vh_Tape_append_58_64 ?_
    rw [fl_wi (x := ((0 : Nat) : Int) - 1) (by omega) (by omega)]
    refine ⟨fun _ => ⟨by rw [h1]; rfl, h1, ?_, fun _ _ _ _ => rfl⟩, fun h => absurd (show ((0 : Nat) : Int) - 1 < 0 by omega) h⟩
    funext j
    unfold tyw
    rw [if_neg (by omega)]
  | k + 1, l, hk, ho, hl, N, H, h1 => by
    have ek : ((k + 1 : Nat) : Int) - 1 = (k : Int) := by omega
    rw [ek]
    refine vh_Tape_append_58_64 ?_
    rw [fl_wi (x := (k : Int)) (by omega) (by omega), h1, fl_wi (x := (l : Int)) (by omega) (by omega), Int.toNat_natCast]
    refine ⟨fun h => by omega, fun _ H2 e2 m hm => ve_Tape_byteOf ⟨_, rfl, fun _ H7 e7 m hm => ?_⟩ ha⟩
    rw [ty_cls a k (by omega)] at e7
    have hb := ho k (by omega)
    rw [ty_i2b _ (by omega), ty_i2b _ (by omega)] at e7
    have em : (k : Int) + -1 = (k : Int) - 1 := by omega
    rw [em]
    have h7 : H7 58 1 = ((l + 1 : Nat) : Int) := by rw [e7, fl_up_c _ _ _ _ (by decide), e2, fl_up_at]; omega
    have := tc_64 ha k (l + 1) (by omega) (fun i hi => ho i (by omega)) (by omega) m H7 h7
    intro lv l0 l1 l2
    refine vt_mono (Nat.le_refl _) (fun r H' hr => ?_) (this lv l0 l1 l2)
    obtain ⟨r1, r2, r3, r4⟩ := hr
    have el : l + 1 + k = l + (k + 1) := by omega
    rw [el] at r1 r2
    refine ⟨r1, r2, ?_, fun c i c1 c2 => ?_⟩
    · rw [r3]
      refine tyw_step (fun j => ?_)
      rw [e7]
      by_cases hj : j = l
      · rw [hj, fl_up_at, if_pos rfl]
      · rw [fl_up_i _ _ _ _ hj, if_neg hj, e2, fl_up_c _ _ _ _ (by decide)]
    · rw [r4 c i c1 c2, e7, fl_up_c _ _ _ _ c1, e2]
      unfold fl_up
      rw [if_neg (fun hh => c2 hh.1 hh.2)]
theorem tc_15 {a : Int} (ha : fl_lr a) {n l : Nat} (hn : n ≤ 8) {H : fl_H} (h1 : H 58 1 = (l : Int)) (hl : l ≤ 120) : ∀ (f k : Nat), k + f = n → okb a k → ∀ N, hd_Tape_append_58_15 (cm_pg X xs) N H a (n : Int) (k : Int) (tyP 58 1 59 a n l H)
  | 0, k, hk, ho, N => by
    refine vh_Tape_append_58_15 ?_
    have hkn : k = n := by omega
    subst hkn
    rw [fl_wi (x := (k : Int)) (by omega) (by omega), h1, fl_wi (x := (l : Int) + (k : Int)) (by omega) (by omega)]
    refine ⟨fun _ => ⟨fun h => ?_, fun h => ⟨fun _ => ⟨fun hh => absurd hh (by omega), fun _ => ⟨rfl, rfl⟩⟩, fun hh => absurd ho hh⟩⟩, fun h => absurd (Int.le_refl _) h⟩
    have := tc_64 (X := X) (xs := xs) ha k l hn ho (by omega) N H h1
    intro lv l0 l1 l2
    exact vt_mono (Nat.le_refl _) (fun r H' hr => ⟨fun _ => ⟨fun _ => hr, fun hh => absurd (by omega) hh⟩, fun hh => absurd ho hh⟩) (this lv l0 l1 l2)
  | f + 1, k, hk, ho, N => by
    refine vh_Tape_append_58_15 ?_
    rw [fl_wi (x := (k : Int)) (by omega) (by omega), fl_wi (x := (n : Int)) (by omega) (by omega)]
    refine ⟨fun h => by omega, fun _ m hm => ve_Tape_byteOf ⟨_, rfl, ?_⟩ ha⟩
    have hb := byt_lt a k
    have w126 : fl_w 126 = 126 := rfl
    have w32 : fl_w 32 = 32 := rfl
    rw [ty_cls a k (by omega), fl_wi (x := (byt a k : Int)) (by omega) (by omega), w126, w32]
    refine ⟨fun hc m hm => ?_, fun hc => ⟨fun hh => absurd (hh k (by omega)) (by omega), fun _ => ⟨rfl, rfl⟩⟩⟩
    have ek : (k : Int) + 1 = ((k + 1 : Nat) : Int) := by omega
    rw [ek]
    exact tc_15 ha hn h1 hl f (k + 1) (by omega) (fun i hi => by
      by_cases hh : i = k
      · subst hh; omega
      · exact ho i (by omega)) m
theorem tr_74 {a : Int} (ha : fl_lr a) : ∀ (k l : Nat), k ≤ 8 → okb a k → l + k ≤ 120 → ∀ (N : Nat) (H : fl_H), H 94 13 = (l : Int) → hd_GoodsBookModel_type_94_74 (cm_pg X xs) N H a ((k : Int) - 1) (fun r H' => r = some ((l + k : Nat) : Int) ∧ H' 94 13 = ((l + k : Nat) : Int) ∧ H' 104 = tyw a k l (H 104) ∧ ∀ c i, c ≠ 104 → (c = 94 → i ≠ 13) → H' c i = H c i)
  | 0, l, hk, ho, hl, N, H, h1 => by
    refine vh_GoodsBookModel_type_94_74 ?_
    rw [fl_wi (x := ((0 : Nat) : Int) - 1) (by omega) (by omega)]
    refine ⟨fun _ => ⟨by rw [h1]; rfl, h1, ?_, fun _ _ _ _ => rfl⟩, fun h => absurd (show ((0 : Nat) : Int) - 1 < 0 by omega) h⟩
    funext j
    unfold tyw
    rw [if_neg (by omega)]
  | k + 1, l, hk, ho, hl, N, H, h1 => by
    have ek : ((k + 1 : Nat) : Int) - 1 = (k : Int) := by omega
    rw [ek]
    refine vh_GoodsBookModel_type_94_74 ?_
    rw [fl_wi (x := (k : Int)) (by omega) (by omega), h1, fl_wi (x := (l : Int)) (by omega) (by omega), Int.toNat_natCast, ty_ref a k (by omega), ty_l2i _ (byt_lt a k)]
    refine ⟨fun h => by omega, fun _ _ H2 e2 H5 e5 m hm => ?_⟩
    have em : (k : Int) + -1 = (k : Int) - 1 := by omega
    rw [em]
    have h2 : H2 94 13 = (l : Int) := by rw [e2, fl_up_c _ _ _ _ (by decide)]; exact h1
    have h7 : H5 94 13 = ((l + 1 : Nat) : Int) := by rw [e5, fl_up_at, h2]; omega
    have := tr_74 ha k (l + 1) (by omega) (fun i hi => ho i (by omega)) (by omega) m H5 h7
    intro lv l0 l1 l2
    refine vt_mono (Nat.le_refl _) (fun r H' hr => ?_) (this lv l0 l1 l2)
    obtain ⟨r1, r2, r3, r4⟩ := hr
    have el : l + 1 + k = l + (k + 1) := by omega
    rw [el] at r1 r2
    refine ⟨r1, r2, ?_, fun c i c1 c2 => ?_⟩
    · rw [r3]
      refine tyw_step (fun j => ?_)
      rw [e5, fl_up_c _ _ _ _ (by decide), e2]
      by_cases hj : j = l
      · rw [hj, fl_up_at, if_pos rfl]
      · rw [fl_up_i _ _ _ _ hj, if_neg hj]
    · rw [r4 c i c1 c2, e5]
      unfold fl_up
      rw [if_neg (fun hh => c2 hh.1 hh.2), e2, fl_up_c _ _ _ _ c1]
theorem tr_19 {a : Int} (ha : fl_lr a) {n l : Nat} (hn : n ≤ 8) {H : fl_H} (h1 : H 94 13 = (l : Int)) (hl : l ≤ 120) : ∀ (k : Nat), k ≤ n → (∀ i, k ≤ i → i < n → 32 ≤ byt a i ∧ byt a i ≤ 126) → ∀ N, hd_GoodsBookModel_type_94_19 (cm_pg X xs) N H a (n : Int) ((k : Int) - 1) (tyP 94 13 104 a n l H)
  | 0, hk, ho, N => by
    refine vh_GoodsBookModel_type_94_19 ?_
    have ho' : okb a n := fun i hi => ho i (by omega) hi
    rw [fl_wi (x := ((0 : Nat) : Int) - 1) (by omega) (by omega), h1, fl_wi (x := (l : Int) + (n : Int)) (by omega) (by omega)]
    refine ⟨fun _ => ⟨fun h => ?_, fun h => ⟨fun _ => ⟨fun hh => absurd hh (by omega), fun _ => ⟨rfl, rfl⟩⟩, fun hh => absurd ho' hh⟩⟩, fun h => absurd (show ((0 : Nat) : Int) - 1 < 0 by omega) h⟩
    have := tr_74 (X := X) (xs := xs) ha n l hn ho' (by omega) N H h1
    intro lv l0 l1 l2
    exact vt_mono (Nat.le_refl _) (fun r H' hr => ⟨fun _ => ⟨fun _ => hr, fun hh => absurd (by omega) hh⟩, fun hh => absurd ho' hh⟩) (this lv l0 l1 l2)
  | k + 1, hk, ho, N => by
    have ek : ((k + 1 : Nat) : Int) - 1 = (k : Int) := by omega
    rw [ek]
    refine vh_GoodsBookModel_type_94_19 ?_
    have hb := byt_lt a k
    rw [fl_wi (x := (k : Int)) (by omega) (by omega), ty_ref a k (by omega)]
    refine ⟨fun h => by omega, fun _ => ⟨fun hc m hm => ?_, fun hc => ⟨fun hh => absurd (hh k (by omega)) (by omega), fun _ => ⟨rfl, rfl⟩⟩⟩⟩
    have em : (k : Int) + -1 = (k : Int) - 1 := by omega
    rw [em]
    exact tr_19 ha hn h1 hl k (by omega) (fun i hi hin => by
      by_cases hh : i = k
      · subst hh; omega
      · exact ho i (by omega) hin) m
/-- type of the class -/
theorem zc_type {m l : Nat} {H : fl_H} {a n : Int} (ha : fl_lr a) (hn : fl_w n = n) (h1 : H 58 1 = (l : Int)) (hl : l ≤ 120) : ck (cm_pg X xs) m cm_m108 [.index 0, fl_l a, fl_t n] H (fun r H' => (¬ (1 ≤ n ∧ n ≤ 8) → r = some (-1) ∧ H' = H) ∧ ((1 ≤ n ∧ n ≤ 8) → tyP 58 1 59 a n.toNat l H r H')) := by
  have w8 : fl_w 8 = 8 := rfl
  refine ve_GoodsBook_type_0 (fun m hm => ve_Tape_append_58 ?_ ha) ha
  rw [hn, w_1, w8]
  refine ⟨fun hc => ?_, fun hc => ⟨_, rfl, fun _ => ⟨rfl, rfl⟩, fun h => absurd h hc⟩⟩
  obtain ⟨k, hk⟩ : ∃ k : Nat, n = (k : Int) := ⟨n.toNat, by omega⟩
  subst hk
  have := tc_15 (X := X) (xs := xs) ha (n := k) (l := l) (by omega) h1 hl k 0 (by omega) (fun i hi => absurd hi (by omega)) m
  intro lv l0 l1 l2 l3
  refine vt_mono (Nat.le_refl _) (fun r H' hr => ?_) (this lv l0 l1 l2 l3)
  have hx : ∃ x, r = some x := by
    by_cases ho : okb a k
    · by_cases hl' : l + k ≤ 120
      · exact ⟨_, ((hr.1 ho).1 hl').1⟩
      · exact ⟨_, ((hr.1 ho).2 hl').1⟩
    · exact ⟨_, (hr.2 ho).1⟩
  obtain ⟨x, rfl⟩ := hx
  exact ⟨x, rfl, fun h => absurd hc h, fun _ => by rw [Int.toNat_natCast]; exact hr⟩
/-- type of the reference -/
theorem zq_type {m l : Nat} {H : fl_H} {a n : Int} (ha : fl_lr a) (hn : fl_w n = n) (h1 : H 94 13 = (l : Int)) (hl : l ≤ 120) : ck (cm_pg X xs) m cm_m219 [.index 94, fl_l a, fl_t n] H (fun r H' => (¬ (1 ≤ n ∧ n ≤ 8) → r = some (-1) ∧ H' = H) ∧ ((1 ≤ n ∧ n ≤ 8) → tyP 94 13 104 a n.toNat l H r H')) := by
  refine ve_GoodsBookModel_type_94 ?_ ha
  rw [hn]
  refine ⟨fun hc => ?_, fun hc => ⟨fun _ => ⟨rfl, rfl⟩, fun h => absurd h hc⟩⟩
  obtain ⟨k, hk⟩ : ∃ k : Nat, n = (k : Int) := ⟨n.toNat, by omega⟩
  subst hk
  have := tr_19 (X := X) (xs := xs) ha (n := k) (l := l) (by omega) h1 hl k (Nat.le_refl _) (fun i hi hin => absurd hi (by omega)) m
  intro lv l0 l1 l2 l3
  exact vt_mono (Nat.le_refl _) (fun r H' hr => ⟨fun h => absurd hc h, fun _ => by rw [Int.toNat_natCast]; exact hr⟩) (this lv l0 l1 l2 l3)
end
end
