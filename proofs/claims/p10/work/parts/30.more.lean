noncomputable section
/-! LAYER 2, quotients, remainders, bits. -/
theorem am_div32 {x y : Int32} (hx : 0 ≤ x.toInt) (hy : 0 < y.toInt) : (x / y).toInt = x.toInt / y.toInt := by
  have h1 := am_i2 x
  rw [Int32.toInt_div, Int.tdiv_eq_ediv_of_nonneg hx]
  have h2 : 0 ≤ x.toInt / y.toInt := Int.ediv_nonneg hx (by omega)
  have h3 : x.toInt / y.toInt ≤ x.toInt := Int.ediv_le_self _ hx
  exact am_bm (by omega) (by omega)
theorem am_rem32 {x y : Int32} (hx : 0 ≤ x.toInt) (hy : 0 < y.toInt) : (x - x / y * y).toInt = x.toInt % y.toInt := by
  have h1 := am_i2 x
  have hd := am_div32 hx hy
  have h2 : 0 ≤ x.toInt / y.toInt := Int.ediv_nonneg hx (by omega)
  have h4 := Int.emod_add_mul_ediv x.toInt y.toInt
  have h5 := Int.emod_nonneg x.toInt (show y.toInt ≠ 0 by omega)
  have h6 : x.toInt / y.toInt * y.toInt = y.toInt * (x.toInt / y.toInt) := Int.mul_comm _ _
  have h7 : 0 ≤ y.toInt * (x.toInt / y.toInt) := Int.mul_nonneg (by omega) h2
  have hm : (x / y * y).toInt = x.toInt / y.toInt * y.toInt := by rw [am_mul32 (by rw [hd]; omega) (by rw [hd]; omega), hd]
  rw [am_sub32 (by rw [hm]; omega) (by rw [hm]; omega), hm]
  omega
/-- a remainder by something above 0 is nearer to 0 than that -/
theorem am_remr {x y : Int32} (hy : 0 < y.toInt) : -(y.toInt - 1) ≤ (x - x / y * y).toInt ∧ (x - x / y * y).toInt ≤ y.toInt - 1 := by
  by_cases hx : 0 ≤ x.toInt
  · rw [am_rem32 hx hy]
    have h5 := Int.emod_nonneg x.toInt (show y.toInt ≠ 0 by omega)
    have h6 := Int.emod_lt_of_pos x.toInt hy
    omega
  · have h1 := am_i1 x
    have e0 : (x / y).toInt = (x.toInt.tdiv y.toInt) := by
      rw [Int32.toInt_div]
      have h2 : x.toInt.tdiv y.toInt = -((-x.toInt) / y.toInt) := by
        have : x.toInt = -(-x.toInt) := by omega
        rw [this, Int.neg_tdiv, Int.tdiv_eq_ediv_of_nonneg (by omega)]
        simp
      have h3 : 0 ≤ (-x.toInt) / y.toInt := Int.ediv_nonneg (by omega) (by omega)
      have h4 : (-x.toInt) / y.toInt ≤ -x.toInt := Int.ediv_le_self _ (by omega)
      exact am_bm (by omega) (by omega)
    have h2 : x.toInt.tdiv y.toInt = -((-x.toInt) / y.toInt) := by
      have : x.toInt = -(-x.toInt) := by omega
      rw [this, Int.neg_tdiv, Int.tdiv_eq_ediv_of_nonneg (by omega)]
      simp
    have h4 := Int.emod_add_mul_ediv (-x.toInt) y.toInt
    have h5 := Int.emod_nonneg (-x.toInt) (show y.toInt ≠ 0 by omega)
    have h6 := Int.emod_lt_of_pos (-x.toInt) hy
    have h7 : 0 ≤ (-x.toInt) / y.toInt := Int.ediv_nonneg (by omega) (by omega)
    have h8 : (x / y).toInt * y.toInt = -(y.toInt * ((-x.toInt) / y.toInt)) := by rw [e0, h2, Int.neg_mul, Int.mul_comm]
    have h9 : 0 ≤ y.toInt * ((-x.toInt) / y.toInt) := Int.mul_nonneg (by omega) h7
    have hm : (x / y * y).toInt = (x / y).toInt * y.toInt := am_mul32 (by omega) (by omega)
    rw [am_sub32 (by rw [hm]; omega) (by rw [hm]; omega), hm]
    omega
/-- the terms that k divides, divided; the others -/
def am_part (k : Int) : List (Nat × Int) → List (Nat × Int) × List (Nat × Int)
  | [] => ([], [])
  | (v, c) :: l => match am_part k l with
    | (q, t) => match am_z (c % k) with
      | true => ((v, c / k) :: q, t)
      | false => (q, (v, c) :: t)
theorem am_part_spec (r : am_V) (k : Int) : ∀ (l : List (Nat × Int)), am_ts r l = k * am_ts r (am_part k l).1 + am_ts r (am_part k l).2
  | [] => by simp [am_part, am_ts]
  | (v, c) :: l => by
    have ih := am_part_spec r k l
    simp only [am_part]
    cases hb : am_z (c % k) with
    | true =>
      have h0 := am_z_spec hb
      have hc : c = k * (c / k) := by have := Int.emod_add_mul_ediv c k; omega
      simp only [am_ts, Int.mul_add]
      rw [ih, ← Int.mul_assoc, ← hc]
      omega
    | false => simp only [am_ts]; rw [ih]; omega
/-- a form in two: k times the first and the second; the second not below 0, if the whole isn't -/
def am_two (e : am_E) (k : Int) (x : am_L) : List (Nat × Int) × am_L := match am_part k x.2 with
  | (q, t) => match am_nn (x.1 + am_lo e t) with
    | true => (q, (x.1, t))
    | false => ([], x)
theorem am_two_spec (r : am_V) (e : am_E) (k : Int) (x : am_L) : am_ev r x = k * am_ts r (am_two e k x).1 + am_ev r (am_two e k x).2 := by
  have h := am_part_spec r k x.2
  unfold am_two
  simp only []
  split
  · simp only [am_ev]; omega
  · simp [am_ts]
/-- terms of variables below n alone -/
def am_scp (n : Nat) (l : List (Nat × Int)) : Bool := List.rec (motive := fun _ => Bool) true (fun p _ ih => Bool.rec (motive := fun _ => Bool) false ih (Nat.blt p.1 n)) l
theorem am_scp_n (n : Nat) : am_scp n [] = true := rfl
theorem am_scp_c (n v : Nat) (c : Int) (l : List (Nat × Int)) : am_scp n ((v, c) :: l) = (match Nat.blt v n with
    | true => am_scp n l
    | false => false) := by
  show Bool.rec (motive := fun _ => Bool) false (am_scp n l) (Nat.blt v n) = _
  cases Nat.blt v n <;> rfl
theorem am_blt {v n : Nat} (h : Nat.blt v n = true) : v < n := by
  have : decide (v < n) = true := by simpa [Nat.blt_eq] using h
  simpa using this
theorem am_scp_ev {n : Nat} {r q : am_V} (ha : am_Ag n r q) : ∀ (l : List (Nat × Int)), am_scp n l = true → am_ts q l = am_ts r l
  | [], _ => rfl
  | (v, c) :: l, h => by
    simp only [am_scp_n, am_scp_c] at h
    split at h
    · rename_i hv
      simp only [am_ts]
      rw [ha v (am_blt hv), am_scp_ev ha l h]
    · simp at h
def am_oquo (s : am_S) (x : am_L) (k : Int) : am_L × am_S := match am_two s.2.1 k x with
  | (q, t) => match am_rg s.2.1 t with
    | (l, h) => match am_z (h / k - l / k) with
      | true => ((l / k, q), s)
      | false => match am_scp s.1 t.2 && (am_nn (l / k + 2147483648) && am_nn (2147483647 - h / k)) with
        | false => am_newv s am_full
        | true => match am_fresh s (l / k, h / k) with
          | (n, e, fs, ov) => (am_add 1 (0, q) (am_var s), (n, e, am_mf (am_add (-k) t (am_var s)) :: am_mf (am_add (-1) (k - 1, []) (am_add (-k) t (am_var s))) :: fs, ov))
theorem am_ediv_mono {k l x h : Int} (hk : 0 < k) (h1 : l ≤ x) (h2 : x ≤ h) : l / k ≤ x / k ∧ x / k ≤ h / k := ⟨Int.ediv_le_ediv hk h1, Int.ediv_le_ediv hk h2⟩
theorem am_quo_add {k Q R : Int} (hk : 0 < k) : (k * Q + R) / k = Q + R / k := by
  rw [Int.add_comm, Int.add_mul_ediv_left _ _ (by omega)]; omega
/-- two facts more of the newest variable -/
theorem am_fr_facts {xs : List Int32} {K : List am_K} {s : am_S} {lv st : List am_A} {r : am_V} {L : cm_Lv} {T : List Term} {h : cm_H} (hf : am_fr xs K s lv st r L T h) {f g : am_L} (h1 : am_All s.1 r (fun q => 0 ≤ am_ev q f)) (h2 : am_All s.1 r (fun q => 0 ≤ am_ev q g)) :
    am_fr xs K (s.1, s.2.1, am_mf f :: am_mf g :: s.2.2.1, s.2.2.2) lv st r L T h := by
  refine am_fr_same hf rfl hf.2.1 (fun q hq hg => ?_)
  obtain ⟨a1, a2, a3⟩ := hf.2.2.1 q hq hg
  refine ⟨a1, fun a ha => ?_, a3⟩
  rcases List.mem_cons.mp ha with ha | ha
  · rw [ha]; exact h1 q hq hg
  · rcases List.mem_cons.mp ha with ha | ha
    · rw [ha]; exact h2 q hq hg
    · exact a2 a ha
theorem am_oquo_spec {xs : List Int32} {K : List am_K} {s : am_S} {lv st : List am_A} {r : am_V} {L : cm_Lv} {T : List Term} {h : cm_H} (hf : am_fr xs K s lv st r L T h) {a : am_L} {x k z : Int} (hk : 0 < k) (hk2 : k ≤ 2147483647)
    (hx : am_All s.1 r (fun q => x = am_ev q a)) (hz : z = x / k) (h3 : -2147483648 ≤ z) (h4 : z ≤ 2147483647) : am_Val xs K s lv st r L T h z (am_oquo s a k) := by
  have h0 := (am_All_here hf.1 hf.2.2.1).1
  have ht : am_All s.1 r (fun q => x = k * am_ts q (am_two s.2.1 k a).1 + am_ev q (am_two s.2.1 k a).2) := fun q hq hg => by
    have e : x = am_ev q a := hx q hq hg
    show x = _
    rw [e]; exact am_two_spec q s.2.1 k a
  unfold am_oquo
  generalize hw : am_two s.2.1 k a = w at ht
  obtain ⟨q0, t⟩ := w
  have ht0 : x = k * am_ts r q0 + am_ev r t := am_All_here hf.1 ht
  have hrg := am_rg_spec h0 t
  simp only [] at hrg ht0 ⊢
  have hdv := am_ediv_mono hk hrg.1 hrg.2
  cases hb : am_z ((am_rg s.2.1 t).2 / k - (am_rg s.2.1 t).1 / k) with
  | true =>
    have hb := am_z_spec hb
    refine am_Val_same hf (fun q hq hg => ?_)
    have e : x = k * am_ts q q0 + am_ev q t := ht q hq hg
    have hin := (hf.2.2.1 q hq hg).1
    have hrq := am_rg_spec hin t
    have hdq := am_ediv_mono hk hrq.1 hrq.2
    show z = (am_rg s.2.1 t).1 / k + am_ts q q0
    rw [hz, e, am_quo_add hk]
    omega
  | false =>
    simp only []
    cases hsc : (am_scp s.1 t.2 && (am_nn ((am_rg s.2.1 t).1 / k + 2147483648) && am_nn (2147483647 - (am_rg s.2.1 t).2 / k))) with
    | false => exact am_Val_new hf h3 h4 h3 h4
    | true =>
      simp only [Bool.and_eq_true] at hsc
      obtain ⟨hsc, hl1, hl2⟩ := hsc
      have hl1 := am_nn_spec hl1
      have hl2 := am_nn_spec hl2
      simp only []
      have hi : -2147483648 ≤ am_ev r t / k ∧ am_ev r t / k ≤ 2147483647 := by omega
      · obtain ⟨a1, a2, a3⟩ := am_fr_fresh hf (g := ((am_rg s.2.1 t).1 / k, (am_rg s.2.1 t).2 / k)) (x := am_ev r t / k) hdv.1 hdv.2 hi.1 hi.2
        have hq : ∀ q, am_Rg q → am_Ag (am_fresh s ((am_rg s.2.1 t).1 / k, (am_rg s.2.1 t).2 / k)).1 (am_up r s.1 (am_ev r t / k)) q → am_ev q t = am_ev r t ∧ am_ev q (am_var s) = am_ev r t / k ∧ x = k * am_ts q q0 + am_ev q t := fun q hq hg => by
          have hg0 : am_Ag s.1 r q := am_Ag_trans a2.1 a2.2.1 hg
          refine ⟨?_, a3 q hq hg, ht q hq hg0⟩
          simp only [am_ev]
          rw [am_scp_ev hg0 t.2 hsc]
        have hm1 := Int.emod_add_mul_ediv (am_ev r t) k
        have hm2 := Int.emod_nonneg (am_ev r t) (show k ≠ 0 by omega)
        have hm3 := Int.emod_lt_of_pos (am_ev r t) hk
        have hkk : ∀ w : Int, -k * w = -(k * w) := fun w => Int.neg_mul k w
        have f1 : am_All (am_fresh s ((am_rg s.2.1 t).1 / k, (am_rg s.2.1 t).2 / k)).1 (am_up r s.1 (am_ev r t / k)) (fun q => 0 ≤ am_ev q (am_add (-k) t (am_var s))) := fun q hq' hg => by
          obtain ⟨e1, e2, _⟩ := hq q hq' hg
          show 0 ≤ am_ev q (am_add (-k) t (am_var s))
          rw [am_add_ev, e1, e2, hkk]; omega
        have f2 : am_All (am_fresh s ((am_rg s.2.1 t).1 / k, (am_rg s.2.1 t).2 / k)).1 (am_up r s.1 (am_ev r t / k)) (fun q => 0 ≤ am_ev q (am_add (-1) (k - 1, []) (am_add (-k) t (am_var s)))) := fun q hq' hg => by
          obtain ⟨e1, e2, _⟩ := hq q hq' hg
          have e3 : am_ev q (k - 1, []) = k - 1 := by simp [am_ev, am_ts]
          show 0 ≤ am_ev q (am_add (-1) (k - 1, []) (am_add (-k) t (am_var s)))
          rw [am_add_ev, am_add_ev, e1, e2, e3, hkk]; omega
        refine ⟨_, ⟨a2.1, a2.2.1, a2.2.2⟩, am_fr_facts a1 f1 f2, fun q hq' hg => ?_⟩
        obtain ⟨e1, e2, e4⟩ := hq q hq' hg
        have e5 : am_ev q (0, q0) = am_ts q q0 := by simp [am_ev]
        show z = am_ev q (am_add 1 (0, q0) (am_var s))
        rw [am_add_ev, e2, e5, hz, e4, am_quo_add hk, e1]
        omega
/-- what is left of a form by k, if that is told by it -/
def am_oexa (s : am_S) (x : am_L) (k : Int) : Option am_L := match am_two s.2.1 k x with
  | (_, t) => match am_rg s.2.1 t with
    | (l, h) => match am_z (h / k - l / k) with
      | true => some (t.1 - l / k * k, t.2)
      | false => none
theorem am_oexa_spec {xs : List Int32} {s : am_S} {r : am_V} {h : cm_H} (hs : am_holds xs s r h) {a o : am_L} {x k : Int} (hk : 0 < k) (hx : am_All s.1 r (fun q => x = am_ev q a)) (ho : am_oexa s a k = some o) : am_All s.1 r (fun q => x % k = am_ev q o) := by
  intro q hq hg
  have hin := (hs q hq hg).1
  have e : x = am_ev q a := hx q hq hg
  have e2 := am_two_spec q s.2.1 k a
  unfold am_oexa at ho
  generalize am_two s.2.1 k a = w at ho e2
  obtain ⟨q0, t⟩ := w
  simp only [] at ho e2
  split at ho
  · rename_i hb
    have hb := am_z_spec hb
    injection ho with ho
    have hrq := am_rg_spec hin t
    have hdq := am_ediv_mono hk hrq.1 hrq.2
    have hq1 : am_ev q t / k = (am_rg s.2.1 t).1 / k := by omega
    have h4 := Int.emod_add_mul_ediv (am_ev q t) k
    have h6 : x % k = am_ev q t % k := by rw [e, e2, Int.add_comm, Int.add_mul_emod_self_left]
    show x % k = am_ev q o
    rw [h6, ← ho]
    rw [hq1] at h4
    have h7 : (am_rg s.2.1 t).1 / k * k = k * ((am_rg s.2.1 t).1 / k) := Int.mul_comm _ _
    simp only [am_ev] at h4 ⊢
    omega
  · simp at ho
def am_odiv (s : am_S) (a b : am_L) : Option (am_L × am_S) := match am_norm s.2.1 a, am_norm s.2.1 b with
  | x, y => match am_rg s.2.1 x, am_rg s.2.1 y with
    | (l, h), (c, d) => match am_nn (c - 1), am_nn l, y.2 with
      | true, true, [] => some (am_oquo s x y.1)
      | true, true, _ => some (am_newv s (0, h))
      | true, false, _ => some (am_newv s am_full)
      | false, _, _ => match am_nn (-1 - d) with
        | true => some (am_newv s am_full)
        | false => none
theorem am_odiv_spec {xs : List Int32} {K : List am_K} {s : am_S} {lv st : List am_A} {r : am_V} {L : cm_Lv} {T : List Term} {h : cm_H} (hf : am_fr xs K s lv st r L T h) {a b : am_L} {x y : Int32} {o : am_L × am_S}
    (hx : am_All s.1 r (fun q => x.toInt = am_ev q a)) (hy : am_All s.1 r (fun q => y.toInt = am_ev q b)) (ho : am_odiv s a b = some o) : y ≠ 0 ∧ am_Val xs K s lv st r L T h (x / y).toInt o := by
  have hx := am_norm_eq hf.2.2.1 hx
  have hy := am_norm_eq hf.2.2.1 hy
  unfold am_odiv at ho
  generalize am_norm s.2.1 a = a at hx ho
  generalize am_norm s.2.1 b = b at hy ho
  have h0 := (am_All_here hf.1 hf.2.2.1).1
  have hx0 : x.toInt = am_ev r a := am_All_here hf.1 hx
  have hy0 : y.toInt = am_ev r b := am_All_here hf.1 hy
  have ra := am_rg_spec h0 a
  have rb := am_rg_spec h0 b
  rw [← hx0] at ra
  rw [← hy0] at rb
  have hz0 : (0 : Int32).toInt = 0 := rfl
  simp only [] at ho
  split at ho
  · rename_i hc hl hb
    have hc := am_nn_spec hc
    have hl := am_nn_spec hl
    injection ho with ho
    have hy1 : 0 < y.toInt := by omega
    refine ⟨fun he => by rw [he, hz0] at hy1; omega, ?_⟩
    rw [← ho]
    have hk : y.toInt = b.1 := by rw [hy0]; simp [am_ev, hb, am_ts]
    have hd := am_div32 (x := x) (y := y) (by omega) hy1
    exact am_oquo_spec hf (by omega) (by have := am_i2 y; omega) hx (by rw [hd, hk]) (am_i1 _) (am_i2 _)
  · rename_i hc hl _
    have hc := am_nn_spec hc
    have hl := am_nn_spec hl
    injection ho with ho
    have hy1 : 0 < y.toInt := by omega
    refine ⟨fun he => by rw [he, hz0] at hy1; omega, ?_⟩
    rw [← ho]
    have hd := am_div32 (x := x) (y := y) (by omega) hy1
    have h2 : 0 ≤ x.toInt / y.toInt := Int.ediv_nonneg (by omega) (by omega)
    have h3 : x.toInt / y.toInt ≤ x.toInt := Int.ediv_le_self _ (by omega)
    exact am_Val_new hf (by rw [hd]; exact h2) (by rw [hd]; show _ ≤ (am_rg s.2.1 a).2; omega) (am_i1 _) (am_i2 _)
  · rename_i hc _
    have hc := am_nn_spec hc
    injection ho with ho
    have hy1 : 0 < y.toInt := by omega
    refine ⟨fun he => by rw [he, hz0] at hy1; omega, ?_⟩
    rw [← ho]
    exact am_Val_full hf _
  · split at ho
    · rename_i hd
      have hd := am_nn_spec hd
      injection ho with ho
      refine ⟨fun he => by rw [he, hz0] at rb; omega, ?_⟩
      rw [← ho]
      exact am_Val_full hf _
    · simp at ho
def am_orem (s : am_S) (a b : am_L) : Option (am_L × am_S) := match am_norm s.2.1 a, am_norm s.2.1 b with
  | x, y => match am_rg s.2.1 x, am_rg s.2.1 y with
    | (l, _), (c, d) => match am_nn (c - 1), am_nn l with
      | true, true => (match y.2 with
        | [] => (match am_oexa s x y.1 with
          | some t => some (t, s)
          | none => some (am_newv s (0, d - 1)))
        | _ => some (am_newv s (0, d - 1)))
      | true, false => some (am_newv s (1 - d, d - 1))
      | false, _ => match am_nn (-1 - d) with
        | true => some (am_newv s am_full)
        | false => none
theorem am_orem_spec {xs : List Int32} {K : List am_K} {s : am_S} {lv st : List am_A} {r : am_V} {L : cm_Lv} {T : List Term} {h : cm_H} (hf : am_fr xs K s lv st r L T h) {a b : am_L} {x y : Int32} {o : am_L × am_S}
    (hx : am_All s.1 r (fun q => x.toInt = am_ev q a)) (hy : am_All s.1 r (fun q => y.toInt = am_ev q b)) (ho : am_orem s a b = some o) : y ≠ 0 ∧ am_Val xs K s lv st r L T h (x - x / y * y).toInt o := by
  have hx := am_norm_eq hf.2.2.1 hx
  have hy := am_norm_eq hf.2.2.1 hy
  unfold am_orem at ho
  generalize am_norm s.2.1 a = a at hx ho
  generalize am_norm s.2.1 b = b at hy ho
  have h0 := (am_All_here hf.1 hf.2.2.1).1
  have hx0 : x.toInt = am_ev r a := am_All_here hf.1 hx
  have hy0 : y.toInt = am_ev r b := am_All_here hf.1 hy
  have ra := am_rg_spec h0 a
  have rb := am_rg_spec h0 b
  rw [← hx0] at ra
  rw [← hy0] at rb
  have hz0 : (0 : Int32).toInt = 0 := rfl
  have hnew : 0 ≤ x.toInt → 0 < y.toInt → am_Val xs K s lv st r L T h (x - x / y * y).toInt (am_newv s (0, (am_rg s.2.1 b).2 - 1)) := fun hl hy1 => by
    have hr := am_rem32 hl hy1
    have h5 := Int.emod_nonneg x.toInt (show y.toInt ≠ 0 by omega)
    have h6 := Int.emod_lt_of_pos x.toInt hy1
    exact am_Val_new hf (by rw [hr]; exact h5) (by rw [hr]; show _ ≤ (am_rg s.2.1 b).2 - 1; omega) (am_i1 _) (am_i2 _)
  simp only [] at ho
  split at ho
  · rename_i hc hl
    have hc := am_nn_spec hc
    have hl := am_nn_spec hl
    have hy1 : 0 < y.toInt := by omega
    refine ⟨fun he => by rw [he, hz0] at hy1; omega, ?_⟩
    split at ho
    · rename_i hb
      have hk : y.toInt = b.1 := by rw [hy0]; simp [am_ev, hb, am_ts]
      split at ho
      · rename_i t ht
        injection ho with ho
        rw [← ho]
        have hr := am_rem32 (x := x) (y := y) (by omega) hy1
        rw [hr, hk]
        exact am_Val_same hf (am_oexa_spec hf.2.2.1 (by omega) hx ht)
      · injection ho with ho
        rw [← ho]
        exact hnew (by omega) hy1
    · injection ho with ho
      rw [← ho]
      exact hnew (by omega) hy1
  · rename_i hc hl
    have hc := am_nn_spec hc
    injection ho with ho
    have hy1 : 0 < y.toInt := by omega
    refine ⟨fun he => by rw [he, hz0] at hy1; omega, ?_⟩
    rw [← ho]
    have hr := am_remr (x := x) hy1
    exact am_Val_new hf (by show 1 - (am_rg s.2.1 b).2 ≤ _; omega) (by show _ ≤ (am_rg s.2.1 b).2 - 1; omega) (am_i1 _) (am_i2 _)
  · split at ho
    · rename_i hd
      have hd := am_nn_spec hd
      injection ho with ho
      refine ⟨fun he => by rw [he, hz0] at rb; omega, ?_⟩
      rw [← ho]
      exact am_Val_full hf _
    · simp at ho
end
