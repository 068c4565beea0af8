noncomputable section
/-! LAYER 2, constants, variables, the stack. -/
theorem am_ldx {xs : List Int32} {K : List am_K} {s : am_S} {lv st : List am_A} {r : am_V} {L : cm_Lv} {T : List Term} {h : cm_H} (hf : am_fr xs K s lv st r L T h) {i n : Nat} {a : am_A} (ha : am_nthA lv i = some a) (hn : am_tyA a = n + 1) :
    ∃ t, cm_nth L i = some (some t) ∧ cm_ty t = n + 1 ∧ am_All s.1 r (fun q => am_sat q a (some t)) := by
  obtain ⟨t0, h1, h2⟩ := am_lvs_nth (am_All_here hf.1 hf.2.2.2.2.1) ha
  obtain ⟨u, h3, h4⟩ := am_tyA_spec h2 hn
  subst h3
  refine ⟨u, h1, h4, fun q hq hg => ?_⟩
  obtain ⟨t1, h5, h6⟩ := am_lvs_nth (hf.2.2.2.2.1 q hq hg) ha
  rw [h1] at h5
  injection h5 with h5
  rw [h5]; exact h6
theorem am_cm_ld {β : Type} {L : cm_Lv} {i n : Nat} {t : Term} (h : cm_nth L i = some (some t)) (ht : cm_ty t = n) (k : Term → Option β) : cm_ld L i n k = k t := by
  simp only [cm_ld, h, ht, if_true]
def am_noL (lv : List am_A) (i : Nat) : Bool := match i with
  | 0 => true
  | j + 1 => match am_nthA lv j with
    | some a => !(Nat.beq (am_tyA a) 2)
    | none => false
theorem am_sat_noL {q : am_V} {a : am_A} {u : Term} (h : am_sat q a (some u)) (hn : Nat.beq (am_tyA a) 2 = false) : cm_w1 u = true := by
  unfold am_sat at h
  unfold am_tyA at hn
  split at h
  · obtain ⟨x, hx, _⟩ := h; injection hx with hx; rw [hx]; rfl
  · obtain ⟨x, hx, _⟩ := h; injection hx with hx; rw [hx]; rfl
  · rename_i h0; simp [h0] at hn
  · rename_i h0; simp [h0] at hn
  · injection h with h; rw [h]; rfl
  · injection h with h; rw [h]; rfl
  · obtain ⟨v, hv, ht⟩ := h; injection hv with hv; rw [hv]; simp [cm_w1, ht]
  · rcases h with h | ⟨v, hv, ht⟩
    · simp at h
    · injection hv with hv; rw [hv]; exact ht
theorem am_noL_spec {q : am_V} {lv : List am_A} {L : cm_Lv} (hl : am_lvs q lv L) {i : Nat} (h : am_noL lv i = true) : cm_noL L i = true := by
  cases i with
  | zero => rfl
  | succ j =>
    simp only [am_noL] at h
    split at h
    · rename_i a ha
      obtain ⟨t, h1, h2⟩ := am_lvs_nth hl ha
      simp only [cm_noL, h1]
      cases t with
      | none => rfl
      | some u => exact am_sat_noL h2 (by simpa using h)
    · simp at h
/-- a variable written: as the interpreter does it -/
theorem am_stx {xs : List Int32} {K : List am_K} {s : am_S} {lv st : List am_A} {r : am_V} {L : cm_Lv} {T : List Term} {h : cm_H} (hf : am_fr xs K s lv st r L T h) {i : Nat} {a : am_A} {t : Term} (ha : am_All s.1 r (fun q => am_sat q a (some t)))
    (hn : am_noL lv i = true) (hi : i < lv.length) : (∀ {β : Type} (k : cm_Lv → Option β), cm_sto L i t k = k (L.set i (some t))) ∧ am_fr xs K s (am_setA lv i a) st r (L.set i (some t)) T h := by
  have hl := am_All_here hf.1 hf.2.2.2.2.1
  refine ⟨fun k => ?_, hf.1, hf.2.1, hf.2.2.1, hf.2.2.2.1, fun q hq hg => am_lvs_set (ha q hq hg) (hf.2.2.2.2.1 q hq hg), hf.2.2.2.2.2⟩
  have h1 := am_noL_spec hl hn
  have h2 : i < L.length := by rw [← am_lvs_len hl]; exact hi
  simp only [cm_sto, h1, h2, and_self, if_true]
  exact cm_set_eq ..
def am_blt' (i : Nat) (lv : List am_A) : Bool := match am_nthA lv i with
  | some _ => true
  | none => false
theorem am_blt'_spec : ∀ {lv : List am_A} {i : Nat}, am_blt' i lv = true → i < lv.length
  | [], i, h => by simp [am_blt', am_nthA_n, am_nthA_z, am_nthA_s] at h
  | _ :: _, 0, _ => by simp
  | _ :: lv, i + 1, h => by
    have := am_blt'_spec (lv := lv) (i := i) (by simpa [am_blt', am_nthA_n, am_nthA_z, am_nthA_s] using h)
    simp only [List.length_cons]; omega
/-- a variable of a sort onto the stack -/
def am_cld (np : Nat) (lv st : List am_A) (s : am_S) (i ty : Nat) : Option am_N := match am_nthA lv i with
  | some a => (match Nat.beq (am_tyA a) ty with
    | true => some (np, lv, a :: st, s)
    | false => none)
  | none => none
/-- a value into a variable -/
def am_cst (np : Nat) (lv st : List am_A) (s : am_S) (i : Nat) (a : am_A) : Option am_N := match am_noL lv i && am_blt' i lv with
  | true => some (np, am_setA lv i a, st, s)
  | false => none
def am_k0 (np : Nat) (lv st : List am_A) (s : am_S) (k : Int) : Option am_N := some (np, lv, (0, (k, [])) :: st, s)
/-- two longs off the stack; an int and a long -/
def am_lg2 (st : List am_A) (f : am_A → am_A → List am_A → Option am_N) : Option am_N := match st with
  | b :: a :: st => (match Nat.beq (am_tyA b) 2 && Nat.beq (am_tyA a) 2 with
    | true => f b a st
    | false => none)
  | _ => none
def am_lgM (st : List am_A) (f : List am_A → Option am_N) : Option am_N := match st with
  | (0, _) :: a :: st => (match Nat.beq (am_tyA a) 2 with
    | true => f st
    | false => none)
  | _ => none
/-- an int, and a long under it, off the stack -/
def am_lgK (st : List am_A) (f : am_L → am_A → List am_A → Option am_N) : Option am_N := match st with
  | (0, y) :: a :: st => (match Nat.beq (am_tyA a) 2 with
    | true => f y a st
    | false => none)
  | _ => none
def am_sim (ins : Instr) (np : Nat) (rs : List Nat) (lv st : List am_A) (s : am_S) : Option am_N := match ins with
  | .iconst v => (match am_nn (v + 2147483648) && am_nn (2147483647 - v) with
    | true => am_k0 np lv st s v
    | false => none)
  | .bipush v => (match am_nn (v + 128) && am_nn (127 - v) with
    | true => am_k0 np lv st s v
    | false => none)
  | .sipush v => (match am_nn (v + 32768) && am_nn (32767 - v) with
    | true => am_k0 np lv st s v
    | false => none)
  | .lconst v => some (np, lv, (2, ((Int64.ofNat v).toInt, [])) :: st, s)
  | .ldc _ => (match rs with
    | 0 :: n :: _ => am_k0 np lv st s (Int32.ofNat n).toInt
    | 1 :: k :: _ => some (np, lv, (5, (Int.ofNat k, [])) :: st, s)
    | _ => none)
  | .ldc_w _ => (match rs with
    | n :: _ => am_k0 np lv st s (Int32.ofNat n).toInt
    | _ => none)
  | .ldc2_w _ => (match rs with
    | n :: _ => some (np, lv, (2, ((Int64.ofNat n).toInt, [])) :: st, s)
    | _ => none)
  | .iload i => am_cld np lv st s i 1
  | .iload_n i => am_cld np lv st s i.val 1
  | .lload i => am_cld np lv st s i 2
  | .lload_n i => am_cld np lv st s i.val 2
  | .aload i => am_cld np lv st s i 3
  | .aload_n i => am_cld np lv st s i.val 3
  | .istore i => (match st with
    | (0, a) :: st => am_cst np lv st s i (0, a)
    | _ => none)
  | .istore_n i => (match st with
    | (0, a) :: st => am_cst np lv st s i.val (0, a)
    | _ => none)
  | .astore i => (match st with
    | a :: st => (match Nat.beq (am_tyA a) 3 with
      | true => am_cst np lv st s i a
      | false => none)
    | _ => none)
  | .astore_n i => (match st with
    | a :: st => (match Nat.beq (am_tyA a) 3 with
      | true => am_cst np lv st s i.val a
      | false => none)
    | _ => none)
  | .iinc i v => (match am_nthA lv i with
    | some (0, a) => (match am_nn (v + 2147483648) && am_nn (2147483647 - v) with
      | true => (match am_oadd s 1 a (v, []) with
        | (c, s') => am_cst np lv st s' i (0, c))
      | false => none)
    | _ => none)
  | .pop => (match st with
    | a :: st => (match Nat.beq (am_tyA a) 2 with
      | false => some (np, lv, st, s)
      | true => none)
    | _ => none)
  | .dup => (match st with
    | a :: st => (match Nat.beq (am_tyA a) 2 with
      | false => some (np, lv, a :: a :: st, s)
      | true => none)
    | _ => none)
  | .dup_x1 => (match st with
    | a :: b :: st => (match Nat.beq (am_tyA a) 2 || Nat.beq (am_tyA b) 2 with
      | false => some (np, lv, a :: b :: a :: st, s)
      | true => none)
    | _ => none)
  | .dup2 => (match st with
    | a :: b :: st => (match Nat.beq (am_tyA a) 2 || Nat.beq (am_tyA b) 2 with
      | false => some (np, lv, a :: b :: a :: b :: st, s)
      | true => none)
    | _ => none)
  | .goto _ => (match rs with
    | t :: _ => some (t, lv, st, s)
    | _ => none)
  | .i2l => (match st with
    | (0, a) :: st => some (np, lv, (2, a) :: st, s)
    | _ => none)
  | .l2i => (match st with
    | (2, a) :: st => (match am_rg s.2.1 a with
      | (l, h) => match am_nn (l + 2147483648) && am_nn (2147483647 - h) with
        | true => some (np, lv, (0, a) :: st, s)
        | false => match am_dm s.2.1 4294967296 a with
          | some (_, R) => some (np, lv, (0, am_add (-4294967296) R (am_var s)) :: st, am_fresh s (0, 1))
          | none => some (np, lv, (0, am_var s) :: st, am_fresh s am_full))
    | (3, _) :: st => some (np, lv, (0, am_var s) :: st, am_fresh s am_full)
    | _ => none)
  | .land => am_lg2 st (fun b a st => match b with
    | (2, (k, [])) => (match am_lmk s.2.1 k a with
      | some R => some (np, lv, (2, R) :: st, s)
      | none => match am_nn k && am_nn (2147483647 - k) with
        | true => some (np, lv, (2, am_var s) :: st, am_fresh s (0, k))
        | false => some (np, lv, (3, (0, [])) :: st, s))
    | _ => some (np, lv, (3, (0, [])) :: st, s))
  | .lor => am_lg2 st (fun b a st => match b, a with
    | (2, Y), (2, X) => (match am_lorB s.2.1 X Y with
      | true => some (np, lv, (2, am_add 1 X Y) :: st, s)
      | false => some (np, lv, (3, (0, [])) :: st, s))
    | _, _ => some (np, lv, (3, (0, [])) :: st, s))
  | .lshl => am_lgK st (fun y a st => some (np, lv, am_lshl s.2.1 s.2.2.1 y a :: st, s))
  | .lshr => am_lgK st (fun y a st => some (np, lv, am_lshr s.2.1 y a :: st, s))
  | .lushr => am_lgK st (fun y a st => some (np, lv, am_lush s.2.1 y a :: st, s))
  | .lcmp => am_lg2 st (fun b a st => match b, a with
    | (2, b), (2, a) => some (np, lv, (1, am_add (-1) a b) :: st, s)
    | _, _ => some (np, lv, (0, am_var s) :: st, am_fresh s (-1, 1)))
  | _ => none
end
