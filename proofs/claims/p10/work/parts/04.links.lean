noncomputable section
/-! what an instruction was linked to: checked by its places in the lists of words -/
abbrev cm_N : Type := MethodName × ByteArray × String
/-- the words; words of nest mates; the kinds of cell; the methods' names, bytes and owners; static fields with the places of their values; String constants with their places; kinds of old objects -/
abbrev cm_K : Type := List Cond × List Cond × List vw_C × List cm_N × List (String × String × String × Nat) × List (String × Nat × String × Nat) × List (String × u_T)
/-- as cm_nth, quick for the kernel -/
def cm_nthR {α : Type} (l : List α) (i : Nat) : Option α := List.rec (motive := fun _ => Nat → Option α) (fun _ => none) (fun x _ ih i => Bool.rec (motive := fun _ => Option α) (ih (Nat.sub i 1)) (some x) (Nat.beq i 0)) l i
theorem cm_nthR_eq {α : Type} : ∀ (l : List α) (i : Nat), cm_nthR l i = l[i]?
  | [], i => by simp [cm_nthR]
  | x :: l, 0 => by simp [cm_nthR]
  | x :: l, i + 1 => by
    show cm_nthR l (Nat.sub (i + 1) 1) = _
    rw [cm_nthR_eq l (Nat.sub (i + 1) 1)]
    simp
def cm_w (Ts : List Cond) (p : Nat) (w : Cond) : Bool := decide (cm_nthR Ts p = some w)
def cm_wF (K : cm_K) (kind p : Nat) (own : String) (idx : Nat) (C n d : String) : Bool := match kind with
  | 0 => cm_w K.1 p (.fieldLink own idx C n d)
  | _ => match cm_nth K.2.1 p with
    | some (.fieldLinkNest o i c a b _) => decide (o = own ∧ i = idx ∧ c = C ∧ a = n ∧ b = d)
    | _ => false
def cm_wM (K : cm_K) (kind p : Nat) (own : String) (idx : Nat) (y : MethodName) : Bool := match kind with
  | 0 => cm_w K.1 p (.methodLink own idx y)
  | _ => match cm_nth K.2.1 p with
    | some (.methodLinkNest o i z _) => decide (o = own ∧ i = idx ∧ z = y)
    | _ => false
/-- the name of a kind of cell, new or old -/
def cm_cn (K : cm_K) (ci : Nat) : Option String := match cm_nth K.2.2.1 ci with
  | some (C, _, _) => some C
  | none => match cm_nth K.2.2.2.2.2.2 (ci - K.2.2.1.length) with
    | some (C, _) => some C
    | none => none
def cm_na (y : MethodName) (n : Nat) : Bool := decide ((parseMethodDescriptor y.desc).map (fun d => d.parameters.length) = some n ∧ y.name ≠ "law")
def cm_j (K : cm_K) (own nm : String) (pc : Nat) (ins : Instr) (rs : List Nat) : Bool := match ins with
  | .goto o => (match rs with
    | t :: _ => decide ((pc : Int) + o = (t : Int))
    | _ => false)
  | .ifCond _ o => (match rs with
    | t :: _ => decide ((pc : Int) + o = (t : Int))
    | _ => false)
  | .if_icmp _ o => (match rs with
    | t :: _ => decide ((pc : Int) + o = (t : Int))
    | _ => false)
  | .tableswitch df lo hi offs => (match rs with
    | t :: tg => decide ((pc : Int) + df = (t : Int)) && decide (offs.toList.map (fun o => (pc : Int) + o) = tg.map Int.ofNat)
    | _ => false)
  | .lookupswitch df ps => decide ((ps.toList.zip (ps.toList.drop 1)).all (fun (a, next) => a.1 < next.1) = true) && decide (ps.toList.map (fun q => (pc : Int) + q.2) ++ [(pc : Int) + df] = rs.map Int.ofNat)
  | .ldc idx => (match rs with
    | 0 :: n :: p :: _ => cm_w K.1 p (.constant own idx (Int32.ofNat n))
    | 1 :: k :: p :: _ => (match cm_nth K.2.2.2.2.2.1 p with
      | some (o, x, _, j) => decide (o = own ∧ x = idx ∧ j = k)
      | _ => false)
    | _ => false)
  | .ldc_w idx => (match rs with
    | n :: p :: _ => cm_w K.1 p (.constant own idx (Int32.ofNat n))
    | _ => false)
  | .ldc2_w idx => (match rs with
    | n :: p :: _ => cm_w K.1 p (.constantLong own idx (Int64.ofNat n))
    | _ => false)
  | .getfield idx => (match rs with
    | ci :: k :: kind :: p :: _ => (match cm_nth K.2.2.1 ci with
      | some (_, T, N) => decide (k < N) && cm_wF K kind p own idx (T k).1 (T k).2.1 (T k).2.2.1
      | _ => (match cm_nth K.2.2.2.2.2.2 (ci - K.2.2.1.length) with
        | some (_, T) => cm_wF K kind p own idx (T k).1 (T k).2.1 (T k).2.2.1
        | _ => false))
    | _ => false)
  | .putfield idx => (match rs with
    | ci :: k :: kind :: p :: _ => (match cm_nth K.2.2.1 ci with
      | some (_, T, N) => decide (k < N) && cm_wF K kind p own idx (T k).1 (T k).2.1 (T k).2.2.1 && (!(T k).2.2.2 || (decide (nm = "<init>") && decide ((T k).1 = own) && kind == 0))
      | _ => false)
    | _ => false)
  | .new idx => (match rs with
    | ci :: p :: q :: i :: _ => (match cm_nth K.2.2.1 ci with
      | some (C, _, N) => cm_w K.1 p (.classLink own idx C) && cm_w K.1 q (.instantiable C N) && cm_w K.1 i (.initialized C)
      | _ => false)
    | _ => false)
  | .newarray a => (match rs with
    | p :: _ => cm_w K.1 p (.arrayClass (newarray.typeOf a)) && (a == .int || a == .byte)
    | _ => false)
  | .getstatic idx => (match rs with
    | i :: si :: kind :: p :: _ => (match cm_nth K.2.2.2.2.1 si with
      | some (C, n, d, j) => decide (i = j) && cm_wF K kind p own idx C n d
      | _ => false)
    | _ => false)
  | .invokestatic idx => (match rs with
    | 0 :: callee :: na :: kind :: p :: q :: i :: _ => (match cm_nth K.2.2.2.1 callee with
      | some (y, _, _) => cm_wM K kind p own idx y && cm_w K.1 q (.static y) && cm_w K.1 i (.initialized y.cls) && cm_na y na
      | _ => false)
    | 4 :: p :: q :: i :: j :: _ => cm_w K.1 p (.methodLink own idx arraycopyName) && cm_w K.1 q (.native arraycopyName) && cm_w K.1 i (.static arraycopyName) && cm_w K.1 j (.initialized "java/lang/System")
    | 5 :: p :: q :: i :: j :: _ => cm_w K.1 p (.methodLink own idx Lib.Math.max.name) && cm_w K.1 q (.static Lib.Math.max.name) && cm_w K.1 i (.initialized "java/lang/Math") && cm_w K.1 j (.code Lib.Math.max.name Lib.Math.max.code 2 (some .int))
    | 6 :: p :: q :: i :: j :: _ => cm_w K.1 p (.methodLink own idx Lib.Math.min.name) && cm_w K.1 q (.static Lib.Math.min.name) && cm_w K.1 i (.initialized "java/lang/Math") && cm_w K.1 j (.code Lib.Math.min.name Lib.Math.min.code 2 (some .int))
    | 7 :: p :: q :: i :: j :: _ => cm_w K.1 p (.methodLink own idx Lib.Math.abs.name) && cm_w K.1 q (.static Lib.Math.abs.name) && cm_w K.1 i (.initialized "java/lang/Math") && cm_w K.1 j (.code Lib.Math.abs.name Lib.Math.abs.code 1 (some .int))
    | _ => false)
  | .invokevirtual idx => (match rs with
    | ci :: callee :: na :: kind :: p :: q :: i :: j :: _ => (match cm_nth K.2.2.2.1 callee with
      | some (y, _, _) => decide (cm_cn K ci = some y.cls) && cm_wM K kind p own idx y && cm_w K.1 q (.instanceMethod y) && cm_w K.1 i (.selects y.cls y y) && cm_w K.1 j (.initialized y.cls) && cm_na y na
      | _ => false)
    | _ => false)
  | .invokespecial idx => (match rs with
    | 9 :: p :: q :: i :: _ => cm_w K.1 p (.methodLink own idx objectInit) && cm_w K.1 q (.instanceMethod objectInit) && cm_w K.1 i (.code objectInit ⟨#[0xb1]⟩ 1 none)
    | 0 :: callee :: na :: kind :: p :: q :: i :: _ => (match cm_nth K.2.2.2.1 callee with
      | some (y, _, _) => cm_wM K kind p own idx y && cm_w K.1 q (.instanceMethod y) && cm_w K.1 i (.initialized y.cls) && decide (y.name = "<init>") && cm_na y na
      | _ => false)
    | _ => false)
  | _ => true
/-- how long an instruction is (0: not asked) -/
def cm_ln : Instr → Nat
  | .tableswitch .. => 0
  | .lookupswitch .. => 0
  | .iload _ => 2
  | .lload _ => 2
  | .aload _ => 2
  | .istore _ => 2
  | .astore _ => 2
  | .bipush _ => 2
  | .sipush _ => 3
  | .ldc _ => 2
  | .ldc_w _ => 3
  | .ldc2_w _ => 3
  | .iinc _ _ => 3
  | .goto _ => 3
  | .ifCond _ _ => 3
  | .if_icmp _ _ => 3
  | .getfield _ => 3
  | .putfield _ => 3
  | .getstatic _ => 3
  | .new _ => 3
  | .newarray _ => 2
  | .invokestatic _ => 3
  | .invokevirtual _ => 3
  | .invokespecial _ => 3
  | _ => 1
/-- an instruction as the tables have it: decoded, linked -/
def cm_rowB (K : cm_K) (bytes : ByteArray) (own nm : String) (pc : Nat) (i : cm_I) : Bool :=
  decide (decode bytes pc = .ok (i.1, i.2.1 - pc)) && (cm_ln i.1 == 0 || pc + cm_ln i.1 == i.2.1) && cm_j K own nm pc i.1 i.2.2
theorem cm_row {K : cm_K} {bytes : ByteArray} {own nm : String} {pc np : Nat} {ins : Instr} {rs : List Nat} (h : cm_rowB K bytes own nm pc (ins, np, rs) = true) (k : Nat) (hk : cm_ln ins = k) (h0 : ¬ k = 0) : np = pc + k ∧ decode bytes pc = .ok (ins, k) ∧ cm_j K own nm pc ins rs = true := by
  unfold cm_rowB at h
  simp only [Bool.and_eq_true, Bool.or_eq_true, decide_eq_true_eq, beq_iff_eq, hk] at h
  obtain ⟨⟨h1, h2⟩, h3⟩ := h
  have h4 := h2.resolve_left h0
  subst h4
  rw [Nat.add_sub_cancel_left] at h1
  exact ⟨rfl, h1, h3⟩
theorem cm_w_ok {Ts : List Cond} {p : Nat} {w : Cond} (h : cm_w Ts p w = true) : w ∈ Ts := by
  unfold cm_w at h
  rw [decide_eq_true_eq, cm_nthR_eq] at h
  exact List.mem_of_getElem? h
end
