/-! AN INTERPRETER of the bytecode over a list of cells: a value is a Term that is a constant: 'int', 'long', 'null', 'index k' (the k-th cell made since the start) or 'string _ k' (an old cell, which nobody writes). What it answers, the Java machine does: cm_sound. -/
abbrev cm_C : Type := (FieldType × List Term) ⊕ (Nat × List Term)
abbrev cm_H : Type := List cm_C
/-- the answer, the cells, how many cells and slots have come -/
abbrev cm_R : Type := Option Term × cm_H × Nat × Nat
abbrev cm_Lv : Type := List (Option Term)
/-- an instruction, the pc behind it, numbers that it was linked to -/
abbrev cm_I : Type := Instr × Nat × List Nat
/-- a method: its code in chunks of sixteen, how many variables, what it returns -/
abbrev cm_M : Type := List (List (Option cm_I)) × Nat × Option FieldType
/-- methods; kinds of cell (types of their fields); static fields; old arrays; old objects -/
abbrev cm_G : Type := List cm_M × List (List FieldType) × List Term × List (Option (FieldType × List Term)) × List (Option (Nat × List Term))
def cm_nth {α : Type} : List α → Nat → Option α
  | [], _ => none
  | x :: _, 0 => some x
  | _ :: xs, i + 1 => cm_nth xs i
/-- a list with one place changed, laid out -/
def cm_set {α β : Type} : List α → Nat → α → (List α → β) → β
  | [], _, _, k => k []
  | _ :: xs, 0, v, k => k (v :: xs)
  | x :: xs, i + 1, v, k => cm_set xs i v (fun ys => k (x :: ys))
/-- a list with one place more, laid out -/
def cm_app {α β : Type} : List α → α → (List α → β) → β
  | [], v, k => k [v]
  | x :: xs, v, k => cm_app xs v (fun ys => k (x :: ys))
def cm_ev (b0 : Nat) (sa : Nat → Nat) : Term → Value
  | .int v => .int v
  | .long v => .long v
  | .index k => .ref (b0 + k)
  | .string _ k => .ref (sa k)
  | _ => .null
/-- of what sort: 1 an int, 2 a long, 3 a reference -/
def cm_ty : Term → Nat
  | .int _ => 1
  | .long _ => 2
  | .null => 3
  | .index _ => 3
  | .string _ _ => 3
  | _ => 0
/-- a value of one word -/
def cm_w1 (t : Term) : Bool := cm_ty t == 1 || cm_ty t == 3
def cm_cb (c : ClassFile.Cond) (x y : Int32) : Bool := match c with
  | .lt => decide (x < y)
  | .ge => !decide (x < y)
  | .gt => decide (y < x)
  | .le => !decide (y < x)
  | .eq => decide (x = y)
  | .ne => !decide (x = y)
def cm_at (c : List (List (Option cm_I))) (pc : Nat) : Option cm_I := match cm_nth c (pc / 16) with
  | none => none
  | some l => match cm_nth l (pc % 16) with
    | some (some i) => some i
    | _ => none
def cm_ld {β : Type} (lv : cm_Lv) (i T : Nat) (k : Term → Option β) : Option β := match cm_nth lv i with
  | some (some t) => if cm_ty t = T then k t else none
  | _ => none
/-- no long lies at the place ahead of i -/
def cm_noL (lv : cm_Lv) (i : Nat) : Bool := match i with
  | 0 => true
  | j + 1 => match cm_nth lv j with
    | some (some t) => cm_w1 t
    | _ => true
def cm_sto {β : Type} (lv : cm_Lv) (i : Nat) (t : Term) (k : cm_Lv → Option β) : Option β :=
  if cm_noL lv i = true ∧ i < lv.length then cm_set lv i (some t) k else none
/-- a value as a field of a type holds it -/
def cm_dv (t : Term) : FieldType → Bool
  | .int => cm_ty t == 1
  | .long => cm_ty t == 2
  | .object _ => cm_ty t == 3
  | .array _ => cm_ty t == 3
  | .boolean => match t with
    | .int v => decide (narrow .boolean (.int v) = .int v ∧ fits .boolean (.int v) = true)
    | _ => false
  | .byte => match t with
    | .int v => decide (narrow .byte (.int v) = .int v ∧ fits .byte (.int v) = true)
    | _ => false
  | .char => match t with
    | .int v => decide (narrow .char (.int v) = .int v ∧ fits .char (.int v) = true)
    | _ => false
  | .short => match t with
    | .int v => decide (narrow .short (.int v) = .int v ∧ fits .short (.int v) = true)
    | _ => false
  | _ => false
def cm_d0 : FieldType → Term
  | .long => .long 0
  | .object _ => .null
  | .array _ => .null
  | _ => .int 0
/-- a type whose first value is a constant of ours -/
def cm_tyok : FieldType → Bool
  | .float => false
  | .double => false
  | _ => true
def cm_cat : List Term → Nat
  | [] => 0
  | t :: l => (if cm_w1 t = true then 1 else 2) + cm_cat l
def cm_okA : List Term → Bool
  | [] => true
  | t :: l => (cm_w1 t || cm_ty t == 2) && cm_okA l
/-- n values off the stack, the deepest first -/
def cm_pop {β : Type} : Nat → List Term → List Term → (List Term → List Term → Option β) → Option β
  | 0, st, acc, k => k acc st
  | n + 1, t :: st, acc, k => cm_pop n st (t :: acc) k
  | _ + 1, [], _, _ => none
def cm_slots : List Term → cm_Lv
  | [] => []
  | t :: l => if cm_ty t = 2 then some t :: none :: cm_slots l else some t :: cm_slots l
def cm_ent (n : Nat) (l : List Term) : cm_Lv := cm_slots l ++ List.replicate (n - (cm_slots l).length) none
/-- an array's elements: of a new cell, or of an old one -/
def cm_arr {β : Type} (pg : cm_G) (h : cm_H) (ty : FieldType) (t : Term) (k : List Term → Option β) : Option β := match t with
  | .index i => match cm_nth h i with
    | some (.inl (u, l)) => if u = ty then k l else none
    | _ => none
  | .string _ i => match cm_nth pg.2.2.2.1 i with
    | some (some (u, l)) => if u = ty then k l else none
    | _ => none
  | _ => none
def cm_len {β : Type} (pg : cm_G) (h : cm_H) (t : Term) (k : Nat → Option β) : Option β := match t with
  | .index i => match cm_nth h i with
    | some (.inl (u, l)) => if u = .int ∨ u = .byte then k l.length else none
    | _ => none
  | .string _ i => match cm_nth pg.2.2.2.1 i with
    | some (some (_, l)) => k l.length
    | _ => none
  | _ => none
def cm_aload (pg : cm_G) (st : List Term) (h : cm_H) (ty : FieldType) (k : Int32 → List Term → Option cm_R) : Option cm_R := match st with
  | .int i :: a :: st => cm_arr pg h ty a (fun l => if 0 ≤ i.toInt then (match cm_nth l i.toInt.toNat with
      | some (.int v) => k v st
      | _ => none) else none)
  | _ => none
def cm_astore (st : List Term) (h : cm_H) (ty : FieldType) (f : Int32 → Int32) (k : List Term → cm_H → Option cm_R) : Option cm_R := match st with
  | .int v :: .int i :: .index a :: st => (match cm_nth h a with
      | some (.inl (u, l)) => if u = ty ∧ 0 ≤ i.toInt ∧ i.toInt.toNat < l.length then cm_set l i.toInt.toNat (.int (f v)) (fun l' => cm_set h a (.inl (u, l')) (fun h' => k st h')) else none
      | _ => none)
  | _ => none
def cm_get {β : Type} (pg : cm_G) (h : cm_H) (ci k kind : Nat) (t : Term) (kk : Term → Option β) : Option β := match t with
  | .index i => match cm_nth h i with
    | some (.inr (c, fs)) => if c = ci then (match cm_nth fs k with
        | some v => kk v
        | none => none) else none
    | _ => none
  | .string _ i => match cm_nth pg.2.2.2.2 i with
    | some (some (c, fs)) => if c = ci ∧ kind = 0 then (match cm_nth fs k with
        | some v => kk v
        | none => none) else none
    | _ => none
  | _ => none
def cm_fty (pg : cm_G) (ci k : Nat) : FieldType := match cm_nth pg.2.1 ci with
  | some l => (match cm_nth l k with
    | some ty => ty
    | none => .float)
  | none => .float
def cm_put (pg : cm_G) (h : cm_H) (ci k : Nat) (t v : Term) (kk : cm_H → Option cm_R) : Option cm_R := match t with
  | .index i => match cm_nth h i with
    | some (.inr (c, fs)) => if c = ci ∧ cm_dv v (cm_fty pg ci k) = true ∧ k < fs.length then cm_set fs k v (fun fs' => cm_set h i (.inr (ci, fs')) kk) else none
    | _ => none
  | _ => none
def cm_more (c s : Nat) : Option cm_R → Option cm_R
  | none => none
  | some (v, h, c', s') => some (v, h, c + c', s + s')
/-- the receiver of a call: a cell of the kind ci -/
def cm_recv (pg : cm_G) (h : cm_H) (ci : Nat) (args : List Term) : Bool := match args with
  | .index i :: _ => (match cm_nth h i with
    | some (.inr (c, _)) => c == ci
    | _ => false)
  | .string _ i :: _ => (match cm_nth pg.2.2.2.2 i with
    | some (some (c, _)) => c == ci
    | _ => false)
  | _ => false
def cm_isN : List Term → Bool
  | .index _ :: _ => true
  | _ => false
def cm_copy (h : cm_H) (args : List Term) (kk : cm_H → Option cm_R) : Option cm_R := match args with
  | [.index a, .int sp, .index b, .int dp, .int n] => (match cm_nth h a, cm_nth h b with
    | some (.inl (u, l)), some (.inl (w, m)) => if u = .int ∧ w = .int ∧ 0 ≤ sp.toInt ∧ 0 ≤ dp.toInt ∧ 0 ≤ n.toInt ∧ sp.toInt + n.toInt ≤ l.length ∧ dp.toInt + n.toInt ≤ m.length then
        cm_set h b (.inl (.int, m.take dp.toInt.toNat ++ ((l.drop sp.toInt.toNat).take n.toInt.toNat ++ m.drop (dp.toInt.toNat + n.toInt.toNat)))) kk else none
    | _, _ => none)
  | _ => none
def cm_call (pg : cm_G) (ih : Nat → cm_M → Nat → cm_Lv → List Term → cm_H → Option cm_R) (d : Nat) (callee : Nat) (args rest : List Term) (h : cm_H) (k : List Term → cm_H → Option cm_R) : Option cm_R :=
  match cm_nth pg.1 callee with
  | none => none
  | some mr => match d with
    | 0 => none
    | d + 1 => if cm_cat rest ≤ 8 ∧ (cm_slots args).length ≤ mr.2.1 ∧ cm_okA args = true then (match ih d mr 0 (cm_ent mr.2.1 args) [] h with
        | none => none
        | some (v, h', c, s) => cm_more c s (k (v.toList ++ rest) h')) else none
def cm_two {β : Type} (st : List Term) (k : Int32 → Int32 → List Term → Option β) : Option β := match st with
  | .int y :: .int x :: st => k x y st
  | _ => none
def cm_one {β : Type} (st : List Term) (k : Int32 → List Term → Option β) : Option β := match st with
  | .int x :: st => k x st
  | _ => none
def cm_twoL {β : Type} (st : List Term) (k : Int64 → Int64 → List Term → Option β) : Option β := match st with
  | .long y :: .long x :: st => k x y st
  | _ => none
def cm_twoM {β : Type} (st : List Term) (k : Int64 → Int32 → List Term → Option β) : Option β := match st with
  | .int y :: .long x :: st => k x y st
  | _ => none
def cm_ref {β : Type} (st : List Term) (k : Term → List Term → Option β) : Option β := match st with
  | t :: st => if cm_ty t = 3 then k t st else none
  | _ => none
def cm_sw (x lo hi : Int) (tg : List Nat) (k : Nat → Option cm_R) : Option cm_R := match tg with
  | [] => none
  | dflt :: tg => if x < lo ∨ hi < x then k dflt else (match cm_nth tg (x - lo).toNat with
    | none => none
    | some t => k t)
/-- a key among pairs: its place -/
def cm_find (x : Int) : List (Int × Int) → List Nat → Option Nat
  | (a, _) :: ps, t :: ts => if x = a then some t else cm_find x ps ts
  | [], [d] => some d
  | _, _ => none
def cm_ret (mr : cm_M) (t : Term) (h : cm_H) : Option cm_R := match mr.2.2 with
  | none => none
  | some ty => if cm_dv t ty = true then some (some t, h, 0, 0) else none
def cm_step (pg : cm_G) (ih : Nat → cm_M → Nat → cm_Lv → List Term → cm_H → Option cm_R) (d : Nat) (mr : cm_M) (pc : Nat) (lv : cm_Lv) (st : List Term) (h : cm_H) : Option cm_R :=
  match cm_at mr.1 pc with
  | none => none
  | some (ins, np, rs) => match ins with
    | .iconst v => ih d mr np lv (.int (Int32.ofInt v) :: st) h
    | .bipush v => ih d mr np lv (.int (Int8.ofInt v).toInt32 :: st) h
    | .sipush v => ih d mr np lv (.int (Int16.ofInt v).toInt32 :: st) h
    | .lconst v => ih d mr np lv (.long (Int64.ofNat v) :: st) h
    | .ldc _ => (match rs with
      | 0 :: n :: _ => ih d mr np lv (.int (Int32.ofNat n) :: st) h
      | 1 :: k :: _ => ih d mr np lv (.string "" k :: st) h
      | _ => none)
    | .ldc_w _ => (match rs with
      | n :: _ => ih d mr np lv (.int (Int32.ofNat n) :: st) h
      | _ => none)
    | .ldc2_w _ => (match rs with
      | n :: _ => ih d mr np lv (.long (Int64.ofNat n) :: st) h
      | _ => none)
    | .iload i => cm_ld lv i 1 (fun t => ih d mr np lv (t :: st) h)
    | .iload_n i => cm_ld lv i.val 1 (fun t => ih d mr np lv (t :: st) h)
    | .lload i => cm_ld lv i 2 (fun t => ih d mr np lv (t :: st) h)
    | .lload_n i => cm_ld lv i.val 2 (fun t => ih d mr np lv (t :: st) h)
    | .aload i => cm_ld lv i 3 (fun t => ih d mr np lv (t :: st) h)
    | .aload_n i => cm_ld lv i.val 3 (fun t => ih d mr np lv (t :: st) h)
    | .istore i => cm_one st (fun x st => cm_sto lv i (.int x) (fun lv => ih d mr np lv st h))
    | .istore_n i => cm_one st (fun x st => cm_sto lv i.val (.int x) (fun lv => ih d mr np lv st h))
    | .astore i => cm_ref st (fun t st => cm_sto lv i t (fun lv => ih d mr np lv st h))
    | .astore_n i => cm_ref st (fun t st => cm_sto lv i.val t (fun lv => ih d mr np lv st h))
    | .iinc i v => (match cm_nth lv i with
      | some (some (.int x)) => cm_sto lv i (.int (x + Int32.ofInt v)) (fun lv => ih d mr np lv st h)
      | _ => none)
    | .iadd => cm_two st (fun x y st => ih d mr np lv (.int (x + y) :: st) h)
    | .isub => cm_two st (fun x y st => ih d mr np lv (.int (x - y) :: st) h)
    | .imul => cm_two st (fun x y st => ih d mr np lv (.int (x * y) :: st) h)
    | .idiv => cm_two st (fun x y st => if y = 0 then none else ih d mr np lv (.int (x / y) :: st) h)
    | .irem => cm_two st (fun x y st => if y = 0 then none else ih d mr np lv (.int (x - x / y * y) :: st) h)
    | .iand => cm_two st (fun x y st => ih d mr np lv (.int (x &&& y) :: st) h)
    | .ior => cm_two st (fun x y st => ih d mr np lv (.int (x ||| y) :: st) h)
    | .ixor => cm_two st (fun x y st => ih d mr np lv (.int (x ^^^ y) :: st) h)
    | .ishl => cm_two st (fun x y st => ih d mr np lv (.int (x <<< (y &&& 31)) :: st) h)
    | .ishr => cm_two st (fun x y st => ih d mr np lv (.int (x >>> (y &&& 31)) :: st) h)
    | .iushr => cm_two st (fun x y st => ih d mr np lv (.int (x.toUInt32 >>> (y.toUInt32 &&& Int32.toUInt32 31)).toInt32 :: st) h)
    | .land => cm_twoL st (fun x y st => ih d mr np lv (.long (x &&& y) :: st) h)
    | .lor => cm_twoL st (fun x y st => ih d mr np lv (.long (x ||| y) :: st) h)
    | .lshl => cm_twoM st (fun x y st => ih d mr np lv (.long (x <<< (y.toInt64 &&& 63)) :: st) h)
    | .lshr => cm_twoM st (fun x y st => ih d mr np lv (.long (x >>> (y.toInt64 &&& 63)) :: st) h)
    | .lushr => cm_twoM st (fun x y st => ih d mr np lv (.long (x.toUInt64 >>> (y.toInt64.toUInt64 &&& Int64.toUInt64 63)).toInt64 :: st) h)
    | .lcmp => cm_twoL st (fun x y st => ih d mr np lv (.int (lg_cmp x y) :: st) h)
    | .ineg => cm_one st (fun x st => ih d mr np lv (.int (-x) :: st) h)
    | .i2l => cm_one st (fun x st => ih d mr np lv (.long x.toInt64 :: st) h)
    | .i2b => cm_one st (fun x st => ih d mr np lv (.int x.toInt8.toInt32 :: st) h)
    | .i2s => cm_one st (fun x st => ih d mr np lv (.int x.toInt16.toInt32 :: st) h)
    | .i2c => cm_one st (fun x st => ih d mr np lv (.int (x.toUInt32 % 65536).toInt32 :: st) h)
    | .l2i => (match st with
      | .long x :: st => ih d mr np lv (.int x.toInt32 :: st) h
      | _ => none)
    | .pop => (match st with
      | a :: st => if cm_w1 a = true then ih d mr np lv st h else none
      | _ => none)
    | .dup => (match st with
      | a :: st => if cm_w1 a = true then ih d mr np lv (a :: a :: st) h else none
      | _ => none)
    | .dup_x1 => (match st with
      | a :: b :: st => if cm_w1 a = true ∧ cm_w1 b = true then ih d mr np lv (a :: b :: a :: st) h else none
      | _ => none)
    | .dup2 => (match st with
      | a :: b :: st => if cm_w1 a = true ∧ cm_w1 b = true then ih d mr np lv (a :: b :: a :: b :: st) h else none
      | _ => none)
    | .goto _ => (match rs with
      | t :: _ => ih d mr t lv st h
      | _ => none)
    | .ifCond c _ => (match rs with
      | t :: _ => cm_one st (fun x st => ih d mr (if cm_cb c x 0 = true then t else np) lv st h)
      | _ => none)
    | .if_icmp c _ => (match rs with
      | t :: _ => cm_two st (fun x y st => ih d mr (if cm_cb c x y = true then t else np) lv st h)
      | _ => none)
    | .tableswitch _ lo hi _ => cm_one st (fun x st => cm_sw x.toInt lo hi rs (fun t => ih d mr t lv st h))
    | .lookupswitch _ ps => cm_one st (fun x st => match cm_find x.toInt ps.toList rs with
      | some t => ih d mr t lv st h
      | none => none)
    | .iaload => cm_aload pg st h .int (fun v st => ih d mr np lv (.int v :: st) h)
    | .baload => cm_aload pg st h .byte (fun v st => ih d mr np lv (.int v :: st) h)
    | .iastore => cm_astore st h .int (fun v => v) (fun st h => ih d mr np lv st h)
    | .bastore => cm_astore st h .byte (fun v => v.toInt8.toInt32) (fun st h => ih d mr np lv st h)
    | .arraylength => (match st with
      | a :: st => cm_len pg h a (fun n => ih d mr np lv (.int (Int32.ofNat n) :: st) h)
      | _ => none)
    | .newarray a => cm_one st (fun x st => if 0 ≤ x.toInt ∧ x.toInt < 4096 then
        cm_app h (.inl (newarray.typeOf a, List.replicate x.toInt.toNat (cm_d0 (newarray.typeOf a)))) (fun h' => cm_more 1 x.toInt.toNat (ih d mr np lv (.index h.length :: st) h')) else none)
    | .new _ => (match rs with
      | ci :: _ => (match cm_nth pg.2.1 ci with
        | none => none
        | some tys => cm_app h (.inr (ci, tys.map cm_d0)) (fun h' => cm_more 1 tys.length (ih d mr np lv (.index h.length :: st) h')))
      | _ => none)
    | .getfield _ => (match rs, st with
      | ci :: k :: kind :: _, t :: st => cm_get pg h ci k kind t (fun v => ih d mr np lv (v :: st) h)
      | _, _ => none)
    | .putfield _ => (match rs, st with
      | ci :: k :: _, v :: t :: st => cm_put pg h ci k t v (fun h' => ih d mr np lv st h')
      | _, _ => none)
    | .getstatic _ => (match rs with
      | i :: _ => (match cm_nth pg.2.2.1 i with
        | some t => ih d mr np lv (t :: st) h
        | none => none)
      | _ => none)
    | .invokestatic _ => (match rs with
      | 0 :: callee :: na :: _ => cm_pop na st [] (fun args rest => cm_call pg ih d callee args rest h (fun st h => ih d mr np lv st h))
      | 4 :: _ => cm_pop 5 st [] (fun args rest => if d = 0 ∨ 8 < cm_cat rest then none else cm_copy h args (fun h' => ih d mr np lv rest h'))
      | 5 :: _ => cm_two st (fun x y st => if d = 0 ∨ 8 < cm_cat st then none else ih d mr np lv (.int (if x < y then y else x) :: st) h)
      | 6 :: _ => cm_two st (fun x y st => if d = 0 ∨ 8 < cm_cat st then none else ih d mr np lv (.int (if y < x then y else x) :: st) h)
      | 7 :: _ => cm_one st (fun x st => if d = 0 ∨ 8 < cm_cat st then none else ih d mr np lv (.int (if 0 ≤ x then x else 0 - x) :: st) h)
      | _ => none)
    | .invokevirtual _ => (match rs with
      | ci :: callee :: na :: _ => cm_pop (na + 1) st [] (fun args rest => if cm_recv pg h ci args = true then cm_call pg ih d callee args rest h (fun st h => ih d mr np lv st h) else none)
      | _ => none)
    | .invokespecial _ => (match rs with
      | 9 :: _ => (match st with
        | .index _ :: st => if d = 0 ∨ 8 < cm_cat st then none else ih d mr np lv st h
        | _ => none)
      | 0 :: callee :: na :: _ => cm_pop (na + 1) st [] (fun args rest => if cm_isN args = true then cm_call pg ih d callee args rest h (fun st h => ih d mr np lv st h) else none)
      | _ => none)
    | .ireturn => (match st with
      | [.int x] => cm_ret mr (.int x) h
      | _ => none)
    | .return_ => if mr.2.2 = none ∧ st = [] then some (none, h, 0, 0) else none
    | _ => none
noncomputable def cm_run (pg : cm_G) (n : Nat) : Nat → cm_M → Nat → cm_Lv → List Term → cm_H → Option cm_R :=
  Nat.rec (fun _ _ _ _ _ _ => none) (fun _ ih => cm_step pg ih) n
