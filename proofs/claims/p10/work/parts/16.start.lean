/-! THE CLAIM OUT OF ONE WALK OF THE LAW'S BODY. Your part is whole_start (and what it stands on); all else here is the same for every law, but numbers. -/
def R_law : String := "GoodsBookLaw"
def lw_P (b : Addr) (xs : List Int32) (args : Array Value) (s : State) : Prop := args = #[.ref b] ∧ s.IntsAt b xs ∧ xs.length ≤ 3072 ∧ (Jvm.Cond.and given_1 narrow_1).before args s = true
def lw_Q (_ : Array Value) (s : State) (o : Outcome) (t : State) : Prop := o = .returned (some (.int 1)) ∧ Framed s o t [] 600000 7302250
def lw_Z (below : List Frame) (a : Array Value) (s : State) : State → Prop := fun t => ∃ o, t.status = .running ∧ Ended t below o ∧ lw_Q a s o t
/-- the law's own end, with 1 on the stack, nothing written that was there before, its room as the claim has it -/
theorem lw_ret {p : Program} {l : Launch} {e : Env} {s : State} {m : MethodId} {below : List Frame} {meth : Method} {c : Code} {b : Nat} (hx : p.tables.exec = Jvm.exec) (hb : c.code = code) (hr : meth.sig.returnType = ret) (hlocks : meth.locks = false) {pc : Nat} {H : Heap} {ls : Array Slot} (hdg : decode code pc = .ok (.ireturn, 1)) : W p l e room_1 s m #[Value.ref b] below meth c H [] 600000 7302250 (lw_Z below #[Value.ref b] s) (F0 m pc ls [.int 1]) := by
  intro T hT X
  obtain ⟨fs, hret, hrun, hended, hW, hframe⟩ := X.leave (v := some (.int 1)) (hlocks := hlocks) (fun h => by rw [hr] at h; cases h)
  have hmeth' : T.vm.method? m = some meth := X.method'
  refine ⟨T.setFrames fs, ?_, .returned (some (.int 1)), hrun, hended, rfl, ⟨_, rfl⟩, hW, hframe⟩
  jvm_step X.here [X.here.top, hx, hb, hdg, hmeth', hr, ret, narrow_b1]
  (try refine ⟨rfl, ?_⟩); (try refine ⟨rfl, ?_⟩)
  first | (intro acts; rw [hret _ acts rfl rfl rfl]) | rw [hret _ _ rfl rfl rfl]
  exact Steps.refl _
/-- what holds at the law's entry: the machine, the code, the tables' words (any of lw_tbl by 'hts w (by decide +kernel)'), the script of L ints xs at the cell b, what the Statement gives of the start (any of its parts by flat_of_before) -/
def lw_At (p : Program) (s : State) (m : MethodId) (meth : Method) (c : Code) (b L : Nat) (xs : Nat → Int32) : Prop :=
  p.tables.exec = Jvm.exec ∧ c.code = code ∧ meth.sig.returnType = ret ∧ c.maxLocals = 4 ∧ s.vm.findClass R_law = some m.cls ∧ (∀ w ∈ lw_tbl, w.before #[Value.ref b] s = true) ∧ va_X b L xs s s.heap ∧ b < s.heap.size ∧ meth.locks = false ∧ (Jvm.Cond.and given_1 narrow_1).before #[Value.ref b] s = true
/-- WHAT IS LEFT: on every script the interpreter's run of the law answers 1 -/
def cm_Pure : Prop := ∀ (x : Term) (xs : List Int32), (x = .null ∨ x = .string "" 14) → xs.length ≤ 3072 → ∃ (n : Nat) (h : cm_H) (cc ss : Nat), cm_run (cm_pg x xs) n 60 cm_m252 0 (cm_ent 4 [.string "" 0]) [] [] = some (some (.int 1), h, cc, ss) ∧ cc ≤ 600000 ∧ ss ≤ 7302250
theorem cm_ints (b0 : Nat) (sa : Nat → Nat) (vs : List Int32) : (fun j => cm_ev b0 sa ((vs.map Term.int).getD j (.int 0))) = fun j => Value.int (vs.getD j 0) := by
  funext j
  rw [List.getD_eq_getElem?_getD, List.getD_eq_getElem?_getD, List.getElem?_map]
  cases vs[j]? <;> rfl
theorem cm_inTs {w : Cond} (h : w ∈ cm_Ts) : w ∈ lw_tbl := (List.mem_filter.mp (show w ∈ lw_tbl.filter cm_wk from h)).1
theorem cm_i0 : Cond.instantiable "GoodsBook$Answer" 4 ∈ cm_Ts := cm_w_ok (p := 350) (by decide +kernel)
theorem cm_i1 : Cond.instantiable "GoodsBook$Bonds" 5 ∈ cm_Ts := cm_w_ok (p := 160) (by decide +kernel)
theorem cm_i2 : Cond.instantiable "GoodsBook$Book" 7 ∈ cm_Ts := cm_w_ok (p := 124) (by decide +kernel)
theorem cm_i3 : Cond.instantiable "GoodsBook$Draft" 12 ∈ cm_Ts := cm_w_ok (p := 273) (by decide +kernel)
theorem cm_i4 : Cond.instantiable "GoodsBook$Floor" 6 ∈ cm_Ts := cm_w_ok (p := 255) (by decide +kernel)
theorem cm_i5 : Cond.instantiable "GoodsBook$Goods" 6 ∈ cm_Ts := cm_w_ok (p := 129) (by decide +kernel)
theorem cm_i6 : Cond.instantiable "GoodsBook$Sack" 3 ∈ cm_Ts := cm_w_ok (p := 338) (by decide +kernel)
theorem cm_i7 : Cond.instantiable "GoodsBook$Search" 10 ∈ cm_Ts := cm_w_ok (p := 309) (by decide +kernel)
theorem cm_i8 : Cond.instantiable "GoodsBook$Sheets" 3 ∈ cm_Ts := cm_w_ok (p := 244) (by decide +kernel)
theorem cm_i9 : Cond.instantiable "GoodsBook$Tape" 4 ∈ cm_Ts := cm_w_ok (p := 230) (by decide +kernel)
theorem cm_i10 : Cond.instantiable "GoodsBook$Years" 4 ∈ cm_Ts := cm_w_ok (p := 188) (by decide +kernel)
theorem cm_i11 : Cond.instantiable "GoodsBook" 15 ∈ cm_Ts := cm_w_ok (p := 116) (by decide +kernel)
theorem cm_i12 : Cond.instantiable "GoodsBookModel" 23 ∈ cm_Ts := cm_w_ok (p := 996) (by decide +kernel)
set_option maxRecDepth 100000 in
theorem cm_known {b : Nat} {s : State} (hts : ∀ w ∈ lw_tbl, w.before #[Value.ref b] s = true) : ∃ (D : va_G), ∀ (k : Nat) (q : vw_C), cm_cls[k]? = some q → u_Kn s q.1 q.2.1 q.2.2 (D.1 k) (D.2 k) := by
  have h : ∀ k : Nat, ∃ d : ClassId × (Nat → Nat), ∀ q : vw_C, cm_cls[k]? = some q → u_Kn s q.1 q.2.1 q.2.2 d.1 d.2 := by
    intro k
    cases hk : cm_cls[k]? with
    | none => exact ⟨(0, fun _ => 0), fun q hq => by cases hq⟩
    | some q =>
      obtain ⟨C, T, N⟩ := q
      have hin := (cm_cok_ok (cm_cok_all k (List.getElem?_eq_some_iff.mp hk).1) C T N hk).1
      have hi : (Cond.instantiable C N).before #[Value.ref b] s = true := by
        match k, hk with
        | 0, hk => cases hk; exact hts _ (cm_inTs cm_i0)
        | 1, hk => cases hk; exact hts _ (cm_inTs cm_i1)
        | 2, hk => cases hk; exact hts _ (cm_inTs cm_i2)
        | 3, hk => cases hk; exact hts _ (cm_inTs cm_i3)
        | 4, hk => cases hk; exact hts _ (cm_inTs cm_i4)
        | 5, hk => cases hk; exact hts _ (cm_inTs cm_i5)
        | 6, hk => cases hk; exact hts _ (cm_inTs cm_i6)
        | 7, hk => cases hk; exact hts _ (cm_inTs cm_i7)
        | 8, hk => cases hk; exact hts _ (cm_inTs cm_i8)
        | 9, hk => cases hk; exact hts _ (cm_inTs cm_i9)
        | 10, hk => cases hk; exact hts _ (cm_inTs cm_i10)
        | 11, hk => cases hk; exact hts _ (cm_inTs cm_i11)
        | 12, hk => cases hk; exact hts _ (cm_inTs cm_i12)
        | k + 13, hk => simp [cm_cls] at hk
      obtain ⟨c0, iS, hK⟩ := u_known hts (fun w hw => cm_inTs (hin w hw)) hi
      exact ⟨(c0, iS), fun q hq => by cases hq; exact hK⟩
  obtain ⟨f, hf⟩ := Classical.axiomOfChoice h
  exact ⟨(fun k => (f k).1, fun k => (f k).2), hf⟩
theorem cm_st1 : Cond.laysStatic "GoodsBook" "MOST_SET" "[I" ∈ lw_tbl := List.mem_of_getElem? (i := 576) (by decide +kernel)
theorem cm_st2 : Cond.laysStatic "GoodsBook" "THREES" "[I" ∈ lw_tbl := List.mem_of_getElem? (i := 824) (by decide +kernel)
theorem cm_st3 : Cond.laysStatic "GoodsBook$Years" "TIMES" "[I" ∈ lw_tbl := List.mem_of_getElem? (i := 1117) (by decide +kernel)
theorem cm_st4 : Cond.laysStatic "java/lang/String" "COMPACT_STRINGS" "Z" ∈ lw_tbl := List.mem_of_getElem? (i := 672) (by decide +kernel)
theorem cm_st5 : Cond.laysStatic "jdk/internal/util/Preconditions" "SIOOBE_FORMATTER" "Ljava/util/function/BiFunction;" ∈ lw_tbl := List.mem_of_getElem? (i := 688) (by decide +kernel)
theorem cm_sr0 : Cond.stringRef "GoodsBook$Tape" 66 "plrf" ∈ lw_tbl := List.mem_of_getElem? (i := 658) (by decide +kernel)
theorem cm_sr1 : Cond.stringRef "GoodsBook$Tape" 72 "0123" ∈ lw_tbl := List.mem_of_getElem? (i := 711) (by decide +kernel)
theorem cm_sr2 : Cond.stringRef "GoodsBook$Tape" 88 "1234" ∈ lw_tbl := List.mem_of_getElem? (i := 717) (by decide +kernel)
theorem cm_sr3 : Cond.stringRef "GoodsBook$Tape" 100 "ofenvh" ∈ lw_tbl := List.mem_of_getElem? (i := 727) (by decide +kernel)
theorem cm_sr4 : Cond.stringRef "GoodsBook$Tape" 102 "+-" ∈ lw_tbl := List.mem_of_getElem? (i := 728) (by decide +kernel)
set_option maxHeartbeats 4000000 in
set_option maxRecDepth 100000 in
/-- the old cells at the start -/
theorem cm_start0 {s : State} {b L : Nat} {xs : Nat → Int32} (hts : ∀ w ∈ lw_tbl, w.before #[Value.ref b] s = true) (hX : va_X b L xs s s.heap) (hbl : b < s.heap.size) (hgv : (Jvm.Cond.and given_1 narrow_1).before #[Value.ref b] s = true) : ∃ (D : va_G) (sa : Nat → Nat) (dA : FieldType → ClassId) (x : Term), (x = .null ∨ x = .string "" 14) ∧ sa 0 = b ∧ cm_SW (cm_pg x ((List.range L).map xs)) cm_Kk D s.heap.size sa dA s := by
  have hs := flat_of_before _ hgv
  have hA : ∀ a : Nat, a < s.heap.size → ¬ cm_A s.heap.size a := fun a h => Nat.not_le.mpr h
  obtain ⟨D, hKn⟩ := cm_known hts
  obtain ⟨cI, kI, compI, hnI, hkI, hkkI⟩ := Cond.arrayClass_spec (hts (.arrayClass .int) (cm_inTs (cm_w_ok (p := 158) (by decide +kernel))))
  obtain ⟨cB, kB, compB, hnB, hkB, hkkB⟩ := Cond.arrayClass_spec (hts (.arrayClass .byte) (cm_inTs (cm_w_ok (p := 242) (by decide +kernel))))
  have hE1 : ∀ j : Nat, j < 3 → (Cond.eq (.elem (.static "GoodsBook" "MOST_SET" "[I") (.int (Int32.ofNat j))) (.int (([99, 999, 999] : List Int32).getD j 0))).before #[Value.ref b] s = true := fun j hj => hs _ (by
    have h9 : ∀ j, j < 3 → Cond.eq (.elem (.static "GoodsBook" "MOST_SET" "[I") (.int (Int32.ofNat j))) (.int (([99, 999, 999] : List Int32).getD j 0)) ∈ flatC (Jvm.Cond.and given_1 narrow_1) := by decide +kernel
    exact h9 j hj)
  obtain ⟨t1, e1, T1⟩ := va_Tof (tm := .static "GoodsBook" "MOST_SET" "[I") (ty := .int) (N := 3) (f := fun j => .int (([99, 999, 999] : List Int32).getD j 0)) (A := cm_A s.heap.size) (by decide) (hs _ (by decide +kernel)) (va_eqt (z := 3) (hs _ (by decide +kernel))) (fun j hj => va_eqt (hE1 j hj)) hA
  have Z1 := va_Zref (hts (.laysStatic "GoodsBook" "MOST_SET" "[I") (cm_st1)) (hts (.initialized "GoodsBook") (cm_inTs (cm_w_ok (p := 94) (by decide +kernel)))) e1 hA
  have hE2 : ∀ j : Nat, j < 6 → (Cond.eq (.elem (.static "GoodsBook" "THREES" "[I") (.int (Int32.ofNat j))) (.int (([1, 3, 9, 27, 81, 243] : List Int32).getD j 0))).before #[Value.ref b] s = true := fun j hj => hs _ (by
    have h9 : ∀ j, j < 6 → Cond.eq (.elem (.static "GoodsBook" "THREES" "[I") (.int (Int32.ofNat j))) (.int (([1, 3, 9, 27, 81, 243] : List Int32).getD j 0)) ∈ flatC (Jvm.Cond.and given_1 narrow_1) := by decide +kernel
    exact h9 j hj)
  obtain ⟨t2, e2, T2⟩ := va_Tof (tm := .static "GoodsBook" "THREES" "[I") (ty := .int) (N := 6) (f := fun j => .int (([1, 3, 9, 27, 81, 243] : List Int32).getD j 0)) (A := cm_A s.heap.size) (by decide) (hs _ (by decide +kernel)) (va_eqt (z := 6) (hs _ (by decide +kernel))) (fun j hj => va_eqt (hE2 j hj)) hA
  have Z2 := va_Zref (hts (.laysStatic "GoodsBook" "THREES" "[I") (cm_st2)) (hts (.initialized "GoodsBook") (cm_inTs (cm_w_ok (p := 94) (by decide +kernel)))) e2 hA
  have hE3 : ∀ j : Nat, j < 3 → (Cond.eq (.elem (.static "GoodsBook$Years" "TIMES" "[I") (.int (Int32.ofNat j))) (.int (([1, 2, 4] : List Int32).getD j 0))).before #[Value.ref b] s = true := fun j hj => hs _ (by
    have h9 : ∀ j, j < 3 → Cond.eq (.elem (.static "GoodsBook$Years" "TIMES" "[I") (.int (Int32.ofNat j))) (.int (([1, 2, 4] : List Int32).getD j 0)) ∈ flatC (Jvm.Cond.and given_1 narrow_1) := by decide +kernel
    exact h9 j hj)
  obtain ⟨t3, e3, T3⟩ := va_Tof (tm := .static "GoodsBook$Years" "TIMES" "[I") (ty := .int) (N := 3) (f := fun j => .int (([1, 2, 4] : List Int32).getD j 0)) (A := cm_A s.heap.size) (by decide) (hs _ (by decide +kernel)) (va_eqt (z := 3) (hs _ (by decide +kernel))) (fun j hj => va_eqt (hE3 j hj)) hA
  have Z3 := va_Zref (hts (.laysStatic "GoodsBook$Years" "TIMES" "[I") (cm_st3)) (hts (.initialized "GoodsBook$Years") (cm_inTs (cm_w_ok (p := 98) (by decide +kernel)))) e3 hA
  have Zc := va_Zof (A := cm_A s.heap.size) (hts (.laysStatic "java/lang/String" "COMPACT_STRINGS" "Z") cm_st4) (hts (.initialized "java/lang/String") (cm_inTs (cm_w_ok (p := 109) (by decide +kernel)))) (va_eqi (z := 1) (hs _ (by decide +kernel))) hA
  have Zq := va_Zqof (A := cm_A s.heap.size) (hts (.laysStatic "jdk/internal/util/Preconditions" "SIOOBE_FORMATTER" "Ljava/util/function/BiFunction;") cm_st5) (hts (.initialized "jdk/internal/util/Preconditions") (cm_inTs (cm_w_ok (p := 111) (by decide +kernel)))) (hs _ (by decide +kernel)) hA
  obtain ⟨adK, adV, hVS, hVE⟩ := vk_Sof (args := #[Value.ref b]) (s := s) (N := 5) (tm := fun i => Term.string "GoodsBook$Tape" (([66, 72, 88, 100, 102] : List Nat).getD i 0)) (len := [4, 4, 4, 6, 2]) (byt := [[112, 108, 114, 102], [48, 49, 50, 51], [49, 50, 51, 52], [111, 102, 101, 110, 118, 104], [43, 45]]) (A := cm_A s.heap.size)
    (by decide +kernel)
    (fun i hi => hs _ ((show ∀ i, i < 5 → Cond.exactly ((fun i => Term.string "GoodsBook$Tape" (([66, 72, 88, 100, 102] : List Nat).getD i 0)) i) "java/lang/String" ∈ flatC (Jvm.Cond.and given_1 narrow_1) by decide +kernel) i hi))
    (fun i hi => hs _ ((show ∀ i, i < 5 → Cond.eq (.field ((fun i => Term.string "GoodsBook$Tape" (([66, 72, 88, 100, 102] : List Nat).getD i 0)) i) "java/lang/String" "coder" "B") (.int 0) ∈ flatC (Jvm.Cond.and given_1 narrow_1) by decide +kernel) i hi))
    (fun i hi => hs _ ((show ∀ i, i < 5 → Cond.arrayOf (.field ((fun i => Term.string "GoodsBook$Tape" (([66, 72, 88, 100, 102] : List Nat).getD i 0)) i) "java/lang/String" "value" "[B") .byte ∈ flatC (Jvm.Cond.and given_1 narrow_1) by decide +kernel) i hi))
    (fun i hi => hs _ ((show ∀ i, i < 5 → Cond.eq (.length (.field ((fun i => Term.string "GoodsBook$Tape" (([66, 72, 88, 100, 102] : List Nat).getD i 0)) i) "java/lang/String" "value" "[B")) (.int (Int32.ofNat (([4, 4, 4, 6, 2] : List Nat).getD i 0))) ∈ flatC (Jvm.Cond.and given_1 narrow_1) by decide +kernel) i hi))
    (fun i hi j hj => hs _ ((show ∀ i, i < 5 → ∀ j, j < ([4, 4, 4, 6, 2] : List Nat).getD i 0 → Cond.eq (.elem (.field ((fun i => Term.string "GoodsBook$Tape" (([66, 72, 88, 100, 102] : List Nat).getD i 0)) i) "java/lang/String" "value" "[B") (.int (Int32.ofNat j))) (.int ((([[112, 108, 114, 102], [48, 49, 50, 51], [49, 50, 51, 52], [111, 102, 101, 110, 118, 104], [43, 45]] : List (List Int32)).getD i []).getD j 0)) ∈ flatC (Jvm.Cond.and given_1 narrow_1) by decide +kernel) i hi j hj))
    (fun i j hi hj hij => ((show ∀ i, i < 5 → ∀ j, j < 5 → i ≠ j → (Cond.not (Cond.eq ((fun i => Term.string "GoodsBook$Tape" (([66, 72, 88, 100, 102] : List Nat).getD i 0)) i) ((fun i => Term.string "GoodsBook$Tape" (([66, 72, 88, 100, 102] : List Nat).getD i 0)) j)) ∈ flatC (Jvm.Cond.and given_1 narrow_1) ∨ Cond.not (Cond.eq ((fun i => Term.string "GoodsBook$Tape" (([66, 72, 88, 100, 102] : List Nat).getD i 0)) j) ((fun i => Term.string "GoodsBook$Tape" (([66, 72, 88, 100, 102] : List Nat).getD i 0)) i)) ∈ flatC (Jvm.Cond.and given_1 narrow_1)) by decide +kernel) i hi j hj hij).imp (hs _) (hs _)) hA
  obtain ⟨x, tq, hxq, Zx⟩ : ∃ (x : Term) (tq : Nat), (x = .null ∨ x = .string "" 14) ∧ va_Z "jdk/internal/util/Preconditions" "SIOOBE_FORMATTER" "Ljava/util/function/BiFunction;" (match x with | .null => .null | _ => .ref tq) (cm_A s.heap.size) s s.heap := by
    rcases Zq with h | ⟨t, h⟩
    · exact ⟨.null, 0, Or.inl rfl, h⟩
    · exact ⟨.string "" 14, t, Or.inr rfl, h⟩
  obtain ⟨sa, s0, s1, s2, s3, sK, sV, sq⟩ : ∃ sa : Nat → Nat, sa 0 = b ∧ sa 1 = t1 ∧ sa 2 = t2 ∧ sa 3 = t3 ∧ (∀ i, i < 5 → sa (4 + i) = adK i) ∧ (∀ i, i < 5 → sa (9 + i) = adV i) ∧ sa 14 = tq := by
    refine ⟨fun i => if i = 0 then b else if i = 1 then t1 else if i = 2 then t2 else if i = 3 then t3 else if i < 9 then adK (i - 4) else if i < 14 then adV (i - 9) else tq, rfl, rfl, rfl, rfl, fun i hi => ?_, fun i hi => ?_, rfl⟩
    · show (if 4 + i = 0 then b else _) = _
      rw [if_neg (by omega), if_neg (by omega), if_neg (by omega), if_neg (by omega), if_pos (by omega)]
      congr 1
      omega
    · show (if 9 + i = 0 then b else _) = _
      rw [if_neg (by omega), if_neg (by omega), if_neg (by omega), if_neg (by omega), if_neg (by omega), if_pos (by omega)]
      congr 1
      omega
  refine ⟨D, sa, fun ty => if ty = .int then cI else cB, x, hxq, s0, ⟨hKn, ?_⟩, Nat.le_refl _, ?_, ?_, ?_, ?_, ?_⟩
  · intro k q hk
    match k, hk with
    | 0, hk =>
      cases hk
      exact ⟨fun n z => ⟨fun k h => (by cases h), kI, hkI, compI, hkkI⟩, hnI⟩
    | 1, hk =>
      cases hk
      exact ⟨fun n z => ⟨fun k h => (by cases h), kB, hkB, compB, hkkB⟩, hnB⟩
    | k + 2, hk => simp [cm_tl] at hk
  · intro i ty l hi
    match i, hi with
    | 0, hi =>
      cases hi
      rw [cm_ints, s0]
      obtain ⟨scr, h1, h2, h3, h4, h5⟩ := hX
      refine ⟨scr, h1, h2, h3, ?_, ?_, ?_, hA _ hbl⟩
      · simp [h4]
      · rw [h4]; simp
      · intro j hj
        simp at hj
        rw [h5 j hj]
        simp [List.getD_eq_getElem?_getD, hj]
    | 1, hi =>
      cases hi
      have e := cm_ints s.heap.size sa [99, 999, 999]
      simp only [List.map] at e
      rw [s1, e]
      exact T1
    | 2, hi =>
      cases hi
      have e := cm_ints s.heap.size sa [1, 3, 9, 27, 81, 243]
      simp only [List.map] at e
      rw [s2, e]
      exact T2
    | 3, hi =>
      cases hi
      have e := cm_ints s.heap.size sa [1, 2, 4]
      simp only [List.map] at e
      rw [s3, e]
      exact T3
    | 4, hi => cases hi
    | 5, hi => cases hi
    | 6, hi => cases hi
    | 7, hi => cases hi
    | 8, hi => cases hi
    | 9, hi =>
      cases hi
      have e := cm_ints s.heap.size sa [112, 108, 114, 102]
      simp only [List.map] at e
      rw [show sa 9 = adV 0 from sV 0 (by decide), e]
      exact (hVS.1 0 (by decide)).2.2.2
    | 10, hi =>
      cases hi
      have e := cm_ints s.heap.size sa [48, 49, 50, 51]
      simp only [List.map] at e
      rw [show sa 10 = adV 1 from sV 1 (by decide), e]
      exact (hVS.1 1 (by decide)).2.2.2
    | 11, hi =>
      cases hi
      have e := cm_ints s.heap.size sa [49, 50, 51, 52]
      simp only [List.map] at e
      rw [show sa 11 = adV 2 from sV 2 (by decide), e]
      exact (hVS.1 2 (by decide)).2.2.2
    | 12, hi =>
      cases hi
      have e := cm_ints s.heap.size sa [111, 102, 101, 110, 118, 104]
      simp only [List.map] at e
      rw [show sa 12 = adV 3 from sV 3 (by decide), e]
      exact (hVS.1 3 (by decide)).2.2.2
    | 13, hi =>
      cases hi
      have e := cm_ints s.heap.size sa [43, 45]
      simp only [List.map] at e
      rw [show sa 13 = adV 4 from sV 4 (by decide), e]
      exact (hVS.1 4 (by decide)).2.2.2
    | k + 14, hi => simp [cm_pg, cm_oA] at hi
  · intro i c0 fs hi
    match i, hi with
    | 0, hi => cases hi
    | 1, hi => cases hi
    | 2, hi => cases hi
    | 3, hi => cases hi
    | 4, hi =>
      cases hi
      rw [show sa 4 = adK 0 from sK 0 (by decide)]
      refine ⟨("java/lang/String", cm_oT), ⟨rfl, rfl⟩, (hVS.1 0 (by decide)).1, fun k t ht => ?_⟩
      match k, ht with
      | 0, ht =>
        cases ht
        show va_OF _ _ _ (.ref (sa 9)) _ _ _ _
        rw [show sa 9 = adV 0 from sV 0 (by decide)]
        exact (hVS.1 0 (by decide)).2.2.1
      | 1, ht => cases ht; exact (hVS.1 0 (by decide)).2.1
      | k + 2, ht => simp at ht
    | 5, hi =>
      cases hi
      rw [show sa 5 = adK 1 from sK 1 (by decide)]
      refine ⟨("java/lang/String", cm_oT), ⟨rfl, rfl⟩, (hVS.1 1 (by decide)).1, fun k t ht => ?_⟩
      match k, ht with
      | 0, ht =>
        cases ht
        show va_OF _ _ _ (.ref (sa 10)) _ _ _ _
        rw [show sa 10 = adV 1 from sV 1 (by decide)]
        exact (hVS.1 1 (by decide)).2.2.1
      | 1, ht => cases ht; exact (hVS.1 1 (by decide)).2.1
      | k + 2, ht => simp at ht
    | 6, hi =>
      cases hi
      rw [show sa 6 = adK 2 from sK 2 (by decide)]
      refine ⟨("java/lang/String", cm_oT), ⟨rfl, rfl⟩, (hVS.1 2 (by decide)).1, fun k t ht => ?_⟩
      match k, ht with
      | 0, ht =>
        cases ht
        show va_OF _ _ _ (.ref (sa 11)) _ _ _ _
        rw [show sa 11 = adV 2 from sV 2 (by decide)]
        exact (hVS.1 2 (by decide)).2.2.1
      | 1, ht => cases ht; exact (hVS.1 2 (by decide)).2.1
      | k + 2, ht => simp at ht
    | 7, hi =>
      cases hi
      rw [show sa 7 = adK 3 from sK 3 (by decide)]
      refine ⟨("java/lang/String", cm_oT), ⟨rfl, rfl⟩, (hVS.1 3 (by decide)).1, fun k t ht => ?_⟩
      match k, ht with
      | 0, ht =>
        cases ht
        show va_OF _ _ _ (.ref (sa 12)) _ _ _ _
        rw [show sa 12 = adV 3 from sV 3 (by decide)]
        exact (hVS.1 3 (by decide)).2.2.1
      | 1, ht => cases ht; exact (hVS.1 3 (by decide)).2.1
      | k + 2, ht => simp at ht
    | 8, hi =>
      cases hi
      rw [show sa 8 = adK 4 from sK 4 (by decide)]
      refine ⟨("java/lang/String", cm_oT), ⟨rfl, rfl⟩, (hVS.1 4 (by decide)).1, fun k t ht => ?_⟩
      match k, ht with
      | 0, ht =>
        cases ht
        show va_OF _ _ _ (.ref (sa 13)) _ _ _ _
        rw [show sa 13 = adV 4 from sV 4 (by decide)]
        exact (hVS.1 4 (by decide)).2.2.1
      | 1, ht => cases ht; exact (hVS.1 4 (by decide)).2.1
      | k + 2, ht => simp at ht
    | k + 9, hi => simp [cm_pg, cm_oO] at hi
  · intro q hq
    simp only [cm_Kk, cm_sF, List.mem_cons, List.not_mem_nil, or_false] at hq
    rcases hq with rfl | rfl | rfl | rfl | rfl
    · exact ⟨.string "" 1, rfl, by show va_Z _ _ _ (.ref (sa 1)) _ _ _; rw [s1]; exact Z1⟩
    · exact ⟨.string "" 2, rfl, by show va_Z _ _ _ (.ref (sa 2)) _ _ _; rw [s2]; exact Z2⟩
    · exact ⟨.string "" 3, rfl, by show va_Z _ _ _ (.ref (sa 3)) _ _ _; rw [s3]; exact Z3⟩
    · exact ⟨.int 1, rfl, Zc⟩
    · refine ⟨x, rfl, ?_⟩
      rcases hxq with rfl | rfl
      · exact Zx
      · show va_Z _ _ _ (.ref (sa 14)) _ _ _
        rw [sq]
        exact Zx
  · intro q hq
    simp only [cm_Kk, cm_sR, List.mem_cons, List.not_mem_nil, or_false] at hq
    rcases hq with rfl | rfl | rfl | rfl | rfl
    · show vk_R _ _ _ (sa 4) _
      rw [show sa 4 = adK 0 from sK 0 (by decide)]
      exact vk_R.of (hts _ cm_sr0) (hVE 0 (by decide))
    · show vk_R _ _ _ (sa 5) _
      rw [show sa 5 = adK 1 from sK 1 (by decide)]
      exact vk_R.of (hts _ cm_sr1) (hVE 1 (by decide))
    · show vk_R _ _ _ (sa 6) _
      rw [show sa 6 = adK 2 from sK 2 (by decide)]
      exact vk_R.of (hts _ cm_sr2) (hVE 2 (by decide))
    · show vk_R _ _ _ (sa 7) _
      rw [show sa 7 = adK 3 from sK 3 (by decide)]
      exact vk_R.of (hts _ cm_sr3) (hVE 3 (by decide))
    · show vk_R _ _ _ (sa 8) _
      rw [show sa 8 = adK 4 from sK 4 (by decide)]
      exact vk_R.of (hts _ cm_sr4) (hVE 4 (by decide))
  · intro w hw
    have hw' : w ∈ lw_tbl.filter cm_nest := hw
    obtain ⟨h1, h2⟩ := List.mem_filter.mp hw'
    refine va_Nw.of ?_ (hts w h1)
    cases w <;> first | rfl | (simp [cm_nest] at h2)
set_option maxHeartbeats 4000000 in
set_option maxRecDepth 100000 in
/-- the law from its entry, out of the interpreter's run -/
theorem cm_whole_open (hp : cm_Pure) {p : Program} {e : Env} {s : State} {m : MethodId} {below : List Frame} {meth : Method} {c : Code} (l : Launch) {b L : Nat} {xs : Nat → Int32} (hL : L ≤ 3072) (C0 : lw_At p s m meth c b L xs) : W p l e room_1 s m #[Value.ref b] below meth c s.heap [] 0 0 (lw_Z below #[Value.ref b] s) (entryFrame m ([Value.ref b] : List Value).toArray 4) := by
  obtain ⟨hx, hb, hr, hml, hown, hts, hX, hbl, hlocks, hgv⟩ := id C0
  obtain ⟨D, sa, dA, x, hxq, hsa, hSW⟩ := cm_start0 hts hX hbl hgv
  obtain ⟨n, h, cc, ss, hrun, hcc, hss⟩ := hp x ((List.range L).map xs) hxq (by simpa using hL)
  have hv : [Value.ref b] = ([.string "" 0] : List Term).map (cm_ev s.heap.size sa) := by
    show _ = [Value.ref (sa 0)]
    rw [hsa]
  have hv2 : (lg_sl [Value.ref b] ++ List.replicate (4 - (lg_sl [Value.ref b]).length) Slot.unset).toArray = (lg_sl (([.string "" 0] : List Term).map (cm_ev s.heap.size sa)) ++ List.replicate (4 - (lg_sl (([.string "" 0] : List Term).map (cm_ev s.heap.size sa))).length) Slot.unset).toArray := by rw [← hv]
  rw [lg_entry_eq, hv2]
  refine cm_sound (cm_good x ((List.range L).map xs)) n 252 cm_m252 cm_n252 rfl rfl p e room_1 s m #[Value.ref b] below meth c (lw_Z below #[Value.ref b] s) (some (.int 1)) h ⟨hx, hb, hml, hown, fun w hw => hts w (cm_inTs hw), fun z => absurd z (by decide), hSW⟩ ?_ 60 0 (cm_ent 4 [.string "" 0]) [] [] _ hrun rfl rfl s.heap [] 0 0 _ ⟨⟨rfl, cm_entry rfl (by decide)⟩, ⟨rfl, fun k q hk => by simp [cm_ch] at hk⟩, va_S.rf, ⟨?_, ?_⟩, ⟨by decide, by decide⟩⟩
  · intro pc ls H locs cells slots hret hpic hS hc hs
    obtain ⟨ty, x0, -, -, hx0, hd⟩ := hret
    cases hx0
    refine va_forget (fun q hq => hS.2.2 q hq) ?_
    refine W.widen (k := 600000) (n := 7302250) hc hs ?_
    exact lw_ret hx hb hr hlocks hd
  · exact Nat.le_trans (Nat.le_of_eq (Nat.zero_add _)) hcc
  · exact Nat.le_trans (Nat.le_of_eq (Nat.zero_add _)) hss
