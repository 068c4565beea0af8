/-! what was there at the start and nobody writes -/
def cm_tl : List FieldType := [.int, .byte]
def cm_SW (pg : cm_G) (K : cm_K) (D : va_G) (b0 : Nat) (sa : Nat → Nat) (dA : FieldType → ClassId) (U : State) : Prop :=
  va_K D K.2.2.1 (cm_tl.map fun ty => (dA ty, ty)) U ∧ b0 ≤ U.heap.size ∧
  (∀ (i : Nat) (ty : FieldType) (l : List Term), pg.2.2.2.1[i]? = some (some (ty, l)) → va_T ty (sa i) l.length (fun j => cm_ev b0 sa (l.getD j (.int 0))) (cm_A b0) U U.heap) ∧
  (∀ (i c : Nat) (fs : List Term), pg.2.2.2.2[i]? = some (some (c, fs)) → ∃ q : String × u_T, (K.2.2.1[c]? = none ∧ K.2.2.2.2.2.2[c - K.2.2.1.length]? = some q) ∧ va_O q.1 (sa i) (cm_A b0) U U.heap ∧ ∀ (k : Nat) (t : Term), fs[k]? = some t → va_OF (q.2 k).1 (q.2 k).2.1 (q.2 k).2.2.1 (cm_ev b0 sa t) (sa i) (cm_A b0) U U.heap) ∧
  (∀ q ∈ K.2.2.2.2.1, ∃ t, pg.2.2.1[q.2.2.2]? = some t ∧ va_Z q.1 q.2.1 q.2.2.1 (cm_ev b0 sa t) (cm_A b0) U U.heap) ∧
  (∀ q ∈ K.2.2.2.2.2.1, vk_R q.1 q.2.1 q.2.2.1 (sa q.2.2.2) U) ∧
  (∀ w ∈ K.2.1, va_Nw w U)
theorem cm_SW_to {pg : cm_G} {K : cm_K} {D : va_G} {b0 : Nat} {sa : Nat → Nat} {dA : FieldType → ClassId} {s U : State} (hal : s.vm.Alike U.vm) (hH : ∀ a : Nat, a < s.heap.size → ¬ cm_A b0 a → U.heap[a]? = s.heap[a]?) (hb : b0 ≤ U.heap.size)
    (hR : ∀ q ∈ K.2.2.2.2.2.1, vk_R q.1 q.2.1 q.2.2.1 (sa q.2.2.2) U) (hN : ∀ w ∈ K.2.1, va_Nw w U) (h : cm_SW pg K D b0 sa dA s) : cm_SW pg K D b0 sa dA U := by
  obtain ⟨h1, h2, h3, h4, h5, h6, h7⟩ := h
  refine ⟨va_K.moved hal h1, hb, fun i ty l q => va_T.moved hal ((h3 i ty l q).kept hH), fun i c fs q => ?_, fun q hq => ?_, hR, hN⟩
  · obtain ⟨x, a1, a2, a3⟩ := h4 i c fs q
    exact ⟨x, a1, va_O.moved hal (a2.kept hH), fun k t ht => va_OF.moved hal ((a3 k t ht).kept hH)⟩
  · obtain ⟨t, a1, a2⟩ := h5 q hq
    exact ⟨t, a1, va_Z.moved hal (a2.kept hH)⟩
/-- words of nest mates -/
def cm_nest : Cond → Bool
  | .fieldLinkNest .. => true
  | .methodLinkNest .. => true
  | _ => false
theorem cm_nest_warm {w : Cond} (h : cm_nest w = true) {s U : State} (hW : s.WarmedH U.vm) (hz : va_Nw w s) : va_Nw w U := by
  cases w <;> first | exact va_Nw.warmF hW hz | exact va_Nw.warmM hW hz | (simp [cm_nest] at h)
theorem cm_nest_same {w : Cond} (h : cm_nest w = true) {u U : State} (hv : u.vm = U.vm) (hz : va_Nw w u) : va_Nw w U := by
  cases w <;> first | exact va_Nw.same rfl hv hz | (simp [cm_nest] at h)
theorem cm_SW_warm {pg : cm_G} {K : cm_K} {D : va_G} {b0 : Nat} {sa : Nat → Nat} {dA : FieldType → ClassId} {s U : State} {locs : List Loc} (hn : ∀ w ∈ K.2.1, cm_nest w = true) (hW : s.WarmedH U.vm) (hS : va_S (cm_A b0) s.heap U.heap locs) (h : cm_SW pg K D b0 sa dA s) : cm_SW pg K D b0 sa dA U :=
  cm_SW_to hW.alike hS.2.1 (Nat.le_trans h.2.1 hS.1) (fun q hq => vk_R.warm hW (h.2.2.2.2.2.1 q hq)) (fun w hw => cm_nest_warm (hn w hw) hW (h.2.2.2.2.2.2 w hw)) h
theorem cm_SW_same {pg : cm_G} {K : cm_K} {D : va_G} {b0 : Nat} {sa : Nat → Nat} {dA : FieldType → ClassId} {s U : State} (hn : ∀ w ∈ K.2.1, cm_nest w = true) (hv : U.vm = s.vm) (hH : U.heap = s.heap) (h : cm_SW pg K D b0 sa dA s) : cm_SW pg K D b0 sa dA U :=
  cm_SW_to (by rw [hv]; exact Vm.Alike.refl _) (fun a _ _ => by rw [hH]) (by rw [hH]; exact h.2.1) (fun q hq => vk_R.same hv (h.2.2.2.2.2.1 q hq)) (fun w hw => cm_nest_same (hn w hw) hv.symm (h.2.2.2.2.2.2 w hw)) h
/-- the tables are right -/
def cm_Good (pg : cm_G) (K : cm_K) : Prop :=
  (∀ (mi : Nat) (mr : cm_M) (mn : cm_N), pg.1[mi]? = some mr → K.2.2.2.1[mi]? = some mn → (∀ (pc : Nat) (i : cm_I), cm_at mr.1 pc = some i → cm_rowB K mn.2.1 mn.2.2 mn.1.name pc i = true) ∧ (mn.1.name ≠ "law" → Cond.code mn.1 mn.2.1 mr.2.1 mr.2.2 ∈ K.1) ∧ plainName mn.1.cls = true ∧ mn.1.cls = mn.2.2 ∧ (mn.1.cls ≠ "java/lang/invoke/MethodHandle" ∧ mn.1.cls ≠ "java/lang/invoke/VarHandle") ∧ mr.2.1 ≤ 40 ∧ (mn.1.name = "<init>" → mr.2.2 = none)) ∧
  (∀ (mi : Nat) (mr : cm_M), pg.1[mi]? = some mr → ∃ mn, K.2.2.2.1[mi]? = some mn) ∧
  (∀ w ∈ K.1, (w.onTables && w.keeps) = true ∨ ∃ ty, w = .arrayClass ty) ∧
  (∀ (ci : Nat) (C : String) (T : u_T) (N : Nat), K.2.2.1[ci]? = some (C, T, N) → (∀ w ∈ u_ws C T N, w ∈ K.1) ∧ (∀ a, a < N → ∀ b, b < N → a ≠ b → (T a).2.1 ≠ (T b).2.1) ∧ ∃ tys, pg.2.1[ci]? = some tys ∧ tys.length = N ∧ (∀ k, k < N → parseFieldDescriptor (T k).2.2.1 = some (tys.getD k .float)) ∧ ∀ k, k < N → cm_tyok (tys.getD k .float) = true) ∧
  (∀ w ∈ K.2.1, cm_nest w = true)
/-- a frame of a method of the tables -/
def cm_Fix (pg : cm_G) (K : cm_K) (D : va_G) (b0 : Nat) (sa : Nat → Nat) (dA : FieldType → ClassId) (p : Program) (s : State) (m : MethodId) (args : Array Value) (meth : Method) (c : Code) (mr : cm_M) (mn : cm_N) : Prop :=
  p.tables.exec = Jvm.exec ∧ c.code = mn.2.1 ∧ c.maxLocals = mr.2.1 ∧ s.vm.findClass mn.2.2 = some m.cls ∧ (∀ w ∈ K.1, w.before args s = true) ∧ (mn.1.name = "<init>" → meth.name = "<init>") ∧ cm_SW pg K D b0 sa dA s
/-- what holds at a place of a method's body: the variables, the cells, the room that the rest of the run takes -/
def cm_Inv (K : cm_K) (D : va_G) (b0 : Nat) (sa : Nat → Nat) (dA : FieldType → ClassId) (R : Room) (s : State) (nL : Nat) (d : Nat) (lv : cm_Lv) (h : cm_H) (R0 : cm_R) (H : Heap) (locs : List Loc) (cells slots : Nat) (ls : Array Slot) : Prop :=
  (lv.length = nL ∧ lv_has ls nL (cm_cl b0 sa 0 lv)) ∧ cm_Pic D K.2.2.1 b0 sa dA h H ∧ va_S (cm_A b0) s.heap H locs ∧ (cells + R0.2.2.1 ≤ R.cells ∧ slots + R0.2.2.2 ≤ R.slots) ∧ (d ≤ R.frames ∧ 64 * d ≤ R.locals)
def cm_Ret (mr : cm_M) (bytes : ByteArray) (pc : Nat) (v : Option Term) : Prop := match v with
  | none => mr.2.2 = none ∧ decode bytes pc = .ok (.return_, 1)
  | some t => ∃ ty x, mr.2.2 = some ty ∧ cm_dv t ty = true ∧ t = .int x ∧ decode bytes pc = .ok (.ireturn, 1)
def cm_BodyAt (pg : cm_G) (K : cm_K) (l : Launch) (D : va_G) (b0 : Nat) (sa : Nat → Nat) (dA : FieldType → ClassId) (n : Nat) : Prop :=
  ∀ (mi : Nat) (mr : cm_M) (mn : cm_N), pg.1[mi]? = some mr → K.2.2.2.1[mi]? = some mn →
  ∀ (p : Program) (e : Env) (R : Room) (s : State) (m : MethodId) (args : Array Value) (below : List Frame) (meth : Method) (c : Code) (Q : State → Prop) (v : Option Term) (hv : cm_H), cm_Fix pg K D b0 sa dA p s m args meth c mr mn →
  (∀ (pc : Nat) (ls : Array Slot) (H : Heap) (locs : List Loc) (cells slots : Nat), cm_Ret mr mn.2.1 pc v → cm_Pic D K.2.2.1 b0 sa dA hv H → va_S (cm_A b0) s.heap H locs → cells ≤ R.cells → slots ≤ R.slots → W p l e R s m args below meth c H locs cells slots Q (F0 m pc ls (v.toList.map (cm_ev b0 sa)))) →
  ∀ (d pc : Nat) (lv : cm_Lv) (st : List Term) (h : cm_H) (R0 : cm_R), cm_run pg n d mr pc lv st h = some R0 → R0.1 = v → R0.2.1 = hv →
  ∀ (H : Heap) (locs : List Loc) (cells slots : Nat) (ls : Array Slot), cm_Inv K D b0 sa dA R s mr.2.1 d lv h R0 H locs cells slots ls → W p l e R s m args below meth c H locs cells slots Q (F0 m pc ls (st.map (cm_ev b0 sa)))
/-! contracts -/
def cm_Pc (pg : cm_G) (K : cm_K) (D : va_G) (b0 : Nat) (sa : Nat → Nat) (dA : FieldType → ClassId) (av : List Term) (h : cm_H) : Array Value → State → Prop := fun v U => v = (av.map (cm_ev b0 sa)).toArray ∧ cm_Pic D K.2.2.1 b0 sa dA h U.heap ∧ cm_SW pg K D b0 sa dA U
def cm_Qc (K : cm_K) (D : va_G) (b0 : Nat) (sa : Nat → Nat) (dA : FieldType → ClassId) (v : Option Term) (h : cm_H) : Array Value → State → Outcome → State → Prop := fun _ st oc t => oc = .returned (v.map (cm_ev b0 sa)) ∧ cm_Pic D K.2.2.1 b0 sa dA h t.heap ∧ va_F (cm_A b0) st t
theorem cm_blind {pg : cm_G} {K : cm_K} {D : va_G} {b0 : Nat} {sa : Nat → Nat} {dA : FieldType → ClassId} {av : List Term} {h : cm_H} (hn : ∀ w ∈ K.2.1, cm_nest w = true) : FrameBlind (cm_Pc pg K D b0 sa dA av h) :=
  fun a U g mk q => ⟨q.1, q.2.1, cm_SW_same (s := U) (U := U.calling g mk a) hn rfl rfl q.2.2⟩
theorem cm_met {pg : cm_G} {K : cm_K} {l : Launch} {D : va_G} {b0 : Nat} {sa : Nat → Nat} {dA : FieldType → ClassId} {n : Nat} (hG : cm_Good pg K) (hB : cm_BodyAt pg K l D b0 sa dA n) {mi : Nat} {mr : cm_M} {mn : cm_N} (hmr : pg.1[mi]? = some mr) (hmn : K.2.2.2.1[mi]? = some mn) {d : Nat} {av : List Term} {h : cm_H} {R0 : cm_R}
    (hrun : cm_run pg n d mr 0 (cm_ent mr.2.1 av) [] h = some R0) (ho : cm_okA av = true) (hl : (cm_slots av).length ≤ mr.2.1) :
    Met l mn.1 (Cond.code mn.1 mn.2.1 mr.2.1 mr.2.2 :: K.1) { frames := d, cells := R0.2.2.1, slots := R0.2.2.2, locals := 64 * d } (cm_Pc pg K D b0 sa dA av h) (cm_Qc K D b0 sa dA R0.1 R0.2.1) R0.2.2.1 R0.2.2.2 (cm_A b0) := by
  obtain ⟨hrows, hcode, hplain, hcls, hmh, hmx⟩ := hG.1 mi mr mn hmr hmn
  refine Met.ofW (cc := mn.2.1) (maxL := mr.2.1) (ret := mr.2.2) hplain rfl ?_
  intro p e s m args below meth c s₁ B hml hv
  obtain ⟨rfl, hP, hSW⟩ := hv
  have hts := atoms_spec (ws := Cond.code mn.1 mn.2.1 mr.2.1 mr.2.2 :: K.1) B.pre
  have hown : s.vm.findClass mn.1.cls = some m.cls := findClass_of_methodNamed B.named
  have hlocks := B.notSynchronized
  rw [lg_entry_eq]
  refine hB mi mr mn hmr hmn p e _ s m _ below meth c _ R0.1 R0.2.1 ⟨B.exec, B.bytes, hml, by rw [← hcls]; exact hown, fun w hw => hts w (List.mem_cons_of_mem _ hw), fun hi => (name_of_methodNamed B.named B.method).1.trans hi, hSW⟩ ?_ d 0 _ [] h R0 hrun rfl rfl s.heap [] 0 0 _ ⟨⟨cm_ent_len hl, cm_entry ho hl⟩, hP, va_S.rf, ⟨by simp [headSpec], by simp [headSpec]⟩, ⟨by simp [headSpec], by simp [headSpec]⟩⟩
  intro pc ls H locs cells slots hret hpic hS' hc hs
  refine W.widen (k := R0.2.2.1) (n := R0.2.2.2) hc hs ?_
  obtain ⟨v, h', c', s'⟩ := R0
  dsimp only at *
  have hr := B.returns
  cases v with
  | none =>
    obtain ⟨hr1, hd⟩ := hret
    exact W.vret B.exec B.bytes (hr.trans hr1) (fun t ht _ => ⟨rfl, by rw [ht]; exact hpic, hS'.F ht⟩) hS'.2.2 hd
  | some t =>
    obtain ⟨ty, x, hr1, hdv, rfl, hd⟩ := hret
    exact W.zret B.exec B.bytes (hr.trans hr1) (cm_dv_fit hdv b0 sa).1 (fun t ht _ => ⟨rfl, by rw [ht]; exact hpic, hS'.F ht⟩) hS'.2.2 hd
section cmAfter
variable {p : Program} {l : Launch} {e : Env} {R : Room} {s : State} {m : MethodId} {args : Array Value} {below : List Frame} {meth : Method} {c : Code} {H : Heap} {locs : List Loc} {cells slots : Nat} {Q : State → Prop}
theorem cm_after {K : cm_K} {D : va_G} {b0 : Nat} {sa : Nat → Nat} {dA : FieldType → ClassId} {v : Option Term} {hv : cm_H} {pc mc ms : Nat} {ls : Array Slot} {rest st0 : List Value} {a : Array Value} (hr : va_Run p l e R s m args below meth c H locs cells slots mc ms (F0 m pc ls st0) rest (cm_Qc K D b0 sa dA v hv a) (cm_A b0)) (hS : va_S (cm_A b0) s.heap H locs)
    (kk : ∀ (H1 : Heap) (locs1 : List Loc), cm_Pic D K.2.2.1 b0 sa dA hv H1 → va_S (cm_A b0) s.heap H1 locs1 → W p l e R s m args below meth c H1 locs1 (cells + mc) (slots + ms) Q (F0 m (pc + 3) ls ((v.map (cm_ev b0 sa)).toList ++ rest))) : W p l e R s m args below meth c H locs cells slots Q (F0 m pc ls st0) := by
  intro T hT X
  obtain ⟨v', st₀, t, T', L, h0, X', hL, e1, e2, ⟨hv, hp, hz, hk⟩, st⟩ := hr T hT X
  cases hv
  rw [h0] at hz hk
  obtain ⟨t2, a1, b1⟩ := kk T'.heap (locs ++ L) (by rw [e1]; exact hp)
    ⟨Nat.le_trans hS.1 (by rw [e1]; exact hz), fun q h1 h2 => by rw [e1, hk q (Nat.lt_of_lt_of_le h1 hS.1) h2]; exact hS.2.1 q h1 h2, fun q hq => by
      rcases List.mem_append.mp hq with h | h
      · exact hS.2.2 q h
      · exact hL q h⟩ T' rfl X'
  exact ⟨t2, st t2 a1, b1⟩
end cmAfter
