noncomputable section
/-! LAYER 2, steps that touch neither heap nor calls. -/
/-- an abstract int on top comes off -/
theorem am_topI {xs : List Int32} {K : List am_K} {s : am_S} {lv st : List am_A} {r : am_V} {L : cm_Lv} {T : List Term} {h : cm_H} {a : am_L} (hf : am_fr xs K s lv ((0, a) :: st) r L T h) :
    ∃ (x : Int32) (T' : List Term), T = .int x :: T' ∧ am_All s.1 r (fun q => x.toInt = am_ev q a) ∧ am_fr xs K s lv st r L T' h := by
  obtain ⟨t, T1, e1, ht, hf1⟩ := am_top hf
  obtain ⟨x, e2, hx⟩ := am_int hf.1 ht
  exact ⟨x, T1, by rw [e1, e2], hx, hf1⟩
/-- a value of an operation goes onto the stack -/
theorem am_Val_push {pg : cm_G} {xs : List Int32} {K : List am_K} {ms : List (Nat × Nat)} {d : Nat} {mr : cm_M} {pc pc' : Nat} {s : am_S} {lv st : List am_A} {r : am_V} {L : cm_Lv} {T T' : List Term} {h : cm_H} {z : Int32} {o : am_L × am_S}
    (hv : am_Val xs K s lv st r L T' h z.toInt o) (hs : ∀ ih, cm_step pg ih d mr pc L T h = ih d mr pc' L (.int z :: T') h) : am_Step pg xs K ms d mr pc s r L T h [(pc', lv, (0, o.1) :: st, o.2)] := by
  obtain ⟨r', h1, h2, h3⟩ := hv
  exact ⟨_, List.mem_singleton.mpr rfl, r', L, .int z :: T', h, hs, am_later_nil h1, am_push h2 (am_int_mk h3)⟩
/-- what two ints on the stack become -/
def am_b2 (st : List am_A) (f : am_L → am_L → Option (am_L × am_S)) : Option (List am_A × am_L × am_S) := match st with
  | (0, b) :: (0, a) :: st => (match f a b with
    | some (c, s) => some (st, c, s)
    | none => none)
  | _ => none
theorem am_b2_spec {pg : cm_G} {xs : List Int32} {K : List am_K} {ms : List (Nat × Nat)} {d : Nat} {mr : cm_M} {pc pc' : Nat} {s : am_S} {lv st : List am_A} {r : am_V} {L : cm_Lv} {T : List Term} {h : cm_H} (hf : am_fr xs K s lv st r L T h)
    {f : am_L → am_L → Option (am_L × am_S)} {g : Int32 → Int32 → Int32} {o : List am_A × am_L × am_S} (ho : am_b2 st f = some o)
    (hs : ∀ (x y : Int32) (T' : List Term) (a b : am_L) (c : am_L × am_S), T = .int y :: .int x :: T' → am_fr xs K s lv o.1 r L T' h → am_All s.1 r (fun q => x.toInt = am_ev q a) → am_All s.1 r (fun q => y.toInt = am_ev q b) → f a b = some c →
      (∀ ih, cm_step pg ih d mr pc L T h = ih d mr pc' L (.int (g x y) :: T') h) ∧ am_Val xs K s lv o.1 r L T' h (g x y).toInt c) : am_Step pg xs K ms d mr pc s r L T h [(pc', lv, (0, o.2.1) :: o.1, o.2.2)] := by
  unfold am_b2 at ho
  split at ho
  · rename_i b a st'
    obtain ⟨y, T1, e1, hy, hf1⟩ := am_topI hf
    obtain ⟨x, T2, e2, hx, hf2⟩ := am_topI hf1
    split at ho
    · rename_i c s1 hc
      injection ho with ho
      subst ho
      obtain ⟨h1, h2⟩ := hs x y T2 a b (c, s1) (by rw [e1, e2]) hf2 hx hy hc
      exact am_Val_push h2 h1
    · simp at ho
  · simp at ho
/-- the operations of two ints -/
def am_bin (s : am_S) (ins : Instr) (a b : am_L) : Option (am_L × am_S) := match ins with
  | .iadd => some (am_oadd s 1 a b)
  | .isub => some (am_oadd s (-1) a b)
  | .imul => some (am_omul s a b)
  | .idiv => am_odiv s a b
  | .irem => am_orem s a b
  | .iand => some (am_oand s a b)
  | .ishr => some (am_oshr s a b)
  | .ior => some (am_newv s am_full)
  | .ixor => some (am_newv s am_full)
  | .ishl => some (am_newv s am_full)
  | .iushr => some (am_newv s am_full)
  | _ => none
theorem am_bin_spec {pg : cm_G} {xs : List Int32} {K : List am_K} {ms : List (Nat × Nat)} {d : Nat} {mr : cm_M} {pc np : Nat} {rs : List Nat} {s : am_S} {lv st : List am_A} {r : am_V} {L : cm_Lv} {T : List Term} {h : cm_H} (hf : am_fr xs K s lv st r L T h)
    {ins : Instr} (hat : cm_at mr.1 pc = some (ins, np, rs)) {o : List am_A × am_L × am_S} (ho : am_b2 st (am_bin s ins) = some o) : am_Step pg xs K ms d mr pc s r L T h [(np, lv, (0, o.2.1) :: o.1, o.2.2)] := by
  cases ins with
  | iadd =>
    refine am_b2_spec (g := fun x y => x + y) hf ho (fun x y T' a b c e hf2 hx hy hc => ?_)
    subst e
    simp only [am_bin, Option.some.injEq] at hc
    rw [← hc]
    refine ⟨fun ih => by simp only [cm_step, hat, cm_two], am_oadd_spec hf2 1 _ hx hy (fun h1 h2 => ?_)⟩
    rw [am_add32 (by omega) (by omega)]; omega
  | isub =>
    refine am_b2_spec (g := fun x y => x - y) hf ho (fun x y T' a b c e hf2 hx hy hc => ?_)
    subst e
    simp only [am_bin, Option.some.injEq] at hc
    rw [← hc]
    refine ⟨fun ih => by simp only [cm_step, hat, cm_two], am_oadd_spec hf2 (-1) _ hx hy (fun h1 h2 => ?_)⟩
    rw [am_sub32 (by omega) (by omega)]; omega
  | imul =>
    refine am_b2_spec (g := fun x y => x * y) hf ho (fun x y T' a b c e hf2 hx hy hc => ?_)
    subst e
    simp only [am_bin, Option.some.injEq] at hc
    rw [← hc]
    exact ⟨fun ih => by simp only [cm_step, hat, cm_two], am_omul_spec hf2 hx hy⟩
  | idiv =>
    refine am_b2_spec (g := fun x y => x / y) hf ho (fun x y T' a b c e hf2 hx hy hc => ?_)
    subst e
    obtain ⟨h1, h2⟩ := am_odiv_spec hf2 hx hy hc
    exact ⟨fun ih => by simp only [cm_step, hat, cm_two, h1, if_false], h2⟩
  | irem =>
    refine am_b2_spec (g := fun x y => x - x / y * y) hf ho (fun x y T' a b c e hf2 hx hy hc => ?_)
    subst e
    obtain ⟨h1, h2⟩ := am_orem_spec hf2 hx hy hc
    exact ⟨fun ih => by simp only [cm_step, hat, cm_two, h1, if_false], h2⟩
  | iand =>
    refine am_b2_spec (g := fun x y => x &&& y) hf ho (fun x y T' a b c e hf2 hx hy hc => ?_)
    subst e
    simp only [am_bin, Option.some.injEq] at hc
    rw [← hc]
    exact ⟨fun ih => by simp only [cm_step, hat, cm_two], am_oand_spec hf2 hx hy⟩
  | ishr =>
    refine am_b2_spec (g := fun x y => x >>> (y &&& 31)) hf ho (fun x y T' a b c e hf2 hx hy hc => ?_)
    subst e
    simp only [am_bin, Option.some.injEq] at hc
    rw [← hc]
    exact ⟨fun ih => by simp only [cm_step, hat, cm_two], am_oshr_spec hf2 hx hy⟩
  | ior =>
    refine am_b2_spec (g := fun x y => x ||| y) hf ho (fun x y T' a b c e hf2 hx hy hc => ?_)
    subst e
    simp only [am_bin, Option.some.injEq] at hc
    rw [← hc]
    exact ⟨fun ih => by simp only [cm_step, hat, cm_two], am_Val_full hf2 _⟩
  | ixor =>
    refine am_b2_spec (g := fun x y => x ^^^ y) hf ho (fun x y T' a b c e hf2 hx hy hc => ?_)
    subst e
    simp only [am_bin, Option.some.injEq] at hc
    rw [← hc]
    exact ⟨fun ih => by simp only [cm_step, hat, cm_two], am_Val_full hf2 _⟩
  | ishl =>
    refine am_b2_spec (g := fun x y => x <<< (y &&& 31)) hf ho (fun x y T' a b c e hf2 hx hy hc => ?_)
    subst e
    simp only [am_bin, Option.some.injEq] at hc
    rw [← hc]
    exact ⟨fun ih => by simp only [cm_step, hat, cm_two], am_Val_full hf2 _⟩
  | iushr =>
    refine am_b2_spec (g := fun x y => (x.toUInt32 >>> (y.toUInt32 &&& Int32.toUInt32 31)).toInt32) hf ho (fun x y T' a b c e hf2 hx hy hc => ?_)
    subst e
    simp only [am_bin, Option.some.injEq] at hc
    rw [← hc]
    exact ⟨fun ih => by simp only [cm_step, hat, cm_two], am_Val_full hf2 _⟩
  | _ =>
    exfalso
    unfold am_b2 at ho
    split at ho
    · simp [am_bin] at ho
    · simp at ho
/-- the operations of one int -/
def am_un (s : am_S) (ins : Instr) (a : am_L) : Option (am_L × am_S) := match ins with
  | .ineg => some (am_oadd s (-1) (0, []) a)
  | .i2b => some (am_ocut s a (-128, 127))
  | .i2s => some (am_ocut s a (-32768, 32767))
  | .i2c => some (am_oi2c s a)
  | _ => none
def am_b1 (st : List am_A) (f : am_L → Option (am_L × am_S)) : Option (List am_A × am_L × am_S) := match st with
  | (0, a) :: st => (match f a with
    | some (c, s) => some (st, c, s)
    | none => none)
  | _ => none
theorem am_un_spec {pg : cm_G} {xs : List Int32} {K : List am_K} {ms : List (Nat × Nat)} {d : Nat} {mr : cm_M} {pc np : Nat} {rs : List Nat} {s : am_S} {lv st : List am_A} {r : am_V} {L : cm_Lv} {T : List Term} {h : cm_H} (hf : am_fr xs K s lv st r L T h)
    {ins : Instr} (hat : cm_at mr.1 pc = some (ins, np, rs)) {o : List am_A × am_L × am_S} (ho : am_b1 st (am_un s ins) = some o) : am_Step pg xs K ms d mr pc s r L T h [(np, lv, (0, o.2.1) :: o.1, o.2.2)] := by
  unfold am_b1 at ho
  split at ho
  · rename_i a st'
    obtain ⟨x, T1, e1, hx, hf1⟩ := am_topI hf
    subst e1
    cases ins with
    | ineg =>
      simp only [am_un, Option.some.injEq] at ho
      subst ho
      have h0 : am_All s.1 r (fun q => (0 : Int) = am_ev q (0, [])) := fun _ _ _ => rfl
      refine am_Val_push (am_oadd_spec hf1 (-1) (-x) h0 hx (fun h1 h2 => ?_)) (fun ih => by simp only [cm_step, hat, cm_one])
      rw [am_neg32 (by omega)]; omega
    | i2b =>
      simp only [am_un, Option.some.injEq] at ho
      subst ho
      have hb := am_i2b x
      exact am_Val_push (am_ocut_spec (g := (-128, 127)) hf1 (by show (-2147483648 : Int) ≤ -128; omega) (by show (127 : Int) ≤ 2147483647; omega) hx hb.1 hb.2.1 hb.2.2) (fun ih => by simp only [cm_step, hat, cm_one])
    | i2s =>
      simp only [am_un, Option.some.injEq] at ho
      subst ho
      have hb := am_i2s x
      exact am_Val_push (am_ocut_spec (g := (-32768, 32767)) hf1 (by show (-2147483648 : Int) ≤ -32768; omega) (by show (32767 : Int) ≤ 2147483647; omega) hx hb.1 hb.2.1 hb.2.2) (fun ih => by simp only [cm_step, hat, cm_one])
    | i2c =>
      simp only [am_un, Option.some.injEq] at ho
      subst ho
      exact am_Val_push (am_oi2c_spec hf1 hx) (fun ih => by simp only [cm_step, hat, cm_one])
    | _ => simp [am_un] at ho
  · simp at ho
end
