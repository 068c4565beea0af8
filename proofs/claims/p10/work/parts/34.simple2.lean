noncomputable section
/-! LAYER 2, those steps are the interpreter's. -/
theorem am_out1 {pg : cm_G} {xs : List Int32} {K : List am_K} {ms : List (Nat × Nat)} {d : Nat} {mr : cm_M} {pc : Nat} {s : am_S} {r : am_V} {L : cm_Lv} {T : List Term} {h : cm_H} {o : am_N} {r' : am_V} {L' : cm_Lv} {T' : List Term}
    (hs : ∀ ih, cm_step pg ih d mr pc L T h = ih d mr o.1 L' T' h) (hl : am_later [] s o.2.2.2 r r' h h) (hf : am_fr xs K o.2.2.2 o.2.1 o.2.2.1 r' L' T' h) : am_Step pg xs K ms d mr pc s r L T h [o] :=
  ⟨_, List.mem_singleton.mpr rfl, r', L', T', h, hs, am_later_nil hl, hf⟩
theorem am_k0_spec {pg : cm_G} {xs : List Int32} {K : List am_K} {ms : List (Nat × Nat)} {d : Nat} {mr : cm_M} {pc np : Nat} {s : am_S} {lv st : List am_A} {r : am_V} {L : cm_Lv} {T : List Term} {h : cm_H} (hf : am_fr xs K s lv st r L T h) {k : Int} {x : Int32} {o : am_N} (hk : x.toInt = k)
    (ho : am_k0 np lv st s k = some o) (hs : ∀ ih, cm_step pg ih d mr pc L T h = ih d mr np L (.int x :: T) h) : am_Step pg xs K ms d mr pc s r L T h [o] := by
  simp only [am_k0, Option.some.injEq] at ho
  subst ho
  exact am_out1 hs (am_later_refl _ _ _ _) (am_push hf (am_const hk))
theorem am_cld_spec {pg : cm_G} {xs : List Int32} {K : List am_K} {ms : List (Nat × Nat)} {d : Nat} {mr : cm_M} {pc np : Nat} {s : am_S} {lv st : List am_A} {r : am_V} {L : cm_Lv} {T : List Term} {h : cm_H} (hf : am_fr xs K s lv st r L T h) {i n : Nat} {o : am_N}
    (ho : am_cld np lv st s i (n + 1) = some o) (hs : ∀ ih, cm_step pg ih d mr pc L T h = cm_ld L i (n + 1) (fun t => ih d mr np L (t :: T) h)) : am_Step pg xs K ms d mr pc s r L T h [o] := by
  unfold am_cld at ho
  split at ho
  · rename_i a ha
    split at ho
    · rename_i hb
      injection ho with ho
      subst ho
      obtain ⟨t, h1, h2, h3⟩ := am_ldx (n := n) hf ha (Nat.eq_of_beq_eq_true hb)
      exact am_out1 (fun ih => by rw [hs]; exact am_cm_ld h1 h2 _) (am_later_refl _ _ _ _) (am_push hf h3)
    · simp at ho
  · simp at ho
theorem am_cst_spec {pg : cm_G} {xs : List Int32} {K : List am_K} {ms : List (Nat × Nat)} {d : Nat} {mr : cm_M} {pc np : Nat} {s s0 : am_S} {lv st : List am_A} {r r0 : am_V} {L : cm_Lv} {T T0 : List Term} {h : cm_H} (hf : am_fr xs K s lv st r L T h) (hl : am_later [] s0 s r0 r h h) {i : Nat} {a : am_A} {t : Term} {o : am_N}
    (ha : am_All s.1 r (fun q => am_sat q a (some t))) (ho : am_cst np lv st s i a = some o) (hs : ∀ ih, cm_step pg ih d mr pc L T0 h = cm_sto L i t (fun L' => ih d mr np L' T h)) : am_Step pg xs K ms d mr pc s0 r0 L T0 h [o] := by
  unfold am_cst at ho
  split at ho
  · rename_i hb
    simp only [Bool.and_eq_true] at hb
    injection ho with ho
    subst ho
    obtain ⟨h1, h2⟩ := am_stx hf ha hb.1 (am_blt'_spec hb.2)
    exact am_out1 (fun ih => by rw [hs]; exact h1 _) hl h2
  · simp at ho
theorem am_bi8 {v : Int} (h1 : -128 ≤ v) (h2 : v ≤ 127) : ((Int8.ofInt v).toInt32).toInt = v := by
  rw [Int8.toInt_toInt32, Int8.toInt_ofInt]
  show v.bmod 256 = v
  exact Int.bmod_eq_of_le (by omega) (by omega)
theorem am_bi16 {v : Int} (h1 : -32768 ≤ v) (h2 : v ≤ 32767) : ((Int16.ofInt v).toInt32).toInt = v := by
  rw [Int16.toInt_toInt32, Int16.toInt_ofInt]
  show v.bmod 65536 = v
  exact Int.bmod_eq_of_le (by omega) (by omega)
theorem am_sat2 {q : am_V} {k : Int} {x : Int64} (h : x.toInt = k) : am_sat q (2, (k, [])) (some (.long x)) := ⟨x, rfl, by simp [am_ev, am_ts, h]⟩
/-- a long on top comes off -/
theorem am_topL {xs : List Int32} {K : List am_K} {s : am_S} {lv st : List am_A} {r : am_V} {L : cm_Lv} {T : List Term} {h : cm_H} {a : am_A} (hf : am_fr xs K s lv (a :: st) r L T h) (ha : am_tyA a = 2) :
    ∃ (x : Int64) (T' : List Term), T = .long x :: T' ∧ (a.1 = 2 → am_All s.1 r (fun q => x.toInt = am_ev q a.2)) ∧ am_fr xs K s lv st r L T' h := by
  obtain ⟨t, T1, e1, ht, hf1⟩ := am_top hf
  obtain ⟨u, e2, e3⟩ := am_tyA_spec (n := 1) (am_All_here hf.1 ht) ha
  injection e2 with e2
  subst e2
  cases t with
  | long x =>
    refine ⟨x, T1, e1, fun h2 q hq hg => ?_, hf1⟩
    have := ht q hq hg
    simp only [am_sat, h2] at this
    obtain ⟨y, hy, hv⟩ := this
    injection hy with hy
    injection hy with hy
    rw [hy]; exact hv
  | _ => simp [cm_ty] at e3
theorem am_sat3 {q : am_V} {x : Int64} : am_sat q (3, (0, [])) (some (.long x)) := ⟨x, rfl⟩
theorem am_lg2_spec {xs : List Int32} {K : List am_K} {s : am_S} {lv st : List am_A} {r : am_V} {L : cm_Lv} {T : List Term} {h : cm_H} (hf : am_fr xs K s lv st r L T h) {f : am_A → am_A → List am_A → Option am_N} {o : am_N} (ho : am_lg2 st f = some o) :
    ∃ (x y : Int64) (b a : am_A) (st' : List am_A) (T' : List Term), T = .long y :: .long x :: T' ∧ f b a st' = some o ∧ (b.1 = 2 → am_All s.1 r (fun q => y.toInt = am_ev q b.2)) ∧ (a.1 = 2 → am_All s.1 r (fun q => x.toInt = am_ev q a.2)) ∧ am_fr xs K s lv st' r L T' h := by
  unfold am_lg2 at ho
  split at ho
  · rename_i b a st'
    split at ho
    · rename_i hb
      simp only [Bool.and_eq_true] at hb
      obtain ⟨y, T1, e1, hy, hf1⟩ := am_topL hf (Nat.eq_of_beq_eq_true hb.1)
      obtain ⟨x, T2, e2, hx, hf2⟩ := am_topL hf1 (Nat.eq_of_beq_eq_true hb.2)
      exact ⟨x, y, b, a, st', T2, by rw [e1, e2], ho, hy, hx, hf2⟩
    · simp at ho
  · simp at ho
theorem am_lgM_spec {xs : List Int32} {K : List am_K} {s : am_S} {lv st : List am_A} {r : am_V} {L : cm_Lv} {T : List Term} {h : cm_H} (hf : am_fr xs K s lv st r L T h) {f : List am_A → Option am_N} {o : am_N} (ho : am_lgM st f = some o) :
    ∃ (x : Int64) (y : Int32) (st' : List am_A) (T' : List Term), T = .int y :: .long x :: T' ∧ f st' = some o ∧ am_fr xs K s lv st' r L T' h := by
  unfold am_lgM at ho
  split at ho
  · rename_i b a st'
    split at ho
    · rename_i hb
      obtain ⟨y, T1, e1, hy, hf1⟩ := am_topI hf
      obtain ⟨x, T2, e2, hx, hf2⟩ := am_topL hf1 (Nat.eq_of_beq_eq_true hb)
      exact ⟨x, y, st', T2, by rw [e1, e2], ho, hf2⟩
    · simp at ho
  · simp at ho
theorem am_lgK_spec {xs : List Int32} {K : List am_K} {s : am_S} {lv st : List am_A} {r : am_V} {L : cm_Lv} {T : List Term} {h : cm_H} (hf : am_fr xs K s lv st r L T h) {f : am_L → am_A → List am_A → Option am_N} {o : am_N} (ho : am_lgK st f = some o) :
    ∃ (x : Int64) (y : Int32) (yf : am_L) (a : am_A) (st' : List am_A) (T' : List Term), T = .int y :: .long x :: T' ∧ f yf a st' = some o ∧ am_All s.1 r (fun q => y.toInt = am_ev q yf) ∧ (a.1 = 2 → am_All s.1 r (fun q => x.toInt = am_ev q a.2)) ∧ am_fr xs K s lv st' r L T' h := by
  unfold am_lgK at ho
  split at ho
  · rename_i b a st'
    split at ho
    · rename_i hb
      obtain ⟨y, T1, e1, hy, hf1⟩ := am_topI hf
      obtain ⟨x, T2, e2, hx, hf2⟩ := am_topL hf1 (Nat.eq_of_beq_eq_true hb)
      exact ⟨x, y, b, a, st', T2, by rw [e1, e2], ho, hy, hx, hf2⟩
    · simp at ho
  · simp at ho
/-- a value of one word on top -/
theorem am_topW {xs : List Int32} {K : List am_K} {s : am_S} {lv st : List am_A} {r : am_V} {L : cm_Lv} {T : List Term} {h : cm_H} {a : am_A} (hf : am_fr xs K s lv (a :: st) r L T h) (hn : Nat.beq (am_tyA a) 2 = false) :
    ∃ (t : Term) (T' : List Term), T = t :: T' ∧ cm_w1 t = true ∧ am_All s.1 r (fun q => am_sat q a (some t)) ∧ am_fr xs K s lv st r L T' h := by
  obtain ⟨t, T1, e1, ht, hf1⟩ := am_top hf
  exact ⟨t, T1, e1, am_sat_noL (am_All_here hf.1 ht) hn, ht, hf1⟩
theorem am_newL {xs : List Int32} {K : List am_K} {s : am_S} {lv st : List am_A} {r : am_V} {L : cm_Lv} {T : List Term} {h : cm_H} (hf : am_fr xs K s lv st r L T h) {g : Int × Int} {x : Int64} (h1 : g.1 ≤ x.toInt) (h2 : x.toInt ≤ g.2) (h3 : -2147483648 ≤ x.toInt) (h4 : x.toInt ≤ 2147483647) :
    ∃ r', am_later [] s (am_fresh s g) r r' h h ∧ am_fr xs K (am_fresh s g) lv ((2, am_var s) :: st) r' L (.long x :: T) h := by
  obtain ⟨a1, a2, a3⟩ := am_fr_fresh hf h1 h2 h3 h4
  exact ⟨_, a2, am_push a1 (fun q hq hg => ⟨x, rfl, (a3 q hq hg).symm⟩)⟩
theorem am_cmpr (x y : Int64) : -1 ≤ (lg_cmp x y).toInt ∧ (lg_cmp x y).toInt ≤ 1 := by
  unfold lg_cmp
  repeat' split
  all_goals decide
theorem am_sim_spec {pg : cm_G} {xs : List Int32} {K : List am_K} {ms : List (Nat × Nat)} {d : Nat} {mr : cm_M} {pc np : Nat} {rs : List Nat} {s : am_S} {lv st : List am_A} {r : am_V} {L : cm_Lv} {T : List Term} {h : cm_H} (hf : am_fr xs K s lv st r L T h)
    {ins : Instr} (hat : cm_at mr.1 pc = some (ins, np, rs)) {o : am_N} (ho : am_sim ins np rs lv st s = some o) : am_Step pg xs K ms d mr pc s r L T h [o] := by
  cases ins with
  | iconst v =>
    simp only [am_sim] at ho
    split at ho
    · rename_i hb
      simp only [Bool.and_eq_true] at hb
      have h1 := am_nn_spec hb.1
      have h2 := am_nn_spec hb.2
      exact am_k0_spec hf (am_of32 (by omega) (by omega)) ho (fun ih => by simp only [cm_step, hat])
    · simp at ho
  | bipush v =>
    simp only [am_sim] at ho
    split at ho
    · rename_i hb
      simp only [Bool.and_eq_true] at hb
      have h1 := am_nn_spec hb.1
      have h2 := am_nn_spec hb.2
      exact am_k0_spec hf (am_bi8 (by omega) (by omega)) ho (fun ih => by simp only [cm_step, hat])
    · simp at ho
  | sipush v =>
    simp only [am_sim] at ho
    split at ho
    · rename_i hb
      simp only [Bool.and_eq_true] at hb
      have h1 := am_nn_spec hb.1
      have h2 := am_nn_spec hb.2
      exact am_k0_spec hf (am_bi16 (by omega) (by omega)) ho (fun ih => by simp only [cm_step, hat])
    · simp at ho
  | lconst v =>
    simp only [am_sim, Option.some.injEq] at ho
    subst ho
    exact am_out1 (fun ih => by simp only [cm_step, hat]) (am_later_refl _ _ _ _) (am_push hf (fun q _ _ => am_sat2 rfl))
  | ldc _ =>
    simp only [am_sim] at ho
    split at ho
    · exact am_k0_spec hf rfl ho (fun ih => by simp only [cm_step, hat])
    · rename_i k _
      injection ho with ho
      subst ho
      exact am_out1 (T' := .string "" k :: T) (fun ih => by simp only [cm_step, hat]) (am_later_refl _ _ _ _) (am_push hf (fun q _ _ => by simp [am_sat]))
    · simp at ho
  | ldc_w _ =>
    simp only [am_sim] at ho
    split at ho
    · exact am_k0_spec hf rfl ho (fun ih => by simp only [cm_step, hat])
    · simp at ho
  | ldc2_w _ =>
    simp only [am_sim] at ho
    split at ho
    · injection ho with ho
      subst ho
      exact am_out1 (fun ih => by simp only [cm_step, hat]) (am_later_refl _ _ _ _) (am_push hf (fun q _ _ => am_sat2 rfl))
    · simp at ho
  | iload i => exact am_cld_spec (n := 0) hf ho (fun ih => by simp only [cm_step, hat])
  | iload_n i => exact am_cld_spec (n := 0) hf ho (fun ih => by simp only [cm_step, hat])
  | lload i => exact am_cld_spec (n := 1) hf ho (fun ih => by simp only [cm_step, hat])
  | lload_n i => exact am_cld_spec (n := 1) hf ho (fun ih => by simp only [cm_step, hat])
  | aload i => exact am_cld_spec (n := 2) hf ho (fun ih => by simp only [cm_step, hat])
  | aload_n i => exact am_cld_spec (n := 2) hf ho (fun ih => by simp only [cm_step, hat])
  | istore i =>
    simp only [am_sim] at ho
    split at ho
    · obtain ⟨x, T1, e1, hx, hf1⟩ := am_topI hf
      subst e1
      exact am_cst_spec hf1 (am_later_refl _ _ _ _) (am_int_mk hx) ho (fun ih => by simp only [cm_step, hat, cm_one])
    · simp at ho
  | istore_n i =>
    simp only [am_sim] at ho
    split at ho
    · obtain ⟨x, T1, e1, hx, hf1⟩ := am_topI hf
      subst e1
      exact am_cst_spec hf1 (am_later_refl _ _ _ _) (am_int_mk hx) ho (fun ih => by simp only [cm_step, hat, cm_one])
    · simp at ho
  | astore i =>
    simp only [am_sim] at ho
    split at ho
    · split at ho
      · rename_i hb
        obtain ⟨t, T1, e1, ht, hf1⟩ := am_top hf
        obtain ⟨u, e2, e3⟩ := am_tyA_spec (n := 2) (am_All_here hf.1 ht) (Nat.eq_of_beq_eq_true hb)
        injection e2 with e2
        subst e2; subst e1
        exact am_cst_spec hf1 (am_later_refl _ _ _ _) ht ho (fun ih => by simp only [cm_step, hat, cm_ref, e3, if_true])
      · simp at ho
    · simp at ho
  | astore_n i =>
    simp only [am_sim] at ho
    split at ho
    · split at ho
      · rename_i hb
        obtain ⟨t, T1, e1, ht, hf1⟩ := am_top hf
        obtain ⟨u, e2, e3⟩ := am_tyA_spec (n := 2) (am_All_here hf.1 ht) (Nat.eq_of_beq_eq_true hb)
        injection e2 with e2
        subst e2; subst e1
        exact am_cst_spec hf1 (am_later_refl _ _ _ _) ht ho (fun ih => by simp only [cm_step, hat, cm_ref, e3, if_true])
      · simp at ho
    · simp at ho
  | iinc i v =>
    simp only [am_sim] at ho
    split at ho
    · rename_i a ha
      split at ho
      · rename_i hb
        simp only [Bool.and_eq_true] at hb
        have h1 := am_nn_spec hb.1
        have h2 := am_nn_spec hb.2
        obtain ⟨t, g1, g2, g3⟩ := am_ldx (n := 0) hf ha rfl
        obtain ⟨x, e1, hx⟩ := am_int hf.1 g3
        subst e1
        have hy : am_All s.1 r (fun q => v = am_ev q (v, [])) := fun q _ _ => by simp [am_ev, am_ts]
        have hv := am_oadd_spec hf 1 (x + Int32.ofInt v) hx hy (fun h3 h4 => by
          rw [am_add32 (by rw [am_of32 (by omega) (by omega)]; omega) (by rw [am_of32 (by omega) (by omega)]; omega), am_of32 (by omega) (by omega)]; omega)
        obtain ⟨r', k1, k2, k3⟩ := hv
        exact am_cst_spec k2 k1 (am_int_mk k3) ho (fun ih => by simp only [cm_step, hat, g1])
      · simp at ho
    · simp at ho
  | pop =>
    simp only [am_sim] at ho
    split at ho
    · split at ho
      · rename_i hb
        obtain ⟨t, T1, e1, hw, ht, hf1⟩ := am_topW hf hb
        injection ho with ho
        subst ho; subst e1
        exact am_out1 (fun ih => by simp only [cm_step, hat, hw, if_true]) (am_later_refl _ _ _ _) hf1
      · simp at ho
    · simp at ho
  | dup =>
    simp only [am_sim] at ho
    split at ho
    · split at ho
      · rename_i hb
        obtain ⟨t, T1, e1, hw, ht, hf1⟩ := am_topW hf hb
        injection ho with ho
        subst ho; subst e1
        exact am_out1 (fun ih => by simp only [cm_step, hat, hw, if_true]) (am_later_refl _ _ _ _) (am_push hf ht)
      · simp at ho
    · simp at ho
  | dup_x1 =>
    simp only [am_sim] at ho
    split at ho
    · split at ho
      · rename_i hb
        simp only [Bool.or_eq_false_iff] at hb
        obtain ⟨t, T1, e1, hw, ht, hf1⟩ := am_topW hf hb.1
        obtain ⟨u, T2, e2, hw2, hu, hf2⟩ := am_topW hf1 hb.2
        injection ho with ho
        subst ho; subst e2; subst e1
        exact am_out1 (fun ih => by simp only [cm_step, hat, hw, hw2, and_self, if_true]) (am_later_refl _ _ _ _) (am_push (am_push (am_push hf2 ht) hu) ht)
      · simp at ho
    · simp at ho
  | dup2 =>
    simp only [am_sim] at ho
    split at ho
    · split at ho
      · rename_i hb
        simp only [Bool.or_eq_false_iff] at hb
        obtain ⟨t, T1, e1, hw, ht, hf1⟩ := am_topW hf hb.1
        obtain ⟨u, T2, e2, hw2, hu, hf2⟩ := am_topW hf1 hb.2
        injection ho with ho
        subst ho; subst e2; subst e1
        exact am_out1 (fun ih => by simp only [cm_step, hat, hw, hw2, and_self, if_true]) (am_later_refl _ _ _ _) (am_push (am_push hf hu) ht)
      · simp at ho
    · simp at ho
  | goto _ =>
    simp only [am_sim] at ho
    split at ho
    · injection ho with ho
      subst ho
      exact am_out1 (fun ih => by simp only [cm_step, hat]) (am_later_refl _ _ _ _) hf
    · simp at ho
  | i2l =>
    simp only [am_sim] at ho
    split at ho
    · obtain ⟨x, T1, e1, hx, hf1⟩ := am_topI hf
      injection ho with ho
      subst ho; subst e1
      exact am_out1 (fun ih => by simp only [cm_step, hat, cm_one]) (am_later_refl _ _ _ _) (am_push hf1 (fun q hq hg => ⟨x.toInt64, rfl, by rw [am_i2l]; exact hx q hq hg⟩))
    · simp at ho
  | l2i =>
    simp only [am_sim] at ho
    have hfull : ∀ {a : am_A} {st' : List am_A}, st = a :: st' → am_tyA a = 2 → o = (np, lv, (0, am_var s) :: st', am_fresh s am_full) → am_Step pg xs K ms d mr pc s r L T h [o] := by
      intro a st' e1 e2 e3
      subst e1
      obtain ⟨x, T1, e4, _, hf1⟩ := am_topL hf e2
      subst e4; subst e3
      exact am_Val_push (am_Val_full hf1 x.toInt32) (fun ih => by simp only [cm_step, hat])
    split at ho
    · rename_i a st'
      split at ho
      · rename_i hb
        simp only [Bool.and_eq_true] at hb
        have h1 := am_nn_spec hb.1
        have h2 := am_nn_spec hb.2
        obtain ⟨x, T1, e4, hx, hf1⟩ := am_topL hf rfl
        have hx := hx rfl
        have hrg := am_rg_spec (am_All_here hf.1 hf.2.2.1).1 a
        have hx0 : x.toInt = am_ev r a := am_All_here hf.1 hx
        injection ho with ho
        subst ho; subst e4
        have e5 : x.toInt32.toInt = x.toInt := am_l2i (by omega) (by omega)
        exact am_out1 (T' := .int x.toInt32 :: T1) (fun ih => by simp only [cm_step, hat]) (am_later_refl _ _ _ _) (am_push hf1 (am_int_mk (fun q hq hg => by
          show x.toInt32.toInt = _
          rw [e5]; exact hx q hq hg)))
      · split at ho
        · rename_i V R hd
          obtain ⟨x, T1, e4, hx, hf1⟩ := am_topL hf rfl
          have hx := hx rfl
          obtain ⟨m, hm, hlow⟩ := am64_low (x := x)
          injection ho with ho
          subst ho; subst e4
          obtain ⟨a1, a2, a3⟩ := am_fr_fresh hf1 (g := (0, 1)) (x := m) (by show 0 ≤ m; omega) (by show m ≤ 1; omega) (by omega) (by omega)
          refine am_Val_push (z := x.toInt32) (o := (am_add (-4294967296) R (am_var s), am_fresh s (0, 1))) ⟨_, a2, a1, fun q hq hg => ?_⟩ (fun ih => by simp only [cm_step, hat])
          have hg0 : am_Ag s.1 r q := am_Ag_trans a2.1 a2.2.1 hg
          have hd := am_dm_spec (hf.2.2.1 q hq hg0).1 (by omega) hd
          have hxq : x.toInt = am_ev q _ := hx q hq hg0
          have hv : am_ev q (am_var s) = m := a3 q hq hg
          show x.toInt32.toInt = am_ev q (am_add (-4294967296) R (am_var s))
          rw [am_add_ev, hv, hlow, hxq, hd.1]
          omega
        · injection ho with ho
          exact hfull rfl rfl ho.symm
    · injection ho with ho
      exact hfull rfl rfl ho.symm
    · simp at ho
  | land =>
    simp only [am_sim] at ho
    obtain ⟨x, y, b, a, st', T', e1, ho, hy, hx, hf1⟩ := am_lg2_spec hf ho
    subst e1
    have hany : ∀ o', some o' = some o → o' = (np, lv, (3, (0, [])) :: st', s) → am_Step pg xs K ms d mr pc s r L (.long y :: .long x :: T') h [o] := by
      intro o' e2 e3
      injection e2 with e2
      subst e2; subst e3
      exact am_out1 (T' := .long (x &&& y) :: T') (fun ih => by simp only [cm_step, hat, cm_twoL]) (am_later_refl _ _ _ _) (am_push hf1 (fun q _ _ => am_sat3))
    split at ho
    · rename_i k
      have hy0 : y.toInt = k := by have := am_All_here hf.1 (hy rfl); simpa [am_ev, am_ts] using this
      split at ho
      · rename_i R hR
        injection ho with ho
        subst ho
        exact am_out1 (T' := .long (x &&& y) :: T') (fun ih => by simp only [cm_step, hat, cm_twoL]) (am_later_refl _ _ _ _) (am_push hf1 (fun q hq hg => am_satL (am_lmk_spec (hf.2.2.1 q hq hg).1 hy0 (fun h2 => hx h2 q hq hg) hR)))
      · split at ho
        · rename_i hb
          simp only [Bool.and_eq_true] at hb
          have h1 := am_nn_spec hb.1
          have h2 := am_nn_spec hb.2
          have ha := am_and64 (x := x) (y := y) (by omega)
          injection ho with ho
          subst ho
          obtain ⟨r', k1, k2⟩ := am_newL (g := (0, k)) hf1 (x := x &&& y) ha.1 (by show _ ≤ k; omega) (by omega) (by omega)
          exact am_out1 (fun ih => by simp only [cm_step, hat, cm_twoL]) k1 k2
        · exact hany _ ho rfl
    · exact hany _ ho rfl
  | lor =>
    simp only [am_sim] at ho
    obtain ⟨x, y, b, a, st', T', e1, ho, hy, hx, hf1⟩ := am_lg2_spec hf ho
    subst e1
    have hany : ∀ o', some o' = some o → o' = (np, lv, (3, (0, [])) :: st', s) → am_Step pg xs K ms d mr pc s r L (.long y :: .long x :: T') h [o] := by
      intro o' e2 e3
      injection e2 with e2
      subst e2; subst e3
      exact am_out1 (T' := .long (x ||| y) :: T') (fun ih => by simp only [cm_step, hat, cm_twoL]) (am_later_refl _ _ _ _) (am_push hf1 (fun q _ _ => am_sat3))
    split at ho
    · rename_i Y X
      have hy := hy rfl
      have hx := hx rfl
      split at ho
      · rename_i hb
        injection ho with ho
        subst ho
        exact am_out1 (T' := .long (x ||| y) :: T') (fun ih => by simp only [cm_step, hat, cm_twoL]) (am_later_refl _ _ _ _) (am_push hf1 (fun q hq hg => am_satL (am_lorB_spec (hf.2.2.1 q hq hg).1 (hx q hq hg) (hy q hq hg) hb)))
      · exact hany _ ho rfl
    · exact hany _ ho rfl
  | lshl =>
    simp only [am_sim] at ho
    obtain ⟨x, y, yf, a, st', T', e1, ho, hy, hx, hf1⟩ := am_lgK_spec hf ho
    injection ho with ho
    subst ho; subst e1
    exact am_out1 (T' := .long (x <<< (y.toInt64 &&& 63)) :: T') (fun ih => by simp only [cm_step, hat, cm_twoM]) (am_later_refl _ _ _ _) (am_push hf1 (fun q hq hg => am_lshl_spec (hf.2.2.1 q hq hg).1 (hf.2.2.1 q hq hg).2.1 (hy q hq hg) (fun h2 => hx h2 q hq hg)))
  | lshr =>
    simp only [am_sim] at ho
    obtain ⟨x, y, yf, a, st', T', e1, ho, hy, hx, hf1⟩ := am_lgK_spec hf ho
    injection ho with ho
    subst ho; subst e1
    exact am_out1 (T' := .long (x >>> (y.toInt64 &&& 63)) :: T') (fun ih => by simp only [cm_step, hat, cm_twoM]) (am_later_refl _ _ _ _) (am_push hf1 (fun q hq hg => am_lshr_spec (hf.2.2.1 q hq hg).1 (hy q hq hg) (fun h2 => hx h2 q hq hg)))
  | lushr =>
    simp only [am_sim] at ho
    obtain ⟨x, y, yf, a, st', T', e1, ho, hy, hx, hf1⟩ := am_lgK_spec hf ho
    injection ho with ho
    subst ho; subst e1
    exact am_out1 (T' := .long ((x.toUInt64 >>> (y.toInt64.toUInt64 &&& Int64.toUInt64 63)).toInt64) :: T') (fun ih => by simp only [cm_step, hat, cm_twoM]) (am_later_refl _ _ _ _) (am_push hf1 (fun q hq hg => am_lush_spec (hf.2.2.1 q hq hg).1 (hy q hq hg) (fun h2 => hx h2 q hq hg)))
  | lcmp =>
    simp only [am_sim] at ho
    obtain ⟨x, y, b, a, st', T', e1, ho, hy, hx, hf1⟩ := am_lg2_spec hf ho
    subst e1
    split at ho
    · rename_i b a
      have hy := hy rfl
      have hx := hx rfl
      injection ho with ho
      subst ho
      refine am_out1 (T' := .int (lg_cmp x y) :: T') (fun ih => by simp only [cm_step, hat, cm_twoL]) (am_later_refl _ _ _ _) (am_push hf1 (fun q hq hg => ?_))
      have e1 : x.toInt = am_ev q a := hx q hq hg
      have e2 : y.toInt = am_ev q b := hy q hq hg
      have e3 : am_ev q (am_add (-1) a b) = x.toInt - y.toInt := by rw [am_add_ev, e1, e2]; omega
      refine ⟨lg_cmp x y, rfl, ?_⟩
      simp only [e3]
      exact am_cmp64 x y
    · injection ho with ho
      subst ho
      have hc := am_cmpr x y
      exact am_Val_push (z := lg_cmp x y) (am_Val_new (g := (-1, 1)) hf1 hc.1 hc.2 (by omega) (by omega)) (fun ih => by simp only [cm_step, hat, cm_twoL])
  | _ => simp [am_sim] at ho
end
