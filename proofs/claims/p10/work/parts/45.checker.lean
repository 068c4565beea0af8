noncomputable section
/-! LAYER 2, THE CHECKER: it runs a method over a state; what it takes, ends, and comes to what its last argument takes. -/
abbrev am_X : Type := Nat → cm_M → List (Nat × List am_Di) → Nat → Option (List am_Di) → List am_A → List am_A → am_L → am_S → (Option am_A → am_S → Bool) → Bool
def am_SX (pg : cm_G) (xs : List Int32) (K : List am_K) (ms : List (Nat × Nat)) (n0 : Nat) (r0 : am_V) (ax : am_X) : Prop :=
  ∀ (d mi : Nat) (mr : cm_M) (ds : List (Nat × List am_Di)) (pc : Nat) (w : Option (List am_Di)) (lv st : List am_A) (dl : am_L) (s : am_S) (k : Option am_A → am_S → Bool) (r : am_V) (L : cm_Lv) (T : List Term) (h : cm_H),
    cm_nth pg.1 mi = some mr → ax mi mr ds pc w lv st dl s k = true → am_fr xs K s lv st r L T h → am_All s.1 r (fun q => am_ev q dl ≤ (d : Int)) → n0 ≤ s.1 → am_Ag n0 r0 r → am_Ev pg d mr pc L T h (am_Goal xs K ms k s r h)
/-- variables at fixed values are at these values -/
def am_pre (s : am_S) : List am_A → List am_A → Bool
  | (0, (k, [])) :: l0, (0, f) :: l => (match am_norm s.2.1 f with
    | (j, []) => (match am_z (j - k) with
      | true => am_pre s l0 l
      | false => false)
    | _ => false)
  | (4, (k, _)) :: l0, (4, (j, _)) :: l => (match am_z (j - k) with
    | true => am_pre s l0 l
    | false => false)
  | _ :: l0, _ :: l => am_pre s l0 l
  | _, _ => true
def am_ctAt (cs : List (List am_Ct)) (i : Nat) : Option am_Ct := match am_nthO cs (i / 32) with
  | none => none
  | some l => am_nthO l (i % 32)
/-- slots at told values: a contract that wants others needs no try -/
def am_flq (s : am_S) (q : List (Nat × Nat × Int)) : Bool := List.rec (motive := fun _ => Bool) true (fun p _ ih => match am_find s.2.1 p.1 (Int.ofNat p.2.1, []) s.2.2.2 with
    | none => false
    | some w => match am_norm s.2.1 w with
      | (k, []) => (match am_z (am_is k p.2.2) with
        | true => ih
        | false => false)
      | _ => false) q
def am_try (K : List am_K) (ms : List (Nat × Nat)) (rk : Nat) (f0 : am_L) (cs : List (List am_Ct)) (mi pc : Nat) (lv : List am_A) (dl : am_L) (s : am_S) (k : Option am_A → am_S → Bool) : List am_Cd → Option Bool
  | [] => none
  | (lo, hi, i, q) :: l => match am_nn (am_mode s - lo) && (am_nn (hi - am_mode s) && am_flq s q) with
    | false => am_try K ms rk f0 cs mi pc lv dl s k l
    | true => match am_ctAt cs i with
      | none => am_try K ms rk f0 cs mi pc lv dl s k l
      | some c => match Nat.beq c.1.1 mi && (Nat.beq c.1.2 pc && am_pre s c.2.2.1 lv) with
        | false => am_try K ms rk f0 cs mi pc lv dl s k l
        | true => match am_enO K c.2.1.2.2 (am_enS K lv c.2.2.2.2.2.2 s) with
          | s1 => match am_srcs s1 lv none c.2.2.2.2.2.2 with
            | none => am_try K ms rk f0 cs mi pc lv dl s k l
            | some σ => match am_fit s1 lv σ ms rk f0 dl c with
              | false => am_try K ms rk f0 cs mi pc lv dl s k l
              | true => some (am_ends s1 σ c.2.2.2.2.1 k c.2.2.2.2.2.1)
/-- what is known of contracts: those of a lower rank, or of this one with a lesser measure -/
def am_HC (pg : cm_G) (xs : List Int32) (K : List am_K) (cs : List (List am_Ct)) (rk : Nat) (μ : Int) : Prop :=
  ∀ (i : Nat) (c : am_Ct), am_ctAt cs i = some c → am_okC c = true ∧ ∀ r : am_V, am_Rg r → (c.2.2.2.1.1 < rk ∨ (c.2.2.2.1.1 = rk ∧ 0 ≤ am_ev r c.2.2.2.1.2.1 ∧ am_ev r c.2.2.2.1.2.1 < μ)) → am_Inst pg xs K c r
theorem am_try_spec {pg : cm_G} {xs : List Int32} {K : List am_K} {ms : List (Nat × Nat)} {d mi : Nat} {mr : cm_M} {pc : Nat} {s : am_S} {lv : List am_A} {r : am_V} {L : cm_Lv} {T : List Term} {h : cm_H} (hKl : K.length ≤ 1000000) (hmr : cm_nth pg.1 mi = some mr) {rk : Nat} {f0 dl : am_L} {cs : List (List am_Ct)} {k : Option am_A → am_S → Bool} {μ : Int} (hC : am_HC pg xs K cs rk μ)
    (hf : am_fr xs K s lv [] r L T h) (hμ : am_All s.1 r (fun q => am_ev q f0 = μ)) (hdl : am_All s.1 r (fun q => am_ev q dl ≤ (d : Int))) : ∀ (l : List am_Cd), am_try K ms rk f0 cs mi pc lv dl s k l = some true → am_Ev pg d mr pc L T h (am_Goal xs K ms k s r h)
  | [], ht => by simp [am_try] at ht
  | (lo, hi, i, q) :: l, ht => by
    have go : am_try K ms rk f0 cs mi pc lv dl s k l = some true → am_Ev pg d mr pc L T h (am_Goal xs K ms k s r h) := fun hh => am_try_spec hKl hmr hC hf hμ hdl l hh
    simp only [am_try] at ht
    split at ht
    · exact go ht
    · split at ht
      · exact go ht
      · rename_i c hc
        split at ht
        · exact go ht
        · rename_i hb
          simp only [Bool.and_eq_true] at hb
          have hb1 := Nat.eq_of_beq_eq_true hb.1
          have hb2 := Nat.eq_of_beq_eq_true hb.2.1
          split at ht
          · exact go ht
          · rename_i σ hσ
            split at ht
            · exact go ht
            · rename_i hfit
              injection ht with ht
              obtain ⟨hok, hI⟩ := hC i c hc
              obtain ⟨r1, k1, k2⟩ := am_Kn_trans (am_enS_spec (xs := xs) hKl lv c.2.2.2.2.2.2 s) (am_enO_spec hKl c.2.1.2.2 _) lv [] r L T h hf
              have hT : T = [] := by
                have := am_All_here hf.1 hf.2.2.2.2.2
                cases T with
                | nil => rfl
                | cons u T2 => simp [am_sts] at this
              subst hT
              have hap := am_apply (pg := pg) (d := d) (mr := mr) (μ := μ) hKl k2 hok (by rw [hb1]; exact hmr) (am_All_here k2.1 (am_All_more k1.1 k1.2.1 hμ)) (am_All_here k2.1 (am_All_more k1.1 k1.2.1 hdl)) hfit ht (fun h1 h2 => hI _ h1 h2)
              rw [hb2] at hap
              exact am_Ev_mono (fun _ _ g => am_Goal_later (am_later_nil k1) g) hap
/-- of what kind an instruction is -/
def am_cls (ins : Instr) : Nat := match ins with
  | .iaload => 1
  | .baload => 1
  | .iastore => 1
  | .bastore => 1
  | .arraylength => 1
  | .getfield _ => 1
  | .putfield _ => 1
  | .getstatic _ => 1
  | .ifCond _ _ => 2
  | .if_icmp _ _ => 2
  | .tableswitch _ _ _ _ => 2
  | .lookupswitch _ _ => 2
  | .iadd => 3
  | .isub => 3
  | .imul => 3
  | .idiv => 3
  | .irem => 3
  | .iand => 3
  | .ishr => 3
  | .ior => 3
  | .ixor => 3
  | .ishl => 3
  | .iushr => 3
  | .ineg => 4
  | .i2b => 4
  | .i2s => 4
  | .i2c => 4
  | .ireturn => 5
  | .return_ => 5
  | .invokestatic _ => 5
  | .invokevirtual _ => 5
  | .invokespecial _ => 5
  | _ => 0
def am_lod (ins : Instr) : Option (Nat × Nat) := match ins with
  | .iload i => some (i, 1)
  | .iload_n i => some (i.val, 1)
  | .aload i => some (i, 3)
  | .aload_n i => some (i.val, 3)
  | _ => none
theorem am_lod_sim {ins : Instr} {i ty : Nat} (h : am_lod ins = some (i, ty)) (np : Nat) (rs : List Nat) (lv st : List am_A) (s : am_S) : am_sim ins np rs lv st s = am_cld np lv st s i ty := by
  unfold am_lod at h
  split at h
  · injection h with h
    injection h with h1 h2
    subst h1; subst h2; rfl
  · injection h with h
    injection h with h1 h2
    subst h1; subst h2; rfl
  · injection h with h
    injection h with h1 h2
    subst h1; subst h2; rfl
  · injection h with h
    injection h with h1 h2
    subst h1; subst h2; rfl
  · simp at h
/-- one way on, if there is one -/
def am_o1 (o : Option am_N) : Option (List am_N) := match o with
  | some o => some [o]
  | none => none
theorem am_o1_spec {o : Option am_N} {out : List am_N} (h : am_o1 o = some out) : ∃ p, o = some p ∧ out = [p] := by
  cases o with
  | none => simp [am_o1] at h
  | some p =>
    simp only [am_o1] at h
    injection h with h
    exact ⟨p, rfl, h.symm⟩
def am_oB (np : Nat) (lv : List am_A) (o : Option (List am_A × am_L × am_S)) : Option (List am_N) := match o with
  | some (st', c, s') => some [(np, lv, (0, c) :: st', s')]
  | none => none
theorem am_oB_spec {np : Nat} {lv : List am_A} {o : Option (List am_A × am_L × am_S)} {out : List am_N} (h : am_oB np lv o = some out) : ∃ p, o = some p ∧ out = [(np, lv, (0, p.2.1) :: p.1, p.2.2)] := by
  cases o with
  | none => simp [am_oB] at h
  | some p =>
    obtain ⟨a, b, c⟩ := p
    simp only [am_oB] at h
    injection h with h
    exact ⟨_, rfl, h.symm⟩
/-- a step that is neither a call nor a return -/
def am_one (K : List am_K) (ms : List (Nat × Nat)) (ins : Instr) (np : Nat) (rs : List Nat) (lv st : List am_A) (s : am_S) : Option (List am_N) := match am_lod ins with
  | some (i, ty) => am_o1 (am_cld np lv st s i ty)
  | none => match am_cls ins with
    | 0 => am_o1 (am_sim ins np rs lv st s)
    | 1 => am_o1 (am_hea K ms ins np rs lv st s)
    | 2 => am_bra ins np rs lv st s
    | 3 => am_oB np lv (am_b2 st (am_bin s ins))
    | 4 => am_oB np lv (am_b1 st (am_un s ins))
    | _ => none
theorem am_one_spec {x : Term} {xs : List Int32} {K : List am_K} {ms : List (Nat × Nat)} {d : Nat} {mr : cm_M} {pc np : Nat} {rs : List Nat} {s : am_S} {lv st : List am_A} {r : am_V} {L : cm_Lv} {T : List Term} {h : cm_H} (hx : x = .null ∨ x = .string "" 14) (hxs : xs.length ≤ 3072) (hKl : K.length ≤ 1000000) (hf : am_fr xs K s lv st r L T h)
    {ins : Instr} (hat : cm_at mr.1 pc = some (ins, np, rs)) {out : List am_N} (ho : am_one K ms ins np rs lv st s = some out) : am_Step (cm_pg x xs) xs K ms d mr pc s r L T h out := by
  unfold am_one at ho
  split at ho
  · rename_i i ty hl
    rw [← am_lod_sim hl np rs lv st s] at ho
    obtain ⟨o, h1, h2⟩ := am_o1_spec ho
    subst h2
    exact am_sim_spec hf hat h1
  · split at ho
    · obtain ⟨o, h1, h2⟩ := am_o1_spec ho
      subst h2
      exact am_sim_spec hf hat h1
    · obtain ⟨o, h1, h2⟩ := am_o1_spec ho
      subst h2
      exact am_hea_spec hx hxs hKl hf hat h1
    · exact am_bra_spec hf hat ho
    · obtain ⟨o, h1, h2⟩ := am_oB_spec ho
      subst h2
      exact am_bin_spec hf hat h1
    · obtain ⟨o, h1, h2⟩ := am_oB_spec ho
      subst h2
      exact am_un_spec hf hat h1
    · simp at ho
def am_allN (f : am_N → Bool) : List am_N → Bool
  | [] => true
  | o :: l => match f o with
    | true => am_allN f l
    | false => false
theorem am_allN_mem {f : am_N → Bool} : ∀ {l : List am_N}, am_allN f l = true → ∀ o ∈ l, f o = true
  | [], _, o, h => by simp at h
  | p :: l, h, o, hm => by
    simp only [am_allN] at h
    split at h
    · rename_i hp
      rcases List.mem_cons.mp hm with hm | hm
      · rw [hm]; exact hp
      · exact am_allN_mem h o hm
    · simp at h
theorem am_SX_step {pg : cm_G} {xs : List Int32} {K : List am_K} {ms : List (Nat × Nat)} {n0 : Nat} {r0 : am_V} {ax : am_X} (hX : am_SX pg xs K ms n0 r0 ax) {d mi : Nat} {mr : cm_M} {ds : List (Nat × List am_Di)} {pc : Nat} {dl : am_L} {s : am_S} {k : Option am_A → am_S → Bool} {r : am_V} {L : cm_Lv} {T : List Term} {h : cm_H} {out : List am_N}
    (hmr : cm_nth pg.1 mi = some mr) (hst : am_Step pg xs K ms d mr pc s r L T h out) (hall : am_allN (fun o => ax mi mr ds o.1 none o.2.1 o.2.2.1 dl o.2.2.2 k) out = true) (hdl : am_All s.1 r (fun q => am_ev q dl ≤ (d : Int))) (hn : n0 ≤ s.1) (ha : am_Ag n0 r0 r) : am_Ev pg d mr pc L T h (am_Goal xs K ms k s r h) := by
  obtain ⟨o, hm, r', L', T', h', hs, hl, hf⟩ := hst
  have hk := am_allN_mem hall o hm
  have := hX d mi mr ds o.1 none o.2.1 o.2.2.1 dl o.2.2.2 k r' L' T' h' hmr hk hf (am_All_more hl.1 hl.2.1 hdl) (Nat.le_trans hn hl.1) (am_Ag_trans hn ha hl.2.1)
  exact am_Ev_go hs (am_Ev_mono (fun _ _ g => am_Goal_later hl g) this)
/-- lists of n elements each, but the last -/
def am_even {α : Type} (n : Nat) : List (List α) → Prop
  | [] => True
  | l :: L => (L = [] ∨ l.length = n) ∧ l.length ≤ n ∧ am_even n L
theorem am_even_spec {α : Type} {n : Nat} (hn : 0 < n) : ∀ (L : List (List α)) (i : Nat), am_even n L → (am_nth [] L (i / n))[i % n]? = L.flatten[i]?
  | [], i, _ => by simp [am_nth_n]
  | l :: L, i, h => by
    obtain ⟨h1, h2, h3⟩ := h
    by_cases hi : i < n
    · rw [Nat.div_eq_of_lt hi, Nat.mod_eq_of_lt hi, am_nth_z, List.flatten_cons]
      rcases h1 with h1 | h1
      · subst h1; simp
      · rw [List.getElem?_append_left (by omega)]
    · have hd : i / n = (i - n) / n + 1 := by
        have h4 : i = (i - n) + n := by omega
        have h5 : (i - n + n) / n = (i - n) / n + 1 := Nat.add_div_right (i - n) hn
        rw [← h4] at h5; exact h5
      rw [hd, am_nth_s]
      have hm : i % n = (i - n) % n := (Nat.mod_eq_sub_mod (by omega))
      rw [hm, am_even_spec hn L (i - n) h3, List.flatten_cons]
      rcases h1 with h1 | h1
      · subst h1
        simp only [List.flatten_nil, List.append_nil, List.getElem?_nil]
        rw [List.getElem?_eq_none (by omega)]
      · rw [List.getElem?_append_right (by omega), h1]
def am_msC : List (List cm_M) := [cm_ms0, cm_ms1, cm_ms2, cm_ms3, cm_ms4, cm_ms5, cm_ms6, cm_ms7, cm_ms8, cm_ms9, cm_ms10]
def am_mAt (i : Nat) : Option cm_M := am_nthO (am_nth [] am_msC (Nat.div i 25)) (Nat.mod i 25)
theorem am_mAt_eq (i : Nat) : am_mAt i = cm_nth cm_ms i := by
  have h : am_msC.flatten = cm_ms := by simp only [am_msC, cm_ms, List.flatten_cons, List.flatten_nil, List.append_nil]
  show am_nthO (am_nth [] am_msC (i / 25)) (i % 25) = _
  rw [am_nthO_eq, am_cnth_eq, ← h]
  exact am_even_spec (by omega) am_msC i ⟨Or.inr rfl, by decide, Or.inr rfl, by decide, Or.inr rfl, by decide, Or.inr rfl, by decide, Or.inr rfl, by decide, Or.inr rfl, by decide, Or.inr rfl, by decide, Or.inr rfl, by decide, Or.inr rfl, by decide, Or.inr rfl, by decide, Or.inl rfl, by decide, trivial⟩
def am_at (c : List (List (Option cm_I))) (pc : Nat) : Option cm_I := match am_nthO c (Nat.div pc 16) with
  | none => none
  | some l => match am_nthO l (Nat.mod pc 16) with
    | some (some i) => some i
    | _ => none
theorem am_at_eq (c : List (List (Option cm_I))) (pc : Nat) : am_at c pc = cm_at c pc := by
  show (match am_nthO c (pc / 16) with
  | none => none
  | some l => match am_nthO l (pc % 16) with
    | some (some i) => some i
    | _ => none) = _
  unfold cm_at
  rw [am_nthO_eq, am_cnth_eq]
  cases c[pc / 16]? with
  | none => rfl
  | some l =>
    simp only []
    rw [am_nthO_eq, am_cnth_eq]
    cases l[pc % 16]? with
    | none => rfl
    | some o => cases o <;> rfl
def am_dsAt (dirs : List (List (List (Nat × List am_Di)))) (i : Nat) : List (Nat × List am_Di) := am_nth [] (am_nth [] dirs (Nat.div i 16)) (Nat.mod i 16)
/-- a call -/
def am_cal (ax : am_X) (dirs : List (List (List (Nat × List am_Di)))) (mi : Nat) (mr : cm_M) (ds : List (Nat × List am_Di)) (np : Nat) (lv : List am_A) (dl : am_L) (s : am_S) (k : Option am_A → am_S → Bool) (callee : Nat) (args rest : List am_A) : Bool := match am_mAt callee with
  | none => false
  | some mr' => match am_prove s.2.1 s.2.2.1 (am_add 1 (-1, []) dl) && (Nat.ble (am_catA rest) 8 && (am_okArg args && Nat.ble (am_slA args).length mr'.2.1)) with
    | false => false
    | true => ax callee mr' (am_dsAt dirs callee) 0 none (am_entA mr'.2.1 args) [] (am_add 1 (-1, []) dl) s (fun a s' => ax mi mr ds np none lv (a.toList ++ rest) dl s' k)
theorem am_cal_spec {x : Term} {xs : List Int32} {K : List am_K} {ms : List (Nat × Nat)} {n0 : Nat} {r0 : am_V} {ax : am_X} (hX : am_SX (cm_pg x xs) xs K ms n0 r0 ax) {dirs : List (List (List (Nat × List am_Di)))} {d mi : Nat} {mr : cm_M} {ds : List (Nat × List am_Di)} {pc np : Nat} {lv st : List am_A} {dl : am_L} {s : am_S} {k : Option am_A → am_S → Bool} {r : am_V} {L : cm_Lv} {T : List Term} {h : cm_H} {callee na : Nat} {args rest : List am_A}
    (hmr : cm_nth (cm_pg x xs).1 mi = some mr) (hf : am_fr xs K s lv st r L T h) (hp : am_popA na st [] = some (args, rest)) (hc : am_cal ax dirs mi mr ds np lv dl s k callee args rest = true) (hdl : am_All s.1 r (fun q => am_ev q dl ≤ (d : Int))) (hn : n0 ≤ s.1) (ha : am_Ag n0 r0 r)
    (hs : ∀ ih, cm_step (cm_pg x xs) ih d mr pc L T h = cm_call (cm_pg x xs) ih d callee (am_popT na T []).1 (am_popT na T []).2 h (fun st h => ih d mr np L st h)) : am_Ev (cm_pg x xs) d mr pc L T h (am_Goal xs K ms k s r h) := by
  unfold am_cal at hc
  split at hc
  · simp at hc
  · rename_i mr' hmr'
    rw [am_mAt_eq] at hmr'
    split at hc
    · simp at hc
    · rename_i hb
      simp only [Bool.and_eq_true, Nat.ble_eq] at hb
      obtain ⟨g1, g2, g3, g4⟩ := hb
      have hpq : ∀ q, am_Rg q → am_Ag s.1 r q → am_sts q args (am_popT na T []).1 ∧ am_sts q rest (am_popT na T []).2 := fun q hq hg => (am_pop_spec (β := Nat) (accT := []) na hp (hf.2.2.2.2.2 q hq hg) trivial).2
      obtain ⟨p1, p2, _⟩ := am_All_here hf.1 hf.2.2.1
      have hd1 := am_prove_spec p1 p2 g1
      rw [am_add_ev] at hd1
      have e1 : ∀ q : am_V, am_ev q (-1, []) = -1 := fun _ => rfl
      rw [e1] at hd1
      have hd0 : am_ev r dl ≤ (d : Int) := am_All_here hf.1 hdl
      obtain ⟨d', hd'⟩ : ∃ d', d = d' + 1 := ⟨d - 1, by omega⟩
      subst hd'
      have h0 := hpq r hf.1 (am_Ag_refl _ _)
      have hcat := am_catA_spec h0.2
      have hsl := am_slA_spec g3 h0.1
      have hlen := am_lvs_len hsl.1
      have hcl : ∀ ih, cm_step (cm_pg x xs) ih (d' + 1) mr pc L T h = (match ih d' mr' 0 (cm_ent mr'.2.1 (am_popT na T []).1) [] h with
          | none => none
          | some (v, h', c, sz) => cm_more c sz (ih (d' + 1) mr np L (v.toList ++ (am_popT na T []).2) h')) := fun ih => by
        rw [hs]
        have hm : cm_nth (cm_pg x xs).1 callee = some mr' := hmr'
        simp only [cm_call, hm]
        rw [if_pos ⟨by omega, by omega, hsl.2⟩]
        rfl
      refine am_Ev_call hcl (hX d' callee mr' _ 0 none _ [] _ s _ r _ [] h hmr' hc ⟨hf.1, hf.2.1, hf.2.2.1, hf.2.2.2.1, fun q hq hg => am_entA_spec _ g3 (hpq q hq hg).1, fun _ _ _ => trivial⟩ (fun q hq hg => ?_) hn ha) ?_
      · have : am_ev q dl ≤ ((d' + 1 : Nat) : Int) := hdl q hq hg
        show am_ev q (am_add 1 (-1, []) dl) ≤ (d' : Int)
        rw [am_add_ev, e1]
        omega
      · intro v h' g
        obtain ⟨s', r', a, hk', hla, hr', hw', hh', hp', hre⟩ := g
        refine am_Ev_mono (fun _ _ g => am_Goal_later hla g) (hX (d' + 1) mi mr ds np none lv _ dl s' k r' L _ h' hmr hk' ⟨hr', hw', hh', hp', am_All_more hla.1 hla.2.1 hf.2.2.2.2.1, ?_⟩ (am_All_more hla.1 hla.2.1 hdl) (Nat.le_trans hn hla.1) (am_Ag_trans hn ha hla.2.1))
        have hrest : am_All s'.1 r' (fun q => am_sts q rest (am_popT na T []).2) := am_All_more hla.1 hla.2.1 (fun q hq hg => (hpq q hq hg).2)
        cases a with
        | none =>
          have hv : v = none := hre
          rw [hv]
          exact hrest
        | some a =>
          obtain ⟨t, hv, ha⟩ := hre
          rw [hv]
          intro q hq hg
          exact ⟨ha q hq hg, hrest q hq hg⟩
/-- a call, or a return -/
def am_ex2 (K : List am_K) (ms : List (Nat × Nat)) (dirs : List (List (List (Nat × List am_Di)))) (ax : am_X) (mi : Nat) (mr : cm_M) (ds : List (Nat × List am_Di)) (lv st : List am_A) (dl : am_L) (s : am_S) (k : Option am_A → am_S → Bool) (ins : Instr) (np : Nat) (rs : List Nat) : Bool := match ins with
  | .ireturn => (match st, mr.2.2 with
    | [(0, a)], some ty => (match am_dvA s a ty with
      | true => k (some (0, a)) s
      | false => false)
    | _, _ => false)
  | .return_ => (match st, mr.2.2 with
    | [], none => k none s
    | _, _ => false)
  | .invokestatic j => (match rs with
    | 0 :: callee :: na :: _ => (match am_popA na st [] with
      | some (args, rest) => am_cal ax dirs mi mr ds np lv dl s k callee args rest
      | none => false)
    | _ => (match am_prove s.2.1 s.2.2.1 (am_add 1 (-1, []) dl) with
      | true => (match am_lib K ms (.invokestatic j) np rs lv st s with
        | some o => ax mi mr ds o.1 none o.2.1 o.2.2.1 dl o.2.2.2 k
        | none => false)
      | false => false))
  | .invokevirtual _ => (match rs with
    | ci :: callee :: na :: _ => (match am_popA (na + 1) st [] with
      | some (args, rest) => (match am_rcv K ci args with
        | true => am_cal ax dirs mi mr ds np lv dl s k callee args rest
        | false => false)
      | none => false)
    | _ => false)
  | .invokespecial _ => (match rs with
    | 0 :: callee :: na :: _ => (match am_popA (na + 1) st [] with
      | some (args, rest) => (match am_new1 args with
        | true => am_cal ax dirs mi mr ds np lv dl s k callee args rest
        | false => false)
      | none => false)
    | _ => false)
  | _ => false
/-- an instruction -/
def am_exe (K : List am_K) (ms : List (Nat × Nat)) (dirs : List (List (List (Nat × List am_Di)))) (ax : am_X) (mi : Nat) (mr : cm_M) (ds : List (Nat × List am_Di)) (pc : Nat) (lv st : List am_A) (dl : am_L) (s : am_S) (k : Option am_A → am_S → Bool) : Bool := match am_at mr.1 pc with
  | none => false
  | some (ins, np, rs) => match am_one K ms ins np rs lv st s with
    | some l => am_allN (fun o => ax mi mr ds o.1 none o.2.1 o.2.2.1 dl o.2.2.2 k) l
    | none => am_ex2 K ms dirs ax mi mr ds lv st dl s k ins np rs
theorem am_exe_spec {x : Term} {xs : List Int32} {K : List am_K} {ms : List (Nat × Nat)} {n0 : Nat} {r0 : am_V} {ax : am_X} (hx : x = .null ∨ x = .string "" 14) (hxs : xs.length ≤ 3072) (hKl : K.length ≤ 1000000) (hX : am_SX (cm_pg x xs) xs K ms n0 r0 ax) {dirs : List (List (List (Nat × List am_Di)))} {d mi : Nat} {mr : cm_M} {ds : List (Nat × List am_Di)} {pc : Nat} {lv st : List am_A} {dl : am_L} {s : am_S} {k : Option am_A → am_S → Bool} {r : am_V} {L : cm_Lv} {T : List Term} {h : cm_H}
    (hmr : cm_nth (cm_pg x xs).1 mi = some mr) (hk : am_exe K ms dirs ax mi mr ds pc lv st dl s k = true) (hf : am_fr xs K s lv st r L T h) (hdl : am_All s.1 r (fun q => am_ev q dl ≤ (d : Int))) (hn : n0 ≤ s.1) (ha : am_Ag n0 r0 r) : am_Ev (cm_pg x xs) d mr pc L T h (am_Goal xs K ms k s r h) := by
  unfold am_exe at hk
  split at hk
  · simp at hk
  · rename_i ins np rs hat
    rw [am_at_eq] at hat
    split at hk
    · rename_i l hl
      exact am_SX_step hX hmr (am_one_spec hx hxs hKl hf hat hl) hk hdl hn ha
    · unfold am_ex2 at hk
      have hpT : ∀ {na : Nat} {o : List am_A × List am_A}, am_popA na st [] = some o → ∀ kk : List Term → List Term → Option cm_R, cm_pop na T [] kk = kk (am_popT na T []).1 (am_popT na T []).2 := fun hp kk => (am_pop_spec (accT := []) (q := r) _ hp (am_All_here hf.1 hf.2.2.2.2.2) trivial).1 kk
      have hpS : ∀ {na : Nat} {o : List am_A × List am_A}, am_popA na st [] = some o → am_sts r o.1 (am_popT na T []).1 := fun hp => (am_pop_spec (β := Nat) (accT := []) (q := r) _ hp (am_All_here hf.1 hf.2.2.2.2.2) trivial).2.1
      split at hk
      · split at hk
        · rename_i a ty hty _
          split at hk
          · rename_i hdv
            obtain ⟨y, T1, e1, hy, hf1⟩ := am_topI hf
            have hT : T1 = [] := by
              have := am_All_here hf1.1 hf1.2.2.2.2.2
              cases T1 with
              | nil => rfl
              | cons u T2 => simp [am_sts] at this
            subst hT; subst e1
            have hv := am_dvA_spec hf.1 hf.2.2.1 (am_All_here hf.1 hy) hdv
            exact am_Ev_ret (v := some (.int y)) (h' := h) (fun ih => by simp only [cm_step, hat, cm_ret, hty, hv, if_true]) ⟨s, r, some (0, a), hk, am_later_refl ms s r h, hf.1, hf.2.1, hf.2.2.1, hf.2.2.2.1, .int y, rfl, am_int_mk hy⟩
          · simp at hk
        · simp at hk
      · split at hk
        · rename_i hty _
          have hT : T = [] := by
            have := am_All_here hf.1 hf.2.2.2.2.2
            cases T with
            | nil => rfl
            | cons u T2 => simp [am_sts] at this
          subst hT
          exact am_Ev_ret (v := none) (h' := h) (fun ih => by simp only [cm_step, hat, hty, and_self, if_true]) ⟨s, r, none, hk, am_later_refl ms s r h, hf.1, hf.2.1, hf.2.2.1, hf.2.2.2.1, rfl⟩
        · simp at hk
      · split at hk
        · rename_i callee na _
          split at hk
          · rename_i args rest hp
            exact am_cal_spec hX hmr hf hp hk hdl hn ha (fun ih => by simp only [cm_step, hat]; exact hpT hp _)
          · simp at hk
        · split at hk
          · rename_i hd1
            split at hk
            · rename_i o ho
              obtain ⟨p1, p2, _⟩ := am_All_here hf.1 hf.2.2.1
              have hd1 := am_prove_spec p1 p2 hd1
              rw [am_add_ev] at hd1
              have e1 : am_ev r (-1, []) = -1 := rfl
              have hd0 : am_ev r dl ≤ (d : Int) := am_All_here hf.1 hdl
              exact am_SX_step hX hmr (am_lib_spec hKl (by omega) hf hat ho) (by simp only [am_allN]; rw [hk]) hdl hn ha
            · simp at hk
          · simp at hk
      · split at hk
        · rename_i ci callee na _
          split at hk
          · rename_i args rest hp
            split at hk
            · rename_i hrc
              have hrr := am_rcv_spec (x := x) (xs := xs) hf.2.2.2.1 (hpS hp) hrc
              exact am_cal_spec hX hmr hf hp hk hdl hn ha (fun ih => by simp only [cm_step, hat]; rw [hpT hp]; simp only [hrr, if_true])
            · simp at hk
          · simp at hk
        · simp at hk
      · split at hk
        · rename_i callee na _
          split at hk
          · rename_i args rest hp
            split at hk
            · rename_i hrc
              have hrr := am_new1_spec (hpS hp) hrc
              exact am_cal_spec hX hmr hf hp hk hdl hn ha (fun ih => by simp only [cm_step, hat]; rw [hpT hp]; simp only [hrr, if_true])
            · simp at hk
          · simp at hk
        · simp at hk
      · simp at hk
end
