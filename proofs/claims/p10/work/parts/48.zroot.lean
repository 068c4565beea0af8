noncomputable section
/-! LAYER 2, the cells at the start; the law's contract gives the claim. -/
def am_inT (t : Term) (g : Int × Int) : Bool := match t with
  | .int v => am_nn (v.toInt - g.1) && am_nn (g.2 - v.toInt)
  | _ => false
theorem am_inT_spec {t : Term} {g : Int × Int} (h : am_inT t g = true) : am_isIn t g := by
  unfold am_inT at h
  split at h
  · rename_i v
    simp only [Bool.and_eq_true] at h
    have h1 := am_nn_spec h.1
    have h2 := am_nn_spec h.2
    exact ⟨v, rfl, by omega, by omega⟩
  · simp at h
def am_elB (rs : List (Int × Int)) : Nat → List Term → Bool
  | _, [] => true
  | i, t :: l => am_inT t (am_rgAt rs i) && am_elB rs (i + 1) l
theorem am_elB_spec {rs : List (Int × Int)} : ∀ (l : List Term) (i : Nat), am_elB rs i l = true → ∀ j : Nat, j < l.length → ∃ u, l[j]? = some u ∧ am_isIn u (am_rgAt rs (i + j))
  | [], _, _, j, h => by simp at h
  | t :: l, i, hb, j, hj => by
    simp only [am_elB, Bool.and_eq_true] at hb
    cases j with
    | zero => exact ⟨t, by simp, am_inT_spec hb.1⟩
    | succ j =>
      obtain ⟨u, h1, h2⟩ := am_elB_spec l (i + 1) hb.2 j (by simpa using hj)
      refine ⟨u, by simpa using h1, ?_⟩
      have : i + 1 + j = i + (j + 1) := by omega
      rw [← this]; exact h2
def am_fdB : List (Term ⊕ (Int × Int)) → List Term → Bool
  | [], [] => true
  | .inl (.index j) :: fs, .index i :: l => Nat.beq i j && am_fdB fs l
  | .inr g :: fs, t :: l => am_inT t g && am_fdB fs l
  | _, _ => false
theorem am_fdB_spec : ∀ (fs : List (Term ⊕ (Int × Int))) (l : List Term), am_fdB fs l = true → l.length = fs.length ∧ ∀ (i : Nat) (sp : Term ⊕ (Int × Int)), fs[i]? = some sp → ∃ u, l[i]? = some u ∧ am_fld sp u
  | [], [], _ => ⟨rfl, fun i sp h => by simp at h⟩
  | [], _ :: _, h => by simp [am_fdB] at h
  | sp0 :: fs, [], h => by
    unfold am_fdB at h
    split at h <;> simp_all
  | sp0 :: fs, t :: l, h => by
    have key : am_fld sp0 t ∧ am_fdB fs l = true := by
      unfold am_fdB at h
      split at h
      · simp_all
      · rename_i e1 e2
        injection e1 with e1 e1'
        injection e2 with e2 e2'
        subst e1; subst e2; subst e1'; subst e2'
        simp only [Bool.and_eq_true] at h
        refine ⟨?_, h.2⟩
        rw [Nat.eq_of_beq_eq_true h.1]
        rfl
      · rename_i e1 e2
        injection e1 with e1 e1'
        injection e2 with e2 e2'
        subst e1; subst e2; subst e1'; subst e2'
        simp only [Bool.and_eq_true] at h
        exact ⟨am_inT_spec h.1, h.2⟩
      · simp at h
    obtain ⟨i1, i2⟩ := am_fdB_spec fs l key.2
    refine ⟨by simp only [List.length_cons, i1], fun i sp hi => ?_⟩
    cases i with
    | zero =>
      simp only [List.getElem?_cons_zero] at hi
      injection hi with hi
      subst hi
      exact ⟨t, by simp, key.1⟩
    | succ i =>
      obtain ⟨u, h1, h2⟩ := i2 i sp (by simpa using hi)
      exact ⟨u, by simpa using h1, h2⟩
def am_clB (k : am_K) (c : cm_C) : Bool := match k, c with
  | .inl (ty, n, rs), .inl (ty', l) => am_tyB ty' ty && (Nat.beq l.length n && am_elB rs 0 l)
  | .inr (ci, fs), .inr (cj, l) => Nat.beq cj ci && am_fdB fs l
  | _, _ => false
theorem am_clB_spec {k : am_K} {c : cm_C} (h : am_clB k c = true) : am_cell k c := by
  unfold am_clB at h
  split at h
  · rename_i ty n rs ty' l
    simp only [Bool.and_eq_true] at h
    have h1 := am_tyB_spec h.1
    have h2 := Nat.eq_of_beq_eq_true h.2.1
    subst h1; subst h2
    refine ⟨l, rfl, rfl, fun i hi => ?_⟩
    have := am_elB_spec l 0 h.2.2 i hi
    simpa using this
  · rename_i ci fs cj l
    simp only [Bool.and_eq_true] at h
    have h1 := Nat.eq_of_beq_eq_true h.1
    subst h1
    obtain ⟨i1, i2⟩ := am_fdB_spec fs l h.2
    exact ⟨l, rfl, i1, i2⟩
  · simp at h
def am_hpB : List am_K → cm_H → Bool
  | [], [] => true
  | k :: K, c :: h => am_clB k c && am_hpB K h
  | _, _ => false
theorem am_hpB_spec : ∀ (K : List am_K) (h : cm_H), am_hpB K h = true → am_heap K h
  | [], [], _ => ⟨rfl, fun i k h => by simp at h⟩
  | [], _ :: _, h => by simp [am_hpB] at h
  | _ :: _, [], h => by simp [am_hpB] at h
  | k :: K, c :: h, hb => by
    simp only [am_hpB, Bool.and_eq_true] at hb
    obtain ⟨i1, i2⟩ := am_hpB_spec K h hb.2
    refine ⟨by simp only [List.length_cons, i1], fun i k' hi => ?_⟩
    cases i with
    | zero =>
      simp only [List.getElem?_cons_zero] at hi
      injection hi with hi
      subst hi
      exact ⟨c, by simp, am_clB_spec hb.1⟩
    | succ i =>
      obtain ⟨c', h1, h2⟩ := i2 i k' (by simpa using hi)
      exact ⟨c', by simpa using h1, h2⟩
def am_i0B (h : cm_H) : List am_O → Bool
  | [] => true
  | o :: l => (match o.1.2 with
    | (k, []) => am_nn k && (Nat.blt o.1.1 1000000 && (match am_nthO (am_tms (am_nthO h o.1.1)) k.toNat with
      | some (.int v) => am_z (v.toInt - am_ev (fun _ => 0) o.2)
      | _ => false))
    | _ => false) && am_i0B h l
theorem am_i0B_spec {xs : List Int32} {h : cm_H} : ∀ {l : List am_O}, am_i0B h l = true → ∀ o ∈ l, am_slE xs h (fun _ => 0) o
  | [], _, o, hm => by simp at hm
  | p :: l, hb, o, hm => by
    simp only [am_i0B, Bool.and_eq_true] at hb
    rcases List.mem_cons.mp hm with hm | hm
    · rw [hm]
      have h1 := hb.1
      split at h1
      · rename_i k hk
        simp only [Bool.and_eq_true] at h1
        obtain ⟨g1, g2, g3⟩ := h1
        have g1 := am_nn_spec g1
        have g2 := am_blt g2
        split at g3
        · rename_i v hv
          have g3 := am_z_spec g3
          rw [am_nthO_eq, am_nthO_eq] at hv
          have ek : am_ev (fun _ => 0) p.1.2 = k := by rw [hk]; simp [am_ev, am_ts]
          refine ⟨by rw [ek]; exact g1, v, ?_, by omega⟩
          rw [ek, am_slot_new g2]
          exact hv
        · simp at g3
      · simp at h1
    · exact am_i0B_spec hb.2 o hm
theorem am_I_start {xs : List Int32} {h : cm_H} (hb : am_i0B h am_Do = true) : am_I xs h :=
  ⟨fun _ => 0, fun v => by simp, fun v => by
    have : ∀ v, v < 42 → (am_nth (-2147483648, 2147483647) am_De v).1 ≤ (0 : Int) ∧ (0 : Int) ≤ (am_nth (-2147483648, 2147483647) am_De v).2 := by decide
    by_cases hv : v < 42
    · exact this v hv
    · rw [am_nth_ge _ _ _ (by have : am_De.length = 42 := by decide
                              omega)]
      simp, am_posB_spec (by decide), am_i0B_spec hb⟩
/-- entries that hold at the start: the draft's invariant, slots at their first values -/
def am_rtO (h : cm_H) : List am_O → Bool
  | [] => true
  | o :: l => ((Nat.ble 3000000 o.1.1 && Nat.blt o.1.1 5000000) || ((Nat.beq o.1.1 5000002 && am_nn (0 - am_ev (fun _ => 0) o.2)) || (Nat.blt o.1.1 1000000 && am_i0B h [o]))) && am_rtO h l
def am_rootB (c : am_Ct) : Bool := match c with
  | ((m, pc), ([], [], o), [(5, (a, [])), (4, (b, [])), (4, (e, [])), (7, _)], (_, _, (dd, [])), _, [([], _, _, some (0, (r, [])), _)], _) => Nat.beq m 252 && (Nat.beq pc 16 && (am_z a && (am_z b && (am_z (e - 94) && (am_z (r - 1) && (am_nn (60 - dd) && am_rtO am_h0 o))))))
  | _ => false
theorem am_rtO_ov {xs : List Int32} {h : cm_H} (hI : am_I xs h) : ∀ {o : List am_O}, am_rtO h o = true → am_ov xs h (fun _ => 0) o
  | [], _, p, hm => by simp at hm
  | o :: l, hb, p, hm => by
    simp only [am_rtO, Bool.and_eq_true, Bool.or_eq_true, Nat.ble_eq] at hb
    rcases List.mem_cons.mp hm with hm | hm
    · rw [hm]
      rcases hb.1 with ⟨h3, h4⟩ | ⟨h3, h4⟩ | ⟨h1, h2⟩
      · have h4 := am_blt h4
        exact ⟨fun h1 => by omega, fun h1 h2 => by omega, fun _ => hI, fun h5 => by omega⟩
      · have h3 := Nat.eq_of_beq_eq_true h3
        have h4 := am_nn_spec h4
        refine am_ent_fun (by omega) ?_
        unfold am_fe
        rw [h3, am_fw_2]
        intro k hk
        omega
      · have hlt := am_blt h1
        exact am_ent_slot (by omega) (am_i0B_spec h2 o (List.mem_cons_self ..))
    · exact am_rtO_ov hI hb.2 p hm
/-- the law's contract, the cells at the start: the claim -/
theorem am_pure_of {K : List am_K} {c : am_Ct} (hroot : am_rootB c = true) (hK : am_hpB K am_h0 = true) (hI0 : am_i0B am_h0 am_Do = true) (hall : ∀ (x : Term) (xs : List Int32), (x = .null ∨ x = .string "" 14) → xs.length ≤ 3072 → ∀ r : am_V, am_Rg r → am_Inst (cm_pg x xs) xs K c r) : cm_Pure := by
  intro x xs hx hxs
  have hi := hall x xs hx hxs (fun _ => 0) (fun v => by simp)
  unfold am_rootB at hroot
  split at hroot
  · rename_i m pc o a b e y rk me dd ms f1 o1 res s1 srs
    simp only [Bool.and_eq_true] at hroot
    obtain ⟨g1, g2, g3, g4, g5, g6, g7, g8⟩ := hroot
    have g1 := Nat.eq_of_beq_eq_true g1
    have g2 := Nat.eq_of_beq_eq_true g2
    have g3 := am_z_spec g3
    have g4 := am_z_spec g4
    have g5 := am_z_spec g5
    have g6 := am_z_spec g6
    have g7 := am_nn_spec g7
    subst g1; subst g2; subst g3; subst g4
    have g5 : e = 94 := by omega
    have g6 : res = 1 := by omega
    subst g5; subst g6
    have hev := hi 60 cm_m252 [some (.string "" 0), some (.index 0), some (.index 94), none] am_h0 rfl ⟨fun v => by simp [am_nth_n, am_nth_z, am_nth_s], fun f hf => by simp at hf, am_rtO_ov (am_I_start hI0) g8⟩ (am_hpB_spec K _ hK) ⟨rfl, rfl, rfl, Or.inl rfl, trivial⟩ (by show am_ev _ (dd, []) ≤ _; simp [am_ev, am_ts]; omega)
    obtain ⟨N, v, h', hr, al, hal, r1, q1, q2, q3, q4, q5, q6⟩ := hev
    simp only [List.mem_cons, List.not_mem_nil, or_false] at hal
    subst hal
    obtain ⟨t, t1, z, t2, t3⟩ := q6
    injection t2 with t2
    have hz : z.toInt = 1 := by rw [t3]; simp [am_ev, am_ts]
    have hz1 : z = 1 := (am_eq32 z 1).mpr (by rw [hz]; rfl)
    rw [t2, hz1] at t1
    subst t1
    obtain ⟨n, cc, ss, p1, p2, p3⟩ := am_prefix hr
    exact ⟨n, h', cc, ss, p1, p2, p3⟩
  · simp at hroot
end
