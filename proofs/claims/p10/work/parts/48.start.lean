noncomputable section
/-! LAYER 2, the start: both constructors run; the law from its first loop on. -/
def am_ty (ci : Nat) : List FieldType := match cm_nth cm_tys ci with
  | some t => t
  | none => []
def am_ob (ci : Nat) : cm_C := .inr (ci, (am_ty ci).map cm_d0)
def am_hp (o : Option cm_R) : cm_H := match o with
  | some (_, h, _, _) => h
  | none => []
def am_cc (o : Option cm_R) : Nat := match o with
  | some (_, _, c, _) => c
  | none => 0
def am_ss (o : Option cm_R) : Nat := match o with
  | some (_, _, _, s) => s
  | none => 0
def am_vd (o : Option cm_R) : Bool := match o with
  | some (none, _, _, _) => true
  | _ => false
theorem am_vd_spec {o : Option cm_R} (h : am_vd o = true) : o = some (none, am_hp o, am_cc o, am_ss o) := by
  unfold am_vd at h
  split at h
  · rfl
  · simp at h
noncomputable def am_R1 : Option cm_R := am_runR 3000 59 cm_m99 0 (cm_ent 1 [.index 0]) [] [am_ob 11]
noncomputable def am_R2 : Option cm_R := am_runR 3000 59 cm_m147 0 (cm_ent 2 [.index 94]) [] (am_hp am_R1 ++ [am_ob 12])
theorem am_R1_ok : am_vd am_R1 = true := by decide +kernel
theorem am_R1_len : (am_hp am_R1).length = 94 := by decide +kernel
theorem am_R2_ok : am_vd am_R2 = true := by decide +kernel
theorem am_R_c : am_cc am_R1 + am_cc am_R2 + 2 ≤ 600000 := by decide +kernel
theorem am_R_s : am_ss am_R1 + am_ss am_R2 + (am_ty 11).length + (am_ty 12).length ≤ 7302250 := by decide +kernel
noncomputable def am_h0 : cm_H := am_hp am_R2
theorem am_lw0 : cm_at cm_m252.1 0 = some (.new 7, 3, [11, 115, 116, 94]) := rfl
theorem am_lw3 : cm_at cm_m252.1 3 = some (.dup, 4, []) := rfl
theorem am_lw4 : cm_at cm_m252.1 4 = some (.invokespecial 9, 7, [0, 99, 0, 0, 117, 118, 94]) := rfl
theorem am_lw7 : cm_at cm_m252.1 7 = some (.astore_n 1, 8, []) := rfl
theorem am_lw8 : cm_at cm_m252.1 8 = some (.new 10, 11, [12, 995, 996, 106]) := rfl
theorem am_lw11 : cm_at cm_m252.1 11 = some (.dup, 12, []) := rfl
theorem am_lw12 : cm_at cm_m252.1 12 = some (.invokespecial 12, 15, [0, 147, 0, 0, 997, 998, 106]) := rfl
theorem am_lw15 : cm_at cm_m252.1 15 = some (.astore_n 2, 16, []) := rfl
theorem am_n99 : cm_nth cm_ms 99 = some cm_m99 := rfl
theorem am_n147 : cm_nth cm_ms 147 = some cm_m147 := rfl
theorem am_app_eq {α β : Type} : ∀ (l : List α) (v : α) (k : List α → β), cm_app l v k = k (l ++ [v])
  | [], _, _ => rfl
  | x :: l, v, k => am_app_eq l v (fun ys => k (x :: ys))
theorem am_more2 {c s : Nat} {v : Option Term} {h : cm_H} {c' s' : Nat} : cm_more c s (some (v, h, c', s')) = some (v, h, c + c', s + s') := rfl
set_option maxRecDepth 20000 in
/-- the law's run out of that from its loop on -/
theorem am_prefix {x : Term} {xs : List Int32} {v : Option Term} {h' : cm_H} {N : Nat} (hN : ∀ n, N ≤ n → cm_run (cm_pg x xs) n 60 cm_m252 16 [some (.string "" 0), some (.index 0), some (.index 94), none] [] am_h0 = some (v, h', 0, 0)) :
    ∃ (n cc ss : Nat), cm_run (cm_pg x xs) n 60 cm_m252 0 (cm_ent 4 [.string "" 0]) [] [] = some (v, h', cc, ss) ∧ cc ≤ 600000 ∧ ss ≤ 7302250 := by
  have h1 := am_vd_spec am_R1_ok
  have h2 := am_vd_spec am_R2_ok
  have hc := am_R_c
  have hs := am_R_s
  have hl := am_R1_len
  have r1 := fun m (hm : 3000 ≤ m) => am_runR_le x xs 3000 m hm 59 cm_m99 0 (cm_ent 1 [.index 0]) [] [am_ob 11] _ h1
  have r2 := fun m (hm : 3000 ≤ m) => am_runR_le x xs 3000 m hm 59 cm_m147 0 (cm_ent 2 [.index 94]) [] (am_hp am_R1 ++ [am_ob 12]) _ h2
  have t1 : cm_nth (cm_pg x xs).2.1 11 = some (am_ty 11) := rfl
  have t2 : cm_nth (cm_pg x xs).2.1 12 = some (am_ty 12) := rfl
  have k1 : cm_nth (cm_pg x xs).1 99 = some cm_m99 := rfl
  have k2 : cm_nth (cm_pg x xs).1 147 = some cm_m147 := rfl
  have e8 : ∀ m, N ≤ m → cm_run (cm_pg x xs) (m + 1) 60 cm_m252 15 [some (.string "" 0), some (.index 0), none, none] [.index 94] am_h0 = some (v, h', 0, 0) := fun m hm => by
    rw [am_run_step]
    simp only [cm_step, am_lw15, cm_ref]
    exact hN m hm
  have e7 : ∀ m, N ≤ m → 3000 ≤ m → cm_run (cm_pg x xs) (m + 2) 60 cm_m252 12 [some (.string "" 0), some (.index 0), none, none] [.index 94, .index 94] (am_hp am_R1 ++ [am_ob 12]) = some (v, h', am_cc am_R2, am_ss am_R2) := fun m hm hm2 => by
    rw [am_run_step]
    simp only [cm_step, am_lw12, cm_pop, cm_isN, if_true, cm_call, k2]
    rw [if_pos (by decide)]
    have : cm_run (cm_pg x xs) (m + 1) 59 cm_m147 0 (cm_ent cm_m147.2.1 [.index 94]) [] (am_hp am_R1 ++ [am_ob 12]) = _ := r2 (m + 1) (by omega)
    rw [this]
    show cm_more _ _ (cm_run (cm_pg x xs) (m + 1) 60 cm_m252 15 _ _ am_h0) = _
    have e := e8 m hm
    simp only [Option.toList, List.nil_append]
    rw [e, am_more2]
    simp
  have e6 : ∀ m, N ≤ m → 3000 ≤ m → cm_run (cm_pg x xs) (m + 3) 60 cm_m252 11 [some (.string "" 0), some (.index 0), none, none] [.index 94] (am_hp am_R1 ++ [am_ob 12]) = some (v, h', am_cc am_R2, am_ss am_R2) := fun m hm hm2 => by
    rw [am_run_step]
    simp only [cm_step, am_lw11]
    exact e7 m hm hm2
  have e5 : ∀ m, N ≤ m → 3000 ≤ m → cm_run (cm_pg x xs) (m + 4) 60 cm_m252 8 [some (.string "" 0), some (.index 0), none, none] [] (am_hp am_R1) = some (v, h', 1 + am_cc am_R2, (am_ty 12).length + am_ss am_R2) := fun m hm hm2 => by
    rw [am_run_step]
    simp only [cm_step, am_lw8, t2]
    rw [am_app_eq, hl]
    have e := e6 m hm hm2
    show cm_more 1 (am_ty 12).length (cm_run (cm_pg x xs) (m + 3) 60 cm_m252 11 _ _ (am_hp am_R1 ++ [am_ob 12])) = _
    rw [e, am_more2]
  have e4 : ∀ m, N ≤ m → 3000 ≤ m → cm_run (cm_pg x xs) (m + 5) 60 cm_m252 7 [some (.string "" 0), none, none, none] [.index 0] (am_hp am_R1) = some (v, h', 1 + am_cc am_R2, (am_ty 12).length + am_ss am_R2) := fun m hm hm2 => by
    rw [am_run_step]
    simp only [cm_step, am_lw7, cm_ref]
    rw [if_pos (by rfl)]
    have hk : ∀ k : cm_Lv → Option cm_R, cm_sto [some (.string "" 0), none, none, none] (1 : Fin 4).val (.index 0) k = k [some (.string "" 0), some (.index 0), none, none] := fun k => rfl
    rw [hk]
    exact e5 m hm hm2
  have e3 : ∀ m, N ≤ m → 3000 ≤ m → cm_run (cm_pg x xs) (m + 6) 60 cm_m252 4 [some (.string "" 0), none, none, none] [.index 0, .index 0] [am_ob 11] = some (v, h', am_cc am_R1 + (1 + am_cc am_R2), am_ss am_R1 + ((am_ty 12).length + am_ss am_R2)) := fun m hm hm2 => by
    rw [am_run_step]
    simp only [cm_step, am_lw4, cm_pop, cm_isN, if_true, cm_call, k1]
    rw [if_pos (by decide)]
    have : cm_run (cm_pg x xs) (m + 5) 59 cm_m99 0 (cm_ent cm_m99.2.1 [.index 0]) [] [am_ob 11] = _ := r1 (m + 5) (by omega)
    rw [this]
    show cm_more _ _ (cm_run (cm_pg x xs) (m + 5) 60 cm_m252 7 _ _ (am_hp am_R1)) = _
    have e := e4 m hm hm2
    simp only [Option.toList, List.nil_append]
    rw [e, am_more2]
  have e2 : ∀ m, N ≤ m → 3000 ≤ m → cm_run (cm_pg x xs) (m + 7) 60 cm_m252 3 [some (.string "" 0), none, none, none] [.index 0] [am_ob 11] = some (v, h', am_cc am_R1 + (1 + am_cc am_R2), am_ss am_R1 + ((am_ty 12).length + am_ss am_R2)) := fun m hm hm2 => by
    rw [am_run_step]
    simp only [cm_step, am_lw3]
    exact e3 m hm hm2
  obtain ⟨Q, hQ⟩ : ∃ Q, Q = N + 3000 := ⟨_, rfl⟩
  refine ⟨Q + 8, 1 + (am_cc am_R1 + (1 + am_cc am_R2)), (am_ty 11).length + (am_ss am_R1 + ((am_ty 12).length + am_ss am_R2)), ?_, by omega, by omega⟩
  have e := e2 Q (by omega) (by omega)
  rw [am_run_step]
  simp only [cm_step, am_lw0, t1]
  rw [am_app_eq]
  exact (congrArg (cm_more 1 (am_ty 11).length) e).trans am_more2
end
