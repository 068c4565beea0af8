noncomputable section
/-! The law's contract says that its run ends; L3 says that it answers 1 then: the claim. -/
def gl_t (a b : Term) : Bool := match a, b with
  | .int x, .int y => am_z (x.toInt - y.toInt)
  | .index i, .index j => Nat.beq i j
  | _, _ => false
theorem gl_t_spec {a b : Term} (h : gl_t a b = true) : a = b := by
  unfold gl_t at h
  split at h
  · rename_i x y
    have := am_z_spec h
    rw [Int32.toInt.inj (show x.toInt = y.toInt by omega)]
  · rw [Nat.eq_of_beq_eq_true h]
  · simp at h
def gl_l : List Term → List Term → Bool
  | [], [] => true
  | a :: l, b :: m => gl_t a b && gl_l l m
  | _, _ => false
theorem gl_l_spec : ∀ (l m : List Term), gl_l l m = true → l = m
  | [], [], _ => rfl
  | [], _ :: _, h => by simp [gl_l] at h
  | _ :: _, [], h => by simp [gl_l] at h
  | a :: l, b :: m, h => by
    simp only [gl_l, Bool.and_eq_true] at h
    rw [gl_t_spec h.1, gl_l_spec l m h.2]
def gl_c (a b : cm_C) : Bool := match a, b with
  | .inl (t, l), .inl (t', l') => am_tyB t t' && gl_l l l'
  | .inr (i, l), .inr (j, l') => Nat.beq i j && gl_l l l'
  | _, _ => false
theorem gl_c_spec {a b : cm_C} (h : gl_c a b = true) : a = b := by
  unfold gl_c at h
  split at h
  · simp only [Bool.and_eq_true] at h
    rw [am_tyB_spec h.1, gl_l_spec _ _ h.2]
  · simp only [Bool.and_eq_true] at h
    rw [Nat.eq_of_beq_eq_true h.1, gl_l_spec _ _ h.2]
  · simp at h
def gl_h : cm_H → cm_H → Bool
  | [], [] => true
  | a :: l, b :: m => gl_c a b && gl_h l m
  | _, _ => false
theorem gl_h_spec : ∀ (l m : cm_H), gl_h l m = true → l = m
  | [], [], _ => rfl
  | [], _ :: _, h => by simp [gl_h] at h
  | _ :: _, [], h => by simp [gl_h] at h
  | a :: l, b :: m, h => by
    simp only [gl_h, Bool.and_eq_true] at h
    rw [gl_c_spec h.1, gl_h_spec l m h.2]
theorem am_h0_fl : am_h0 = fl_mk fH0 := gl_h_spec _ _ (by decide +kernel)
def am_rootC (c : am_Ct) : Bool := match c with
  | ((m, pc), ([], [], o), [(5, (a, [])), (4, (b, [])), (4, (e, [])), (7, _)], (_, _, (dd, [])), _, _, _) => Nat.beq m 252 && (Nat.beq pc 16 && (am_z a && (am_z b && (am_z (e - 94) && (am_nn (60 - dd) && am_rtO am_h0 o)))))
  | _ => false
theorem am_pure_of2 {K : List am_K} {c : am_Ct} (hroot : am_rootC c = true) (hK : am_hpB K am_h0 = true) (hI0 : am_i0B am_h0 am_Do = true) (hall : ∀ (x : Term) (xs : List Int32), (x = .null ∨ x = .string "" 14) → xs.length ≤ 3072 → ∀ r : am_V, am_Rg r → am_Inst (cm_pg x xs) xs K c r) : cm_Pure := by
  intro x xs hx hxs
  have hi := hall x xs hx hxs (fun _ => 0) (fun v => by simp)
  unfold am_rootC at hroot
  split at hroot
  · rename_i m pc o a b e y rk me dd ms f1 o1
    simp only [Bool.and_eq_true] at hroot
    obtain ⟨g1, g2, g3, g4, g5, g7, g8⟩ := hroot
    have g1 := Nat.eq_of_beq_eq_true g1
    have g2 := Nat.eq_of_beq_eq_true g2
    have g3 := am_z_spec g3
    have g4 := am_z_spec g4
    have g5 := am_z_spec g5
    have g7 := am_nn_spec g7
    subst g1; subst g2; subst g3; subst g4
    have g5 : e = 94 := by omega
    subst g5
    have hev := hi 60 cm_m252 [some (.string "" 0), some (.index 0), some (.index 94), none] am_h0 rfl ⟨fun v => by simp [am_nth_n, am_nth_z, am_nth_s], fun f hf => by simp at hf, am_rtO_ov (am_I_start hI0) g8⟩ (am_hpB_spec K _ hK) ⟨rfl, rfl, rfl, Or.inl rfl, trivial⟩ (by show am_ev _ (dd, []) ≤ _; simp [am_ev, am_ts]; omega)
    obtain ⟨N, v, h', hr, -⟩ := hev
    have hv : v = some (.int 1) := law_16 T1_start (by rw [← am_h0_fl]; exact hr N (Nat.le_refl _))
    subst hv
    obtain ⟨n, cc, ss, p1, p2, p3⟩ := am_prefix hr
    exact ⟨n, h', cc, ss, p1, p2, p3⟩
  · simp at hroot
end
