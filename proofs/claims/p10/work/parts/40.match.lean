noncomputable section
/-! LAYER 2, templates: forms put in for variables; a state that keeps a template. -/
abbrev am_O : Type := (Nat × am_L) × am_L
def am_subl (σ : List am_L) (l : List (Nat × Int)) : am_L := List.rec (motive := fun _ => am_L) (0, []) (fun p _ ih => am_add p.2 ih (am_nthE (0, []) σ p.1)) l
theorem am_subl_n (σ : List am_L) : am_subl σ [] = (0, []) := rfl
theorem am_subl_c (σ : List am_L) (v : Nat) (c : Int) (l : List (Nat × Int)) : am_subl σ ((v, c) :: l) = am_add c (am_subl σ l) (am_nth (0, []) σ v) := by
  rw [← am_nthE_eq]; rfl
def am_sub (σ : List am_L) (a : am_L) : am_L := match am_subl σ a.2 with
  | (k, l) => (am_ia a.1 k, l)
/-- the values that forms give to variables -/
def am_rho (r : am_V) (σ : List am_L) : am_V := fun v => am_ev r (am_nth (0, []) σ v)
theorem am_subl_ev (r : am_V) (σ : List am_L) : ∀ (l : List (Nat × Int)), am_ev r (am_subl σ l) = am_ts (am_rho r σ) l
  | [] => rfl
  | (v, c) :: l => by
    simp only [am_subl_n, am_subl_c, am_add_ev, am_ts]
    rw [am_subl_ev r σ l]
    show _ + c * am_rho r σ v = _
    omega
theorem am_sub_ev (r : am_V) (σ : List am_L) (a : am_L) : am_ev r (am_sub σ a) = am_ev (am_rho r σ) a := by
  have := am_subl_ev r σ a.2
  simp only [am_sub, am_ev, am_ia_eq] at this ⊢
  omega
/-- a template holds: ranges, facts, entries -/
def am_hold1 (xs : List Int32) (e : am_EL) (f : am_FL) (o : List am_O) (r : am_V) (h : cm_H) : Prop := am_InL r e ∧ am_FsL r f ∧ am_ov xs h r o
def am_scF (n : Nat) : am_FL → Bool
  | [] => true
  | f :: l => am_scp n f.2 && am_scF n l
def am_scO (n : Nat) : List am_O → Bool
  | [] => true
  | o :: l => (am_scp n o.1.2.2 && (am_scp n o.2.2 && (Nat.blt o.1.1 2000000 || Nat.ble 3000000 o.1.1))) && am_scO n l
theorem am_scp_ev1 {n : Nat} {r q : am_V} (ha : am_Ag n r q) {a : am_L} (h : am_scp n a.2 = true) : am_ev q a = am_ev r a := by
  simp only [am_ev]; rw [am_scp_ev ha a.2 h]
theorem am_scF_ev {n : Nat} {r q : am_V} (ha : am_Ag n r q) : ∀ {f : am_FL}, am_scF n f = true → am_FsL r f → am_FsL q f
  | [], _, _, a, hm => by simp at hm
  | f :: l, h, hf, a, hm => by
    simp only [am_scF, Bool.and_eq_true] at h
    rcases List.mem_cons.mp hm with hm | hm
    · rw [hm, am_scp_ev1 ha h.1]; exact hf f (List.mem_cons_self ..)
    · exact am_scF_ev ha h.2 (fun x hx => hf x (List.mem_cons_of_mem _ hx)) a hm
theorem am_scO_ev {xs : List Int32} {h : cm_H} {n : Nat} {r q : am_V} (ha : am_Ag n r q) : ∀ {o : List am_O}, am_scO n o = true → am_ov xs h r o → am_ov xs h q o
  | [], _, _, a, hm => by simp at hm
  | o :: l, hs, hf, a, hm => by
    simp only [am_scO, Bool.and_eq_true, Bool.or_eq_true] at hs
    obtain ⟨⟨h1, h2, h3⟩, h4⟩ := hs
    rcases List.mem_cons.mp hm with hm | hm
    · rw [hm]
      have h5 := hf o (List.mem_cons_self ..)
      refine ⟨fun hlt => ?_, fun g1 g2 => ?_, h5.2.2.1, fun h55 => ?_⟩
      · obtain ⟨k1, y, k2, k3⟩ := h5.1 hlt
        refine ⟨by rw [am_scp_ev1 ha h1]; exact k1, y, by rw [am_scp_ev1 ha h1]; exact k2, by rw [am_scp_ev1 ha h2]; exact k3⟩
      · rcases h3 with h3 | h3
        · have := am_blt h3; omega
        · simp only [Nat.ble_eq] at h3; omega
      · have h6 := h5.2.2.2 h55
        unfold am_fe at h6 ⊢
        rw [am_scp_ev1 ha h1, am_scp_ev1 ha h2]
        exact h6
    · exact am_scO_ev ha h4 (fun x hx => hf x (List.mem_cons_of_mem _ hx)) a hm
/-- ranges of a template in one number, from a variable on -/
def am_pk (e1 : am_EL) (e n : Nat) : am_E := List.rec (motive := fun _ => Nat → Nat → am_E) (fun e _ => e) (fun g _ ih e n => am_bang (am_setE e n g) (fun e => am_bang (Nat.succ n) (fun n => ih e n))) e1 e n
theorem am_pk_c (g : Int × Int) (e1 : am_EL) (e n : Nat) : am_pk (g :: e1) e n = am_pk e1 (am_setE e n g) (n + 1) := by
  show am_bang (am_setE e n g) (fun e => am_bang (Nat.succ n) (fun n => am_pk e1 e n)) = _
  rw [am_bang_eq, am_bang_eq]
theorem am_pk_In {q : am_V} (e1 : am_EL) : ∀ (e n : Nat), am_In q e → (∀ j, j < e1.length → (am_nth (-2147483648, 2147483647) e1 j).1 ≤ q (n + j) ∧ q (n + j) ≤ (am_nth (-2147483648, 2147483647) e1 j).2) → am_In q (am_pk e1 e n) := by
  induction e1 with
  | nil => exact fun _ _ h _ => h
  | cons g e1 ih =>
    intro e n h hj
    rw [am_pk_c]
    have h0 := hj 0 (by simp)
    refine ih _ _ (am_setE_In h h0.1 h0.2) (fun j hl => ?_)
    have := hj (j + 1) (by simp only [List.length_cons]; omega)
    have e2 : n + 1 + j = n + (j + 1) := by omega
    rw [e2]
    exact this
theorem am_In_0 {q : am_V} (hq : am_Rg q) : am_In q 0 := by
  intro v
  have h1 : am_f 0 (Nat.mul 64 v) = 0 := by
    show (0 >>> (64 * v)) % 4294967296 = 0
    rw [Nat.zero_shiftRight]
  have h2 : am_f 0 (Nat.add (Nat.mul 64 v) 32) = 0 := by
    show (0 >>> (64 * v + 32)) % 4294967296 = 0
    rw [Nat.zero_shiftRight]
  unfold am_gl am_gh
  rw [h1, h2]
  exact hq v
/-- a scoped template that holds is a state -/
theorem am_hold1_all {xs : List Int32} {e : am_EL} {o : List am_O} {r : am_V} {h : cm_H} (h2 : am_scO e.length o = true) (hi : am_InL r e) (ho : am_ov xs h r o) : am_holds xs (e.length, am_pk e 0 0, [], o) r h :=
  fun q hq hg => ⟨am_pk_In e 0 0 (am_In_0 hq) (fun j hj => by
    have hl : 0 + j < e.length := by omega
    have e1 : q (0 + j) = r (0 + j) := hg _ hl
    rw [e1, Nat.zero_add]
    exact hi j), fun a hm => by simp at hm, am_scO_ev hg h2 ho⟩
theorem am_nth_ge {α : Type} (d : α) : ∀ (l : List α) (v : Nat), l.length ≤ v → am_nth d l v = d
  | [], _, _ => rfl
  | _ :: l, 0, h => by simp at h
  | _ :: l, v + 1, h => am_nth_ge d l v (by simpa using h)
/-- two forms are the same -/
def am_same (s : am_S) (a b : am_L) : Bool := match am_norm s.2.1 (am_add (-1) a b) with
  | (k, []) => am_z k
  | d => match am_prove s.2.1 s.2.2.1 d with
    | true => am_prove s.2.1 s.2.2.1 (am_add (-1) (0, []) d)
    | false => false
theorem am_same_spec {xs : List Int32} {s : am_S} {r : am_V} {h : cm_H} (hs : am_holds xs s r h) {a b : am_L} (hb : am_same s a b = true) : am_All s.1 r (fun q => am_ev q a = am_ev q b) := by
  intro q hq hg
  obtain ⟨h1, h2, _⟩ := hs q hq hg
  have hn := am_norm_ev h1 (am_add (-1) a b)
  rw [am_add_ev] at hn
  unfold am_same at hb
  show am_ev q a = am_ev q b
  split at hb
  · rename_i k hk
    have hb := am_z_spec hb
    rw [hk] at hn
    have : am_ev q (k, []) = k := by simp [am_ev, am_ts]
    omega
  · rename_i d hd _
    split at hb
    · rename_i hp
      have g1 := am_prove_spec h1 h2 hp
      have g2 := am_prove_spec h1 h2 hb
      rw [am_add_ev] at g2
      have : am_ev q (0, []) = 0 := rfl
      omega
    · simp at hb
/-- values within ranges -/
def am_mtE (s : am_S) : List am_L → am_EL → Bool
  | [], [] => true
  | a :: σ, g :: e => am_scp s.1 a.2 && (am_vok s a g && (am_nn (g.1 + 2147483648) && (am_nn (2147483647 - g.2) && am_mtE s σ e)))
  | _, _ => false
theorem am_mtE_len {s : am_S} : ∀ {σ : List am_L} {e : am_EL}, am_mtE s σ e = true → σ.length = e.length
  | [], [], _ => rfl
  | [], _ :: _, h => by simp [am_mtE] at h
  | _ :: _, [], h => by simp [am_mtE] at h
  | a :: σ, g :: e, h => by
    simp only [am_mtE, Bool.and_eq_true] at h
    simp only [List.length_cons]
    rw [am_mtE_len h.2.2.2.2]
theorem am_mtE_spec {xs : List Int32} {s : am_S} {r : am_V} {h : cm_H} (hr : am_Rg r) (hs : am_holds xs s r h) : ∀ {σ : List am_L} {e : am_EL}, am_mtE s σ e = true → ∀ v : Nat, (am_nth (-2147483648, 2147483647) e v).1 ≤ am_ev r (am_nth (0, []) σ v) ∧ am_ev r (am_nth (0, []) σ v) ≤ (am_nth (-2147483648, 2147483647) e v).2 ∧ -2147483648 ≤ am_ev r (am_nth (0, []) σ v) ∧ am_ev r (am_nth (0, []) σ v) ≤ 2147483647
  | [], [], _, v => by
    have : am_ev r (0, []) = 0 := rfl
    simp only [am_nth_n, am_nth_z, am_nth_s, this]
    omega
  | [], _ :: _, h, _ => by simp [am_mtE] at h
  | _ :: _, [], h, _ => by simp [am_mtE] at h
  | a :: σ, g :: e, hm, v => by
    simp only [am_mtE, Bool.and_eq_true] at hm
    cases v with
    | zero =>
      have h1 := am_vok_spec hr hs hm.2.1
      have h2 := am_nn_spec hm.2.2.1
      have h3 := am_nn_spec hm.2.2.2.1
      simp only [am_nth_n, am_nth_z, am_nth_s]
      omega
    | succ v => exact am_mtE_spec hr hs hm.2.2.2.2 v
theorem am_mtE_scp {s : am_S} : ∀ {σ : List am_L} {e : am_EL}, am_mtE s σ e = true → ∀ v : Nat, am_scp s.1 (am_nth (0, []) σ v).2 = true
  | [], [], _, v => rfl
  | [], _ :: _, h, _ => by simp [am_mtE] at h
  | _ :: _, [], h, _ => by simp [am_mtE] at h
  | a :: σ, g :: e, hm, v => by
    simp only [am_mtE, Bool.and_eq_true] at hm
    cases v with
    | zero => exact hm.1
    | succ v => exact am_mtE_scp hm.2.2.2.2 v
def am_mtF (s : am_S) (σ : List am_L) : am_FL → Bool
  | [] => true
  | f :: l => am_prove s.2.1 s.2.2.1 (am_norm s.2.1 (am_sub σ f)) && am_mtF s σ l
theorem am_mtF_spec {xs : List Int32} {s : am_S} {r : am_V} {h : cm_H} (hr : am_Rg r) (hs : am_holds xs s r h) {σ : List am_L} : ∀ {f : am_FL}, am_mtF s σ f = true → am_FsL (am_rho r σ) f
  | [], _, a, hm => by simp at hm
  | f :: l, hf, a, hm => by
    simp only [am_mtF, Bool.and_eq_true] at hf
    obtain ⟨h1, h2, _⟩ := am_All_here hr hs
    rcases List.mem_cons.mp hm with hm | hm
    · rw [hm, ← am_sub_ev]
      have := am_prove_spec h1 h2 hf.1
      rw [am_norm_ev h1] at this
      exact this
    · exact am_mtF_spec hr hs hf.2 a hm
def am_hasI : List am_O → Bool
  | [] => false
  | o :: l => match Nat.beq o.1.1 3000000 with
    | true => true
    | false => am_hasI l
theorem am_hasI_spec {xs : List Int32} {h : cm_H} {r : am_V} : ∀ {o : List am_O}, am_hasI o = true → am_ov xs h r o → am_I xs h
  | [], hh, _ => by simp [am_hasI] at hh
  | o :: l, hh, hov => by
    simp only [am_hasI] at hh
    split at hh
    · rename_i hb
      exact (hov o (List.mem_cons_self ..)).2.2.1 (Nat.eq_of_beq_eq_true hb)
    · exact am_hasI_spec hh (fun x hx => hov x (List.mem_cons_of_mem _ hx))
def am_mtO (s : am_S) (σ : List am_L) : List am_O → Bool
  | [] => true
  | o :: l => (match Nat.blt o.1.1 2000000 with
    | true => (match am_find s.2.1 o.1.1 (am_sub σ o.1.2) s.2.2.2 with
      | some w => am_same s w (am_sub σ o.2)
      | none => false)
    | false => match Nat.ble 4000000 o.1.1 with
      | true => (match Nat.ble 5000000 o.1.1 with
        | false => true
        | true => (match am_find s.2.1 o.1.1 (am_sub σ o.1.2) s.2.2.2 with
          | some w => (match Nat.beq o.1.1 5000002 with
            | true => am_prove s.2.1 s.2.2.1 (am_norm s.2.1 (am_add (-1) w (am_sub σ o.2)))
            | false => am_same s w (am_sub σ o.2))
          | none => false))
      | false => match Nat.beq o.1.1 3000000 with
        | true => am_hasI s.2.2.2
        | false => false) && am_mtO s σ l
theorem am_mtO_spec {xs : List Int32} {s : am_S} {r : am_V} {h : cm_H} (hr : am_Rg r) (hs : am_holds xs s r h) {σ : List am_L} : ∀ {o : List am_O}, am_mtO s σ o = true → am_ov xs h (am_rho r σ) o
  | [], _, a, hm => by simp at hm
  | o :: l, hf, a, hm => by
    simp only [am_mtO, Bool.and_eq_true] at hf
    rcases List.mem_cons.mp hm with hm | hm
    · rw [hm]
      obtain ⟨h1, h2, h3⟩ := am_All_here hr hs
      have hf := hf.1
      split at hf
      · rename_i hlt
        have hlt := am_blt hlt
        split at hf
        · rename_i w hw
          obtain ⟨j, hj, he⟩ := am_find_spec h1 _ _ hw
          obtain ⟨k1, y, k2, k3⟩ := (h3 _ hj).1 hlt
          have hsm : am_ev r w = am_ev r (am_sub σ o.2) := am_All_here hr (am_same_spec hs hf)
          simp only [he] at k1 k2
          rw [am_sub_ev] at k1 k2
          refine am_ent_slot hlt ⟨k1, y, k2, ?_⟩
          rw [k3]
          simp only []
          rw [hsm, am_sub_ev]
        · simp at hf
      · split at hf
        · rename_i hge
          simp only [Nat.ble_eq] at hge
          split at hf
          · rename_i h5
            have h5 : ¬ (5000000 ≤ o.1.1) := fun hle => by
              have : Nat.ble 5000000 o.1.1 = true := by simpa using hle
              rw [h5] at this; simp at this
            exact am_ent_any hge (by omega)
          · rename_i h5
            simp only [Nat.ble_eq] at h5
            split at hf
            · rename_i w hw
              obtain ⟨j, hj, he⟩ := am_find_spec h1 _ _ hw
              have hfe := (h3 _ hj).2.2.2 h5
              refine am_ent_fun h5 ?_
              unfold am_fe at hfe ⊢
              simp only [he] at hfe
              rw [am_sub_ev] at hfe
              split at hf
              · rename_i hb
                have hb := Nat.eq_of_beq_eq_true hb
                have hp := am_prove_spec h1 h2 hf
                rw [am_norm_ev h1, am_add_ev, am_sub_ev] at hp
                rw [hb, am_fw_2] at hfe ⊢
                intro k hk
                exact hfe k (by omega)
              · have hsm : am_ev r w = am_ev r (am_sub σ o.2) := am_All_here hr (am_same_spec hs hf)
                rw [am_sub_ev] at hsm
                simp only [hsm] at hfe
                exact hfe
            · simp at hf
        · split at hf
          · rename_i hb
            exact am_ent_inv (Nat.eq_of_beq_eq_true hb) (am_hasI_spec hf h3)
          · simp at hf
    · exact am_mtO_spec hr hs hf.2 a hm
/-- a value as the template's -/
def am_mtA (s : am_S) (σ : List am_L) (a0 a : am_A) : Bool := match a0.1 with
  | 0 => (match a.1 with
    | 0 => am_same s a.2 (am_sub σ a0.2)
    | _ => false)
  | 3 => Nat.beq (am_tyA a) 2
  | 4 => (match a.1 with
    | 4 => am_z (a.2.1 - a0.2.1)
    | _ => false)
  | 5 => (match a.1 with
    | 5 => am_z (a.2.1 - a0.2.1)
    | _ => false)
  | 6 => Nat.beq (am_tyA a) 3
  | 7 => !(Nat.beq (am_tyA a) 2)
  | _ => false
theorem am_mtA_spec {xs : List Int32} {s : am_S} {r : am_V} {h : cm_H} (hr : am_Rg r) (hs : am_holds xs s r h) {σ : List am_L} {a0 a : am_A} {t : Option Term} (hm : am_mtA s σ a0 a = true) (ha : am_sat r a t) : am_sat (am_rho r σ) a0 t := by
  obtain ⟨k0, f0⟩ := a0
  unfold am_mtA at hm
  split at hm
  · rename_i h0
    split at hm
    · rename_i h1
      have hsm : am_ev r a.2 = am_ev r (am_sub σ f0) := am_All_here hr (am_same_spec hs hm)
      simp only [] at h0
      subst h0
      simp only [am_sat, h1] at ha
      obtain ⟨x, e1, e2⟩ := ha
      exact ⟨x, e1, by rw [e2, hsm, am_sub_ev]⟩
    · simp at hm
  · rename_i h0
    simp only [] at h0
    subst h0
    obtain ⟨u, e1, e2⟩ := am_tyA_spec (n := 1) ha (Nat.eq_of_beq_eq_true hm)
    subst e1
    cases u with
    | long x => exact ⟨x, rfl⟩
    | _ => simp [cm_ty] at e2
  · rename_i h0
    split at hm
    · rename_i h1
      have hz := am_z_spec hm
      simp only [] at h0 hz
      subst h0
      simp only [am_sat, h1] at ha
      show t = _
      rw [ha]
      have : a.2.1 = f0.1 := by omega
      rw [this]
    · simp at hm
  · rename_i h0
    split at hm
    · rename_i h1
      have hz := am_z_spec hm
      simp only [] at h0 hz
      subst h0
      simp only [am_sat, h1] at ha
      show t = _
      rw [ha]
      have : a.2.1 = f0.1 := by omega
      rw [this]
    · simp at hm
  · rename_i h0
    simp only [] at h0
    subst h0
    obtain ⟨u, e1, e2⟩ := am_tyA_spec (n := 2) ha (Nat.eq_of_beq_eq_true hm)
    exact ⟨u, e1, e2⟩
  · rename_i h0
    simp only [] at h0
    subst h0
    have hb : Nat.beq (am_tyA a) 2 = false := by simpa using hm
    cases t with
    | none => exact Or.inl rfl
    | some u => exact Or.inr ⟨u, rfl, am_sat_noL ha hb⟩
  · simp at hm
def am_mtL (s : am_S) (σ : List am_L) : List am_A → List am_A → Bool
  | [], [] => true
  | a0 :: l0, a :: l => am_mtA s σ a0 a && am_mtL s σ l0 l
  | _, _ => false
theorem am_mtL_spec {xs : List Int32} {s : am_S} {r : am_V} {h : cm_H} (hr : am_Rg r) (hs : am_holds xs s r h) {σ : List am_L} : ∀ {l0 l : List am_A} {L : cm_Lv}, am_mtL s σ l0 l = true → am_lvs r l L → am_lvs (am_rho r σ) l0 L
  | [], [], [], _, _ => trivial
  | [], [], _ :: _, _, h => by simp [am_lvs] at h
  | [], _ :: _, _, h, _ => by simp [am_mtL] at h
  | _ :: _, [], _, h, _ => by simp [am_mtL] at h
  | _ :: _, _ :: _, [], _, h => by simp [am_lvs] at h
  | a0 :: l0, a :: l, t :: L, hm, hl => by
    simp only [am_mtL, Bool.and_eq_true] at hm
    exact ⟨am_mtA_spec hr hs hm.1 hl.1, am_mtL_spec hr hs hm.2 hl.2⟩
end
