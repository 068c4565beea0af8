noncomputable section
/-! LAYER 2, what is known after slots may have changed; calls of the library. -/
def am_memC (c : Nat) (l : List (Nat × Nat)) : Bool := List.rec (motive := fun _ => Bool) false (fun p _ ih => Bool.rec (motive := fun _ => Bool) ih true (Nat.beq p.1 c)) l
theorem am_memC_n (c : Nat) : am_memC c [] = false := rfl
theorem am_memC_c (c d k : Nat) (l : List (Nat × Nat)) : am_memC c ((d, k) :: l) = (match Nat.beq d c with
    | true => true
    | false => am_memC c l) := by
  show Bool.rec (motive := fun _ => Bool) (am_memC c l) true (Nat.beq d c) = _
  cases Nat.beq d c <;> rfl
theorem am_memC_spec {c : Nat} : ∀ {l : List (Nat × Nat)}, am_memC c l = false → ∀ j, (c, j) ∉ l
  | [], _, j, h => by simp at h
  | (d, k) :: l, h, j, hm => by
    simp only [am_memC_n, am_memC_c] at h
    split at h
    · simp at h
    · rename_i hb
      rcases List.mem_cons.mp hm with hm | hm
      · injection hm with h1 h2
        subst h1
        rw [Nat.beq_refl] at hb; simp at hb
      · exact am_memC_spec h j hm
theorem am_memP_not {c j : Nat} : ∀ {l : List (Nat × Nat)}, am_memP c j l = false → (c, j) ∉ l
  | [], _, h => by simp at h
  | (d, k) :: l, h, hm => by
    simp only [am_memP_n, am_memP_c] at h
    rcases List.mem_cons.mp hm with hm | hm
    · injection hm with h1 h2
      subst h1; subst h2
      rw [Nat.beq_refl, Nat.beq_refl] at h
      simp at h
    · split at h
      · split at h
        · simp at h
        · exact am_memP_not h hm
      · exact am_memP_not h hm
def am_fzm (ms : List (Nat × Nat)) : Bool := am_memC 71 ms || (am_memC 72 ms || (am_memC 74 ms || am_memC 76 ms))
def am_keepE (ms : List (Nat × Nat)) (o : (Nat × am_L) × am_L) : Bool := match Nat.blt o.1.1 1000000 with
  | true => (match am_memC o.1.1 ms with
    | false => true
    | true => (match am_memP o.1.1 0 ms with
      | true => false
      | false => match o.1.2 with
        | (k, []) => !(am_memP o.1.1 (k.toNat + 1) ms)
        | _ => false))
  | false => match Nat.beq o.1.1 3000000 with
    | true => !(am_fzm ms)
    | false => match Nat.ble 5000000 o.1.1 with
      | false => true
      | true => !(am_memC 59 ms || am_memC 104 ms)
def am_flt (ms : List (Nat × Nat)) (ov : List ((Nat × am_L) × am_L)) : List ((Nat × am_L) × am_L) := List.rec (motive := fun _ => List ((Nat × am_L) × am_L)) [] (fun o _ ih => Bool.rec (motive := fun _ => List ((Nat × am_L) × am_L)) ih (o :: ih) (am_keepE ms o)) ov
theorem am_flt_n (ms : List (Nat × Nat)) : am_flt ms [] = [] := rfl
theorem am_flt_c (ms : List (Nat × Nat)) (o : (Nat × am_L) × am_L) (ov : List ((Nat × am_L) × am_L)) : am_flt ms (o :: ov) = (match am_keepE ms o with
    | true => o :: am_flt ms ov
    | false => am_flt ms ov) := by
  show Bool.rec (motive := fun _ => List ((Nat × am_L) × am_L)) (am_flt ms ov) (o :: am_flt ms ov) (am_keepE ms o) = _
  cases am_keepE ms o <;> rfl
theorem am_flt_mem {ms : List (Nat × Nat)} : ∀ {ov : List ((Nat × am_L) × am_L)} {o : (Nat × am_L) × am_L}, o ∈ am_flt ms ov → o ∈ ov ∧ am_keepE ms o = true
  | [], o, h => by simp [am_flt_n, am_flt_c] at h
  | p :: ov, o, h => by
    simp only [am_flt_n, am_flt_c] at h
    split at h
    · rename_i hk
      rcases List.mem_cons.mp h with h | h
      · subst h; exact ⟨List.mem_cons_self .., hk⟩
      · have := am_flt_mem h
        exact ⟨List.mem_cons_of_mem _ this.1, this.2⟩
    · have := am_flt_mem h
      exact ⟨List.mem_cons_of_mem _ this.1, this.2⟩
theorem am_flt_ov {xs : List Int32} {h h' : cm_H} {ms : List (Nat × Nat)} {r : am_V} {ov : List ((Nat × am_L) × am_L)} (hl : h.length ≤ 1000000) (ho : am_out ms h h') (hov : am_ov xs h r ov) : am_ov xs h' r (am_flt ms ov) := by
  intro o hm
  obtain ⟨h1, h2⟩ := am_flt_mem hm
  have h3 := hov o h1
  refine ⟨fun hlt => ?_, h3.2.1, fun h33 => ?_, fun h55 => ?_⟩
  · obtain ⟨h5, y, h6, h7⟩ := h3.1 hlt
    refine ⟨h5, y, ?_, h7⟩
    unfold am_keepE at h2
    split at h2
    · split at h2
      · rename_i hc
        have hc := am_memC_spec hc
        rw [am_slot_out hl ho (hc _) (hc _)]; exact h6
      · split at h2
        · simp at h2
        · rename_i hp
          split at h2
          · rename_i k hk
            have hq : am_memP o.1.1 (k.toNat + 1) ms = false := by simpa using h2
            have ek : am_ev r o.1.2 = k := by rw [hk]; simp [am_ev, am_ts]
            rw [ek] at h6 ⊢
            rw [am_slot_out hl ho (am_memP_not hp) (am_memP_not hq)]
            exact h6
          · simp at h2
    · rename_i hb
      have hge : 1000000 ≤ o.1.1 := by
        have : ¬ (o.1.1 < 1000000) := fun hlt => by
          have : Nat.blt o.1.1 1000000 = true := by simpa [Nat.blt_eq] using hlt
          rw [this] at hb; simp at hb
        omega
      rw [am_slot_old hge hl ho.1]; exact h6
  · refine am_I_out hl ho (fun c hc j => ?_) (h3.2.2.1 h33)
    unfold am_keepE at h2
    rw [h33] at h2
    have h2' : (!(am_fzm ms)) = true := h2
    have : am_fzm ms = false := by simpa using h2'
    simp only [am_fzm, Bool.or_eq_false_iff] at this
    simp only [am_Fz, List.mem_cons, List.not_mem_nil, or_false] at hc
    rcases hc with hc | hc | hc | hc <;> rw [hc]
    · exact am_memC_spec this.1 j
    · exact am_memC_spec this.2.1 j
    · exact am_memC_spec this.2.2.1 j
    · exact am_memC_spec this.2.2.2 j
  · unfold am_keepE at h2
    have e1 : Nat.blt o.1.1 1000000 = false := by
      cases hb : Nat.blt o.1.1 1000000 with
      | false => rfl
      | true =>
        have : o.1.1 < 1000000 := by simpa [Nat.blt_eq] using hb
        omega
    have e2 : Nat.beq o.1.1 3000000 = false := by
      cases hb : Nat.beq o.1.1 3000000 with
      | false => rfl
      | true =>
        have := Nat.eq_of_beq_eq_true hb
        omega
    have e3 : Nat.ble 5000000 o.1.1 = true := by simpa using h55
    rw [e1] at h2
    simp only [] at h2
    rw [e2] at h2
    simp only [] at h2
    rw [e3] at h2
    simp only [Bool.not_eq_true', Bool.or_eq_false_iff] at h2
    exact am_fe_out ho (fun j => am_memC_spec h2.1 j) (fun j => am_memC_spec h2.2 j) (h3.2.2.2 h55)
def am_fltS (ms : List (Nat × Nat)) (s : am_S) : am_S := match s with
  | (n, e, fs, ov) => (n, e, fs, am_flt ms ov)
theorem am_fltS_holds {xs : List Int32} {h h' : cm_H} {ms : List (Nat × Nat)} {r : am_V} {s : am_S} (hl : h.length ≤ 1000000) (ho : am_out ms h h') (hs : am_holds xs s r h) : am_holds xs (am_fltS ms s) r h' := by
  obtain ⟨n, e, fs, ov⟩ := s
  intro q hq hg
  obtain ⟨h1, h2, h3⟩ := hs q hq hg
  exact ⟨h1, h2, am_flt_ov hl ho h3⟩
/-- words on the stack -/
def am_catA : List am_A → Nat
  | [] => 0
  | a :: l => match Nat.beq (am_tyA a) 2 with
    | true => am_catA l + 2
    | false => am_catA l + 1
theorem am_catA_spec {q : am_V} : ∀ {st : List am_A} {T : List Term}, am_sts q st T → cm_cat T = am_catA st
  | [], [], _ => rfl
  | [], _ :: _, h => by simp [am_sts] at h
  | _ :: _, [], h => by simp [am_sts] at h
  | a :: st, t :: T, h => by
    have ih := am_catA_spec (st := st) (T := T) h.2
    simp only [cm_cat, am_catA, ih]
    cases hb : Nat.beq (am_tyA a) 2 with
    | false =>
      have := am_sat_noL h.1 hb
      simp only [this, if_true]; omega
    | true =>
      obtain ⟨u, e1, e2⟩ := am_tyA_spec (n := 1) h.1 (Nat.eq_of_beq_eq_true hb)
      injection e1 with e1
      subst e1
      have : cm_w1 t = false := by simp [cm_w1, e2]
      simp only [this]; simp; omega
/-- the larger, the lesser of two -/
def am_omax (s : am_S) (a b : am_L) : am_L × am_S := match am_norm s.2.1 a, am_norm s.2.1 b with
  | x, y => match am_prove s.2.1 s.2.2.1 (am_add (-1) x y) with
    | true => (x, s)
    | false => match am_prove s.2.1 s.2.2.1 (am_add (-1) y x) with
      | true => (y, s)
      | false => match am_rg s.2.1 x, am_rg s.2.1 y with
        | (a1, b1), (a2, b2) => match am_fresh s (am_max a1 a2, am_max b1 b2) with
          | (n, e, fs, ov) => (am_var s, (n, e, am_mf (am_add (-1) (am_var s) y) :: am_mf (am_add (-1) (am_var s) x) :: fs, ov))
def am_omin (s : am_S) (a b : am_L) : am_L × am_S := match am_norm s.2.1 a, am_norm s.2.1 b with
  | x, y => match am_prove s.2.1 s.2.2.1 (am_add (-1) x y) with
    | true => (y, s)
    | false => match am_prove s.2.1 s.2.2.1 (am_add (-1) y x) with
      | true => (x, s)
      | false => match am_rg s.2.1 x, am_rg s.2.1 y with
        | (a1, b1), (a2, b2) => match am_fresh s (am_min a1 a2, am_min b1 b2) with
          | (n, e, fs, ov) => (am_var s, (n, e, am_mf (am_add (-1) y (am_var s)) :: am_mf (am_add (-1) x (am_var s)) :: fs, ov))
theorem am_omax_spec {xs : List Int32} {K : List am_K} {s : am_S} {lv st : List am_A} {r : am_V} {L : cm_Lv} {T : List Term} {h : cm_H} (hf : am_fr xs K s lv st r L T h) {a b : am_L} {x y : Int32}
    (hx : am_All s.1 r (fun q => x.toInt = am_ev q a)) (hy : am_All s.1 r (fun q => y.toInt = am_ev q b)) : am_Val xs K s lv st r L T h (if x < y then y else x).toInt (am_omax s a b) := by
  have hx := am_norm_eq hf.2.2.1 hx
  have hy := am_norm_eq hf.2.2.1 hy
  unfold am_omax
  generalize am_norm s.2.1 a = a at hx
  generalize am_norm s.2.1 b = b at hy
  obtain ⟨g1, g2, _⟩ := am_All_here hf.1 hf.2.2.1
  have hx0 : x.toInt = am_ev r a := am_All_here hf.1 hx
  have hy0 : y.toInt = am_ev r b := am_All_here hf.1 hy
  have hlt := am_lt32 x y
  obtain ⟨z, hz⟩ : ∃ z, z = (if x < y then y else x) := ⟨_, rfl⟩
  rw [← hz]
  have hzz : x.toInt ≤ z.toInt ∧ y.toInt ≤ z.toInt ∧ (z.toInt = x.toInt ∨ z.toInt = y.toInt) := by
    rw [hz]
    split
    · rename_i hn
      rw [hlt] at hn; omega
    · rename_i hn
      rw [hlt] at hn; omega
  clear hz
  simp only []
  split
  · rename_i hp
    have hp := am_prove_spec g1 g2 hp
    rw [am_add_ev] at hp
    have e : z.toInt = x.toInt := by omega
    rw [e]
    exact am_Val_same hf hx
  · split
    · rename_i hp
      have hp := am_prove_spec g1 g2 hp
      rw [am_add_ev] at hp
      have e : z.toInt = y.toInt := by omega
      rw [e]
      exact am_Val_same hf hy
    · have ra := am_rg_spec g1 a
      have rb := am_rg_spec g1 b
      have m1 := am_le_max (am_rg s.2.1 a).2 (am_rg s.2.1 b).2
      have m2 : am_max (am_rg s.2.1 a).1 (am_rg s.2.1 b).1 ≤ z.toInt := am_max_le (by omega) (by omega)
      obtain ⟨a1, a2, a3⟩ := am_fr_fresh hf (g := (am_max (am_rg s.2.1 a).1 (am_rg s.2.1 b).1, am_max (am_rg s.2.1 a).2 (am_rg s.2.1 b).2)) (x := z.toInt) m2 (by show z.toInt ≤ am_max _ _; omega) (am_i1 z) (am_i2 z)
      refine ⟨_, ⟨a2.1, a2.2.1, a2.2.2⟩, am_fr_facts a1 (fun q hq hg => ?_) (fun q hq hg => ?_), fun q hq hg => (a3 q hq hg).symm⟩
      · have e1 : am_ev q (am_var s) = z.toInt := a3 q hq hg
        have e2 : y.toInt = am_ev q b := hy q hq (am_Ag_trans a2.1 a2.2.1 hg)
        show 0 ≤ _
        rw [am_add_ev, e1]; omega
      · have e1 : am_ev q (am_var s) = z.toInt := a3 q hq hg
        have e2 : x.toInt = am_ev q a := hx q hq (am_Ag_trans a2.1 a2.2.1 hg)
        show 0 ≤ _
        rw [am_add_ev, e1]; omega
theorem am_omin_spec {xs : List Int32} {K : List am_K} {s : am_S} {lv st : List am_A} {r : am_V} {L : cm_Lv} {T : List Term} {h : cm_H} (hf : am_fr xs K s lv st r L T h) {a b : am_L} {x y : Int32}
    (hx : am_All s.1 r (fun q => x.toInt = am_ev q a)) (hy : am_All s.1 r (fun q => y.toInt = am_ev q b)) : am_Val xs K s lv st r L T h (if y < x then y else x).toInt (am_omin s a b) := by
  have hx := am_norm_eq hf.2.2.1 hx
  have hy := am_norm_eq hf.2.2.1 hy
  unfold am_omin
  generalize am_norm s.2.1 a = a at hx
  generalize am_norm s.2.1 b = b at hy
  obtain ⟨g1, g2, _⟩ := am_All_here hf.1 hf.2.2.1
  have hx0 : x.toInt = am_ev r a := am_All_here hf.1 hx
  have hy0 : y.toInt = am_ev r b := am_All_here hf.1 hy
  have hlt := am_lt32 y x
  obtain ⟨z, hz⟩ : ∃ z, z = (if y < x then y else x) := ⟨_, rfl⟩
  rw [← hz]
  have hzz : z.toInt ≤ x.toInt ∧ z.toInt ≤ y.toInt ∧ (z.toInt = x.toInt ∨ z.toInt = y.toInt) := by
    rw [hz]
    split
    · rename_i hn
      rw [hlt] at hn; omega
    · rename_i hn
      rw [hlt] at hn; omega
  clear hz
  simp only []
  split
  · rename_i hp
    have hp := am_prove_spec g1 g2 hp
    rw [am_add_ev] at hp
    have e : z.toInt = y.toInt := by omega
    rw [e]
    exact am_Val_same hf hy
  · split
    · rename_i hp
      have hp := am_prove_spec g1 g2 hp
      rw [am_add_ev] at hp
      have e : z.toInt = x.toInt := by omega
      rw [e]
      exact am_Val_same hf hx
    · have ra := am_rg_spec g1 a
      have rb := am_rg_spec g1 b
      have m1 := am_min_le (am_rg s.2.1 a).1 (am_rg s.2.1 b).1
      have m2 : z.toInt ≤ am_min (am_rg s.2.1 a).2 (am_rg s.2.1 b).2 := am_le_min (by omega) (by omega)
      obtain ⟨a1, a2, a3⟩ := am_fr_fresh hf (g := (am_min (am_rg s.2.1 a).1 (am_rg s.2.1 b).1, am_min (am_rg s.2.1 a).2 (am_rg s.2.1 b).2)) (x := z.toInt) (by show am_min _ _ ≤ z.toInt; omega) m2 (am_i1 z) (am_i2 z)
      refine ⟨_, ⟨a2.1, a2.2.1, a2.2.2⟩, am_fr_facts a1 (fun q hq hg => ?_) (fun q hq hg => ?_), fun q hq hg => (a3 q hq hg).symm⟩
      · have e1 : am_ev q (am_var s) = z.toInt := a3 q hq hg
        have e2 : y.toInt = am_ev q b := hy q hq (am_Ag_trans a2.1 a2.2.1 hg)
        show 0 ≤ _
        rw [am_add_ev, e1]; omega
      · have e1 : am_ev q (am_var s) = z.toInt := a3 q hq hg
        have e2 : x.toInt = am_ev q a := hx q hq (am_Ag_trans a2.1 a2.2.1 hg)
        show 0 ≤ _
        rw [am_add_ev, e1]; omega
def am_oabs (s : am_S) (a : am_L) : am_L × am_S := match am_nn (am_rg s.2.1 a).1 with
  | true => (a, s)
  | false => am_newv s am_full
theorem am_oabs_spec {xs : List Int32} {K : List am_K} {s : am_S} {lv st : List am_A} {r : am_V} {L : cm_Lv} {T : List Term} {h : cm_H} (hf : am_fr xs K s lv st r L T h) {a : am_L} {x : Int32}
    (hx : am_All s.1 r (fun q => x.toInt = am_ev q a)) : am_Val xs K s lv st r L T h (if 0 ≤ x then x else 0 - x).toInt (am_oabs s a) := by
  obtain ⟨z, hz⟩ : ∃ z, z = (if 0 ≤ x then x else 0 - x) := ⟨_, rfl⟩
  rw [← hz]
  have hzz : 0 ≤ x.toInt → z = x := fun h0 => by
    rw [hz, if_pos (Int32.le_iff_toInt_le.mpr (by have : (0 : Int32).toInt = 0 := rfl; omega))]
  clear hz
  unfold am_oabs
  split
  · rename_i hp
    have hp := am_nn_spec hp
    have hrg := am_rg_spec (am_All_here hf.1 hf.2.2.1).1 a
    have hx0 : x.toInt = am_ev r a := am_All_here hf.1 hx
    rw [hzz (by omega)]
    exact am_Val_same hf hx
  · exact am_Val_full hf _
/-- what is known of a cell's fixed places below n, as known of another's -/
def am_trf (a b : Nat) (n : Int) (os l : List ((Nat × am_L) × am_L)) : List ((Nat × am_L) × am_L) := List.rec (motive := fun _ => List ((Nat × am_L) × am_L)) l (fun o _ ih => match Nat.beq o.1.1 a with
    | false => ih
    | true => match o.1.2 with
      | (k, []) => (match am_nn k && am_nn (n - 1 - k) with
        | true => ((b, (k, [])), o.2) :: ih
        | false => ih)
      | _ => ih) os
theorem am_trf_mem {a b : Nat} {n : Int} {l : List ((Nat × am_L) × am_L)} : ∀ {os : List ((Nat × am_L) × am_L)} {p : (Nat × am_L) × am_L}, p ∈ am_trf a b n os l → p ∈ l ∨ ∃ (k : Int) (v : am_L), ((a, (k, [])), v) ∈ os ∧ 0 ≤ k ∧ k < n ∧ p = ((b, (k, [])), v)
  | [], p, h => Or.inl h
  | o :: os, p, h => by
    have go : p ∈ am_trf a b n os l → p ∈ l ∨ ∃ (k : Int) (v : am_L), ((a, (k, [])), v) ∈ o :: os ∧ 0 ≤ k ∧ k < n ∧ p = ((b, (k, [])), v) := fun hg => by
      rcases am_trf_mem hg with hg | ⟨k, v, h1, h2, h3, h4⟩
      · exact Or.inl hg
      · exact Or.inr ⟨k, v, List.mem_cons_of_mem _ h1, h2, h3, h4⟩
    have h : p ∈ (match Nat.beq o.1.1 a with
      | false => am_trf a b n os l
      | true => match o.1.2 with
        | (k, []) => (match am_nn k && am_nn (n - 1 - k) with
          | true => ((b, (k, [])), o.2) :: am_trf a b n os l
          | false => am_trf a b n os l)
        | _ => am_trf a b n os l) := h
    split at h
    · exact go h
    · rename_i hb
      split at h
      · rename_i k hk
        split at h
        · rename_i hc
          simp only [Bool.and_eq_true] at hc
          have c1 := am_nn_spec hc.1
          have c2 := am_nn_spec hc.2
          rcases List.mem_cons.mp h with h | h
          · refine Or.inr ⟨k, o.2, ?_, c1, by omega, h⟩
            obtain ⟨⟨o1, o2⟩, o3⟩ := o
            simp only [] at hk hb
            have := Nat.eq_of_beq_eq_true hb
            subst this; subst hk
            exact List.mem_cons_self ..
          · exact go h
        · exact go h
      · exact go h
def am_trS (a b : Nat) (n dp sp : Int) (s : am_S) : am_S := match s with
  | (m, e, fs, ov) => match am_z dp && am_z sp with
    | true => (m, e, fs, am_trf a b n ov (am_flt [(b, 0)] ov))
    | false => (m, e, fs, am_flt [(b, 0)] ov)
theorem am_trS_1 (a b : Nat) (n dp sp : Int) (s : am_S) : (am_trS a b n dp sp s).1 = s.1 := by
  obtain ⟨m, e, fs, ov⟩ := s
  simp only [am_trS]
  split <;> rfl
theorem am_trS_wf {a b : Nat} {n dp sp : Int} {s : am_S} (hw : am_wf s) : am_wf (am_trS a b n dp sp s) := by
  obtain ⟨m, e, fs, ov⟩ := s
  simp only [am_trS]
  split <;> exact hw
theorem am_trS_holds {xs : List Int32} {h h' : cm_H} {a b : Nat} {n dp sp : Int} {r : am_V} {s : am_S} (hl : h.length ≤ 1000000) (ha : a < 1000000) (hbl : b < 1000000) (ho : am_out [(b, 0)] h h') (hs : am_holds xs s r h)
    (hc : dp = 0 → sp = 0 → ∀ k : Nat, (k : Int) < n → (am_tms h'[b]?)[k]? = (am_tms h[a]?)[k]?) : am_holds xs (am_trS a b n dp sp s) r h' := by
  obtain ⟨m, e, fs, ov⟩ := s
  have hflt := am_fltS_holds (s := (m, e, fs, ov)) hl ho hs
  simp only [am_trS]
  split
  · rename_i hz
    simp only [Bool.and_eq_true] at hz
    have hc := hc (am_z_spec hz.1) (am_z_spec hz.2)
    intro q hq hg
    obtain ⟨h1, h2, h3⟩ := hs q hq hg
    obtain ⟨_, _, g3⟩ := hflt q hq hg
    refine ⟨h1, h2, fun o hm => ?_⟩
    rcases am_trf_mem hm with hm | ⟨k, v, m1, m2, m3, m4⟩
    · exact g3 o hm
    · rw [m4]
      obtain ⟨k1, y, k2, k3⟩ := (h3 _ m1).1 (by show a < 2000000; omega)
      have ek : am_ev q (k, []) = k := by simp [am_ev, am_ts]
      simp only [ek] at k1 k2 k3
      refine am_ent_slot (by show b < 2000000; omega) ⟨by simp only [ek]; exact m2, y, ?_, k3⟩
      simp only [ek]
      rw [am_slot_new hbl, hc k.toNat (by omega), ← am_slot_new (xs := xs) ha]
      exact k2
  · exact hflt
/-- an array copied into another -/
def am_cpy (K : List am_K) (ms : List (Nat × Nat)) (s : am_S) (n dp sp : am_L) (a b : am_A) : Option am_S := match am_norm s.2.1 n, am_norm s.2.1 dp, am_norm s.2.1 sp, a, b with
  | (n, []), (dp, []), (sp, []), (4, (a, _)), (4, (b, _)) => (match am_nthO K a.toNat, am_nthO K b.toNat with
    | some (.inl (ta, na, [ga])), some (.inl (tb, nb, [gb])) => (match am_tyB ta .int && (am_tyB tb .int && (am_memP b.toNat 0 ms && (am_nn n && (am_nn dp && (am_nn sp && (am_nn (Int.ofNat na - sp - n) && (am_nn (Int.ofNat nb - dp - n) && (am_nn (ga.1 - gb.1) && am_nn (gb.2 - ga.2))))))))) with
      | true => some (am_trS a.toNat b.toNat n dp sp s)
      | false => none)
    | _, _ => none)
  | _, _, _, _, _ => none
theorem am_cpy_spec {xs : List Int32} {K : List am_K} {ms : List (Nat × Nat)} {s : am_S} {lv st : List am_A} {r : am_V} {L : cm_Lv} {T : List Term} {h : cm_H} (hKl : K.length ≤ 1000000) (hf : am_fr xs K s lv st r L T h) {n dp sp : am_L} {a b : am_A} {xn xd xp : Int32} {ta tb : Term} {o : am_S}
    (hn : am_All s.1 r (fun q => xn.toInt = am_ev q n)) (hd : am_All s.1 r (fun q => xd.toInt = am_ev q dp)) (hp : am_All s.1 r (fun q => xp.toInt = am_ev q sp)) (ha : am_All s.1 r (fun q => am_sat q a (some ta))) (hb : am_All s.1 r (fun q => am_sat q b (some tb))) (ho : am_cpy K ms s n dp sp a b = some o) :
    ∃ h' : cm_H, (∀ (kk : cm_H → Option cm_R), cm_copy h [ta, .int xp, tb, .int xd, .int xn] kk = kk h') ∧ am_later ms s o r r h h' ∧ am_fr xs K o lv st r L T h' := by
  have hn := am_norm_eq hf.2.2.1 hn
  have hd := am_norm_eq hf.2.2.1 hd
  have hp := am_norm_eq hf.2.2.1 hp
  unfold am_cpy at ho
  split at ho
  · rename_i n1 d1 p1 a1 _ b1 _ e1 e2 e3
    rw [e1] at hn
    rw [e2] at hd
    rw [e3] at hp
    have kn : xn.toInt = n1 := by have := am_All_here hf.1 hn; simpa [am_ev, am_ts] using this
    have kd : xd.toInt = d1 := by have := am_All_here hf.1 hd; simpa [am_ev, am_ts] using this
    have kp : xp.toInt = p1 := by have := am_All_here hf.1 hp; simpa [am_ev, am_ts] using this
    have ea : ta = .index a1.toNat := by have := am_All_here hf.1 ha; simpa [am_sat] using this
    have eb : tb = .index b1.toNat := by have := am_All_here hf.1 hb; simpa [am_sat] using this
    subst ea; subst eb
    split at ho
    · rename_i ta na ga tb nb gb hka hkb
      split at ho
      · rename_i hc
        simp only [Bool.and_eq_true] at hc
        obtain ⟨c1, c2, c3, c4, c5, c6, c7, c8, c9, c10⟩ := hc
        have c1 := am_tyB_spec c1
        have c2 := am_tyB_spec c2
        subst c1; subst c2
        have c3 := am_memP_spec c3
        have c4 := am_nn_spec c4
        have c5 := am_nn_spec c5
        have c6 := am_nn_spec c6
        have c7 := am_nn_spec c7
        have c8 := am_nn_spec c8
        have c9 := am_nn_spec c9
        have c10 := am_nn_spec c10
        have i1 : Int.ofNat na = (na : Int) := rfl
        have i2 : Int.ofNat nb = (nb : Int) := rfl
        obtain ⟨la, a2, a3, a4, a5, a6⟩ := am_arr_of hf.2.2.2.1 hka
        obtain ⟨lb, b2, b3, b4, b5, b6⟩ := am_arr_of hf.2.2.2.1 hkb
        have hcl : b1.toNat < K.length := (List.getElem?_eq_some_iff.mp b6).1
        have hlen : h.length = K.length := hf.2.2.2.1.1
        have hch : b1.toNat < h.length := by omega
        injection ho with ho
        subst ho
        have hall : ∀ u ∈ lb.take xd.toInt.toNat ++ ((la.drop xp.toInt.toNat).take xn.toInt.toNat ++ lb.drop (xd.toInt.toNat + xn.toInt.toNat)), am_isIn u gb := by
          intro u hu
          have hub : u ∈ lb → am_isIn u gb := fun hu => by
            obtain ⟨j, hj, he⟩ := List.getElem_of_mem hu
            obtain ⟨w, w1, w2⟩ := b4 j (by omega)
            rw [List.getElem?_eq_getElem hj, he] at w1
            injection w1 with w1
            rw [w1]
            rw [am_rgAt1] at w2
            exact w2
          have hua : u ∈ la → am_isIn u gb := fun hu => by
            obtain ⟨j, hj, he⟩ := List.getElem_of_mem hu
            obtain ⟨w, w1, w2⟩ := a4 j (by omega)
            rw [List.getElem?_eq_getElem hj, he] at w1
            injection w1 with w1
            rw [w1]
            rw [am_rgAt1] at w2
            obtain ⟨y, y1, y2, y3⟩ := w2
            exact ⟨y, y1, by omega, by omega⟩
          rcases List.mem_append.mp hu with hu | hu
          · exact hub (List.mem_of_mem_take hu)
          · rcases List.mem_append.mp hu with hu | hu
            · exact hua (List.mem_of_mem_drop (List.mem_of_mem_take hu))
            · exact hub (List.mem_of_mem_drop hu)
        have hlen2 : (lb.take xd.toInt.toNat ++ ((la.drop xp.toInt.toNat).take xn.toInt.toNat ++ lb.drop (xd.toInt.toNat + xn.toInt.toNat))).length = nb := by
          simp only [List.length_append, List.length_take, List.length_drop]
          omega
        generalize hnew : lb.take xd.toInt.toNat ++ ((la.drop xp.toInt.toNat).take xn.toInt.toNat ++ lb.drop (xd.toInt.toNat + xn.toInt.toNat)) = new at hall hlen2
        have hcell : am_cell (.inl (.int, nb, [gb])) (.inl (.int, new)) := by
          refine ⟨new, rfl, hlen2, fun i hi => ?_⟩
          have hi2 : i < new.length := by omega
          refine ⟨new[i], List.getElem?_eq_getElem hi2, ?_⟩
          rw [am_rgAt1]
          exact hall _ (List.getElem_mem hi2)
        have hout : am_out [(b1.toNat, 0)] h (h.set b1.toNat (.inl (.int, new))) := am_out_set h _ _ (by simp)
        refine ⟨h.set b1.toNat (.inl (.int, new)), fun kk => ?_, ?_, ?_⟩
        · simp only [cm_copy, a2, b2]
          rw [if_pos ⟨trivial, trivial, by omega, by omega, by omega, by omega, by omega⟩, cm_set_eq, hnew]
        · refine ⟨?_, am_Ag_refl _ _, am_out_set h _ _ c3⟩
          rw [am_trS_1]
          exact Nat.le_refl _
        · have hal : a1.toNat < K.length := (List.getElem?_eq_some_iff.mp a6).1
          refine ⟨hf.1, am_trS_wf hf.2.1, am_trS_holds (by omega) (by omega) (by omega) hout hf.2.2.1 (fun z1 z2 k hk => ?_), am_heap_set hf.2.2.2.1 b6 hcell, ?_, ?_⟩
          · rw [List.getElem?_set_self hch, a5]
            show new[k]? = la[k]?
            have y1 : xd.toInt.toNat = 0 := by omega
            have y2 : xp.toInt.toNat = 0 := by omega
            rw [← hnew, y1, y2, List.take_zero, List.nil_append, List.drop_zero, List.getElem?_append_left (by rw [List.length_take]; omega), List.getElem?_take_of_lt (by omega)]
          · rw [am_trS_1]; exact hf.2.2.2.2.1
          · rw [am_trS_1]; exact hf.2.2.2.2.2
      · simp at ho
    · simp at ho
  · simp at ho
/-- the library's calls -/
def am_lib (K : List am_K) (ms : List (Nat × Nat)) (ins : Instr) (np : Nat) (rs : List Nat) (lv st : List am_A) (s : am_S) : Option am_N := match ins with
  | .invokestatic _ => (match rs, st with
    | 4 :: _, (0, n) :: (0, dp) :: b :: (0, sp) :: a :: st => (match Nat.ble (am_catA st) 8 with
      | true => (match am_cpy K ms s n dp sp a b with
        | some s' => some (np, lv, st, s')
        | none => none)
      | false => none)
    | 5 :: _, (0, b) :: (0, a) :: st => (match Nat.ble (am_catA st) 8 with
      | true => (match am_omax s a b with
        | (c, s') => some (np, lv, (0, c) :: st, s'))
      | false => none)
    | 6 :: _, (0, b) :: (0, a) :: st => (match Nat.ble (am_catA st) 8 with
      | true => (match am_omin s a b with
        | (c, s') => some (np, lv, (0, c) :: st, s'))
      | false => none)
    | 7 :: _, (0, a) :: st => (match Nat.ble (am_catA st) 8 with
      | true => (match am_oabs s a with
        | (c, s') => some (np, lv, (0, c) :: st, s'))
      | false => none)
    | _, _ => none)
  | _ => none
theorem am_lib_spec {x : Term} {xs : List Int32} {K : List am_K} {ms : List (Nat × Nat)} {d : Nat} {mr : cm_M} {pc np : Nat} {rs : List Nat} {s : am_S} {lv st : List am_A} {r : am_V} {L : cm_Lv} {T : List Term} {h : cm_H} (hKl : K.length ≤ 1000000) (hd0 : 0 < d) (hf : am_fr xs K s lv st r L T h)
    {ins : Instr} (hat : cm_at mr.1 pc = some (ins, np, rs)) {o : am_N} (ho : am_lib K ms ins np rs lv st s = some o) : am_Step (cm_pg x xs) xs K ms d mr pc s r L T h [o] := by
  cases ins with
  | invokestatic j =>
    simp only [am_lib] at ho
    have hcat : ∀ {st' : List am_A} {T' : List Term}, am_fr xs K s lv st' r L T' h → Nat.ble (am_catA st') 8 = true → ¬ (d = 0 ∨ 8 < cm_cat T') := fun hf' hb => by
      have := am_catA_spec (am_All_here hf'.1 hf'.2.2.2.2.2)
      simp only [Nat.ble_eq] at hb
      omega
    split at ho
    · rename_i n dp b sp a st'
      obtain ⟨xn, T0, e0, hn, hf0⟩ := am_topI hf
      obtain ⟨xd, T1, e1, hd, hf1⟩ := am_topI hf0
      obtain ⟨tb, T2, e2, hb, hf2⟩ := am_top hf1
      obtain ⟨xp, T3, e3, hp, hf3⟩ := am_topI hf2
      obtain ⟨ta, T4, e4, ha, hf4⟩ := am_top hf3
      split at ho
      · rename_i hc
        split at ho
        · rename_i s' hcp
          obtain ⟨h', h1, h2, h3⟩ := am_cpy_spec hKl hf4 hn hd hp ha hb hcp
          injection ho with ho
          subst ho; subst e4; subst e3; subst e2; subst e1; subst e0
          refine ⟨_, List.mem_singleton.mpr rfl, r, L, T4, h', fun ih => ?_, h2, h3⟩
          simp only [cm_step, hat, cm_pop]
          rw [if_neg (hcat hf4 hc)]
          exact h1 _
        · simp at ho
      · simp at ho
    · rename_i b a st'
      obtain ⟨y, T0, e0, hy, hf0⟩ := am_topI hf
      obtain ⟨x0, T1, e1, hx, hf1⟩ := am_topI hf0
      split at ho
      · rename_i hc
        simp only [Option.some.injEq] at ho
        subst ho; subst e1; subst e0
        refine am_Val_push (am_omax_spec hf1 hx hy) (fun ih => ?_)
        simp only [cm_step, hat, cm_two]
        rw [if_neg (hcat hf1 hc)]
      · simp at ho
    · rename_i b a st'
      obtain ⟨y, T0, e0, hy, hf0⟩ := am_topI hf
      obtain ⟨x0, T1, e1, hx, hf1⟩ := am_topI hf0
      split at ho
      · rename_i hc
        simp only [Option.some.injEq] at ho
        subst ho; subst e1; subst e0
        refine am_Val_push (am_omin_spec hf1 hx hy) (fun ih => ?_)
        simp only [cm_step, hat, cm_two]
        rw [if_neg (hcat hf1 hc)]
      · simp at ho
    · rename_i a st'
      obtain ⟨x0, T1, e1, hx, hf1⟩ := am_topI hf
      split at ho
      · rename_i hc
        simp only [Option.some.injEq] at ho
        subst ho; subst e1
        refine am_Val_push (am_oabs_spec hf1 hx) (fun ih => ?_)
        simp only [cm_step, hat, cm_one]
        rw [if_neg (hcat hf1 hc)]
      · simp at ho
    · simp at ho
  | _ => simp [am_lib] at ho
end
