noncomputable section
/-! LAYER 2, where forms are looked for (nothing need be said of what is found: it is checked); slots that are to be known. -/
def am_lcon (s : am_S) (lv : List am_A) (i : Nat) : Option Int := match am_nthA lv i with
  | some (0, f) => (match am_norm s.2.1 f with
    | (k, []) => some k
    | _ => none)
  | _ => none
def am_atom (s : am_S) (lv : List am_A) (res : Option am_A) (a : am_At) : Option am_L := match a with
  | (0, i, _) => (match am_nthA lv i with
    | some (0, f) => some f
    | _ => none)
  | (1, c, i, _) => am_find s.2.1 c (Int.ofNat i, []) s.2.2.2
  | (2, j, _) => am_find s.2.1 4000001 (Int.ofNat j, []) s.2.2.2
  | (3, j, k, l, _) => (match am_lcon s lv l with
    | some v => am_find s.2.1 4000001 (Int.ofNat j + Int.ofNat k * v, []) s.2.2.2
    | none => none)
  | (4, c, b, k, l, _) => (match am_lcon s lv l with
    | some v => am_find s.2.1 c (Int.ofNat b + Int.ofNat k * v, []) s.2.2.2
    | none => none)
  | (5, _) => (match res with
    | some (0, f) => some f
    | _ => none)
  | (6, c, i, j, _, t) => (match am_find s.2.1 c (Int.ofNat i, []) s.2.2.2 with
    | some v => (match am_norm s.2.1 v with
      | (k, []) => (match am_nthO t k.toNat with
        | some x => some (x, [])
        | none => none)
      | _ => am_find s.2.1 4000001 (Int.ofNat j, []) s.2.2.2)
    | none => none)
  | _ => none
def am_terms (s : am_S) (lv : List am_A) (res : Option am_A) : List (Int × am_At) → am_L → Option am_L
  | [], f => some f
  | (c, a) :: l, f => match am_atom s lv res a with
    | some x => am_terms s lv res l (am_add c f x)
    | none => none
def am_src (s : am_S) (lv : List am_A) (res : Option am_A) (sr : am_Sr) : Option am_L := match am_terms s lv res sr.2.2 (sr.2.1, []) with
  | some f => some (am_norm s.2.1 f)
  | none => none
def am_srcs (s : am_S) (lv : List am_A) (res : Option am_A) : List am_Sr → Option (List am_L)
  | [] => some []
  | sr :: l => match am_src s lv res sr with
    | some f => (match am_srcs s lv res l with
      | some fs => some (f :: fs)
      | none => none)
    | none => none
/-- a state that comes of another, with nothing done -/
def am_Kn (xs : List Int32) (K : List am_K) (s s' : am_S) : Prop :=
  ∀ (lv st : List am_A) (r : am_V) (L : cm_Lv) (T : List Term) (h : cm_H), am_fr xs K s lv st r L T h → ∃ r', am_later [] s s' r r' h h ∧ am_fr xs K s' lv st r' L T h
theorem am_Kn_refl (xs : List Int32) (K : List am_K) (s : am_S) : am_Kn xs K s s := fun _ _ r _ _ _ hf => ⟨r, am_later_refl _ _ _ _, hf⟩
theorem am_Kn_trans {xs : List Int32} {K : List am_K} {s s1 s2 : am_S} (a : am_Kn xs K s s1) (b : am_Kn xs K s1 s2) : am_Kn xs K s s2 := fun lv st r L T h hf => by
  obtain ⟨r1, h1, h2⟩ := a lv st r L T h hf
  obtain ⟨r2, h3, h4⟩ := b lv st r1 L T h h2
  exact ⟨r2, am_later_trans h1 h3, h4⟩
/-- a slot comes to be known -/
def am_en0 (K : List am_K) (s : am_S) (c i : Nat) : am_S := match am_nthO K c with
  | some (.inl (ty, n, rs)) => (match Nat.blt i n && (am_tyB ty .int || am_tyB ty .byte) with
    | true => (match am_rd s c (Int.ofNat i, []) (am_rgAt rs i) with
      | (_, s') => s')
    | false => s)
  | some (.inr (_, fs)) => (match am_nthO fs i with
    | some (.inr g) => (match am_rd s c (Int.ofNat i, []) g with
      | (_, s') => s')
    | _ => s)
  | none => s
theorem am_en0_spec {xs : List Int32} {K : List am_K} (hKl : K.length ≤ 1000000) (s : am_S) (c i : Nat) : am_Kn xs K s (am_en0 K s c i) := by
  intro lv st r L T h hf
  unfold am_en0
  split
  · rename_i ty n rs hk
    split
    · rename_i hb
      simp only [Bool.and_eq_true] at hb
      have hi := am_blt hb.1
      obtain ⟨l, a1, a2, a3, a4, a5⟩ := am_arr_of hf.2.2.2.1 hk
      obtain ⟨u, b1, v, b2, b3, b4⟩ := a3 i hi
      subst b2
      have hcl : c < K.length := (List.getElem?_eq_some_iff.mp a5).1
      obtain ⟨r', k1, k2, _⟩ := am_rd_spec (c := c) (j := i) (i := (Int.ofNat i, [])) (g := am_rgAt rs i) (x := v) hf (by omega) (fun q _ _ => by simp [am_ev, am_ts]) (by rw [am_slot_new (by omega), a4]; exact b1) b3 b4
      exact ⟨r', k1, k2⟩
    · exact ⟨r, am_later_refl _ _ _ _, hf⟩
  · rename_i ci fs hk
    split
    · rename_i g hj
      obtain ⟨l, a1, a2, a3, a4, a5⟩ := am_obj_of hf.2.2.2.1 hk
      rw [am_nthO_eq] at hj
      obtain ⟨u, b1, v, b2, b3, b4⟩ := a3 i _ hj
      subst b2
      have hcl : c < K.length := (List.getElem?_eq_some_iff.mp a5).1
      obtain ⟨r', k1, k2, _⟩ := am_rd_spec (c := c) (j := i) (i := (Int.ofNat i, [])) (g := g) (x := v) hf (by omega) (fun q _ _ => by simp [am_ev, am_ts]) (by rw [am_slot_new (by omega), a4]; exact b1) b3 b4
      exact ⟨r', k1, k2⟩
    · exact ⟨r, am_later_refl _ _ _ _, hf⟩
  · exact ⟨r, am_later_refl _ _ _ _, hf⟩
def am_en1 (K : List am_K) (s : am_S) (c i : Nat) : am_S := match Nat.blt c 1000000 with
  | true => am_en0 K s c i
  | false => s
theorem am_en1_spec {xs : List Int32} {K : List am_K} (hKl : K.length ≤ 1000000) (s : am_S) (c i : Nat) : am_Kn xs K s (am_en1 K s c i) := by
  unfold am_en1
  split
  · exact am_en0_spec hKl s c i
  · exact am_Kn_refl _ _ _
def am_enA (K : List am_K) (lv : List am_A) (s : am_S) (a : am_At) : am_S := match a with
  | (1, c, i, _) => am_en1 K s c i
  | (4, c, b, k, l, _) => (match am_lcon s lv l with
    | some v => am_en1 K s c (Int.ofNat b + Int.ofNat k * v).toNat
    | none => s)
  | (6, c, i, _) => am_en1 K s c i
  | _ => s
theorem am_enA_spec {xs : List Int32} {K : List am_K} (hKl : K.length ≤ 1000000) (lv : List am_A) (s : am_S) (a : am_At) : am_Kn xs K s (am_enA K lv s a) := by
  unfold am_enA
  split
  · exact am_en1_spec hKl _ _ _
  · split
    · exact am_en1_spec hKl _ _ _
    · exact am_Kn_refl _ _ _
  · exact am_en1_spec hKl _ _ _
  · exact am_Kn_refl _ _ _
/-- a state, evaluated before it goes on -/
def am_str {β : Type} (s : am_S) (k : am_S → β) : β := match s with
  | (n, e, fs, ov) => k (n, e, fs, ov)
theorem am_str_eq {β : Type} (s : am_S) (k : am_S → β) : am_str s k = k s := by
  obtain ⟨n, e, fs, ov⟩ := s
  rfl
def am_enT (K : List am_K) (lv : List am_A) : List (Int × am_At) → am_S → am_S
  | [], s => s
  | (_, a) :: l, s => am_str (am_enA K lv s a) (fun s' => am_enT K lv l s')
theorem am_enT_spec {xs : List Int32} {K : List am_K} (hKl : K.length ≤ 1000000) (lv : List am_A) : ∀ (l : List (Int × am_At)) (s : am_S), am_Kn xs K s (am_enT K lv l s)
  | [], s => am_Kn_refl _ _ _
  | (_, a) :: l, s => by
    show am_Kn xs K s (am_str (am_enA K lv s a) (fun s' => am_enT K lv l s'))
    rw [am_str_eq]
    exact am_Kn_trans (am_enA_spec hKl lv s a) (am_enT_spec hKl lv l _)
def am_enS (K : List am_K) (lv : List am_A) : List am_Sr → am_S → am_S
  | [], s => s
  | sr :: l, s => am_str (am_enT K lv sr.2.2 s) (fun s' => am_enS K lv l s')
theorem am_enS_spec {xs : List Int32} {K : List am_K} (hKl : K.length ≤ 1000000) (lv : List am_A) : ∀ (l : List am_Sr) (s : am_S), am_Kn xs K s (am_enS K lv l s)
  | [], s => am_Kn_refl _ _ _
  | sr :: l, s => by
    show am_Kn xs K s (am_str (am_enT K lv sr.2.2 s) (fun s' => am_enS K lv l s'))
    rw [am_str_eq]
    exact am_Kn_trans (am_enT_spec hKl lv sr.2.2 s) (am_enS_spec hKl lv l _)
/-- slots of entries at fixed places -/
def am_enO (K : List am_K) : List am_O → am_S → am_S
  | [], s => s
  | o :: l, s => match o.1.2 with
    | (k, []) => (match Nat.blt o.1.1 1000000 with
      | true => am_str (am_en1 K s o.1.1 k.toNat) (fun s' => am_enO K l s')
      | false => am_enO K l s)
    | _ => am_enO K l s
theorem am_enO_spec {xs : List Int32} {K : List am_K} (hKl : K.length ≤ 1000000) : ∀ (l : List am_O) (s : am_S), am_Kn xs K s (am_enO K l s)
  | [], s => am_Kn_refl _ _ _
  | o :: l, s => by
    unfold am_enO
    split
    · split
      · rw [am_str_eq]
        exact am_Kn_trans (am_en1_spec hKl _ _ _) (am_enO_spec hKl l _)
      · exact am_enO_spec hKl l s
    · exact am_enO_spec hKl l s
def am_setM (s : am_S) (k : Int) : am_S := am_kn s 4000000 (0, []) (k, [])
theorem am_setM_spec {xs : List Int32} {K : List am_K} (s : am_S) (k : Int) : am_Kn xs K s (am_setM s k) := fun lv st r L T h hf =>
  ⟨r, am_later_same (am_kn_1 _ _ _ _) r h, am_fr_same hf (am_kn_1 _ _ _ _) (am_kn_wf hf.2.1) (am_kn_ent hf.2.2.1 (fun _ _ _ => am_ent_any (by show 4000000 ≤ 4000000; omega) (by show 4000000 < 5000000; omega)))⟩
/-- the end of a contract: is one of its ends kept? -/
def am_end1 (K : List am_K) (n0 : Nat) (lv : List am_A) (a : Option am_A) (s : am_S) (al : am_Al) : Bool := match al with
  | (e1, f1, o1, res, srs) => match am_enO K o1 (am_enS K lv srs s) with
    | s' => match am_srcs s' lv a srs with
      | none => false
      | some τ => match am_vars 0 n0 ++ τ with
        | σ => am_mtE s' τ e1 && ((match res, a with
          | none, none => true
          | some x, some y => am_mtA s' σ x y
          | _, _ => false) && (am_mtO s' σ o1 && am_mtF s' σ f1))
/-- an end that a fixed answer, or a slot at another value, rules out, needs no try -/
def am_qk (s : am_S) (a : Option am_A) (al : am_Al) : Bool := (match al.2.2.2.1, a with
  | some (0, (k, [])), some (0, f) => (match am_norm s.2.1 f with
    | (j, []) => am_z (am_is j k)
    | _ => true)
  | _, _ => true) && (match al.2.2.1 with
    | ((c, (i, [])), (v, [])) :: _ => (match am_find s.2.1 c (i, []) s.2.2.2 with
      | none => true
      | some w => match am_norm s.2.1 w with
        | (j, []) => am_z (am_is j v)
        | _ => true)
    | _ => true)
def am_endk (K : List am_K) (n0 : Nat) (lv : List am_A) (alts : List am_Al) (a : Option am_A) (s : am_S) : Bool := match alts with
  | [] => false
  | al :: l => match am_qk s a al with
    | false => am_endk K n0 lv l a s
    | true => match am_end1 K n0 lv a s al with
      | true => true
      | false => am_endk K n0 lv l a s
theorem am_end1_spec {xs : List Int32} {K : List am_K} (hKl : K.length ≤ 1000000) {e0 : am_EL} {lv : List am_A} {a : Option am_A} {s : am_S} {al : am_Al} (hk : am_end1 K e0.length lv a s al = true) {r0 r : am_V} {h : cm_H} {v : Option Term} (h0 : am_InL r0 e0) (hr0 : am_Rg r0) (hag : am_Ag e0.length r0 r) (hle : e0.length ≤ s.1) (hr : am_Rg r) (hw : am_wf s) (hs : am_holds xs s r h) (hh : am_heap K h) (hres : am_res s.1 r a v) :
    ∃ r1 : am_V, am_Rg r1 ∧ am_Ag e0.length r0 r1 ∧ am_hold1 xs (e0 ++ al.1) al.2.1 al.2.2.1 r1 h ∧ am_res1 r1 al.2.2.2.1 v := by
  obtain ⟨e1, f1, o1, res, srs⟩ := al
  simp only [am_end1] at hk
  obtain ⟨r', k1, k2⟩ := am_Kn_trans (am_enS_spec (xs := xs) hKl lv srs s) (am_enO_spec hKl o1 _) [] [] r [] [] h ⟨hr, hw, hs, hh, fun _ _ _ => trivial, fun _ _ _ => trivial⟩
  generalize hs' : am_enO K o1 (am_enS K lv srs s) = s' at hk k1 k2
  split at hk
  · simp at hk
  · rename_i τ hτ
    simp only [Bool.and_eq_true] at hk
    obtain ⟨g1, g2, g3, g4⟩ := hk
    have hE := am_mtE_spec k2.1 k2.2.2.1 g1
    have hlen := am_mtE_len g1
    have hag' : am_Ag e0.length r0 r' := am_Ag_trans (Nat.le_refl _) hag (fun u hu => k1.2.1 u (by omega))
    have hlow : ∀ u, u < e0.length → am_rho r' (am_vars 0 e0.length ++ τ) u = r0 u := fun u hu => by
      have hvl : (am_vars 0 e0.length).length = e0.length := by
        have : ∀ (k n : Nat), (am_vars n k).length = k := by
          intro k
          induction k with
          | zero => intro n; rfl
          | succ k ih => intro n; simp only [am_vars, List.length_cons, ih]
        exact this _ _
      simp only [am_rho]
      rw [am_nth_app1 _ _ _ _ (by omega), am_nth_vars _ _ _ _ hu]
      simp only [am_ev, am_ts, Nat.zero_add]
      rw [hag' u hu]; omega
    have hhigh : ∀ j, am_rho r' (am_vars 0 e0.length ++ τ) (e0.length + j) = am_ev r' (am_nth (0, []) τ j) := fun j => by
      have hvl : (am_vars 0 e0.length).length = e0.length := by
        have : ∀ (k n : Nat), (am_vars n k).length = k := by
          intro k
          induction k with
          | zero => intro n; rfl
          | succ k ih => intro n; simp only [am_vars, List.length_cons, ih]
        exact this _ _
      have := am_nth_app2 (0, []) (am_vars 0 e0.length) τ j
      rw [hvl] at this
      simp only [am_rho]
      rw [this]
    refine ⟨am_rho r' (am_vars 0 e0.length ++ τ), fun u => ?_, fun u hu => hlow u hu, ⟨fun u => ?_, am_mtF_spec k2.1 k2.2.2.1 g4, am_mtO_spec k2.1 k2.2.2.1 g3⟩, ?_⟩
    · by_cases hu : u < e0.length
      · rw [hlow u hu]; exact hr0 u
      · obtain ⟨j, hj⟩ : ∃ j, u = e0.length + j := ⟨u - e0.length, by omega⟩
        rw [hj, hhigh j]
        exact ⟨(hE j).2.2.1, (hE j).2.2.2⟩
    · by_cases hu : u < e0.length
      · rw [am_nth_app1 _ _ _ _ hu, hlow u hu]; exact h0 u
      · obtain ⟨j, hj⟩ : ∃ j, u = e0.length + j := ⟨u - e0.length, by omega⟩
        rw [hj, am_nth_app2, hhigh j]
        exact ⟨(hE j).1, (hE j).2.1⟩
    · split at g2
      · exact hres
      · rename_i x y
        obtain ⟨t, t1, t2⟩ := hres
        refine ⟨t, t1, am_mtA_spec k2.1 k2.2.2.1 g2 (am_All_here k2.1 (am_All_more k1.1 k1.2.1 t2))⟩
      · simp at g2
theorem am_endk_spec {K : List am_K} {n0 : Nat} {lv : List am_A} {a : Option am_A} {s : am_S} : ∀ {alts : List am_Al}, am_endk K n0 lv alts a s = true → ∃ al ∈ alts, am_end1 K n0 lv a s al = true
  | [], h => by simp [am_endk] at h
  | al :: l, h => by
    simp only [am_endk] at h
    split at h
    · obtain ⟨x, h1, h2⟩ := am_endk_spec h
      exact ⟨x, List.mem_cons_of_mem _ h1, h2⟩
    · split at h
      · rename_i hb
        exact ⟨al, List.mem_cons_self .., hb⟩
      · obtain ⟨x, h1, h2⟩ := am_endk_spec h
        exact ⟨x, List.mem_cons_of_mem _ h1, h2⟩
end
