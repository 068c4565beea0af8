noncomputable section
/-! LAYER 2, fields, lengths, statics. -/
theorem am_i2c' {x : Int32} (h1 : 0 ≤ x.toInt) (h2 : x.toInt ≤ 65535) : x.toUInt32.toUInt16.toUInt32.toInt32 = x := by
  have hn : x.toBitVec.toInt = x.toBitVec.toNat := by
    have h1 : 0 ≤ x.toBitVec.toInt := h1
    rw [BitVec.toInt_eq_toNat_cond] at h1 ⊢
    split at h1
    · rw [if_pos (by assumption)]
    · have := x.toBitVec.isLt
      omega
  have h2 : x.toBitVec.toInt ≤ 65535 := h2
  have hu : x.toUInt32.toUInt16.toUInt32 = x.toUInt32 := by
    apply UInt32.toNat_inj.mp
    rw [UInt16.toNat_toUInt32, UInt32.toNat_toUInt16]
    have e : x.toUInt32.toNat = x.toBitVec.toNat := rfl
    rw [e]
    exact Nat.mod_eq_of_lt (by omega)
  rw [hu]
  rfl
/-- an int as a value of a type -/
def am_dvA (s : am_S) (a : am_L) (ty : FieldType) : Bool := match ty with
  | .int => true
  | .boolean => am_vok s a (0, 1)
  | .byte => am_vok s a (0, 0)
  | .char => am_vok s a (0, 65535)
  | _ => false
theorem am_dvA_spec {xs : List Int32} {s : am_S} {r : am_V} {h : cm_H} (hr : am_Rg r) (hs : am_holds xs s r h) {a : am_L} {x : Int32} (hx : x.toInt = am_ev r a) {ty : FieldType} (hd : am_dvA s a ty = true) : cm_dv (.int x) ty = true := by
  unfold am_dvA at hd
  split at hd
  · rfl
  · have hv := am_vok_spec hr hs hd
    simp only [] at hv
    have hc : x.toInt = 0 ∨ x.toInt = 1 := by omega
    rcases hc with hc | hc
    · have : x = 0 := (am_eq32 x 0).mpr (by rw [hc]; rfl)
      rw [this]; decide
    · have : x = 1 := (am_eq32 x 1).mpr (by rw [hc]; rfl)
      rw [this]; decide
  · have hv := am_vok_spec hr hs hd
    simp only [] at hv
    have : x = 0 := (am_eq32 x 0).mpr (by have : (0 : Int32).toInt = 0 := rfl; omega)
    rw [this]; decide
  · have hv := am_vok_spec hr hs hd
    simp only [] at hv
    have e := am_i2c' (x := x) (by omega) (by omega)
    have f1 : (0 : Int32) ≤ x := Int32.le_iff_toInt_le.mpr (by have : (0 : Int32).toInt = 0 := rfl; omega)
    have f2 : x ≤ (65535 : Int32) := Int32.le_iff_toInt_le.mpr (by have : (65535 : Int32).toInt = 65535 := rfl; omega)
    simp [cm_dv, narrow, fits, f1, f2]
    exact am_i2c (by omega) (by omega)
  · simp at hd
/-- fields of the old objects -/
def am_oF (i k : Nat) : Option am_A := match Nat.ble 4 i && Nat.ble i 8 with
  | true => (match k with
    | 0 => some (5, (Int.ofNat (i + 5), []))
    | 1 => some (0, (0, []))
    | _ => none)
  | false => none
theorem am_oF_spec {i k : Nat} {a : am_A} (h : am_oF i k = some a) : ∃ fs t, cm_nth cm_oO i = some (some (13, fs)) ∧ cm_nth fs k = some t ∧ ∀ q, am_sat q a (some t) := by
  unfold am_oF at h
  split at h
  · rename_i hb
    simp only [Bool.and_eq_true, Nat.ble_eq] at hb
    have hi : i = 4 ∨ i = 5 ∨ i = 6 ∨ i = 7 ∨ i = 8 := by omega
    split at h
    · injection h with h
      subst h
      rcases hi with hi | hi | hi | hi | hi <;> subst hi <;> exact ⟨_, _, rfl, rfl, fun q => rfl⟩
    · injection h with h
      subst h
      rcases hi with hi | hi | hi | hi | hi <;> subst hi <;> exact ⟨_, _, rfl, rfl, fun q => ⟨0, rfl, rfl⟩⟩
    · simp at h
  · simp at h
def am_gf (K : List am_K) (s : am_S) (ci k kind : Nat) (t : am_A) : Option (am_A × am_S) := match t with
  | (4, (c, _)) => (match am_nthO K c.toNat with
    | some (.inr (cj, fs)) => (match Nat.beq cj ci with
      | true => (match am_nthO fs k with
        | some (.inl (.index j)) => some ((4, (Int.ofNat j, [])), s)
        | some (.inr g) => (match am_rd s c.toNat (Int.ofNat k, []) g with
          | (v, s') => some ((0, v), s'))
        | _ => none)
      | false => none)
    | _ => none)
  | (5, (c, _)) => (match Nat.beq ci 13 && Nat.beq kind 0 with
    | true => (match am_oF c.toNat k with
      | some a => some (a, s)
      | none => none)
    | false => none)
  | _ => none
theorem am_obj_of {K : List am_K} {h : cm_H} (hh : am_heap K h) {c ci : Nat} {fs : List (Term ⊕ (Int × Int))} (hk : am_nthO K c = some (.inr (ci, fs))) :
    ∃ l, cm_nth h c = some (.inr (ci, l)) ∧ l.length = fs.length ∧ (∀ (i : Nat) (sp : Term ⊕ (Int × Int)), fs[i]? = some sp → ∃ u, l[i]? = some u ∧ am_fld sp u) ∧ h[c]? = some (.inr (ci, l)) ∧ K[c]? = some (.inr (ci, fs)) := by
  rw [am_nthO_eq] at hk
  obtain ⟨l, h1, h2, h3⟩ := am_heap_obj hh hk
  exact ⟨l, by rw [am_cnth_eq]; exact h1, h2, h3, h1, hk⟩
theorem am_gf_spec {x : Term} {xs : List Int32} {K : List am_K} {s : am_S} {lv st : List am_A} {r : am_V} {L : cm_Lv} {T : List Term} {h : cm_H} (hKl : K.length ≤ 1000000) (hf : am_fr xs K s lv st r L T h) {ci k kind : Nat} {t : am_A} {tm : Term} {o : am_A × am_S}
    (ht : am_All s.1 r (fun q => am_sat q t (some tm))) (ho : am_gf K s ci k kind t = some o) :
    ∃ (u : Term) (r' : am_V), (∀ (kk : Term → Option cm_R), cm_get (cm_pg x xs) h ci k kind tm kk = kk u) ∧ am_later [] s o.2 r r' h h ∧ am_fr xs K o.2 lv (o.1 :: st) r' L (u :: T) h := by
  unfold am_gf at ho
  split at ho
  · rename_i c _
    have e1 : tm = .index c.toNat := by have := am_All_here hf.1 ht; simpa [am_sat] using this
    subst e1
    split at ho
    · rename_i cj fs hk
      split at ho
      · rename_i hb
        have hb := Nat.eq_of_beq_eq_true hb
        subst hb
        obtain ⟨l, a1, a2, a3, a4, a5⟩ := am_obj_of hf.2.2.2.1 hk
        have hcl : c.toNat < K.length := (List.getElem?_eq_some_iff.mp a5).1
        split at ho
        · rename_i j hj
          rw [am_nthO_eq] at hj
          obtain ⟨u, b1, b2⟩ := a3 k _ hj
          have b2 : u = .index j := b2
          subst b2
          injection ho with ho
          subst ho
          refine ⟨.index j, r, fun kk => ?_, am_later_refl _ _ _ _, am_push hf (fun q _ _ => by simp [am_sat])⟩
          simp only [cm_get, a1, if_true, am_cnth_eq, b1]
        · rename_i g hj
          rw [am_nthO_eq] at hj
          obtain ⟨u, b1, v, b2, b3, b4⟩ := a3 k _ hj
          subst b2
          simp only [Option.some.injEq] at ho
          subst ho
          obtain ⟨r', k1, k2, k3⟩ := am_rd_spec (c := c.toNat) (j := k) (i := (Int.ofNat k, [])) (g := g) (x := v) hf (by omega) (fun q _ _ => by simp [am_ev, am_ts]) (by rw [am_slot_new (by omega), a4]; exact b1) b3 b4
          refine ⟨.int v, r', fun kk => ?_, k1, am_push k2 (am_int_mk k3)⟩
          simp only [cm_get, a1, if_true, am_cnth_eq, b1]
        · simp at ho
      · simp at ho
    · simp at ho
  · rename_i c _
    have e1 : tm = .string "" c.toNat := by have := am_All_here hf.1 ht; simpa [am_sat] using this
    subst e1
    split at ho
    · rename_i hb
      simp only [Bool.and_eq_true] at hb
      have hb1 := Nat.eq_of_beq_eq_true hb.1
      have hb2 := Nat.eq_of_beq_eq_true hb.2
      subst hb1; subst hb2
      split at ho
      · rename_i a ha
        obtain ⟨fs, t, c1, c2, c3⟩ := am_oF_spec ha
        injection ho with ho
        subst ho
        have c1' : cm_nth (cm_pg x xs).2.2.2.2 c.toNat = some (some (13, fs)) := c1
        refine ⟨t, r, fun kk => ?_, am_later_refl _ _ _ _, am_push hf (fun q _ _ => c3 q)⟩
        simp only [cm_get, c1', and_self, if_true, c2]
      · simp at ho
    · simp at ho
  · simp at ho
/-- a field written -/
def am_pf (K : List am_K) (ms : List (Nat × Nat)) (s : am_S) (ci k : Nat) (v : am_L) (t : am_A) : Option am_S := match t with
  | (4, (c, _)) => (match am_nthO K c.toNat with
    | some (.inr (cj, fs)) => (match Nat.beq cj ci && ((am_memP c.toNat (k + 1) ms || am_memP c.toNat 0 ms) && am_dvA s v (cm_fty (cm_pg .null []) ci k)) with
      | true => (match am_nthO fs k with
        | some (.inr g) => (match am_vok s v g with
          | true => some (am_wr s c.toNat (Int.ofNat k, []) v)
          | false => none)
        | _ => none)
      | false => none)
    | _ => none)
  | _ => none
theorem am_pf_spec {x : Term} {xs : List Int32} {K : List am_K} {ms : List (Nat × Nat)} {s : am_S} {lv st : List am_A} {r : am_V} {L : cm_Lv} {T : List Term} {h : cm_H} (hKl : K.length ≤ 1000000) (hf : am_fr xs K s lv st r L T h) {ci k : Nat} {v : am_L} {t : am_A} {tm : Term} {w : Int32} {o : am_S}
    (hv : am_All s.1 r (fun q => w.toInt = am_ev q v)) (ht : am_All s.1 r (fun q => am_sat q t (some tm))) (ho : am_pf K ms s ci k v t = some o) :
    ∃ h' : cm_H, (∀ (kk : cm_H → Option cm_R), cm_put (cm_pg x xs) h ci k tm (.int w) kk = kk h') ∧ am_later ms s o r r h h' ∧ am_fr xs K o lv st r L T h' := by
  have hv0 : w.toInt = am_ev r v := am_All_here hf.1 hv
  unfold am_pf at ho
  split at ho
  · rename_i c _
    have e1 : tm = .index c.toNat := by have := am_All_here hf.1 ht; simpa [am_sat] using this
    subst e1
    split at ho
    · rename_i cj fs hk
      split at ho
      · rename_i hb
        simp only [Bool.and_eq_true, Bool.or_eq_true] at hb
        obtain ⟨hb1, hb2, hb3⟩ := hb
        have hb1 := Nat.eq_of_beq_eq_true hb1
        subst hb1
        obtain ⟨l, a1, a2, a3, a4, a5⟩ := am_obj_of hf.2.2.2.1 hk
        have hcl : c.toNat < K.length := (List.getElem?_eq_some_iff.mp a5).1
        have hlen : h.length = K.length := hf.2.2.2.1.1
        have hch : c.toNat < h.length := by omega
        have hdv := am_dvA_spec hf.1 hf.2.2.1 hv0 hb3
        split at ho
        · rename_i g hj
          rw [am_nthO_eq] at hj
          have hkl : k < l.length := by rw [a2]; exact (List.getElem?_eq_some_iff.mp hj).1
          split at ho
          · rename_i hvk
            have hvk := am_vok_spec hf.1 hf.2.2.1 hvk
            rw [← hv0] at hvk
            injection ho with ho
            subst ho
            have hcell : am_cell (.inr (cj, fs)) (.inr (cj, l.set k (.int w))) := am_cell_obj_set a2 a3 (fun sp hsp => by
              rw [hj] at hsp
              injection hsp with hsp
              subst hsp
              exact ⟨w, rfl, hvk.1, hvk.2⟩)
            refine ⟨h.set c.toNat (.inr (cj, l.set k (.int w))), fun kk => ?_, ?_, ?_⟩
            · have hft : cm_fty (cm_pg x xs) cj k = cm_fty (cm_pg .null []) cj k := rfl
              simp only [cm_put, a1, hft]
              rw [if_pos ⟨trivial, hdv, hkl⟩, cm_set_eq, cm_set_eq]
            · refine ⟨?_, am_Ag_refl _ _, ?_⟩
              · obtain ⟨n1, e1, f1, o1⟩ := s
                exact Nat.le_refl _
              · rcases hb2 with hm | hm
                · exact am_out_set1 h _ _ _ _ _ a4 (am_memP_spec hm)
                · exact am_out_set h _ _ (am_memP_spec hm)
            · refine ⟨hf.1, am_wr_wf hf.2.1, ?_, am_heap_set hf.2.2.2.1 a5 hcell, ?_, ?_⟩
              · refine am_wr_spec (j := k) hf.2.2.1 (by omega) (by omega) (am_out_set h _ _ (by simp)) (fun i hi => ?_) ?_ (fun q _ _ => by simp [am_ev, am_ts]) hv
                · rw [List.getElem?_set_self hch, a4]
                  show (l.set k (.int w))[i]? = l[i]?
                  rw [List.getElem?_set_ne (by omega)]
                · rw [am_slot_new (by omega), List.getElem?_set_self hch]
                  show (l.set k (.int w))[k]? = _
                  rw [List.getElem?_set_self hkl]
              · have := hf.2.2.2.2.1
                obtain ⟨n1, e1, f1, o1⟩ := s
                exact this
              · have := hf.2.2.2.2.2
                obtain ⟨n1, e1, f1, o1⟩ := s
                exact this
          · simp at ho
        · simp at ho
      · simp at ho
    · simp at ho
  · simp at ho
/-- the length of an array -/
def am_len (K : List am_K) (s : am_S) (t : am_A) : Option (am_L × am_S) := match t with
  | (4, (c, _)) => (match am_nthO K c.toNat with
    | some (.inl (ty, n, _)) => (match (am_tyB ty .int || am_tyB ty .byte) && Nat.ble n 4096 with
      | true => some ((Int.ofNat n, []), s)
      | false => none)
    | _ => none)
  | (5, (c, _)) => (match c.toNat with
    | 0 => some (am_slen s)
    | c + 1 => (match cm_nth (cm_oA []) (c + 1) with
      | some (some (_, l)) => (match Nat.ble l.length 4096 with
        | true => some ((Int.ofNat l.length, []), s)
        | false => none)
      | _ => none))
  | _ => none
theorem am_ofNat32 {n : Nat} (h : n ≤ 4096) : (Int32.ofNat n).toInt = (n : Int) := by
  rw [Int32.toInt_ofNat']
  exact am_bm (by omega) (by omega)
theorem am_len_spec {x : Term} {xs : List Int32} {K : List am_K} {s : am_S} {lv st : List am_A} {r : am_V} {L : cm_Lv} {T : List Term} {h : cm_H} (hxs : xs.length ≤ 3072) (hf : am_fr xs K s lv st r L T h) {t : am_A} {tm : Term} {o : am_L × am_S}
    (ht : am_All s.1 r (fun q => am_sat q t (some tm))) (ho : am_len K s t = some o) :
    ∃ n : Nat, (∀ (kk : Nat → Option cm_R), cm_len (cm_pg x xs) h tm kk = kk n) ∧ am_Val xs K s lv st r L T h (Int32.ofNat n).toInt o := by
  unfold am_len at ho
  split at ho
  · rename_i c _
    have e1 : tm = .index c.toNat := by have := am_All_here hf.1 ht; simpa [am_sat] using this
    subst e1
    split at ho
    · rename_i ty n rs hk
      split at ho
      · rename_i hb
        simp only [Bool.and_eq_true, Bool.or_eq_true, Nat.ble_eq] at hb
        obtain ⟨l, a1, a2, a3, a4, a5⟩ := am_arr_of hf.2.2.2.1 hk
        injection ho with ho
        subst ho
        have hty : ty = .int ∨ ty = .byte := by
          rcases hb.1 with h1 | h1
          · exact Or.inl (am_tyB_spec h1)
          · exact Or.inr (am_tyB_spec h1)
        refine ⟨l.length, fun kk => ?_, ?_⟩
        · simp only [cm_len, a1]
          rw [if_pos hty]
        · rw [a2, am_ofNat32 hb.2]
          exact am_Val_same hf (fun q _ _ => by simp [am_ev, am_ts])
      · simp at ho
    · simp at ho
  · rename_i c _
    have e1 : tm = .string "" c.toNat := by have := am_All_here hf.1 ht; simpa [am_sat] using this
    subst e1
    split at ho
    · rename_i hc0
      injection ho with ho
      subst ho
      refine ⟨xs.length, fun kk => ?_, ?_⟩
      · rw [hc0]
        show (kk (xs.map Term.int).length) = _
        rw [List.length_map]
      · rw [am_ofNat32 (by omega)]
        exact am_slen_spec hxs hf
    · rename_i c0 hc0
      split at ho
      · rename_i ty l hl
        split at ho
        · rename_i hb
          simp only [Nat.ble_eq] at hb
          injection ho with ho
          subst ho
          have hl' : cm_nth (cm_pg x xs).2.2.2.1 (c0 + 1) = some (some (ty, l)) := by
            show cm_nth (cm_oA xs) (c0 + 1) = _
            rw [am_oA_old xs (by omega)]; exact hl
          refine ⟨l.length, fun kk => ?_, ?_⟩
          · rw [hc0]
            simp only [cm_len, hl']
          · rw [am_ofNat32 hb]
            exact am_Val_same hf (fun q _ _ => by simp [am_ev, am_ts])
        · simp at ho
      · simp at ho
  · simp at ho
def am_gs (i : Nat) : Option am_A := match i with
  | 0 => some (5, (1, []))
  | 1 => some (5, (2, []))
  | 2 => some (5, (3, []))
  | 3 => some (0, (1, []))
  | 4 => some (6, (0, []))
  | _ => none
theorem am_gs_spec {x : Term} {xs : List Int32} (hx : x = .null ∨ x = .string "" 14) {i : Nat} {a : am_A} (h : am_gs i = some a) : ∃ t, cm_nth (cm_pg x xs).2.2.1 i = some t ∧ ∀ q, am_sat q a (some t) := by
  unfold am_gs at h
  split at h
  · injection h with h; subst h; exact ⟨_, rfl, fun q => rfl⟩
  · injection h with h; subst h; exact ⟨_, rfl, fun q => rfl⟩
  · injection h with h; subst h; exact ⟨_, rfl, fun q => rfl⟩
  · injection h with h; subst h; exact ⟨_, rfl, fun q => ⟨1, rfl, rfl⟩⟩
  · injection h with h; subst h
    refine ⟨x, rfl, fun q => ⟨x, rfl, ?_⟩⟩
    rcases hx with hx | hx <;> rw [hx] <;> rfl
  · simp at h
/-- the steps that touch the heap -/
def am_hea (K : List am_K) (ms : List (Nat × Nat)) (ins : Instr) (np : Nat) (rs : List Nat) (lv st : List am_A) (s : am_S) : Option am_N := match ins with
  | .iaload => (match st with
    | (0, i) :: t :: st => (match am_ald K s .int (am_norm s.2.1 i) t with
      | some (v, s') => some (np, lv, (0, v) :: st, s')
      | none => none)
    | _ => none)
  | .baload => (match st with
    | (0, i) :: t :: st => (match am_ald K s .byte (am_norm s.2.1 i) t with
      | some (v, s') => some (np, lv, (0, v) :: st, s')
      | none => none)
    | _ => none)
  | .iastore => (match st with
    | (0, v) :: (0, i) :: t :: st => (match am_asto K ms s .int (am_norm s.2.1 v) (am_norm s.2.1 i) t with
      | some s' => some (np, lv, st, s')
      | none => none)
    | _ => none)
  | .bastore => (match st with
    | (0, v) :: (0, i) :: t :: st => (match am_ocut s (am_norm s.2.1 v) (-128, 127) with
      | (w, s1) => match am_asto K ms s1 .byte w (am_norm s1.2.1 i) t with
        | some s' => some (np, lv, st, s')
        | none => none)
    | _ => none)
  | .arraylength => (match st with
    | t :: st => (match am_len K s t with
      | some (v, s') => some (np, lv, (0, v) :: st, s')
      | none => none)
    | _ => none)
  | .getfield _ => (match rs, st with
    | ci :: k :: kind :: _, t :: st => (match am_gf K s ci k kind t with
      | some (a, s') => some (np, lv, a :: st, s')
      | none => none)
    | _, _ => none)
  | .putfield _ => (match rs, st with
    | ci :: k :: _, (0, v) :: t :: st => (match am_pf K ms s ci k (am_norm s.2.1 v) t with
      | some s' => some (np, lv, st, s')
      | none => none)
    | _, _ => none)
  | .getstatic _ => (match rs with
    | i :: _ => (match am_gs i with
      | some a => some (np, lv, a :: st, s)
      | none => none)
    | _ => none)
  | _ => none
theorem am_hea_spec {x : Term} {xs : List Int32} {K : List am_K} {ms : List (Nat × Nat)} {d : Nat} {mr : cm_M} {pc np : Nat} {rs : List Nat} {s : am_S} {lv st : List am_A} {r : am_V} {L : cm_Lv} {T : List Term} {h : cm_H} (hx : x = .null ∨ x = .string "" 14) (hxs : xs.length ≤ 3072) (hKl : K.length ≤ 1000000) (hf : am_fr xs K s lv st r L T h)
    {ins : Instr} (hat : cm_at mr.1 pc = some (ins, np, rs)) {o : am_N} (ho : am_hea K ms ins np rs lv st s = some o) : am_Step (cm_pg x xs) xs K ms d mr pc s r L T h [o] := by
  cases ins with
  | iaload =>
    simp only [am_hea] at ho
    split at ho
    · rename_i i t st'
      obtain ⟨ix, T1, e1, hi, hf1⟩ := am_topI hf
      obtain ⟨tm, T2, e2, ht, hf2⟩ := am_top hf1
      split at ho
      · rename_i v s' ha
        obtain ⟨w, h1, h2⟩ := am_ald_spec (x := x) hxs hKl hf2 (am_norm_eq hf.2.2.1 hi) ht ha
        injection ho with ho
        subst ho; subst e2; subst e1
        exact am_Val_push h2 (fun ih => by simp only [cm_step, hat]; exact h1 _ _)
      · simp at ho
    · simp at ho
  | baload =>
    simp only [am_hea] at ho
    split at ho
    · rename_i i t st'
      obtain ⟨ix, T1, e1, hi, hf1⟩ := am_topI hf
      obtain ⟨tm, T2, e2, ht, hf2⟩ := am_top hf1
      split at ho
      · rename_i v s' ha
        obtain ⟨w, h1, h2⟩ := am_ald_spec (x := x) hxs hKl hf2 (am_norm_eq hf.2.2.1 hi) ht ha
        injection ho with ho
        subst ho; subst e2; subst e1
        exact am_Val_push h2 (fun ih => by simp only [cm_step, hat]; exact h1 _ _)
      · simp at ho
    · simp at ho
  | iastore =>
    simp only [am_hea] at ho
    split at ho
    · rename_i v i t st'
      obtain ⟨w, T0, e0, hv, hf0⟩ := am_topI hf
      obtain ⟨ix, T1, e1, hi, hf1⟩ := am_topI hf0
      obtain ⟨tm, T2, e2, ht, hf2⟩ := am_top hf1
      split at ho
      · rename_i s' ha
        obtain ⟨h', h1, h2, h3⟩ := am_asto_spec (f := fun v => v) hKl hf2 (am_norm_eq hf.2.2.1 hi) rfl (am_norm_eq hf.2.2.1 hv) ht ha
        injection ho with ho
        subst ho; subst e2; subst e1; subst e0
        exact ⟨_, List.mem_singleton.mpr rfl, r, L, T2, h', fun ih => by simp only [cm_step, hat]; exact h1 _ _, h2, h3⟩
      · simp at ho
    · simp at ho
  | bastore =>
    simp only [am_hea] at ho
    split at ho
    · rename_i v i t st'
      obtain ⟨w, T0, e0, hv, hf0⟩ := am_topI hf
      obtain ⟨ix, T1, e1, hi, hf1⟩ := am_topI hf0
      obtain ⟨tm, T2, e2, ht, hf2⟩ := am_top hf1
      have hb := am_i2b w
      obtain ⟨r1, k1, k2, k3⟩ := am_ocut_spec (g := (-128, 127)) hf2 (by show (-2147483648 : Int) ≤ -128; omega) (by show (127 : Int) ≤ 2147483647; omega) (am_norm_eq hf.2.2.1 hv) hb.1 hb.2.1 hb.2.2
      split at ho
      · rename_i s' ha
        have hi1 := am_All_more k1.1 k1.2.1 hi
        have ht1 := am_All_more k1.1 k1.2.1 ht
        obtain ⟨h', h1, h2, h3⟩ := am_asto_spec (f := fun v => v.toInt8.toInt32) hKl k2 (am_norm_eq k2.2.2.1 hi1) rfl k3 ht1 ha
        injection ho with ho
        subst ho; subst e2; subst e1; subst e0
        exact ⟨_, List.mem_singleton.mpr rfl, r1, L, T2, h', fun ih => by simp only [cm_step, hat]; exact h1 _ _, am_later_trans (am_later_nil k1) h2, h3⟩
      · simp at ho
    · simp at ho
  | arraylength =>
    simp only [am_hea] at ho
    split at ho
    · rename_i t st'
      obtain ⟨tm, T2, e2, ht, hf2⟩ := am_top hf
      split at ho
      · rename_i v s' ha
        obtain ⟨n, h1, h2⟩ := am_len_spec (x := x) hxs hf2 ht ha
        injection ho with ho
        subst ho; subst e2
        exact am_Val_push h2 (fun ih => by simp only [cm_step, hat]; exact h1 _)
      · simp at ho
    · simp at ho
  | getfield j =>
    simp only [am_hea] at ho
    split at ho
    · rename_i ci k kind _ t st'
      obtain ⟨tm, T2, e2, ht, hf2⟩ := am_top hf
      split at ho
      · rename_i a s' ha
        obtain ⟨u, r', h1, h2, h3⟩ := am_gf_spec (x := x) hKl hf2 ht ha
        injection ho with ho
        subst ho; subst e2
        exact am_out1 (T' := u :: T2) (fun ih => by simp only [cm_step, hat]; exact h1 _) h2 h3
      · simp at ho
    · simp at ho
  | putfield j =>
    simp only [am_hea] at ho
    split at ho
    · rename_i ci k _ v t st'
      obtain ⟨w, T0, e0, hv, hf0⟩ := am_topI hf
      obtain ⟨tm, T2, e2, ht, hf2⟩ := am_top hf0
      split at ho
      · rename_i s' ha
        obtain ⟨h', h1, h2, h3⟩ := am_pf_spec (x := x) hKl hf2 (am_norm_eq hf.2.2.1 hv) ht ha
        injection ho with ho
        subst ho; subst e2; subst e0
        exact ⟨_, List.mem_singleton.mpr rfl, r, L, T2, h', fun ih => by simp only [cm_step, hat]; exact h1 _, h2, h3⟩
      · simp at ho
    · simp at ho
  | getstatic j =>
    simp only [am_hea] at ho
    split at ho
    · rename_i i _
      split at ho
      · rename_i a ha
        obtain ⟨t, h1, h2⟩ := am_gs_spec (xs := xs) hx ha
        injection ho with ho
        subst ho
        exact am_out1 (T' := t :: T) (fun ih => by simp only [cm_step, hat, h1]) (am_later_refl _ _ _ _) (am_push hf (fun q _ _ => h2 q))
      · simp at ho
    · simp at ho
  | _ => simp [am_hea] at ho
end
