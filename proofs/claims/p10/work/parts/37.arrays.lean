noncomputable section
/-! LAYER 2, arrays read and written. -/
def am_tyB (ty want : FieldType) : Bool := match want, ty with
  | .int, .int => true
  | .byte, .byte => true
  | _, _ => false
theorem am_tyB_spec {ty want : FieldType} (h : am_tyB ty want = true) : ty = want := by
  unfold am_tyB at h
  split at h
  · rfl
  · rfl
  · simp at h
/-- least and most of an old array's values -/
def am_tmR : List Term → Int × Int
  | [] => (2147483647, -2147483648)
  | .int v :: l => (match am_tmR l with
    | (a, b) => (am_min v.toInt a, am_max v.toInt b))
  | _ :: _ => (2147483647, -2147483648)
theorem am_tmR_spec : ∀ (l : List Term) (j : Nat) (v : Int32), (∀ t ∈ l, cm_ty t = 1) → l[j]? = some (.int v) → (am_tmR l).1 ≤ v.toInt ∧ v.toInt ≤ (am_tmR l).2
  | [], j, v, _, h => by simp at h
  | t :: l, j, v, ha, h => by
    have h1 := ha t (List.mem_cons_self ..)
    cases t with
    | int w =>
      simp only [am_tmR]
      have m1 := am_min_le w.toInt (am_tmR l).1
      have m2 := am_le_max w.toInt (am_tmR l).2
      cases j with
      | zero =>
        simp only [List.getElem?_cons_zero] at h
        injection h with h
        injection h with h
        rw [← h]
        exact ⟨m1.1, m2.1⟩
      | succ j =>
        have := am_tmR_spec l j v (fun t ht => ha t (List.mem_cons_of_mem _ ht)) (by simpa using h)
        omega
    | _ => simp [cm_ty] at h1
def am_ints (l : List Term) : Bool := match l with
  | [] => true
  | .int _ :: l => am_ints l
  | _ :: _ => false
theorem am_ints_spec : ∀ (l : List Term), am_ints l = true → ∀ (j : Nat), j < l.length → ∃ v : Int32, l[j]? = some (.int v)
  | [], _, j, hj => by simp at hj
  | t :: l, h, j, hj => by
    cases t with
    | int w =>
      simp only [am_ints] at h
      cases j with
      | zero => exact ⟨w, by simp⟩
      | succ j =>
        obtain ⟨v, hv⟩ := am_ints_spec l h j (by simpa using hj)
        exact ⟨v, by simpa using hv⟩
    | _ => simp [am_ints] at h
theorem am_ints_ty : ∀ (l : List Term), am_ints l = true → ∀ t ∈ l, cm_ty t = 1
  | [], _, t, ht => by simp at ht
  | u :: l, h, t, ht => by
    cases u with
    | int w =>
      simp only [am_ints] at h
      rcases List.mem_cons.mp ht with ht | ht
      · rw [ht]; rfl
      · exact am_ints_ty l h t ht
    | _ => simp [am_ints] at h
theorem am_oA_old (xs : List Int32) {i : Nat} (hi : i ≠ 0) : cm_nth (cm_oA xs) i = cm_nth (cm_oA []) i := by
  cases i with
  | zero => exact absurd rfl hi
  | succ i => rfl
/-- the script's length -/
def am_slen (s : am_S) : am_L × am_S := am_rd s 1000001 (0, []) (0, 3072)
def am_oldL (s : am_S) (want : FieldType) (i : am_L) (c : Nat) : Option (am_L × am_S) := match cm_nth (cm_oA []) c with
  | some (some (ty, l)) => (match am_tyB ty want && (am_ints l && am_wi s i (Int.ofNat l.length, [])) with
    | true => (match i with
      | (k, []) => (match cm_nth l k.toNat with
        | some (.int v) => some ((v.toInt, []), s)
        | _ => none)
      | _ => some (am_newv s (am_tmR l)))
    | false => none)
  | _ => none
/-- an element of an array -/
def am_ald (K : List am_K) (s : am_S) (want : FieldType) (i : am_L) (t : am_A) : Option (am_L × am_S) := match t with
  | (4, (c, _)) => (match am_nthO K c.toNat with
    | some (.inl (ty, n, rs)) => (match am_tyB ty want && am_wi s i (Int.ofNat n, []) with
      | true => some (am_rd s c.toNat i (am_rgI s.2.1 rs n i))
      | false => none)
    | _ => none)
  | (5, (c, _)) => (match c.toNat with
    | 0 => (match am_slen s with
      | (n, s1) => match am_tyB .int want && am_wi s1 i n with
        | true => some (am_rd s1 1000000 i am_full)
        | false => none)
    | c + 1 => am_oldL s want i (c + 1))
  | _ => none
theorem am_Val_trans {xs : List Int32} {K : List am_K} {s : am_S} {lv st : List am_A} {r : am_V} {L : cm_Lv} {T : List Term} {h : cm_H} {z w : Int} {o p : am_L × am_S}
    (h1 : am_Val xs K s lv st r L T h z o) (h2 : ∀ r', am_later [] s o.2 r r' h h → am_fr xs K o.2 lv st r' L T h → am_All o.2.1 r' (fun q => z = am_ev q o.1) → am_Val xs K o.2 lv st r' L T h w p) : am_Val xs K s lv st r L T h w p := by
  obtain ⟨r1, a1, a2, a3⟩ := h1
  obtain ⟨r2, b1, b2, b3⟩ := h2 r1 a1 a2 a3
  exact ⟨r2, am_later_trans a1 b1, b2, b3⟩
theorem am_slen_spec {xs : List Int32} {K : List am_K} {s : am_S} {lv st : List am_A} {r : am_V} {L : cm_Lv} {T : List Term} {h : cm_H} (hxs : xs.length ≤ 3072) (hf : am_fr xs K s lv st r L T h) : am_Val xs K s lv st r L T h (xs.length : Int) (am_slen s) := by
  have e : (Int32.ofNat xs.length).toInt = (xs.length : Int) := by
    rw [Int32.toInt_ofNat']
    exact am_bm (by omega) (by omega)
  have := am_rd_spec (c := 1000001) (j := 0) (i := (0, [])) (g := (0, 3072)) (x := Int32.ofNat xs.length) hf (by omega) (fun q _ _ => by simp [am_ev, am_ts]) rfl (by rw [e]; show (0 : Int) ≤ _; omega) (by rw [e]; show _ ≤ (3072 : Int); omega)
  rw [e] at this
  exact this
/-- an array of the heap -/
theorem am_arr_of {K : List am_K} {h : cm_H} (hh : am_heap K h) {c : Nat} {ty : FieldType} {n : Nat} {rs : List (Int × Int)} (hk : am_nthO K c = some (.inl (ty, n, rs))) :
    ∃ l, cm_nth h c = some (.inl (ty, l)) ∧ l.length = n ∧ (∀ i : Nat, i < n → ∃ u, l[i]? = some u ∧ am_isIn u (am_rgAt rs i)) ∧ h[c]? = some (.inl (ty, l)) ∧ K[c]? = some (.inl (ty, n, rs)) := by
  rw [am_nthO_eq] at hk
  obtain ⟨l, h1, h2, h3⟩ := am_heap_arr hh hk
  exact ⟨l, by rw [am_cnth_eq]; exact h1, h2, h3, h1, hk⟩
theorem am_aload_cell {pg : cm_G} {h : cm_H} {want : FieldType} {ix v : Int32} {c : Nat} {l : List Term} (hc : cm_nth h c = some (.inl (want, l))) (h0 : 0 ≤ ix.toInt) (hv : l[ix.toInt.toNat]? = some (.int v)) (st : List Term) (k : Int32 → List Term → Option cm_R) :
    cm_aload pg (.int ix :: .index c :: st) h want k = k v st := by
  simp only [cm_aload, cm_arr, hc, if_true, h0, am_cnth_eq, hv]
theorem am_aload_old {pg : cm_G} {h : cm_H} {want : FieldType} {ix v : Int32} {c : Nat} {z : String} {l : List Term} (hc : cm_nth pg.2.2.2.1 c = some (some (want, l))) (h0 : 0 ≤ ix.toInt) (hv : l[ix.toInt.toNat]? = some (.int v)) (st : List Term) (k : Int32 → List Term → Option cm_R) :
    cm_aload pg (.int ix :: .string z c :: st) h want k = k v st := by
  simp only [cm_aload, cm_arr, hc, if_true, h0, am_cnth_eq, hv]
theorem am_ald_spec {x : Term} {xs : List Int32} {K : List am_K} {s : am_S} {lv st : List am_A} {r : am_V} {L : cm_Lv} {T : List Term} {h : cm_H} (hxs : xs.length ≤ 3072) (hKl : K.length ≤ 1000000) (hf : am_fr xs K s lv st r L T h) {want : FieldType} {i : am_L} {t : am_A} {tm : Term} {ix : Int32} {o : am_L × am_S}
    (hi : am_All s.1 r (fun q => ix.toInt = am_ev q i)) (ht : am_All s.1 r (fun q => am_sat q t (some tm))) (ho : am_ald K s want i t = some o) :
    ∃ v : Int32, (∀ (st : List Term) (k : Int32 → List Term → Option cm_R), cm_aload (cm_pg x xs) (.int ix :: tm :: st) h want k = k v st) ∧ am_Val xs K s lv st r L T h v.toInt o := by
  have hi0 : ix.toInt = am_ev r i := am_All_here hf.1 hi
  have h0 := (am_All_here hf.1 hf.2.2.1).1
  unfold am_ald at ho
  split at ho
  · rename_i c _
    have e1 : tm = .index c.toNat := by have := am_All_here hf.1 ht; simpa [am_sat] using this
    subst e1
    split at ho
    · rename_i ty n rs hk
      split at ho
      · rename_i hb
        simp only [Bool.and_eq_true] at hb
        have hty := am_tyB_spec hb.1
        subst hty
        have hw := am_wi_spec hf.1 hf.2.2.1 hb.2
        have en : am_ev r (Int.ofNat n, []) = (n : Int) := by simp [am_ev, am_ts]
        rw [← hi0, en] at hw
        obtain ⟨l, a1, a2, a3, a4, a5⟩ := am_arr_of hf.2.2.2.1 hk
        obtain ⟨u, b1, v, b2, b3, b4⟩ := a3 ix.toInt.toNat (by omega)
        subst b2
        injection ho with ho
        subst ho
        have hcl : c.toNat < K.length := (List.getElem?_eq_some_iff.mp a5).1
        have hrg := am_rgI_spec (rs := rs) (n := n) h0 (i := i) (j := ix.toInt.toNat) (by omega) (by omega)
        refine ⟨v, fun st k => am_aload_cell a1 hw.1 b1 st k, am_rd_spec (j := ix.toInt.toNat) hf (by omega) (am_ixN hf.1 hi hw.1) ?_ (by omega) (by omega)⟩
        rw [am_slot_new (by omega), a4]
        exact b1
      · simp at ho
    · simp at ho
  · rename_i c _
    have e1 : tm = .string "" c.toNat := by have := am_All_here hf.1 ht; simpa [am_sat] using this
    subst e1
    split at ho
    · rename_i hc0
      simp only [] at ho
      split at ho
      · rename_i hb
        simp only [Bool.and_eq_true] at hb
        have hty := am_tyB_spec hb.1
        subst hty
        injection ho with ho
        obtain ⟨r1, g1, g2, g3⟩ := am_slen_spec hxs hf
        have hw := am_wi_spec g2.1 g2.2.2.1 hb.2
        have hi1 : am_All (am_slen s).2.1 r1 (fun q => ix.toInt = am_ev q i) := am_All_more g1.1 g1.2.1 hi
        have hi2 : ix.toInt = am_ev r1 i := am_All_here g2.1 hi1
        have hn2 : (xs.length : Int) = am_ev r1 (am_slen s).1 := am_All_here g2.1 g3
        rw [← hi2, ← hn2] at hw
        have hlt : ix.toInt.toNat < xs.length := by omega
        have hget : xs[ix.toInt.toNat]? = some xs[ix.toInt.toNat] := List.getElem?_eq_getElem hlt
        refine ⟨xs[ix.toInt.toNat], fun st k => ?_, ?_⟩
        · rw [hc0]
          exact am_aload_old (c := 0) (l := xs.map .int) rfl hw.1 (by rw [List.getElem?_map, hget]; rfl) st k
        · rw [← ho]
          obtain ⟨r2, k1, k2, k3⟩ := am_rd_spec (j := ix.toInt.toNat) (g := am_full) (x := xs[ix.toInt.toNat]) (c := 1000000) (i := i) g2 (by omega) (am_ixN g2.1 hi1 hw.1) (by show (xs[ix.toInt.toNat]?).map Term.int = _; rw [hget]; rfl) (am_i1 _) (am_i2 _)
          exact ⟨r2, am_later_trans g1 k1, k2, k3⟩
      · simp at ho
    · rename_i c0 hc0
      unfold am_oldL at ho
      split at ho
      · rename_i ty l hl
        split at ho
        · rename_i hb
          simp only [Bool.and_eq_true] at hb
          have hty := am_tyB_spec hb.1
          subst hty
          have hw := am_wi_spec hf.1 hf.2.2.1 hb.2.2
          have en : am_ev r (Int.ofNat l.length, []) = (l.length : Int) := by simp [am_ev, am_ts]
          rw [← hi0, en] at hw
          have hlt : ix.toInt.toNat < l.length := by omega
          obtain ⟨v, hv⟩ := am_ints_spec l hb.2.1 ix.toInt.toNat hlt
          have hst : ∀ (st : List Term) (k : Int32 → List Term → Option cm_R), cm_aload (cm_pg x xs) (.int ix :: .string "" c.toNat :: st) h ty k = k v st := fun st k => by
            rw [hc0]
            exact am_aload_old (c := c0 + 1) (l := l) (by show cm_nth (cm_oA xs) (c0 + 1) = _; rw [am_oA_old xs (by omega)]; exact hl) hw.1 hv st k
          refine ⟨v, hst, ?_⟩
          split at ho
          · rename_i k
            have hk : ix.toInt = k := by rw [hi0]; simp [am_ev, am_ts]
            rw [am_cnth_eq, ← hk, hv] at ho
            simp only [Option.some.injEq] at ho
            rw [← ho]
            exact am_Val_same hf (fun q _ _ => by simp [am_ev, am_ts])
          · injection ho with ho
            rw [← ho]
            have := am_tmR_spec l _ v (am_ints_ty l hb.2.1) hv
            exact am_Val_new hf this.1 this.2 (am_i1 _) (am_i2 _)
        · simp at ho
      · simp at ho
  · simp at ho
def am_memP (c j : Nat) (l : List (Nat × Nat)) : Bool := List.rec (motive := fun _ => Bool) false (fun p _ ih => Bool.rec (motive := fun _ => Bool) ih (Bool.rec (motive := fun _ => Bool) ih true (Nat.beq p.2 j)) (Nat.beq p.1 c)) l
theorem am_memP_n (c j : Nat) : am_memP c j [] = false := rfl
theorem am_memP_c (c j d k : Nat) (l : List (Nat × Nat)) : am_memP c j ((d, k) :: l) = (match Nat.beq d c with
    | true => (match Nat.beq k j with
      | true => true
      | false => am_memP c j l)
    | false => am_memP c j l) := by
  show Bool.rec (motive := fun _ => Bool) (am_memP c j l) (Bool.rec (motive := fun _ => Bool) (am_memP c j l) true (Nat.beq k j)) (Nat.beq d c) = _
  cases Nat.beq d c with
  | false => rfl
  | true =>
    show Bool.rec (motive := fun _ => Bool) (am_memP c j l) true (Nat.beq k j) = _
    cases Nat.beq k j <;> rfl
theorem am_memP_spec {c j : Nat} : ∀ {l : List (Nat × Nat)}, am_memP c j l = true → (c, j) ∈ l
  | [], h => by simp [am_memP_n, am_memP_c] at h
  | (d, k) :: l, h => by
    simp only [am_memP_n, am_memP_c] at h
    split at h
    · rename_i h1
      have h1 := Nat.eq_of_beq_eq_true h1
      split at h
      · rename_i h2
        have h2 := Nat.eq_of_beq_eq_true h2
        rw [← h1, ← h2]; exact List.mem_cons_self ..
      · exact List.mem_cons_of_mem _ (am_memP_spec h)
    · exact List.mem_cons_of_mem _ (am_memP_spec h)
/-- a value that a slot may have -/
def am_vok (s : am_S) (v : am_L) (g : Int × Int) : Bool := match am_prove s.2.1 s.2.2.1 (am_add 1 (-g.1, []) v) with
  | true => am_prove s.2.1 s.2.2.1 (am_add (-1) (g.2, []) v)
  | false => false
theorem am_vok_spec {xs : List Int32} {s : am_S} {r : am_V} {h : cm_H} (hr : am_Rg r) (hs : am_holds xs s r h) {v : am_L} {g : Int × Int} (hv : am_vok s v g = true) : g.1 ≤ am_ev r v ∧ am_ev r v ≤ g.2 := by
  obtain ⟨h1, h2, _⟩ := am_All_here hr hs
  unfold am_vok at hv
  split at hv
  · rename_i hp
    have hp := am_prove_spec h1 h2 hp
    have hq := am_prove_spec h1 h2 hv
    rw [am_add_ev] at hp hq
    have e1 : am_ev r (-g.1, []) = -g.1 := by simp [am_ev, am_ts]
    have e2 : am_ev r (g.2, []) = g.2 := by simp [am_ev, am_ts]
    omega
  · simp at hv
/-- a range that every slot of an index takes -/
def am_rgM (e : am_E) (rs : List (Int × Int)) (n : Nat) (i : am_L) : Int × Int := match rs with
  | [] => (-2147483648, 2147483647)
  | [g] => g
  | g :: g2 :: l => match i with
    | (k, []) => am_rgAt (g :: g2 :: l) k.toNat
    | _ => am_meet (g :: g2 :: l) (Int.ofNat n) (am_idx e n i) (-2147483648, 2147483647)
theorem am_rgM_spec {r : am_V} {e : am_E} (h : am_In r e) {rs : List (Int × Int)} {n : Nat} {i : am_L} {j : Nat} (hj : am_ev r i = (j : Int)) (hn : j < n) : (am_rgAt rs j).1 ≤ (am_rgM e rs n i).1 ∧ (am_rgM e rs n i).2 ≤ (am_rgAt rs j).2 := by
  unfold am_rgM
  split
  · exact ⟨Int.le_refl _, Int.le_refl _⟩
  · rw [am_rgAt1]; exact ⟨Int.le_refl _, Int.le_refl _⟩
  · rename_i g g2 l
    split
    · rename_i k
      have : k.toNat = j := by have : am_ev r (k, []) = k := by simp [am_ev, am_ts]
                               omega
      rw [this]; exact ⟨Int.le_refl _, Int.le_refl _⟩
    · have hm := am_idx_mem (n := n) h (i := i) (by omega) (by omega)
      rw [hj] at hm
      have := (am_meet_le (g :: g2 :: l) (Int.ofNat n) (am_idx e n i) (-2147483648, 2147483647)).2.2 _ hm (by omega) (by have : Int.ofNat n = (n : Int) := rfl; omega)
      simpa using this
/-- an element of an array written -/
def am_asto (K : List am_K) (ms : List (Nat × Nat)) (s : am_S) (want : FieldType) (v i : am_L) (t : am_A) : Option am_S := match t with
  | (4, (c, _)) => (match am_nthO K c.toNat with
    | some (.inl (ty, n, rs)) => (match am_tyB ty want && (am_wi s i (Int.ofNat n, []) && (am_memP c.toNat 0 ms && am_vok s v (am_rgM s.2.1 rs n i))) with
      | true => some (am_wr s c.toNat i v)
      | false => none)
    | _ => none)
  | _ => none
theorem am_asto_spec {xs : List Int32} {K : List am_K} {ms : List (Nat × Nat)} {s : am_S} {lv st : List am_A} {r : am_V} {L : cm_Lv} {T : List Term} {h : cm_H} (hKl : K.length ≤ 1000000) (hf : am_fr xs K s lv st r L T h) {want : FieldType} {v i : am_L} {t : am_A} {tm : Term} {ix w0 w : Int32} {o : am_S} {f : Int32 → Int32}
    (hi : am_All s.1 r (fun q => ix.toInt = am_ev q i)) (hw0 : f w0 = w) (hv : am_All s.1 r (fun q => w.toInt = am_ev q v)) (ht : am_All s.1 r (fun q => am_sat q t (some tm))) (ho : am_asto K ms s want v i t = some o) :
    ∃ h' : cm_H, (∀ (st : List Term) (k : List Term → cm_H → Option cm_R), cm_astore (.int w0 :: .int ix :: tm :: st) h want f k = k st h') ∧ am_later ms s o r r h h' ∧ am_fr xs K o lv st r L T h' := by
  have hi0 : ix.toInt = am_ev r i := am_All_here hf.1 hi
  have hv0 : w.toInt = am_ev r v := am_All_here hf.1 hv
  have h0 := (am_All_here hf.1 hf.2.2.1).1
  unfold am_asto at ho
  split at ho
  · rename_i c _
    have e1 : tm = .index c.toNat := by have := am_All_here hf.1 ht; simpa [am_sat] using this
    subst e1
    split at ho
    · rename_i ty n rs hk
      split at ho
      · rename_i hb
        simp only [Bool.and_eq_true] at hb
        have hty := am_tyB_spec hb.1
        subst hty
        have hw := am_wi_spec hf.1 hf.2.2.1 hb.2.1
        have en : am_ev r (Int.ofNat n, []) = (n : Int) := by simp [am_ev, am_ts]
        rw [← hi0, en] at hw
        have hm := am_memP_spec hb.2.2.1
        have hvk := am_vok_spec hf.1 hf.2.2.1 hb.2.2.2
        rw [← hv0] at hvk
        obtain ⟨l, a1, a2, a3, a4, a5⟩ := am_arr_of hf.2.2.2.1 hk
        injection ho with ho
        subst ho
        have hcl : c.toNat < K.length := (List.getElem?_eq_some_iff.mp a5).1
        have hlen : h.length = K.length := hf.2.2.2.1.1
        have hch : c.toNat < h.length := by omega
        have hrg := am_rgM_spec (rs := rs) (n := n) h0 (i := i) (j := ix.toInt.toNat) (by omega) (by omega)
        have hlt : ix.toInt.toNat < l.length := by omega
        have hcell : am_cell (.inl (ty, n, rs)) (.inl (ty, l.set ix.toInt.toNat (.int w))) := am_cell_arr_set a2 a3 ⟨w, rfl, by omega, by omega⟩
        refine ⟨h.set c.toNat (.inl (ty, l.set ix.toInt.toNat (.int w))), fun st k => ?_, ?_, ?_⟩
        · simp only [cm_astore, a1]
          rw [if_pos ⟨trivial, hw.1, hlt⟩, hw0, cm_set_eq, cm_set_eq]
        · refine ⟨?_, am_Ag_refl _ _, am_out_set h _ _ hm⟩
          obtain ⟨n1, e1, f1, o1⟩ := s
          exact Nat.le_refl _
        · refine ⟨hf.1, am_wr_wf hf.2.1, ?_, am_heap_set hf.2.2.2.1 a5 hcell, ?_, ?_⟩
          · refine am_wr_spec (j := ix.toInt.toNat) hf.2.2.1 (by omega) (by omega) (am_out_set h _ _ (by simp)) (fun k hk => ?_) ?_ (am_ixN hf.1 hi hw.1) hv
            · rw [List.getElem?_set_self hch, a4]
              show (l.set ix.toInt.toNat (.int w))[k]? = l[k]?
              rw [List.getElem?_set_ne (by omega)]
            · rw [am_slot_new (by omega), List.getElem?_set_self hch]
              show (l.set ix.toInt.toNat (.int w))[ix.toInt.toNat]? = _
              rw [List.getElem?_set_self hlt]
          · have := hf.2.2.2.2.1
            obtain ⟨n1, e1, f1, o1⟩ := s
            exact this
          · have := hf.2.2.2.2.2
            obtain ⟨n1, e1, f1, o1⟩ := s
            exact this
      · simp at ho
    · simp at ho
  · simp at ho
end
