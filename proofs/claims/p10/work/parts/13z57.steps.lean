noncomputable section
abbrev fl_l (e : Int) : Term := .long (Int64.ofInt e)
/-! L3, RUNS THAT END: vt P N .. Q says: if a run of at most N steps from here ends, the cells are flat then and Q holds of the answer and them. -/
def vt (P : cm_G) (N : Nat) (mr : cm_M) (pc : Nat) (lv : cm_Lv) (st : List Term) (H : fl_H) (Q : Option Int → fl_H → Prop) : Prop :=
  ∀ n, n ≤ N → ∀ (d : Nat) (v : Option Term) (h' : cm_H) (c s : Nat), cm_run P n d mr pc lv st (fl_mk H) = some (v, h', c, s) → ∃ (r : Option Int) (H' : fl_H), v = r.map fl_t ∧ h' = fl_mk H' ∧ Q r H'
/-- a method from its entry -/
def ck (P : cm_G) (N : Nat) (mr : cm_M) (args : List Term) (H : fl_H) (Q : Option Int → fl_H → Prop) : Prop := vt P N mr 0 (cm_ent mr.2.1 args) [] H Q
theorem vt_mono {P : cm_G} {N M : Nat} (hm : M ≤ N) {mr : cm_M} {pc : Nat} {lv : cm_Lv} {st : List Term} {H : fl_H} {Q Q' : Option Int → fl_H → Prop} (hq : ∀ r H', Q r H' → Q' r H') (h : vt P N mr pc lv st H Q) : vt P M mr pc lv st H Q' := by
  intro n hn d v h' c s hr
  obtain ⟨r, H', h1, h2, h3⟩ := h n (Nat.le_trans hn hm) d v h' c s hr
  exact ⟨r, H', h1, h2, hq r H' h3⟩
theorem ck_mono {P : cm_G} {N : Nat} {mr : cm_M} {args : List Term} {H : fl_H} {Q Q' : Option Int → fl_H → Prop} (h : ck P N mr args H Q) (hq : ∀ r H', Q r H' → Q' r H') : ck P N mr args H Q' := vt_mono (Nat.le_refl _) hq h
theorem vt_run1 (P : cm_G) (n d : Nat) (mr : cm_M) (pc : Nat) (lv : cm_Lv) (st : List Term) (h : cm_H) : cm_run P (n + 1) d mr pc lv st h = cm_step P (cm_run P n) d mr pc lv st h := rfl
/-- a step that may fail, else goes on: at a lower N -/
theorem vt_stS {P : cm_G} {N : Nat} {mr mr' : cm_M} {pc pc' : Nat} {lv lv' : cm_Lv} {st st' : List Term} {H H' : fl_H} {Q : Option Int → fl_H → Prop} {A : Prop}
    (hs : ∀ (ih : Nat → cm_M → Nat → cm_Lv → List Term → cm_H → Option cm_R) (d : Nat) (R : cm_R), cm_step P ih d mr pc lv st (fl_mk H) = some R → A ∧ ih d mr' pc' lv' st' (fl_mk H') = some R)
    (k : A → ∀ m, m < N → vt P m mr' pc' lv' st' H' Q) : vt P N mr pc lv st H Q := by
  intro n hn d v h' c s hr
  cases n with
  | zero => exact absurd hr (by show ¬ (none = some _); simp)
  | succ n =>
    rw [vt_run1] at hr
    obtain ⟨a, h1⟩ := hs _ _ _ hr
    exact k a n (by omega) n (Nat.le_refl _) d v h' c s h1
theorem vt_st {P : cm_G} {N : Nat} {mr mr' : cm_M} {pc pc' : Nat} {lv lv' : cm_Lv} {st st' : List Term} {H H' : fl_H} {Q : Option Int → fl_H → Prop} {A : Prop}
    (hs : ∀ (ih : Nat → cm_M → Nat → cm_Lv → List Term → cm_H → Option cm_R) (d : Nat) (R : cm_R), cm_step P ih d mr pc lv st (fl_mk H) = some R → A ∧ ih d mr' pc' lv' st' (fl_mk H') = some R)
    (k : A → vt P N mr' pc' lv' st' H' Q) : vt P N mr pc lv st H Q :=
  vt_stS hs (fun a m hm => vt_mono (Nat.le_of_lt hm) (fun _ _ q => q) (k a))
/-- a step that goes on -/
theorem vt_go {P : cm_G} {N : Nat} {mr mr' : cm_M} {pc pc' : Nat} {lv lv' : cm_Lv} {st st' : List Term} {H H' : fl_H} {Q : Option Int → fl_H → Prop}
    (hs : ∀ (ih : Nat → cm_M → Nat → cm_Lv → List Term → cm_H → Option cm_R) (d : Nat), cm_step P ih d mr pc lv st (fl_mk H) = ih d mr' pc' lv' st' (fl_mk H'))
    (k : vt P N mr' pc' lv' st' H' Q) : vt P N mr pc lv st H Q :=
  vt_st (A := True) (fun ih d R h => ⟨trivial, by rw [← hs ih d]; exact h⟩) (fun _ => k)
theorem vt_goS {P : cm_G} {N : Nat} {mr mr' : cm_M} {pc pc' : Nat} {lv lv' : cm_Lv} {st st' : List Term} {H H' : fl_H} {Q : Option Int → fl_H → Prop}
    (hs : ∀ (ih : Nat → cm_M → Nat → cm_Lv → List Term → cm_H → Option cm_R) (d : Nat), cm_step P ih d mr pc lv st (fl_mk H) = ih d mr' pc' lv' st' (fl_mk H'))
    (k : ∀ m, m < N → vt P m mr' pc' lv' st' H' Q) : vt P N mr pc lv st H Q :=
  vt_stS (A := True) (fun ih d R h => ⟨trivial, by rw [← hs ih d]; exact h⟩) (fun _ => k)
/-- a step that goes one of two ways -/
theorem vt_if {P : cm_G} {N : Nat} {mr : cm_M} {pc p1 p2 : Nat} {lv l1 l2 : cm_Lv} {st s1 s2 : List Term} {H : fl_H} {Q : Option Int → fl_H → Prop} {A : Prop} [Decidable A]
    (hs : ∀ (ih : Nat → cm_M → Nat → cm_Lv → List Term → cm_H → Option cm_R) (d : Nat), cm_step P ih d mr pc lv st (fl_mk H) = if A then ih d mr p1 l1 s1 (fl_mk H) else ih d mr p2 l2 s2 (fl_mk H))
    (k1 : A → vt P N mr p1 l1 s1 H Q) (k2 : ¬ A → vt P N mr p2 l2 s2 H Q) : vt P N mr pc lv st H Q := by
  by_cases a : A
  · exact vt_go (fun ih d => by rw [hs ih d, if_pos a]) (k1 a)
  · exact vt_go (fun ih d => by rw [hs ih d, if_neg a]) (k2 a)
/-- a step that fails -/
theorem vt_dead {P : cm_G} {N : Nat} {mr : cm_M} {pc : Nat} {lv : cm_Lv} {st : List Term} {H : fl_H} {Q : Option Int → fl_H → Prop}
    (hs : ∀ (ih : Nat → cm_M → Nat → cm_Lv → List Term → cm_H → Option cm_R) (d : Nat), cm_step P ih d mr pc lv st (fl_mk H) = none) : vt P N mr pc lv st H Q := by
  intro n hn d v h' c s hr
  cases n with
  | zero => exact absurd hr (by show ¬ (none = some _); simp)
  | succ n => rw [vt_run1, hs] at hr; simp at hr
/-- a name for cells -/
theorem vt_nm {P : cm_G} {N : Nat} {mr : cm_M} {pc : Nat} {lv : cm_Lv} {st : List Term} {H : fl_H} {Q : Option Int → fl_H → Prop} (k : ∀ H1, H1 = H → vt P N mr pc lv st H1 Q) : vt P N mr pc lv st H Q := k H rfl
-- ---- an instruction each
section
variable {P : cm_G} {N : Nat} {mr : cm_M} {pc np : Nat} {rs : List Nat} {lv : cm_Lv} {st : List Term} {H : fl_H} {Q : Option Int → fl_H → Prop} {a b e : Int}
theorem vt_iconst {v : Int} (hat : cm_at mr.1 pc = some (.iconst v, np, rs)) (k : vt P N mr np lv (fl_t v :: st) H Q) : vt P N mr pc lv st H Q :=
  vt_go (fun ih d => by simp only [cm_step, hat]) k
theorem vt_bipush {v : Int} (hat : cm_at mr.1 pc = some (.bipush v, np, rs)) (hv : (Int8.ofInt v).toInt32 = Int32.ofInt v) (k : vt P N mr np lv (fl_t v :: st) H Q) : vt P N mr pc lv st H Q :=
  vt_go (fun ih d => by simp only [cm_step, hat, hv]) k
theorem vt_sipush {v : Int} (hat : cm_at mr.1 pc = some (.sipush v, np, rs)) (hv : (Int16.ofInt v).toInt32 = Int32.ofInt v) (k : vt P N mr np lv (fl_t v :: st) H Q) : vt P N mr pc lv st H Q :=
  vt_go (fun ih d => by simp only [cm_step, hat, hv]) k
theorem vt_ldc {j : Nat} {n : Nat} {rs' : List Nat} {v : Int} (hat : cm_at mr.1 pc = some (.ldc j, np, 0 :: n :: rs')) (hv : Int32.ofNat n = Int32.ofInt v) (k : vt P N mr np lv (fl_t v :: st) H Q) : vt P N mr pc lv st H Q :=
  vt_go (fun ih d => by simp only [cm_step, hat, hv]) k
theorem vt_ldcS {j : Nat} {n : Nat} {rs' : List Nat} (hat : cm_at mr.1 pc = some (.ldc j, np, 1 :: n :: rs')) (k : vt P N mr np lv (.string "" n :: st) H Q) : vt P N mr pc lv st H Q :=
  vt_go (fun ih d => by simp only [cm_step, hat]) k
/-- an instruction that only moves what is known: by rfl -/
theorem vt_mv {pc' : Nat} {lv' : cm_Lv} {st' : List Term} (hs : ∀ (ih : Nat → cm_M → Nat → cm_Lv → List Term → cm_H → Option cm_R) (d : Nat), cm_step P ih d mr pc lv st (fl_mk H) = ih d mr pc' lv' st' (fl_mk H)) (k : vt P N mr pc' lv' st' H Q) : vt P N mr pc lv st H Q := vt_go hs k
theorem vt_ld1 {i : Nat} (hs : ∀ (ih : Nat → cm_M → Nat → cm_Lv → List Term → cm_H → Option cm_R) (d : Nat), cm_step P ih d mr pc lv st (fl_mk H) = cm_ld lv i 1 (fun t => ih d mr np lv (t :: st) (fl_mk H))) (hl : cm_nth lv i = some (some (fl_t e))) (k : vt P N mr np lv (fl_t e :: st) H Q) : vt P N mr pc lv st H Q :=
  vt_go (fun ih d => by rw [hs]; simp only [cm_ld, hl, cm_ty, if_true]) k
theorem vt_iload {i : Nat} (hat : cm_at mr.1 pc = some (.iload i, np, rs)) (hl : cm_nth lv i = some (some (fl_t e))) (k : vt P N mr np lv (fl_t e :: st) H Q) : vt P N mr pc lv st H Q :=
  vt_ld1 (fun ih d => by simp only [cm_step, hat]) hl k
theorem vt_iload_n {i : Fin 4} (hat : cm_at mr.1 pc = some (.iload_n i, np, rs)) (hl : cm_nth lv i.val = some (some (fl_t e))) (k : vt P N mr np lv (fl_t e :: st) H Q) : vt P N mr pc lv st H Q :=
  vt_ld1 (fun ih d => by simp only [cm_step, hat]) hl k
theorem vt_ldr {i : Nat} {u : Term} (hs : ∀ (ih : Nat → cm_M → Nat → cm_Lv → List Term → cm_H → Option cm_R) (d : Nat), cm_step P ih d mr pc lv st (fl_mk H) = cm_ld lv i 3 (fun t => ih d mr np lv (t :: st) (fl_mk H))) (hl : cm_nth lv i = some (some u)) (hu : cm_ty u = 3) (k : vt P N mr np lv (u :: st) H Q) : vt P N mr pc lv st H Q :=
  vt_go (fun ih d => by rw [hs]; simp only [cm_ld, hl, hu, if_true]) k
theorem vt_aload {i : Nat} {u : Term} (hat : cm_at mr.1 pc = some (.aload i, np, rs)) (hl : cm_nth lv i = some (some u)) (hu : cm_ty u = 3) (k : vt P N mr np lv (u :: st) H Q) : vt P N mr pc lv st H Q :=
  vt_ldr (fun ih d => by simp only [cm_step, hat]) hl hu k
theorem vt_aload_n {i : Fin 4} {u : Term} (hat : cm_at mr.1 pc = some (.aload_n i, np, rs)) (hl : cm_nth lv i.val = some (some u)) (hu : cm_ty u = 3) (k : vt P N mr np lv (u :: st) H Q) : vt P N mr pc lv st H Q :=
  vt_ldr (fun ih d => by simp only [cm_step, hat]) hl hu k
theorem vt_ldrX {i : Nat} {u : Term} (hs : ∀ (ih : Nat → cm_M → Nat → cm_Lv → List Term → cm_H → Option cm_R) (d : Nat), cm_step P ih d mr pc lv st (fl_mk H) = cm_ld lv i 3 (fun t => ih d mr np lv (t :: st) (fl_mk H))) (hl : cm_nth lv i = some (some u)) (k : vt P N mr np lv (u :: st) H Q) : vt P N mr pc lv st H Q :=
  vt_st (A := True) (fun ih d R h => by
    rw [hs] at h
    simp only [cm_ld, hl] at h
    split at h
    · exact ⟨trivial, h⟩
    · simp at h) (fun _ => k)
theorem vt_aloadX {i : Nat} {u : Term} (hat : cm_at mr.1 pc = some (.aload i, np, rs)) (hl : cm_nth lv i = some (some u)) (k : vt P N mr np lv (u :: st) H Q) : vt P N mr pc lv st H Q :=
  vt_ldrX (fun ih d => by simp only [cm_step, hat]) hl k
theorem vt_aload_nX {i : Fin 4} {u : Term} (hat : cm_at mr.1 pc = some (.aload_n i, np, rs)) (hl : cm_nth lv i.val = some (some u)) (k : vt P N mr np lv (u :: st) H Q) : vt P N mr pc lv st H Q :=
  vt_ldrX (fun ih d => by simp only [cm_step, hat]) hl k
theorem vt_sto {i : Nat} {u : Term} {st' : List Term} (hs : ∀ (ih : Nat → cm_M → Nat → cm_Lv → List Term → cm_H → Option cm_R) (d : Nat), cm_step P ih d mr pc lv st (fl_mk H) = cm_sto lv i u (fun lv => ih d mr np lv st' (fl_mk H))) (k : i < lv.length → vt P N mr np (lv.set i (some u)) st' H Q) : vt P N mr pc lv st H Q :=
  vt_st (fun ih d R h => by
    rw [hs] at h
    simp only [cm_sto] at h
    split at h
    · rename_i hh
      rw [cm_set_eq] at h
      exact ⟨hh.2, h⟩
    · simp at h) k
theorem vt_istoreA {i : Nat} (hat : cm_at mr.1 pc = some (.istore i, np, rs)) (k : i < lv.length → vt P N mr np (lv.set i (some (fl_t e))) st H Q) : vt P N mr pc lv (fl_t e :: st) H Q :=
  vt_sto (fun ih d => by simp only [cm_step, hat, cm_one]) k
theorem vt_istore_nA {i : Fin 4} (hat : cm_at mr.1 pc = some (.istore_n i, np, rs)) (k : i.val < lv.length → vt P N mr np (lv.set i.val (some (fl_t e))) st H Q) : vt P N mr pc lv (fl_t e :: st) H Q :=
  vt_sto (fun ih d => by simp only [cm_step, hat, cm_one]) k
theorem vt_istore {i : Nat} (hat : cm_at mr.1 pc = some (.istore i, np, rs)) (k : vt P N mr np (lv.set i (some (fl_t e))) st H Q) : vt P N mr pc lv (fl_t e :: st) H Q := vt_istoreA hat (fun _ => k)
theorem vt_istore_n {i : Fin 4} (hat : cm_at mr.1 pc = some (.istore_n i, np, rs)) (k : vt P N mr np (lv.set i.val (some (fl_t e))) st H Q) : vt P N mr pc lv (fl_t e :: st) H Q := vt_istore_nA hat (fun _ => k)
theorem vt_astoreA {i : Nat} {u : Term} (hat : cm_at mr.1 pc = some (.astore i, np, rs)) (hu : cm_ty u = 3) (k : i < lv.length → vt P N mr np (lv.set i (some u)) st H Q) : vt P N mr pc lv (u :: st) H Q :=
  vt_sto (fun ih d => by simp only [cm_step, hat, cm_ref, hu, if_true]) k
theorem vt_astore_nA {i : Fin 4} {u : Term} (hat : cm_at mr.1 pc = some (.astore_n i, np, rs)) (hu : cm_ty u = 3) (k : i.val < lv.length → vt P N mr np (lv.set i.val (some u)) st H Q) : vt P N mr pc lv (u :: st) H Q :=
  vt_sto (fun ih d => by simp only [cm_step, hat, cm_ref, hu, if_true]) k
theorem vt_astore {i : Nat} {u : Term} (hat : cm_at mr.1 pc = some (.astore i, np, rs)) (hu : cm_ty u = 3) (k : vt P N mr np (lv.set i (some u)) st H Q) : vt P N mr pc lv (u :: st) H Q := vt_astoreA hat hu (fun _ => k)
theorem vt_astore_n {i : Fin 4} {u : Term} (hat : cm_at mr.1 pc = some (.astore_n i, np, rs)) (hu : cm_ty u = 3) (k : vt P N mr np (lv.set i.val (some u)) st H Q) : vt P N mr pc lv (u :: st) H Q := vt_astore_nA hat hu (fun _ => k)
theorem vt_iincA {i : Nat} {v : Int} (hat : cm_at mr.1 pc = some (.iinc i v, np, rs)) (hl : cm_nth lv i = some (some (fl_t e))) (k : i < lv.length → vt P N mr np (lv.set i (some (fl_t (e + v)))) st H Q) : vt P N mr pc lv st H Q :=
  vt_sto (fun ih d => by simp only [cm_step, hat, hl, fl_add]) k
theorem vt_iinc {i : Nat} {v : Int} (hat : cm_at mr.1 pc = some (.iinc i v, np, rs)) (hl : cm_nth lv i = some (some (fl_t e))) (k : vt P N mr np (lv.set i (some (fl_t (e + v)))) st H Q) : vt P N mr pc lv st H Q := vt_iincA hat hl (fun _ => k)
theorem fl_lse {l : cm_Lv} {i : Nat} {u : Term} (h : i < l.length) : cm_nth (l.set i (some u)) i = some (some u) := by
  rw [cm_nth_eq, List.getElem?_set_self h]
theorem fl_lsn {l : cm_Lv} {i j : Nat} {u : Option Term} {v : Option Term} (hn : i ≠ j) (h : cm_nth l j = some v) : cm_nth (l.set i u) j = some v := by
  rw [cm_nth_eq] at h ⊢
  rw [List.getElem?_set_ne hn]
  exact h
/-- longs -/
theorem fl_i2lE (x : Int) : (Int32.ofInt x).toInt64 = Int64.ofInt (fl_w x) := by
  apply Int64.toInt.inj
  rw [Int32.toInt_toInt64, fl_w_toInt, Int64.toInt_ofInt]
  have := fl_w_lo x
  have := fl_w_hi x
  have e : ((Int64.size : Nat) : Int) = 18446744073709551616 := rfl
  exact (Int.bmod_eq_of_le (by omega) (by omega)).symm
theorem vt_i2l (hat : cm_at mr.1 pc = some (.i2l, np, rs)) (k : vt P N mr np lv (fl_l (fl_w a) :: st) H Q) : vt P N mr pc lv (fl_t a :: st) H Q :=
  vt_go (fun ih d => by simp only [cm_step, hat, cm_one, fl_i2lE]) k
def fl_lr (x : Int) : Prop := -9223372036854775808 ≤ x ∧ x ≤ 9223372036854775807
theorem fl_lrw (x : Int) : fl_lr (fl_w x) := by
  have := fl_w_lo x
  have := fl_w_hi x
  unfold fl_lr
  omega
theorem fl_lrl {x : Int} (h1 : -9223372036854775808 ≤ x) (h2 : x ≤ 9223372036854775807) : fl_lr x := ⟨h1, h2⟩
theorem fl_l64 {x : Int} (h : fl_lr x) : (Int64.ofInt x).toInt = x := by
  rw [Int64.toInt_ofInt]
  unfold fl_lr at h
  have e : ((Int64.size : Nat) : Int) = 18446744073709551616 := rfl
  exact Int.bmod_eq_of_le (by omega) (by omega)
def fl_lc (a b : Int) : Int := if b < a then 1 else if a = b then 0 else -1
theorem fl_lcE {a b : Int} (ha : fl_lr a) (hb : fl_lr b) : lg_cmp (Int64.ofInt a) (Int64.ofInt b) = Int32.ofInt (fl_lc a b) := by
  have hg : Int64.ofInt a > Int64.ofInt b ↔ b < a := by
    show Int64.ofInt b < Int64.ofInt a ↔ _
    rw [Int64.lt_iff_toInt_lt, fl_l64 ha, fl_l64 hb]
  have he : Int64.ofInt a = Int64.ofInt b ↔ a = b := ⟨fun h => by rw [← fl_l64 ha, h, fl_l64 hb], fun h => by rw [h]⟩
  unfold lg_cmp fl_lc
  simp only [hg, he]
  split
  · rfl
  · split <;> rfl
theorem vt_lcmp (hat : cm_at mr.1 pc = some (.lcmp, np, rs)) (ha : fl_lr a) (hb : fl_lr b) (k : vt P N mr np lv (fl_t (fl_lc a b) :: st) H Q) : vt P N mr pc lv (fl_l b :: fl_l a :: st) H Q :=
  vt_go (fun ih d => by simp only [cm_step, hat, cm_twoL, fl_lcE ha hb]) k
theorem vt_lconst {n : Fin 2} {v : Int} (hat : cm_at mr.1 pc = some (.lconst n, np, rs)) (hv : Int64.ofNat n.val = Int64.ofInt v) (k : vt P N mr np lv (fl_l v :: st) H Q) : vt P N mr pc lv st H Q :=
  vt_go (fun ih d => by simp only [cm_step, hat, hv]) k
theorem vt_ldc2 {j n : Nat} {v : Int} {rs' : List Nat} (hat : cm_at mr.1 pc = some (.ldc2_w j, np, n :: rs')) (hv : Int64.ofNat n = Int64.ofInt v) (k : vt P N mr np lv (fl_l v :: st) H Q) : vt P N mr pc lv st H Q :=
  vt_go (fun ih d => by simp only [cm_step, hat, hv]) k
theorem vt_lload {i : Nat} (hat : cm_at mr.1 pc = some (.lload i, np, rs)) (hl : cm_nth lv i = some (some (fl_l e))) (k : vt P N mr np lv (fl_l e :: st) H Q) : vt P N mr pc lv st H Q :=
  vt_go (fun ih d => by simp only [cm_step, hat, cm_ld, hl, cm_ty, if_true]) k
theorem vt_lload_n {i : Fin 4} (hat : cm_at mr.1 pc = some (.lload_n i, np, rs)) (hl : cm_nth lv i.val = some (some (fl_l e))) (k : vt P N mr np lv (fl_l e :: st) H Q) : vt P N mr pc lv st H Q :=
  vt_go (fun ih d => by simp only [cm_step, hat, cm_ld, hl, cm_ty, if_true]) k
theorem vt_iadd (hat : cm_at mr.1 pc = some (.iadd, np, rs)) (k : vt P N mr np lv (fl_t (a + b) :: st) H Q) : vt P N mr pc lv (fl_t b :: fl_t a :: st) H Q :=
  vt_go (fun ih d => by simp only [cm_step, hat, cm_two, fl_add]) k
theorem vt_isub (hat : cm_at mr.1 pc = some (.isub, np, rs)) (k : vt P N mr np lv (fl_t (a - b) :: st) H Q) : vt P N mr pc lv (fl_t b :: fl_t a :: st) H Q :=
  vt_go (fun ih d => by simp only [cm_step, hat, cm_two, fl_sub]) k
theorem vt_imul (hat : cm_at mr.1 pc = some (.imul, np, rs)) (k : vt P N mr np lv (fl_t (a * b) :: st) H Q) : vt P N mr pc lv (fl_t b :: fl_t a :: st) H Q :=
  vt_go (fun ih d => by simp only [cm_step, hat, cm_two, fl_mul]) k
theorem vt_ineg (hat : cm_at mr.1 pc = some (.ineg, np, rs)) (k : vt P N mr np lv (fl_t (-a) :: st) H Q) : vt P N mr pc lv (fl_t a :: st) H Q :=
  vt_go (fun ih d => by simp only [cm_step, hat, cm_one, fl_neg]) k
theorem vt_idiv (hat : cm_at mr.1 pc = some (.idiv, np, rs)) (k : vt P N mr np lv (fl_t (fl_div a b) :: st) H Q) : vt P N mr pc lv (fl_t b :: fl_t a :: st) H Q :=
  vt_st (A := True) (fun ih d R h => by
    simp only [cm_step, hat, cm_two] at h
    split at h
    · simp at h
    · rw [fl_divE] at h
      exact ⟨trivial, h⟩) (fun _ => k)
theorem vt_irem (hat : cm_at mr.1 pc = some (.irem, np, rs)) (k : vt P N mr np lv (fl_t (fl_rem a b) :: st) H Q) : vt P N mr pc lv (fl_t b :: fl_t a :: st) H Q :=
  vt_st (A := True) (fun ih d R h => by
    simp only [cm_step, hat, cm_two] at h
    split at h
    · simp at h
    · rw [fl_remE] at h
      exact ⟨trivial, h⟩) (fun _ => k)
theorem vt_iand (hat : cm_at mr.1 pc = some (.iand, np, rs)) (k : vt P N mr np lv (fl_t (fl_and a b) :: st) H Q) : vt P N mr pc lv (fl_t b :: fl_t a :: st) H Q :=
  vt_go (fun ih d => by simp only [cm_step, hat, cm_two, fl_t, fl_and, fl_of_toInt]) k
theorem vt_ior (hat : cm_at mr.1 pc = some (.ior, np, rs)) (k : vt P N mr np lv (fl_t (fl_or a b) :: st) H Q) : vt P N mr pc lv (fl_t b :: fl_t a :: st) H Q :=
  vt_go (fun ih d => by simp only [cm_step, hat, cm_two, fl_t, fl_or, fl_of_toInt]) k
theorem vt_ixor (hat : cm_at mr.1 pc = some (.ixor, np, rs)) (k : vt P N mr np lv (fl_t (fl_xor a b) :: st) H Q) : vt P N mr pc lv (fl_t b :: fl_t a :: st) H Q :=
  vt_go (fun ih d => by simp only [cm_step, hat, cm_two, fl_t, fl_xor, fl_of_toInt]) k
theorem vt_ishl (hat : cm_at mr.1 pc = some (.ishl, np, rs)) (k : vt P N mr np lv (fl_t (fl_shl a b) :: st) H Q) : vt P N mr pc lv (fl_t b :: fl_t a :: st) H Q :=
  vt_go (fun ih d => by simp only [cm_step, hat, cm_two, fl_t, fl_shl, fl_of_toInt]) k
theorem vt_ishr (hat : cm_at mr.1 pc = some (.ishr, np, rs)) (k : vt P N mr np lv (fl_t (fl_shr a b) :: st) H Q) : vt P N mr pc lv (fl_t b :: fl_t a :: st) H Q :=
  vt_go (fun ih d => by simp only [cm_step, hat, cm_two, fl_t, fl_shr, fl_of_toInt]) k
theorem vt_iushr (hat : cm_at mr.1 pc = some (.iushr, np, rs)) (k : vt P N mr np lv (fl_t (fl_ushr a b) :: st) H Q) : vt P N mr pc lv (fl_t b :: fl_t a :: st) H Q :=
  vt_go (fun ih d => by simp only [cm_step, hat, cm_two, fl_t, fl_ushr, fl_of_toInt]) k
theorem vt_ldcw {j n : Nat} {rs' : List Nat} {v : Int} (hat : cm_at mr.1 pc = some (.ldc_w j, np, n :: rs')) (hv : Int32.ofNat n = Int32.ofInt v) (k : vt P N mr np lv (fl_t v :: st) H Q) : vt P N mr pc lv st H Q :=
  vt_go (fun ih d => by simp only [cm_step, hat, hv]) k
theorem vt_abs {j : Nat} {rs' : List Nat} (hat : cm_at mr.1 pc = some (.invokestatic j, np, 7 :: rs')) (k : vt P N mr np lv (fl_t (fl_abs a) :: st) H Q) : vt P N mr pc lv (fl_t a :: st) H Q :=
  vt_st (A := True) (fun ih d R h => by
    simp only [cm_step, hat, cm_one] at h
    split at h
    · simp at h
    · refine ⟨trivial, ?_⟩
      rw [← h]
      congr 2
      show fl_t _ = Term.int _
      congr 1
      unfold fl_abs
      have h0 : (0 : Int32) = Int32.ofInt 0 := rfl
      have hw0 : fl_w 0 = 0 := rfl
      by_cases hc : (0 : Int32) ≤ Int32.ofInt a
      · rw [if_pos hc]
        rw [Int32.le_iff_toInt_le, fl_w_toInt, h0, fl_w_toInt, hw0] at hc
        rw [if_pos hc]
        show Term.int (Int32.ofInt (fl_w a)) = Term.int _
        rw [fl_of_w]
      · rw [if_neg hc]
        rw [Int32.le_iff_toInt_le, fl_w_toInt, h0, fl_w_toInt, hw0] at hc
        rw [if_neg hc, h0, ← fl_of_w a, fl_sub]) (fun _ => k)
theorem vt_i2b (hat : cm_at mr.1 pc = some (.i2b, np, rs)) (k : vt P N mr np lv (fl_t (fl_i2b a) :: st) H Q) : vt P N mr pc lv (fl_t a :: st) H Q :=
  vt_go (fun ih d => by simp only [cm_step, hat, cm_one, fl_t, fl_i2b, fl_of_toInt]) k
theorem vt_i2c (hat : cm_at mr.1 pc = some (.i2c, np, rs)) (k : vt P N mr np lv (fl_t (fl_i2c a) :: st) H Q) : vt P N mr pc lv (fl_t a :: st) H Q :=
  vt_go (fun ih d => by simp only [cm_step, hat, cm_one, fl_t, fl_i2c, fl_of_toInt]) k
theorem vt_i2s (hat : cm_at mr.1 pc = some (.i2s, np, rs)) (k : vt P N mr np lv (fl_t (fl_i2s a) :: st) H Q) : vt P N mr pc lv (fl_t a :: st) H Q :=
  vt_go (fun ih d => by simp only [cm_step, hat, cm_one, fl_t, fl_i2s, fl_of_toInt]) k
-- ---- branches
/-- what a comparison says -/
def fl_cd (c : ClassFile.Cond) (x y : Int) : Prop := match c with
  | .lt => x < y
  | .ge => y ≤ x
  | .gt => y < x
  | .le => x ≤ y
  | .eq => x = y
  | .ne => ¬ x = y
theorem vt_cb (c : ClassFile.Cond) (a b : Int) : cm_cb c (Int32.ofInt a) (Int32.ofInt b) = true ↔ fl_cd c (fl_w a) (fl_w b) := by
  have hl : Int32.ofInt a < Int32.ofInt b ↔ fl_w a < fl_w b := by rw [Int32.lt_iff_toInt_lt, fl_w_toInt, fl_w_toInt]
  have hg : Int32.ofInt b < Int32.ofInt a ↔ fl_w b < fl_w a := by rw [Int32.lt_iff_toInt_lt, fl_w_toInt, fl_w_toInt]
  have he : Int32.ofInt a = Int32.ofInt b ↔ fl_w a = fl_w b := ⟨fun h => by rw [← fl_w_toInt, h, fl_w_toInt], fun h => by rw [← fl_of_w a, h, fl_of_w]⟩
  cases c <;> simp only [cm_cb, fl_cd, decide_eq_true_eq, Bool.not_eq_true', decide_eq_false_iff_not, hl, hg, he] <;> omega
theorem vt_icmp {c : ClassFile.Cond} {o : Int} {t : Nat} {rs' : List Nat} (hat : cm_at mr.1 pc = some (.if_icmp c o, np, t :: rs')) (k1 : fl_cd c (fl_w a) (fl_w b) → vt P N mr t lv st H Q) (k2 : ¬ fl_cd c (fl_w a) (fl_w b) → vt P N mr np lv st H Q) : vt P N mr pc lv (fl_t b :: fl_t a :: st) H Q := by
  by_cases hc : cm_cb c (Int32.ofInt a) (Int32.ofInt b) = true
  · exact vt_go (fun ih d => by simp only [cm_step, hat, cm_two]; rw [if_pos hc]) (k1 ((vt_cb c a b).mp hc))
  · exact vt_go (fun ih d => by simp only [cm_step, hat, cm_two]; rw [if_neg hc]) (k2 (fun h => hc ((vt_cb c a b).mpr h)))
theorem vt_ifc {c : ClassFile.Cond} {o : Int} {t : Nat} {rs' : List Nat} (hat : cm_at mr.1 pc = some (.ifCond c o, np, t :: rs')) (k1 : fl_cd c (fl_w a) 0 → vt P N mr t lv st H Q) (k2 : ¬ fl_cd c (fl_w a) 0 → vt P N mr np lv st H Q) : vt P N mr pc lv (fl_t a :: st) H Q := by
  have h0 : (0 : Int32) = Int32.ofInt 0 := rfl
  have hw : fl_w 0 = 0 := rfl
  have key := vt_cb c a 0
  rw [hw] at key
  by_cases hc : cm_cb c (Int32.ofInt a) (Int32.ofInt 0) = true
  · exact vt_go (fun ih d => by simp only [cm_step, hat, cm_one, h0]; rw [if_pos hc]) (k1 (key.mp hc))
  · exact vt_go (fun ih d => by simp only [cm_step, hat, cm_one, h0]; rw [if_neg hc]) (k2 (fun h => hc (key.mpr h)))
theorem vt_icmpN {o : Int} {t : Nat} {rs' : List Nat} (hat : cm_at mr.1 pc = some (.if_icmp .ne o, np, t :: rs')) (k1 : ¬ fl_w a = fl_w b → vt P N mr t lv st H Q) (k2 : fl_w a = fl_w b → vt P N mr np lv st H Q) : vt P N mr pc lv (fl_t b :: fl_t a :: st) H Q :=
  vt_icmp hat k1 (fun h => k2 (Classical.byContradiction h))
theorem vt_ifcN {o : Int} {t : Nat} {rs' : List Nat} (hat : cm_at mr.1 pc = some (.ifCond .ne o, np, t :: rs')) (k1 : ¬ fl_w a = 0 → vt P N mr t lv st H Q) (k2 : fl_w a = 0 → vt P N mr np lv st H Q) : vt P N mr pc lv (fl_t a :: st) H Q :=
  vt_ifc hat k1 (fun h => k2 (Classical.byContradiction h))
/-- on a truth value -/
def fl_b (A : Prop) : Int := @ite Int A (Classical.propDecidable A) 1 0
theorem fl_b1 {A : Prop} (h : A) : fl_b A = 1 := if_pos h
theorem fl_b0 {A : Prop} (h : ¬ A) : fl_b A = 0 := if_neg h
theorem vt_ifb {A : Prop} {o : Int} {t : Nat} {rs' : List Nat} (hat : cm_at mr.1 pc = some (.ifCond .eq o, np, t :: rs')) (k1 : A → vt P N mr np lv st H Q) (k2 : ¬ A → vt P N mr t lv st H Q) : vt P N mr pc lv (fl_t (fl_b A) :: st) H Q :=
  vt_ifc hat (fun h => k2 (fun ha => by rw [fl_b1 ha] at h; revert h; show ¬ ((1 : Int) = 0); omega)) (fun h => k1 (Classical.byContradiction (fun ha => h (by rw [fl_b0 ha]; rfl))))
theorem vt_ifn {A : Prop} {o : Int} {t : Nat} {rs' : List Nat} (hat : cm_at mr.1 pc = some (.ifCond .ne o, np, t :: rs')) (k1 : A → vt P N mr t lv st H Q) (k2 : ¬ A → vt P N mr np lv st H Q) : vt P N mr pc lv (fl_t (fl_b A) :: st) H Q :=
  vt_ifc hat (fun h => k1 (Classical.byContradiction (fun ha => h (by rw [fl_b0 ha]; rfl)))) (fun h => k2 (fun ha => h (by rw [fl_b1 ha]; show ¬ ((1 : Int) = 0); omega)))
theorem vt_gotoS {o : Int} {t : Nat} {rs' : List Nat} (hat : cm_at mr.1 pc = some (.goto o, np, t :: rs')) (k : ∀ m, m < N → vt P m mr t lv st H Q) : vt P N mr pc lv st H Q :=
  vt_goS (fun ih d => by simp only [cm_step, hat]) k
theorem vt_goto {o : Int} {t : Nat} {rs' : List Nat} (hat : cm_at mr.1 pc = some (.goto o, np, t :: rs')) (k : vt P N mr t lv st H Q) : vt P N mr pc lv st H Q :=
  vt_go (fun ih d => by simp only [cm_step, hat]) k
/-- a switch by a table: the targets one by one, the first for all others -/
theorem vt_tsw {df lo hi : Int} {os : Array Int} (hat : cm_at mr.1 pc = some (.tableswitch df lo hi os, np, rs)) (k : ∀ (t : Nat), (∀ (R : cm_R) (kk : Nat → Option cm_R), cm_sw (fl_w a) lo hi rs kk = some R → kk t = some R) → vt P N mr t lv st H Q) (hd : ∃ t, ∀ (R : cm_R) (kk : Nat → Option cm_R), cm_sw (fl_w a) lo hi rs kk = some R → kk t = some R) : vt P N mr pc lv (fl_t a :: st) H Q := by
  obtain ⟨t, ht⟩ := hd
  exact vt_st (A := True) (fun ih d R h => by
    simp only [cm_step, hat, cm_one, fl_w_toInt] at h
    exact ⟨trivial, ht R _ h⟩) (fun _ => k t ht)
/-- the tail of a switch: x is not below lo -/
theorem vt_sw_out {x lo hi : Int} {t : Nat} {tg : List Nat} (h : x < lo ∨ hi < x) (R : cm_R) (kk : Nat → Option cm_R) (hr : cm_sw x lo hi (t :: tg) kk = some R) : kk t = some R := by
  simp only [cm_sw] at hr
  rw [if_pos h] at hr
  exact hr
theorem vt_sw_in {x lo hi : Int} {t u : Nat} {tg : List Nat} {j : Nat} (h1 : lo ≤ x) (h2 : x ≤ hi) (hj : x - lo = (j : Int)) (hu : cm_nth tg j = some u) (R : cm_R) (kk : Nat → Option cm_R) (hr : cm_sw x lo hi (t :: tg) kk = some R) : kk u = some R := by
  simp only [cm_sw] at hr
  rw [if_neg (by omega), hj, Int.toNat_natCast, hu] at hr
  exact hr
theorem vt_swk {df lo hi : Int} {os : Array Int} {t : Nat} (hat : cm_at mr.1 pc = some (.tableswitch df lo hi os, np, rs)) (ht : ∀ (R : cm_R) (kk : Nat → Option cm_R), cm_sw (fl_w a) lo hi rs kk = some R → kk t = some R) (k : vt P N mr t lv st H Q) : vt P N mr pc lv (fl_t a :: st) H Q :=
  vt_st (A := True) (fun ih d R h => by
    simp only [cm_step, hat, cm_one, fl_w_toInt] at h
    exact ⟨trivial, ht R _ h⟩) (fun _ => k)
theorem vt_lsw {df : Int} {ps : Array (Int × Int)} {t : Nat} (hat : cm_at mr.1 pc = some (.lookupswitch df ps, np, rs)) (ht : cm_find (fl_w a) ps.toList rs = some t) (k : vt P N mr t lv st H Q) : vt P N mr pc lv (fl_t a :: st) H Q :=
  vt_go (fun ih d => by simp only [cm_step, hat, cm_one, fl_w_toInt, ht]) k
-- ---- cells
theorem vt_getf {c ci ci' k kind j : Nat} {fs : List (Option Nat)} {rs' : List Nat} (hat : cm_at mr.1 pc = some (.getfield j, np, ci :: k :: kind :: rs')) (hc : cm_nth fl_K c = some (.inr (ci', fs))) (hf : cm_nth fs k = some none) (kk : vt P N mr np lv (fl_t (H c k) :: st) H Q) : vt P N mr pc lv (.index c :: st) H Q :=
  vt_st (A := True) (fun ih d R h => by
    simp only [cm_step, hat, cm_get, fl_mk_at hc, fl_cell] at h
    split at h
    · rw [cm_nth_eq] at hf
      rw [cm_nth_eq, fl_fld_at, hf, Nat.zero_add] at h
      exact ⟨trivial, h⟩
    · simp at h) (fun _ => kk)
theorem vt_getr {c ci ci' k kind j r : Nat} {fs : List (Option Nat)} {rs' : List Nat} (hat : cm_at mr.1 pc = some (.getfield j, np, ci :: k :: kind :: rs')) (hc : cm_nth fl_K c = some (.inr (ci', fs))) (hf : cm_nth fs k = some (some r)) (kk : vt P N mr np lv (.index r :: st) H Q) : vt P N mr pc lv (.index c :: st) H Q :=
  vt_st (A := True) (fun ih d R h => by
    simp only [cm_step, hat, cm_get, fl_mk_at hc, fl_cell] at h
    split at h
    · rw [cm_nth_eq] at hf
      rw [cm_nth_eq, fl_fld_at, hf] at h
      exact ⟨trivial, h⟩
    · simp at h) (fun _ => kk)
/-- a field of an old object -/
theorem vt_geto {q ci ci' k kind j : Nat} {fs : List Term} {t : Term} {rs' : List Nat} (hat : cm_at mr.1 pc = some (.getfield j, np, ci :: k :: kind :: rs')) (hc : cm_nth P.2.2.2.2 q = some (some (ci', fs))) (hf : cm_nth fs k = some t) (kk : vt P N mr np lv (t :: st) H Q) : vt P N mr pc lv (.string "" q :: st) H Q :=
  vt_st (A := True) (fun ih d R h => by
    simp only [cm_step, hat, cm_get, hc] at h
    split at h
    · rw [hf] at h
      exact ⟨trivial, h⟩
    · simp at h) (fun _ => kk)
theorem vt_gets {i j : Nat} {t : Term} {rs' : List Nat} (hat : cm_at mr.1 pc = some (.getstatic j, np, i :: rs')) (hp : cm_nth P.2.2.1 i = some t) (kk : vt P N mr np lv (t :: st) H Q) : vt P N mr pc lv st H Q :=
  vt_go (fun ih d => by simp only [cm_step, hat, hp]) kk
theorem vt_putf {c ci ci' k j : Nat} {fs : List (Option Nat)} {rs' : List Nat} (hat : cm_at mr.1 pc = some (.putfield j, np, ci :: k :: rs')) (hc : cm_nth fl_K c = some (.inr (ci', fs))) (hf : cm_nth fs k = some none) (kk : vt P N mr np lv st (fl_up H c k e) Q) : vt P N mr pc lv (fl_t e :: .index c :: st) H Q :=
  vt_st (A := True) (fun ih d R h => by
    simp only [cm_step, hat, cm_put, fl_mk_at hc, fl_cell] at h
    split at h
    · rename_i hh
      rw [cm_nth_eq] at hf
      rw [cm_set_eq, cm_set_eq, fl_set_fld hf] at h
      have hE : (fl_mk H).set c (Sum.inr (ci, fl_fld (fl_up H c k e) c 0 fs)) = fl_mk (fl_up H c k e) := fl_mk_set (H := H) (G := fl_up H c k e) hc (by rw [← hh.1]; rfl) (fun d hd i => (fl_up_c H c k e hd).symm)
      rw [hE] at h
      exact ⟨trivial, h⟩
    · simp at h) (fun _ => kk)
theorem vt_ald {c n k0 : Nat} {ty : FieldType} (hs : ∀ (ih : Nat → cm_M → Nat → cm_Lv → List Term → cm_H → Option cm_R) (d : Nat), cm_step P ih d mr pc lv (fl_t e :: .index c :: st) (fl_mk H) = cm_aload P (fl_t e :: .index c :: st) (fl_mk H) ty (fun v st => ih d mr np lv (.int v :: st) (fl_mk H))) (hc : cm_nth fl_K c = some (.inl (k0, n)))
    (kk : 0 ≤ fl_w e ∧ fl_w e < (n : Int) → vt P N mr np lv (fl_t (H c (fl_w e).toNat) :: st) H Q) : vt P N mr pc lv (fl_t e :: .index c :: st) H Q :=
  vt_st (fun ih d R h => by
    rw [hs] at h
    simp only [cm_aload, cm_arr, fl_mk_at hc, fl_cell, fl_w_toInt] at h
    split at h
    · split at h
      · rename_i h0
        rw [cm_nth_eq, fl_arr_at, Nat.zero_add] at h
        by_cases h1 : (fl_w e).toNat < n
        · rw [if_pos h1] at h
          exact ⟨⟨h0, by omega⟩, h⟩
        · rw [if_neg h1] at h
          simp at h
      · simp at h
    · simp at h) kk
theorem vt_iald {c n k0 : Nat} (hat : cm_at mr.1 pc = some (.iaload, np, rs)) (hc : cm_nth fl_K c = some (.inl (k0, n))) (kk : 0 ≤ fl_w e ∧ fl_w e < (n : Int) → vt P N mr np lv (fl_t (H c (fl_w e).toNat) :: st) H Q) : vt P N mr pc lv (fl_t e :: .index c :: st) H Q :=
  vt_ald (ty := .int) (fun ih d => by simp only [cm_step, hat]) hc kk
theorem vt_bald {c n k0 : Nat} (hat : cm_at mr.1 pc = some (.baload, np, rs)) (hc : cm_nth fl_K c = some (.inl (k0, n))) (kk : 0 ≤ fl_w e ∧ fl_w e < (n : Int) → vt P N mr np lv (fl_t (H c (fl_w e).toNat) :: st) H Q) : vt P N mr pc lv (fl_t e :: .index c :: st) H Q :=
  vt_ald (ty := .byte) (fun ih d => by simp only [cm_step, hat]) hc kk
/-- at a fixed place -/
theorem vt_ialdN {c n k0 : Nat} (i : Nat) (hat : cm_at mr.1 pc = some (.iaload, np, rs)) (hc : cm_nth fl_K c = some (.inl (k0, n))) (hi : fl_w e = (i : Int)) (kk : vt P N mr np lv (fl_t (H c i) :: st) H Q) : vt P N mr pc lv (fl_t e :: .index c :: st) H Q :=
  vt_iald hat hc (fun _ => by rw [hi, Int.toNat_natCast]; exact kk)
/-- an element of an old array of ints -/
theorem vt_iold {q : Nat} {l : List Int} {m : List Term} (hat : cm_at mr.1 pc = some (.iaload, np, rs)) (hc : cm_nth P.2.2.2.1 q = some (some (.int, m))) (hm : m = l.map fl_t) (kk : 0 ≤ fl_w e ∧ fl_w e < (l.length : Int) → vt P N mr np lv (fl_t (l.getD (fl_w e).toNat 0) :: st) H Q) : vt P N mr pc lv (fl_t e :: .string "" q :: st) H Q :=
  vt_st (fun ih d R h => by
    subst hm
    simp only [cm_step, hat, cm_aload, cm_arr, hc, fl_w_toInt, if_true] at h
    split at h
    · rename_i h0
      rw [cm_nth_eq, List.getElem?_map] at h
      by_cases h1 : (fl_w e).toNat < l.length
      · rw [List.getElem?_eq_getElem h1] at h
        refine ⟨⟨h0, by omega⟩, ?_⟩
        rw [List.getD_eq_getElem?_getD, List.getElem?_eq_getElem h1]
        exact h
      · rw [List.getElem?_eq_none (by omega)] at h
        simp at h
    · simp at h) kk
theorem vt_bold {q : Nat} {l : List Int} {m : List Term} (hat : cm_at mr.1 pc = some (.baload, np, rs)) (hc : cm_nth P.2.2.2.1 q = some (some (.byte, m))) (hm : m = l.map fl_t) (kk : 0 ≤ fl_w e ∧ fl_w e < (l.length : Int) → vt P N mr np lv (fl_t (l.getD (fl_w e).toNat 0) :: st) H Q) : vt P N mr pc lv (fl_t e :: .string "" q :: st) H Q :=
  vt_st (fun ih d R h => by
    subst hm
    simp only [cm_step, hat, cm_aload, cm_arr, hc, fl_w_toInt, if_true] at h
    split at h
    · rename_i h0
      rw [cm_nth_eq, List.getElem?_map] at h
      by_cases h1 : (fl_w e).toNat < l.length
      · rw [List.getElem?_eq_getElem h1] at h
        refine ⟨⟨h0, by omega⟩, ?_⟩
        rw [List.getD_eq_getElem?_getD, List.getElem?_eq_getElem h1]
        exact h
      · rw [List.getElem?_eq_none (by omega)] at h
        simp at h
    · simp at h) kk
theorem vt_ast {c n k0 : Nat} {ty : FieldType} {f : Int32 → Int32} {e' : Int} (hf : f (Int32.ofInt a) = Int32.ofInt e') (hs : ∀ (ih : Nat → cm_M → Nat → cm_Lv → List Term → cm_H → Option cm_R) (d : Nat), cm_step P ih d mr pc lv (fl_t a :: fl_t e :: .index c :: st) (fl_mk H) = cm_astore (fl_t a :: fl_t e :: .index c :: st) (fl_mk H) ty f (fun st h => ih d mr np lv st h)) (hc : cm_nth fl_K c = some (.inl (k0, n)))
    (kk : 0 ≤ fl_w e ∧ fl_w e < (n : Int) → vt P N mr np lv st (fl_up H c (fl_w e).toNat e') Q) : vt P N mr pc lv (fl_t a :: fl_t e :: .index c :: st) H Q :=
  vt_st (fun ih d R h => by
    rw [hs] at h
    simp only [cm_astore, fl_mk_at hc, fl_cell, fl_w_toInt] at h
    split at h
    · rename_i hh
      obtain ⟨g1, g2, g3⟩ := hh
      rw [fl_arr_len] at g3
      rw [cm_set_eq, cm_set_eq, hf, fl_set_arr g3] at h
      have hE : (fl_mk H).set c (Sum.inl (fl_ty k0, fl_arr (fl_up H c (fl_w e).toNat e') c 0 n)) = fl_mk (fl_up H c (fl_w e).toNat e') := fl_mk_set (H := H) (G := fl_up H c (fl_w e).toNat e') hc rfl (fun d hd i => (fl_up_c H c _ _ hd).symm)
      have g1' := g1
      first
        | rw [hE] at h
        | (subst g1'; rw [hE] at h)
      exact ⟨⟨g2, by omega⟩, h⟩
    · simp at h) kk
theorem vt_iast {c n k0 : Nat} (hat : cm_at mr.1 pc = some (.iastore, np, rs)) (hc : cm_nth fl_K c = some (.inl (k0, n))) (kk : 0 ≤ fl_w e ∧ fl_w e < (n : Int) → vt P N mr np lv st (fl_up H c (fl_w e).toNat a) Q) : vt P N mr pc lv (fl_t a :: fl_t e :: .index c :: st) H Q :=
  vt_ast (ty := .int) (f := fun v => v) rfl (fun ih d => by simp only [cm_step, hat]) hc kk
theorem vt_bast {c n k0 : Nat} (hat : cm_at mr.1 pc = some (.bastore, np, rs)) (hc : cm_nth fl_K c = some (.inl (k0, n))) (kk : 0 ≤ fl_w e ∧ fl_w e < (n : Int) → vt P N mr np lv st (fl_up H c (fl_w e).toNat (fl_i2b a)) Q) : vt P N mr pc lv (fl_t a :: fl_t e :: .index c :: st) H Q :=
  vt_ast (ty := .byte) (f := fun v => v.toInt8.toInt32) (fl_of_toInt _).symm (fun ih d => by simp only [cm_step, hat]) hc kk
theorem vt_iastN {c n k0 : Nat} (i : Nat) (hat : cm_at mr.1 pc = some (.iastore, np, rs)) (hc : cm_nth fl_K c = some (.inl (k0, n))) (hi : fl_w e = (i : Int)) (kk : vt P N mr np lv st (fl_up H c i a) Q) : vt P N mr pc lv (fl_t a :: fl_t e :: .index c :: st) H Q :=
  vt_iast hat hc (fun _ => by rw [hi, Int.toNat_natCast]; exact kk)
theorem vt_alen {c n k0 : Nat} (hat : cm_at mr.1 pc = some (.arraylength, np, rs)) (hc : cm_nth fl_K c = some (.inl (k0, n))) (kk : vt P N mr np lv (fl_t (n : Int) :: st) H Q) : vt P N mr pc lv (.index c :: st) H Q :=
  vt_st (A := True) (fun ih d R h => by
    simp only [cm_step, hat, cm_len, fl_mk_at hc, fl_cell, fl_arr_len] at h
    split at h
    · exact ⟨trivial, h⟩
    · simp at h) (fun _ => kk)
theorem vt_aleno {q : Nat} {ty : FieldType} {m : List Term} {n : Nat} (hat : cm_at mr.1 pc = some (.arraylength, np, rs)) (hc : cm_nth P.2.2.2.1 q = some (some (ty, m))) (hn : m.length = n) (kk : vt P N mr np lv (fl_t (n : Int) :: st) H Q) : vt P N mr pc lv (.string "" q :: st) H Q :=
  vt_go (fun ih d => by
    subst hn
    simp only [cm_step, hat, cm_len, hc]
    rfl) kk
/-- the first n of one array put into another -/
def fl_cp (H : fl_H) (a b n : Nat) : fl_H := fun c i => if c = b ∧ i < n then H a i else H c i
theorem vt_copy {x y : Nat} {u v z : Int} {n k1 k2 n1 n2 : Nat} {j : Nat} {rs' : List Nat} (hat : cm_at mr.1 pc = some (.invokestatic j, np, 4 :: rs')) (hx : cm_nth fl_K x = some (.inl (k1, n1))) (hy : cm_nth fl_K y = some (.inl (k2, n2))) (hu : fl_w u = 0) (hv : fl_w v = 0) (hz : fl_w z = (n : Int)) (kk : vt P N mr np lv st (fl_cp H x y n) Q) : vt P N mr pc lv (fl_t z :: fl_t v :: .index y :: fl_t u :: .index x :: st) H Q :=
  vt_st (A := True) (fun ih d R h => by
    have h : (if d = 0 ∨ 8 < cm_cat st then none else cm_copy (fl_mk H) [.index x, fl_t u, .index y, fl_t v, fl_t z] (fun h' => ih d mr np lv st h')) = some R := by
      rw [← h]
      simp only [cm_step, hat, cm_pop]
    split at h
    · simp at h
    · simp only [cm_copy, fl_mk_at hx, fl_mk_at hy, fl_cell, fl_w_toInt, hu, hv, hz] at h
      split at h
      · rename_i hh
        obtain ⟨g1, g2, g3, g4, g5, g6, g7⟩ := hh
        rw [fl_arr_len] at g6 g7
        rw [cm_set_eq] at h
        have hE : (fl_mk H).set y (Sum.inl (.int, (fl_arr H y 0 n2).take (0 : Int).toNat ++ (((fl_arr H x 0 n1).drop (0 : Int).toNat).take ((n : Int)).toNat ++ (fl_arr H y 0 n2).drop ((0 : Int).toNat + ((n : Int)).toNat)))) = fl_mk (fl_cp H x y n) := by
          refine fl_mk_set (H := H) (G := fl_cp H x y n) hy ?_ (fun d hd i => (if_neg (fun hq => hd hq.1)).symm)
          show (Sum.inl _ : cm_C) = Sum.inl (fl_ty k2, fl_arr (fl_cp H x y n) y 0 n2)
          rw [g2]
          congr 2
          refine List.ext_getElem? (fun i => ?_)
          rw [fl_arr_at, Nat.zero_add]
          have e0 : (0 : Int).toNat = 0 := rfl
          rw [e0, Int.toNat_natCast, List.take_zero, List.nil_append, List.drop_zero, Nat.zero_add]
          by_cases hi : i < n
          · rw [List.getElem?_append_left (by rw [List.length_take, fl_arr_len]; omega), List.getElem?_take_of_lt hi, fl_arr_at, Nat.zero_add, if_pos (by omega), if_pos (by omega)]
            have e2 : fl_cp H x y n y i = H x i := if_pos ⟨rfl, hi⟩
            rw [e2]
          · rw [List.getElem?_append_right (by rw [List.length_take, fl_arr_len]; omega), List.getElem?_drop, fl_arr_at, List.length_take, fl_arr_len]
            have e1 : n + (i - min n n1) = i := by omega
            have e2 : fl_cp H x y n y i = H y i := if_neg (fun hq => hi hq.2)
            rw [Nat.zero_add, e1, e2]
        rw [hE] at h
        exact ⟨trivial, h⟩
      · simp at h) (fun _ => kk)
-- ---- calls and returns
theorem vt_max {j : Nat} {rs' : List Nat} (hat : cm_at mr.1 pc = some (.invokestatic j, np, 5 :: rs')) (kk : vt P N mr np lv (fl_t (max (fl_w a) (fl_w b)) :: st) H Q) : vt P N mr pc lv (fl_t b :: fl_t a :: st) H Q :=
  vt_st (A := True) (fun ih d R h => by
    simp only [cm_step, hat, cm_two] at h
    split at h
    · simp at h
    · refine ⟨trivial, ?_⟩
      rw [← h]
      congr 2
      show fl_t _ = Term.int _
      congr 1
      by_cases hc : Int32.ofInt a < Int32.ofInt b
      · rw [if_pos hc]
        rw [Int32.lt_iff_toInt_lt, fl_w_toInt, fl_w_toInt] at hc
        rw [← fl_of_w b, Int.max_eq_right (by omega)]
      · rw [if_neg hc]
        rw [Int32.lt_iff_toInt_lt, fl_w_toInt, fl_w_toInt] at hc
        rw [← fl_of_w a, Int.max_eq_left (by omega)]) (fun _ => kk)
theorem vt_min {j : Nat} {rs' : List Nat} (hat : cm_at mr.1 pc = some (.invokestatic j, np, 6 :: rs')) (kk : vt P N mr np lv (fl_t (min (fl_w a) (fl_w b)) :: st) H Q) : vt P N mr pc lv (fl_t b :: fl_t a :: st) H Q :=
  vt_st (A := True) (fun ih d R h => by
    simp only [cm_step, hat, cm_two] at h
    split at h
    · simp at h
    · refine ⟨trivial, ?_⟩
      rw [← h]
      congr 2
      show fl_t _ = Term.int _
      congr 1
      by_cases hc : Int32.ofInt b < Int32.ofInt a
      · rw [if_pos hc]
        rw [Int32.lt_iff_toInt_lt, fl_w_toInt, fl_w_toInt] at hc
        rw [← fl_of_w b, Int.min_eq_right (by omega)]
      · rw [if_neg hc]
        rw [Int32.lt_iff_toInt_lt, fl_w_toInt, fl_w_toInt] at hc
        rw [← fl_of_w a, Int.min_eq_left (by omega)]) (fun _ => kk)
theorem vt_call {mr' : cm_M} {args rest : List Term} (hs : ∀ (ih : Nat → cm_M → Nat → cm_Lv → List Term → cm_H → Option cm_R) (d : Nat) (R : cm_R), cm_step P ih d mr pc lv st (fl_mk H) = some R → ∃ d', (match ih d' mr' 0 (cm_ent mr'.2.1 args) [] (fl_mk H) with
      | none => none
      | some (v, h', c, s) => cm_more c s (ih d mr np lv (v.toList ++ rest) h')) = some R)
    (k : ∀ m, m < N → ck P m mr' args H (fun r H' => vt P N mr np lv ((r.map fl_t).toList ++ rest) H' Q)) : vt P N mr pc lv st H Q := by
  intro n hn d v h' c s hr
  cases n with
  | zero => exact absurd hr (by show ¬ (none = some _); simp)
  | succ n =>
    rw [vt_run1] at hr
    obtain ⟨d', h1⟩ := hs _ _ _ hr
    split at h1
    · simp at h1
    · rename_i v1 h2 c1 s1 hrun
      obtain ⟨r, H1, e1, e2, hv⟩ := k n (by omega) n (Nat.le_refl _) d' v1 h2 c1 s1 hrun
      subst e1; subst e2
      cases hq : cm_run P n d mr np lv ((r.map fl_t).toList ++ rest) (fl_mk H1) with
      | none => rw [hq] at h1; simp [cm_more] at h1
      | some w =>
        obtain ⟨v3, h3, c3, s3⟩ := w
        rw [hq] at h1
        simp only [cm_more, Option.some.injEq, Prod.mk.injEq] at h1
        obtain ⟨g1, g2, _⟩ := h1
        subst g1; subst g2
        exact hv n (by omega) d v3 h3 c3 s3 hq
theorem vt_callE {callee d : Nat} {mr' : cm_M} {args rest : List Term} {ih : Nat → cm_M → Nat → cm_Lv → List Term → cm_H → Option cm_R} {R : cm_R} (hm : cm_nth P.1 callee = some mr') (h : cm_call P ih d callee args rest (fl_mk H) (fun st h => ih d mr np lv st h) = some R) : ∃ d', (match ih d' mr' 0 (cm_ent mr'.2.1 args) [] (fl_mk H) with
      | none => none
      | some (v, h', c, s) => cm_more c s (ih d mr np lv (v.toList ++ rest) h')) = some R := by
  simp only [cm_call, hm] at h
  cases d with
  | zero => simp at h
  | succ d =>
    simp only [] at h
    split at h
    · exact ⟨d, h⟩
    · simp at h
theorem vt_callS {j callee na : Nat} {rs' : List Nat} {mr' : cm_M} {args rest : List Term} (hat : cm_at mr.1 pc = some (.invokestatic j, np, 0 :: callee :: na :: rs')) (hm : cm_nth P.1 callee = some mr') (hp : ∀ k : List Term → List Term → Option cm_R, cm_pop na st [] k = k args rest)
    (k : ∀ m, m < N → ck P m mr' args H (fun r H' => vt P N mr np lv ((r.map fl_t).toList ++ rest) H' Q)) : vt P N mr pc lv st H Q :=
  vt_call (fun ih d R h => by
    simp only [cm_step, hat, hp] at h
    exact vt_callE hm h) k
theorem vt_callV {j ci callee na : Nat} {rs' : List Nat} {mr' : cm_M} {args rest : List Term} (hat : cm_at mr.1 pc = some (.invokevirtual j, np, ci :: callee :: na :: rs')) (hm : cm_nth P.1 callee = some mr') (hp : ∀ k : List Term → List Term → Option cm_R, cm_pop (na + 1) st [] k = k args rest)
    (k : ∀ m, m < N → ck P m mr' args H (fun r H' => vt P N mr np lv ((r.map fl_t).toList ++ rest) H' Q)) : vt P N mr pc lv st H Q :=
  vt_call (fun ih d R h => by
    simp only [cm_step, hat, hp] at h
    split at h
    · exact vt_callE hm h
    · simp at h) k
theorem vt_callP {j callee na : Nat} {rs' : List Nat} {mr' : cm_M} {args rest : List Term} (hat : cm_at mr.1 pc = some (.invokespecial j, np, 0 :: callee :: na :: rs')) (hm : cm_nth P.1 callee = some mr') (hp : ∀ k : List Term → List Term → Option cm_R, cm_pop (na + 1) st [] k = k args rest)
    (k : ∀ m, m < N → ck P m mr' args H (fun r H' => vt P N mr np lv ((r.map fl_t).toList ++ rest) H' Q)) : vt P N mr pc lv st H Q :=
  vt_call (fun ih d R h => by
    simp only [cm_step, hat, hp] at h
    split at h
    · exact vt_callE hm h
    · simp at h) k
/-- a call of a method whose answer is told -/
theorem vt_int {args : List Term} {mr' : cm_M} {W : Int → fl_H → Prop} {rest : List Term} {m : Nat} (h : ck P m mr' args H (fun r H' => ∃ x, r = some x ∧ W x H')) (k : ∀ x H', W x H' → vt P N mr np lv (fl_t x :: rest) H' Q) : ck P m mr' args H (fun r H' => vt P N mr np lv ((r.map fl_t).toList ++ rest) H' Q) :=
  ck_mono h (fun r H' ⟨x, hx, w⟩ => by subst hx; exact k x H' w)
theorem vt_void {args : List Term} {mr' : cm_M} {W : fl_H → Prop} {rest : List Term} {m : Nat} (h : ck P m mr' args H (fun r H' => r = none ∧ W H')) (k : ∀ H', W H' → vt P N mr np lv rest H' Q) : ck P m mr' args H (fun r H' => vt P N mr np lv ((r.map fl_t).toList ++ rest) H' Q) :=
  ck_mono h (fun r H' ⟨hx, w⟩ => by subst hx; exact k H' w)
/-- a call of a method that answers x and leaves the cells -/
theorem vt_sum {args : List Term} {mr' : cm_M} {rest : List Term} {m : Nat} {x : Int} (h : ck P m mr' args H (fun r H' => r = some x ∧ H' = H)) (k : vt P N mr np lv (fl_t x :: rest) H Q) : ck P m mr' args H (fun r H' => vt P N mr np lv ((r.map fl_t).toList ++ rest) H' Q) :=
  ck_mono h (fun r H' ⟨hx, hh⟩ => by subst hx; subst hh; exact k)
theorem vt_ret (hat : cm_at mr.1 pc = some (.ireturn, np, rs)) (k : Q (some e) H) : vt P N mr pc lv [fl_t e] H Q := by
  intro n hn d v h' c s hr
  cases n with
  | zero => exact absurd hr (by show ¬ (none = some _); simp)
  | succ n =>
    rw [vt_run1] at hr
    simp only [cm_step, hat, cm_ret] at hr
    split at hr
    · simp at hr
    · split at hr
      · simp only [Option.some.injEq, Prod.mk.injEq] at hr
        exact ⟨some e, H, hr.1.symm, hr.2.1.symm, k⟩
      · simp at hr
theorem vt_retv (hat : cm_at mr.1 pc = some (.return_, np, rs)) (k : Q none H) : vt P N mr pc lv [] H Q := by
  intro n hn d v h' c s hr
  cases n with
  | zero => exact absurd hr (by show ¬ (none = some _); simp)
  | succ n =>
    rw [vt_run1] at hr
    simp only [cm_step, hat] at hr
    split at hr
    · simp only [Option.some.injEq, Prod.mk.injEq] at hr
      exact ⟨none, H, hr.1.symm, hr.2.1.symm, k⟩
    · simp at hr
end
/-- loops: what holds for all lower N holds -/
theorem vt_ind {P : cm_G} {p : Nat → Prop} (h : ∀ N, (∀ m, m < N → p m) → p N) : ∀ N, p N := fun N => Nat.strongRecOn N h
end
