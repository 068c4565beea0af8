noncomputable section
/-! LAYER 2, the draft's invariant opened and closed; what a call takes. -/
def am_ids : List Nat → Nat → List am_O → List am_O
  | [], _, l => l
  | h :: hs, n, l => ((4000001, (Int.ofNat h, [])), (0, [(n, 1)])) :: am_ids hs (n + 1) l
/-- slots that were known, and their new forms: equal -/
def am_eqs (s : am_S) (τ : List am_L) : List am_O → List am_L
  | [] => []
  | o :: l => match am_find s.2.1 o.1.1 o.1.2 s.2.2.2 with
    | some x => (match am_sub τ o.2 with
      | w => am_add (-1) x w :: am_add (-1) w x :: am_eqs s τ l)
    | none => am_eqs s τ l
def am_rev (ids : List Nat) (s : am_S) (go : am_S → Bool) : Bool := match am_hasI s.2.2.2 && Nat.ble ids.length 42 with
  | false => false
  | true => match am_aft s [] [] am_De am_Df (am_ids ids 0 am_Do) with
    | none => true
    | some s2 => match am_ads (am_eqs s (am_vars s.1 42) am_Do) s2 with
      | none => true
      | some s3 => go s3
theorem am_ids_mem {l : List am_O} : ∀ {hs : List Nat} {n : Nat} {o : am_O}, o ∈ am_ids hs n l → o ∈ l ∨ o.1.1 = 4000001
  | [], _, _, h => Or.inl h
  | _ :: hs, n, o, h => by
    rcases List.mem_cons.mp h with h | h
    · exact Or.inr (by rw [h])
    · exact am_ids_mem h
theorem am_ids_sc {l : List am_O} {m : Nat} : ∀ {hs : List Nat} {n : Nat}, n + hs.length ≤ m → am_scO m l = true → am_scO m (am_ids hs n l) = true
  | [], _, _, h => h
  | a :: hs, n, hn, h => by
    simp only [List.length_cons] at hn
    have hlt : Nat.blt n m = true := by
      have : n < m := by omega
      simpa [Nat.blt_eq] using this
    have ih := am_ids_sc (l := l) (hs := hs) (n := n + 1) (by omega) h
    simp only [am_ids, am_scO, am_scp_n, am_scp_c, hlt, ih]
    rfl
theorem am_eqs_mem {s : am_S} {τ : List am_L} : ∀ {l : List am_O} {f : am_L}, f ∈ am_eqs s τ l → ∃ o ∈ l, ∃ x, am_find s.2.1 o.1.1 o.1.2 s.2.2.2 = some x ∧ (f = am_add (-1) x (am_sub τ o.2) ∨ f = am_add (-1) (am_sub τ o.2) x)
  | [], f, h => by simp [am_eqs] at h
  | o :: l, f, h => by
    simp only [am_eqs] at h
    split at h
    · rename_i x hx
      rcases List.mem_cons.mp h with h | h
      · exact ⟨o, List.mem_cons_self .., x, hx, Or.inl h⟩
      · rcases List.mem_cons.mp h with h | h
        · exact ⟨o, List.mem_cons_self .., x, hx, Or.inr h⟩
        · obtain ⟨p, h1, h2⟩ := am_eqs_mem h
          exact ⟨p, List.mem_cons_of_mem _ h1, h2⟩
    · obtain ⟨p, h1, h2⟩ := am_eqs_mem h
      exact ⟨p, List.mem_cons_of_mem _ h1, h2⟩
def am_fixO : List am_O → Bool
  | [] => true
  | o :: l => (match o.1.2 with
    | (k, []) => am_nn k && Nat.blt o.1.1 1000000
    | _ => false) && am_fixO l
theorem am_fixO_mem : ∀ {l : List am_O}, am_fixO l = true → ∀ o ∈ l, ∃ k : Nat, o.1.2 = ((k : Int), []) ∧ o.1.1 < 1000000
  | [], _, o, h => by simp at h
  | p :: l, h, o, hm => by
    simp only [am_fixO, Bool.and_eq_true] at h
    rcases List.mem_cons.mp hm with hm | hm
    · rw [hm]
      have h1 := h.1
      split at h1
      · rename_i k hk
        simp only [Bool.and_eq_true] at h1
        have h2 := am_nn_spec h1.1
        exact ⟨k.toNat, by rw [hk]; congr 1; omega, am_blt h1.2⟩
      · simp at h1
    · exact am_fixO_mem h.2 o hm
theorem am_rev_spec {xs : List Int32} {K : List am_K} (hKl : K.length ≤ 1000000) {ids : List Nat} {s : am_S} {lv st : List am_A} {r : am_V} {L : cm_Lv} {T : List Term} {h : cm_H} (hf : am_fr xs K s lv st r L T h) {go : am_S → Bool} (hk : am_rev ids s go = true) :
    ∃ s' r', go s' = true ∧ am_later [] s s' r r' h h ∧ am_fr xs K s' lv st r' L T h := by
  unfold am_rev at hk
  split at hk
  · simp at hk
  · rename_i hb
    simp only [Bool.and_eq_true, Nat.ble_eq] at hb
    obtain ⟨p1, p2, p3⟩ := am_All_here hf.1 hf.2.2.1
    obtain ⟨ρ, q1, q2, q3, q4⟩ := am_hasI_spec hb.1 p3
    have hl : h.length ≤ 1000000 := by rw [hf.2.2.2.1.1]; exact hKl
    have hDo : am_scO 42 am_Do = true := by decide
    have hDf : am_scF 42 am_Df = true := by decide
    have hDe : am_De.length = 42 := by decide
    have hfx := am_fixO_mem (show am_fixO am_Do = true by decide)
    have ho1 : am_ov xs h ρ (am_ids ids 0 am_Do) := fun o hm => by
      rcases am_ids_mem hm with hm | hm
      · obtain ⟨k, _, hc⟩ := hfx o hm
        exact am_ent_slot (by omega) (q4 o hm)
      · exact am_ent_any (by rw [hm]; omega) (by rw [hm]; omega)
    obtain ⟨s2, r2, a1, a2, a3, a4, a5, a6⟩ := am_aft_spec (e0 := []) (σ := []) (ms := []) (e1 := am_De) (f1 := am_Df) (o1 := am_ids ids 0 am_Do) hf.1 hf.2.1 hf.2.2.1 hl (fun v => rfl) rfl q1 (fun v hv => by simp at hv) ⟨q2, q3, ho1⟩ (am_out_refl [] h) (by rw [hDe]; exact hDf) (by rw [hDe]; exact am_ids_sc (by simpa using hb.2) hDo)
    rw [a1] at hk
    simp only [] at hk
    have hval : ∀ o ∈ am_Do, ∀ x, am_find s.2.1 o.1.1 o.1.2 s.2.2.2 = some x → am_All s2.1 r2 (fun q => am_ev q (am_sub (am_vars s.1 42) o.2) = am_ev q x) := fun o ho x hx q hq hg => by
      show am_ev q (am_sub (am_vars s.1 42) o.2) = am_ev q x
      have h6 := a6 q hq hg
      simp only [List.nil_append, List.length_nil, Nat.zero_add, hDe] at h6
      have hsc : am_scp 42 o.2.2 = true := by
        have : ∀ o ∈ am_Do, am_scp 42 o.2.2 = true := by decide
        exact this o ho
      rw [am_sub_ev, ← am_scp_ev1 h6 hsc]
      obtain ⟨k, hk1, hk2⟩ := hfx o ho
      obtain ⟨y1, y, y2, y3⟩ := q4 o ho
      have hg1 : am_Ag s.1 r q := am_Ag_trans a4.1 a4.2.1 hg
      have ek : ∀ u : am_V, am_ev u o.1.2 = (k : Int) := fun u => by rw [hk1]; simp [am_ev, am_ts]
      rw [ek] at y2
      have hfs := am_find_slot hf.2.2.1 hx (by omega) (j := k) (fun u _ _ => ek u) (x := y) (by simpa using y2)
      have e2 : y.toInt = am_ev q x := hfs q hq hg1
      rw [← y3, e2]
    obtain ⟨s3, c1, c2, c3, c4⟩ := am_ads_spec a3 (am_eqs s (am_vars s.1 42) am_Do) s2 a2 a5 (fun f hm q hq hg => by
      obtain ⟨o, ho, x, hx, hfe⟩ := am_eqs_mem hm
      have e := hval o ho x hx q hq hg
      simp only [] at e
      show 0 ≤ _
      rcases hfe with hfe | hfe
      · rw [hfe, am_add_ev]; omega
      · rw [hfe, am_add_ev]; omega)
    rw [c1] at hk
    refine ⟨s3, r2, hk, am_later_trans a4 (am_later_same c2 r2 h), a3, c3, c4, hf.2.2.2.1, ?_, ?_⟩
    · rw [c2]; exact am_All_more a4.1 a4.2.1 hf.2.2.2.2.1
    · rw [c2]; exact am_All_more a4.1 a4.2.1 hf.2.2.2.2.2
def am_clo (K : List am_K) (srs : List am_Sr) (s : am_S) (go : am_S → Bool) : Bool := match am_enO K am_Do (am_enS K [] srs s) with
  | s1 => match am_srcs s1 [] none srs with
    | none => false
    | some σ => match am_mtE s1 σ am_De && (am_mtO s1 σ am_Do && am_mtF s1 σ am_Df) with
      | true => go (am_kn s1 3000000 (0, []) (0, []))
      | false => false
theorem am_clo_spec {xs : List Int32} {K : List am_K} (hKl : K.length ≤ 1000000) {srs : List am_Sr} {s : am_S} {lv st : List am_A} {r : am_V} {L : cm_Lv} {T : List Term} {h : cm_H} (hf : am_fr xs K s lv st r L T h) {go : am_S → Bool} (hk : am_clo K srs s go = true) :
    ∃ s' r', go s' = true ∧ am_later [] s s' r r' h h ∧ am_fr xs K s' lv st r' L T h := by
  unfold am_clo at hk
  obtain ⟨r1, k1, k2⟩ := am_Kn_trans (am_enS_spec (xs := xs) hKl [] srs s) (am_enO_spec hKl am_Do _) lv st r L T h hf
  generalize am_enO K am_Do (am_enS K [] srs s) = s1 at hk k1 k2
  simp only [] at hk
  split at hk
  · simp at hk
  · rename_i σ _
    split at hk
    · rename_i hb
      simp only [Bool.and_eq_true] at hb
      obtain ⟨g1, g2, g3⟩ := hb
      have hE := am_mtE_spec k2.1 k2.2.2.1 g1
      have hov := am_mtO_spec k2.1 k2.2.2.1 g2
      have hfx := am_fixO_mem (show am_fixO am_Do = true by decide)
      have hI : am_I xs h := ⟨am_rho r1 σ, fun v => ⟨(hE v).2.2.1, (hE v).2.2.2⟩, fun v => ⟨(hE v).1, (hE v).2.1⟩, am_mtF_spec k2.1 k2.2.2.1 g3, fun o ho => by
        obtain ⟨k, _, hc⟩ := hfx o ho
        exact (hov o ho).1 (by omega)⟩
      refine ⟨_, r1, hk, am_later_trans k1 (am_later_same (am_kn_1 _ _ _ _) r1 h), am_fr_same k2 (am_kn_1 _ _ _ _) (am_kn_wf k2.2.1) (am_kn_ent k2.2.2.1 (fun _ _ _ => am_ent_inv rfl hI))⟩
    · simp at hk
/-! calls -/
def am_popA : Nat → List am_A → List am_A → Option (List am_A × List am_A)
  | 0, st, acc => some (acc, st)
  | n + 1, a :: st, acc => am_popA n st (a :: acc)
  | _ + 1, [], _ => none
def am_popT : Nat → List Term → List Term → List Term × List Term
  | 0, T, acc => (acc, T)
  | n + 1, t :: T, acc => am_popT n T (t :: acc)
  | _ + 1, [], acc => (acc, [])
theorem am_pop_spec {β : Type} {q : am_V} : ∀ (n : Nat) {st acc : List am_A} {T accT : List Term} {o : List am_A × List am_A}, am_popA n st acc = some o → am_sts q st T → am_sts q acc accT → (∀ k : List Term → List Term → Option β, cm_pop n T accT k = k (am_popT n T accT).1 (am_popT n T accT).2) ∧ am_sts q o.1 (am_popT n T accT).1 ∧ am_sts q o.2 (am_popT n T accT).2
  | 0, st, acc, T, accT, o, h, h1, h2 => by
    simp only [am_popA, Option.some.injEq] at h
    subst h
    exact ⟨fun k => rfl, h2, h1⟩
  | n + 1, [], acc, T, accT, o, h, h1, h2 => by simp [am_popA] at h
  | n + 1, a :: st, acc, [], accT, o, h, h1, h2 => by simp [am_sts] at h1
  | n + 1, a :: st, acc, t :: T, accT, o, h, h1, h2 => by
    simp only [am_popA] at h
    exact am_pop_spec n (st := st) (acc := a :: acc) (T := T) (accT := t :: accT) h h1.2 ⟨h1.1, h2⟩
def am_slA : List am_A → List am_A
  | [] => []
  | a :: l => match Nat.beq (am_tyA a) 2 with
    | true => a :: (7, (0, [])) :: am_slA l
    | false => a :: am_slA l
def am_okArg : List am_A → Bool
  | [] => true
  | a :: l => match Nat.beq (am_tyA a) 0 with
    | true => false
    | false => am_okArg l
theorem am_slA_spec {q : am_V} : ∀ {as : List am_A} {A : List Term}, am_okArg as = true → am_sts q as A → am_lvs q (am_slA as) (cm_slots A) ∧ cm_okA A = true
  | [], [], _, _ => ⟨trivial, rfl⟩
  | [], _ :: _, _, h => by simp [am_sts] at h
  | _ :: _, [], _, h => by simp [am_sts] at h
  | a :: as, t :: A, ho, h => by
    simp only [am_okArg] at ho
    split at ho
    · simp at ho
    · rename_i hb
      obtain ⟨i1, i2⟩ := am_slA_spec (as := as) (A := A) ho h.2
      have hne : am_tyA a ≠ 0 := fun he => by rw [he] at hb; simp at hb
      have hty : ∃ n, am_tyA a = n + 1 := ⟨am_tyA a - 1, by omega⟩
      obtain ⟨n, hn⟩ := hty
      obtain ⟨u, e1, e2⟩ := am_tyA_spec h.1 hn
      injection e1 with e1
      subst e1
      simp only [am_slA, cm_slots]
      cases hb2 : Nat.beq (am_tyA a) 2 with
      | true =>
        have h2 := Nat.eq_of_beq_eq_true hb2
        have : cm_ty t = 2 := by omega
        simp only [this, if_true]
        refine ⟨⟨h.1, Or.inl rfl, i1⟩, ?_⟩
        simp [cm_okA, this, i2]
      | false =>
        have hw := am_sat_noL h.1 hb2
        have : cm_ty t ≠ 2 := fun he => by
          have : am_tyA a = 2 := by omega
          rw [this] at hb2; simp at hb2
        simp only [this, if_false]
        refine ⟨⟨h.1, i1⟩, ?_⟩
        simp [cm_okA, hw, i2]
def am_entA (n : Nat) (as : List am_A) : List am_A := match am_slA as with
  | l => l ++ List.replicate (n - l.length) (7, (0, []))
theorem am_lvs_app {q : am_V} : ∀ {l m : List am_A} {L N : cm_Lv}, am_lvs q l L → am_lvs q m N → am_lvs q (l ++ m) (L ++ N)
  | [], _, [], _, _, h => h
  | [], _, _ :: _, _, h, _ => by simp [am_lvs] at h
  | _ :: _, _, [], _, h, _ => by simp [am_lvs] at h
  | _ :: l, m, _ :: L, N, h, h2 => ⟨h.1, am_lvs_app h.2 h2⟩
theorem am_lvs_rep {q : am_V} : ∀ (k : Nat), am_lvs q (List.replicate k (7, (0, []))) (List.replicate k none)
  | 0 => trivial
  | k + 1 => ⟨Or.inl rfl, am_lvs_rep k⟩
theorem am_entA_spec {q : am_V} {as : List am_A} {A : List Term} (n : Nat) (ho : am_okArg as = true) (h : am_sts q as A) : am_lvs q (am_entA n as) (cm_ent n A) := by
  obtain ⟨h1, _⟩ := am_slA_spec ho h
  have hl := am_lvs_len h1
  unfold am_entA cm_ent
  simp only []
  rw [hl]
  exact am_lvs_app h1 (am_lvs_rep _)
/-- the receiver's kind -/
def am_rcv (K : List am_K) (ci : Nat) (as : List am_A) : Bool := match as with
  | (4, (c, _)) :: _ => (match am_nthO K c.toNat with
    | some (.inr (cj, _)) => Nat.beq cj ci
    | _ => false)
  | (5, (c, _)) :: _ => Nat.ble 4 c.toNat && (Nat.ble c.toNat 8 && Nat.beq ci 13)
  | _ => false
theorem am_rcv_spec {x : Term} {xs : List Int32} {K : List am_K} {h : cm_H} (hh : am_heap K h) {ci : Nat} {q : am_V} {as : List am_A} {A : List Term} (ha : am_sts q as A) (hr : am_rcv K ci as = true) : cm_recv (cm_pg x xs) h ci A = true := by
  unfold am_rcv at hr
  split at hr
  · rename_i c _ l
    cases A with
    | nil => simp [am_sts] at ha
    | cons t A =>
      have e : t = .index c.toNat := by have := ha.1; simpa [am_sat] using this
      subst e
      split at hr
      · rename_i cj fs hk
        obtain ⟨l, a1, _⟩ := am_obj_of hh hk
        simp only [cm_recv, a1]
        have := Nat.eq_of_beq_eq_true hr
        rw [this]; simp
      · simp at hr
  · rename_i c _ l
    cases A with
    | nil => simp [am_sts] at ha
    | cons t A =>
      have e : t = .string "" c.toNat := by have := ha.1; simpa [am_sat] using this
      subst e
      simp only [Bool.and_eq_true, Nat.ble_eq] at hr
      have h13 := Nat.eq_of_beq_eq_true hr.2.2
      subst h13
      have hi : c.toNat = 4 ∨ c.toNat = 5 ∨ c.toNat = 6 ∨ c.toNat = 7 ∨ c.toNat = 8 := by omega
      rcases hi with hi | hi | hi | hi | hi <;> rw [hi] <;> rfl
  · simp at hr
def am_new1 (as : List am_A) : Bool := match as with
  | (4, _) :: _ => true
  | _ => false
theorem am_new1_spec {q : am_V} {as : List am_A} {A : List Term} (ha : am_sts q as A) (hr : am_new1 as = true) : cm_isN A = true := by
  unfold am_new1 at hr
  split at hr
  · cases A with
    | nil => simp [am_sts] at ha
    | cons t A =>
      have := ha.1
      simp only [am_sat] at this
      injection this with this
      rw [this]; rfl
  · simp at hr
end
