noncomputable section
/-! LAYER 2, branches. -/
def am_negc (c : ClassFile.Cond) : ClassFile.Cond := match c with
  | .lt => .ge
  | .ge => .lt
  | .gt => .le
  | .le => .gt
  | .eq => .ne
  | .ne => .eq
theorem am_negc_spec {c : ClassFile.Cond} {d : Int} (h : ¬ am_cond c d) : am_cond (am_negc c) d := by
  cases c <;> simp only [am_negc, am_cond] at h ⊢ <;> omega
def am_refs : List am_L → am_S → Option am_S
  | [], s => some s
  | a :: l, s => match am_ref s a with
    | some s' => am_refs l s'
    | none => none
theorem am_refs_spec {xs : List Int32} {r : am_V} {h : cm_H} (hr : am_Rg r) : ∀ (l : List am_L) (s : am_S), am_wf s → am_holds xs s r h → (∀ f ∈ l, am_All s.1 r (fun q => 0 ≤ am_ev q f)) → ∃ s', am_refs l s = some s' ∧ s'.1 = s.1 ∧ am_wf s' ∧ am_holds xs s' r h
  | [], s, hw, hs, _ => ⟨s, rfl, rfl, hw, hs⟩
  | a :: l, s, hw, hs, hl => by
    obtain ⟨s1, h1, h2, h3⟩ := am_ref_spec hr hs (hl a (List.mem_cons_self ..))
    have hw1 := am_ref_wf hw h1
    obtain ⟨s', h4, h5, h6, h7⟩ := am_refs_spec hr l s1 hw1 h3 (fun f hm => by rw [h2]; exact hl f (List.mem_cons_of_mem _ hm))
    simp only [am_refs, h1]
    exact ⟨s', h4, h5.trans h2, h6, h7⟩
/-- a state in which a form is compared with 0 so; none: that can't be -/
def am_way (s : am_S) (c : ClassFile.Cond) (a : am_L) : Option am_S := match c with
  | .lt => am_ref s (am_add (-1) (-1, []) a)
  | .ge => am_ref s a
  | .gt => am_ref s (am_add 1 (-1, []) a)
  | .le => am_ref s (am_add (-1) (0, []) a)
  | .eq => am_refs [a, am_add (-1) (0, []) a] s
  | .ne => match am_norm s.2.1 a with
    | (k, []) => (match am_z k with
      | true => none
      | false => some s)
    | b => match am_prove s.2.1 s.2.2.1 b with
      | true => am_ref s (am_add 1 (-1, []) b)
      | false => match am_prove s.2.1 s.2.2.1 (am_add (-1) (0, []) b) with
        | true => am_ref s (am_add (-1) (-1, []) b)
        | false => some s
theorem am_way_spec {xs : List Int32} {s : am_S} {r : am_V} {h : cm_H} (hr : am_Rg r) (hw : am_wf s) (hs : am_holds xs s r h) {c : ClassFile.Cond} {a : am_L} (hc : am_All s.1 r (fun q => am_cond c (am_ev q a))) :
    ∃ s', am_way s c a = some s' ∧ s'.1 = s.1 ∧ am_wf s' ∧ am_holds xs s' r h := by
  have go : ∀ b : am_L, am_All s.1 r (fun q => 0 ≤ am_ev q b) → ∃ s', am_ref s b = some s' ∧ s'.1 = s.1 ∧ am_wf s' ∧ am_holds xs s' r h := fun b hb => by
    obtain ⟨s', h1, h2, h3⟩ := am_ref_spec hr hs hb
    exact ⟨s', h1, h2, am_ref_wf hw h1, h3⟩
  have e1 : ∀ q : am_V, am_ev q (-1, []) = -1 := fun _ => rfl
  have e0 : ∀ q : am_V, am_ev q (0, []) = 0 := fun _ => rfl
  cases c with
  | lt =>
    refine go _ (fun q hq hg => ?_)
    have h1 : am_ev q a < 0 := hc q hq hg
    show 0 ≤ _
    rw [am_add_ev, e1]; omega
  | ge => exact go _ hc
  | gt =>
    refine go _ (fun q hq hg => ?_)
    have h1 : 0 < am_ev q a := hc q hq hg
    show 0 ≤ _
    rw [am_add_ev, e1]; omega
  | le =>
    refine go _ (fun q hq hg => ?_)
    have h1 : am_ev q a ≤ 0 := hc q hq hg
    show 0 ≤ _
    rw [am_add_ev, e0]; omega
  | eq =>
    refine am_refs_spec hr _ s hw hs (fun f hm q hq hg => ?_)
    have h1 : am_ev q a = 0 := hc q hq hg
    show 0 ≤ _
    simp only [List.mem_cons, List.not_mem_nil, or_false] at hm
    rcases hm with hm | hm
    · rw [hm]; omega
    · rw [hm, am_add_ev, e0]; omega
  | ne =>
    have hn : am_All s.1 r (fun q => am_ev q (am_norm s.2.1 a) ≠ 0) := fun q hq hg => by
      have h1 : am_ev q a ≠ 0 := hc q hq hg
      show am_ev q (am_norm s.2.1 a) ≠ 0
      rw [am_norm_ev (hs q hq hg).1]; exact h1
    simp only [am_way]
    generalize am_norm s.2.1 a = b at hn
    split
    · rename_i k
      have h1 : am_ev r (k, []) ≠ 0 := am_All_here hr hn
      have h2 : am_ev r (k, []) = k := by simp [am_ev, am_ts]
      rw [h2] at h1
      split
      · rename_i hz
        exact absurd (am_z_spec hz) h1
      · exact ⟨s, rfl, rfl, hw, hs⟩
    · split
      · rename_i hp
        refine go _ (fun q hq hg => ?_)
        obtain ⟨g1, g2, _⟩ := hs q hq hg
        have := am_prove_spec g1 g2 hp
        have h1 : am_ev q b ≠ 0 := hn q hq hg
        show 0 ≤ _
        rw [am_add_ev, e1]; omega
      · split
        · rename_i hp
          refine go _ (fun q hq hg => ?_)
          obtain ⟨g1, g2, _⟩ := hs q hq hg
          have h2 := am_prove_spec g1 g2 hp
          rw [am_add_ev, e0] at h2
          have h1 : am_ev q b ≠ 0 := hn q hq hg
          show 0 ≤ _
          rw [am_add_ev, e1]; omega
        · exact ⟨s, rfl, rfl, hw, hs⟩
/-- in modes from 100 on what is not equal is less or more -/
def am_tw2 (s : am_S) (c : ClassFile.Cond) (a : am_L) : Bool := match c with
  | .ne => (match am_norm s.2.1 a with
    | (_, []) => false
    | b => am_nn (am_mode s - 100) && (am_scp s.1 a.2 && (!(am_prove s.2.1 s.2.2.1 b) && !(am_prove s.2.1 s.2.2.1 (am_add (-1) (0, []) b)))))
  | _ => false
def am_opt (o : Option am_S) (l : List am_S) : List am_S := match o with
  | some s => s :: l
  | none => l
def am_ways (s : am_S) (c : ClassFile.Cond) (a : am_L) : List am_S := match am_tw2 s c a with
  | true => am_opt (am_way s .gt a) (am_opt (am_way s .lt a) [])
  | false => am_opt (am_way s c a) []
theorem am_tw2_spec {s : am_S} {c : ClassFile.Cond} {a : am_L} (h : am_tw2 s c a = true) : c = .ne ∧ am_scp s.1 a.2 = true := by
  unfold am_tw2 at h
  split at h
  · split at h
    · simp at h
    · simp only [Bool.and_eq_true] at h
      exact ⟨rfl, h.2.1⟩
  · simp at h
theorem am_ways_spec {xs : List Int32} {s : am_S} {r : am_V} {h : cm_H} (hr : am_Rg r) (hw : am_wf s) (hs : am_holds xs s r h) {c : ClassFile.Cond} {a : am_L} (hc : am_All s.1 r (fun q => am_cond c (am_ev q a))) :
    ∃ s', s' ∈ am_ways s c a ∧ s'.1 = s.1 ∧ am_wf s' ∧ am_holds xs s' r h := by
  unfold am_ways
  cases ht : am_tw2 s c a with
  | false =>
    obtain ⟨s', h1, h2⟩ := am_way_spec hr hw hs hc
    simp only [h1, am_opt]
    exact ⟨s', List.mem_singleton.mpr rfl, h2⟩
  | true =>
    obtain ⟨hne, hsc⟩ := am_tw2_spec ht
    subst hne
    have hone : ∀ q, am_Ag s.1 r q → am_ev q a = am_ev r a := fun q hg => by
      simp only [am_ev]; rw [am_scp_ev hg a.2 hsc]
    have h0 : am_ev r a ≠ 0 := am_All_here hr hc
    simp only []
    by_cases hp : 0 < am_ev r a
    · obtain ⟨s', h1, h2⟩ := am_way_spec (c := .gt) (a := a) hr hw hs (fun q _ hg => by
        show 0 < am_ev q a
        rw [hone q hg]; exact hp)
      rw [h1]
      exact ⟨s', List.mem_cons_self .., h2⟩
    · obtain ⟨s', h1, h2⟩ := am_way_spec (c := .lt) (a := a) hr hw hs (fun q _ hg => by
        show am_ev q a < 0
        rw [hone q hg]; omega)
      rw [h1]
      refine ⟨s', ?_, h2⟩
      cases am_way s .gt a with
      | none => exact List.mem_cons_self ..
      | some s1 => exact List.mem_cons_of_mem _ (List.mem_cons_self ..)
def am_toN (pc : Nat) (lv st : List am_A) : List am_S → List am_N → List am_N
  | [], l => l
  | s :: ss, l => (pc, lv, st, s) :: am_toN pc lv st ss l
theorem am_toN_1 {pc : Nat} {lv st : List am_A} {l : List am_N} : ∀ {ss : List am_S} {s : am_S}, s ∈ ss → (pc, lv, st, s) ∈ am_toN pc lv st ss l
  | [], s, h => by simp at h
  | p :: ss, s, h => by
    rcases List.mem_cons.mp h with h | h
    · rw [h]; exact List.mem_cons_self ..
    · exact List.mem_cons_of_mem _ (am_toN_1 h)
theorem am_toN_2 {pc : Nat} {lv st : List am_A} {l : List am_N} {o : am_N} (h : o ∈ l) : ∀ {ss : List am_S}, o ∈ am_toN pc lv st ss l
  | [] => h
  | _ :: _ => List.mem_cons_of_mem _ (am_toN_2 h)
def am_ifs (s : am_S) (lv st : List am_A) (c : ClassFile.Cond) (a : am_L) (t np : Nat) : List am_N := am_toN t lv st (am_ways s c a) (am_toN np lv st (am_ways s (am_negc c) a) [])
theorem am_ifs_spec {pg : cm_G} {xs : List Int32} {K : List am_K} {ms : List (Nat × Nat)} {d : Nat} {mr : cm_M} {pc np t : Nat} {s : am_S} {lv st : List am_A} {r : am_V} {L : cm_Lv} {T T' : List Term} {h : cm_H} (hf : am_fr xs K s lv st r L T' h) {c : ClassFile.Cond} {a : am_L} {b : Bool}
    (hs : ∀ ih, cm_step pg ih d mr pc L T h = ih d mr (if b = true then t else np) L T' h) (hb : am_All s.1 r (fun q => (b = true ↔ am_cond c (am_ev q a)))) : am_Step pg xs K ms d mr pc s r L T h (am_ifs s lv st c a t np) := by
  unfold am_ifs
  cases hbb : b with
  | true =>
    obtain ⟨s', h1, h2, h3, h4⟩ := am_ways_spec (c := c) (a := a) hf.1 hf.2.1 hf.2.2.1 (fun q hq hg => (hb q hq hg).mp hbb)
    have hg : ∀ ih, cm_step pg ih d mr pc L T h = ih d mr t L T' h := fun ih => by rw [hs, hbb, if_pos rfl]
    have hfr := am_fr_same hf h2 h3 h4
    exact ⟨_, am_toN_1 h1, r, L, T', h, hg, am_later_same h2 r h, hfr⟩
  | false =>
    obtain ⟨s', h1, h2, h3, h4⟩ := am_ways_spec (c := am_negc c) (a := a) hf.1 hf.2.1 hf.2.2.1 (fun q hq hg => am_negc_spec (fun hn => by
      have := (hb q hq hg).mpr hn
      rw [hbb] at this; simp at this))
    have hg : ∀ ih, cm_step pg ih d mr pc L T h = ih d mr np L T' h := fun ih => by rw [hs, hbb, if_neg (by simp)]
    have hfr := am_fr_same hf h2 h3 h4
    exact ⟨_, am_toN_2 (am_toN_1 h1), r, L, T', h, hg, am_later_same h2 r h, hfr⟩
/-- ways of a switch: the keys from k on -/
def am_keys (s : am_S) (lv st : List am_A) (a : am_L) : Int → List Nat → List am_N
  | _, [] => []
  | k, t :: ts => match am_refs [am_add 1 (-k, []) a, am_add (-1) (k, []) a] s with
    | some s' => (t, lv, st, s') :: am_keys s lv st a (k + 1) ts
    | none => am_keys s lv st a (k + 1) ts
theorem am_keys_spec {xs : List Int32} {s : am_S} {lv st : List am_A} {r : am_V} {h : cm_H} (hr : am_Rg r) (hw : am_wf s) (hs : am_holds xs s r h) {a : am_L} {x : Int} (hx : am_All s.1 r (fun q => x = am_ev q a)) :
    ∀ (ts : List Nat) (k : Int) (j : Nat) (t : Nat), x = k + (j : Int) → cm_nth ts j = some t → ∃ s', (t, lv, st, s') ∈ am_keys s lv st a k ts ∧ s'.1 = s.1 ∧ am_wf s' ∧ am_holds xs s' r h
  | [], _, _, _, _, hn => by simp [cm_nth] at hn
  | t0 :: ts, k, 0, t, hk, hn => by
    simp only [cm_nth] at hn
    injection hn with hn
    subst hn
    obtain ⟨s', h1, h2, h3, h4⟩ := am_refs_spec hr [am_add 1 (-k, []) a, am_add (-1) (k, []) a] s hw hs (fun f hm q hq hg => by
      have e : x = am_ev q a := hx q hq hg
      have e1 : am_ev q (-k, []) = -k := by simp [am_ev, am_ts]
      have e2 : am_ev q (k, []) = k := by simp [am_ev, am_ts]
      show 0 ≤ _
      simp only [List.mem_cons, List.not_mem_nil, or_false] at hm
      rcases hm with hm | hm
      · rw [hm, am_add_ev, e1]; omega
      · rw [hm, am_add_ev, e2]; omega)
    simp only [am_keys, h1]
    exact ⟨s', List.mem_cons_self .., h2, h3, h4⟩
  | t0 :: ts, k, j + 1, t, hk, hn => by
    simp only [cm_nth] at hn
    obtain ⟨s', h1, h2⟩ := am_keys_spec hr hw hs hx ts (k + 1) j t (by omega) hn
    refine ⟨s', ?_, h2⟩
    simp only [am_keys]
    split
    · exact List.mem_cons_of_mem _ h1
    · exact h1
def am_tsw (s : am_S) (lv st : List am_A) (a : am_L) (lo hi : Int) (tg : List Nat) : Option (List am_N) := match tg with
  | [] => none
  | dflt :: tg => match am_rg s.2.1 a with
    | (l, h) => match am_nn (l - lo) && am_nn (hi - h) with
      | true => some (am_keys s lv st a lo tg)
      | false => some ((dflt, lv, st, s) :: am_keys s lv st a lo tg)
theorem am_tsw_spec {pg : cm_G} {xs : List Int32} {K : List am_K} {ms : List (Nat × Nat)} {d : Nat} {mr : cm_M} {pc : Nat} {s : am_S} {lv st : List am_A} {r : am_V} {L : cm_Lv} {T T' : List Term} {h : cm_H} (hf : am_fr xs K s lv st r L T' h) {a : am_L} {x : Int32} {lo hi : Int} {tg : List Nat} {out : List am_N}
    (hx : am_All s.1 r (fun q => x.toInt = am_ev q a)) (ho : am_tsw s lv st a lo hi tg = some out) (hlen : (tg.length : Int) = hi - lo + 2) (hs : ∀ ih, cm_step pg ih d mr pc L T h = cm_sw x.toInt lo hi tg (fun t => ih d mr t L T' h)) : am_Step pg xs K ms d mr pc s r L T h out := by
  unfold am_tsw at ho
  cases tg with
  | nil => simp at ho
  | cons dflt tg =>
    simp only [List.length_cons] at hlen
    simp only [] at ho
    have hrg := am_rg_spec (am_All_here hf.1 hf.2.2.1).1 a
    have hx0 : x.toInt = am_ev r a := am_All_here hf.1 hx
    by_cases hd : x.toInt < lo ∨ hi < x.toInt
    · have hst : ∀ ih, cm_step pg ih d mr pc L T h = ih d mr dflt L T' h := fun ih => by rw [hs]; simp only [cm_sw, hd, if_true]
      split at ho
      · rename_i hb
        simp only [Bool.and_eq_true] at hb
        have h1 := am_nn_spec hb.1
        have h2 := am_nn_spec hb.2
        omega
      · injection ho with ho
        subst ho
        exact ⟨_, List.mem_cons_self .., r, L, T', h, hst, am_later_refl _ _ _ _, hf⟩
    · have hj : x.toInt = lo + ((x.toInt - lo).toNat : Int) := by omega
      have hlt : (x.toInt - lo).toNat < tg.length := by omega
      obtain ⟨t, ht⟩ : ∃ t, cm_nth tg (x.toInt - lo).toNat = some t := by
        have : ∀ (l : List Nat) (j : Nat), j < l.length → ∃ t, cm_nth l j = some t := by
          intro l
          induction l with
          | nil => intro j hj; simp at hj
          | cons y l ih =>
            intro j hj
            cases j with
            | zero => exact ⟨y, rfl⟩
            | succ j => exact ih j (by simpa using hj)
        exact this tg _ hlt
      have hst : ∀ ih, cm_step pg ih d mr pc L T h = ih d mr t L T' h := fun ih => by rw [hs]; simp only [cm_sw, hd, if_false, ht]
      obtain ⟨s', h1, h2, h3, h4⟩ := am_keys_spec (lv := lv) (st := st) hf.1 hf.2.1 hf.2.2.1 hx tg lo _ t hj ht
      have hfr := am_fr_same hf h2 h3 h4
      split at ho
      · injection ho with ho
        subst ho
        exact ⟨_, h1, r, L, T', h, hst, am_later_same h2 r h, hfr⟩
      · injection ho with ho
        subst ho
        exact ⟨_, List.mem_cons_of_mem _ h1, r, L, T', h, hst, am_later_same h2 r h, hfr⟩
/-- ways of a switch by pairs -/
def am_prs (s : am_S) (lv st : List am_A) (a : am_L) : List (Int × Int) → List Nat → List am_N
  | (k, _) :: ps, t :: ts => (match am_refs [am_add 1 (-k, []) a, am_add (-1) (k, []) a] s with
    | some s' => (t, lv, st, s') :: am_prs s lv st a ps ts
    | none => am_prs s lv st a ps ts)
  | [], [d] => [(d, lv, st, s)]
  | _, _ => []
theorem am_prs_spec {xs : List Int32} {s : am_S} {lv st : List am_A} {r : am_V} {h : cm_H} (hr : am_Rg r) (hw : am_wf s) (hs : am_holds xs s r h) {a : am_L} {x : Int} (hx : am_All s.1 r (fun q => x = am_ev q a)) :
    ∀ (ps : List (Int × Int)) (ts : List Nat), ts.length = ps.length + 1 → ∃ t s', cm_find x ps ts = some t ∧ (t, lv, st, s') ∈ am_prs s lv st a ps ts ∧ s'.1 = s.1 ∧ am_wf s' ∧ am_holds xs s' r h
  | [], [], hl => by simp at hl
  | [], [d], _ => ⟨d, s, rfl, List.mem_singleton.mpr rfl, rfl, hw, hs⟩
  | [], _ :: _ :: _, hl => by simp at hl
  | _ :: _, [], hl => by simp at hl
  | (k, k2) :: ps, t0 :: ts, hl => by
    by_cases hk : x = k
    · obtain ⟨s', h1, h2, h3, h4⟩ := am_refs_spec hr [am_add 1 (-k, []) a, am_add (-1) (k, []) a] s hw hs (fun f hm q hq hg => by
        have e : x = am_ev q a := hx q hq hg
        have e1 : am_ev q (-k, []) = -k := by simp [am_ev, am_ts]
        have e2 : am_ev q (k, []) = k := by simp [am_ev, am_ts]
        show 0 ≤ _
        simp only [List.mem_cons, List.not_mem_nil, or_false] at hm
        rcases hm with hm | hm
        · rw [hm, am_add_ev, e1]; omega
        · rw [hm, am_add_ev, e2]; omega)
      refine ⟨t0, s', ?_, ?_, h2, h3, h4⟩
      · simp only [cm_find, hk, if_true]
      · simp only [am_prs, h1]; exact List.mem_cons_self ..
    · obtain ⟨t, s', h1, h2, h3⟩ := am_prs_spec hr hw hs hx ps ts (by simpa using hl)
      refine ⟨t, s', ?_, ?_, h3⟩
      · simp only [cm_find, hk, if_false]; exact h1
      · simp only [am_prs]
        split
        · exact List.mem_cons_of_mem _ h2
        · exact h2
def am_bra (ins : Instr) (np : Nat) (rs : List Nat) (lv st : List am_A) (s : am_S) : Option (List am_N) := match ins with
  | .ifCond c _ => (match rs, st with
    | t :: _, (0, a) :: st => some (am_ifs s lv st c a t np)
    | t :: _, (1, a) :: st => some (am_ifs s lv st c a t np)
    | _, _ => none)
  | .if_icmp c _ => (match rs, st with
    | t :: _, (0, b) :: (0, a) :: st => some (am_ifs s lv st c (am_norm s.2.1 (am_add (-1) a b)) t np)
    | _, _ => none)
  | .tableswitch _ lo hi _ => (match st with
    | (0, a) :: st => (match am_z (Int.ofNat rs.length - (hi - lo + 2)) with
      | true => am_tsw s lv st (am_norm s.2.1 a) lo hi rs
      | false => none)
    | _ => none)
  | .lookupswitch _ ps => (match st with
    | (0, a) :: st => (match Nat.beq rs.length (ps.toList.length + 1) with
      | true => some (am_prs s lv st a ps.toList rs)
      | false => none)
    | _ => none)
  | _ => none
theorem am_bra_spec {pg : cm_G} {xs : List Int32} {K : List am_K} {ms : List (Nat × Nat)} {d : Nat} {mr : cm_M} {pc np : Nat} {rs : List Nat} {s : am_S} {lv st : List am_A} {r : am_V} {L : cm_Lv} {T : List Term} {h : cm_H} (hf : am_fr xs K s lv st r L T h)
    {ins : Instr} (hat : cm_at mr.1 pc = some (ins, np, rs)) {out : List am_N} (ho : am_bra ins np rs lv st s = some out) : am_Step pg xs K ms d mr pc s r L T h out := by
  cases ins with
  | ifCond c o =>
    simp only [am_bra] at ho
    split at ho
    · rename_i t _ a st'
      injection ho with ho
      subst ho
      obtain ⟨x, T1, e1, hx, hf1⟩ := am_topI hf
      subst e1
      refine am_ifs_spec (b := cm_cb c x 0) hf1 (fun ih => by simp only [cm_step, hat, cm_one]) (fun q hq hg => ?_)
      have e : x.toInt = am_ev q a := hx q hq hg
      have h0 : x.toInt - (0 : Int32).toInt = x.toInt := by
        have : (0 : Int32).toInt = 0 := rfl
        omega
      rw [am_cb_iff, h0, e]
    · rename_i t _ a st'
      injection ho with ho
      subst ho
      obtain ⟨t1, T1, e1, ht, hf1⟩ := am_top hf
      obtain ⟨x, e2, _⟩ := am_All_here hf.1 ht
      injection e2 with e2
      subst e2; subst e1
      refine am_ifs_spec (b := cm_cb c x 0) hf1 (fun ih => by simp only [cm_step, hat, cm_one]) (fun q hq hg => ?_)
      obtain ⟨y, e3, k1, k2, k3⟩ := ht q hq hg
      injection e3 with e3
      injection e3 with e3
      subst e3
      have h0 : x.toInt - (0 : Int32).toInt = x.toInt := by
        have : (0 : Int32).toInt = 0 := rfl
        omega
      rw [am_cb_iff, h0]
      have i1 : (1 : Int32).toInt = 1 := rfl
      have i0 : (0 : Int32).toInt = 0 := rfl
      have im : (-1 : Int32).toInt = -1 := rfl
      have hsg : (0 < am_ev q a ∧ x.toInt = 1) ∨ (am_ev q a = 0 ∧ x.toInt = 0) ∨ (am_ev q a < 0 ∧ x.toInt = -1) := by
        by_cases g1 : 0 < am_ev q a
        · exact Or.inl ⟨g1, by rw [k1 g1]; exact i1⟩
        · by_cases g2 : am_ev q a = 0
          · exact Or.inr (Or.inl ⟨g2, by rw [k2 g2]; exact i0⟩)
          · exact Or.inr (Or.inr ⟨by omega, by rw [k3 (show am_ev q a < 0 by omega)]; exact im⟩)
      cases c <;> simp only [am_cond] <;> omega
    · simp at ho
  | if_icmp c o =>
    simp only [am_bra] at ho
    split at ho
    · rename_i t _ b a st'
      injection ho with ho
      subst ho
      obtain ⟨y, T1, e1, hy, hf1⟩ := am_topI hf
      obtain ⟨x, T2, e2, hx, hf2⟩ := am_topI hf1
      subst e2; subst e1
      refine am_ifs_spec (b := cm_cb c x y) hf2 (fun ih => by simp only [cm_step, hat, cm_two]) (fun q hq hg => ?_)
      have e3 : x.toInt = am_ev q a := hx q hq hg
      have e4 : y.toInt = am_ev q b := hy q hq hg
      have e5 : am_ev q (am_norm s.2.1 (am_add (-1) a b)) = x.toInt - y.toInt := by rw [am_norm_ev (hf.2.2.1 q hq hg).1, am_add_ev, e3, e4]; omega
      show _ ↔ am_cond c (am_ev q (am_norm s.2.1 (am_add (-1) a b)))
      rw [am_cb_iff, e5]
    · simp at ho
  | tableswitch p lo hi ts =>
    simp only [am_bra] at ho
    split at ho
    · rename_i a st'
      split at ho
      · rename_i hz
        have hz := am_z_spec hz
        obtain ⟨x, T1, e1, hx, hf1⟩ := am_topI hf
        subst e1
        exact am_tsw_spec hf1 (am_norm_eq hf.2.2.1 hx) ho (by have : (Int.ofNat rs.length) = (rs.length : Int) := rfl; omega) (fun ih => by simp only [cm_step, hat, cm_one])
      · simp at ho
    · simp at ho
  | lookupswitch p ps =>
    simp only [am_bra] at ho
    split at ho
    · rename_i a st'
      split at ho
      · rename_i hz
        injection ho with ho
        subst ho
        obtain ⟨x, T1, e1, hx, hf1⟩ := am_topI hf
        subst e1
        obtain ⟨t, s', h1, h2, h3, h4, h5⟩ := am_prs_spec (lv := lv) (st := st') hf.1 hf.2.1 hf.2.2.1 hx ps.toList rs (Nat.eq_of_beq_eq_true hz)
        exact ⟨_, h2, r, L, T1, h, fun ih => by simp only [cm_step, hat, cm_one, h1], am_later_same h3 r h, am_fr_same hf1 h3 h4 h5⟩
      · simp at ho
    · simp at ho
  | _ => simp [am_bra] at ho
end
