noncomputable section
/-! LAYER 2, directives: a state split by values, by a sign; a value in parts by a table; the draft's invariant opened and closed. -/
abbrev am_Tb : Type := (Nat × Nat × Nat × Nat) × Int × am_EL × am_FL × List (Nat × Nat) × am_L × List (List Int)
abbrev am_Cd : Type := Int × Int × Nat × List (Nat × Nat × Int)
abbrev am_Di : Type := Nat × am_Sr × Int × Int × List am_Cd × List am_Tb
def am_spl (go : am_S → Bool) (s : am_S) (f : am_L) : Int → Nat → Bool
  | _, 0 => true
  | v, n + 1 => match am_refs [am_add 1 (-v, []) f, am_add (-1) (v, []) f] s with
    | some s' => (match go s' with
      | true => am_spl go s f (v + 1) n
      | false => false)
    | none => am_spl go s f (v + 1) n
theorem am_spl_spec {xs : List Int32} {s : am_S} {r : am_V} {h : cm_H} (hr : am_Rg r) (hw : am_wf s) (hs : am_holds xs s r h) {f : am_L} {z : Int} (hz : am_All s.1 r (fun q => z = am_ev q f)) {go : am_S → Bool} :
    ∀ (n : Nat) (v : Int), am_spl go s f v n = true → v ≤ z → z < v + (n : Int) → ∃ s', go s' = true ∧ s'.1 = s.1 ∧ am_wf s' ∧ am_holds xs s' r h
  | 0, v, _, h1, h2 => by omega
  | n + 1, v, hg, h1, h2 => by
    simp only [am_spl] at hg
    by_cases hv : z = v
    · obtain ⟨s', k1, k2, k3, k4⟩ := am_refs_spec hr [am_add 1 (-v, []) f, am_add (-1) (v, []) f] s hw hs (fun g hm q hq hg => by
        have e : z = am_ev q f := hz q hq hg
        have e1 : am_ev q (-v, []) = -v := by simp [am_ev, am_ts]
        have e2 : am_ev q (v, []) = v := by simp [am_ev, am_ts]
        show 0 ≤ _
        simp only [List.mem_cons, List.not_mem_nil, or_false] at hm
        rcases hm with hm | hm
        · rw [hm, am_add_ev, e1]; omega
        · rw [hm, am_add_ev, e2]; omega)
      rw [k1] at hg
      simp only [] at hg
      split at hg
      · rename_i hb
        exact ⟨s', hb, k2, k3, k4⟩
      · simp at hg
    · split at hg
      · split at hg
        · exact am_spl_spec hr hw hs hz n (v + 1) hg (by omega) (by omega)
        · simp at hg
      · exact am_spl_spec hr hw hs hz n (v + 1) hg (by omega) (by omega)
/-- a scoped form has one value -/
theorem am_scp_one {n : Nat} {r : am_V} {f : am_L} (h : am_scp n f.2 = true) : am_All n r (fun q => am_ev r f = am_ev q f) := fun q _ hg => by
  show am_ev r f = am_ev q f
  rw [am_scp_ev1 hg h]
def am_frk1 (go : am_S → Bool) (s : am_S) (g : am_L) : Bool := match am_prove s.2.1 s.2.2.1 (am_norm s.2.1 (am_add (-1) (-1, []) g)) with
  | true => true
  | false => match am_ref s g with
    | some s' => go s'
    | none => true
theorem am_frk1_spec {xs : List Int32} {s : am_S} {r : am_V} {h : cm_H} (hr : am_Rg r) (hw : am_wf s) (hs : am_holds xs s r h) {g : am_L} (hg : am_All s.1 r (fun q => 0 ≤ am_ev q g)) {go : am_S → Bool} (hk : am_frk1 go s g = true) : ∃ s', go s' = true ∧ s'.1 = s.1 ∧ am_wf s' ∧ am_holds xs s' r h := by
  unfold am_frk1 at hk
  obtain ⟨p1, p2, _⟩ := am_All_here hr hs
  split at hk
  · rename_i hp
    have := am_prove_spec p1 p2 hp
    rw [am_norm_ev p1, am_neg1] at this
    have h0 : 0 ≤ am_ev r g := am_All_here hr hg
    omega
  · obtain ⟨s', h1, h2, h3⟩ := am_ref_spec hr hs hg
    rw [h1] at hk
    exact ⟨s', hk, h2, am_ref_wf hw h1, h3⟩
/-- more facts, one by one; none: that can't be -/
def am_ads : List am_L → am_S → Option am_S
  | [], s => some s
  | a :: l, s => match am_ad1 s a with
    | some s' => am_ads l s'
    | none => none
theorem am_ads_spec {xs : List Int32} {r : am_V} {h : cm_H} (hr : am_Rg r) : ∀ (l : List am_L) (s : am_S), am_wf s → am_holds xs s r h → (∀ f ∈ l, am_All s.1 r (fun q => 0 ≤ am_ev q f)) → ∃ s', am_ads l s = some s' ∧ s'.1 = s.1 ∧ am_wf s' ∧ am_holds xs s' r h
  | [], s, hw, hs, _ => ⟨s, rfl, rfl, hw, hs⟩
  | a :: l, s, hw, hs, hl => by
    obtain ⟨s1, h1, h2, h3⟩ := am_ad1_spec hr hs (hl a (List.mem_cons_self ..))
    have hw1 := am_ad1_wf hw h1
    obtain ⟨s', h4, h5, h6, h7⟩ := am_ads_spec hr l s1 hw1 h3 (fun f hm => by rw [h2]; exact hl f (List.mem_cons_of_mem _ hm))
    simp only [am_ads, h1]
    exact ⟨s', h4, h5.trans h2, h6, h7⟩
def am_hnt (n : Nat) (k : Int) : List (Nat × Nat) → List am_O → List am_O
  | [], l => l
  | (h, st) :: hs, l => ((4000001, (Int.ofNat h + Int.ofNat st * k, [])), (0, [(n, 1)])) :: am_hnt (n + 1) k hs l
/-- a row of values as values of variables -/
def am_rowV (l : List Int) : am_V := fun v => am_nth 0 l v
def am_tabR (e1 : am_EL) (f1 : am_FL) (val : am_L) : List (List Int) → Int → Bool
  | [], _ => true
  | l :: ls, v => (am_inB l e1 && (am_z (am_ev (am_rowV l) val - v) && am_posB (am_rowV l) f1)) && am_tabR e1 f1 val ls (v + 1)
where
  am_inB : List Int → am_EL → Bool
    | [], [] => true
    | x :: l, g :: e => (am_nn (x - g.1) && (am_nn (g.2 - x) && (am_nn (g.1 + 2147483648) && am_nn (2147483647 - g.2)))) && am_inB l e
    | _, _ => false
  am_posB (r : am_V) : am_FL → Bool
    | [] => true
    | f :: l => am_nn (am_ev r f) && am_posB r l
theorem am_inB_spec : ∀ {l : List Int} {e : am_EL}, am_tabR.am_inB l e = true → am_InL (am_rowV l) e ∧ am_Rg (am_rowV l)
  | [], [], _ => ⟨fun v => by simp only [am_nth_n, am_nth_z, am_nth_s, am_rowV]; omega, fun v => by simp only [am_rowV, am_nth_n, am_nth_z, am_nth_s]; omega⟩
  | [], _ :: _, h => by simp [am_tabR.am_inB] at h
  | _ :: _, [], h => by simp [am_tabR.am_inB] at h
  | x :: l, g :: e, h => by
    simp only [am_tabR.am_inB, Bool.and_eq_true] at h
    obtain ⟨⟨h1, h2, h3, h4⟩, h5⟩ := h
    have h1 := am_nn_spec h1
    have h2 := am_nn_spec h2
    have h3 := am_nn_spec h3
    have h4 := am_nn_spec h4
    obtain ⟨i1, i2⟩ := am_inB_spec h5
    refine ⟨fun v => ?_, fun v => ?_⟩
    · cases v with
      | zero => simp only [am_nth_n, am_nth_z, am_nth_s, am_rowV]; omega
      | succ v => exact i1 v
    · cases v with
      | zero => simp only [am_nth_n, am_nth_z, am_nth_s, am_rowV]; omega
      | succ v => exact i2 v
theorem am_posB_spec {r : am_V} : ∀ {f : am_FL}, am_tabR.am_posB r f = true → am_FsL r f
  | [], _, a, hm => by simp at hm
  | f :: l, h, a, hm => by
    simp only [am_tabR.am_posB, Bool.and_eq_true] at h
    rcases List.mem_cons.mp hm with hm | hm
    · rw [hm]; exact am_nn_spec h.1
    · exact am_posB_spec h.2 a hm
theorem am_tabR_spec {e1 : am_EL} {f1 : am_FL} {val : am_L} : ∀ (ls : List (List Int)) (v : Int), am_tabR e1 f1 val ls v = true → ∀ z : Int, v ≤ z → z < v + (ls.length : Int) → ∃ r1 : am_V, am_Rg r1 ∧ am_InL r1 e1 ∧ am_FsL r1 f1 ∧ am_ev r1 val = z
  | [], v, _, z, h1, h2 => by simp at h2; omega
  | l :: ls, v, h, z, h1, h2 => by
    simp only [am_tabR, Bool.and_eq_true] at h
    obtain ⟨⟨g1, g2, g3⟩, g4⟩ := h
    by_cases hz : z = v
    · obtain ⟨i1, i2⟩ := am_inB_spec g1
      have := am_z_spec g2
      exact ⟨am_rowV l, i2, i1, am_posB_spec g3, by omega⟩
    · exact am_tabR_spec ls (v + 1) g4 z (by omega) (by simp only [List.length_cons] at h2; omega)
/-- a slot's value in parts: new variables; none: refused -/
def am_tab (K : List am_K) (s : am_S) (lv : List am_A) (t : am_Tb) (go : am_S → Bool) : Bool := match t with
  | ((c, b, st, lo), N, e1, f1, hs, val, rows) => match (match st with
      | 0 => some 0
      | _ => am_lcon s lv lo) with
    | none => false
    | some k => match (Int.ofNat b + Int.ofNat st * k).toNat with
      | i => match am_en1 K s c i with
        | s1 => match am_find s1.2.1 c (Int.ofNat i, []) s1.2.2.2 with
          | none => false
          | some x => match am_vok s1 x (0, N) && (Nat.blt c 1000000 && (am_scF e1.length f1 && (am_scp e1.length val.2 && (am_z (Int.ofNat rows.length - (N + 1)) && (am_tabR e1 f1 val rows 0 && am_scp s1.1 x.2))))) with
            | false => false
            | true => match am_aft s1 [] [] e1 f1 (am_hnt 0 k hs [((c, (Int.ofNat i, [])), val)]) with
              | none => true
              | some s2 => match am_sub (am_vars s1.1 e1.length) val with
                | w => match am_ads [am_add (-1) x w, am_add (-1) w x] s2 with
                  | none => true
                  | some s3 => go s3
theorem am_hnt_mem {k : Int} {l : List am_O} : ∀ {hs : List (Nat × Nat)} {n : Nat} {o : am_O}, o ∈ am_hnt n k hs l → o ∈ l ∨ o.1.1 = 4000001
  | [], _, _, h => Or.inl h
  | _ :: hs, n, o, h => by
    rcases List.mem_cons.mp h with h | h
    · exact Or.inr (by rw [h])
    · exact am_hnt_mem h
theorem am_hnt_sc {k : Int} {l : List am_O} {m : Nat} : ∀ {hs : List (Nat × Nat)} {n : Nat}, n + hs.length ≤ m → am_scO m l = true → am_scO m (am_hnt n k hs l) = true
  | [], _, _, h => h
  | (a, b) :: hs, n, hn, h => by
    simp only [List.length_cons] at hn
    have hlt : Nat.blt n m = true := by
      have : n < m := by omega
      simpa [Nat.blt_eq] using this
    have ih := am_hnt_sc (k := k) (l := l) (hs := hs) (n := n + 1) (by omega) h
    simp only [am_hnt, am_scO, am_scp_n, am_scp_c, hlt, ih]
    rfl
theorem am_tab_spec {xs : List Int32} {K : List am_K} (hKl : K.length ≤ 1000000) {s : am_S} {lv0 lv st : List am_A} {r : am_V} {L : cm_Lv} {T : List Term} {h : cm_H} (hf : am_fr xs K s lv st r L T h) {t : am_Tb} {go : am_S → Bool} (hlen : t.2.2.2.2.1.length ≤ t.2.2.1.length) (hk : am_tab K s lv0 t go = true) :
    ∃ s' r', go s' = true ∧ am_later [] s s' r r' h h ∧ am_fr xs K s' lv st r' L T h := by
  obtain ⟨⟨c, b, stp, lo⟩, N, e1, f1, hs, val, rows⟩ := t
  simp only [am_tab] at hk
  split at hk
  · simp at hk
  · rename_i k _
    generalize hi : (Int.ofNat b + Int.ofNat stp * k).toNat = i at hk
    obtain ⟨r1, k1, k2⟩ := am_en1_spec (xs := xs) hKl s c i lv st r L T h hf
    generalize am_en1 K s c i = s1 at hk k1 k2
    split at hk
    · simp at hk
    · rename_i x hx
      split at hk
      · simp at hk
      · rename_i hb
        simp only [Bool.and_eq_true] at hb
        obtain ⟨g1, g2, g3, g4, g5, g6, g7⟩ := hb
        have g1 := am_vok_spec k2.1 k2.2.2.1 g1
        have g2 := am_blt g2
        have g5 := am_z_spec g5
        have hrl : Int.ofNat rows.length = (rows.length : Int) := rfl
        simp only [] at g1
        obtain ⟨ρ, q1, q2, q3, q4⟩ := am_tabR_spec rows 0 g6 (am_ev r1 x) (by omega) (by omega)
        obtain ⟨p1, p2, p3⟩ := am_All_here k2.1 k2.2.2.1
        obtain ⟨j, hj, he⟩ := am_find_spec p1 _ _ hx
        have hslE := (p3 _ hj).1 (by simp only []; omega)
        obtain ⟨y1, y, y2, y3⟩ := hslE
        simp only [he] at y1 y2
        have hei : am_ev r1 (Int.ofNat i, []) = (i : Int) := by simp [am_ev, am_ts]
        rw [hei] at y1 y2
        have ho1 : am_ov xs h ρ (am_hnt 0 k hs [((c, (Int.ofNat i, [])), val)]) := fun o hm => by
          rcases am_hnt_mem hm with hm | hm
          · simp only [List.mem_cons, List.not_mem_nil, or_false] at hm
            rw [hm]
            have hei2 : am_ev ρ (Int.ofNat i, []) = (i : Int) := by simp [am_ev, am_ts]
            refine am_ent_slot (by simp only []; omega) ⟨by simp only [hei2]; omega, y, by simp only [hei2]; exact y2, ?_⟩
            simp only [] at y3 ⊢
            rw [y3, q4]
          · exact am_ent_any (by rw [hm]; omega) (by rw [hm]; omega)
        have hsc1 : am_scO e1.length (am_hnt 0 k hs [((c, (Int.ofNat i, [])), val)]) = true := by
          refine am_hnt_sc (by simpa using hlen) ?_
          have : Nat.blt c 2000000 = true := by
            have : c < 2000000 := by omega
            simpa [Nat.blt_eq] using this
          simp only [am_scO, am_scp_n, am_scp_c, g4, this]
          rfl
        have hl : h.length ≤ 1000000 := by rw [hf.2.2.2.1.1]; exact hKl
        obtain ⟨s2, r2, a1, a2, a3, a4, a5, a6⟩ := am_aft_spec (e0 := []) (σ := []) (ms := []) k2.1 k2.2.1 k2.2.2.1 hl (fun v => rfl) rfl q1 (fun v hv => by simp at hv) ⟨q2, q3, ho1⟩ (am_out_refl [] h) (by simpa using g3) (by simpa using hsc1)
        rw [a1] at hk
        simp only [] at hk
        have hval : am_All s2.1 r2 (fun q => am_ev q (am_sub (am_vars s1.1 e1.length) val) = am_ev q x) := fun q hq hg => by
          show am_ev q (am_sub (am_vars s1.1 e1.length) val) = am_ev q x
          have h6 := a6 q hq hg
          simp only [List.nil_append, List.length_nil, Nat.zero_add] at h6
          rw [am_sub_ev, ← am_scp_ev1 h6 g4, q4]
          have hg1 : am_Ag s1.1 r1 q := am_Ag_trans a4.1 a4.2.1 hg
          rw [am_scp_ev1 hg1 g7]
        obtain ⟨s3, c1, c2, c3, c4⟩ := am_ads_spec a3 [am_add (-1) x (am_sub (am_vars s1.1 e1.length) val), am_add (-1) (am_sub (am_vars s1.1 e1.length) val) x] s2 a2 a5 (fun f hm q hq hg => by
          have e := hval q hq hg
          simp only [] at e
          show 0 ≤ _
          simp only [List.mem_cons, List.not_mem_nil, or_false] at hm
          rcases hm with hm | hm
          · rw [hm, am_add_ev]; omega
          · rw [hm, am_add_ev]; omega)
        rw [c1] at hk
        refine ⟨s3, r2, hk, am_later_trans k1 (am_later_trans a4 (am_later_same c2 r2 h)), a3, c3, c4, k2.2.2.2.1, ?_, ?_⟩
        · rw [c2]; exact am_All_more a4.1 a4.2.1 k2.2.2.2.2.1
        · rw [c2]; exact am_All_more a4.1 a4.2.1 k2.2.2.2.2.2
end
