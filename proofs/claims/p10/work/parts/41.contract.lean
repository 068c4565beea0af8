noncomputable section
/-! LAYER 2, contracts: what a run from a place in a method comes to; how one is used. -/
/-- where a value is looked for: 0 a variable, 1 a slot, 2 a hint, 3 a hint by a variable, 4 a slot by a variable, 5 the result, 6 a table of a slot, else a hint -/
abbrev am_At : Type := Nat × Nat × Nat × Nat × Nat × List Int
abbrev am_Sr : Type := Int × Int × List (Int × am_At)
/-- an end: ranges of new variables, facts, entries, the result, where the new variables are looked for -/
abbrev am_Al : Type := am_EL × am_FL × List am_O × Option am_A × List am_Sr
/-- a contract: method and pc; ranges, facts, entries; variables; rank, measure, depth; slots that may change; ends; where its variables are looked for -/
abbrev am_Ct : Type := (Nat × Nat) × (am_EL × am_FL × List am_O) × List am_A × (Nat × am_L × am_L) × List (Nat × Nat) × List am_Al × List am_Sr
def am_res1 (r : am_V) (a : Option am_A) (v : Option Term) : Prop := match a with
  | none => v = none
  | some a => ∃ t, v = some t ∧ am_sat r a (some t)
def am_Pst (xs : List Int32) (K : List am_K) (e0 : am_EL) (ms : List (Nat × Nat)) (alts : List am_Al) (r : am_V) (h : cm_H) (v : Option Term) (h' : cm_H) : Prop :=
  ∃ al ∈ alts, ∃ r1 : am_V, am_Rg r1 ∧ am_Ag e0.length r r1 ∧ am_hold1 xs (e0 ++ al.1) al.2.1 al.2.2.1 r1 h' ∧ am_heap K h' ∧ am_out ms h h' ∧ am_res1 r1 al.2.2.2.1 v
def am_Inst (pg : cm_G) (xs : List Int32) (K : List am_K) (c : am_Ct) (r : am_V) : Prop :=
  ∀ (d : Nat) (mr : cm_M) (L : cm_Lv) (h : cm_H), cm_nth pg.1 c.1.1 = some mr → am_hold1 xs c.2.1.1 c.2.1.2.1 c.2.1.2.2 r h → am_heap K h → am_lvs r c.2.2.1 L → am_ev r c.2.2.2.1.2.2 ≤ (d : Int) →
    am_Ev pg d mr c.1.2 L [] h (am_Pst xs K c.2.1.1 c.2.2.2.2.1 c.2.2.2.2.2.1 r h)
def am_okR (n : Nat) (a : Option am_A) : Bool := match a with
  | none => true
  | some (0, f) => am_scp n f.2
  | some _ => false
def am_okA (n : Nat) : List am_Al → Bool
  | [] => true
  | al :: l => (am_scF (n + al.1.length) al.2.1 && (am_scO (n + al.1.length) al.2.2.1 && am_okR (n + al.1.length) al.2.2.2.1)) && am_okA n l
def am_scL (n : Nat) : List am_A → Bool
  | [] => true
  | a :: l => am_scp n a.2.2 && am_scL n l
/-- a contract's forms speak of its own variables alone -/
def am_okC (c : am_Ct) : Bool := match c with
  | (_, (e, f, o), lv, (_, me, de), _, alts, _) => am_scF e.length f && (am_scO e.length o && (am_scL e.length lv && (am_scp e.length me.2 && (am_scp e.length de.2 && am_okA e.length alts))))
theorem am_okA_mem {n : Nat} : ∀ {l : List am_Al}, am_okA n l = true → ∀ al ∈ l, am_scF (n + al.1.length) al.2.1 = true ∧ am_scO (n + al.1.length) al.2.2.1 = true ∧ am_okR (n + al.1.length) al.2.2.2.1 = true
  | [], _, al, h => by simp at h
  | a :: l, h, al, hm => by
    simp only [am_okA, Bool.and_eq_true] at h
    rcases List.mem_cons.mp hm with hm | hm
    · rw [hm]; exact h.1
    · exact am_okA_mem h.2 al hm
def am_vars (n : Nat) : Nat → List am_L
  | 0 => []
  | k + 1 => (0, [(n, 1)]) :: am_vars (n + 1) k
theorem am_nth_vars (d : am_L) : ∀ (k n j : Nat), j < k → am_nth d (am_vars n k) j = (0, [(n + j, 1)])
  | 0, n, j, h => by omega
  | k + 1, n, 0, h => rfl
  | k + 1, n, j + 1, h => by
    simp only [am_vars, am_nth_n, am_nth_z, am_nth_s]
    rw [am_nth_vars d k (n + 1) j (by omega)]
    have : n + 1 + j = n + (j + 1) := by omega
    rw [this]
theorem am_nth_app1 {α : Type} (d : α) : ∀ (l m : List α) (v : Nat), v < l.length → am_nth d (l ++ m) v = am_nth d l v
  | [], _, _, h => by simp at h
  | _ :: _, _, 0, _ => rfl
  | _ :: l, m, v + 1, h => am_nth_app1 d l m v (by simpa using h)
theorem am_nth_app2 {α : Type} (d : α) : ∀ (l m : List α) (j : Nat), am_nth d (l ++ m) (l.length + j) = am_nth d m j
  | [], _, j => by simp
  | _ :: l, m, j => by
    have : (l.length + 1) + j = (l.length + j) + 1 := by omega
    simp only [List.cons_append, List.length_cons, this, am_nth_n, am_nth_z, am_nth_s]
    exact am_nth_app2 d l m j
def am_subO (σ : List am_L) : List am_O → List am_O → List am_O
  | [], l => l
  | o :: os, l => ((o.1.1, am_sub σ o.1.2), am_sub σ o.2) :: am_subO σ os l
theorem am_subO_mem {σ : List am_L} {l : List am_O} : ∀ {os : List am_O} {p : am_O}, p ∈ am_subO σ os l → p ∈ l ∨ ∃ o ∈ os, p = ((o.1.1, am_sub σ o.1.2), am_sub σ o.2)
  | [], p, h => Or.inl h
  | o :: os, p, h => by
    rcases List.mem_cons.mp h with h | h
    · exact Or.inr ⟨o, List.mem_cons_self .., h⟩
    · rcases am_subO_mem h with h | ⟨q, h1, h2⟩
      · exact Or.inl h
      · exact Or.inr ⟨q, List.mem_cons_of_mem _ h1, h2⟩
def am_addsS (σ : List am_L) : am_FL → am_S → Option am_S
  | [], s => some s
  | f :: l, s => match am_ad1 s (am_sub σ f) with
    | some s' => am_addsS σ l s'
    | none => none
theorem am_addsS_spec {xs : List Int32} {r : am_V} {h : cm_H} (hr : am_Rg r) {σ : List am_L} : ∀ (l : am_FL) (s : am_S), am_wf s → am_holds xs s r h → (∀ f ∈ l, am_All s.1 r (fun q => 0 ≤ am_ev q (am_sub σ f))) → ∃ s', am_addsS σ l s = some s' ∧ s'.1 = s.1 ∧ am_wf s' ∧ am_holds xs s' r h
  | [], s, hw, hs, _ => ⟨s, rfl, rfl, hw, hs⟩
  | a :: l, s, hw, hs, hl => by
    obtain ⟨s1, h1, h2, h3⟩ := am_ad1_spec hr hs (hl a (List.mem_cons_self ..))
    have hw1 := am_ad1_wf hw h1
    obtain ⟨s', h4, h5, h6, h7⟩ := am_addsS_spec hr l s1 hw1 h3 (fun f hm => by rw [h2]; exact hl f (List.mem_cons_of_mem _ hm))
    simp only [am_addsS, h1]
    exact ⟨s', h4, h5.trans h2, h6, h7⟩
theorem am_Ag_symm {n : Nat} {r q : am_V} (h : am_Ag n r q) : am_Ag n q r := fun v hv => (h v hv).symm
theorem am_scO_mem {n : Nat} : ∀ {l : List am_O}, am_scO n l = true → ∀ o ∈ l, o.1.1 < 2000000 ∨ 3000000 ≤ o.1.1
  | [], _, o, h => by simp at h
  | p :: l, h, o, hm => by
    simp only [am_scO, Bool.and_eq_true, Bool.or_eq_true] at h
    rcases List.mem_cons.mp hm with hm | hm
    · rw [hm]
      rcases h.1.2.2 with h1 | h1
      · exact Or.inl (am_blt h1)
      · simp only [Nat.ble_eq] at h1; exact Or.inr h1
    · exact am_scO_mem h.2 o hm
theorem am_ent_sub {xs : List Int32} {h : cm_H} {q : am_V} {σ : List am_L} {o : am_O} (hc : o.1.1 < 2000000 ∨ 3000000 ≤ o.1.1) (he : am_ent xs h (am_rho q σ) o) : am_ent xs h q ((o.1.1, am_sub σ o.1.2), am_sub σ o.2) := by
  refine ⟨fun hlt => ?_, fun h1 h2 => ?_, he.2.2.1, fun h55 => ?_⟩
  · obtain ⟨k1, y, k2, k3⟩ := he.1 hlt
    refine ⟨by simp only [am_sub_ev]; exact k1, y, by simp only [am_sub_ev]; exact k2, by simp only [am_sub_ev]; exact k3⟩
  · simp only [] at h1 h2
    omega
  · have h6 := he.2.2.2 h55
    unfold am_fe at h6 ⊢
    simp only [am_sub_ev]
    exact h6
/-- two lists as one -/
def am_app {α : Type} (l m : List α) : List α := List.rec (motive := fun _ => List α) m (fun x _ ih => x :: ih) l
theorem am_app_is {α : Type} (m : List α) : ∀ l : List α, am_app l m = l ++ m
  | [] => rfl
  | x :: l => by
    show x :: am_app l m = x :: (l ++ m)
    rw [am_app_is m l]
/-- the state behind a contract's end -/
def am_aft (s : am_S) (σ : List am_L) (ms : List (Nat × Nat)) (e1 : am_EL) (f1 : am_FL) (o1 : List am_O) : Option am_S := match s with
  | (n, e, fs, ov) => match am_app σ (am_vars n e1.length) with
    | τ => am_addsS τ f1 (n + e1.length, am_pk e1 e n, fs, am_subO τ o1 (am_flt ms ov))
theorem am_aft_spec {xs : List Int32} {s : am_S} {r : am_V} {h h' : cm_H} (hr : am_Rg r) (hw : am_wf s) (hs : am_holds xs s r h) (hl : h.length ≤ 1000000) {σ : List am_L} (hsc : ∀ v : Nat, am_scp s.1 (am_nth (0, []) σ v).2 = true) {ms : List (Nat × Nat)} {e0 e1 : am_EL} {f1 : am_FL} {o1 : List am_O} (hσ : σ.length = e0.length)
    {r1 : am_V} (hr1 : am_Rg r1) (hag : am_Ag e0.length (am_rho r σ) r1) (hh : am_hold1 xs (e0 ++ e1) f1 o1 r1 h') (hout : am_out ms h h') (hf1 : am_scF (e0.length + e1.length) f1 = true) (ho1 : am_scO (e0.length + e1.length) o1 = true) :
    ∃ (s' : am_S) (r' : am_V), am_aft s σ ms e1 f1 o1 = some s' ∧ am_wf s' ∧ am_Rg r' ∧ am_later ms s s' r r' h h' ∧ am_holds xs s' r' h' ∧ ∀ q, am_Rg q → am_Ag s'.1 r' q → am_Ag (e0.length + e1.length) (am_rho q (σ ++ am_vars s.1 e1.length)) r1 := by
  obtain ⟨n, e, fs, ov⟩ := s
  have hsc : ∀ v : Nat, am_scp n (am_nth (0, []) σ v).2 = true := hsc
  obtain ⟨r', hr'⟩ : ∃ r' : am_V, ∀ v, r' v = if v < n then r v else r1 (e0.length + (v - n)) := ⟨_, fun _ => rfl⟩
  have hRg' : am_Rg r' := fun v => by
    rw [hr' v]
    split
    · exact hr v
    · exact hr1 _
  have hlow : am_Ag n r r' := fun v hv => by rw [hr' v, if_pos hv]
  have hrho : ∀ q, am_Ag (n + e1.length) r' q → am_Ag (e0.length + e1.length) (am_rho q (σ ++ am_vars n e1.length)) r1 := fun q hq v hv => by
    have hqn : am_Ag n r q := am_Ag_trans (Nat.le_refl n) hlow (fun u hu => hq u (by omega))
    by_cases hv0 : v < e0.length
    · have e2 : am_rho q (σ ++ am_vars n e1.length) v = am_rho r σ v := by
        simp only [am_rho]
        rw [am_nth_app1 _ _ _ _ (by omega), am_scp_ev1 hqn (hsc v)]
      rw [e2]; exact hag v hv0
    · obtain ⟨j, hj⟩ : ∃ j, v = e0.length + j := ⟨v - e0.length, by omega⟩
      have e2 : am_rho q (σ ++ am_vars n e1.length) v = q (n + j) := by
        simp only [am_rho]
        rw [hj, ← hσ, am_nth_app2, am_nth_vars _ _ _ _ (by omega)]
        simp [am_ev, am_ts]
      rw [e2, hq (n + j) (by omega), hr' (n + j), if_neg (by omega)]
      have : n + j - n = j := by omega
      rw [this, hj]
  have hbase : am_holds xs (n + e1.length, am_pk e1 e n, fs, am_subO (σ ++ am_vars n e1.length) o1 (am_flt ms ov)) r' h' := by
    intro q hq hg
    have hqn : am_Ag n r q := am_Ag_trans (Nat.le_refl n) hlow (fun u hu => hg u (by show u < n + e1.length; omega))
    obtain ⟨a1, a2, a3⟩ := hs q hq hqn
    have hqr := hrho q hg
    refine ⟨?_, a2, fun p hp => ?_⟩
    · refine am_pk_In e1 e n a1 (fun j hj => ?_)
      have h1 := hh.1 (e0.length + j)
      rw [am_nth_app2] at h1
      have hv2 : n + j < n + e1.length := by omega
      have e2 : q (n + j) = r1 (e0.length + j) := by
        rw [hg (n + j) hv2, hr' (n + j), if_neg (by omega)]
        have : n + j - n = j := by omega
        rw [this]
      rw [e2]
      exact h1
    · rcases am_subO_mem hp with hp | ⟨o, ho, hp⟩
      · exact am_flt_ov hl hout a3 p hp
      · rw [hp]
        exact am_ent_sub (am_scO_mem ho1 o ho) (am_scO_ev (am_Ag_symm hqr) ho1 hh.2.2 o ho)
  obtain ⟨s', k1, k2, k3, k4⟩ := am_addsS_spec hRg' (σ := σ ++ am_vars n e1.length) f1 _ trivial hbase (fun f hf q hq hg => by
    show 0 ≤ am_ev q (am_sub (σ ++ am_vars n e1.length) f)
    rw [am_sub_ev]
    exact am_scF_ev (am_Ag_symm (hrho q hg)) hf1 hh.2.1 f hf)
  refine ⟨s', r', (by simp only [am_aft, am_app_is]; exact k1), k3, hRg', ⟨?_, hlow, hout⟩, k4, fun q hq hg => ?_⟩
  · rw [k2]; exact Nat.le_add_right _ _
  · rw [k2] at hg
    exact hrho q hg
/-- slots of one list are in another -/
def am_subP (ms : List (Nat × Nat)) : List (Nat × Nat) → Bool
  | [] => true
  | (c, j) :: l => (am_memP c j ms || am_memP c 0 ms) && am_subP ms l
theorem am_subP_spec {ms : List (Nat × Nat)} : ∀ {l : List (Nat × Nat)}, am_subP ms l = true → ∀ p ∈ l, p ∈ ms ∨ (p.1, 0) ∈ ms
  | [], _, p, h => by simp at h
  | (c, j) :: l, h, p, hm => by
    simp only [am_subP, Bool.and_eq_true, Bool.or_eq_true] at h
    rcases List.mem_cons.mp hm with hm | hm
    · rw [hm]
      rcases h.1 with h1 | h1
      · exact Or.inl (am_memP_spec h1)
      · exact Or.inr (am_memP_spec h1)
    · exact am_subP_spec h.2 p hm
theorem am_out_sub {ms ns : List (Nat × Nat)} {h h' : cm_H} (hs : am_subP ms ns = true) (a : am_out ns h h') : am_out ms h h' :=
  ⟨a.1, fun i hi j hj => a.2 i (fun hm => by
    rcases am_subP_spec hs _ hm with h1 | h1
    · exact hi h1
    · exact hi h1) j (fun hm => by
    rcases am_subP_spec hs _ hm with h1 | h1
    · exact hj h1
    · exact hi h1)⟩
def am_subR (σ : List am_L) (a : Option am_A) : Option am_A := match a with
  | some (k, f) => some (k, am_sub σ f)
  | none => none
/-- each end of a contract, gone on from -/
def am_ends (s : am_S) (σ : List am_L) (ms : List (Nat × Nat)) (k : Option am_A → am_S → Bool) : List am_Al → Bool
  | [] => true
  | al :: l => match am_aft s σ ms al.1 al.2.1 al.2.2.1 with
    | none => am_ends s σ ms k l
    | some s' => match k (am_subR (σ ++ am_vars s.1 al.1.length) al.2.2.2.1) s' with
      | true => am_ends s σ ms k l
      | false => false
theorem am_ends_mem {s : am_S} {σ : List am_L} {ms : List (Nat × Nat)} {k : Option am_A → am_S → Bool} : ∀ {l : List am_Al}, am_ends s σ ms k l = true → ∀ al ∈ l, ∀ s', am_aft s σ ms al.1 al.2.1 al.2.2.1 = some s' → k (am_subR (σ ++ am_vars s.1 al.1.length) al.2.2.2.1) s' = true
  | [], _, al, h, _, _ => by simp at h
  | a :: l, h, al, hm, s', ha => by
    simp only [am_ends] at h
    rcases List.mem_cons.mp hm with hm | hm
    · subst hm
      rw [ha] at h
      simp only [] at h
      split at h
      · assumption
      · simp at h
    · split at h
      · exact am_ends_mem h al hm s' ha
      · split at h
        · exact am_ends_mem h al hm s' ha
        · simp at h
/-- a contract taken at a state: what must hold there -/
def am_fit (s : am_S) (lv : List am_A) (σ : List am_L) (ms : List (Nat × Nat)) (rk : Nat) (f0 dl : am_L) (c : am_Ct) : Bool := match c with
  | (_, (e, f, o), l0, (rk', me, de), ms', _, _) => am_mtE s σ e && (am_mtL s σ l0 lv && (am_mtO s σ o && (am_mtF s σ f && (am_subP ms ms' && (am_prove s.2.1 s.2.2.1 (am_norm s.2.1 (am_add (-1) dl (am_sub σ de))) && (Nat.blt rk' rk || (Nat.beq rk' rk && (am_prove s.2.1 s.2.2.1 (am_norm s.2.1 (am_sub σ me)) && am_prove s.2.1 s.2.2.1 (am_norm s.2.1 (am_add (-1) (am_add 1 (-1, []) f0) (am_sub σ me)))))))))))
theorem am_apply {pg : cm_G} {xs : List Int32} {K : List am_K} {ms : List (Nat × Nat)} {d : Nat} {mr : cm_M} {s : am_S} {lv : List am_A} {r : am_V} {L : cm_Lv} {h : cm_H} (hKl : K.length ≤ 1000000) (hf : am_fr xs K s lv [] r L [] h) {c : am_Ct} (hok : am_okC c = true) {σ : List am_L} {rk : Nat} {f0 dl : am_L} {k : Option am_A → am_S → Bool} {μ : Int}
    (hmr : cm_nth pg.1 c.1.1 = some mr) (hμ : am_ev r f0 = μ) (hdl : am_ev r dl ≤ (d : Int)) (hfit : am_fit s lv σ ms rk f0 dl c = true) (hends : am_ends s σ c.2.2.2.2.1 k c.2.2.2.2.2.1 = true)
    (hI : am_Rg (am_rho r σ) → (c.2.2.2.1.1 < rk ∨ (c.2.2.2.1.1 = rk ∧ 0 ≤ am_ev (am_rho r σ) c.2.2.2.1.2.1 ∧ am_ev (am_rho r σ) c.2.2.2.1.2.1 < μ)) → am_Inst pg xs K c (am_rho r σ)) :
    am_Ev pg d mr c.1.2 L [] h (am_Goal xs K ms k s r h) := by
  obtain ⟨⟨m, pc⟩, ⟨e, f, o⟩, l0, ⟨rk', me, de⟩, ms', alts, srcs⟩ := c
  simp only [am_fit, Bool.and_eq_true, Bool.or_eq_true] at hfit
  obtain ⟨g1, g2, g3, g4, g5, g6, g7⟩ := hfit
  simp only [am_okC, Bool.and_eq_true] at hok
  obtain ⟨o1, o2, o3, o4, o5, o6⟩ := hok
  obtain ⟨p1, p2, p3⟩ := am_All_here hf.1 hf.2.2.1
  have hE := am_mtE_spec hf.1 hf.2.2.1 g1
  have hRg : am_Rg (am_rho r σ) := fun v => ⟨(hE v).2.2.1, (hE v).2.2.2⟩
  have hIn : am_InL (am_rho r σ) e := fun v => ⟨(hE v).1, (hE v).2.1⟩
  have hdep := am_prove_spec p1 p2 g6
  rw [am_norm_ev p1, am_add_ev, am_sub_ev] at hdep
  have hms : rk' < rk ∨ (rk' = rk ∧ 0 ≤ am_ev (am_rho r σ) me ∧ am_ev (am_rho r σ) me < μ) := by
    rcases g7 with g7 | ⟨g7, g8, g9⟩
    · exact Or.inl (am_blt g7)
    · have h8 := am_prove_spec p1 p2 g8
      have h9 := am_prove_spec p1 p2 g9
      rw [am_norm_ev p1, am_sub_ev] at h8
      rw [am_norm_ev p1, am_add_ev, am_add_ev, am_sub_ev] at h9
      have : am_ev r (-1, []) = -1 := rfl
      exact Or.inr ⟨Nat.eq_of_beq_eq_true g7, h8, by omega⟩
  have hinst := hI hRg hms d mr L h hmr ⟨hIn, am_mtF_spec hf.1 hf.2.2.1 g4, am_mtO_spec hf.1 hf.2.2.1 g3⟩ hf.2.2.2.1 (am_mtL_spec hf.1 hf.2.2.1 g2 (am_All_here hf.1 hf.2.2.2.2.1)) (by show am_ev (am_rho r σ) de ≤ _; omega)
  refine am_Ev_mono (fun v h' hp => ?_) hinst
  obtain ⟨al, hal, r1, q1, q2, q3, q4, q5, q6⟩ := hp
  obtain ⟨w1, w2, w3⟩ := am_okA_mem o6 al hal
  have hlen : h.length ≤ 1000000 := by rw [hf.2.2.2.1.1]; exact hKl
  obtain ⟨s', r', k1, k2, k3, k4, k5, k6⟩ := am_aft_spec hf.1 hf.2.1 hf.2.2.1 hlen (am_mtE_scp g1) (am_mtE_len g1) q1 q2 q3 q5 w1 w2
  have hk := am_ends_mem hends al hal s' k1
  refine ⟨s', r', _, hk, ⟨k4.1, k4.2.1, am_out_sub g5 k4.2.2⟩, k3, k2, k5, q4, ?_⟩
  cases hres : al.2.2.2.1 with
  | none =>
    rw [hres] at q6
    exact q6
  | some a =>
    rw [hres] at q6 w3
    obtain ⟨t, t1, t2⟩ := q6
    obtain ⟨ka, fa⟩ := a
    refine ⟨t, t1, fun q hq hg => ?_⟩
    unfold am_okR at w3
    split at w3
    · rename_i h0; simp at h0
    · rename_i f0 h0
      injection h0 with h0
      injection h0 with h1 h2
      subst h1; subst h2
      obtain ⟨x, x1, x2⟩ := t2
      refine ⟨x, x1, ?_⟩
      rw [am_sub_ev, ← am_scp_ev1 (k6 q hq hg) w3]
      exact x2
    · simp at w3
end
