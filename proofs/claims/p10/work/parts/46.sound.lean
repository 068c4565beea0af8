noncomputable section
/-! LAYER 2, the checker is sound; contracts that it takes hold. -/
def am_dirAt (l : List (Nat × List am_Di)) (pc : Nat) : Option (List am_Di) := List.rec (motive := fun _ => Option (List am_Di)) none (fun p _ ih => Bool.rec (motive := fun _ => Option (List am_Di)) ih (some p.2) (Nat.beq p.1 pc)) l
def am_dir (K : List am_K) (ms : List (Nat × Nat)) (rk : Nat) (f0 : am_L) (cs : List (List am_Ct)) (ids : List Nat) (dsr : List am_Sr) (ax : am_X) (mi : Nat) (mr : cm_M) (ds : List (Nat × List am_Di)) (pc : Nat) (d : am_Di) (l : List am_Di) (lv st : List am_A) (dl : am_L) (s : am_S) (k : Option am_A → am_S → Bool) : Bool := match d with
  | (tag, sr, lo, hi, cand, tbs) => match tag with
    | 0 => (match am_enT K lv sr.2.2 s with
      | s1 => match am_src s1 lv none sr with
        | none => false
        | some f => match am_scp s1.1 f.2 && am_vok s1 f (lo, hi) with
          | true => am_spl (fun s' => ax mi mr ds pc (some l) lv st dl s' k) s1 f lo (hi - lo + 1).toNat
          | false => false)
    | 1 => (match am_enT K lv sr.2.2 s with
      | s1 => match am_src s1 lv none sr with
        | none => false
        | some f => match am_scp s1.1 f.2 with
          | true => am_frk1 (fun s' => ax mi mr ds pc (some l) lv st dl s' k) s1 f && am_frk1 (fun s' => ax mi mr ds pc (some l) lv st dl s' k) s1 (am_add (-1) (-1, []) f)
          | false => false)
    | 2 => ax mi mr ds pc (some l) lv st dl (am_setM s lo) k
    | 3 => (match am_lcon s lv hi.toNat with
      | some v => ax mi mr ds pc (some l) lv st dl (am_setM s (lo + v)) k
      | none => false)
    | 4 => (match am_z (am_mode s - lo) with
      | true => ax mi mr ds pc (some l) lv st dl s k
      | false => ax mi mr ds pc (some []) lv st dl s k)
    | 5 => (match st with
      | [] => (match am_try K ms rk f0 cs mi pc lv dl s k cand with
        | some b => b
        | none => ax mi mr ds pc (some l) lv [] dl s k)
      | _ => ax mi mr ds pc (some l) lv st dl s k)
    | 6 => am_rev ids s (fun s' => ax mi mr ds pc (some l) lv st dl s' k)
    | 7 => am_clo K dsr s (fun s' => ax mi mr ds pc (some l) lv st dl s' k)
    | 8 => (match tbs with
      | tb :: _ => (match Nat.ble tb.2.2.2.2.1.length tb.2.2.1.length with
        | true => am_tab K s lv tb (fun s' => ax mi mr ds pc (some l) lv st dl s' k)
        | false => false)
      | [] => false)
    | 10 => (match am_nn (am_mode s - 100) with
      | true => ax mi mr ds pc (some l) lv st dl s k
      | false => ax mi mr ds pc (some []) lv st dl s k)
    | 11 => am_fk K lo.toNat hi.toNat s (fun s' => ax mi mr ds pc (some l) lv st dl s' k)
    | 12 => am_itr K s (fun s' => ax mi mr ds pc (some l) lv st dl s' k)
    | 13 => am_xfe K s (fun s' => ax mi mr ds pc (some l) lv st dl s' k)
    | 14 => am_tip K s (fun s' => ax mi mr ds pc (some l) lv st dl s' k)
    | 15 => (match am_enT K lv sr.2.2 s with
      | s1 => match am_src s1 lv none sr with
        | none => false
        | some f => match am_scp s1.1 f.2 && am_vok s1 f (lo, hi) with
          | true => am_spl (fun s' => ax mi mr ds pc (some l) lv st dl s' k) s1 f lo (hi - lo + 1).toNat
          | false => ax mi mr ds pc (some []) lv st dl s k)
    | 9 => (match am_enT K lv sr.2.2 s with
      | s1 => match am_src s1 lv none sr with
        | none => false
        | some f => am_byt s1 f hi.toNat (fun s' => ax mi mr ds pc (some l) lv st dl s' k))
    | _ => false
def am_axS (K : List am_K) (ms : List (Nat × Nat)) (rk : Nat) (f0 : am_L) (cs : List (List am_Ct)) (dirs : List (List (List (Nat × List am_Di)))) (ids : List Nat) (dsr : List am_Sr) (ax : am_X) : am_X := fun mi mr ds pc w lv st dl s k => match w with
  | none => (match am_dirAt ds pc with
    | some l => ax mi mr ds pc (some l) lv st dl s k
    | none => am_exe K ms dirs ax mi mr ds pc lv st dl s k)
  | some [] => am_exe K ms dirs ax mi mr ds pc lv st dl s k
  | some (d :: l) => am_dir K ms rk f0 cs ids dsr ax mi mr ds pc d l lv st dl s k
noncomputable def am_ax (K : List am_K) (ms : List (Nat × Nat)) (rk : Nat) (f0 : am_L) (cs : List (List am_Ct)) (dirs : List (List (List (Nat × List am_Di)))) (ids : List Nat) (dsr : List am_Sr) (n : Nat) : am_X :=
  Nat.rec (fun _ _ _ _ _ _ _ _ _ _ => false) (fun _ ih => am_axS K ms rk f0 cs dirs ids dsr ih) n
theorem am_SX_later {pg : cm_G} {xs : List Int32} {K : List am_K} {ms : List (Nat × Nat)} {n0 : Nat} {r0 : am_V} {ax : am_X} (hX : am_SX pg xs K ms n0 r0 ax) {d mi : Nat} {mr : cm_M} {ds : List (Nat × List am_Di)} {pc : Nat} {w : Option (List am_Di)} {lv st : List am_A} {dl : am_L} {s s' : am_S} {k : Option am_A → am_S → Bool} {r r' : am_V} {L : cm_Lv} {T : List Term} {h : cm_H}
    (hmr : cm_nth pg.1 mi = some mr) (hk : ax mi mr ds pc w lv st dl s' k = true) (hl : am_later [] s s' r r' h h) (hf : am_fr xs K s' lv st r' L T h) (hdl : am_All s.1 r (fun q => am_ev q dl ≤ (d : Int))) (hn : n0 ≤ s.1) (ha : am_Ag n0 r0 r) : am_Ev pg d mr pc L T h (am_Goal xs K ms k s r h) :=
  am_Ev_mono (fun _ _ g => am_Goal_later (am_later_nil hl) g) (hX d mi mr ds pc w lv st dl s' k r' L T h hmr hk hf (am_All_more hl.1 hl.2.1 hdl) (Nat.le_trans hn hl.1) (am_Ag_trans hn ha hl.2.1))
theorem am_ax_sound {x : Term} {xs : List Int32} {K : List am_K} {ms : List (Nat × Nat)} {rk : Nat} {f0 : am_L} {cs : List (List am_Ct)} {dirs : List (List (List (Nat × List am_Di)))} {ids : List Nat} {dsr : List am_Sr} {n0 : Nat} {r0 : am_V} {μ : Int} (hx : x = .null ∨ x = .string "" 14) (hxs : xs.length ≤ 3072) (hKl : K.length ≤ 1000000)
    (hsc : am_scp n0 f0.2 = true) (hμ : am_ev r0 f0 = μ) (hC : am_HC (cm_pg x xs) xs K cs rk μ) : ∀ n : Nat, am_SX (cm_pg x xs) xs K ms n0 r0 (am_ax K ms rk f0 cs dirs ids dsr n) := by
  intro n
  induction n with
  | zero =>
    intro d mi mr ds pc w lv st dl s k r L T h _ hk
    have : false = true := hk
    simp at this
  | succ n ih =>
    intro d mi mr ds pc w lv st dl s k r L T h hmr hk hf hdl hn ha
    have hk : am_axS K ms rk f0 cs dirs ids dsr (am_ax K ms rk f0 cs dirs ids dsr n) mi mr ds pc w lv st dl s k = true := hk
    generalize am_ax K ms rk f0 cs dirs ids dsr n = ax at ih hk
    unfold am_axS at hk
    split at hk
    · split at hk
      · exact ih d mi mr ds pc _ lv st dl s k r L T h hmr hk hf hdl hn ha
      · exact am_exe_spec hx hxs hKl ih hmr hk hf hdl hn ha
    · exact am_exe_spec hx hxs hKl ih hmr hk hf hdl hn ha
    · rename_i dd l _
      obtain ⟨tag, sr, lo, hi, cand, tbs⟩ := dd
      simp only [am_dir] at hk
      have hsame : ∀ {s1 s' : am_S} {r1 : am_V}, am_later [] s s1 r r1 h h → am_fr xs K s1 lv st r1 L T h → s'.1 = s1.1 → am_wf s' → am_holds xs s' r1 h → ax mi mr ds pc (some l) lv st dl s' k = true → am_Ev (cm_pg x xs) d mr pc L T h (am_Goal xs K ms k s r h) := fun h1 h2 h3 h4 h5 h6 =>
        am_SX_later ih hmr h6 (am_later_trans h1 (am_later_same h3 _ h)) (am_fr_same h2 h3 h4 h5) hdl hn ha
      split at hk
      · obtain ⟨r1, k1, k2⟩ := am_enT_spec (xs := xs) hKl lv sr.2.2 s lv st r L T h hf
        generalize am_enT K lv sr.2.2 s = s1 at hk k1 k2
        split at hk
        · simp at hk
        · rename_i f _
          split at hk
          · rename_i hb
            simp only [Bool.and_eq_true] at hb
            have hv := am_vok_spec k2.1 k2.2.2.1 hb.2
            simp only [] at hv
            obtain ⟨s', g1, g2, g3, g4⟩ := am_spl_spec k2.1 k2.2.1 k2.2.2.1 (am_scp_one hb.1) _ lo hk hv.1 (by omega)
            exact hsame k1 k2 g2 g3 g4 g1
          · simp at hk
      · obtain ⟨r1, k1, k2⟩ := am_enT_spec (xs := xs) hKl lv sr.2.2 s lv st r L T h hf
        generalize am_enT K lv sr.2.2 s = s1 at hk k1 k2
        split at hk
        · simp at hk
        · rename_i f _
          split at hk
          · rename_i hb
            simp only [Bool.and_eq_true] at hk
            have hone := am_scp_one (r := r1) hb
            by_cases hz : 0 ≤ am_ev r1 f
            · obtain ⟨s', g1, g2, g3, g4⟩ := am_frk1_spec k2.1 k2.2.1 k2.2.2.1 (g := f) (fun q hq hg => by
                have : am_ev r1 f = am_ev q f := hone q hq hg
                show 0 ≤ am_ev q f
                omega) hk.1
              exact hsame k1 k2 g2 g3 g4 g1
            · obtain ⟨s', g1, g2, g3, g4⟩ := am_frk1_spec k2.1 k2.2.1 k2.2.2.1 (g := am_add (-1) (-1, []) f) (fun q hq hg => by
                have : am_ev r1 f = am_ev q f := hone q hq hg
                show 0 ≤ am_ev q (am_add (-1) (-1, []) f)
                rw [am_neg1]; omega) hk.2
              exact hsame k1 k2 g2 g3 g4 g1
          · simp at hk
      · obtain ⟨r1, k1, k2⟩ := am_setM_spec (xs := xs) (K := K) s lo lv st r L T h hf
        exact am_SX_later ih hmr hk k1 k2 hdl hn ha
      · split at hk
        · rename_i v _
          obtain ⟨r1, k1, k2⟩ := am_setM_spec (xs := xs) (K := K) s (lo + v) lv st r L T h hf
          exact am_SX_later ih hmr hk k1 k2 hdl hn ha
        · simp at hk
      · split at hk
        · exact ih d mi mr ds pc _ lv st dl s k r L T h hmr hk hf hdl hn ha
        · exact ih d mi mr ds pc _ lv st dl s k r L T h hmr hk hf hdl hn ha
      · split at hk
        · split at hk
          · rename_i b hb
            subst hk
            refine am_try_spec hKl hmr hC hf (fun q hq hg => ?_) hdl cand hb
            show am_ev q f0 = μ
            rw [am_scp_ev1 (am_Ag_trans hn ha hg) hsc, hμ]
          · exact ih d mi mr ds pc _ lv [] dl s k r L T h hmr hk hf hdl hn ha
        · exact ih d mi mr ds pc _ lv st dl s k r L T h hmr hk hf hdl hn ha
      · obtain ⟨s', r', g1, g2, g3⟩ := am_rev_spec hKl hf hk
        exact am_SX_later ih hmr g1 g2 g3 hdl hn ha
      · obtain ⟨s', r', g1, g2, g3⟩ := am_clo_spec hKl hf hk
        exact am_SX_later ih hmr g1 g2 g3 hdl hn ha
      · split at hk
        · split at hk
          · rename_i hb
            simp only [Nat.ble_eq] at hb
            obtain ⟨s', r', g1, g2, g3⟩ := am_tab_spec hKl hf hb hk
            exact am_SX_later ih hmr g1 g2 g3 hdl hn ha
          · simp at hk
        · simp at hk
      · split at hk
        · exact ih d mi mr ds pc _ lv st dl s k r L T h hmr hk hf hdl hn ha
        · exact ih d mi mr ds pc _ lv st dl s k r L T h hmr hk hf hdl hn ha
      · obtain ⟨s', r', g1, g2, g3⟩ := am_fk_spec hKl hf hk
        exact am_SX_later ih hmr g1 g2 g3 hdl hn ha
      · obtain ⟨s', r', g1, g2, g3⟩ := am_itr_spec hKl hf hk
        exact am_SX_later ih hmr g1 g2 g3 hdl hn ha
      · obtain ⟨s', r', g1, g2, g3⟩ := am_xfe_spec hKl hf hk
        exact am_SX_later ih hmr g1 g2 g3 hdl hn ha
      · obtain ⟨s', r', g1, g2, g3⟩ := am_tip_spec hKl hf hk
        exact am_SX_later ih hmr g1 g2 g3 hdl hn ha
      · obtain ⟨r1, k1, k2⟩ := am_enT_spec (xs := xs) hKl lv sr.2.2 s lv st r L T h hf
        generalize am_enT K lv sr.2.2 s = s1 at hk k1 k2
        split at hk
        · simp at hk
        · rename_i f _
          split at hk
          · rename_i hb
            simp only [Bool.and_eq_true] at hb
            have hv := am_vok_spec k2.1 k2.2.2.1 hb.2
            simp only [] at hv
            obtain ⟨s', g1, g2, g3, g4⟩ := am_spl_spec k2.1 k2.2.1 k2.2.2.1 (am_scp_one hb.1) _ lo hk hv.1 (by omega)
            exact hsame k1 k2 g2 g3 g4 g1
          · exact ih d mi mr ds pc _ lv st dl s k r L T h hmr hk hf hdl hn ha
      · obtain ⟨r1, k1, k2⟩ := am_enT_spec (xs := xs) hKl lv sr.2.2 s lv st r L T h hf
        generalize am_enT K lv sr.2.2 s = s1 at hk k1 k2
        split at hk
        · simp at hk
        · obtain ⟨s', r', g1, g2, g3⟩ := am_byt_spec hKl hxs k2 hk
          exact am_SX_later ih hmr g1 (am_later_trans k1 g2) g3 hdl hn ha
      · simp at hk
/-- a contract checked, from behind the first w directives of its place -/
noncomputable def am_chk (K : List am_K) (cs : List (List am_Ct)) (dirs : List (List (List (Nat × List am_Di)))) (ids : List Nat) (dsr : List am_Sr) (fuel w : Nat) (c : am_Ct) : Bool := match c with
  | ((m, pc), (e, f, o), l0, (rk, me, de), ms, alts, _) => match am_mAt m with
    | none => false
    | some mr => match am_ads f (e.length, am_pk e 0 0, [], o) with
      | none => true
      | some s0 => match am_dirAt (am_dsAt dirs m) pc with
        | none => am_ax K ms rk me cs dirs ids dsr fuel m mr (am_dsAt dirs m) pc (some []) l0 [] de s0 (am_endk K e.length [] alts)
        | some l => am_ax K ms rk me cs dirs ids dsr fuel m mr (am_dsAt dirs m) pc (some (l.drop w)) l0 [] de s0 (am_endk K e.length [] alts)
theorem am_sat_ev {r q : am_V} {a : am_A} {t : Option Term} (he : am_ev q a.2 = am_ev r a.2) (h : am_sat r a t) : am_sat q a t := by
  unfold am_sat at h ⊢
  split <;> simp_all
theorem am_scL_ev {n : Nat} {r q : am_V} (ha : am_Ag n r q) : ∀ {lv : List am_A} {L : cm_Lv}, am_scL n lv = true → am_lvs r lv L → am_lvs q lv L
  | [], [], _, _ => trivial
  | [], _ :: _, _, h => by simp [am_lvs] at h
  | _ :: _, [], _, h => by simp [am_lvs] at h
  | a :: lv, t :: L, hs, h => by
    simp only [am_scL, Bool.and_eq_true] at hs
    exact ⟨am_sat_ev (am_scp_ev1 ha hs.1) h.1, am_scL_ev ha hs.2 h.2⟩
theorem am_chk_spec {x : Term} {xs : List Int32} {K : List am_K} {cs : List (List am_Ct)} {dirs : List (List (List (Nat × List am_Di)))} {ids : List Nat} {dsr : List am_Sr} {fuel w : Nat} {c : am_Ct} (hx : x = .null ∨ x = .string "" 14) (hxs : xs.length ≤ 3072) (hKl : K.length ≤ 1000000) (hok : am_okC c = true) (hck : am_chk K cs dirs ids dsr fuel w c = true) {r : am_V} (hr : am_Rg r)
    (hC : am_HC (cm_pg x xs) xs K cs c.2.2.2.1.1 (am_ev r c.2.2.2.1.2.1)) : am_Inst (cm_pg x xs) xs K c r := by
  obtain ⟨⟨m, pc⟩, ⟨e, f, o⟩, l0, ⟨rk, me, de⟩, ms, alts, srcs⟩ := c
  simp only [am_okC, Bool.and_eq_true] at hok
  obtain ⟨o1, o2, o3, o4, o5, o6⟩ := hok
  intro d mr L h hmr hh hp hl hd
  simp only [am_chk] at hck
  have hmr' : am_mAt m = some mr := (am_mAt_eq m).trans hmr
  rw [hmr'] at hck
  simp only [] at hck
  have hb : am_holds xs (e.length, am_pk e 0 0, [], o) r h := am_hold1_all o2 hh.1 hh.2.2
  obtain ⟨s0, a1, a2, a3, a4⟩ := am_ads_spec hr f (e.length, am_pk e 0 0, [], o) trivial hb (fun g hg q hq ha => am_scF_ev ha o1 hh.2.1 g hg)
  rw [a1] at hck
  simp only [] at hck
  have hs1 : s0.1 = e.length := a2
  have hfr : am_fr xs K s0 l0 [] r L [] h := ⟨hr, a3, a4, hp, fun q _ hg => am_scL_ev (by rw [hs1] at hg; exact hg) o3 hl, fun _ _ _ => trivial⟩
  have hdl : am_All s0.1 r (fun q => am_ev q de ≤ (d : Int)) := fun q _ hg => by
    show am_ev q de ≤ (d : Int)
    rw [hs1] at hg
    rw [am_scp_ev1 hg o5]; exact hd
  have hfin : ∀ w', am_ax K ms rk me cs dirs ids dsr fuel m mr (am_dsAt dirs m) pc w' l0 [] de s0 (am_endk K e.length [] alts) = true → am_Ev (cm_pg x xs) d mr pc L [] h (am_Pst xs K e ms alts r h) := fun w' hw => by
    have := am_ax_sound (dirs := dirs) (ids := ids) (dsr := dsr) (ms := ms) (rk := rk) (f0 := me) (n0 := e.length) (r0 := r) hx hxs hKl o4 rfl hC fuel d m mr _ pc w' l0 [] de s0 _ r L [] h hmr hw hfr hdl (by rw [hs1]; exact Nat.le_refl _) (am_Ag_refl _ _)
    refine am_Ev_mono (fun v h' g => ?_) this
    obtain ⟨s', r', a, hk, hla, hr', hw', hh', hp', hre⟩ := g
    obtain ⟨al, hal, hend⟩ := am_endk_spec hk
    obtain ⟨r1, g1, g2, g3, g4⟩ := am_end1_spec hKl hend hh.1 hr (by rw [← hs1]; exact hla.2.1) (by rw [← hs1]; exact hla.1) hr' hw' hh' hp' hre
    exact ⟨al, hal, r1, g1, g2, g3, hp', hla.2.2, g4⟩
  split at hck
  · exact hfin _ hck
  · exact hfin _ hck
/-- contracts that are all checked all hold -/
theorem am_all_hold {x : Term} {xs : List Int32} {K : List am_K} {cs : List (List am_Ct)} {dirs : List (List (List (Nat × List am_Di)))} {ids : List Nat} {dsr : List am_Sr} {fuel : Nat} (hx : x = .null ∨ x = .string "" 14) (hxs : xs.length ≤ 3072) (hKl : K.length ≤ 1000000)
    (hall : ∀ (i : Nat) (c : am_Ct), am_ctAt cs i = some c → am_okC c = true ∧ ∃ w, am_chk K cs dirs ids dsr fuel w c = true) : ∀ (i : Nat) (c : am_Ct), am_ctAt cs i = some c → ∀ r : am_V, am_Rg r → am_Inst (cm_pg x xs) xs K c r := by
  have main : ∀ (rk n : Nat), ∀ (i : Nat) (c : am_Ct), am_ctAt cs i = some c → ∀ r : am_V, am_Rg r → c.2.2.2.1.1 = rk → (am_ev r c.2.2.2.1.2.1).toNat = n → am_Inst (cm_pg x xs) xs K c r := by
    intro rk
    induction rk using Nat.strongRecOn with
    | ind rk ihr =>
      intro n
      induction n using Nat.strongRecOn with
      | ind n ihn =>
        intro i c hc r hr h1 h2
        obtain ⟨hok, w, hck⟩ := hall i c hc
        refine am_chk_spec hx hxs hKl hok hck hr (fun j c' hc' => ⟨(hall j c' hc').1, fun r' hr' hm => ?_⟩)
        rcases hm with hm | ⟨hm1, hm2, hm3⟩
        · exact ihr c'.2.2.2.1.1 (by omega) _ j c' hc' r' hr' rfl rfl
        · exact ihn (am_ev r' c'.2.2.2.1.2.1).toNat (by omega) j c' hc' r' hr' (by omega) rfl
  exact fun i c hc r hr => main _ _ i c hc r hr rfl rfl
end
