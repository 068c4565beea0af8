noncomputable section
/-! LAYER 2, directives of the tape, the rest: faults, numbers' ends, a clause's end, the end; all in one. -/
def am_fle (s : am_S) (q : Nat) (b c w : am_L) : Bool := am_lt s b (97, []) || (am_lt s (102, []) b || ((match am_fG s c with
  | some g => am_leq s g (am_add 1 (-97, []) b)
  | none => false) || (Nat.beq q 20 && am_same s (am_add 1 (-97, []) b) w)))
def am_fftb (s : am_S) (q : Nat) (b c w : am_L) : Bool := match bk_num q with
  | some _ => am_lt s b (48, []) || am_lt s (57, []) b
  | none => match Nat.beq q 30 with
    | true => am_lt s b (59, []) || (am_lt s (59, []) b || (match am_fd4 s c with
      | some d => am_leq s (12, []) d.1
      | none => false))
    | false => match am_ftb s b (bk_tab q) with
      | some none => (match Nat.beq q 0 || Nat.beq q 20 with
        | true => am_fle s q b c w
        | false => true)
      | _ => false
def am_fflt (s : am_S) (sd q : Nat) (A L c w : am_L) : Bool := match bk_pro q with
  | some _ => false
  | none => match bk_eps q with
    | some _ => false
    | none => match am_leq s L A with
      | true => !(Nat.beq q 30)
      | false => match am_lt s A L, am_find s.2.1 (am_oT sd) A s.2.2.2 with
        | true, some b => am_n32 s b && am_fftb s q b c w
        | _, _ => false
theorem am_fle_spec {xs : List Int32} {s : am_S} {r : am_V} {h : cm_H} (hr : am_Rg r) (hs : am_holds xs s r h) {q : Nat} {b c w : am_L} (hg : am_fle s q b c w = true) :
    (q = 0 → ¬ (97 ≤ am_ev r b ∧ am_ev r b ≤ 102 ∧ am_ev r b - 97 < am_ev r c / 256 % 32)) ∧ (q = 20 → ¬ (97 ≤ am_ev r b ∧ am_ev r b ≤ 102 ∧ am_ev r b - 97 < am_ev r c / 256 % 32 ∧ am_ev r b - 97 ≠ am_ev r w)) := by
  simp only [am_fle, Bool.or_eq_true, Bool.and_eq_true] at hg
  rcases hg with hg | hg | hg | hg
  · have := am_lt_spec hr hs hg
    rw [am_kst] at this
    exact ⟨fun _ hn => by omega, fun _ hn => by omega⟩
  · have := am_lt_spec hr hs hg
    rw [am_kst] at this
    exact ⟨fun _ hn => by omega, fun _ hn => by omega⟩
  · split at hg
    · rename_i g hG
      have hG := am_fG_spec hr hs hG
      have := am_leq_spec hr hs hg
      rw [am_add_ev, am_kst] at this
      exact ⟨fun _ hn => by omega, fun _ hn => by omega⟩
    · simp at hg
  · have hq := Nat.eq_of_beq_eq_true hg.1
    have e : am_ev r (am_add 1 (-97, []) b) = am_ev r w := am_All_here hr (am_same_spec hs hg.2)
    rw [am_add_ev, am_kst] at e
    exact ⟨fun h0 => by omega, fun _ hn => hn.2.2.2 (by omega)⟩
theorem am_fflt_spec {xs : List Int32} {s : am_S} {r : am_V} {h : cm_H} (hr : am_Rg r) (hs : am_holds xs s r h) {sd q : Nat} {A L c w : am_L} (hg : am_fflt s sd q A L c w = true) :
    bk_step (am_tp sd h) (am_ev r L) q (am_ev r A) (am_ev r c) (am_ev r w) = .inr (180 - am_ev r A) := by
  unfold am_fflt at hg
  split at hg
  · simp at hg
  · rename_i hp
    split at hg
    · simp at hg
    · rename_i he
      split at hg
      · rename_i hle
        have hle := am_leq_spec hr hs hle
        have hq : Nat.beq q 30 = false := by simpa using hg
        exact bk_s_end hp he (am_bne hq) hle
      · split at hg
        · rename_i b hlt hfb
          have hlt := am_lt_spec hr hs hlt
          have hby := am_fby_spec hr hs hfb
          simp only [Bool.and_eq_true] at hg
          have h32 := am_n32_spec hr hs hg.1
          have h32' : bk_by (am_tp sd h) (am_ev r A) ≠ 32 := by rw [hby]; exact h32
          have hg := hg.2
          unfold am_fftb at hg
          split at hg
          · rename_i q2 hn
            simp only [Bool.or_eq_true] at hg
            refine bk_s_nf hp he hn hlt h32' (fun hd => ?_)
            rw [hby] at hd
            rcases hg with hg | hg
            · have := am_lt_spec hr hs hg
              rw [am_kst] at this; omega
            · have := am_lt_spec hr hs hg
              rw [am_kst] at this; omega
          · rename_i hn
            cases hq : Nat.beq q 30 with
            | true =>
              rw [hq] at hg
              have hq := Nat.eq_of_beq_eq_true hq
              subst hq
              simp only [Bool.or_eq_true] at hg
              refine bk_s_scf hlt h32' (fun hd => ?_)
              rw [hby] at hd
              rcases hg with hg | hg | hg
              · have := am_lt_spec hr hs hg
                rw [am_kst] at this; omega
              · have := am_lt_spec hr hs hg
                rw [am_kst] at this; omega
              · split at hg
                · rename_i d hd4
                  have hd4 := (am_fd4_spec hr hs hd4).1
                  have := am_leq_spec hr hs hg
                  rw [am_kst] at this; omega
                · simp at hg
            | false =>
              rw [hq] at hg
              simp only [] at hg
              split at hg
              · rename_i hft
                have hft := am_ftb_spec hr hs hft
                refine bk_s_f hp he hn (am_bne hq) hlt h32' (by rw [hby]; exact hft) ?_
                rw [hby]
                split at hg
                · exact am_fle_spec hr hs hg
                · rename_i hq0
                  simp only [Bool.or_eq_false_iff] at hq0
                  exact ⟨fun h0 => absurd h0 (am_bne hq0.1), fun h0 => absurd h0 (am_bne hq0.2)⟩
              · simp at hg
        · simp at hg
/-- a number's end -/
def am_fnum (s : am_S) (sd q : Nat) (A L w : am_L) : Option (Nat ⊕ am_L) := match bk_pro q, am_ffv s w with
  | some (mo, nx), some (f, v) => (match am_leq s L A || (match am_find s.2.1 (am_oT sd) A s.2.2.2 with
      | some b => am_lt s b (48, []) || am_lt s (57, []) b
      | none => false) with
    | false => none
    | true => match am_leq s v (mo, []) with
      | true => some (.inl nx)
      | false => match am_lt s (mo, []) v with
        | true => some (.inr f)
        | false => none)
  | _, _ => none
theorem am_fnum_spec {xs : List Int32} {s : am_S} {r : am_V} {h : cm_H} (hr : am_Rg r) (hs : am_holds xs s r h) {sd q : Nat} {A L w : am_L} (c : Int) {o : Nat ⊕ am_L} (hg : am_fnum s sd q A L w = some o) :
    bk_step (am_tp sd h) (am_ev r L) q (am_ev r A) c (am_ev r w) = (match o with
      | .inl nx => .inl (nx, am_ev r A, c, 0)
      | .inr f => .inr (180 - am_ev r f)) := by
  unfold am_fnum at hg
  split at hg
  · rename_i mo nx f v hp hfv
    obtain ⟨hw, hf⟩ := am_ffv_spec hr hs hfv
    split at hg
    · simp at hg
    · rename_i hb
      simp only [Bool.or_eq_true] at hb
      have hd : ¬ (am_ev r A < am_ev r L ∧ 48 ≤ bk_by (am_tp sd h) (am_ev r A) ∧ bk_by (am_tp sd h) (am_ev r A) ≤ 57) := by
        rcases hb with hb | hb
        · have := am_leq_spec hr hs hb
          omega
        · split at hb
          · rename_i b hfb
            have hby := am_fby_spec hr hs hfb
            rw [hby]
            simp only [Bool.or_eq_true] at hb
            rcases hb with hb | hb
            · have := am_lt_spec hr hs hb
              rw [am_kst] at this; omega
            · have := am_lt_spec hr hs hb
              rw [am_kst] at this; omega
          · simp at hb
      rw [bk_s_nend hp hd hw hf]
      split at hg
      · rename_i hle
        have hle := am_leq_spec hr hs hle
        rw [am_kst] at hle
        injection hg with hg
        subst hg
        exact if_pos hle
      · split at hg
        · rename_i hlt
          have hlt := am_lt_spec hr hs hlt
          rw [am_kst] at hlt
          injection hg with hg
          subst hg
          exact if_neg (by omega)
        · simp at hg
  · simp at hg
/-- the last word is this: it comes to be known -/
def am_fwd (s : am_S) (R f : am_L) (m : Int) (go : am_S → Bool) : Bool := match am_ads [am_add (-1) R f, am_add (-1) f R] s with
  | none => true
  | some s' => go (am_setM s' m)
/-- a state that comes of another, with nothing done: what a directive must show -/
def am_Nx (xs : List Int32) (K : List am_K) (s : am_S) (lv st : List am_A) (r : am_V) (L : cm_Lv) (T : List Term) (h : cm_H) (go : am_S → Bool) : Prop :=
  ∃ s' r', go s' = true ∧ am_later [] s s' r r' h h ∧ am_fr xs K s' lv st r' L T h
theorem am_Nx_same {xs : List Int32} {K : List am_K} {s s' : am_S} {lv st : List am_A} {r : am_V} {L : cm_Lv} {T : List Term} {h : cm_H} {go : am_S → Bool} (hf : am_fr xs K s lv st r L T h) (h1 : s'.1 = s.1) (h2 : am_wf s') (h3 : am_holds xs s' r h) (hk : go s' = true) : am_Nx xs K s lv st r L T h go :=
  ⟨s', r, hk, am_later_same h1 r h, am_fr_same hf h1 h2 h3⟩
theorem am_fwd_spec {xs : List Int32} {K : List am_K} {s : am_S} {lv st : List am_A} {r : am_V} {L : cm_Lv} {T : List Term} {h : cm_H} {go : am_S → Bool} (hf : am_fr xs K s lv st r L T h) {R f : am_L} {m : Int} (hp : ∀ q, am_Rg q → am_holds xs s q h → am_ev q R = am_ev q f) (hk : am_fwd s R f m go = true) : am_Nx xs K s lv st r L T h go := by
  unfold am_fwd at hk
  obtain ⟨s', k1, k2, k3, k4⟩ := am_ads_spec hf.1 [am_add (-1) R f, am_add (-1) f R] s hf.2.1 hf.2.2.1 (fun g hm q hq hg => by
    have e := hp q hq (am_All_more (Nat.le_refl _) hg hf.2.2.1)
    show 0 ≤ am_ev q g
    simp only [List.mem_cons, List.not_mem_nil, or_false] at hm
    rcases hm with hm | hm
    · rw [hm, am_add_ev]; omega
    · rw [hm, am_add_ev]; omega)
  rw [k1] at hk
  exact am_Nx_same hf (s' := am_setM s' m) k2 k3 (am_setM_holds k4 m) hk
/-- the end: the counts, or too many of them -/
def am_RR (a p g b : am_L) : am_L := am_add 8192 (am_add 1024 (am_add 256 a p) g) b
def am_eq2 (a b : am_L) (l : List am_L) : List am_L := am_add (-1) a b :: am_add (-1) b a :: l
def am_fend (s : am_S) (c R : am_L) : Option (List am_L) := match am_fd4 s c, am_hx s 708, am_hx s 709, am_hx s 710, am_hx s 711 with
  | some (k, P, G, B), some a, some p, some g, some b => (match am_same s R (am_RR a p g b) && (am_vok s a (0, 255) && (am_vok s p (0, 3) && (am_vok s g (0, 7) && am_vok s b (0, 15)))) with
    | false => none
    | true => match am_leq s P (3, []) && (am_leq s G (6, []) && am_leq s B (12, [])) with
      | true => some (am_eq2 a (am_add 1 (200, []) k) (am_eq2 p P (am_eq2 g G (am_eq2 b B []))))
      | false => match am_leq s (4, []) P || (am_leq s (7, []) G || am_leq s (13, []) B) with
        | true => some (am_eq2 a (197, []) (am_eq2 p (0, []) (am_eq2 g (0, []) (am_eq2 b (0, []) []))))
        | false => none)
  | _, _, _, _, _ => none
theorem am_eq2_mem {r : am_V} {a b : am_L} {l : List am_L} (he : am_ev r a = am_ev r b) (hl : ∀ f ∈ l, 0 ≤ am_ev r f) : ∀ f ∈ am_eq2 a b l, 0 ≤ am_ev r f := by
  intro f hm
  simp only [am_eq2, List.mem_cons] at hm
  rcases hm with hm | hm | hm
  · rw [hm, am_add_ev]; omega
  · rw [hm, am_add_ev]; omega
  · exact hl f hm
theorem am_fend_spec {xs : List Int32} {s : am_S} {r : am_V} {h : cm_H} (hr : am_Rg r) (hs : am_holds xs s r h) {c R : am_L} {l : List am_L} (hc : 0 ≤ am_ev r c) (hR : am_ev r R = bk_fin (am_ev r c)) (hg : am_fend s c R = some l) : ∀ f ∈ l, 0 ≤ am_ev r f := by
  unfold am_fend at hg
  split at hg
  · rename_i k P G B a p g b hd _ _ _ _
    obtain ⟨d1, d2, d3, d4⟩ := am_fd4_spec hr hs hd
    simp only [] at d1 d2 d3 d4
    split at hg
    · simp at hg
    · rename_i hb
      simp only [Bool.and_eq_true] at hb
      have e : am_ev r R = am_ev r (am_RR a p g b) := am_All_here hr (am_same_spec hs hb.1)
      simp only [am_RR, am_add_ev] at e
      have v1 := am_vok_spec hr hs hb.2.1
      have v2 := am_vok_spec hr hs hb.2.2.1
      have v3 := am_vok_spec hr hs hb.2.2.2.1
      have v4 := am_vok_spec hr hs hb.2.2.2.2
      simp only [] at v1 v2 v3 v4
      split at hg
      · rename_i hle
        simp only [Bool.and_eq_true] at hle
        have w1 := am_leq_spec hr hs hle.1
        have w2 := am_leq_spec hr hs hle.2.1
        have w3 := am_leq_spec hr hs hle.2.2
        rw [am_kst] at w1 w2 w3
        injection hg with hg
        subst hg
        unfold bk_fin at hR
        rw [if_neg (by omega)] at hR
        refine am_eq2_mem (by rw [am_add_ev, am_kst]; omega) (am_eq2_mem (by omega) (am_eq2_mem (by omega) (am_eq2_mem (by omega) (fun f hm => by simp at hm))))
      · split at hg
        · rename_i hge
          simp only [Bool.or_eq_true] at hge
          injection hg with hg
          subst hg
          have hbig : 3 < am_ev r P ∨ 6 < am_ev r G ∨ 12 < am_ev r B := by
            rcases hge with hge | hge | hge
            · have := am_leq_spec hr hs hge
              rw [am_kst] at this; omega
            · have := am_leq_spec hr hs hge
              rw [am_kst] at this; omega
            · have := am_leq_spec hr hs hge
              rw [am_kst] at this; omega
          unfold bk_fin at hR
          rw [if_pos (by omega)] at hR
          refine am_eq2_mem (by rw [am_kst]; omega) (am_eq2_mem (by rw [am_kst]; omega) (am_eq2_mem (by rw [am_kst]; omega) (am_eq2_mem (by rw [am_kst]; omega) (fun f hm => by simp at hm))))
        · simp at hg
  · simp at hg
def am_heps (s : am_S) (q : Nat) (d : Option (am_L × am_L × am_L × am_L)) : am_S := match d with
  | none => s
  | some (k, P, G, B) => am_hint (am_hint (am_hint (am_hint s 703 (am_p1 k)) 704 (match Nat.beq q 31 with
    | true => am_p1 P
    | false => P)) 705 (match Nat.beq q 32 with
    | true => am_p1 G
    | false => G)) 706 (match Nat.beq q 33 with
    | true => am_p1 B
    | false => B)
theorem am_heps_ok {xs : List Int32} {s : am_S} {r : am_V} {h : cm_H} (hw : am_wf s) (hs : am_holds xs s r h) (q : Nat) (d : Option (am_L × am_L × am_L × am_L)) : (am_heps s q d).1 = s.1 ∧ am_wf (am_heps s q d) ∧ am_holds xs (am_heps s q d) r h := by
  cases d with
  | none => exact ⟨rfl, hw, hs⟩
  | some d =>
    obtain ⟨k, P, G, B⟩ := d
    exact ⟨rfl, hw, am_hint_holds (am_hint_holds (am_hint_holds (am_hint_holds hs _ _) _ _) _ _) _ _⟩
/-- one step of the machine -/
def am_fk (K : List am_K) (kp sd : Nat) (s0 : am_S) (go : am_S → Bool) : Bool := match am_en1 K (am_en1 K s0 (am_oC sd) (am_oA sd)) (am_oC sd) (am_oL sd) with
  | s => match am_fget s sd (Nat.beq kp 4) with
    | none => false
    | some (q, A, L, c, w, R) => match kp with
      | 0 => (match am_ftok s sd q A L c w with
        | some (q2, A2, w2, v2) => (match Nat.blt q2 64 with
          | true => go (am_fgo s sd q2 A2 L c w2 v2 R)
          | false => false)
        | none => false)
      | 1 => (match am_fflt s sd q A L c w with
        | true => am_fwd s R (am_add (-1) (180, []) A) 98 go
        | false => false)
      | 2 => (match am_fnum s sd q A L w with
        | some (.inl nx) => (match Nat.blt nx 64 with
          | true => go (am_fgo s sd nx A L c (0, []) (0, []) R)
          | false => false)
        | some (.inr f) => am_fwd s R (am_add (-1) (180, []) f) 98 go
        | none => false)
      | 3 => (match bk_pro q, bk_eps q with
        | none, some d => (match am_vok s (am_add 1 (d, []) c) (0, 262143) with
          | true => go (am_heps (am_fgo s sd 30 A L (am_add 1 (d, []) c) (0, []) (0, []) R) q (am_fd4 s c))
          | false => false)
        | _, _ => false)
      | 4 => (match Nat.beq q 30, am_fend s c R with
        | true, some l => (match am_ads l s with
          | none => true
          | some s' => go (am_setM s' 0))
        | _, _ => false)
      | 5 => (match bk_pro q with
        | some _ => go s
        | none => match bk_eps q, bk_num q, am_lt s A L, am_find s.2.1 (am_oT sd) A s.2.2.2 with
          | none, some q2, true, some b => (match am_vok s b (48, 57) && Nat.blt q2 64 with
            | true => go (am_hint (am_fgo s sd q2 A L c A (0, []) R) 702 A)
            | false => false)
          | _, _, _, _ => false)
      | 6 => (match am_leq s L A && am_leq s A L with
        | true => go (am_kn s (5000000 + sd) (am_enc q L L c w) R)
        | false => false)
      | _ => false
theorem am_Nx_more {xs : List Int32} {K : List am_K} {s s1 : am_S} {lv st : List am_A} {r r1 : am_V} {L : cm_Lv} {T : List Term} {h : cm_H} {go : am_S → Bool} (hl : am_later [] s s1 r r1 h h) (hn : am_Nx xs K s1 lv st r1 L T h go) : am_Nx xs K s lv st r L T h go := by
  obtain ⟨s', r', h1, h2, h3⟩ := hn
  exact ⟨s', r', h1, am_later_trans hl h2, h3⟩
theorem am_fk_spec {xs : List Int32} {K : List am_K} (hKl : K.length ≤ 1000000) {s0 : am_S} {lv st : List am_A} {r0 : am_V} {L0 : cm_Lv} {T : List Term} {h : cm_H} (hf0 : am_fr xs K s0 lv st r0 L0 T h) {kp sd : Nat} {go : am_S → Bool} (hk : am_fk K kp sd s0 go = true) : am_Nx xs K s0 lv st r0 L0 T h go := by
  obtain ⟨r, hl, hf⟩ := am_Kn_trans (am_en1_spec (xs := xs) hKl s0 (am_oC sd) (am_oA sd)) (am_en1_spec hKl _ (am_oC sd) (am_oL sd)) lv st r0 L0 T h hf0
  refine am_Nx_more hl ?_
  unfold am_fk at hk
  generalize am_en1 K (am_en1 K s0 (am_oC sd) (am_oA sd)) (am_oC sd) (am_oL sd) = s at hk hf hl
  simp only [] at hk
  split at hk
  · simp at hk
  · rename_i q A L c w R hg
    obtain ⟨hsd, hq⟩ := am_fget_lt hg
    have hat : ∀ q0, am_Rg q0 → am_holds xs s q0 h → am_At6 sd h q0 q A L c w R := fun q0 h1 h2 => am_fget_spec h1 h2 hg
    have hgo : ∀ {q2 : Nat} {A2 c2 w2 v2 : am_L}, q2 < 64 → (∀ q0, am_Rg q0 → am_holds xs s q0 h → am_At6 sd h q0 q2 A2 L c2 w2 R) → am_holds xs (am_fgo s sd q2 A2 L c2 w2 v2 R) r h := fun h1 h2 => am_fgo_holds hsd h1 hf.2.2.1 h2
    split at hk
    · split at hk
      · rename_i q2 A2 w2 v2 ht
        split at hk
        · rename_i hb
          refine am_Nx_same hf (am_fgo_1 _ _ _ _ _ _ _ _ _) (am_fgo_wf hf.2.1) (hgo (am_blt hb) (fun q0 h1 h2 => ?_)) hk
          obtain ⟨a1, a2, a3, a4⟩ := hat q0 h1 h2
          obtain ⟨b1, b2⟩ := am_ftok_spec h1 h2 a2.2 a1.1 ht
          exact ⟨b2, a2, a3, bk_go b1 a4⟩
        · simp at hk
      · simp at hk
    · split at hk
      · rename_i ht
        refine am_fwd_spec hf (fun q0 h1 h2 => ?_) hk
        obtain ⟨a1, a2, a3, a4⟩ := hat q0 h1 h2
        have := bk_word (am_fflt_spec h1 h2 ht) a4
        rw [am_add_ev, am_kst, this]; omega
      · simp at hk
    · split at hk
      · rename_i nx ht
        split at hk
        · rename_i hb
          refine am_Nx_same hf (am_fgo_1 _ _ _ _ _ _ _ _ _) (am_fgo_wf hf.2.1) (hgo (am_blt hb) (fun q0 h1 h2 => ?_)) hk
          obtain ⟨a1, a2, a3, a4⟩ := hat q0 h1 h2
          have b1 := am_fnum_spec h1 h2 (am_ev q0 c) ht
          simp only [] at b1
          refine ⟨a1, a2, a3, ?_⟩
          rw [am_kst]
          exact bk_go b1 a4
        · simp at hk
      · rename_i f ht
        refine am_fwd_spec hf (fun q0 h1 h2 => ?_) hk
        obtain ⟨a1, a2, a3, a4⟩ := hat q0 h1 h2
        have b1 := am_fnum_spec h1 h2 (am_ev q0 c) ht
        simp only [] at b1
        have := bk_word b1 a4
        rw [am_add_ev, am_kst, this]; omega
      · simp at hk
    · split at hk
      · rename_i d hp he
        split at hk
        · rename_i hv
          have hh : am_holds xs (am_fgo s sd 30 A L (am_add 1 (d, []) c) (0, []) (0, []) R) r h := hgo (by omega) (fun q0 h1 h2 => by
            obtain ⟨a1, a2, a3, a4⟩ := hat q0 h1 h2
            have v := am_vok_spec h1 h2 hv
            simp only [] at v
            refine ⟨a1, a2, v, ?_⟩
            have := bk_go (bk_s_eps hp he) a4
            rw [am_kst, am_add_ev, am_kst]
            have e : d + 1 * am_ev q0 c = am_ev q0 c + d := by omega
            rw [e]
            exact this)
          obtain ⟨k1, k2, k3⟩ := am_heps_ok (am_fgo_wf hf.2.1) hh q (am_fd4 s c)
          exact am_Nx_same hf (k1.trans (am_fgo_1 _ _ _ _ _ _ _ _ _)) k2 k3 hk
        · simp at hk
      · simp at hk
    · split at hk
      · rename_i l hq30 hl2
        have hq30 := Nat.eq_of_beq_eq_true hq30
        subst hq30
        have hLA : L = A := by
          unfold am_fget at hg
          split at hg
          · split at hg
            · simp at hg
            · rename_i L1 hL1
              split at hg
              · simp at hg
              · split at hg
                · injection hg with hg
                  injection hg with _ hg
                  injection hg with g2 hg
                  injection hg with g3 _
                  have hL1' : some _ = some L1 := hL1
                  injection hL1' with hL1'
                  rw [← g3, ← hL1', g2]
                · simp at hg
          · simp at hg
        obtain ⟨s', k1, k2, k3, k4⟩ := am_ads_spec hf.1 l s hf.2.1 hf.2.2.1 (fun g hm q0 h1 hga => by
          have h2 : am_holds xs s q0 h := am_All_more (Nat.le_refl _) hga hf.2.2.1
          obtain ⟨a1, a2, a3, a4⟩ := hat q0 h1 h2
          have hw := bk_word (bk_s_fin (Int.le_of_eq (by rw [hLA]))) a4
          exact am_fend_spec h1 h2 a3.1 hw hl2 g hm)
        rw [k1] at hk
        exact am_Nx_same hf (s' := am_setM s' 0) k2 k3 (am_setM_holds k4 0) hk
      · simp at hk
    · split at hk
      · exact am_Nx_same hf rfl hf.2.1 hf.2.2.1 hk
      · rename_i hp
        split at hk
        · rename_i q2 b he hn hlt hfb
          split at hk
          · rename_i hb
            simp only [Bool.and_eq_true] at hb
            refine am_Nx_same hf (s' := am_hint (am_fgo s sd q2 A L c A (0, []) R) 702 A) rfl hf.2.1 (am_hint_holds (hgo (am_blt hb.2) (fun q0 h1 h2 => ?_)) _ _) hk
            obtain ⟨a1, a2, a3, a4⟩ := hat q0 h1 h2
            have v := am_vok_spec h1 h2 hb.1
            simp only [] at v
            have hby := am_fby_spec h1 h2 hfb
            exact ⟨a1, a2, a3, bk_go (bk_s_num hp he hn (am_lt_spec h1 h2 hlt) (by rw [hby]; exact v.1) (by rw [hby]; exact v.2)) a4⟩
          · simp at hk
        · simp at hk
    · split at hk
      · rename_i hb
        simp only [Bool.and_eq_true] at hb
        refine am_Nx_same hf (s' := am_kn s (5000000 + sd) (am_enc q L L c w) R) (am_kn_1 _ _ _ _) (am_kn_wf hf.2.1) (am_fkn_holds hsd hq hf.2.2.1 (fun q0 h1 h2 => ?_)) hk
        obtain ⟨a1, a2, a3, a4⟩ := hat q0 h1 h2
        have e1 := am_leq_spec h1 h2 hb.1
        have e2 := am_leq_spec h1 h2 hb.2
        have e : am_ev q0 A = am_ev q0 L := by omega
        rw [e] at a4
        exact ⟨a2, a2, a3, a4⟩
      · simp at hk
    · simp at hk
end
