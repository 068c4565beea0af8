noncomputable section
/-! LAYER 2, directives of the tape: the machine one step on; its last word comes to be known; a tape like another. -/
def am_oC (sd : Nat) : Nat := match sd with
  | 0 => 58
  | _ => 94
def am_oA (sd : Nat) : Nat := match sd with
  | 0 => 2
  | _ => 14
def am_oL (sd : Nat) : Nat := match sd with
  | 0 => 1
  | _ => 13
def am_oT (sd : Nat) : Nat := match sd with
  | 0 => 59
  | _ => 104
def am_tp (sd : Nat) (h : cm_H) : List Term := am_tms h[am_oT sd]?
theorem am_fw_tp {sd : Nat} (hsd : sd < 2) {h : cm_H} {x v : Int} : am_fw (5000000 + sd) (am_tms h[59]?) (am_tms h[104]?) x v ↔ bk_R (am_tp sd h) x v := by
  have hc : sd = 0 ∨ sd = 1 := by omega
  rcases hc with hc | hc
  · subst hc
    unfold am_fw
    rw [if_pos (by omega)]
    exact Iff.rfl
  · subst hc
    unfold am_fw
    rw [if_neg (by omega), if_pos (by omega)]
    exact Iff.rfl
def am_hx (s : am_S) (j : Nat) : Option am_L := match am_find s.2.1 4000001 (Int.ofNat j, []) s.2.2.2 with
  | some f => some (am_norm s.2.1 f)
  | none => none
def am_hint (s : am_S) (j : Nat) (v : am_L) : am_S := am_kn s 4000001 (Int.ofNat j, []) v
theorem am_hint_holds {xs : List Int32} {s : am_S} {r : am_V} {h : cm_H} (hs : am_holds xs s r h) (j : Nat) (v : am_L) : am_holds xs (am_hint s j v) r h := am_kn_any hs (by omega) (by omega) _ _
theorem am_setM_holds {xs : List Int32} {s : am_S} {r : am_V} {h : cm_H} (hs : am_holds xs s r h) (k : Int) : am_holds xs (am_setM s k) r h := am_kn_any hs (by omega) (by omega) _ _
def am_enc (q : Nat) (a L c w : am_L) : am_L := am_add 274877906944 (am_add 1048576 (am_add 128 (am_add 1 (Int.ofNat (16384 * q), []) a) L) c) w
theorem am_enc_ev (r : am_V) (q : Nat) (a L c w : am_L) : am_ev r (am_enc q a L c w) = am_ev r a + 128 * am_ev r L + 16384 * (q : Int) + 1048576 * am_ev r c + 274877906944 * am_ev r w := by
  have e : am_ev r (Int.ofNat (16384 * q), []) = 16384 * (q : Int) := by
    show ((16384 * q : Nat) : Int) + 0 = 16384 * (q : Int)
    omega
  simp only [am_enc, am_add_ev, e]
  omega
/-- less, at most -/
def am_lt (s : am_S) (a b : am_L) : Bool := am_prove s.2.1 s.2.2.1 (am_norm s.2.1 (am_add (-1) (am_add 1 (-1, []) b) a))
def am_leq (s : am_S) (a b : am_L) : Bool := am_prove s.2.1 s.2.2.1 (am_norm s.2.1 (am_add (-1) b a))
theorem am_lt_spec {xs : List Int32} {s : am_S} {r : am_V} {h : cm_H} (hr : am_Rg r) (hs : am_holds xs s r h) {a b : am_L} (hp : am_lt s a b = true) : am_ev r a < am_ev r b := by
  obtain ⟨h1, h2, _⟩ := am_All_here hr hs
  have := am_prove_spec h1 h2 hp
  rw [am_norm_ev h1, am_add_ev, am_add_ev] at this
  have e : am_ev r (-1, []) = -1 := rfl
  omega
theorem am_leq_spec {xs : List Int32} {s : am_S} {r : am_V} {h : cm_H} (hr : am_Rg r) (hs : am_holds xs s r h) {a b : am_L} (hp : am_leq s a b = true) : am_ev r a ≤ am_ev r b := by
  obtain ⟨h1, h2, _⟩ := am_All_here hr hs
  have := am_prove_spec h1 h2 hp
  rw [am_norm_ev h1, am_add_ev] at this
  omega
theorem am_bne {q n : Nat} (h : Nat.beq q n = false) : q ≠ n := fun hq => by
  have : Nat.beq q n = true := by rw [hq]; exact Nat.beq_refl n
  rw [h] at this; simp at this
theorem am_kst (r : am_V) (k : Int) : am_ev r (k, []) = k := by simp [am_ev, am_ts]
def am_mq (s : am_S) : Option Nat := match am_mode s with
  | m => match am_nn (m - 100) && am_nn (163 - m) with
    | true => some (m - 100).toNat
    | false => match am_nn (m - 200) && am_nn (263 - m) with
      | true => some (m - 200).toNat
      | false => none
def am_hw (s : am_S) : am_L := match am_hx s 701 with
  | some w => w
  | none => (0, [])
def am_fL (s : am_S) (sd : Nat) (e : Bool) (A : am_L) : Option am_L := match e with
  | true => some A
  | false => am_find s.2.1 (am_oC sd) (Int.ofNat (am_oL sd), []) s.2.2.2
/-- where the machine is: state, place, length, counts, aux, last word -/
def am_fget (s : am_S) (sd : Nat) (e : Bool) : Option (Nat × am_L × am_L × am_L × am_L × am_L) := match am_mq s, am_find s.2.1 (am_oC sd) (Int.ofNat (am_oA sd), []) s.2.2.2, am_hx s 700 with
  | some q, some A, some c => (match am_fL s sd e A with
    | none => none
    | some L => match Nat.blt sd 2 && (Nat.blt q 64 && (am_vok s A (0, 127) && (am_vok s L (0, 127) && am_vok s c (0, 262143)))) with
      | false => none
      | true => match am_find s.2.1 (5000000 + sd) (am_enc q A L c (am_hw s)) s.2.2.2 with
        | some R => some (q, A, L, c, am_hw s, R)
        | none => none)
  | _, _, _ => none
def am_At6 (sd : Nat) (h : cm_H) (r : am_V) (q : Nat) (A L c w R : am_L) : Prop :=
  (0 ≤ am_ev r A ∧ am_ev r A ≤ 127) ∧ (0 ≤ am_ev r L ∧ am_ev r L ≤ 127) ∧ (0 ≤ am_ev r c ∧ am_ev r c ≤ 262143) ∧ bk_Res (am_tp sd h) (am_ev r L) (q, am_ev r A, am_ev r c, am_ev r w) (am_ev r R)
theorem am_fget_lt {s : am_S} {sd : Nat} {e : Bool} {q : Nat} {A L c w R : am_L} (hg : am_fget s sd e = some (q, A, L, c, w, R)) : sd < 2 ∧ q < 64 := by
  unfold am_fget at hg
  split at hg
  · split at hg
    · simp at hg
    · split at hg
      · simp at hg
      · rename_i hb
        simp only [Bool.and_eq_true] at hb
        split at hg
        · injection hg with hg
          injection hg with h1 h2
          subst h1
          exact ⟨am_blt hb.1, am_blt hb.2.1⟩
        · simp at hg
  · simp at hg
theorem am_fget_spec {xs : List Int32} {s : am_S} {r : am_V} {h : cm_H} (hr : am_Rg r) (hs : am_holds xs s r h) {sd : Nat} {e : Bool} {q : Nat} {A L c w R : am_L} (hg : am_fget s sd e = some (q, A, L, c, w, R)) : am_At6 sd h r q A L c w R := by
  obtain ⟨hsd, hq⟩ := am_fget_lt hg
  unfold am_fget at hg
  split at hg
  · split at hg
    · simp at hg
    · split at hg
      · simp at hg
      · rename_i hb
        simp only [Bool.and_eq_true] at hb
        split at hg
        · rename_i R0 hR
          injection hg with hg
          injection hg with h1 hg
          injection hg with h2 hg
          injection hg with h3 hg
          injection hg with h4 hg
          injection hg with h5 h6
          subst h1; subst h2; subst h3; subst h4; subst h5; subst h6
          have v1 := am_vok_spec hr hs hb.2.2.1
          have v2 := am_vok_spec hr hs hb.2.2.2.1
          have v3 := am_vok_spec hr hs hb.2.2.2.2
          obtain ⟨p1, p2, p3⟩ := am_All_here hr hs
          obtain ⟨j, hj, he⟩ := am_find_spec p1 _ _ hR
          have hfe := (p3 _ hj).2.2.2 (by show 5000000 ≤ 5000000 + sd; omega)
          refine ⟨v1, v2, v3, ?_⟩
          have hfe2 := (am_fw_tp hsd).mp hfe
          simp only [he] at hfe2
          rw [am_enc_ev] at hfe2
          exact (bk_R_iff hq v1 v2 v3).mp hfe2
        · simp at hg
  · simp at hg
/-- the byte there -/
theorem am_fby_spec {xs : List Int32} {s : am_S} {r : am_V} {h : cm_H} (hr : am_Rg r) (hs : am_holds xs s r h) {sd : Nat} {A b : am_L} (hf : am_find s.2.1 (am_oT sd) A s.2.2.2 = some b) : bk_by (am_tp sd h) (am_ev r A) = am_ev r b := by
  obtain ⟨p1, p2, p3⟩ := am_All_here hr hs
  obtain ⟨j, hj, he⟩ := am_find_spec p1 _ _ hf
  have hlt : am_oT sd < 1000000 := by
    unfold am_oT
    split <;> omega
  obtain ⟨k1, y, k2, k3⟩ := (p3 _ hj).1 (by show am_oT sd < 2000000; omega)
  simp only [he] at k1 k2 k3
  rw [am_slot_new hlt] at k2
  unfold bk_by am_tp
  rw [k2]
  exact k3
/-- on to another state -/
def am_fgo (s : am_S) (sd q2 : Nat) (A2 L c2 w2 v2 R : am_L) : am_S := am_hint (am_hint (am_hint (am_setM (am_kn s (5000000 + sd) (am_enc q2 A2 L c2 w2) R) (100 + Int.ofNat q2)) 700 c2) 701 w2) 714 v2
theorem am_fkn_holds {xs : List Int32} {s : am_S} {r : am_V} {h : cm_H} {sd q2 : Nat} {A2 L c2 w2 R : am_L} (hsd : sd < 2) (hq2 : q2 < 64) (hs : am_holds xs s r h) (hp : ∀ q, am_Rg q → am_holds xs s q h → am_At6 sd h q q2 A2 L c2 w2 R) : am_holds xs (am_kn s (5000000 + sd) (am_enc q2 A2 L c2 w2) R) r h := by
  refine am_kn_pt hs (fun q hq hh => am_ent_fun (by show 5000000 ≤ 5000000 + sd; omega) ?_)
  obtain ⟨h1, h2, h3, h4⟩ := hp q hq hh
  show am_fw (5000000 + sd) _ _ (am_ev q (am_enc q2 A2 L c2 w2)) (am_ev q R)
  rw [am_fw_tp hsd, am_enc_ev]
  exact (bk_R_iff hq2 h1 h2 h3).mpr h4
theorem am_fgo_holds {xs : List Int32} {s : am_S} {r : am_V} {h : cm_H} {sd q2 : Nat} {A2 L c2 w2 v2 R : am_L} (hsd : sd < 2) (hq2 : q2 < 64) (hs : am_holds xs s r h) (hp : ∀ q, am_Rg q → am_holds xs s q h → am_At6 sd h q q2 A2 L c2 w2 R) : am_holds xs (am_fgo s sd q2 A2 L c2 w2 v2 R) r h :=
  am_hint_holds (am_hint_holds (am_hint_holds (am_setM_holds (am_fkn_holds hsd hq2 hs hp) _) _ _) _ _) _ _
theorem am_fgo_1 (s : am_S) (sd q2 : Nat) (A2 L c2 w2 v2 R : am_L) : (am_fgo s sd q2 A2 L c2 w2 v2 R).1 = s.1 := rfl
theorem am_fgo_wf {s : am_S} {sd q2 : Nat} {A2 L c2 w2 v2 R : am_L} (hw : am_wf s) : am_wf (am_fgo s sd q2 A2 L c2 w2 v2 R) := hw
/-- a byte against a table of bytes: which, none, not known -/
def am_ftb (s : am_S) (b : am_L) : List (Int × Int × Nat) → Option (Option Nat)
  | [] => some none
  | (lo, hi, q) :: l => match am_vok s b (lo, hi) with
    | true => some (some q)
    | false => match am_lt s b (lo, []) || am_lt s (hi, []) b with
      | true => am_ftb s b l
      | false => none
theorem am_ftb_spec {xs : List Int32} {s : am_S} {r : am_V} {h : cm_H} (hr : am_Rg r) (hs : am_holds xs s r h) {b : am_L} : ∀ {l : List (Int × Int × Nat)} {o : Option Nat}, am_ftb s b l = some o → bk_lk (am_ev r b) l = o
  | [], o, hb => by
    simp only [am_ftb] at hb
    injection hb with hb
  | (lo, hi, q) :: l, o, hb => by
    simp only [am_ftb] at hb
    simp only [bk_lk]
    split at hb
    · rename_i hv
      have hv := am_vok_spec hr hs hv
      injection hb with hb
      rw [if_pos hv]; exact hb
    · split at hb
      · rename_i hv
        simp only [Bool.or_eq_true] at hv
        have hn : ¬ (lo ≤ am_ev r b ∧ am_ev r b ≤ hi) := by
          rcases hv with hv | hv
          · have := am_lt_spec hr hs hv
            rw [am_kst] at this; omega
          · have := am_lt_spec hr hs hv
            rw [am_kst] at this; omega
        rw [if_neg hn]
        exact am_ftb_spec hr hs hb
      · simp at hb
def am_n32 (s : am_S) (b : am_L) : Bool := am_lt s b (32, []) || am_lt s (32, []) b
theorem am_n32_spec {xs : List Int32} {s : am_S} {r : am_V} {h : cm_H} (hr : am_Rg r) (hs : am_holds xs s r h) {b : am_L} (hb : am_n32 s b = true) : am_ev r b ≠ 32 := by
  simp only [am_n32, Bool.or_eq_true] at hb
  rcases hb with hb | hb
  · have := am_lt_spec hr hs hb
    rw [am_kst] at this; omega
  · have := am_lt_spec hr hs hb
    rw [am_kst] at this; omega
/-- how many goods, of the counts -/
def am_fG (s : am_S) (c : am_L) : Option am_L := match am_hx s 712, am_hx s 705, am_hx s 713 with
  | some c0, some g, some c1 => (match am_same s c (am_add 8192 (am_add 256 c0 g) c1) && (am_vok s c0 (0, 255) && (am_vok s g (0, 31) && am_leq s (0, []) c1)) with
    | true => some g
    | false => none)
  | _, _, _ => none
theorem am_fG_spec {xs : List Int32} {s : am_S} {r : am_V} {h : cm_H} (hr : am_Rg r) (hs : am_holds xs s r h) {c g : am_L} (hg : am_fG s c = some g) : am_ev r c / 256 % 32 = am_ev r g := by
  unfold am_fG at hg
  split at hg
  · rename_i c0 g0 c1 _ _ _
    split at hg
    · rename_i hb
      injection hg with hg
      subst hg
      simp only [Bool.and_eq_true] at hb
      have e : am_ev r c = _ := am_All_here hr (am_same_spec hs hb.1)
      rw [am_add_ev, am_add_ev] at e
      have v1 := am_vok_spec hr hs hb.2.1
      have v2 := am_vok_spec hr hs hb.2.2.1
      have v3 := am_leq_spec hr hs hb.2.2.2
      rw [am_kst] at v3
      simp only [] at v1 v2
      omega
    · simp at hg
  · simp at hg
/-- all counts -/
def am_fd4 (s : am_S) (c : am_L) : Option (am_L × am_L × am_L × am_L) := match am_hx s 703, am_hx s 704, am_hx s 705, am_hx s 706 with
  | some k, some P, some G, some B => (match am_same s c (am_add 8192 (am_add 256 (am_add 16 k P) G) B) && (am_vok s k (0, 15) && (am_vok s P (0, 15) && (am_vok s G (0, 31) && am_leq s (0, []) B))) with
    | true => some (k, P, G, B)
    | false => none)
  | _, _, _, _ => none
theorem am_fd4_spec {xs : List Int32} {s : am_S} {r : am_V} {h : cm_H} (hr : am_Rg r) (hs : am_holds xs s r h) {c : am_L} {d : am_L × am_L × am_L × am_L} (hg : am_fd4 s c = some d) : am_ev r c % 16 = am_ev r d.1 ∧ am_ev r c / 16 % 16 = am_ev r d.2.1 ∧ am_ev r c / 256 % 32 = am_ev r d.2.2.1 ∧ am_ev r c / 8192 = am_ev r d.2.2.2 := by
  unfold am_fd4 at hg
  split at hg
  · rename_i k0 P0 G0 B0 _ _ _ _
    split at hg
    · rename_i hb
      injection hg with hg
      subst hg
      simp only [Bool.and_eq_true] at hb
      have e : am_ev r c = _ := am_All_here hr (am_same_spec hs hb.1)
      rw [am_add_ev, am_add_ev, am_add_ev] at e
      have v1 := am_vok_spec hr hs hb.2.1
      have v2 := am_vok_spec hr hs hb.2.2.1
      have v3 := am_vok_spec hr hs hb.2.2.2.1
      have v4 := am_leq_spec hr hs hb.2.2.2.2
      rw [am_kst] at v4
      simp only [] at v1 v2 v3 ⊢
      omega
    · simp at hg
  · simp at hg
def am_p1 (a : am_L) : am_L := am_add 1 (1, []) a
theorem am_p1_ev (r : am_V) (a : am_L) : am_ev r (am_p1 a) = am_ev r a + 1 := by
  simp only [am_p1, am_add_ev, am_kst]; omega
/-- a number's first place and its value, of the aux -/
def am_ffv (s : am_S) (w : am_L) : Option (am_L × am_L) := match am_hx s 702, am_hx s 714 with
  | some f, some v => (match am_same s w (am_add 128 f v) && am_vok s f (0, 127) with
    | true => some (f, v)
    | false => none)
  | _, _ => none
theorem am_ffv_spec {xs : List Int32} {s : am_S} {r : am_V} {h : cm_H} (hr : am_Rg r) (hs : am_holds xs s r h) {w f v : am_L} (hg : am_ffv s w = some (f, v)) : am_ev r w = am_ev r f + 128 * am_ev r v ∧ (0 ≤ am_ev r f ∧ am_ev r f ≤ 127) := by
  unfold am_ffv at hg
  split at hg
  · rename_i f0 v0 _ _
    split at hg
    · rename_i hb
      injection hg with hg
      injection hg with h1 h2
      subst h1; subst h2
      simp only [Bool.and_eq_true] at hb
      have e : am_ev r w = _ := am_All_here hr (am_same_spec hs hb.1)
      rw [am_add_ev] at e
      exact ⟨e, am_vok_spec hr hs hb.2⟩
    · simp at hg
  · simp at hg
/-- a digit; a letter; a token -/
def am_fdig (s : am_S) (q : Nat) (A b w : am_L) : Option (Nat × am_L × am_L × am_L) := match am_vok s b (48, 57), am_ffv s w with
  | true, some (f, v) => (match am_leq s (100, []) v with
    | true => some (q, am_p1 A, am_add 128 f (1000, []), (1000, []))
    | false => match am_leq s v (99, []) with
      | true => some (q, am_p1 A, am_add 128 f (am_add 1 (am_add 10 (-48, []) v) b), am_add 1 (am_add 10 (-48, []) v) b)
      | false => none)
  | _, _ => none
def am_flet (s : am_S) (q : Nat) (A b c w : am_L) : Option (Nat × am_L × am_L × am_L) := match am_vok s b (97, 102), am_fG s c with
  | true, some g => (match am_lt s (am_add 1 (-97, []) b) g with
    | false => none
    | true => match Nat.beq q 0 with
      | true => some (20, am_p1 A, am_add 1 (-97, []) b, (0, []))
      | false => match Nat.beq q 20 && am_neP s.2.1 s.2.2.1 (am_add 1 (-97, []) b) w with
        | true => some (26, am_p1 A, (0, []), (0, []))
        | false => none)
  | _, _ => none
def am_ftk (s : am_S) (q : Nat) (A b c w : am_L) : Option (Nat × am_L × am_L × am_L) := match Nat.beq q 30 with
  | true => (match am_vok s b (59, 59), am_fd4 s c with
    | true, some (k, _) => (match am_leq s k (11, []) with
      | true => some (0, am_p1 A, (0, []), (0, []))
      | false => none)
    | _, _ => none)
  | false => match am_ftb s b (bk_tab q) with
    | some (some q2) => some (q2, am_p1 A, (0, []), (0, []))
    | some none => am_flet s q A b c w
    | none => none
def am_ftok (s : am_S) (sd q : Nat) (A L c w : am_L) : Option (Nat × am_L × am_L × am_L) := match am_lt s A L, am_find s.2.1 (am_oT sd) A s.2.2.2 with
  | true, some b => (match bk_pro q with
    | some _ => am_fdig s q A b w
    | none => match bk_eps q with
      | some _ => none
      | none => match am_vok s b (32, 32) with
        | true => some (q, am_p1 A, w, (0, []))
        | false => match bk_num q with
          | some _ => none
          | none => match am_n32 s b with
            | false => none
            | true => am_ftk s q A b c w)
  | _, _ => none
theorem am_ftok_spec {xs : List Int32} {s : am_S} {r : am_V} {h : cm_H} (hr : am_Rg r) (hs : am_holds xs s r h) {sd q q2 : Nat} {A L c w A2 w2 v2 : am_L} (hL : am_ev r L ≤ 127) (hA : 0 ≤ am_ev r A) (hg : am_ftok s sd q A L c w = some (q2, A2, w2, v2)) :
    bk_step (am_tp sd h) (am_ev r L) q (am_ev r A) (am_ev r c) (am_ev r w) = .inl (q2, am_ev r A2, am_ev r c, am_ev r w2) ∧ (0 ≤ am_ev r A2 ∧ am_ev r A2 ≤ 127) := by
  unfold am_ftok at hg
  split at hg
  · rename_i b hlt hfb
    have hlt := am_lt_spec hr hs hlt
    have hby := am_fby_spec hr hs hfb
    have hA2 : 0 ≤ am_ev r (am_p1 A) ∧ am_ev r (am_p1 A) ≤ 127 := by rw [am_p1_ev]; omega
    split at hg
    · rename_i p hp
      obtain ⟨mo, nx⟩ := p
      unfold am_fdig at hg
      split at hg
      · rename_i f v hv hfv
        have hv := am_vok_spec hr hs hv
        simp only [] at hv
        obtain ⟨hw, hf⟩ := am_ffv_spec hr hs hfv
        have hst := bk_s_dig (t := am_tp sd h) (c := am_ev r c) hp hlt (by rw [hby]; exact hv.1) (by rw [hby]; exact hv.2) hw hf
        rw [hby] at hst
        split at hg
        · rename_i h100
          have h100 := am_leq_spec hr hs h100
          rw [am_kst] at h100
          injection hg with hg
          injection hg with g1 hg
          injection hg with g2 hg
          injection hg with g3 g4
          subst g1; subst g2; subst g3; subst g4
          refine ⟨?_, hA2⟩
          rw [hst, am_p1_ev, am_add_ev, am_kst]
          have : bk_val (am_ev r v) (am_ev r b) = 1000 := by
            unfold bk_val
            rw [if_pos (by omega)]
          rw [this]
        · split at hg
          · rename_i h99
            have h99 := am_leq_spec hr hs h99
            rw [am_kst] at h99
            injection hg with hg
            injection hg with g1 hg
            injection hg with g2 hg
            injection hg with g3 g4
            subst g1; subst g2; subst g3; subst g4
            refine ⟨?_, hA2⟩
            rw [hst, am_p1_ev, am_add_ev, am_add_ev, am_add_ev, am_kst]
            have : bk_val (am_ev r v) (am_ev r b) = -48 + 10 * am_ev r v + 1 * am_ev r b := by
              unfold bk_val
              rw [if_neg (by omega)]
              omega
            rw [this]
          · simp at hg
      · simp at hg
    · rename_i hp
      split at hg
      · simp at hg
      · rename_i he
        split at hg
        · rename_i hv
          have hv := am_vok_spec hr hs hv
          simp only [] at hv
          injection hg with hg
          injection hg with g1 hg
          injection hg with g2 hg
          injection hg with g3 g4
          subst g1; subst g2; subst g3; subst g4
          refine ⟨?_, hA2⟩
          rw [am_p1_ev]
          exact bk_s_blank hp he hlt (by rw [hby]; omega)
        · split at hg
          · simp at hg
          · rename_i hn
            split at hg
            · simp at hg
            · rename_i h32
              have h32 := am_n32_spec hr hs h32
              have h32' : bk_by (am_tp sd h) (am_ev r A) ≠ 32 := by rw [hby]; exact h32
              unfold am_ftk at hg
              split at hg
              · rename_i hq
                have hq := Nat.eq_of_beq_eq_true hq
                subst hq
                split at hg
                · rename_i k _ hv hd
                  have hv := am_vok_spec hr hs hv
                  simp only [] at hv
                  have hd := (am_fd4_spec hr hs hd).1
                  simp only [] at hd
                  split at hg
                  · rename_i h11
                    have h11 := am_leq_spec hr hs h11
                    rw [am_kst] at h11
                    injection hg with hg
                    injection hg with g1 hg
                    injection hg with g2 hg
                    injection hg with g3 g4
                    subst g1; subst g2; subst g3; subst g4
                    refine ⟨?_, hA2⟩
                    rw [am_p1_ev, am_kst]
                    exact bk_s_sc hlt (by rw [hby]; omega) (by omega)
                  · simp at hg
                · simp at hg
              · rename_i hq
                have hq : q ≠ 30 := am_bne hq
                split at hg
                · rename_i q3 hft
                  have hft := am_ftb_spec hr hs hft
                  injection hg with hg
                  injection hg with g1 hg
                  injection hg with g2 hg
                  injection hg with g3 g4
                  subst g1; subst g2; subst g3; subst g4
                  refine ⟨?_, hA2⟩
                  rw [am_p1_ev, am_kst]
                  exact bk_s_tok hp he hn hq hlt h32' (by rw [hby]; exact hft)
                · unfold am_flet at hg
                  split at hg
                  · rename_i g hv hG
                    have hv := am_vok_spec hr hs hv
                    simp only [] at hv
                    have hG := am_fG_spec hr hs hG
                    split at hg
                    · simp at hg
                    · rename_i hlg
                      have hlg := am_lt_spec hr hs hlg
                      rw [am_add_ev, am_kst] at hlg
                      split at hg
                      · rename_i hq0
                        have hq0 := Nat.eq_of_beq_eq_true hq0
                        subst hq0
                        injection hg with hg
                        injection hg with g1 hg
                        injection hg with g2 hg
                        injection hg with g3 g4
                        subst g1; subst g2; subst g3; subst g4
                        refine ⟨?_, hA2⟩
                        rw [am_p1_ev, am_add_ev, am_kst]
                        have := bk_s_l1 (t := am_tp sd h) (w := am_ev r w) hlt (by rw [hby]; omega) (by rw [hby]; omega) (by rw [hby, hG]; omega)
                        rw [this, hby]
                        have e : am_ev r b - 97 = -97 + 1 * am_ev r b := by omega
                        rw [e]
                      · split at hg
                        · rename_i hq2
                          simp only [Bool.and_eq_true] at hq2
                          have hq20 := Nat.eq_of_beq_eq_true hq2.1
                          subst hq20
                          obtain ⟨p1, p2, _⟩ := am_All_here hr hs
                          have hne := am_neP_spec p1 p2 hq2.2
                          rw [am_add_ev, am_kst] at hne
                          injection hg with hg
                          injection hg with g1 hg
                          injection hg with g2 hg
                          injection hg with g3 g4
                          subst g1; subst g2; subst g3; subst g4
                          refine ⟨?_, hA2⟩
                          rw [am_p1_ev, am_kst]
                          exact bk_s_l2 hlt (by rw [hby]; omega) (by rw [hby]; omega) (by rw [hby, hG]; omega) (by rw [hby]; omega)
                        · simp at hg
                  · simp at hg
                · simp at hg
  · simp at hg
end
