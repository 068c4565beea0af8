noncomputable section
/-! LAYER 2, directives of the tape: the machine at its start; the same over the other tape; tapes that are alike go on. -/
def am_r4 (R : Int) : am_V := am_rowV [R % 256, R / 256 % 4, R / 1024 % 8, R / 8192]
def am_e4 : am_EL := [(0, 255), (0, 3), (0, 7), (0, 15)]
theorem am_r4_ok {R : Int} (h0 : 0 ≤ R) (h1 : R < 131072) : am_InL (am_r4 R) am_e4 ∧ am_Rg (am_r4 R) := by
  have key : ∀ v, ((am_nth (-2147483648, 2147483647) am_e4 v).1 ≤ am_r4 R v ∧ am_r4 R v ≤ (am_nth (-2147483648, 2147483647) am_e4 v).2) ∧ (-2147483648 ≤ am_r4 R v ∧ am_r4 R v ≤ 2147483647)
    | 0 => by simp only [am_r4, am_rowV, am_e4, am_nth_z]; omega
    | 1 => by simp only [am_r4, am_rowV, am_e4, am_nth_z, am_nth_s]; omega
    | 2 => by simp only [am_r4, am_rowV, am_e4, am_nth_z, am_nth_s]; omega
    | 3 => by simp only [am_r4, am_rowV, am_e4, am_nth_z, am_nth_s]; omega
    | v + 4 => by
      have e1 : am_nth (-2147483648, 2147483647) am_e4 (v + 4) = (-2147483648, 2147483647) := rfl
      have e2 : am_r4 R (v + 4) = 0 := rfl
      rw [e1, e2]
      simp
  exact ⟨fun v => (key v).1, fun v => (key v).2⟩
def am_cnt3 (a b c : am_L) : am_L := am_add 8192 (am_add 256 (am_add 16 (0, []) a) b) c
def am_itr (K : List am_K) (s0 : am_S) (go : am_S → Bool) : Bool := match am_en1 K (am_en1 K (am_en1 K (am_en1 K s0 1 0) 3 0) 9 0) 58 1 with
  | s => match am_find s.2.1 1 (0, []) s.2.2.2, am_find s.2.1 3 (0, []) s.2.2.2, am_find s.2.1 9 (0, []) s.2.2.2, am_find s.2.1 58 (1, []) s.2.2.2 with
    | some p, some g, some b, some L => (match am_scp s.1 p.2 && (am_scp s.1 g.2 && (am_scp s.1 b.2 && (am_scp s.1 L.2 && (am_vok s L (0, 127) && am_vok s (am_cnt3 p g b) (0, 262143))))) with
      | false => false
      | true => match am_aft s [] [] am_e4 [] (am_hnt 0 0 [(708, 0), (709, 0), (710, 0), (711, 0)] []) with
        | none => true
        | some s2 => match am_sub (am_vars s.1 4) (0, [(0, 1), (1, 256), (2, 1024), (3, 8192)]) with
          | R => go (am_hint (am_hint (am_hint (am_setM (am_kn s2 5000000 (am_enc 0 (0, []) L (am_cnt3 p g b) (0, [])) R) 100) 700 (am_cnt3 p g b)) 701 (0, [])) 707 R))
    | _, _, _, _ => false
theorem am_scp_add {n : Nat} {r q : am_V} (ha : am_Ag n r q) {a b : am_L} {k : Int} (h1 : am_ev q a = am_ev r a) (h2 : am_scp n b.2 = true) : am_ev q (am_add k a b) = am_ev r (am_add k a b) := by
  rw [am_add_ev, am_add_ev, h1, am_scp_ev1 ha h2]
theorem am_itr_spec {xs : List Int32} {K : List am_K} (hKl : K.length ≤ 1000000) {s0 : am_S} {lv st : List am_A} {r0 : am_V} {L0 : cm_Lv} {T : List Term} {h : cm_H} (hf0 : am_fr xs K s0 lv st r0 L0 T h) {go : am_S → Bool} (hk : am_itr K s0 go = true) : am_Nx xs K s0 lv st r0 L0 T h go := by
  obtain ⟨r, hl, hf⟩ := am_Kn_trans (am_Kn_trans (am_Kn_trans (am_en1_spec (xs := xs) hKl s0 1 0) (am_en1_spec hKl _ 3 0)) (am_en1_spec hKl _ 9 0)) (am_en1_spec hKl _ 58 1) lv st r0 L0 T h hf0
  refine am_Nx_more hl ?_
  unfold am_itr at hk
  generalize am_en1 K (am_en1 K (am_en1 K (am_en1 K s0 1 0) 3 0) 9 0) 58 1 = s at hk hf hl
  simp only [] at hk
  split at hk
  · rename_i p g b L _ _ _ _
    split at hk
    · simp at hk
    · rename_i hb
      simp only [Bool.and_eq_true] at hb
      obtain ⟨b1, b2, b3, b4, b5, b6⟩ := hb
      have v1 := am_vok_spec hf.1 hf.2.2.1 b5
      have v2 := am_vok_spec hf.1 hf.2.2.1 b6
      simp only [] at v1 v2
      obtain ⟨R, hR, hR0, hR1⟩ := bk_ex (am_tp 0 h) v1.2 (4 * (am_ev r L - 0).toNat + 1) 0 0 (am_ev r (am_cnt3 p g b)) 0 (by omega) v1.1 v2.1 (by show _ + 0 < _; omega)
      obtain ⟨p1, p2⟩ := am_r4_ok hR0 hR1
      have hov : am_ov xs h (am_r4 R) (am_hnt 0 0 [(708, 0), (709, 0), (710, 0), (711, 0)] []) := fun o hm => by
        rcases am_hnt_mem hm with hm | hm
        · simp at hm
        · exact am_ent_any (by rw [hm]; omega) (by rw [hm]; omega)
      have hsc : am_scO 4 (am_hnt 0 0 [(708, 0), (709, 0), (710, 0), (711, 0)] []) = true := am_hnt_sc (m := 4) (by simp) rfl
      have hlen : h.length ≤ 1000000 := by rw [hf.2.2.2.1.1]; exact hKl
      obtain ⟨s2, r2, a1, a2, a3, a4, a5, a6⟩ := am_aft_spec (e0 := []) (σ := []) (ms := []) (e1 := am_e4) (f1 := []) hf.1 hf.2.1 hf.2.2.1 hlen (fun v => rfl) rfl p2 (fun v hv => by simp at hv) ⟨p1, fun a ha => by simp at ha, hov⟩ (am_out_refl [] h) rfl hsc
      rw [a1] at hk
      simp only [] at hk
      have hval : ∀ q, am_Rg q → am_Ag s2.1 r2 q → am_ev q (am_sub (am_vars s.1 4) (0, [(0, 1), (1, 256), (2, 1024), (3, 8192)])) = R := fun q hq hg => by
        have h6 := a6 q hq hg
        simp only [List.nil_append, List.length_nil, Nat.zero_add] at h6
        have e4 : am_e4.length = 4 := rfl
        rw [e4] at h6
        have hsc2 : am_scp 4 [((0 : Nat), (1 : Int)), (1, 256), (2, 1024), (3, 8192)] = true := by decide
        rw [am_sub_ev, ← am_scp_ev1 (a := (0, [(0, 1), (1, 256), (2, 1024), (3, 8192)])) h6 hsc2]
        simp only [am_ev, am_ts, am_r4, am_rowV, am_nth_z, am_nth_s]
        omega
      have hlow : ∀ q, am_Ag s2.1 r2 q → am_Ag s.1 r q := fun q hg => am_Ag_trans a4.1 a4.2.1 hg
      have hc : ∀ q, am_Ag s2.1 r2 q → am_ev q (am_cnt3 p g b) = am_ev r (am_cnt3 p g b) := fun q hg => am_scp_add (hlow q hg) (am_scp_add (hlow q hg) (am_scp_add (hlow q hg) rfl b1) b2) b3
      have hh : am_holds xs (am_kn s2 5000000 (am_enc 0 (0, []) L (am_cnt3 p g b) (0, [])) (am_sub (am_vars s.1 4) (0, [(0, 1), (1, 256), (2, 1024), (3, 8192)]))) r2 h := by
        refine am_kn_ent a5 (fun q hq hg => am_ent_fun (by show 5000000 ≤ 5000000; omega) ?_)
        show am_fw (5000000 + 0) _ _ (am_ev q (am_enc 0 (0, []) L (am_cnt3 p g b) (0, []))) _
        rw [am_fw_tp (by omega), am_enc_ev, hval q hq hg, hc q hg, am_scp_ev1 (hlow q hg) b4, am_kst]
        exact (bk_R_iff (by omega) (by omega) v1 v2).mpr hR
      refine ⟨_, r2, hk, am_later_trans a4 (am_later_same rfl r2 h), am_fr_same (s := s2) ⟨a3, a2, a5, hf.2.2.2.1, am_All_more a4.1 a4.2.1 hf.2.2.2.2.1, am_All_more a4.1 a4.2.1 hf.2.2.2.2.2⟩ rfl a2 (am_hint_holds (am_hint_holds (am_hint_holds (am_setM_holds hh _) _ _) _ _) _ _)⟩
  · simp at hk
/-- both tapes are alike up to a length -/
theorem am_tie_spec {xs : List Int32} {s : am_S} {r : am_V} {h : cm_H} (hr : am_Rg r) (hs : am_holds xs s r h) {t : am_L} (hf : am_find s.2.1 5000002 (0, []) s.2.2.2 = some t) : ∀ j : Nat, (j : Int) < am_ev r t → (am_tp 0 h)[j]? = (am_tp 1 h)[j]? := by
  obtain ⟨p1, p2, p3⟩ := am_All_here hr hs
  obtain ⟨j, hj, he⟩ := am_find_spec p1 _ _ hf
  have hfe := (p3 _ hj).2.2.2 (by show 5000000 ≤ 5000002; omega)
  have hfe : am_fw 5000002 (am_tp 0 h) (am_tp 1 h) (am_ev r j) (am_ev r t) := hfe
  unfold am_fw at hfe
  rw [if_neg (by decide), if_neg (by decide), if_pos rfl] at hfe
  exact hfe
def am_xfe (K : List am_K) (s0 : am_S) (go : am_S → Bool) : Bool := match am_en1 K s0 94 13 with
  | s => match am_find s.2.1 5000002 (0, []) s.2.2.2, am_find s.2.1 94 (13, []) s.2.2.2, am_hx s 700 with
    | some t, some L, some c => (match am_leq s L t && (am_vok s L (0, 127) && am_vok s c (0, 262143)), am_find s.2.1 5000000 (am_enc 0 (0, []) L c (0, [])) s.2.2.2 with
      | true, some R => go (am_setM (am_kn s 5000001 (am_enc 0 (0, []) L c (0, [])) R) 100)
      | _, _ => false)
    | _, _, _ => false
theorem am_xfe_spec {xs : List Int32} {K : List am_K} (hKl : K.length ≤ 1000000) {s0 : am_S} {lv st : List am_A} {r0 : am_V} {L0 : cm_Lv} {T : List Term} {h : cm_H} (hf0 : am_fr xs K s0 lv st r0 L0 T h) {go : am_S → Bool} (hk : am_xfe K s0 go = true) : am_Nx xs K s0 lv st r0 L0 T h go := by
  obtain ⟨r, hl, hf⟩ := am_en1_spec (xs := xs) hKl s0 94 13 lv st r0 L0 T h hf0
  refine am_Nx_more hl ?_
  unfold am_xfe at hk
  generalize am_en1 K s0 94 13 = s at hk hf hl
  simp only [] at hk
  split at hk
  · rename_i t L c ht _ _
    split at hk
    · rename_i R hb hR
      simp only [Bool.and_eq_true] at hb
      refine am_Nx_same hf (s' := am_setM (am_kn s 5000001 (am_enc 0 (0, []) L c (0, [])) R) 100) rfl hf.2.1 (am_setM_holds (am_kn_pt hf.2.2.1 (fun q hq hh => am_ent_fun (by show 5000000 ≤ 5000001; omega) ?_)) _) hk
      have v1 := am_vok_spec hq hh hb.2.1
      have v2 := am_vok_spec hq hh hb.2.2
      have hle := am_leq_spec hq hh hb.1
      have htie := am_tie_spec hq hh ht
      obtain ⟨p1, p2, p3⟩ := am_All_here hq hh
      obtain ⟨j, hj, he⟩ := am_find_spec p1 _ _ hR
      have hfe := (p3 _ hj).2.2.2 (by show 5000000 ≤ 5000000; omega)
      have hfe : am_fw (5000000 + 0) (am_tms h[59]?) (am_tms h[104]?) (am_ev q j) (am_ev q R) := hfe
      rw [am_fw_tp (by omega), he, am_enc_ev, am_kst] at hfe
      show am_fw (5000000 + 1) (am_tms h[59]?) (am_tms h[104]?) (am_ev q (am_enc 0 (0, []) L c (0, []))) (am_ev q R)
      rw [am_fw_tp (by omega), am_enc_ev, am_kst]
      have hres := (bk_R_iff (by omega) (by omega) v1 v2).mp hfe
      exact (bk_R_iff (by omega) (by omega) v1 v2).mpr (bk_Res_eq v1.2 (fun k hk => htie k (by omega)) (by omega) v1.1 v2.1 hres)
    · simp at hk
  · simp at hk
/-- so many bytes more are alike -/
def am_tiB (s : am_S) (t : am_L) : Nat → Bool
  | 0 => true
  | n + 1 => (match am_find s.2.1 59 (am_add 1 (Int.ofNat n, []) t) s.2.2.2, am_find s.2.1 104 (am_add 1 (Int.ofNat n, []) t) s.2.2.2 with
    | some a, some b => am_same s a b
    | _, _ => false) && am_tiB s t n
theorem am_tiB_spec {xs : List Int32} {s : am_S} {r : am_V} {h : cm_H} (hr : am_Rg r) (hs : am_holds xs s r h) {t : am_L} : ∀ {n : Nat}, am_tiB s t n = true → ∀ k : Nat, k < n → ∀ j : Nat, (j : Int) = am_ev r t + (k : Int) → (am_tp 0 h)[j]? = (am_tp 1 h)[j]?
  | 0, _, k, hk, _, _ => by omega
  | n + 1, hb, k, hk, j, hj => by
    simp only [am_tiB, Bool.and_eq_true] at hb
    by_cases hkn : k = n
    · have hb := hb.1
      split at hb
      · rename_i a b ha hb2
        obtain ⟨p1, p2, p3⟩ := am_All_here hr hs
        obtain ⟨j1, m1, e1⟩ := am_find_spec p1 _ _ ha
        obtain ⟨j2, m2, e2⟩ := am_find_spec p1 _ _ hb2
        obtain ⟨_, y1, k2, k3⟩ := (p3 _ m1).1 (by show (59 : Nat) < 2000000; omega)
        obtain ⟨_, y2, l2, l3⟩ := (p3 _ m2).1 (by show (104 : Nat) < 2000000; omega)
        have eh : am_ev r (am_add 1 (Int.ofNat n, []) t) = (j : Int) := by
          rw [am_add_ev, am_kst, hj]
          show (n : Int) + 1 * am_ev r t = _
          omega
        simp only [e1, e2, eh, Int.toNat_natCast] at k2 l2
        rw [am_slot_new (by omega)] at k2 l2
        have es : am_ev r a = am_ev r b := am_All_here hr (am_same_spec hs hb)
        simp only [] at k3 l3
        have ey : y1 = y2 := (am_eq32 y1 y2).mpr (by rw [k3, l3, es])
        show (am_tms h[59]?)[j]? = (am_tms h[104]?)[j]?
        rw [k2, l2, ey]
      · simp at hb
    · exact am_tiB_spec hr hs hb.2 k (by omega) j hj
def am_tip (K : List am_K) (s0 : am_S) (go : am_S → Bool) : Bool := match am_en1 K s0 58 1 with
  | s => match am_find s.2.1 5000002 (0, []) s.2.2.2, am_find s.2.1 58 (1, []) s.2.2.2 with
    | some t, some L => (match am_norm s.2.1 (am_add (-1) L t) with
      | (n, []) => (match am_nn n && (am_leq s (0, []) t && am_tiB s t n.toNat) with
        | true => go (am_kn s 5000002 (0, []) (am_add 1 (n, []) t))
        | false => false)
      | _ => false)
    | _, _ => false
theorem am_tip_spec {xs : List Int32} {K : List am_K} (hKl : K.length ≤ 1000000) {s0 : am_S} {lv st : List am_A} {r0 : am_V} {L0 : cm_Lv} {T : List Term} {h : cm_H} (hf0 : am_fr xs K s0 lv st r0 L0 T h) {go : am_S → Bool} (hk : am_tip K s0 go = true) : am_Nx xs K s0 lv st r0 L0 T h go := by
  obtain ⟨r, hl, hf⟩ := am_en1_spec (xs := xs) hKl s0 58 1 lv st r0 L0 T h hf0
  refine am_Nx_more hl ?_
  unfold am_tip at hk
  generalize am_en1 K s0 58 1 = s at hk hf hl
  simp only [] at hk
  split at hk
  · rename_i t L ht _
    split at hk
    · rename_i n _
      split at hk
      · rename_i hb
        simp only [Bool.and_eq_true] at hb
        have hn := am_nn_spec hb.1
        refine am_Nx_same hf (s' := am_kn s 5000002 (0, []) (am_add 1 (n, []) t)) rfl hf.2.1 (am_kn_pt hf.2.2.1 (fun q hq hh => am_ent_fun (by show 5000000 ≤ 5000002; omega) ?_)) hk
        have h0 := am_leq_spec hq hh hb.2.1
        rw [am_kst] at h0
        have htie := am_tie_spec hq hh ht
        show am_fw 5000002 (am_tp 0 h) (am_tp 1 h) _ (am_ev q (am_add 1 (n, []) t))
        unfold am_fw
        rw [if_neg (by decide), if_neg (by decide), if_pos rfl]
        intro j hj
        rw [am_add_ev, am_kst] at hj
        by_cases hjt : (j : Int) < am_ev q t
        · exact htie j hjt
        · exact am_tiB_spec hq hh hb.2.2 (j - (am_ev q t).toNat) (by omega) j (by omega)
      · simp at hk
    · simp at hk
  · simp at hk
end
