noncomputable section
/-! LAYER 2, an int of the script in four bytes. -/
def am_bv : am_L := (0, [(0, 1), (1, 256), (2, 65536), (3, 16777216), (4, -4294967296)])
def am_be : am_EL := [(0, 255), (0, 255), (0, 255), (0, 255), (0, 1)]
def am_bf : am_FL := [(2147483648, [(0, 1), (1, 256), (2, 65536), (3, 16777216), (4, -4294967296)]), (2147483647, [(0, -1), (1, -256), (2, -65536), (3, -16777216), (4, 4294967296)])]
def am_byt (s : am_S) (f : am_L) (h0 : Nat) (go : am_S → Bool) : Bool := match am_slen s with
  | (n, s1) => match am_scp s1.1 f.2 && am_wi s1 f n with
    | false => false
    | true => match am_aft s1 [] [] am_be am_bf (am_hnt 0 0 [(h0, 0), (h0 + 1, 0), (h0 + 2, 0), (h0 + 3, 0), (h0 + 4, 0)] []) with
      | none => true
      | some s2 => go (am_kn s2 1000000 f (am_sub (am_vars s1.1 5) am_bv))
theorem am_row5 {b0 b1 b2 b3 m : Int} (c0 : 0 ≤ b0 ∧ b0 ≤ 255) (c1 : 0 ≤ b1 ∧ b1 ≤ 255) (c2 : 0 ≤ b2 ∧ b2 ≤ 255) (c3 : 0 ≤ b3 ∧ b3 ≤ 255) (c4 : 0 ≤ m ∧ m ≤ 1) : am_InL (am_rowV [b0, b1, b2, b3, m]) am_be ∧ am_Rg (am_rowV [b0, b1, b2, b3, m]) := by
  have key : ∀ v, ((am_nth (-2147483648, 2147483647) am_be v).1 ≤ am_rowV [b0, b1, b2, b3, m] v ∧ am_rowV [b0, b1, b2, b3, m] v ≤ (am_nth (-2147483648, 2147483647) am_be v).2) ∧ (-2147483648 ≤ am_rowV [b0, b1, b2, b3, m] v ∧ am_rowV [b0, b1, b2, b3, m] v ≤ 2147483647)
    | 0 => by simp only [am_rowV, am_be, am_nth_z]; omega
    | 1 => by simp only [am_rowV, am_be, am_nth_z, am_nth_s]; omega
    | 2 => by simp only [am_rowV, am_be, am_nth_z, am_nth_s]; omega
    | 3 => by simp only [am_rowV, am_be, am_nth_z, am_nth_s]; omega
    | 4 => by simp only [am_rowV, am_be, am_nth_z, am_nth_s]; omega
    | v + 5 => by
      have e1 : am_nth (-2147483648, 2147483647) am_be (v + 5) = (-2147483648, 2147483647) := rfl
      have e2 : am_rowV [b0, b1, b2, b3, m] (v + 5) = 0 := rfl
      rw [e1, e2]
      simp
  exact ⟨fun v => (key v).1, fun v => (key v).2⟩
theorem am_byt_spec {xs : List Int32} {K : List am_K} (hKl : K.length ≤ 1000000) (hxs : xs.length ≤ 3072) {s : am_S} {lv st : List am_A} {r : am_V} {L : cm_Lv} {T : List Term} {h : cm_H} (hf : am_fr xs K s lv st r L T h) {f : am_L} {h0 : Nat} {go : am_S → Bool} (hk : am_byt s f h0 go = true) :
    ∃ s' r', go s' = true ∧ am_later [] s s' r r' h h ∧ am_fr xs K s' lv st r' L T h := by
  obtain ⟨r1, g1, g2, g3⟩ := am_slen_spec hxs hf
  unfold am_byt at hk
  generalize am_slen s = ns at hk g1 g2 g3
  obtain ⟨n, s1⟩ := ns
  simp only [] at hk g1 g2 g3
  split at hk
  · simp at hk
  · rename_i hb
    simp only [Bool.and_eq_true] at hb
    have hw := am_wi_spec g2.1 g2.2.2.1 hb.2
    have hn : (xs.length : Int) = am_ev r1 n := am_All_here g2.1 g3
    have hone := am_scp_one (r := r1) hb.1
    obtain ⟨j, hj⟩ : ∃ j : Nat, am_ev r1 f = (j : Int) := ⟨(am_ev r1 f).toNat, by omega⟩
    have hlt : j < xs.length := by omega
    have hget : xs[j]? = some xs[j] := List.getElem?_eq_getElem hlt
    have hslot : am_slot xs h 1000000 j = some (.int xs[j]) := by
      show (xs[j]?).map Term.int = _
      rw [hget]; rfl
    obtain ⟨b0, b1, b2, b3, m, c0, c1, c2, c3, c4, he⟩ := am32_bytes xs[j]
    obtain ⟨p1, p2⟩ := am_row5 c0 c1 c2 c3 c4
    have hov : am_ov xs h (am_rowV [b0, b1, b2, b3, m]) (am_hnt 0 0 [(h0, 0), (h0 + 1, 0), (h0 + 2, 0), (h0 + 3, 0), (h0 + 4, 0)] []) := fun o hm => by
      rcases am_hnt_mem hm with hm | hm
      · simp at hm
      · exact am_ent_any (by rw [hm]; omega) (by rw [hm]; omega)
    have hfs : am_FsL (am_rowV [b0, b1, b2, b3, m]) am_bf := fun a ha => by
      have i1 := am_i1 xs[j]
      have i2 := am_i2 xs[j]
      simp only [am_bf, List.mem_cons, List.not_mem_nil, or_false] at ha
      rcases ha with ha | ha
      · rw [ha]; simp only [am_ev, am_ts, am_rowV, am_nth_z, am_nth_s]; omega
      · rw [ha]; simp only [am_ev, am_ts, am_rowV, am_nth_z, am_nth_s]; omega
    have hsc : am_scO 5 (am_hnt 0 0 [(h0, 0), (h0 + 1, 0), (h0 + 2, 0), (h0 + 3, 0), (h0 + 4, 0)] []) = true := am_hnt_sc (m := 5) (by simp) rfl
    have hl : h.length ≤ 1000000 := by rw [hf.2.2.2.1.1]; exact hKl
    obtain ⟨s2, r2, a1, a2, a3, a4, a5, a6⟩ := am_aft_spec (e0 := []) (σ := []) (ms := []) (e1 := am_be) (f1 := am_bf) g2.1 g2.2.1 g2.2.2.1 hl (fun v => rfl) rfl p2 (fun v hv => by simp at hv) ⟨p1, hfs, hov⟩ (am_out_refl [] h) rfl hsc
    rw [a1] at hk
    simp only [] at hk
    have hval : am_All s2.1 r2 (fun q => xs[j].toInt = am_ev q (am_sub (am_vars s1.1 5) am_bv)) := fun q hq hg => by
      have h6 := a6 q hq hg
      simp only [List.nil_append, List.length_nil, Nat.zero_add] at h6
      show xs[j].toInt = am_ev q (am_sub (am_vars s1.1 5) am_bv)
      have e5 : am_be.length = 5 := rfl
      rw [e5] at h6
      have hsc2 : am_scp 5 am_bv.2 = true := by decide
      rw [am_sub_ev, ← am_scp_ev1 h6 hsc2, he]
      simp only [am_ev, am_ts, am_bv, am_rowV, am_nth_z, am_nth_s]
      omega
    have hj2 : am_All s2.1 r2 (fun q => am_ev q f = (j : Int)) := am_All_more a4.1 a4.2.1 (fun q hq hg => by
      have e6 : am_ev r1 f = am_ev q f := hone q hq hg
      show am_ev q f = (j : Int)
      rw [← e6]; exact hj)
    exact ⟨_, r2, hk, am_later_trans g1 (am_later_trans a4 (am_later_same (am_kn_1 _ _ _ _) r2 h)),
      am_fr_same (s := s2) ⟨a3, a2, a5, g2.2.2.2.1, am_All_more a4.1 a4.2.1 g2.2.2.2.2.1, am_All_more a4.1 a4.2.1 g2.2.2.2.2.2⟩ (am_kn_1 _ _ _ _) (am_kn_wf a2) (am_kn_spec a5 (by omega) hslot hj2 hval)⟩
end
