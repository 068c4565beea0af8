noncomputable section
/-! LAYER 2, a state with one variable more. -/
def am_wf (s : am_S) : Prop := s.2.1.length = s.1
theorem am_setE_len : ∀ (e : am_E) (v : Nat) (g : Int × Int), (am_setE e v g).length = e.length
  | [], _, _ => rfl
  | _ :: _, 0, _ => rfl
  | _ :: e, v + 1, g => by simp only [am_setE_s, List.length_cons, am_setE_len e v g]
theorem am_setN_len (e : am_E) (v : Nat) (a b lo hi : Int) : (am_setN e v a b lo hi).length = e.length := by
  simp only [am_setN]
  cases am_z (lo - a) with
  | false => exact am_setE_len _ _ _
  | true =>
    cases am_z (hi - b) with
    | true => rfl
    | false => exact am_setE_len _ _ _
theorem am_tgt_len (H : Int) (e0 : am_E) : ∀ (l : List (Nat × Int)) (e e' : am_E), am_tgt H e0 l e = some e' → e'.length = e.length
  | [], e, e', h => by simp only [am_tgt_n, am_tgt_c] at h; injection h with h; rw [h]
  | (v, c) :: l, e, e', h => by
    simp only [am_tgt_n, am_tgt_c] at h
    split at h
    · rw [am_tgt_len H e0 l _ e' h, am_setN_len]
    · simp at h
theorem am_tights_len : ∀ (fs : am_F) (e e' : am_E), am_tights fs e = some e' → e'.length = e.length
  | [], e, e', h => by simp only [am_tights_n, am_tights_c] at h; injection h with h; rw [h]
  | f :: fs, e, e', h => by
    simp only [am_tights_n, am_tights_c] at h
    split at h
    · rename_i e1 h1
      rw [am_tights_len fs e1 e' h]
      exact am_tgt_len _ _ _ _ _ h1
    · simp at h
theorem am_tgC_len : ∀ (fs : am_F) (vs : Nat) (e e' : am_E), am_tgC vs fs e = some e' → e'.length = e.length
  | [], _, e, e', h => by simp only [am_tgC_n, am_tgC_c] at h; injection h with h; rw [h]
  | f :: fs, vs, e, e', h => by
    simp only [am_tgC_n, am_tgC_c] at h
    split at h
    · exact am_tgC_len fs vs e e' h
    · split at h
      · rename_i e1 h1
        rw [am_tgC_len fs _ e1 e' h]
        exact am_tgt_len _ _ _ _ _ h1
      · simp at h
theorem am_tgB_len {b : am_L} {fs : am_F} {e e' : am_E} (h : am_tgB b fs e = some e') : e'.length = e.length := by
  simp only [am_tgB] at h
  split at h
  · simp at h
  · rename_i e1 h1
    rw [am_tgC_len _ _ _ _ h]
    exact am_tgt_len _ _ _ _ _ h1
theorem am_ref_wf {s s' : am_S} {a : am_L} (hw : am_wf s) (h : am_ref s a = some s') : am_wf s' := by
  obtain ⟨n, e, fs, ov⟩ := s
  simp only [am_ref] at h
  split at h
  · split at h
    · injection h with h; rw [← h]; exact hw
    · simp at h
  · split at h
    · injection h with h; rw [← h]; exact hw
    · split at h
      · simp at h
      · split at h
        · simp at h
        · split at h
          · simp at h
          · rename_i e' h1
            injection h with h
            rw [← h]
            exact (am_tgB_len h1).trans hw
theorem am_ad1_wf {s s' : am_S} {a : am_L} (hw : am_wf s) (h : am_ad1 s a = some s') : am_wf s' := by
  obtain ⟨n, e, fs, ov⟩ := s
  simp only [am_ad1] at h
  split at h
  · split at h
    · injection h with h; rw [← h]; exact hw
    · simp at h
  · split at h
    · injection h with h; rw [← h]; exact hw
    · split at h
      · simp at h
      · rename_i e' h1
        injection h with h
        rw [← h]
        exact (am_tights_len _ _ _ h1).trans hw
theorem am_snoc_len {α : Type} (x : α) : ∀ (l : List α), (am_snoc l x).length = l.length + 1
  | [] => rfl
  | _ :: l => by simp only [am_snoc_c, List.length_cons, am_snoc_len x l]
def am_fresh (s : am_S) (g : Int × Int) : am_S := match s with
  | (n, e, fs, ov) => (n + 1, am_snoc e g, fs, ov)
theorem am_fresh_wf {s : am_S} {g : Int × Int} (hw : am_wf s) : am_wf (am_fresh s g) := by
  obtain ⟨n, e, fs, ov⟩ := s
  simp only [am_wf, am_fresh] at hw ⊢
  rw [am_snoc_len, hw]
theorem am_fresh_spec {xs : List Int32} {s : am_S} {r : am_V} {h : cm_H} {g : Int × Int} {x : Int} (hw : am_wf s) (hr : am_Rg r) (hs : am_holds xs s r h) (h1 : g.1 ≤ x) (h2 : x ≤ g.2) (h3 : -2147483648 ≤ x) (h4 : x ≤ 2147483647) :
    am_Rg (am_up r s.1 x) ∧ am_Ag s.1 r (am_up r s.1 x) ∧ am_holds xs (am_fresh s g) (am_up r s.1 x) h := by
  obtain ⟨n, e, fs, ov⟩ := s
  refine ⟨am_up_Rg hr h3 h4, am_up_Ag r n x, ?_⟩
  intro q hq hg
  have hq0 : am_Ag n r q := am_Ag_trans (Nat.le_succ n) (am_up_Ag r n x) hg
  have hh := hs q hq hq0
  refine ⟨?_, hh.2.1, hh.2.2⟩
  intro u
  by_cases hu : u = n
  · have hl : e.length = n := hw
    have hx : q n = x := (hg n (Nat.lt_succ_self n)).trans (am_up_at r n x)
    simp only [am_fresh]
    rw [hu, ← hl, am_nth_snoc_at, hl, hx]
    exact ⟨h1, h2⟩
  · have hl : e.length = n := hw
    simp only [am_fresh]
    rw [am_nth_snoc _ _ _ _ (by rw [hl]; exact hu)]
    exact hh.1 u
/-- the form of the variable that comes next -/
def am_var (s : am_S) : am_L := (0, [(s.1, 1)])
theorem am_var_ev (s : am_S) (q : am_V) : am_ev q (am_var s) = q s.1 := by simp [am_var, am_ev, am_ts]
end
