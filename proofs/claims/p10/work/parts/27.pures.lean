noncomputable section
/-! LAYER 2, variables and the stack. -/
def am_nthA (l : List am_A) (i : Nat) : Option am_A := List.rec (motive := fun _ => Nat → Option am_A) (fun _ => none) (fun a _ ih i => Bool.rec (motive := fun _ => Option am_A) (ih (Nat.sub i 1)) (some a) (Nat.beq i 0)) l i
theorem am_nthA_n (i : Nat) : am_nthA [] i = none := rfl
theorem am_nthA_z (a : am_A) (l : List am_A) : am_nthA (a :: l) 0 = some a := rfl
theorem am_nthA_s (a : am_A) (l : List am_A) (i : Nat) : am_nthA (a :: l) (i + 1) = am_nthA l i := rfl
theorem am_lvs_nth {q : am_V} : ∀ {lv : List am_A} {L : cm_Lv} {i : Nat} {a : am_A}, am_lvs q lv L → am_nthA lv i = some a → ∃ t, cm_nth L i = some t ∧ am_sat q a t
  | [], _, _, _, _, h => by simp [am_nthA_n, am_nthA_z, am_nthA_s] at h
  | _ :: _, [], _, _, h, _ => by simp [am_lvs] at h
  | b :: _, t :: _, 0, a, h, ha => by
    simp only [am_nthA_n, am_nthA_z, am_nthA_s] at ha
    injection ha with ha
    rw [← ha]
    exact ⟨t, rfl, h.1⟩
  | _ :: lv, _ :: L, i + 1, a, h, ha => am_lvs_nth (lv := lv) (L := L) (i := i) h.2 ha
theorem am_lvs_len {q : am_V} : ∀ {lv : List am_A} {L : cm_Lv}, am_lvs q lv L → lv.length = L.length
  | [], [], _ => rfl
  | [], _ :: _, h => by simp [am_lvs] at h
  | _ :: _, [], h => by simp [am_lvs] at h
  | _ :: lv, _ :: L, h => by simp only [List.length_cons]; rw [am_lvs_len (lv := lv) (L := L) h.2]
def am_setA (l : List am_A) (i : Nat) (a : am_A) : List am_A := List.rec (motive := fun _ => Nat → List am_A) (fun _ => []) (fun b t ih i => Bool.rec (motive := fun _ => List am_A) (b :: ih (Nat.sub i 1)) (a :: t) (Nat.beq i 0)) l i
theorem am_lvs_set {q : am_V} {a : am_A} {t : Term} (ha : am_sat q a (some t)) : ∀ {lv : List am_A} {L : cm_Lv} {i : Nat}, am_lvs q lv L → am_lvs q (am_setA lv i a) (L.set i (some t))
  | [], [], _, _ => trivial
  | [], _ :: _, _, h => by simp [am_lvs] at h
  | _ :: _, [], _, h => by simp [am_lvs] at h
  | _ :: _, _ :: _, 0, h => ⟨ha, h.2⟩
  | _ :: lv, _ :: L, i + 1, h => ⟨h.1, am_lvs_set ha (lv := lv) (L := L) h.2⟩
/-- of what sort a value is: 1 an int, 2 a long, 3 a reference, 0 unknown -/
def am_tyA (a : am_A) : Nat := match a.1 with
  | 0 => 1
  | 1 => 1
  | 2 => 2
  | 3 => 2
  | 4 => 3
  | 5 => 3
  | 6 => 3
  | _ => 0
theorem am_tyA_spec {q : am_V} {a : am_A} {t : Option Term} (h : am_sat q a t) {n : Nat} (hn : am_tyA a = n + 1) : ∃ u, t = some u ∧ cm_ty u = n + 1 := by
  unfold am_sat at h
  unfold am_tyA at hn
  split at h
  · rename_i h0; simp only [h0] at hn; obtain ⟨x, hx, _⟩ := h; exact ⟨_, hx, by rw [← hn]; rfl⟩
  · rename_i h0; simp only [h0] at hn; obtain ⟨x, hx, _⟩ := h; exact ⟨_, hx, by rw [← hn]; rfl⟩
  · rename_i h0; simp only [h0] at hn; obtain ⟨x, hx, _⟩ := h; exact ⟨_, hx, by rw [← hn]; rfl⟩
  · rename_i h0; simp only [h0] at hn; obtain ⟨x, hx⟩ := h; exact ⟨_, hx, by rw [← hn]; rfl⟩
  · rename_i h0; simp only [h0] at hn; exact ⟨_, h, by rw [← hn]; rfl⟩
  · rename_i h0; simp only [h0] at hn; exact ⟨_, h, by rw [← hn]; rfl⟩
  · rename_i h0; simp only [h0] at hn; obtain ⟨u, hu, ht⟩ := h; exact ⟨u, hu, by rw [ht, ← hn]⟩
  · rename_i h0 h1 h2 h3 h4 h5 h6
    split at hn
    · exact absurd (by assumption) h0
    · exact absurd (by assumption) h1
    · exact absurd (by assumption) h2
    · exact absurd (by assumption) h3
    · exact absurd (by assumption) h4
    · exact absurd (by assumption) h5
    · exact absurd (by assumption) h6
    · omega
end
