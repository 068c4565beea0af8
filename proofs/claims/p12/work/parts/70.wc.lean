noncomputable section
section
/-- bytes alike, one by one -/
def cm_bl : List UInt8 → List UInt8 → Bool
  | [], [] => true
  | x :: a, y :: b => match Nat.beq x.toNat y.toNat with
    | true => cm_bl a b
    | false => false
  | _, _ => false
theorem cm_bl_ok : ∀ {a b : List UInt8}, cm_bl a b = true → a = b
  | [], [], _ => rfl
  | x :: a, y :: b, h => by
    unfold cm_bl at h
    split at h
    · rename_i e
      rw [UInt8.toNat_inj.mp (Nat.eq_of_beq_eq_true e), cm_bl_ok h]
    · cases h
  | [], _ :: _, h => by simp [cm_bl] at h
  | _ :: _, [], h => by simp [cm_bl] at h
/-- the code word of a method, at its place -/
def cm_wc (Ts : List Cond) (p : Nat) (mr : cm_M) (mn : cm_N) : Bool := match cm_nthR Ts p with
  | some (.code y b L r) => decide (y = mn.1) && decide (L = mr.2.1) && decide (r = mr.2.2) && cm_bl b.data.toList mn.2.1.data.toList
  | _ => false
theorem cm_wc_ok {Ts : List Cond} {p : Nat} {mr : cm_M} {mn : cm_N} (h : cm_wc Ts p mr mn = true) : .code mn.1 mn.2.1 mr.2.1 mr.2.2 ∈ Ts := by
  unfold cm_wc at h
  split at h
  · rename_i y b L r e
    simp only [Bool.and_eq_true, decide_eq_true_eq] at h
    obtain ⟨⟨⟨h1, h2⟩, h3⟩, h4⟩ := h
    subst h1
    subst h2
    subst h3
    have : b = mn.2.1 := ByteArray.ext (Array.toList_inj.mp (cm_bl_ok h4))
    subst this
    rw [cm_nthR_eq] at e
    exact List.mem_of_getElem? e
  · cases h
end
end
