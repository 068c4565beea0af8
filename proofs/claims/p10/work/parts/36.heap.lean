noncomputable section
/-! LAYER 2, slots read. -/
def am_nthS {α : Type} (l : List α) (i : Nat) : Option α := List.rec (motive := fun _ => Nat → Option α) (fun _ => none) (fun x _ ih i => Bool.rec (motive := fun _ => Option α) (ih (Nat.sub i 1)) (some x) (Nat.beq i 0)) l i
theorem am_nthS_s {α : Type} (x : α) (l : List α) (i : Nat) : am_nthS (x :: l) (i + 1) = am_nthS l i := rfl
theorem am_nthS_eq {α : Type} : ∀ (l : List α) (i : Nat), am_nthS l i = l[i]?
  | [], _ => by simp; rfl
  | _ :: _, 0 => rfl
  | _ :: l, i + 1 => by rw [am_nthS_s, am_nthS_eq l i]; simp
/-- an element, eight at a time passed over -/
def am_nthO {α : Type} (l : List α) (i : Nat) : Option α := am_nthS (am_dn l (Nat.div i 8)) (Nat.mod i 8)
theorem am_nthO_eq {α : Type} (l : List α) (i : Nat) : am_nthO l i = l[i]? := by
  show am_nthS (am_dn l (i / 8)) (i % 8) = _
  rw [am_nthS_eq, am_dn_eq, List.getElem?_drop, Nat.div_add_mod]
theorem am_cnth_eq {α : Type} : ∀ (l : List α) (i : Nat), cm_nth l i = l[i]?
  | [], _ => by simp [cm_nth]
  | _ :: _, 0 => by simp [cm_nth]
  | _ :: l, i + 1 => by simp [cm_nth, am_cnth_eq l i]
/-- ints from one on, so many -/
def am_upto (a : Int) : Nat → List Int
  | 0 => []
  | n + 1 => a :: am_upto (a + 1) n
theorem am_upto_mem : ∀ (n : Nat) (a x : Int), a ≤ x → x < a + (n : Int) → x ∈ am_upto a n
  | 0, a, x, h1, h2 => by omega
  | n + 1, a, x, h1, h2 => by
    by_cases hx : x = a
    · rw [hx]; exact List.mem_cons_self ..
    · exact List.mem_cons_of_mem _ (am_upto_mem n (a + 1) x (by omega) (by omega))
/-- a term's values added to each -/
def am_addv (c a : Int) (n : Nat) : List Int → List Int
  | [] => []
  | b :: l => am_addw c a n b (am_addv c a n l)
where am_addw (c a : Int) : Nat → Int → List Int → List Int
  | 0, _, l => l
  | n + 1, b, l => (b + c * a) :: am_addw c (a + 1) n b l
theorem am_addw_mem (c : Int) (b : Int) (l : List Int) : ∀ (n : Nat) (a x : Int), (x ∈ l → x ∈ am_addv.am_addw c a n b l) ∧ (a ≤ x → x < a + (n : Int) → b + c * x ∈ am_addv.am_addw c a n b l)
  | 0, a, x => ⟨fun h => h, fun h1 h2 => by omega⟩
  | n + 1, a, x => by
    obtain ⟨h1, h2⟩ := am_addw_mem c b l n (a + 1) x
    refine ⟨fun h => List.mem_cons_of_mem _ (h1 h), fun g1 g2 => ?_⟩
    by_cases hx : x = a
    · rw [hx]; exact List.mem_cons_self ..
    · exact List.mem_cons_of_mem _ (h2 (by omega) (by omega))
theorem am_addv_mem (c a : Int) (n : Nat) (x : Int) (h1 : a ≤ x) (h2 : x < a + (n : Int)) : ∀ (l : List Int) (b : Int), b ∈ l → b + c * x ∈ am_addv c a n l
  | [], _, h => by simp at h
  | b0 :: l, b, h => by
    simp only [am_addv]
    rcases List.mem_cons.mp h with h | h
    · rw [h]; exact (am_addw_mem c b0 _ n a x).2 h1 h2
    · exact (am_addw_mem c b0 _ n a _).1 (am_addv_mem c a n x h1 h2 l b h)
def am_vals (e : am_E) : List (Nat × Int) → List Int → List Int
  | [], l => l
  | (v, c) :: ts, l => match (am_gl e v, am_gh e v) with
    | (lo, hi) => am_vals e ts (am_addv c lo (hi - lo + 1).toNat l)
theorem am_vals_mem {r : am_V} {e : am_E} (h : am_In r e) : ∀ (ts : List (Nat × Int)) (l : List Int) (b : Int), b ∈ l → b + am_ts r ts ∈ am_vals e ts l
  | [], l, b, hb => by simpa [am_vals, am_ts] using hb
  | (v, c) :: ts, l, b, hb => by
    have hv := h v
    simp only [am_vals, am_ts]
    have := am_vals_mem h ts _ (b + c * r v) (am_addv_mem c _ (am_gh e v - am_gl e v + 1).toNat (r v) hv.1 (by omega) l b hb)
    rw [← Int.add_assoc]; exact this
/-- how many values, at most -/
def am_cnt (e : am_E) : List (Nat × Int) → Int
  | [] => 1
  | (v, _) :: ts => match (am_gl e v, am_gh e v) with
    | (lo, hi) => (hi - lo + 1) * am_cnt e ts
/-- the values that an index can have -/
def am_idx (e : am_E) (n : Nat) (i : am_L) : List Int := match am_nn (300 - am_cnt e i.2) with
  | true => am_vals e i.2 [i.1]
  | false => match am_rg e i with
    | (l, h) => match am_max l 0, am_min h (Int.ofNat n - 1) with
      | l, h => am_upto l (h - l + 1).toNat
theorem am_idx_mem {r : am_V} {e : am_E} (h : am_In r e) {n : Nat} {i : am_L} (h1 : 0 ≤ am_ev r i) (h2 : am_ev r i < (n : Int)) : am_ev r i ∈ am_idx e n i := by
  unfold am_idx
  split
  · have := am_vals_mem h i.2 [i.1] i.1 (by simp)
    exact this
  · have hr := am_rg_spec h i
    simp only []
    have m1 : am_max (am_rg e i).1 0 ≤ am_ev r i := am_max_le hr.1 h1
    have m2 : am_ev r i ≤ am_min (am_rg e i).2 (Int.ofNat n - 1) := am_le_min hr.2 (by have : Int.ofNat n = (n : Int) := rfl; omega)
    exact am_upto_mem _ _ _ m1 (by omega)
/-- the range of all of these slots; the range that all of these have -/
def am_join (rs : List (Int × Int)) (n : Int) : List Int → Int × Int → Int × Int
  | [], g => g
  | v :: l, g => match am_nn v && am_nn (n - 1 - v) with
    | false => am_join rs n l g
    | true => match am_rgAt rs v.toNat with
      | (a, b) => am_join rs n l (am_min g.1 a, am_max g.2 b)
def am_meet (rs : List (Int × Int)) (n : Int) : List Int → Int × Int → Int × Int
  | [], g => g
  | v :: l, g => match am_nn v && am_nn (n - 1 - v) with
    | false => am_meet rs n l g
    | true => match am_rgAt rs v.toNat with
      | (a, b) => am_meet rs n l (am_max g.1 a, am_min g.2 b)
theorem am_join_le (rs : List (Int × Int)) (n : Int) : ∀ (l : List Int) (g : Int × Int), (am_join rs n l g).1 ≤ g.1 ∧ g.2 ≤ (am_join rs n l g).2 ∧ ∀ v ∈ l, 0 ≤ v → v < n → (am_join rs n l g).1 ≤ (am_rgAt rs v.toNat).1 ∧ (am_rgAt rs v.toNat).2 ≤ (am_join rs n l g).2
  | [], g => ⟨Int.le_refl _, Int.le_refl _, fun v hv => by simp at hv⟩
  | w :: l, g => by
    simp only [am_join]
    split
    · rename_i hb
      obtain ⟨h1, h2, h3⟩ := am_join_le rs n l g
      refine ⟨h1, h2, fun v hv hv1 hv2 => ?_⟩
      rcases List.mem_cons.mp hv with hv | hv
      · subst hv
        rw [am_nn_of hv1, am_nn_of (show 0 ≤ n - 1 - v by omega)] at hb
        simp at hb
      · exact h3 v hv hv1 hv2
    · obtain ⟨h1, h2, h3⟩ := am_join_le rs n l (am_min g.1 (am_rgAt rs w.toNat).1, am_max g.2 (am_rgAt rs w.toNat).2)
      have m1 := am_min_le g.1 (am_rgAt rs w.toNat).1
      have m2 := am_le_max g.2 (am_rgAt rs w.toNat).2
      simp only [] at h1 h2
      refine ⟨Int.le_trans h1 m1.1, Int.le_trans m2.1 h2, fun v hv hv1 hv2 => ?_⟩
      rcases List.mem_cons.mp hv with hv | hv
      · subst hv
        exact ⟨Int.le_trans h1 m1.2, Int.le_trans m2.2 h2⟩
      · exact h3 v hv hv1 hv2
theorem am_meet_le (rs : List (Int × Int)) (n : Int) : ∀ (l : List Int) (g : Int × Int), g.1 ≤ (am_meet rs n l g).1 ∧ (am_meet rs n l g).2 ≤ g.2 ∧ ∀ v ∈ l, 0 ≤ v → v < n → (am_rgAt rs v.toNat).1 ≤ (am_meet rs n l g).1 ∧ (am_meet rs n l g).2 ≤ (am_rgAt rs v.toNat).2
  | [], g => ⟨Int.le_refl _, Int.le_refl _, fun v hv => by simp at hv⟩
  | w :: l, g => by
    simp only [am_meet]
    split
    · rename_i hb
      obtain ⟨h1, h2, h3⟩ := am_meet_le rs n l g
      refine ⟨h1, h2, fun v hv hv1 hv2 => ?_⟩
      rcases List.mem_cons.mp hv with hv | hv
      · subst hv
        rw [am_nn_of hv1, am_nn_of (show 0 ≤ n - 1 - v by omega)] at hb
        simp at hb
      · exact h3 v hv hv1 hv2
    · obtain ⟨h1, h2, h3⟩ := am_meet_le rs n l (am_max g.1 (am_rgAt rs w.toNat).1, am_min g.2 (am_rgAt rs w.toNat).2)
      have m1 := am_le_max g.1 (am_rgAt rs w.toNat).1
      have m2 := am_min_le g.2 (am_rgAt rs w.toNat).2
      simp only [] at h1 h2
      refine ⟨Int.le_trans m1.1 h1, Int.le_trans h2 m2.1, fun v hv hv1 hv2 => ?_⟩
      rcases List.mem_cons.mp hv with hv | hv
      · subst hv
        exact ⟨Int.le_trans m1.2 h1, Int.le_trans h2 m2.2⟩
      · exact h3 v hv hv1 hv2
/-- a range that the slot of an index is in -/
def am_rgI (e : am_E) (rs : List (Int × Int)) (n : Nat) (i : am_L) : Int × Int := match rs with
  | [] => (-2147483648, 2147483647)
  | [g] => g
  | g :: g2 :: l => match i with
    | (k, []) => am_rgAt (g :: g2 :: l) k.toNat
    | _ => match am_idx e n i with
      | [] => (-2147483648, 2147483647)
      | v :: vs => am_join (g :: g2 :: l) (Int.ofNat n) vs (am_rgAt (g :: g2 :: l) v.toNat)
theorem am_rgAt1 (g : Int × Int) (j : Nat) : am_rgAt [g] j = g := by
  unfold am_rgAt
  cases j with
  | zero => rfl
  | succ j => rfl
theorem am_rgI_spec {r : am_V} {e : am_E} (h : am_In r e) {rs : List (Int × Int)} {n : Nat} {i : am_L} {j : Nat} (hj : am_ev r i = (j : Int)) (hn : j < n) : (am_rgI e rs n i).1 ≤ (am_rgAt rs j).1 ∧ (am_rgAt rs j).2 ≤ (am_rgI e rs n i).2 := by
  unfold am_rgI
  split
  · exact ⟨Int.le_refl _, Int.le_refl _⟩
  · rw [am_rgAt1]; exact ⟨Int.le_refl _, Int.le_refl _⟩
  · rename_i g g2 l
    split
    · rename_i k
      have : k.toNat = j := by have : am_ev r (k, []) = k := by simp [am_ev, am_ts]
                               omega
      rw [this]; exact ⟨Int.le_refl _, Int.le_refl _⟩
    · have hm := am_idx_mem (n := n) h (i := i) (by omega) (by omega)
      rw [hj] at hm
      cases hl : am_idx e n i with
      | nil => rw [hl] at hm; simp at hm
      | cons v vs =>
        rw [hl] at hm
        obtain ⟨h1, h2, h3⟩ := am_join_le (g :: g2 :: l) (Int.ofNat n) vs (am_rgAt (g :: g2 :: l) v.toNat)
        simp only []
        rcases List.mem_cons.mp hm with hm | hm
        · have : v.toNat = j := by omega
          rw [this] at h1 h2 ⊢
          exact ⟨h1, h2⟩
        · have := h3 _ hm (by omega) (by have : Int.ofNat n = (n : Int) := rfl; omega)
          simpa using this
/-- a slot read: as it is known, or a new variable of its range; it is known then -/
def am_rd (s : am_S) (c : Nat) (i : am_L) (g : Int × Int) : am_L × am_S := match am_find s.2.1 c i s.2.2.2 with
  | some v => (v, s)
  | none => match am_z (g.2 - g.1) with
    | true => ((g.1, []), am_kn s c i (g.1, []))
    | false => (am_var s, am_kn (am_fresh s g) c i (am_var s))
theorem am_rd_spec {xs : List Int32} {K : List am_K} {s : am_S} {lv st : List am_A} {r : am_V} {L : cm_Lv} {T : List Term} {h : cm_H} (hf : am_fr xs K s lv st r L T h) {c j : Nat} {i : am_L} {g : Int × Int} {x : Int32} (hc : c < 2000000) (hj : am_All s.1 r (fun q => am_ev q i = (j : Int))) (hx : am_slot xs h c j = some (.int x)) (h1 : g.1 ≤ x.toInt) (h2 : x.toInt ≤ g.2) :
    am_Val xs K s lv st r L T h x.toInt (am_rd s c i g) := by
  unfold am_rd
  split
  · rename_i v hv
    exact am_Val_same hf (am_find_slot hf.2.2.1 hv hc hj hx)
  · split
    · rename_i hz
      have hz := am_z_spec hz
      have e : am_All s.1 r (fun q => x.toInt = am_ev q (g.1, [])) := fun q _ _ => by
        have : am_ev q (g.1, []) = g.1 := by simp [am_ev, am_ts]
        show x.toInt = am_ev q (g.1, [])
        omega
      exact ⟨r, am_later_same (am_kn_1 _ _ _ _) r h, am_fr_same hf (am_kn_1 _ _ _ _) (am_kn_wf hf.2.1) (am_kn_spec hf.2.2.1 hc hx hj e), e⟩
    · obtain ⟨a1, a2, a3⟩ := am_fr_fresh hf h1 h2 (am_i1 x) (am_i2 x)
      have e : am_All (am_fresh s g).1 (am_up r s.1 x.toInt) (fun q => x.toInt = am_ev q (am_var s)) := fun q hq hg => (a3 q hq hg).symm
      exact ⟨_, ⟨a2.1, a2.2.1, a2.2.2⟩, am_fr_same a1 (am_kn_1 _ _ _ _) (am_kn_wf a1.2.1) (am_kn_spec a1.2.2.1 hc hx (am_All_more a2.1 a2.2.1 hj) e), e⟩
/-- within the array: 0 <= i <= n - 1 -/
def am_wi (s : am_S) (i n : am_L) : Bool := match am_prove s.2.1 s.2.2.1 i with
  | true => am_prove s.2.1 s.2.2.1 (am_add (-1) (am_add 1 (-1, []) n) i)
  | false => false
theorem am_wi_spec {xs : List Int32} {s : am_S} {r : am_V} {h : cm_H} (hr : am_Rg r) (hs : am_holds xs s r h) {i n : am_L} (hw : am_wi s i n = true) : 0 ≤ am_ev r i ∧ am_ev r i < am_ev r n := by
  obtain ⟨h1, h2, _⟩ := am_All_here hr hs
  unfold am_wi at hw
  split at hw
  · rename_i hp
    have hp := am_prove_spec h1 h2 hp
    have hq := am_prove_spec h1 h2 hw
    rw [am_add_ev, am_add_ev] at hq
    have e1 : am_ev r (-1, []) = -1 := rfl
    omega
  · simp at hw
/-- the value of an index as a whole number -/
theorem am_ixN {n : Nat} {r : am_V} (hr : am_Rg r) {i : am_L} {x : Int32} (hx : am_All n r (fun q => x.toInt = am_ev q i)) (h0 : 0 ≤ x.toInt) : am_All n r (fun q => am_ev q i = ((x.toInt.toNat : Nat) : Int)) := fun q hq hg => by
  have e : x.toInt = am_ev q i := hx q hq hg
  show am_ev q i = _
  omega
end
