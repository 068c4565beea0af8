theorem cm_nth_eq {α : Type} : ∀ (l : List α) (i : Nat), cm_nth l i = l[i]?
  | [], _ => by simp [cm_nth]
  | x :: _, 0 => by simp [cm_nth]
  | _ :: xs, i + 1 => by simp [cm_nth, cm_nth_eq xs i]
theorem cm_set_eq {α β : Type} : ∀ (l : List α) (i : Nat) (v : α) (k : List α → β), cm_set l i v k = k (l.set i v)
  | [], _, _, _ => by simp [cm_set]
  | _ :: _, 0, _, _ => by simp [cm_set]
  | x :: xs, i + 1, v, k => by simp [cm_set, cm_set_eq xs i v]
theorem cm_app_eq {α β : Type} : ∀ (l : List α) (v : α) (k : List α → β), cm_app l v k = k (l ++ [v])
  | [], _, _ => by simp [cm_app]
  | x :: xs, v, k => by simp [cm_app, cm_app_eq xs v]
theorem cm_ty1 {t : Term} (h : cm_ty t = 1) : ∃ x, t = .int x := by
  cases t <;> first | exact ⟨_, rfl⟩ | (simp [cm_ty] at h)
theorem cm_ty2 {t : Term} (h : cm_ty t = 2) : ∃ x, t = .long x := by
  cases t <;> first | exact ⟨_, rfl⟩ | (simp [cm_ty] at h)
theorem cm_ty3 {t : Term} (h : cm_ty t = 3) : t = .null ∨ (∃ k, t = .index k) ∨ ∃ c k, t = .string c k := by
  cases t with
  | null => exact Or.inl rfl
  | index k => exact Or.inr (Or.inl ⟨k, rfl⟩)
  | string c k => exact Or.inr (Or.inr ⟨c, k, rfl⟩)
  | _ => simp [cm_ty] at h
theorem cm_cat1 {t : Term} (h : cm_w1 t = true) (b0 : Nat) (sa : Nat → Nat) : (cm_ev b0 sa t).category = 1 := by
  unfold cm_w1 at h
  rw [Bool.or_eq_true, beq_iff_eq, beq_iff_eq] at h
  rcases h with h | h
  · obtain ⟨x, rfl⟩ := cm_ty1 h; rfl
  · rcases cm_ty3 h with rfl | ⟨k, rfl⟩ | ⟨c, k, rfl⟩ <;> rfl
theorem cm_cat2 {t : Term} (h : cm_ty t = 2) (b0 : Nat) (sa : Nat → Nat) : (cm_ev b0 sa t).category = 2 := by
  obtain ⟨x, rfl⟩ := cm_ty2 h; rfl
theorem cm_catL (b0 : Nat) (sa : Nat → Nat) : ∀ l : List Term, ((l.map (cm_ev b0 sa)).map fun v => v.category).sum ≤ cm_cat l
  | [] => Nat.le_refl _
  | t :: l => by
    have ih := cm_catL b0 sa l
    simp only [List.map_cons, List.sum_cons, cm_cat]
    by_cases h : cm_w1 t = true
    · rw [if_pos h, cm_cat1 h]; omega
    · rw [if_neg h]
      rcases lv_cat (cm_ev b0 sa t) with q | q <;> rw [q] <;> omega
def cm_xi : Value → Int32
  | .int x => x
  | _ => 0
def cm_xl : Value → Int64
  | .long x => x
  | _ => 0
/-! pictures: the cells of a list, the variables of a frame -/
abbrev cm_A (b0 : Nat) : Nat → Prop := fun q => b0 ≤ q
def cm_xr : Value → Option Nat
  | .ref a => some a
  | _ => none
def cm_el (b0 : Nat) (sa : Nat → Nat) (ty : FieldType) (l : List Term) : (Nat → Int32) ⊕ (Nat → Int64) ⊕ (Nat → UInt32) ⊕ (Nat → UInt64) ⊕ (Nat → Option Nat) := match ty with
  | .long => .inr (.inl (fun j => cm_xl (cm_ev b0 sa (l.getD j (.long 0)))))
  | .object _ => .inr (.inr (.inr (.inr (fun j => cm_xr (cm_ev b0 sa (l.getD j .null))))))
  | .array _ => .inr (.inr (.inr (.inr (fun j => cm_xr (cm_ev b0 sa (l.getD j .null))))))
  | _ => .inl (fun j => cm_xi (cm_ev b0 sa (l.getD j (.int 0))))
def cm_cc (b0 : Nat) (sa : Nat → Nat) (dA : FieldType → ClassId) : cm_C → va_E
  | .inl (ty, l) => .inl (dA ty, l.length, cm_el b0 sa ty l)
  | .inr (ci, fs) => .inr (ci, fs.map (cm_ev b0 sa))
def cm_ch (b0 : Nat) (sa : Nat → Nat) (dA : FieldType → ClassId) (h : cm_H) : va_W := h.mapIdx fun i c => (b0 + i, cm_cc b0 sa dA c)
theorem cm_ch_get {b0 : Nat} {sa : Nat → Nat} {dA : FieldType → ClassId} {h : cm_H} {i : Nat} {c : cm_C} (hi : h[i]? = some c) : (cm_ch b0 sa dA h)[i]? = some (b0 + i, cm_cc b0 sa dA c) := by
  simp [cm_ch, hi]
theorem cm_ch_at {b0 : Nat} {sa : Nat → Nat} {dA : FieldType → ClassId} {h : cm_H} {i : Nat} {q : Nat × va_E} (hi : (cm_ch b0 sa dA h)[i]? = some q) : q.1 = b0 + i ∧ i < h.length := by
  unfold cm_ch at hi
  rw [List.getElem?_mapIdx] at hi
  cases hc : h[i]? with
  | none => rw [hc] at hi; cases hi
  | some c =>
    rw [hc] at hi
    cases hi
    exact ⟨rfl, (List.getElem?_eq_some_iff.mp hc).1⟩
theorem cm_ch_set {b0 : Nat} {sa : Nat → Nat} {dA : FieldType → ClassId} {h : cm_H} {i : Nat} {c : cm_C} : cm_ch b0 sa dA (h.set i c) = (cm_ch b0 sa dA h).set i (b0 + i, cm_cc b0 sa dA c) := by
  apply List.ext_getElem?
  intro j
  simp only [cm_ch, List.getElem?_mapIdx, List.getElem?_set, List.length_mapIdx]
  by_cases hij : i = j
  · subst hij
    by_cases hl : i < h.length
    · simp [hl]
    · simp [hl]
  · simp [hij]
theorem cm_ch_app {b0 : Nat} {sa : Nat → Nat} {dA : FieldType → ClassId} {h : cm_H} {c : cm_C} : cm_ch b0 sa dA (h ++ [c]) = cm_ch b0 sa dA h ++ [(b0 + h.length, cm_cc b0 sa dA c)] := by
  simp [cm_ch, List.mapIdx_append]
theorem cm_ch_D {b0 : Nat} {sa : Nat → Nat} {dA : FieldType → ClassId} {h : cm_H} : va_D (cm_A b0) (cm_ch b0 sa dA h) := by
  refine ⟨fun i j p q hp hq e => ?_, fun k q hq => ?_⟩
  · have h1 := (cm_ch_at hp).1
    have h2 := (cm_ch_at hq).1
    omega
  · show b0 ≤ q.1
    have h1 := (cm_ch_at hq).1
    omega
def cm_Pic (D : va_G) (cl : List vw_C) (b0 : Nat) (sa : Nat → Nat) (dA : FieldType → ClassId) (h : cm_H) (H : Heap) : Prop := H.size = b0 + h.length ∧ va_P D cl (cm_ch b0 sa dA h) H
/-- the variables -/
def cm_cl (b0 : Nat) (sa : Nat → Nat) : Nat → cm_Lv → List (Nat × Value)
  | _, [] => []
  | i, some t :: l => (i, cm_ev b0 sa t) :: cm_cl b0 sa (i + 1) l
  | i, none :: l => cm_cl b0 sa (i + 1) l
theorem cm_cl_mem {b0 : Nat} {sa : Nat → Nat} {q : Nat × Value} : ∀ {l : cm_Lv} {i : Nat}, q ∈ cm_cl b0 sa i l ↔ ∃ (n : Nat) (t : Term), l[n]? = some (some t) ∧ q = (i + n, cm_ev b0 sa t)
  | [], i => by simp [cm_cl]
  | some t :: l, i => by
    simp only [cm_cl, List.mem_cons, cm_cl_mem (l := l)]
    constructor
    · rintro (rfl | ⟨n, u, h1, rfl⟩)
      · exact ⟨0, t, rfl, rfl⟩
      · exact ⟨n + 1, u, h1, by simp; omega⟩
    · rintro ⟨n, u, h1, rfl⟩
      cases n with
      | zero =>
        left
        simp at h1
        subst h1
        rfl
      | succ n => exact Or.inr ⟨n, u, by simpa using h1, by simp; omega⟩
  | none :: l, i => by
    simp only [cm_cl, cm_cl_mem (l := l)]
    constructor
    · rintro ⟨n, u, h1, rfl⟩
      exact ⟨n + 1, u, by simpa using h1, by simp; omega⟩
    · rintro ⟨n, u, h1, rfl⟩
      cases n with
      | zero => simp at h1
      | succ n => exact ⟨n, u, by simpa using h1, by simp; omega⟩
theorem cm_lv_ld {b0 : Nat} {sa : Nat → Nat} {ls : Array Slot} {nL : Nat} {lv : cm_Lv} {i : Nat} {t : Term} (hl : lv_has ls nL (cm_cl b0 sa 0 lv)) (h : lv[i]? = some (some t)) : ls[i]? = some (.val (cm_ev b0 sa t)) :=
  hl.2.2 (i, cm_ev b0 sa t) (cm_cl_mem.mpr ⟨i, t, h, by simp⟩)
theorem cm_noL_ok {b0 : Nat} {sa : Nat → Nat} {lv : cm_Lv} {i j : Nat} {t : Term} (h : cm_noL lv i = true) (hj : j + 1 = i) (ht : lv[j]? = some (some t)) : (cm_ev b0 sa t).category = 1 := by
  subst hj
  have h' : (match cm_nth lv j with
    | some (some t) => cm_w1 t
    | _ => true) = true := h
  rw [cm_nth_eq, ht] at h'
  exact cm_cat1 h' b0 sa
theorem cm_lv_sto {b0 : Nat} {sa : Nat → Nat} {ls : Array Slot} {nL : Nat} {lv : cm_Lv} {i : Nat} {t : Term} (hn : cm_noL lv i = true)
    (h : lv_has ls nL ((i, cm_ev b0 sa t) :: (cm_cl b0 sa 0 lv).filter (fun q => !(q.1 == i) && !(q.1 + 1 == i && q.2.category == 2)))) : lv_has ls nL (cm_cl b0 sa 0 (lv.set i (some t))) := by
  refine ⟨h.1, h.2.1, fun q hq => ?_⟩
  obtain ⟨n, u, hu, rfl⟩ := cm_cl_mem.mp hq
  rw [List.getElem?_set] at hu
  by_cases hni : i = n
  · subst hni
    rw [if_pos rfl] at hu
    split at hu
    · cases hu
      exact h.2.2 _ (by simp)
    · cases hu
  · rw [if_neg hni] at hu
    refine h.2.2 _ (List.mem_cons_of_mem _ (List.mem_filter.mpr ⟨cm_cl_mem.mpr ⟨n, u, hu, rfl⟩, ?_⟩))
    by_cases hn1 : n + 1 = i
    · have := cm_noL_ok (b0 := b0) (sa := sa) hn hn1 hu
      simp [this, Ne.symm hni]
    · simp [hn1, Ne.symm hni]
/-- the variables at a method's beginning -/
theorem cm_ent_ok {b0 : Nat} {sa : Nat → Nat} : ∀ {l : List Term} {i : Nat} {n : Nat} {t : Term}, cm_okA l = true → (cm_slots l)[n]? = some (some t) → (i + n, cm_ev b0 sa t) ∈ lv_args i (l.map (cm_ev b0 sa))
  | [], i, n, t, _, h => by simp [cm_slots] at h
  | u :: l, i, n, t, ho, h => by
    unfold cm_okA at ho
    rw [Bool.and_eq_true] at ho
    simp only [List.map_cons, lv_args]
    unfold cm_slots at h
    split at h
    · rename_i h2
      rw [cm_cat2 h2, if_pos rfl]
      match n, h with
      | 0, h => simp at h; subst h; simp
      | 1, h => simp at h
      | n + 2, h =>
        have := cm_ent_ok (b0 := b0) (sa := sa) (i := i + 2) ho.2 (by simpa using h)
        refine List.mem_cons_of_mem _ ?_
        rw [show i + (n + 2) = i + 2 + n by omega]
        exact this
    · rename_i h2
      have h1 : cm_w1 u = true := by
        have := ho.1
        rw [Bool.or_eq_true, beq_iff_eq] at this
        exact this.resolve_right h2
      rw [cm_cat1 h1, if_neg (by decide)]
      match n, h with
      | 0, h => simp at h; subst h; simp
      | n + 1, h =>
        have := cm_ent_ok (b0 := b0) (sa := sa) (i := i + 1) ho.2 (by simpa using h)
        refine List.mem_cons_of_mem _ ?_
        rw [show i + (n + 1) = i + 1 + n by omega]
        exact this
theorem cm_sl_len {b0 : Nat} {sa : Nat → Nat} : ∀ {l : List Term}, cm_okA l = true → (lg_sl (l.map (cm_ev b0 sa))).length = (cm_slots l).length
  | [], _ => rfl
  | u :: l, ho => by
    unfold cm_okA at ho
    rw [Bool.and_eq_true] at ho
    have ih := cm_sl_len (b0 := b0) (sa := sa) ho.2
    unfold lg_sl at ih ⊢
    simp only [List.map_cons, List.flatMap_cons, List.length_append, cm_slots]
    by_cases h2 : cm_ty u = 2
    · rw [cm_cat2 h2, if_pos rfl, if_pos h2, ih]
      simp; omega
    · have h1 : cm_w1 u = true := by
        have := ho.1
        rw [Bool.or_eq_true, beq_iff_eq] at this
        exact this.resolve_right h2
      rw [cm_cat1 h1, if_neg (by decide), if_neg h2, ih]
      simp; omega
theorem cm_entry {b0 : Nat} {sa : Nat → Nat} {l : List Term} {n : Nat} (ho : cm_okA l = true) (hn : (cm_slots l).length ≤ n) : lv_has ((lg_sl (l.map (cm_ev b0 sa)) ++ List.replicate (n - (lg_sl (l.map (cm_ev b0 sa))).length) Slot.unset).toArray) n (cm_cl b0 sa 0 (cm_ent n l)) := by
  have h := lv_entry (l.map (cm_ev b0 sa)) (n := n) (by rw [cm_sl_len ho]; exact hn)
  refine ⟨h.1, h.2.1, fun q hq => ?_⟩
  obtain ⟨k, u, hu, rfl⟩ := cm_cl_mem.mp hq
  refine h.2.2 _ (cm_ent_ok ho ?_)
  unfold cm_ent at hu
  rw [List.getElem?_append] at hu
  split at hu
  · exact hu
  · rw [List.getElem?_replicate] at hu
    split at hu <;> simp at hu
theorem cm_ent_len {l : List Term} {n : Nat} (hn : (cm_slots l).length ≤ n) : (cm_ent n l).length = n := by
  unfold cm_ent
  simp
  omega
/-! what a step's pieces say when they answer -/
theorem cm_two_ok {β : Type} {st : List Term} {k : Int32 → Int32 → List Term → Option β} {z : β} (h : cm_two st k = some z) : ∃ x y st', st = .int y :: .int x :: st' ∧ k x y st' = some z := by
  unfold cm_two at h
  split at h
  · exact ⟨_, _, _, rfl, h⟩
  · cases h
theorem cm_one_ok {β : Type} {st : List Term} {k : Int32 → List Term → Option β} {z : β} (h : cm_one st k = some z) : ∃ x st', st = .int x :: st' ∧ k x st' = some z := by
  unfold cm_one at h
  split at h
  · exact ⟨_, _, rfl, h⟩
  · cases h
theorem cm_twoL_ok {β : Type} {st : List Term} {k : Int64 → Int64 → List Term → Option β} {z : β} (h : cm_twoL st k = some z) : ∃ x y st', st = .long y :: .long x :: st' ∧ k x y st' = some z := by
  unfold cm_twoL at h
  split at h
  · exact ⟨_, _, _, rfl, h⟩
  · cases h
theorem cm_twoM_ok {β : Type} {st : List Term} {k : Int64 → Int32 → List Term → Option β} {z : β} (h : cm_twoM st k = some z) : ∃ x y st', st = .int y :: .long x :: st' ∧ k x y st' = some z := by
  unfold cm_twoM at h
  split at h
  · exact ⟨_, _, _, rfl, h⟩
  · cases h
theorem cm_ref_ok {β : Type} {st : List Term} {k : Term → List Term → Option β} {z : β} (h : cm_ref st k = some z) : ∃ t st', st = t :: st' ∧ cm_ty t = 3 ∧ k t st' = some z := by
  unfold cm_ref at h
  split at h
  · split at h
    · rename_i hc
      exact ⟨_, _, rfl, hc, h⟩
    · cases h
  · cases h
theorem cm_ld_ok {β : Type} {lv : cm_Lv} {i T : Nat} {k : Term → Option β} {x : β} (h : cm_ld lv i T k = some x) : ∃ t, lv[i]? = some (some t) ∧ cm_ty t = T ∧ k t = some x := by
  unfold cm_ld at h
  rw [cm_nth_eq] at h
  split at h
  · rename_i t ht
    split at h
    · rename_i hc
      exact ⟨t, ht, hc, h⟩
    · cases h
  · cases h
theorem cm_sto_ok {β : Type} {lv : cm_Lv} {i : Nat} {t : Term} {k : cm_Lv → Option β} {x : β} (h : cm_sto lv i t k = some x) : cm_noL lv i = true ∧ i < lv.length ∧ k (lv.set i (some t)) = some x := by
  unfold cm_sto at h
  split at h
  · rename_i hc
    rw [cm_set_eq] at h
    exact ⟨hc.1, hc.2, h⟩
  · cases h
theorem cm_pop_ok {β : Type} {k : List Term → List Term → Option β} {x : β} : ∀ {n : Nat} {st acc : List Term}, cm_pop n st acc k = some x → ∃ ys rest, st = ys ++ rest ∧ ys.length = n ∧ k (ys.reverse ++ acc) rest = some x
  | 0, st, acc, h => ⟨[], st, rfl, rfl, by simpa [cm_pop] using h⟩
  | n + 1, [], acc, h => by simp [cm_pop] at h
  | n + 1, t :: st, acc, h => by
    obtain ⟨ys, rest, h1, h2, h3⟩ := cm_pop_ok (n := n) (st := st) (acc := t :: acc) (by simpa [cm_pop] using h)
    exact ⟨t :: ys, rest, by rw [h1]; rfl, by simp [h2], by simpa using h3⟩
/-! values as a field or an answer holds them -/
theorem cm_dv_fit {t : Term} {ty : FieldType} (h : cm_dv t ty = true) (b0 : Nat) (sa : Nat → Nat) : narrow ty (cm_ev b0 sa t) = cm_ev b0 sa t ∧ fits ty (cm_ev b0 sa t) = true := by
  unfold cm_dv at h
  split at h
  · obtain ⟨x, rfl⟩ := cm_ty1 (beq_iff_eq.mp h); exact ⟨rfl, rfl⟩
  · obtain ⟨x, rfl⟩ := cm_ty2 (beq_iff_eq.mp h); exact ⟨rfl, rfl⟩
  · rcases cm_ty3 (beq_iff_eq.mp h) with rfl | ⟨k, rfl⟩ | ⟨c, k, rfl⟩ <;> exact ⟨rfl, rfl⟩
  · rcases cm_ty3 (beq_iff_eq.mp h) with rfl | ⟨k, rfl⟩ | ⟨c, k, rfl⟩ <;> exact ⟨rfl, rfl⟩
  all_goals first
    | (split at h
       · exact of_decide_eq_true h
       · cases h)
    | cases h
theorem cm_d0_ok {ty : FieldType} (h : cm_tyok ty = true) (b0 : Nat) (sa : Nat → Nat) : defaultValue ty = cm_ev b0 sa (cm_d0 ty) := by
  cases ty <;> first | rfl | (simp [cm_tyok] at h)
