noncomputable section
/-! LAYER 2, states: values, cells and what is known of them. A value: 0 an int, a form; 1 an int, the sign of a form; 2 a long, a form; 3 a long; 4 a new cell; 5 an old cell; 6 a reference; else nothing, or a value of one word. -/
abbrev am_A : Type := Nat × am_L
/-- how many variables, their ranges, facts, slots (cell, index) with their values -/
abbrev am_S : Type := Nat × am_E × am_F × List ((Nat × am_L) × am_L)
def am_Rg (r : am_V) : Prop := ∀ v, -2147483648 ≤ r v ∧ r v ≤ 2147483647
def am_Ag (n : Nat) (r q : am_V) : Prop := ∀ v, v < n → q v = r v
/-- holds whatever the variables from n on are -/
def am_All (n : Nat) (r : am_V) (P : am_V → Prop) : Prop := ∀ q, am_Rg q → am_Ag n r q → P q
theorem am_Ag_trans {n m : Nat} {r q s : am_V} (hn : n ≤ m) (h1 : am_Ag n r q) (h2 : am_Ag m q s) : am_Ag n r s := fun v hv => (h2 v (Nat.lt_of_lt_of_le hv hn)).trans (h1 v hv)
theorem am_Ag_refl (n : Nat) (r : am_V) : am_Ag n r r := fun _ _ => rfl
theorem am_All_here {n : Nat} {r : am_V} {P : am_V → Prop} (hr : am_Rg r) (h : am_All n r P) : P r := h r hr (am_Ag_refl n r)
theorem am_All_more {n m : Nat} {r q : am_V} {P : am_V → Prop} (hn : n ≤ m) (ha : am_Ag n r q) (h : am_All n r P) : am_All m q P := fun s hs hq => h s hs (am_Ag_trans hn ha hq)
theorem am_All_imp {n : Nat} {r : am_V} {P Q : am_V → Prop} (hi : ∀ q, am_Rg q → P q → Q q) (h : am_All n r P) : am_All n r Q := fun s hs hq => hi s hs (h s hs hq)
theorem am_All_and {n : Nat} {r : am_V} {P Q : am_V → Prop} (h1 : am_All n r P) (h2 : am_All n r Q) : am_All n r (fun q => P q ∧ Q q) := fun s hs hq => ⟨h1 s hs hq, h2 s hs hq⟩
/-- the next variable, with a value -/
def am_up (r : am_V) (n : Nat) (x : Int) : am_V := fun v => if v = n then x else r v
theorem am_up_Ag (r : am_V) (n : Nat) (x : Int) : am_Ag n r (am_up r n x) := fun v hv => if_neg (Nat.ne_of_lt hv)
theorem am_up_at (r : am_V) (n : Nat) (x : Int) : am_up r n x n = x := if_pos rfl
theorem am_up_Rg {r : am_V} {n : Nat} {x : Int} (hr : am_Rg r) (h1 : -2147483648 ≤ x) (h2 : x ≤ 2147483647) : am_Rg (am_up r n x) := by
  intro v
  by_cases hv : v = n
  · rw [hv, am_up_at]; exact ⟨h1, h2⟩
  · have : am_up r n x v = r v := if_neg hv
    rw [this]; exact hr v
/-- a value as the interpreter has it -/
def am_sat (r : am_V) (a : am_A) (t : Option Term) : Prop := match a.1 with
  | 0 => ∃ x : Int32, t = some (.int x) ∧ x.toInt = am_ev r a.2
  | 1 => ∃ x : Int32, t = some (.int x) ∧ (0 < am_ev r a.2 → x = 1) ∧ (am_ev r a.2 = 0 → x = 0) ∧ (am_ev r a.2 < 0 → x = -1)
  | 2 => ∃ x : Int64, t = some (.long x) ∧ x.toInt = am_ev r a.2
  | 3 => ∃ x : Int64, t = some (.long x)
  | 4 => t = some (.index a.2.1.toNat)
  | 5 => t = some (.string "" a.2.1.toNat)
  | 6 => ∃ u, t = some u ∧ cm_ty u = 3
  | _ => t = none ∨ ∃ u, t = some u ∧ cm_w1 u = true
/-- a kind of cell: an array of a type, a length, ranges of its elements (one for all that are beyond the list's end: the first); an object of a kind with its fields, a fixed value or a range -/
abbrev am_K : Type := (FieldType × Nat × List (Int × Int)) ⊕ (Nat × List (Term ⊕ (Int × Int)))
def am_rgAt (rs : List (Int × Int)) (i : Nat) : Int × Int := match rs with
  | [] => (-2147483648, 2147483647)
  | x :: _ => am_nth x rs i
def am_isIn (u : Term) (g : Int × Int) : Prop := ∃ x : Int32, u = .int x ∧ g.1 ≤ x.toInt ∧ x.toInt ≤ g.2
def am_fld (sp : Term ⊕ (Int × Int)) (u : Term) : Prop := match sp with
  | .inl t => u = t
  | .inr g => am_isIn u g
def am_cell (k : am_K) (c : cm_C) : Prop := match k with
  | .inl (ty, n, rs) => ∃ l, c = .inl (ty, l) ∧ l.length = n ∧ ∀ i : Nat, i < n → ∃ u, l[i]? = some u ∧ am_isIn u (am_rgAt rs i)
  | .inr (ci, fs) => ∃ l, c = .inr (ci, l) ∧ l.length = fs.length ∧ ∀ (i : Nat) (sp : Term ⊕ (Int × Int)), fs[i]? = some sp → ∃ u, l[i]? = some u ∧ am_fld sp u
/-- the cells are of their kinds, their slots within their ranges -/
def am_heap (K : List am_K) (h : cm_H) : Prop := h.length = K.length ∧ ∀ (i : Nat) (k : am_K), K[i]? = some k → ∃ c, h[i]? = some c ∧ am_cell k c
/-- the terms of a cell -/
def am_tms (c : Option cm_C) : List Term := match c with
  | some (.inl (_, l)) => l
  | some (.inr (_, l)) => l
  | none => []
/-- a slot: of a new cell; of the script (1000000); the script's length (1000001) -/
def am_slot (xs : List Int32) (h : cm_H) (c i : Nat) : Option Term := match c with
  | 1000000 => (xs[i]?).map Term.int
  | 1000001 => some (.int (Int32.ofNat xs.length))
  | _ => (am_tms h[c]?)[i]?
/-- a slot's value as told -/
def am_slE (xs : List Int32) (h : cm_H) (r : am_V) (o : (Nat × am_L) × am_L) : Prop :=
  0 ≤ am_ev r o.1.2 ∧ ∃ x : Int32, am_slot xs h o.1.1 (am_ev r o.1.2).toNat = some (.int x) ∧ x.toInt = am_ev r o.2
/-- the draft's cells go together -/
def am_I (xs : List Int32) (h : cm_H) : Prop := ∃ r : am_V, am_Rg r ∧ am_InL r am_De ∧ am_FsL r am_Df ∧ ∀ o ∈ am_Do, am_slE xs h r o
/-- what an entry from 5000000 on says: the last word of the machine over the class's tape, over the reference's; both are alike up to a length -/
def am_fw (k : Nat) (t u : List Term) (x v : Int) : Prop := if k = 5000000 then bk_R t x v else if k = 5000001 then bk_R u x v else if k = 5000002 then (∀ j : Nat, (j : Int) < v → t[j]? = u[j]?) else True
theorem am_fw_2 {t u : List Term} {x v : Int} : am_fw 5000002 t u x v ↔ ∀ j : Nat, (j : Int) < v → t[j]? = u[j]? := by
  unfold am_fw
  rw [if_neg (by decide), if_neg (by decide), if_pos rfl]
def am_fe (h : cm_H) (r : am_V) (o : (Nat × am_L) × am_L) : Prop := am_fw o.1.1 (am_tms h[59]?) (am_tms h[104]?) (am_ev r o.1.2) (am_ev r o.2)
/-- what an entry says: of a slot; 2000000 + v: a product with the variable v; 3000000: the draft's cells go together; from 4000000 on: nothing; from 5000000 on: of tapes -/
def am_ent (xs : List Int32) (h : cm_H) (r : am_V) (o : (Nat × am_L) × am_L) : Prop :=
  (o.1.1 < 2000000 → am_slE xs h r o) ∧ (2000000 ≤ o.1.1 → o.1.1 < 3000000 → am_ev r o.1.2 * r (o.1.1 - 2000000) = am_ev r o.2) ∧ (o.1.1 = 3000000 → am_I xs h) ∧ (5000000 ≤ o.1.1 → am_fe h r o)
def am_ov (xs : List Int32) (h : cm_H) (r : am_V) (ov : List ((Nat × am_L) × am_L)) : Prop := ∀ o ∈ ov, am_ent xs h r o
theorem am_ent_slot {xs : List Int32} {h : cm_H} {r : am_V} {o : (Nat × am_L) × am_L} (hc : o.1.1 < 2000000) (hs : am_slE xs h r o) : am_ent xs h r o := ⟨fun _ => hs, fun _ _ => by omega, fun _ => by omega, fun _ => by omega⟩
theorem am_ent_any {xs : List Int32} {h : cm_H} {r : am_V} {o : (Nat × am_L) × am_L} (hc : 4000000 ≤ o.1.1) (hd : o.1.1 < 5000000) : am_ent xs h r o := ⟨fun _ => by omega, fun _ _ => by omega, fun _ => by omega, fun _ => by omega⟩
theorem am_ent_fun {xs : List Int32} {h : cm_H} {r : am_V} {o : (Nat × am_L) × am_L} (hc : 5000000 ≤ o.1.1) (hf : am_fe h r o) : am_ent xs h r o := ⟨fun _ => by omega, fun _ _ => by omega, fun _ => by omega, fun _ => hf⟩
theorem am_ent_inv {xs : List Int32} {h : cm_H} {r : am_V} {o : (Nat × am_L) × am_L} (hc : o.1.1 = 3000000) (hi : am_I xs h) : am_ent xs h r o := ⟨fun _ => by omega, fun _ _ => by omega, fun _ => hi, fun _ => by omega⟩
theorem am_ent_prd {xs : List Int32} {h : cm_H} {r : am_V} {o : (Nat × am_L) × am_L} (h1 : 2000000 ≤ o.1.1) (h2 : o.1.1 < 3000000) (hp : am_ev r o.1.2 * r (o.1.1 - 2000000) = am_ev r o.2) : am_ent xs h r o := ⟨fun _ => by omega, fun _ _ => hp, fun _ => by omega, fun _ => by omega⟩
/-- what a state says -/
def am_holds (xs : List Int32) (s : am_S) (r : am_V) (h : cm_H) : Prop :=
  am_All s.1 r (fun q => am_In q s.2.1 ∧ am_Fs q s.2.2.1 ∧ am_ov xs h q s.2.2.2)
/-- the values of a list of variables, of a stack -/
def am_lvs (r : am_V) : List am_A → cm_Lv → Prop
  | [], [] => True
  | a :: as, t :: ts => am_sat r a t ∧ am_lvs r as ts
  | _, _ => False
def am_sts (r : am_V) : List am_A → List Term → Prop
  | [], [] => True
  | a :: as, t :: ts => am_sat r a (some t) ∧ am_sts r as ts
  | _, _ => False
/-- slots outside a list are as they were: (c, 0) the cell c, (c, j + 1) its slot j -/
def am_out (ms : List (Nat × Nat)) (h h' : cm_H) : Prop := h'.length = h.length ∧ ∀ i : Nat, (i, 0) ∉ ms → ∀ j : Nat, (i, j + 1) ∉ ms → (am_tms h'[i]?)[j]? = (am_tms h[i]?)[j]?
theorem am_out_refl (ms : List (Nat × Nat)) (h : cm_H) : am_out ms h h := ⟨rfl, fun _ _ _ _ => rfl⟩
theorem am_out_trans {ms : List (Nat × Nat)} {h h1 h2 : cm_H} (a : am_out ms h h1) (b : am_out ms h1 h2) : am_out ms h h2 := ⟨b.1.trans a.1, fun i hi j hj => (b.2 i hi j hj).trans (a.2 i hi j hj)⟩
theorem am_out_mono {ms ns : List (Nat × Nat)} {h h' : cm_H} (hs : ∀ i ∈ ms, i ∈ ns) (a : am_out ms h h') : am_out ns h h' := ⟨a.1, fun i hi j hj => a.2 i (fun hm => hi (hs _ hm)) j (fun hm => hj (hs _ hm))⟩
end
