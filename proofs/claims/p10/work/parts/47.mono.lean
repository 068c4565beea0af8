noncomputable section
/-! LAYER 2, more fuel and more statics change no answer. -/
def am_le (a b : Option cm_R) : Prop := ∀ R, a = some R → b = some R
theorem am_le_rfl (a : Option cm_R) : am_le a a := fun _ h => h
theorem am_le_none (b : Option cm_R) : am_le none b := fun _ h => by simp at h
theorem am_le_ld {lv : cm_Lv} {i T : Nat} {k k' : Term → Option cm_R} (h : ∀ t, am_le (k t) (k' t)) : am_le (cm_ld lv i T k) (cm_ld lv i T k') := by
  unfold cm_ld
  cases cm_nth lv i with
  | none => exact am_le_none _
  | some o => cases o with
    | none => exact am_le_none _
    | some t =>
      by_cases ht : cm_ty t = T
      · simp only [ht, if_true]; exact h t
      · simp only [ht, if_false]; exact am_le_none _
theorem am_le_sto {lv : cm_Lv} {i : Nat} {t : Term} {k k' : cm_Lv → Option cm_R} (h : ∀ l, am_le (k l) (k' l)) : am_le (cm_sto lv i t k) (cm_sto lv i t k') := by
  unfold cm_sto
  by_cases hc : cm_noL lv i = true ∧ i < lv.length
  · rw [if_pos hc, if_pos hc, cm_set_eq, cm_set_eq]; exact h _
  · rw [if_neg hc]; exact am_le_none _
theorem am_le_one {st : List Term} {k k' : Int32 → List Term → Option cm_R} (h : ∀ x s, am_le (k x s) (k' x s)) : am_le (cm_one st k) (cm_one st k') := by
  unfold cm_one
  split
  · exact h _ _
  · exact am_le_none _
theorem am_le_two {st : List Term} {k k' : Int32 → Int32 → List Term → Option cm_R} (h : ∀ x y s, am_le (k x y s) (k' x y s)) : am_le (cm_two st k) (cm_two st k') := by
  unfold cm_two
  split
  · exact h _ _ _
  · exact am_le_none _
theorem am_le_ref {st : List Term} {k k' : Term → List Term → Option cm_R} (h : ∀ x s, am_le (k x s) (k' x s)) : am_le (cm_ref st k) (cm_ref st k') := by
  unfold cm_ref
  split
  · rename_i t s
    by_cases ht : cm_ty t = 3
    · simp only [ht, if_true]; exact h _ _
    · simp only [ht, if_false]; exact am_le_none _
  · exact am_le_none _
theorem am_le_more {c s : Nat} {a b : Option cm_R} (h : am_le a b) : am_le (cm_more c s a) (cm_more c s b) := by
  intro R hR
  cases a with
  | none => simp [cm_more] at hR
  | some r =>
    rw [h r rfl]; exact hR
theorem am_le_astore {st : List Term} {h : cm_H} {ty : FieldType} {f : Int32 → Int32} {k k' : List Term → cm_H → Option cm_R} (hk : ∀ s h, am_le (k s h) (k' s h)) : am_le (cm_astore st h ty f k) (cm_astore st h ty f k') := by
  unfold cm_astore
  split
  · split
    · split
      · rw [cm_set_eq, cm_set_eq, cm_set_eq, cm_set_eq]; exact hk _ _
      · exact am_le_none _
    · exact am_le_none _
  · exact am_le_none _
theorem am_le_get {pg : cm_G} {h : cm_H} {ci k kind : Nat} {t : Term} {kk kk' : Term → Option cm_R} (hk : ∀ v, am_le (kk v) (kk' v)) (he : pg.2.2.2.2 = []) {pg' : cm_G} : am_le (cm_get pg h ci k kind t kk) (cm_get pg' h ci k kind t kk') := by
  unfold cm_get
  cases t with
  | index i =>
    simp only []
    split
    · split
      · split
        · exact hk _
        · exact am_le_none _
      · exact am_le_none _
    · exact am_le_none _
  | string z i =>
    simp only [he, cm_nth]
    exact am_le_none _
  | _ => exact am_le_none _
theorem am_le_put {pg pg' : cm_G} {h : cm_H} {ci k : Nat} {t v : Term} {kk kk' : cm_H → Option cm_R} (hk : ∀ h, am_le (kk h) (kk' h)) (he : pg.2.1 = pg'.2.1) : am_le (cm_put pg h ci k t v kk) (cm_put pg' h ci k t v kk') := by
  have hf : cm_fty pg ci k = cm_fty pg' ci k := by unfold cm_fty; rw [he]
  unfold cm_put
  rw [hf]
  cases t with
  | index i =>
    simp only []
    split
    · split
      · rw [cm_set_eq, cm_set_eq, cm_set_eq, cm_set_eq]; exact hk _
      · exact am_le_none _
    · exact am_le_none _
  | _ => exact am_le_none _
theorem am_le_app {α : Type} {l : List α} {v : α} {k k' : List α → Option cm_R} (hk : ∀ l, am_le (k l) (k' l)) : am_le (cm_app l v k) (cm_app l v k') := by
  induction l generalizing k k' with
  | nil => exact hk _
  | cons x l ih => exact ih (fun l => hk (x :: l))
theorem am_le_pop {n : Nat} {st acc : List Term} {k k' : List Term → List Term → Option cm_R} (hk : ∀ a b, am_le (k a b) (k' a b)) : am_le (cm_pop n st acc k) (cm_pop n st acc k') := by
  induction n generalizing st acc with
  | zero => exact hk _ _
  | succ n ih => cases st with
    | nil => exact am_le_none _
    | cons t st => exact ih
theorem am_le_call {pg pg' : cm_G} {ih ih' : Nat → cm_M → Nat → cm_Lv → List Term → cm_H → Option cm_R} {d callee : Nat} {args rest : List Term} {h : cm_H} {k k' : List Term → cm_H → Option cm_R} (hi : ∀ d mr pc lv st h, am_le (ih d mr pc lv st h) (ih' d mr pc lv st h)) (hk : ∀ s h, am_le (k s h) (k' s h)) (he : pg.1 = pg'.1) : am_le (cm_call pg ih d callee args rest h k) (cm_call pg' ih' d callee args rest h k') := by
  unfold cm_call
  rw [he]
  cases cm_nth pg'.1 callee with
  | none => exact am_le_none _
  | some mr => cases d with
    | zero => exact am_le_none _
    | succ d =>
      simp only []
      split
      · intro R hR
        cases hr : ih d mr 0 (cm_ent mr.2.1 args) [] h with
        | none => rw [hr] at hR; simp at hR
        | some r =>
          rw [hr] at hR
          rw [hi _ _ _ _ _ _ r hr]
          obtain ⟨v, h', c, s⟩ := r
          exact am_le_more (hk _ _) R hR
      · exact am_le_none _
/-- what constructors do here -/
def am_opOk (ins : Instr) : Bool := match ins with
  | .iconst _ | .bipush _ | .sipush _ | .aload_n _ | .iload_n _ | .iload _ | .istore_n _ | .istore _ | .iadd | .isub | .imul | .dup | .goto _ | .if_icmp _ _ | .ifCond _ _ | .iinc _ _ | .iastore | .newarray _ | .new _ | .getfield _ | .putfield _ | .invokespecial _ | .return_ | .ireturn | .pop => true
  | _ => false
set_option maxHeartbeats 4000000 in
theorem am_le_step {pg pg' : cm_G} {ih ih' : Nat → cm_M → Nat → cm_Lv → List Term → cm_H → Option cm_R} (hi : ∀ d mr pc lv st h, am_le (ih d mr pc lv st h) (ih' d mr pc lv st h)) (h1 : pg.1 = pg'.1) (h2 : pg.2.1 = pg'.2.1) (h3 : pg.2.2.1 = []) (h4 : pg.2.2.2.1 = []) (h5 : pg.2.2.2.2 = []) (d : Nat) (mr : cm_M) (pc : Nat) (lv : cm_Lv) (st : List Term) (h : cm_H)
    (hop : ∀ ins np rs, cm_at mr.1 pc = some (ins, np, rs) → am_opOk ins = true) : am_le (cm_step pg ih d mr pc lv st h) (cm_step pg' ih' d mr pc lv st h) := by
  unfold cm_step
  cases hat : cm_at mr.1 pc with
  | none => exact am_le_none _
  | some i =>
    obtain ⟨ins, np, rs⟩ := i
    have ho := hop ins np rs hat
    cases ins with
    | iconst v => exact hi _ _ _ _ _ _
    | bipush v => exact hi _ _ _ _ _ _
    | sipush v => exact hi _ _ _ _ _ _
    | aload_n i => exact am_le_ld (fun t => hi _ _ _ _ _ _)
    | iload_n i => exact am_le_ld (fun t => hi _ _ _ _ _ _)
    | iload i => exact am_le_ld (fun t => hi _ _ _ _ _ _)
    | istore_n i => exact am_le_one (fun x s => am_le_sto (fun l => hi _ _ _ _ _ _))
    | istore i => exact am_le_one (fun x s => am_le_sto (fun l => hi _ _ _ _ _ _))
    | iadd => exact am_le_two (fun x y s => hi _ _ _ _ _ _)
    | isub => exact am_le_two (fun x y s => hi _ _ _ _ _ _)
    | imul => exact am_le_two (fun x y s => hi _ _ _ _ _ _)
    | dup =>
      simp only []
      split
      · split
        · exact hi _ _ _ _ _ _
        · exact am_le_none _
      · exact am_le_none _
    | pop =>
      simp only []
      split
      · split
        · exact hi _ _ _ _ _ _
        · exact am_le_none _
      · exact am_le_none _
    | goto o =>
      simp only []
      split
      · exact hi _ _ _ _ _ _
      · exact am_le_none _
    | if_icmp c o =>
      simp only []
      split
      · exact am_le_two (fun x y s => hi _ _ _ _ _ _)
      · exact am_le_none _
    | ifCond c o =>
      simp only []
      split
      · exact am_le_one (fun x s => hi _ _ _ _ _ _)
      · exact am_le_none _
    | iinc i v =>
      simp only []
      split
      · exact am_le_sto (fun l => hi _ _ _ _ _ _)
      · exact am_le_none _
    | iastore => exact am_le_astore (fun s h => hi _ _ _ _ _ _)
    | newarray a =>
      refine am_le_one (fun x s => ?_)
      split
      · exact am_le_app (fun l => am_le_more (hi _ _ _ _ _ _))
      · exact am_le_none _
    | new a =>
      simp only [h2]
      split
      · split
        · exact am_le_none _
        · exact am_le_app (fun l => am_le_more (hi _ _ _ _ _ _))
      · exact am_le_none _
    | getfield a =>
      simp only []
      split
      · exact am_le_get (fun v => hi _ _ _ _ _ _) h5
      · exact am_le_none _
    | putfield a =>
      simp only []
      split
      · exact am_le_put (fun h => hi _ _ _ _ _ _) h2
      · exact am_le_none _
    | invokespecial a =>
      simp only []
      split
      · split
        · split
          · exact am_le_none _
          · exact hi _ _ _ _ _ _
        · exact am_le_none _
      · refine am_le_pop (fun a b => ?_)
        split
        · exact am_le_call hi (fun s h => hi _ _ _ _ _ _) h1
        · exact am_le_none _
      · exact am_le_none _
    | return_ => exact am_le_rfl _
    | ireturn => exact am_le_rfl _
    | _ => simp [am_opOk] at ho
def am_pgE : cm_G := (cm_ms, cm_tys, [], [], [])
def am_stR (ih : Nat → cm_M → Nat → cm_Lv → List Term → cm_H → Option cm_R) (d : Nat) (mr : cm_M) (pc : Nat) (lv : cm_Lv) (st : List Term) (h : cm_H) : Option cm_R := match cm_at mr.1 pc with
  | some (ins, _, _) => (match am_opOk ins with
    | true => cm_step am_pgE ih d mr pc lv st h
    | false => none)
  | none => none
noncomputable def am_runR (n : Nat) : Nat → cm_M → Nat → cm_Lv → List Term → cm_H → Option cm_R :=
  Nat.rec (fun _ _ _ _ _ _ => none) (fun _ ih => am_stR ih) n
theorem am_runR_le (x : Term) (xs : List Int32) : ∀ (n m : Nat), n ≤ m → ∀ d mr pc lv st h, am_le (am_runR n d mr pc lv st h) (cm_run (cm_pg x xs) m d mr pc lv st h)
  | 0, _, _, _, _, _, _, _, _ => am_le_none _
  | n + 1, 0, hm, _, _, _, _, _, _ => by omega
  | n + 1, m + 1, hm, d, mr, pc, lv, st, h => by
    have ih := am_runR_le x xs n m (by omega)
    show am_le (am_stR (am_runR n) d mr pc lv st h) (cm_step (cm_pg x xs) (cm_run (cm_pg x xs) m) d mr pc lv st h)
    unfold am_stR
    split
    · rename_i ins np rs hat
      split
      · rename_i hb
        refine am_le_step (pg := am_pgE) (pg' := cm_pg x xs) ih rfl rfl rfl rfl rfl d mr pc lv st h (fun i2 n2 r2 h2 => ?_)
        rw [hat] at h2
        injection h2 with h2
        injection h2 with h2 _
        rw [← h2]; exact hb
      · exact am_le_none _
    · exact am_le_none _
end
