noncomputable section
/-! L3: the law answers 1, if it ends. -/
section
variable {X : Term} {xs : List Int32}
abbrev hdL (X : Term) (xs : List Int32) (N : Nat) (H : fl_H) (a : Int) : Prop := hd_GoodsBookLaw_law_s0_18 (cm_pg X xs) N H a (fun r _ => r = some 1)
theorem lw_u {T : fl_H → Prop} {e : Bool} {M1 M2 : cm_M} {a1 a2 : List Term} {m N : Nat} {H : fl_H} {a : Int} (h : tw X xs T e M1 M2 a1 a2) (t : T H) (ih : ∀ m, m < N → ∀ H, T H → hdL X xs m H a) : ck (cm_pg X xs) m M1 a1 H (fun r H1 => ∃ x, r = some x ∧ ∀ m', ck (cm_pg X xs) m' M2 a2 H1 (fun r' H2 => ∃ y, r' = some y ∧ ∀ m, m < N → hdL X xs m H2 a)) :=
  ck_mono (h m H t) (fun r H1 k => by
    obtain ⟨⟨x, hx⟩, k2⟩ := k
    exact ⟨x, hx, fun m' => ck_mono (k2 m') (fun r' H2 q => by
      obtain ⟨⟨y, hy⟩, q2, q3⟩ := q
      exact ⟨y, hy, fun m hm => ih m hm H2 q3⟩)⟩)
theorem lw_c {T : fl_H → Prop} {M1 M2 : cm_M} {a1 a2 : List Term} {m N : Nat} {H : fl_H} {a : Int} (h : tw X xs T true M1 M2 a1 a2) (t : T H) (ih : ∀ m, m < N → ∀ H, T H → hdL X xs m H a) : ck (cm_pg X xs) m M1 a1 H (fun r H1 => ∃ x, r = some x ∧ ∀ m', ck (cm_pg X xs) m' M2 a2 H1 (fun r' H2 => ∃ y, r' = some y ∧ (((fl_w x = fl_w y) → ∀ m, m < N → hdL X xs m H2 a) ∧ (¬ (fl_w x = fl_w y) → (some 0 : Option Int) = some 1)))) :=
  ck_mono (h m H t) (fun r H1 k => by
    obtain ⟨⟨x, hx⟩, k2⟩ := k
    refine ⟨x, hx, fun m' => ck_mono (k2 m') (fun r' H2 q => ?_)⟩
    obtain ⟨⟨y, hy⟩, q2, q3⟩ := q
    have hxy : y = x := by
      have := q2 rfl
      rw [hx, hy] at this
      exact Option.some.inj this
    exact ⟨y, hy, fun _ m hm => ih m hm H2 q3, fun hne => absurd (by rw [hxy]) hne⟩)
theorem law_all  : ∀ (N : Nat) (H : fl_H) (a3 : Int), T1 H → hdL X xs N H a3 := by
  intro N
  induction N using Nat.strongRecOn with
  | ind N IH =>
    intro H a3 t
    have ih : ∀ m, m < N → ∀ H, T1 H → hdL X xs m H (a3 + 6) := fun m hm H t => IH m hm H (a3 + 6) t
    exact vh_GoodsBookLaw_law_s0_18 ⟨fun _ => rfl, fun _ _ => ⟨
      fun _ _ m hm => ck_mono (lw_u (tw_page (xi_w xs _)) t ih) (fun r H1 ⟨x, hx, hk⟩ => ⟨x, hx, fun _ m' _ => hk m'⟩),
      fun _ _ _ m hm => ck_mono (lw_u (tw_seen (xi_w xs _) (xi_w xs _)) t ih) (fun r H1 ⟨x, hx, hk⟩ => ⟨x, hx, fun _ _ m' _ => hk m'⟩),
      fun _ _ _ m hm => ck_mono (lw_u (tw_good (xi_w xs _) (xi_w xs _)) t ih) (fun r H1 ⟨x, hx, hk⟩ => ⟨x, hx, fun _ _ m' _ => hk m'⟩),
      fun _ _ _ _ _ _ m hm => ck_mono (lw_u (tw_size (xi_w xs _) (xi_w xs _) (xi_w xs _) (xi_w xs _) (xi_w xs _)) t ih) (fun r H1 ⟨x, hx, hk⟩ => ⟨x, hx, fun _ _ _ _ _ m' _ => hk m'⟩),
      fun _ _ _ m hm => ck_mono (lw_u (tw_told (xi_w xs _) (xi_w xs _)) t ih) (fun r H1 ⟨x, hx, hk⟩ => ⟨x, hx, fun _ _ m' _ => hk m'⟩),
      fun _ _ _ _ _ m hm => ck_mono (lw_u (tw_bond (xi_w xs _) (xi_w xs _) (xi_w xs _) (xi_w xs _)) t ih) (fun r H1 ⟨x, hx, hk⟩ => ⟨x, hx, fun _ _ _ _ m' _ => hk m'⟩),
      fun _ _ _ m hm => ck_mono (lw_u (tw_extra (xi_w xs _) (xi_w xs _)) t ih) (fun r H1 ⟨x, hx, hk⟩ => ⟨x, hx, fun _ _ m' _ => hk m'⟩),
      fun _ _ _ m hm => ck_mono (lw_u (tw_set (xi_w xs _) (xi_w xs _)) t ih) (fun r H1 ⟨x, hx, hk⟩ => ⟨x, hx, fun _ _ m' _ => hk m'⟩),
      fun _ _ _ _ m hm => ck_mono (lw_c (tw_type (fl_lr_lor _ _) (xi_w xs _)) t ih) (fun r H1 ⟨x, hx, hk⟩ => ⟨x, hx, fun _ _ _ m' _ => hk m'⟩),
      fun _ m hm => ck_mono (lw_u (tw_book) t ih) (fun r H1 ⟨x, hx, hk⟩ => ⟨x, hx, fun m' _ => hk m'⟩),
      fun _ _ m hm => ck_mono (lw_u (tw_count) t ih) (fun r H1 ⟨x, hx, hk⟩ => ⟨x, hx, fun _ m' _ => hk m'⟩),
      fun _ _ _ m hm => ck_mono (lw_u (tw_choose (xi_w xs _)) t ih) (fun r H1 ⟨x, hx, hk⟩ => ⟨x, hx, fun _ _ m' _ => hk m'⟩),
      fun _ _ _ _ m hm => ck_mono (lw_u (tw_plan) t ih) (fun r H1 ⟨x, hx, hk⟩ => ⟨x, hx, fun _ _ _ m' _ => hk m'⟩),
      fun _ _ m hm => ck_mono (lw_u (tw_brings) t ih) (fun r H1 ⟨x, hx, hk⟩ => ⟨x, hx, fun _ m' _ => hk m'⟩),
      fun _ m hm => ck_mono (lw_u (tw_worth) t ih) (fun r H1 ⟨x, hx, hk⟩ => ⟨x, hx, fun m' _ => hk m'⟩),
      fun _ _ m hm => ck_mono (lw_u (tw_breaks) t ih) (fun r H1 ⟨x, hx, hk⟩ => ⟨x, hx, fun _ m' _ => hk m'⟩),
      fun _ _ m hm => ck_mono (lw_u (tw_square) t ih) (fun r H1 ⟨x, hx, hk⟩ => ⟨x, hx, fun _ m' _ => hk m'⟩),
      fun _ _ _ _ _ m hm => ck_mono (lw_u (tw_judge) t ih) (fun r H1 ⟨x, hx, hk⟩ => ⟨x, hx, fun _ _ _ _ m' _ => hk m'⟩),
      fun _ _ m hm => ck_mono (lw_u (tw_fits) t ih) (fun r H1 ⟨x, hx, hk⟩ => ⟨x, hx, fun _ m' _ => hk m'⟩),
      fun _ _ m hm => ck_mono (lw_u (tw_best) t ih) (fun r H1 ⟨x, hx, hk⟩ => ⟨x, hx, fun _ m' _ => hk m'⟩),
      fun _ m hm => ck_mono (lw_u (tw_take) t ih) (fun r H1 ⟨x, hx, hk⟩ => ⟨x, hx, fun m' _ => hk m'⟩),
      fun _ _ _ m hm => ck_mono (lw_u (tw_squares) t ih) (fun r H1 ⟨x, hx, hk⟩ => ⟨x, hx, fun _ _ m' _ => hk m'⟩),
      fun _ m hm => ck_mono (lw_u (tw_bound) t ih) (fun r H1 ⟨x, hx, hk⟩ => ⟨x, hx, fun m' _ => hk m'⟩),
      fun _ _ m hm => ck_mono (lw_u (tw_steps) t ih) (fun r H1 ⟨x, hx, hk⟩ => ⟨x, hx, fun _ m' _ => hk m'⟩),
      fun _ _ m hm => ck_mono (lw_u (tw_more) t ih) (fun r H1 ⟨x, hx, hk⟩ => ⟨x, hx, fun _ m' _ => hk m'⟩),
      fun _ _ m hm => ck_mono (lw_u (tw_less) t ih) (fun r H1 ⟨x, hx, hk⟩ => ⟨x, hx, fun _ m' _ => hk m'⟩),
      fun _ _ m hm => ck_mono (lw_u (tw_through) t ih) (fun r H1 ⟨x, hx, hk⟩ => ⟨x, hx, fun _ m' _ => hk m'⟩),
      fun _ _ _ m hm => ck_mono (lw_u (tw_mended) t ih) (fun r H1 ⟨x, hx, hk⟩ => ⟨x, hx, fun _ _ m' _ => hk m'⟩),
      fun _ _ _ _ m hm => ck_mono (lw_u (tw_year (xi_w xs _) (xi_w xs _) (xi_w xs _)) t ih) (fun r H1 ⟨x, hx, hk⟩ => ⟨x, hx, fun _ _ _ m' _ => hk m'⟩),
      fun _ _ _ m hm => ck_mono (lw_u (tw_learnt) t ih) (fun r H1 ⟨x, hx, hk⟩ => ⟨x, hx, fun _ _ m' _ => hk m'⟩),
      fun _ m hm => ck_mono (lw_u (tw_image) t ih) (fun r H1 ⟨x, hx, hk⟩ => ⟨x, hx, fun m' _ => hk m'⟩),
      fun _ m hm => ck_mono (lw_u (tw_restore) t ih) (fun r H1 ⟨x, hx, hk⟩ => ⟨x, hx, fun m' _ => hk m'⟩),
      fun _ _ _ _ m hm => ck_mono (lw_u (tw_sheet) t ih) (fun r H1 ⟨x, hx, hk⟩ => ⟨x, hx, fun _ _ _ m' _ => hk m'⟩),
      fun _ _ m hm => ck_mono (lw_u (tw_drop) t ih) (fun r H1 ⟨x, hx, hk⟩ => ⟨x, hx, fun _ m' _ => hk m'⟩),
      fun _ _ _ _ _ m hm => ck_mono (lw_u (tw_item) t ih) (fun r H1 ⟨x, hx, hk⟩ => ⟨x, hx, fun _ _ _ _ m' _ => hk m'⟩),
      fun _ m hm => ih m hm H t⟩⟩
/-- the cells at the start -/
def fH0 : fl_H := fun c i => if c = 0 ∧ i = 14 then -1 else if (c = 18 ∨ c = 37 ∨ c = 56) ∧ i = 0 then 5 else if c = 58 ∧ i = 3 then -1 else if (c = 61 ∨ c = 107) ∧ i < 4 then -1 else if c = 95 ∧ i = 4 then 5 else 0
theorem fH0_95 (j : Nat) (h : j ≠ 4) : fH0 95 j = 0 := by
  unfold fH0
  simp [h]
theorem T1_start : T1 fH0 := by
  have z1 : zeq (cz fH0 1) (fH0 95) := by
    have key : ∀ j : Nat, j < 152 → cz fH0 1 j = fH0 95 j := by decide +kernel
    intro j _
    by_cases hj : j < 152
    · exact key j hj
    · rw [fH0_95 j (by omega)]
      unfold cz
      rw [if_neg (fun hv => hj (vld_lt hv))]
  have e : ∀ j, j ≠ 4 → fH0 95 j = 0 := fH0_95
  have zrr : zr (fH0 95) := by unfold zr; rw [e 0 (by decide), e 1 (by decide), e 2 (by decide)]; omega
  refine ⟨⟨⟨0, rfl, rfl, by omega⟩, fun i => by unfold fH0; simp, fun i => by unfold fH0; simp, rfl, rfl, z1, zrr, rfl, fun h => absurd h (by decide)⟩, ⟨zrr, ⟨fun p hp => by rw [e _ (by omega)]; omega, by decide, by decide, by decide, by decide⟩, fun g hg => ?_, fun b hb => ?_⟩, Or.inl rfl, fun j hj => by unfold fH0; simp⟩
  · rw [e 1 (by decide)] at hg; omega
  · rw [e 2 (by decide)] at hb; omega
theorem law_16 {H : fl_H} (t : T1 H) {n d c s : Nat} {v : Option Term} {h' : cm_H} (hr : cm_run (cm_pg X xs) n d cm_m252 16 [some (.string "" 0), some (.index 0), some (.index 94), none] [] (fl_mk H) = some (v, h', c, s)) : v = some (.int 1) := by
  have key : vt (cm_pg X xs) n cm_m252 16 [some (.string "" 0), some (.index 0), some (.index 94), none] [] H (fun r _ => r = some 1) :=
    vt_iconst rfl (vt_istore_n rfl (law_all n H 0 t _ rfl rfl rfl rfl))
  obtain ⟨r, H', e1, e2, e3⟩ := key n (Nat.le_refl _) d v h' c s hr
  rw [e1, e3]
  rfl
end
end
