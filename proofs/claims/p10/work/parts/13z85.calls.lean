noncomputable section
/-! L3: every call of both sides, one behind the other. -/
section
variable {X : Term} {xs : List Int32}
def tw (X : Term) (xs : List Int32) (T : fl_H → Prop) (e : Bool) (M1 M2 : cm_M) (a1 a2 : List Term) : Prop := ∀ (m : Nat) (H : fl_H), T H → ck (cm_pg X xs) m M1 a1 H (fun r H1 => (∃ x, r = some x) ∧ ∀ m', ck (cm_pg X xs) m' M2 a2 H1 (fun r' H2 => (∃ y, r' = some y) ∧ (e = true → r' = r) ∧ T H2))
theorem tw_fr {M1 M2 : cm_M} {a1 a2 : List Term} (h1 : ∀ m H, ck (cm_pg X xs) m M1 a1 H (fpI sU H)) (h2 : ∀ m H, ck (cm_pg X xs) m M2 a2 H (fpI sU H)) : tw X xs T1 false M1 M2 a1 a2 := fun m H t =>
  ck_mono (h1 m H) (fun r H1 h => ⟨h.1, fun m' => ck_mono (h2 m' H1) (fun r' H2 k => ⟨k.1, fun e => absurd e (by decide), T1_fr (fr_UT k.2) (T1_fr (fr_UT h.2) t)⟩)⟩)
theorem tw_frT {M1 M2 : cm_M} {a1 a2 : List Term} (h1 : ∀ m H, ck (cm_pg X xs) m M1 a1 H (fpI sU H)) (h2 : ∀ m H, ck (cm_pg X xs) m M2 a2 H (fpI sT H)) : tw X xs T1 false M1 M2 a1 a2 := fun m H t =>
  ck_mono (h1 m H) (fun r H1 h => ⟨h.1, fun m' => ck_mono (h2 m' H1) (fun r' H2 k => ⟨k.1, fun e => absurd e (by decide), T1_fr k.2 (T1_fr (fr_UT h.2) t)⟩)⟩)
theorem tw_frC {M1 M2 : cm_M} {a1 a2 : List Term} (h1 : ∀ m H, ck (cm_pg X xs) m M1 a1 H (fpI sC H)) (h2 : ∀ m H, zr (H 95) → ck (cm_pg X xs) m M2 a2 H (fpI sC H)) : tw X xs T1 false M1 M2 a1 a2 := fun m H t =>
  ck_mono (h1 m H) (fun r H1 h => ⟨h.1, fun m' => ck_mono (h2 m' H1 (T1_frC h.2 t).2.1.1) (fun r' H2 k => ⟨k.1, fun e => absurd e (by decide), T1_frC k.2 (T1_frC h.2 t)⟩)⟩)
theorem tw_op {fg : fl_H → fl_H} {f : fO} {kk : Bool} {M1 M2 : cm_M} {a1 a2 : List Term} (he : oEq f) (hw : oWf f) (hf : fgN fg) (h1 : ∀ m H, wf (cz H 1) → ck (cm_pg X xs) m M1 a1 H (cP fg f H)) (h2 : ∀ m H, wf (H 95) → ck (cm_pg X xs) m M2 a2 H (rP kk f H)) : tw X xs T1 true M1 M2 a1 a2 := fun m H t =>
  ck_mono (h1 m H (T1_wfc t)) (fun r H1 h => by
    obtain ⟨G, g1, g2, g3, g4, g5⟩ := id h
    have e95 : H1 95 = H 95 := by
      rcases g5 with e | ⟨e, -⟩
      · rw [e]; exact funext (fun i => (hf G 95 i rfl).trans (g1 95 i (by decide)))
      · rw [e]
    exact ⟨⟨_, g2⟩, fun m' => ck_mono (h2 m' H1 (by rw [e95]; exact t.2.1)) (fun r' H2 k => by
      obtain ⟨q1, q2, q3⟩ := T1_op t he hw hf h k
      obtain ⟨x, hx⟩ := q1
      exact ⟨⟨x, by rw [q2, hx]⟩, fun _ => q2, q3⟩)⟩)
theorem tw_of {M1 M2 : cm_M} {a1 a2 : List Term} (h : ∀ m H, T1 H → ck (cm_pg X xs) m M1 a1 H (fun r H1 => (∃ x, r = some x) ∧ ∀ m', ck (cm_pg X xs) m' M2 a2 H1 (fun r' H2 => r' = r ∧ T1 H2))) : tw X xs T1 true M1 M2 a1 a2 := fun m H t =>
  ck_mono (h m H t) (fun r H1 k => ⟨k.1, fun m' => ck_mono (k.2 m') (fun r' H2 q => ⟨by rw [q.1]; exact k.1, fun _ => q.1, q.2⟩)⟩)
/-- a call that only tells -/
theorem tw_rd {f : (Nat → Int) → Int} {M1 M2 : cm_M} {a1 a2 : List Term} (hf : ∀ z w, zeq z w → wf w → f z = f w) (h1 : ∀ m H, wf (cz H 1) → ck (cm_pg X xs) m M1 a1 H (fun r H1 => r = some (f (cz H 1)) ∧ fr sT H H1)) (h2 : ∀ m H, wf (H 95) → ck (cm_pg X xs) m M2 a2 H (fun r H1 => r = some (f (H 95)) ∧ fr sT H H1)) : tw X xs T1 true M1 M2 a1 a2 := fun m H t =>
  ck_mono (h1 m H (T1_wfc t)) (fun r H1 h => ⟨⟨_, h.1⟩, fun m' => ck_mono (h2 m' H1 (T1_fr h.2 t).2.1) (fun r' H2 k => ⟨⟨_, k.1⟩, fun _ => by
    have e95 : H1 95 = H 95 := funext (fun i => h.2 95 i rfl)
    rw [k.1, h.1, e95, hf _ _ t.1.2.2.2.2.2.1 t.2.1], T1_fr k.2 (T1_fr h.2 t)⟩)⟩)
theorem fr_same {S : Nat → Nat → Bool} {H G : fl_H} (h : G = H) : fr S H G := by rw [h]; exact fr_refl S H
theorem xi_w (l : List Int32) (j : Nat) : fl_w (xi l j) = xi l j := by
  unfold xi
  rw [List.getD_eq_getElem?_getD, List.getElem?_map]
  cases l[j]? with
  | none => rfl
  | some v => exact fl_w_id (by have := Int32.le_toInt v; show -2147483648 ≤ v.toInt; omega) (by have := Int32.toInt_lt v; show v.toInt ≤ 2147483647; omega)
theorem tw_page {v1 : Int} (hv1 : fl_w v1 = v1) : tw X xs T1 true cm_m100 cm_m156 [.index 0, fl_t v1] [.index 94, fl_t v1] :=
  tw_op (oPage_eq _) (oPage_wf _) fgN_A (fun m H t => zc_pageP hv1 t) (fun m H t => zq_page hv1 t)
theorem tw_seen {v1 v2 : Int} (hv1 : fl_w v1 = v1) (hv2 : fl_w v2 = v2) : tw X xs T1 true cm_m101 cm_m157 [.index 0, fl_t v1, fl_t v2] [.index 94, fl_t v1, fl_t v2] :=
  tw_op (oSeen_eq _ _) (oSeen_wf _ _) fgN_A (fun m H t => zc_seen hv1 hv2 t) (fun m H t => zq_seen hv1 hv2 t)
theorem tw_good {v1 v2 : Int} (hv1 : fl_w v1 = v1) (hv2 : fl_w v2 = v2) : tw X xs T1 true cm_m102 cm_m159 [.index 0, fl_t v1, fl_t v2] [.index 94, fl_t v1, fl_t v2] :=
  tw_op (oGood_eq _ _) (oGood_wf _ _) fgN_S (fun m H t => zc_good hv1 hv2 t) (fun m H t => zq_good hv1 hv2 t)
theorem tw_size {v1 v2 v3 v4 v5 : Int} (hv1 : fl_w v1 = v1) (hv2 : fl_w v2 = v2) (hv3 : fl_w v3 = v3) (hv4 : fl_w v4 = v4) (hv5 : fl_w v5 = v5) : tw X xs T1 true cm_m103 cm_m161 [.index 0, fl_t v1, fl_t v2, fl_t v3, fl_t v4, fl_t v5] [.index 94, fl_t v1, fl_t v2, fl_t v3, fl_t v4, fl_t v5] :=
  tw_op (oSize_eq _ _ _ _ _) (oSize_wf _ _ _ _ _) fgN_S (fun m H t => zc_size hv1 hv2 hv3 hv4 hv5 t) (fun m H t => zq_size hv1 hv2 hv3 hv4 hv5 t)
theorem tw_told {v1 v2 : Int} (hv1 : fl_w v1 = v1) (hv2 : fl_w v2 = v2) : tw X xs T1 true cm_m104 cm_m162 [.index 0, fl_t v1, fl_t v2] [.index 94, fl_t v1, fl_t v2] :=
  tw_rd (oTold_eq _ _) (fun m H t => ck_mono (zc_told hv1 hv2 t) (fun r H1 h => ⟨h.1, fr_same h.2⟩)) (fun m H t => ck_mono (zq_told hv1 hv2 t) (fun r H1 h => ⟨h.1, fr_same h.2⟩))
theorem tw_bond {v1 v2 v3 v4 : Int} (hv1 : fl_w v1 = v1) (hv2 : fl_w v2 = v2) (hv3 : fl_w v3 = v3) (hv4 : fl_w v4 = v4) : tw X xs T1 true cm_m105 cm_m164 [.index 0, fl_t v1, fl_t v2, fl_t v3, fl_t v4] [.index 94, fl_t v1, fl_t v2, fl_t v3, fl_t v4] :=
  tw_op (oBond_eq _ _ _ _) (oBond_wf _ _ _ _) fgN_A (fun m H t => zc_bond hv1 hv2 hv3 hv4 t) (fun m H t => zq_bond hv1 hv2 hv3 hv4 t)
theorem tw_extra {v1 v2 : Int} (hv1 : fl_w v1 = v1) (hv2 : fl_w v2 = v2) : tw X xs T1 true cm_m106 cm_m165 [.index 0, fl_t v1, fl_t v2] [.index 94, fl_t v1, fl_t v2] :=
  tw_op (oExtra_eq _ _) (oExtra_wf _ _) fgN_A (fun m H t => zc_extra hv1 hv2 t) (fun m H t => zq_extra hv1 hv2 t)
theorem tw_set {v1 v2 : Int} (hv1 : fl_w v1 = v1) (hv2 : fl_w v2 = v2) : tw X xs T1 true cm_m107 cm_m166 [.index 0, fl_t v1, fl_t v2] [.index 94, fl_t v1, fl_t v2] :=
  tw_op (oSet_eq _ _) (oSet_wf _ _) fgN_A (fun m H t => zc_set hv1 hv2) (fun m H t => zq_set hv1 hv2)
theorem tw_type {v1 v2 : Int} (hl : fl_lr v1) (hv2 : fl_w v2 = v2) : tw X xs T1 true cm_m108 cm_m219 [.index 0, fl_l v1, fl_t v2] [.index 94, fl_l v1, fl_t v2] :=
  tw_of (fun m H t => T1_type hl hv2 t)
theorem tw_book : tw X xs T1 true cm_m109 cm_m232 [.index 0] [.index 94] :=
  tw_of (fun m H t => T1_book t)
theorem tw_count {v1 : Int} : tw X xs T1 false cm_m110 cm_m167 [.index 0, fl_t v1] [.index 94, fl_t v1] :=
  tw_fr (fun m H => (fa_GoodsBook_count_0 m) _ _) (fun m H => (fa_GoodsBookModel_count_94 m).2 _ _)
theorem tw_choose {v1 v2 : Int} (hv1 : fl_w v1 = v1) : tw X xs T1 false cm_m111 cm_m188 [.index 0, fl_t v1, fl_t v2] [.index 94, fl_t v1, fl_t v2] :=
  tw_frC (fun m H => wc_choose) (fun m H t => wq_choose hv1 t)
theorem tw_plan {v1 v2 v3 : Int} : tw X xs T1 false cm_m112 cm_m240 [.index 0, fl_t v1, fl_t v2, fl_t v3] [.index 94, fl_t v1, fl_t v2, fl_t v3] :=
  tw_frC (fun m H => wc_plan) (fun m H t => wq_plan t)
theorem tw_brings {v1 : Int} : tw X xs T1 false cm_m113 cm_m189 [.index 0, fl_t v1] [.index 94, fl_t v1] :=
  tw_fr (fun m H => (fa_GoodsBook_brings_0 m) _ _) (fun m H => (fa_GoodsBookModel_brings_94 m) _ _)
theorem tw_worth : tw X xs T1 false cm_m114 cm_m190 [.index 0] [.index 94] :=
  tw_fr (fun m H => (fa_GoodsBook_worth_0 m) _) (fun m H => (fa_GoodsBookModel_worth_94 m) _)
theorem tw_breaks {v1 : Int} : tw X xs T1 false cm_m115 cm_m191 [.index 0, fl_t v1] [.index 94, fl_t v1] :=
  tw_fr (fun m H => (fa_GoodsBook_breaks_0 m) _ _) (fun m H => (fa_GoodsBookModel_breaks_94 m) _ _)
theorem tw_square {v1 : Int} : tw X xs T1 false cm_m116 cm_m192 [.index 0, fl_t v1] [.index 94, fl_t v1] :=
  tw_fr (fun m H => (fa_GoodsBook_square_0 m) _ _) (fun m H => (fa_GoodsBookModel_square_94 m).2 _ _)
theorem tw_judge {v1 v2 v3 v4 : Int} : tw X xs T1 false cm_m117 cm_m241 [.index 0, fl_t v1, fl_t v2, fl_t v3, fl_t v4] [.index 94, fl_t v1, fl_t v2, fl_t v3, fl_t v4] :=
  tw_fr (fun m H => (fa_GoodsBook_judge_0 m).2 _ _ _ _ _) (fun m H => (fa_GoodsBookModel_judge_94 m).2 _ _ _ _ _)
theorem tw_fits {v1 : Int} : tw X xs T1 false cm_m118 cm_m175 [.index 0, fl_t v1] [.index 94, fl_t v1] :=
  tw_fr (fun m H => (fa_GoodsBook_fits_0 m) _ _) (fun m H => (fa_GoodsBookModel_fits_94 m) _ _)
theorem tw_best {v1 : Int} : tw X xs T1 false cm_m119 cm_m197 [.index 0, fl_t v1] [.index 94, fl_t v1] :=
  tw_fr (fun m H => (fa_GoodsBook_best_0 m) _ _) (fun m H => (fa_GoodsBookModel_best_94 m) _ _)
theorem tw_take : tw X xs T1 false cm_m120 cm_m198 [.index 0] [.index 94] :=
  tw_frC (fun m H => wc_take) (fun m H t => wq_take t)
theorem tw_squares {v1 v2 : Int} : tw X xs T1 false cm_m121 cm_m202 [.index 0, fl_t v1, fl_t v2] [.index 94, fl_t v1, fl_t v2] :=
  tw_fr (fun m H => (fa_GoodsBook_squares_0 m) _ _ _) (fun m H => (fa_GoodsBookModel_squares_94 m).2.2 _ _ _)
theorem tw_bound : tw X xs T1 false cm_m122 cm_m203 [.index 0] [.index 94] :=
  tw_fr (fun m H => (fa_GoodsBook_bound_0 m).2 _) (fun m H => (fa_GoodsBookModel_bound_94 m).2.2.2 _)
theorem tw_steps {v1 : Int} : tw X xs T1 false cm_m123 cm_m208 [.index 0, fl_t v1] [.index 94, fl_t v1] :=
  tw_fr (fun m H => (fa_GoodsBook_steps_0 m) _ _) (fun m H => (fa_GoodsBookModel_steps_94 m).2.2 _ _)
theorem tw_more {v1 : Int} : tw X xs T1 false cm_m124 cm_m211 [.index 0, fl_t v1] [.index 94, fl_t v1] :=
  tw_frT (fun m H => (fa_GoodsBook_more_0 m) _ _) (fun m H => wq_more)
theorem tw_less {v1 : Int} : tw X xs T1 false cm_m125 cm_m212 [.index 0, fl_t v1] [.index 94, fl_t v1] :=
  tw_frT (fun m H => (fa_GoodsBook_less_0 m) _ _) (fun m H => wq_less)
theorem tw_through {v1 : Int} : tw X xs T1 false cm_m126 cm_m213 [.index 0, fl_t v1] [.index 94, fl_t v1] :=
  tw_fr (fun m H => (fa_GoodsBook_through_0 m) _ _) (fun m H => (fa_GoodsBookModel_through_94 m) _ _)
theorem tw_mended {v1 v2 : Int} : tw X xs T1 false cm_m127 cm_m215 [.index 0, fl_t v1, fl_t v2] [.index 94, fl_t v1, fl_t v2] :=
  tw_fr (fun m H => (fa_GoodsBook_mended_0 m) _ _ _) (fun m H => (fa_GoodsBookModel_mended_94 m).2 _ _ _)
theorem tw_year {v1 v2 v3 : Int} (hv1 : fl_w v1 = v1) (hv2 : fl_w v2 = v2) (hv3 : fl_w v3 = v3) : tw X xs T1 true cm_m128 cm_m216 [.index 0, fl_t v1, fl_t v2, fl_t v3] [.index 94, fl_t v1, fl_t v2, fl_t v3] :=
  tw_op (oYear_eq _ _ _) (oYear_wf _ _ _) fgN_I (fun m H t => zc_year hv1 hv2 hv3 t) (fun m H t => zq_year hv1 hv2 hv3 t)
theorem tw_learnt {v1 v2 : Int} : tw X xs T1 false cm_m129 cm_m218 [.index 0, fl_t v1, fl_t v2] [.index 94, fl_t v1, fl_t v2] :=
  tw_fr (fun m H => (fa_GoodsBook_learnt_0 m) _ _ _) (fun m H => (fa_GoodsBookModel_learnt_94 m).2.2.2 _ _ _)
theorem tw_image : tw X xs T1 true cm_m130 cm_m233 [.index 0] [.index 94] :=
  tw_of (fun m H t => T1_image t)
theorem tw_restore : tw X xs T1 true cm_m131 cm_m234 [.index 0] [.index 94] :=
  tw_of (fun m H t => T1_restore t)
theorem tw_sheet {v1 v2 v3 : Int} : tw X xs T1 false cm_m132 cm_m236 [.index 0, fl_t v1, fl_t v2, fl_t v3] [.index 94, fl_t v1, fl_t v2, fl_t v3] :=
  tw_fr (fun m H => (fa_GoodsBook_sheet_0 m) _ _ _ _) (fun m H => (fa_GoodsBookModel_sheet_94 m).2 _ _ _ _)
theorem tw_drop {v1 : Int} : tw X xs T1 false cm_m133 cm_m237 [.index 0, fl_t v1] [.index 94, fl_t v1] :=
  tw_fr (fun m H => (fa_GoodsBook_drop_0 m) _ _) (fun m H => (fa_GoodsBookModel_drop_94 m) _ _)
theorem tw_item {v1 v2 v3 v4 : Int} : tw X xs T1 false cm_m134 cm_m239 [.index 0, fl_t v1, fl_t v2, fl_t v3, fl_t v4] [.index 94, fl_t v1, fl_t v2, fl_t v3, fl_t v4] :=
  tw_fr (fun m H => (fa_GoodsBook_item_0 m) _ _ _ _ _) (fun m H => (fa_GoodsBookModel_item_94 m) _ _ _ _ _)
end
end
