noncomputable section
/-! L3: judge, what years taught: they change no contents. -/
section
variable {X : Term} {xs : List Int32}
theorem sQ_ok {c i : Nat} (h1 : c ≠ 85) (h2 : c ≠ 86) (h3 : c ≠ 100) : sQ c i = true := by
  unfold sQ
  have e4 : ∀ d, c ≠ d → Nat.beq c d = false := fun d hd => by
    cases hb : Nat.beq c d
    · rfl
    · exact absurd (Nat.eq_of_beq_eq_true hb) hd
  rw [e4 85 h1, e4 86 h2, e4 100 h3]
  rfl
theorem TX_fq {H H1 : fl_H} (t : TX H) (h : fr sQ H H1) : TX H1 := by
  have e : ∀ c, c ≠ 85 → c ≠ 86 → c ≠ 100 → H1 c = H c := fun c a b d => funext (fun i => h c i (sQ_ok a b d))
  have e95 : H1 95 = H 95 := e 95 (by omega) (by omega) (by omega)
  obtain ⟨t1, t2, t3, t4, t5, t6, t7, t8, t9⟩ := t
  refine ⟨T1_fr (fun c i k => ?_) t1, ?_, ?_, ?_, ?_, ?_, ?_, ?_, ?_⟩
  · by_cases q : c = 85 ∨ c = 86 ∨ c = 100
    · rw [sT_no (by omega)] at k; exact absurd k (by decide)
    · rw [e c (by omega) (by omega) (by omega)]
  · unfold chA; rw [e95, e 19 (by omega) (by omega) (by omega)]; exact t2
  · rw [e 94 (by omega) (by omega) (by omega)]; intro q; unfold chA; rw [e 106 (by omega) (by omega) (by omega), e 57 (by omega) (by omega) (by omega)]; exact t3 q
  · unfold she; rw [e 61 (by omega) (by omega) (by omega), e 62 (by omega) (by omega) (by omega), e 63 (by omega) (by omega) (by omega), e 107 (by omega) (by omega) (by omega), e 108 (by omega) (by omega) (by omega), e 109 (by omega) (by omega) (by omega)]; exact t4
  · rw [e95]; exact flI_fr t5 (fun c a b => e c (by omega) (by omega) (by omega))
  · rw [e95]; exact rkn_c t6 (e 96 (by omega) (by omega) (by omega))
  · rw [e95]; exact kbe_o t7 (e 88 (by omega) (by omega) (by omega)) (e 89 (by omega) (by omega) (by omega))
  · rw [e95]; exact kst_o t8 (e 90 (by omega) (by omega) (by omega)) (e 91 (by omega) (by omega) (by omega))
  · rw [e95]; exact kmd_o t9 (e 0 (by omega) (by omega) (by omega)) (e 92 (by omega) (by omega) (by omega)) (e 93 (by omega) (by omega) (by omega))
theorem tx_fq {M1 M2 : cm_M} {a1 a2 : List Term} (h1 : ∀ m H, ck (cm_pg X xs) m M1 a1 H (fpI sQ H)) (h2 : ∀ m H, ck (cm_pg X xs) m M2 a2 H (fpI sQ H)) : tw X xs TX false M1 M2 a1 a2 :=
  tx_no (fun m H t => ck_mono (h1 m H) (fun r H1 h => ⟨h.1, TX_fq t h.2⟩)) (fun m H t => ck_mono (h2 m H) (fun r H1 h => ⟨h.1, TX_fq t h.2⟩))
theorem tw_wk {T : fl_H → Prop} {M1 M2 : cm_M} {a1 a2 : List Term} (h : tw X xs T true M1 M2 a1 a2) : tw X xs T false M1 M2 a1 a2 := fun m H t =>
  ck_mono (h m H t) (fun r H1 k => ⟨k.1, fun m' => ck_mono (k.2 m') (fun r' H2 q => ⟨q.1, fun e => absurd e (by decide), q.2.2⟩)⟩)
theorem tx_learnt0 {v1 v2 : Int} : tw X xs TX false cm_m129 cm_m218 [.index 0, fl_t v1, fl_t v2] [.index 94, fl_t v1, fl_t v2] :=
  tx_fq (fun m H => (fv_GoodsBook_learnt_0 m) _ _ _) (fun m H => (fv_GoodsBookModel_learnt_94 m).2.2.2 _ _ _)
theorem tx_squares0 {v1 v2 : Int} : tw X xs TX false cm_m121 cm_m202 [.index 0, fl_t v1, fl_t v2] [.index 94, fl_t v1, fl_t v2] :=
  tx_fq (fun m H => (fv_GoodsBook_squares_0 m) _ _ _) (fun m H => (fv_GoodsBookModel_squares_94 m).2.2 _ _ _)
theorem cs_judge0 {m : Nat} {H : fl_H} {a b c d : Int} (t : TX H) : ck (cm_pg X xs) m cm_m117 [.index 0, fl_t a, fl_t b, fl_t c, fl_t d] H (fun r H1 => (∃ x, r = some x) ∧ TX H1) := by
  refine ve_GoodsBook_judge_0 (fun m1 _ => ve_GoodsBook_isPage_0 ⟨_, rfl, ?_⟩)
  refine ⟨fun _ => ⟨⟨_, rfl⟩, t⟩, fun _ m2 _ => ck_mono (fb_draw (X := X) (xs := xs) t) (fun r2 H2 h2 => ⟨h2.1, fun _ m3 _ => ?_⟩)⟩
  obtain ⟨-, o2, d2⟩ := h2
  have t2 : TX H2 := TX_pR t o2 (Or.inr d2.2.2.2)
  refine ck_mono ((fv_Sheets_refusal_60 (X := X) (xs := xs) m3) _ _ _ _ _) (fun r3 H3 h3 => ?_)
  obtain ⟨⟨x, hx⟩, f3⟩ := h3
  have t3 := TX_fq t2 f3
  refine ⟨x, hx, fun _ lv l0 l1 l2 l3 l4 l5 => vt_mono (Nat.le_refl _) (fun r4 H4 h4 => ⟨h4.1, TX_fq t3 h4.2⟩) (fv_judge_54 (X := X) (xs := xs) _ H3 _ _ _ _ _ lv l0 l1 l2 l3 l4 l5), fun _ => ⟨⟨_, rfl⟩, t3⟩⟩
theorem tx_judge0 {v1 v2 v3 v4 : Int} : tw X xs TX false cm_m117 cm_m241 [.index 0, fl_t v1, fl_t v2, fl_t v3, fl_t v4] [.index 94, fl_t v1, fl_t v2, fl_t v3, fl_t v4] :=
  tx_no (fun m H t => cs_judge0 t) (fun m H t => ck_mono ((fv_GoodsBookModel_judge_94 m).2 _ _ _ _ _) (fun r H1 h => ⟨h.1, TX_fq t h.2⟩))
end
end
