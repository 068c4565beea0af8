noncomputable section
/-! L3: by squares alone, both sides. -/
section
variable {X : Term} {xs : List Int32}
def pSq (p w : Int) (z : Nat → Int) (v : Int) : Prop := if (0 ≤ p ∧ p ≤ z 0 - 1) ∧ (-2 ≤ w ∧ w ≤ z 1 - 1) then (if w = -2 then pPri z (z (10 + p.toNat)) (z 1).toNat v else v = if w = -1 then smx z (z (10 + p.toNat)) (z 1).toNat 0 16 else ((spk z (z (10 + p.toNat)) (z 1).toNat 0 16 w.toNat : Nat) : Int)) else v = -1
theorem pSq_un {p w : Int} (z : Nat → Int) (v v' : Int) (h : pSq p w z v) (k : pSq p w z v') : v = v' := by
  unfold pSq at h k
  by_cases q : (0 ≤ p ∧ p ≤ z 0 - 1) ∧ (-2 ≤ w ∧ w ≤ z 1 - 1)
  · rw [if_pos q] at h k
    by_cases q2 : w = -2
    · rw [if_pos q2] at h k; exact pPri_un h k
    · rw [if_neg q2] at h k; rw [h, k]
  · rw [if_neg q] at h k; rw [h, k]
theorem sq_fr {H G : fl_H} (o : ∀ c, c ≠ 85 → c ≠ 86 → G c = H c) : fr sQ H G := fun c i k => by
  by_cases e : c = 85 ∨ c = 86
  · rcases e with e | e <;> subst e <;> exact absurd k (by unfold sQ; decide)
  · rw [o c (by omega) (by omega)]
theorem cb_squares {m : Nat} {H : fl_H} {p w : Int} (hp : fl_w p = p) (hw1 : fl_w w = w) (t : TX H) : ck (cm_pg X xs) m cm_m121 [.index 0, fl_t p, fl_t w] H (cq (pSq p w) H) := by
  have bd := z_bd t
  have hw := TX_wf t
  have hb := TX_bz t
  obtain ⟨n, en⟩ : ∃ n : Nat, H 95 1 = (n : Int) := ⟨(H 95 1).toNat, by omega⟩
  refine ve_GoodsBook_squares_0 (fun m1 _ => ve_GoodsBook_isPage_0 ⟨_, rfl, ?_⟩)
  simp only [fb_0, hp, hw1, w_0, w_m2, ePm t, eGm t]
  have no : ¬ ((0 ≤ p ∧ p ≤ H 95 0 - 1) ∧ (-2 ≤ w ∧ w ≤ H 95 1 - 1)) → cq (pSq p w) H (some (-1)) H := fun q => cq_0 t (by unfold pSq; rw [if_neg q])
  refine ⟨fun q => no (fun k => q k.1), fun q => ⟨fun q2 => ?_, fun q2 => no (fun k => q2 k.2)⟩⟩
  have q1 := Classical.not_not.mp q
  have hq : (0 ≤ p ∧ p ≤ H 95 0 - 1) ∧ (-2 ≤ w ∧ w ≤ H 95 1 - 1) := ⟨q1, q2⟩
  have ev : H 2 p.toNat = H 95 (10 + p.toNat) := hb.2.2 p.toNat (by omega)
  have vb := wf_vw hw (p := p.toNat) (by omega)
  have vb' : 0 ≤ H 95 (10 + p.toNat) ∧ H 95 (10 + p.toNat) ≤ 60 := vb
  rw [ev]
  refine ⟨fun e _ m2 _ => ck_mono (cl_price (X := X) (xs := xs) hw hb.1 en vb') (fun r3 H3 h3 => ?_), fun e _ m2 _ => ck_mono (cl_fill (X := X) (xs := xs) hw hb.1 en vb') (fun r3 H3 h3 => ⟨h3.1, ?_⟩)⟩
  · obtain ⟨⟨v, v1, v2⟩, o⟩ := h3
    refine ⟨v, v1, ⟨v, rfl, ?_⟩, o 95 (by omega), TX_fq t (sq_fr (fun c a _ => o c a))⟩
    unfold pSq
    rw [if_pos hq, if_pos e, en, Int.toNat_natCast]
    exact v2
  · obtain ⟨-, o, hk, tb⟩ := h3
    have t3 : TX H3 := TX_fq t (sq_fr o)
    have e95 : H3 95 = H 95 := o 95 (by omega) (by omega)
    refine ⟨fun e1 m4 _ => ve_Sack_most_85 ⟨_, rfl, ⟨_, rfl, ?_⟩, e95, t3⟩, fun e1 m4 _ => ?_⟩
    · unfold pSq
      rw [if_pos hq, if_neg e, if_pos e1, en, Int.toNat_natCast]
      have := tb 0 (by omega) 16 (by omega)
      rw [Nat.sub_zero] at this
      exact this
    · obtain ⟨g, eg⟩ : ∃ g : Nat, w = (g : Int) := ⟨w.toNat, by omega⟩
      subst eg
      refine ve_Sack_picked_85 (cl_pick (X := X) (xs := xs) hw hk tb (by omega) n 0 (by omega) (by omega) 16 (by omega) (by omega) ⟨_, rfl, ⟨_, rfl, ?_⟩, e95, t3⟩ _)
      unfold pSq
      rw [if_pos hq, if_neg e, if_neg e1, en, Int.toNat_natCast, Int.toNat_natCast]
theorem rg_squares {m : Nat} {H : fl_H} {p w : Int} (hp : fl_w p = p) (hw1 : fl_w w = w) (t : TX H) : ck (cm_pg X xs) m cm_m202 [.index 94, fl_t p, fl_t w] H (rq (pSq p w) H) := by
  have bd := z_bd t
  have hw := TX_wf t
  obtain ⟨n, en⟩ : ∃ n : Nat, H 95 1 = (n : Int) := ⟨(H 95 1).toNat, by omega⟩
  refine ve_GoodsBookModel_squares_94 (fun m1 _ => ve_GoodsBookModel_isPage_94 ⟨_, rfl, ?_⟩)
  simp only [fb_0, hp, hw1, ePr t, eGr t]
  have no : ¬ ((0 ≤ p ∧ p ≤ H 95 0 - 1) ∧ (-2 ≤ w ∧ w ≤ H 95 1 - 1)) → rq (pSq p w) H (some (-1)) H := fun q => rq_0 t (by unfold pSq; rw [if_neg q])
  refine ⟨fun q => no (fun k => q k.1), fun q => ⟨fun q2 _ => ?_, fun q2 => no (fun k => q2 k.2)⟩⟩
  have q1 := Classical.not_not.mp q
  have hq : (0 ≤ p ∧ p ≤ H 95 0 - 1) ∧ (-2 ≤ w ∧ w ≤ H 95 1 - 1) := ⟨q1, q2⟩
  have vb := wf_vw hw (p := p.toNat) (by omega)
  have vb' : 0 ≤ H 95 (10 + p.toNat) ∧ H 95 (10 + p.toNat) ≤ 60 := vb
  rw [fl_wi (x := 10 + p) (by omega) (by omega), show (10 + p).toNat = 10 + p.toNat by omega]
  refine ⟨fun e m2 _ => ck_mono (rc_prices (X := X) (xs := xs) hw en vb') (fun r3 H3 h3 => ?_), fun e m2 _ => ck_mono (rm_codes (X := X) (xs := xs) (n := n) (by omega) en) (fun r3 H3 h3 => ⟨_, h3.1, ?_⟩)⟩
  · obtain ⟨⟨v, v1, v2⟩, o⟩ := h3
    rw [o]
    refine ⟨v, v1, rq_0 t ?_⟩
    unfold pSq
    rw [if_pos hq, if_pos e, en, Int.toNat_natCast]
    exact v2
  · rw [h3.2]
    have key := rl_all (X := X) (xs := xs) hw en vb' hw1 (w := w) (by omega) (3 ^ n) 0 (by omega) m (-1) 0 (Or.inl ⟨rfl, rfl, fun m hm => absurd hm (by omega)⟩)
    intro lv l0 l1 l2 l3 l4 l5 l6
    refine vt_mono (Nat.le_refl _) (fun r4 H4 h4 => ?_) (key lv l0 l1 l2 l3 l4 l5 l6)
    rw [h4.1, h4.2]
    refine rq_0 t ?_
    unfold pSq
    rw [if_pos hq, if_neg e, en, Int.toNat_natCast]
theorem tx_squares {v1 v2 : Int} (h1 : fl_w v1 = v1) (h2 : fl_w v2 = v2) : tw X xs TX true cm_m121 cm_m202 [.index 0, fl_t v1, fl_t v2] [.index 94, fl_t v1, fl_t v2] :=
  tx_rel (P := pSq v1 v2) pSq_un (fun m H t => cb_squares h1 h2 t) (fun m H t => rg_squares h1 h2 t)
end
end
