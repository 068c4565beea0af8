noncomputable section
/-! L3: the reference reads a whole text. -/
section
variable {X : Term} {xs : List Int32}
def rfb (k : Nat) (H G : fl_H) : Prop := ∀ c i, (c = 94 → i ≠ 14 ∧ i ≠ 15 ∧ i ≠ 17) → (c = 105 → i < k) → G c i = H c i
theorem rfb_of {k : Nat} {H G : fl_H} (h : rfr k H G) : rfb k H G := fun c i h1 h2 => h c i (fun hc => ⟨(h1 hc).1, (h1 hc).2.2⟩) h2
theorem rfb_trans {k j : Nat} {H G F : fl_H} (h : rfb k H G) (g : rfb j G F) (hj : k ≤ j) : rfb k H F := fun c i h1 h2 => (g c i h1 (fun hc => by have := h2 hc; omega)).trans (h c i h1 h2)
theorem rfb_n {k : Nat} {H G : fl_H} (h : rfb k H G) : G 94 13 = H 94 13 := h 94 13 (fun _ => ⟨by decide, by decide, by decide⟩) (fun h => absurd h (by decide))
theorem rfb_t {k : Nat} {H G : fl_H} (h : rfb k H G) : G 104 = H 104 := funext (fun i => h 104 i (fun h => absurd h (by decide)) (fun h => absurd h (by decide)))
theorem rst_b {k : Nat} {H G : fl_H} {n a b : Nat} (h : rst H n a) (f : rfb k H G) (h2 : G 94 14 = (b : Int)) (hb : b ≤ n) : rst G n b :=
  ⟨by rw [rfb_n f]; exact h.1, h2, hb, h.2.2.2.1, fun i hi => by rw [rfb_t f]; exact h.2.2.2.2 i hi⟩
/-- clauses written down from the k-th row on -/
def rows (k : Nat) (l : List (List Int)) (H : fl_H) : Prop := ∀ (i : Nat) (e : List Int), l[i]? = some e → ∀ q, q < e.length → H 105 (12 * (k + i) + q) = e.getD q 0
def wrb (k : Nat) (o : PR (List (List Int))) (r : Option Int) (H' : fl_H) : Prop := match o with
  | .inr (l, _) => r = some 1 ∧ H' 94 15 = ((k + l.length : Nat) : Int) ∧ rows k l H'
  | .inl p => r = some 0 ∧ H' 94 14 = (p : Int)
/-- what clauses are -/
def evk (e : List Int) : Prop := (∃ v, e = [0, v] ∧ 0 ≤ v ∧ v ≤ 60) ∨ (∃ k f w0 h0 s0 w1 h1 s1, e = [1, k, f, w0, h0, s0, w1, h1, s1]) ∨ (∃ k x y v, e = [2, k, x, y, v])
theorem evk_len {e : List Int} (h : evk e) : e.length ≤ 12 ∧ 0 < e.length := by
  rcases h with ⟨v, rfl, -⟩ | ⟨k, f, w0, h0, s0, w1, h1, s1, rfl⟩ | ⟨k, x, y, v, rfl⟩
  · exact ⟨Nat.le_of_ble_eq_true rfl, Nat.le_of_ble_eq_true rfl⟩
  · exact ⟨Nat.le_of_ble_eq_true rfl, Nat.le_of_ble_eq_true rfl⟩
  · exact ⟨Nat.le_of_ble_eq_true rfl, Nat.le_of_ble_eq_true rfl⟩
theorem gds_evk {t : Nat → Int} {n a b : Nat} {e : List Int} (h : gds t n a = .inr (e, b)) : evk e := by
  unfold gds at h
  simp only [pb] at h
  split at h
  · simp at h
  · split at h
    · simp at h
    · split at h
      · simp at h
      · split at h
        · simp at h
        · split at h
          · simp at h
          · simp only [Sum.inr.injEq, Prod.mk.injEq] at h
            exact Or.inr (Or.inl ⟨_, _, _, _, _, _, _, _, h.1.symm⟩)
theorem bnd_evk {t : Nat → Int} {n : Nat} {g x : Int} {a b : Nat} {e : List Int} (h : bnd t n g x a = .inr (e, b)) : evk e := by
  unfold bnd at h
  cases o1 : tk t n a (letr g x) with
  | inl p => rw [o1] at h; simp [pb] at h
  | inr q =>
    rw [o1] at h
    simp only [pb] at h
    split at h
    · simp at h
    · split at h
      · split at h
        · simp at h
        · split at h
          · simp at h
          · simp only [Sum.inr.injEq, Prod.mk.injEq] at h
            exact Or.inr (Or.inr ⟨_, _, _, _, h.1.symm⟩)
      · simp only [Sum.inr.injEq, Prod.mk.injEq] at h
        exact Or.inr (Or.inr ⟨_, _, _, _, h.1.symm⟩)
theorem cla_evk {t : Nat → Int} {n : Nat} {g : Int} {a b : Nat} {e : List Int} (h : cla t n g a = .inr (e, b)) : evk e := by
  unfold cla at h
  split at h
  · cases o : num t n (nb t n a + 1) 60 with
    | inl p => rw [o] at h; simp [pb] at h
    | inr q =>
      obtain ⟨v, a1⟩ := q
      rw [o] at h
      simp only [pb, Sum.inr.injEq, Prod.mk.injEq] at h
      exact Or.inl ⟨v, h.1.symm, num_rg o⟩
  · split at h
    · exact gds_evk h
    · cases o : tk t n a (letr g (-1)) with
      | inl p => rw [o] at h; simp [pb] at h
      | inr q =>
        obtain ⟨x, a1⟩ := q
        rw [o] at h
        exact bnd_evk h
theorem cls_evk {t : Nat → Int} {n : Nat} : ∀ {f : Nat} {g : Int} {a b : Nat} {l : List (List Int)}, cls t n f g a = .inr (l, b) → ∀ e ∈ l, evk e
  | 0, g, a, b, l, h, e, he => by simp [cls] at h
  | f + 1, g, a, b, l, h, e, he => by
    unfold cls at h
    cases o : cla t n g a with
    | inl p => rw [o] at h; simp [pb] at h
    | inr q =>
      obtain ⟨ev, a1⟩ := q
      rw [o] at h
      simp only [pb] at h
      have h0 := cla_evk o
      split at h
      · simp only [Sum.inr.injEq, Prod.mk.injEq] at h
        rw [← h.1] at he
        simp only [List.mem_cons, List.not_mem_nil, or_false] at he
        rw [he]; exact h0
      · split at h
        · cases o2 : cls t n f (g + isg ev) (nb t n a1 + 1) with
          | inl p => rw [o2] at h; simp at h
          | inr q =>
            obtain ⟨l2, b2⟩ := q
            rw [o2] at h
            simp only [Sum.inr.injEq, Prod.mk.injEq] at h
            rw [← h.1] at he
            rcases List.mem_cons.mp he with he | he
            · rw [he]; exact h0
            · exact cls_evk o2 e he
        · simp at h
theorem isg_01 (e : List Int) : isg e = 0 ∨ isg e = 1 := by
  unfold isg
  split
  · exact Or.inr rfl
  · exact Or.inl rfl
theorem cla_le {t : Nat → Int} {n : Nat} {g : Int} {a b : Nat} {e : List Int} (ha : a ≤ n) (h : cla t n g a = .inr (e, b)) : b ≤ n := by
  unfold cla at h
  have hle := nb_le (t := t) ha
  have hlt : ∀ c : Int, bc t n a = c → 0 ≤ c → nb t n a + 1 ≤ n := fun c hc h0 => by
    by_cases hq : nb t n a < n
    · exact hq
    · have e : bc t n a = -1 := if_neg hq
      omega
  split at h
  · rename_i hp
    have l1 := num_le (t := t) (hlt _ hp (by omega)) (most := 60)
    cases o : num t n (nb t n a + 1) 60 with
    | inl p => rw [o] at h; simp [pb] at h
    | inr q =>
      obtain ⟨v, a1⟩ := q
      rw [o] at h l1
      simp only [pb, Sum.inr.injEq, Prod.mk.injEq] at h
      rw [← h.2]; exact l1
  · split at h
    · rename_i hp
      have l0 := hlt _ hp (by omega)
      unfold gds at h
      have l1 := tk_le (t := t) l0 (f := one [112, 108, 114, 102]) rfl
      cases o1 : tk t n (nb t n a + 1) (one [112, 108, 114, 102]) with
      | inl p => rw [o1] at h; simp [pb] at h
      | inr q =>
        obtain ⟨v1, a1⟩ := q
        rw [o1] at h l1
        simp only [pb] at h
        have l2 := tk_le (t := t) l1 (f := fig 0 3) (fig_n1 (by omega))
        cases o2 : tk t n a1 (fig 0 3) with
        | inl p => rw [o2] at h; simp at h
        | inr q =>
          obtain ⟨v2, a2⟩ := q
          rw [o2] at h l2
          simp only [] at h
          cases o3 : siz t n a2 with
          | inl p => rw [o3] at h; simp at h
          | inr q =>
            obtain ⟨v3, a3⟩ := q
            have l3 := siz_le l2 o3
            rw [o3] at h
            simp only [] at h
            have l4 := tk_le (t := t) l3 (f := skp 44) rfl
            cases o4 : tk t n a3 (skp 44) with
            | inl p => rw [o4] at h; simp at h
            | inr q =>
              obtain ⟨v4, a4⟩ := q
              rw [o4] at h l4
              simp only [] at h
              cases o5 : siz t n a4 with
              | inl p => rw [o5] at h; simp at h
              | inr q =>
                obtain ⟨v5, a5⟩ := q
                have l5 := siz_le l4 o5
                rw [o5] at h
                simp only [Sum.inr.injEq, Prod.mk.injEq] at h
                rw [← h.2]; exact l5
    · have l1 := tk_le (t := t) ha (f := letr g (-1)) (letr_n1 _ _)
      cases o1 : tk t n a (letr g (-1)) with
      | inl p => rw [o1] at h; simp [pb] at h
      | inr q =>
        obtain ⟨x, a1⟩ := q
        rw [o1] at h l1
        simp only [pb] at h
        unfold bnd at h
        have l2 := tk_le (t := t) l1 (f := letr g x) (letr_n1 _ _)
        cases o2 : tk t n a1 (letr g x) with
        | inl p => rw [o2] at h; simp [pb] at h
        | inr q =>
          obtain ⟨v2, a2⟩ := q
          rw [o2] at h l2
          simp only [pb] at h
          have l3 := tk_le (t := t) l2 (f := one [111, 102, 101, 110, 118, 104]) rfl
          cases o3 : tk t n a2 (one [111, 102, 101, 110, 118, 104]) with
          | inl p => rw [o3] at h; simp at h
          | inr q =>
            obtain ⟨v3, a3⟩ := q
            rw [o3] at h l3
            simp only [] at h
            split at h
            · have l4 := tk_le (t := t) l3 (f := one [43, 45]) rfl
              cases o4 : tk t n a3 (one [43, 45]) with
              | inl p => rw [o4] at h; simp at h
              | inr q =>
                obtain ⟨v4, a4⟩ := q
                rw [o4] at h l4
                simp only [] at h
                have l5 := num_le (t := t) l4 (most := 99)
                cases o5 : num t n a4 99 with
                | inl p => rw [o5] at h; simp at h
                | inr q =>
                  obtain ⟨v5, a5⟩ := q
                  rw [o5] at h l5
                  simp only [Sum.inr.injEq, Prod.mk.injEq] at h
                  rw [← h.2]; exact l5
            · simp only [Sum.inr.injEq, Prod.mk.injEq] at h
              rw [← h.2]; exact l3
theorem rn_rows (n : Nat) : ∀ (f k : Nat), k + f = 12 → ∀ (N : Nat) (H : fl_H) (a : Nat), rst H n a → 0 ≤ H 94 17 → H 94 17 ≤ 6 + k → hd_GoodsBookModel_readBook_94_17 (cm_pg X xs) N H (k : Int) (fun r H' => wrb k (cls (H 104) n f (H 94 17) a) r H' ∧ rfb (12 * k) H H')
  | 0, k, hk, N, H, a, hs, hg0, hg1 => by
    have wk : fl_w (k : Int) = (k : Int) := fl_wi (by omega) (by omega)
    refine vh_GoodsBookModel_readBook_94_17 ?_
    rw [wk]
    exact ⟨fun _ => ⟨⟨rfl, hs.2.1⟩, fun _ _ _ _ => rfl⟩, fun h => by omega⟩
  | f + 1, k, hk, N, H, a, hs, hg0, hg1 => by
    have wk : fl_w (k : Int) = (k : Int) := fl_wi (by omega) (by omega)
    refine vh_GoodsBookModel_readBook_94_17 ?_
    rw [wk]
    refine ⟨fun h => by omega, fun _ m hm => ?_⟩
    have e12 : (12 : Int) * (k : Int) = ((12 * k : Nat) : Int) := by omega
    rw [e12]
    refine ck_mono (rn_clause (X := X) (xs := xs) hs (j := 12 * k) (by omega) ⟨hg0, by omega⟩) (fun r H2 h => ?_)
    obtain ⟨h, f2⟩ := h
    unfold cls
    cases o : cla (H 104) n (H 94 17) a with
    | inl p =>
      rw [o] at h
      refine ⟨_, h.1, fun _ => ⟨⟨rfl, h.2⟩, rfb_of f2⟩, fun hq => absurd (show fl_w 0 = 0 from rfl) hq⟩
    | inr q =>
      obtain ⟨ev, a1⟩ := q
      rw [o] at h
      obtain ⟨h1, h2, h3, h4⟩ := h
      have la := cla_le hs.2.2.1 o
      have hev := cla_evk o
      refine ⟨_, h1, fun hq => absurd hq (show ¬ fl_w 1 = 0 by decide), fun _ H6 e6 m hm => ?_⟩
      have f6 : rfb (12 * k) H H6 := fun c i g1 g2 => by
        rw [e6]
        unfold fl_up
        rw [if_neg (fun hh => (g1 hh.1).2.1 hh.2)]
        exact rfb_of f2 c i g1 g2
      have t6 : H6 94 14 = (a1 : Int) := by rw [e6, fl_up_i _ _ _ _ (by decide)]; exact h2
      have g6 : H6 94 17 = H 94 17 + isg ev := by rw [e6, fl_up_i _ _ _ _ (by decide)]; exact h4
      have d6 : H6 94 15 = ((k + 1 : Nat) : Int) := by rw [e6, fl_up_at]; omega
      have x6 : ∀ q, q < ev.length → H6 105 (12 * k + q) = ev.getD q 0 := fun q hq => by rw [e6, fl_up_c _ _ _ _ (by decide)]; exact h3 q hq
      have s6 := rst_b hs f6 t6 la
      refine ck_mono (rn_next (X := X) (xs := xs) s6) (fun r H8 g => ⟨_, g.1, ?_⟩)
      have e8 := g.2
      clear g
      rw [rfb_t f6] at e8 ⊢
      have hb := bc_rg hs.2.2.2.2 a1
      rw [fl_wi (by omega) (by omega)]
      have hle := nb_le (t := H 104) la
      have f8 : rfb (12 * k) H H8 := by rw [e8]; exact rfb_trans f6 (rfb_of (rfr_at _)) (Nat.le_refl _)
      have t8 : H8 94 14 = (nb (H 104) n a1 : Nat) := by rw [e8, fl_up_at]
      have d8 : H8 94 15 = ((k + 1 : Nat) : Int) := by rw [e8, fl_up_i _ _ _ _ (by decide)]; exact d6
      have g8 : H8 94 17 = H 94 17 + isg ev := by rw [e8, fl_up_i _ _ _ _ (by decide)]; exact g6
      have x8 : ∀ q, q < ev.length → H8 105 (12 * k + q) = ev.getD q 0 := fun q hq => by rw [e8, fl_up_c _ _ _ _ (by decide)]; exact x6 q hq
      simp only [pb]
      refine ⟨fun h0 => ⟨fun h59 => ⟨fun h11 => ?_, fun h11 H15 e15 m hm => ?_⟩, fun h59 => ?_⟩, fun h0 => ?_⟩
      · rw [if_neg (by omega), if_neg (fun hh => hh.2 (by omega))]
        exact ⟨⟨rfl, t8⟩, f8⟩
      · have hf : ¬ f = 0 := by omega
        rw [if_neg (by omega), if_pos ⟨h59, hf⟩]
        rw [t8, nb_cast] at e15
        have hlt : nb (H 104) n a1 < n := by
          by_cases hq : nb (H 104) n a1 < n
          · exact hq
          · have e : bc (H 104) n a1 = -1 := if_neg hq
            omega
        have f15 : rfb (12 * k) H H15 := by rw [e15]; exact rfb_trans f8 (rfb_of (rfr_at _)) (Nat.le_refl _)
        have t15 : H15 94 14 = ((nb (H 104) n a1 + 1 : Nat) : Int) := by rw [e15, fl_up_at]
        have g15 : H15 94 17 = H 94 17 + isg ev := by rw [e15, fl_up_i _ _ _ _ (by decide)]; exact g8
        have x15 : ∀ q, q < ev.length → H15 105 (12 * k + q) = ev.getD q 0 := fun q hq => by rw [e15, fl_up_c _ _ _ _ (by decide)]; exact x8 q hq
        have s15 := rst_b hs f15 t15 (by omega)
        have ek : (k : Int) + 1 = ((k + 1 : Nat) : Int) := by omega
        rw [ek]
        have h01 := isg_01 ev
        have ih := rn_rows n f (k + 1) (by omega) m H15 (nb (H 104) n a1 + 1) s15 (by omega) (by omega)
        rw [rfb_t f15, g15] at ih
        intro lv l0 l1
        refine vt_mono (Nat.le_refl _) (fun r H' hr => ?_) (ih lv l0 l1)
        obtain ⟨hr, f'⟩ := hr
        refine ⟨?_, rfb_trans f15 f' (by omega)⟩
        cases o2 : cls (H 104) n f (H 94 17 + isg ev) (nb (H 104) n a1 + 1) with
        | inl p =>
          rw [o2] at hr
          exact hr
        | inr q =>
          obtain ⟨l2, b2⟩ := q
          rw [o2] at hr
          obtain ⟨r1, r2, r3⟩ := hr
          refine ⟨r1, by rw [r2]; simp only [List.length_cons]; omega, fun i e he q hq => ?_⟩
          cases i with
          | zero =>
            simp only [List.getElem?_cons_zero, Option.some.injEq] at he
            subst he
            have hl := evk_len hev
            rw [f' 105 (12 * (k + 0) + q) (fun hc => absurd hc (by decide)) (fun _ => by omega)]
            exact x15 q hq
          | succ i =>
            simp only [List.getElem?_cons_succ] at he
            have := r3 i e he q hq
            have e1 : k + 1 + i = k + (i + 1) := by omega
            rw [e1] at this
            exact this
      · rw [if_neg (by omega), if_neg (fun hh => h59 hh.1)]
        exact ⟨⟨rfl, t8⟩, f8⟩
      · rw [if_pos (by omega)]
        refine ⟨⟨rfl, by rw [d8]; rfl, fun i e he q hq => ?_⟩, f8⟩
        cases i with
        | zero =>
          simp only [List.getElem?_cons_zero, Option.some.injEq] at he
          subst he
          exact x8 q hq
        | succ i => simp at he
theorem rn_read {n m : Nat} {H : fl_H} (h1 : H 94 13 = (n : Int)) (h2 : n ≤ 120) (h3 : ∀ i, i < n → 0 ≤ H 104 i ∧ H 104 i ≤ 255) (g0 : 0 ≤ H 95 1) (g1 : H 95 1 ≤ 6) : ck (cm_pg X xs) m cm_m230 [.index 94] H (fun r H' => wrb 0 (cls (H 104) n 12 (H 95 1) 0) r H' ∧ rfb 0 H H') := by
  refine ve_GoodsBookModel_readBook_94 (fun H1 e1 H3 e3 => ?_)
  have e1' : H1 = fl_up H 94 14 ((0 : Nat) : Int) := e1
  have t1 : H3 104 = H 104 := by rw [e3, fl_up_cell _ _ _ _ (by decide), e1', fl_up_cell _ _ _ _ (by decide)]
  have hs : rst H3 n 0 := ⟨by rw [e3, fl_up_i _ _ _ _ (by decide), e1', fl_up_i _ _ _ _ (by decide)]; exact h1, by rw [e3, fl_up_i _ _ _ _ (by decide), e1', fl_up_at], by omega, h2, fun i hi => by rw [t1]; exact h3 i hi⟩
  have g3 : H3 94 17 = H 95 1 := by rw [e3, fl_up_at, e1', fl_up_c _ _ _ _ (by decide)]
  have key := rn_rows (X := X) (xs := xs) n 12 0 rfl m H3 0 hs (by rw [g3]; exact g0) (by rw [g3]; omega)
  rw [t1, g3] at key
  intro lv l0 l1
  refine vt_mono (Nat.le_refl _) (fun r H' hr => ⟨hr.1, ?_⟩) (key lv l0 l1)
  refine rfb_trans (G := H3) ?_ hr.2 (Nat.le_refl _)
  intro c i q1 _
  rw [e3, e1']
  unfold fl_up
  rw [if_neg (fun hh => (q1 hh.1).2.2 hh.2), if_neg (fun hh => (q1 hh.1).1 hh.2)]
end
end
