noncomputable section
/-! L3: book, of the reference. -/
section
variable {X : Term} {xs : List Int32}
def cnt (t : Int) : List (List Int) → Int
  | [] => 0
  | e :: l => (if e.getD 0 0 = t then 1 else 0) + cnt t l
theorem cnt_ge (t : Int) : ∀ l : List (List Int), 0 ≤ cnt t l
  | [] => Int.le_refl 0
  | e :: l => by
    have := cnt_ge t l
    unfold cnt
    split <;> omega
theorem apz_0 {e : List Int} (he : evk e) (z : Nat → Int) : apz e z 0 = z 0 + (if e.getD 0 0 = 0 then 1 else 0) := by
  rcases he with ⟨v, rfl, -⟩ | ⟨kk, f, a0, b0, c0, a1, b1, c1, rfl⟩ | ⟨kk, x, y, v, rfl⟩
  · exact upz_at _ _ _
  · show upz _ 1 _ 0 = z 0 + 0
    rw [upz_ne _ _ (by omega), upz_ne _ _ (by omega), upz_ne _ _ (by omega), upz_ne _ _ (by omega), upz_ne _ _ (by omega), upz_ne _ _ (by omega), upz_ne _ _ (by omega), upz_ne _ _ (by omega), upz_ne _ _ (by omega), upz_ne _ _ (by omega)]
    omega
  · show upz _ 2 _ 0 = z 0 + 0
    rw [upz_ne _ _ (by omega), upz_ne _ _ (by omega), upz_ne _ _ (by omega), upz_ne _ _ (by omega), upz_ne _ _ (by omega)]
    omega
theorem apz_1 {e : List Int} (he : evk e) (z : Nat → Int) : apz e z 1 = z 1 + (if e.getD 0 0 = 1 then 1 else 0) := by
  rcases he with ⟨v, rfl, -⟩ | ⟨kk, f, a0, b0, c0, a1, b1, c1, rfl⟩ | ⟨kk, x, y, v, rfl⟩
  · show upz _ 0 _ 1 = z 1 + 0
    rw [upz_ne _ _ (by omega), upz_ne _ _ (by omega)]
    omega
  · exact upz_at _ _ _
  · show upz _ 2 _ 1 = z 1 + 0
    rw [upz_ne _ _ (by omega), upz_ne _ _ (by omega), upz_ne _ _ (by omega), upz_ne _ _ (by omega), upz_ne _ _ (by omega)]
    omega
theorem apz_2 {e : List Int} (he : evk e) (z : Nat → Int) : apz e z 2 = z 2 + (if e.getD 0 0 = 2 then 1 else 0) := by
  rcases he with ⟨v, rfl, -⟩ | ⟨kk, f, a0, b0, c0, a1, b1, c1, rfl⟩ | ⟨kk, x, y, v, rfl⟩
  · show upz _ 0 _ 2 = z 2 + 0
    rw [upz_ne _ _ (by omega), upz_ne _ _ (by omega)]
    omega
  · show upz _ 1 _ 2 = z 2 + 0
    rw [upz_ne _ _ (by omega), upz_ne _ _ (by omega), upz_ne _ _ (by omega), upz_ne _ _ (by omega), upz_ne _ _ (by omega), upz_ne _ _ (by omega), upz_ne _ _ (by omega), upz_ne _ _ (by omega), upz_ne _ _ (by omega), upz_ne _ _ (by omega)]
    omega
  · exact upz_at _ _ _
theorem hd_gd (e : List Int) : e.headD 0 = e.getD 0 0 := by cases e <;> rfl
theorem evk_tag {e : List Int} (he : evk e) : e.getD 0 0 = 0 ∨ e.getD 0 0 = 1 ∨ e.getD 0 0 = 2 := by
  rcases he with ⟨v, rfl, -⟩ | ⟨kk, f, a0, b0, c0, a1, b1, c1, rfl⟩ | ⟨kk, x, y, v, rfl⟩
  · exact Or.inl rfl
  · exact Or.inr (Or.inl rfl)
  · exact Or.inr (Or.inr rfl)
theorem rml_iff : ∀ (l : List (List Int)) (z : Nat → Int), (∀ e ∈ l, evk e) → z 0 ≤ 3 → z 1 ≤ 6 → z 2 ≤ 12 → (rml l z ↔ z 0 + cnt 0 l ≤ 3 ∧ z 1 + cnt 1 l ≤ 6 ∧ z 2 + cnt 2 l ≤ 12)
  | [], z, _, h0, h1, h2 => ⟨fun _ => by unfold cnt; omega, fun _ => trivial⟩
  | e :: l, z, hl, h0, h1, h2 => by
    have he := hl e (List.mem_cons_self ..)
    have c0 := cnt_ge 0 l
    have c1 := cnt_ge 1 l
    have c2 := cnt_ge 2 l
    have a0 := apz_0 he z
    have a1 := apz_1 he z
    have a2 := apz_2 he z
    show rom e z ∧ rml l (apz e z) ↔ z 0 + ((if e.getD 0 0 = 0 then 1 else 0) + cnt 0 l) ≤ 3 ∧ z 1 + ((if e.getD 0 0 = 1 then 1 else 0) + cnt 1 l) ≤ 6 ∧ z 2 + ((if e.getD 0 0 = 2 then 1 else 0) + cnt 2 l) ≤ 12
    unfold rom
    rw [hd_gd]
    rcases evk_tag he with t | t | t <;> rw [t] at a0 a1 a2 ⊢ <;> simp at a0 a1 a2 ⊢ <;> constructor
    · rintro ⟨g1, g2⟩
      have := (rml_iff l (apz e z) (fun x hx => hl x (List.mem_cons_of_mem _ hx)) (by omega) (by omega) (by omega)).mp g2
      omega
    · intro g
      exact ⟨by omega, (rml_iff l (apz e z) (fun x hx => hl x (List.mem_cons_of_mem _ hx)) (by omega) (by omega) (by omega)).mpr (by omega)⟩
    · rintro ⟨g1, g2⟩
      have := (rml_iff l (apz e z) (fun x hx => hl x (List.mem_cons_of_mem _ hx)) (by omega) (by omega) (by omega)).mp g2
      omega
    · intro g
      exact ⟨by omega, (rml_iff l (apz e z) (fun x hx => hl x (List.mem_cons_of_mem _ hx)) (by omega) (by omega) (by omega)).mpr (by omega)⟩
    · rintro ⟨g1, g2⟩
      have := (rml_iff l (apz e z) (fun x hx => hl x (List.mem_cons_of_mem _ hx)) (by omega) (by omega) (by omega)).mp g2
      omega
    · intro g
      exact ⟨by omega, (rml_iff l (apz e z) (fun x hx => hl x (List.mem_cons_of_mem _ hx)) (by omega) (by omega) (by omega)).mpr (by omega)⟩
theorem zr_apz {e : List Int} {z : Nat → Int} (he : evk e) (hz : zr z) (hr : rom e z) : zr (apz e z) := by
  have a0 := apz_0 he z
  have a1 := apz_1 he z
  have a2 := apz_2 he z
  obtain ⟨z1, z2, z3, z4, z5, z6⟩ := hz
  unfold rom at hr
  rw [hd_gd] at hr
  obtain ⟨r1, r2, r3⟩ := hr
  unfold zr
  rw [a0, a1, a2]
  rcases evk_tag he with t | t | t <;> rw [t] at r1 r2 r3 ⊢ <;> simp at r1 r2 r3 ⊢ <;> omega
theorem rows_oz {k : Nat} {l : List (List Int)} {H G : fl_H} (h : rows k l H) (o : oz H G) : rows k l G := fun i e he q hq => by
  rw [o 105 (by decide) (by decide)]
  exact h i e he q hq
theorem rk_do (l : List (List Int)) (hl : l.length ≤ 12) (hv : ∀ e ∈ l, evk e) : ∀ (f k : Nat), k + f = l.length → ∀ (N : Nat) (H : fl_H), rows 0 l H → H 94 15 = (l.length : Int) → zr (H 95) → rml (l.drop k) (H 95) → hd_GoodsBookModel_book_94_153 (cm_pg X xs) N H (k : Int) (fun r H' => r = some (l.length : Int) ∧ H' 95 = apl (l.drop k) (H 95) ∧ oz H H')
  | 0, k, hk, N, H, hrw, hn, hz, hr => by
    refine vh_GoodsBookModel_book_94_153 ?_
    rw [hn, fl_wi (x := (l.length : Int)) (by omega) (by omega), fl_wi (x := (k : Int)) (by omega) (by omega)]
    refine ⟨fun _ => ⟨rfl, ?_, oz_refl _⟩, fun h => by omega⟩
    rw [List.drop_eq_nil_of_le (by omega)]
    rfl
  | f + 1, k, hk, N, H, hrw, hn, hz, hr => by
    have hlt : k < l.length := by omega
    have hd : l.drop k = l[k] :: l.drop (k + 1) := List.drop_eq_getElem_cons hlt
    rw [hd] at hr
    have he := hv l[k] (List.getElem_mem hlt)
    refine vh_GoodsBookModel_book_94_153 ?_
    rw [hn, fl_wi (x := (l.length : Int)) (by omega) (by omega), fl_wi (x := (k : Int)) (by omega) (by omega)]
    have e12 : (12 : Int) * (k : Int) = ((12 * k : Nat) : Int) := by omega
    rw [e12]
    refine ⟨fun h => by omega, fun _ m hm => ck_mono (rz_do (X := X) (xs := xs) (k := k) (by omega) he (fun q hq => by have := hrw k l[k] (List.getElem?_eq_getElem hlt) q hq; rw [Nat.zero_add] at this; exact this) hz hr.1) (fun r H2 h => ⟨h.1, fun m hm => ?_⟩)⟩
    obtain ⟨-, h2, h3⟩ := h
    have e1 : (k : Int) + 1 = ((k + 1 : Nat) : Int) := by omega
    rw [e1]
    have := rk_do l hl hv f (k + 1) (by omega) m H2 (rows_oz hrw h3) (by rw [h3 94 (by decide) (by decide)]; exact hn) (by rw [h2]; exact zr_apz he hz hr.1) (by rw [h2]; exact hr.2)
    intro lv l0 l1
    refine vt_mono (Nat.le_refl _) (fun r H' hr' => ⟨hr'.1, ?_, oz_trans h3 hr'.2.2⟩) (this lv l0 l1)
    rw [hr'.2.1, h2, hd]
    rfl
/-- what comes of the clauses that were written down -/
def bkp (l : List (List Int)) (H : fl_H) (r : Option Int) (H' : fl_H) : Prop := (rml l (H 95) → r = some (l.length : Int) ∧ H' 95 = apl l (H 95) ∧ oz H H') ∧ (¬ rml l (H 95) → r = some (-3) ∧ H' = H)
theorem rk_cnt (l : List (List Int)) (hl : l.length ≤ 12) (hv : ∀ e ∈ l, evk e) : ∀ (f k : Nat), k + f = l.length → ∀ (N : Nat) (H : fl_H) (p g b : Int), rows 0 l H → H 94 15 = (l.length : Int) → zr (H 95) → 0 ≤ p → p ≤ 3 + k → 0 ≤ g → g ≤ 6 + k → 0 ≤ b → b ≤ 12 + k → p + cnt 0 (l.drop k) = H 95 0 + cnt 0 l → g + cnt 1 (l.drop k) = H 95 1 + cnt 1 l → b + cnt 2 (l.drop k) = H 95 2 + cnt 2 l → hd_GoodsBookModel_book_94_47 (cm_pg X xs) N H p g b (k : Int) (bkp l H)
  | 0, k, hk, N, H, p, g, b, hrw, hn, hz, p0, p1, g0, g1, b0, b1, ep, eg, eb => by
    rw [List.drop_eq_nil_of_le (by omega)] at ep eg eb
    simp only [cnt, Int.add_zero] at ep eg eb
    have hiff := rml_iff l (H 95) hv hz.2.1 hz.2.2.2.1 hz.2.2.2.2.2
    refine vh_GoodsBookModel_book_94_47 ?_
    rw [hn, fl_wi (x := (l.length : Int)) (by omega) (by omega), fl_wi (x := (k : Int)) (by omega) (by omega), fl_wi (x := p) (by omega) (by omega), fl_wi (x := g) (by omega) (by omega), fl_wi (x := b) (by omega) (by omega)]
    have bad : ¬ rml l (H 95) → bkp l H (some (-3)) H := fun hn => ⟨fun h => absurd h hn, fun _ => ⟨rfl, rfl⟩⟩
    refine ⟨fun _ => ⟨fun h3 => bad (fun hh => by have := hiff.mp hh; omega), fun h3 => ⟨fun h6 => bad (fun hh => by have := hiff.mp hh; omega), fun h6 => ⟨fun h12 => ?_, fun h12 => bad (fun hh => by have := hiff.mp hh; omega)⟩⟩⟩, fun h => by omega⟩
    have hr : rml l (H 95) := hiff.mpr (by omega)
    have key := rk_do (X := X) (xs := xs) l hl hv l.length 0 (by omega) N H hrw hn hz (by rw [List.drop_zero]; exact hr)
    intro lv l0 l1
    refine vt_mono (Nat.le_refl _) (fun r H' hr' => ⟨fun _ => ⟨hr'.1, by rw [hr'.2.1, List.drop_zero], hr'.2.2⟩, fun h => absurd hr h⟩) (key lv l0 l1)
  | f + 1, k, hk, N, H, p, g, b, hrw, hn, hz, p0, p1, g0, g1, b0, b1, ep, eg, eb => by
    have hlt : k < l.length := by omega
    have hd : l.drop k = l[k] :: l.drop (k + 1) := List.drop_eq_getElem_cons hlt
    rw [hd] at ep eg eb
    simp only [cnt] at ep eg eb
    have he := hv l[k] (List.getElem_mem hlt)
    have htag : H 105 (12 * k) = l[k].getD 0 0 := by
      have := hrw k l[k] (List.getElem?_eq_getElem hlt) 0 (evk_len he).2
      rw [Nat.zero_add] at this
      exact this
    refine vh_GoodsBookModel_book_94_47 ?_
    have e12 : (12 : Int) * (k : Int) = ((12 * k : Nat) : Int) := by omega
    rw [hn, fl_wi (x := (l.length : Int)) (by omega) (by omega), fl_wi (x := (k : Int)) (by omega) (by omega), e12, fl_wi (x := ((12 * k : Nat) : Int)) (by omega) (by omega), Int.toNat_natCast, htag]
    have e1 : (k : Int) + 1 = ((k + 1 : Nat) : Int) := by omega
    rw [e1]
    refine ⟨fun h => by omega, fun _ _ => ?_⟩
    rcases evk_tag he with t | t | t <;> rw [t] at ep eg eb ⊢ <;> simp at ep eg eb
    · refine ⟨fun _ _ => ⟨fun h => absurd h (show ¬ fl_w 0 = 1 by decide), fun _ _ => ⟨fun h => absurd h (show ¬ fl_w 0 = 2 by decide), fun _ m hm => ?_⟩⟩, fun h => absurd (show fl_w 0 = 0 from rfl) h⟩
      exact rk_cnt l hl hv f (k + 1) (by omega) m H _ _ _ hrw hn hz (by omega) (by omega) (by omega) (by omega) (by omega) (by omega) (by omega) (by omega) (by omega)
    · refine ⟨fun h => absurd h (show ¬ fl_w 1 = 0 by decide), fun _ _ => ⟨fun _ _ => ⟨fun h => absurd h (show ¬ fl_w 1 = 2 by decide), fun _ m hm => ?_⟩, fun h => absurd (show fl_w 1 = 1 by decide) h⟩⟩
      exact rk_cnt l hl hv f (k + 1) (by omega) m H _ _ _ hrw hn hz (by omega) (by omega) (by omega) (by omega) (by omega) (by omega) (by omega) (by omega) (by omega)
    · refine ⟨fun h => absurd h (show ¬ fl_w 2 = 0 by decide), fun _ _ => ⟨fun h => absurd h (show ¬ fl_w 2 = 1 by decide), fun _ _ => ⟨fun _ m hm => ?_, fun h => absurd (show fl_w 2 = 2 by decide) h⟩⟩⟩
      exact rk_cnt l hl hv f (k + 1) (by omega) m H _ _ _ hrw hn hz (by omega) (by omega) (by omega) (by omega) (by omega) (by omega) (by omega) (by omega) (by omega)
theorem cls_len {t : Nat → Int} {n : Nat} : ∀ {f : Nat} {g : Int} {a b : Nat} {l : List (List Int)}, cls t n f g a = .inr (l, b) → l.length ≤ f
  | 0, g, a, b, l, h => by simp [cls] at h
  | f + 1, g, a, b, l, h => by
    unfold cls at h
    cases o : cla t n g a with
    | inl p => rw [o] at h; simp [pb] at h
    | inr q =>
      obtain ⟨ev, a1⟩ := q
      rw [o] at h
      simp only [pb] at h
      split at h
      · simp only [Sum.inr.injEq, Prod.mk.injEq] at h
        rw [← h.1]
        simp
      · split at h
        · cases o2 : cls t n f (g + isg ev) (nb t n a1 + 1) with
          | inl p => rw [o2] at h; simp at h
          | inr q =>
            obtain ⟨l2, b2⟩ := q
            rw [o2] at h
            simp only [Sum.inr.injEq, Prod.mk.injEq] at h
            have := cls_len o2
            rw [← h.1]
            simp only [List.length_cons]
            omega
        · simp at h
/-- what book of the reference leaves as it was -/
def ofr (H G : fl_H) : Prop := ∀ c i, c ≠ 95 → c ≠ 96 → c ≠ 105 → (c = 94 → i ≠ 13 ∧ i ≠ 14 ∧ i ≠ 15 ∧ i ≠ 17) → G c i = H c i
theorem rk_book {n m : Nat} {H : fl_H} (h1 : H 94 13 = (n : Int)) (h2 : n ≤ 120) (h3 : ∀ i, i < n → 0 ≤ H 104 i ∧ H 104 i ≤ 255) (hz : zr (H 95)) : ck (cm_pg X xs) m cm_m232 [.index 94] H (fun r H' => r = some (bka (H 104) n (H 95)) ∧ H' 95 = bkz (H 104) n (H 95) ∧ H' 94 13 = 0 ∧ ofr H H') := by
  refine ve_GoodsBookModel_book_94 (fun k hk => ck_mono (rn_read (X := X) (xs := xs) h1 h2 h3 hz.2.2.1 hz.2.2.2.1) (fun r H1 h => ?_))
  obtain ⟨h, f1⟩ := h
  unfold bka bkz
  have z1 : H1 95 = H 95 := funext (fun i => f1 95 i (fun hc => absurd hc (by decide)) (fun hc => absurd hc (by decide)))
  have o4 : ∀ H4, H4 = fl_up H1 94 13 0 → ofr H H4 := fun H4 e4 c i c1 c2 c3 c4 => by
    rw [e4]
    unfold fl_up
    rw [if_neg (fun hh => (c4 hh.1).1 hh.2)]
    exact f1 c i (fun hc => (c4 hc).2) (fun hc => absurd hc c3)
  cases o : cls (H 104) n 12 (H 95 1) 0 with
  | inl p =>
    rw [o] at h
    obtain ⟨e1, e2⟩ := h
    refine ⟨_, e1, fun H4 e4 => ⟨fun _ => ⟨?_, ?_, by rw [e4, fl_up_at], o4 H4 e4⟩, fun hq => absurd (show fl_w 0 = 0 from rfl) hq⟩⟩
    · rw [e4, fl_up_i _ _ _ _ (by decide), e2]
    · rw [e4, fl_up_cell _ _ _ _ (by decide)]; exact z1
  | inr q =>
    obtain ⟨l, b⟩ := q
    rw [o] at h
    obtain ⟨e1, e2, e3⟩ := h
    refine ⟨_, e1, fun H4 e4 => ⟨fun hq => absurd hq (show ¬ fl_w 1 = 0 by decide), fun _ => ?_⟩⟩
    have z4 : H4 95 = H 95 := by rw [e4, fl_up_cell _ _ _ _ (by decide)]; exact z1
    have hl := cls_len o
    have hv := cls_evk o
    have n4 : H4 94 15 = (l.length : Int) := by rw [e4, fl_up_i _ _ _ _ (by decide), e2]; simp
    have r4 : rows 0 l H4 := fun i e he q hq => by rw [e4, fl_up_c _ _ _ _ (by decide)]; exact e3 i e he q hq
    have key := rk_cnt (X := X) (xs := xs) l hl hv l.length 0 (by omega) m H4 (H4 95 0) (H4 95 1) (H4 95 2) r4 n4 (by rw [z4]; exact hz) (by rw [z4]; exact hz.1) (by rw [z4]; have := hz.2.1; omega) (by rw [z4]; exact hz.2.2.1) (by rw [z4]; have := hz.2.2.2.1; omega) (by rw [z4]; exact hz.2.2.2.2.1) (by rw [z4]; have := hz.2.2.2.2.2; omega) (by rw [List.drop_zero]) (by rw [List.drop_zero]) (by rw [List.drop_zero])
    intro lv l0 l1 l2 l3 l4
    refine vt_mono (Nat.le_refl _) (fun r H' hr => ?_) (key lv l0 l1 l2 l3 l4)
    obtain ⟨g1, g2⟩ := hr
    rw [z4] at g1 g2
    by_cases hc : rml l (H 95)
    · obtain ⟨k1, k2, k3⟩ := g1 hc
      simp only [if_pos hc]
      refine ⟨k1, k2, by rw [k3 94 (by decide) (by decide), e4, fl_up_at], fun c i c1 c2 c3 c4 => ?_⟩
      rw [k3 c c1 c2]
      exact o4 H4 e4 c i c1 c2 c3 c4
    · obtain ⟨k1, k2⟩ := g2 hc
      simp only [if_neg hc]
      subst k2
      exact ⟨k1, z4, by rw [e4, fl_up_at], o4 _ e4⟩
end
end
