noncomputable section
/-! L3: the reference reads tokens. -/
section
variable {X : Term} {xs : List Int32}
theorem fl_wn {x : Int} {n : Nat} (h : x = (n : Int)) (hn : n ≤ 1000000) : fl_w x = (n : Int) := by
  rw [h]
  exact fl_w_id (by omega) (by omega)
theorem fl_wi {x : Int} (h1 : -1000000 ≤ x) (h2 : x ≤ 1000000) : fl_w x = x := fl_w_id (by omega) (by omega)
theorem fl_up_cell (H : fl_H) (c i : Nat) (v : Int) {d : Nat} (h : d ≠ c) : fl_up H c i v d = H d := funext (fun j => fl_up_c H c i v h)
theorem fl_up_up (H : fl_H) (c i : Nat) (v u : Int) : fl_up (fl_up H c i v) c i u = fl_up H c i u := by
  funext d j
  unfold fl_up
  split <;> rfl
theorem fl_up_same (H : fl_H) (c i : Nat) {v : Int} (h : H c i = v) : fl_up H c i v = H := by
  funext d j
  unfold fl_up
  split
  · rename_i hh
    rw [hh.1, hh.2, h]
  · rfl
/-- the reference reads: n bytes, at a -/
def rst (H : fl_H) (n a : Nat) : Prop := H 94 13 = (n : Int) ∧ H 94 14 = (a : Int) ∧ a ≤ n ∧ n ≤ 120 ∧ ∀ i, i < n → 0 ≤ H 104 i ∧ H 104 i ≤ 255
theorem rst_up {H : fl_H} {n a : Nat} (h : rst H n a) {b : Nat} (hb : b ≤ n) : rst (fl_up H 94 14 (b : Int)) n b :=
  ⟨by rw [fl_up_i _ _ _ _ (by decide)]; exact h.1, fl_up_at _ _ _ _, hb, h.2.2.2.1, fun i hi => by rw [fl_up_c _ _ _ _ (by decide)]; exact h.2.2.2.2 i hi⟩
theorem rst_fr {H G : fl_H} {n a : Nat} (h : rst H n a) (h1 : G 94 13 = H 94 13) (h2 : G 94 14 = H 94 14) (h3 : G 104 = H 104) : rst G n a :=
  ⟨by rw [h1]; exact h.1, by rw [h2]; exact h.2.1, h.2.2.1, h.2.2.2.1, fun i hi => by rw [h3]; exact h.2.2.2.2 i hi⟩
theorem bc_rg {t : Nat → Int} {n : Nat} (h : ∀ i, i < n → 0 ≤ t i ∧ t i ≤ 255) (a : Nat) : -1 ≤ bc t n a ∧ bc t n a ≤ 255 := by
  unfold bc
  split
  · rename_i h1
    have := h _ h1
    omega
  · omega
theorem rn_head (n : Nat) : ∀ (N : Nat) (H : fl_H) (a : Nat), rst H n a → hd_GoodsBookModel_nextByte_94_0 (cm_pg X xs) N H (fun r H' => r = some (bc (H 104) n a) ∧ H' = fl_up H 94 14 (nb (H 104) n a : Nat)) := by
  intro N
  induction N using Nat.strongRecOn with
  | ind N ih =>
    intro H a hs
    obtain ⟨h1, h2, h3, h4, h5⟩ := id hs
    have w1 := fl_wn h1 (by omega)
    have w2 := fl_wn h2 (by omega)
    refine vh_GoodsBookModel_nextByte_94_0 ?_
    rw [w1, w2, Int.toNat_natCast]
    by_cases ha : a < n
    · have hb := h5 a ha
      have w3 : fl_w (H 104 a) = H 104 a := fl_wi (by omega) (by omega)
      rw [w3]
      by_cases hc : H 104 a = 32
      · refine ⟨fun h => by omega, fun _ _ => ⟨fun _ H6 e m hm => ?_, fun h => absurd hc h⟩⟩
        subst e
        have e1 : H 94 14 + 1 = ((a + 1 : Nat) : Int) := by omega
        rw [e1]
        have := ih m hm _ (a + 1) (rst_up hs (b := a + 1) (by omega))
        rw [fl_up_cell _ _ _ _ (by decide), fl_up_up] at this
        have e2 : bc (H 104) n a = bc (H 104) n (a + 1) := by unfold bc; rw [nb_go ⟨ha, hc⟩]
        rw [e2, nb_go ⟨ha, hc⟩]
        exact this
      · refine ⟨fun h => by omega, fun _ _ => ⟨fun h => absurd h hc, fun _ => ⟨fun h => by omega, fun _ _ => ⟨?_, ?_⟩⟩⟩⟩
        · unfold bc
          rw [nb_stop (fun h => hc h.2), if_pos ha]
        · rw [nb_stop (fun h => hc h.2), fl_up_same _ _ _ h2]
    · refine ⟨fun _ => ⟨fun _ => ⟨?_, ?_⟩, fun h => by omega⟩, fun h => by omega⟩
      · unfold bc
        rw [nb_stop (fun h => ha h.1), if_neg ha]
      · rw [nb_stop (fun h => ha h.1), fl_up_same _ _ _ h2]
theorem rn_next {n a m : Nat} {H : fl_H} (hs : rst H n a) : ck (cm_pg X xs) m cm_m220 [.index 94] H (fun r H' => r = some (bc (H 104) n a) ∧ H' = fl_up H 94 14 (nb (H 104) n a : Nat)) :=
  ve_GoodsBookModel_nextByte_94 (rn_head n m H a hs)
/-- what a token comes to -/
def rpo (bad : Int) (o : PR Int) (H : fl_H) (r : Option Int) (H' : fl_H) : Prop := match o with
  | .inr (v, a) => r = some v ∧ H' = fl_up H 94 14 (a : Int)
  | .inl p => r = some bad ∧ H' = fl_up H 94 14 (p : Int)
theorem rn_takes {n a m : Nat} {H : fl_H} (hs : rst H n a) {c : Int} (h1 : 0 ≤ c) (h2 : c ≤ 255) : ck (cm_pg X xs) m cm_m221 [.index 94, fl_t c] H (rpo 0 (tk (H 104) n a (fun b => if b = c then some 1 else none)) H) := by
  have hb := bc_rg hs.2.2.2.2 a
  refine ve_GoodsBookModel_takes_94 (fun m hm => ck_mono (rn_next hs) (fun r H1 h => ⟨_, h.1, ?_, ?_⟩))
  · intro hc H6 e
    rw [fl_wi (by omega) (by omega), fl_wi (by omega) (by omega)] at hc
    subst e
    rw [h.2, fl_up_at, fl_up_up]
    unfold tk
    simp only [if_pos hc, rpo]
    exact ⟨trivial, by rw [Int.natCast_add]; rfl⟩
  · intro hc H6 e
    rw [fl_wi (by omega) (by omega), fl_wi (by omega) (by omega)] at hc
    subst e
    rw [h.2, fl_up_at, fl_up_up, Int.add_zero]
    unfold tk
    simp only [if_neg hc, rpo]
    exact ⟨trivial, trivial⟩
theorem rn_digit {n a m : Nat} {H : fl_H} (hs : rst H n a) {lo hi : Int} (h1 : 0 ≤ lo) (h2 : hi ≤ 9) (h3 : lo ≤ 9) (h4 : 0 ≤ hi) : ck (cm_pg X xs) m cm_m222 [.index 94, fl_t lo, fl_t hi] H (rpo (-1) (tk (H 104) n a (fig lo hi)) H) := by
  have hb := bc_rg hs.2.2.2.2 a
  have w1 : fl_w lo = lo := fl_wi (by omega) (by omega)
  have w2 : fl_w hi = hi := fl_wi (by omega) (by omega)
  have w3 : fl_w (bc (H 104) n a - 48) = bc (H 104) n a - 48 := fl_wi (by omega) (by omega)
  refine ve_GoodsBookModel_readDigit_94 (fun m hm => ck_mono (rn_next hs) (fun r H1 h => ⟨_, h.1, ?_⟩))
  rw [w1, w2, w3]
  refine ⟨?_, ?_⟩
  · intro hc H6 e
    subst e
    rw [h.2, fl_up_at, fl_up_up]
    unfold tk fig
    simp only [if_pos hc, rpo]
    exact ⟨trivial, by rw [Int.natCast_add]; rfl⟩
  · intro hc
    rw [h.2]
    unfold tk fig
    simp only [if_neg hc, rpo]
    exact ⟨trivial, trivial⟩
theorem nu_ge {t : Nat → Int} {n : Nat} : ∀ (f a : Nat) (v : Int), 0 ≤ v → v ≤ (nu t n f a v).1
  | 0, _, v, _ => Int.le_refl v
  | f + 1, a, v, h => by
    show v ≤ (if a < n ∧ 48 ≤ t a ∧ t a ≤ 57 then nu t n f (a + 1) (10 * v + t a - 48) else (v, a)).1
    split
    · have := nu_ge (t := t) (n := n) f (a + 1) (10 * v + t a - 48) (by omega)
      omega
    · exact Int.le_refl v
theorem nu_q {t : Nat → Int} {n : Nat} : ∀ (f a : Nat) (v : Int), a ≤ (nu t n f a v).2 ∧ (a ≤ n → (nu t n f a v).2 ≤ n)
  | 0, a, v => ⟨Nat.le_refl a, fun h => h⟩
  | f + 1, a, v => by
    show a ≤ (if a < n ∧ 48 ≤ t a ∧ t a ≤ 57 then nu t n f (a + 1) (10 * v + t a - 48) else (v, a)).2 ∧ (a ≤ n → (if a < n ∧ 48 ≤ t a ∧ t a ≤ 57 then nu t n f (a + 1) (10 * v + t a - 48) else (v, a)).2 ≤ n)
    split
    · have := nu_q (t := t) (n := n) f (a + 1) (10 * v + t a - 48)
      exact ⟨by omega, fun h => this.2 (by omega)⟩
    · exact ⟨Nat.le_refl a, fun h => h⟩
/-- what a run of figures comes to -/
def rnp (t : Nat → Int) (n p b : Nat) (v most : Int) (H : fl_H) (r : Option Int) (H' : fl_H) : Prop :=
  ((nu t n (n - b) b v).2 = p → r = some (-1) ∧ H' = fl_up H 94 14 (p : Int)) ∧
  ((nu t n (n - b) b v).2 ≠ p → (nu t n (n - b) b v).1 ≤ most → r = some (nu t n (n - b) b v).1 ∧ H' = fl_up H 94 14 ((nu t n (n - b) b v).2 : Int)) ∧
  ((nu t n (n - b) b v).2 ≠ p → most < (nu t n (n - b) b v).1 → r = some (-1) ∧ H' = fl_up H 94 14 (p : Int))
theorem nu_0 {t : Nat → Int} {n b : Nat} {v : Int} (h : ¬ (b < n ∧ 48 ≤ t b ∧ t b ≤ 57)) : nu t n (n - b) b v = (v, b) := by
  cases n - b with
  | zero => rfl
  | succ f =>
    show (if b < n ∧ 48 ≤ t b ∧ t b ≤ 57 then nu t n f (b + 1) (10 * v + t b - 48) else (v, b)) = _
    rw [if_neg h]
theorem nu_1 {t : Nat → Int} {n b : Nat} {v : Int} (h : b < n ∧ 48 ≤ t b ∧ t b ≤ 57) : nu t n (n - b) b v = nu t n (n - (b + 1)) (b + 1) (10 * v + t b - 48) := by
  have e : n - b = (n - (b + 1)) + 1 := by omega
  rw [e]
  show (if b < n ∧ 48 ≤ t b ∧ t b ≤ 57 then nu t n (n - (b + 1)) (b + 1) (10 * v + t b - 48) else (v, b)) = _
  rw [if_pos h]
theorem rn_fig (n p : Nat) (most : Int) (hm0 : 0 ≤ most) (hm1 : most ≤ 999) : ∀ (N : Nat) (H : fl_H) (b : Nat) (v u : Int), rst H n b → p ≤ b → p ≤ n → 0 ≤ v → v ≤ 100000 → 0 ≤ u → (v = u ∨ (9999 < v ∧ 9999 < u)) → hd_GoodsBookModel_readNumber_94_12 (cm_pg X xs) N H most (p : Int) v (rnp (H 104) n p b u most H) := by
  intro N
  induction N using Nat.strongRecOn with
  | ind N ih =>
    intro H b v u hs hpb hpn hv0 hv1 hu0 hvu
    obtain ⟨h1, h2, h3, h4, h5⟩ := id hs
    have w1 := fl_wn h1 (by omega)
    have w2 := fl_wn h2 (by omega)
    have w3 : fl_w (p : Int) = (p : Int) := fl_wi (by omega) (by omega)
    have w4 : fl_w v = v := fl_wi (by omega) (by omega)
    have w5 : fl_w most = most := fl_wi (by omega) (by omega)
    have hstop : ¬ (b < n ∧ 48 ≤ H 104 b ∧ H 104 b ≤ 57) → ((((b : Int) = (p : Int) → rnp (H 104) n p b u most H (some (-1)) H) ∧ (¬ (b : Int) = (p : Int) → (v ≤ most → rnp (H 104) n p b u most H (some v) H) ∧ (¬ v ≤ most → ∀ H4, H4 = fl_up H 94 14 (p : Int) → rnp (H 104) n p b u most H (some (-1)) H4)))) := fun hn => by
      have e := nu_0 (v := u) hn
      unfold rnp
      rw [e]
      refine ⟨fun hp => ⟨fun _ => ⟨rfl, (fl_up_same _ _ _ (by rw [h2, hp])).symm⟩, fun h => absurd (Int.ofNat_inj.mp hp) h, fun h => absurd (Int.ofNat_inj.mp hp) h⟩, fun hp => ⟨fun hle => ⟨fun h => absurd (congrArg (Nat.cast : Nat → Int) h) hp, fun _ _ => ⟨?_, (fl_up_same _ _ _ h2).symm⟩, fun _ h => ?_⟩, fun hle H4 e4 => ⟨fun _ => ⟨rfl, e4⟩, fun _ h => ?_, fun _ _ => ⟨rfl, e4⟩⟩⟩⟩
      · rcases hvu with hvu | hvu
        · rw [hvu]
        · omega
      · rcases hvu with hvu | hvu <;> omega
      · rcases hvu with hvu | hvu <;> omega
    refine vh_GoodsBookModel_readNumber_94_12 ?_
    rw [w1, w2, w3, w4, w5, Int.toNat_natCast]
    by_cases hb : b < n
    · have hr := h5 b hb
      have w6 : fl_w (H 104 b) = H 104 b := fl_wi (by omega) (by omega)
      rw [w6]
      refine ⟨fun h => by omega, fun _ _ => ⟨fun hd => ?_, fun hd => hstop (fun h => hd h.2)⟩⟩
      have e1 : H 94 14 + 1 = ((b + 1 : Nat) : Int) := by omega
      rw [e1]
      have hn1 := nu_1 (v := u) ⟨hb, hd⟩
      have key : ∀ (m : Nat), m < N → ∀ v' : Int, 0 ≤ v' → v' ≤ 100000 → (v' = 10 * u + H 104 b - 48 ∨ (9999 < v' ∧ 9999 < 10 * u + H 104 b - 48)) → hd_GoodsBookModel_readNumber_94_12 (cm_pg X xs) m (fl_up H 94 14 ((b + 1 : Nat) : Int)) most (p : Int) v' (rnp (H 104) n p b u most H) := fun m hm v' g0 g1 g2 => by
        have := ih m hm _ (b + 1) v' (10 * u + H 104 b - 48) (rst_up hs (b := b + 1) (by omega)) (Nat.le_succ_of_le hpb) hpn g0 g1 (by omega) g2
        unfold rnp at this ⊢
        rw [fl_up_cell _ _ _ _ (by decide)] at this
        rw [hn1]
        simp only [fl_up_up] at this
        exact this
      refine ⟨fun hle _ H10 e m hm => ?_, fun hle H10 e m hm => ?_⟩
      · subst e
        rcases hvu with hvu | hvu
        · exact key m hm _ (by omega) (by omega) (Or.inl (by rw [hvu]))
        · omega
      · subst e
        exact key m hm _ (by omega) (by omega) (Or.inr ⟨by omega, by rcases hvu with hvu | hvu <;> omega⟩)
    · refine ⟨fun _ => hstop (fun h => hb h.1), fun h => by omega⟩
theorem rn_num {n a m : Nat} {H : fl_H} (hs : rst H n a) {most : Int} (hm0 : 0 ≤ most) (hm1 : most ≤ 999) : ck (cm_pg X xs) m cm_m223 [.index 94, fl_t most] H (rpo (-1) (num (H 104) n a most) H) := by
  refine ve_GoodsBookModel_readNumber_94 (fun k hk => ck_mono (rn_next hs) (fun r H1 h => ⟨_, h.1, ?_⟩))
  have hle := nb_le (t := H 104) hs.2.2.1
  have e0 : H1 94 14 = (nb (H 104) n a : Nat) := by rw [h.2, fl_up_at]
  have hs1 : rst H1 n (nb (H 104) n a) := by rw [h.2]; exact rst_up hs hle
  have e1 : H1 104 = H 104 := by rw [h.2]; exact fl_up_cell _ _ _ _ (by decide)
  rw [e0]
  have key := rn_fig (X := X) (xs := xs) n (nb (H 104) n a) most hm0 hm1 m H1 (nb (H 104) n a) 0 0 hs1 (Nat.le_refl _) hle (Int.le_refl 0) (by omega) (Int.le_refl 0) (Or.inl rfl)
  rw [e1] at key
  intro lv l0 l1 l2 l3
  refine vt_mono (Nat.le_refl _) (fun r' H' hr => ?_) (key lv l0 l1 l2 l3)
  obtain ⟨g1, g2, g3⟩ := hr
  have hup : ∀ v : Int, fl_up H1 94 14 v = fl_up H 94 14 v := fun v => by rw [h.2, fl_up_up]
  rw [hup] at g1 g2 g3
  unfold num
  by_cases hd : 48 ≤ bc (H 104) n a ∧ bc (H 104) n a ≤ 57
  · rw [if_pos hd]
    have hlt : nb (H 104) n a < n := by
      unfold bc at hd
      by_cases hq : nb (H 104) n a < n
      · exact hq
      · rw [if_neg hq] at hd; omega
    have hbc : bc (H 104) n a = H 104 (nb (H 104) n a) := if_pos hlt
    have hne : (nu (H 104) n (n - nb (H 104) n a) (nb (H 104) n a) 0).2 ≠ nb (H 104) n a := by
      rw [nu_1 ⟨hlt, by rw [← hbc]; exact hd⟩]
      have := (nu_q (t := H 104) (n := n) (n - (nb (H 104) n a + 1)) (nb (H 104) n a + 1) (10 * 0 + H 104 (nb (H 104) n a) - 48)).1
      omega
    by_cases hm : (nu (H 104) n (n - nb (H 104) n a) (nb (H 104) n a) 0).1 ≤ most
    · rw [if_pos hm]
      exact g2 hne hm
    · rw [if_neg hm]
      exact g3 hne (by omega)
  · rw [if_neg hd]
    refine g1 ?_
    rw [nu_0 (fun hh => ?_)]
    refine hd ?_
    have hbc : bc (H 104) n a = H 104 (nb (H 104) n a) := if_pos hh.1
    rw [hbc]
    exact hh.2
end
end
