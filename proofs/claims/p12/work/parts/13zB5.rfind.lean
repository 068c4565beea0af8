noncomputable section
/-! L3: the reference finds the best plan. -/
section
variable {X : Term} {xs : List Int32}
/-- what searching leaves -/
def rso (H G : fl_H) : Prop := (∀ c, c ≠ 94 → ¬ (96 ≤ c ∧ c ≤ 102) → G c = H c) ∧ ∀ i, i ≠ 4 → i ≠ 8 → i ≠ 10 → G 94 i = H 94 i
theorem rso_refl (H : fl_H) : rso H H := ⟨fun _ _ _ => rfl, fun _ _ _ _ => rfl⟩
theorem rso_trans {H G F : fl_H} (a : rso H G) (b : rso G F) : rso H F := ⟨fun c h1 h2 => (b.1 c h1 h2).trans (a.1 c h1 h2), fun i h1 h2 h3 => (b.2 i h1 h2 h3).trans (a.2 i h1 h2 h3)⟩
theorem rso_fo {H G : fl_H} (h : rfo H G) : rso H G := ⟨fun c h1 h2 => (h c (by omega) (by omega) (by omega) (by omega)).1 h1, fun i h1 _ _ => (h 94 (by decide) (by decide) (by decide) (by decide)).2 rfl i h1⟩
theorem rso_oc {P : Nat → Prop} {H G : fl_H} (h : oc P H G) (hp : ∀ c, P c → 100 ≤ c ∧ c ≤ 102) : rso H G := ⟨fun c _ h2 => h c (fun q => h2 ⟨by have := hp c q; omega, (hp c q).2⟩), fun i _ _ _ => by rw [h 94 (fun q => by have := hp 94 q; omega)]⟩
theorem rso_95 {H G : fl_H} (h : rso H G) : G 95 = H 95 := h.1 95 (by decide) (by decide)
/-- the best row that is kept -/
def rb5 (R : Nat → Nat) (H : fl_H) : Prop := ∀ g : Nat, (g : Int) < H 95 1 → H 101 g = ((R g : Nat) : Int)
theorem rkn_c {z : Nat → Int} {H G : fl_H} (h : rkn z H) (k : G 96 = H 96) : rkn z G := fun code h7 hc => by rw [k]; exact h code h7 hc
theorem rc_keep {m : Nat} {H : fl_H} {e : Int} : ck (cm_pg X xs) m cm_m195 [.index 94, fl_t e] H (fun r' H' => r' = none ∧ (∀ c, c ≠ 94 → c ≠ 101 → H' c = H c) ∧ (∀ i, i ≠ 8 → H' 94 i = H 94 i) ∧ H' 94 8 = e ∧ ∀ g, g < 6 → H' 101 g = H 100 g) := by
  refine ve_GoodsBookModel_keepBest_94 (fun H1 e1 => ?_)
  have lp : ∀ (f k : Nat), k + f = 6 → ∀ (N : Nat) (F : fl_H), oc (fun c => c = 101) H1 F → (∀ g, g < k → F 101 g = H 100 g) → hd_GoodsBookModel_keepBest_94_7 (cm_pg X xs) N F (k : Int) (fun r' H' => r' = none ∧ (∀ c, c ≠ 94 → c ≠ 101 → H' c = H c) ∧ (∀ i, i ≠ 8 → H' 94 i = H 94 i) ∧ H' 94 8 = e ∧ ∀ g, g < 6 → H' 101 g = H 100 g) := by
    intro f
    induction f with
    | zero =>
      intro k hk N F oF h
      have ek : k = 6 := by omega
      subst ek
      refine vh_GoodsBookModel_keepBest_94_7 ?_
      refine ⟨fun _ => ⟨rfl, fun c h1 h2 => ?_, fun i hi => ?_, ?_, h⟩, fun hh => absurd (by decide +kernel) hh⟩
      · rw [oF c h2, e1, fl_up_cell _ _ _ _ h1]
      · rw [oF 94 (by decide), e1, fl_up_i _ _ _ _ hi]
      · rw [oF 94 (by decide), e1, fl_up_at]
    | succ f ih =>
      intro k hk N F oF h
      have ek : (k : Int) + 1 = ((k + 1 : Nat) : Int) := by omega
      refine vh_GoodsBookModel_keepBest_94_7 ?_
      rw [fl_wi (x := (k : Int)) (by omega) (by omega), Int.toNat_natCast, ek]
      refine ⟨fun hh => by omega, fun _ _ _ H3 e3 m1 hm1 => ih (k + 1) (by omega) m1 H3 (fun c hc => by rw [e3, fl_up_cell _ _ _ _ hc]; exact oF c hc) (fun g hg => ?_)⟩
      rw [e3]
      by_cases eg : g = k
      · rw [eg, fl_up_at, oF 100 (by decide), e1, fl_up_c _ _ _ _ (by decide)]
      · rw [fl_up_i _ _ _ _ eg]; exact h g (by omega)
  exact lp 6 0 rfl m H1 (oc_refl _ _) (fun g hg => absurd hg (by omega))
theorem rso_keep {H G : fl_H} (h1 : ∀ c, c ≠ 94 → c ≠ 101 → G c = H c) (h2 : ∀ i, i ≠ 8 → G 94 i = H 94 i) : rso H G := ⟨fun c a b => h1 c a (by omega), fun i _ a _ => h2 i a⟩
theorem rc_find {m : Nat} {H : fl_H} (hw : wf (H 95)) (hk : rkn (H 95) H) : ck (cm_pg X xs) m cm_m196 [.index 94] H (fun r' H' => r' = none ∧ rso H H' ∧ rkn (H 95) H' ∧ ∃ R, zbs (H 95) (rk (H 95)) (H' 94 8) R ∧ rb5 R H') := by
  obtain ⟨z00, z3, z10, z6, z20, z12⟩ := id hw.1
  obtain ⟨b, hb⟩ : ∃ b : Nat, b = 2 * (H 95 0).toNat + 1 := ⟨_, rfl⟩
  obtain ⟨G, hG⟩ : ∃ G : Nat, G = (H 95 1).toNat := ⟨_, rfl⟩
  have lim := pow_lim b (by omega) G (by omega)
  have rkw : ∀ n, rk (H 95) (rwn b G n) := fun n => by rw [hb, hG]; exact rwn_rk hw n
  have lp : ∀ (f n : Nat), n + f = b ^ G → ∀ (N : Nat) (K : fl_H) (A : Int) (R : Nat → Nat) (F : Prop) (a : Int), rso H K → rkn (H 95) K → ((a = 0 ∧ ¬ F) ∨ (a = 1 ∧ F)) → (F → K 94 8 = A ∧ rb5 R K) → bst (H 95) (fun s => ∃ j, j < n ∧ s = rwn b G j) (-3000000) (fun _ => 0) False A R F → hd_GoodsBookModel_findBest_94_9 (cm_pg X xs) N K a ((b ^ G : Nat) : Int) (n : Int) (fun r' H' => r' = none ∧ rso H H' ∧ rkn (H 95) H' ∧ ∃ R, zbs (H 95) (rk (H 95)) (H' 94 8) R ∧ rb5 R H') := by
    intro f
    induction f with
    | zero =>
      intro n hn N K A R F a oK kK ha hF hB
      have en : n = b ^ G := by omega
      refine vh_GoodsBookModel_findBest_94_9 ?_
      rw [fl_wi (x := ((b ^ G : Nat) : Int)) (by omega) (by omega), fl_wi (x := (n : Int)) (by omega) (by omega)]
      refine ⟨fun _ => ⟨rfl, oK, kK, ?_⟩, fun hh => absurd (by omega) hh⟩
      have all : ∀ s, (∃ j, j < n ∧ s = rwn b G j) ↔ rk (H 95) s := fun s => by
        constructor
        · rintro ⟨j, -, e⟩; rw [e]; exact rkw j
        · intro q
          obtain ⟨j, j1, j2⟩ := rwn_all hw q
          rw [← hb, ← hG] at j1 j2
          exact ⟨j, by omega, j2.symm⟩
      rcases zbs_bst (bst_congr all hB) with ⟨f1, q⟩ | ⟨-, q⟩
      · exact ⟨R, by rw [(hF f1).1]; exact q, (hF f1).2⟩
      · have := q (fun _ => 0) (rk_0 z00) (zso_0 _)
        have := (zwo_bd hw (rk_0 z00).1).1
        omega
    | succ f ih =>
      intro n hn N K A R F a oK kK ha hF hB
      have ek : (n : Int) + 1 = ((n + 1 : Nat) : Int) := by omega
      have e95 := rso_95 oK
      refine vh_GoodsBookModel_findBest_94_9 ?_
      rw [fl_wi (x := ((b ^ G : Nat) : Int)) (by omega) (by omega), fl_wi (x := (n : Int)) (by omega) (by omega), ek]
      refine ⟨fun hh => by omega, fun _ m1 hm1 => ck_mono (rc_layRow (X := X) (xs := xs) (n := n) (by rw [e95]; exact hw) (by omega) rfl) (fun r2 H2 h2 => ⟨h2.1, fun m2 hm2 => ?_⟩)⟩
      obtain ⟨-, o2, r2'⟩ := h2
      rw [e95, ← hb, ← hG] at r2'
      have e2 : H2 95 = H 95 := (o2 95 (by decide)).trans e95
      have s2 : rso H H2 := rso_trans oK (rso_oc o2 (fun c hc => by omega))
      have k2 : rkn (H 95) H2 := rkn_c kK (o2 96 (by decide))
      have wb := zwo_bd hw (rkw n).1
      refine ck_mono (rc_sound (X := X) (xs := xs) (r := rwn b G n) (by rw [e2]; exact hw) (by rw [e2]; exact rkw n) r2' (by rw [e2]; exact k2)) (fun r4 H4 h4 => ⟨_, h4.1, ?_⟩)
      obtain ⟨-, o4, k4⟩ := h4
      rw [e2] at k4
      have e4 : H4 95 = H 95 := (rfo_95 o4).trans e2
      have s4 : rso H H4 := rso_trans s2 (rso_fo o4)
      have v8 : H4 94 8 = K 94 8 := by rw [(o4 94 (by decide) (by decide) (by decide) (by decide)).2 rfl 8 (by decide), o2 94 (by decide)]
      have v101 : H4 101 = K 101 := (rfo_c o4 (by decide) (by decide)).trans (o2 101 (by decide))
      have hF4 : F → H4 94 8 = A ∧ rb5 R H4 := fun f1 => ⟨by rw [v8]; exact (hF f1).1, fun g hg => by rw [v101]; exact (hF f1).2 g (by rw [e95]; rw [e4] at hg; exact hg)⟩
      have nxt : ∀ s, ((∃ j, j < n ∧ s = rwn b G j) ∨ s = rwn b G n) ↔ ∃ j, j < n + 1 ∧ s = rwn b G j := fun s => by
        constructor
        · rintro (⟨j, j1, j2⟩ | e)
          · exact ⟨j, by omega, j2⟩
          · exact ⟨n, by omega, e⟩
        · rintro ⟨j, j1, j2⟩
          by_cases e : j = n
          · exact Or.inr (by rw [← e]; exact j2)
          · exact Or.inl ⟨j, by omega, j2⟩
      have ord : ∀ s t, (∃ j, j < n ∧ s = rwn b G j) → t = rwn b G n → rlt s t := fun s t ⟨j, j1, j2⟩ e => by
        rw [j2, e]; exact rwn_lt (by omega) (by omega) j1 (by omega)
      -- it is passed
      have pass : (zso (H 95) (rwn b G n) → zwo (H 95) (rwn b G n) ≤ A) → ∀ G', rso H G' → rkn (H 95) G' → (F → G' 94 8 = A ∧ rb5 R G') → ∀ m, hd_GoodsBookModel_findBest_94_9 (cm_pg X xs) m G' a ((b ^ G : Nat) : Int) ((n + 1 : Nat) : Int) (fun r' H' => r' = none ∧ rso H H' ∧ rkn (H 95) H' ∧ ∃ R, zbs (H 95) (rk (H 95)) (H' 94 8) R ∧ rb5 R H') := fun q G' oG' kG' hG' m =>
        ih (n + 1) (by omega) m G' A R F a oG' kG' ha hG' (bst_congr nxt (bst_seq hB (bst_none (S := fun s => s = rwn b G n) (fun s hs so => by rw [hs] at so ⊢; exact q so)) ord))
      have take : zso (H 95) (rwn b G n) → A < zwo (H 95) (rwn b G n) → ∀ G', rso H G' → rkn (H 95) G' → G' 94 8 = zwo (H 95) (rwn b G n) → rb5 (rwn b G n) G' → ∀ m, hd_GoodsBookModel_findBest_94_9 (cm_pg X xs) m G' 1 ((b ^ G : Nat) : Int) ((n + 1 : Nat) : Int) (fun r' H' => r' = none ∧ rso H H' ∧ rkn (H 95) H' ∧ ∃ R, zbs (H 95) (rk (H 95)) (H' 94 8) R ∧ rb5 R H') := fun so q G' oG' kG' v8' vb m =>
        ih (n + 1) (by omega) m G' (zwo (H 95) (rwn b G n)) (rwn b G n) True 1 oG' kG' (Or.inr ⟨rfl, trivial⟩) (fun _ => ⟨v8', vb⟩) (bst_congr nxt (bst_seq hB (bst_one (S := fun s => s = rwn b G n) (fun s => Iff.rfl) so q trivial) ord))
      rw [fb_0, e2]
      refine ⟨fun q m3 hm3 => pass (fun so => absurd so q) H4 s4 k4 hF4 m3, fun q m3 hm3 => ?_⟩
      have so := Classical.not_not.mp q
      have r4' : rr (rwn b G n) H4 := fun g hg => by
        rw [rfo_c o4 (by decide) (by decide)]
        exact r2' g (by rw [e2]; rw [e4] at hg; exact hg)
      refine ck_mono (rc_worth (X := X) (xs := xs) (r := rwn b G n) (by rw [e4]; exact hw) (by rw [e4]; exact rkw n) r4') (fun r9 H9 h9 => ⟨_, h9.1, ?_⟩)
      have e9 := h9.2
      subst e9
      rw [e4]
      have kept : ∀ m3, A < zwo (H 95) (rwn b G n) → ck (cm_pg X xs) m3 cm_m195 [.index 94, fl_t (zwo (H 95) (rwn b G n))] H9 (fun r H14 => r = none ∧ (∀ m, m < N → hd_GoodsBookModel_findBest_94_9 (cm_pg X xs) m H14 1 ((b ^ G : Nat) : Int) ((n + 1 : Nat) : Int) (fun r' H' => r' = none ∧ rso H H' ∧ rkn (H 95) H' ∧ ∃ R, zbs (H 95) (rk (H 95)) (H' 94 8) R ∧ rb5 R H'))) := fun m3 q => ck_mono (rc_keep (X := X) (xs := xs)) (fun r14 H14 h14 => ⟨h14.1, fun m4 hm4 => by
        obtain ⟨-, c14, i14, v14, b14⟩ := h14
        exact take so q H14 (rso_trans s4 (rso_keep c14 i14)) (rkn_c k4 (c14 96 (by decide) (by decide))) v14 (fun g hg => by
          rw [c14 95 (by decide) (by decide), e4] at hg
          rw [b14 g (by omega)]
          exact r4' g (by rw [e4]; exact hg)) m4⟩)
      rcases ha with ⟨a0, f0⟩ | ⟨a1, f1⟩
      · subst a0
        have low : A < zwo (H 95) (rwn b G n) := by
          rcases hB with ⟨h1, -⟩ | ⟨h1, -⟩
          · omega
          · exact absurd h1 f0
        exact ⟨fun _ m4 hm4 => kept m4 low, fun q => absurd w_0 q⟩
      · subst a1
        have hA := (hF4 f1).1
        have bA : -3000000 ≤ A ∧ A ≤ 3000000 := by
          rcases hB with ⟨h1, -⟩ | ⟨-, ⟨j, -, j2⟩, -, h4, -⟩
          · omega
          · have := zwo_bd hw (rkw j).1
            rw [← j2, ← h4] at this; omega
        rw [hA, fl_wb (x := A) (by omega) (by omega), fl_wb (x := zwo (H 95) (rwn b G n)) (by omega) (by omega)]
        exact ⟨fun q => absurd q (by decide +kernel), fun _ => ⟨fun q m4 hm4 => pass (fun _ => q) H9 s4 k4 hF4 m4, fun q m4 hm4 => kept m4 (by omega)⟩⟩
  refine ve_GoodsBookModel_findBest_94 (fun m1 hm1 => ck_mono (rc_rows (X := X) (xs := xs) hw) (fun r1 H1 h1 => ⟨_, h1.1, ?_⟩))
  have e1 := h1.2
  subst e1
  rw [← hb, ← hG]
  exact lp (b ^ G) 0 (by omega) m H1 (-3000000) (fun _ => 0) False 0 (rso_refl _) hk (Or.inl ⟨rfl, fun q => q⟩) (fun q => q.elim) (bst_none (fun s ⟨j, j1, _⟩ _ => absurd j1 (by omega)))
end
end
