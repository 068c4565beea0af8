noncomputable section
/-! L3: the reference's steps. -/
section
variable {X : Term} {xs : List Int32}
theorem rk_ltG {z : Nat → Int} {r R : Nat → Nat} {k : Nat} (k6 : k < 6) (h : ∀ j, j < k → r j = R j) (ne : r k ≠ R k) : rlt r R ↔ r k < R k := rlt_fst k6 h ne
theorem rc_ahead {m : Nat} {r R : Nat → Nat} {H : fl_H} (hw : wf (H 95)) (hr : rk (H 95) r) (hR : rk (H 95) R) (h : rr r H) (h1 : rb5 R H) : ck (cm_pg X xs) m cm_m205 [.index 94] H (fun r' H' => r' = some (fl_b (rlt r R)) ∧ H' = H) := by
  obtain ⟨z00, z3, z10, z6, -⟩ := id hw.1
  obtain ⟨n, hn⟩ : ∃ n : Nat, H 95 1 = (n : Int) := ⟨(H 95 1).toNat, by omega⟩
  have lp : ∀ (f k : Nat), k + f = n → (∀ j, j < k → r j = R j) → ∀ N, hd_GoodsBookModel_isAhead_94_2 (cm_pg X xs) N H (k : Int) (fun r' H' => r' = some (fl_b (rlt r R)) ∧ H' = H) := by
    intro f
    induction f with
    | zero =>
      intro k hk hj N
      have e : k = n := by omega
      subst e
      refine vh_GoodsBookModel_isAhead_94_2 ?_
      rw [hn]
      refine ⟨fun _ => ⟨?_, rfl⟩, fun hh => absurd (Int.le_refl _) hh⟩
      rw [fl_b0 (rlt_no hr hR (fun g hg => hj g (by omega)))]
    | succ f ih =>
      intro k hk hj N
      have ek : (k : Int) + 1 = ((k + 1 : Nat) : Int) := by omega
      have k6 : k < 6 := by omega
      have r1 := rk_7 hw hr k
      have r2 := rk_7 hw hR k
      refine vh_GoodsBookModel_isAhead_94_2 ?_
      rw [hn, fl_wi (x := (n : Int)) (by omega) (by omega), fl_wi (x := (k : Int)) (by omega) (by omega), Int.toNat_natCast, h k (by omega), h1 k (by omega), fl_wi (x := ((r k : Nat) : Int)) (by omega) (by omega), fl_wi (x := ((R k : Nat) : Int)) (by omega) (by omega), ek]
      refine ⟨fun hh => by omega, fun _ _ _ => ⟨fun q m hm => ih (k + 1) (by omega) (fun j hjk => ?_) m, fun q _ _ => ⟨fun q2 => ⟨?_, rfl⟩, fun q2 => ⟨?_, rfl⟩⟩⟩⟩
      · by_cases e : j = k
        · rw [e]; omega
        · exact hj j (by omega)
      · rw [fl_b0 (fun q3 => by have := (rlt_fst k6 hj (by omega)).mp q3; omega)]
      · rw [fl_b1 ((rlt_fst k6 hj (by omega)).mpr (by omega))]
  exact ve_GoodsBookModel_isAhead_94 (lp n 0 (by omega) (fun j hj => absurd hj (by omega)) m)
theorem rc_from {m : Nat} {H : fl_H} : ck (cm_pg X xs) m cm_m204 [.index 94] H (fun r' H' => r' = none ∧ oc (fun c => c = 100) H H' ∧ ∀ g, g < 6 → H' 100 g = H 102 g) := by
  have lp : ∀ (f k : Nat), k + f = 6 → ∀ (N : Nat) (F : fl_H), oc (fun c => c = 100) H F → (∀ g, g < k → F 100 g = H 102 g) → hd_GoodsBookModel_layFrom_94_2 (cm_pg X xs) N F (k : Int) (fun r' H' => r' = none ∧ oc (fun c => c = 100) H H' ∧ ∀ g, g < 6 → H' 100 g = H 102 g) := by
    intro f
    induction f with
    | zero =>
      intro k hk N F oF h
      have ek : k = 6 := by omega
      subst ek
      exact vh_GoodsBookModel_layFrom_94_2 ⟨fun _ => ⟨rfl, oF, h⟩, fun hh => absurd (by decide +kernel) hh⟩
    | succ f ih =>
      intro k hk N F oF h
      have ek : (k : Int) + 1 = ((k + 1 : Nat) : Int) := by omega
      refine vh_GoodsBookModel_layFrom_94_2 ?_
      rw [fl_wi (x := (k : Int)) (by omega) (by omega), Int.toNat_natCast, ek]
      refine ⟨fun hh => by omega, fun _ _ _ H3 e3 m1 hm1 => ih (k + 1) (by omega) m1 H3 (fun c hc => by rw [e3, fl_up_cell _ _ _ _ hc]; exact oF c hc) (fun g hg => ?_)⟩
      rw [e3]
      by_cases eg : g = k
      · rw [eg, fl_up_at, oF 102 (by decide)]
      · rw [fl_up_i _ _ _ _ eg]; exact h g (by omega)
  exact ve_GoodsBookModel_layFrom_94 (lp 6 0 rfl m H (oc_refl _ _) (fun g hg => absurd hg (by omega)))
/-- what the reference has found, of some rows, with a row to start from -/
def rsf (z : Nat → Int) (A : Int) (R : Nat → Nat) (F : Prop) (H : fl_H) : Prop := H 94 8 = A ∧ H 94 10 = fl_b F ∧ (F → ∀ g : Nat, (g : Int) < z 1 → H 101 g = ((R g : Nat) : Int))
def rcl (z : Nat → Int) (t : Nat → Nat) (S : (Nat → Nat) → Prop) (H : fl_H) : Prop := ∃ A' R' F', rsf z A' R' F' H ∧ (F' → rk z R') ∧ (-1000000000 ≤ A' ∧ A' ≤ 1000000000) ∧ bst z S (zwo z t) (fun _ => 0) False A' R' F'
theorem rcl_fr {z : Nat → Int} {t : Nat → Nat} {S : (Nat → Nat) → Prop} {H G : fl_H} (h : rcl z t S H) (e8 : G 94 8 = H 94 8) (e10 : G 94 10 = H 94 10) (e1 : G 101 = H 101) : rcl z t S G := by
  obtain ⟨A', R', F', ⟨a1, a2, a3⟩, b, c, d⟩ := h
  exact ⟨A', R', F', ⟨e8.trans a1, e10.trans a2, fun f g hg => by rw [e1]; exact a3 f g hg⟩, b, c, d⟩
theorem rcl_eq {z : Nat → Int} {t : Nat → Nat} {S S' : (Nat → Nat) → Prop} {H : fl_H} (e : ∀ s, S s ↔ S' s) (h : rcl z t S H) : rcl z t S' H := by
  obtain ⟨A', R', F', a, b, c, d⟩ := h
  exact ⟨A', R', F', a, b, c, bst_congr e d⟩
/-- trying leaves the plan -/
def rto (H G : fl_H) : Prop := rso H G ∧ G 100 = H 100 ∧ G 102 = H 102
theorem rc_try {m : Nat} {z : Nat → Int} {s t : Nat → Nat} {S : (Nat → Nat) → Prop} {H : fl_H} (ez : H 95 = z) (hw : wf z) (hs : rk z s) (h : rr s H) (hk : rkn z H) (hc : rcl z t S H) : ck (cm_pg X xs) m cm_m206 [.index 94] H (fun r' H' => r' = none ∧ rto H H' ∧ rkn z H' ∧ rcl z t (fun x => S x ∨ x = s) H') := by
  subst ez
  obtain ⟨A, R, F, ⟨a1, a2, a3⟩, hR, bA, hB⟩ := hc
  have wb := zwo_bd hw hs.1
  have keepB : ∀ G, rto H G → rkn (H 95) G → G 94 8 = H 94 8 → G 94 10 = H 94 10 → G 101 = H 101 → (zso (H 95) s → zwo (H 95) s ≤ A ∧ (zwo (H 95) s = A → F → s = R ∨ rlt R s)) → (none : Option Int) = none ∧ rto H G ∧ rkn (H 95) G ∧ rcl (H 95) t (fun x => S x ∨ x = s) G := fun G oG kG e8 e10 e1 q =>
    ⟨rfl, oG, kG, A, R, F, ⟨e8.trans a1, e10.trans a2, fun f g hg => by rw [e1]; exact a3 f g hg⟩, hR, bA, bst_add hB (fun f => f) (Or.inl ⟨rfl, rfl, Iff.rfl, q⟩) (fun x _ q1 q2 => rlt_tr q1 q2)⟩
  refine ve_GoodsBookModel_tryRow_94 (fun m1 hm1 => ck_mono (rc_sound (X := X) (xs := xs) hw hs h hk) (fun r1 H1 h1 => ⟨_, h1.1, ?_⟩))
  obtain ⟨-, o1, k1⟩ := h1
  have e95 := rfo_95 o1
  have t1 : rto H H1 := ⟨rso_fo o1, rfo_c o1 (by decide) (by decide), rfo_c o1 (by decide) (by decide)⟩
  have e8 : H1 94 8 = H 94 8 := (o1 94 (by decide) (by decide) (by decide) (by decide)).2 rfl 8 (by decide)
  have e10 : H1 94 10 = H 94 10 := (o1 94 (by decide) (by decide) (by decide) (by decide)).2 rfl 10 (by decide)
  have e101 : H1 101 = H 101 := rfo_c o1 (by decide) (by decide)
  rw [fb_0]
  refine ⟨fun q => keepB H1 t1 k1 e8 e10 e101 (fun so => absurd so q), fun q m2 hm2 => ck_mono (rc_worth (X := X) (xs := xs) (r := s) (by rw [e95]; exact hw) (by rw [e95]; exact hs) (rr_fo o1 h)) (fun r5 H5 h5 => ⟨_, h5.1, ?_⟩)⟩
  have so := Classical.not_not.mp q
  have e5 := h5.2
  subst e5
  have keepN : A ≤ zwo (H 95) s → (zwo (H 95) s = A → F ∧ rlt s R) → ∀ m', ck (cm_pg X xs) m' cm_m195 [.index 94, fl_t (zwo (H 95) s)] H5 (fun r H9 => r = none ∧ (∀ H11, H11 = fl_up H9 94 10 1 → ((none : Option Int) = none ∧ rto H H11 ∧ rkn (H 95) H11 ∧ rcl (H 95) t (fun x => S x ∨ x = s) H11))) := fun q1 q2 m' =>
    ck_mono (rc_keep (X := X) (xs := xs)) (fun r9 H9 h9 => ⟨h9.1, fun H11 e11 => by
      obtain ⟨-, c9, i9, v9, b9⟩ := h9
      have c11 : ∀ c, c ≠ 94 → H11 c = H9 c := fun c hc => by rw [e11]; exact fl_up_cell _ _ _ _ hc
      have tt : rto H H11 := by
        refine ⟨rso_trans t1.1 ⟨fun c x1 x2 => by rw [c11 c x1]; exact c9 c x1 (by omega), fun i x1 x2 x3 => by rw [e11, fl_up_i _ _ _ _ x3]; exact i9 i x2⟩, ?_, ?_⟩
        · rw [c11 100 (by decide), c9 100 (by decide) (by decide)]; exact t1.2.1
        · rw [c11 102 (by decide), c9 102 (by decide) (by decide)]; exact t1.2.2
      refine ⟨rfl, tt, rkn_c k1 (by rw [c11 96 (by decide)]; exact c9 96 (by decide) (by decide)), zwo (H 95) s, s, True, ⟨by rw [e11, fl_up_i _ _ _ _ (by decide)]; exact v9, by rw [e11, fl_up_at, fl_b1 trivial], fun _ g hg => ?_⟩, fun _ => hs, by omega, bst_add hB (fun f => f) (Or.inr ⟨trivial, rfl, so, rfl, q1, q2⟩) (fun x _ q1 q2 => rlt_tr q1 q2)⟩
      have z6 := hw.1.2.2.2.1
      rw [c11 101 (by decide), b9 g (by omega), t1.2.1]
      exact h g hg⟩)
  rw [e95, e8, a1, e10, a2, fb_0, fl_wb (x := A) (by omega) (by omega), fl_wb (x := zwo (H 95) s) (by omega) (by omega)]
  refine ⟨fun q2 m3 hm3 => keepN (by omega) (fun e => by omega) m3, fun q2 => ⟨fun q3 => ⟨fun q4 => keepB H5 t1 k1 e8 e10 e101 (fun _ => ⟨by omega, fun _ f => absurd f q4⟩), fun q4 m4 hm4 => ?_⟩, fun q3 => keepB H5 t1 k1 e8 e10 e101 (fun _ => ⟨by omega, fun e => absurd e q3⟩)⟩⟩
  have f1 : F := Classical.not_not.mp q4
  refine ck_mono (rc_ahead (X := X) (xs := xs) (r := s) (R := R) (by rw [e95]; exact hw) (by rw [e95]; exact hs) (by rw [e95]; exact hR f1) (rr_fo o1 h) (fun g hg => by rw [e101]; exact a3 f1 g (by rw [← e95]; exact hg))) (fun r15 H15 h15 => ⟨_, h15.1, ?_⟩)
  have e15 := h15.2
  subst e15
  rw [fb_0]
  refine ⟨fun q5 => keepB H15 t1 k1 e8 e10 e101 (fun _ => ⟨by omega, fun _ _ => ?_⟩), fun q5 m5 hm5 => keepN (by omega) (fun _ => ⟨f1, Classical.not_not.mp q5⟩) m5⟩
  rcases rlt_tri s R with c | c | c
  · exact Or.inl (rk_eq hs (hR f1) c)
  · exact absurd c q5
  · exact Or.inr c
end
end
