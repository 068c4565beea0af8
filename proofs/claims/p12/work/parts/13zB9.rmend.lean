noncomputable section
/-! L3: the reference mends a book. -/
section
variable {X : Term} {xs : List Int32}
/-- how many are unlike the plan, one good left out -/
def zul (z : Nat → Int) (g : Nat) (r : Nat → Nat) : Int := ulk z (fun k => z (62 + k)) (g : Int) 0 r
theorem rc_unlike {m g : Nat} {r : Nat → Nat} {H : fl_H} {e : Int} (hw : wf (H 95)) (hch : chz (H 95)) (hr : rk (H 95) r) (h : rr r H) (hg : g < 6) (he : e = (g : Int)) : ck (cm_pg X xs) m cm_m214 [.index 94, fl_t e] H (fun r' H' => r' = some (zul (H 95) g r) ∧ H' = H) := by
  subst he
  obtain ⟨z00, z3, z10, z6, z20, z12⟩ := id hw.1
  obtain ⟨n, hn⟩ : ∃ n : Nat, H 95 1 = (n : Int) := ⟨(H 95 1).toNat, by omega⟩
  have lp : ∀ (f k : Nat), k + f = n → ∀ N, hd_GoodsBookModel_unlike_94_4 (cm_pg X xs) N H (g : Int) (psm (fun k => if 0 ≤ k ∧ (k : Int) ≠ (g : Int) ∧ ((r k : Nat) : Int) ≠ H 95 (62 + k) then 1 else 0) k) (k : Int) (fun r' H' => r' = some (zul (H 95) g r) ∧ H' = H) := by
    intro f
    induction f with
    | zero =>
      intro k hk N
      have e : k = n := by omega
      subst e
      refine vh_GoodsBookModel_unlike_94_4 ?_
      rw [hn]
      refine ⟨fun _ => ⟨?_, rfl⟩, fun hh => absurd (Int.le_refl _) hh⟩
      unfold zul ulk
      rw [hn, Int.toNat_natCast]
    | succ f ih =>
      intro k hk N
      have ek : (k : Int) + 1 = ((k + 1 : Nat) : Int) := by omega
      have r7 := rk_7 hw hr k
      have i62 : (62 + (k : Int)).toNat = 62 + k := by omega
      have cb := hch k (by omega)
      refine vh_GoodsBookModel_unlike_94_4 ?_
      rw [hn, fl_wi (x := (n : Int)) (by omega) (by omega), fl_wi (x := (k : Int)) (by omega) (by omega), fl_wi (x := (g : Int)) (by omega) (by omega), fl_wi (x := 62 + (k : Int)) (by omega) (by omega), i62, Int.toNat_natCast, h k (by omega), fl_wi (x := ((r k : Nat) : Int)) (by omega) (by omega), fl_wi (x := H 95 (62 + k)) (by omega) (by omega), ek]
      have st : psm (fun k => if 0 ≤ k ∧ (k : Int) ≠ (g : Int) ∧ ((r k : Nat) : Int) ≠ H 95 (62 + k) then 1 else 0) (k + 1) = psm (fun k => if 0 ≤ k ∧ (k : Int) ≠ (g : Int) ∧ ((r k : Nat) : Int) ≠ H 95 (62 + k) then 1 else 0) k + (if 0 ≤ k ∧ (k : Int) ≠ (g : Int) ∧ ((r k : Nat) : Int) ≠ H 95 (62 + k) then 1 else 0) := rfl
      refine ⟨fun hh => by omega, fun _ => ⟨fun q m1 _ => ?_, fun q _ _ => ⟨fun q2 m1 _ => ?_, fun q2 m1 _ => ?_⟩⟩⟩
      · rw [if_neg (fun hh => hh.2.1 q)] at st
        rw [← st]; exact ih (k + 1) (by omega) m1
      · rw [if_neg (fun hh => hh.2.2 q2)] at st
        rw [← st]; exact ih (k + 1) (by omega) m1
      · rw [if_pos ⟨Nat.zero_le _, q, q2⟩] at st
        rw [← st]; exact ih (k + 1) (by omega) m1
  exact ve_GoodsBookModel_unlike_94 (lp n 0 (by omega) m)
theorem zul_bd {z : Nat → Int} (hw : wf z) (g : Nat) (r : Nat → Nat) : 0 ≤ zul z g r ∧ zul z g r ≤ 6 := by
  have := ulk_nn z (fun k => z (62 + k)) (g : Int) 0 r
  have z6 := hw.1.2.2.2.1
  have z10 := hw.1.2.2.1
  unfold zul
  omega
/-- what the reference has found so far: the least unlike, the best of those -/
def mst (z : Nat → Int) (g : Nat) (S : (Nat → Nat) → Prop) (c : Int) (A : Int) (R : Nat → Nat) (F : Prop) : Prop :=
  (∀ s, S s → s g = 0 → zso z s → c ≤ zul z g s) ∧ bst z (fun s => S s ∧ s g = 0 ∧ zul z g s = c) (-3000000) (fun _ => 0) False A R F ∧ ((c = 7 ∧ ¬ F) ∨ (c ≤ 6 ∧ F))
def rms (z : Nat → Int) (g : Nat) (a : Int) (H : fl_H) (r' : Option Int) (H' : fl_H) : Prop := rso H H' ∧ rkn z H' ∧ ∃ c A R, zme z (fun k => z (62 + k)) (g : Int) c A R ∧ r' = some (if a = -2 then ((c : Nat) : Int) else if a = -1 then A else ((R a.toNat : Nat) : Int))
theorem rc_mend {m g : Nat} {H : fl_H} {a : Int} (hw : wf (H 95)) (hch : chz (H 95)) (hk : rkn (H 95) H) (hg : (g : Int) < H 95 1) (ha : fl_w a = a) (ha2 : -2 ≤ a ∧ a ≤ H 95 1 - 1) : ∀ N, hd_GoodsBookModel_mended_94_43 (cm_pg X xs) N H (g : Int) a 7 (((2 * (H 95 0).toNat + 1) ^ (H 95 1).toNat : Nat) : Int) 0 (rms (H 95) g a H) := by
  obtain ⟨z00, z3, z10, z6, z20, z12⟩ := id hw.1
  have g6 : g < 6 := by omega
  have w2 : fl_w (-2) = -2 := rfl
  have w1 : fl_w (-1) = -1 := rfl
  obtain ⟨b, hb⟩ : ∃ b : Nat, b = 2 * (H 95 0).toNat + 1 := ⟨_, rfl⟩
  obtain ⟨G, hG⟩ : ∃ G : Nat, G = (H 95 1).toNat := ⟨_, rfl⟩
  have lim := pow_lim b (by omega) G (by omega)
  have rkw : ∀ n, rk (H 95) (rwn b G n) := fun n => by rw [hb, hG]; exact rwn_rk hw n
  have zer := zul_bd hw g (fun _ => 0)
  have key : ∀ (f n : Nat), n + f = b ^ G → ∀ (N : Nat) (K : fl_H) (c A : Int) (R : Nat → Nat) (F : Prop), rso H K → rkn (H 95) K → (F → K 94 8 = A ∧ rb5 R K) → mst (H 95) g (fun s => ∃ j, j < n ∧ s = rwn b G j) c A R F → hd_GoodsBookModel_mended_94_43 (cm_pg X xs) N K (g : Int) a c ((b ^ G : Nat) : Int) (n : Int) (rms (H 95) g a H) := by
    intro f
    induction f with
    | zero =>
      intro n hn N K c A R F oK kK hF hM
      have en : n = b ^ G := by omega
      obtain ⟨M1, M2, M3⟩ := hM
      have all : ∀ s, (∃ j, j < n ∧ s = rwn b G j) ↔ rk (H 95) s := fun s => by
        constructor
        · rintro ⟨j, -, e⟩; rw [e]; exact rkw j
        · intro q
          obtain ⟨j, j1, j2⟩ := rwn_all hw q
          rw [← hb, ← hG] at j1 j2
          exact ⟨j, by omega, j2.symm⟩
      have f1 : F := by
        rcases M3 with ⟨c7, f0⟩ | ⟨-, f1⟩
        · have := M1 (fun _ => 0) ((all _).mpr (rk_0 z00)) rfl (zso_0 _)
          omega
        · exact f1
      obtain ⟨v8, v1⟩ := hF f1
      have c0 : 0 ≤ c ∧ c ≤ 6 := by
        rcases M3 with ⟨c7, f0⟩ | ⟨c6, -⟩
        · exact absurd f1 f0
        · rcases zbs_bst M2 with ⟨-, q⟩ | ⟨q, -⟩
          · have := zul_bd hw g R
            have := q.1.2.2
            omega
          · exact absurd f1 q
      obtain ⟨cn, hcn⟩ : ∃ cn : Nat, c = (cn : Int) := ⟨c.toNat, by omega⟩
      have alwE : ∀ (k : Nat) s, alw (H 95) (fun k => H 95 (62 + k)) (g : Int) 0 ((k : Nat) : Int) (fun _ => 0) s ↔ rk (H 95) s ∧ s g = 0 ∧ zul (H 95) g s ≤ (k : Int) := fun k s => by
        constructor
        · rintro ⟨q1, -, q3, q4⟩; exact ⟨q1, q3 g (Nat.zero_le _) rfl, q4⟩
        · rintro ⟨q1, q3, q4⟩
          exact ⟨q1, fun j hj => absurd hj (by omega), fun j _ hj => by rw [show j = g by omega]; exact q3, q4⟩
      have zm : zme (H 95) (fun k => H 95 (62 + k)) (g : Int) cn A R := by
        refine ⟨fun k hk s hs so => ?_, ?_⟩
        · have q := (alwE k s).mp hs
          have := M1 s ((all s).mpr q.1) q.2.1 so
          omega
        · rcases zbs_bst M2 with ⟨-, q1, q2, q3, q4⟩ | ⟨q, -⟩
          · refine ⟨(alwE cn R).mpr ⟨(all R).mp q1.1, q1.2.1, by rw [q1.2.2, hcn]; exact Int.le_refl _⟩, q2, q3, fun s hs so => ?_⟩
            have q5 := (alwE cn s).mp hs
            have := M1 s ((all s).mpr q5.1) q5.2.1 so
            exact q4 s ⟨(all s).mpr q5.1, q5.2.1, by omega⟩ so
          · exact absurd f1 q
      have res : ∀ v, v = (if a = -2 then ((cn : Nat) : Int) else if a = -1 then A else ((R a.toNat : Nat) : Int)) → rms (H 95) g a H (some v) K := fun v hv => ⟨oK, kK, cn, A, R, zm, by rw [hv]⟩
      refine vh_GoodsBookModel_mended_94_43 ?_
      rw [fl_wi (x := ((b ^ G : Nat) : Int)) (by omega) (by omega), fl_wi (x := (n : Int)) (by omega) (by omega), ha]
      refine ⟨fun _ => ⟨fun q => res _ (by rw [if_pos q]; exact hcn), fun q => ⟨fun q4 => res _ (by rw [if_neg q, if_pos q4]; exact v8), fun q4 _ => res _ ?_⟩⟩, fun hh => absurd (by omega) hh⟩
      rw [if_neg q, if_neg q4]
      exact v1 a.toNat (by rw [rso_95 oK]; omega)
    | succ f ih =>
      intro n hn N K c A R F oK kK hF hM
      have ek : (n : Int) + 1 = ((n + 1 : Nat) : Int) := by omega
      have e95 := rso_95 oK
      obtain ⟨M1, M2, M3⟩ := hM
      obtain ⟨s, hs⟩ : ∃ s, s = rwn b G n := ⟨_, rfl⟩
      have ks : rk (H 95) s := by rw [hs]; exact rkw n
      have s7 := rk_7 hw ks g
      have wb := zwo_bd hw ks.1
      have ub := zul_bd hw g s
      have nxt : ∀ t, ((∃ j, j < n ∧ t = rwn b G j) ∨ t = s) ↔ ∃ j, j < n + 1 ∧ t = rwn b G j := fun t => by
        rw [hs]
        constructor
        · rintro (⟨j, j1, j2⟩ | e)
          · exact ⟨j, by omega, j2⟩
          · exact ⟨n, by omega, e⟩
        · rintro ⟨j, j1, j2⟩
          by_cases e : j = n
          · exact Or.inr (by rw [← e]; exact j2)
          · exact Or.inl ⟨j, by omega, j2⟩
      have ord : ∀ t, (∃ j, j < n ∧ t = rwn b G j) → rlt t s := fun t ⟨j, j1, j2⟩ => by
        rw [j2, hs]; exact rwn_lt (by omega) (by omega) j1 (by omega)
      -- passed
      have pass : (s g = 0 → zso (H 95) s → c ≤ zul (H 95) g s ∧ (zul (H 95) g s = c → zwo (H 95) s ≤ A)) → mst (H 95) g (fun t => ∃ j, j < n + 1 ∧ t = rwn b G j) c A R F := fun q => by
        refine ⟨fun t ht t0 so => ?_, ?_, M3⟩
        · rcases (nxt t).mpr ht with e | e
          · exact M1 t e t0 so
          · rw [e] at t0 so ⊢; exact (q t0 so).1
        · refine bst_congr (fun t => ?_) (bst_seq M2 (bst_none (S := fun t => t = s ∧ s g = 0 ∧ zul (H 95) g s = c) (F := F) (R := R) (fun t ht so => by
            obtain ⟨e1, e2, e3⟩ := ht
            rw [e1] at so ⊢
            exact (q e2 so).2 e3)) (fun x y hx hy => by rw [hy.1]; exact ord x hx.1))
          constructor
          · rintro (⟨q1, q2, q3⟩ | ⟨e1, e2, e3⟩)
            · exact ⟨(nxt t).mp (Or.inl q1), q2, q3⟩
            · exact ⟨(nxt t).mp (Or.inr e1), by rw [e1]; exact e2, by rw [e1]; exact e3⟩
          · rintro ⟨q1, q2, q3⟩
            rcases (nxt t).mpr q1 with e | e
            · exact Or.inl ⟨e, q2, q3⟩
            · rw [e] at q2 q3; exact Or.inr ⟨e, q2, q3⟩
      -- fewer unlike
      have fewer : s g = 0 → zso (H 95) s → zul (H 95) g s < c → mst (H 95) g (fun t => ∃ j, j < n + 1 ∧ t = rwn b G j) (zul (H 95) g s) (zwo (H 95) s) s True := fun q0 so q => by
        refine ⟨fun t ht t0 tso => ?_, Or.inr ⟨trivial, ⟨(nxt s).mp (Or.inr rfl), q0, rfl⟩, so, rfl, by omega, fun t ht tso => ?_⟩, Or.inr ⟨ub.2, trivial⟩⟩
        · rcases (nxt t).mpr ht with e | e
          · have := M1 t e t0 tso; omega
          · rw [e]; exact Int.le_refl _
        · rcases (nxt t).mpr ht.1 with e | e
          · have := M1 t e ht.2.1 tso
            have := ht.2.2
            omega
          · rw [e]; exact ⟨Int.le_refl _, fun _ => Or.inl rfl⟩
      -- as few, worth more
      have better : s g = 0 → zso (H 95) s → zul (H 95) g s = c → A < zwo (H 95) s → mst (H 95) g (fun t => ∃ j, j < n + 1 ∧ t = rwn b G j) c (zwo (H 95) s) s True := fun q0 so qc q => by
        refine ⟨fun t ht t0 tso => ?_, ?_, Or.inr ⟨by omega, trivial⟩⟩
        · rcases (nxt t).mpr ht with e | e
          · exact M1 t e t0 tso
          · rw [e, qc]; exact Int.le_refl _
        · refine bst_congr (fun t => ?_) (bst_seq M2 (bst_one (S := fun t => t = s) (F := F) (R := R) (fun t => Iff.rfl) so q trivial) (fun x y hx hy => by rw [hy]; exact ord x hx.1))
          constructor
          · rintro (⟨q1, q2, q3⟩ | e1)
            · exact ⟨(nxt t).mp (Or.inl q1), q2, q3⟩
            · exact ⟨(nxt t).mp (Or.inr e1), by rw [e1]; exact q0, by rw [e1]; exact qc⟩
          · rintro ⟨q1, q2, q3⟩
            rcases (nxt t).mpr q1 with e | e
            · exact Or.inl ⟨e, q2, q3⟩
            · exact Or.inr e
      have c7 : 0 ≤ c ∧ c ≤ 7 := by
        rcases M3 with ⟨c7, -⟩ | ⟨c6, f1⟩
        · omega
        · rcases zbs_bst M2 with ⟨-, q⟩ | ⟨q, -⟩
          · have := zul_bd hw g R
            have := q.1.2.2
            omega
          · exact absurd f1 q
      refine vh_GoodsBookModel_mended_94_43 ?_
      rw [fl_wi (x := ((b ^ G : Nat) : Int)) (by omega) (by omega), fl_wi (x := (n : Int)) (by omega) (by omega), ek]
      refine ⟨fun hh => by omega, fun _ m1 hm1 => ck_mono (rc_layRow (X := X) (xs := xs) (n := n) (by rw [e95]; exact hw) (by omega) rfl) (fun r2 H2 h2 => ⟨h2.1, fun m2 hm2 => ?_⟩)⟩
      obtain ⟨-, o2, r2'⟩ := h2
      rw [e95, ← hb, ← hG, ← hs] at r2'
      have e2 : H2 95 = H 95 := (o2 95 (by decide)).trans e95
      have s2 : rso H H2 := rso_trans oK (rso_oc o2 (fun c hc => by omega))
      have k2 : rkn (H 95) H2 := rkn_c kK (o2 96 (by decide))
      have hF2 : F → H2 94 8 = A ∧ rb5 R H2 := fun f1 => ⟨by rw [o2 94 (by decide)]; exact (hF f1).1, fun j hj => by rw [o2 101 (by decide)]; exact (hF f1).2 j (by rw [e95]; rw [e2] at hj; exact hj)⟩
      refine ck_mono (rc_unlike (X := X) (xs := xs) (g := g) (r := s) (by rw [e2]; exact hw) (by rw [e2]; exact hch) (by rw [e2]; exact ks) r2' g6 rfl) (fun r7 H7 h7 => ⟨_, h7.1, ?_⟩)
      have e7 := h7.2
      subst e7
      rw [e2, fl_wi (x := (g : Int)) (by omega) (by omega), Int.toNat_natCast, r2' g (by rw [e2]; exact hg), fl_wi (x := ((s g : Nat) : Int)) (by omega) (by omega), fl_wi (x := zul (H 95) g s) (by omega) (by omega), fl_wi (x := c) (by omega) (by omega)]
      refine fun _ => ⟨fun q0 => ⟨fun q1 m3 hm3 => ih (n + 1) (by omega) m3 H7 c A R F s2 k2 hF2 (pass (fun _ _ => ⟨by omega, fun e => by omega⟩)), fun q1 m3 hm3 => ck_mono (rc_sound (X := X) (xs := xs) (r := s) (by rw [e2]; exact hw) (by rw [e2]; exact ks) r2' (by rw [e2]; exact k2)) (fun r15 H15 h15 => ⟨_, h15.1, ?_⟩)⟩, fun q0 m3 hm3 => ih (n + 1) (by omega) m3 H7 c A R F s2 k2 hF2 (pass (fun e => absurd (by omega) q0))⟩
      obtain ⟨-, o15, k15⟩ := h15
      rw [e2] at k15
      have e15 : H15 95 = H 95 := (rfo_95 o15).trans e2
      have s15 : rso H H15 := rso_trans s2 (rso_fo o15)
      have v8 : H15 94 8 = H7 94 8 := (o15 94 (by decide) (by decide) (by decide) (by decide)).2 rfl 8 (by decide)
      have v101 : H15 101 = H7 101 := rfo_c o15 (by decide) (by decide)
      have hF15 : F → H15 94 8 = A ∧ rb5 R H15 := fun f1 => ⟨by rw [v8]; exact (hF2 f1).1, fun j hj => by rw [v101]; exact (hF2 f1).2 j (by rw [e2]; rw [e15] at hj; exact hj)⟩
      have r15' := rr_fo o15 r2'
      rw [fb_0, e2]
      refine ⟨fun q2 m4 hm4 => ih (n + 1) (by omega) m4 H15 c A R F s15 k15 hF15 (pass (fun _ so => absurd so q2)), fun q2 m4 hm4 => ck_mono (rc_worth (X := X) (xs := xs) (r := s) (by rw [e15]; exact hw) (by rw [e15]; exact ks) r15') (fun r20 H20 h20 => ⟨_, h20.1, ?_⟩)⟩
      have so := Classical.not_not.mp q2
      have s0 : s g = 0 := by omega
      have e20 := h20.2
      subst e20
      rw [e15]
      have kept : ∀ m3 (c' : Int), mst (H 95) g (fun t => ∃ j, j < n + 1 ∧ t = rwn b G j) c' (zwo (H 95) s) s True → ck (cm_pg X xs) m3 cm_m195 [.index 94, fl_t (zwo (H 95) s)] H20 (fun r H14 => r = none ∧ (∀ m, m < N → hd_GoodsBookModel_mended_94_43 (cm_pg X xs) m H14 (g : Int) a c' ((b ^ G : Nat) : Int) ((n + 1 : Nat) : Int) (rms (H 95) g a H))) := fun m3 c' q => ck_mono (rc_keep (X := X) (xs := xs)) (fun r14 H14 h14 => ⟨h14.1, fun m4 hm4 => by
        obtain ⟨-, c14, i14, v14, b14⟩ := h14
        exact ih (n + 1) (by omega) m4 H14 c' (zwo (H 95) s) s True (rso_trans s15 (rso_keep c14 i14)) (rkn_c k15 (c14 96 (by decide) (by decide))) (fun _ => ⟨v14, fun j hj => by
          rw [c14 95 (by decide) (by decide), e15] at hj
          rw [b14 j (by omega)]
          exact r15' j (by rw [e15]; exact hj)⟩) q⟩)
      refine ⟨fun q3 m5 hm5 => kept m5 _ (fewer s0 so q3), fun q3 => ?_⟩
      have qc : zul (H 95) g s = c := by omega
      have f1 : F := by
        rcases M3 with ⟨c7, -⟩ | ⟨-, f1⟩
        · omega
        · exact f1
      have bA : -3000000 ≤ A ∧ A ≤ 3000000 := by
        rcases M2 with ⟨h1, -⟩ | ⟨-, ⟨⟨j, -, j2⟩, -⟩, -, h4, -⟩
        · omega
        · have := zwo_bd hw (rkw j).1
          rw [← j2, ← h4] at this; omega
      rw [(hF15 f1).1, fl_wb (x := A) (by omega) (by omega), fl_wb (x := zwo (H 95) s) (by omega) (by omega)]
      refine ⟨fun q4 m5 hm5 => ih (n + 1) (by omega) m5 H20 c A R F s15 k15 hF15 (pass (fun _ _ => ⟨by omega, fun _ => q4⟩)), fun q4 m5 hm5 => ?_⟩
      have := kept m5 c (better s0 so qc (by omega))
      rw [qc]
      exact this
  intro N
  rw [← hb, ← hG]
  exact key (b ^ G) 0 (by omega) N H 7 (-3000000) (fun _ => 0) False (rso_refl _) hk (fun q => q.elim) ⟨fun s ⟨j, j1, _⟩ => absurd j1 (by omega), bst_none (fun s ⟨⟨j, j1, _⟩, _⟩ _ => absurd j1 (by omega)), Or.inl ⟨rfl, fun q => q⟩⟩
end
end
