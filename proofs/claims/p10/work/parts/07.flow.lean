theorem cm_nt {p : Prop} [Decidable p] (h : ¬ p) : (!decide p) = true := by simp [h]
theorem cm_nf {p : Prop} [Decidable p] (h : p) : (!decide p) = false := by simp [h]
/-- an array cell of a kind of ints, as the worlds have it -/
theorem cm_at_i {b0 : Nat} {sa : Nat → Nat} {dA : FieldType → ClassId} {h : cm_H} {i : Nat} {ty : FieldType} {l : List Term} (hi : h[i]? = some (.inl (ty, l))) (ht : ty = .int ∨ ty = .byte) : (cm_ch b0 sa dA h)[i]? = some (b0 + i, .inl (dA ty, l.length, .inl (fun j => cm_xi (cm_ev b0 sa (l.getD j (.int 0)))))) := by
  rw [cm_ch_get hi]
  rcases ht with rfl | rfl <;> rfl
theorem cm_tl_at {dA : FieldType → ClassId} {ty : FieldType} (ht : ty = .int ∨ ty = .byte) : ∃ t0 : Nat, (cm_tl.map fun ty => (dA ty, ty))[t0]? = some (dA ty, ty) := by
  rcases ht with rfl | rfl
  · exact ⟨0, rfl⟩
  · exact ⟨1, rfl⟩
/-- a place in range, from its number -/
theorem cm_vp {x : Int32} {n : Nat} (h0 : 0 ≤ x.toInt) (hj : x.toInt.toNat < n) : vp_in x n := vp_in_iff.mpr ⟨h0, by omega⟩
theorem cm_find_ok {x : Int} {df : Int} {pc : Nat} : ∀ {ps : List (Int × Int)} {ts : List Nat} {t : Nat}, ps.map (fun q => (pc : Int) + q.2) ++ [(pc : Int) + df] = ts.map Int.ofNat → cm_find x ps ts = some t → (pc : Int) + Op.lookupswitch.offset ps df x = (t : Int)
  | [], ts, t, h1, h2 => by
    match ts, h1, h2 with
    | [d], h1, h2 =>
      simp [cm_find] at h1 h2
      subst h2
      simpa [Op.lookupswitch.offset] using h1
  | (a, o) :: ps, ts, t, h1, h2 => by
    match ts, h1, h2 with
    | g :: ts, h1, h2 =>
      simp only [List.map_cons, List.cons_append, List.cons.injEq] at h1
      obtain ⟨h1a, h1b⟩ := h1
      unfold cm_find at h2
      by_cases hx : x = a
      · rw [if_pos hx] at h2
        cases h2
        rw [show Op.lookupswitch.offset ((a, o) :: ps) df x = o by rw [Op.lookupswitch.offset, if_pos hx.symm]]
        exact h1a
      · rw [if_neg hx] at h2
        rw [show Op.lookupswitch.offset ((a, o) :: ps) df x = Op.lookupswitch.offset ps df x by rw [Op.lookupswitch.offset, if_neg (fun z => hx z.symm)]]
        exact cm_find_ok h1b h2

set_option maxHeartbeats 4000000 in
set_option maxRecDepth 100000 in
theorem cm_s_goto {pg : cm_G} {K : cm_K} {l : Launch} {D : va_G} {b0 : Nat} {sa : Nat → Nat} {dA : FieldType → ClassId} {n : Nat} (hG : cm_Good pg K) (hB : cm_BodyAt pg K l D b0 sa dA n) (o : Int) : cm_StepFor pg K l D b0 sa dA n (.goto o) := by
  intro mi mr mn hmr hmn p e R s m args below meth c Q v hv hF hret d pc lv st h R0 np rs hat hrun hv1 hv2 H locs cells slots ls hI
  have ih := hB mi mr mn hmr hmn p e R s m args below meth c Q v hv hF hret
  obtain ⟨hx, hb, hml, hown, hts, hini, hSW⟩ := id hF
  have hok := (hG.1 mi mr mn hmr hmn).1 pc _ hat
  obtain ⟨⟨hlen, hl⟩, hP, hS, hbud, hroom⟩ := id hI
  unfold cm_step at hrun
  rw [hat] at hrun
  dsimp only at hrun
  obtain ⟨rfl, hd, hj⟩ := cm_row hok 3 rfl (by decide)
  split at hrun
  · exact lv_goto hx hb hd (of_decide_eq_true hj) (ih _ _ _ _ _ _ hrun hv1 hv2 _ _ _ _ _ hI)
  · cases hrun

set_option maxHeartbeats 4000000 in
set_option maxRecDepth 100000 in
theorem cm_s_ifCond {pg : cm_G} {K : cm_K} {l : Launch} {D : va_G} {b0 : Nat} {sa : Nat → Nat} {dA : FieldType → ClassId} {n : Nat} (hG : cm_Good pg K) (hB : cm_BodyAt pg K l D b0 sa dA n) (cnd : ClassFile.Cond) (o : Int) : cm_StepFor pg K l D b0 sa dA n (.ifCond cnd o) := by
  intro mi mr mn hmr hmn p e R s m args below meth c Q v hv hF hret d pc lv st h R0 np rs hat hrun hv1 hv2 H locs cells slots ls hI
  have ih := hB mi mr mn hmr hmn p e R s m args below meth c Q v hv hF hret
  obtain ⟨hx, hb, hml, hown, hts, hini, hSW⟩ := id hF
  have hok := (hG.1 mi mr mn hmr hmn).1 pc _ hat
  obtain ⟨⟨hlen, hl⟩, hP, hS, hbud, hroom⟩ := id hI
  unfold cm_step at hrun
  rw [hat] at hrun
  dsimp only at hrun
  obtain ⟨rfl, hd, hj⟩ := cm_row hok 3 rfl (by decide)
  split at hrun
  · rename_i tg _
    have ht := of_decide_eq_true hj
    obtain ⟨x, st', rfl, hrun2⟩ := cm_one_ok hrun
    have hk := ih _ _ _ _ _ _ hrun2 hv1 hv2 H locs cells slots ls hI
    cases cnd with
    | eq => exact lv_if_eq hx hb hd ht (fun hz => by rw [if_pos (show cm_cb .eq x 0 = true from decide_eq_true hz)] at hk; exact hk) (fun hz => by rw [if_neg (by rw [show cm_cb .eq x 0 = false from decide_eq_false hz]; decide)] at hk; exact hk)
    | ne => exact lv_if_ne hx hb hd ht (fun hz => by rw [if_pos (show cm_cb .ne x 0 = true from cm_nt hz)] at hk; exact hk) (fun hz => by rw [if_neg (by rw [show cm_cb .ne x 0 = false from cm_nf hz]; decide)] at hk; exact hk)
    | lt => exact lv_if_lt hx hb hd ht (fun hz => by rw [if_pos (show cm_cb .lt x 0 = true from decide_eq_true hz)] at hk; exact hk) (fun hz => by rw [if_neg (by rw [show cm_cb .lt x 0 = false from decide_eq_false hz]; decide)] at hk; exact hk)
    | ge => exact lv_if_ge hx hb hd ht (fun hz => by rw [if_pos (show cm_cb .ge x 0 = true from cm_nt (Int32.not_lt.mpr hz))] at hk; exact hk) (fun hz => by rw [if_neg (by rw [show cm_cb .ge x 0 = false from cm_nf (Int32.not_le.mp hz)]; decide)] at hk; exact hk)
    | gt => exact lv_if_gt hx hb hd ht (fun hz => by rw [if_pos (show cm_cb .gt x 0 = true from decide_eq_true hz)] at hk; exact hk) (fun hz => by rw [if_neg (by rw [show cm_cb .gt x 0 = false from decide_eq_false hz]; decide)] at hk; exact hk)
    | le => exact lv_if_le hx hb hd ht (fun hz => by rw [if_pos (show cm_cb .le x 0 = true from cm_nt (Int32.not_lt.mpr hz))] at hk; exact hk) (fun hz => by rw [if_neg (by rw [show cm_cb .le x 0 = false from cm_nf (Int32.not_le.mp hz)]; decide)] at hk; exact hk)
  · cases hrun

set_option maxHeartbeats 4000000 in
set_option maxRecDepth 100000 in
theorem cm_s_if_icmp {pg : cm_G} {K : cm_K} {l : Launch} {D : va_G} {b0 : Nat} {sa : Nat → Nat} {dA : FieldType → ClassId} {n : Nat} (hG : cm_Good pg K) (hB : cm_BodyAt pg K l D b0 sa dA n) (cnd : ClassFile.Cond) (o : Int) : cm_StepFor pg K l D b0 sa dA n (.if_icmp cnd o) := by
  intro mi mr mn hmr hmn p e R s m args below meth c Q v hv hF hret d pc lv st h R0 np rs hat hrun hv1 hv2 H locs cells slots ls hI
  have ih := hB mi mr mn hmr hmn p e R s m args below meth c Q v hv hF hret
  obtain ⟨hx, hb, hml, hown, hts, hini, hSW⟩ := id hF
  have hok := (hG.1 mi mr mn hmr hmn).1 pc _ hat
  obtain ⟨⟨hlen, hl⟩, hP, hS, hbud, hroom⟩ := id hI
  unfold cm_step at hrun
  rw [hat] at hrun
  dsimp only at hrun
  obtain ⟨rfl, hd, hj⟩ := cm_row hok 3 rfl (by decide)
  split at hrun
  · rename_i tg _
    have ht := of_decide_eq_true hj
    obtain ⟨x, y, st', rfl, hrun2⟩ := cm_two_ok hrun
    have hk := ih _ _ _ _ _ _ hrun2 hv1 hv2 H locs cells slots ls hI
    cases cnd with
    | eq => exact lv_icmp_eq hx hb hd ht (fun hz => by rw [if_pos (show cm_cb .eq x y = true from decide_eq_true hz)] at hk; exact hk) (fun hz => by rw [if_neg (by rw [show cm_cb .eq x y = false from decide_eq_false hz]; decide)] at hk; exact hk)
    | ne => exact lv_icmp_ne hx hb hd ht (fun hz => by rw [if_pos (show cm_cb .ne x y = true from cm_nt hz)] at hk; exact hk) (fun hz => by rw [if_neg (by rw [show cm_cb .ne x y = false from cm_nf hz]; decide)] at hk; exact hk)
    | lt => exact lv_icmp_lt hx hb hd ht (fun hz => by rw [if_pos (show cm_cb .lt x y = true from decide_eq_true hz)] at hk; exact hk) (fun hz => by rw [if_neg (by rw [show cm_cb .lt x y = false from decide_eq_false hz]; decide)] at hk; exact hk)
    | ge => exact lv_icmp_ge hx hb hd ht (fun hz => by rw [if_pos (show cm_cb .ge x y = true from cm_nt (Int32.not_lt.mpr hz))] at hk; exact hk) (fun hz => by rw [if_neg (by rw [show cm_cb .ge x y = false from cm_nf (Int32.not_le.mp hz)]; decide)] at hk; exact hk)
    | gt => exact lv_icmp_gt hx hb hd ht (fun hz => by rw [if_pos (show cm_cb .gt x y = true from decide_eq_true hz)] at hk; exact hk) (fun hz => by rw [if_neg (by rw [show cm_cb .gt x y = false from decide_eq_false hz]; decide)] at hk; exact hk)
    | le => exact lv_icmp_le hx hb hd ht (fun hz => by rw [if_pos (show cm_cb .le x y = true from cm_nt (Int32.not_lt.mpr hz))] at hk; exact hk) (fun hz => by rw [if_neg (by rw [show cm_cb .le x y = false from cm_nf (Int32.not_le.mp hz)]; decide)] at hk; exact hk)
  · cases hrun

set_option maxHeartbeats 4000000 in
set_option maxRecDepth 100000 in
theorem cm_s_tableswitch {pg : cm_G} {K : cm_K} {l : Launch} {D : va_G} {b0 : Nat} {sa : Nat → Nat} {dA : FieldType → ClassId} {n : Nat} (hG : cm_Good pg K) (hB : cm_BodyAt pg K l D b0 sa dA n) (df lo hi : Int) (offs : Array Int) : cm_StepFor pg K l D b0 sa dA n (.tableswitch df lo hi offs) := by
  intro mi mr mn hmr hmn p e R s m args below meth c Q v hv hF hret d pc lv st h R0 np rs hat hrun hv1 hv2 H locs cells slots ls hI
  have ih := hB mi mr mn hmr hmn p e R s m args below meth c Q v hv hF hret
  obtain ⟨hx, hb, hml, hown, hts, hini, hSW⟩ := id hF
  have hok := (hG.1 mi mr mn hmr hmn).1 pc _ hat
  obtain ⟨⟨hlen, hl⟩, hP, hS, hbud, hroom⟩ := id hI
  unfold cm_step at hrun
  rw [hat] at hrun
  dsimp only at hrun
  unfold cm_rowB at hok
  simp only [Bool.and_eq_true, decide_eq_true_eq] at hok
  obtain ⟨⟨hd, -⟩, hj⟩ := hok
  obtain ⟨x, st', rfl, hrun2⟩ := cm_one_ok hrun
  unfold cm_sw at hrun2
  split at hrun2
  · cases hrun2
  · rename_i dflt tg
    unfold cm_j at hj
    simp only [Bool.and_eq_true, decide_eq_true_eq] at hj
    obtain ⟨hj1, hj4⟩ := hj
    split at hrun2
    · rename_i hin
      exact lv_tableOut hx hb hd hin hj1 (ih _ _ _ _ _ _ hrun2 hv1 hv2 _ _ _ _ _ hI)
    · rename_i hin
      rw [cm_nth_eq] at hrun2
      split at hrun2
      · cases hrun2
      · rename_i g hg
        have e4 := congrArg (fun z => z[(x.toInt - lo).toNat]?) hj4
        simp only [List.getElem?_map, hg, Option.map_some, Array.getElem?_toList] at e4
        cases ho : offs[(x.toInt - lo).toNat]? with
        | none => rw [ho] at e4; cases e4
        | some off =>
          rw [ho] at e4
          simp only [Option.map_some, Option.some.injEq] at e4
          exact lv_tableIn hx hb hd (fun z => hin (Or.inl z)) (fun z => hin (Or.inr z)) ho e4 (ih _ _ _ _ _ _ hrun2 hv1 hv2 _ _ _ _ _ hI)

set_option maxHeartbeats 4000000 in
set_option maxRecDepth 100000 in
theorem cm_s_lookupswitch {pg : cm_G} {K : cm_K} {l : Launch} {D : va_G} {b0 : Nat} {sa : Nat → Nat} {dA : FieldType → ClassId} {n : Nat} (hG : cm_Good pg K) (hB : cm_BodyAt pg K l D b0 sa dA n) (df : Int) (ps : Array (Int × Int)) : cm_StepFor pg K l D b0 sa dA n (.lookupswitch df ps) := by
  intro mi mr mn hmr hmn p e R s m args below meth c Q v hv hF hret d pc lv st h R0 np rs hat hrun hv1 hv2 H locs cells slots ls hI
  have ih := hB mi mr mn hmr hmn p e R s m args below meth c Q v hv hF hret
  obtain ⟨hx, hb, hml, hown, hts, hini, hSW⟩ := id hF
  have hok := (hG.1 mi mr mn hmr hmn).1 pc _ hat
  obtain ⟨⟨hlen, hl⟩, hP, hS, hbud, hroom⟩ := id hI
  unfold cm_step at hrun
  rw [hat] at hrun
  dsimp only at hrun
  unfold cm_rowB at hok
  simp only [Bool.and_eq_true, decide_eq_true_eq] at hok
  obtain ⟨⟨hd, -⟩, hj⟩ := hok
  obtain ⟨x, st', rfl, hrun2⟩ := cm_one_ok hrun
  unfold cm_j at hj
  simp only [Bool.and_eq_true, decide_eq_true_eq] at hj
  split at hrun2
  · rename_i t ht
    exact lv_lookup hx hb hd hj.1 rfl (cm_find_ok hj.2 ht) (ih _ _ _ _ _ _ hrun2 hv1 hv2 _ _ _ _ _ hI)
  · cases hrun2

set_option maxHeartbeats 4000000 in
set_option maxRecDepth 100000 in
theorem cm_s_ldc {pg : cm_G} {K : cm_K} {l : Launch} {D : va_G} {b0 : Nat} {sa : Nat → Nat} {dA : FieldType → ClassId} {n : Nat} (hG : cm_Good pg K) (hB : cm_BodyAt pg K l D b0 sa dA n) (i : Nat) : cm_StepFor pg K l D b0 sa dA n (.ldc i) := by
  intro mi mr mn hmr hmn p e R s m args below meth c Q v hv hF hret d pc lv st h R0 np rs hat hrun hv1 hv2 H locs cells slots ls hI
  have ih := hB mi mr mn hmr hmn p e R s m args below meth c Q v hv hF hret
  obtain ⟨hx, hb, hml, hown, hts, hini, hSW⟩ := id hF
  have hok := (hG.1 mi mr mn hmr hmn).1 pc _ hat
  obtain ⟨⟨hlen, hl⟩, hP, hS, hbud, hroom⟩ := id hI
  unfold cm_step at hrun
  rw [hat] at hrun
  dsimp only at hrun
  obtain ⟨rfl, hd, hj⟩ := cm_row hok 2 rfl (by decide)
  split at hrun
  · rename_i n' rs'
    unfold cm_j at hj
    dsimp only at hj
    split at hj
    · rename_i n2 p' rs'' heq
      cases heq
      exact lv_ldc hx hb hown (hts _ (cm_w_ok hj)) hd (ih _ _ _ _ _ _ hrun hv1 hv2 _ _ _ _ _ hI)
    · rename_i heq; cases heq
    · cases hj
  · rename_i k rs'
    unfold cm_j at hj
    dsimp only at hj
    split at hj
    · rename_i heq; cases heq
    · rename_i k2 p' rs'' heq
      cases heq
      split at hj
      · rename_i oo xx tx j' hq
        obtain ⟨rfl, rfl, rfl⟩ := of_decide_eq_true hj
        rw [cm_nth_eq] at hq
        exact va_ldcS hx hb hown (hSW.2.2.2.2.2.1 _ (List.mem_of_getElem? hq)) hd (ih _ _ _ _ _ _ hrun hv1 hv2 _ _ _ _ _ hI)
      · cases hj
    · cases hj
  · cases hrun

set_option maxHeartbeats 4000000 in
set_option maxRecDepth 100000 in
theorem cm_s_ldc_w {pg : cm_G} {K : cm_K} {l : Launch} {D : va_G} {b0 : Nat} {sa : Nat → Nat} {dA : FieldType → ClassId} {n : Nat} (hG : cm_Good pg K) (hB : cm_BodyAt pg K l D b0 sa dA n) (i : Nat) : cm_StepFor pg K l D b0 sa dA n (.ldc_w i) := by
  intro mi mr mn hmr hmn p e R s m args below meth c Q v hv hF hret d pc lv st h R0 np rs hat hrun hv1 hv2 H locs cells slots ls hI
  have ih := hB mi mr mn hmr hmn p e R s m args below meth c Q v hv hF hret
  obtain ⟨hx, hb, hml, hown, hts, hini, hSW⟩ := id hF
  have hok := (hG.1 mi mr mn hmr hmn).1 pc _ hat
  obtain ⟨⟨hlen, hl⟩, hP, hS, hbud, hroom⟩ := id hI
  unfold cm_step at hrun
  rw [hat] at hrun
  dsimp only at hrun
  obtain ⟨rfl, hd, hj⟩ := cm_row hok 3 rfl (by decide)
  split at hrun
  · rename_i n' rs'
    unfold cm_j at hj
    dsimp only at hj
    split at hj
    · rename_i n2 p' rs'' heq
      cases heq
      exact lv_ldcw hx hb hown (hts _ (cm_w_ok hj)) hd (ih _ _ _ _ _ _ hrun hv1 hv2 _ _ _ _ _ hI)
    · cases hj
  · cases hrun

set_option maxHeartbeats 4000000 in
set_option maxRecDepth 100000 in
theorem cm_s_ldc2_w {pg : cm_G} {K : cm_K} {l : Launch} {D : va_G} {b0 : Nat} {sa : Nat → Nat} {dA : FieldType → ClassId} {n : Nat} (hG : cm_Good pg K) (hB : cm_BodyAt pg K l D b0 sa dA n) (i : Nat) : cm_StepFor pg K l D b0 sa dA n (.ldc2_w i) := by
  intro mi mr mn hmr hmn p e R s m args below meth c Q v hv hF hret d pc lv st h R0 np rs hat hrun hv1 hv2 H locs cells slots ls hI
  have ih := hB mi mr mn hmr hmn p e R s m args below meth c Q v hv hF hret
  obtain ⟨hx, hb, hml, hown, hts, hini, hSW⟩ := id hF
  have hok := (hG.1 mi mr mn hmr hmn).1 pc _ hat
  obtain ⟨⟨hlen, hl⟩, hP, hS, hbud, hroom⟩ := id hI
  unfold cm_step at hrun
  rw [hat] at hrun
  dsimp only at hrun
  obtain ⟨rfl, hd, hj⟩ := cm_row hok 3 rfl (by decide)
  split at hrun
  · rename_i n' rs'
    unfold cm_j at hj
    dsimp only at hj
    split at hj
    · rename_i n2 p' rs'' heq
      cases heq
      exact lv_ldc2 hx hb hown (hts _ (cm_w_ok hj)) hd (ih _ _ _ _ _ _ hrun hv1 hv2 _ _ _ _ _ hI)
    · cases hj
  · cases hrun

set_option maxHeartbeats 4000000 in
set_option maxRecDepth 100000 in
theorem cm_s_iaload {pg : cm_G} {K : cm_K} {l : Launch} {D : va_G} {b0 : Nat} {sa : Nat → Nat} {dA : FieldType → ClassId} {n : Nat} (hG : cm_Good pg K) (hB : cm_BodyAt pg K l D b0 sa dA n) : cm_StepFor pg K l D b0 sa dA n .iaload := by
  intro mi mr mn hmr hmn p e R s m args below meth c Q v hv hF hret d pc lv st h R0 np rs hat hrun hv1 hv2 H locs cells slots ls hI
  have ih := hB mi mr mn hmr hmn p e R s m args below meth c Q v hv hF hret
  obtain ⟨hx, hb, hml, hown, hts, hini, hSW⟩ := id hF
  have hok := (hG.1 mi mr mn hmr hmn).1 pc _ hat
  obtain ⟨⟨hlen, hl⟩, hP, hS, hbud, hroom⟩ := id hI
  unfold cm_step at hrun
  rw [hat] at hrun
  dsimp only at hrun
  obtain ⟨rfl, hd, hj⟩ := cm_row hok 1 rfl (by decide)
  unfold cm_aload at hrun
  split at hrun
  · rename_i ix a st'
    unfold cm_arr at hrun
    split at hrun
    · rename_i k
      split at hrun
      · rename_i u lst hcell
        rw [cm_nth_eq] at hcell
        split at hrun
        · rename_i hu
          subst hu
          split at hrun
          · rename_i h0
            dsimp only at hrun
            rw [cm_nth_eq] at hrun
            split at hrun
            · rename_i vv ht
              have hlt : ix.toInt.toNat < lst.length := (List.getElem?_eq_some_iff.mp ht).1
              obtain ⟨t0, ht0⟩ := cm_tl_at (dA := dA) (ty := .int) (Or.inl rfl)
              have hk := ih _ _ _ _ _ _ hrun hv1 hv2 _ _ _ _ _ hI
              refine va_iald hx hb hSW.1 hP.2 k t0 (cm_at_i hcell (Or.inl rfl)) ht0 (cm_vp h0 hlt) hd ?_
              rw [show lst.getD ix.toNatClampNeg (.int 0) = .int vv by
                rw [List.getD_eq_getElem?_getD, show ix.toNatClampNeg = ix.toInt.toNat from rfl, ht]; rfl]
              exact hk
            · cases hrun
          · cases hrun
        · cases hrun
      · cases hrun
    · rename_i cc k
      split at hrun
      · rename_i u lst hcell
        rw [cm_nth_eq] at hcell
        split at hrun
        · rename_i hu
          subst hu
          split at hrun
          · rename_i h0
            dsimp only at hrun
            rw [cm_nth_eq] at hrun
            split at hrun
            · rename_i vv ht
              have hlt : ix.toInt.toNat < lst.length := (List.getElem?_eq_some_iff.mp ht).1
              exact va_ti hx hb (hSW.2.2.1 k _ lst hcell) hS (cm_vp h0 hlt) (v := .int vv) (by
                rw [show lst.getD ix.toNatClampNeg (.int 0) = .int vv by
                  rw [List.getD_eq_getElem?_getD, show ix.toNatClampNeg = ix.toInt.toNat from rfl, ht]; rfl]; rfl) hd (ih _ _ _ _ _ _ hrun hv1 hv2 _ _ _ _ _ hI)
            · cases hrun
          · cases hrun
        · cases hrun
      · cases hrun
    · cases hrun
  · cases hrun

set_option maxHeartbeats 4000000 in
set_option maxRecDepth 100000 in
theorem cm_s_baload {pg : cm_G} {K : cm_K} {l : Launch} {D : va_G} {b0 : Nat} {sa : Nat → Nat} {dA : FieldType → ClassId} {n : Nat} (hG : cm_Good pg K) (hB : cm_BodyAt pg K l D b0 sa dA n) : cm_StepFor pg K l D b0 sa dA n .baload := by
  intro mi mr mn hmr hmn p e R s m args below meth c Q v hv hF hret d pc lv st h R0 np rs hat hrun hv1 hv2 H locs cells slots ls hI
  have ih := hB mi mr mn hmr hmn p e R s m args below meth c Q v hv hF hret
  obtain ⟨hx, hb, hml, hown, hts, hini, hSW⟩ := id hF
  have hok := (hG.1 mi mr mn hmr hmn).1 pc _ hat
  obtain ⟨⟨hlen, hl⟩, hP, hS, hbud, hroom⟩ := id hI
  unfold cm_step at hrun
  rw [hat] at hrun
  dsimp only at hrun
  obtain ⟨rfl, hd, hj⟩ := cm_row hok 1 rfl (by decide)
  unfold cm_aload at hrun
  split at hrun
  · rename_i ix a st'
    unfold cm_arr at hrun
    split at hrun
    · rename_i k
      split at hrun
      · rename_i u lst hcell
        rw [cm_nth_eq] at hcell
        split at hrun
        · rename_i hu
          subst hu
          split at hrun
          · rename_i h0
            dsimp only at hrun
            rw [cm_nth_eq] at hrun
            split at hrun
            · rename_i vv ht
              have hlt : ix.toInt.toNat < lst.length := (List.getElem?_eq_some_iff.mp ht).1
              obtain ⟨t0, ht0⟩ := cm_tl_at (dA := dA) (ty := .byte) (Or.inr rfl)
              have hk := ih _ _ _ _ _ _ hrun hv1 hv2 _ _ _ _ _ hI
              refine va_bald hx hb hSW.1 hP.2 k t0 (cm_at_i hcell (Or.inr rfl)) ht0 (cm_vp h0 hlt) hd ?_
              rw [show lst.getD ix.toNatClampNeg (.int 0) = .int vv by
                rw [List.getD_eq_getElem?_getD, show ix.toNatClampNeg = ix.toInt.toNat from rfl, ht]; rfl]
              exact hk
            · cases hrun
          · cases hrun
        · cases hrun
      · cases hrun
    · rename_i cc k
      split at hrun
      · rename_i u lst hcell
        rw [cm_nth_eq] at hcell
        split at hrun
        · rename_i hu
          subst hu
          split at hrun
          · rename_i h0
            dsimp only at hrun
            rw [cm_nth_eq] at hrun
            split at hrun
            · rename_i vv ht
              have hlt : ix.toInt.toNat < lst.length := (List.getElem?_eq_some_iff.mp ht).1
              exact va_tb hx hb (hSW.2.2.1 k _ lst hcell) hS (cm_vp h0 hlt) (v := .int vv) (by
                rw [show lst.getD ix.toNatClampNeg (.int 0) = .int vv by
                  rw [List.getD_eq_getElem?_getD, show ix.toNatClampNeg = ix.toInt.toNat from rfl, ht]; rfl]; rfl) hd (ih _ _ _ _ _ _ hrun hv1 hv2 _ _ _ _ _ hI)
            · cases hrun
          · cases hrun
        · cases hrun
      · cases hrun
    · cases hrun
  · cases hrun

set_option maxHeartbeats 4000000 in
set_option maxRecDepth 100000 in
theorem cm_s_arraylength {pg : cm_G} {K : cm_K} {l : Launch} {D : va_G} {b0 : Nat} {sa : Nat → Nat} {dA : FieldType → ClassId} {n : Nat} (hG : cm_Good pg K) (hB : cm_BodyAt pg K l D b0 sa dA n) : cm_StepFor pg K l D b0 sa dA n .arraylength := by
  intro mi mr mn hmr hmn p e R s m args below meth c Q v hv hF hret d pc lv st h R0 np rs hat hrun hv1 hv2 H locs cells slots ls hI
  have ih := hB mi mr mn hmr hmn p e R s m args below meth c Q v hv hF hret
  obtain ⟨hx, hb, hml, hown, hts, hini, hSW⟩ := id hF
  have hok := (hG.1 mi mr mn hmr hmn).1 pc _ hat
  obtain ⟨⟨hlen, hl⟩, hP, hS, hbud, hroom⟩ := id hI
  unfold cm_step at hrun
  rw [hat] at hrun
  dsimp only at hrun
  obtain ⟨rfl, hd, hj⟩ := cm_row hok 1 rfl (by decide)
  split at hrun
  · rename_i a st'
    unfold cm_len at hrun
    split at hrun
    · rename_i k
      split at hrun
      · rename_i u lst hcell
        rw [cm_nth_eq] at hcell
        split at hrun
        · rename_i hu
          obtain ⟨t0, ht0⟩ := cm_tl_at (dA := dA) hu
          exact va_alen hx hb hSW.1 hP.2 k t0 (cm_at_i hcell hu) ht0 rfl hd (ih _ _ _ _ _ _ hrun hv1 hv2 _ _ _ _ _ hI)
        · cases hrun
      · cases hrun
    · rename_i cc k
      split at hrun
      · rename_i u lst hcell
        rw [cm_nth_eq] at hcell
        exact va_tlen hx hb (hSW.2.2.1 k _ lst hcell) hS rfl hd (ih _ _ _ _ _ _ hrun hv1 hv2 _ _ _ _ _ hI)
      · cases hrun
    · cases hrun
  · cases hrun

set_option maxHeartbeats 4000000 in
set_option maxRecDepth 100000 in
theorem cm_s_ireturn {pg : cm_G} {K : cm_K} {l : Launch} {D : va_G} {b0 : Nat} {sa : Nat → Nat} {dA : FieldType → ClassId} {n : Nat} (hG : cm_Good pg K) (hB : cm_BodyAt pg K l D b0 sa dA n) : cm_StepFor pg K l D b0 sa dA n .ireturn := by
  intro mi mr mn hmr hmn p e R s m args below meth c Q v hv hF hret d pc lv st h R0 np rs hat hrun hv1 hv2 H locs cells slots ls hI
  have ih := hB mi mr mn hmr hmn p e R s m args below meth c Q v hv hF hret
  obtain ⟨hx, hb, hml, hown, hts, hini, hSW⟩ := id hF
  have hok := (hG.1 mi mr mn hmr hmn).1 pc _ hat
  obtain ⟨⟨hlen, hl⟩, hP, hS, hbud, hroom⟩ := id hI
  unfold cm_step at hrun
  rw [hat] at hrun
  dsimp only at hrun
  obtain ⟨rfl, hd, hj⟩ := cm_row hok 1 rfl (by decide)
  split at hrun
  · rename_i x
    unfold cm_ret at hrun
    split at hrun
    · cases hrun
    · rename_i ty hty
      split at hrun
      · rename_i hdv
        cases hrun
        subst hv1
        subst hv2
        exact hret pc ls H locs cells slots ⟨ty, x, hty, hdv, rfl, hd⟩ hP hS hbud.1 hbud.2
      · cases hrun
  · cases hrun

set_option maxHeartbeats 4000000 in
set_option maxRecDepth 100000 in
theorem cm_s_return_ {pg : cm_G} {K : cm_K} {l : Launch} {D : va_G} {b0 : Nat} {sa : Nat → Nat} {dA : FieldType → ClassId} {n : Nat} (hG : cm_Good pg K) (hB : cm_BodyAt pg K l D b0 sa dA n) : cm_StepFor pg K l D b0 sa dA n .return_ := by
  intro mi mr mn hmr hmn p e R s m args below meth c Q v hv hF hret d pc lv st h R0 np rs hat hrun hv1 hv2 H locs cells slots ls hI
  have ih := hB mi mr mn hmr hmn p e R s m args below meth c Q v hv hF hret
  obtain ⟨hx, hb, hml, hown, hts, hini, hSW⟩ := id hF
  have hok := (hG.1 mi mr mn hmr hmn).1 pc _ hat
  obtain ⟨⟨hlen, hl⟩, hP, hS, hbud, hroom⟩ := id hI
  unfold cm_step at hrun
  rw [hat] at hrun
  dsimp only at hrun
  obtain ⟨rfl, hd, hj⟩ := cm_row hok 1 rfl (by decide)
  split at hrun
  · rename_i hc
    obtain ⟨hr1, rfl⟩ := hc
    cases hrun
    subst hv1
    subst hv2
    exact hret pc ls H locs cells slots ⟨hr1, hd⟩ hP hS hbud.1 hbud.2
  · cases hrun
