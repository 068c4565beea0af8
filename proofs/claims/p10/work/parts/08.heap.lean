/-- an element changed -/
theorem cm_el_set {b0 : Nat} {sa : Nat → Nat} {l : List Term} {j : Nat} {x : Int32} (hj : j < l.length) : upd (fun j => cm_xi (cm_ev b0 sa (l.getD j (.int 0)))) j x = fun i => cm_xi (cm_ev b0 sa ((l.set j (.int x)).getD i (.int 0))) := by
  funext i
  unfold upd
  by_cases h : i = j
  · subst h
    simp [hj, cm_ev, cm_xi]
  · rw [if_neg h]
    simp [List.getD_eq_getElem?_getD, List.getElem?_set, Ne.symm h]
/-- an array cell with an element changed -/
theorem cm_arr_set {cA : ClassId} {N k : Nat} {f : Nat → Int32} {x : Int32} : (vp_cell cA (N, .inl f)).setSlot k (.int x) = vp_cell cA (N, .inl (upd f k x)) := by
  rw [vp_cell_i, vp_cell_i, arrV_store]
  congr 1
  funext j
  unfold updV upd
  split <;> rfl
/-- a cell of the list changed -/
theorem cm_Pic_set {D : va_G} {cl : List vw_C} {b0 : Nat} {sa : Nat → Nat} {dA : FieldType → ClassId} {h : cm_H} {H H1 : Heap} {i : Nat} {c0 cc : cm_C} (hP : cm_Pic D cl b0 sa dA h H) (hi : h[i]? = some c0) (hz : H1.size = H.size) (ho : ∀ q : Nat, q ≠ b0 + i → H1[q]? = H[q]?) (hc : va_at D cl (b0 + i, cm_cc b0 sa dA cc) H1) : cm_Pic D cl b0 sa dA (h.set i cc) H1 := by
  refine ⟨by rw [hz, hP.1]; simp, ?_⟩
  rw [cm_ch_set]
  exact hP.2.set cm_ch_D (cm_ch_get hi) hc ho
theorem cm_S_set {b0 i k : Nat} {H0 H H1 : Heap} {locs : List Loc} (hS : va_S (cm_A b0) H0 H locs) (hz : H1.size = H.size) (ho : ∀ q : Nat, q ≠ b0 + i → H1[q]? = H[q]?) : va_S (cm_A b0) H0 H1 (locs ++ [⟨b0 + i, k⟩]) := hS.put hz ho (Nat.le_add_right _ _)
/-- a new cell -/
theorem cm_Pic_new {D : va_G} {cl : List vw_C} {b0 : Nat} {sa : Nat → Nat} {dA : FieldType → ClassId} {h : cm_H} {H H1 : Heap} {cc : cm_C} (hP : cm_Pic D cl b0 sa dA h H) (hz : H1.size = H.size + 1) (ho : ∀ q : Nat, q < H.size → H1[q]? = H[q]?) (hc : va_at D cl (b0 + h.length, cm_cc b0 sa dA cc) H1) : cm_Pic D cl b0 sa dA (h ++ [cc]) H1 := by
  refine ⟨by rw [hz, hP.1]; simp; omega, ?_⟩
  rw [cm_ch_app]
  refine (hP.2.kept (fun k q hq => ho q.1 ((hP.2 k q hq).lt))).app (fun k q hq => ?_)
  have hz : k < 1 := (List.getElem?_eq_some_iff.mp hq).1
  rw [show k = 0 by omega] at hq
  cases hq
  exact hc
theorem cm_S_new {b0 : Nat} {H0 H H1 : Heap} {locs : List Loc} (hS : va_S (cm_A b0) H0 H locs) (hz : H1.size = H.size + 1) (ho : ∀ q : Nat, q < H.size → H1[q]? = H[q]?) : va_S (cm_A b0) H0 H1 locs :=
  ⟨Nat.le_trans hS.1 (by omega), fun x h1 h2 => (ho x (Nat.lt_of_lt_of_le h1 hS.1)).trans (hS.2.1 x h1 h2), hS.2.2⟩
theorem cm_more_ok {c s : Nat} {x : Option cm_R} {R0 : cm_R} (h : cm_more c s x = some R0) : ∃ R1, x = some R1 ∧ R0 = (R1.1, R1.2.1, c + R1.2.2.1, s + R1.2.2.2) := by
  unfold cm_more at h
  split at h
  · cases h
  · cases h
    exact ⟨_, rfl, rfl⟩
theorem cm_wF_ok {K : cm_K} {kind p idx : Nat} {own C n d : String} (h : cm_wF K kind p own idx C n d = true) : (kind = 0 ∧ Cond.fieldLink own idx C n d ∈ K.1) ∨ (¬ kind = 0 ∧ ∃ host, Cond.fieldLinkNest own idx C n d host ∈ K.2.1) := by
  unfold cm_wF at h
  split at h
  · exact Or.inl ⟨rfl, cm_w_ok h⟩
  · rename_i hk
    split at h
    · rename_i o i c a b host hq
      obtain ⟨rfl, rfl, rfl, rfl, rfl⟩ := of_decide_eq_true h
      rw [cm_nth_eq] at hq
      exact Or.inr ⟨hk, host, List.mem_of_getElem? hq⟩
    · cases h

set_option maxHeartbeats 4000000 in
set_option maxRecDepth 100000 in
theorem cm_s_iastore {pg : cm_G} {K : cm_K} {l : Launch} {D : va_G} {b0 : Nat} {sa : Nat → Nat} {dA : FieldType → ClassId} {n : Nat} (hG : cm_Good pg K) (hB : cm_BodyAt pg K l D b0 sa dA n) : cm_StepFor pg K l D b0 sa dA n .iastore := by
  intro mi mr mn hmr hmn p e R s m args below meth c Q v hv hF hret d pc lv st h R0 np rs hat hrun hv1 hv2 H locs cells slots ls hI
  have ih := hB mi mr mn hmr hmn p e R s m args below meth c Q v hv hF hret
  obtain ⟨hx, hb, hml, hown, hts, hini, hSW⟩ := id hF
  have hok := (hG.1 mi mr mn hmr hmn).1 pc _ hat
  obtain ⟨⟨hlen, hl⟩, hP, hS, hbud, hroom⟩ := id hI
  unfold cm_step at hrun
  rw [hat] at hrun
  dsimp only at hrun
  obtain ⟨rfl, hd, hj⟩ := cm_row hok 1 rfl (by decide)
  unfold cm_astore at hrun
  split at hrun
  · rename_i vv ix a st'
    split at hrun
    · rename_i u lst hcell
      rw [cm_nth_eq] at hcell
      split at hrun
      · rename_i hc
        obtain ⟨rfl, h0, hlt⟩ := hc
        rw [cm_set_eq, cm_set_eq] at hrun
        obtain ⟨t0, ht0⟩ := cm_tl_at (dA := dA) (ty := .int) (Or.inl rfl)
        have hat0 := hP.2 a _ (cm_at_i hcell (Or.inl rfl))
        refine W.iast hx hb hat0 ((hSW.1.2 t0 _ ht0).1 lst.length (fun j => .int (cm_xi (cm_ev b0 sa (lst.getD j (.int 0)))))) (fun q => by cases q) (by show ¬ (ix < 0 ∨ (arrV _ _ _).slots.size ≤ _); rw [arrV_size]; exact cm_vp h0 hlt) rfl rfl hd (fun H1 e1 z1 o1 => ?_)
        refine ih _ _ _ _ _ _ hrun hv1 hv2 H1 _ cells slots ls ⟨⟨hlen, hl⟩, cm_Pic_set hP hcell z1 o1 ?_, cm_S_set hS z1 o1, hbud, hroom⟩
        show H1[b0 + a]? = some (vp_cell _ _)
        rw [e1, cm_arr_set]
        show some (vp_cell (dA .int) (lst.length, .inl (upd _ ix.toInt.toNat _))) = some (vp_cell (dA .int) ((lst.set _ _).length, _))
        rw [cm_el_set hlt, List.length_set]
        rfl
      · cases hrun
    · cases hrun
  · cases hrun

set_option maxHeartbeats 4000000 in
set_option maxRecDepth 100000 in
theorem cm_s_bastore {pg : cm_G} {K : cm_K} {l : Launch} {D : va_G} {b0 : Nat} {sa : Nat → Nat} {dA : FieldType → ClassId} {n : Nat} (hG : cm_Good pg K) (hB : cm_BodyAt pg K l D b0 sa dA n) : cm_StepFor pg K l D b0 sa dA n .bastore := by
  intro mi mr mn hmr hmn p e R s m args below meth c Q v hv hF hret d pc lv st h R0 np rs hat hrun hv1 hv2 H locs cells slots ls hI
  have ih := hB mi mr mn hmr hmn p e R s m args below meth c Q v hv hF hret
  obtain ⟨hx, hb, hml, hown, hts, hini, hSW⟩ := id hF
  have hok := (hG.1 mi mr mn hmr hmn).1 pc _ hat
  obtain ⟨⟨hlen, hl⟩, hP, hS, hbud, hroom⟩ := id hI
  unfold cm_step at hrun
  rw [hat] at hrun
  dsimp only at hrun
  obtain ⟨rfl, hd, hj⟩ := cm_row hok 1 rfl (by decide)
  unfold cm_astore at hrun
  split at hrun
  · rename_i vv ix a st'
    split at hrun
    · rename_i u lst hcell
      rw [cm_nth_eq] at hcell
      split at hrun
      · rename_i hc
        obtain ⟨rfl, h0, hlt⟩ := hc
        rw [cm_set_eq, cm_set_eq] at hrun
        obtain ⟨t0, ht0⟩ := cm_tl_at (dA := dA) (ty := .byte) (Or.inr rfl)
        have hat0 := hP.2 a _ (cm_at_i hcell (Or.inr rfl))
        refine W.bast hx hb hat0 ((hSW.1.2 t0 _ ht0).1 lst.length (fun j => .int (cm_xi (cm_ev b0 sa (lst.getD j (.int 0)))))) (fun q => by cases q) (by show ¬ (ix < 0 ∨ (arrV _ _ _).slots.size ≤ _); rw [arrV_size]; exact cm_vp h0 hlt) rfl rfl hd (fun H1 e1 z1 o1 => ?_)
        refine ih _ _ _ _ _ _ hrun hv1 hv2 H1 _ cells slots ls ⟨⟨hlen, hl⟩, cm_Pic_set hP hcell z1 o1 ?_, cm_S_set hS z1 o1, hbud, hroom⟩
        show H1[b0 + a]? = some (vp_cell _ _)
        rw [narrow_byte] at e1
        rw [e1, cm_arr_set]
        show some (vp_cell (dA .byte) (lst.length, .inl (upd _ ix.toInt.toNat _))) = some (vp_cell (dA .byte) ((lst.set _ _).length, _))
        rw [cm_el_set hlt, List.length_set]
        rfl
      · cases hrun
    · cases hrun
  · cases hrun

set_option maxHeartbeats 4000000 in
set_option maxRecDepth 100000 in
theorem cm_s_newarray {pg : cm_G} {K : cm_K} {l : Launch} {D : va_G} {b0 : Nat} {sa : Nat → Nat} {dA : FieldType → ClassId} {n : Nat} (hG : cm_Good pg K) (hB : cm_BodyAt pg K l D b0 sa dA n) (a : ArrayType) : cm_StepFor pg K l D b0 sa dA n (.newarray a) := by
  intro mi mr mn hmr hmn p e R s m args below meth c Q v hv hF hret d pc lv st h R0 np rs hat hrun hv1 hv2 H locs cells slots ls hI
  have ih := hB mi mr mn hmr hmn p e R s m args below meth c Q v hv hF hret
  obtain ⟨hx, hb, hml, hown, hts, hini, hSW⟩ := id hF
  have hok := (hG.1 mi mr mn hmr hmn).1 pc _ hat
  obtain ⟨⟨hlen, hl⟩, hP, hS, hbud, hroom⟩ := id hI
  unfold cm_step at hrun
  rw [hat] at hrun
  dsimp only at hrun
  obtain ⟨rfl, hd, hj⟩ := cm_row hok 2 rfl (by decide)
  obtain ⟨x, st', rfl, hrun2⟩ := cm_one_ok hrun
  split at hrun2
  · rename_i hc
    obtain ⟨h0, h4⟩ := hc
    rw [cm_app_eq] at hrun2
    obtain ⟨R1, g5, rfl⟩ := cm_more_ok hrun2
    unfold cm_j at hj
    dsimp only at hj
    split at hj
    · rename_i pw rs'
      rw [Bool.and_eq_true] at hj
      have hty : newarray.typeOf a = .int ∨ newarray.typeOf a = .byte := by
        have := hj.2
        cases a <;> first | exact Or.inl rfl | exact Or.inr rfl | (exact absurd this (by decide))
      obtain ⟨t0, ht0⟩ := cm_tl_at (dA := dA) hty
      have hn : ¬ x < 0 := by
        rw [Int32.lt_iff_toInt_lt]
        have : (0 : Int32).toInt = 0 := rfl
        omega
      have hby : x.toInt.toNat * componentBytes (newarray.typeOf a) ≤ 536870912 := by
        have h8 : componentBytes (newarray.typeOf a) ≤ 8 := by rcases hty with z | z <;> rw [z] <;> decide
        exact Nat.le_trans (Nat.mul_le_mul (show x.toInt.toNat ≤ 4096 by omega) h8) (by decide)
      dsimp only at hbud
      refine va_newaK hx hb (hts _ (cm_w_ok hj.1)) rfl hd rfl hn (N := x.toInt.toNat) rfl hby (by omega) (by omega) hP.1 (fun H1 cA e1 z1 o1 hAr hNm => ?_)
      have hcA : cA = dA (newarray.typeOf a) := by
        have h5 := (hSW.1.2 t0 _ ht0).2
        have h6 : s.vm.findClass ("[" ++ (newarray.typeOf a).toString) = some (dA (newarray.typeOf a)) := by
          rcases hty with z | z <;> rw [z] at h5 ⊢ <;> exact h5
        exact Option.some.inj (hNm.symm.trans h6)
      subst hcA
      rw [← hP.1] at z1 o1
      refine ih _ _ _ _ _ _ g5 hv1 hv2 H1 locs (cells + 1) (slots + x.toInt.toNat) ls ⟨⟨hlen, hl⟩, cm_Pic_new hP z1 o1 ?_, cm_S_new hS z1 o1, ⟨by omega, by omega⟩, hroom⟩
      have e9 : cm_cc b0 sa dA (.inl (newarray.typeOf a, List.replicate x.toInt.toNat (cm_d0 (newarray.typeOf a)))) = .inl (dA (newarray.typeOf a), x.toInt.toNat, .inl (fun _ => 0)) := by
        rcases hty with z | z <;> (rw [z]; simp only [cm_cc, cm_el, cm_d0, List.length_replicate]; congr 4; funext j; simp [List.getD_eq_getElem?_getD, List.getElem?_replicate]; split <;> rfl)
      rw [e9]
      show H1[b0 + h.length]? = some (vp_cell _ _)
      rw [e1, vp_cell_i]
      rcases hty with z | z <;> rw [z] <;> rfl
    · cases hj
  · cases hrun2

set_option maxHeartbeats 4000000 in
set_option maxRecDepth 100000 in
theorem cm_s_new {pg : cm_G} {K : cm_K} {l : Launch} {D : va_G} {b0 : Nat} {sa : Nat → Nat} {dA : FieldType → ClassId} {n : Nat} (hG : cm_Good pg K) (hB : cm_BodyAt pg K l D b0 sa dA n) (i : Nat) : cm_StepFor pg K l D b0 sa dA n (.new i) := by
  intro mi mr mn hmr hmn p e R s m args below meth c Q v hv hF hret d pc lv st h R0 np rs hat hrun hv1 hv2 H locs cells slots ls hI
  have ih := hB mi mr mn hmr hmn p e R s m args below meth c Q v hv hF hret
  obtain ⟨hx, hb, hml, hown, hts, hini, hSW⟩ := id hF
  have hok := (hG.1 mi mr mn hmr hmn).1 pc _ hat
  obtain ⟨⟨hlen, hl⟩, hP, hS, hbud, hroom⟩ := id hI
  unfold cm_step at hrun
  rw [hat] at hrun
  dsimp only at hrun
  obtain ⟨rfl, hd, hj⟩ := cm_row hok 3 rfl (by decide)
  split at hrun
  · rename_i ci rs'
    split at hrun
    · cases hrun
    · rename_i tys htys
      rw [cm_nth_eq] at htys
      rw [cm_app_eq] at hrun
      obtain ⟨R1, g5, rfl⟩ := cm_more_ok hrun
      unfold cm_j at hj
      dsimp only at hj
      split at hj
      · rename_i ci' pw qw iw rs'' heq
        cases heq
        split at hj
        · rename_i C T N hcl
          rw [cm_nth_eq] at hcl
          simp only [Bool.and_eq_true] at hj
          obtain ⟨⟨hj1, hj2⟩, hj3⟩ := hj
          obtain ⟨hin, hnm, tys', htys', hlN, hpf, hok2⟩ := hG.2.2.2.1 ci C T N hcl
          cases htys.symm.trans htys'
          have hKn := hSW.1.1 ci _ hcl
          dsimp only at hbud
          refine W.newcK hx hb hown (hts _ (cm_w_ok hj1)) (hts _ (cm_w_ok hj2)) (hts _ (cm_w_ok hj3)) rfl hd (by omega) (by omega) hKn.2.1 hP.1 (fun H1 kC hkC e1 z1 o1 => ?_)
          rw [← hP.1] at z1 o1
          refine ih _ _ _ _ _ _ g5 hv1 hv2 H1 locs (cells + 1) (slots + N) ls ⟨⟨hlen, hl⟩, cm_Pic_new hP z1 o1 ?_, cm_S_new hS z1 o1, ⟨by omega, by omega⟩, hroom⟩
          refine ⟨(C, T, N), hcl, (u_born (fun k => tys.getD k .float) hts hin hKn hkC e1 hpf).to (fun k hk => ?_)⟩
          have hkl : k < tys.length := by omega
          have hk2 := hok2 k hk
          simp only [List.getD_eq_getElem?_getD, List.getElem?_eq_getElem hkl, Option.getD_some] at hk2
          simp only [vp_V, List.map_map, List.getD_eq_getElem?_getD, List.getElem?_map, List.getElem?_eq_getElem hkl, Option.map_some, Option.getD_some, Function.comp]
          exact cm_d0_ok hk2 b0 sa
        · cases hj
      · cases hj
  · cases hrun

set_option maxHeartbeats 4000000 in
set_option maxRecDepth 100000 in
theorem cm_s_getfield {pg : cm_G} {K : cm_K} {l : Launch} {D : va_G} {b0 : Nat} {sa : Nat → Nat} {dA : FieldType → ClassId} {n : Nat} (hG : cm_Good pg K) (hB : cm_BodyAt pg K l D b0 sa dA n) (i : Nat) : cm_StepFor pg K l D b0 sa dA n (.getfield i) := by
  intro mi mr mn hmr hmn p e R s m args below meth c Q v hv hF hret d pc lv st h R0 np rs hat hrun hv1 hv2 H locs cells slots ls hI
  have ih := hB mi mr mn hmr hmn p e R s m args below meth c Q v hv hF hret
  obtain ⟨hx, hb, hml, hown, hts, hini, hSW⟩ := id hF
  have hok := (hG.1 mi mr mn hmr hmn).1 pc _ hat
  obtain ⟨⟨hlen, hl⟩, hP, hS, hbud, hroom⟩ := id hI
  unfold cm_step at hrun
  rw [hat] at hrun
  dsimp only at hrun
  obtain ⟨rfl, hd, hj⟩ := cm_row hok 3 rfl (by decide)
  split at hrun
  · rename_i ci k kind rs' t st'
    unfold cm_j at hj
    dsimp only at hj
    split at hj
    · rename_i ci' k' kind' pw rs'' heq
      cases heq
      unfold cm_get at hrun
      split at hrun
      · rename_i ix
        split at hrun
        · rename_i cx fs hcell
          rw [cm_nth_eq] at hcell
          split at hrun
          · rename_i hci
            subst hci
            split at hrun
            · rename_i vv hvv
              rw [cm_nth_eq] at hvv
              have hk := ih _ _ _ _ _ _ hrun hv1 hv2 _ _ _ _ _ hI
              have hv3 : (fs.map (cm_ev b0 sa))[k]? = some (cm_ev b0 sa vv) := by rw [List.getElem?_map, hvv]; rfl
              split at hj
              · rename_i C T N hcl
                rw [cm_nth_eq] at hcl
                rw [Bool.and_eq_true] at hj
                have hkN := of_decide_eq_true hj.1
                obtain ⟨hin, hnm, tys, htys, hlN, hpf, hok2⟩ := hG.2.2.2.1 cx C T N hcl
                rcases cm_wF_ok hj.2 with ⟨-, hw⟩ | ⟨-, host, hw⟩
                · exact va_get hx hb hts hin hown hSW.1 hP.2 ix (cm_ch_get hcell) hcl k hkN (hts _ hw) (fun _ z => z) hv3 hd hk
                · exact va_getN hx hb hts hin hown hSW.1 hP.2 ix (cm_ch_get hcell) hcl k hkN (va_Nw.use rfl (hSW.2.2.2.2.2.2 _ hw)) (fun _ z => z) hv3 hd hk
              · rename_i hno
                obtain ⟨q0, g0, -⟩ := hP.2 ix _ (cm_ch_get hcell)
                rw [← cm_nth_eq] at g0
                exact absurd g0 (hno _ _ _)
            · cases hrun
          · cases hrun
        · cases hrun
      · rename_i cc ix
        split at hrun
        · rename_i cx fs hcell
          rw [cm_nth_eq] at hcell
          split at hrun
          · rename_i hci
            obtain ⟨rfl, hk0⟩ := hci
            split at hrun
            · rename_i vv hvv
              rw [cm_nth_eq] at hvv
              have hk := ih _ _ _ _ _ _ hrun hv1 hv2 _ _ _ _ _ hI
              obtain ⟨qc, ⟨hqn, hqc⟩, hO1, hOF⟩ := hSW.2.2.2.1 ix _ fs hcell
              split at hj
              · rename_i C T N hcl
                rw [cm_nth_eq, hqn] at hcl
                cases hcl
              · rw [cm_nth_eq, hqc] at hj
                dsimp only at hj
                rcases cm_wF_ok hj with ⟨-, hw⟩ | ⟨hk1, host, hw⟩
                · exact vk_getf hx hb (hOF k vv hvv) hS hown (hts _ hw) (fun _ z => z) hd hk
                · exact absurd hk0 hk1
            · cases hrun
          · cases hrun
        · cases hrun
      · cases hrun
    · cases hj
  · cases hrun

set_option maxHeartbeats 4000000 in
set_option maxRecDepth 100000 in
theorem cm_s_getstatic {pg : cm_G} {K : cm_K} {l : Launch} {D : va_G} {b0 : Nat} {sa : Nat → Nat} {dA : FieldType → ClassId} {n : Nat} (hG : cm_Good pg K) (hB : cm_BodyAt pg K l D b0 sa dA n) (i : Nat) : cm_StepFor pg K l D b0 sa dA n (.getstatic i) := by
  intro mi mr mn hmr hmn p e R s m args below meth c Q v hv hF hret d pc lv st h R0 np rs hat hrun hv1 hv2 H locs cells slots ls hI
  have ih := hB mi mr mn hmr hmn p e R s m args below meth c Q v hv hF hret
  obtain ⟨hx, hb, hml, hown, hts, hini, hSW⟩ := id hF
  have hok := (hG.1 mi mr mn hmr hmn).1 pc _ hat
  obtain ⟨⟨hlen, hl⟩, hP, hS, hbud, hroom⟩ := id hI
  unfold cm_step at hrun
  rw [hat] at hrun
  dsimp only at hrun
  obtain ⟨rfl, hd, hj⟩ := cm_row hok 3 rfl (by decide)
  split at hrun
  · rename_i ii rs'
    split at hrun
    · rename_i t ht
      rw [cm_nth_eq] at ht
      unfold cm_j at hj
      dsimp only at hj
      split at hj
      · rename_i i' si kind pw rs'' heq
        cases heq
        split at hj
        · rename_i C nm ds j hsf
          rw [cm_nth_eq] at hsf
          rw [Bool.and_eq_true] at hj
          have hij := of_decide_eq_true hj.1
          subst hij
          obtain ⟨t', h5, h6⟩ := hSW.2.2.2.2.1 _ (List.mem_of_getElem? hsf)
          cases ht.symm.trans h5
          have hk := ih _ _ _ _ _ _ hrun hv1 hv2 _ _ _ _ _ hI
          rcases cm_wF_ok hj.2 with ⟨-, hw⟩ | ⟨-, host, hw⟩
          · exact va_gets hx hb h6 hS hown (hts _ hw) (fun _ z => z) hd hk
          · exact va_getsN hx hb h6 hS hown (va_Nw.use rfl (hSW.2.2.2.2.2.2 _ hw)) (fun _ z => z) hd hk
        · cases hj
      · cases hj
    · cases hrun
  · cases hrun
