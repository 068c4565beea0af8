/-- a stretch of a row laid over a stretch of another -/
theorem cm_cpy_eq {b0 : Nat} {sa : Nat → Nat} {l m : List Term} {sp dp n : Nat} (h1 : sp + n ≤ l.length) (h2 : dp + n ≤ m.length) : va_cpy (fun j => cm_xi (cm_ev b0 sa (l.getD j (.int 0)))) (fun j => cm_xi (cm_ev b0 sa (m.getD j (.int 0)))) sp dp n = fun j => cm_xi (cm_ev b0 sa ((m.take dp ++ ((l.drop sp).take n ++ m.drop (dp + n))).getD j (.int 0))) := by
  funext j
  unfold va_cpy
  have e : (m.take dp ++ ((l.drop sp).take n ++ m.drop (dp + n)))[j]? = if dp ≤ j ∧ j < dp + n then l[sp + (j - dp)]? else m[j]? := by
    have hl1 : (m.take dp).length = dp := by simp; omega
    have hl2 : ((l.drop sp).take n).length = n := by simp; omega
    rw [List.getElem?_append, hl1]
    by_cases hj : j < dp
    · rw [if_pos hj, if_neg (by omega), List.getElem?_take, if_pos hj]
    · rw [if_neg hj, List.getElem?_append, hl2]
      by_cases hk : j - dp < n
      · rw [if_pos hk, if_pos (by omega), List.getElem?_take, if_pos hk, List.getElem?_drop]
      · rw [if_neg hk, if_neg (by omega), List.getElem?_drop]
        congr 1
        omega
  rw [List.getD_eq_getElem?_getD (l := m.take dp ++ _), e]
  split <;> simp [List.getD_eq_getElem?_getD]
theorem cm_cpy_len {l m : List Term} {sp dp n : Nat} (h1 : sp + n ≤ l.length) (h2 : dp + n ≤ m.length) : (m.take dp ++ ((l.drop sp).take n ++ m.drop (dp + n))).length = m.length := by
  simp
  omega
section cmCopy
variable {p : Program} {l : Launch} {e : Env} {R : Room} {s : State} {m : MethodId} {args : Array Value} {below : List Frame} {meth : Method} {c : Code} {H : Heap} {locs : List Loc} {cells slots : Nat} {Q : State → Prop}
/-- System.arraycopy of ints -/
theorem cm_copyW {cc : ByteArray} {pc : Nat} {ls : Array Slot} {rest : List Value} (hx : p.tables.exec = Jvm.exec) (hb : c.code = cc) (hml : c.maxLocals = ls.size) {own : String} {index : Nat} (hown : s.vm.findClass own = some m.cls) (hlink : (Cond.methodLink own index arraycopyName).before args s = true) (hnat : (Cond.native arraycopyName).before args s = true) (hstat : (Cond.static arraycopyName).before args s = true) (hini : (Cond.initialized "java/lang/System").before args s = true)
    {cI : ClassId} (hA : ArrOfT s cI .int) {a0 a n0 n1 : Nat} {f g : Nat → Int32} (hc0 : H[a0]? = some (vp_cell cI (n0, .inl f))) (hc1 : H[a]? = some (vp_cell cI (n1, .inl g))) {sp dp n : Int32} (h1 : 0 ≤ sp.toInt) (h2 : 0 ≤ dp.toInt) (h3 : 0 ≤ n.toInt) (h4 : sp.toInt + n.toInt ≤ n0) (h5 : dp.toInt + n.toInt ≤ n1)
    (hfr : 1 ≤ R.frames) (hlo : (rest.map fun v => v.category).sum + (nativeFrameWords "java/lang/System" "arraycopy" 5 + 11) ≤ R.locals) (hdg : decode cc pc = .ok (.invokestatic index, 3))
    (kk : ∀ (H1 : Heap) (L : List Loc), (∀ q ∈ L, q.base = a) → H1[a]? = some (vp_cell cI (n1, .inl (va_cpy f g sp.toInt.toNat dp.toInt.toNat n.toInt.toNat))) → H1.size = H.size → (∀ q : Nat, q ≠ a → H1[q]? = H[q]?) → W p l e R s m args below meth c H1 (locs ++ L) cells slots Q (F0 m (pc + 3) ls rest)) : W p l e R s m args below meth c H locs cells slots Q (F0 m pc ls (.int n :: .int dp :: .ref a :: .int sp :: .ref a0 :: rest)) := by
  have z0 : (0 : Int32).toInt = 0 := rfl
  obtain ⟨-, k0, hk0, cm0, hkk0⟩ := hA n0 (fun j => .int (f j))
  obtain ⟨-, k1, hk1, cm1, hkk1⟩ := hA n1 (fun j => .int (g j))
  intro T hT X
  obtain ⟨vm', X', step⟩ := X.arraycopy hx hown hlink hnat hstat hini (by rw [hT]; exact hc0) (by rw [hT]; exact hc1) (fun _ z => by cases z) (fun _ z => by cases z) (fun z => by cases z) (fun z => by cases z) hk0 hk1 hkk0 hkk1 rfl
    (by rw [Int32.lt_iff_toInt_lt]; omega) (by rw [Int32.lt_iff_toInt_lt]; omega) (by rw [Int32.lt_iff_toInt_lt]; omega)
    (by rw [arrV_size]; omega) (by rw [arrV_size]; omega)
    (fun vm₁ _ i hi => by
      have hi' : sp.toNatClampNeg + i < n0 := by
        have e1 : sp.toNatClampNeg = sp.toInt.toNat := rfl
        have e2 : n.toNatClampNeg = n.toInt.toNat := rfl
        omega
      rw [Array.getD_eq_getD_getElem?, arrV_read _ _ hi']
      exact ⟨rfl, trivial⟩)
    (g := F0 m pc ls (.int n :: .int dp :: .ref a :: .int sp :: .ref a0 :: rest)) rfl hml.symm rfl (by rw [hb]; exact hdg) hfr (by show 2 * 0 + _ + _ ≤ _; omega)
  have e1 : copied (arrV cI n0 fun j => Value.int (f j)) (arrV cI n1 fun j => Value.int (g j)) sp dp n = vp_cell cI (n1, .inl (va_cpy f g sp.toInt.toNat dp.toInt.toNat n.toInt.toNat)) := va_copied (fun z => .int z) cI cI f g (by show sp.toInt.toNat + n.toInt.toNat ≤ n0; omega)
  rw [e1] at X' step
  have hlt : a < T.heap.size := by rw [hT]; exact (Array.getElem?_eq_some_iff.mp hc1).1
  obtain ⟨t, a1, b1⟩ := kk _ _ (fun q hq => by
      obtain ⟨z, -, hz⟩ := List.mem_map.mp hq
      rw [← hz]) (heapAt_setCell_self (s := T.setVm vm') _ hlt) (by rw [size_setCell]; show T.heap.size = _; rw [hT]) (fun q hq => by rw [heapAt_setCell_ne _ (Ne.symm hq)]; show T.heap[q]? = _; rw [hT]) _ rfl X'
  exact ⟨t, step t a1, b1⟩
end cmCopy
theorem cm_wM_ok {K : cm_K} {kind p idx : Nat} {own : String} {y : MethodName} (h : cm_wM K kind p own idx y = true) : Cond.methodLink own idx y ∈ K.1 ∨ ∃ host, Cond.methodLinkNest own idx y host ∈ K.2.1 := by
  unfold cm_wM at h
  split at h
  · exact Or.inl (cm_w_ok h)
  · split at h
    · rename_i o i z host hq
      obtain ⟨rfl, rfl, rfl⟩ := of_decide_eq_true h
      rw [cm_nth_eq] at hq
      exact Or.inr ⟨host, List.mem_of_getElem? hq⟩
    · cases h
theorem cm_goodIn {pg : cm_G} {K : cm_K} (hG : cm_Good pg K) {w0 : Cond} (h0 : w0 ∈ K.1) {xs : List Cond} (hx : ∀ w ∈ xs, w ∈ K.1) : GoodIn K.1 (xs ++ (w0 :: K.1)) := by
  intro w hw
  have h1 : w ∈ K.1 := by
    rcases List.mem_append.mp hw with h | h
    · exact hx w h
    · rcases List.mem_cons.mp h with rfl | h
      · exact h0
      · exact h
  exact ⟨h1, hG.2.2.1 w h1⟩
theorem cm_call_ok {pg : cm_G} {K : cm_K} {n d callee : Nat} {av rest : List Term} {h : cm_H} {k : List Term → cm_H → Option cm_R} {R0 : cm_R} (hG : cm_Good pg K) (hc : cm_call pg (cm_run pg n) d callee av rest h k = some R0) :
    ∃ (mr : cm_M) (mn : cm_N) (d1 : Nat) (R1 R2 : cm_R), pg.1[callee]? = some mr ∧ K.2.2.2.1[callee]? = some mn ∧ d = d1 + 1 ∧ cm_cat rest ≤ 8 ∧ (cm_slots av).length ≤ mr.2.1 ∧ cm_okA av = true ∧ cm_run pg n d1 mr 0 (cm_ent mr.2.1 av) [] h = some R1 ∧ k (R1.1.toList ++ rest) R1.2.1 = some R2 ∧ R0 = (R2.1, R2.2.1, R1.2.2.1 + R2.2.2.1, R1.2.2.2 + R2.2.2.2) := by
  unfold cm_call at hc
  rw [cm_nth_eq] at hc
  split at hc
  · cases hc
  · rename_i mr hmr
    obtain ⟨mn, hmn⟩ := hG.2.1 callee mr hmr
    split at hc
    · cases hc
    · rename_i d1
      split at hc
      · rename_i hcc
        split at hc
        · cases hc
        · rename_i v h' c s hrun
          obtain ⟨R2, g1, g2⟩ := cm_more_ok hc
          exact ⟨mr, mn, d1, (v, h', c, s), R2, hmr, hmn, rfl, hcc.1, hcc.2.1, hcc.2.2, hrun, g1, g2⟩
      · cases hc
theorem cm_pre {pg : cm_G} {K : cm_K} {D : va_G} {b0 : Nat} {sa : Nat → Nat} {dA : FieldType → ClassId} {s : State} {H : Heap} {locs : List Loc} {av : List Term} {h : cm_H} (hG : cm_Good pg K) (hSW : cm_SW pg K D b0 sa dA s) (hP : cm_Pic D K.2.2.1 b0 sa dA h H) (hS : va_S (cm_A b0) s.heap H locs) : ∀ U : State, U.heap = H → s.WarmedH U.vm → cm_Pc pg K D b0 sa dA av h (av.map (cm_ev b0 sa)).toArray U :=
  fun U hU hW => ⟨rfl, by rw [hU]; exact hP, cm_SW_warm hG.2.2.2.2 hW (by rw [hU]; exact hS) hSW⟩
theorem cm_recv_ok {pg : cm_G} {K : cm_K} {D : va_G} {b0 : Nat} {sa : Nat → Nat} {dA : FieldType → ClassId} {s : State} {H : Heap} {locs : List Loc} {h : cm_H} {ci : Nat} {t : Term} {av : List Term} {C : String} (hcl : cm_cn K ci = some C) (hSW : cm_SW pg K D b0 sa dA s) (hP : cm_Pic D K.2.2.1 b0 sa dA h H) (hS : va_S (cm_A b0) s.heap H locs) (hr : cm_recv pg h ci (t :: av) = true) : ∃ b, cm_ev b0 sa t = .ref b ∧ ∃ cellB : Cell, H[b]? = some cellB ∧ cellB.vm.isStatics = false ∧ s.vm.findClass C = some cellB.cls := by
  unfold cm_cn at hcl
  unfold cm_recv at hr
  split at hr
  · rename_i i _ heq
    cases heq
    split at hr
    · rename_i cx fs hcell
      rw [cm_nth_eq] at hcell
      have := beq_iff_eq.mp hr
      subst this
      obtain ⟨q0, g0, -⟩ := hP.2 i _ (cm_ch_get hcell)
      rw [cm_nth_eq, g0] at hcl
      obtain ⟨C0, T0, N0⟩ := q0
      cases hcl
      exact ⟨b0 + i, rfl, va_recv hSW.1 hP.2 (q := (C, T0, N0)) g0 (cm_ch_get hcell)⟩
    · cases hr
  · rename_i cc i _ heq
    cases heq
    split at hr
    · rename_i cx fs hcell
      rw [cm_nth_eq] at hcell
      have := beq_iff_eq.mp hr
      subst this
      obtain ⟨qc, ⟨hqn, hqc⟩, hO1, hOF⟩ := hSW.2.2.2.1 i _ fs hcell
      rw [cm_nth_eq, hqn] at hcl
      dsimp only at hcl
      rw [cm_nth_eq, hqc] at hcl
      obtain ⟨C0, T0⟩ := qc
      cases hcl
      obtain ⟨cell, g1, g2, g3, -⟩ := hO1.kept hS.2.1
      exact ⟨sa i, rfl, cell, g1, g2, g3⟩
    · cases hr
  · cases hr

set_option maxHeartbeats 4000000 in
set_option maxRecDepth 100000 in
theorem cm_s_putfield {pg : cm_G} {K : cm_K} {l : Launch} {D : va_G} {b0 : Nat} {sa : Nat → Nat} {dA : FieldType → ClassId} {n : Nat} (hG : cm_Good pg K) (hB : cm_BodyAt pg K l D b0 sa dA n) (i : Nat) : cm_StepFor pg K l D b0 sa dA n (.putfield i) := by
  intro mi mr mn hmr hmn p e R s m args below meth c Q v hv hF hret d pc lv st h R0 np rs hat hrun hv1 hv2 H locs cells slots ls hI
  have ih := hB mi mr mn hmr hmn p e R s m args below meth c Q v hv hF hret
  obtain ⟨hx, hb, hml, hown, hts, hini, hSW⟩ := id hF
  have hok := (hG.1 mi mr mn hmr hmn).1 pc _ hat
  obtain ⟨⟨hlen, hl⟩, hP, hS, hbud, hroom⟩ := id hI
  unfold cm_step at hrun
  rw [hat] at hrun
  dsimp only at hrun
  obtain ⟨rfl, hd, hj⟩ := cm_row hok 3 rfl (by decide)
  split at hrun
  · rename_i ci k rs' vv t st'
    unfold cm_j at hj
    dsimp only at hj
    split at hj
    · rename_i ci' k' kind pw rs'' heq
      cases heq
      split at hj
      · rename_i C T N hcl
        rw [cm_nth_eq] at hcl
        simp only [Bool.and_eq_true, Bool.or_eq_true, Bool.not_eq_true', beq_iff_eq, decide_eq_true_eq] at hj
        obtain ⟨⟨hkN, hwf⟩, hfin⟩ := hj
        obtain ⟨hin, hnm, tys, htys, hlN, hpf, hok2⟩ := hG.2.2.2.1 ci C T N hcl
        unfold cm_put at hrun
        split at hrun
        · rename_i ix
          split at hrun
          · rename_i cx fs hcell
            rw [cm_nth_eq] at hcell
            split at hrun
            · rename_i hc
              obtain ⟨rfl, hdv, hkl⟩ := hc
              rw [cm_set_eq, cm_set_eq] at hrun
              have hfty : cm_fty pg cx k = tys.getD k .float := by
                unfold cm_fty
                rw [cm_nth_eq, htys]
                dsimp only
                rw [cm_nth_eq, List.getD_eq_getElem?_getD]
                cases tys[k]? <;> rfl
              rw [hfty] at hdv
              obtain ⟨hn1, hn2⟩ := cm_dv_fit hdv b0 sa
              have hkl2 : k < (fs.map (cm_ev b0 sa)).length := by rw [List.length_map]; exact hkl
              have hap := va_apart (own := mn.2.2) hts hin (fun k => tys.getD k .float) hpf hnm hSW.1 hcl
              obtain ⟨q0, g0, cell, q1, q2, q3, q4⟩ := hP.2 ix _ (cm_ch_get hcell)
              cases g0.symm.trans hcl
              obtain ⟨hSl, hfc, kC, hkC, hkind⟩ := hSW.1.1 cx _ hcl
              obtain ⟨cf, kf, fi, f, hi, hsl⟩ := hSl k hkN
              have hst := (u_facts hfc hkC (u_lays hts hin hkN) hi).1
              have hslot : f.slot < cell.slots.size := by rw [hsl]; exact k2_hasslot (q4 k hkN)
              have hgo : ∀ H' : Heap, H'[b0 + ix]? = some (cell.setSlot f.slot (cm_ev b0 sa vv)) → H'.size = H.size → (∀ q, q ≠ b0 + ix → H'[q]? = H[q]?) → W p l e R s m args below meth c H' (locs ++ [⟨b0 + ix, f.slot⟩]) cells slots Q (F0 m (pc + 3) ls (st'.map (cm_ev b0 sa))) := by
                intro H1 e1 z1 o1
                refine ih _ _ _ _ _ _ hrun hv1 hv2 H1 _ cells slots ls ⟨⟨hlen, hl⟩, cm_Pic_set hP hcell z1 o1 ?_, cm_S_set hS z1 o1, hbud, hroom⟩
                rw [hsl] at e1
                refine ⟨_, hcl, ?_⟩
                rw [List.map_set]
                exact t_OB.to (V := updV (vp_V (fs.map (cm_ev b0 sa))) k (cm_ev b0 sa vv)) ⟨_, e1, q2, q3, t_set q4 hap hkN _⟩ (fun j _ => vp_updV_set hkl2 _ j)
              have hlay := hts _ (hin _ (u_in_lay hkN))
              unfold u_lay at hlay
              by_cases hnf : (T k).2.2.2 = true
              · rw [if_pos hnf] at hlay
                rcases hfin with hnf2 | ⟨⟨hnm1, hdecl⟩, hkind0⟩
                · rw [hnf2] at hnf; cases hnf
                · have hcf : m.cls = cf := by
                    obtain ⟨_, _, c', _, _, _, -, -, hf', -, -, -, hown2, -⟩ := Cond.laysFinal_spec hlay
                    have e1 : c' = cf := by have := hi.symm.trans hf'; simp at this; exact this.1.symm
                    rw [hdecl] at hown2
                    rw [← e1]; exact Option.some.inj (hown.symm.trans hown2)
                  rcases cm_wF_ok hwf with ⟨-, hw⟩ | ⟨hk0, host, hw⟩
                  · exact W.putFinK hx hb hown (hts _ hw) hi hst hcf (hini hnm1) (by rw [q2]; exact u_fits hfc hkC hkind (Or.inr hlay) hi (hpf k hkN) hn1 hn2) q1 q3 hslot rfl rfl hd hgo
                  · exact absurd hkind0 hk0
              · rw [if_neg hnf] at hlay
                have h6 := u_store hfc hkC hkind hlay hi (hpf k hkN) hn1 hn2
                rcases cm_wF_ok hwf with ⟨-, hw⟩ | ⟨hk0, host, hw⟩
                · exact W.putK hx hb (f := f) ⟨hown, hts _ hw, ⟨_, _, _, hi⟩, hst⟩ (by rw [q2]; exact h6) q1 q3 hslot rfl rfl hd hgo
                · exact va_WputK hx hb (f := f) hown (va_Nw.use rfl (hSW.2.2.2.2.2.2 _ hw)) hi hst (by rw [q2]; exact h6) q1 q3 hslot rfl rfl hd hgo
            · cases hrun
          · cases hrun
        · cases hrun
      · cases hj
    · cases hj
  · cases hrun

theorem cm_na_ok {y : MethodName} {n : Nat} (h : cm_na y n = true) : (parseMethodDescriptor y.desc).map (fun d => d.parameters.length) = some n ∧ y.name ≠ "law" := of_decide_eq_true h

set_option maxHeartbeats 4000000 in
set_option maxRecDepth 100000 in
theorem cm_s_invokestatic {pg : cm_G} {K : cm_K} {l : Launch} {D : va_G} {b0 : Nat} {sa : Nat → Nat} {dA : FieldType → ClassId} {n : Nat} (hG : cm_Good pg K) (hB : cm_BodyAt pg K l D b0 sa dA n) (i : Nat) : cm_StepFor pg K l D b0 sa dA n (.invokestatic i) := by
  intro mi mr mn hmr hmn p e R s m args below meth c Q v hv hF hret d pc lv st h R0 np rs hat hrun hv1 hv2 H locs cells slots ls hI
  have ih := hB mi mr mn hmr hmn p e R s m args below meth c Q v hv hF hret
  obtain ⟨hx, hb, hml, hown, hts, hini, hSW⟩ := id hF
  have hok := (hG.1 mi mr mn hmr hmn).1 pc _ hat
  obtain ⟨⟨hlen, hl⟩, hP, hS, hbud, hroom⟩ := id hI
  unfold cm_step at hrun
  rw [hat] at hrun
  dsimp only at hrun
  obtain ⟨rfl, hd, hj⟩ := cm_row hok 3 rfl (by decide)
  split at hrun
  · rename_i callee na rs'
    obtain ⟨ys, rest, rfl, hys, hrun0⟩ := cm_pop_ok hrun
    rw [List.append_nil] at hrun0
    obtain ⟨mr', mn', d1, R1, R2, hmr', hmn', rfl, hcat, hsl, hoA, hrun1, hrun2, rfl⟩ := cm_call_ok hG hrun0
    dsimp only at hbud hv1 hv2
    unfold cm_j at hj
    dsimp only at hj
    split at hj
    · rename_i callee' na' kind pw qw iw rs'' heq
      cases heq
      rw [cm_nth_eq, hmn'] at hj
      dsimp only at hj
      simp only [Bool.and_eq_true] at hj
      obtain ⟨⟨⟨hj1, hj2⟩, hj3⟩, hj4⟩ := hj
      have hM := cm_met hG hB hmr' hmn' hrun1 hoA hsl
      obtain ⟨-, hcode, -, hcls, hmh, hmx, hctor⟩ := hG.1 callee mr' mn' hmr' hmn'
      have hcode := hcode (cm_na_ok hj4).2
      have hW8 : ((rest.map (cm_ev b0 sa)).map fun v => v.category).sum ≤ 8 := Nat.le_trans (cm_catL b0 sa rest) hcat
      have hst : (ys ++ rest).map (cm_ev b0 sa) = ((ys.reverse).map (cm_ev b0 sa)).reverse ++ rest.map (cm_ev b0 sa) := by simp
      have hlen2 : ((ys.reverse).map (cm_ev b0 sa)).length = na := by simp [hys]
      rcases cm_wM_ok hj1 with hw | ⟨host, hw⟩
      · refine cm_after (va_runS (As := (ys.reverse).map (cm_ev b0 sa)) (rest := rest.map (cm_ev b0 sa)) ⟨hx, hb, hml, hown, hts⟩ hM (va_cwS na hts (cm_goodIn hG hcode (fun w hw' => ?_)) rfl rfl rfl ⟨hmh.1, hmh.2, (cm_na_ok hj4).1⟩ ⟨by show d1 + 1 ≤ R.frames; omega, by show 8 + (mr'.2.1 + 11) + 64 * d1 ≤ R.locals; omega⟩) ⟨cm_blind hG.2.2.2.2, cm_pre hG hSW hP hS⟩ rfl hlen2 hl.1 hst (lv_room hW8) hd ⟨by omega, by omega⟩) hS (fun H1 locs1 hP1 hS1 => by
        have hk := ih _ _ _ _ _ _ hrun2 hv1 hv2 H1 locs1 (cells + R1.2.2.1) (slots + R1.2.2.2) ls ⟨⟨hlen, hl⟩, hP1, hS1, ⟨by omega, by omega⟩, hroom⟩
        rw [List.map_append] at hk
        rw [show (R1.1.map (cm_ev b0 sa)).toList = R1.1.toList.map (cm_ev b0 sa) by cases R1.1 <;> rfl]
        exact hk)
        simp only [List.mem_cons, List.not_mem_nil, or_false] at hw'
        rcases hw' with rfl | rfl | rfl
        · exact hw
        · exact cm_w_ok hj2
        · exact cm_w_ok hj3
      · refine cm_after (va_runSN (As := (ys.reverse).map (cm_ev b0 sa)) (rest := rest.map (cm_ev b0 sa)) ⟨hx, hb, hml, hown, hts⟩ hM ⟨va_cnB na hts (cm_goodIn hG hcode (xs := []) (fun _ z => absurd z List.not_mem_nil)) rfl rfl rfl (hSW.2.2.2.2.2.2 _ hw) (hts _ (cm_w_ok hj3)) ⟨hmh.1, hmh.2, (cm_na_ok hj4).1⟩ ⟨by show d1 + 1 ≤ R.frames; omega, by show 8 + (mr'.2.1 + 11) + 64 * d1 ≤ R.locals; omega⟩, hts _ (cm_w_ok hj2), trivial⟩ ⟨cm_blind hG.2.2.2.2, cm_pre hG hSW hP hS⟩ rfl hlen2 hl.1 hst (lv_room hW8) hd ⟨by omega, by omega⟩) hS (fun H1 locs1 hP1 hS1 => by
        have hk := ih _ _ _ _ _ _ hrun2 hv1 hv2 H1 locs1 (cells + R1.2.2.1) (slots + R1.2.2.2) ls ⟨⟨hlen, hl⟩, hP1, hS1, ⟨by omega, by omega⟩, hroom⟩
        rw [List.map_append] at hk
        rw [show (R1.1.map (cm_ev b0 sa)).toList = R1.1.toList.map (cm_ev b0 sa) by cases R1.1 <;> rfl]
        exact hk)
    all_goals first | (cases hj; done) | (rename_i heq; cases heq; done) | contradiction
  · rename_i rs'
    obtain ⟨ys, rest, rfl, hys, hrun0⟩ := cm_pop_ok hrun
    rw [List.append_nil] at hrun0
    split at hrun0
    · cases hrun0
    rename_i hdc
    unfold cm_j at hj
    dsimp only at hj
    split at hj
    · rename_i heq; cases heq
    · rename_i pw qw iw jw rs'' heq
      cases heq
      simp only [Bool.and_eq_true] at hj
      obtain ⟨⟨⟨hj1, hj2⟩, hj3⟩, hj4⟩ := hj
      unfold cm_copy at hrun0
      split at hrun0
      · rename_i ia sp ib dp nn heq
        have hys2 : ys = [.int nn, .int dp, .index ib, .int sp, .index ia] := by
          have := congrArg List.reverse heq
          simpa using this
        subst hys2
        split at hrun0
        · rename_i u la w lm hca hcb
          rw [cm_nth_eq] at hca hcb
          split at hrun0
          · rename_i hcc
            obtain ⟨rfl, rfl, h1, h2, h3, h4, h5⟩ := hcc
            rw [cm_set_eq] at hrun0
            have hsp : sp.toInt.toNat + nn.toInt.toNat ≤ la.length := by omega
            have hdp : dp.toInt.toNat + nn.toInt.toNat ≤ lm.length := by omega
            have hW8 : ((rest.map (cm_ev b0 sa)).map fun v => v.category).sum ≤ 8 := Nat.le_trans (cm_catL b0 sa rest) (by omega)
            refine cm_copyW hx hb (hml.trans hl.1.symm) hown (hts _ (cm_w_ok hj1)) (hts _ (cm_w_ok hj2)) (hts _ (cm_w_ok hj3)) (hts _ (cm_w_ok hj4)) (hSW.1.2 0 _ rfl).1 (hP.2 ia _ (cm_at_i hca (Or.inl rfl))) (hP.2 ib _ (cm_at_i hcb (Or.inl rfl))) h1 h2 h3 h4 h5 (by omega) ?_ hd (fun H1 L hL e1 z1 o1 => ?_)
            · have h56 : nativeFrameWords "java/lang/System" "arraycopy" 5 + 11 ≤ 56 := by decide +kernel
              show ((rest.map (cm_ev b0 sa)).map fun v => v.category).sum + _ ≤ _
              omega
            · refine ih _ _ _ _ _ _ hrun0 hv1 hv2 H1 _ cells slots ls ⟨⟨hlen, hl⟩, cm_Pic_set hP hcb z1 o1 ?_, ⟨by rw [z1]; exact hS.1, fun q q1 q2 => by rw [o1 q (fun z => q2 (by rw [z]; exact Nat.le_add_right _ _))]; exact hS.2.1 q q1 q2, fun q hq => by
                  rcases List.mem_append.mp hq with z | z
                  · exact hS.2.2 q z
                  · rw [hL q z]; exact Nat.le_add_right _ _⟩, hbud, hroom⟩
              show H1[b0 + ib]? = some (vp_cell (dA .int) (_, .inl _))
              rw [e1, cm_cpy_eq hsp hdp, cm_cpy_len hsp hdp]
          · cases hrun0
        · cases hrun0
      · cases hrun0
    all_goals first | (cases hj; done) | (rename_i heq; cases heq; done) | contradiction
  · rename_i rs'
    obtain ⟨x, y, st', rfl, hrun2⟩ := cm_two_ok hrun
    split at hrun2
    · cases hrun2
    rename_i hdc
    have hW8 : ((st'.map (cm_ev b0 sa)).map fun v => v.category).sum ≤ 8 := Nat.le_trans (cm_catL b0 sa st') (by omega)
    unfold cm_j at hj
    dsimp only at hj
    split at hj
    · rename_i heq; cases heq
    · rename_i heq; cases heq
    · rename_i pw qw iw jw rs'' heq
      cases heq
      simp only [Bool.and_eq_true] at hj
      obtain ⟨⟨⟨hj1, hj2⟩, hj3⟩, hj4⟩ := hj
      exact va_mmax hx hb (hml.trans hl.1.symm) hown (hts _ (cm_w_ok hj1)) (hts _ (cm_w_ok hj2)) (hts _ (cm_w_ok hj3)) (hts _ (cm_w_ok hj4)) (by omega) (by omega) (by omega) (by omega) hd (ih _ _ _ _ _ _ hrun2 hv1 hv2 _ _ _ _ _ hI)
    all_goals first | (cases hj; done) | (rename_i heq; cases heq; done) | contradiction
  · rename_i rs'
    obtain ⟨x, y, st', rfl, hrun2⟩ := cm_two_ok hrun
    split at hrun2
    · cases hrun2
    rename_i hdc
    have hW8 : ((st'.map (cm_ev b0 sa)).map fun v => v.category).sum ≤ 8 := Nat.le_trans (cm_catL b0 sa st') (by omega)
    unfold cm_j at hj
    dsimp only at hj
    split at hj
    · rename_i heq; cases heq
    · rename_i heq; cases heq
    · rename_i heq; cases heq
    · rename_i pw qw iw jw rs'' heq
      cases heq
      simp only [Bool.and_eq_true] at hj
      obtain ⟨⟨⟨hj1, hj2⟩, hj3⟩, hj4⟩ := hj
      exact va_mmin hx hb (hml.trans hl.1.symm) hown (hts _ (cm_w_ok hj1)) (hts _ (cm_w_ok hj2)) (hts _ (cm_w_ok hj3)) (hts _ (cm_w_ok hj4)) (by omega) (by omega) (by omega) (by omega) hd (ih _ _ _ _ _ _ hrun2 hv1 hv2 _ _ _ _ _ hI)
    all_goals first | (cases hj; done) | (rename_i heq; cases heq; done) | contradiction
  · rename_i rs'
    obtain ⟨x, st', rfl, hrun2⟩ := cm_one_ok hrun
    split at hrun2
    · cases hrun2
    rename_i hdc
    have hW8 : ((st'.map (cm_ev b0 sa)).map fun v => v.category).sum ≤ 8 := Nat.le_trans (cm_catL b0 sa st') (by omega)
    unfold cm_j at hj
    dsimp only at hj
    split at hj
    · rename_i heq; cases heq
    · rename_i heq; cases heq
    · rename_i heq; cases heq
    · rename_i heq; cases heq
    · rename_i pw qw iw jw rs'' heq
      cases heq
      simp only [Bool.and_eq_true] at hj
      obtain ⟨⟨⟨hj1, hj2⟩, hj3⟩, hj4⟩ := hj
      exact va_mabs hx hb (hml.trans hl.1.symm) hown (hts _ (cm_w_ok hj1)) (hts _ (cm_w_ok hj2)) (hts _ (cm_w_ok hj3)) (hts _ (cm_w_ok hj4)) (by omega) (by omega) (by omega) (by omega) hd (ih _ _ _ _ _ _ hrun2 hv1 hv2 _ _ _ _ _ hI)
    all_goals first | (cases hj; done) | (rename_i heq; cases heq; done) | contradiction
  · cases hrun

set_option maxHeartbeats 4000000 in
set_option maxRecDepth 100000 in
theorem cm_s_invokevirtual {pg : cm_G} {K : cm_K} {l : Launch} {D : va_G} {b0 : Nat} {sa : Nat → Nat} {dA : FieldType → ClassId} {n : Nat} (hG : cm_Good pg K) (hB : cm_BodyAt pg K l D b0 sa dA n) (i : Nat) : cm_StepFor pg K l D b0 sa dA n (.invokevirtual i) := by
  intro mi mr mn hmr hmn p e R s m args below meth c Q v hv hF hret d pc lv st h R0 np rs hat hrun hv1 hv2 H locs cells slots ls hI
  have ih := hB mi mr mn hmr hmn p e R s m args below meth c Q v hv hF hret
  obtain ⟨hx, hb, hml, hown, hts, hini, hSW⟩ := id hF
  have hok := (hG.1 mi mr mn hmr hmn).1 pc _ hat
  obtain ⟨⟨hlen, hl⟩, hP, hS, hbud, hroom⟩ := id hI
  unfold cm_step at hrun
  rw [hat] at hrun
  dsimp only at hrun
  obtain ⟨rfl, hd, hj⟩ := cm_row hok 3 rfl (by decide)
  split at hrun
  · rename_i ci callee na rs'
    obtain ⟨ys, rest, rfl, hys, hrun0⟩ := cm_pop_ok hrun
    rw [List.append_nil] at hrun0
    split at hrun0
    · rename_i hrc
      obtain ⟨mr', mn', d1, R1, R2, hmr', hmn', rfl, hcat, hsl, hoA, hrun1, hrun2, rfl⟩ := cm_call_ok hG hrun0
      dsimp only at hbud hv1 hv2
      obtain ⟨t, as, hta⟩ : ∃ t as, ys.reverse = t :: as := by
        cases hr : ys.reverse with
        | nil => rw [hr] at hrc; cases hrc
        | cons t as => exact ⟨t, as, rfl⟩
      have hys2 : ys = as.reverse ++ [t] := by
        have := congrArg List.reverse hta
        simpa using this
      unfold cm_j at hj
      dsimp only at hj
      split at hj
      · rename_i ci' callee' na' kind pw qw iw jw rs'' heq
        cases heq
        split at hj
        · rename_i y by' oy hml'
          rw [cm_nth_eq] at hml'
          cases hmn'.symm.trans hml'
          simp only [Bool.and_eq_true, decide_eq_true_eq] at hj
          obtain ⟨⟨⟨⟨⟨hj0, hj1⟩, hj2⟩, hj3⟩, hj4⟩, hj5⟩ := hj
          have hM := cm_met hG hB hmr' hmn' hrun1 hoA hsl
          obtain ⟨-, hcode, -, hcls, hmh, hmx, hctor⟩ := hG.1 callee mr' _ hmr' hmn'
          have hcode := hcode (cm_na_ok hj5).2
          dsimp only at hcode hcls hmh hM
          rw [hta] at hrc hM
          obtain ⟨b, hbv, hcell⟩ := cm_recv_ok hj0 hSW hP hS hrc
          have hW8 : ((rest.map (cm_ev b0 sa)).map fun v => v.category).sum ≤ 8 := Nat.le_trans (cm_catL b0 sa rest) hcat
          have hst : (ys ++ rest).map (cm_ev b0 sa) = (as.map (cm_ev b0 sa)).reverse ++ Value.ref b :: rest.map (cm_ev b0 sa) := by rw [hys2, ← hbv]; simp
          have hlen2 : (as.map (cm_ev b0 sa)).length = na := by
            have := congrArg List.length hta
            simp at this ⊢
            omega
          have hpre : ∀ U : State, U.heap = H → s.WarmedH U.vm → cm_Pc pg K D b0 sa dA (t :: as) h (Value.ref b :: as.map (cm_ev b0 sa)).toArray U := by
            intro U hU hW
            rw [← hbv]
            exact cm_pre (av := t :: as) hG hSW hP hS U hU hW
          rcases cm_wM_ok hj1 with hw | ⟨host, hw⟩
          · refine cm_after (va_runV (As := as.map (cm_ev b0 sa)) (rest := rest.map (cm_ev b0 sa)) (b := b) ⟨hx, hb, hml, hown, hts⟩ hM (cwV na hts (cm_goodIn hG hcode (fun w hw' => ?_)) rfl rfl rfl ⟨rfl, hmh.1, hmh.2, (cm_na_ok hj5).1⟩ ⟨by show d1 + 1 ≤ R.frames; omega, by show 8 + (mr'.2.1 + 11) + 64 * d1 ≤ R.locals; omega⟩) ⟨cm_blind hG.2.2.2.2, hcell, hpre⟩ rfl hlen2 hl.1 hst (lv_room hW8) hd ⟨by omega, by omega⟩) hS (fun H1 locs1 hP1 hS1 => by
        have hk := ih _ _ _ _ _ _ hrun2 hv1 hv2 H1 locs1 (cells + R1.2.2.1) (slots + R1.2.2.2) ls ⟨⟨hlen, hl⟩, hP1, hS1, ⟨by omega, by omega⟩, hroom⟩
        rw [List.map_append] at hk
        rw [show (R1.1.map (cm_ev b0 sa)).toList = R1.1.toList.map (cm_ev b0 sa) by cases R1.1 <;> rfl]
        exact hk)
            simp only [List.mem_cons, List.not_mem_nil, or_false] at hw'
            rcases hw' with rfl | rfl | rfl | rfl
            · exact hw
            · exact cm_w_ok hj2
            · exact cm_w_ok hj3
            · exact cm_w_ok hj4
          · exact cm_after (va_runVN (As := as.map (cm_ev b0 sa)) (rest := rest.map (cm_ev b0 sa)) (b := b) ⟨hx, hb, hml, hown, hts⟩ hM ⟨va_cnB na hts (cm_goodIn hG hcode (xs := []) (fun _ z => absurd z List.not_mem_nil)) rfl rfl rfl (hSW.2.2.2.2.2.2 _ hw) (hts _ (cm_w_ok hj4)) ⟨hmh.1, hmh.2, (cm_na_ok hj5).1⟩ ⟨by show d1 + 1 ≤ R.frames; omega, by show 8 + (mr'.2.1 + 11) + 64 * d1 ≤ R.locals; omega⟩, hts _ (cm_w_ok hj2), hts _ (cm_w_ok hj3)⟩ ⟨cm_blind hG.2.2.2.2, hcell, hpre⟩ rfl hlen2 hl.1 hst (lv_room hW8) hd ⟨by omega, by omega⟩) hS (fun H1 locs1 hP1 hS1 => by
        have hk := ih _ _ _ _ _ _ hrun2 hv1 hv2 H1 locs1 (cells + R1.2.2.1) (slots + R1.2.2.2) ls ⟨⟨hlen, hl⟩, hP1, hS1, ⟨by omega, by omega⟩, hroom⟩
        rw [List.map_append] at hk
        rw [show (R1.1.map (cm_ev b0 sa)).toList = R1.1.toList.map (cm_ev b0 sa) by cases R1.1 <;> rfl]
        exact hk)
        · cases hj
      · cases hj
    · cases hrun0
  · cases hrun

set_option maxHeartbeats 4000000 in
set_option maxRecDepth 100000 in
theorem cm_s_invokespecial {pg : cm_G} {K : cm_K} {l : Launch} {D : va_G} {b0 : Nat} {sa : Nat → Nat} {dA : FieldType → ClassId} {n : Nat} (hG : cm_Good pg K) (hB : cm_BodyAt pg K l D b0 sa dA n) (i : Nat) : cm_StepFor pg K l D b0 sa dA n (.invokespecial i) := by
  intro mi mr mn hmr hmn p e R s m args below meth c Q v hv hF hret d pc lv st h R0 np rs hat hrun hv1 hv2 H locs cells slots ls hI
  have ih := hB mi mr mn hmr hmn p e R s m args below meth c Q v hv hF hret
  obtain ⟨hx, hb, hml, hown, hts, hini, hSW⟩ := id hF
  have hok := (hG.1 mi mr mn hmr hmn).1 pc _ hat
  obtain ⟨⟨hlen, hl⟩, hP, hS, hbud, hroom⟩ := id hI
  unfold cm_step at hrun
  rw [hat] at hrun
  dsimp only at hrun
  obtain ⟨rfl, hd, hj⟩ := cm_row hok 3 rfl (by decide)
  split at hrun
  · rename_i rs'
    split at hrun
    · rename_i ix st'
      split at hrun
      · cases hrun
      · rename_i hdc
        have hW8 : ((st'.map (cm_ev b0 sa)).map fun v => v.category).sum ≤ 8 := Nat.le_trans (cm_catL b0 sa st') (by omega)
        unfold cm_j at hj
        dsimp only at hj
        split at hj
        · rename_i pw qw iw rs'' heq
          cases heq
          simp only [Bool.and_eq_true] at hj
          obtain ⟨⟨hj1, hj2⟩, hj3⟩ := hj
          exact W.objInit hx hb hown (hts _ (cm_w_ok hj1)) (hts _ (cm_w_ok hj2)) (hts _ (cm_w_ok hj3)) rfl (by rw [hml]; exact hl.1) rfl hd (by omega) (by show 2 * 0 + _ + 12 ≤ _; omega) (ih _ _ _ _ _ _ hrun hv1 hv2 _ _ _ _ _ hI)
        all_goals first | (cases hj; done) | (rename_i heq; cases heq; done) | contradiction
    · cases hrun
  · rename_i callee na rs'
    obtain ⟨ys, rest, rfl, hys, hrun0⟩ := cm_pop_ok hrun
    rw [List.append_nil] at hrun0
    split at hrun0
    · rename_i hrc
      obtain ⟨mr', mn', d1, R1, R2, hmr', hmn', rfl, hcat, hsl, hoA, hrun1, hrun2, rfl⟩ := cm_call_ok hG hrun0
      dsimp only at hbud hv1 hv2
      obtain ⟨t, as, hta⟩ : ∃ t as, ys.reverse = .index t :: as := by
        unfold cm_isN at hrc
        split at hrc
        · rename_i t as heq
          exact ⟨t, as, heq⟩
        · cases hrc
      have hys2 : ys = as.reverse ++ [.index t] := by
        have := congrArg List.reverse hta
        simpa using this
      unfold cm_j at hj
      dsimp only at hj
      split at hj
      · rename_i heq; cases heq
      · rename_i callee' na' kind pw qw iw rs'' heq
        cases heq
        rw [cm_nth_eq, hmn'] at hj
        dsimp only at hj
        simp only [Bool.and_eq_true, decide_eq_true_eq] at hj
        obtain ⟨⟨⟨⟨hj1, hj2⟩, hj3⟩, hj4⟩, hj5⟩ := hj
        have hM := cm_met hG hB hmr' hmn' hrun1 hoA hsl
        obtain ⟨-, hcode, -, hcls, hmh, hmx, hctor⟩ := hG.1 callee mr' mn' hmr' hmn'
        have hcode := hcode (cm_na_ok hj5).2
        rw [hta] at hM
        have hW8 : ((rest.map (cm_ev b0 sa)).map fun v => v.category).sum ≤ 8 := Nat.le_trans (cm_catL b0 sa rest) hcat
        have hst : (ys ++ rest).map (cm_ev b0 sa) = (as.map (cm_ev b0 sa)).reverse ++ Value.ref (b0 + t) :: rest.map (cm_ev b0 sa) := by rw [hys2]; simp [cm_ev]
        have hlen2 : (as.map (cm_ev b0 sa)).length = na := by
          have := congrArg List.length hta
          simp at this ⊢
          omega
        have hret0 : mr'.2.2 = none := hctor hj4
        rw [hret0] at hM hcode
        rcases cm_wM_ok hj1 with hw | ⟨host, hw⟩
        · exact cm_after (va_runI (As := as.map (cm_ev b0 sa)) (rest := rest.map (cm_ev b0 sa)) (b := b0 + t) ⟨hx, hb, hml, hown, hts⟩ hM (cwI na hts (cm_goodIn hG hcode (xs := []) (fun _ z => absurd z List.not_mem_nil)) rfl rfl rfl (hts _ (cm_w_ok hj3)) (hts _ hw) (hts _ (cm_w_ok hj2)) hj4 ⟨hmh.1, hmh.2, (cm_na_ok hj5).1⟩ ⟨by show d1 + 1 ≤ R.frames; omega, by show 8 + (mr'.2.1 + 11) + 64 * d1 ≤ R.locals; omega⟩) ⟨cm_blind hG.2.2.2.2, cm_pre (av := .index t :: as) hG hSW hP hS⟩ rfl hlen2 hl.1 hst (lv_room hW8) hd ⟨by omega, by omega⟩) hS (fun H1 locs1 hP1 hS1 => by
        have hk := ih _ _ _ _ _ _ hrun2 hv1 hv2 H1 locs1 (cells + R1.2.2.1) (slots + R1.2.2.2) ls ⟨⟨hlen, hl⟩, hP1, hS1, ⟨by omega, by omega⟩, hroom⟩
        rw [List.map_append] at hk
        rw [show (R1.1.map (cm_ev b0 sa)).toList = R1.1.toList.map (cm_ev b0 sa) by cases R1.1 <;> rfl]
        exact hk)
        · exact cm_after (va_runIN (As := as.map (cm_ev b0 sa)) (rest := rest.map (cm_ev b0 sa)) (b := b0 + t) ⟨hx, hb, hml, hown, hts⟩ hM ⟨va_cnB na hts (cm_goodIn hG hcode (xs := []) (fun _ z => absurd z List.not_mem_nil)) rfl rfl rfl (hSW.2.2.2.2.2.2 _ hw) (hts _ (cm_w_ok hj3)) ⟨hmh.1, hmh.2, (cm_na_ok hj5).1⟩ ⟨by show d1 + 1 ≤ R.frames; omega, by show 8 + (mr'.2.1 + 11) + 64 * d1 ≤ R.locals; omega⟩, hj4, hts _ (cm_w_ok hj2)⟩ ⟨cm_blind hG.2.2.2.2, cm_pre (av := .index t :: as) hG hSW hP hS⟩ rfl hlen2 hl.1 hst (lv_room hW8) hd ⟨by omega, by omega⟩) hS (fun H1 locs1 hP1 hS1 => by
        have hk := ih _ _ _ _ _ _ hrun2 hv1 hv2 H1 locs1 (cells + R1.2.2.1) (slots + R1.2.2.2) ls ⟨⟨hlen, hl⟩, hP1, hS1, ⟨by omega, by omega⟩, hroom⟩
        rw [List.map_append] at hk
        rw [show (R1.1.map (cm_ev b0 sa)).toList = R1.1.toList.map (cm_ev b0 sa) by cases R1.1 <;> rfl]
        exact hk)
      · cases hj
    · cases hrun0
  · cases hrun
