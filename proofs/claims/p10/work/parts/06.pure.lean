/-- one instruction of the interpreter is one of the Java machine -/
def cm_StepFor (pg : cm_G) (K : cm_K) (l : Launch) (D : va_G) (b0 : Nat) (sa : Nat → Nat) (dA : FieldType → ClassId) (n : Nat) (ins : Instr) : Prop :=
  ∀ (mi : Nat) (mr : cm_M) (mn : cm_N), pg.1[mi]? = some mr → K.2.2.2.1[mi]? = some mn →
  ∀ (p : Program) (e : Env) (R : Room) (s : State) (m : MethodId) (args : Array Value) (below : List Frame) (meth : Method) (c : Code) (Q : State → Prop) (v : Option Term) (hv : cm_H), cm_Fix pg K D b0 sa dA p s m args meth c mr mn →
  (∀ (pc : Nat) (ls : Array Slot) (H : Heap) (locs : List Loc) (cells slots : Nat), cm_Ret mr mn.2.1 pc v → cm_Pic D K.2.2.1 b0 sa dA hv H → va_S (cm_A b0) s.heap H locs → cells ≤ R.cells → slots ≤ R.slots → W p l e R s m args below meth c H locs cells slots Q (F0 m pc ls (v.toList.map (cm_ev b0 sa)))) →
  ∀ (d pc : Nat) (lv : cm_Lv) (st : List Term) (h : cm_H) (R0 : cm_R) (np : Nat) (rs : List Nat), cm_at mr.1 pc = some (ins, np, rs) → cm_step pg (cm_run pg n) d mr pc lv st h = some R0 → R0.1 = v → R0.2.1 = hv →
  ∀ (H : Heap) (locs : List Loc) (cells slots : Nat) (ls : Array Slot), cm_Inv K D b0 sa dA R s mr.2.1 d lv h R0 H locs cells slots ls → W p l e R s m args below meth c H locs cells slots Q (F0 m pc ls (st.map (cm_ev b0 sa)))

set_option maxHeartbeats 4000000 in
set_option maxRecDepth 100000 in
theorem cm_s_iconst {pg : cm_G} {K : cm_K} {l : Launch} {D : va_G} {b0 : Nat} {sa : Nat → Nat} {dA : FieldType → ClassId} {n : Nat} (hG : cm_Good pg K) (hB : cm_BodyAt pg K l D b0 sa dA n) (i : Int) : cm_StepFor pg K l D b0 sa dA n (.iconst i) := by
  intro mi mr mn hmr hmn p e R s m args below meth c Q v hv hF hret d pc lv st h R0 np rs hat hrun hv1 hv2 H locs cells slots ls hI
  have ih := hB mi mr mn hmr hmn p e R s m args below meth c Q v hv hF hret
  obtain ⟨hx, hb, hml, hown, hts, hini, hSW⟩ := id hF
  have hok := (hG.1 mi mr mn hmr hmn).1 pc _ hat
  obtain ⟨⟨hlen, hl⟩, hP, hS, hbud, hroom⟩ := id hI
  unfold cm_step at hrun
  rw [hat] at hrun
  dsimp only at hrun
  obtain ⟨rfl, hd, hj⟩ := cm_row hok 1 rfl (by decide)
  exact lv_iconst hx hb hd rfl (ih _ _ _ _ _ _ hrun hv1 hv2 _ _ _ _ _ hI)

set_option maxHeartbeats 4000000 in
set_option maxRecDepth 100000 in
theorem cm_s_bipush {pg : cm_G} {K : cm_K} {l : Launch} {D : va_G} {b0 : Nat} {sa : Nat → Nat} {dA : FieldType → ClassId} {n : Nat} (hG : cm_Good pg K) (hB : cm_BodyAt pg K l D b0 sa dA n) (i : Int) : cm_StepFor pg K l D b0 sa dA n (.bipush i) := by
  intro mi mr mn hmr hmn p e R s m args below meth c Q v hv hF hret d pc lv st h R0 np rs hat hrun hv1 hv2 H locs cells slots ls hI
  have ih := hB mi mr mn hmr hmn p e R s m args below meth c Q v hv hF hret
  obtain ⟨hx, hb, hml, hown, hts, hini, hSW⟩ := id hF
  have hok := (hG.1 mi mr mn hmr hmn).1 pc _ hat
  obtain ⟨⟨hlen, hl⟩, hP, hS, hbud, hroom⟩ := id hI
  unfold cm_step at hrun
  rw [hat] at hrun
  dsimp only at hrun
  obtain ⟨rfl, hd, hj⟩ := cm_row hok 2 rfl (by decide)
  exact lv_bipush hx hb hd rfl (ih _ _ _ _ _ _ hrun hv1 hv2 _ _ _ _ _ hI)

set_option maxHeartbeats 4000000 in
set_option maxRecDepth 100000 in
theorem cm_s_sipush {pg : cm_G} {K : cm_K} {l : Launch} {D : va_G} {b0 : Nat} {sa : Nat → Nat} {dA : FieldType → ClassId} {n : Nat} (hG : cm_Good pg K) (hB : cm_BodyAt pg K l D b0 sa dA n) (i : Int) : cm_StepFor pg K l D b0 sa dA n (.sipush i) := by
  intro mi mr mn hmr hmn p e R s m args below meth c Q v hv hF hret d pc lv st h R0 np rs hat hrun hv1 hv2 H locs cells slots ls hI
  have ih := hB mi mr mn hmr hmn p e R s m args below meth c Q v hv hF hret
  obtain ⟨hx, hb, hml, hown, hts, hini, hSW⟩ := id hF
  have hok := (hG.1 mi mr mn hmr hmn).1 pc _ hat
  obtain ⟨⟨hlen, hl⟩, hP, hS, hbud, hroom⟩ := id hI
  unfold cm_step at hrun
  rw [hat] at hrun
  dsimp only at hrun
  obtain ⟨rfl, hd, hj⟩ := cm_row hok 3 rfl (by decide)
  exact lv_sipush hx hb hd rfl (ih _ _ _ _ _ _ hrun hv1 hv2 _ _ _ _ _ hI)

set_option maxHeartbeats 4000000 in
set_option maxRecDepth 100000 in
theorem cm_s_lconst {pg : cm_G} {K : cm_K} {l : Launch} {D : va_G} {b0 : Nat} {sa : Nat → Nat} {dA : FieldType → ClassId} {n : Nat} (hG : cm_Good pg K) (hB : cm_BodyAt pg K l D b0 sa dA n) (i : Fin 2) : cm_StepFor pg K l D b0 sa dA n (.lconst i) := by
  intro mi mr mn hmr hmn p e R s m args below meth c Q v hv hF hret d pc lv st h R0 np rs hat hrun hv1 hv2 H locs cells slots ls hI
  have ih := hB mi mr mn hmr hmn p e R s m args below meth c Q v hv hF hret
  obtain ⟨hx, hb, hml, hown, hts, hini, hSW⟩ := id hF
  have hok := (hG.1 mi mr mn hmr hmn).1 pc _ hat
  obtain ⟨⟨hlen, hl⟩, hP, hS, hbud, hroom⟩ := id hI
  unfold cm_step at hrun
  rw [hat] at hrun
  dsimp only at hrun
  obtain ⟨rfl, hd, hj⟩ := cm_row hok 1 rfl (by decide)
  exact lv_lconst hx hb hd rfl (ih _ _ _ _ _ _ hrun hv1 hv2 _ _ _ _ _ hI)

set_option maxHeartbeats 4000000 in
set_option maxRecDepth 100000 in
theorem cm_s_iload {pg : cm_G} {K : cm_K} {l : Launch} {D : va_G} {b0 : Nat} {sa : Nat → Nat} {dA : FieldType → ClassId} {n : Nat} (hG : cm_Good pg K) (hB : cm_BodyAt pg K l D b0 sa dA n) (i : Nat) : cm_StepFor pg K l D b0 sa dA n (.iload i) := by
  intro mi mr mn hmr hmn p e R s m args below meth c Q v hv hF hret d pc lv st h R0 np rs hat hrun hv1 hv2 H locs cells slots ls hI
  have ih := hB mi mr mn hmr hmn p e R s m args below meth c Q v hv hF hret
  obtain ⟨hx, hb, hml, hown, hts, hini, hSW⟩ := id hF
  have hok := (hG.1 mi mr mn hmr hmn).1 pc _ hat
  obtain ⟨⟨hlen, hl⟩, hP, hS, hbud, hroom⟩ := id hI
  unfold cm_step at hrun
  rw [hat] at hrun
  dsimp only at hrun
  obtain ⟨rfl, hd, hj⟩ := cm_row hok 2 rfl (by decide)
  obtain ⟨t, h1, h2, hrun⟩ := cm_ld_ok hrun
  have hw := cm_lv_ld hl h1
  obtain ⟨x, rfl⟩ := cm_ty1 h2
  exact lv_iload hx hb hd hw (ih _ _ _ _ _ _ hrun hv1 hv2 _ _ _ _ _ hI)

set_option maxHeartbeats 4000000 in
set_option maxRecDepth 100000 in
theorem cm_s_iload_n {pg : cm_G} {K : cm_K} {l : Launch} {D : va_G} {b0 : Nat} {sa : Nat → Nat} {dA : FieldType → ClassId} {n : Nat} (hG : cm_Good pg K) (hB : cm_BodyAt pg K l D b0 sa dA n) (i : Fin 4) : cm_StepFor pg K l D b0 sa dA n (.iload_n i) := by
  intro mi mr mn hmr hmn p e R s m args below meth c Q v hv hF hret d pc lv st h R0 np rs hat hrun hv1 hv2 H locs cells slots ls hI
  have ih := hB mi mr mn hmr hmn p e R s m args below meth c Q v hv hF hret
  obtain ⟨hx, hb, hml, hown, hts, hini, hSW⟩ := id hF
  have hok := (hG.1 mi mr mn hmr hmn).1 pc _ hat
  obtain ⟨⟨hlen, hl⟩, hP, hS, hbud, hroom⟩ := id hI
  unfold cm_step at hrun
  rw [hat] at hrun
  dsimp only at hrun
  obtain ⟨rfl, hd, hj⟩ := cm_row hok 1 rfl (by decide)
  obtain ⟨t, h1, h2, hrun⟩ := cm_ld_ok hrun
  have hw := cm_lv_ld hl h1
  obtain ⟨x, rfl⟩ := cm_ty1 h2
  exact lv_iload_n hx hb hd rfl hw (ih _ _ _ _ _ _ hrun hv1 hv2 _ _ _ _ _ hI)

set_option maxHeartbeats 4000000 in
set_option maxRecDepth 100000 in
theorem cm_s_lload {pg : cm_G} {K : cm_K} {l : Launch} {D : va_G} {b0 : Nat} {sa : Nat → Nat} {dA : FieldType → ClassId} {n : Nat} (hG : cm_Good pg K) (hB : cm_BodyAt pg K l D b0 sa dA n) (i : Nat) : cm_StepFor pg K l D b0 sa dA n (.lload i) := by
  intro mi mr mn hmr hmn p e R s m args below meth c Q v hv hF hret d pc lv st h R0 np rs hat hrun hv1 hv2 H locs cells slots ls hI
  have ih := hB mi mr mn hmr hmn p e R s m args below meth c Q v hv hF hret
  obtain ⟨hx, hb, hml, hown, hts, hini, hSW⟩ := id hF
  have hok := (hG.1 mi mr mn hmr hmn).1 pc _ hat
  obtain ⟨⟨hlen, hl⟩, hP, hS, hbud, hroom⟩ := id hI
  unfold cm_step at hrun
  rw [hat] at hrun
  dsimp only at hrun
  obtain ⟨rfl, hd, hj⟩ := cm_row hok 2 rfl (by decide)
  obtain ⟨t, h1, h2, hrun⟩ := cm_ld_ok hrun
  have hw := cm_lv_ld hl h1
  obtain ⟨x, rfl⟩ := cm_ty2 h2
  exact lv_lload hx hb hd hw (ih _ _ _ _ _ _ hrun hv1 hv2 _ _ _ _ _ hI)

set_option maxHeartbeats 4000000 in
set_option maxRecDepth 100000 in
theorem cm_s_lload_n {pg : cm_G} {K : cm_K} {l : Launch} {D : va_G} {b0 : Nat} {sa : Nat → Nat} {dA : FieldType → ClassId} {n : Nat} (hG : cm_Good pg K) (hB : cm_BodyAt pg K l D b0 sa dA n) (i : Fin 4) : cm_StepFor pg K l D b0 sa dA n (.lload_n i) := by
  intro mi mr mn hmr hmn p e R s m args below meth c Q v hv hF hret d pc lv st h R0 np rs hat hrun hv1 hv2 H locs cells slots ls hI
  have ih := hB mi mr mn hmr hmn p e R s m args below meth c Q v hv hF hret
  obtain ⟨hx, hb, hml, hown, hts, hini, hSW⟩ := id hF
  have hok := (hG.1 mi mr mn hmr hmn).1 pc _ hat
  obtain ⟨⟨hlen, hl⟩, hP, hS, hbud, hroom⟩ := id hI
  unfold cm_step at hrun
  rw [hat] at hrun
  dsimp only at hrun
  obtain ⟨rfl, hd, hj⟩ := cm_row hok 1 rfl (by decide)
  obtain ⟨t, h1, h2, hrun⟩ := cm_ld_ok hrun
  have hw := cm_lv_ld hl h1
  obtain ⟨x, rfl⟩ := cm_ty2 h2
  exact lv_lload_n hx hb hd rfl hw (ih _ _ _ _ _ _ hrun hv1 hv2 _ _ _ _ _ hI)

set_option maxHeartbeats 4000000 in
set_option maxRecDepth 100000 in
theorem cm_s_aload {pg : cm_G} {K : cm_K} {l : Launch} {D : va_G} {b0 : Nat} {sa : Nat → Nat} {dA : FieldType → ClassId} {n : Nat} (hG : cm_Good pg K) (hB : cm_BodyAt pg K l D b0 sa dA n) (i : Nat) : cm_StepFor pg K l D b0 sa dA n (.aload i) := by
  intro mi mr mn hmr hmn p e R s m args below meth c Q v hv hF hret d pc lv st h R0 np rs hat hrun hv1 hv2 H locs cells slots ls hI
  have ih := hB mi mr mn hmr hmn p e R s m args below meth c Q v hv hF hret
  obtain ⟨hx, hb, hml, hown, hts, hini, hSW⟩ := id hF
  have hok := (hG.1 mi mr mn hmr hmn).1 pc _ hat
  obtain ⟨⟨hlen, hl⟩, hP, hS, hbud, hroom⟩ := id hI
  unfold cm_step at hrun
  rw [hat] at hrun
  dsimp only at hrun
  obtain ⟨rfl, hd, hj⟩ := cm_row hok 2 rfl (by decide)
  obtain ⟨t, h1, h2, hrun⟩ := cm_ld_ok hrun
  have hw := cm_lv_ld hl h1
  rcases cm_ty3 h2 with rfl | ⟨k, rfl⟩ | ⟨x, k, rfl⟩
  · exact lv_aloadN hx hb hd hw (ih _ _ _ _ _ _ hrun hv1 hv2 _ _ _ _ _ hI)
  · exact lv_aload hx hb hd hw (ih _ _ _ _ _ _ hrun hv1 hv2 _ _ _ _ _ hI)
  · exact lv_aload hx hb hd hw (ih _ _ _ _ _ _ hrun hv1 hv2 _ _ _ _ _ hI)

set_option maxHeartbeats 4000000 in
set_option maxRecDepth 100000 in
theorem cm_s_aload_n {pg : cm_G} {K : cm_K} {l : Launch} {D : va_G} {b0 : Nat} {sa : Nat → Nat} {dA : FieldType → ClassId} {n : Nat} (hG : cm_Good pg K) (hB : cm_BodyAt pg K l D b0 sa dA n) (i : Fin 4) : cm_StepFor pg K l D b0 sa dA n (.aload_n i) := by
  intro mi mr mn hmr hmn p e R s m args below meth c Q v hv hF hret d pc lv st h R0 np rs hat hrun hv1 hv2 H locs cells slots ls hI
  have ih := hB mi mr mn hmr hmn p e R s m args below meth c Q v hv hF hret
  obtain ⟨hx, hb, hml, hown, hts, hini, hSW⟩ := id hF
  have hok := (hG.1 mi mr mn hmr hmn).1 pc _ hat
  obtain ⟨⟨hlen, hl⟩, hP, hS, hbud, hroom⟩ := id hI
  unfold cm_step at hrun
  rw [hat] at hrun
  dsimp only at hrun
  obtain ⟨rfl, hd, hj⟩ := cm_row hok 1 rfl (by decide)
  obtain ⟨t, h1, h2, hrun⟩ := cm_ld_ok hrun
  have hw := cm_lv_ld hl h1
  rcases cm_ty3 h2 with rfl | ⟨k, rfl⟩ | ⟨x, k, rfl⟩
  · exact lv_aload_nN hx hb hd rfl hw (ih _ _ _ _ _ _ hrun hv1 hv2 _ _ _ _ _ hI)
  · exact lv_aload_n hx hb hd rfl hw (ih _ _ _ _ _ _ hrun hv1 hv2 _ _ _ _ _ hI)
  · exact lv_aload_n hx hb hd rfl hw (ih _ _ _ _ _ _ hrun hv1 hv2 _ _ _ _ _ hI)

set_option maxHeartbeats 4000000 in
set_option maxRecDepth 100000 in
theorem cm_s_istore {pg : cm_G} {K : cm_K} {l : Launch} {D : va_G} {b0 : Nat} {sa : Nat → Nat} {dA : FieldType → ClassId} {n : Nat} (hG : cm_Good pg K) (hB : cm_BodyAt pg K l D b0 sa dA n) (i : Nat) : cm_StepFor pg K l D b0 sa dA n (.istore i) := by
  intro mi mr mn hmr hmn p e R s m args below meth c Q v hv hF hret d pc lv st h R0 np rs hat hrun hv1 hv2 H locs cells slots ls hI
  have ih := hB mi mr mn hmr hmn p e R s m args below meth c Q v hv hF hret
  obtain ⟨hx, hb, hml, hown, hts, hini, hSW⟩ := id hF
  have hok := (hG.1 mi mr mn hmr hmn).1 pc _ hat
  obtain ⟨⟨hlen, hl⟩, hP, hS, hbud, hroom⟩ := id hI
  unfold cm_step at hrun
  rw [hat] at hrun
  dsimp only at hrun
  obtain ⟨rfl, hd, hj⟩ := cm_row hok 2 rfl (by decide)
  obtain ⟨x, st', rfl, hrun⟩ := cm_one_ok hrun
  obtain ⟨h4, h5, hrun⟩ := cm_sto_ok hrun
  exact lv_istore hx hb hd hl (by omega) rfl (fun ls' hl' => ih _ _ _ _ _ _ hrun hv1 hv2 _ _ _ _ _ ⟨⟨by simpa using hlen, cm_lv_sto h4 hl'⟩, hP, hS, hbud, hroom⟩)

set_option maxHeartbeats 4000000 in
set_option maxRecDepth 100000 in
theorem cm_s_istore_n {pg : cm_G} {K : cm_K} {l : Launch} {D : va_G} {b0 : Nat} {sa : Nat → Nat} {dA : FieldType → ClassId} {n : Nat} (hG : cm_Good pg K) (hB : cm_BodyAt pg K l D b0 sa dA n) (i : Fin 4) : cm_StepFor pg K l D b0 sa dA n (.istore_n i) := by
  intro mi mr mn hmr hmn p e R s m args below meth c Q v hv hF hret d pc lv st h R0 np rs hat hrun hv1 hv2 H locs cells slots ls hI
  have ih := hB mi mr mn hmr hmn p e R s m args below meth c Q v hv hF hret
  obtain ⟨hx, hb, hml, hown, hts, hini, hSW⟩ := id hF
  have hok := (hG.1 mi mr mn hmr hmn).1 pc _ hat
  obtain ⟨⟨hlen, hl⟩, hP, hS, hbud, hroom⟩ := id hI
  unfold cm_step at hrun
  rw [hat] at hrun
  dsimp only at hrun
  obtain ⟨rfl, hd, hj⟩ := cm_row hok 1 rfl (by decide)
  obtain ⟨x, st', rfl, hrun⟩ := cm_one_ok hrun
  obtain ⟨h4, h5, hrun⟩ := cm_sto_ok hrun
  exact lv_istore_n hx hb hd rfl hl (by omega) rfl (fun ls' hl' => ih _ _ _ _ _ _ hrun hv1 hv2 _ _ _ _ _ ⟨⟨by simpa using hlen, cm_lv_sto h4 hl'⟩, hP, hS, hbud, hroom⟩)

set_option maxHeartbeats 4000000 in
set_option maxRecDepth 100000 in
theorem cm_s_astore {pg : cm_G} {K : cm_K} {l : Launch} {D : va_G} {b0 : Nat} {sa : Nat → Nat} {dA : FieldType → ClassId} {n : Nat} (hG : cm_Good pg K) (hB : cm_BodyAt pg K l D b0 sa dA n) (i : Nat) : cm_StepFor pg K l D b0 sa dA n (.astore i) := by
  intro mi mr mn hmr hmn p e R s m args below meth c Q v hv hF hret d pc lv st h R0 np rs hat hrun hv1 hv2 H locs cells slots ls hI
  have ih := hB mi mr mn hmr hmn p e R s m args below meth c Q v hv hF hret
  obtain ⟨hx, hb, hml, hown, hts, hini, hSW⟩ := id hF
  have hok := (hG.1 mi mr mn hmr hmn).1 pc _ hat
  obtain ⟨⟨hlen, hl⟩, hP, hS, hbud, hroom⟩ := id hI
  unfold cm_step at hrun
  rw [hat] at hrun
  dsimp only at hrun
  obtain ⟨rfl, hd, hj⟩ := cm_row hok 2 rfl (by decide)
  obtain ⟨t, st', rfl, h2, hrun⟩ := cm_ref_ok hrun
  obtain ⟨h4, h5, hrun⟩ := cm_sto_ok hrun
  rcases cm_ty3 h2 with rfl | ⟨k, rfl⟩ | ⟨x, k, rfl⟩
  · exact lv_astoreN hx hb hd hl (by omega) rfl (fun ls' hl' => ih _ _ _ _ _ _ hrun hv1 hv2 _ _ _ _ _ ⟨⟨by simpa using hlen, cm_lv_sto h4 hl'⟩, hP, hS, hbud, hroom⟩)
  · exact lv_astore hx hb hd hl (by omega) rfl (fun ls' hl' => ih _ _ _ _ _ _ hrun hv1 hv2 _ _ _ _ _ ⟨⟨by simpa using hlen, cm_lv_sto h4 hl'⟩, hP, hS, hbud, hroom⟩)
  · exact lv_astore hx hb hd hl (by omega) rfl (fun ls' hl' => ih _ _ _ _ _ _ hrun hv1 hv2 _ _ _ _ _ ⟨⟨by simpa using hlen, cm_lv_sto h4 hl'⟩, hP, hS, hbud, hroom⟩)

set_option maxHeartbeats 4000000 in
set_option maxRecDepth 100000 in
theorem cm_s_astore_n {pg : cm_G} {K : cm_K} {l : Launch} {D : va_G} {b0 : Nat} {sa : Nat → Nat} {dA : FieldType → ClassId} {n : Nat} (hG : cm_Good pg K) (hB : cm_BodyAt pg K l D b0 sa dA n) (i : Fin 4) : cm_StepFor pg K l D b0 sa dA n (.astore_n i) := by
  intro mi mr mn hmr hmn p e R s m args below meth c Q v hv hF hret d pc lv st h R0 np rs hat hrun hv1 hv2 H locs cells slots ls hI
  have ih := hB mi mr mn hmr hmn p e R s m args below meth c Q v hv hF hret
  obtain ⟨hx, hb, hml, hown, hts, hini, hSW⟩ := id hF
  have hok := (hG.1 mi mr mn hmr hmn).1 pc _ hat
  obtain ⟨⟨hlen, hl⟩, hP, hS, hbud, hroom⟩ := id hI
  unfold cm_step at hrun
  rw [hat] at hrun
  dsimp only at hrun
  obtain ⟨rfl, hd, hj⟩ := cm_row hok 1 rfl (by decide)
  obtain ⟨t, st', rfl, h2, hrun⟩ := cm_ref_ok hrun
  obtain ⟨h4, h5, hrun⟩ := cm_sto_ok hrun
  rcases cm_ty3 h2 with rfl | ⟨k, rfl⟩ | ⟨x, k, rfl⟩
  · exact lv_astore_nN hx hb hd rfl hl (by omega) rfl (fun ls' hl' => ih _ _ _ _ _ _ hrun hv1 hv2 _ _ _ _ _ ⟨⟨by simpa using hlen, cm_lv_sto h4 hl'⟩, hP, hS, hbud, hroom⟩)
  · exact lv_astore_n hx hb hd rfl hl (by omega) rfl (fun ls' hl' => ih _ _ _ _ _ _ hrun hv1 hv2 _ _ _ _ _ ⟨⟨by simpa using hlen, cm_lv_sto h4 hl'⟩, hP, hS, hbud, hroom⟩)
  · exact lv_astore_n hx hb hd rfl hl (by omega) rfl (fun ls' hl' => ih _ _ _ _ _ _ hrun hv1 hv2 _ _ _ _ _ ⟨⟨by simpa using hlen, cm_lv_sto h4 hl'⟩, hP, hS, hbud, hroom⟩)

set_option maxHeartbeats 4000000 in
set_option maxRecDepth 100000 in
theorem cm_s_iinc {pg : cm_G} {K : cm_K} {l : Launch} {D : va_G} {b0 : Nat} {sa : Nat → Nat} {dA : FieldType → ClassId} {n : Nat} (hG : cm_Good pg K) (hB : cm_BodyAt pg K l D b0 sa dA n) (i : Nat) (o : Int) : cm_StepFor pg K l D b0 sa dA n (.iinc i o) := by
  intro mi mr mn hmr hmn p e R s m args below meth c Q v hv hF hret d pc lv st h R0 np rs hat hrun hv1 hv2 H locs cells slots ls hI
  have ih := hB mi mr mn hmr hmn p e R s m args below meth c Q v hv hF hret
  obtain ⟨hx, hb, hml, hown, hts, hini, hSW⟩ := id hF
  have hok := (hG.1 mi mr mn hmr hmn).1 pc _ hat
  obtain ⟨⟨hlen, hl⟩, hP, hS, hbud, hroom⟩ := id hI
  unfold cm_step at hrun
  rw [hat] at hrun
  dsimp only at hrun
  obtain ⟨rfl, hd, hj⟩ := cm_row hok 3 rfl (by decide)
  split at hrun
  · rename_i x h1
    rw [cm_nth_eq] at h1
    obtain ⟨h4, h5, hrun⟩ := cm_sto_ok hrun
    obtain ⟨kk, hkk⟩ := List.getElem?_of_mem (cm_cl_mem.mpr ⟨i, _, h1, rfl⟩ : (0 + i, cm_ev b0 sa (.int x)) ∈ cm_cl b0 sa 0 lv)
    rw [Nat.zero_add] at hkk
    exact lv_iinc hx hb hd hl hkk rfl (by omega) rfl (fun ls' hl' => ih _ _ _ _ _ _ hrun hv1 hv2 _ _ _ _ _ ⟨⟨by simpa using hlen, cm_lv_sto h4 hl'⟩, hP, hS, hbud, hroom⟩)
  · cases hrun

set_option maxHeartbeats 4000000 in
set_option maxRecDepth 100000 in
theorem cm_s_iadd {pg : cm_G} {K : cm_K} {l : Launch} {D : va_G} {b0 : Nat} {sa : Nat → Nat} {dA : FieldType → ClassId} {n : Nat} (hG : cm_Good pg K) (hB : cm_BodyAt pg K l D b0 sa dA n) : cm_StepFor pg K l D b0 sa dA n .iadd := by
  intro mi mr mn hmr hmn p e R s m args below meth c Q v hv hF hret d pc lv st h R0 np rs hat hrun hv1 hv2 H locs cells slots ls hI
  have ih := hB mi mr mn hmr hmn p e R s m args below meth c Q v hv hF hret
  obtain ⟨hx, hb, hml, hown, hts, hini, hSW⟩ := id hF
  have hok := (hG.1 mi mr mn hmr hmn).1 pc _ hat
  obtain ⟨⟨hlen, hl⟩, hP, hS, hbud, hroom⟩ := id hI
  unfold cm_step at hrun
  rw [hat] at hrun
  dsimp only at hrun
  obtain ⟨rfl, hd, hj⟩ := cm_row hok 1 rfl (by decide)
  obtain ⟨x, y, st', rfl, hrun⟩ := cm_two_ok hrun
  exact lv_iadd hx hb hd (ih _ _ _ _ _ _ hrun hv1 hv2 _ _ _ _ _ hI)

set_option maxHeartbeats 4000000 in
set_option maxRecDepth 100000 in
theorem cm_s_isub {pg : cm_G} {K : cm_K} {l : Launch} {D : va_G} {b0 : Nat} {sa : Nat → Nat} {dA : FieldType → ClassId} {n : Nat} (hG : cm_Good pg K) (hB : cm_BodyAt pg K l D b0 sa dA n) : cm_StepFor pg K l D b0 sa dA n .isub := by
  intro mi mr mn hmr hmn p e R s m args below meth c Q v hv hF hret d pc lv st h R0 np rs hat hrun hv1 hv2 H locs cells slots ls hI
  have ih := hB mi mr mn hmr hmn p e R s m args below meth c Q v hv hF hret
  obtain ⟨hx, hb, hml, hown, hts, hini, hSW⟩ := id hF
  have hok := (hG.1 mi mr mn hmr hmn).1 pc _ hat
  obtain ⟨⟨hlen, hl⟩, hP, hS, hbud, hroom⟩ := id hI
  unfold cm_step at hrun
  rw [hat] at hrun
  dsimp only at hrun
  obtain ⟨rfl, hd, hj⟩ := cm_row hok 1 rfl (by decide)
  obtain ⟨x, y, st', rfl, hrun⟩ := cm_two_ok hrun
  exact lv_isub hx hb hd (ih _ _ _ _ _ _ hrun hv1 hv2 _ _ _ _ _ hI)

set_option maxHeartbeats 4000000 in
set_option maxRecDepth 100000 in
theorem cm_s_imul {pg : cm_G} {K : cm_K} {l : Launch} {D : va_G} {b0 : Nat} {sa : Nat → Nat} {dA : FieldType → ClassId} {n : Nat} (hG : cm_Good pg K) (hB : cm_BodyAt pg K l D b0 sa dA n) : cm_StepFor pg K l D b0 sa dA n .imul := by
  intro mi mr mn hmr hmn p e R s m args below meth c Q v hv hF hret d pc lv st h R0 np rs hat hrun hv1 hv2 H locs cells slots ls hI
  have ih := hB mi mr mn hmr hmn p e R s m args below meth c Q v hv hF hret
  obtain ⟨hx, hb, hml, hown, hts, hini, hSW⟩ := id hF
  have hok := (hG.1 mi mr mn hmr hmn).1 pc _ hat
  obtain ⟨⟨hlen, hl⟩, hP, hS, hbud, hroom⟩ := id hI
  unfold cm_step at hrun
  rw [hat] at hrun
  dsimp only at hrun
  obtain ⟨rfl, hd, hj⟩ := cm_row hok 1 rfl (by decide)
  obtain ⟨x, y, st', rfl, hrun⟩ := cm_two_ok hrun
  exact lv_imul hx hb hd (ih _ _ _ _ _ _ hrun hv1 hv2 _ _ _ _ _ hI)

set_option maxHeartbeats 4000000 in
set_option maxRecDepth 100000 in
theorem cm_s_iand {pg : cm_G} {K : cm_K} {l : Launch} {D : va_G} {b0 : Nat} {sa : Nat → Nat} {dA : FieldType → ClassId} {n : Nat} (hG : cm_Good pg K) (hB : cm_BodyAt pg K l D b0 sa dA n) : cm_StepFor pg K l D b0 sa dA n .iand := by
  intro mi mr mn hmr hmn p e R s m args below meth c Q v hv hF hret d pc lv st h R0 np rs hat hrun hv1 hv2 H locs cells slots ls hI
  have ih := hB mi mr mn hmr hmn p e R s m args below meth c Q v hv hF hret
  obtain ⟨hx, hb, hml, hown, hts, hini, hSW⟩ := id hF
  have hok := (hG.1 mi mr mn hmr hmn).1 pc _ hat
  obtain ⟨⟨hlen, hl⟩, hP, hS, hbud, hroom⟩ := id hI
  unfold cm_step at hrun
  rw [hat] at hrun
  dsimp only at hrun
  obtain ⟨rfl, hd, hj⟩ := cm_row hok 1 rfl (by decide)
  obtain ⟨x, y, st', rfl, hrun⟩ := cm_two_ok hrun
  exact lv_iand hx hb hd (ih _ _ _ _ _ _ hrun hv1 hv2 _ _ _ _ _ hI)

set_option maxHeartbeats 4000000 in
set_option maxRecDepth 100000 in
theorem cm_s_ior {pg : cm_G} {K : cm_K} {l : Launch} {D : va_G} {b0 : Nat} {sa : Nat → Nat} {dA : FieldType → ClassId} {n : Nat} (hG : cm_Good pg K) (hB : cm_BodyAt pg K l D b0 sa dA n) : cm_StepFor pg K l D b0 sa dA n .ior := by
  intro mi mr mn hmr hmn p e R s m args below meth c Q v hv hF hret d pc lv st h R0 np rs hat hrun hv1 hv2 H locs cells slots ls hI
  have ih := hB mi mr mn hmr hmn p e R s m args below meth c Q v hv hF hret
  obtain ⟨hx, hb, hml, hown, hts, hini, hSW⟩ := id hF
  have hok := (hG.1 mi mr mn hmr hmn).1 pc _ hat
  obtain ⟨⟨hlen, hl⟩, hP, hS, hbud, hroom⟩ := id hI
  unfold cm_step at hrun
  rw [hat] at hrun
  dsimp only at hrun
  obtain ⟨rfl, hd, hj⟩ := cm_row hok 1 rfl (by decide)
  obtain ⟨x, y, st', rfl, hrun⟩ := cm_two_ok hrun
  exact lv_ior hx hb hd (ih _ _ _ _ _ _ hrun hv1 hv2 _ _ _ _ _ hI)

set_option maxHeartbeats 4000000 in
set_option maxRecDepth 100000 in
theorem cm_s_ixor {pg : cm_G} {K : cm_K} {l : Launch} {D : va_G} {b0 : Nat} {sa : Nat → Nat} {dA : FieldType → ClassId} {n : Nat} (hG : cm_Good pg K) (hB : cm_BodyAt pg K l D b0 sa dA n) : cm_StepFor pg K l D b0 sa dA n .ixor := by
  intro mi mr mn hmr hmn p e R s m args below meth c Q v hv hF hret d pc lv st h R0 np rs hat hrun hv1 hv2 H locs cells slots ls hI
  have ih := hB mi mr mn hmr hmn p e R s m args below meth c Q v hv hF hret
  obtain ⟨hx, hb, hml, hown, hts, hini, hSW⟩ := id hF
  have hok := (hG.1 mi mr mn hmr hmn).1 pc _ hat
  obtain ⟨⟨hlen, hl⟩, hP, hS, hbud, hroom⟩ := id hI
  unfold cm_step at hrun
  rw [hat] at hrun
  dsimp only at hrun
  obtain ⟨rfl, hd, hj⟩ := cm_row hok 1 rfl (by decide)
  obtain ⟨x, y, st', rfl, hrun⟩ := cm_two_ok hrun
  exact lv_ixor hx hb hd (ih _ _ _ _ _ _ hrun hv1 hv2 _ _ _ _ _ hI)

set_option maxHeartbeats 4000000 in
set_option maxRecDepth 100000 in
theorem cm_s_ishl {pg : cm_G} {K : cm_K} {l : Launch} {D : va_G} {b0 : Nat} {sa : Nat → Nat} {dA : FieldType → ClassId} {n : Nat} (hG : cm_Good pg K) (hB : cm_BodyAt pg K l D b0 sa dA n) : cm_StepFor pg K l D b0 sa dA n .ishl := by
  intro mi mr mn hmr hmn p e R s m args below meth c Q v hv hF hret d pc lv st h R0 np rs hat hrun hv1 hv2 H locs cells slots ls hI
  have ih := hB mi mr mn hmr hmn p e R s m args below meth c Q v hv hF hret
  obtain ⟨hx, hb, hml, hown, hts, hini, hSW⟩ := id hF
  have hok := (hG.1 mi mr mn hmr hmn).1 pc _ hat
  obtain ⟨⟨hlen, hl⟩, hP, hS, hbud, hroom⟩ := id hI
  unfold cm_step at hrun
  rw [hat] at hrun
  dsimp only at hrun
  obtain ⟨rfl, hd, hj⟩ := cm_row hok 1 rfl (by decide)
  obtain ⟨x, y, st', rfl, hrun⟩ := cm_two_ok hrun
  exact lv_ishl hx hb hd (ih _ _ _ _ _ _ hrun hv1 hv2 _ _ _ _ _ hI)

set_option maxHeartbeats 4000000 in
set_option maxRecDepth 100000 in
theorem cm_s_ishr {pg : cm_G} {K : cm_K} {l : Launch} {D : va_G} {b0 : Nat} {sa : Nat → Nat} {dA : FieldType → ClassId} {n : Nat} (hG : cm_Good pg K) (hB : cm_BodyAt pg K l D b0 sa dA n) : cm_StepFor pg K l D b0 sa dA n .ishr := by
  intro mi mr mn hmr hmn p e R s m args below meth c Q v hv hF hret d pc lv st h R0 np rs hat hrun hv1 hv2 H locs cells slots ls hI
  have ih := hB mi mr mn hmr hmn p e R s m args below meth c Q v hv hF hret
  obtain ⟨hx, hb, hml, hown, hts, hini, hSW⟩ := id hF
  have hok := (hG.1 mi mr mn hmr hmn).1 pc _ hat
  obtain ⟨⟨hlen, hl⟩, hP, hS, hbud, hroom⟩ := id hI
  unfold cm_step at hrun
  rw [hat] at hrun
  dsimp only at hrun
  obtain ⟨rfl, hd, hj⟩ := cm_row hok 1 rfl (by decide)
  obtain ⟨x, y, st', rfl, hrun⟩ := cm_two_ok hrun
  exact lv_ishr hx hb hd (ih _ _ _ _ _ _ hrun hv1 hv2 _ _ _ _ _ hI)

set_option maxHeartbeats 4000000 in
set_option maxRecDepth 100000 in
theorem cm_s_iushr {pg : cm_G} {K : cm_K} {l : Launch} {D : va_G} {b0 : Nat} {sa : Nat → Nat} {dA : FieldType → ClassId} {n : Nat} (hG : cm_Good pg K) (hB : cm_BodyAt pg K l D b0 sa dA n) : cm_StepFor pg K l D b0 sa dA n .iushr := by
  intro mi mr mn hmr hmn p e R s m args below meth c Q v hv hF hret d pc lv st h R0 np rs hat hrun hv1 hv2 H locs cells slots ls hI
  have ih := hB mi mr mn hmr hmn p e R s m args below meth c Q v hv hF hret
  obtain ⟨hx, hb, hml, hown, hts, hini, hSW⟩ := id hF
  have hok := (hG.1 mi mr mn hmr hmn).1 pc _ hat
  obtain ⟨⟨hlen, hl⟩, hP, hS, hbud, hroom⟩ := id hI
  unfold cm_step at hrun
  rw [hat] at hrun
  dsimp only at hrun
  obtain ⟨rfl, hd, hj⟩ := cm_row hok 1 rfl (by decide)
  obtain ⟨x, y, st', rfl, hrun⟩ := cm_two_ok hrun
  exact lv_iushr hx hb hd rfl (ih _ _ _ _ _ _ hrun hv1 hv2 _ _ _ _ _ hI)

set_option maxHeartbeats 4000000 in
set_option maxRecDepth 100000 in
theorem cm_s_idiv {pg : cm_G} {K : cm_K} {l : Launch} {D : va_G} {b0 : Nat} {sa : Nat → Nat} {dA : FieldType → ClassId} {n : Nat} (hG : cm_Good pg K) (hB : cm_BodyAt pg K l D b0 sa dA n) : cm_StepFor pg K l D b0 sa dA n .idiv := by
  intro mi mr mn hmr hmn p e R s m args below meth c Q v hv hF hret d pc lv st h R0 np rs hat hrun hv1 hv2 H locs cells slots ls hI
  have ih := hB mi mr mn hmr hmn p e R s m args below meth c Q v hv hF hret
  obtain ⟨hx, hb, hml, hown, hts, hini, hSW⟩ := id hF
  have hok := (hG.1 mi mr mn hmr hmn).1 pc _ hat
  obtain ⟨⟨hlen, hl⟩, hP, hS, hbud, hroom⟩ := id hI
  unfold cm_step at hrun
  rw [hat] at hrun
  dsimp only at hrun
  obtain ⟨rfl, hd, hj⟩ := cm_row hok 1 rfl (by decide)
  obtain ⟨x, y, st', rfl, hrun2⟩ := cm_two_ok hrun
  split at hrun2
  · cases hrun2
  · rename_i hy
    exact lv_idiv hx hb hd hy (ih _ _ _ _ _ _ hrun2 hv1 hv2 _ _ _ _ _ hI)

set_option maxHeartbeats 4000000 in
set_option maxRecDepth 100000 in
theorem cm_s_irem {pg : cm_G} {K : cm_K} {l : Launch} {D : va_G} {b0 : Nat} {sa : Nat → Nat} {dA : FieldType → ClassId} {n : Nat} (hG : cm_Good pg K) (hB : cm_BodyAt pg K l D b0 sa dA n) : cm_StepFor pg K l D b0 sa dA n .irem := by
  intro mi mr mn hmr hmn p e R s m args below meth c Q v hv hF hret d pc lv st h R0 np rs hat hrun hv1 hv2 H locs cells slots ls hI
  have ih := hB mi mr mn hmr hmn p e R s m args below meth c Q v hv hF hret
  obtain ⟨hx, hb, hml, hown, hts, hini, hSW⟩ := id hF
  have hok := (hG.1 mi mr mn hmr hmn).1 pc _ hat
  obtain ⟨⟨hlen, hl⟩, hP, hS, hbud, hroom⟩ := id hI
  unfold cm_step at hrun
  rw [hat] at hrun
  dsimp only at hrun
  obtain ⟨rfl, hd, hj⟩ := cm_row hok 1 rfl (by decide)
  obtain ⟨x, y, st', rfl, hrun2⟩ := cm_two_ok hrun
  split at hrun2
  · cases hrun2
  · rename_i hy
    exact lv_irem hx hb hd hy (ih _ _ _ _ _ _ hrun2 hv1 hv2 _ _ _ _ _ hI)

set_option maxHeartbeats 4000000 in
set_option maxRecDepth 100000 in
theorem cm_s_land {pg : cm_G} {K : cm_K} {l : Launch} {D : va_G} {b0 : Nat} {sa : Nat → Nat} {dA : FieldType → ClassId} {n : Nat} (hG : cm_Good pg K) (hB : cm_BodyAt pg K l D b0 sa dA n) : cm_StepFor pg K l D b0 sa dA n .land := by
  intro mi mr mn hmr hmn p e R s m args below meth c Q v hv hF hret d pc lv st h R0 np rs hat hrun hv1 hv2 H locs cells slots ls hI
  have ih := hB mi mr mn hmr hmn p e R s m args below meth c Q v hv hF hret
  obtain ⟨hx, hb, hml, hown, hts, hini, hSW⟩ := id hF
  have hok := (hG.1 mi mr mn hmr hmn).1 pc _ hat
  obtain ⟨⟨hlen, hl⟩, hP, hS, hbud, hroom⟩ := id hI
  unfold cm_step at hrun
  rw [hat] at hrun
  dsimp only at hrun
  obtain ⟨rfl, hd, hj⟩ := cm_row hok 1 rfl (by decide)
  obtain ⟨x, y, st', rfl, hrun⟩ := cm_twoL_ok hrun
  exact lv_land hx hb hd (ih _ _ _ _ _ _ hrun hv1 hv2 _ _ _ _ _ hI)

set_option maxHeartbeats 4000000 in
set_option maxRecDepth 100000 in
theorem cm_s_lor {pg : cm_G} {K : cm_K} {l : Launch} {D : va_G} {b0 : Nat} {sa : Nat → Nat} {dA : FieldType → ClassId} {n : Nat} (hG : cm_Good pg K) (hB : cm_BodyAt pg K l D b0 sa dA n) : cm_StepFor pg K l D b0 sa dA n .lor := by
  intro mi mr mn hmr hmn p e R s m args below meth c Q v hv hF hret d pc lv st h R0 np rs hat hrun hv1 hv2 H locs cells slots ls hI
  have ih := hB mi mr mn hmr hmn p e R s m args below meth c Q v hv hF hret
  obtain ⟨hx, hb, hml, hown, hts, hini, hSW⟩ := id hF
  have hok := (hG.1 mi mr mn hmr hmn).1 pc _ hat
  obtain ⟨⟨hlen, hl⟩, hP, hS, hbud, hroom⟩ := id hI
  unfold cm_step at hrun
  rw [hat] at hrun
  dsimp only at hrun
  obtain ⟨rfl, hd, hj⟩ := cm_row hok 1 rfl (by decide)
  obtain ⟨x, y, st', rfl, hrun⟩ := cm_twoL_ok hrun
  exact lv_lor hx hb hd (ih _ _ _ _ _ _ hrun hv1 hv2 _ _ _ _ _ hI)

set_option maxHeartbeats 4000000 in
set_option maxRecDepth 100000 in
theorem cm_s_lcmp {pg : cm_G} {K : cm_K} {l : Launch} {D : va_G} {b0 : Nat} {sa : Nat → Nat} {dA : FieldType → ClassId} {n : Nat} (hG : cm_Good pg K) (hB : cm_BodyAt pg K l D b0 sa dA n) : cm_StepFor pg K l D b0 sa dA n .lcmp := by
  intro mi mr mn hmr hmn p e R s m args below meth c Q v hv hF hret d pc lv st h R0 np rs hat hrun hv1 hv2 H locs cells slots ls hI
  have ih := hB mi mr mn hmr hmn p e R s m args below meth c Q v hv hF hret
  obtain ⟨hx, hb, hml, hown, hts, hini, hSW⟩ := id hF
  have hok := (hG.1 mi mr mn hmr hmn).1 pc _ hat
  obtain ⟨⟨hlen, hl⟩, hP, hS, hbud, hroom⟩ := id hI
  unfold cm_step at hrun
  rw [hat] at hrun
  dsimp only at hrun
  obtain ⟨rfl, hd, hj⟩ := cm_row hok 1 rfl (by decide)
  obtain ⟨x, y, st', rfl, hrun⟩ := cm_twoL_ok hrun
  exact W.lcmp hx hb hd (ih _ _ _ _ _ _ hrun hv1 hv2 _ _ _ _ _ hI)

set_option maxHeartbeats 4000000 in
set_option maxRecDepth 100000 in
theorem cm_s_lshl {pg : cm_G} {K : cm_K} {l : Launch} {D : va_G} {b0 : Nat} {sa : Nat → Nat} {dA : FieldType → ClassId} {n : Nat} (hG : cm_Good pg K) (hB : cm_BodyAt pg K l D b0 sa dA n) : cm_StepFor pg K l D b0 sa dA n .lshl := by
  intro mi mr mn hmr hmn p e R s m args below meth c Q v hv hF hret d pc lv st h R0 np rs hat hrun hv1 hv2 H locs cells slots ls hI
  have ih := hB mi mr mn hmr hmn p e R s m args below meth c Q v hv hF hret
  obtain ⟨hx, hb, hml, hown, hts, hini, hSW⟩ := id hF
  have hok := (hG.1 mi mr mn hmr hmn).1 pc _ hat
  obtain ⟨⟨hlen, hl⟩, hP, hS, hbud, hroom⟩ := id hI
  unfold cm_step at hrun
  rw [hat] at hrun
  dsimp only at hrun
  obtain ⟨rfl, hd, hj⟩ := cm_row hok 1 rfl (by decide)
  obtain ⟨x, y, st', rfl, hrun⟩ := cm_twoM_ok hrun
  exact lv_lshl hx hb hd rfl (ih _ _ _ _ _ _ hrun hv1 hv2 _ _ _ _ _ hI)

set_option maxHeartbeats 4000000 in
set_option maxRecDepth 100000 in
theorem cm_s_lshr {pg : cm_G} {K : cm_K} {l : Launch} {D : va_G} {b0 : Nat} {sa : Nat → Nat} {dA : FieldType → ClassId} {n : Nat} (hG : cm_Good pg K) (hB : cm_BodyAt pg K l D b0 sa dA n) : cm_StepFor pg K l D b0 sa dA n .lshr := by
  intro mi mr mn hmr hmn p e R s m args below meth c Q v hv hF hret d pc lv st h R0 np rs hat hrun hv1 hv2 H locs cells slots ls hI
  have ih := hB mi mr mn hmr hmn p e R s m args below meth c Q v hv hF hret
  obtain ⟨hx, hb, hml, hown, hts, hini, hSW⟩ := id hF
  have hok := (hG.1 mi mr mn hmr hmn).1 pc _ hat
  obtain ⟨⟨hlen, hl⟩, hP, hS, hbud, hroom⟩ := id hI
  unfold cm_step at hrun
  rw [hat] at hrun
  dsimp only at hrun
  obtain ⟨rfl, hd, hj⟩ := cm_row hok 1 rfl (by decide)
  obtain ⟨x, y, st', rfl, hrun⟩ := cm_twoM_ok hrun
  exact lv_lshr hx hb hd rfl (ih _ _ _ _ _ _ hrun hv1 hv2 _ _ _ _ _ hI)

set_option maxHeartbeats 4000000 in
set_option maxRecDepth 100000 in
theorem cm_s_lushr {pg : cm_G} {K : cm_K} {l : Launch} {D : va_G} {b0 : Nat} {sa : Nat → Nat} {dA : FieldType → ClassId} {n : Nat} (hG : cm_Good pg K) (hB : cm_BodyAt pg K l D b0 sa dA n) : cm_StepFor pg K l D b0 sa dA n .lushr := by
  intro mi mr mn hmr hmn p e R s m args below meth c Q v hv hF hret d pc lv st h R0 np rs hat hrun hv1 hv2 H locs cells slots ls hI
  have ih := hB mi mr mn hmr hmn p e R s m args below meth c Q v hv hF hret
  obtain ⟨hx, hb, hml, hown, hts, hini, hSW⟩ := id hF
  have hok := (hG.1 mi mr mn hmr hmn).1 pc _ hat
  obtain ⟨⟨hlen, hl⟩, hP, hS, hbud, hroom⟩ := id hI
  unfold cm_step at hrun
  rw [hat] at hrun
  dsimp only at hrun
  obtain ⟨rfl, hd, hj⟩ := cm_row hok 1 rfl (by decide)
  obtain ⟨x, y, st', rfl, hrun⟩ := cm_twoM_ok hrun
  exact lv_lushr hx hb hd rfl (ih _ _ _ _ _ _ hrun hv1 hv2 _ _ _ _ _ hI)

set_option maxHeartbeats 4000000 in
set_option maxRecDepth 100000 in
theorem cm_s_ineg {pg : cm_G} {K : cm_K} {l : Launch} {D : va_G} {b0 : Nat} {sa : Nat → Nat} {dA : FieldType → ClassId} {n : Nat} (hG : cm_Good pg K) (hB : cm_BodyAt pg K l D b0 sa dA n) : cm_StepFor pg K l D b0 sa dA n .ineg := by
  intro mi mr mn hmr hmn p e R s m args below meth c Q v hv hF hret d pc lv st h R0 np rs hat hrun hv1 hv2 H locs cells slots ls hI
  have ih := hB mi mr mn hmr hmn p e R s m args below meth c Q v hv hF hret
  obtain ⟨hx, hb, hml, hown, hts, hini, hSW⟩ := id hF
  have hok := (hG.1 mi mr mn hmr hmn).1 pc _ hat
  obtain ⟨⟨hlen, hl⟩, hP, hS, hbud, hroom⟩ := id hI
  unfold cm_step at hrun
  rw [hat] at hrun
  dsimp only at hrun
  obtain ⟨rfl, hd, hj⟩ := cm_row hok 1 rfl (by decide)
  obtain ⟨x, st', rfl, hrun⟩ := cm_one_ok hrun
  exact lv_ineg hx hb hd (ih _ _ _ _ _ _ hrun hv1 hv2 _ _ _ _ _ hI)

set_option maxHeartbeats 4000000 in
set_option maxRecDepth 100000 in
theorem cm_s_i2l {pg : cm_G} {K : cm_K} {l : Launch} {D : va_G} {b0 : Nat} {sa : Nat → Nat} {dA : FieldType → ClassId} {n : Nat} (hG : cm_Good pg K) (hB : cm_BodyAt pg K l D b0 sa dA n) : cm_StepFor pg K l D b0 sa dA n .i2l := by
  intro mi mr mn hmr hmn p e R s m args below meth c Q v hv hF hret d pc lv st h R0 np rs hat hrun hv1 hv2 H locs cells slots ls hI
  have ih := hB mi mr mn hmr hmn p e R s m args below meth c Q v hv hF hret
  obtain ⟨hx, hb, hml, hown, hts, hini, hSW⟩ := id hF
  have hok := (hG.1 mi mr mn hmr hmn).1 pc _ hat
  obtain ⟨⟨hlen, hl⟩, hP, hS, hbud, hroom⟩ := id hI
  unfold cm_step at hrun
  rw [hat] at hrun
  dsimp only at hrun
  obtain ⟨rfl, hd, hj⟩ := cm_row hok 1 rfl (by decide)
  obtain ⟨x, st', rfl, hrun⟩ := cm_one_ok hrun
  exact lv_i2l hx hb hd rfl (ih _ _ _ _ _ _ hrun hv1 hv2 _ _ _ _ _ hI)

set_option maxHeartbeats 4000000 in
set_option maxRecDepth 100000 in
theorem cm_s_i2b {pg : cm_G} {K : cm_K} {l : Launch} {D : va_G} {b0 : Nat} {sa : Nat → Nat} {dA : FieldType → ClassId} {n : Nat} (hG : cm_Good pg K) (hB : cm_BodyAt pg K l D b0 sa dA n) : cm_StepFor pg K l D b0 sa dA n .i2b := by
  intro mi mr mn hmr hmn p e R s m args below meth c Q v hv hF hret d pc lv st h R0 np rs hat hrun hv1 hv2 H locs cells slots ls hI
  have ih := hB mi mr mn hmr hmn p e R s m args below meth c Q v hv hF hret
  obtain ⟨hx, hb, hml, hown, hts, hini, hSW⟩ := id hF
  have hok := (hG.1 mi mr mn hmr hmn).1 pc _ hat
  obtain ⟨⟨hlen, hl⟩, hP, hS, hbud, hroom⟩ := id hI
  unfold cm_step at hrun
  rw [hat] at hrun
  dsimp only at hrun
  obtain ⟨rfl, hd, hj⟩ := cm_row hok 1 rfl (by decide)
  obtain ⟨x, st', rfl, hrun⟩ := cm_one_ok hrun
  exact lv_i2b hx hb hd rfl (ih _ _ _ _ _ _ hrun hv1 hv2 _ _ _ _ _ hI)

set_option maxHeartbeats 4000000 in
set_option maxRecDepth 100000 in
theorem cm_s_i2s {pg : cm_G} {K : cm_K} {l : Launch} {D : va_G} {b0 : Nat} {sa : Nat → Nat} {dA : FieldType → ClassId} {n : Nat} (hG : cm_Good pg K) (hB : cm_BodyAt pg K l D b0 sa dA n) : cm_StepFor pg K l D b0 sa dA n .i2s := by
  intro mi mr mn hmr hmn p e R s m args below meth c Q v hv hF hret d pc lv st h R0 np rs hat hrun hv1 hv2 H locs cells slots ls hI
  have ih := hB mi mr mn hmr hmn p e R s m args below meth c Q v hv hF hret
  obtain ⟨hx, hb, hml, hown, hts, hini, hSW⟩ := id hF
  have hok := (hG.1 mi mr mn hmr hmn).1 pc _ hat
  obtain ⟨⟨hlen, hl⟩, hP, hS, hbud, hroom⟩ := id hI
  unfold cm_step at hrun
  rw [hat] at hrun
  dsimp only at hrun
  obtain ⟨rfl, hd, hj⟩ := cm_row hok 1 rfl (by decide)
  obtain ⟨x, st', rfl, hrun⟩ := cm_one_ok hrun
  exact lv_i2s hx hb hd rfl (ih _ _ _ _ _ _ hrun hv1 hv2 _ _ _ _ _ hI)

set_option maxHeartbeats 4000000 in
set_option maxRecDepth 100000 in
theorem cm_s_i2c {pg : cm_G} {K : cm_K} {l : Launch} {D : va_G} {b0 : Nat} {sa : Nat → Nat} {dA : FieldType → ClassId} {n : Nat} (hG : cm_Good pg K) (hB : cm_BodyAt pg K l D b0 sa dA n) : cm_StepFor pg K l D b0 sa dA n .i2c := by
  intro mi mr mn hmr hmn p e R s m args below meth c Q v hv hF hret d pc lv st h R0 np rs hat hrun hv1 hv2 H locs cells slots ls hI
  have ih := hB mi mr mn hmr hmn p e R s m args below meth c Q v hv hF hret
  obtain ⟨hx, hb, hml, hown, hts, hini, hSW⟩ := id hF
  have hok := (hG.1 mi mr mn hmr hmn).1 pc _ hat
  obtain ⟨⟨hlen, hl⟩, hP, hS, hbud, hroom⟩ := id hI
  unfold cm_step at hrun
  rw [hat] at hrun
  dsimp only at hrun
  obtain ⟨rfl, hd, hj⟩ := cm_row hok 1 rfl (by decide)
  obtain ⟨x, st', rfl, hrun⟩ := cm_one_ok hrun
  exact lv_i2c hx hb hd rfl (ih _ _ _ _ _ _ hrun hv1 hv2 _ _ _ _ _ hI)

set_option maxHeartbeats 4000000 in
set_option maxRecDepth 100000 in
theorem cm_s_l2i {pg : cm_G} {K : cm_K} {l : Launch} {D : va_G} {b0 : Nat} {sa : Nat → Nat} {dA : FieldType → ClassId} {n : Nat} (hG : cm_Good pg K) (hB : cm_BodyAt pg K l D b0 sa dA n) : cm_StepFor pg K l D b0 sa dA n .l2i := by
  intro mi mr mn hmr hmn p e R s m args below meth c Q v hv hF hret d pc lv st h R0 np rs hat hrun hv1 hv2 H locs cells slots ls hI
  have ih := hB mi mr mn hmr hmn p e R s m args below meth c Q v hv hF hret
  obtain ⟨hx, hb, hml, hown, hts, hini, hSW⟩ := id hF
  have hok := (hG.1 mi mr mn hmr hmn).1 pc _ hat
  obtain ⟨⟨hlen, hl⟩, hP, hS, hbud, hroom⟩ := id hI
  unfold cm_step at hrun
  rw [hat] at hrun
  dsimp only at hrun
  obtain ⟨rfl, hd, hj⟩ := cm_row hok 1 rfl (by decide)
  split at hrun
  · exact lv_l2i hx hb hd rfl (ih _ _ _ _ _ _ hrun hv1 hv2 _ _ _ _ _ hI)
  · cases hrun

set_option maxHeartbeats 4000000 in
set_option maxRecDepth 100000 in
theorem cm_s_pop {pg : cm_G} {K : cm_K} {l : Launch} {D : va_G} {b0 : Nat} {sa : Nat → Nat} {dA : FieldType → ClassId} {n : Nat} (hG : cm_Good pg K) (hB : cm_BodyAt pg K l D b0 sa dA n) : cm_StepFor pg K l D b0 sa dA n .pop := by
  intro mi mr mn hmr hmn p e R s m args below meth c Q v hv hF hret d pc lv st h R0 np rs hat hrun hv1 hv2 H locs cells slots ls hI
  have ih := hB mi mr mn hmr hmn p e R s m args below meth c Q v hv hF hret
  obtain ⟨hx, hb, hml, hown, hts, hini, hSW⟩ := id hF
  have hok := (hG.1 mi mr mn hmr hmn).1 pc _ hat
  obtain ⟨⟨hlen, hl⟩, hP, hS, hbud, hroom⟩ := id hI
  unfold cm_step at hrun
  rw [hat] at hrun
  dsimp only at hrun
  obtain ⟨rfl, hd, hj⟩ := cm_row hok 1 rfl (by decide)
  split at hrun
  · split at hrun
    · rename_i hc
      exact lv_pop hx hb hd (cm_cat1 hc b0 sa) (ih _ _ _ _ _ _ hrun hv1 hv2 _ _ _ _ _ hI)
    · cases hrun
  · cases hrun

set_option maxHeartbeats 4000000 in
set_option maxRecDepth 100000 in
theorem cm_s_dup {pg : cm_G} {K : cm_K} {l : Launch} {D : va_G} {b0 : Nat} {sa : Nat → Nat} {dA : FieldType → ClassId} {n : Nat} (hG : cm_Good pg K) (hB : cm_BodyAt pg K l D b0 sa dA n) : cm_StepFor pg K l D b0 sa dA n .dup := by
  intro mi mr mn hmr hmn p e R s m args below meth c Q v hv hF hret d pc lv st h R0 np rs hat hrun hv1 hv2 H locs cells slots ls hI
  have ih := hB mi mr mn hmr hmn p e R s m args below meth c Q v hv hF hret
  obtain ⟨hx, hb, hml, hown, hts, hini, hSW⟩ := id hF
  have hok := (hG.1 mi mr mn hmr hmn).1 pc _ hat
  obtain ⟨⟨hlen, hl⟩, hP, hS, hbud, hroom⟩ := id hI
  unfold cm_step at hrun
  rw [hat] at hrun
  dsimp only at hrun
  obtain ⟨rfl, hd, hj⟩ := cm_row hok 1 rfl (by decide)
  split at hrun
  · split at hrun
    · rename_i hc
      exact lv_dup hx hb hd (cm_cat1 hc b0 sa) (ih _ _ _ _ _ _ hrun hv1 hv2 _ _ _ _ _ hI)
    · cases hrun
  · cases hrun

set_option maxHeartbeats 4000000 in
set_option maxRecDepth 100000 in
theorem cm_s_dup_x1 {pg : cm_G} {K : cm_K} {l : Launch} {D : va_G} {b0 : Nat} {sa : Nat → Nat} {dA : FieldType → ClassId} {n : Nat} (hG : cm_Good pg K) (hB : cm_BodyAt pg K l D b0 sa dA n) : cm_StepFor pg K l D b0 sa dA n .dup_x1 := by
  intro mi mr mn hmr hmn p e R s m args below meth c Q v hv hF hret d pc lv st h R0 np rs hat hrun hv1 hv2 H locs cells slots ls hI
  have ih := hB mi mr mn hmr hmn p e R s m args below meth c Q v hv hF hret
  obtain ⟨hx, hb, hml, hown, hts, hini, hSW⟩ := id hF
  have hok := (hG.1 mi mr mn hmr hmn).1 pc _ hat
  obtain ⟨⟨hlen, hl⟩, hP, hS, hbud, hroom⟩ := id hI
  unfold cm_step at hrun
  rw [hat] at hrun
  dsimp only at hrun
  obtain ⟨rfl, hd, hj⟩ := cm_row hok 1 rfl (by decide)
  split at hrun
  · split at hrun
    · rename_i hc
      exact lv_dup_x1 hx hb hd (cm_cat1 hc.1 b0 sa) (cm_cat1 hc.2 b0 sa) (ih _ _ _ _ _ _ hrun hv1 hv2 _ _ _ _ _ hI)
    · cases hrun
  · cases hrun

set_option maxHeartbeats 4000000 in
set_option maxRecDepth 100000 in
theorem cm_s_dup2 {pg : cm_G} {K : cm_K} {l : Launch} {D : va_G} {b0 : Nat} {sa : Nat → Nat} {dA : FieldType → ClassId} {n : Nat} (hG : cm_Good pg K) (hB : cm_BodyAt pg K l D b0 sa dA n) : cm_StepFor pg K l D b0 sa dA n .dup2 := by
  intro mi mr mn hmr hmn p e R s m args below meth c Q v hv hF hret d pc lv st h R0 np rs hat hrun hv1 hv2 H locs cells slots ls hI
  have ih := hB mi mr mn hmr hmn p e R s m args below meth c Q v hv hF hret
  obtain ⟨hx, hb, hml, hown, hts, hini, hSW⟩ := id hF
  have hok := (hG.1 mi mr mn hmr hmn).1 pc _ hat
  obtain ⟨⟨hlen, hl⟩, hP, hS, hbud, hroom⟩ := id hI
  unfold cm_step at hrun
  rw [hat] at hrun
  dsimp only at hrun
  obtain ⟨rfl, hd, hj⟩ := cm_row hok 1 rfl (by decide)
  split at hrun
  · split at hrun
    · rename_i hc
      exact lv_dup2_11 hx hb hd (cm_cat1 hc.1 b0 sa) (cm_cat1 hc.2 b0 sa) (ih _ _ _ _ _ _ hrun hv1 hv2 _ _ _ _ _ hI)
    · cases hrun
  · cases hrun
