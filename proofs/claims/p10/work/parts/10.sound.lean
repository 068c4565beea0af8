set_option maxHeartbeats 4000000 in
set_option maxRecDepth 100000 in
theorem cm_bodyS {pg : cm_G} {K : cm_K} {l : Launch} {D : va_G} {b0 : Nat} {sa : Nat → Nat} {dA : FieldType → ClassId} {n : Nat} (hG : cm_Good pg K) (hB : cm_BodyAt pg K l D b0 sa dA n) : cm_BodyAt pg K l D b0 sa dA (n + 1) := by
  intro mi mr mn hmr hmn p e R s m args below meth c Q v hv hF hret d pc lv st h R0 hrun hv1 hv2 H locs cells slots ls hI
  change cm_step pg (cm_run pg n) d mr pc lv st h = some R0 at hrun
  cases hat : cm_at mr.1 pc with
  | none =>
    unfold cm_step at hrun
    rw [hat] at hrun
    cases hrun
  | some i =>
    obtain ⟨ins, np, rs⟩ := i
    cases ins with
    | iconst i => exact cm_s_iconst hG hB i mi mr mn hmr hmn p e R s m args below meth c Q v hv hF hret d pc lv st h R0 np rs hat hrun hv1 hv2 H locs cells slots ls hI
    | bipush i => exact cm_s_bipush hG hB i mi mr mn hmr hmn p e R s m args below meth c Q v hv hF hret d pc lv st h R0 np rs hat hrun hv1 hv2 H locs cells slots ls hI
    | sipush i => exact cm_s_sipush hG hB i mi mr mn hmr hmn p e R s m args below meth c Q v hv hF hret d pc lv st h R0 np rs hat hrun hv1 hv2 H locs cells slots ls hI
    | lconst i => exact cm_s_lconst hG hB i mi mr mn hmr hmn p e R s m args below meth c Q v hv hF hret d pc lv st h R0 np rs hat hrun hv1 hv2 H locs cells slots ls hI
    | ldc i => exact cm_s_ldc hG hB i mi mr mn hmr hmn p e R s m args below meth c Q v hv hF hret d pc lv st h R0 np rs hat hrun hv1 hv2 H locs cells slots ls hI
    | ldc_w i => exact cm_s_ldc_w hG hB i mi mr mn hmr hmn p e R s m args below meth c Q v hv hF hret d pc lv st h R0 np rs hat hrun hv1 hv2 H locs cells slots ls hI
    | ldc2_w i => exact cm_s_ldc2_w hG hB i mi mr mn hmr hmn p e R s m args below meth c Q v hv hF hret d pc lv st h R0 np rs hat hrun hv1 hv2 H locs cells slots ls hI
    | iload i => exact cm_s_iload hG hB i mi mr mn hmr hmn p e R s m args below meth c Q v hv hF hret d pc lv st h R0 np rs hat hrun hv1 hv2 H locs cells slots ls hI
    | iload_n i => exact cm_s_iload_n hG hB i mi mr mn hmr hmn p e R s m args below meth c Q v hv hF hret d pc lv st h R0 np rs hat hrun hv1 hv2 H locs cells slots ls hI
    | lload i => exact cm_s_lload hG hB i mi mr mn hmr hmn p e R s m args below meth c Q v hv hF hret d pc lv st h R0 np rs hat hrun hv1 hv2 H locs cells slots ls hI
    | lload_n i => exact cm_s_lload_n hG hB i mi mr mn hmr hmn p e R s m args below meth c Q v hv hF hret d pc lv st h R0 np rs hat hrun hv1 hv2 H locs cells slots ls hI
    | aload i => exact cm_s_aload hG hB i mi mr mn hmr hmn p e R s m args below meth c Q v hv hF hret d pc lv st h R0 np rs hat hrun hv1 hv2 H locs cells slots ls hI
    | aload_n i => exact cm_s_aload_n hG hB i mi mr mn hmr hmn p e R s m args below meth c Q v hv hF hret d pc lv st h R0 np rs hat hrun hv1 hv2 H locs cells slots ls hI
    | istore i => exact cm_s_istore hG hB i mi mr mn hmr hmn p e R s m args below meth c Q v hv hF hret d pc lv st h R0 np rs hat hrun hv1 hv2 H locs cells slots ls hI
    | istore_n i => exact cm_s_istore_n hG hB i mi mr mn hmr hmn p e R s m args below meth c Q v hv hF hret d pc lv st h R0 np rs hat hrun hv1 hv2 H locs cells slots ls hI
    | astore i => exact cm_s_astore hG hB i mi mr mn hmr hmn p e R s m args below meth c Q v hv hF hret d pc lv st h R0 np rs hat hrun hv1 hv2 H locs cells slots ls hI
    | astore_n i => exact cm_s_astore_n hG hB i mi mr mn hmr hmn p e R s m args below meth c Q v hv hF hret d pc lv st h R0 np rs hat hrun hv1 hv2 H locs cells slots ls hI
    | iinc i o => exact cm_s_iinc hG hB i o mi mr mn hmr hmn p e R s m args below meth c Q v hv hF hret d pc lv st h R0 np rs hat hrun hv1 hv2 H locs cells slots ls hI
    | iadd => exact cm_s_iadd hG hB mi mr mn hmr hmn p e R s m args below meth c Q v hv hF hret d pc lv st h R0 np rs hat hrun hv1 hv2 H locs cells slots ls hI
    | isub => exact cm_s_isub hG hB mi mr mn hmr hmn p e R s m args below meth c Q v hv hF hret d pc lv st h R0 np rs hat hrun hv1 hv2 H locs cells slots ls hI
    | imul => exact cm_s_imul hG hB mi mr mn hmr hmn p e R s m args below meth c Q v hv hF hret d pc lv st h R0 np rs hat hrun hv1 hv2 H locs cells slots ls hI
    | idiv => exact cm_s_idiv hG hB mi mr mn hmr hmn p e R s m args below meth c Q v hv hF hret d pc lv st h R0 np rs hat hrun hv1 hv2 H locs cells slots ls hI
    | irem => exact cm_s_irem hG hB mi mr mn hmr hmn p e R s m args below meth c Q v hv hF hret d pc lv st h R0 np rs hat hrun hv1 hv2 H locs cells slots ls hI
    | iand => exact cm_s_iand hG hB mi mr mn hmr hmn p e R s m args below meth c Q v hv hF hret d pc lv st h R0 np rs hat hrun hv1 hv2 H locs cells slots ls hI
    | ior => exact cm_s_ior hG hB mi mr mn hmr hmn p e R s m args below meth c Q v hv hF hret d pc lv st h R0 np rs hat hrun hv1 hv2 H locs cells slots ls hI
    | ixor => exact cm_s_ixor hG hB mi mr mn hmr hmn p e R s m args below meth c Q v hv hF hret d pc lv st h R0 np rs hat hrun hv1 hv2 H locs cells slots ls hI
    | ishl => exact cm_s_ishl hG hB mi mr mn hmr hmn p e R s m args below meth c Q v hv hF hret d pc lv st h R0 np rs hat hrun hv1 hv2 H locs cells slots ls hI
    | ishr => exact cm_s_ishr hG hB mi mr mn hmr hmn p e R s m args below meth c Q v hv hF hret d pc lv st h R0 np rs hat hrun hv1 hv2 H locs cells slots ls hI
    | iushr => exact cm_s_iushr hG hB mi mr mn hmr hmn p e R s m args below meth c Q v hv hF hret d pc lv st h R0 np rs hat hrun hv1 hv2 H locs cells slots ls hI
    | land => exact cm_s_land hG hB mi mr mn hmr hmn p e R s m args below meth c Q v hv hF hret d pc lv st h R0 np rs hat hrun hv1 hv2 H locs cells slots ls hI
    | lor => exact cm_s_lor hG hB mi mr mn hmr hmn p e R s m args below meth c Q v hv hF hret d pc lv st h R0 np rs hat hrun hv1 hv2 H locs cells slots ls hI
    | lshl => exact cm_s_lshl hG hB mi mr mn hmr hmn p e R s m args below meth c Q v hv hF hret d pc lv st h R0 np rs hat hrun hv1 hv2 H locs cells slots ls hI
    | lshr => exact cm_s_lshr hG hB mi mr mn hmr hmn p e R s m args below meth c Q v hv hF hret d pc lv st h R0 np rs hat hrun hv1 hv2 H locs cells slots ls hI
    | lushr => exact cm_s_lushr hG hB mi mr mn hmr hmn p e R s m args below meth c Q v hv hF hret d pc lv st h R0 np rs hat hrun hv1 hv2 H locs cells slots ls hI
    | lcmp => exact cm_s_lcmp hG hB mi mr mn hmr hmn p e R s m args below meth c Q v hv hF hret d pc lv st h R0 np rs hat hrun hv1 hv2 H locs cells slots ls hI
    | ineg => exact cm_s_ineg hG hB mi mr mn hmr hmn p e R s m args below meth c Q v hv hF hret d pc lv st h R0 np rs hat hrun hv1 hv2 H locs cells slots ls hI
    | i2l => exact cm_s_i2l hG hB mi mr mn hmr hmn p e R s m args below meth c Q v hv hF hret d pc lv st h R0 np rs hat hrun hv1 hv2 H locs cells slots ls hI
    | i2b => exact cm_s_i2b hG hB mi mr mn hmr hmn p e R s m args below meth c Q v hv hF hret d pc lv st h R0 np rs hat hrun hv1 hv2 H locs cells slots ls hI
    | i2s => exact cm_s_i2s hG hB mi mr mn hmr hmn p e R s m args below meth c Q v hv hF hret d pc lv st h R0 np rs hat hrun hv1 hv2 H locs cells slots ls hI
    | i2c => exact cm_s_i2c hG hB mi mr mn hmr hmn p e R s m args below meth c Q v hv hF hret d pc lv st h R0 np rs hat hrun hv1 hv2 H locs cells slots ls hI
    | l2i => exact cm_s_l2i hG hB mi mr mn hmr hmn p e R s m args below meth c Q v hv hF hret d pc lv st h R0 np rs hat hrun hv1 hv2 H locs cells slots ls hI
    | pop => exact cm_s_pop hG hB mi mr mn hmr hmn p e R s m args below meth c Q v hv hF hret d pc lv st h R0 np rs hat hrun hv1 hv2 H locs cells slots ls hI
    | dup => exact cm_s_dup hG hB mi mr mn hmr hmn p e R s m args below meth c Q v hv hF hret d pc lv st h R0 np rs hat hrun hv1 hv2 H locs cells slots ls hI
    | dup_x1 => exact cm_s_dup_x1 hG hB mi mr mn hmr hmn p e R s m args below meth c Q v hv hF hret d pc lv st h R0 np rs hat hrun hv1 hv2 H locs cells slots ls hI
    | dup2 => exact cm_s_dup2 hG hB mi mr mn hmr hmn p e R s m args below meth c Q v hv hF hret d pc lv st h R0 np rs hat hrun hv1 hv2 H locs cells slots ls hI
    | goto o => exact cm_s_goto hG hB o mi mr mn hmr hmn p e R s m args below meth c Q v hv hF hret d pc lv st h R0 np rs hat hrun hv1 hv2 H locs cells slots ls hI
    | ifCond cnd o => exact cm_s_ifCond hG hB cnd o mi mr mn hmr hmn p e R s m args below meth c Q v hv hF hret d pc lv st h R0 np rs hat hrun hv1 hv2 H locs cells slots ls hI
    | if_icmp cnd o => exact cm_s_if_icmp hG hB cnd o mi mr mn hmr hmn p e R s m args below meth c Q v hv hF hret d pc lv st h R0 np rs hat hrun hv1 hv2 H locs cells slots ls hI
    | tableswitch df lo hi offs => exact cm_s_tableswitch hG hB df lo hi offs mi mr mn hmr hmn p e R s m args below meth c Q v hv hF hret d pc lv st h R0 np rs hat hrun hv1 hv2 H locs cells slots ls hI
    | lookupswitch df ps => exact cm_s_lookupswitch hG hB df ps mi mr mn hmr hmn p e R s m args below meth c Q v hv hF hret d pc lv st h R0 np rs hat hrun hv1 hv2 H locs cells slots ls hI
    | iaload => exact cm_s_iaload hG hB mi mr mn hmr hmn p e R s m args below meth c Q v hv hF hret d pc lv st h R0 np rs hat hrun hv1 hv2 H locs cells slots ls hI
    | baload => exact cm_s_baload hG hB mi mr mn hmr hmn p e R s m args below meth c Q v hv hF hret d pc lv st h R0 np rs hat hrun hv1 hv2 H locs cells slots ls hI
    | iastore => exact cm_s_iastore hG hB mi mr mn hmr hmn p e R s m args below meth c Q v hv hF hret d pc lv st h R0 np rs hat hrun hv1 hv2 H locs cells slots ls hI
    | bastore => exact cm_s_bastore hG hB mi mr mn hmr hmn p e R s m args below meth c Q v hv hF hret d pc lv st h R0 np rs hat hrun hv1 hv2 H locs cells slots ls hI
    | arraylength => exact cm_s_arraylength hG hB mi mr mn hmr hmn p e R s m args below meth c Q v hv hF hret d pc lv st h R0 np rs hat hrun hv1 hv2 H locs cells slots ls hI
    | newarray a => exact cm_s_newarray hG hB a mi mr mn hmr hmn p e R s m args below meth c Q v hv hF hret d pc lv st h R0 np rs hat hrun hv1 hv2 H locs cells slots ls hI
    | new i => exact cm_s_new hG hB i mi mr mn hmr hmn p e R s m args below meth c Q v hv hF hret d pc lv st h R0 np rs hat hrun hv1 hv2 H locs cells slots ls hI
    | getfield i => exact cm_s_getfield hG hB i mi mr mn hmr hmn p e R s m args below meth c Q v hv hF hret d pc lv st h R0 np rs hat hrun hv1 hv2 H locs cells slots ls hI
    | putfield i => exact cm_s_putfield hG hB i mi mr mn hmr hmn p e R s m args below meth c Q v hv hF hret d pc lv st h R0 np rs hat hrun hv1 hv2 H locs cells slots ls hI
    | getstatic i => exact cm_s_getstatic hG hB i mi mr mn hmr hmn p e R s m args below meth c Q v hv hF hret d pc lv st h R0 np rs hat hrun hv1 hv2 H locs cells slots ls hI
    | invokestatic i => exact cm_s_invokestatic hG hB i mi mr mn hmr hmn p e R s m args below meth c Q v hv hF hret d pc lv st h R0 np rs hat hrun hv1 hv2 H locs cells slots ls hI
    | invokevirtual i => exact cm_s_invokevirtual hG hB i mi mr mn hmr hmn p e R s m args below meth c Q v hv hF hret d pc lv st h R0 np rs hat hrun hv1 hv2 H locs cells slots ls hI
    | invokespecial i => exact cm_s_invokespecial hG hB i mi mr mn hmr hmn p e R s m args below meth c Q v hv hF hret d pc lv st h R0 np rs hat hrun hv1 hv2 H locs cells slots ls hI
    | ireturn => exact cm_s_ireturn hG hB mi mr mn hmr hmn p e R s m args below meth c Q v hv hF hret d pc lv st h R0 np rs hat hrun hv1 hv2 H locs cells slots ls hI
    | return_ => exact cm_s_return_ hG hB mi mr mn hmr hmn p e R s m args below meth c Q v hv hF hret d pc lv st h R0 np rs hat hrun hv1 hv2 H locs cells slots ls hI
    | _ =>
      unfold cm_step at hrun
      rw [hat] at hrun
      cases hrun
/-- WHAT THE INTERPRETER ANSWERS, THE JAVA MACHINE DOES -/
theorem cm_sound {pg : cm_G} {K : cm_K} {l : Launch} {D : va_G} {b0 : Nat} {sa : Nat → Nat} {dA : FieldType → ClassId} (hG : cm_Good pg K) : ∀ n : Nat, cm_BodyAt pg K l D b0 sa dA n
  | 0 => by
    intro mi mr mn hmr hmn p e R s m args below meth c Q v hv hF hret d pc lv st h R0 hrun
    cases hrun
  | n + 1 => cm_bodyS hG (cm_sound hG n)
