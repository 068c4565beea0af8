noncomputable section
def cm_ms0 : List cm_M := [cm_m0, cm_m1, cm_m2, cm_m3, cm_m4, cm_m5, cm_m6, cm_m7, cm_m8, cm_m9, cm_m10, cm_m11, cm_m12, cm_m13, cm_m14, cm_m15, cm_m16, cm_m17, cm_m18, cm_m19, cm_m20, cm_m21, cm_m22, cm_m23, cm_m24]
def cm_ns0 : List cm_N := [cm_n0, cm_n1, cm_n2, cm_n3, cm_n4, cm_n5, cm_n6, cm_n7, cm_n8, cm_n9, cm_n10, cm_n11, cm_n12, cm_n13, cm_n14, cm_n15, cm_n16, cm_n17, cm_n18, cm_n19, cm_n20, cm_n21, cm_n22, cm_n23, cm_n24]
def cm_ms1 : List cm_M := [cm_m25, cm_m26, cm_m27, cm_m28, cm_m29, cm_m30, cm_m31, cm_m32, cm_m33, cm_m34, cm_m35, cm_m36, cm_m37, cm_m38, cm_m39, cm_m40, cm_m41, cm_m42, cm_m43, cm_m44, cm_m45, cm_m46, cm_m47, cm_m48, cm_m49]
def cm_ns1 : List cm_N := [cm_n25, cm_n26, cm_n27, cm_n28, cm_n29, cm_n30, cm_n31, cm_n32, cm_n33, cm_n34, cm_n35, cm_n36, cm_n37, cm_n38, cm_n39, cm_n40, cm_n41, cm_n42, cm_n43, cm_n44, cm_n45, cm_n46, cm_n47, cm_n48, cm_n49]
def cm_ms2 : List cm_M := [cm_m50, cm_m51, cm_m52, cm_m53, cm_m54, cm_m55, cm_m56, cm_m57, cm_m58, cm_m59, cm_m60, cm_m61, cm_m62, cm_m63, cm_m64, cm_m65, cm_m66, cm_m67, cm_m68, cm_m69, cm_m70, cm_m71, cm_m72, cm_m73, cm_m74]
def cm_ns2 : List cm_N := [cm_n50, cm_n51, cm_n52, cm_n53, cm_n54, cm_n55, cm_n56, cm_n57, cm_n58, cm_n59, cm_n60, cm_n61, cm_n62, cm_n63, cm_n64, cm_n65, cm_n66, cm_n67, cm_n68, cm_n69, cm_n70, cm_n71, cm_n72, cm_n73, cm_n74]
def cm_ms3 : List cm_M := [cm_m75, cm_m76, cm_m77, cm_m78, cm_m79, cm_m80, cm_m81, cm_m82, cm_m83, cm_m84, cm_m85, cm_m86, cm_m87, cm_m88, cm_m89, cm_m90, cm_m91, cm_m92, cm_m93, cm_m94, cm_m95, cm_m96, cm_m97, cm_m98, cm_m99]
def cm_ns3 : List cm_N := [cm_n75, cm_n76, cm_n77, cm_n78, cm_n79, cm_n80, cm_n81, cm_n82, cm_n83, cm_n84, cm_n85, cm_n86, cm_n87, cm_n88, cm_n89, cm_n90, cm_n91, cm_n92, cm_n93, cm_n94, cm_n95, cm_n96, cm_n97, cm_n98, cm_n99]
def cm_ms4 : List cm_M := [cm_m100, cm_m101, cm_m102, cm_m103, cm_m104, cm_m105, cm_m106, cm_m107, cm_m108, cm_m109, cm_m110, cm_m111, cm_m112, cm_m113, cm_m114, cm_m115, cm_m116, cm_m117, cm_m118, cm_m119, cm_m120, cm_m121, cm_m122, cm_m123, cm_m124]
def cm_ns4 : List cm_N := [cm_n100, cm_n101, cm_n102, cm_n103, cm_n104, cm_n105, cm_n106, cm_n107, cm_n108, cm_n109, cm_n110, cm_n111, cm_n112, cm_n113, cm_n114, cm_n115, cm_n116, cm_n117, cm_n118, cm_n119, cm_n120, cm_n121, cm_n122, cm_n123, cm_n124]
def cm_ms5 : List cm_M := [cm_m125, cm_m126, cm_m127, cm_m128, cm_m129, cm_m130, cm_m131, cm_m132, cm_m133, cm_m134, cm_m135, cm_m136, cm_m137, cm_m138, cm_m139, cm_m140, cm_m141, cm_m142, cm_m143, cm_m144, cm_m145, cm_m146, cm_m147, cm_m148, cm_m149]
def cm_ns5 : List cm_N := [cm_n125, cm_n126, cm_n127, cm_n128, cm_n129, cm_n130, cm_n131, cm_n132, cm_n133, cm_n134, cm_n135, cm_n136, cm_n137, cm_n138, cm_n139, cm_n140, cm_n141, cm_n142, cm_n143, cm_n144, cm_n145, cm_n146, cm_n147, cm_n148, cm_n149]
def cm_ms6 : List cm_M := [cm_m150, cm_m151, cm_m152, cm_m153, cm_m154, cm_m155, cm_m156, cm_m157, cm_m158, cm_m159, cm_m160, cm_m161, cm_m162, cm_m163, cm_m164, cm_m165, cm_m166, cm_m167, cm_m168, cm_m169, cm_m170, cm_m171, cm_m172, cm_m173, cm_m174]
def cm_ns6 : List cm_N := [cm_n150, cm_n151, cm_n152, cm_n153, cm_n154, cm_n155, cm_n156, cm_n157, cm_n158, cm_n159, cm_n160, cm_n161, cm_n162, cm_n163, cm_n164, cm_n165, cm_n166, cm_n167, cm_n168, cm_n169, cm_n170, cm_n171, cm_n172, cm_n173, cm_n174]
def cm_ms7 : List cm_M := [cm_m175, cm_m176, cm_m177, cm_m178, cm_m179, cm_m180, cm_m181, cm_m182, cm_m183, cm_m184, cm_m185, cm_m186, cm_m187, cm_m188, cm_m189, cm_m190, cm_m191, cm_m192, cm_m193, cm_m194, cm_m195, cm_m196, cm_m197, cm_m198, cm_m199]
def cm_ns7 : List cm_N := [cm_n175, cm_n176, cm_n177, cm_n178, cm_n179, cm_n180, cm_n181, cm_n182, cm_n183, cm_n184, cm_n185, cm_n186, cm_n187, cm_n188, cm_n189, cm_n190, cm_n191, cm_n192, cm_n193, cm_n194, cm_n195, cm_n196, cm_n197, cm_n198, cm_n199]
def cm_ms8 : List cm_M := [cm_m200, cm_m201, cm_m202, cm_m203, cm_m204, cm_m205, cm_m206, cm_m207, cm_m208, cm_m209, cm_m210, cm_m211, cm_m212, cm_m213, cm_m214, cm_m215, cm_m216, cm_m217, cm_m218, cm_m219, cm_m220, cm_m221, cm_m222, cm_m223, cm_m224]
def cm_ns8 : List cm_N := [cm_n200, cm_n201, cm_n202, cm_n203, cm_n204, cm_n205, cm_n206, cm_n207, cm_n208, cm_n209, cm_n210, cm_n211, cm_n212, cm_n213, cm_n214, cm_n215, cm_n216, cm_n217, cm_n218, cm_n219, cm_n220, cm_n221, cm_n222, cm_n223, cm_n224]
def cm_ms9 : List cm_M := [cm_m225, cm_m226, cm_m227, cm_m228, cm_m229, cm_m230, cm_m231, cm_m232, cm_m233, cm_m234, cm_m235, cm_m236, cm_m237, cm_m238, cm_m239, cm_m240, cm_m241, cm_m242, cm_m243, cm_m244, cm_m245, cm_m246, cm_m247, cm_m248, cm_m249]
def cm_ns9 : List cm_N := [cm_n225, cm_n226, cm_n227, cm_n228, cm_n229, cm_n230, cm_n231, cm_n232, cm_n233, cm_n234, cm_n235, cm_n236, cm_n237, cm_n238, cm_n239, cm_n240, cm_n241, cm_n242, cm_n243, cm_n244, cm_n245, cm_n246, cm_n247, cm_n248, cm_n249]
def cm_ms10 : List cm_M := [cm_m250, cm_m251, cm_m252]
def cm_ns10 : List cm_N := [cm_n250, cm_n251, cm_n252]
def cm_ms : List cm_M := cm_ms0 ++ (cm_ms1 ++ (cm_ms2 ++ (cm_ms3 ++ (cm_ms4 ++ (cm_ms5 ++ (cm_ms6 ++ (cm_ms7 ++ (cm_ms8 ++ (cm_ms9 ++ (cm_ms10))))))))))
def cm_ns : List cm_N := cm_ns0 ++ (cm_ns1 ++ (cm_ns2 ++ (cm_ns3 ++ (cm_ns4 ++ (cm_ns5 ++ (cm_ns6 ++ (cm_ns7 ++ (cm_ns8 ++ (cm_ns9 ++ (cm_ns10))))))))))
def cm_Kk : cm_K := (cm_Ts, cm_Ns, cm_cls, cm_ns, cm_sF, cm_sR, cm_oC)
def cm_pg (x : Term) (xs : List Int32) : cm_G := (cm_ms, cm_tys, cm_pool x, cm_oA xs, cm_oO)
/-! the rows of a method, checked -/
def cm_lchk (K : cm_K) (bytes : ByteArray) (own nm : String) : Nat → List (Option cm_I) → Bool
  | _, [] => true
  | pc, none :: l => cm_lchk K bytes own nm (pc + 1) l
  | pc, some i :: l => cm_rowB K bytes own nm pc i && cm_lchk K bytes own nm (pc + 1) l
def cm_cchk (K : cm_K) (bytes : ByteArray) (own nm : String) : Nat → List (List (Option cm_I)) → Bool
  | _, [] => true
  | j, l :: ls => decide (l.length ≤ 16) && cm_lchk K bytes own nm (16 * j) l && cm_cchk K bytes own nm (j + 1) ls
theorem cm_lchk_ok {K : cm_K} {bytes : ByteArray} {own nm : String} : ∀ {l : List (Option cm_I)} {pc : Nat}, cm_lchk K bytes own nm pc l = true → ∀ (j : Nat) (i : cm_I), l[j]? = some (some i) → cm_rowB K bytes own nm (pc + j) i = true
  | [], _, _, j, i, h => by simp at h
  | none :: l, pc, hc, j, i, h => by
    cases j with
    | zero => simp at h
    | succ j =>
      have := cm_lchk_ok (l := l) (pc := pc + 1) hc j i (by simpa using h)
      rw [show pc + (j + 1) = pc + 1 + j by omega]
      exact this
  | some i0 :: l, pc, hc, j, i, h => by
    unfold cm_lchk at hc
    rw [Bool.and_eq_true] at hc
    cases j with
    | zero =>
      simp at h
      subst h
      exact hc.1
    | succ j =>
      have := cm_lchk_ok (l := l) (pc := pc + 1) hc.2 j i (by simpa using h)
      rw [show pc + (j + 1) = pc + 1 + j by omega]
      exact this
theorem cm_cchk_ok {K : cm_K} {bytes : ByteArray} {own nm : String} : ∀ {c : List (List (Option cm_I))} {b : Nat}, cm_cchk K bytes own nm b c = true → ∀ (j k : Nat) (l : List (Option cm_I)) (i : cm_I), c[j]? = some l → l[k]? = some (some i) → cm_rowB K bytes own nm (16 * (b + j) + k) i = true
  | [], _, _, j, k, l, i, h, _ => by simp at h
  | l0 :: c, b, hc, j, k, l, i, h, h2 => by
    unfold cm_cchk at hc
    rw [Bool.and_eq_true, Bool.and_eq_true] at hc
    cases j with
    | zero =>
      simp at h
      subst h
      exact cm_lchk_ok hc.1.2 k i h2
    | succ j =>
      have := cm_cchk_ok (c := c) (b := b + 1) hc.2 j k l i (by simpa using h) h2
      rw [show b + (j + 1) = b + 1 + j by omega]
      exact this
theorem cm_at_row {K : cm_K} {bytes : ByteArray} {own nm : String} {c : List (List (Option cm_I))} (hc : cm_cchk K bytes own nm 0 c = true) {pc : Nat} {i : cm_I} (h : cm_at c pc = some i) : cm_rowB K bytes own nm pc i = true := by
  unfold cm_at at h
  rw [cm_nth_eq] at h
  split at h
  · cases h
  · rename_i l hl
    rw [cm_nth_eq] at h
    split at h
    · rename_i i' hi
      cases h
      have := cm_cchk_ok hc (pc / 16) (pc % 16) l i hl hi
      rw [show 16 * (0 + pc / 16) + pc % 16 = pc by omega] at this
      exact this
    · cases h
/-- bytes alike, one by one -/
def cm_bl : List UInt8 → List UInt8 → Bool
  | [], [] => true
  | x :: a, y :: b => match Nat.beq x.toNat y.toNat with
    | true => cm_bl a b
    | false => false
  | _, _ => false
theorem cm_bl_ok : ∀ {a b : List UInt8}, cm_bl a b = true → a = b
  | [], [], _ => rfl
  | x :: a, y :: b, h => by
    unfold cm_bl at h
    split at h
    · rename_i e
      rw [UInt8.toNat_inj.mp (Nat.eq_of_beq_eq_true e), cm_bl_ok h]
    · cases h
  | [], _ :: _, h => by simp [cm_bl] at h
  | _ :: _, [], h => by simp [cm_bl] at h
/-- the code word of a method, at its place -/
def cm_wc (Ts : List Cond) (p : Nat) (mr : cm_M) (mn : cm_N) : Bool := match cm_nthR Ts p with
  | some (.code y b L r) => decide (y = mn.1) && decide (L = mr.2.1) && decide (r = mr.2.2) && cm_bl b.data.toList mn.2.1.data.toList
  | _ => false
theorem cm_wc_ok {Ts : List Cond} {p : Nat} {mr : cm_M} {mn : cm_N} (h : cm_wc Ts p mr mn = true) : .code mn.1 mn.2.1 mr.2.1 mr.2.2 ∈ Ts := by
  unfold cm_wc at h
  split at h
  · rename_i y b L r e
    simp only [Bool.and_eq_true, decide_eq_true_eq] at h
    obtain ⟨⟨⟨h1, h2⟩, h3⟩, h4⟩ := h
    subst h1
    subst h2
    subst h3
    have : b = mn.2.1 := ByteArray.ext (Array.toList_inj.mp (cm_bl_ok h4))
    subst this
    rw [cm_nthR_eq] at e
    exact List.mem_of_getElem? e
  · cases h
/-- a method of the tables, checked; p: the place of its code word -/
def cm_mok (K : cm_K) (mr : cm_M) (mn : cm_N) (p : Nat) : Bool :=
  cm_cchk K mn.2.1 mn.2.2 mn.1.name 0 mr.1 && (mn.1.name == "law" || cm_wc K.1 p mr mn) && plainName mn.1.cls && decide (mn.1.cls = mn.2.2) && decide (mn.1.cls ≠ "java/lang/invoke/MethodHandle" ∧ mn.1.cls ≠ "java/lang/invoke/VarHandle") && decide (mr.2.1 ≤ 40) && (mn.1.name != "<init>" || decide (mr.2.2 = none))
end
