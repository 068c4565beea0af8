/-! LAYER 2, contracts checked. -/
theorem am_q1032 : am_okC am_c1032 = true ∧ ∃ w, am_chk am_K0 am_cs0 am_dirs0 am_ids0 am_dsr0 1000000 w am_c1032 = true := ⟨by decide +kernel, 1, by decide +kernel⟩
theorem am_q1033 : am_okC am_c1033 = true ∧ ∃ w, am_chk am_K0 am_cs0 am_dirs0 am_ids0 am_dsr0 1000000 w am_c1033 = true := ⟨by decide +kernel, 1, by decide +kernel⟩
theorem am_q1034 : am_okC am_c1034 = true ∧ ∃ w, am_chk am_K0 am_cs0 am_dirs0 am_ids0 am_dsr0 1000000 w am_c1034 = true := ⟨by decide +kernel, 1, by decide +kernel⟩
theorem am_q1035 : am_okC am_c1035 = true ∧ ∃ w, am_chk am_K0 am_cs0 am_dirs0 am_ids0 am_dsr0 1000000 w am_c1035 = true := ⟨by decide +kernel, 1, by decide +kernel⟩
theorem am_q1036 : am_okC am_c1036 = true ∧ ∃ w, am_chk am_K0 am_cs0 am_dirs0 am_ids0 am_dsr0 1000000 w am_c1036 = true := ⟨by decide +kernel, 1, by decide +kernel⟩
theorem am_q1037 : am_okC am_c1037 = true ∧ ∃ w, am_chk am_K0 am_cs0 am_dirs0 am_ids0 am_dsr0 1000000 w am_c1037 = true := ⟨by decide +kernel, 1, by decide +kernel⟩
theorem am_q1038 : am_okC am_c1038 = true ∧ ∃ w, am_chk am_K0 am_cs0 am_dirs0 am_ids0 am_dsr0 1000000 w am_c1038 = true := ⟨by decide +kernel, 1, by decide +kernel⟩
theorem am_q1039 : am_okC am_c1039 = true ∧ ∃ w, am_chk am_K0 am_cs0 am_dirs0 am_ids0 am_dsr0 1000000 w am_c1039 = true := ⟨by decide +kernel, 1, by decide +kernel⟩
theorem am_q1040 : am_okC am_c1040 = true ∧ ∃ w, am_chk am_K0 am_cs0 am_dirs0 am_ids0 am_dsr0 1000000 w am_c1040 = true := ⟨by decide +kernel, 1, by decide +kernel⟩
theorem am_q1041 : am_okC am_c1041 = true ∧ ∃ w, am_chk am_K0 am_cs0 am_dirs0 am_ids0 am_dsr0 1000000 w am_c1041 = true := ⟨by decide +kernel, 1, by decide +kernel⟩
theorem am_q1042 : am_okC am_c1042 = true ∧ ∃ w, am_chk am_K0 am_cs0 am_dirs0 am_ids0 am_dsr0 1000000 w am_c1042 = true := ⟨by decide +kernel, 1, by decide +kernel⟩
theorem am_q1043 : am_okC am_c1043 = true ∧ ∃ w, am_chk am_K0 am_cs0 am_dirs0 am_ids0 am_dsr0 1000000 w am_c1043 = true := ⟨by decide +kernel, 1, by decide +kernel⟩
theorem am_q1044 : am_okC am_c1044 = true ∧ ∃ w, am_chk am_K0 am_cs0 am_dirs0 am_ids0 am_dsr0 1000000 w am_c1044 = true := ⟨by decide +kernel, 1, by decide +kernel⟩
theorem am_q1045 : am_okC am_c1045 = true ∧ ∃ w, am_chk am_K0 am_cs0 am_dirs0 am_ids0 am_dsr0 1000000 w am_c1045 = true := ⟨by decide +kernel, 1, by decide +kernel⟩
theorem am_q1046 : am_okC am_c1046 = true ∧ ∃ w, am_chk am_K0 am_cs0 am_dirs0 am_ids0 am_dsr0 1000000 w am_c1046 = true := ⟨by decide +kernel, 1, by decide +kernel⟩
theorem am_q1047 : am_okC am_c1047 = true ∧ ∃ w, am_chk am_K0 am_cs0 am_dirs0 am_ids0 am_dsr0 1000000 w am_c1047 = true := ⟨by decide +kernel, 1, by decide +kernel⟩
theorem am_q1048 : am_okC am_c1048 = true ∧ ∃ w, am_chk am_K0 am_cs0 am_dirs0 am_ids0 am_dsr0 1000000 w am_c1048 = true := ⟨by decide +kernel, 1, by decide +kernel⟩
