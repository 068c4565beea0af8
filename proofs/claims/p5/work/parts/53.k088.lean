/-! LAYER 2, contracts checked. -/
theorem am_q1066 : am_okC am_c1066 = true ∧ ∃ w, am_chk am_K0 am_cs0 am_dirs0 am_ids0 am_dsr0 1000000 w am_c1066 = true := ⟨by decide +kernel, 1, by decide +kernel⟩
theorem am_q1067 : am_okC am_c1067 = true ∧ ∃ w, am_chk am_K0 am_cs0 am_dirs0 am_ids0 am_dsr0 1000000 w am_c1067 = true := ⟨by decide +kernel, 1, by decide +kernel⟩
theorem am_q1068 : am_okC am_c1068 = true ∧ ∃ w, am_chk am_K0 am_cs0 am_dirs0 am_ids0 am_dsr0 1000000 w am_c1068 = true := ⟨by decide +kernel, 1, by decide +kernel⟩
theorem am_q1069 : am_okC am_c1069 = true ∧ ∃ w, am_chk am_K0 am_cs0 am_dirs0 am_ids0 am_dsr0 1000000 w am_c1069 = true := ⟨by decide +kernel, 1, by decide +kernel⟩
theorem am_q1070 : am_okC am_c1070 = true ∧ ∃ w, am_chk am_K0 am_cs0 am_dirs0 am_ids0 am_dsr0 1000000 w am_c1070 = true := ⟨by decide +kernel, 1, by decide +kernel⟩
theorem am_q1071 : am_okC am_c1071 = true ∧ ∃ w, am_chk am_K0 am_cs0 am_dirs0 am_ids0 am_dsr0 1000000 w am_c1071 = true := ⟨by decide +kernel, 1, by decide +kernel⟩
theorem am_q1072 : am_okC am_c1072 = true ∧ ∃ w, am_chk am_K0 am_cs0 am_dirs0 am_ids0 am_dsr0 1000000 w am_c1072 = true := ⟨by decide +kernel, 1, by decide +kernel⟩
theorem am_q1073 : am_okC am_c1073 = true ∧ ∃ w, am_chk am_K0 am_cs0 am_dirs0 am_ids0 am_dsr0 1000000 w am_c1073 = true := ⟨by decide +kernel, 1, by decide +kernel⟩
theorem am_q1074 : am_okC am_c1074 = true ∧ ∃ w, am_chk am_K0 am_cs0 am_dirs0 am_ids0 am_dsr0 1000000 w am_c1074 = true := ⟨by decide +kernel, 1, by decide +kernel⟩
theorem am_q1075 : am_okC am_c1075 = true ∧ ∃ w, am_chk am_K0 am_cs0 am_dirs0 am_ids0 am_dsr0 1000000 w am_c1075 = true := ⟨by decide +kernel, 1, by decide +kernel⟩
theorem am_q1076 : am_okC am_c1076 = true ∧ ∃ w, am_chk am_K0 am_cs0 am_dirs0 am_ids0 am_dsr0 1000000 w am_c1076 = true := ⟨by decide +kernel, 1, by decide +kernel⟩
theorem am_q1077 : am_okC am_c1077 = true ∧ ∃ w, am_chk am_K0 am_cs0 am_dirs0 am_ids0 am_dsr0 1000000 w am_c1077 = true := ⟨by decide +kernel, 1, by decide +kernel⟩
theorem am_q1078 : am_okC am_c1078 = true ∧ ∃ w, am_chk am_K0 am_cs0 am_dirs0 am_ids0 am_dsr0 1000000 w am_c1078 = true := ⟨by decide +kernel, 1, by decide +kernel⟩
theorem am_q1079 : am_okC am_c1079 = true ∧ ∃ w, am_chk am_K0 am_cs0 am_dirs0 am_ids0 am_dsr0 1000000 w am_c1079 = true := ⟨by decide +kernel, 1, by decide +kernel⟩
theorem am_q1080 : am_okC am_c1080 = true ∧ ∃ w, am_chk am_K0 am_cs0 am_dirs0 am_ids0 am_dsr0 1000000 w am_c1080 = true := ⟨by decide +kernel, 1, by decide +kernel⟩
theorem am_q1081 : am_okC am_c1081 = true ∧ ∃ w, am_chk am_K0 am_cs0 am_dirs0 am_ids0 am_dsr0 1000000 w am_c1081 = true := ⟨by decide +kernel, 1, by decide +kernel⟩
theorem am_q1082 : am_okC am_c1082 = true ∧ ∃ w, am_chk am_K0 am_cs0 am_dirs0 am_ids0 am_dsr0 1000000 w am_c1082 = true := ⟨by decide +kernel, 3, by decide +kernel⟩
