/-! LAYER 2, contracts checked. -/
theorem am_q1053 : am_okC am_c1053 = true ∧ ∃ w, am_chk am_K0 am_cs0 am_dirs0 am_ids0 am_dsr0 1000000 w am_c1053 = true := ⟨by decide +kernel, 3, by decide +kernel⟩
theorem am_q1054 : am_okC am_c1054 = true ∧ ∃ w, am_chk am_K0 am_cs0 am_dirs0 am_ids0 am_dsr0 1000000 w am_c1054 = true := ⟨by decide +kernel, 3, by decide +kernel⟩
theorem am_q1055 : am_okC am_c1055 = true ∧ ∃ w, am_chk am_K0 am_cs0 am_dirs0 am_ids0 am_dsr0 1000000 w am_c1055 = true := ⟨by decide +kernel, 3, by decide +kernel⟩
theorem am_q1056 : am_okC am_c1056 = true ∧ ∃ w, am_chk am_K0 am_cs0 am_dirs0 am_ids0 am_dsr0 1000000 w am_c1056 = true := ⟨by decide +kernel, 3, by decide +kernel⟩
theorem am_q1057 : am_okC am_c1057 = true ∧ ∃ w, am_chk am_K0 am_cs0 am_dirs0 am_ids0 am_dsr0 1000000 w am_c1057 = true := ⟨by decide +kernel, 3, by decide +kernel⟩
theorem am_q1058 : am_okC am_c1058 = true ∧ ∃ w, am_chk am_K0 am_cs0 am_dirs0 am_ids0 am_dsr0 1000000 w am_c1058 = true := ⟨by decide +kernel, 1, by decide +kernel⟩
theorem am_q1059 : am_okC am_c1059 = true ∧ ∃ w, am_chk am_K0 am_cs0 am_dirs0 am_ids0 am_dsr0 1000000 w am_c1059 = true := ⟨by decide +kernel, 1, by decide +kernel⟩
theorem am_q1060 : am_okC am_c1060 = true ∧ ∃ w, am_chk am_K0 am_cs0 am_dirs0 am_ids0 am_dsr0 1000000 w am_c1060 = true := ⟨by decide +kernel, 1, by decide +kernel⟩
theorem am_q1061 : am_okC am_c1061 = true ∧ ∃ w, am_chk am_K0 am_cs0 am_dirs0 am_ids0 am_dsr0 1000000 w am_c1061 = true := ⟨by decide +kernel, 1, by decide +kernel⟩
theorem am_q1062 : am_okC am_c1062 = true ∧ ∃ w, am_chk am_K0 am_cs0 am_dirs0 am_ids0 am_dsr0 1000000 w am_c1062 = true := ⟨by decide +kernel, 1, by decide +kernel⟩
theorem am_q1063 : am_okC am_c1063 = true ∧ ∃ w, am_chk am_K0 am_cs0 am_dirs0 am_ids0 am_dsr0 1000000 w am_c1063 = true := ⟨by decide +kernel, 1, by decide +kernel⟩
theorem am_q1064 : am_okC am_c1064 = true ∧ ∃ w, am_chk am_K0 am_cs0 am_dirs0 am_ids0 am_dsr0 1000000 w am_c1064 = true := ⟨by decide +kernel, 1, by decide +kernel⟩
theorem am_q1065 : am_okC am_c1065 = true ∧ ∃ w, am_chk am_K0 am_cs0 am_dirs0 am_ids0 am_dsr0 1000000 w am_c1065 = true := ⟨by decide +kernel, 1, by decide +kernel⟩
theorem am_q1066 : am_okC am_c1066 = true ∧ ∃ w, am_chk am_K0 am_cs0 am_dirs0 am_ids0 am_dsr0 1000000 w am_c1066 = true := ⟨by decide +kernel, 1, by decide +kernel⟩
theorem am_q1067 : am_okC am_c1067 = true ∧ ∃ w, am_chk am_K0 am_cs0 am_dirs0 am_ids0 am_dsr0 1000000 w am_c1067 = true := ⟨by decide +kernel, 1, by decide +kernel⟩
theorem am_q1068 : am_okC am_c1068 = true ∧ ∃ w, am_chk am_K0 am_cs0 am_dirs0 am_ids0 am_dsr0 1000000 w am_c1068 = true := ⟨by decide +kernel, 1, by decide +kernel⟩
theorem am_q1069 : am_okC am_c1069 = true ∧ ∃ w, am_chk am_K0 am_cs0 am_dirs0 am_ids0 am_dsr0 1000000 w am_c1069 = true := ⟨by decide +kernel, 1, by decide +kernel⟩
