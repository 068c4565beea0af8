/-! LAYER 2, contracts checked. -/
theorem am_q1049 : am_okC am_c1049 = true ∧ ∃ w, am_chk am_K0 am_cs0 am_dirs0 am_ids0 am_dsr0 1000000 w am_c1049 = true := ⟨by decide +kernel, 1, by decide +kernel⟩
theorem am_q1050 : am_okC am_c1050 = true ∧ ∃ w, am_chk am_K0 am_cs0 am_dirs0 am_ids0 am_dsr0 1000000 w am_c1050 = true := ⟨by decide +kernel, 1, by decide +kernel⟩
theorem am_q1051 : am_okC am_c1051 = true ∧ ∃ w, am_chk am_K0 am_cs0 am_dirs0 am_ids0 am_dsr0 1000000 w am_c1051 = true := ⟨by decide +kernel, 1, by decide +kernel⟩
theorem am_q1052 : am_okC am_c1052 = true ∧ ∃ w, am_chk am_K0 am_cs0 am_dirs0 am_ids0 am_dsr0 1000000 w am_c1052 = true := ⟨by decide +kernel, 1, by decide +kernel⟩
theorem am_q1053 : am_okC am_c1053 = true ∧ ∃ w, am_chk am_K0 am_cs0 am_dirs0 am_ids0 am_dsr0 1000000 w am_c1053 = true := ⟨by decide +kernel, 1, by decide +kernel⟩
theorem am_q1054 : am_okC am_c1054 = true ∧ ∃ w, am_chk am_K0 am_cs0 am_dirs0 am_ids0 am_dsr0 1000000 w am_c1054 = true := ⟨by decide +kernel, 1, by decide +kernel⟩
theorem am_q1055 : am_okC am_c1055 = true ∧ ∃ w, am_chk am_K0 am_cs0 am_dirs0 am_ids0 am_dsr0 1000000 w am_c1055 = true := ⟨by decide +kernel, 1, by decide +kernel⟩
theorem am_q1056 : am_okC am_c1056 = true ∧ ∃ w, am_chk am_K0 am_cs0 am_dirs0 am_ids0 am_dsr0 1000000 w am_c1056 = true := ⟨by decide +kernel, 1, by decide +kernel⟩
theorem am_q1057 : am_okC am_c1057 = true ∧ ∃ w, am_chk am_K0 am_cs0 am_dirs0 am_ids0 am_dsr0 1000000 w am_c1057 = true := ⟨by decide +kernel, 1, by decide +kernel⟩
theorem am_q1058 : am_okC am_c1058 = true ∧ ∃ w, am_chk am_K0 am_cs0 am_dirs0 am_ids0 am_dsr0 1000000 w am_c1058 = true := ⟨by decide +kernel, 1, by decide +kernel⟩
theorem am_q1059 : am_okC am_c1059 = true ∧ ∃ w, am_chk am_K0 am_cs0 am_dirs0 am_ids0 am_dsr0 1000000 w am_c1059 = true := ⟨by decide +kernel, 1, by decide +kernel⟩
theorem am_q1060 : am_okC am_c1060 = true ∧ ∃ w, am_chk am_K0 am_cs0 am_dirs0 am_ids0 am_dsr0 1000000 w am_c1060 = true := ⟨by decide +kernel, 1, by decide +kernel⟩
theorem am_q1061 : am_okC am_c1061 = true ∧ ∃ w, am_chk am_K0 am_cs0 am_dirs0 am_ids0 am_dsr0 1000000 w am_c1061 = true := ⟨by decide +kernel, 1, by decide +kernel⟩
theorem am_q1062 : am_okC am_c1062 = true ∧ ∃ w, am_chk am_K0 am_cs0 am_dirs0 am_ids0 am_dsr0 1000000 w am_c1062 = true := ⟨by decide +kernel, 1, by decide +kernel⟩
theorem am_q1063 : am_okC am_c1063 = true ∧ ∃ w, am_chk am_K0 am_cs0 am_dirs0 am_ids0 am_dsr0 1000000 w am_c1063 = true := ⟨by decide +kernel, 1, by decide +kernel⟩
theorem am_q1064 : am_okC am_c1064 = true ∧ ∃ w, am_chk am_K0 am_cs0 am_dirs0 am_ids0 am_dsr0 1000000 w am_c1064 = true := ⟨by decide +kernel, 1, by decide +kernel⟩
theorem am_q1065 : am_okC am_c1065 = true ∧ ∃ w, am_chk am_K0 am_cs0 am_dirs0 am_ids0 am_dsr0 1000000 w am_c1065 = true := ⟨by decide +kernel, 1, by decide +kernel⟩
