/-! LAYER 2, contracts checked. -/
theorem am_q1017 : am_okC am_c1017 = true ∧ ∃ w, am_chk am_K0 am_cs0 am_dirs0 am_ids0 am_dsr0 1000000 w am_c1017 = true := ⟨by decide +kernel, 5, by decide +kernel⟩
theorem am_q1018 : am_okC am_c1018 = true ∧ ∃ w, am_chk am_K0 am_cs0 am_dirs0 am_ids0 am_dsr0 1000000 w am_c1018 = true := ⟨by decide +kernel, 5, by decide +kernel⟩
theorem am_q1019 : am_okC am_c1019 = true ∧ ∃ w, am_chk am_K0 am_cs0 am_dirs0 am_ids0 am_dsr0 1000000 w am_c1019 = true := ⟨by decide +kernel, 5, by decide +kernel⟩
theorem am_q1020 : am_okC am_c1020 = true ∧ ∃ w, am_chk am_K0 am_cs0 am_dirs0 am_ids0 am_dsr0 1000000 w am_c1020 = true := ⟨by decide +kernel, 5, by decide +kernel⟩
theorem am_q1021 : am_okC am_c1021 = true ∧ ∃ w, am_chk am_K0 am_cs0 am_dirs0 am_ids0 am_dsr0 1000000 w am_c1021 = true := ⟨by decide +kernel, 1, by decide +kernel⟩
theorem am_q1022 : am_okC am_c1022 = true ∧ ∃ w, am_chk am_K0 am_cs0 am_dirs0 am_ids0 am_dsr0 1000000 w am_c1022 = true := ⟨by decide +kernel, 1, by decide +kernel⟩
theorem am_q1023 : am_okC am_c1023 = true ∧ ∃ w, am_chk am_K0 am_cs0 am_dirs0 am_ids0 am_dsr0 1000000 w am_c1023 = true := ⟨by decide +kernel, 1, by decide +kernel⟩
theorem am_q1024 : am_okC am_c1024 = true ∧ ∃ w, am_chk am_K0 am_cs0 am_dirs0 am_ids0 am_dsr0 1000000 w am_c1024 = true := ⟨by decide +kernel, 1, by decide +kernel⟩
theorem am_q1025 : am_okC am_c1025 = true ∧ ∃ w, am_chk am_K0 am_cs0 am_dirs0 am_ids0 am_dsr0 1000000 w am_c1025 = true := ⟨by decide +kernel, 1, by decide +kernel⟩
theorem am_q1026 : am_okC am_c1026 = true ∧ ∃ w, am_chk am_K0 am_cs0 am_dirs0 am_ids0 am_dsr0 1000000 w am_c1026 = true := ⟨by decide +kernel, 1, by decide +kernel⟩
theorem am_q1027 : am_okC am_c1027 = true ∧ ∃ w, am_chk am_K0 am_cs0 am_dirs0 am_ids0 am_dsr0 1000000 w am_c1027 = true := ⟨by decide +kernel, 1, by decide +kernel⟩
theorem am_q1028 : am_okC am_c1028 = true ∧ ∃ w, am_chk am_K0 am_cs0 am_dirs0 am_ids0 am_dsr0 1000000 w am_c1028 = true := ⟨by decide +kernel, 1, by decide +kernel⟩
theorem am_q1029 : am_okC am_c1029 = true ∧ ∃ w, am_chk am_K0 am_cs0 am_dirs0 am_ids0 am_dsr0 1000000 w am_c1029 = true := ⟨by decide +kernel, 1, by decide +kernel⟩
theorem am_q1030 : am_okC am_c1030 = true ∧ ∃ w, am_chk am_K0 am_cs0 am_dirs0 am_ids0 am_dsr0 1000000 w am_c1030 = true := ⟨by decide +kernel, 1, by decide +kernel⟩
theorem am_q1031 : am_okC am_c1031 = true ∧ ∃ w, am_chk am_K0 am_cs0 am_dirs0 am_ids0 am_dsr0 1000000 w am_c1031 = true := ⟨by decide +kernel, 1, by decide +kernel⟩
