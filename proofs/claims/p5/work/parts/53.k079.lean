/-! LAYER 2, contracts checked. -/
theorem am_q963 : am_okC am_c963 = true ∧ ∃ w, am_chk am_K0 am_cs0 am_dirs0 am_ids0 am_dsr0 1000000 w am_c963 = true := ⟨by decide +kernel, 5, by decide +kernel⟩
theorem am_q964 : am_okC am_c964 = true ∧ ∃ w, am_chk am_K0 am_cs0 am_dirs0 am_ids0 am_dsr0 1000000 w am_c964 = true := ⟨by decide +kernel, 5, by decide +kernel⟩
theorem am_q965 : am_okC am_c965 = true ∧ ∃ w, am_chk am_K0 am_cs0 am_dirs0 am_ids0 am_dsr0 1000000 w am_c965 = true := ⟨by decide +kernel, 5, by decide +kernel⟩
theorem am_q966 : am_okC am_c966 = true ∧ ∃ w, am_chk am_K0 am_cs0 am_dirs0 am_ids0 am_dsr0 1000000 w am_c966 = true := ⟨by decide +kernel, 5, by decide +kernel⟩
theorem am_q967 : am_okC am_c967 = true ∧ ∃ w, am_chk am_K0 am_cs0 am_dirs0 am_ids0 am_dsr0 1000000 w am_c967 = true := ⟨by decide +kernel, 5, by decide +kernel⟩
theorem am_q968 : am_okC am_c968 = true ∧ ∃ w, am_chk am_K0 am_cs0 am_dirs0 am_ids0 am_dsr0 1000000 w am_c968 = true := ⟨by decide +kernel, 3, by decide +kernel⟩
theorem am_q969 : am_okC am_c969 = true ∧ ∃ w, am_chk am_K0 am_cs0 am_dirs0 am_ids0 am_dsr0 1000000 w am_c969 = true := ⟨by decide +kernel, 3, by decide +kernel⟩
theorem am_q970 : am_okC am_c970 = true ∧ ∃ w, am_chk am_K0 am_cs0 am_dirs0 am_ids0 am_dsr0 1000000 w am_c970 = true := ⟨by decide +kernel, 3, by decide +kernel⟩
theorem am_q971 : am_okC am_c971 = true ∧ ∃ w, am_chk am_K0 am_cs0 am_dirs0 am_ids0 am_dsr0 1000000 w am_c971 = true := ⟨by decide +kernel, 3, by decide +kernel⟩
theorem am_q972 : am_okC am_c972 = true ∧ ∃ w, am_chk am_K0 am_cs0 am_dirs0 am_ids0 am_dsr0 1000000 w am_c972 = true := ⟨by decide +kernel, 1, by decide +kernel⟩
theorem am_q973 : am_okC am_c973 = true ∧ ∃ w, am_chk am_K0 am_cs0 am_dirs0 am_ids0 am_dsr0 1000000 w am_c973 = true := ⟨by decide +kernel, 1, by decide +kernel⟩
theorem am_q974 : am_okC am_c974 = true ∧ ∃ w, am_chk am_K0 am_cs0 am_dirs0 am_ids0 am_dsr0 1000000 w am_c974 = true := ⟨by decide +kernel, 3, by decide +kernel⟩
