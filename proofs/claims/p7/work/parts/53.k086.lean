/-! LAYER 2, contracts checked. -/
theorem am_q971 : am_okC am_c971 = true ∧ ∃ w, am_chk am_K0 am_cs0 am_dirs0 am_ids0 am_dsr0 1000000 w am_c971 = true := ⟨by decide +kernel, 1, by decide +kernel⟩
theorem am_q972 : am_okC am_c972 = true ∧ ∃ w, am_chk am_K0 am_cs0 am_dirs0 am_ids0 am_dsr0 1000000 w am_c972 = true := ⟨by decide +kernel, 1, by decide +kernel⟩
theorem am_q973 : am_okC am_c973 = true ∧ ∃ w, am_chk am_K0 am_cs0 am_dirs0 am_ids0 am_dsr0 1000000 w am_c973 = true := ⟨by decide +kernel, 1, by decide +kernel⟩
theorem am_q974 : am_okC am_c974 = true ∧ ∃ w, am_chk am_K0 am_cs0 am_dirs0 am_ids0 am_dsr0 1000000 w am_c974 = true := ⟨by decide +kernel, 1, by decide +kernel⟩
theorem am_q975 : am_okC am_c975 = true ∧ ∃ w, am_chk am_K0 am_cs0 am_dirs0 am_ids0 am_dsr0 1000000 w am_c975 = true := ⟨by decide +kernel, 1, by decide +kernel⟩
theorem am_q976 : am_okC am_c976 = true ∧ ∃ w, am_chk am_K0 am_cs0 am_dirs0 am_ids0 am_dsr0 1000000 w am_c976 = true := ⟨by decide +kernel, 1, by decide +kernel⟩
theorem am_q977 : am_okC am_c977 = true ∧ ∃ w, am_chk am_K0 am_cs0 am_dirs0 am_ids0 am_dsr0 1000000 w am_c977 = true := ⟨by decide +kernel, 1, by decide +kernel⟩
theorem am_q978 : am_okC am_c978 = true ∧ ∃ w, am_chk am_K0 am_cs0 am_dirs0 am_ids0 am_dsr0 1000000 w am_c978 = true := ⟨by decide +kernel, 1, by decide +kernel⟩
theorem am_q979 : am_okC am_c979 = true ∧ ∃ w, am_chk am_K0 am_cs0 am_dirs0 am_ids0 am_dsr0 1000000 w am_c979 = true := ⟨by decide +kernel, 1, by decide +kernel⟩
theorem am_q980 : am_okC am_c980 = true ∧ ∃ w, am_chk am_K0 am_cs0 am_dirs0 am_ids0 am_dsr0 1000000 w am_c980 = true := ⟨by decide +kernel, 1, by decide +kernel⟩
theorem am_q981 : am_okC am_c981 = true ∧ ∃ w, am_chk am_K0 am_cs0 am_dirs0 am_ids0 am_dsr0 1000000 w am_c981 = true := ⟨by decide +kernel, 1, by decide +kernel⟩
