/-! LAYER 2, contracts checked. -/
theorem am_q999 : am_okC am_c999 = true ∧ ∃ w, am_chk am_K0 am_cs0 am_dirs0 am_ids0 am_dsr0 1000000 w am_c999 = true := ⟨by decide +kernel, 5, by decide +kernel⟩
theorem am_q1000 : am_okC am_c1000 = true ∧ ∃ w, am_chk am_K0 am_cs0 am_dirs0 am_ids0 am_dsr0 1000000 w am_c1000 = true := ⟨by decide +kernel, 5, by decide +kernel⟩
theorem am_q1001 : am_okC am_c1001 = true ∧ ∃ w, am_chk am_K0 am_cs0 am_dirs0 am_ids0 am_dsr0 1000000 w am_c1001 = true := ⟨by decide +kernel, 5, by decide +kernel⟩
theorem am_q1002 : am_okC am_c1002 = true ∧ ∃ w, am_chk am_K0 am_cs0 am_dirs0 am_ids0 am_dsr0 1000000 w am_c1002 = true := ⟨by decide +kernel, 5, by decide +kernel⟩
theorem am_q1003 : am_okC am_c1003 = true ∧ ∃ w, am_chk am_K0 am_cs0 am_dirs0 am_ids0 am_dsr0 1000000 w am_c1003 = true := ⟨by decide +kernel, 5, by decide +kernel⟩
theorem am_q1004 : am_okC am_c1004 = true ∧ ∃ w, am_chk am_K0 am_cs0 am_dirs0 am_ids0 am_dsr0 1000000 w am_c1004 = true := ⟨by decide +kernel, 5, by decide +kernel⟩
