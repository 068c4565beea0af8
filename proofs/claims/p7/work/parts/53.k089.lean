/-! LAYER 2, contracts checked. -/
theorem am_q998 : am_okC am_c998 = true ∧ ∃ w, am_chk am_K0 am_cs0 am_dirs0 am_ids0 am_dsr0 1000000 w am_c998 = true := ⟨by decide +kernel, 1, by decide +kernel⟩
theorem am_q999 : am_okC am_c999 = true ∧ ∃ w, am_chk am_K0 am_cs0 am_dirs0 am_ids0 am_dsr0 1000000 w am_c999 = true := ⟨by decide +kernel, 1, by decide +kernel⟩
theorem am_q1000 : am_okC am_c1000 = true ∧ ∃ w, am_chk am_K0 am_cs0 am_dirs0 am_ids0 am_dsr0 1000000 w am_c1000 = true := ⟨by decide +kernel, 1, by decide +kernel⟩
theorem am_q1001 : am_okC am_c1001 = true ∧ ∃ w, am_chk am_K0 am_cs0 am_dirs0 am_ids0 am_dsr0 1000000 w am_c1001 = true := ⟨by decide +kernel, 1, by decide +kernel⟩
theorem am_q1002 : am_okC am_c1002 = true ∧ ∃ w, am_chk am_K0 am_cs0 am_dirs0 am_ids0 am_dsr0 1000000 w am_c1002 = true := ⟨by decide +kernel, 1, by decide +kernel⟩
theorem am_q1003 : am_okC am_c1003 = true ∧ ∃ w, am_chk am_K0 am_cs0 am_dirs0 am_ids0 am_dsr0 1000000 w am_c1003 = true := ⟨by decide +kernel, 1, by decide +kernel⟩
theorem am_q1004 : am_okC am_c1004 = true ∧ ∃ w, am_chk am_K0 am_cs0 am_dirs0 am_ids0 am_dsr0 1000000 w am_c1004 = true := ⟨by decide +kernel, 1, by decide +kernel⟩
theorem am_q1005 : am_okC am_c1005 = true ∧ ∃ w, am_chk am_K0 am_cs0 am_dirs0 am_ids0 am_dsr0 1000000 w am_c1005 = true := ⟨by decide +kernel, 1, by decide +kernel⟩
theorem am_q1006 : am_okC am_c1006 = true ∧ ∃ w, am_chk am_K0 am_cs0 am_dirs0 am_ids0 am_dsr0 1000000 w am_c1006 = true := ⟨by decide +kernel, 1, by decide +kernel⟩
theorem am_q1007 : am_okC am_c1007 = true ∧ ∃ w, am_chk am_K0 am_cs0 am_dirs0 am_ids0 am_dsr0 1000000 w am_c1007 = true := ⟨by decide +kernel, 1, by decide +kernel⟩
theorem am_q1008 : am_okC am_c1008 = true ∧ ∃ w, am_chk am_K0 am_cs0 am_dirs0 am_ids0 am_dsr0 1000000 w am_c1008 = true := ⟨by decide +kernel, 1, by decide +kernel⟩
theorem am_q1009 : am_okC am_c1009 = true ∧ ∃ w, am_chk am_K0 am_cs0 am_dirs0 am_ids0 am_dsr0 1000000 w am_c1009 = true := ⟨by decide +kernel, 1, by decide +kernel⟩
theorem am_q1010 : am_okC am_c1010 = true ∧ ∃ w, am_chk am_K0 am_cs0 am_dirs0 am_ids0 am_dsr0 1000000 w am_c1010 = true := ⟨by decide +kernel, 1, by decide +kernel⟩
theorem am_q1011 : am_okC am_c1011 = true ∧ ∃ w, am_chk am_K0 am_cs0 am_dirs0 am_ids0 am_dsr0 1000000 w am_c1011 = true := ⟨by decide +kernel, 1, by decide +kernel⟩
theorem am_q1012 : am_okC am_c1012 = true ∧ ∃ w, am_chk am_K0 am_cs0 am_dirs0 am_ids0 am_dsr0 1000000 w am_c1012 = true := ⟨by decide +kernel, 1, by decide +kernel⟩
theorem am_q1013 : am_okC am_c1013 = true ∧ ∃ w, am_chk am_K0 am_cs0 am_dirs0 am_ids0 am_dsr0 1000000 w am_c1013 = true := ⟨by decide +kernel, 1, by decide +kernel⟩
