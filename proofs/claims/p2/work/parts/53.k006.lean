/-! LAYER 2, contracts checked. -/
theorem am_q16 : am_okC am_c16 = true ∧ ∃ w, am_chk am_K0 am_cs0 am_dirs0 am_ids0 am_dsr0 1000000 w am_c16 = true := ⟨by decide +kernel, 1, by decide +kernel⟩
theorem am_q17 : am_okC am_c17 = true ∧ ∃ w, am_chk am_K0 am_cs0 am_dirs0 am_ids0 am_dsr0 1000000 w am_c17 = true := ⟨by decide +kernel, 1, by decide +kernel⟩
theorem am_q18 : am_okC am_c18 = true ∧ ∃ w, am_chk am_K0 am_cs0 am_dirs0 am_ids0 am_dsr0 1000000 w am_c18 = true := ⟨by decide +kernel, 1, by decide +kernel⟩
theorem am_q19 : am_okC am_c19 = true ∧ ∃ w, am_chk am_K0 am_cs0 am_dirs0 am_ids0 am_dsr0 1000000 w am_c19 = true := ⟨by decide +kernel, 1, by decide +kernel⟩
theorem am_q20 : am_okC am_c20 = true ∧ ∃ w, am_chk am_K0 am_cs0 am_dirs0 am_ids0 am_dsr0 1000000 w am_c20 = true := ⟨by decide +kernel, 1, by decide +kernel⟩
theorem am_q21 : am_okC am_c21 = true ∧ ∃ w, am_chk am_K0 am_cs0 am_dirs0 am_ids0 am_dsr0 1000000 w am_c21 = true := ⟨by decide +kernel, 1, by decide +kernel⟩
theorem am_q22 : am_okC am_c22 = true ∧ ∃ w, am_chk am_K0 am_cs0 am_dirs0 am_ids0 am_dsr0 1000000 w am_c22 = true := ⟨by decide +kernel, 1, by decide +kernel⟩
theorem am_q23 : am_okC am_c23 = true ∧ ∃ w, am_chk am_K0 am_cs0 am_dirs0 am_ids0 am_dsr0 1000000 w am_c23 = true := ⟨by decide +kernel, 1, by decide +kernel⟩
