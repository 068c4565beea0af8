/-! LAYER 2, contracts checked. -/
theorem am_q7 : am_okC am_c7 = true ∧ ∃ w, am_chk am_K0 am_cs0 am_dirs0 am_ids0 am_dsr0 1000000 w am_c7 = true := ⟨by decide +kernel, 1, by decide +kernel⟩
theorem am_q8 : am_okC am_c8 = true ∧ ∃ w, am_chk am_K0 am_cs0 am_dirs0 am_ids0 am_dsr0 1000000 w am_c8 = true := ⟨by decide +kernel, 1, by decide +kernel⟩
theorem am_q9 : am_okC am_c9 = true ∧ ∃ w, am_chk am_K0 am_cs0 am_dirs0 am_ids0 am_dsr0 1000000 w am_c9 = true := ⟨by decide +kernel, 1, by decide +kernel⟩
theorem am_q10 : am_okC am_c10 = true ∧ ∃ w, am_chk am_K0 am_cs0 am_dirs0 am_ids0 am_dsr0 1000000 w am_c10 = true := ⟨by decide +kernel, 1, by decide +kernel⟩
theorem am_q11 : am_okC am_c11 = true ∧ ∃ w, am_chk am_K0 am_cs0 am_dirs0 am_ids0 am_dsr0 1000000 w am_c11 = true := ⟨by decide +kernel, 1, by decide +kernel⟩
theorem am_q12 : am_okC am_c12 = true ∧ ∃ w, am_chk am_K0 am_cs0 am_dirs0 am_ids0 am_dsr0 1000000 w am_c12 = true := ⟨by decide +kernel, 1, by decide +kernel⟩
theorem am_q13 : am_okC am_c13 = true ∧ ∃ w, am_chk am_K0 am_cs0 am_dirs0 am_ids0 am_dsr0 1000000 w am_c13 = true := ⟨by decide +kernel, 1, by decide +kernel⟩
theorem am_q14 : am_okC am_c14 = true ∧ ∃ w, am_chk am_K0 am_cs0 am_dirs0 am_ids0 am_dsr0 1000000 w am_c14 = true := ⟨by decide +kernel, 1, by decide +kernel⟩
