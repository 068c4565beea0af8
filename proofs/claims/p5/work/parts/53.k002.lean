/-! LAYER 2, contracts checked. -/
theorem am_q15 : am_okC am_c15 = true ∧ ∃ w, am_chk am_K0 am_cs0 am_dirs0 am_ids0 am_dsr0 1000000 w am_c15 = true := ⟨by decide +kernel, 1, by decide +kernel⟩
theorem am_q16 : am_okC am_c16 = true ∧ ∃ w, am_chk am_K0 am_cs0 am_dirs0 am_ids0 am_dsr0 1000000 w am_c16 = true := ⟨by decide +kernel, 1, by decide +kernel⟩
theorem am_q17 : am_okC am_c17 = true ∧ ∃ w, am_chk am_K0 am_cs0 am_dirs0 am_ids0 am_dsr0 1000000 w am_c17 = true := ⟨by decide +kernel, 1, by decide +kernel⟩
theorem am_q18 : am_okC am_c18 = true ∧ ∃ w, am_chk am_K0 am_cs0 am_dirs0 am_ids0 am_dsr0 1000000 w am_c18 = true := ⟨by decide +kernel, 1, by decide +kernel⟩
theorem am_q19 : am_okC am_c19 = true ∧ ∃ w, am_chk am_K0 am_cs0 am_dirs0 am_ids0 am_dsr0 1000000 w am_c19 = true := ⟨by decide +kernel, 1, by decide +kernel⟩
theorem am_q20 : am_okC am_c20 = true ∧ ∃ w, am_chk am_K0 am_cs0 am_dirs0 am_ids0 am_dsr0 1000000 w am_c20 = true := ⟨by decide +kernel, 1, by decide +kernel⟩
theorem am_q21 : am_okC am_c21 = true ∧ ∃ w, am_chk am_K0 am_cs0 am_dirs0 am_ids0 am_dsr0 1000000 w am_c21 = true := ⟨by decide +kernel, 1, by decide +kernel⟩
theorem am_q22 : am_okC am_c22 = true ∧ ∃ w, am_chk am_K0 am_cs0 am_dirs0 am_ids0 am_dsr0 1000000 w am_c22 = true := ⟨by decide +kernel, 1, by decide +kernel⟩
theorem am_q23 : am_okC am_c23 = true ∧ ∃ w, am_chk am_K0 am_cs0 am_dirs0 am_ids0 am_dsr0 1000000 w am_c23 = true := ⟨by decide +kernel, 1, by decide +kernel⟩
theorem am_q24 : am_okC am_c24 = true ∧ ∃ w, am_chk am_K0 am_cs0 am_dirs0 am_ids0 am_dsr0 1000000 w am_c24 = true := ⟨by decide +kernel, 1, by decide +kernel⟩
theorem am_q25 : am_okC am_c25 = true ∧ ∃ w, am_chk am_K0 am_cs0 am_dirs0 am_ids0 am_dsr0 1000000 w am_c25 = true := ⟨by decide +kernel, 1, by decide +kernel⟩
theorem am_q26 : am_okC am_c26 = true ∧ ∃ w, am_chk am_K0 am_cs0 am_dirs0 am_ids0 am_dsr0 1000000 w am_c26 = true := ⟨by decide +kernel, 1, by decide +kernel⟩
theorem am_q27 : am_okC am_c27 = true ∧ ∃ w, am_chk am_K0 am_cs0 am_dirs0 am_ids0 am_dsr0 1000000 w am_c27 = true := ⟨by decide +kernel, 1, by decide +kernel⟩
theorem am_q28 : am_okC am_c28 = true ∧ ∃ w, am_chk am_K0 am_cs0 am_dirs0 am_ids0 am_dsr0 1000000 w am_c28 = true := ⟨by decide +kernel, 1, by decide +kernel⟩
theorem am_q29 : am_okC am_c29 = true ∧ ∃ w, am_chk am_K0 am_cs0 am_dirs0 am_ids0 am_dsr0 1000000 w am_c29 = true := ⟨by decide +kernel, 1, by decide +kernel⟩
theorem am_q30 : am_okC am_c30 = true ∧ ∃ w, am_chk am_K0 am_cs0 am_dirs0 am_ids0 am_dsr0 1000000 w am_c30 = true := ⟨by decide +kernel, 1, by decide +kernel⟩
theorem am_q31 : am_okC am_c31 = true ∧ ∃ w, am_chk am_K0 am_cs0 am_dirs0 am_ids0 am_dsr0 1000000 w am_c31 = true := ⟨by decide +kernel, 1, by decide +kernel⟩
