/-! LAYER 2, contracts checked. -/
theorem am_q932 : am_okC am_c932 = true ∧ ∃ w, am_chk am_K0 am_cs0 am_dirs0 am_ids0 am_dsr0 1000000 w am_c932 = true := ⟨by decide +kernel, 1, by decide +kernel⟩
theorem am_q933 : am_okC am_c933 = true ∧ ∃ w, am_chk am_K0 am_cs0 am_dirs0 am_ids0 am_dsr0 1000000 w am_c933 = true := ⟨by decide +kernel, 1, by decide +kernel⟩
theorem am_q934 : am_okC am_c934 = true ∧ ∃ w, am_chk am_K0 am_cs0 am_dirs0 am_ids0 am_dsr0 1000000 w am_c934 = true := ⟨by decide +kernel, 1, by decide +kernel⟩
theorem am_q935 : am_okC am_c935 = true ∧ ∃ w, am_chk am_K0 am_cs0 am_dirs0 am_ids0 am_dsr0 1000000 w am_c935 = true := ⟨by decide +kernel, 1, by decide +kernel⟩
theorem am_q936 : am_okC am_c936 = true ∧ ∃ w, am_chk am_K0 am_cs0 am_dirs0 am_ids0 am_dsr0 1000000 w am_c936 = true := ⟨by decide +kernel, 1, by decide +kernel⟩
