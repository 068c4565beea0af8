/-! LAYER 2, contracts checked. -/
theorem am_q927 : am_okC am_c927 = true ∧ ∃ w, am_chk am_K0 am_cs0 am_dirs0 am_ids0 am_dsr0 1000000 w am_c927 = true := ⟨by decide +kernel, 1, by decide +kernel⟩
theorem am_q928 : am_okC am_c928 = true ∧ ∃ w, am_chk am_K0 am_cs0 am_dirs0 am_ids0 am_dsr0 1000000 w am_c928 = true := ⟨by decide +kernel, 1, by decide +kernel⟩
theorem am_q929 : am_okC am_c929 = true ∧ ∃ w, am_chk am_K0 am_cs0 am_dirs0 am_ids0 am_dsr0 1000000 w am_c929 = true := ⟨by decide +kernel, 1, by decide +kernel⟩
theorem am_q930 : am_okC am_c930 = true ∧ ∃ w, am_chk am_K0 am_cs0 am_dirs0 am_ids0 am_dsr0 1000000 w am_c930 = true := ⟨by decide +kernel, 1, by decide +kernel⟩
theorem am_q931 : am_okC am_c931 = true ∧ ∃ w, am_chk am_K0 am_cs0 am_dirs0 am_ids0 am_dsr0 1000000 w am_c931 = true := ⟨by decide +kernel, 1, by decide +kernel⟩
theorem am_q932 : am_okC am_c932 = true ∧ ∃ w, am_chk am_K0 am_cs0 am_dirs0 am_ids0 am_dsr0 1000000 w am_c932 = true := ⟨by decide +kernel, 1, by decide +kernel⟩
theorem am_q933 : am_okC am_c933 = true ∧ ∃ w, am_chk am_K0 am_cs0 am_dirs0 am_ids0 am_dsr0 1000000 w am_c933 = true := ⟨by decide +kernel, 1, by decide +kernel⟩
theorem am_q934 : am_okC am_c934 = true ∧ ∃ w, am_chk am_K0 am_cs0 am_dirs0 am_ids0 am_dsr0 1000000 w am_c934 = true := ⟨by decide +kernel, 1, by decide +kernel⟩
