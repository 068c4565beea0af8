/-! LAYER 2, contracts checked. -/
theorem am_q924 : am_okC am_c924 = true ∧ ∃ w, am_chk am_K0 am_cs0 am_dirs0 am_ids0 am_dsr0 1000000 w am_c924 = true := ⟨by decide +kernel, 1, by decide +kernel⟩
theorem am_q925 : am_okC am_c925 = true ∧ ∃ w, am_chk am_K0 am_cs0 am_dirs0 am_ids0 am_dsr0 1000000 w am_c925 = true := ⟨by decide +kernel, 1, by decide +kernel⟩
theorem am_q926 : am_okC am_c926 = true ∧ ∃ w, am_chk am_K0 am_cs0 am_dirs0 am_ids0 am_dsr0 1000000 w am_c926 = true := ⟨by decide +kernel, 1, by decide +kernel⟩
theorem am_q927 : am_okC am_c927 = true ∧ ∃ w, am_chk am_K0 am_cs0 am_dirs0 am_ids0 am_dsr0 1000000 w am_c927 = true := ⟨by decide +kernel, 1, by decide +kernel⟩
theorem am_q928 : am_okC am_c928 = true ∧ ∃ w, am_chk am_K0 am_cs0 am_dirs0 am_ids0 am_dsr0 1000000 w am_c928 = true := ⟨by decide +kernel, 1, by decide +kernel⟩
theorem am_q929 : am_okC am_c929 = true ∧ ∃ w, am_chk am_K0 am_cs0 am_dirs0 am_ids0 am_dsr0 1000000 w am_c929 = true := ⟨by decide +kernel, 1, by decide +kernel⟩
theorem am_q930 : am_okC am_c930 = true ∧ ∃ w, am_chk am_K0 am_cs0 am_dirs0 am_ids0 am_dsr0 1000000 w am_c930 = true := ⟨by decide +kernel, 1, by decide +kernel⟩
theorem am_q931 : am_okC am_c931 = true ∧ ∃ w, am_chk am_K0 am_cs0 am_dirs0 am_ids0 am_dsr0 1000000 w am_c931 = true := ⟨by decide +kernel, 1, by decide +kernel⟩
