/-! LAYER 2, contracts checked. -/
theorem am_q935 : am_okC am_c935 = true ∧ ∃ w, am_chk am_K0 am_cs0 am_dirs0 am_ids0 am_dsr0 1000000 w am_c935 = true := ⟨by decide +kernel, 1, by decide +kernel⟩
theorem am_q936 : am_okC am_c936 = true ∧ ∃ w, am_chk am_K0 am_cs0 am_dirs0 am_ids0 am_dsr0 1000000 w am_c936 = true := ⟨by decide +kernel, 1, by decide +kernel⟩
theorem am_q937 : am_okC am_c937 = true ∧ ∃ w, am_chk am_K0 am_cs0 am_dirs0 am_ids0 am_dsr0 1000000 w am_c937 = true := ⟨by decide +kernel, 1, by decide +kernel⟩
theorem am_q938 : am_okC am_c938 = true ∧ ∃ w, am_chk am_K0 am_cs0 am_dirs0 am_ids0 am_dsr0 1000000 w am_c938 = true := ⟨by decide +kernel, 1, by decide +kernel⟩
theorem am_q939 : am_okC am_c939 = true ∧ ∃ w, am_chk am_K0 am_cs0 am_dirs0 am_ids0 am_dsr0 1000000 w am_c939 = true := ⟨by decide +kernel, 1, by decide +kernel⟩
theorem am_q940 : am_okC am_c940 = true ∧ ∃ w, am_chk am_K0 am_cs0 am_dirs0 am_ids0 am_dsr0 1000000 w am_c940 = true := ⟨by decide +kernel, 1, by decide +kernel⟩
