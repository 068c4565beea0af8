/-! LAYER 2, contracts checked. -/
theorem am_q430 : am_okC am_c430 = true ∧ ∃ w, am_chk am_K0 am_cs0 am_dirs0 am_ids0 am_dsr0 1000000 w am_c430 = true := ⟨by decide +kernel, 1, by decide +kernel⟩
theorem am_q431 : am_okC am_c431 = true ∧ ∃ w, am_chk am_K0 am_cs0 am_dirs0 am_ids0 am_dsr0 1000000 w am_c431 = true := ⟨by decide +kernel, 1, by decide +kernel⟩
