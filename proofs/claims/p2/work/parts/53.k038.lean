/-! LAYER 2, contracts checked. -/
theorem am_q382 : am_okC am_c382 = true ∧ ∃ w, am_chk am_K0 am_cs0 am_dirs0 am_ids0 am_dsr0 1000000 w am_c382 = true := ⟨by decide +kernel, 1, by decide +kernel⟩
theorem am_q383 : am_okC am_c383 = true ∧ ∃ w, am_chk am_K0 am_cs0 am_dirs0 am_ids0 am_dsr0 1000000 w am_c383 = true := ⟨by decide +kernel, 1, by decide +kernel⟩
