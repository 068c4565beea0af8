/-! LAYER 2, contracts checked. -/
theorem am_q417 : am_okC am_c417 = true ∧ ∃ w, am_chk am_K0 am_cs0 am_dirs0 am_ids0 am_dsr0 1000000 w am_c417 = true := ⟨by decide +kernel, 1, by decide +kernel⟩
theorem am_q418 : am_okC am_c418 = true ∧ ∃ w, am_chk am_K0 am_cs0 am_dirs0 am_ids0 am_dsr0 1000000 w am_c418 = true := ⟨by decide +kernel, 1, by decide +kernel⟩
