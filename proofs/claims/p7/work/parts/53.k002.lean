/-! LAYER 2, contracts checked. -/
theorem am_q13 : am_okC am_c13 = true ∧ ∃ w, am_chk am_K0 am_cs0 am_dirs0 am_ids0 am_dsr0 1000000 w am_c13 = true := ⟨by decide +kernel, 8, by decide +kernel⟩
theorem am_q14 : am_okC am_c14 = true ∧ ∃ w, am_chk am_K0 am_cs0 am_dirs0 am_ids0 am_dsr0 1000000 w am_c14 = true := ⟨by decide +kernel, 8, by decide +kernel⟩
