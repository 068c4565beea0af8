/-! LAYER 2, contracts checked. -/
theorem am_q17 : am_okC am_c17 = true ∧ ∃ w, am_chk am_K0 am_cs0 am_dirs0 am_ids0 am_dsr0 1000000 w am_c17 = true := ⟨by decide +kernel, 8, by decide +kernel⟩
