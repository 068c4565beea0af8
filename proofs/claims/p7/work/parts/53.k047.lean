/-! LAYER 2, contracts checked. -/
theorem am_q475 : am_okC am_c475 = true ∧ ∃ w, am_chk am_K0 am_cs0 am_dirs0 am_ids0 am_dsr0 1000000 w am_c475 = true := ⟨by decide +kernel, 1, by decide +kernel⟩
theorem am_q476 : am_okC am_c476 = true ∧ ∃ w, am_chk am_K0 am_cs0 am_dirs0 am_ids0 am_dsr0 1000000 w am_c476 = true := ⟨by decide +kernel, 1, by decide +kernel⟩
theorem am_q477 : am_okC am_c477 = true ∧ ∃ w, am_chk am_K0 am_cs0 am_dirs0 am_ids0 am_dsr0 1000000 w am_c477 = true := ⟨by decide +kernel, 1, by decide +kernel⟩
