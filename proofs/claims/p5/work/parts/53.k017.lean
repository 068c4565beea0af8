/-! LAYER 2, contracts checked. -/
theorem am_q136 : am_okC am_c136 = true ∧ ∃ w, am_chk am_K0 am_cs0 am_dirs0 am_ids0 am_dsr0 1000000 w am_c136 = true := ⟨by decide +kernel, 1, by decide +kernel⟩
theorem am_q137 : am_okC am_c137 = true ∧ ∃ w, am_chk am_K0 am_cs0 am_dirs0 am_ids0 am_dsr0 1000000 w am_c137 = true := ⟨by decide +kernel, 1, by decide +kernel⟩
theorem am_q138 : am_okC am_c138 = true ∧ ∃ w, am_chk am_K0 am_cs0 am_dirs0 am_ids0 am_dsr0 1000000 w am_c138 = true := ⟨by decide +kernel, 1, by decide +kernel⟩
