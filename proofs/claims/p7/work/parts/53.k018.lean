/-! LAYER 2, contracts checked. -/
theorem am_q137 : am_okC am_c137 = true ∧ ∃ w, am_chk am_K0 am_cs0 am_dirs0 am_ids0 am_dsr0 1000000 w am_c137 = true := ⟨by decide +kernel, 3, by decide +kernel⟩
theorem am_q138 : am_okC am_c138 = true ∧ ∃ w, am_chk am_K0 am_cs0 am_dirs0 am_ids0 am_dsr0 1000000 w am_c138 = true := ⟨by decide +kernel, 3, by decide +kernel⟩
theorem am_q139 : am_okC am_c139 = true ∧ ∃ w, am_chk am_K0 am_cs0 am_dirs0 am_ids0 am_dsr0 1000000 w am_c139 = true := ⟨by decide +kernel, 3, by decide +kernel⟩
theorem am_q140 : am_okC am_c140 = true ∧ ∃ w, am_chk am_K0 am_cs0 am_dirs0 am_ids0 am_dsr0 1000000 w am_c140 = true := ⟨by decide +kernel, 3, by decide +kernel⟩
