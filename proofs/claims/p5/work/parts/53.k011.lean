/-! LAYER 2, contracts checked. -/
theorem am_q95 : am_okC am_c95 = true ∧ ∃ w, am_chk am_K0 am_cs0 am_dirs0 am_ids0 am_dsr0 1000000 w am_c95 = true := ⟨by decide +kernel, 3, by decide +kernel⟩
theorem am_q96 : am_okC am_c96 = true ∧ ∃ w, am_chk am_K0 am_cs0 am_dirs0 am_ids0 am_dsr0 1000000 w am_c96 = true := ⟨by decide +kernel, 3, by decide +kernel⟩
theorem am_q97 : am_okC am_c97 = true ∧ ∃ w, am_chk am_K0 am_cs0 am_dirs0 am_ids0 am_dsr0 1000000 w am_c97 = true := ⟨by decide +kernel, 3, by decide +kernel⟩
theorem am_q98 : am_okC am_c98 = true ∧ ∃ w, am_chk am_K0 am_cs0 am_dirs0 am_ids0 am_dsr0 1000000 w am_c98 = true := ⟨by decide +kernel, 3, by decide +kernel⟩
