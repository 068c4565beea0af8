/-! LAYER 2, contracts checked. -/
theorem am_q49 : am_okC am_c49 = true ∧ ∃ w, am_chk am_K0 am_cs0 am_dirs0 am_ids0 am_dsr0 1000000 w am_c49 = true := ⟨by decide +kernel, 3, by decide +kernel⟩
theorem am_q50 : am_okC am_c50 = true ∧ ∃ w, am_chk am_K0 am_cs0 am_dirs0 am_ids0 am_dsr0 1000000 w am_c50 = true := ⟨by decide +kernel, 3, by decide +kernel⟩
theorem am_q51 : am_okC am_c51 = true ∧ ∃ w, am_chk am_K0 am_cs0 am_dirs0 am_ids0 am_dsr0 1000000 w am_c51 = true := ⟨by decide +kernel, 3, by decide +kernel⟩
theorem am_q52 : am_okC am_c52 = true ∧ ∃ w, am_chk am_K0 am_cs0 am_dirs0 am_ids0 am_dsr0 1000000 w am_c52 = true := ⟨by decide +kernel, 3, by decide +kernel⟩
theorem am_q53 : am_okC am_c53 = true ∧ ∃ w, am_chk am_K0 am_cs0 am_dirs0 am_ids0 am_dsr0 1000000 w am_c53 = true := ⟨by decide +kernel, 3, by decide +kernel⟩
theorem am_q54 : am_okC am_c54 = true ∧ ∃ w, am_chk am_K0 am_cs0 am_dirs0 am_ids0 am_dsr0 1000000 w am_c54 = true := ⟨by decide +kernel, 3, by decide +kernel⟩
