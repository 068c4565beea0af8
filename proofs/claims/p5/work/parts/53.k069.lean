/-! LAYER 2, contracts checked. -/
theorem am_q850 : am_okC am_c850 = true ∧ ∃ w, am_chk am_K0 am_cs0 am_dirs0 am_ids0 am_dsr0 1000000 w am_c850 = true := ⟨by decide +kernel, 1, by decide +kernel⟩
theorem am_q851 : am_okC am_c851 = true ∧ ∃ w, am_chk am_K0 am_cs0 am_dirs0 am_ids0 am_dsr0 1000000 w am_c851 = true := ⟨by decide +kernel, 1, by decide +kernel⟩
theorem am_q852 : am_okC am_c852 = true ∧ ∃ w, am_chk am_K0 am_cs0 am_dirs0 am_ids0 am_dsr0 1000000 w am_c852 = true := ⟨by decide +kernel, 1, by decide +kernel⟩
theorem am_q853 : am_okC am_c853 = true ∧ ∃ w, am_chk am_K0 am_cs0 am_dirs0 am_ids0 am_dsr0 1000000 w am_c853 = true := ⟨by decide +kernel, 1, by decide +kernel⟩
theorem am_q854 : am_okC am_c854 = true ∧ ∃ w, am_chk am_K0 am_cs0 am_dirs0 am_ids0 am_dsr0 1000000 w am_c854 = true := ⟨by decide +kernel, 1, by decide +kernel⟩
theorem am_q855 : am_okC am_c855 = true ∧ ∃ w, am_chk am_K0 am_cs0 am_dirs0 am_ids0 am_dsr0 1000000 w am_c855 = true := ⟨by decide +kernel, 1, by decide +kernel⟩
theorem am_q856 : am_okC am_c856 = true ∧ ∃ w, am_chk am_K0 am_cs0 am_dirs0 am_ids0 am_dsr0 1000000 w am_c856 = true := ⟨by decide +kernel, 1, by decide +kernel⟩
