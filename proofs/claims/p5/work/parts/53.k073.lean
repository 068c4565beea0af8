/-! LAYER 2, contracts checked. -/
theorem am_q880 : am_okC am_c880 = true ∧ ∃ w, am_chk am_K0 am_cs0 am_dirs0 am_ids0 am_dsr0 1000000 w am_c880 = true := ⟨by decide +kernel, 1, by decide +kernel⟩
theorem am_q881 : am_okC am_c881 = true ∧ ∃ w, am_chk am_K0 am_cs0 am_dirs0 am_ids0 am_dsr0 1000000 w am_c881 = true := ⟨by decide +kernel, 1, by decide +kernel⟩
theorem am_q882 : am_okC am_c882 = true ∧ ∃ w, am_chk am_K0 am_cs0 am_dirs0 am_ids0 am_dsr0 1000000 w am_c882 = true := ⟨by decide +kernel, 1, by decide +kernel⟩
