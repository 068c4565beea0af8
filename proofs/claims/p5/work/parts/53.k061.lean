/-! LAYER 2, contracts checked. -/
theorem am_q800 : am_okC am_c800 = true ∧ ∃ w, am_chk am_K0 am_cs0 am_dirs0 am_ids0 am_dsr0 1000000 w am_c800 = true := ⟨by decide +kernel, 1, by decide +kernel⟩
theorem am_q801 : am_okC am_c801 = true ∧ ∃ w, am_chk am_K0 am_cs0 am_dirs0 am_ids0 am_dsr0 1000000 w am_c801 = true := ⟨by decide +kernel, 1, by decide +kernel⟩
theorem am_q802 : am_okC am_c802 = true ∧ ∃ w, am_chk am_K0 am_cs0 am_dirs0 am_ids0 am_dsr0 1000000 w am_c802 = true := ⟨by decide +kernel, 1, by decide +kernel⟩
theorem am_q803 : am_okC am_c803 = true ∧ ∃ w, am_chk am_K0 am_cs0 am_dirs0 am_ids0 am_dsr0 1000000 w am_c803 = true := ⟨by decide +kernel, 1, by decide +kernel⟩
theorem am_q804 : am_okC am_c804 = true ∧ ∃ w, am_chk am_K0 am_cs0 am_dirs0 am_ids0 am_dsr0 1000000 w am_c804 = true := ⟨by decide +kernel, 1, by decide +kernel⟩
