/-! LAYER 2, contracts checked. -/
theorem am_q0 : am_okC am_c0 = true ∧ ∃ w, am_chk am_K0 am_cs0 am_dirs0 am_ids0 am_dsr0 1000000 w am_c0 = true := ⟨by decide +kernel, 1, by decide +kernel⟩
theorem am_q1 : am_okC am_c1 = true ∧ ∃ w, am_chk am_K0 am_cs0 am_dirs0 am_ids0 am_dsr0 1000000 w am_c1 = true := ⟨by decide +kernel, 1, by decide +kernel⟩
