/-! LAYER 2, contracts checked. -/
theorem am_q396 : am_okC am_c396 = true ∧ ∃ w, am_chk am_K0 am_cs0 am_dirs0 am_ids0 am_dsr0 1000000 w am_c396 = true := ⟨by decide +kernel, 1, by decide +kernel⟩
theorem am_q397 : am_okC am_c397 = true ∧ ∃ w, am_chk am_K0 am_cs0 am_dirs0 am_ids0 am_dsr0 1000000 w am_c397 = true := ⟨by decide +kernel, 1, by decide +kernel⟩
