/-! LAYER 2, contracts checked. -/
theorem am_q15 : am_okC am_c15 = true ∧ ∃ w, am_chk am_K0 am_cs0 am_dirs0 am_ids0 am_dsr0 1000000 w am_c15 = true := ⟨by decide +kernel, 8, by decide +kernel⟩
