/-! LAYER 2, contracts checked. -/
theorem am_q338 : am_okC am_c338 = true ∧ ∃ w, am_chk am_K0 am_cs0 am_dirs0 am_ids0 am_dsr0 1000000 w am_c338 = true := ⟨by decide +kernel, 1, by decide +kernel⟩
theorem am_q339 : am_okC am_c339 = true ∧ ∃ w, am_chk am_K0 am_cs0 am_dirs0 am_ids0 am_dsr0 1000000 w am_c339 = true := ⟨by decide +kernel, 1, by decide +kernel⟩
theorem am_q340 : am_okC am_c340 = true ∧ ∃ w, am_chk am_K0 am_cs0 am_dirs0 am_ids0 am_dsr0 1000000 w am_c340 = true := ⟨by decide +kernel, 1, by decide +kernel⟩
theorem am_q341 : am_okC am_c341 = true ∧ ∃ w, am_chk am_K0 am_cs0 am_dirs0 am_ids0 am_dsr0 1000000 w am_c341 = true := ⟨by decide +kernel, 1, by decide +kernel⟩
theorem am_q342 : am_okC am_c342 = true ∧ ∃ w, am_chk am_K0 am_cs0 am_dirs0 am_ids0 am_dsr0 1000000 w am_c342 = true := ⟨by decide +kernel, 1, by decide +kernel⟩
theorem am_q343 : am_okC am_c343 = true ∧ ∃ w, am_chk am_K0 am_cs0 am_dirs0 am_ids0 am_dsr0 1000000 w am_c343 = true := ⟨by decide +kernel, 1, by decide +kernel⟩
theorem am_q344 : am_okC am_c344 = true ∧ ∃ w, am_chk am_K0 am_cs0 am_dirs0 am_ids0 am_dsr0 1000000 w am_c344 = true := ⟨by decide +kernel, 1, by decide +kernel⟩
theorem am_q345 : am_okC am_c345 = true ∧ ∃ w, am_chk am_K0 am_cs0 am_dirs0 am_ids0 am_dsr0 1000000 w am_c345 = true := ⟨by decide +kernel, 1, by decide +kernel⟩
theorem am_q346 : am_okC am_c346 = true ∧ ∃ w, am_chk am_K0 am_cs0 am_dirs0 am_ids0 am_dsr0 1000000 w am_c346 = true := ⟨by decide +kernel, 1, by decide +kernel⟩
theorem am_q347 : am_okC am_c347 = true ∧ ∃ w, am_chk am_K0 am_cs0 am_dirs0 am_ids0 am_dsr0 1000000 w am_c347 = true := ⟨by decide +kernel, 1, by decide +kernel⟩
theorem am_q348 : am_okC am_c348 = true ∧ ∃ w, am_chk am_K0 am_cs0 am_dirs0 am_ids0 am_dsr0 1000000 w am_c348 = true := ⟨by decide +kernel, 1, by decide +kernel⟩
theorem am_q349 : am_okC am_c349 = true ∧ ∃ w, am_chk am_K0 am_cs0 am_dirs0 am_ids0 am_dsr0 1000000 w am_c349 = true := ⟨by decide +kernel, 1, by decide +kernel⟩
theorem am_q350 : am_okC am_c350 = true ∧ ∃ w, am_chk am_K0 am_cs0 am_dirs0 am_ids0 am_dsr0 1000000 w am_c350 = true := ⟨by decide +kernel, 1, by decide +kernel⟩
theorem am_q351 : am_okC am_c351 = true ∧ ∃ w, am_chk am_K0 am_cs0 am_dirs0 am_ids0 am_dsr0 1000000 w am_c351 = true := ⟨by decide +kernel, 1, by decide +kernel⟩
