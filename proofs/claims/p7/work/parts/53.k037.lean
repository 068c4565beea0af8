/-! LAYER 2, contracts checked. -/
theorem am_q372 : am_okC am_c372 = true ∧ ∃ w, am_chk am_K0 am_cs0 am_dirs0 am_ids0 am_dsr0 1000000 w am_c372 = true := ⟨by decide +kernel, 1, by decide +kernel⟩
theorem am_q373 : am_okC am_c373 = true ∧ ∃ w, am_chk am_K0 am_cs0 am_dirs0 am_ids0 am_dsr0 1000000 w am_c373 = true := ⟨by decide +kernel, 1, by decide +kernel⟩
theorem am_q374 : am_okC am_c374 = true ∧ ∃ w, am_chk am_K0 am_cs0 am_dirs0 am_ids0 am_dsr0 1000000 w am_c374 = true := ⟨by decide +kernel, 1, by decide +kernel⟩
theorem am_q375 : am_okC am_c375 = true ∧ ∃ w, am_chk am_K0 am_cs0 am_dirs0 am_ids0 am_dsr0 1000000 w am_c375 = true := ⟨by decide +kernel, 1, by decide +kernel⟩
theorem am_q376 : am_okC am_c376 = true ∧ ∃ w, am_chk am_K0 am_cs0 am_dirs0 am_ids0 am_dsr0 1000000 w am_c376 = true := ⟨by decide +kernel, 1, by decide +kernel⟩
theorem am_q377 : am_okC am_c377 = true ∧ ∃ w, am_chk am_K0 am_cs0 am_dirs0 am_ids0 am_dsr0 1000000 w am_c377 = true := ⟨by decide +kernel, 1, by decide +kernel⟩
theorem am_q378 : am_okC am_c378 = true ∧ ∃ w, am_chk am_K0 am_cs0 am_dirs0 am_ids0 am_dsr0 1000000 w am_c378 = true := ⟨by decide +kernel, 1, by decide +kernel⟩
theorem am_q379 : am_okC am_c379 = true ∧ ∃ w, am_chk am_K0 am_cs0 am_dirs0 am_ids0 am_dsr0 1000000 w am_c379 = true := ⟨by decide +kernel, 1, by decide +kernel⟩
theorem am_q380 : am_okC am_c380 = true ∧ ∃ w, am_chk am_K0 am_cs0 am_dirs0 am_ids0 am_dsr0 1000000 w am_c380 = true := ⟨by decide +kernel, 1, by decide +kernel⟩
theorem am_q381 : am_okC am_c381 = true ∧ ∃ w, am_chk am_K0 am_cs0 am_dirs0 am_ids0 am_dsr0 1000000 w am_c381 = true := ⟨by decide +kernel, 1, by decide +kernel⟩
theorem am_q382 : am_okC am_c382 = true ∧ ∃ w, am_chk am_K0 am_cs0 am_dirs0 am_ids0 am_dsr0 1000000 w am_c382 = true := ⟨by decide +kernel, 1, by decide +kernel⟩
theorem am_q383 : am_okC am_c383 = true ∧ ∃ w, am_chk am_K0 am_cs0 am_dirs0 am_ids0 am_dsr0 1000000 w am_c383 = true := ⟨by decide +kernel, 1, by decide +kernel⟩
theorem am_q384 : am_okC am_c384 = true ∧ ∃ w, am_chk am_K0 am_cs0 am_dirs0 am_ids0 am_dsr0 1000000 w am_c384 = true := ⟨by decide +kernel, 1, by decide +kernel⟩
theorem am_q385 : am_okC am_c385 = true ∧ ∃ w, am_chk am_K0 am_cs0 am_dirs0 am_ids0 am_dsr0 1000000 w am_c385 = true := ⟨by decide +kernel, 1, by decide +kernel⟩
