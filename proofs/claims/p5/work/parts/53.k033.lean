/-! LAYER 2, contracts checked. -/
theorem am_q401 : am_okC am_c401 = true ∧ ∃ w, am_chk am_K0 am_cs0 am_dirs0 am_ids0 am_dsr0 1000000 w am_c401 = true := ⟨by decide +kernel, 1, by decide +kernel⟩
theorem am_q402 : am_okC am_c402 = true ∧ ∃ w, am_chk am_K0 am_cs0 am_dirs0 am_ids0 am_dsr0 1000000 w am_c402 = true := ⟨by decide +kernel, 1, by decide +kernel⟩
theorem am_q403 : am_okC am_c403 = true ∧ ∃ w, am_chk am_K0 am_cs0 am_dirs0 am_ids0 am_dsr0 1000000 w am_c403 = true := ⟨by decide +kernel, 1, by decide +kernel⟩
theorem am_q404 : am_okC am_c404 = true ∧ ∃ w, am_chk am_K0 am_cs0 am_dirs0 am_ids0 am_dsr0 1000000 w am_c404 = true := ⟨by decide +kernel, 1, by decide +kernel⟩
theorem am_q405 : am_okC am_c405 = true ∧ ∃ w, am_chk am_K0 am_cs0 am_dirs0 am_ids0 am_dsr0 1000000 w am_c405 = true := ⟨by decide +kernel, 1, by decide +kernel⟩
theorem am_q406 : am_okC am_c406 = true ∧ ∃ w, am_chk am_K0 am_cs0 am_dirs0 am_ids0 am_dsr0 1000000 w am_c406 = true := ⟨by decide +kernel, 1, by decide +kernel⟩
theorem am_q407 : am_okC am_c407 = true ∧ ∃ w, am_chk am_K0 am_cs0 am_dirs0 am_ids0 am_dsr0 1000000 w am_c407 = true := ⟨by decide +kernel, 1, by decide +kernel⟩
theorem am_q408 : am_okC am_c408 = true ∧ ∃ w, am_chk am_K0 am_cs0 am_dirs0 am_ids0 am_dsr0 1000000 w am_c408 = true := ⟨by decide +kernel, 1, by decide +kernel⟩
theorem am_q409 : am_okC am_c409 = true ∧ ∃ w, am_chk am_K0 am_cs0 am_dirs0 am_ids0 am_dsr0 1000000 w am_c409 = true := ⟨by decide +kernel, 1, by decide +kernel⟩
theorem am_q410 : am_okC am_c410 = true ∧ ∃ w, am_chk am_K0 am_cs0 am_dirs0 am_ids0 am_dsr0 1000000 w am_c410 = true := ⟨by decide +kernel, 1, by decide +kernel⟩
theorem am_q411 : am_okC am_c411 = true ∧ ∃ w, am_chk am_K0 am_cs0 am_dirs0 am_ids0 am_dsr0 1000000 w am_c411 = true := ⟨by decide +kernel, 1, by decide +kernel⟩
theorem am_q412 : am_okC am_c412 = true ∧ ∃ w, am_chk am_K0 am_cs0 am_dirs0 am_ids0 am_dsr0 1000000 w am_c412 = true := ⟨by decide +kernel, 1, by decide +kernel⟩
theorem am_q413 : am_okC am_c413 = true ∧ ∃ w, am_chk am_K0 am_cs0 am_dirs0 am_ids0 am_dsr0 1000000 w am_c413 = true := ⟨by decide +kernel, 1, by decide +kernel⟩
theorem am_q414 : am_okC am_c414 = true ∧ ∃ w, am_chk am_K0 am_cs0 am_dirs0 am_ids0 am_dsr0 1000000 w am_c414 = true := ⟨by decide +kernel, 1, by decide +kernel⟩
theorem am_q415 : am_okC am_c415 = true ∧ ∃ w, am_chk am_K0 am_cs0 am_dirs0 am_ids0 am_dsr0 1000000 w am_c415 = true := ⟨by decide +kernel, 1, by decide +kernel⟩
