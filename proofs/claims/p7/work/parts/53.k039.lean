/-! LAYER 2, contracts checked. -/
theorem am_q406 : am_okC am_c406 = true ∧ ∃ w, am_chk am_K0 am_cs0 am_dirs0 am_ids0 am_dsr0 1000000 w am_c406 = true := ⟨by decide +kernel, 1, by decide +kernel⟩
theorem am_q407 : am_okC am_c407 = true ∧ ∃ w, am_chk am_K0 am_cs0 am_dirs0 am_ids0 am_dsr0 1000000 w am_c407 = true := ⟨by decide +kernel, 1, by decide +kernel⟩
theorem am_q408 : am_okC am_c408 = true ∧ ∃ w, am_chk am_K0 am_cs0 am_dirs0 am_ids0 am_dsr0 1000000 w am_c408 = true := ⟨by decide +kernel, 1, by decide +kernel⟩
theorem am_q409 : am_okC am_c409 = true ∧ ∃ w, am_chk am_K0 am_cs0 am_dirs0 am_ids0 am_dsr0 1000000 w am_c409 = true := ⟨by decide +kernel, 1, by decide +kernel⟩
theorem am_q410 : am_okC am_c410 = true ∧ ∃ w, am_chk am_K0 am_cs0 am_dirs0 am_ids0 am_dsr0 1000000 w am_c410 = true := ⟨by decide +kernel, 1, by decide +kernel⟩
theorem am_q411 : am_okC am_c411 = true ∧ ∃ w, am_chk am_K0 am_cs0 am_dirs0 am_ids0 am_dsr0 1000000 w am_c411 = true := ⟨by decide +kernel, 1, by decide +kernel⟩
theorem am_q412 : am_okC am_c412 = true ∧ ∃ w, am_chk am_K0 am_cs0 am_dirs0 am_ids0 am_dsr0 1000000 w am_c412 = true := ⟨by decide +kernel, 1, by decide +kernel⟩
theorem am_q413 : am_okC am_c413 = true ∧ ∃ w, am_chk am_K0 am_cs0 am_dirs0 am_ids0 am_dsr0 1000000 w am_c413 = true := ⟨by decide +kernel, 1, by decide +kernel⟩
theorem am_q414 : am_okC am_c414 = true ∧ ∃ w, am_chk am_K0 am_cs0 am_dirs0 am_ids0 am_dsr0 1000000 w am_c414 = true := ⟨by decide +kernel, 1, by decide +kernel⟩
theorem am_q415 : am_okC am_c415 = true ∧ ∃ w, am_chk am_K0 am_cs0 am_dirs0 am_ids0 am_dsr0 1000000 w am_c415 = true := ⟨by decide +kernel, 1, by decide +kernel⟩
theorem am_q416 : am_okC am_c416 = true ∧ ∃ w, am_chk am_K0 am_cs0 am_dirs0 am_ids0 am_dsr0 1000000 w am_c416 = true := ⟨by decide +kernel, 1, by decide +kernel⟩
