/-! LAYER 2, contracts checked. -/
theorem am_q451 : am_okC am_c451 = true ∧ ∃ w, am_chk am_K0 am_cs0 am_dirs0 am_ids0 am_dsr0 1000000 w am_c451 = true := ⟨by decide +kernel, 1, by decide +kernel⟩
theorem am_q452 : am_okC am_c452 = true ∧ ∃ w, am_chk am_K0 am_cs0 am_dirs0 am_ids0 am_dsr0 1000000 w am_c452 = true := ⟨by decide +kernel, 1, by decide +kernel⟩
theorem am_q453 : am_okC am_c453 = true ∧ ∃ w, am_chk am_K0 am_cs0 am_dirs0 am_ids0 am_dsr0 1000000 w am_c453 = true := ⟨by decide +kernel, 1, by decide +kernel⟩
theorem am_q454 : am_okC am_c454 = true ∧ ∃ w, am_chk am_K0 am_cs0 am_dirs0 am_ids0 am_dsr0 1000000 w am_c454 = true := ⟨by decide +kernel, 1, by decide +kernel⟩
theorem am_q455 : am_okC am_c455 = true ∧ ∃ w, am_chk am_K0 am_cs0 am_dirs0 am_ids0 am_dsr0 1000000 w am_c455 = true := ⟨by decide +kernel, 1, by decide +kernel⟩
theorem am_q456 : am_okC am_c456 = true ∧ ∃ w, am_chk am_K0 am_cs0 am_dirs0 am_ids0 am_dsr0 1000000 w am_c456 = true := ⟨by decide +kernel, 1, by decide +kernel⟩
theorem am_q457 : am_okC am_c457 = true ∧ ∃ w, am_chk am_K0 am_cs0 am_dirs0 am_ids0 am_dsr0 1000000 w am_c457 = true := ⟨by decide +kernel, 1, by decide +kernel⟩
theorem am_q458 : am_okC am_c458 = true ∧ ∃ w, am_chk am_K0 am_cs0 am_dirs0 am_ids0 am_dsr0 1000000 w am_c458 = true := ⟨by decide +kernel, 1, by decide +kernel⟩
theorem am_q459 : am_okC am_c459 = true ∧ ∃ w, am_chk am_K0 am_cs0 am_dirs0 am_ids0 am_dsr0 1000000 w am_c459 = true := ⟨by decide +kernel, 1, by decide +kernel⟩
theorem am_q460 : am_okC am_c460 = true ∧ ∃ w, am_chk am_K0 am_cs0 am_dirs0 am_ids0 am_dsr0 1000000 w am_c460 = true := ⟨by decide +kernel, 1, by decide +kernel⟩
theorem am_q461 : am_okC am_c461 = true ∧ ∃ w, am_chk am_K0 am_cs0 am_dirs0 am_ids0 am_dsr0 1000000 w am_c461 = true := ⟨by decide +kernel, 1, by decide +kernel⟩
theorem am_q462 : am_okC am_c462 = true ∧ ∃ w, am_chk am_K0 am_cs0 am_dirs0 am_ids0 am_dsr0 1000000 w am_c462 = true := ⟨by decide +kernel, 1, by decide +kernel⟩
theorem am_q463 : am_okC am_c463 = true ∧ ∃ w, am_chk am_K0 am_cs0 am_dirs0 am_ids0 am_dsr0 1000000 w am_c463 = true := ⟨by decide +kernel, 1, by decide +kernel⟩
