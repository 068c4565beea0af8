/-! LAYER 2, contracts checked. -/
theorem am_q425 : am_okC am_c425 = true ∧ ∃ w, am_chk am_K0 am_cs0 am_dirs0 am_ids0 am_dsr0 1000000 w am_c425 = true := ⟨by decide +kernel, 1, by decide +kernel⟩
theorem am_q426 : am_okC am_c426 = true ∧ ∃ w, am_chk am_K0 am_cs0 am_dirs0 am_ids0 am_dsr0 1000000 w am_c426 = true := ⟨by decide +kernel, 1, by decide +kernel⟩
theorem am_q427 : am_okC am_c427 = true ∧ ∃ w, am_chk am_K0 am_cs0 am_dirs0 am_ids0 am_dsr0 1000000 w am_c427 = true := ⟨by decide +kernel, 1, by decide +kernel⟩
theorem am_q428 : am_okC am_c428 = true ∧ ∃ w, am_chk am_K0 am_cs0 am_dirs0 am_ids0 am_dsr0 1000000 w am_c428 = true := ⟨by decide +kernel, 1, by decide +kernel⟩
theorem am_q429 : am_okC am_c429 = true ∧ ∃ w, am_chk am_K0 am_cs0 am_dirs0 am_ids0 am_dsr0 1000000 w am_c429 = true := ⟨by decide +kernel, 1, by decide +kernel⟩
theorem am_q430 : am_okC am_c430 = true ∧ ∃ w, am_chk am_K0 am_cs0 am_dirs0 am_ids0 am_dsr0 1000000 w am_c430 = true := ⟨by decide +kernel, 1, by decide +kernel⟩
theorem am_q431 : am_okC am_c431 = true ∧ ∃ w, am_chk am_K0 am_cs0 am_dirs0 am_ids0 am_dsr0 1000000 w am_c431 = true := ⟨by decide +kernel, 1, by decide +kernel⟩
theorem am_q432 : am_okC am_c432 = true ∧ ∃ w, am_chk am_K0 am_cs0 am_dirs0 am_ids0 am_dsr0 1000000 w am_c432 = true := ⟨by decide +kernel, 1, by decide +kernel⟩
theorem am_q433 : am_okC am_c433 = true ∧ ∃ w, am_chk am_K0 am_cs0 am_dirs0 am_ids0 am_dsr0 1000000 w am_c433 = true := ⟨by decide +kernel, 1, by decide +kernel⟩
theorem am_q434 : am_okC am_c434 = true ∧ ∃ w, am_chk am_K0 am_cs0 am_dirs0 am_ids0 am_dsr0 1000000 w am_c434 = true := ⟨by decide +kernel, 1, by decide +kernel⟩
theorem am_q435 : am_okC am_c435 = true ∧ ∃ w, am_chk am_K0 am_cs0 am_dirs0 am_ids0 am_dsr0 1000000 w am_c435 = true := ⟨by decide +kernel, 1, by decide +kernel⟩
