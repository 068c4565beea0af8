/-! LAYER 2, contracts checked. -/
theorem am_q432 : am_okC am_c432 = true ∧ ∃ w, am_chk am_K0 am_cs0 am_dirs0 am_ids0 am_dsr0 1000000 w am_c432 = true := ⟨by decide +kernel, 1, by decide +kernel⟩
theorem am_q433 : am_okC am_c433 = true ∧ ∃ w, am_chk am_K0 am_cs0 am_dirs0 am_ids0 am_dsr0 1000000 w am_c433 = true := ⟨by decide +kernel, 1, by decide +kernel⟩
theorem am_q434 : am_okC am_c434 = true ∧ ∃ w, am_chk am_K0 am_cs0 am_dirs0 am_ids0 am_dsr0 1000000 w am_c434 = true := ⟨by decide +kernel, 1, by decide +kernel⟩
theorem am_q435 : am_okC am_c435 = true ∧ ∃ w, am_chk am_K0 am_cs0 am_dirs0 am_ids0 am_dsr0 1000000 w am_c435 = true := ⟨by decide +kernel, 1, by decide +kernel⟩
theorem am_q436 : am_okC am_c436 = true ∧ ∃ w, am_chk am_K0 am_cs0 am_dirs0 am_ids0 am_dsr0 1000000 w am_c436 = true := ⟨by decide +kernel, 1, by decide +kernel⟩
theorem am_q437 : am_okC am_c437 = true ∧ ∃ w, am_chk am_K0 am_cs0 am_dirs0 am_ids0 am_dsr0 1000000 w am_c437 = true := ⟨by decide +kernel, 1, by decide +kernel⟩
theorem am_q438 : am_okC am_c438 = true ∧ ∃ w, am_chk am_K0 am_cs0 am_dirs0 am_ids0 am_dsr0 1000000 w am_c438 = true := ⟨by decide +kernel, 1, by decide +kernel⟩
theorem am_q439 : am_okC am_c439 = true ∧ ∃ w, am_chk am_K0 am_cs0 am_dirs0 am_ids0 am_dsr0 1000000 w am_c439 = true := ⟨by decide +kernel, 1, by decide +kernel⟩
theorem am_q440 : am_okC am_c440 = true ∧ ∃ w, am_chk am_K0 am_cs0 am_dirs0 am_ids0 am_dsr0 1000000 w am_c440 = true := ⟨by decide +kernel, 1, by decide +kernel⟩
theorem am_q441 : am_okC am_c441 = true ∧ ∃ w, am_chk am_K0 am_cs0 am_dirs0 am_ids0 am_dsr0 1000000 w am_c441 = true := ⟨by decide +kernel, 1, by decide +kernel⟩
