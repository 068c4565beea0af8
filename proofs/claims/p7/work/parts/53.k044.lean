/-! LAYER 2, contracts checked. -/
theorem am_q442 : am_okC am_c442 = true ∧ ∃ w, am_chk am_K0 am_cs0 am_dirs0 am_ids0 am_dsr0 1000000 w am_c442 = true := ⟨by decide +kernel, 1, by decide +kernel⟩
theorem am_q443 : am_okC am_c443 = true ∧ ∃ w, am_chk am_K0 am_cs0 am_dirs0 am_ids0 am_dsr0 1000000 w am_c443 = true := ⟨by decide +kernel, 1, by decide +kernel⟩
theorem am_q444 : am_okC am_c444 = true ∧ ∃ w, am_chk am_K0 am_cs0 am_dirs0 am_ids0 am_dsr0 1000000 w am_c444 = true := ⟨by decide +kernel, 1, by decide +kernel⟩
theorem am_q445 : am_okC am_c445 = true ∧ ∃ w, am_chk am_K0 am_cs0 am_dirs0 am_ids0 am_dsr0 1000000 w am_c445 = true := ⟨by decide +kernel, 1, by decide +kernel⟩
theorem am_q446 : am_okC am_c446 = true ∧ ∃ w, am_chk am_K0 am_cs0 am_dirs0 am_ids0 am_dsr0 1000000 w am_c446 = true := ⟨by decide +kernel, 1, by decide +kernel⟩
theorem am_q447 : am_okC am_c447 = true ∧ ∃ w, am_chk am_K0 am_cs0 am_dirs0 am_ids0 am_dsr0 1000000 w am_c447 = true := ⟨by decide +kernel, 1, by decide +kernel⟩
theorem am_q448 : am_okC am_c448 = true ∧ ∃ w, am_chk am_K0 am_cs0 am_dirs0 am_ids0 am_dsr0 1000000 w am_c448 = true := ⟨by decide +kernel, 1, by decide +kernel⟩
theorem am_q449 : am_okC am_c449 = true ∧ ∃ w, am_chk am_K0 am_cs0 am_dirs0 am_ids0 am_dsr0 1000000 w am_c449 = true := ⟨by decide +kernel, 1, by decide +kernel⟩
theorem am_q450 : am_okC am_c450 = true ∧ ∃ w, am_chk am_K0 am_cs0 am_dirs0 am_ids0 am_dsr0 1000000 w am_c450 = true := ⟨by decide +kernel, 1, by decide +kernel⟩
