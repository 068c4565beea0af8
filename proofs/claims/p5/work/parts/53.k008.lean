/-! LAYER 2, contracts checked. -/
theorem am_q72 : am_okC am_c72 = true ∧ ∃ w, am_chk am_K0 am_cs0 am_dirs0 am_ids0 am_dsr0 1000000 w am_c72 = true := ⟨by decide +kernel, 4, by decide +kernel⟩
theorem am_q73 : am_okC am_c73 = true ∧ ∃ w, am_chk am_K0 am_cs0 am_dirs0 am_ids0 am_dsr0 1000000 w am_c73 = true := ⟨by decide +kernel, 4, by decide +kernel⟩
theorem am_q74 : am_okC am_c74 = true ∧ ∃ w, am_chk am_K0 am_cs0 am_dirs0 am_ids0 am_dsr0 1000000 w am_c74 = true := ⟨by decide +kernel, 4, by decide +kernel⟩
theorem am_q75 : am_okC am_c75 = true ∧ ∃ w, am_chk am_K0 am_cs0 am_dirs0 am_ids0 am_dsr0 1000000 w am_c75 = true := ⟨by decide +kernel, 4, by decide +kernel⟩
theorem am_q76 : am_okC am_c76 = true ∧ ∃ w, am_chk am_K0 am_cs0 am_dirs0 am_ids0 am_dsr0 1000000 w am_c76 = true := ⟨by decide +kernel, 4, by decide +kernel⟩
theorem am_q77 : am_okC am_c77 = true ∧ ∃ w, am_chk am_K0 am_cs0 am_dirs0 am_ids0 am_dsr0 1000000 w am_c77 = true := ⟨by decide +kernel, 4, by decide +kernel⟩
theorem am_q78 : am_okC am_c78 = true ∧ ∃ w, am_chk am_K0 am_cs0 am_dirs0 am_ids0 am_dsr0 1000000 w am_c78 = true := ⟨by decide +kernel, 4, by decide +kernel⟩
theorem am_q79 : am_okC am_c79 = true ∧ ∃ w, am_chk am_K0 am_cs0 am_dirs0 am_ids0 am_dsr0 1000000 w am_c79 = true := ⟨by decide +kernel, 4, by decide +kernel⟩
theorem am_q80 : am_okC am_c80 = true ∧ ∃ w, am_chk am_K0 am_cs0 am_dirs0 am_ids0 am_dsr0 1000000 w am_c80 = true := ⟨by decide +kernel, 4, by decide +kernel⟩
theorem am_q81 : am_okC am_c81 = true ∧ ∃ w, am_chk am_K0 am_cs0 am_dirs0 am_ids0 am_dsr0 1000000 w am_c81 = true := ⟨by decide +kernel, 4, by decide +kernel⟩
