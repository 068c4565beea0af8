/-! LAYER 2, contracts checked. -/
theorem am_q77 : am_okC am_c77 = true ∧ ∃ w, am_chk am_K0 am_cs0 am_dirs0 am_ids0 am_dsr0 1000000 w am_c77 = true := ⟨by decide +kernel, 1, by decide +kernel⟩
theorem am_q78 : am_okC am_c78 = true ∧ ∃ w, am_chk am_K0 am_cs0 am_dirs0 am_ids0 am_dsr0 1000000 w am_c78 = true := ⟨by decide +kernel, 1, by decide +kernel⟩
theorem am_q79 : am_okC am_c79 = true ∧ ∃ w, am_chk am_K0 am_cs0 am_dirs0 am_ids0 am_dsr0 1000000 w am_c79 = true := ⟨by decide +kernel, 1, by decide +kernel⟩
theorem am_q80 : am_okC am_c80 = true ∧ ∃ w, am_chk am_K0 am_cs0 am_dirs0 am_ids0 am_dsr0 1000000 w am_c80 = true := ⟨by decide +kernel, 1, by decide +kernel⟩
theorem am_q81 : am_okC am_c81 = true ∧ ∃ w, am_chk am_K0 am_cs0 am_dirs0 am_ids0 am_dsr0 1000000 w am_c81 = true := ⟨by decide +kernel, 1, by decide +kernel⟩
theorem am_q82 : am_okC am_c82 = true ∧ ∃ w, am_chk am_K0 am_cs0 am_dirs0 am_ids0 am_dsr0 1000000 w am_c82 = true := ⟨by decide +kernel, 3, by decide +kernel⟩
theorem am_q83 : am_okC am_c83 = true ∧ ∃ w, am_chk am_K0 am_cs0 am_dirs0 am_ids0 am_dsr0 1000000 w am_c83 = true := ⟨by decide +kernel, 3, by decide +kernel⟩
theorem am_q84 : am_okC am_c84 = true ∧ ∃ w, am_chk am_K0 am_cs0 am_dirs0 am_ids0 am_dsr0 1000000 w am_c84 = true := ⟨by decide +kernel, 3, by decide +kernel⟩
theorem am_q85 : am_okC am_c85 = true ∧ ∃ w, am_chk am_K0 am_cs0 am_dirs0 am_ids0 am_dsr0 1000000 w am_c85 = true := ⟨by decide +kernel, 3, by decide +kernel⟩
