/-! LAYER 2, contracts checked. -/
theorem am_q61 : am_okC am_c61 = true ∧ ∃ w, am_chk am_K0 am_cs0 am_dirs0 am_ids0 am_dsr0 1000000 w am_c61 = true := ⟨by decide +kernel, 1, by decide +kernel⟩
theorem am_q62 : am_okC am_c62 = true ∧ ∃ w, am_chk am_K0 am_cs0 am_dirs0 am_ids0 am_dsr0 1000000 w am_c62 = true := ⟨by decide +kernel, 4, by decide +kernel⟩
theorem am_q63 : am_okC am_c63 = true ∧ ∃ w, am_chk am_K0 am_cs0 am_dirs0 am_ids0 am_dsr0 1000000 w am_c63 = true := ⟨by decide +kernel, 4, by decide +kernel⟩
theorem am_q64 : am_okC am_c64 = true ∧ ∃ w, am_chk am_K0 am_cs0 am_dirs0 am_ids0 am_dsr0 1000000 w am_c64 = true := ⟨by decide +kernel, 4, by decide +kernel⟩
theorem am_q65 : am_okC am_c65 = true ∧ ∃ w, am_chk am_K0 am_cs0 am_dirs0 am_ids0 am_dsr0 1000000 w am_c65 = true := ⟨by decide +kernel, 4, by decide +kernel⟩
theorem am_q66 : am_okC am_c66 = true ∧ ∃ w, am_chk am_K0 am_cs0 am_dirs0 am_ids0 am_dsr0 1000000 w am_c66 = true := ⟨by decide +kernel, 4, by decide +kernel⟩
theorem am_q67 : am_okC am_c67 = true ∧ ∃ w, am_chk am_K0 am_cs0 am_dirs0 am_ids0 am_dsr0 1000000 w am_c67 = true := ⟨by decide +kernel, 4, by decide +kernel⟩
theorem am_q68 : am_okC am_c68 = true ∧ ∃ w, am_chk am_K0 am_cs0 am_dirs0 am_ids0 am_dsr0 1000000 w am_c68 = true := ⟨by decide +kernel, 4, by decide +kernel⟩
theorem am_q69 : am_okC am_c69 = true ∧ ∃ w, am_chk am_K0 am_cs0 am_dirs0 am_ids0 am_dsr0 1000000 w am_c69 = true := ⟨by decide +kernel, 4, by decide +kernel⟩
theorem am_q70 : am_okC am_c70 = true ∧ ∃ w, am_chk am_K0 am_cs0 am_dirs0 am_ids0 am_dsr0 1000000 w am_c70 = true := ⟨by decide +kernel, 4, by decide +kernel⟩
theorem am_q71 : am_okC am_c71 = true ∧ ∃ w, am_chk am_K0 am_cs0 am_dirs0 am_ids0 am_dsr0 1000000 w am_c71 = true := ⟨by decide +kernel, 4, by decide +kernel⟩
