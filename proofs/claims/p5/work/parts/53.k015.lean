/-! LAYER 2, contracts checked. -/
theorem am_q115 : am_okC am_c115 = true ∧ ∃ w, am_chk am_K0 am_cs0 am_dirs0 am_ids0 am_dsr0 1000000 w am_c115 = true := ⟨by decide +kernel, 1, by decide +kernel⟩
theorem am_q116 : am_okC am_c116 = true ∧ ∃ w, am_chk am_K0 am_cs0 am_dirs0 am_ids0 am_dsr0 1000000 w am_c116 = true := ⟨by decide +kernel, 1, by decide +kernel⟩
theorem am_q117 : am_okC am_c117 = true ∧ ∃ w, am_chk am_K0 am_cs0 am_dirs0 am_ids0 am_dsr0 1000000 w am_c117 = true := ⟨by decide +kernel, 1, by decide +kernel⟩
theorem am_q118 : am_okC am_c118 = true ∧ ∃ w, am_chk am_K0 am_cs0 am_dirs0 am_ids0 am_dsr0 1000000 w am_c118 = true := ⟨by decide +kernel, 1, by decide +kernel⟩
theorem am_q119 : am_okC am_c119 = true ∧ ∃ w, am_chk am_K0 am_cs0 am_dirs0 am_ids0 am_dsr0 1000000 w am_c119 = true := ⟨by decide +kernel, 1, by decide +kernel⟩
theorem am_q120 : am_okC am_c120 = true ∧ ∃ w, am_chk am_K0 am_cs0 am_dirs0 am_ids0 am_dsr0 1000000 w am_c120 = true := ⟨by decide +kernel, 1, by decide +kernel⟩
theorem am_q121 : am_okC am_c121 = true ∧ ∃ w, am_chk am_K0 am_cs0 am_dirs0 am_ids0 am_dsr0 1000000 w am_c121 = true := ⟨by decide +kernel, 1, by decide +kernel⟩
theorem am_q122 : am_okC am_c122 = true ∧ ∃ w, am_chk am_K0 am_cs0 am_dirs0 am_ids0 am_dsr0 1000000 w am_c122 = true := ⟨by decide +kernel, 1, by decide +kernel⟩
theorem am_q123 : am_okC am_c123 = true ∧ ∃ w, am_chk am_K0 am_cs0 am_dirs0 am_ids0 am_dsr0 1000000 w am_c123 = true := ⟨by decide +kernel, 1, by decide +kernel⟩
theorem am_q124 : am_okC am_c124 = true ∧ ∃ w, am_chk am_K0 am_cs0 am_dirs0 am_ids0 am_dsr0 1000000 w am_c124 = true := ⟨by decide +kernel, 1, by decide +kernel⟩
theorem am_q125 : am_okC am_c125 = true ∧ ∃ w, am_chk am_K0 am_cs0 am_dirs0 am_ids0 am_dsr0 1000000 w am_c125 = true := ⟨by decide +kernel, 1, by decide +kernel⟩
