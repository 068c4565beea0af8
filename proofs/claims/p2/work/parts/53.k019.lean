/-! LAYER 2, contracts checked. -/
theorem am_q111 : am_okC am_c111 = true ∧ ∃ w, am_chk am_K0 am_cs0 am_dirs0 am_ids0 am_dsr0 1000000 w am_c111 = true := ⟨by decide +kernel, 3, by decide +kernel⟩
theorem am_q112 : am_okC am_c112 = true ∧ ∃ w, am_chk am_K0 am_cs0 am_dirs0 am_ids0 am_dsr0 1000000 w am_c112 = true := ⟨by decide +kernel, 1, by decide +kernel⟩
theorem am_q113 : am_okC am_c113 = true ∧ ∃ w, am_chk am_K0 am_cs0 am_dirs0 am_ids0 am_dsr0 1000000 w am_c113 = true := ⟨by decide +kernel, 1, by decide +kernel⟩
theorem am_q114 : am_okC am_c114 = true ∧ ∃ w, am_chk am_K0 am_cs0 am_dirs0 am_ids0 am_dsr0 1000000 w am_c114 = true := ⟨by decide +kernel, 1, by decide +kernel⟩
theorem am_q115 : am_okC am_c115 = true ∧ ∃ w, am_chk am_K0 am_cs0 am_dirs0 am_ids0 am_dsr0 1000000 w am_c115 = true := ⟨by decide +kernel, 1, by decide +kernel⟩
theorem am_q116 : am_okC am_c116 = true ∧ ∃ w, am_chk am_K0 am_cs0 am_dirs0 am_ids0 am_dsr0 1000000 w am_c116 = true := ⟨by decide +kernel, 1, by decide +kernel⟩
theorem am_q117 : am_okC am_c117 = true ∧ ∃ w, am_chk am_K0 am_cs0 am_dirs0 am_ids0 am_dsr0 1000000 w am_c117 = true := ⟨by decide +kernel, 1, by decide +kernel⟩
theorem am_q118 : am_okC am_c118 = true ∧ ∃ w, am_chk am_K0 am_cs0 am_dirs0 am_ids0 am_dsr0 1000000 w am_c118 = true := ⟨by decide +kernel, 1, by decide +kernel⟩
theorem am_q119 : am_okC am_c119 = true ∧ ∃ w, am_chk am_K0 am_cs0 am_dirs0 am_ids0 am_dsr0 1000000 w am_c119 = true := ⟨by decide +kernel, 1, by decide +kernel⟩
theorem am_q120 : am_okC am_c120 = true ∧ ∃ w, am_chk am_K0 am_cs0 am_dirs0 am_ids0 am_dsr0 1000000 w am_c120 = true := ⟨by decide +kernel, 1, by decide +kernel⟩
