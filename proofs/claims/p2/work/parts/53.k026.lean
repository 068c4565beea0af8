/-! LAYER 2, contracts checked. -/
theorem am_q165 : am_okC am_c165 = true ∧ ∃ w, am_chk am_K0 am_cs0 am_dirs0 am_ids0 am_dsr0 1000000 w am_c165 = true := ⟨by decide +kernel, 4, by decide +kernel⟩
theorem am_q166 : am_okC am_c166 = true ∧ ∃ w, am_chk am_K0 am_cs0 am_dirs0 am_ids0 am_dsr0 1000000 w am_c166 = true := ⟨by decide +kernel, 4, by decide +kernel⟩
theorem am_q167 : am_okC am_c167 = true ∧ ∃ w, am_chk am_K0 am_cs0 am_dirs0 am_ids0 am_dsr0 1000000 w am_c167 = true := ⟨by decide +kernel, 4, by decide +kernel⟩
theorem am_q168 : am_okC am_c168 = true ∧ ∃ w, am_chk am_K0 am_cs0 am_dirs0 am_ids0 am_dsr0 1000000 w am_c168 = true := ⟨by decide +kernel, 4, by decide +kernel⟩
theorem am_q169 : am_okC am_c169 = true ∧ ∃ w, am_chk am_K0 am_cs0 am_dirs0 am_ids0 am_dsr0 1000000 w am_c169 = true := ⟨by decide +kernel, 4, by decide +kernel⟩
theorem am_q170 : am_okC am_c170 = true ∧ ∃ w, am_chk am_K0 am_cs0 am_dirs0 am_ids0 am_dsr0 1000000 w am_c170 = true := ⟨by decide +kernel, 4, by decide +kernel⟩
theorem am_q171 : am_okC am_c171 = true ∧ ∃ w, am_chk am_K0 am_cs0 am_dirs0 am_ids0 am_dsr0 1000000 w am_c171 = true := ⟨by decide +kernel, 1, by decide +kernel⟩
theorem am_q172 : am_okC am_c172 = true ∧ ∃ w, am_chk am_K0 am_cs0 am_dirs0 am_ids0 am_dsr0 1000000 w am_c172 = true := ⟨by decide +kernel, 1, by decide +kernel⟩
theorem am_q173 : am_okC am_c173 = true ∧ ∃ w, am_chk am_K0 am_cs0 am_dirs0 am_ids0 am_dsr0 1000000 w am_c173 = true := ⟨by decide +kernel, 1, by decide +kernel⟩
theorem am_q174 : am_okC am_c174 = true ∧ ∃ w, am_chk am_K0 am_cs0 am_dirs0 am_ids0 am_dsr0 1000000 w am_c174 = true := ⟨by decide +kernel, 1, by decide +kernel⟩
theorem am_q175 : am_okC am_c175 = true ∧ ∃ w, am_chk am_K0 am_cs0 am_dirs0 am_ids0 am_dsr0 1000000 w am_c175 = true := ⟨by decide +kernel, 1, by decide +kernel⟩
theorem am_q176 : am_okC am_c176 = true ∧ ∃ w, am_chk am_K0 am_cs0 am_dirs0 am_ids0 am_dsr0 1000000 w am_c176 = true := ⟨by decide +kernel, 1, by decide +kernel⟩
theorem am_q177 : am_okC am_c177 = true ∧ ∃ w, am_chk am_K0 am_cs0 am_dirs0 am_ids0 am_dsr0 1000000 w am_c177 = true := ⟨by decide +kernel, 1, by decide +kernel⟩
