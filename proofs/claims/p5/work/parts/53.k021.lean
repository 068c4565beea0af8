/-! LAYER 2, contracts checked. -/
theorem am_q163 : am_okC am_c163 = true ∧ ∃ w, am_chk am_K0 am_cs0 am_dirs0 am_ids0 am_dsr0 1000000 w am_c163 = true := ⟨by decide +kernel, 4, by decide +kernel⟩
theorem am_q164 : am_okC am_c164 = true ∧ ∃ w, am_chk am_K0 am_cs0 am_dirs0 am_ids0 am_dsr0 1000000 w am_c164 = true := ⟨by decide +kernel, 4, by decide +kernel⟩
theorem am_q165 : am_okC am_c165 = true ∧ ∃ w, am_chk am_K0 am_cs0 am_dirs0 am_ids0 am_dsr0 1000000 w am_c165 = true := ⟨by decide +kernel, 4, by decide +kernel⟩
theorem am_q166 : am_okC am_c166 = true ∧ ∃ w, am_chk am_K0 am_cs0 am_dirs0 am_ids0 am_dsr0 1000000 w am_c166 = true := ⟨by decide +kernel, 4, by decide +kernel⟩
theorem am_q167 : am_okC am_c167 = true ∧ ∃ w, am_chk am_K0 am_cs0 am_dirs0 am_ids0 am_dsr0 1000000 w am_c167 = true := ⟨by decide +kernel, 4, by decide +kernel⟩
theorem am_q168 : am_okC am_c168 = true ∧ ∃ w, am_chk am_K0 am_cs0 am_dirs0 am_ids0 am_dsr0 1000000 w am_c168 = true := ⟨by decide +kernel, 4, by decide +kernel⟩
theorem am_q169 : am_okC am_c169 = true ∧ ∃ w, am_chk am_K0 am_cs0 am_dirs0 am_ids0 am_dsr0 1000000 w am_c169 = true := ⟨by decide +kernel, 4, by decide +kernel⟩
theorem am_q170 : am_okC am_c170 = true ∧ ∃ w, am_chk am_K0 am_cs0 am_dirs0 am_ids0 am_dsr0 1000000 w am_c170 = true := ⟨by decide +kernel, 4, by decide +kernel⟩
theorem am_q171 : am_okC am_c171 = true ∧ ∃ w, am_chk am_K0 am_cs0 am_dirs0 am_ids0 am_dsr0 1000000 w am_c171 = true := ⟨by decide +kernel, 4, by decide +kernel⟩
