/-! LAYER 2, contracts checked. -/
theorem am_q169 : am_okC am_c169 = true ∧ ∃ w, am_chk am_K0 am_cs0 am_dirs0 am_ids0 am_dsr0 1000000 w am_c169 = true := ⟨by decide +kernel, 1, by decide +kernel⟩
theorem am_q170 : am_okC am_c170 = true ∧ ∃ w, am_chk am_K0 am_cs0 am_dirs0 am_ids0 am_dsr0 1000000 w am_c170 = true := ⟨by decide +kernel, 1, by decide +kernel⟩
theorem am_q171 : am_okC am_c171 = true ∧ ∃ w, am_chk am_K0 am_cs0 am_dirs0 am_ids0 am_dsr0 1000000 w am_c171 = true := ⟨by decide +kernel, 1, by decide +kernel⟩
theorem am_q172 : am_okC am_c172 = true ∧ ∃ w, am_chk am_K0 am_cs0 am_dirs0 am_ids0 am_dsr0 1000000 w am_c172 = true := ⟨by decide +kernel, 1, by decide +kernel⟩
