/-! LAYER 2, contracts checked. -/
theorem am_q173 : am_okC am_c173 = true ∧ ∃ w, am_chk am_K0 am_cs0 am_dirs0 am_ids0 am_dsr0 1000000 w am_c173 = true := ⟨by decide +kernel, 1, by decide +kernel⟩
theorem am_q174 : am_okC am_c174 = true ∧ ∃ w, am_chk am_K0 am_cs0 am_dirs0 am_ids0 am_dsr0 1000000 w am_c174 = true := ⟨by decide +kernel, 1, by decide +kernel⟩
theorem am_q175 : am_okC am_c175 = true ∧ ∃ w, am_chk am_K0 am_cs0 am_dirs0 am_ids0 am_dsr0 1000000 w am_c175 = true := ⟨by decide +kernel, 1, by decide +kernel⟩
theorem am_q176 : am_okC am_c176 = true ∧ ∃ w, am_chk am_K0 am_cs0 am_dirs0 am_ids0 am_dsr0 1000000 w am_c176 = true := ⟨by decide +kernel, 1, by decide +kernel⟩
theorem am_q177 : am_okC am_c177 = true ∧ ∃ w, am_chk am_K0 am_cs0 am_dirs0 am_ids0 am_dsr0 1000000 w am_c177 = true := ⟨by decide +kernel, 1, by decide +kernel⟩
theorem am_q178 : am_okC am_c178 = true ∧ ∃ w, am_chk am_K0 am_cs0 am_dirs0 am_ids0 am_dsr0 1000000 w am_c178 = true := ⟨by decide +kernel, 3, by decide +kernel⟩
