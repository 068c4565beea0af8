/-! LAYER 2, contracts checked. -/
theorem am_q199 : am_okC am_c199 = true ∧ ∃ w, am_chk am_K0 am_cs0 am_dirs0 am_ids0 am_dsr0 1000000 w am_c199 = true := ⟨by decide +kernel, 4, by decide +kernel⟩
theorem am_q200 : am_okC am_c200 = true ∧ ∃ w, am_chk am_K0 am_cs0 am_dirs0 am_ids0 am_dsr0 1000000 w am_c200 = true := ⟨by decide +kernel, 4, by decide +kernel⟩
theorem am_q201 : am_okC am_c201 = true ∧ ∃ w, am_chk am_K0 am_cs0 am_dirs0 am_ids0 am_dsr0 1000000 w am_c201 = true := ⟨by decide +kernel, 4, by decide +kernel⟩
theorem am_q202 : am_okC am_c202 = true ∧ ∃ w, am_chk am_K0 am_cs0 am_dirs0 am_ids0 am_dsr0 1000000 w am_c202 = true := ⟨by decide +kernel, 4, by decide +kernel⟩
theorem am_q203 : am_okC am_c203 = true ∧ ∃ w, am_chk am_K0 am_cs0 am_dirs0 am_ids0 am_dsr0 1000000 w am_c203 = true := ⟨by decide +kernel, 4, by decide +kernel⟩
theorem am_q204 : am_okC am_c204 = true ∧ ∃ w, am_chk am_K0 am_cs0 am_dirs0 am_ids0 am_dsr0 1000000 w am_c204 = true := ⟨by decide +kernel, 4, by decide +kernel⟩
theorem am_q205 : am_okC am_c205 = true ∧ ∃ w, am_chk am_K0 am_cs0 am_dirs0 am_ids0 am_dsr0 1000000 w am_c205 = true := ⟨by decide +kernel, 1, by decide +kernel⟩
theorem am_q206 : am_okC am_c206 = true ∧ ∃ w, am_chk am_K0 am_cs0 am_dirs0 am_ids0 am_dsr0 1000000 w am_c206 = true := ⟨by decide +kernel, 1, by decide +kernel⟩
theorem am_q207 : am_okC am_c207 = true ∧ ∃ w, am_chk am_K0 am_cs0 am_dirs0 am_ids0 am_dsr0 1000000 w am_c207 = true := ⟨by decide +kernel, 1, by decide +kernel⟩
theorem am_q208 : am_okC am_c208 = true ∧ ∃ w, am_chk am_K0 am_cs0 am_dirs0 am_ids0 am_dsr0 1000000 w am_c208 = true := ⟨by decide +kernel, 1, by decide +kernel⟩
theorem am_q209 : am_okC am_c209 = true ∧ ∃ w, am_chk am_K0 am_cs0 am_dirs0 am_ids0 am_dsr0 1000000 w am_c209 = true := ⟨by decide +kernel, 1, by decide +kernel⟩
theorem am_q210 : am_okC am_c210 = true ∧ ∃ w, am_chk am_K0 am_cs0 am_dirs0 am_ids0 am_dsr0 1000000 w am_c210 = true := ⟨by decide +kernel, 1, by decide +kernel⟩
theorem am_q211 : am_okC am_c211 = true ∧ ∃ w, am_chk am_K0 am_cs0 am_dirs0 am_ids0 am_dsr0 1000000 w am_c211 = true := ⟨by decide +kernel, 1, by decide +kernel⟩
