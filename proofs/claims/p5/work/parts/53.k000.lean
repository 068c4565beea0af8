/-! LAYER 2, contracts checked. -/
theorem am_q0 : am_okC am_c0 = true ∧ ∃ w, am_chk am_K0 am_cs0 am_dirs0 am_ids0 am_dsr0 1000000 w am_c0 = true := ⟨by decide +kernel, 1, by decide +kernel⟩
theorem am_q1 : am_okC am_c1 = true ∧ ∃ w, am_chk am_K0 am_cs0 am_dirs0 am_ids0 am_dsr0 1000000 w am_c1 = true := ⟨by decide +kernel, 1, by decide +kernel⟩
theorem am_q2 : am_okC am_c2 = true ∧ ∃ w, am_chk am_K0 am_cs0 am_dirs0 am_ids0 am_dsr0 1000000 w am_c2 = true := ⟨by decide +kernel, 1, by decide +kernel⟩
theorem am_q3 : am_okC am_c3 = true ∧ ∃ w, am_chk am_K0 am_cs0 am_dirs0 am_ids0 am_dsr0 1000000 w am_c3 = true := ⟨by decide +kernel, 1, by decide +kernel⟩
theorem am_q4 : am_okC am_c4 = true ∧ ∃ w, am_chk am_K0 am_cs0 am_dirs0 am_ids0 am_dsr0 1000000 w am_c4 = true := ⟨by decide +kernel, 1, by decide +kernel⟩
theorem am_q5 : am_okC am_c5 = true ∧ ∃ w, am_chk am_K0 am_cs0 am_dirs0 am_ids0 am_dsr0 1000000 w am_c5 = true := ⟨by decide +kernel, 1, by decide +kernel⟩
theorem am_q6 : am_okC am_c6 = true ∧ ∃ w, am_chk am_K0 am_cs0 am_dirs0 am_ids0 am_dsr0 1000000 w am_c6 = true := ⟨by decide +kernel, 1, by decide +kernel⟩
