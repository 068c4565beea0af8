/-! LAYER 2, contracts checked. -/
theorem am_q24 : am_okC am_c24 = true ∧ ∃ w, am_chk am_K0 am_cs0 am_dirs0 am_ids0 am_dsr0 1000000 w am_c24 = true := ⟨by decide +kernel, 1, by decide +kernel⟩
theorem am_q25 : am_okC am_c25 = true ∧ ∃ w, am_chk am_K0 am_cs0 am_dirs0 am_ids0 am_dsr0 1000000 w am_c25 = true := ⟨by decide +kernel, 1, by decide +kernel⟩
theorem am_q26 : am_okC am_c26 = true ∧ ∃ w, am_chk am_K0 am_cs0 am_dirs0 am_ids0 am_dsr0 1000000 w am_c26 = true := ⟨by decide +kernel, 1, by decide +kernel⟩
theorem am_q27 : am_okC am_c27 = true ∧ ∃ w, am_chk am_K0 am_cs0 am_dirs0 am_ids0 am_dsr0 1000000 w am_c27 = true := ⟨by decide +kernel, 1, by decide +kernel⟩
theorem am_q28 : am_okC am_c28 = true ∧ ∃ w, am_chk am_K0 am_cs0 am_dirs0 am_ids0 am_dsr0 1000000 w am_c28 = true := ⟨by decide +kernel, 1, by decide +kernel⟩
theorem am_q29 : am_okC am_c29 = true ∧ ∃ w, am_chk am_K0 am_cs0 am_dirs0 am_ids0 am_dsr0 1000000 w am_c29 = true := ⟨by decide +kernel, 1, by decide +kernel⟩
theorem am_q30 : am_okC am_c30 = true ∧ ∃ w, am_chk am_K0 am_cs0 am_dirs0 am_ids0 am_dsr0 1000000 w am_c30 = true := ⟨by decide +kernel, 1, by decide +kernel⟩
theorem am_q31 : am_okC am_c31 = true ∧ ∃ w, am_chk am_K0 am_cs0 am_dirs0 am_ids0 am_dsr0 1000000 w am_c31 = true := ⟨by decide +kernel, 1, by decide +kernel⟩
theorem am_q32 : am_okC am_c32 = true ∧ ∃ w, am_chk am_K0 am_cs0 am_dirs0 am_ids0 am_dsr0 1000000 w am_c32 = true := ⟨by decide +kernel, 1, by decide +kernel⟩
theorem am_q33 : am_okC am_c33 = true ∧ ∃ w, am_chk am_K0 am_cs0 am_dirs0 am_ids0 am_dsr0 1000000 w am_c33 = true := ⟨by decide +kernel, 1, by decide +kernel⟩
theorem am_q34 : am_okC am_c34 = true ∧ ∃ w, am_chk am_K0 am_cs0 am_dirs0 am_ids0 am_dsr0 1000000 w am_c34 = true := ⟨by decide +kernel, 1, by decide +kernel⟩
theorem am_q35 : am_okC am_c35 = true ∧ ∃ w, am_chk am_K0 am_cs0 am_dirs0 am_ids0 am_dsr0 1000000 w am_c35 = true := ⟨by decide +kernel, 1, by decide +kernel⟩
theorem am_q36 : am_okC am_c36 = true ∧ ∃ w, am_chk am_K0 am_cs0 am_dirs0 am_ids0 am_dsr0 1000000 w am_c36 = true := ⟨by decide +kernel, 1, by decide +kernel⟩
theorem am_q37 : am_okC am_c37 = true ∧ ∃ w, am_chk am_K0 am_cs0 am_dirs0 am_ids0 am_dsr0 1000000 w am_c37 = true := ⟨by decide +kernel, 1, by decide +kernel⟩
theorem am_q38 : am_okC am_c38 = true ∧ ∃ w, am_chk am_K0 am_cs0 am_dirs0 am_ids0 am_dsr0 1000000 w am_c38 = true := ⟨by decide +kernel, 1, by decide +kernel⟩
theorem am_q39 : am_okC am_c39 = true ∧ ∃ w, am_chk am_K0 am_cs0 am_dirs0 am_ids0 am_dsr0 1000000 w am_c39 = true := ⟨by decide +kernel, 1, by decide +kernel⟩
theorem am_q40 : am_okC am_c40 = true ∧ ∃ w, am_chk am_K0 am_cs0 am_dirs0 am_ids0 am_dsr0 1000000 w am_c40 = true := ⟨by decide +kernel, 1, by decide +kernel⟩
