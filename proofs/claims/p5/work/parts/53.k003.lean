/-! LAYER 2, contracts checked. -/
theorem am_q32 : am_okC am_c32 = true ∧ ∃ w, am_chk am_K0 am_cs0 am_dirs0 am_ids0 am_dsr0 1000000 w am_c32 = true := ⟨by decide +kernel, 1, by decide +kernel⟩
theorem am_q33 : am_okC am_c33 = true ∧ ∃ w, am_chk am_K0 am_cs0 am_dirs0 am_ids0 am_dsr0 1000000 w am_c33 = true := ⟨by decide +kernel, 1, by decide +kernel⟩
theorem am_q34 : am_okC am_c34 = true ∧ ∃ w, am_chk am_K0 am_cs0 am_dirs0 am_ids0 am_dsr0 1000000 w am_c34 = true := ⟨by decide +kernel, 1, by decide +kernel⟩
theorem am_q35 : am_okC am_c35 = true ∧ ∃ w, am_chk am_K0 am_cs0 am_dirs0 am_ids0 am_dsr0 1000000 w am_c35 = true := ⟨by decide +kernel, 1, by decide +kernel⟩
theorem am_q36 : am_okC am_c36 = true ∧ ∃ w, am_chk am_K0 am_cs0 am_dirs0 am_ids0 am_dsr0 1000000 w am_c36 = true := ⟨by decide +kernel, 1, by decide +kernel⟩
theorem am_q37 : am_okC am_c37 = true ∧ ∃ w, am_chk am_K0 am_cs0 am_dirs0 am_ids0 am_dsr0 1000000 w am_c37 = true := ⟨by decide +kernel, 1, by decide +kernel⟩
theorem am_q38 : am_okC am_c38 = true ∧ ∃ w, am_chk am_K0 am_cs0 am_dirs0 am_ids0 am_dsr0 1000000 w am_c38 = true := ⟨by decide +kernel, 1, by decide +kernel⟩
theorem am_q39 : am_okC am_c39 = true ∧ ∃ w, am_chk am_K0 am_cs0 am_dirs0 am_ids0 am_dsr0 1000000 w am_c39 = true := ⟨by decide +kernel, 1, by decide +kernel⟩
theorem am_q40 : am_okC am_c40 = true ∧ ∃ w, am_chk am_K0 am_cs0 am_dirs0 am_ids0 am_dsr0 1000000 w am_c40 = true := ⟨by decide +kernel, 3, by decide +kernel⟩
theorem am_q41 : am_okC am_c41 = true ∧ ∃ w, am_chk am_K0 am_cs0 am_dirs0 am_ids0 am_dsr0 1000000 w am_c41 = true := ⟨by decide +kernel, 3, by decide +kernel⟩
theorem am_q42 : am_okC am_c42 = true ∧ ∃ w, am_chk am_K0 am_cs0 am_dirs0 am_ids0 am_dsr0 1000000 w am_c42 = true := ⟨by decide +kernel, 3, by decide +kernel⟩
