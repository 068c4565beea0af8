/-! LAYER 2, contracts checked. -/
theorem am_q40 : am_okC am_c40 = true ∧ ∃ w, am_chk am_K0 am_cs0 am_dirs0 am_ids0 am_dsr0 1000000 w am_c40 = true := ⟨by decide +kernel, 1, by decide +kernel⟩
theorem am_q41 : am_okC am_c41 = true ∧ ∃ w, am_chk am_K0 am_cs0 am_dirs0 am_ids0 am_dsr0 1000000 w am_c41 = true := ⟨by decide +kernel, 1, by decide +kernel⟩
theorem am_q42 : am_okC am_c42 = true ∧ ∃ w, am_chk am_K0 am_cs0 am_dirs0 am_ids0 am_dsr0 1000000 w am_c42 = true := ⟨by decide +kernel, 1, by decide +kernel⟩
theorem am_q43 : am_okC am_c43 = true ∧ ∃ w, am_chk am_K0 am_cs0 am_dirs0 am_ids0 am_dsr0 1000000 w am_c43 = true := ⟨by decide +kernel, 1, by decide +kernel⟩
theorem am_q44 : am_okC am_c44 = true ∧ ∃ w, am_chk am_K0 am_cs0 am_dirs0 am_ids0 am_dsr0 1000000 w am_c44 = true := ⟨by decide +kernel, 1, by decide +kernel⟩
theorem am_q45 : am_okC am_c45 = true ∧ ∃ w, am_chk am_K0 am_cs0 am_dirs0 am_ids0 am_dsr0 1000000 w am_c45 = true := ⟨by decide +kernel, 1, by decide +kernel⟩
theorem am_q46 : am_okC am_c46 = true ∧ ∃ w, am_chk am_K0 am_cs0 am_dirs0 am_ids0 am_dsr0 1000000 w am_c46 = true := ⟨by decide +kernel, 1, by decide +kernel⟩
theorem am_q47 : am_okC am_c47 = true ∧ ∃ w, am_chk am_K0 am_cs0 am_dirs0 am_ids0 am_dsr0 1000000 w am_c47 = true := ⟨by decide +kernel, 1, by decide +kernel⟩
theorem am_q48 : am_okC am_c48 = true ∧ ∃ w, am_chk am_K0 am_cs0 am_dirs0 am_ids0 am_dsr0 1000000 w am_c48 = true := ⟨by decide +kernel, 1, by decide +kernel⟩
theorem am_q49 : am_okC am_c49 = true ∧ ∃ w, am_chk am_K0 am_cs0 am_dirs0 am_ids0 am_dsr0 1000000 w am_c49 = true := ⟨by decide +kernel, 1, by decide +kernel⟩
theorem am_q50 : am_okC am_c50 = true ∧ ∃ w, am_chk am_K0 am_cs0 am_dirs0 am_ids0 am_dsr0 1000000 w am_c50 = true := ⟨by decide +kernel, 1, by decide +kernel⟩
theorem am_q51 : am_okC am_c51 = true ∧ ∃ w, am_chk am_K0 am_cs0 am_dirs0 am_ids0 am_dsr0 1000000 w am_c51 = true := ⟨by decide +kernel, 1, by decide +kernel⟩
theorem am_q52 : am_okC am_c52 = true ∧ ∃ w, am_chk am_K0 am_cs0 am_dirs0 am_ids0 am_dsr0 1000000 w am_c52 = true := ⟨by decide +kernel, 1, by decide +kernel⟩
