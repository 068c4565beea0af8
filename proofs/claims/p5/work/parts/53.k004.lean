/-! LAYER 2, contracts checked. -/
theorem am_q43 : am_okC am_c43 = true ∧ ∃ w, am_chk am_K0 am_cs0 am_dirs0 am_ids0 am_dsr0 1000000 w am_c43 = true := ⟨by decide +kernel, 3, by decide +kernel⟩
theorem am_q44 : am_okC am_c44 = true ∧ ∃ w, am_chk am_K0 am_cs0 am_dirs0 am_ids0 am_dsr0 1000000 w am_c44 = true := ⟨by decide +kernel, 3, by decide +kernel⟩
theorem am_q45 : am_okC am_c45 = true ∧ ∃ w, am_chk am_K0 am_cs0 am_dirs0 am_ids0 am_dsr0 1000000 w am_c45 = true := ⟨by decide +kernel, 3, by decide +kernel⟩
theorem am_q46 : am_okC am_c46 = true ∧ ∃ w, am_chk am_K0 am_cs0 am_dirs0 am_ids0 am_dsr0 1000000 w am_c46 = true := ⟨by decide +kernel, 3, by decide +kernel⟩
theorem am_q47 : am_okC am_c47 = true ∧ ∃ w, am_chk am_K0 am_cs0 am_dirs0 am_ids0 am_dsr0 1000000 w am_c47 = true := ⟨by decide +kernel, 3, by decide +kernel⟩
theorem am_q48 : am_okC am_c48 = true ∧ ∃ w, am_chk am_K0 am_cs0 am_dirs0 am_ids0 am_dsr0 1000000 w am_c48 = true := ⟨by decide +kernel, 3, by decide +kernel⟩
