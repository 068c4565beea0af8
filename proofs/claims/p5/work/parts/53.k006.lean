/-! LAYER 2, contracts checked. -/
theorem am_q55 : am_okC am_c55 = true ∧ ∃ w, am_chk am_K0 am_cs0 am_dirs0 am_ids0 am_dsr0 1000000 w am_c55 = true := ⟨by decide +kernel, 3, by decide +kernel⟩
theorem am_q56 : am_okC am_c56 = true ∧ ∃ w, am_chk am_K0 am_cs0 am_dirs0 am_ids0 am_dsr0 1000000 w am_c56 = true := ⟨by decide +kernel, 3, by decide +kernel⟩
theorem am_q57 : am_okC am_c57 = true ∧ ∃ w, am_chk am_K0 am_cs0 am_dirs0 am_ids0 am_dsr0 1000000 w am_c57 = true := ⟨by decide +kernel, 3, by decide +kernel⟩
theorem am_q58 : am_okC am_c58 = true ∧ ∃ w, am_chk am_K0 am_cs0 am_dirs0 am_ids0 am_dsr0 1000000 w am_c58 = true := ⟨by decide +kernel, 3, by decide +kernel⟩
theorem am_q59 : am_okC am_c59 = true ∧ ∃ w, am_chk am_K0 am_cs0 am_dirs0 am_ids0 am_dsr0 1000000 w am_c59 = true := ⟨by decide +kernel, 3, by decide +kernel⟩
theorem am_q60 : am_okC am_c60 = true ∧ ∃ w, am_chk am_K0 am_cs0 am_dirs0 am_ids0 am_dsr0 1000000 w am_c60 = true := ⟨by decide +kernel, 3, by decide +kernel⟩
