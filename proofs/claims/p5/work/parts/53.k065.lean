/-! LAYER 2, contracts checked. -/
theorem am_q825 : am_okC am_c825 = true ∧ ∃ w, am_chk am_K0 am_cs0 am_dirs0 am_ids0 am_dsr0 1000000 w am_c825 = true := ⟨by decide +kernel, 1, by decide +kernel⟩
theorem am_q826 : am_okC am_c826 = true ∧ ∃ w, am_chk am_K0 am_cs0 am_dirs0 am_ids0 am_dsr0 1000000 w am_c826 = true := ⟨by decide +kernel, 1, by decide +kernel⟩
theorem am_q827 : am_okC am_c827 = true ∧ ∃ w, am_chk am_K0 am_cs0 am_dirs0 am_ids0 am_dsr0 1000000 w am_c827 = true := ⟨by decide +kernel, 1, by decide +kernel⟩
theorem am_q828 : am_okC am_c828 = true ∧ ∃ w, am_chk am_K0 am_cs0 am_dirs0 am_ids0 am_dsr0 1000000 w am_c828 = true := ⟨by decide +kernel, 1, by decide +kernel⟩
theorem am_q829 : am_okC am_c829 = true ∧ ∃ w, am_chk am_K0 am_cs0 am_dirs0 am_ids0 am_dsr0 1000000 w am_c829 = true := ⟨by decide +kernel, 1, by decide +kernel⟩
