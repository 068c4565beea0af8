/-! LAYER 2, contracts checked. -/
theorem am_q820 : am_okC am_c820 = true ∧ ∃ w, am_chk am_K0 am_cs0 am_dirs0 am_ids0 am_dsr0 1000000 w am_c820 = true := ⟨by decide +kernel, 1, by decide +kernel⟩
theorem am_q821 : am_okC am_c821 = true ∧ ∃ w, am_chk am_K0 am_cs0 am_dirs0 am_ids0 am_dsr0 1000000 w am_c821 = true := ⟨by decide +kernel, 1, by decide +kernel⟩
theorem am_q822 : am_okC am_c822 = true ∧ ∃ w, am_chk am_K0 am_cs0 am_dirs0 am_ids0 am_dsr0 1000000 w am_c822 = true := ⟨by decide +kernel, 1, by decide +kernel⟩
theorem am_q823 : am_okC am_c823 = true ∧ ∃ w, am_chk am_K0 am_cs0 am_dirs0 am_ids0 am_dsr0 1000000 w am_c823 = true := ⟨by decide +kernel, 1, by decide +kernel⟩
theorem am_q824 : am_okC am_c824 = true ∧ ∃ w, am_chk am_K0 am_cs0 am_dirs0 am_ids0 am_dsr0 1000000 w am_c824 = true := ⟨by decide +kernel, 1, by decide +kernel⟩
