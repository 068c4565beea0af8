/-! LAYER 2, contracts checked. -/
theorem am_q907 : am_okC am_c907 = true ∧ ∃ w, am_chk am_K0 am_cs0 am_dirs0 am_ids0 am_dsr0 1000000 w am_c907 = true := ⟨by decide +kernel, 1, by decide +kernel⟩
theorem am_q908 : am_okC am_c908 = true ∧ ∃ w, am_chk am_K0 am_cs0 am_dirs0 am_ids0 am_dsr0 1000000 w am_c908 = true := ⟨by decide +kernel, 1, by decide +kernel⟩
theorem am_q909 : am_okC am_c909 = true ∧ ∃ w, am_chk am_K0 am_cs0 am_dirs0 am_ids0 am_dsr0 1000000 w am_c909 = true := ⟨by decide +kernel, 1, by decide +kernel⟩
theorem am_q910 : am_okC am_c910 = true ∧ ∃ w, am_chk am_K0 am_cs0 am_dirs0 am_ids0 am_dsr0 1000000 w am_c910 = true := ⟨by decide +kernel, 1, by decide +kernel⟩
theorem am_q911 : am_okC am_c911 = true ∧ ∃ w, am_chk am_K0 am_cs0 am_dirs0 am_ids0 am_dsr0 1000000 w am_c911 = true := ⟨by decide +kernel, 1, by decide +kernel⟩
theorem am_q912 : am_okC am_c912 = true ∧ ∃ w, am_chk am_K0 am_cs0 am_dirs0 am_ids0 am_dsr0 1000000 w am_c912 = true := ⟨by decide +kernel, 1, by decide +kernel⟩
theorem am_q913 : am_okC am_c913 = true ∧ ∃ w, am_chk am_K0 am_cs0 am_dirs0 am_ids0 am_dsr0 1000000 w am_c913 = true := ⟨by decide +kernel, 1, by decide +kernel⟩
theorem am_q914 : am_okC am_c914 = true ∧ ∃ w, am_chk am_K0 am_cs0 am_dirs0 am_ids0 am_dsr0 1000000 w am_c914 = true := ⟨by decide +kernel, 1, by decide +kernel⟩
