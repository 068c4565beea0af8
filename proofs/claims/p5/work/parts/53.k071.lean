/-! LAYER 2, contracts checked. -/
theorem am_q866 : am_okC am_c866 = true ∧ ∃ w, am_chk am_K0 am_cs0 am_dirs0 am_ids0 am_dsr0 1000000 w am_c866 = true := ⟨by decide +kernel, 1, by decide +kernel⟩
theorem am_q867 : am_okC am_c867 = true ∧ ∃ w, am_chk am_K0 am_cs0 am_dirs0 am_ids0 am_dsr0 1000000 w am_c867 = true := ⟨by decide +kernel, 1, by decide +kernel⟩
theorem am_q868 : am_okC am_c868 = true ∧ ∃ w, am_chk am_K0 am_cs0 am_dirs0 am_ids0 am_dsr0 1000000 w am_c868 = true := ⟨by decide +kernel, 1, by decide +kernel⟩
theorem am_q869 : am_okC am_c869 = true ∧ ∃ w, am_chk am_K0 am_cs0 am_dirs0 am_ids0 am_dsr0 1000000 w am_c869 = true := ⟨by decide +kernel, 1, by decide +kernel⟩
theorem am_q870 : am_okC am_c870 = true ∧ ∃ w, am_chk am_K0 am_cs0 am_dirs0 am_ids0 am_dsr0 1000000 w am_c870 = true := ⟨by decide +kernel, 1, by decide +kernel⟩
theorem am_q871 : am_okC am_c871 = true ∧ ∃ w, am_chk am_K0 am_cs0 am_dirs0 am_ids0 am_dsr0 1000000 w am_c871 = true := ⟨by decide +kernel, 1, by decide +kernel⟩
theorem am_q872 : am_okC am_c872 = true ∧ ∃ w, am_chk am_K0 am_cs0 am_dirs0 am_ids0 am_dsr0 1000000 w am_c872 = true := ⟨by decide +kernel, 1, by decide +kernel⟩
