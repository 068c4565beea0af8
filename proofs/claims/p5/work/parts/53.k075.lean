/-! LAYER 2, contracts checked. -/
theorem am_q902 : am_okC am_c902 = true ∧ ∃ w, am_chk am_K0 am_cs0 am_dirs0 am_ids0 am_dsr0 1000000 w am_c902 = true := ⟨by decide +kernel, 5, by decide +kernel⟩
theorem am_q903 : am_okC am_c903 = true ∧ ∃ w, am_chk am_K0 am_cs0 am_dirs0 am_ids0 am_dsr0 1000000 w am_c903 = true := ⟨by decide +kernel, 5, by decide +kernel⟩
theorem am_q904 : am_okC am_c904 = true ∧ ∃ w, am_chk am_K0 am_cs0 am_dirs0 am_ids0 am_dsr0 1000000 w am_c904 = true := ⟨by decide +kernel, 5, by decide +kernel⟩
theorem am_q905 : am_okC am_c905 = true ∧ ∃ w, am_chk am_K0 am_cs0 am_dirs0 am_ids0 am_dsr0 1000000 w am_c905 = true := ⟨by decide +kernel, 5, by decide +kernel⟩
theorem am_q906 : am_okC am_c906 = true ∧ ∃ w, am_chk am_K0 am_cs0 am_dirs0 am_ids0 am_dsr0 1000000 w am_c906 = true := ⟨by decide +kernel, 5, by decide +kernel⟩
theorem am_q907 : am_okC am_c907 = true ∧ ∃ w, am_chk am_K0 am_cs0 am_dirs0 am_ids0 am_dsr0 1000000 w am_c907 = true := ⟨by decide +kernel, 5, by decide +kernel⟩
