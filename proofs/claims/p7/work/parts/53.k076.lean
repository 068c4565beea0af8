/-! LAYER 2, contracts checked. -/
theorem am_q891 : am_okC am_c891 = true ∧ ∃ w, am_chk am_K0 am_cs0 am_dirs0 am_ids0 am_dsr0 1000000 w am_c891 = true := ⟨by decide +kernel, 1, by decide +kernel⟩
theorem am_q892 : am_okC am_c892 = true ∧ ∃ w, am_chk am_K0 am_cs0 am_dirs0 am_ids0 am_dsr0 1000000 w am_c892 = true := ⟨by decide +kernel, 1, by decide +kernel⟩
theorem am_q893 : am_okC am_c893 = true ∧ ∃ w, am_chk am_K0 am_cs0 am_dirs0 am_ids0 am_dsr0 1000000 w am_c893 = true := ⟨by decide +kernel, 1, by decide +kernel⟩
theorem am_q894 : am_okC am_c894 = true ∧ ∃ w, am_chk am_K0 am_cs0 am_dirs0 am_ids0 am_dsr0 1000000 w am_c894 = true := ⟨by decide +kernel, 1, by decide +kernel⟩
theorem am_q895 : am_okC am_c895 = true ∧ ∃ w, am_chk am_K0 am_cs0 am_dirs0 am_ids0 am_dsr0 1000000 w am_c895 = true := ⟨by decide +kernel, 1, by decide +kernel⟩
theorem am_q896 : am_okC am_c896 = true ∧ ∃ w, am_chk am_K0 am_cs0 am_dirs0 am_ids0 am_dsr0 1000000 w am_c896 = true := ⟨by decide +kernel, 1, by decide +kernel⟩
theorem am_q897 : am_okC am_c897 = true ∧ ∃ w, am_chk am_K0 am_cs0 am_dirs0 am_ids0 am_dsr0 1000000 w am_c897 = true := ⟨by decide +kernel, 1, by decide +kernel⟩
theorem am_q898 : am_okC am_c898 = true ∧ ∃ w, am_chk am_K0 am_cs0 am_dirs0 am_ids0 am_dsr0 1000000 w am_c898 = true := ⟨by decide +kernel, 1, by decide +kernel⟩
theorem am_q899 : am_okC am_c899 = true ∧ ∃ w, am_chk am_K0 am_cs0 am_dirs0 am_ids0 am_dsr0 1000000 w am_c899 = true := ⟨by decide +kernel, 1, by decide +kernel⟩
theorem am_q900 : am_okC am_c900 = true ∧ ∃ w, am_chk am_K0 am_cs0 am_dirs0 am_ids0 am_dsr0 1000000 w am_c900 = true := ⟨by decide +kernel, 1, by decide +kernel⟩
theorem am_q901 : am_okC am_c901 = true ∧ ∃ w, am_chk am_K0 am_cs0 am_dirs0 am_ids0 am_dsr0 1000000 w am_c901 = true := ⟨by decide +kernel, 1, by decide +kernel⟩
