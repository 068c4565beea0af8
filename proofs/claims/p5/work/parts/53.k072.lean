/-! LAYER 2, contracts checked. -/
theorem am_q873 : am_okC am_c873 = true ∧ ∃ w, am_chk am_K0 am_cs0 am_dirs0 am_ids0 am_dsr0 1000000 w am_c873 = true := ⟨by decide +kernel, 1, by decide +kernel⟩
theorem am_q874 : am_okC am_c874 = true ∧ ∃ w, am_chk am_K0 am_cs0 am_dirs0 am_ids0 am_dsr0 1000000 w am_c874 = true := ⟨by decide +kernel, 1, by decide +kernel⟩
theorem am_q875 : am_okC am_c875 = true ∧ ∃ w, am_chk am_K0 am_cs0 am_dirs0 am_ids0 am_dsr0 1000000 w am_c875 = true := ⟨by decide +kernel, 1, by decide +kernel⟩
theorem am_q876 : am_okC am_c876 = true ∧ ∃ w, am_chk am_K0 am_cs0 am_dirs0 am_ids0 am_dsr0 1000000 w am_c876 = true := ⟨by decide +kernel, 1, by decide +kernel⟩
theorem am_q877 : am_okC am_c877 = true ∧ ∃ w, am_chk am_K0 am_cs0 am_dirs0 am_ids0 am_dsr0 1000000 w am_c877 = true := ⟨by decide +kernel, 1, by decide +kernel⟩
theorem am_q878 : am_okC am_c878 = true ∧ ∃ w, am_chk am_K0 am_cs0 am_dirs0 am_ids0 am_dsr0 1000000 w am_c878 = true := ⟨by decide +kernel, 1, by decide +kernel⟩
theorem am_q879 : am_okC am_c879 = true ∧ ∃ w, am_chk am_K0 am_cs0 am_dirs0 am_ids0 am_dsr0 1000000 w am_c879 = true := ⟨by decide +kernel, 1, by decide +kernel⟩
