/-! LAYER 2, contracts checked. -/
theorem am_q875 : am_okC am_c875 = true ∧ ∃ w, am_chk am_K0 am_cs0 am_dirs0 am_ids0 am_dsr0 1000000 w am_c875 = true := ⟨by decide +kernel, 1, by decide +kernel⟩
theorem am_q876 : am_okC am_c876 = true ∧ ∃ w, am_chk am_K0 am_cs0 am_dirs0 am_ids0 am_dsr0 1000000 w am_c876 = true := ⟨by decide +kernel, 1, by decide +kernel⟩
theorem am_q877 : am_okC am_c877 = true ∧ ∃ w, am_chk am_K0 am_cs0 am_dirs0 am_ids0 am_dsr0 1000000 w am_c877 = true := ⟨by decide +kernel, 1, by decide +kernel⟩
theorem am_q878 : am_okC am_c878 = true ∧ ∃ w, am_chk am_K0 am_cs0 am_dirs0 am_ids0 am_dsr0 1000000 w am_c878 = true := ⟨by decide +kernel, 1, by decide +kernel⟩
theorem am_q879 : am_okC am_c879 = true ∧ ∃ w, am_chk am_K0 am_cs0 am_dirs0 am_ids0 am_dsr0 1000000 w am_c879 = true := ⟨by decide +kernel, 1, by decide +kernel⟩
theorem am_q880 : am_okC am_c880 = true ∧ ∃ w, am_chk am_K0 am_cs0 am_dirs0 am_ids0 am_dsr0 1000000 w am_c880 = true := ⟨by decide +kernel, 1, by decide +kernel⟩
theorem am_q881 : am_okC am_c881 = true ∧ ∃ w, am_chk am_K0 am_cs0 am_dirs0 am_ids0 am_dsr0 1000000 w am_c881 = true := ⟨by decide +kernel, 1, by decide +kernel⟩
theorem am_q882 : am_okC am_c882 = true ∧ ∃ w, am_chk am_K0 am_cs0 am_dirs0 am_ids0 am_dsr0 1000000 w am_c882 = true := ⟨by decide +kernel, 1, by decide +kernel⟩
theorem am_q883 : am_okC am_c883 = true ∧ ∃ w, am_chk am_K0 am_cs0 am_dirs0 am_ids0 am_dsr0 1000000 w am_c883 = true := ⟨by decide +kernel, 1, by decide +kernel⟩
theorem am_q884 : am_okC am_c884 = true ∧ ∃ w, am_chk am_K0 am_cs0 am_dirs0 am_ids0 am_dsr0 1000000 w am_c884 = true := ⟨by decide +kernel, 1, by decide +kernel⟩
theorem am_q885 : am_okC am_c885 = true ∧ ∃ w, am_chk am_K0 am_cs0 am_dirs0 am_ids0 am_dsr0 1000000 w am_c885 = true := ⟨by decide +kernel, 1, by decide +kernel⟩
