/-! LAYER 2, contracts checked. -/
theorem am_q949 : am_okC am_c949 = true ∧ ∃ w, am_chk am_K0 am_cs0 am_dirs0 am_ids0 am_dsr0 1000000 w am_c949 = true := ⟨by decide +kernel, 1, by decide +kernel⟩
theorem am_q950 : am_okC am_c950 = true ∧ ∃ w, am_chk am_K0 am_cs0 am_dirs0 am_ids0 am_dsr0 1000000 w am_c950 = true := ⟨by decide +kernel, 1, by decide +kernel⟩
theorem am_q951 : am_okC am_c951 = true ∧ ∃ w, am_chk am_K0 am_cs0 am_dirs0 am_ids0 am_dsr0 1000000 w am_c951 = true := ⟨by decide +kernel, 1, by decide +kernel⟩
theorem am_q952 : am_okC am_c952 = true ∧ ∃ w, am_chk am_K0 am_cs0 am_dirs0 am_ids0 am_dsr0 1000000 w am_c952 = true := ⟨by decide +kernel, 1, by decide +kernel⟩
theorem am_q953 : am_okC am_c953 = true ∧ ∃ w, am_chk am_K0 am_cs0 am_dirs0 am_ids0 am_dsr0 1000000 w am_c953 = true := ⟨by decide +kernel, 1, by decide +kernel⟩
theorem am_q954 : am_okC am_c954 = true ∧ ∃ w, am_chk am_K0 am_cs0 am_dirs0 am_ids0 am_dsr0 1000000 w am_c954 = true := ⟨by decide +kernel, 1, by decide +kernel⟩
theorem am_q955 : am_okC am_c955 = true ∧ ∃ w, am_chk am_K0 am_cs0 am_dirs0 am_ids0 am_dsr0 1000000 w am_c955 = true := ⟨by decide +kernel, 1, by decide +kernel⟩
theorem am_q956 : am_okC am_c956 = true ∧ ∃ w, am_chk am_K0 am_cs0 am_dirs0 am_ids0 am_dsr0 1000000 w am_c956 = true := ⟨by decide +kernel, 1, by decide +kernel⟩
theorem am_q957 : am_okC am_c957 = true ∧ ∃ w, am_chk am_K0 am_cs0 am_dirs0 am_ids0 am_dsr0 1000000 w am_c957 = true := ⟨by decide +kernel, 1, by decide +kernel⟩
