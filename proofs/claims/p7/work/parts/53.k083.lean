/-! LAYER 2, contracts checked. -/
theorem am_q944 : am_okC am_c944 = true ∧ ∃ w, am_chk am_K0 am_cs0 am_dirs0 am_ids0 am_dsr0 1000000 w am_c944 = true := ⟨by decide +kernel, 1, by decide +kernel⟩
theorem am_q945 : am_okC am_c945 = true ∧ ∃ w, am_chk am_K0 am_cs0 am_dirs0 am_ids0 am_dsr0 1000000 w am_c945 = true := ⟨by decide +kernel, 1, by decide +kernel⟩
theorem am_q946 : am_okC am_c946 = true ∧ ∃ w, am_chk am_K0 am_cs0 am_dirs0 am_ids0 am_dsr0 1000000 w am_c946 = true := ⟨by decide +kernel, 1, by decide +kernel⟩
theorem am_q947 : am_okC am_c947 = true ∧ ∃ w, am_chk am_K0 am_cs0 am_dirs0 am_ids0 am_dsr0 1000000 w am_c947 = true := ⟨by decide +kernel, 1, by decide +kernel⟩
theorem am_q948 : am_okC am_c948 = true ∧ ∃ w, am_chk am_K0 am_cs0 am_dirs0 am_ids0 am_dsr0 1000000 w am_c948 = true := ⟨by decide +kernel, 1, by decide +kernel⟩
theorem am_q949 : am_okC am_c949 = true ∧ ∃ w, am_chk am_K0 am_cs0 am_dirs0 am_ids0 am_dsr0 1000000 w am_c949 = true := ⟨by decide +kernel, 1, by decide +kernel⟩
theorem am_q950 : am_okC am_c950 = true ∧ ∃ w, am_chk am_K0 am_cs0 am_dirs0 am_ids0 am_dsr0 1000000 w am_c950 = true := ⟨by decide +kernel, 1, by decide +kernel⟩
theorem am_q951 : am_okC am_c951 = true ∧ ∃ w, am_chk am_K0 am_cs0 am_dirs0 am_ids0 am_dsr0 1000000 w am_c951 = true := ⟨by decide +kernel, 1, by decide +kernel⟩
