/-! LAYER 2, contracts checked. -/
theorem am_q82 : am_okC am_c82 = true ∧ ∃ w, am_chk am_K0 am_cs0 am_dirs0 am_ids0 am_dsr0 1000000 w am_c82 = true := ⟨by decide +kernel, 4, by decide +kernel⟩
theorem am_q83 : am_okC am_c83 = true ∧ ∃ w, am_chk am_K0 am_cs0 am_dirs0 am_ids0 am_dsr0 1000000 w am_c83 = true := ⟨by decide +kernel, 1, by decide +kernel⟩
theorem am_q84 : am_okC am_c84 = true ∧ ∃ w, am_chk am_K0 am_cs0 am_dirs0 am_ids0 am_dsr0 1000000 w am_c84 = true := ⟨by decide +kernel, 1, by decide +kernel⟩
theorem am_q85 : am_okC am_c85 = true ∧ ∃ w, am_chk am_K0 am_cs0 am_dirs0 am_ids0 am_dsr0 1000000 w am_c85 = true := ⟨by decide +kernel, 1, by decide +kernel⟩
theorem am_q86 : am_okC am_c86 = true ∧ ∃ w, am_chk am_K0 am_cs0 am_dirs0 am_ids0 am_dsr0 1000000 w am_c86 = true := ⟨by decide +kernel, 1, by decide +kernel⟩
theorem am_q87 : am_okC am_c87 = true ∧ ∃ w, am_chk am_K0 am_cs0 am_dirs0 am_ids0 am_dsr0 1000000 w am_c87 = true := ⟨by decide +kernel, 1, by decide +kernel⟩
theorem am_q88 : am_okC am_c88 = true ∧ ∃ w, am_chk am_K0 am_cs0 am_dirs0 am_ids0 am_dsr0 1000000 w am_c88 = true := ⟨by decide +kernel, 3, by decide +kernel⟩
theorem am_q89 : am_okC am_c89 = true ∧ ∃ w, am_chk am_K0 am_cs0 am_dirs0 am_ids0 am_dsr0 1000000 w am_c89 = true := ⟨by decide +kernel, 3, by decide +kernel⟩
theorem am_q90 : am_okC am_c90 = true ∧ ∃ w, am_chk am_K0 am_cs0 am_dirs0 am_ids0 am_dsr0 1000000 w am_c90 = true := ⟨by decide +kernel, 3, by decide +kernel⟩
