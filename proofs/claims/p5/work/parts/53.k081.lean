/-! LAYER 2, contracts checked. -/
theorem am_q992 : am_okC am_c992 = true ∧ ∃ w, am_chk am_K0 am_cs0 am_dirs0 am_ids0 am_dsr0 1000000 w am_c992 = true := ⟨by decide +kernel, 1, by decide +kernel⟩
theorem am_q993 : am_okC am_c993 = true ∧ ∃ w, am_chk am_K0 am_cs0 am_dirs0 am_ids0 am_dsr0 1000000 w am_c993 = true := ⟨by decide +kernel, 5, by decide +kernel⟩
theorem am_q994 : am_okC am_c994 = true ∧ ∃ w, am_chk am_K0 am_cs0 am_dirs0 am_ids0 am_dsr0 1000000 w am_c994 = true := ⟨by decide +kernel, 5, by decide +kernel⟩
theorem am_q995 : am_okC am_c995 = true ∧ ∃ w, am_chk am_K0 am_cs0 am_dirs0 am_ids0 am_dsr0 1000000 w am_c995 = true := ⟨by decide +kernel, 5, by decide +kernel⟩
theorem am_q996 : am_okC am_c996 = true ∧ ∃ w, am_chk am_K0 am_cs0 am_dirs0 am_ids0 am_dsr0 1000000 w am_c996 = true := ⟨by decide +kernel, 5, by decide +kernel⟩
theorem am_q997 : am_okC am_c997 = true ∧ ∃ w, am_chk am_K0 am_cs0 am_dirs0 am_ids0 am_dsr0 1000000 w am_c997 = true := ⟨by decide +kernel, 5, by decide +kernel⟩
theorem am_q998 : am_okC am_c998 = true ∧ ∃ w, am_chk am_K0 am_cs0 am_dirs0 am_ids0 am_dsr0 1000000 w am_c998 = true := ⟨by decide +kernel, 5, by decide +kernel⟩
