/-! LAYER 2, contracts checked. -/
theorem am_q1005 : am_okC am_c1005 = true ∧ ∃ w, am_chk am_K0 am_cs0 am_dirs0 am_ids0 am_dsr0 1000000 w am_c1005 = true := ⟨by decide +kernel, 5, by decide +kernel⟩
theorem am_q1006 : am_okC am_c1006 = true ∧ ∃ w, am_chk am_K0 am_cs0 am_dirs0 am_ids0 am_dsr0 1000000 w am_c1006 = true := ⟨by decide +kernel, 5, by decide +kernel⟩
theorem am_q1007 : am_okC am_c1007 = true ∧ ∃ w, am_chk am_K0 am_cs0 am_dirs0 am_ids0 am_dsr0 1000000 w am_c1007 = true := ⟨by decide +kernel, 5, by decide +kernel⟩
theorem am_q1008 : am_okC am_c1008 = true ∧ ∃ w, am_chk am_K0 am_cs0 am_dirs0 am_ids0 am_dsr0 1000000 w am_c1008 = true := ⟨by decide +kernel, 5, by decide +kernel⟩
theorem am_q1009 : am_okC am_c1009 = true ∧ ∃ w, am_chk am_K0 am_cs0 am_dirs0 am_ids0 am_dsr0 1000000 w am_c1009 = true := ⟨by decide +kernel, 5, by decide +kernel⟩
theorem am_q1010 : am_okC am_c1010 = true ∧ ∃ w, am_chk am_K0 am_cs0 am_dirs0 am_ids0 am_dsr0 1000000 w am_c1010 = true := ⟨by decide +kernel, 5, by decide +kernel⟩
