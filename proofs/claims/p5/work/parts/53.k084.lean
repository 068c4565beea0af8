/-! LAYER 2, contracts checked. -/
theorem am_q1011 : am_okC am_c1011 = true ∧ ∃ w, am_chk am_K0 am_cs0 am_dirs0 am_ids0 am_dsr0 1000000 w am_c1011 = true := ⟨by decide +kernel, 5, by decide +kernel⟩
theorem am_q1012 : am_okC am_c1012 = true ∧ ∃ w, am_chk am_K0 am_cs0 am_dirs0 am_ids0 am_dsr0 1000000 w am_c1012 = true := ⟨by decide +kernel, 5, by decide +kernel⟩
theorem am_q1013 : am_okC am_c1013 = true ∧ ∃ w, am_chk am_K0 am_cs0 am_dirs0 am_ids0 am_dsr0 1000000 w am_c1013 = true := ⟨by decide +kernel, 5, by decide +kernel⟩
theorem am_q1014 : am_okC am_c1014 = true ∧ ∃ w, am_chk am_K0 am_cs0 am_dirs0 am_ids0 am_dsr0 1000000 w am_c1014 = true := ⟨by decide +kernel, 5, by decide +kernel⟩
theorem am_q1015 : am_okC am_c1015 = true ∧ ∃ w, am_chk am_K0 am_cs0 am_dirs0 am_ids0 am_dsr0 1000000 w am_c1015 = true := ⟨by decide +kernel, 5, by decide +kernel⟩
theorem am_q1016 : am_okC am_c1016 = true ∧ ∃ w, am_chk am_K0 am_cs0 am_dirs0 am_ids0 am_dsr0 1000000 w am_c1016 = true := ⟨by decide +kernel, 5, by decide +kernel⟩
