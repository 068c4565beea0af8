/-! LAYER 2, contracts checked. -/
theorem am_q103 : am_okC am_c103 = true ∧ ∃ w, am_chk am_K0 am_cs0 am_dirs0 am_ids0 am_dsr0 1000000 w am_c103 = true := ⟨by decide +kernel, 3, by decide +kernel⟩
theorem am_q104 : am_okC am_c104 = true ∧ ∃ w, am_chk am_K0 am_cs0 am_dirs0 am_ids0 am_dsr0 1000000 w am_c104 = true := ⟨by decide +kernel, 3, by decide +kernel⟩
theorem am_q105 : am_okC am_c105 = true ∧ ∃ w, am_chk am_K0 am_cs0 am_dirs0 am_ids0 am_dsr0 1000000 w am_c105 = true := ⟨by decide +kernel, 3, by decide +kernel⟩
theorem am_q106 : am_okC am_c106 = true ∧ ∃ w, am_chk am_K0 am_cs0 am_dirs0 am_ids0 am_dsr0 1000000 w am_c106 = true := ⟨by decide +kernel, 3, by decide +kernel⟩
