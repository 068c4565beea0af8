/-! LAYER 2, contracts checked. -/
theorem am_q844 : am_okC am_c844 = true ∧ ∃ w, am_chk am_K0 am_cs0 am_dirs0 am_ids0 am_dsr0 1000000 w am_c844 = true := ⟨by decide +kernel, 1, by decide +kernel⟩
theorem am_q845 : am_okC am_c845 = true ∧ ∃ w, am_chk am_K0 am_cs0 am_dirs0 am_ids0 am_dsr0 1000000 w am_c845 = true := ⟨by decide +kernel, 1, by decide +kernel⟩
theorem am_q846 : am_okC am_c846 = true ∧ ∃ w, am_chk am_K0 am_cs0 am_dirs0 am_ids0 am_dsr0 1000000 w am_c846 = true := ⟨by decide +kernel, 1, by decide +kernel⟩
theorem am_q847 : am_okC am_c847 = true ∧ ∃ w, am_chk am_K0 am_cs0 am_dirs0 am_ids0 am_dsr0 1000000 w am_c847 = true := ⟨by decide +kernel, 1, by decide +kernel⟩
theorem am_q848 : am_okC am_c848 = true ∧ ∃ w, am_chk am_K0 am_cs0 am_dirs0 am_ids0 am_dsr0 1000000 w am_c848 = true := ⟨by decide +kernel, 1, by decide +kernel⟩
theorem am_q849 : am_okC am_c849 = true ∧ ∃ w, am_chk am_K0 am_cs0 am_dirs0 am_ids0 am_dsr0 1000000 w am_c849 = true := ⟨by decide +kernel, 1, by decide +kernel⟩
