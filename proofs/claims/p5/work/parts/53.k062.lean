/-! LAYER 2, contracts checked. -/
theorem am_q805 : am_okC am_c805 = true ∧ ∃ w, am_chk am_K0 am_cs0 am_dirs0 am_ids0 am_dsr0 1000000 w am_c805 = true := ⟨by decide +kernel, 1, by decide +kernel⟩
theorem am_q806 : am_okC am_c806 = true ∧ ∃ w, am_chk am_K0 am_cs0 am_dirs0 am_ids0 am_dsr0 1000000 w am_c806 = true := ⟨by decide +kernel, 1, by decide +kernel⟩
theorem am_q807 : am_okC am_c807 = true ∧ ∃ w, am_chk am_K0 am_cs0 am_dirs0 am_ids0 am_dsr0 1000000 w am_c807 = true := ⟨by decide +kernel, 1, by decide +kernel⟩
theorem am_q808 : am_okC am_c808 = true ∧ ∃ w, am_chk am_K0 am_cs0 am_dirs0 am_ids0 am_dsr0 1000000 w am_c808 = true := ⟨by decide +kernel, 1, by decide +kernel⟩
theorem am_q809 : am_okC am_c809 = true ∧ ∃ w, am_chk am_K0 am_cs0 am_dirs0 am_ids0 am_dsr0 1000000 w am_c809 = true := ⟨by decide +kernel, 1, by decide +kernel⟩
theorem am_q810 : am_okC am_c810 = true ∧ ∃ w, am_chk am_K0 am_cs0 am_dirs0 am_ids0 am_dsr0 1000000 w am_c810 = true := ⟨by decide +kernel, 1, by decide +kernel⟩
theorem am_q811 : am_okC am_c811 = true ∧ ∃ w, am_chk am_K0 am_cs0 am_dirs0 am_ids0 am_dsr0 1000000 w am_c811 = true := ⟨by decide +kernel, 1, by decide +kernel⟩
theorem am_q812 : am_okC am_c812 = true ∧ ∃ w, am_chk am_K0 am_cs0 am_dirs0 am_ids0 am_dsr0 1000000 w am_c812 = true := ⟨by decide +kernel, 1, by decide +kernel⟩
