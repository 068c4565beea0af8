/-! LAYER 2, contracts checked. -/
theorem am_q149 : am_okC am_c149 = true ∧ ∃ w, am_chk am_K0 am_cs0 am_dirs0 am_ids0 am_dsr0 1000000 w am_c149 = true := ⟨by decide +kernel, 3, by decide +kernel⟩
theorem am_q150 : am_okC am_c150 = true ∧ ∃ w, am_chk am_K0 am_cs0 am_dirs0 am_ids0 am_dsr0 1000000 w am_c150 = true := ⟨by decide +kernel, 3, by decide +kernel⟩
theorem am_q151 : am_okC am_c151 = true ∧ ∃ w, am_chk am_K0 am_cs0 am_dirs0 am_ids0 am_dsr0 1000000 w am_c151 = true := ⟨by decide +kernel, 3, by decide +kernel⟩
theorem am_q152 : am_okC am_c152 = true ∧ ∃ w, am_chk am_K0 am_cs0 am_dirs0 am_ids0 am_dsr0 1000000 w am_c152 = true := ⟨by decide +kernel, 3, by decide +kernel⟩
