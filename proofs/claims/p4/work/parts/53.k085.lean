/-! LAYER 2, contracts checked. -/
theorem am_q958 : am_okC am_c958 = true ∧ ∃ w, am_chk am_K0 am_cs0 am_dirs0 am_ids0 am_dsr0 1000000 w am_c958 = true := ⟨by decide +kernel, 1, by decide +kernel⟩
theorem am_q959 : am_okC am_c959 = true ∧ ∃ w, am_chk am_K0 am_cs0 am_dirs0 am_ids0 am_dsr0 1000000 w am_c959 = true := ⟨by decide +kernel, 1, by decide +kernel⟩
theorem am_q960 : am_okC am_c960 = true ∧ ∃ w, am_chk am_K0 am_cs0 am_dirs0 am_ids0 am_dsr0 1000000 w am_c960 = true := ⟨by decide +kernel, 1, by decide +kernel⟩
theorem am_q961 : am_okC am_c961 = true ∧ ∃ w, am_chk am_K0 am_cs0 am_dirs0 am_ids0 am_dsr0 1000000 w am_c961 = true := ⟨by decide +kernel, 1, by decide +kernel⟩
theorem am_q962 : am_okC am_c962 = true ∧ ∃ w, am_chk am_K0 am_cs0 am_dirs0 am_ids0 am_dsr0 1000000 w am_c962 = true := ⟨by decide +kernel, 1, by decide +kernel⟩
