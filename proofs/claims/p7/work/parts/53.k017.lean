/-! LAYER 2, contracts checked. -/
theorem am_q133 : am_okC am_c133 = true ∧ ∃ w, am_chk am_K0 am_cs0 am_dirs0 am_ids0 am_dsr0 1000000 w am_c133 = true := ⟨by decide +kernel, 3, by decide +kernel⟩
theorem am_q134 : am_okC am_c134 = true ∧ ∃ w, am_chk am_K0 am_cs0 am_dirs0 am_ids0 am_dsr0 1000000 w am_c134 = true := ⟨by decide +kernel, 3, by decide +kernel⟩
theorem am_q135 : am_okC am_c135 = true ∧ ∃ w, am_chk am_K0 am_cs0 am_dirs0 am_ids0 am_dsr0 1000000 w am_c135 = true := ⟨by decide +kernel, 3, by decide +kernel⟩
theorem am_q136 : am_okC am_c136 = true ∧ ∃ w, am_chk am_K0 am_cs0 am_dirs0 am_ids0 am_dsr0 1000000 w am_c136 = true := ⟨by decide +kernel, 3, by decide +kernel⟩
