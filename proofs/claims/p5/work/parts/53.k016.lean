/-! LAYER 2, contracts checked. -/
theorem am_q126 : am_okC am_c126 = true ∧ ∃ w, am_chk am_K0 am_cs0 am_dirs0 am_ids0 am_dsr0 1000000 w am_c126 = true := ⟨by decide +kernel, 1, by decide +kernel⟩
theorem am_q127 : am_okC am_c127 = true ∧ ∃ w, am_chk am_K0 am_cs0 am_dirs0 am_ids0 am_dsr0 1000000 w am_c127 = true := ⟨by decide +kernel, 1, by decide +kernel⟩
theorem am_q128 : am_okC am_c128 = true ∧ ∃ w, am_chk am_K0 am_cs0 am_dirs0 am_ids0 am_dsr0 1000000 w am_c128 = true := ⟨by decide +kernel, 1, by decide +kernel⟩
theorem am_q129 : am_okC am_c129 = true ∧ ∃ w, am_chk am_K0 am_cs0 am_dirs0 am_ids0 am_dsr0 1000000 w am_c129 = true := ⟨by decide +kernel, 1, by decide +kernel⟩
theorem am_q130 : am_okC am_c130 = true ∧ ∃ w, am_chk am_K0 am_cs0 am_dirs0 am_ids0 am_dsr0 1000000 w am_c130 = true := ⟨by decide +kernel, 1, by decide +kernel⟩
theorem am_q131 : am_okC am_c131 = true ∧ ∃ w, am_chk am_K0 am_cs0 am_dirs0 am_ids0 am_dsr0 1000000 w am_c131 = true := ⟨by decide +kernel, 1, by decide +kernel⟩
theorem am_q132 : am_okC am_c132 = true ∧ ∃ w, am_chk am_K0 am_cs0 am_dirs0 am_ids0 am_dsr0 1000000 w am_c132 = true := ⟨by decide +kernel, 1, by decide +kernel⟩
theorem am_q133 : am_okC am_c133 = true ∧ ∃ w, am_chk am_K0 am_cs0 am_dirs0 am_ids0 am_dsr0 1000000 w am_c133 = true := ⟨by decide +kernel, 1, by decide +kernel⟩
theorem am_q134 : am_okC am_c134 = true ∧ ∃ w, am_chk am_K0 am_cs0 am_dirs0 am_ids0 am_dsr0 1000000 w am_c134 = true := ⟨by decide +kernel, 1, by decide +kernel⟩
theorem am_q135 : am_okC am_c135 = true ∧ ∃ w, am_chk am_K0 am_cs0 am_dirs0 am_ids0 am_dsr0 1000000 w am_c135 = true := ⟨by decide +kernel, 1, by decide +kernel⟩
