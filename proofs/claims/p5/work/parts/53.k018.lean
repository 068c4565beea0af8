/-! LAYER 2, contracts checked. -/
theorem am_q139 : am_okC am_c139 = true ∧ ∃ w, am_chk am_K0 am_cs0 am_dirs0 am_ids0 am_dsr0 1000000 w am_c139 = true := ⟨by decide +kernel, 1, by decide +kernel⟩
theorem am_q140 : am_okC am_c140 = true ∧ ∃ w, am_chk am_K0 am_cs0 am_dirs0 am_ids0 am_dsr0 1000000 w am_c140 = true := ⟨by decide +kernel, 1, by decide +kernel⟩
theorem am_q141 : am_okC am_c141 = true ∧ ∃ w, am_chk am_K0 am_cs0 am_dirs0 am_ids0 am_dsr0 1000000 w am_c141 = true := ⟨by decide +kernel, 1, by decide +kernel⟩
theorem am_q142 : am_okC am_c142 = true ∧ ∃ w, am_chk am_K0 am_cs0 am_dirs0 am_ids0 am_dsr0 1000000 w am_c142 = true := ⟨by decide +kernel, 1, by decide +kernel⟩
theorem am_q143 : am_okC am_c143 = true ∧ ∃ w, am_chk am_K0 am_cs0 am_dirs0 am_ids0 am_dsr0 1000000 w am_c143 = true := ⟨by decide +kernel, 1, by decide +kernel⟩
theorem am_q144 : am_okC am_c144 = true ∧ ∃ w, am_chk am_K0 am_cs0 am_dirs0 am_ids0 am_dsr0 1000000 w am_c144 = true := ⟨by decide +kernel, 1, by decide +kernel⟩
theorem am_q145 : am_okC am_c145 = true ∧ ∃ w, am_chk am_K0 am_cs0 am_dirs0 am_ids0 am_dsr0 1000000 w am_c145 = true := ⟨by decide +kernel, 1, by decide +kernel⟩
theorem am_q146 : am_okC am_c146 = true ∧ ∃ w, am_chk am_K0 am_cs0 am_dirs0 am_ids0 am_dsr0 1000000 w am_c146 = true := ⟨by decide +kernel, 1, by decide +kernel⟩
theorem am_q147 : am_okC am_c147 = true ∧ ∃ w, am_chk am_K0 am_cs0 am_dirs0 am_ids0 am_dsr0 1000000 w am_c147 = true := ⟨by decide +kernel, 3, by decide +kernel⟩
theorem am_q148 : am_okC am_c148 = true ∧ ∃ w, am_chk am_K0 am_cs0 am_dirs0 am_ids0 am_dsr0 1000000 w am_c148 = true := ⟨by decide +kernel, 3, by decide +kernel⟩
