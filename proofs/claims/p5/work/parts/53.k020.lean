/-! LAYER 2, contracts checked. -/
theorem am_q153 : am_okC am_c153 = true ∧ ∃ w, am_chk am_K0 am_cs0 am_dirs0 am_ids0 am_dsr0 1000000 w am_c153 = true := ⟨by decide +kernel, 4, by decide +kernel⟩
theorem am_q154 : am_okC am_c154 = true ∧ ∃ w, am_chk am_K0 am_cs0 am_dirs0 am_ids0 am_dsr0 1000000 w am_c154 = true := ⟨by decide +kernel, 4, by decide +kernel⟩
theorem am_q155 : am_okC am_c155 = true ∧ ∃ w, am_chk am_K0 am_cs0 am_dirs0 am_ids0 am_dsr0 1000000 w am_c155 = true := ⟨by decide +kernel, 4, by decide +kernel⟩
theorem am_q156 : am_okC am_c156 = true ∧ ∃ w, am_chk am_K0 am_cs0 am_dirs0 am_ids0 am_dsr0 1000000 w am_c156 = true := ⟨by decide +kernel, 4, by decide +kernel⟩
theorem am_q157 : am_okC am_c157 = true ∧ ∃ w, am_chk am_K0 am_cs0 am_dirs0 am_ids0 am_dsr0 1000000 w am_c157 = true := ⟨by decide +kernel, 4, by decide +kernel⟩
theorem am_q158 : am_okC am_c158 = true ∧ ∃ w, am_chk am_K0 am_cs0 am_dirs0 am_ids0 am_dsr0 1000000 w am_c158 = true := ⟨by decide +kernel, 4, by decide +kernel⟩
theorem am_q159 : am_okC am_c159 = true ∧ ∃ w, am_chk am_K0 am_cs0 am_dirs0 am_ids0 am_dsr0 1000000 w am_c159 = true := ⟨by decide +kernel, 4, by decide +kernel⟩
theorem am_q160 : am_okC am_c160 = true ∧ ∃ w, am_chk am_K0 am_cs0 am_dirs0 am_ids0 am_dsr0 1000000 w am_c160 = true := ⟨by decide +kernel, 4, by decide +kernel⟩
theorem am_q161 : am_okC am_c161 = true ∧ ∃ w, am_chk am_K0 am_cs0 am_dirs0 am_ids0 am_dsr0 1000000 w am_c161 = true := ⟨by decide +kernel, 4, by decide +kernel⟩
theorem am_q162 : am_okC am_c162 = true ∧ ∃ w, am_chk am_K0 am_cs0 am_dirs0 am_ids0 am_dsr0 1000000 w am_c162 = true := ⟨by decide +kernel, 4, by decide +kernel⟩
