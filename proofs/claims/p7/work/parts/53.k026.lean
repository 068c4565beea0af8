/-! LAYER 2, contracts checked. -/
theorem am_q182 : am_okC am_c182 = true ∧ ∃ w, am_chk am_K0 am_cs0 am_dirs0 am_ids0 am_dsr0 1000000 w am_c182 = true := ⟨by decide +kernel, 3, by decide +kernel⟩
theorem am_q183 : am_okC am_c183 = true ∧ ∃ w, am_chk am_K0 am_cs0 am_dirs0 am_ids0 am_dsr0 1000000 w am_c183 = true := ⟨by decide +kernel, 3, by decide +kernel⟩
theorem am_q184 : am_okC am_c184 = true ∧ ∃ w, am_chk am_K0 am_cs0 am_dirs0 am_ids0 am_dsr0 1000000 w am_c184 = true := ⟨by decide +kernel, 4, by decide +kernel⟩
theorem am_q185 : am_okC am_c185 = true ∧ ∃ w, am_chk am_K0 am_cs0 am_dirs0 am_ids0 am_dsr0 1000000 w am_c185 = true := ⟨by decide +kernel, 4, by decide +kernel⟩
theorem am_q186 : am_okC am_c186 = true ∧ ∃ w, am_chk am_K0 am_cs0 am_dirs0 am_ids0 am_dsr0 1000000 w am_c186 = true := ⟨by decide +kernel, 4, by decide +kernel⟩
theorem am_q187 : am_okC am_c187 = true ∧ ∃ w, am_chk am_K0 am_cs0 am_dirs0 am_ids0 am_dsr0 1000000 w am_c187 = true := ⟨by decide +kernel, 4, by decide +kernel⟩
theorem am_q188 : am_okC am_c188 = true ∧ ∃ w, am_chk am_K0 am_cs0 am_dirs0 am_ids0 am_dsr0 1000000 w am_c188 = true := ⟨by decide +kernel, 4, by decide +kernel⟩
theorem am_q189 : am_okC am_c189 = true ∧ ∃ w, am_chk am_K0 am_cs0 am_dirs0 am_ids0 am_dsr0 1000000 w am_c189 = true := ⟨by decide +kernel, 4, by decide +kernel⟩
