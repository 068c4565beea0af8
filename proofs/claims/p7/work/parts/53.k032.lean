/-! LAYER 2, contracts checked. -/
theorem am_q271 : am_okC am_c271 = true ∧ ∃ w, am_chk am_K0 am_cs0 am_dirs0 am_ids0 am_dsr0 1000000 w am_c271 = true := ⟨by decide +kernel, 1, by decide +kernel⟩
theorem am_q272 : am_okC am_c272 = true ∧ ∃ w, am_chk am_K0 am_cs0 am_dirs0 am_ids0 am_dsr0 1000000 w am_c272 = true := ⟨by decide +kernel, 1, by decide +kernel⟩
theorem am_q273 : am_okC am_c273 = true ∧ ∃ w, am_chk am_K0 am_cs0 am_dirs0 am_ids0 am_dsr0 1000000 w am_c273 = true := ⟨by decide +kernel, 1, by decide +kernel⟩
theorem am_q274 : am_okC am_c274 = true ∧ ∃ w, am_chk am_K0 am_cs0 am_dirs0 am_ids0 am_dsr0 1000000 w am_c274 = true := ⟨by decide +kernel, 1, by decide +kernel⟩
theorem am_q275 : am_okC am_c275 = true ∧ ∃ w, am_chk am_K0 am_cs0 am_dirs0 am_ids0 am_dsr0 1000000 w am_c275 = true := ⟨by decide +kernel, 1, by decide +kernel⟩
theorem am_q276 : am_okC am_c276 = true ∧ ∃ w, am_chk am_K0 am_cs0 am_dirs0 am_ids0 am_dsr0 1000000 w am_c276 = true := ⟨by decide +kernel, 1, by decide +kernel⟩
theorem am_q277 : am_okC am_c277 = true ∧ ∃ w, am_chk am_K0 am_cs0 am_dirs0 am_ids0 am_dsr0 1000000 w am_c277 = true := ⟨by decide +kernel, 1, by decide +kernel⟩
theorem am_q278 : am_okC am_c278 = true ∧ ∃ w, am_chk am_K0 am_cs0 am_dirs0 am_ids0 am_dsr0 1000000 w am_c278 = true := ⟨by decide +kernel, 1, by decide +kernel⟩
theorem am_q279 : am_okC am_c279 = true ∧ ∃ w, am_chk am_K0 am_cs0 am_dirs0 am_ids0 am_dsr0 1000000 w am_c279 = true := ⟨by decide +kernel, 1, by decide +kernel⟩
