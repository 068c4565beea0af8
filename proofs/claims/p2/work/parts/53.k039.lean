/-! LAYER 2, contracts checked. -/
theorem am_q384 : am_okC am_c384 = true ∧ ∃ w, am_chk am_K0 am_cs0 am_dirs0 am_ids0 am_dsr0 1000000 w am_c384 = true := ⟨by decide +kernel, 1, by decide +kernel⟩
theorem am_q385 : am_okC am_c385 = true ∧ ∃ w, am_chk am_K0 am_cs0 am_dirs0 am_ids0 am_dsr0 1000000 w am_c385 = true := ⟨by decide +kernel, 1, by decide +kernel⟩
theorem am_q386 : am_okC am_c386 = true ∧ ∃ w, am_chk am_K0 am_cs0 am_dirs0 am_ids0 am_dsr0 1000000 w am_c386 = true := ⟨by decide +kernel, 1, by decide +kernel⟩
theorem am_q387 : am_okC am_c387 = true ∧ ∃ w, am_chk am_K0 am_cs0 am_dirs0 am_ids0 am_dsr0 1000000 w am_c387 = true := ⟨by decide +kernel, 1, by decide +kernel⟩
theorem am_q388 : am_okC am_c388 = true ∧ ∃ w, am_chk am_K0 am_cs0 am_dirs0 am_ids0 am_dsr0 1000000 w am_c388 = true := ⟨by decide +kernel, 1, by decide +kernel⟩
theorem am_q389 : am_okC am_c389 = true ∧ ∃ w, am_chk am_K0 am_cs0 am_dirs0 am_ids0 am_dsr0 1000000 w am_c389 = true := ⟨by decide +kernel, 1, by decide +kernel⟩
theorem am_q390 : am_okC am_c390 = true ∧ ∃ w, am_chk am_K0 am_cs0 am_dirs0 am_ids0 am_dsr0 1000000 w am_c390 = true := ⟨by decide +kernel, 1, by decide +kernel⟩
theorem am_q391 : am_okC am_c391 = true ∧ ∃ w, am_chk am_K0 am_cs0 am_dirs0 am_ids0 am_dsr0 1000000 w am_c391 = true := ⟨by decide +kernel, 1, by decide +kernel⟩
theorem am_q392 : am_okC am_c392 = true ∧ ∃ w, am_chk am_K0 am_cs0 am_dirs0 am_ids0 am_dsr0 1000000 w am_c392 = true := ⟨by decide +kernel, 1, by decide +kernel⟩
theorem am_q393 : am_okC am_c393 = true ∧ ∃ w, am_chk am_K0 am_cs0 am_dirs0 am_ids0 am_dsr0 1000000 w am_c393 = true := ⟨by decide +kernel, 1, by decide +kernel⟩
theorem am_q394 : am_okC am_c394 = true ∧ ∃ w, am_chk am_K0 am_cs0 am_dirs0 am_ids0 am_dsr0 1000000 w am_c394 = true := ⟨by decide +kernel, 1, by decide +kernel⟩
theorem am_q395 : am_okC am_c395 = true ∧ ∃ w, am_chk am_K0 am_cs0 am_dirs0 am_ids0 am_dsr0 1000000 w am_c395 = true := ⟨by decide +kernel, 1, by decide +kernel⟩
