/-! LAYER 2, contracts checked. -/
theorem am_q388 : am_okC am_c388 = true ∧ ∃ w, am_chk am_K0 am_cs0 am_dirs0 am_ids0 am_dsr0 1000000 w am_c388 = true := ⟨by decide +kernel, 1, by decide +kernel⟩
theorem am_q389 : am_okC am_c389 = true ∧ ∃ w, am_chk am_K0 am_cs0 am_dirs0 am_ids0 am_dsr0 1000000 w am_c389 = true := ⟨by decide +kernel, 1, by decide +kernel⟩
theorem am_q390 : am_okC am_c390 = true ∧ ∃ w, am_chk am_K0 am_cs0 am_dirs0 am_ids0 am_dsr0 1000000 w am_c390 = true := ⟨by decide +kernel, 1, by decide +kernel⟩
theorem am_q391 : am_okC am_c391 = true ∧ ∃ w, am_chk am_K0 am_cs0 am_dirs0 am_ids0 am_dsr0 1000000 w am_c391 = true := ⟨by decide +kernel, 1, by decide +kernel⟩
theorem am_q392 : am_okC am_c392 = true ∧ ∃ w, am_chk am_K0 am_cs0 am_dirs0 am_ids0 am_dsr0 1000000 w am_c392 = true := ⟨by decide +kernel, 1, by decide +kernel⟩
theorem am_q393 : am_okC am_c393 = true ∧ ∃ w, am_chk am_K0 am_cs0 am_dirs0 am_ids0 am_dsr0 1000000 w am_c393 = true := ⟨by decide +kernel, 1, by decide +kernel⟩
theorem am_q394 : am_okC am_c394 = true ∧ ∃ w, am_chk am_K0 am_cs0 am_dirs0 am_ids0 am_dsr0 1000000 w am_c394 = true := ⟨by decide +kernel, 1, by decide +kernel⟩
theorem am_q395 : am_okC am_c395 = true ∧ ∃ w, am_chk am_K0 am_cs0 am_dirs0 am_ids0 am_dsr0 1000000 w am_c395 = true := ⟨by decide +kernel, 1, by decide +kernel⟩
theorem am_q396 : am_okC am_c396 = true ∧ ∃ w, am_chk am_K0 am_cs0 am_dirs0 am_ids0 am_dsr0 1000000 w am_c396 = true := ⟨by decide +kernel, 1, by decide +kernel⟩
theorem am_q397 : am_okC am_c397 = true ∧ ∃ w, am_chk am_K0 am_cs0 am_dirs0 am_ids0 am_dsr0 1000000 w am_c397 = true := ⟨by decide +kernel, 1, by decide +kernel⟩
theorem am_q398 : am_okC am_c398 = true ∧ ∃ w, am_chk am_K0 am_cs0 am_dirs0 am_ids0 am_dsr0 1000000 w am_c398 = true := ⟨by decide +kernel, 1, by decide +kernel⟩
theorem am_q399 : am_okC am_c399 = true ∧ ∃ w, am_chk am_K0 am_cs0 am_dirs0 am_ids0 am_dsr0 1000000 w am_c399 = true := ⟨by decide +kernel, 1, by decide +kernel⟩
theorem am_q400 : am_okC am_c400 = true ∧ ∃ w, am_chk am_K0 am_cs0 am_dirs0 am_ids0 am_dsr0 1000000 w am_c400 = true := ⟨by decide +kernel, 1, by decide +kernel⟩
