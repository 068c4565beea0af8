/-! LAYER 2, contracts checked. -/
theorem am_q1392 : am_okC am_c1392 = true ∧ ∃ w, am_chk am_K0 am_cs0 am_dirs0 am_ids0 am_dsr0 1000000 w am_c1392 = true := ⟨by decide +kernel, 1, by decide +kernel⟩
theorem am_q1393 : am_okC am_c1393 = true ∧ ∃ w, am_chk am_K0 am_cs0 am_dirs0 am_ids0 am_dsr0 1000000 w am_c1393 = true := ⟨by decide +kernel, 1, by decide +kernel⟩
theorem am_q1394 : am_okC am_c1394 = true ∧ ∃ w, am_chk am_K0 am_cs0 am_dirs0 am_ids0 am_dsr0 1000000 w am_c1394 = true := ⟨by decide +kernel, 1, by decide +kernel⟩
theorem am_q1395 : am_okC am_c1395 = true ∧ ∃ w, am_chk am_K0 am_cs0 am_dirs0 am_ids0 am_dsr0 1000000 w am_c1395 = true := ⟨by decide +kernel, 1, by decide +kernel⟩
theorem am_q1396 : am_okC am_c1396 = true ∧ ∃ w, am_chk am_K0 am_cs0 am_dirs0 am_ids0 am_dsr0 1000000 w am_c1396 = true := ⟨by decide +kernel, 1, by decide +kernel⟩
theorem am_q1397 : am_okC am_c1397 = true ∧ ∃ w, am_chk am_K0 am_cs0 am_dirs0 am_ids0 am_dsr0 1000000 w am_c1397 = true := ⟨by decide +kernel, 1, by decide +kernel⟩
theorem am_q1398 : am_okC am_c1398 = true ∧ ∃ w, am_chk am_K0 am_cs0 am_dirs0 am_ids0 am_dsr0 1000000 w am_c1398 = true := ⟨by decide +kernel, 1, by decide +kernel⟩
theorem am_q1399 : am_okC am_c1399 = true ∧ ∃ w, am_chk am_K0 am_cs0 am_dirs0 am_ids0 am_dsr0 1000000 w am_c1399 = true := ⟨by decide +kernel, 1, by decide +kernel⟩
theorem am_q1400 : am_okC am_c1400 = true ∧ ∃ w, am_chk am_K0 am_cs0 am_dirs0 am_ids0 am_dsr0 1000000 w am_c1400 = true := ⟨by decide +kernel, 1, by decide +kernel⟩
theorem am_q1401 : am_okC am_c1401 = true ∧ ∃ w, am_chk am_K0 am_cs0 am_dirs0 am_ids0 am_dsr0 1000000 w am_c1401 = true := ⟨by decide +kernel, 1, by decide +kernel⟩
theorem am_q1402 : am_okC am_c1402 = true ∧ ∃ w, am_chk am_K0 am_cs0 am_dirs0 am_ids0 am_dsr0 1000000 w am_c1402 = true := ⟨by decide +kernel, 1, by decide +kernel⟩
theorem am_q1403 : am_okC am_c1403 = true ∧ ∃ w, am_chk am_K0 am_cs0 am_dirs0 am_ids0 am_dsr0 1000000 w am_c1403 = true := ⟨by decide +kernel, 1, by decide +kernel⟩
theorem am_q1404 : am_okC am_c1404 = true ∧ ∃ w, am_chk am_K0 am_cs0 am_dirs0 am_ids0 am_dsr0 1000000 w am_c1404 = true := ⟨by decide +kernel, 1, by decide +kernel⟩
theorem am_q1405 : am_okC am_c1405 = true ∧ ∃ w, am_chk am_K0 am_cs0 am_dirs0 am_ids0 am_dsr0 1000000 w am_c1405 = true := ⟨by decide +kernel, 1, by decide +kernel⟩
theorem am_q1406 : am_okC am_c1406 = true ∧ ∃ w, am_chk am_K0 am_cs0 am_dirs0 am_ids0 am_dsr0 1000000 w am_c1406 = true := ⟨by decide +kernel, 1, by decide +kernel⟩
