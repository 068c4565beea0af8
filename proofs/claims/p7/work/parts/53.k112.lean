/-! LAYER 2, contracts checked. -/
theorem am_q1355 : am_okC am_c1355 = true ∧ ∃ w, am_chk am_K0 am_cs0 am_dirs0 am_ids0 am_dsr0 1000000 w am_c1355 = true := ⟨by decide +kernel, 1, by decide +kernel⟩
theorem am_q1356 : am_okC am_c1356 = true ∧ ∃ w, am_chk am_K0 am_cs0 am_dirs0 am_ids0 am_dsr0 1000000 w am_c1356 = true := ⟨by decide +kernel, 1, by decide +kernel⟩
theorem am_q1357 : am_okC am_c1357 = true ∧ ∃ w, am_chk am_K0 am_cs0 am_dirs0 am_ids0 am_dsr0 1000000 w am_c1357 = true := ⟨by decide +kernel, 1, by decide +kernel⟩
theorem am_q1358 : am_okC am_c1358 = true ∧ ∃ w, am_chk am_K0 am_cs0 am_dirs0 am_ids0 am_dsr0 1000000 w am_c1358 = true := ⟨by decide +kernel, 1, by decide +kernel⟩
theorem am_q1359 : am_okC am_c1359 = true ∧ ∃ w, am_chk am_K0 am_cs0 am_dirs0 am_ids0 am_dsr0 1000000 w am_c1359 = true := ⟨by decide +kernel, 1, by decide +kernel⟩
theorem am_q1360 : am_okC am_c1360 = true ∧ ∃ w, am_chk am_K0 am_cs0 am_dirs0 am_ids0 am_dsr0 1000000 w am_c1360 = true := ⟨by decide +kernel, 1, by decide +kernel⟩
theorem am_q1361 : am_okC am_c1361 = true ∧ ∃ w, am_chk am_K0 am_cs0 am_dirs0 am_ids0 am_dsr0 1000000 w am_c1361 = true := ⟨by decide +kernel, 1, by decide +kernel⟩
theorem am_q1362 : am_okC am_c1362 = true ∧ ∃ w, am_chk am_K0 am_cs0 am_dirs0 am_ids0 am_dsr0 1000000 w am_c1362 = true := ⟨by decide +kernel, 1, by decide +kernel⟩
theorem am_q1363 : am_okC am_c1363 = true ∧ ∃ w, am_chk am_K0 am_cs0 am_dirs0 am_ids0 am_dsr0 1000000 w am_c1363 = true := ⟨by decide +kernel, 1, by decide +kernel⟩
theorem am_q1364 : am_okC am_c1364 = true ∧ ∃ w, am_chk am_K0 am_cs0 am_dirs0 am_ids0 am_dsr0 1000000 w am_c1364 = true := ⟨by decide +kernel, 1, by decide +kernel⟩
theorem am_q1365 : am_okC am_c1365 = true ∧ ∃ w, am_chk am_K0 am_cs0 am_dirs0 am_ids0 am_dsr0 1000000 w am_c1365 = true := ⟨by decide +kernel, 1, by decide +kernel⟩
theorem am_q1366 : am_okC am_c1366 = true ∧ ∃ w, am_chk am_K0 am_cs0 am_dirs0 am_ids0 am_dsr0 1000000 w am_c1366 = true := ⟨by decide +kernel, 1, by decide +kernel⟩
theorem am_q1367 : am_okC am_c1367 = true ∧ ∃ w, am_chk am_K0 am_cs0 am_dirs0 am_ids0 am_dsr0 1000000 w am_c1367 = true := ⟨by decide +kernel, 1, by decide +kernel⟩
theorem am_q1368 : am_okC am_c1368 = true ∧ ∃ w, am_chk am_K0 am_cs0 am_dirs0 am_ids0 am_dsr0 1000000 w am_c1368 = true := ⟨by decide +kernel, 1, by decide +kernel⟩
theorem am_q1369 : am_okC am_c1369 = true ∧ ∃ w, am_chk am_K0 am_cs0 am_dirs0 am_ids0 am_dsr0 1000000 w am_c1369 = true := ⟨by decide +kernel, 1, by decide +kernel⟩
theorem am_q1370 : am_okC am_c1370 = true ∧ ∃ w, am_chk am_K0 am_cs0 am_dirs0 am_ids0 am_dsr0 1000000 w am_c1370 = true := ⟨by decide +kernel, 1, by decide +kernel⟩
theorem am_q1371 : am_okC am_c1371 = true ∧ ∃ w, am_chk am_K0 am_cs0 am_dirs0 am_ids0 am_dsr0 1000000 w am_c1371 = true := ⟨by decide +kernel, 1, by decide +kernel⟩
