/-! LAYER 2, contracts checked. -/
theorem am_q1321 : am_okC am_c1321 = true ∧ ∃ w, am_chk am_K0 am_cs0 am_dirs0 am_ids0 am_dsr0 1000000 w am_c1321 = true := ⟨by decide +kernel, 1, by decide +kernel⟩
theorem am_q1322 : am_okC am_c1322 = true ∧ ∃ w, am_chk am_K0 am_cs0 am_dirs0 am_ids0 am_dsr0 1000000 w am_c1322 = true := ⟨by decide +kernel, 1, by decide +kernel⟩
theorem am_q1323 : am_okC am_c1323 = true ∧ ∃ w, am_chk am_K0 am_cs0 am_dirs0 am_ids0 am_dsr0 1000000 w am_c1323 = true := ⟨by decide +kernel, 1, by decide +kernel⟩
theorem am_q1324 : am_okC am_c1324 = true ∧ ∃ w, am_chk am_K0 am_cs0 am_dirs0 am_ids0 am_dsr0 1000000 w am_c1324 = true := ⟨by decide +kernel, 1, by decide +kernel⟩
theorem am_q1325 : am_okC am_c1325 = true ∧ ∃ w, am_chk am_K0 am_cs0 am_dirs0 am_ids0 am_dsr0 1000000 w am_c1325 = true := ⟨by decide +kernel, 1, by decide +kernel⟩
theorem am_q1326 : am_okC am_c1326 = true ∧ ∃ w, am_chk am_K0 am_cs0 am_dirs0 am_ids0 am_dsr0 1000000 w am_c1326 = true := ⟨by decide +kernel, 1, by decide +kernel⟩
theorem am_q1327 : am_okC am_c1327 = true ∧ ∃ w, am_chk am_K0 am_cs0 am_dirs0 am_ids0 am_dsr0 1000000 w am_c1327 = true := ⟨by decide +kernel, 1, by decide +kernel⟩
theorem am_q1328 : am_okC am_c1328 = true ∧ ∃ w, am_chk am_K0 am_cs0 am_dirs0 am_ids0 am_dsr0 1000000 w am_c1328 = true := ⟨by decide +kernel, 1, by decide +kernel⟩
theorem am_q1329 : am_okC am_c1329 = true ∧ ∃ w, am_chk am_K0 am_cs0 am_dirs0 am_ids0 am_dsr0 1000000 w am_c1329 = true := ⟨by decide +kernel, 1, by decide +kernel⟩
theorem am_q1330 : am_okC am_c1330 = true ∧ ∃ w, am_chk am_K0 am_cs0 am_dirs0 am_ids0 am_dsr0 1000000 w am_c1330 = true := ⟨by decide +kernel, 1, by decide +kernel⟩
theorem am_q1331 : am_okC am_c1331 = true ∧ ∃ w, am_chk am_K0 am_cs0 am_dirs0 am_ids0 am_dsr0 1000000 w am_c1331 = true := ⟨by decide +kernel, 1, by decide +kernel⟩
theorem am_q1332 : am_okC am_c1332 = true ∧ ∃ w, am_chk am_K0 am_cs0 am_dirs0 am_ids0 am_dsr0 1000000 w am_c1332 = true := ⟨by decide +kernel, 1, by decide +kernel⟩
theorem am_q1333 : am_okC am_c1333 = true ∧ ∃ w, am_chk am_K0 am_cs0 am_dirs0 am_ids0 am_dsr0 1000000 w am_c1333 = true := ⟨by decide +kernel, 1, by decide +kernel⟩
theorem am_q1334 : am_okC am_c1334 = true ∧ ∃ w, am_chk am_K0 am_cs0 am_dirs0 am_ids0 am_dsr0 1000000 w am_c1334 = true := ⟨by decide +kernel, 1, by decide +kernel⟩
theorem am_q1335 : am_okC am_c1335 = true ∧ ∃ w, am_chk am_K0 am_cs0 am_dirs0 am_ids0 am_dsr0 1000000 w am_c1335 = true := ⟨by decide +kernel, 1, by decide +kernel⟩
theorem am_q1336 : am_okC am_c1336 = true ∧ ∃ w, am_chk am_K0 am_cs0 am_dirs0 am_ids0 am_dsr0 1000000 w am_c1336 = true := ⟨by decide +kernel, 1, by decide +kernel⟩
theorem am_q1337 : am_okC am_c1337 = true ∧ ∃ w, am_chk am_K0 am_cs0 am_dirs0 am_ids0 am_dsr0 1000000 w am_c1337 = true := ⟨by decide +kernel, 1, by decide +kernel⟩
