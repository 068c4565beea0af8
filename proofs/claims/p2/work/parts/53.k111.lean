/-! LAYER 2, contracts checked. -/
theorem am_q1314 : am_okC am_c1314 = true ∧ ∃ w, am_chk am_K0 am_cs0 am_dirs0 am_ids0 am_dsr0 1000000 w am_c1314 = true := ⟨by decide +kernel, 1, by decide +kernel⟩
theorem am_q1315 : am_okC am_c1315 = true ∧ ∃ w, am_chk am_K0 am_cs0 am_dirs0 am_ids0 am_dsr0 1000000 w am_c1315 = true := ⟨by decide +kernel, 1, by decide +kernel⟩
theorem am_q1316 : am_okC am_c1316 = true ∧ ∃ w, am_chk am_K0 am_cs0 am_dirs0 am_ids0 am_dsr0 1000000 w am_c1316 = true := ⟨by decide +kernel, 1, by decide +kernel⟩
theorem am_q1317 : am_okC am_c1317 = true ∧ ∃ w, am_chk am_K0 am_cs0 am_dirs0 am_ids0 am_dsr0 1000000 w am_c1317 = true := ⟨by decide +kernel, 1, by decide +kernel⟩
theorem am_q1318 : am_okC am_c1318 = true ∧ ∃ w, am_chk am_K0 am_cs0 am_dirs0 am_ids0 am_dsr0 1000000 w am_c1318 = true := ⟨by decide +kernel, 1, by decide +kernel⟩
theorem am_q1319 : am_okC am_c1319 = true ∧ ∃ w, am_chk am_K0 am_cs0 am_dirs0 am_ids0 am_dsr0 1000000 w am_c1319 = true := ⟨by decide +kernel, 1, by decide +kernel⟩
theorem am_q1320 : am_okC am_c1320 = true ∧ ∃ w, am_chk am_K0 am_cs0 am_dirs0 am_ids0 am_dsr0 1000000 w am_c1320 = true := ⟨by decide +kernel, 1, by decide +kernel⟩
theorem am_q1321 : am_okC am_c1321 = true ∧ ∃ w, am_chk am_K0 am_cs0 am_dirs0 am_ids0 am_dsr0 1000000 w am_c1321 = true := ⟨by decide +kernel, 1, by decide +kernel⟩
theorem am_q1322 : am_okC am_c1322 = true ∧ ∃ w, am_chk am_K0 am_cs0 am_dirs0 am_ids0 am_dsr0 1000000 w am_c1322 = true := ⟨by decide +kernel, 1, by decide +kernel⟩
theorem am_q1323 : am_okC am_c1323 = true ∧ ∃ w, am_chk am_K0 am_cs0 am_dirs0 am_ids0 am_dsr0 1000000 w am_c1323 = true := ⟨by decide +kernel, 1, by decide +kernel⟩
theorem am_q1324 : am_okC am_c1324 = true ∧ ∃ w, am_chk am_K0 am_cs0 am_dirs0 am_ids0 am_dsr0 1000000 w am_c1324 = true := ⟨by decide +kernel, 1, by decide +kernel⟩
theorem am_q1325 : am_okC am_c1325 = true ∧ ∃ w, am_chk am_K0 am_cs0 am_dirs0 am_ids0 am_dsr0 1000000 w am_c1325 = true := ⟨by decide +kernel, 1, by decide +kernel⟩
theorem am_q1326 : am_okC am_c1326 = true ∧ ∃ w, am_chk am_K0 am_cs0 am_dirs0 am_ids0 am_dsr0 1000000 w am_c1326 = true := ⟨by decide +kernel, 1, by decide +kernel⟩
theorem am_q1327 : am_okC am_c1327 = true ∧ ∃ w, am_chk am_K0 am_cs0 am_dirs0 am_ids0 am_dsr0 1000000 w am_c1327 = true := ⟨by decide +kernel, 1, by decide +kernel⟩
theorem am_q1328 : am_okC am_c1328 = true ∧ ∃ w, am_chk am_K0 am_cs0 am_dirs0 am_ids0 am_dsr0 1000000 w am_c1328 = true := ⟨by decide +kernel, 1, by decide +kernel⟩
theorem am_q1329 : am_okC am_c1329 = true ∧ ∃ w, am_chk am_K0 am_cs0 am_dirs0 am_ids0 am_dsr0 1000000 w am_c1329 = true := ⟨by decide +kernel, 1, by decide +kernel⟩
theorem am_q1330 : am_okC am_c1330 = true ∧ ∃ w, am_chk am_K0 am_cs0 am_dirs0 am_ids0 am_dsr0 1000000 w am_c1330 = true := ⟨by decide +kernel, 1, by decide +kernel⟩
