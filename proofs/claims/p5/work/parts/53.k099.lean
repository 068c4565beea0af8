/-! LAYER 2, contracts checked. -/
theorem am_q1276 : am_okC am_c1276 = true ∧ ∃ w, am_chk am_K0 am_cs0 am_dirs0 am_ids0 am_dsr0 1000000 w am_c1276 = true := ⟨by decide +kernel, 1, by decide +kernel⟩
theorem am_q1277 : am_okC am_c1277 = true ∧ ∃ w, am_chk am_K0 am_cs0 am_dirs0 am_ids0 am_dsr0 1000000 w am_c1277 = true := ⟨by decide +kernel, 1, by decide +kernel⟩
theorem am_q1278 : am_okC am_c1278 = true ∧ ∃ w, am_chk am_K0 am_cs0 am_dirs0 am_ids0 am_dsr0 1000000 w am_c1278 = true := ⟨by decide +kernel, 1, by decide +kernel⟩
theorem am_q1279 : am_okC am_c1279 = true ∧ ∃ w, am_chk am_K0 am_cs0 am_dirs0 am_ids0 am_dsr0 1000000 w am_c1279 = true := ⟨by decide +kernel, 1, by decide +kernel⟩
theorem am_q1280 : am_okC am_c1280 = true ∧ ∃ w, am_chk am_K0 am_cs0 am_dirs0 am_ids0 am_dsr0 1000000 w am_c1280 = true := ⟨by decide +kernel, 1, by decide +kernel⟩
theorem am_q1281 : am_okC am_c1281 = true ∧ ∃ w, am_chk am_K0 am_cs0 am_dirs0 am_ids0 am_dsr0 1000000 w am_c1281 = true := ⟨by decide +kernel, 1, by decide +kernel⟩
theorem am_q1282 : am_okC am_c1282 = true ∧ ∃ w, am_chk am_K0 am_cs0 am_dirs0 am_ids0 am_dsr0 1000000 w am_c1282 = true := ⟨by decide +kernel, 1, by decide +kernel⟩
theorem am_q1283 : am_okC am_c1283 = true ∧ ∃ w, am_chk am_K0 am_cs0 am_dirs0 am_ids0 am_dsr0 1000000 w am_c1283 = true := ⟨by decide +kernel, 1, by decide +kernel⟩
