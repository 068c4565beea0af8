/-! LAYER 2, contracts checked. -/
theorem am_q1239 : am_okC am_c1239 = true ∧ ∃ w, am_chk am_K0 am_cs0 am_dirs0 am_ids0 am_dsr0 1000000 w am_c1239 = true := ⟨by decide +kernel, 1, by decide +kernel⟩
theorem am_q1240 : am_okC am_c1240 = true ∧ ∃ w, am_chk am_K0 am_cs0 am_dirs0 am_ids0 am_dsr0 1000000 w am_c1240 = true := ⟨by decide +kernel, 1, by decide +kernel⟩
theorem am_q1241 : am_okC am_c1241 = true ∧ ∃ w, am_chk am_K0 am_cs0 am_dirs0 am_ids0 am_dsr0 1000000 w am_c1241 = true := ⟨by decide +kernel, 1, by decide +kernel⟩
theorem am_q1242 : am_okC am_c1242 = true ∧ ∃ w, am_chk am_K0 am_cs0 am_dirs0 am_ids0 am_dsr0 1000000 w am_c1242 = true := ⟨by decide +kernel, 1, by decide +kernel⟩
theorem am_q1243 : am_okC am_c1243 = true ∧ ∃ w, am_chk am_K0 am_cs0 am_dirs0 am_ids0 am_dsr0 1000000 w am_c1243 = true := ⟨by decide +kernel, 1, by decide +kernel⟩
theorem am_q1244 : am_okC am_c1244 = true ∧ ∃ w, am_chk am_K0 am_cs0 am_dirs0 am_ids0 am_dsr0 1000000 w am_c1244 = true := ⟨by decide +kernel, 1, by decide +kernel⟩
theorem am_q1245 : am_okC am_c1245 = true ∧ ∃ w, am_chk am_K0 am_cs0 am_dirs0 am_ids0 am_dsr0 1000000 w am_c1245 = true := ⟨by decide +kernel, 1, by decide +kernel⟩
theorem am_q1246 : am_okC am_c1246 = true ∧ ∃ w, am_chk am_K0 am_cs0 am_dirs0 am_ids0 am_dsr0 1000000 w am_c1246 = true := ⟨by decide +kernel, 1, by decide +kernel⟩
theorem am_q1247 : am_okC am_c1247 = true ∧ ∃ w, am_chk am_K0 am_cs0 am_dirs0 am_ids0 am_dsr0 1000000 w am_c1247 = true := ⟨by decide +kernel, 1, by decide +kernel⟩
theorem am_q1248 : am_okC am_c1248 = true ∧ ∃ w, am_chk am_K0 am_cs0 am_dirs0 am_ids0 am_dsr0 1000000 w am_c1248 = true := ⟨by decide +kernel, 1, by decide +kernel⟩
theorem am_q1249 : am_okC am_c1249 = true ∧ ∃ w, am_chk am_K0 am_cs0 am_dirs0 am_ids0 am_dsr0 1000000 w am_c1249 = true := ⟨by decide +kernel, 1, by decide +kernel⟩
theorem am_q1250 : am_okC am_c1250 = true ∧ ∃ w, am_chk am_K0 am_cs0 am_dirs0 am_ids0 am_dsr0 1000000 w am_c1250 = true := ⟨by decide +kernel, 1, by decide +kernel⟩
theorem am_q1251 : am_okC am_c1251 = true ∧ ∃ w, am_chk am_K0 am_cs0 am_dirs0 am_ids0 am_dsr0 1000000 w am_c1251 = true := ⟨by decide +kernel, 1, by decide +kernel⟩
theorem am_q1252 : am_okC am_c1252 = true ∧ ∃ w, am_chk am_K0 am_cs0 am_dirs0 am_ids0 am_dsr0 1000000 w am_c1252 = true := ⟨by decide +kernel, 1, by decide +kernel⟩
theorem am_q1253 : am_okC am_c1253 = true ∧ ∃ w, am_chk am_K0 am_cs0 am_dirs0 am_ids0 am_dsr0 1000000 w am_c1253 = true := ⟨by decide +kernel, 1, by decide +kernel⟩
theorem am_q1254 : am_okC am_c1254 = true ∧ ∃ w, am_chk am_K0 am_cs0 am_dirs0 am_ids0 am_dsr0 1000000 w am_c1254 = true := ⟨by decide +kernel, 1, by decide +kernel⟩
theorem am_q1255 : am_okC am_c1255 = true ∧ ∃ w, am_chk am_K0 am_cs0 am_dirs0 am_ids0 am_dsr0 1000000 w am_c1255 = true := ⟨by decide +kernel, 1, by decide +kernel⟩
