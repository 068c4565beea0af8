/-! LAYER 2, contracts checked. -/
theorem am_q1222 : am_okC am_c1222 = true ∧ ∃ w, am_chk am_K0 am_cs0 am_dirs0 am_ids0 am_dsr0 1000000 w am_c1222 = true := ⟨by decide +kernel, 1, by decide +kernel⟩
theorem am_q1223 : am_okC am_c1223 = true ∧ ∃ w, am_chk am_K0 am_cs0 am_dirs0 am_ids0 am_dsr0 1000000 w am_c1223 = true := ⟨by decide +kernel, 1, by decide +kernel⟩
theorem am_q1224 : am_okC am_c1224 = true ∧ ∃ w, am_chk am_K0 am_cs0 am_dirs0 am_ids0 am_dsr0 1000000 w am_c1224 = true := ⟨by decide +kernel, 1, by decide +kernel⟩
theorem am_q1225 : am_okC am_c1225 = true ∧ ∃ w, am_chk am_K0 am_cs0 am_dirs0 am_ids0 am_dsr0 1000000 w am_c1225 = true := ⟨by decide +kernel, 1, by decide +kernel⟩
theorem am_q1226 : am_okC am_c1226 = true ∧ ∃ w, am_chk am_K0 am_cs0 am_dirs0 am_ids0 am_dsr0 1000000 w am_c1226 = true := ⟨by decide +kernel, 1, by decide +kernel⟩
theorem am_q1227 : am_okC am_c1227 = true ∧ ∃ w, am_chk am_K0 am_cs0 am_dirs0 am_ids0 am_dsr0 1000000 w am_c1227 = true := ⟨by decide +kernel, 1, by decide +kernel⟩
theorem am_q1228 : am_okC am_c1228 = true ∧ ∃ w, am_chk am_K0 am_cs0 am_dirs0 am_ids0 am_dsr0 1000000 w am_c1228 = true := ⟨by decide +kernel, 1, by decide +kernel⟩
theorem am_q1229 : am_okC am_c1229 = true ∧ ∃ w, am_chk am_K0 am_cs0 am_dirs0 am_ids0 am_dsr0 1000000 w am_c1229 = true := ⟨by decide +kernel, 1, by decide +kernel⟩
theorem am_q1230 : am_okC am_c1230 = true ∧ ∃ w, am_chk am_K0 am_cs0 am_dirs0 am_ids0 am_dsr0 1000000 w am_c1230 = true := ⟨by decide +kernel, 1, by decide +kernel⟩
theorem am_q1231 : am_okC am_c1231 = true ∧ ∃ w, am_chk am_K0 am_cs0 am_dirs0 am_ids0 am_dsr0 1000000 w am_c1231 = true := ⟨by decide +kernel, 1, by decide +kernel⟩
theorem am_q1232 : am_okC am_c1232 = true ∧ ∃ w, am_chk am_K0 am_cs0 am_dirs0 am_ids0 am_dsr0 1000000 w am_c1232 = true := ⟨by decide +kernel, 1, by decide +kernel⟩
theorem am_q1233 : am_okC am_c1233 = true ∧ ∃ w, am_chk am_K0 am_cs0 am_dirs0 am_ids0 am_dsr0 1000000 w am_c1233 = true := ⟨by decide +kernel, 1, by decide +kernel⟩
theorem am_q1234 : am_okC am_c1234 = true ∧ ∃ w, am_chk am_K0 am_cs0 am_dirs0 am_ids0 am_dsr0 1000000 w am_c1234 = true := ⟨by decide +kernel, 1, by decide +kernel⟩
theorem am_q1235 : am_okC am_c1235 = true ∧ ∃ w, am_chk am_K0 am_cs0 am_dirs0 am_ids0 am_dsr0 1000000 w am_c1235 = true := ⟨by decide +kernel, 1, by decide +kernel⟩
theorem am_q1236 : am_okC am_c1236 = true ∧ ∃ w, am_chk am_K0 am_cs0 am_dirs0 am_ids0 am_dsr0 1000000 w am_c1236 = true := ⟨by decide +kernel, 1, by decide +kernel⟩
theorem am_q1237 : am_okC am_c1237 = true ∧ ∃ w, am_chk am_K0 am_cs0 am_dirs0 am_ids0 am_dsr0 1000000 w am_c1237 = true := ⟨by decide +kernel, 1, by decide +kernel⟩
theorem am_q1238 : am_okC am_c1238 = true ∧ ∃ w, am_chk am_K0 am_cs0 am_dirs0 am_ids0 am_dsr0 1000000 w am_c1238 = true := ⟨by decide +kernel, 1, by decide +kernel⟩
