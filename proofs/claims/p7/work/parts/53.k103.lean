/-! LAYER 2, contracts checked. -/
theorem am_q1182 : am_okC am_c1182 = true ∧ ∃ w, am_chk am_K0 am_cs0 am_dirs0 am_ids0 am_dsr0 1000000 w am_c1182 = true := ⟨by decide +kernel, 1, by decide +kernel⟩
theorem am_q1183 : am_okC am_c1183 = true ∧ ∃ w, am_chk am_K0 am_cs0 am_dirs0 am_ids0 am_dsr0 1000000 w am_c1183 = true := ⟨by decide +kernel, 1, by decide +kernel⟩
theorem am_q1184 : am_okC am_c1184 = true ∧ ∃ w, am_chk am_K0 am_cs0 am_dirs0 am_ids0 am_dsr0 1000000 w am_c1184 = true := ⟨by decide +kernel, 1, by decide +kernel⟩
theorem am_q1185 : am_okC am_c1185 = true ∧ ∃ w, am_chk am_K0 am_cs0 am_dirs0 am_ids0 am_dsr0 1000000 w am_c1185 = true := ⟨by decide +kernel, 1, by decide +kernel⟩
theorem am_q1186 : am_okC am_c1186 = true ∧ ∃ w, am_chk am_K0 am_cs0 am_dirs0 am_ids0 am_dsr0 1000000 w am_c1186 = true := ⟨by decide +kernel, 1, by decide +kernel⟩
theorem am_q1187 : am_okC am_c1187 = true ∧ ∃ w, am_chk am_K0 am_cs0 am_dirs0 am_ids0 am_dsr0 1000000 w am_c1187 = true := ⟨by decide +kernel, 1, by decide +kernel⟩
theorem am_q1188 : am_okC am_c1188 = true ∧ ∃ w, am_chk am_K0 am_cs0 am_dirs0 am_ids0 am_dsr0 1000000 w am_c1188 = true := ⟨by decide +kernel, 1, by decide +kernel⟩
theorem am_q1189 : am_okC am_c1189 = true ∧ ∃ w, am_chk am_K0 am_cs0 am_dirs0 am_ids0 am_dsr0 1000000 w am_c1189 = true := ⟨by decide +kernel, 1, by decide +kernel⟩
theorem am_q1190 : am_okC am_c1190 = true ∧ ∃ w, am_chk am_K0 am_cs0 am_dirs0 am_ids0 am_dsr0 1000000 w am_c1190 = true := ⟨by decide +kernel, 1, by decide +kernel⟩
theorem am_q1191 : am_okC am_c1191 = true ∧ ∃ w, am_chk am_K0 am_cs0 am_dirs0 am_ids0 am_dsr0 1000000 w am_c1191 = true := ⟨by decide +kernel, 1, by decide +kernel⟩
theorem am_q1192 : am_okC am_c1192 = true ∧ ∃ w, am_chk am_K0 am_cs0 am_dirs0 am_ids0 am_dsr0 1000000 w am_c1192 = true := ⟨by decide +kernel, 1, by decide +kernel⟩
theorem am_q1193 : am_okC am_c1193 = true ∧ ∃ w, am_chk am_K0 am_cs0 am_dirs0 am_ids0 am_dsr0 1000000 w am_c1193 = true := ⟨by decide +kernel, 1, by decide +kernel⟩
theorem am_q1194 : am_okC am_c1194 = true ∧ ∃ w, am_chk am_K0 am_cs0 am_dirs0 am_ids0 am_dsr0 1000000 w am_c1194 = true := ⟨by decide +kernel, 1, by decide +kernel⟩
theorem am_q1195 : am_okC am_c1195 = true ∧ ∃ w, am_chk am_K0 am_cs0 am_dirs0 am_ids0 am_dsr0 1000000 w am_c1195 = true := ⟨by decide +kernel, 1, by decide +kernel⟩
theorem am_q1196 : am_okC am_c1196 = true ∧ ∃ w, am_chk am_K0 am_cs0 am_dirs0 am_ids0 am_dsr0 1000000 w am_c1196 = true := ⟨by decide +kernel, 1, by decide +kernel⟩
theorem am_q1197 : am_okC am_c1197 = true ∧ ∃ w, am_chk am_K0 am_cs0 am_dirs0 am_ids0 am_dsr0 1000000 w am_c1197 = true := ⟨by decide +kernel, 1, by decide +kernel⟩
theorem am_q1198 : am_okC am_c1198 = true ∧ ∃ w, am_chk am_K0 am_cs0 am_dirs0 am_ids0 am_dsr0 1000000 w am_c1198 = true := ⟨by decide +kernel, 1, by decide +kernel⟩
