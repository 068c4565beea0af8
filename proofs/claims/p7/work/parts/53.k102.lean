/-! LAYER 2, contracts checked. -/
theorem am_q1165 : am_okC am_c1165 = true ∧ ∃ w, am_chk am_K0 am_cs0 am_dirs0 am_ids0 am_dsr0 1000000 w am_c1165 = true := ⟨by decide +kernel, 1, by decide +kernel⟩
theorem am_q1166 : am_okC am_c1166 = true ∧ ∃ w, am_chk am_K0 am_cs0 am_dirs0 am_ids0 am_dsr0 1000000 w am_c1166 = true := ⟨by decide +kernel, 1, by decide +kernel⟩
theorem am_q1167 : am_okC am_c1167 = true ∧ ∃ w, am_chk am_K0 am_cs0 am_dirs0 am_ids0 am_dsr0 1000000 w am_c1167 = true := ⟨by decide +kernel, 1, by decide +kernel⟩
theorem am_q1168 : am_okC am_c1168 = true ∧ ∃ w, am_chk am_K0 am_cs0 am_dirs0 am_ids0 am_dsr0 1000000 w am_c1168 = true := ⟨by decide +kernel, 1, by decide +kernel⟩
theorem am_q1169 : am_okC am_c1169 = true ∧ ∃ w, am_chk am_K0 am_cs0 am_dirs0 am_ids0 am_dsr0 1000000 w am_c1169 = true := ⟨by decide +kernel, 1, by decide +kernel⟩
theorem am_q1170 : am_okC am_c1170 = true ∧ ∃ w, am_chk am_K0 am_cs0 am_dirs0 am_ids0 am_dsr0 1000000 w am_c1170 = true := ⟨by decide +kernel, 1, by decide +kernel⟩
theorem am_q1171 : am_okC am_c1171 = true ∧ ∃ w, am_chk am_K0 am_cs0 am_dirs0 am_ids0 am_dsr0 1000000 w am_c1171 = true := ⟨by decide +kernel, 1, by decide +kernel⟩
theorem am_q1172 : am_okC am_c1172 = true ∧ ∃ w, am_chk am_K0 am_cs0 am_dirs0 am_ids0 am_dsr0 1000000 w am_c1172 = true := ⟨by decide +kernel, 1, by decide +kernel⟩
theorem am_q1173 : am_okC am_c1173 = true ∧ ∃ w, am_chk am_K0 am_cs0 am_dirs0 am_ids0 am_dsr0 1000000 w am_c1173 = true := ⟨by decide +kernel, 1, by decide +kernel⟩
theorem am_q1174 : am_okC am_c1174 = true ∧ ∃ w, am_chk am_K0 am_cs0 am_dirs0 am_ids0 am_dsr0 1000000 w am_c1174 = true := ⟨by decide +kernel, 1, by decide +kernel⟩
theorem am_q1175 : am_okC am_c1175 = true ∧ ∃ w, am_chk am_K0 am_cs0 am_dirs0 am_ids0 am_dsr0 1000000 w am_c1175 = true := ⟨by decide +kernel, 1, by decide +kernel⟩
theorem am_q1176 : am_okC am_c1176 = true ∧ ∃ w, am_chk am_K0 am_cs0 am_dirs0 am_ids0 am_dsr0 1000000 w am_c1176 = true := ⟨by decide +kernel, 1, by decide +kernel⟩
theorem am_q1177 : am_okC am_c1177 = true ∧ ∃ w, am_chk am_K0 am_cs0 am_dirs0 am_ids0 am_dsr0 1000000 w am_c1177 = true := ⟨by decide +kernel, 1, by decide +kernel⟩
theorem am_q1178 : am_okC am_c1178 = true ∧ ∃ w, am_chk am_K0 am_cs0 am_dirs0 am_ids0 am_dsr0 1000000 w am_c1178 = true := ⟨by decide +kernel, 1, by decide +kernel⟩
theorem am_q1179 : am_okC am_c1179 = true ∧ ∃ w, am_chk am_K0 am_cs0 am_dirs0 am_ids0 am_dsr0 1000000 w am_c1179 = true := ⟨by decide +kernel, 1, by decide +kernel⟩
theorem am_q1180 : am_okC am_c1180 = true ∧ ∃ w, am_chk am_K0 am_cs0 am_dirs0 am_ids0 am_dsr0 1000000 w am_c1180 = true := ⟨by decide +kernel, 1, by decide +kernel⟩
theorem am_q1181 : am_okC am_c1181 = true ∧ ∃ w, am_chk am_K0 am_cs0 am_dirs0 am_ids0 am_dsr0 1000000 w am_c1181 = true := ⟨by decide +kernel, 1, by decide +kernel⟩
