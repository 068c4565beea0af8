/-! LAYER 2, contracts checked. -/
theorem am_q1148 : am_okC am_c1148 = true ∧ ∃ w, am_chk am_K0 am_cs0 am_dirs0 am_ids0 am_dsr0 1000000 w am_c1148 = true := ⟨by decide +kernel, 1, by decide +kernel⟩
theorem am_q1149 : am_okC am_c1149 = true ∧ ∃ w, am_chk am_K0 am_cs0 am_dirs0 am_ids0 am_dsr0 1000000 w am_c1149 = true := ⟨by decide +kernel, 1, by decide +kernel⟩
theorem am_q1150 : am_okC am_c1150 = true ∧ ∃ w, am_chk am_K0 am_cs0 am_dirs0 am_ids0 am_dsr0 1000000 w am_c1150 = true := ⟨by decide +kernel, 1, by decide +kernel⟩
theorem am_q1151 : am_okC am_c1151 = true ∧ ∃ w, am_chk am_K0 am_cs0 am_dirs0 am_ids0 am_dsr0 1000000 w am_c1151 = true := ⟨by decide +kernel, 1, by decide +kernel⟩
theorem am_q1152 : am_okC am_c1152 = true ∧ ∃ w, am_chk am_K0 am_cs0 am_dirs0 am_ids0 am_dsr0 1000000 w am_c1152 = true := ⟨by decide +kernel, 1, by decide +kernel⟩
theorem am_q1153 : am_okC am_c1153 = true ∧ ∃ w, am_chk am_K0 am_cs0 am_dirs0 am_ids0 am_dsr0 1000000 w am_c1153 = true := ⟨by decide +kernel, 1, by decide +kernel⟩
theorem am_q1154 : am_okC am_c1154 = true ∧ ∃ w, am_chk am_K0 am_cs0 am_dirs0 am_ids0 am_dsr0 1000000 w am_c1154 = true := ⟨by decide +kernel, 1, by decide +kernel⟩
theorem am_q1155 : am_okC am_c1155 = true ∧ ∃ w, am_chk am_K0 am_cs0 am_dirs0 am_ids0 am_dsr0 1000000 w am_c1155 = true := ⟨by decide +kernel, 1, by decide +kernel⟩
theorem am_q1156 : am_okC am_c1156 = true ∧ ∃ w, am_chk am_K0 am_cs0 am_dirs0 am_ids0 am_dsr0 1000000 w am_c1156 = true := ⟨by decide +kernel, 1, by decide +kernel⟩
theorem am_q1157 : am_okC am_c1157 = true ∧ ∃ w, am_chk am_K0 am_cs0 am_dirs0 am_ids0 am_dsr0 1000000 w am_c1157 = true := ⟨by decide +kernel, 1, by decide +kernel⟩
theorem am_q1158 : am_okC am_c1158 = true ∧ ∃ w, am_chk am_K0 am_cs0 am_dirs0 am_ids0 am_dsr0 1000000 w am_c1158 = true := ⟨by decide +kernel, 1, by decide +kernel⟩
theorem am_q1159 : am_okC am_c1159 = true ∧ ∃ w, am_chk am_K0 am_cs0 am_dirs0 am_ids0 am_dsr0 1000000 w am_c1159 = true := ⟨by decide +kernel, 1, by decide +kernel⟩
theorem am_q1160 : am_okC am_c1160 = true ∧ ∃ w, am_chk am_K0 am_cs0 am_dirs0 am_ids0 am_dsr0 1000000 w am_c1160 = true := ⟨by decide +kernel, 1, by decide +kernel⟩
theorem am_q1161 : am_okC am_c1161 = true ∧ ∃ w, am_chk am_K0 am_cs0 am_dirs0 am_ids0 am_dsr0 1000000 w am_c1161 = true := ⟨by decide +kernel, 1, by decide +kernel⟩
theorem am_q1162 : am_okC am_c1162 = true ∧ ∃ w, am_chk am_K0 am_cs0 am_dirs0 am_ids0 am_dsr0 1000000 w am_c1162 = true := ⟨by decide +kernel, 1, by decide +kernel⟩
theorem am_q1163 : am_okC am_c1163 = true ∧ ∃ w, am_chk am_K0 am_cs0 am_dirs0 am_ids0 am_dsr0 1000000 w am_c1163 = true := ⟨by decide +kernel, 1, by decide +kernel⟩
theorem am_q1164 : am_okC am_c1164 = true ∧ ∃ w, am_chk am_K0 am_cs0 am_dirs0 am_ids0 am_dsr0 1000000 w am_c1164 = true := ⟨by decide +kernel, 3, by decide +kernel⟩
