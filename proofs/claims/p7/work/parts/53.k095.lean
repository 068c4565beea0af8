/-! LAYER 2, contracts checked. -/
theorem am_q1086 : am_okC am_c1086 = true ∧ ∃ w, am_chk am_K0 am_cs0 am_dirs0 am_ids0 am_dsr0 1000000 w am_c1086 = true := ⟨by decide +kernel, 5, by decide +kernel⟩
theorem am_q1087 : am_okC am_c1087 = true ∧ ∃ w, am_chk am_K0 am_cs0 am_dirs0 am_ids0 am_dsr0 1000000 w am_c1087 = true := ⟨by decide +kernel, 3, by decide +kernel⟩
theorem am_q1088 : am_okC am_c1088 = true ∧ ∃ w, am_chk am_K0 am_cs0 am_dirs0 am_ids0 am_dsr0 1000000 w am_c1088 = true := ⟨by decide +kernel, 3, by decide +kernel⟩
theorem am_q1089 : am_okC am_c1089 = true ∧ ∃ w, am_chk am_K0 am_cs0 am_dirs0 am_ids0 am_dsr0 1000000 w am_c1089 = true := ⟨by decide +kernel, 3, by decide +kernel⟩
theorem am_q1090 : am_okC am_c1090 = true ∧ ∃ w, am_chk am_K0 am_cs0 am_dirs0 am_ids0 am_dsr0 1000000 w am_c1090 = true := ⟨by decide +kernel, 3, by decide +kernel⟩
theorem am_q1091 : am_okC am_c1091 = true ∧ ∃ w, am_chk am_K0 am_cs0 am_dirs0 am_ids0 am_dsr0 1000000 w am_c1091 = true := ⟨by decide +kernel, 3, by decide +kernel⟩
theorem am_q1092 : am_okC am_c1092 = true ∧ ∃ w, am_chk am_K0 am_cs0 am_dirs0 am_ids0 am_dsr0 1000000 w am_c1092 = true := ⟨by decide +kernel, 1, by decide +kernel⟩
theorem am_q1093 : am_okC am_c1093 = true ∧ ∃ w, am_chk am_K0 am_cs0 am_dirs0 am_ids0 am_dsr0 1000000 w am_c1093 = true := ⟨by decide +kernel, 1, by decide +kernel⟩
theorem am_q1094 : am_okC am_c1094 = true ∧ ∃ w, am_chk am_K0 am_cs0 am_dirs0 am_ids0 am_dsr0 1000000 w am_c1094 = true := ⟨by decide +kernel, 1, by decide +kernel⟩
theorem am_q1095 : am_okC am_c1095 = true ∧ ∃ w, am_chk am_K0 am_cs0 am_dirs0 am_ids0 am_dsr0 1000000 w am_c1095 = true := ⟨by decide +kernel, 1, by decide +kernel⟩
theorem am_q1096 : am_okC am_c1096 = true ∧ ∃ w, am_chk am_K0 am_cs0 am_dirs0 am_ids0 am_dsr0 1000000 w am_c1096 = true := ⟨by decide +kernel, 1, by decide +kernel⟩
theorem am_q1097 : am_okC am_c1097 = true ∧ ∃ w, am_chk am_K0 am_cs0 am_dirs0 am_ids0 am_dsr0 1000000 w am_c1097 = true := ⟨by decide +kernel, 1, by decide +kernel⟩
theorem am_q1098 : am_okC am_c1098 = true ∧ ∃ w, am_chk am_K0 am_cs0 am_dirs0 am_ids0 am_dsr0 1000000 w am_c1098 = true := ⟨by decide +kernel, 1, by decide +kernel⟩
theorem am_q1099 : am_okC am_c1099 = true ∧ ∃ w, am_chk am_K0 am_cs0 am_dirs0 am_ids0 am_dsr0 1000000 w am_c1099 = true := ⟨by decide +kernel, 1, by decide +kernel⟩
theorem am_q1100 : am_okC am_c1100 = true ∧ ∃ w, am_chk am_K0 am_cs0 am_dirs0 am_ids0 am_dsr0 1000000 w am_c1100 = true := ⟨by decide +kernel, 1, by decide +kernel⟩
theorem am_q1101 : am_okC am_c1101 = true ∧ ∃ w, am_chk am_K0 am_cs0 am_dirs0 am_ids0 am_dsr0 1000000 w am_c1101 = true := ⟨by decide +kernel, 1, by decide +kernel⟩
