/-! LAYER 2, contracts checked. -/
theorem am_q1119 : am_okC am_c1119 = true ∧ ∃ w, am_chk am_K0 am_cs0 am_dirs0 am_ids0 am_dsr0 1000000 w am_c1119 = true := ⟨by decide +kernel, 1, by decide +kernel⟩
theorem am_q1120 : am_okC am_c1120 = true ∧ ∃ w, am_chk am_K0 am_cs0 am_dirs0 am_ids0 am_dsr0 1000000 w am_c1120 = true := ⟨by decide +kernel, 1, by decide +kernel⟩
theorem am_q1121 : am_okC am_c1121 = true ∧ ∃ w, am_chk am_K0 am_cs0 am_dirs0 am_ids0 am_dsr0 1000000 w am_c1121 = true := ⟨by decide +kernel, 1, by decide +kernel⟩
theorem am_q1122 : am_okC am_c1122 = true ∧ ∃ w, am_chk am_K0 am_cs0 am_dirs0 am_ids0 am_dsr0 1000000 w am_c1122 = true := ⟨by decide +kernel, 1, by decide +kernel⟩
theorem am_q1123 : am_okC am_c1123 = true ∧ ∃ w, am_chk am_K0 am_cs0 am_dirs0 am_ids0 am_dsr0 1000000 w am_c1123 = true := ⟨by decide +kernel, 1, by decide +kernel⟩
theorem am_q1124 : am_okC am_c1124 = true ∧ ∃ w, am_chk am_K0 am_cs0 am_dirs0 am_ids0 am_dsr0 1000000 w am_c1124 = true := ⟨by decide +kernel, 1, by decide +kernel⟩
theorem am_q1125 : am_okC am_c1125 = true ∧ ∃ w, am_chk am_K0 am_cs0 am_dirs0 am_ids0 am_dsr0 1000000 w am_c1125 = true := ⟨by decide +kernel, 1, by decide +kernel⟩
theorem am_q1126 : am_okC am_c1126 = true ∧ ∃ w, am_chk am_K0 am_cs0 am_dirs0 am_ids0 am_dsr0 1000000 w am_c1126 = true := ⟨by decide +kernel, 1, by decide +kernel⟩
theorem am_q1127 : am_okC am_c1127 = true ∧ ∃ w, am_chk am_K0 am_cs0 am_dirs0 am_ids0 am_dsr0 1000000 w am_c1127 = true := ⟨by decide +kernel, 1, by decide +kernel⟩
theorem am_q1128 : am_okC am_c1128 = true ∧ ∃ w, am_chk am_K0 am_cs0 am_dirs0 am_ids0 am_dsr0 1000000 w am_c1128 = true := ⟨by decide +kernel, 1, by decide +kernel⟩
theorem am_q1129 : am_okC am_c1129 = true ∧ ∃ w, am_chk am_K0 am_cs0 am_dirs0 am_ids0 am_dsr0 1000000 w am_c1129 = true := ⟨by decide +kernel, 1, by decide +kernel⟩
theorem am_q1130 : am_okC am_c1130 = true ∧ ∃ w, am_chk am_K0 am_cs0 am_dirs0 am_ids0 am_dsr0 1000000 w am_c1130 = true := ⟨by decide +kernel, 1, by decide +kernel⟩
theorem am_q1131 : am_okC am_c1131 = true ∧ ∃ w, am_chk am_K0 am_cs0 am_dirs0 am_ids0 am_dsr0 1000000 w am_c1131 = true := ⟨by decide +kernel, 1, by decide +kernel⟩
theorem am_q1132 : am_okC am_c1132 = true ∧ ∃ w, am_chk am_K0 am_cs0 am_dirs0 am_ids0 am_dsr0 1000000 w am_c1132 = true := ⟨by decide +kernel, 3, by decide +kernel⟩
theorem am_q1133 : am_okC am_c1133 = true ∧ ∃ w, am_chk am_K0 am_cs0 am_dirs0 am_ids0 am_dsr0 1000000 w am_c1133 = true := ⟨by decide +kernel, 1, by decide +kernel⟩
theorem am_q1134 : am_okC am_c1134 = true ∧ ∃ w, am_chk am_K0 am_cs0 am_dirs0 am_ids0 am_dsr0 1000000 w am_c1134 = true := ⟨by decide +kernel, 1, by decide +kernel⟩
