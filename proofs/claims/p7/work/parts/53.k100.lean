/-! LAYER 2, contracts checked. -/
theorem am_q1135 : am_okC am_c1135 = true ∧ ∃ w, am_chk am_K0 am_cs0 am_dirs0 am_ids0 am_dsr0 1000000 w am_c1135 = true := ⟨by decide +kernel, 5, by decide +kernel⟩
theorem am_q1136 : am_okC am_c1136 = true ∧ ∃ w, am_chk am_K0 am_cs0 am_dirs0 am_ids0 am_dsr0 1000000 w am_c1136 = true := ⟨by decide +kernel, 5, by decide +kernel⟩
theorem am_q1137 : am_okC am_c1137 = true ∧ ∃ w, am_chk am_K0 am_cs0 am_dirs0 am_ids0 am_dsr0 1000000 w am_c1137 = true := ⟨by decide +kernel, 5, by decide +kernel⟩
theorem am_q1138 : am_okC am_c1138 = true ∧ ∃ w, am_chk am_K0 am_cs0 am_dirs0 am_ids0 am_dsr0 1000000 w am_c1138 = true := ⟨by decide +kernel, 5, by decide +kernel⟩
theorem am_q1139 : am_okC am_c1139 = true ∧ ∃ w, am_chk am_K0 am_cs0 am_dirs0 am_ids0 am_dsr0 1000000 w am_c1139 = true := ⟨by decide +kernel, 5, by decide +kernel⟩
theorem am_q1140 : am_okC am_c1140 = true ∧ ∃ w, am_chk am_K0 am_cs0 am_dirs0 am_ids0 am_dsr0 1000000 w am_c1140 = true := ⟨by decide +kernel, 1, by decide +kernel⟩
theorem am_q1141 : am_okC am_c1141 = true ∧ ∃ w, am_chk am_K0 am_cs0 am_dirs0 am_ids0 am_dsr0 1000000 w am_c1141 = true := ⟨by decide +kernel, 1, by decide +kernel⟩
theorem am_q1142 : am_okC am_c1142 = true ∧ ∃ w, am_chk am_K0 am_cs0 am_dirs0 am_ids0 am_dsr0 1000000 w am_c1142 = true := ⟨by decide +kernel, 1, by decide +kernel⟩
theorem am_q1143 : am_okC am_c1143 = true ∧ ∃ w, am_chk am_K0 am_cs0 am_dirs0 am_ids0 am_dsr0 1000000 w am_c1143 = true := ⟨by decide +kernel, 1, by decide +kernel⟩
theorem am_q1144 : am_okC am_c1144 = true ∧ ∃ w, am_chk am_K0 am_cs0 am_dirs0 am_ids0 am_dsr0 1000000 w am_c1144 = true := ⟨by decide +kernel, 1, by decide +kernel⟩
