/-! LAYER 2, contracts checked. -/
theorem am_q1105 : am_okC am_c1105 = true ∧ ∃ w, am_chk am_K0 am_cs0 am_dirs0 am_ids0 am_dsr0 1000000 w am_c1105 = true := ⟨by decide +kernel, 1, by decide +kernel⟩
theorem am_q1106 : am_okC am_c1106 = true ∧ ∃ w, am_chk am_K0 am_cs0 am_dirs0 am_ids0 am_dsr0 1000000 w am_c1106 = true := ⟨by decide +kernel, 1, by decide +kernel⟩
theorem am_q1107 : am_okC am_c1107 = true ∧ ∃ w, am_chk am_K0 am_cs0 am_dirs0 am_ids0 am_dsr0 1000000 w am_c1107 = true := ⟨by decide +kernel, 1, by decide +kernel⟩
theorem am_q1108 : am_okC am_c1108 = true ∧ ∃ w, am_chk am_K0 am_cs0 am_dirs0 am_ids0 am_dsr0 1000000 w am_c1108 = true := ⟨by decide +kernel, 1, by decide +kernel⟩
theorem am_q1109 : am_okC am_c1109 = true ∧ ∃ w, am_chk am_K0 am_cs0 am_dirs0 am_ids0 am_dsr0 1000000 w am_c1109 = true := ⟨by decide +kernel, 3, by decide +kernel⟩
theorem am_q1110 : am_okC am_c1110 = true ∧ ∃ w, am_chk am_K0 am_cs0 am_dirs0 am_ids0 am_dsr0 1000000 w am_c1110 = true := ⟨by decide +kernel, 1, by decide +kernel⟩
theorem am_q1111 : am_okC am_c1111 = true ∧ ∃ w, am_chk am_K0 am_cs0 am_dirs0 am_ids0 am_dsr0 1000000 w am_c1111 = true := ⟨by decide +kernel, 1, by decide +kernel⟩
theorem am_q1112 : am_okC am_c1112 = true ∧ ∃ w, am_chk am_K0 am_cs0 am_dirs0 am_ids0 am_dsr0 1000000 w am_c1112 = true := ⟨by decide +kernel, 1, by decide +kernel⟩
theorem am_q1113 : am_okC am_c1113 = true ∧ ∃ w, am_chk am_K0 am_cs0 am_dirs0 am_ids0 am_dsr0 1000000 w am_c1113 = true := ⟨by decide +kernel, 1, by decide +kernel⟩
theorem am_q1114 : am_okC am_c1114 = true ∧ ∃ w, am_chk am_K0 am_cs0 am_dirs0 am_ids0 am_dsr0 1000000 w am_c1114 = true := ⟨by decide +kernel, 1, by decide +kernel⟩
theorem am_q1115 : am_okC am_c1115 = true ∧ ∃ w, am_chk am_K0 am_cs0 am_dirs0 am_ids0 am_dsr0 1000000 w am_c1115 = true := ⟨by decide +kernel, 1, by decide +kernel⟩
theorem am_q1116 : am_okC am_c1116 = true ∧ ∃ w, am_chk am_K0 am_cs0 am_dirs0 am_ids0 am_dsr0 1000000 w am_c1116 = true := ⟨by decide +kernel, 1, by decide +kernel⟩
theorem am_q1117 : am_okC am_c1117 = true ∧ ∃ w, am_chk am_K0 am_cs0 am_dirs0 am_ids0 am_dsr0 1000000 w am_c1117 = true := ⟨by decide +kernel, 1, by decide +kernel⟩
theorem am_q1118 : am_okC am_c1118 = true ∧ ∃ w, am_chk am_K0 am_cs0 am_dirs0 am_ids0 am_dsr0 1000000 w am_c1118 = true := ⟨by decide +kernel, 1, by decide +kernel⟩
theorem am_q1119 : am_okC am_c1119 = true ∧ ∃ w, am_chk am_K0 am_cs0 am_dirs0 am_ids0 am_dsr0 1000000 w am_c1119 = true := ⟨by decide +kernel, 1, by decide +kernel⟩
theorem am_q1120 : am_okC am_c1120 = true ∧ ∃ w, am_chk am_K0 am_cs0 am_dirs0 am_ids0 am_dsr0 1000000 w am_c1120 = true := ⟨by decide +kernel, 1, by decide +kernel⟩
