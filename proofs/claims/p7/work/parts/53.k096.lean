/-! LAYER 2, contracts checked. -/
theorem am_q1102 : am_okC am_c1102 = true ∧ ∃ w, am_chk am_K0 am_cs0 am_dirs0 am_ids0 am_dsr0 1000000 w am_c1102 = true := ⟨by decide +kernel, 1, by decide +kernel⟩
theorem am_q1103 : am_okC am_c1103 = true ∧ ∃ w, am_chk am_K0 am_cs0 am_dirs0 am_ids0 am_dsr0 1000000 w am_c1103 = true := ⟨by decide +kernel, 1, by decide +kernel⟩
theorem am_q1104 : am_okC am_c1104 = true ∧ ∃ w, am_chk am_K0 am_cs0 am_dirs0 am_ids0 am_dsr0 1000000 w am_c1104 = true := ⟨by decide +kernel, 1, by decide +kernel⟩
theorem am_q1105 : am_okC am_c1105 = true ∧ ∃ w, am_chk am_K0 am_cs0 am_dirs0 am_ids0 am_dsr0 1000000 w am_c1105 = true := ⟨by decide +kernel, 1, by decide +kernel⟩
theorem am_q1106 : am_okC am_c1106 = true ∧ ∃ w, am_chk am_K0 am_cs0 am_dirs0 am_ids0 am_dsr0 1000000 w am_c1106 = true := ⟨by decide +kernel, 1, by decide +kernel⟩
theorem am_q1107 : am_okC am_c1107 = true ∧ ∃ w, am_chk am_K0 am_cs0 am_dirs0 am_ids0 am_dsr0 1000000 w am_c1107 = true := ⟨by decide +kernel, 1, by decide +kernel⟩
theorem am_q1108 : am_okC am_c1108 = true ∧ ∃ w, am_chk am_K0 am_cs0 am_dirs0 am_ids0 am_dsr0 1000000 w am_c1108 = true := ⟨by decide +kernel, 1, by decide +kernel⟩
theorem am_q1109 : am_okC am_c1109 = true ∧ ∃ w, am_chk am_K0 am_cs0 am_dirs0 am_ids0 am_dsr0 1000000 w am_c1109 = true := ⟨by decide +kernel, 1, by decide +kernel⟩
theorem am_q1110 : am_okC am_c1110 = true ∧ ∃ w, am_chk am_K0 am_cs0 am_dirs0 am_ids0 am_dsr0 1000000 w am_c1110 = true := ⟨by decide +kernel, 1, by decide +kernel⟩
theorem am_q1111 : am_okC am_c1111 = true ∧ ∃ w, am_chk am_K0 am_cs0 am_dirs0 am_ids0 am_dsr0 1000000 w am_c1111 = true := ⟨by decide +kernel, 1, by decide +kernel⟩
theorem am_q1112 : am_okC am_c1112 = true ∧ ∃ w, am_chk am_K0 am_cs0 am_dirs0 am_ids0 am_dsr0 1000000 w am_c1112 = true := ⟨by decide +kernel, 5, by decide +kernel⟩
theorem am_q1113 : am_okC am_c1113 = true ∧ ∃ w, am_chk am_K0 am_cs0 am_dirs0 am_ids0 am_dsr0 1000000 w am_c1113 = true := ⟨by decide +kernel, 5, by decide +kernel⟩
