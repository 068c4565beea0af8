/-! LAYER 2, contracts checked. -/
theorem am_q1114 : am_okC am_c1114 = true ∧ ∃ w, am_chk am_K0 am_cs0 am_dirs0 am_ids0 am_dsr0 1000000 w am_c1114 = true := ⟨by decide +kernel, 5, by decide +kernel⟩
theorem am_q1115 : am_okC am_c1115 = true ∧ ∃ w, am_chk am_K0 am_cs0 am_dirs0 am_ids0 am_dsr0 1000000 w am_c1115 = true := ⟨by decide +kernel, 5, by decide +kernel⟩
theorem am_q1116 : am_okC am_c1116 = true ∧ ∃ w, am_chk am_K0 am_cs0 am_dirs0 am_ids0 am_dsr0 1000000 w am_c1116 = true := ⟨by decide +kernel, 5, by decide +kernel⟩
theorem am_q1117 : am_okC am_c1117 = true ∧ ∃ w, am_chk am_K0 am_cs0 am_dirs0 am_ids0 am_dsr0 1000000 w am_c1117 = true := ⟨by decide +kernel, 5, by decide +kernel⟩
theorem am_q1118 : am_okC am_c1118 = true ∧ ∃ w, am_chk am_K0 am_cs0 am_dirs0 am_ids0 am_dsr0 1000000 w am_c1118 = true := ⟨by decide +kernel, 5, by decide +kernel⟩
theorem am_q1119 : am_okC am_c1119 = true ∧ ∃ w, am_chk am_K0 am_cs0 am_dirs0 am_ids0 am_dsr0 1000000 w am_c1119 = true := ⟨by decide +kernel, 5, by decide +kernel⟩
theorem am_q1120 : am_okC am_c1120 = true ∧ ∃ w, am_chk am_K0 am_cs0 am_dirs0 am_ids0 am_dsr0 1000000 w am_c1120 = true := ⟨by decide +kernel, 5, by decide +kernel⟩
