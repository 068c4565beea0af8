/-! LAYER 2, contracts checked. -/
theorem am_q1080 : am_okC am_c1080 = true ∧ ∃ w, am_chk am_K0 am_cs0 am_dirs0 am_ids0 am_dsr0 1000000 w am_c1080 = true := ⟨by decide +kernel, 5, by decide +kernel⟩
theorem am_q1081 : am_okC am_c1081 = true ∧ ∃ w, am_chk am_K0 am_cs0 am_dirs0 am_ids0 am_dsr0 1000000 w am_c1081 = true := ⟨by decide +kernel, 5, by decide +kernel⟩
theorem am_q1082 : am_okC am_c1082 = true ∧ ∃ w, am_chk am_K0 am_cs0 am_dirs0 am_ids0 am_dsr0 1000000 w am_c1082 = true := ⟨by decide +kernel, 5, by decide +kernel⟩
theorem am_q1083 : am_okC am_c1083 = true ∧ ∃ w, am_chk am_K0 am_cs0 am_dirs0 am_ids0 am_dsr0 1000000 w am_c1083 = true := ⟨by decide +kernel, 5, by decide +kernel⟩
theorem am_q1084 : am_okC am_c1084 = true ∧ ∃ w, am_chk am_K0 am_cs0 am_dirs0 am_ids0 am_dsr0 1000000 w am_c1084 = true := ⟨by decide +kernel, 5, by decide +kernel⟩
theorem am_q1085 : am_okC am_c1085 = true ∧ ∃ w, am_chk am_K0 am_cs0 am_dirs0 am_ids0 am_dsr0 1000000 w am_c1085 = true := ⟨by decide +kernel, 5, by decide +kernel⟩
