/-! a first look -/
theorem am_q106 : am_okC am_c106 = true ∧ ∃ w, am_chk am_K0 am_cs0 am_dirs0 am_ids0 am_dsr0 1000000 w am_c106 = true := ⟨by decide +kernel, 3, by decide +kernel⟩
theorem am_q892 : am_okC am_c892 = true ∧ ∃ w, am_chk am_K0 am_cs0 am_dirs0 am_ids0 am_dsr0 1000000 w am_c892 = true := ⟨by decide +kernel, 5, by decide +kernel⟩
theorem am_q893 : am_okC am_c893 = true ∧ ∃ w, am_chk am_K0 am_cs0 am_dirs0 am_ids0 am_dsr0 1000000 w am_c893 = true := ⟨by decide +kernel, 5, by decide +kernel⟩
theorem am_q1092 : am_okC am_c1092 = true ∧ ∃ w, am_chk am_K0 am_cs0 am_dirs0 am_ids0 am_dsr0 1000000 w am_c1092 = true := ⟨by decide +kernel, 1, by decide +kernel⟩
theorem am_q941 : am_okC am_c941 = true ∧ ∃ w, am_chk am_K0 am_cs0 am_dirs0 am_ids0 am_dsr0 1000000 w am_c941 = true := ⟨by decide +kernel, 3, by decide +kernel⟩
theorem am_q62 : am_okC am_c62 = true ∧ ∃ w, am_chk am_K0 am_cs0 am_dirs0 am_ids0 am_dsr0 1000000 w am_c62 = true := ⟨by decide +kernel, 4, by decide +kernel⟩
theorem am_q752 : am_okC am_c752 = true ∧ ∃ w, am_chk am_K0 am_cs0 am_dirs0 am_ids0 am_dsr0 1000000 w am_c752 = true := ⟨by decide +kernel, 1, by decide +kernel⟩
theorem am_q425 : am_okC am_c425 = true ∧ ∃ w, am_chk am_K0 am_cs0 am_dirs0 am_ids0 am_dsr0 1000000 w am_c425 = true := ⟨by decide +kernel, 1, by decide +kernel⟩
theorem am_q809 : am_okC am_c809 = true ∧ ∃ w, am_chk am_K0 am_cs0 am_dirs0 am_ids0 am_dsr0 1000000 w am_c809 = true := ⟨by decide +kernel, 1, by decide +kernel⟩
theorem am_q1122 : am_okC am_c1122 = true ∧ ∃ w, am_chk am_K0 am_cs0 am_dirs0 am_ids0 am_dsr0 1000000 w am_c1122 = true := ⟨by decide +kernel, 1, by decide +kernel⟩
theorem am_q88 : am_okC am_c88 = true ∧ ∃ w, am_chk am_K0 am_cs0 am_dirs0 am_ids0 am_dsr0 1000000 w am_c88 = true := ⟨by decide +kernel, 3, by decide +kernel⟩
theorem am_q735 : am_okC am_c735 = true ∧ ∃ w, am_chk am_K0 am_cs0 am_dirs0 am_ids0 am_dsr0 1000000 w am_c735 = true := ⟨by decide +kernel, 1, by decide +kernel⟩
