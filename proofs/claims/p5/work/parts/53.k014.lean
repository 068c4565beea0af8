/-! LAYER 2, contracts checked. -/
theorem am_q107 : am_okC am_c107 = true ∧ ∃ w, am_chk am_K0 am_cs0 am_dirs0 am_ids0 am_dsr0 1000000 w am_c107 = true := ⟨by decide +kernel, 3, by decide +kernel⟩
theorem am_q108 : am_okC am_c108 = true ∧ ∃ w, am_chk am_K0 am_cs0 am_dirs0 am_ids0 am_dsr0 1000000 w am_c108 = true := ⟨by decide +kernel, 3, by decide +kernel⟩
theorem am_q109 : am_okC am_c109 = true ∧ ∃ w, am_chk am_K0 am_cs0 am_dirs0 am_ids0 am_dsr0 1000000 w am_c109 = true := ⟨by decide +kernel, 1, by decide +kernel⟩
theorem am_q110 : am_okC am_c110 = true ∧ ∃ w, am_chk am_K0 am_cs0 am_dirs0 am_ids0 am_dsr0 1000000 w am_c110 = true := ⟨by decide +kernel, 1, by decide +kernel⟩
theorem am_q111 : am_okC am_c111 = true ∧ ∃ w, am_chk am_K0 am_cs0 am_dirs0 am_ids0 am_dsr0 1000000 w am_c111 = true := ⟨by decide +kernel, 1, by decide +kernel⟩
theorem am_q112 : am_okC am_c112 = true ∧ ∃ w, am_chk am_K0 am_cs0 am_dirs0 am_ids0 am_dsr0 1000000 w am_c112 = true := ⟨by decide +kernel, 1, by decide +kernel⟩
theorem am_q113 : am_okC am_c113 = true ∧ ∃ w, am_chk am_K0 am_cs0 am_dirs0 am_ids0 am_dsr0 1000000 w am_c113 = true := ⟨by decide +kernel, 1, by decide +kernel⟩
theorem am_q114 : am_okC am_c114 = true ∧ ∃ w, am_chk am_K0 am_cs0 am_dirs0 am_ids0 am_dsr0 1000000 w am_c114 = true := ⟨by decide +kernel, 1, by decide +kernel⟩
