/-! LAYER 2, contracts checked. -/
theorem am_q813 : am_okC am_c813 = true ∧ ∃ w, am_chk am_K0 am_cs0 am_dirs0 am_ids0 am_dsr0 1000000 w am_c813 = true := ⟨by decide +kernel, 1, by decide +kernel⟩
theorem am_q814 : am_okC am_c814 = true ∧ ∃ w, am_chk am_K0 am_cs0 am_dirs0 am_ids0 am_dsr0 1000000 w am_c814 = true := ⟨by decide +kernel, 1, by decide +kernel⟩
theorem am_q815 : am_okC am_c815 = true ∧ ∃ w, am_chk am_K0 am_cs0 am_dirs0 am_ids0 am_dsr0 1000000 w am_c815 = true := ⟨by decide +kernel, 1, by decide +kernel⟩
theorem am_q816 : am_okC am_c816 = true ∧ ∃ w, am_chk am_K0 am_cs0 am_dirs0 am_ids0 am_dsr0 1000000 w am_c816 = true := ⟨by decide +kernel, 1, by decide +kernel⟩
theorem am_q817 : am_okC am_c817 = true ∧ ∃ w, am_chk am_K0 am_cs0 am_dirs0 am_ids0 am_dsr0 1000000 w am_c817 = true := ⟨by decide +kernel, 1, by decide +kernel⟩
theorem am_q818 : am_okC am_c818 = true ∧ ∃ w, am_chk am_K0 am_cs0 am_dirs0 am_ids0 am_dsr0 1000000 w am_c818 = true := ⟨by decide +kernel, 1, by decide +kernel⟩
theorem am_q819 : am_okC am_c819 = true ∧ ∃ w, am_chk am_K0 am_cs0 am_dirs0 am_ids0 am_dsr0 1000000 w am_c819 = true := ⟨by decide +kernel, 1, by decide +kernel⟩
