/-! LAYER 2, contracts checked. -/
theorem am_q886 : am_okC am_c886 = true ∧ ∃ w, am_chk am_K0 am_cs0 am_dirs0 am_ids0 am_dsr0 1000000 w am_c886 = true := ⟨by decide +kernel, 1, by decide +kernel⟩
theorem am_q887 : am_okC am_c887 = true ∧ ∃ w, am_chk am_K0 am_cs0 am_dirs0 am_ids0 am_dsr0 1000000 w am_c887 = true := ⟨by decide +kernel, 1, by decide +kernel⟩
theorem am_q888 : am_okC am_c888 = true ∧ ∃ w, am_chk am_K0 am_cs0 am_dirs0 am_ids0 am_dsr0 1000000 w am_c888 = true := ⟨by decide +kernel, 1, by decide +kernel⟩
theorem am_q889 : am_okC am_c889 = true ∧ ∃ w, am_chk am_K0 am_cs0 am_dirs0 am_ids0 am_dsr0 1000000 w am_c889 = true := ⟨by decide +kernel, 1, by decide +kernel⟩
theorem am_q890 : am_okC am_c890 = true ∧ ∃ w, am_chk am_K0 am_cs0 am_dirs0 am_ids0 am_dsr0 1000000 w am_c890 = true := ⟨by decide +kernel, 1, by decide +kernel⟩
