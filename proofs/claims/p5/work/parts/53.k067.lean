/-! LAYER 2, contracts checked. -/
theorem am_q837 : am_okC am_c837 = true ∧ ∃ w, am_chk am_K0 am_cs0 am_dirs0 am_ids0 am_dsr0 1000000 w am_c837 = true := ⟨by decide +kernel, 1, by decide +kernel⟩
theorem am_q838 : am_okC am_c838 = true ∧ ∃ w, am_chk am_K0 am_cs0 am_dirs0 am_ids0 am_dsr0 1000000 w am_c838 = true := ⟨by decide +kernel, 1, by decide +kernel⟩
theorem am_q839 : am_okC am_c839 = true ∧ ∃ w, am_chk am_K0 am_cs0 am_dirs0 am_ids0 am_dsr0 1000000 w am_c839 = true := ⟨by decide +kernel, 1, by decide +kernel⟩
theorem am_q840 : am_okC am_c840 = true ∧ ∃ w, am_chk am_K0 am_cs0 am_dirs0 am_ids0 am_dsr0 1000000 w am_c840 = true := ⟨by decide +kernel, 1, by decide +kernel⟩
theorem am_q841 : am_okC am_c841 = true ∧ ∃ w, am_chk am_K0 am_cs0 am_dirs0 am_ids0 am_dsr0 1000000 w am_c841 = true := ⟨by decide +kernel, 1, by decide +kernel⟩
theorem am_q842 : am_okC am_c842 = true ∧ ∃ w, am_chk am_K0 am_cs0 am_dirs0 am_ids0 am_dsr0 1000000 w am_c842 = true := ⟨by decide +kernel, 1, by decide +kernel⟩
theorem am_q843 : am_okC am_c843 = true ∧ ∃ w, am_chk am_K0 am_cs0 am_dirs0 am_ids0 am_dsr0 1000000 w am_c843 = true := ⟨by decide +kernel, 1, by decide +kernel⟩
