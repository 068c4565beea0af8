/-! LAYER 2, contracts checked. -/
theorem am_q839 : am_okC am_c839 = true ∧ ∃ w, am_chk am_K0 am_cs0 am_dirs0 am_ids0 am_dsr0 1000000 w am_c839 = true := ⟨by decide +kernel, 1, by decide +kernel⟩
theorem am_q840 : am_okC am_c840 = true ∧ ∃ w, am_chk am_K0 am_cs0 am_dirs0 am_ids0 am_dsr0 1000000 w am_c840 = true := ⟨by decide +kernel, 1, by decide +kernel⟩
theorem am_q841 : am_okC am_c841 = true ∧ ∃ w, am_chk am_K0 am_cs0 am_dirs0 am_ids0 am_dsr0 1000000 w am_c841 = true := ⟨by decide +kernel, 1, by decide +kernel⟩
theorem am_q842 : am_okC am_c842 = true ∧ ∃ w, am_chk am_K0 am_cs0 am_dirs0 am_ids0 am_dsr0 1000000 w am_c842 = true := ⟨by decide +kernel, 1, by decide +kernel⟩
theorem am_q843 : am_okC am_c843 = true ∧ ∃ w, am_chk am_K0 am_cs0 am_dirs0 am_ids0 am_dsr0 1000000 w am_c843 = true := ⟨by decide +kernel, 1, by decide +kernel⟩
theorem am_q844 : am_okC am_c844 = true ∧ ∃ w, am_chk am_K0 am_cs0 am_dirs0 am_ids0 am_dsr0 1000000 w am_c844 = true := ⟨by decide +kernel, 1, by decide +kernel⟩
theorem am_q845 : am_okC am_c845 = true ∧ ∃ w, am_chk am_K0 am_cs0 am_dirs0 am_ids0 am_dsr0 1000000 w am_c845 = true := ⟨by decide +kernel, 1, by decide +kernel⟩
theorem am_q846 : am_okC am_c846 = true ∧ ∃ w, am_chk am_K0 am_cs0 am_dirs0 am_ids0 am_dsr0 1000000 w am_c846 = true := ⟨by decide +kernel, 1, by decide +kernel⟩
theorem am_q847 : am_okC am_c847 = true ∧ ∃ w, am_chk am_K0 am_cs0 am_dirs0 am_ids0 am_dsr0 1000000 w am_c847 = true := ⟨by decide +kernel, 1, by decide +kernel⟩
