/-! LAYER 2, contracts checked. -/
theorem am_q915 : am_okC am_c915 = true ∧ ∃ w, am_chk am_K0 am_cs0 am_dirs0 am_ids0 am_dsr0 1000000 w am_c915 = true := ⟨by decide +kernel, 1, by decide +kernel⟩
theorem am_q916 : am_okC am_c916 = true ∧ ∃ w, am_chk am_K0 am_cs0 am_dirs0 am_ids0 am_dsr0 1000000 w am_c916 = true := ⟨by decide +kernel, 1, by decide +kernel⟩
theorem am_q917 : am_okC am_c917 = true ∧ ∃ w, am_chk am_K0 am_cs0 am_dirs0 am_ids0 am_dsr0 1000000 w am_c917 = true := ⟨by decide +kernel, 1, by decide +kernel⟩
theorem am_q918 : am_okC am_c918 = true ∧ ∃ w, am_chk am_K0 am_cs0 am_dirs0 am_ids0 am_dsr0 1000000 w am_c918 = true := ⟨by decide +kernel, 1, by decide +kernel⟩
theorem am_q919 : am_okC am_c919 = true ∧ ∃ w, am_chk am_K0 am_cs0 am_dirs0 am_ids0 am_dsr0 1000000 w am_c919 = true := ⟨by decide +kernel, 1, by decide +kernel⟩
theorem am_q920 : am_okC am_c920 = true ∧ ∃ w, am_chk am_K0 am_cs0 am_dirs0 am_ids0 am_dsr0 1000000 w am_c920 = true := ⟨by decide +kernel, 1, by decide +kernel⟩
theorem am_q921 : am_okC am_c921 = true ∧ ∃ w, am_chk am_K0 am_cs0 am_dirs0 am_ids0 am_dsr0 1000000 w am_c921 = true := ⟨by decide +kernel, 1, by decide +kernel⟩
theorem am_q922 : am_okC am_c922 = true ∧ ∃ w, am_chk am_K0 am_cs0 am_dirs0 am_ids0 am_dsr0 1000000 w am_c922 = true := ⟨by decide +kernel, 1, by decide +kernel⟩
theorem am_q923 : am_okC am_c923 = true ∧ ∃ w, am_chk am_K0 am_cs0 am_dirs0 am_ids0 am_dsr0 1000000 w am_c923 = true := ⟨by decide +kernel, 1, by decide +kernel⟩
