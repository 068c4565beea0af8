/-! LAYER 2, contracts checked. -/
theorem am_q750 : am_okC am_c750 = true ∧ ∃ w, am_chk am_K0 am_cs0 am_dirs0 am_ids0 am_dsr0 1000000 w am_c750 = true := ⟨by decide +kernel, 1, by decide +kernel⟩
theorem am_q751 : am_okC am_c751 = true ∧ ∃ w, am_chk am_K0 am_cs0 am_dirs0 am_ids0 am_dsr0 1000000 w am_c751 = true := ⟨by decide +kernel, 1, by decide +kernel⟩
theorem am_q752 : am_okC am_c752 = true ∧ ∃ w, am_chk am_K0 am_cs0 am_dirs0 am_ids0 am_dsr0 1000000 w am_c752 = true := ⟨by decide +kernel, 1, by decide +kernel⟩
theorem am_q753 : am_okC am_c753 = true ∧ ∃ w, am_chk am_K0 am_cs0 am_dirs0 am_ids0 am_dsr0 1000000 w am_c753 = true := ⟨by decide +kernel, 1, by decide +kernel⟩
theorem am_q754 : am_okC am_c754 = true ∧ ∃ w, am_chk am_K0 am_cs0 am_dirs0 am_ids0 am_dsr0 1000000 w am_c754 = true := ⟨by decide +kernel, 1, by decide +kernel⟩
theorem am_q755 : am_okC am_c755 = true ∧ ∃ w, am_chk am_K0 am_cs0 am_dirs0 am_ids0 am_dsr0 1000000 w am_c755 = true := ⟨by decide +kernel, 1, by decide +kernel⟩
theorem am_q756 : am_okC am_c756 = true ∧ ∃ w, am_chk am_K0 am_cs0 am_dirs0 am_ids0 am_dsr0 1000000 w am_c756 = true := ⟨by decide +kernel, 1, by decide +kernel⟩
theorem am_q757 : am_okC am_c757 = true ∧ ∃ w, am_chk am_K0 am_cs0 am_dirs0 am_ids0 am_dsr0 1000000 w am_c757 = true := ⟨by decide +kernel, 1, by decide +kernel⟩
