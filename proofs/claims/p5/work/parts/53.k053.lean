/-! LAYER 2, contracts checked. -/
theorem am_q721 : am_okC am_c721 = true ∧ ∃ w, am_chk am_K0 am_cs0 am_dirs0 am_ids0 am_dsr0 1000000 w am_c721 = true := ⟨by decide +kernel, 1, by decide +kernel⟩
theorem am_q722 : am_okC am_c722 = true ∧ ∃ w, am_chk am_K0 am_cs0 am_dirs0 am_ids0 am_dsr0 1000000 w am_c722 = true := ⟨by decide +kernel, 1, by decide +kernel⟩
theorem am_q723 : am_okC am_c723 = true ∧ ∃ w, am_chk am_K0 am_cs0 am_dirs0 am_ids0 am_dsr0 1000000 w am_c723 = true := ⟨by decide +kernel, 1, by decide +kernel⟩
theorem am_q724 : am_okC am_c724 = true ∧ ∃ w, am_chk am_K0 am_cs0 am_dirs0 am_ids0 am_dsr0 1000000 w am_c724 = true := ⟨by decide +kernel, 1, by decide +kernel⟩
theorem am_q725 : am_okC am_c725 = true ∧ ∃ w, am_chk am_K0 am_cs0 am_dirs0 am_ids0 am_dsr0 1000000 w am_c725 = true := ⟨by decide +kernel, 1, by decide +kernel⟩
theorem am_q726 : am_okC am_c726 = true ∧ ∃ w, am_chk am_K0 am_cs0 am_dirs0 am_ids0 am_dsr0 1000000 w am_c726 = true := ⟨by decide +kernel, 1, by decide +kernel⟩
theorem am_q727 : am_okC am_c727 = true ∧ ∃ w, am_chk am_K0 am_cs0 am_dirs0 am_ids0 am_dsr0 1000000 w am_c727 = true := ⟨by decide +kernel, 1, by decide +kernel⟩
theorem am_q728 : am_okC am_c728 = true ∧ ∃ w, am_chk am_K0 am_cs0 am_dirs0 am_ids0 am_dsr0 1000000 w am_c728 = true := ⟨by decide +kernel, 1, by decide +kernel⟩
theorem am_q729 : am_okC am_c729 = true ∧ ∃ w, am_chk am_K0 am_cs0 am_dirs0 am_ids0 am_dsr0 1000000 w am_c729 = true := ⟨by decide +kernel, 1, by decide +kernel⟩
theorem am_q730 : am_okC am_c730 = true ∧ ∃ w, am_chk am_K0 am_cs0 am_dirs0 am_ids0 am_dsr0 1000000 w am_c730 = true := ⟨by decide +kernel, 1, by decide +kernel⟩
theorem am_q731 : am_okC am_c731 = true ∧ ∃ w, am_chk am_K0 am_cs0 am_dirs0 am_ids0 am_dsr0 1000000 w am_c731 = true := ⟨by decide +kernel, 1, by decide +kernel⟩
theorem am_q732 : am_okC am_c732 = true ∧ ∃ w, am_chk am_K0 am_cs0 am_dirs0 am_ids0 am_dsr0 1000000 w am_c732 = true := ⟨by decide +kernel, 1, by decide +kernel⟩
theorem am_q733 : am_okC am_c733 = true ∧ ∃ w, am_chk am_K0 am_cs0 am_dirs0 am_ids0 am_dsr0 1000000 w am_c733 = true := ⟨by decide +kernel, 1, by decide +kernel⟩
