/-! LAYER 2, contracts checked. -/
theorem am_q727 : am_okC am_c727 = true ∧ ∃ w, am_chk am_K0 am_cs0 am_dirs0 am_ids0 am_dsr0 1000000 w am_c727 = true := ⟨by decide +kernel, 1, by decide +kernel⟩
theorem am_q728 : am_okC am_c728 = true ∧ ∃ w, am_chk am_K0 am_cs0 am_dirs0 am_ids0 am_dsr0 1000000 w am_c728 = true := ⟨by decide +kernel, 1, by decide +kernel⟩
theorem am_q729 : am_okC am_c729 = true ∧ ∃ w, am_chk am_K0 am_cs0 am_dirs0 am_ids0 am_dsr0 1000000 w am_c729 = true := ⟨by decide +kernel, 1, by decide +kernel⟩
theorem am_q730 : am_okC am_c730 = true ∧ ∃ w, am_chk am_K0 am_cs0 am_dirs0 am_ids0 am_dsr0 1000000 w am_c730 = true := ⟨by decide +kernel, 1, by decide +kernel⟩
theorem am_q731 : am_okC am_c731 = true ∧ ∃ w, am_chk am_K0 am_cs0 am_dirs0 am_ids0 am_dsr0 1000000 w am_c731 = true := ⟨by decide +kernel, 1, by decide +kernel⟩
theorem am_q732 : am_okC am_c732 = true ∧ ∃ w, am_chk am_K0 am_cs0 am_dirs0 am_ids0 am_dsr0 1000000 w am_c732 = true := ⟨by decide +kernel, 1, by decide +kernel⟩
theorem am_q733 : am_okC am_c733 = true ∧ ∃ w, am_chk am_K0 am_cs0 am_dirs0 am_ids0 am_dsr0 1000000 w am_c733 = true := ⟨by decide +kernel, 1, by decide +kernel⟩
theorem am_q734 : am_okC am_c734 = true ∧ ∃ w, am_chk am_K0 am_cs0 am_dirs0 am_ids0 am_dsr0 1000000 w am_c734 = true := ⟨by decide +kernel, 1, by decide +kernel⟩
theorem am_q735 : am_okC am_c735 = true ∧ ∃ w, am_chk am_K0 am_cs0 am_dirs0 am_ids0 am_dsr0 1000000 w am_c735 = true := ⟨by decide +kernel, 1, by decide +kernel⟩
theorem am_q736 : am_okC am_c736 = true ∧ ∃ w, am_chk am_K0 am_cs0 am_dirs0 am_ids0 am_dsr0 1000000 w am_c736 = true := ⟨by decide +kernel, 1, by decide +kernel⟩
theorem am_q737 : am_okC am_c737 = true ∧ ∃ w, am_chk am_K0 am_cs0 am_dirs0 am_ids0 am_dsr0 1000000 w am_c737 = true := ⟨by decide +kernel, 1, by decide +kernel⟩
theorem am_q738 : am_okC am_c738 = true ∧ ∃ w, am_chk am_K0 am_cs0 am_dirs0 am_ids0 am_dsr0 1000000 w am_c738 = true := ⟨by decide +kernel, 1, by decide +kernel⟩
