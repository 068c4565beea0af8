/-! LAYER 2, contracts checked. -/
theorem am_q600 : am_okC am_c600 = true ∧ ∃ w, am_chk am_K0 am_cs0 am_dirs0 am_ids0 am_dsr0 1000000 w am_c600 = true := ⟨by decide +kernel, 1, by decide +kernel⟩
theorem am_q601 : am_okC am_c601 = true ∧ ∃ w, am_chk am_K0 am_cs0 am_dirs0 am_ids0 am_dsr0 1000000 w am_c601 = true := ⟨by decide +kernel, 1, by decide +kernel⟩
theorem am_q602 : am_okC am_c602 = true ∧ ∃ w, am_chk am_K0 am_cs0 am_dirs0 am_ids0 am_dsr0 1000000 w am_c602 = true := ⟨by decide +kernel, 1, by decide +kernel⟩
theorem am_q603 : am_okC am_c603 = true ∧ ∃ w, am_chk am_K0 am_cs0 am_dirs0 am_ids0 am_dsr0 1000000 w am_c603 = true := ⟨by decide +kernel, 1, by decide +kernel⟩
theorem am_q604 : am_okC am_c604 = true ∧ ∃ w, am_chk am_K0 am_cs0 am_dirs0 am_ids0 am_dsr0 1000000 w am_c604 = true := ⟨by decide +kernel, 1, by decide +kernel⟩
theorem am_q605 : am_okC am_c605 = true ∧ ∃ w, am_chk am_K0 am_cs0 am_dirs0 am_ids0 am_dsr0 1000000 w am_c605 = true := ⟨by decide +kernel, 1, by decide +kernel⟩
theorem am_q606 : am_okC am_c606 = true ∧ ∃ w, am_chk am_K0 am_cs0 am_dirs0 am_ids0 am_dsr0 1000000 w am_c606 = true := ⟨by decide +kernel, 1, by decide +kernel⟩
theorem am_q607 : am_okC am_c607 = true ∧ ∃ w, am_chk am_K0 am_cs0 am_dirs0 am_ids0 am_dsr0 1000000 w am_c607 = true := ⟨by decide +kernel, 1, by decide +kernel⟩
theorem am_q608 : am_okC am_c608 = true ∧ ∃ w, am_chk am_K0 am_cs0 am_dirs0 am_ids0 am_dsr0 1000000 w am_c608 = true := ⟨by decide +kernel, 1, by decide +kernel⟩
theorem am_q609 : am_okC am_c609 = true ∧ ∃ w, am_chk am_K0 am_cs0 am_dirs0 am_ids0 am_dsr0 1000000 w am_c609 = true := ⟨by decide +kernel, 1, by decide +kernel⟩
theorem am_q610 : am_okC am_c610 = true ∧ ∃ w, am_chk am_K0 am_cs0 am_dirs0 am_ids0 am_dsr0 1000000 w am_c610 = true := ⟨by decide +kernel, 1, by decide +kernel⟩
theorem am_q611 : am_okC am_c611 = true ∧ ∃ w, am_chk am_K0 am_cs0 am_dirs0 am_ids0 am_dsr0 1000000 w am_c611 = true := ⟨by decide +kernel, 1, by decide +kernel⟩
theorem am_q612 : am_okC am_c612 = true ∧ ∃ w, am_chk am_K0 am_cs0 am_dirs0 am_ids0 am_dsr0 1000000 w am_c612 = true := ⟨by decide +kernel, 1, by decide +kernel⟩
theorem am_q613 : am_okC am_c613 = true ∧ ∃ w, am_chk am_K0 am_cs0 am_dirs0 am_ids0 am_dsr0 1000000 w am_c613 = true := ⟨by decide +kernel, 1, by decide +kernel⟩
theorem am_q614 : am_okC am_c614 = true ∧ ∃ w, am_chk am_K0 am_cs0 am_dirs0 am_ids0 am_dsr0 1000000 w am_c614 = true := ⟨by decide +kernel, 1, by decide +kernel⟩
theorem am_q615 : am_okC am_c615 = true ∧ ∃ w, am_chk am_K0 am_cs0 am_dirs0 am_ids0 am_dsr0 1000000 w am_c615 = true := ⟨by decide +kernel, 1, by decide +kernel⟩
theorem am_q616 : am_okC am_c616 = true ∧ ∃ w, am_chk am_K0 am_cs0 am_dirs0 am_ids0 am_dsr0 1000000 w am_c616 = true := ⟨by decide +kernel, 1, by decide +kernel⟩
