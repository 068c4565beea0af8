/-! LAYER 2, contracts checked. -/
theorem am_q791 : am_okC am_c791 = true ∧ ∃ w, am_chk am_K0 am_cs0 am_dirs0 am_ids0 am_dsr0 1000000 w am_c791 = true := ⟨by decide +kernel, 1, by decide +kernel⟩
theorem am_q792 : am_okC am_c792 = true ∧ ∃ w, am_chk am_K0 am_cs0 am_dirs0 am_ids0 am_dsr0 1000000 w am_c792 = true := ⟨by decide +kernel, 1, by decide +kernel⟩
theorem am_q793 : am_okC am_c793 = true ∧ ∃ w, am_chk am_K0 am_cs0 am_dirs0 am_ids0 am_dsr0 1000000 w am_c793 = true := ⟨by decide +kernel, 1, by decide +kernel⟩
theorem am_q794 : am_okC am_c794 = true ∧ ∃ w, am_chk am_K0 am_cs0 am_dirs0 am_ids0 am_dsr0 1000000 w am_c794 = true := ⟨by decide +kernel, 1, by decide +kernel⟩
theorem am_q795 : am_okC am_c795 = true ∧ ∃ w, am_chk am_K0 am_cs0 am_dirs0 am_ids0 am_dsr0 1000000 w am_c795 = true := ⟨by decide +kernel, 1, by decide +kernel⟩
theorem am_q796 : am_okC am_c796 = true ∧ ∃ w, am_chk am_K0 am_cs0 am_dirs0 am_ids0 am_dsr0 1000000 w am_c796 = true := ⟨by decide +kernel, 1, by decide +kernel⟩
theorem am_q797 : am_okC am_c797 = true ∧ ∃ w, am_chk am_K0 am_cs0 am_dirs0 am_ids0 am_dsr0 1000000 w am_c797 = true := ⟨by decide +kernel, 1, by decide +kernel⟩
theorem am_q798 : am_okC am_c798 = true ∧ ∃ w, am_chk am_K0 am_cs0 am_dirs0 am_ids0 am_dsr0 1000000 w am_c798 = true := ⟨by decide +kernel, 1, by decide +kernel⟩
theorem am_q799 : am_okC am_c799 = true ∧ ∃ w, am_chk am_K0 am_cs0 am_dirs0 am_ids0 am_dsr0 1000000 w am_c799 = true := ⟨by decide +kernel, 1, by decide +kernel⟩
