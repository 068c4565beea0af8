/-! LAYER 2, contracts checked. -/
theorem am_q713 : am_okC am_c713 = true ∧ ∃ w, am_chk am_K0 am_cs0 am_dirs0 am_ids0 am_dsr0 1000000 w am_c713 = true := ⟨by decide +kernel, 1, by decide +kernel⟩
theorem am_q714 : am_okC am_c714 = true ∧ ∃ w, am_chk am_K0 am_cs0 am_dirs0 am_ids0 am_dsr0 1000000 w am_c714 = true := ⟨by decide +kernel, 1, by decide +kernel⟩
theorem am_q715 : am_okC am_c715 = true ∧ ∃ w, am_chk am_K0 am_cs0 am_dirs0 am_ids0 am_dsr0 1000000 w am_c715 = true := ⟨by decide +kernel, 1, by decide +kernel⟩
theorem am_q716 : am_okC am_c716 = true ∧ ∃ w, am_chk am_K0 am_cs0 am_dirs0 am_ids0 am_dsr0 1000000 w am_c716 = true := ⟨by decide +kernel, 1, by decide +kernel⟩
theorem am_q717 : am_okC am_c717 = true ∧ ∃ w, am_chk am_K0 am_cs0 am_dirs0 am_ids0 am_dsr0 1000000 w am_c717 = true := ⟨by decide +kernel, 1, by decide +kernel⟩
theorem am_q718 : am_okC am_c718 = true ∧ ∃ w, am_chk am_K0 am_cs0 am_dirs0 am_ids0 am_dsr0 1000000 w am_c718 = true := ⟨by decide +kernel, 1, by decide +kernel⟩
theorem am_q719 : am_okC am_c719 = true ∧ ∃ w, am_chk am_K0 am_cs0 am_dirs0 am_ids0 am_dsr0 1000000 w am_c719 = true := ⟨by decide +kernel, 1, by decide +kernel⟩
theorem am_q720 : am_okC am_c720 = true ∧ ∃ w, am_chk am_K0 am_cs0 am_dirs0 am_ids0 am_dsr0 1000000 w am_c720 = true := ⟨by decide +kernel, 1, by decide +kernel⟩
