/-! LAYER 2, contracts checked. -/
theorem am_q593 : am_okC am_c593 = true ∧ ∃ w, am_chk am_K0 am_cs0 am_dirs0 am_ids0 am_dsr0 1000000 w am_c593 = true := ⟨by decide +kernel, 1, by decide +kernel⟩
theorem am_q594 : am_okC am_c594 = true ∧ ∃ w, am_chk am_K0 am_cs0 am_dirs0 am_ids0 am_dsr0 1000000 w am_c594 = true := ⟨by decide +kernel, 1, by decide +kernel⟩
theorem am_q595 : am_okC am_c595 = true ∧ ∃ w, am_chk am_K0 am_cs0 am_dirs0 am_ids0 am_dsr0 1000000 w am_c595 = true := ⟨by decide +kernel, 1, by decide +kernel⟩
theorem am_q596 : am_okC am_c596 = true ∧ ∃ w, am_chk am_K0 am_cs0 am_dirs0 am_ids0 am_dsr0 1000000 w am_c596 = true := ⟨by decide +kernel, 1, by decide +kernel⟩
theorem am_q597 : am_okC am_c597 = true ∧ ∃ w, am_chk am_K0 am_cs0 am_dirs0 am_ids0 am_dsr0 1000000 w am_c597 = true := ⟨by decide +kernel, 1, by decide +kernel⟩
theorem am_q598 : am_okC am_c598 = true ∧ ∃ w, am_chk am_K0 am_cs0 am_dirs0 am_ids0 am_dsr0 1000000 w am_c598 = true := ⟨by decide +kernel, 1, by decide +kernel⟩
theorem am_q599 : am_okC am_c599 = true ∧ ∃ w, am_chk am_K0 am_cs0 am_dirs0 am_ids0 am_dsr0 1000000 w am_c599 = true := ⟨by decide +kernel, 1, by decide +kernel⟩
