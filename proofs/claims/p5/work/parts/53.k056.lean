/-! LAYER 2, contracts checked. -/
theorem am_q758 : am_okC am_c758 = true ∧ ∃ w, am_chk am_K0 am_cs0 am_dirs0 am_ids0 am_dsr0 1000000 w am_c758 = true := ⟨by decide +kernel, 1, by decide +kernel⟩
theorem am_q759 : am_okC am_c759 = true ∧ ∃ w, am_chk am_K0 am_cs0 am_dirs0 am_ids0 am_dsr0 1000000 w am_c759 = true := ⟨by decide +kernel, 1, by decide +kernel⟩
theorem am_q760 : am_okC am_c760 = true ∧ ∃ w, am_chk am_K0 am_cs0 am_dirs0 am_ids0 am_dsr0 1000000 w am_c760 = true := ⟨by decide +kernel, 1, by decide +kernel⟩
theorem am_q761 : am_okC am_c761 = true ∧ ∃ w, am_chk am_K0 am_cs0 am_dirs0 am_ids0 am_dsr0 1000000 w am_c761 = true := ⟨by decide +kernel, 1, by decide +kernel⟩
theorem am_q762 : am_okC am_c762 = true ∧ ∃ w, am_chk am_K0 am_cs0 am_dirs0 am_ids0 am_dsr0 1000000 w am_c762 = true := ⟨by decide +kernel, 1, by decide +kernel⟩
theorem am_q763 : am_okC am_c763 = true ∧ ∃ w, am_chk am_K0 am_cs0 am_dirs0 am_ids0 am_dsr0 1000000 w am_c763 = true := ⟨by decide +kernel, 1, by decide +kernel⟩
