/-! LAYER 2, contracts checked. -/
theorem am_q91 : am_okC am_c91 = true ∧ ∃ w, am_chk am_K0 am_cs0 am_dirs0 am_ids0 am_dsr0 1000000 w am_c91 = true := ⟨by decide +kernel, 3, by decide +kernel⟩
theorem am_q92 : am_okC am_c92 = true ∧ ∃ w, am_chk am_K0 am_cs0 am_dirs0 am_ids0 am_dsr0 1000000 w am_c92 = true := ⟨by decide +kernel, 3, by decide +kernel⟩
theorem am_q93 : am_okC am_c93 = true ∧ ∃ w, am_chk am_K0 am_cs0 am_dirs0 am_ids0 am_dsr0 1000000 w am_c93 = true := ⟨by decide +kernel, 3, by decide +kernel⟩
theorem am_q94 : am_okC am_c94 = true ∧ ∃ w, am_chk am_K0 am_cs0 am_dirs0 am_ids0 am_dsr0 1000000 w am_c94 = true := ⟨by decide +kernel, 3, by decide +kernel⟩
