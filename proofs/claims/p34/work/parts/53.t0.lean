/-! a look -/
theorem am_q893 : am_okC am_c893 = true ∧ ∃ w, am_chk am_K0 am_cs0 am_dirs0 am_ids0 am_dsr0 1000000 w am_c893 = true := ⟨by decide +kernel, 5, by decide +kernel⟩
