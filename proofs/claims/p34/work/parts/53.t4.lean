/-! a look -/
theorem am_q735 : am_okC am_c735 = true ∧ ∃ w, am_chk am_K0 am_cs0 am_dirs0 am_ids0 am_dsr0 1000000 w am_c735 = true := ⟨by decide +kernel, 1, by decide +kernel⟩
