/-! LAYER 2, contracts checked. -/
theorem am_q179 : am_okC am_c179 = true ∧ ∃ w, am_chk am_K0 am_cs0 am_dirs0 am_ids0 am_dsr0 1000000 w am_c179 = true := ⟨by decide +kernel, 3, by decide +kernel⟩
theorem am_q180 : am_okC am_c180 = true ∧ ∃ w, am_chk am_K0 am_cs0 am_dirs0 am_ids0 am_dsr0 1000000 w am_c180 = true := ⟨by decide +kernel, 3, by decide +kernel⟩
theorem am_q181 : am_okC am_c181 = true ∧ ∃ w, am_chk am_K0 am_cs0 am_dirs0 am_ids0 am_dsr0 1000000 w am_c181 = true := ⟨by decide +kernel, 3, by decide +kernel⟩
