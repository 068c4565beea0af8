/-! LAYER 2, contracts checked. -/
theorem am_q416 : am_okC am_c416 = true ∧ ∃ w, am_chk am_K0 am_cs0 am_dirs0 am_ids0 am_dsr0 1000000 w am_c416 = true := ⟨by decide +kernel, 1, by decide +kernel⟩
theorem am_q417 : am_okC am_c417 = true ∧ ∃ w, am_chk am_K0 am_cs0 am_dirs0 am_ids0 am_dsr0 1000000 w am_c417 = true := ⟨by decide +kernel, 1, by decide +kernel⟩
theorem am_q418 : am_okC am_c418 = true ∧ ∃ w, am_chk am_K0 am_cs0 am_dirs0 am_ids0 am_dsr0 1000000 w am_c418 = true := ⟨by decide +kernel, 1, by decide +kernel⟩
theorem am_q419 : am_okC am_c419 = true ∧ ∃ w, am_chk am_K0 am_cs0 am_dirs0 am_ids0 am_dsr0 1000000 w am_c419 = true := ⟨by decide +kernel, 1, by decide +kernel⟩
theorem am_q420 : am_okC am_c420 = true ∧ ∃ w, am_chk am_K0 am_cs0 am_dirs0 am_ids0 am_dsr0 1000000 w am_c420 = true := ⟨by decide +kernel, 1, by decide +kernel⟩
theorem am_q421 : am_okC am_c421 = true ∧ ∃ w, am_chk am_K0 am_cs0 am_dirs0 am_ids0 am_dsr0 1000000 w am_c421 = true := ⟨by decide +kernel, 1, by decide +kernel⟩
theorem am_q422 : am_okC am_c422 = true ∧ ∃ w, am_chk am_K0 am_cs0 am_dirs0 am_ids0 am_dsr0 1000000 w am_c422 = true := ⟨by decide +kernel, 1, by decide +kernel⟩
theorem am_q423 : am_okC am_c423 = true ∧ ∃ w, am_chk am_K0 am_cs0 am_dirs0 am_ids0 am_dsr0 1000000 w am_c423 = true := ⟨by decide +kernel, 1, by decide +kernel⟩
theorem am_q424 : am_okC am_c424 = true ∧ ∃ w, am_chk am_K0 am_cs0 am_dirs0 am_ids0 am_dsr0 1000000 w am_c424 = true := ⟨by decide +kernel, 1, by decide +kernel⟩
