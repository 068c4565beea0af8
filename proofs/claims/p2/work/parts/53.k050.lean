/-! LAYER 2, contracts checked. -/
theorem am_q551 : am_okC am_c551 = true ∧ ∃ w, am_chk am_K0 am_cs0 am_dirs0 am_ids0 am_dsr0 1000000 w am_c551 = true := ⟨by decide +kernel, 1, by decide +kernel⟩
theorem am_q552 : am_okC am_c552 = true ∧ ∃ w, am_chk am_K0 am_cs0 am_dirs0 am_ids0 am_dsr0 1000000 w am_c552 = true := ⟨by decide +kernel, 1, by decide +kernel⟩
theorem am_q553 : am_okC am_c553 = true ∧ ∃ w, am_chk am_K0 am_cs0 am_dirs0 am_ids0 am_dsr0 1000000 w am_c553 = true := ⟨by decide +kernel, 1, by decide +kernel⟩
theorem am_q554 : am_okC am_c554 = true ∧ ∃ w, am_chk am_K0 am_cs0 am_dirs0 am_ids0 am_dsr0 1000000 w am_c554 = true := ⟨by decide +kernel, 1, by decide +kernel⟩
theorem am_q555 : am_okC am_c555 = true ∧ ∃ w, am_chk am_K0 am_cs0 am_dirs0 am_ids0 am_dsr0 1000000 w am_c555 = true := ⟨by decide +kernel, 1, by decide +kernel⟩
theorem am_q556 : am_okC am_c556 = true ∧ ∃ w, am_chk am_K0 am_cs0 am_dirs0 am_ids0 am_dsr0 1000000 w am_c556 = true := ⟨by decide +kernel, 1, by decide +kernel⟩
theorem am_q557 : am_okC am_c557 = true ∧ ∃ w, am_chk am_K0 am_cs0 am_dirs0 am_ids0 am_dsr0 1000000 w am_c557 = true := ⟨by decide +kernel, 1, by decide +kernel⟩
theorem am_q558 : am_okC am_c558 = true ∧ ∃ w, am_chk am_K0 am_cs0 am_dirs0 am_ids0 am_dsr0 1000000 w am_c558 = true := ⟨by decide +kernel, 1, by decide +kernel⟩
theorem am_q559 : am_okC am_c559 = true ∧ ∃ w, am_chk am_K0 am_cs0 am_dirs0 am_ids0 am_dsr0 1000000 w am_c559 = true := ⟨by decide +kernel, 1, by decide +kernel⟩
theorem am_q560 : am_okC am_c560 = true ∧ ∃ w, am_chk am_K0 am_cs0 am_dirs0 am_ids0 am_dsr0 1000000 w am_c560 = true := ⟨by decide +kernel, 1, by decide +kernel⟩
theorem am_q561 : am_okC am_c561 = true ∧ ∃ w, am_chk am_K0 am_cs0 am_dirs0 am_ids0 am_dsr0 1000000 w am_c561 = true := ⟨by decide +kernel, 1, by decide +kernel⟩
theorem am_q562 : am_okC am_c562 = true ∧ ∃ w, am_chk am_K0 am_cs0 am_dirs0 am_ids0 am_dsr0 1000000 w am_c562 = true := ⟨by decide +kernel, 1, by decide +kernel⟩
theorem am_q563 : am_okC am_c563 = true ∧ ∃ w, am_chk am_K0 am_cs0 am_dirs0 am_ids0 am_dsr0 1000000 w am_c563 = true := ⟨by decide +kernel, 1, by decide +kernel⟩
theorem am_q564 : am_okC am_c564 = true ∧ ∃ w, am_chk am_K0 am_cs0 am_dirs0 am_ids0 am_dsr0 1000000 w am_c564 = true := ⟨by decide +kernel, 1, by decide +kernel⟩
