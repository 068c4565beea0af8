/-! LAYER 2, contracts checked. -/
theorem am_q464 : am_okC am_c464 = true ∧ ∃ w, am_chk am_K0 am_cs0 am_dirs0 am_ids0 am_dsr0 1000000 w am_c464 = true := ⟨by decide +kernel, 1, by decide +kernel⟩
theorem am_q465 : am_okC am_c465 = true ∧ ∃ w, am_chk am_K0 am_cs0 am_dirs0 am_ids0 am_dsr0 1000000 w am_c465 = true := ⟨by decide +kernel, 1, by decide +kernel⟩
theorem am_q466 : am_okC am_c466 = true ∧ ∃ w, am_chk am_K0 am_cs0 am_dirs0 am_ids0 am_dsr0 1000000 w am_c466 = true := ⟨by decide +kernel, 1, by decide +kernel⟩
theorem am_q467 : am_okC am_c467 = true ∧ ∃ w, am_chk am_K0 am_cs0 am_dirs0 am_ids0 am_dsr0 1000000 w am_c467 = true := ⟨by decide +kernel, 1, by decide +kernel⟩
theorem am_q468 : am_okC am_c468 = true ∧ ∃ w, am_chk am_K0 am_cs0 am_dirs0 am_ids0 am_dsr0 1000000 w am_c468 = true := ⟨by decide +kernel, 1, by decide +kernel⟩
theorem am_q469 : am_okC am_c469 = true ∧ ∃ w, am_chk am_K0 am_cs0 am_dirs0 am_ids0 am_dsr0 1000000 w am_c469 = true := ⟨by decide +kernel, 1, by decide +kernel⟩
theorem am_q470 : am_okC am_c470 = true ∧ ∃ w, am_chk am_K0 am_cs0 am_dirs0 am_ids0 am_dsr0 1000000 w am_c470 = true := ⟨by decide +kernel, 1, by decide +kernel⟩
theorem am_q471 : am_okC am_c471 = true ∧ ∃ w, am_chk am_K0 am_cs0 am_dirs0 am_ids0 am_dsr0 1000000 w am_c471 = true := ⟨by decide +kernel, 1, by decide +kernel⟩
theorem am_q472 : am_okC am_c472 = true ∧ ∃ w, am_chk am_K0 am_cs0 am_dirs0 am_ids0 am_dsr0 1000000 w am_c472 = true := ⟨by decide +kernel, 1, by decide +kernel⟩
theorem am_q473 : am_okC am_c473 = true ∧ ∃ w, am_chk am_K0 am_cs0 am_dirs0 am_ids0 am_dsr0 1000000 w am_c473 = true := ⟨by decide +kernel, 1, by decide +kernel⟩
theorem am_q474 : am_okC am_c474 = true ∧ ∃ w, am_chk am_K0 am_cs0 am_dirs0 am_ids0 am_dsr0 1000000 w am_c474 = true := ⟨by decide +kernel, 1, by decide +kernel⟩
