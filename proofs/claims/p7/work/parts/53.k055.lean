/-! LAYER 2, contracts checked. -/
theorem am_q626 : am_okC am_c626 = true ∧ ∃ w, am_chk am_K0 am_cs0 am_dirs0 am_ids0 am_dsr0 1000000 w am_c626 = true := ⟨by decide +kernel, 1, by decide +kernel⟩
theorem am_q627 : am_okC am_c627 = true ∧ ∃ w, am_chk am_K0 am_cs0 am_dirs0 am_ids0 am_dsr0 1000000 w am_c627 = true := ⟨by decide +kernel, 1, by decide +kernel⟩
theorem am_q628 : am_okC am_c628 = true ∧ ∃ w, am_chk am_K0 am_cs0 am_dirs0 am_ids0 am_dsr0 1000000 w am_c628 = true := ⟨by decide +kernel, 1, by decide +kernel⟩
theorem am_q629 : am_okC am_c629 = true ∧ ∃ w, am_chk am_K0 am_cs0 am_dirs0 am_ids0 am_dsr0 1000000 w am_c629 = true := ⟨by decide +kernel, 1, by decide +kernel⟩
theorem am_q630 : am_okC am_c630 = true ∧ ∃ w, am_chk am_K0 am_cs0 am_dirs0 am_ids0 am_dsr0 1000000 w am_c630 = true := ⟨by decide +kernel, 1, by decide +kernel⟩
theorem am_q631 : am_okC am_c631 = true ∧ ∃ w, am_chk am_K0 am_cs0 am_dirs0 am_ids0 am_dsr0 1000000 w am_c631 = true := ⟨by decide +kernel, 1, by decide +kernel⟩
theorem am_q632 : am_okC am_c632 = true ∧ ∃ w, am_chk am_K0 am_cs0 am_dirs0 am_ids0 am_dsr0 1000000 w am_c632 = true := ⟨by decide +kernel, 1, by decide +kernel⟩
theorem am_q633 : am_okC am_c633 = true ∧ ∃ w, am_chk am_K0 am_cs0 am_dirs0 am_ids0 am_dsr0 1000000 w am_c633 = true := ⟨by decide +kernel, 1, by decide +kernel⟩
theorem am_q634 : am_okC am_c634 = true ∧ ∃ w, am_chk am_K0 am_cs0 am_dirs0 am_ids0 am_dsr0 1000000 w am_c634 = true := ⟨by decide +kernel, 1, by decide +kernel⟩
theorem am_q635 : am_okC am_c635 = true ∧ ∃ w, am_chk am_K0 am_cs0 am_dirs0 am_ids0 am_dsr0 1000000 w am_c635 = true := ⟨by decide +kernel, 1, by decide +kernel⟩
theorem am_q636 : am_okC am_c636 = true ∧ ∃ w, am_chk am_K0 am_cs0 am_dirs0 am_ids0 am_dsr0 1000000 w am_c636 = true := ⟨by decide +kernel, 1, by decide +kernel⟩
