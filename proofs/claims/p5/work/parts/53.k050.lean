/-! LAYER 2, contracts checked. -/
theorem am_q688 : am_okC am_c688 = true ∧ ∃ w, am_chk am_K0 am_cs0 am_dirs0 am_ids0 am_dsr0 1000000 w am_c688 = true := ⟨by decide +kernel, 1, by decide +kernel⟩
theorem am_q689 : am_okC am_c689 = true ∧ ∃ w, am_chk am_K0 am_cs0 am_dirs0 am_ids0 am_dsr0 1000000 w am_c689 = true := ⟨by decide +kernel, 1, by decide +kernel⟩
theorem am_q690 : am_okC am_c690 = true ∧ ∃ w, am_chk am_K0 am_cs0 am_dirs0 am_ids0 am_dsr0 1000000 w am_c690 = true := ⟨by decide +kernel, 1, by decide +kernel⟩
theorem am_q691 : am_okC am_c691 = true ∧ ∃ w, am_chk am_K0 am_cs0 am_dirs0 am_ids0 am_dsr0 1000000 w am_c691 = true := ⟨by decide +kernel, 1, by decide +kernel⟩
theorem am_q692 : am_okC am_c692 = true ∧ ∃ w, am_chk am_K0 am_cs0 am_dirs0 am_ids0 am_dsr0 1000000 w am_c692 = true := ⟨by decide +kernel, 1, by decide +kernel⟩
theorem am_q693 : am_okC am_c693 = true ∧ ∃ w, am_chk am_K0 am_cs0 am_dirs0 am_ids0 am_dsr0 1000000 w am_c693 = true := ⟨by decide +kernel, 1, by decide +kernel⟩
theorem am_q694 : am_okC am_c694 = true ∧ ∃ w, am_chk am_K0 am_cs0 am_dirs0 am_ids0 am_dsr0 1000000 w am_c694 = true := ⟨by decide +kernel, 1, by decide +kernel⟩
theorem am_q695 : am_okC am_c695 = true ∧ ∃ w, am_chk am_K0 am_cs0 am_dirs0 am_ids0 am_dsr0 1000000 w am_c695 = true := ⟨by decide +kernel, 1, by decide +kernel⟩
theorem am_q696 : am_okC am_c696 = true ∧ ∃ w, am_chk am_K0 am_cs0 am_dirs0 am_ids0 am_dsr0 1000000 w am_c696 = true := ⟨by decide +kernel, 1, by decide +kernel⟩
theorem am_q697 : am_okC am_c697 = true ∧ ∃ w, am_chk am_K0 am_cs0 am_dirs0 am_ids0 am_dsr0 1000000 w am_c697 = true := ⟨by decide +kernel, 1, by decide +kernel⟩
theorem am_q698 : am_okC am_c698 = true ∧ ∃ w, am_chk am_K0 am_cs0 am_dirs0 am_ids0 am_dsr0 1000000 w am_c698 = true := ⟨by decide +kernel, 1, by decide +kernel⟩
theorem am_q699 : am_okC am_c699 = true ∧ ∃ w, am_chk am_K0 am_cs0 am_dirs0 am_ids0 am_dsr0 1000000 w am_c699 = true := ⟨by decide +kernel, 1, by decide +kernel⟩
theorem am_q700 : am_okC am_c700 = true ∧ ∃ w, am_chk am_K0 am_cs0 am_dirs0 am_ids0 am_dsr0 1000000 w am_c700 = true := ⟨by decide +kernel, 1, by decide +kernel⟩
theorem am_q701 : am_okC am_c701 = true ∧ ∃ w, am_chk am_K0 am_cs0 am_dirs0 am_ids0 am_dsr0 1000000 w am_c701 = true := ⟨by decide +kernel, 1, by decide +kernel⟩
