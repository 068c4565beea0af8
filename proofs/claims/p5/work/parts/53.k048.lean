/-! LAYER 2, contracts checked. -/
theorem am_q662 : am_okC am_c662 = true ∧ ∃ w, am_chk am_K0 am_cs0 am_dirs0 am_ids0 am_dsr0 1000000 w am_c662 = true := ⟨by decide +kernel, 1, by decide +kernel⟩
theorem am_q663 : am_okC am_c663 = true ∧ ∃ w, am_chk am_K0 am_cs0 am_dirs0 am_ids0 am_dsr0 1000000 w am_c663 = true := ⟨by decide +kernel, 1, by decide +kernel⟩
theorem am_q664 : am_okC am_c664 = true ∧ ∃ w, am_chk am_K0 am_cs0 am_dirs0 am_ids0 am_dsr0 1000000 w am_c664 = true := ⟨by decide +kernel, 1, by decide +kernel⟩
theorem am_q665 : am_okC am_c665 = true ∧ ∃ w, am_chk am_K0 am_cs0 am_dirs0 am_ids0 am_dsr0 1000000 w am_c665 = true := ⟨by decide +kernel, 1, by decide +kernel⟩
theorem am_q666 : am_okC am_c666 = true ∧ ∃ w, am_chk am_K0 am_cs0 am_dirs0 am_ids0 am_dsr0 1000000 w am_c666 = true := ⟨by decide +kernel, 1, by decide +kernel⟩
theorem am_q667 : am_okC am_c667 = true ∧ ∃ w, am_chk am_K0 am_cs0 am_dirs0 am_ids0 am_dsr0 1000000 w am_c667 = true := ⟨by decide +kernel, 1, by decide +kernel⟩
theorem am_q668 : am_okC am_c668 = true ∧ ∃ w, am_chk am_K0 am_cs0 am_dirs0 am_ids0 am_dsr0 1000000 w am_c668 = true := ⟨by decide +kernel, 1, by decide +kernel⟩
theorem am_q669 : am_okC am_c669 = true ∧ ∃ w, am_chk am_K0 am_cs0 am_dirs0 am_ids0 am_dsr0 1000000 w am_c669 = true := ⟨by decide +kernel, 1, by decide +kernel⟩
theorem am_q670 : am_okC am_c670 = true ∧ ∃ w, am_chk am_K0 am_cs0 am_dirs0 am_ids0 am_dsr0 1000000 w am_c670 = true := ⟨by decide +kernel, 1, by decide +kernel⟩
theorem am_q671 : am_okC am_c671 = true ∧ ∃ w, am_chk am_K0 am_cs0 am_dirs0 am_ids0 am_dsr0 1000000 w am_c671 = true := ⟨by decide +kernel, 1, by decide +kernel⟩
theorem am_q672 : am_okC am_c672 = true ∧ ∃ w, am_chk am_K0 am_cs0 am_dirs0 am_ids0 am_dsr0 1000000 w am_c672 = true := ⟨by decide +kernel, 1, by decide +kernel⟩
theorem am_q673 : am_okC am_c673 = true ∧ ∃ w, am_chk am_K0 am_cs0 am_dirs0 am_ids0 am_dsr0 1000000 w am_c673 = true := ⟨by decide +kernel, 1, by decide +kernel⟩
theorem am_q674 : am_okC am_c674 = true ∧ ∃ w, am_chk am_K0 am_cs0 am_dirs0 am_ids0 am_dsr0 1000000 w am_c674 = true := ⟨by decide +kernel, 1, by decide +kernel⟩
theorem am_q675 : am_okC am_c675 = true ∧ ∃ w, am_chk am_K0 am_cs0 am_dirs0 am_ids0 am_dsr0 1000000 w am_c675 = true := ⟨by decide +kernel, 1, by decide +kernel⟩
