/-! LAYER 2, contracts checked. -/
theorem am_q676 : am_okC am_c676 = true ∧ ∃ w, am_chk am_K0 am_cs0 am_dirs0 am_ids0 am_dsr0 1000000 w am_c676 = true := ⟨by decide +kernel, 1, by decide +kernel⟩
theorem am_q677 : am_okC am_c677 = true ∧ ∃ w, am_chk am_K0 am_cs0 am_dirs0 am_ids0 am_dsr0 1000000 w am_c677 = true := ⟨by decide +kernel, 1, by decide +kernel⟩
theorem am_q678 : am_okC am_c678 = true ∧ ∃ w, am_chk am_K0 am_cs0 am_dirs0 am_ids0 am_dsr0 1000000 w am_c678 = true := ⟨by decide +kernel, 1, by decide +kernel⟩
theorem am_q679 : am_okC am_c679 = true ∧ ∃ w, am_chk am_K0 am_cs0 am_dirs0 am_ids0 am_dsr0 1000000 w am_c679 = true := ⟨by decide +kernel, 1, by decide +kernel⟩
theorem am_q680 : am_okC am_c680 = true ∧ ∃ w, am_chk am_K0 am_cs0 am_dirs0 am_ids0 am_dsr0 1000000 w am_c680 = true := ⟨by decide +kernel, 1, by decide +kernel⟩
theorem am_q681 : am_okC am_c681 = true ∧ ∃ w, am_chk am_K0 am_cs0 am_dirs0 am_ids0 am_dsr0 1000000 w am_c681 = true := ⟨by decide +kernel, 1, by decide +kernel⟩
theorem am_q682 : am_okC am_c682 = true ∧ ∃ w, am_chk am_K0 am_cs0 am_dirs0 am_ids0 am_dsr0 1000000 w am_c682 = true := ⟨by decide +kernel, 1, by decide +kernel⟩
theorem am_q683 : am_okC am_c683 = true ∧ ∃ w, am_chk am_K0 am_cs0 am_dirs0 am_ids0 am_dsr0 1000000 w am_c683 = true := ⟨by decide +kernel, 1, by decide +kernel⟩
theorem am_q684 : am_okC am_c684 = true ∧ ∃ w, am_chk am_K0 am_cs0 am_dirs0 am_ids0 am_dsr0 1000000 w am_c684 = true := ⟨by decide +kernel, 1, by decide +kernel⟩
theorem am_q685 : am_okC am_c685 = true ∧ ∃ w, am_chk am_K0 am_cs0 am_dirs0 am_ids0 am_dsr0 1000000 w am_c685 = true := ⟨by decide +kernel, 1, by decide +kernel⟩
theorem am_q686 : am_okC am_c686 = true ∧ ∃ w, am_chk am_K0 am_cs0 am_dirs0 am_ids0 am_dsr0 1000000 w am_c686 = true := ⟨by decide +kernel, 1, by decide +kernel⟩
theorem am_q687 : am_okC am_c687 = true ∧ ∃ w, am_chk am_K0 am_cs0 am_dirs0 am_ids0 am_dsr0 1000000 w am_c687 = true := ⟨by decide +kernel, 1, by decide +kernel⟩
