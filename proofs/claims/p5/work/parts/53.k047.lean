/-! LAYER 2, contracts checked. -/
theorem am_q651 : am_okC am_c651 = true ∧ ∃ w, am_chk am_K0 am_cs0 am_dirs0 am_ids0 am_dsr0 1000000 w am_c651 = true := ⟨by decide +kernel, 1, by decide +kernel⟩
theorem am_q652 : am_okC am_c652 = true ∧ ∃ w, am_chk am_K0 am_cs0 am_dirs0 am_ids0 am_dsr0 1000000 w am_c652 = true := ⟨by decide +kernel, 1, by decide +kernel⟩
theorem am_q653 : am_okC am_c653 = true ∧ ∃ w, am_chk am_K0 am_cs0 am_dirs0 am_ids0 am_dsr0 1000000 w am_c653 = true := ⟨by decide +kernel, 1, by decide +kernel⟩
theorem am_q654 : am_okC am_c654 = true ∧ ∃ w, am_chk am_K0 am_cs0 am_dirs0 am_ids0 am_dsr0 1000000 w am_c654 = true := ⟨by decide +kernel, 1, by decide +kernel⟩
theorem am_q655 : am_okC am_c655 = true ∧ ∃ w, am_chk am_K0 am_cs0 am_dirs0 am_ids0 am_dsr0 1000000 w am_c655 = true := ⟨by decide +kernel, 1, by decide +kernel⟩
theorem am_q656 : am_okC am_c656 = true ∧ ∃ w, am_chk am_K0 am_cs0 am_dirs0 am_ids0 am_dsr0 1000000 w am_c656 = true := ⟨by decide +kernel, 1, by decide +kernel⟩
theorem am_q657 : am_okC am_c657 = true ∧ ∃ w, am_chk am_K0 am_cs0 am_dirs0 am_ids0 am_dsr0 1000000 w am_c657 = true := ⟨by decide +kernel, 1, by decide +kernel⟩
theorem am_q658 : am_okC am_c658 = true ∧ ∃ w, am_chk am_K0 am_cs0 am_dirs0 am_ids0 am_dsr0 1000000 w am_c658 = true := ⟨by decide +kernel, 1, by decide +kernel⟩
theorem am_q659 : am_okC am_c659 = true ∧ ∃ w, am_chk am_K0 am_cs0 am_dirs0 am_ids0 am_dsr0 1000000 w am_c659 = true := ⟨by decide +kernel, 1, by decide +kernel⟩
theorem am_q660 : am_okC am_c660 = true ∧ ∃ w, am_chk am_K0 am_cs0 am_dirs0 am_ids0 am_dsr0 1000000 w am_c660 = true := ⟨by decide +kernel, 1, by decide +kernel⟩
theorem am_q661 : am_okC am_c661 = true ∧ ∃ w, am_chk am_K0 am_cs0 am_dirs0 am_ids0 am_dsr0 1000000 w am_c661 = true := ⟨by decide +kernel, 1, by decide +kernel⟩
