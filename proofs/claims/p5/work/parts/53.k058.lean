/-! LAYER 2, contracts checked. -/
theorem am_q773 : am_okC am_c773 = true ∧ ∃ w, am_chk am_K0 am_cs0 am_dirs0 am_ids0 am_dsr0 1000000 w am_c773 = true := ⟨by decide +kernel, 1, by decide +kernel⟩
theorem am_q774 : am_okC am_c774 = true ∧ ∃ w, am_chk am_K0 am_cs0 am_dirs0 am_ids0 am_dsr0 1000000 w am_c774 = true := ⟨by decide +kernel, 1, by decide +kernel⟩
theorem am_q775 : am_okC am_c775 = true ∧ ∃ w, am_chk am_K0 am_cs0 am_dirs0 am_ids0 am_dsr0 1000000 w am_c775 = true := ⟨by decide +kernel, 1, by decide +kernel⟩
theorem am_q776 : am_okC am_c776 = true ∧ ∃ w, am_chk am_K0 am_cs0 am_dirs0 am_ids0 am_dsr0 1000000 w am_c776 = true := ⟨by decide +kernel, 1, by decide +kernel⟩
theorem am_q777 : am_okC am_c777 = true ∧ ∃ w, am_chk am_K0 am_cs0 am_dirs0 am_ids0 am_dsr0 1000000 w am_c777 = true := ⟨by decide +kernel, 1, by decide +kernel⟩
theorem am_q778 : am_okC am_c778 = true ∧ ∃ w, am_chk am_K0 am_cs0 am_dirs0 am_ids0 am_dsr0 1000000 w am_c778 = true := ⟨by decide +kernel, 1, by decide +kernel⟩
theorem am_q779 : am_okC am_c779 = true ∧ ∃ w, am_chk am_K0 am_cs0 am_dirs0 am_ids0 am_dsr0 1000000 w am_c779 = true := ⟨by decide +kernel, 1, by decide +kernel⟩
