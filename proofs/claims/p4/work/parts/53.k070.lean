/-! LAYER 2, contracts checked. -/
theorem am_q833 : am_okC am_c833 = true ∧ ∃ w, am_chk am_K0 am_cs0 am_dirs0 am_ids0 am_dsr0 1000000 w am_c833 = true := ⟨by decide +kernel, 1, by decide +kernel⟩
theorem am_q834 : am_okC am_c834 = true ∧ ∃ w, am_chk am_K0 am_cs0 am_dirs0 am_ids0 am_dsr0 1000000 w am_c834 = true := ⟨by decide +kernel, 1, by decide +kernel⟩
theorem am_q835 : am_okC am_c835 = true ∧ ∃ w, am_chk am_K0 am_cs0 am_dirs0 am_ids0 am_dsr0 1000000 w am_c835 = true := ⟨by decide +kernel, 1, by decide +kernel⟩
theorem am_q836 : am_okC am_c836 = true ∧ ∃ w, am_chk am_K0 am_cs0 am_dirs0 am_ids0 am_dsr0 1000000 w am_c836 = true := ⟨by decide +kernel, 1, by decide +kernel⟩
theorem am_q837 : am_okC am_c837 = true ∧ ∃ w, am_chk am_K0 am_cs0 am_dirs0 am_ids0 am_dsr0 1000000 w am_c837 = true := ⟨by decide +kernel, 1, by decide +kernel⟩
theorem am_q838 : am_okC am_c838 = true ∧ ∃ w, am_chk am_K0 am_cs0 am_dirs0 am_ids0 am_dsr0 1000000 w am_c838 = true := ⟨by decide +kernel, 1, by decide +kernel⟩
theorem am_q839 : am_okC am_c839 = true ∧ ∃ w, am_chk am_K0 am_cs0 am_dirs0 am_ids0 am_dsr0 1000000 w am_c839 = true := ⟨by decide +kernel, 1, by decide +kernel⟩
theorem am_q840 : am_okC am_c840 = true ∧ ∃ w, am_chk am_K0 am_cs0 am_dirs0 am_ids0 am_dsr0 1000000 w am_c840 = true := ⟨by decide +kernel, 1, by decide +kernel⟩
theorem am_q841 : am_okC am_c841 = true ∧ ∃ w, am_chk am_K0 am_cs0 am_dirs0 am_ids0 am_dsr0 1000000 w am_c841 = true := ⟨by decide +kernel, 1, by decide +kernel⟩
