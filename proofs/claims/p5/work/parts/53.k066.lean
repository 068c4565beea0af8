/-! LAYER 2, contracts checked. -/
theorem am_q830 : am_okC am_c830 = true ∧ ∃ w, am_chk am_K0 am_cs0 am_dirs0 am_ids0 am_dsr0 1000000 w am_c830 = true := ⟨by decide +kernel, 1, by decide +kernel⟩
theorem am_q831 : am_okC am_c831 = true ∧ ∃ w, am_chk am_K0 am_cs0 am_dirs0 am_ids0 am_dsr0 1000000 w am_c831 = true := ⟨by decide +kernel, 1, by decide +kernel⟩
theorem am_q832 : am_okC am_c832 = true ∧ ∃ w, am_chk am_K0 am_cs0 am_dirs0 am_ids0 am_dsr0 1000000 w am_c832 = true := ⟨by decide +kernel, 1, by decide +kernel⟩
theorem am_q833 : am_okC am_c833 = true ∧ ∃ w, am_chk am_K0 am_cs0 am_dirs0 am_ids0 am_dsr0 1000000 w am_c833 = true := ⟨by decide +kernel, 1, by decide +kernel⟩
theorem am_q834 : am_okC am_c834 = true ∧ ∃ w, am_chk am_K0 am_cs0 am_dirs0 am_ids0 am_dsr0 1000000 w am_c834 = true := ⟨by decide +kernel, 1, by decide +kernel⟩
theorem am_q835 : am_okC am_c835 = true ∧ ∃ w, am_chk am_K0 am_cs0 am_dirs0 am_ids0 am_dsr0 1000000 w am_c835 = true := ⟨by decide +kernel, 1, by decide +kernel⟩
theorem am_q836 : am_okC am_c836 = true ∧ ∃ w, am_chk am_K0 am_cs0 am_dirs0 am_ids0 am_dsr0 1000000 w am_c836 = true := ⟨by decide +kernel, 1, by decide +kernel⟩
