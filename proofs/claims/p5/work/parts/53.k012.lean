/-! LAYER 2, contracts checked. -/
theorem am_q99 : am_okC am_c99 = true ∧ ∃ w, am_chk am_K0 am_cs0 am_dirs0 am_ids0 am_dsr0 1000000 w am_c99 = true := ⟨by decide +kernel, 3, by decide +kernel⟩
theorem am_q100 : am_okC am_c100 = true ∧ ∃ w, am_chk am_K0 am_cs0 am_dirs0 am_ids0 am_dsr0 1000000 w am_c100 = true := ⟨by decide +kernel, 3, by decide +kernel⟩
theorem am_q101 : am_okC am_c101 = true ∧ ∃ w, am_chk am_K0 am_cs0 am_dirs0 am_ids0 am_dsr0 1000000 w am_c101 = true := ⟨by decide +kernel, 3, by decide +kernel⟩
theorem am_q102 : am_okC am_c102 = true ∧ ∃ w, am_chk am_K0 am_cs0 am_dirs0 am_ids0 am_dsr0 1000000 w am_c102 = true := ⟨by decide +kernel, 3, by decide +kernel⟩
