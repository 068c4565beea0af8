/-! LAYER 2, contracts checked. -/
theorem am_q743 : am_okC am_c743 = true ∧ ∃ w, am_chk am_K0 am_cs0 am_dirs0 am_ids0 am_dsr0 1000000 w am_c743 = true := ⟨by decide +kernel, 1, by decide +kernel⟩
theorem am_q744 : am_okC am_c744 = true ∧ ∃ w, am_chk am_K0 am_cs0 am_dirs0 am_ids0 am_dsr0 1000000 w am_c744 = true := ⟨by decide +kernel, 1, by decide +kernel⟩
theorem am_q745 : am_okC am_c745 = true ∧ ∃ w, am_chk am_K0 am_cs0 am_dirs0 am_ids0 am_dsr0 1000000 w am_c745 = true := ⟨by decide +kernel, 1, by decide +kernel⟩
theorem am_q746 : am_okC am_c746 = true ∧ ∃ w, am_chk am_K0 am_cs0 am_dirs0 am_ids0 am_dsr0 1000000 w am_c746 = true := ⟨by decide +kernel, 1, by decide +kernel⟩
theorem am_q747 : am_okC am_c747 = true ∧ ∃ w, am_chk am_K0 am_cs0 am_dirs0 am_ids0 am_dsr0 1000000 w am_c747 = true := ⟨by decide +kernel, 1, by decide +kernel⟩
theorem am_q748 : am_okC am_c748 = true ∧ ∃ w, am_chk am_K0 am_cs0 am_dirs0 am_ids0 am_dsr0 1000000 w am_c748 = true := ⟨by decide +kernel, 1, by decide +kernel⟩
theorem am_q749 : am_okC am_c749 = true ∧ ∃ w, am_chk am_K0 am_cs0 am_dirs0 am_ids0 am_dsr0 1000000 w am_c749 = true := ⟨by decide +kernel, 1, by decide +kernel⟩
theorem am_q750 : am_okC am_c750 = true ∧ ∃ w, am_chk am_K0 am_cs0 am_dirs0 am_ids0 am_dsr0 1000000 w am_c750 = true := ⟨by decide +kernel, 1, by decide +kernel⟩
theorem am_q751 : am_okC am_c751 = true ∧ ∃ w, am_chk am_K0 am_cs0 am_dirs0 am_ids0 am_dsr0 1000000 w am_c751 = true := ⟨by decide +kernel, 1, by decide +kernel⟩
theorem am_q752 : am_okC am_c752 = true ∧ ∃ w, am_chk am_K0 am_cs0 am_dirs0 am_ids0 am_dsr0 1000000 w am_c752 = true := ⟨by decide +kernel, 1, by decide +kernel⟩
theorem am_q753 : am_okC am_c753 = true ∧ ∃ w, am_chk am_K0 am_cs0 am_dirs0 am_ids0 am_dsr0 1000000 w am_c753 = true := ⟨by decide +kernel, 1, by decide +kernel⟩
theorem am_q754 : am_okC am_c754 = true ∧ ∃ w, am_chk am_K0 am_cs0 am_dirs0 am_ids0 am_dsr0 1000000 w am_c754 = true := ⟨by decide +kernel, 1, by decide +kernel⟩
