/-! LAYER 2, contracts checked. -/
theorem am_q857 : am_okC am_c857 = true ∧ ∃ w, am_chk am_K0 am_cs0 am_dirs0 am_ids0 am_dsr0 1000000 w am_c857 = true := ⟨by decide +kernel, 1, by decide +kernel⟩
theorem am_q858 : am_okC am_c858 = true ∧ ∃ w, am_chk am_K0 am_cs0 am_dirs0 am_ids0 am_dsr0 1000000 w am_c858 = true := ⟨by decide +kernel, 1, by decide +kernel⟩
theorem am_q859 : am_okC am_c859 = true ∧ ∃ w, am_chk am_K0 am_cs0 am_dirs0 am_ids0 am_dsr0 1000000 w am_c859 = true := ⟨by decide +kernel, 1, by decide +kernel⟩
theorem am_q860 : am_okC am_c860 = true ∧ ∃ w, am_chk am_K0 am_cs0 am_dirs0 am_ids0 am_dsr0 1000000 w am_c860 = true := ⟨by decide +kernel, 1, by decide +kernel⟩
theorem am_q861 : am_okC am_c861 = true ∧ ∃ w, am_chk am_K0 am_cs0 am_dirs0 am_ids0 am_dsr0 1000000 w am_c861 = true := ⟨by decide +kernel, 1, by decide +kernel⟩
theorem am_q862 : am_okC am_c862 = true ∧ ∃ w, am_chk am_K0 am_cs0 am_dirs0 am_ids0 am_dsr0 1000000 w am_c862 = true := ⟨by decide +kernel, 1, by decide +kernel⟩
theorem am_q863 : am_okC am_c863 = true ∧ ∃ w, am_chk am_K0 am_cs0 am_dirs0 am_ids0 am_dsr0 1000000 w am_c863 = true := ⟨by decide +kernel, 1, by decide +kernel⟩
theorem am_q864 : am_okC am_c864 = true ∧ ∃ w, am_chk am_K0 am_cs0 am_dirs0 am_ids0 am_dsr0 1000000 w am_c864 = true := ⟨by decide +kernel, 1, by decide +kernel⟩
theorem am_q865 : am_okC am_c865 = true ∧ ∃ w, am_chk am_K0 am_cs0 am_dirs0 am_ids0 am_dsr0 1000000 w am_c865 = true := ⟨by decide +kernel, 1, by decide +kernel⟩
