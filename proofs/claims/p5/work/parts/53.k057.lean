/-! LAYER 2, contracts checked. -/
theorem am_q764 : am_okC am_c764 = true ∧ ∃ w, am_chk am_K0 am_cs0 am_dirs0 am_ids0 am_dsr0 1000000 w am_c764 = true := ⟨by decide +kernel, 1, by decide +kernel⟩
theorem am_q765 : am_okC am_c765 = true ∧ ∃ w, am_chk am_K0 am_cs0 am_dirs0 am_ids0 am_dsr0 1000000 w am_c765 = true := ⟨by decide +kernel, 1, by decide +kernel⟩
theorem am_q766 : am_okC am_c766 = true ∧ ∃ w, am_chk am_K0 am_cs0 am_dirs0 am_ids0 am_dsr0 1000000 w am_c766 = true := ⟨by decide +kernel, 1, by decide +kernel⟩
theorem am_q767 : am_okC am_c767 = true ∧ ∃ w, am_chk am_K0 am_cs0 am_dirs0 am_ids0 am_dsr0 1000000 w am_c767 = true := ⟨by decide +kernel, 1, by decide +kernel⟩
theorem am_q768 : am_okC am_c768 = true ∧ ∃ w, am_chk am_K0 am_cs0 am_dirs0 am_ids0 am_dsr0 1000000 w am_c768 = true := ⟨by decide +kernel, 1, by decide +kernel⟩
theorem am_q769 : am_okC am_c769 = true ∧ ∃ w, am_chk am_K0 am_cs0 am_dirs0 am_ids0 am_dsr0 1000000 w am_c769 = true := ⟨by decide +kernel, 1, by decide +kernel⟩
theorem am_q770 : am_okC am_c770 = true ∧ ∃ w, am_chk am_K0 am_cs0 am_dirs0 am_ids0 am_dsr0 1000000 w am_c770 = true := ⟨by decide +kernel, 1, by decide +kernel⟩
theorem am_q771 : am_okC am_c771 = true ∧ ∃ w, am_chk am_K0 am_cs0 am_dirs0 am_ids0 am_dsr0 1000000 w am_c771 = true := ⟨by decide +kernel, 1, by decide +kernel⟩
theorem am_q772 : am_okC am_c772 = true ∧ ∃ w, am_chk am_K0 am_cs0 am_dirs0 am_ids0 am_dsr0 1000000 w am_c772 = true := ⟨by decide +kernel, 1, by decide +kernel⟩
