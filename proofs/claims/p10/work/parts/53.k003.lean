/-! LAYER 2, contracts checked. -/
theorem am_q95 : am_okC am_c95 = true ∧ ∃ w, am_chk am_K0 am_cs0 am_dirs0 am_ids0 am_dsr0 1000000 w am_c95 = true := ⟨by decide +kernel, 3, by decide +kernel⟩
theorem am_q96 : am_okC am_c96 = true ∧ ∃ w, am_chk am_K0 am_cs0 am_dirs0 am_ids0 am_dsr0 1000000 w am_c96 = true := ⟨by decide +kernel, 3, by decide +kernel⟩
theorem am_q97 : am_okC am_c97 = true ∧ ∃ w, am_chk am_K0 am_cs0 am_dirs0 am_ids0 am_dsr0 1000000 w am_c97 = true := ⟨by decide +kernel, 3, by decide +kernel⟩
theorem am_q98 : am_okC am_c98 = true ∧ ∃ w, am_chk am_K0 am_cs0 am_dirs0 am_ids0 am_dsr0 1000000 w am_c98 = true := ⟨by decide +kernel, 3, by decide +kernel⟩
theorem am_q99 : am_okC am_c99 = true ∧ ∃ w, am_chk am_K0 am_cs0 am_dirs0 am_ids0 am_dsr0 1000000 w am_c99 = true := ⟨by decide +kernel, 3, by decide +kernel⟩
theorem am_q100 : am_okC am_c100 = true ∧ ∃ w, am_chk am_K0 am_cs0 am_dirs0 am_ids0 am_dsr0 1000000 w am_c100 = true := ⟨by decide +kernel, 3, by decide +kernel⟩
theorem am_q101 : am_okC am_c101 = true ∧ ∃ w, am_chk am_K0 am_cs0 am_dirs0 am_ids0 am_dsr0 1000000 w am_c101 = true := ⟨by decide +kernel, 3, by decide +kernel⟩
theorem am_q102 : am_okC am_c102 = true ∧ ∃ w, am_chk am_K0 am_cs0 am_dirs0 am_ids0 am_dsr0 1000000 w am_c102 = true := ⟨by decide +kernel, 3, by decide +kernel⟩
theorem am_q103 : am_okC am_c103 = true ∧ ∃ w, am_chk am_K0 am_cs0 am_dirs0 am_ids0 am_dsr0 1000000 w am_c103 = true := ⟨by decide +kernel, 3, by decide +kernel⟩
theorem am_q104 : am_okC am_c104 = true ∧ ∃ w, am_chk am_K0 am_cs0 am_dirs0 am_ids0 am_dsr0 1000000 w am_c104 = true := ⟨by decide +kernel, 3, by decide +kernel⟩
theorem am_q105 : am_okC am_c105 = true ∧ ∃ w, am_chk am_K0 am_cs0 am_dirs0 am_ids0 am_dsr0 1000000 w am_c105 = true := ⟨by decide +kernel, 3, by decide +kernel⟩
theorem am_q106 : am_okC am_c106 = true ∧ ∃ w, am_chk am_K0 am_cs0 am_dirs0 am_ids0 am_dsr0 1000000 w am_c106 = true := ⟨by decide +kernel, 3, by decide +kernel⟩
theorem am_q107 : am_okC am_c107 = true ∧ ∃ w, am_chk am_K0 am_cs0 am_dirs0 am_ids0 am_dsr0 1000000 w am_c107 = true := ⟨by decide +kernel, 3, by decide +kernel⟩
theorem am_q108 : am_okC am_c108 = true ∧ ∃ w, am_chk am_K0 am_cs0 am_dirs0 am_ids0 am_dsr0 1000000 w am_c108 = true := ⟨by decide +kernel, 3, by decide +kernel⟩
