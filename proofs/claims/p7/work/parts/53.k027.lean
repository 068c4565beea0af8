/-! LAYER 2, contracts checked. -/
theorem am_q190 : am_okC am_c190 = true ∧ ∃ w, am_chk am_K0 am_cs0 am_dirs0 am_ids0 am_dsr0 1000000 w am_c190 = true := ⟨by decide +kernel, 4, by decide +kernel⟩
theorem am_q191 : am_okC am_c191 = true ∧ ∃ w, am_chk am_K0 am_cs0 am_dirs0 am_ids0 am_dsr0 1000000 w am_c191 = true := ⟨by decide +kernel, 4, by decide +kernel⟩
theorem am_q192 : am_okC am_c192 = true ∧ ∃ w, am_chk am_K0 am_cs0 am_dirs0 am_ids0 am_dsr0 1000000 w am_c192 = true := ⟨by decide +kernel, 4, by decide +kernel⟩
theorem am_q193 : am_okC am_c193 = true ∧ ∃ w, am_chk am_K0 am_cs0 am_dirs0 am_ids0 am_dsr0 1000000 w am_c193 = true := ⟨by decide +kernel, 4, by decide +kernel⟩
theorem am_q194 : am_okC am_c194 = true ∧ ∃ w, am_chk am_K0 am_cs0 am_dirs0 am_ids0 am_dsr0 1000000 w am_c194 = true := ⟨by decide +kernel, 4, by decide +kernel⟩
theorem am_q195 : am_okC am_c195 = true ∧ ∃ w, am_chk am_K0 am_cs0 am_dirs0 am_ids0 am_dsr0 1000000 w am_c195 = true := ⟨by decide +kernel, 4, by decide +kernel⟩
theorem am_q196 : am_okC am_c196 = true ∧ ∃ w, am_chk am_K0 am_cs0 am_dirs0 am_ids0 am_dsr0 1000000 w am_c196 = true := ⟨by decide +kernel, 4, by decide +kernel⟩
theorem am_q197 : am_okC am_c197 = true ∧ ∃ w, am_chk am_K0 am_cs0 am_dirs0 am_ids0 am_dsr0 1000000 w am_c197 = true := ⟨by decide +kernel, 4, by decide +kernel⟩
theorem am_q198 : am_okC am_c198 = true ∧ ∃ w, am_chk am_K0 am_cs0 am_dirs0 am_ids0 am_dsr0 1000000 w am_c198 = true := ⟨by decide +kernel, 4, by decide +kernel⟩
