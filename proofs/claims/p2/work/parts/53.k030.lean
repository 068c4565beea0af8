/-! LAYER 2, contracts checked. -/
theorem am_q237 : am_okC am_c237 = true ∧ ∃ w, am_chk am_K0 am_cs0 am_dirs0 am_ids0 am_dsr0 1000000 w am_c237 = true := ⟨by decide +kernel, 1, by decide +kernel⟩
theorem am_q238 : am_okC am_c238 = true ∧ ∃ w, am_chk am_K0 am_cs0 am_dirs0 am_ids0 am_dsr0 1000000 w am_c238 = true := ⟨by decide +kernel, 1, by decide +kernel⟩
theorem am_q239 : am_okC am_c239 = true ∧ ∃ w, am_chk am_K0 am_cs0 am_dirs0 am_ids0 am_dsr0 1000000 w am_c239 = true := ⟨by decide +kernel, 1, by decide +kernel⟩
theorem am_q240 : am_okC am_c240 = true ∧ ∃ w, am_chk am_K0 am_cs0 am_dirs0 am_ids0 am_dsr0 1000000 w am_c240 = true := ⟨by decide +kernel, 1, by decide +kernel⟩
theorem am_q241 : am_okC am_c241 = true ∧ ∃ w, am_chk am_K0 am_cs0 am_dirs0 am_ids0 am_dsr0 1000000 w am_c241 = true := ⟨by decide +kernel, 1, by decide +kernel⟩
theorem am_q242 : am_okC am_c242 = true ∧ ∃ w, am_chk am_K0 am_cs0 am_dirs0 am_ids0 am_dsr0 1000000 w am_c242 = true := ⟨by decide +kernel, 1, by decide +kernel⟩
theorem am_q243 : am_okC am_c243 = true ∧ ∃ w, am_chk am_K0 am_cs0 am_dirs0 am_ids0 am_dsr0 1000000 w am_c243 = true := ⟨by decide +kernel, 1, by decide +kernel⟩
theorem am_q244 : am_okC am_c244 = true ∧ ∃ w, am_chk am_K0 am_cs0 am_dirs0 am_ids0 am_dsr0 1000000 w am_c244 = true := ⟨by decide +kernel, 1, by decide +kernel⟩
theorem am_q245 : am_okC am_c245 = true ∧ ∃ w, am_chk am_K0 am_cs0 am_dirs0 am_ids0 am_dsr0 1000000 w am_c245 = true := ⟨by decide +kernel, 1, by decide +kernel⟩
