/-! LAYER 2, contracts checked. -/
theorem am_q234 : am_okC am_c234 = true ∧ ∃ w, am_chk am_K0 am_cs0 am_dirs0 am_ids0 am_dsr0 1000000 w am_c234 = true := ⟨by decide +kernel, 1, by decide +kernel⟩
theorem am_q235 : am_okC am_c235 = true ∧ ∃ w, am_chk am_K0 am_cs0 am_dirs0 am_ids0 am_dsr0 1000000 w am_c235 = true := ⟨by decide +kernel, 1, by decide +kernel⟩
theorem am_q236 : am_okC am_c236 = true ∧ ∃ w, am_chk am_K0 am_cs0 am_dirs0 am_ids0 am_dsr0 1000000 w am_c236 = true := ⟨by decide +kernel, 1, by decide +kernel⟩
theorem am_q237 : am_okC am_c237 = true ∧ ∃ w, am_chk am_K0 am_cs0 am_dirs0 am_ids0 am_dsr0 1000000 w am_c237 = true := ⟨by decide +kernel, 1, by decide +kernel⟩
theorem am_q238 : am_okC am_c238 = true ∧ ∃ w, am_chk am_K0 am_cs0 am_dirs0 am_ids0 am_dsr0 1000000 w am_c238 = true := ⟨by decide +kernel, 1, by decide +kernel⟩
theorem am_q239 : am_okC am_c239 = true ∧ ∃ w, am_chk am_K0 am_cs0 am_dirs0 am_ids0 am_dsr0 1000000 w am_c239 = true := ⟨by decide +kernel, 1, by decide +kernel⟩
theorem am_q240 : am_okC am_c240 = true ∧ ∃ w, am_chk am_K0 am_cs0 am_dirs0 am_ids0 am_dsr0 1000000 w am_c240 = true := ⟨by decide +kernel, 1, by decide +kernel⟩
theorem am_q241 : am_okC am_c241 = true ∧ ∃ w, am_chk am_K0 am_cs0 am_dirs0 am_ids0 am_dsr0 1000000 w am_c241 = true := ⟨by decide +kernel, 1, by decide +kernel⟩
theorem am_q242 : am_okC am_c242 = true ∧ ∃ w, am_chk am_K0 am_cs0 am_dirs0 am_ids0 am_dsr0 1000000 w am_c242 = true := ⟨by decide +kernel, 1, by decide +kernel⟩
theorem am_q243 : am_okC am_c243 = true ∧ ∃ w, am_chk am_K0 am_cs0 am_dirs0 am_ids0 am_dsr0 1000000 w am_c243 = true := ⟨by decide +kernel, 1, by decide +kernel⟩
theorem am_q244 : am_okC am_c244 = true ∧ ∃ w, am_chk am_K0 am_cs0 am_dirs0 am_ids0 am_dsr0 1000000 w am_c244 = true := ⟨by decide +kernel, 1, by decide +kernel⟩
theorem am_q245 : am_okC am_c245 = true ∧ ∃ w, am_chk am_K0 am_cs0 am_dirs0 am_ids0 am_dsr0 1000000 w am_c245 = true := ⟨by decide +kernel, 1, by decide +kernel⟩
theorem am_q246 : am_okC am_c246 = true ∧ ∃ w, am_chk am_K0 am_cs0 am_dirs0 am_ids0 am_dsr0 1000000 w am_c246 = true := ⟨by decide +kernel, 1, by decide +kernel⟩
theorem am_q247 : am_okC am_c247 = true ∧ ∃ w, am_chk am_K0 am_cs0 am_dirs0 am_ids0 am_dsr0 1000000 w am_c247 = true := ⟨by decide +kernel, 1, by decide +kernel⟩
theorem am_q248 : am_okC am_c248 = true ∧ ∃ w, am_chk am_K0 am_cs0 am_dirs0 am_ids0 am_dsr0 1000000 w am_c248 = true := ⟨by decide +kernel, 1, by decide +kernel⟩
theorem am_q249 : am_okC am_c249 = true ∧ ∃ w, am_chk am_K0 am_cs0 am_dirs0 am_ids0 am_dsr0 1000000 w am_c249 = true := ⟨by decide +kernel, 1, by decide +kernel⟩
