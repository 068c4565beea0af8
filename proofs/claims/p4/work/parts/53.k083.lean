/-! LAYER 2, contracts checked. -/
theorem am_q941 : am_okC am_c941 = true ∧ ∃ w, am_chk am_K0 am_cs0 am_dirs0 am_ids0 am_dsr0 1000000 w am_c941 = true := ⟨by decide +kernel, 1, by decide +kernel⟩
theorem am_q942 : am_okC am_c942 = true ∧ ∃ w, am_chk am_K0 am_cs0 am_dirs0 am_ids0 am_dsr0 1000000 w am_c942 = true := ⟨by decide +kernel, 1, by decide +kernel⟩
theorem am_q943 : am_okC am_c943 = true ∧ ∃ w, am_chk am_K0 am_cs0 am_dirs0 am_ids0 am_dsr0 1000000 w am_c943 = true := ⟨by decide +kernel, 1, by decide +kernel⟩
theorem am_q944 : am_okC am_c944 = true ∧ ∃ w, am_chk am_K0 am_cs0 am_dirs0 am_ids0 am_dsr0 1000000 w am_c944 = true := ⟨by decide +kernel, 1, by decide +kernel⟩
theorem am_q945 : am_okC am_c945 = true ∧ ∃ w, am_chk am_K0 am_cs0 am_dirs0 am_ids0 am_dsr0 1000000 w am_c945 = true := ⟨by decide +kernel, 1, by decide +kernel⟩
theorem am_q946 : am_okC am_c946 = true ∧ ∃ w, am_chk am_K0 am_cs0 am_dirs0 am_ids0 am_dsr0 1000000 w am_c946 = true := ⟨by decide +kernel, 1, by decide +kernel⟩
theorem am_q947 : am_okC am_c947 = true ∧ ∃ w, am_chk am_K0 am_cs0 am_dirs0 am_ids0 am_dsr0 1000000 w am_c947 = true := ⟨by decide +kernel, 1, by decide +kernel⟩
theorem am_q948 : am_okC am_c948 = true ∧ ∃ w, am_chk am_K0 am_cs0 am_dirs0 am_ids0 am_dsr0 1000000 w am_c948 = true := ⟨by decide +kernel, 1, by decide +kernel⟩
