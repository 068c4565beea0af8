/-! LAYER 2, contracts checked. -/
theorem am_q930 : am_okC am_c930 = true ∧ ∃ w, am_chk am_K0 am_cs0 am_dirs0 am_ids0 am_dsr0 1000000 w am_c930 = true := ⟨by decide +kernel, 1, by decide +kernel⟩
theorem am_q931 : am_okC am_c931 = true ∧ ∃ w, am_chk am_K0 am_cs0 am_dirs0 am_ids0 am_dsr0 1000000 w am_c931 = true := ⟨by decide +kernel, 1, by decide +kernel⟩
theorem am_q932 : am_okC am_c932 = true ∧ ∃ w, am_chk am_K0 am_cs0 am_dirs0 am_ids0 am_dsr0 1000000 w am_c932 = true := ⟨by decide +kernel, 1, by decide +kernel⟩
theorem am_q933 : am_okC am_c933 = true ∧ ∃ w, am_chk am_K0 am_cs0 am_dirs0 am_ids0 am_dsr0 1000000 w am_c933 = true := ⟨by decide +kernel, 1, by decide +kernel⟩
theorem am_q934 : am_okC am_c934 = true ∧ ∃ w, am_chk am_K0 am_cs0 am_dirs0 am_ids0 am_dsr0 1000000 w am_c934 = true := ⟨by decide +kernel, 1, by decide +kernel⟩
theorem am_q935 : am_okC am_c935 = true ∧ ∃ w, am_chk am_K0 am_cs0 am_dirs0 am_ids0 am_dsr0 1000000 w am_c935 = true := ⟨by decide +kernel, 1, by decide +kernel⟩
theorem am_q936 : am_okC am_c936 = true ∧ ∃ w, am_chk am_K0 am_cs0 am_dirs0 am_ids0 am_dsr0 1000000 w am_c936 = true := ⟨by decide +kernel, 1, by decide +kernel⟩
theorem am_q937 : am_okC am_c937 = true ∧ ∃ w, am_chk am_K0 am_cs0 am_dirs0 am_ids0 am_dsr0 1000000 w am_c937 = true := ⟨by decide +kernel, 1, by decide +kernel⟩
theorem am_q938 : am_okC am_c938 = true ∧ ∃ w, am_chk am_K0 am_cs0 am_dirs0 am_ids0 am_dsr0 1000000 w am_c938 = true := ⟨by decide +kernel, 1, by decide +kernel⟩
theorem am_q939 : am_okC am_c939 = true ∧ ∃ w, am_chk am_K0 am_cs0 am_dirs0 am_ids0 am_dsr0 1000000 w am_c939 = true := ⟨by decide +kernel, 1, by decide +kernel⟩
theorem am_q940 : am_okC am_c940 = true ∧ ∃ w, am_chk am_K0 am_cs0 am_dirs0 am_ids0 am_dsr0 1000000 w am_c940 = true := ⟨by decide +kernel, 1, by decide +kernel⟩
theorem am_q941 : am_okC am_c941 = true ∧ ∃ w, am_chk am_K0 am_cs0 am_dirs0 am_ids0 am_dsr0 1000000 w am_c941 = true := ⟨by decide +kernel, 1, by decide +kernel⟩
theorem am_q942 : am_okC am_c942 = true ∧ ∃ w, am_chk am_K0 am_cs0 am_dirs0 am_ids0 am_dsr0 1000000 w am_c942 = true := ⟨by decide +kernel, 1, by decide +kernel⟩
theorem am_q943 : am_okC am_c943 = true ∧ ∃ w, am_chk am_K0 am_cs0 am_dirs0 am_ids0 am_dsr0 1000000 w am_c943 = true := ⟨by decide +kernel, 1, by decide +kernel⟩
theorem am_q944 : am_okC am_c944 = true ∧ ∃ w, am_chk am_K0 am_cs0 am_dirs0 am_ids0 am_dsr0 1000000 w am_c944 = true := ⟨by decide +kernel, 1, by decide +kernel⟩
theorem am_q945 : am_okC am_c945 = true ∧ ∃ w, am_chk am_K0 am_cs0 am_dirs0 am_ids0 am_dsr0 1000000 w am_c945 = true := ⟨by decide +kernel, 1, by decide +kernel⟩
