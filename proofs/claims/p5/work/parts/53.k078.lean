/-! LAYER 2, contracts checked. -/
theorem am_q946 : am_okC am_c946 = true ∧ ∃ w, am_chk am_K0 am_cs0 am_dirs0 am_ids0 am_dsr0 1000000 w am_c946 = true := ⟨by decide +kernel, 1, by decide +kernel⟩
theorem am_q947 : am_okC am_c947 = true ∧ ∃ w, am_chk am_K0 am_cs0 am_dirs0 am_ids0 am_dsr0 1000000 w am_c947 = true := ⟨by decide +kernel, 1, by decide +kernel⟩
theorem am_q948 : am_okC am_c948 = true ∧ ∃ w, am_chk am_K0 am_cs0 am_dirs0 am_ids0 am_dsr0 1000000 w am_c948 = true := ⟨by decide +kernel, 1, by decide +kernel⟩
theorem am_q949 : am_okC am_c949 = true ∧ ∃ w, am_chk am_K0 am_cs0 am_dirs0 am_ids0 am_dsr0 1000000 w am_c949 = true := ⟨by decide +kernel, 1, by decide +kernel⟩
theorem am_q950 : am_okC am_c950 = true ∧ ∃ w, am_chk am_K0 am_cs0 am_dirs0 am_ids0 am_dsr0 1000000 w am_c950 = true := ⟨by decide +kernel, 1, by decide +kernel⟩
theorem am_q951 : am_okC am_c951 = true ∧ ∃ w, am_chk am_K0 am_cs0 am_dirs0 am_ids0 am_dsr0 1000000 w am_c951 = true := ⟨by decide +kernel, 1, by decide +kernel⟩
theorem am_q952 : am_okC am_c952 = true ∧ ∃ w, am_chk am_K0 am_cs0 am_dirs0 am_ids0 am_dsr0 1000000 w am_c952 = true := ⟨by decide +kernel, 1, by decide +kernel⟩
theorem am_q953 : am_okC am_c953 = true ∧ ∃ w, am_chk am_K0 am_cs0 am_dirs0 am_ids0 am_dsr0 1000000 w am_c953 = true := ⟨by decide +kernel, 1, by decide +kernel⟩
theorem am_q954 : am_okC am_c954 = true ∧ ∃ w, am_chk am_K0 am_cs0 am_dirs0 am_ids0 am_dsr0 1000000 w am_c954 = true := ⟨by decide +kernel, 1, by decide +kernel⟩
theorem am_q955 : am_okC am_c955 = true ∧ ∃ w, am_chk am_K0 am_cs0 am_dirs0 am_ids0 am_dsr0 1000000 w am_c955 = true := ⟨by decide +kernel, 3, by decide +kernel⟩
theorem am_q956 : am_okC am_c956 = true ∧ ∃ w, am_chk am_K0 am_cs0 am_dirs0 am_ids0 am_dsr0 1000000 w am_c956 = true := ⟨by decide +kernel, 1, by decide +kernel⟩
theorem am_q957 : am_okC am_c957 = true ∧ ∃ w, am_chk am_K0 am_cs0 am_dirs0 am_ids0 am_dsr0 1000000 w am_c957 = true := ⟨by decide +kernel, 1, by decide +kernel⟩
theorem am_q958 : am_okC am_c958 = true ∧ ∃ w, am_chk am_K0 am_cs0 am_dirs0 am_ids0 am_dsr0 1000000 w am_c958 = true := ⟨by decide +kernel, 3, by decide +kernel⟩
theorem am_q959 : am_okC am_c959 = true ∧ ∃ w, am_chk am_K0 am_cs0 am_dirs0 am_ids0 am_dsr0 1000000 w am_c959 = true := ⟨by decide +kernel, 1, by decide +kernel⟩
theorem am_q960 : am_okC am_c960 = true ∧ ∃ w, am_chk am_K0 am_cs0 am_dirs0 am_ids0 am_dsr0 1000000 w am_c960 = true := ⟨by decide +kernel, 1, by decide +kernel⟩
theorem am_q961 : am_okC am_c961 = true ∧ ∃ w, am_chk am_K0 am_cs0 am_dirs0 am_ids0 am_dsr0 1000000 w am_c961 = true := ⟨by decide +kernel, 5, by decide +kernel⟩
theorem am_q962 : am_okC am_c962 = true ∧ ∃ w, am_chk am_K0 am_cs0 am_dirs0 am_ids0 am_dsr0 1000000 w am_c962 = true := ⟨by decide +kernel, 5, by decide +kernel⟩
