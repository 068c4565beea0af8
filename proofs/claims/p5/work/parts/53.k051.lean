/-! LAYER 2, contracts checked. -/
theorem am_q702 : am_okC am_c702 = true ∧ ∃ w, am_chk am_K0 am_cs0 am_dirs0 am_ids0 am_dsr0 1000000 w am_c702 = true := ⟨by decide +kernel, 1, by decide +kernel⟩
theorem am_q703 : am_okC am_c703 = true ∧ ∃ w, am_chk am_K0 am_cs0 am_dirs0 am_ids0 am_dsr0 1000000 w am_c703 = true := ⟨by decide +kernel, 1, by decide +kernel⟩
theorem am_q704 : am_okC am_c704 = true ∧ ∃ w, am_chk am_K0 am_cs0 am_dirs0 am_ids0 am_dsr0 1000000 w am_c704 = true := ⟨by decide +kernel, 1, by decide +kernel⟩
theorem am_q705 : am_okC am_c705 = true ∧ ∃ w, am_chk am_K0 am_cs0 am_dirs0 am_ids0 am_dsr0 1000000 w am_c705 = true := ⟨by decide +kernel, 1, by decide +kernel⟩
theorem am_q706 : am_okC am_c706 = true ∧ ∃ w, am_chk am_K0 am_cs0 am_dirs0 am_ids0 am_dsr0 1000000 w am_c706 = true := ⟨by decide +kernel, 1, by decide +kernel⟩
theorem am_q707 : am_okC am_c707 = true ∧ ∃ w, am_chk am_K0 am_cs0 am_dirs0 am_ids0 am_dsr0 1000000 w am_c707 = true := ⟨by decide +kernel, 1, by decide +kernel⟩
theorem am_q708 : am_okC am_c708 = true ∧ ∃ w, am_chk am_K0 am_cs0 am_dirs0 am_ids0 am_dsr0 1000000 w am_c708 = true := ⟨by decide +kernel, 1, by decide +kernel⟩
theorem am_q709 : am_okC am_c709 = true ∧ ∃ w, am_chk am_K0 am_cs0 am_dirs0 am_ids0 am_dsr0 1000000 w am_c709 = true := ⟨by decide +kernel, 1, by decide +kernel⟩
theorem am_q710 : am_okC am_c710 = true ∧ ∃ w, am_chk am_K0 am_cs0 am_dirs0 am_ids0 am_dsr0 1000000 w am_c710 = true := ⟨by decide +kernel, 1, by decide +kernel⟩
theorem am_q711 : am_okC am_c711 = true ∧ ∃ w, am_chk am_K0 am_cs0 am_dirs0 am_ids0 am_dsr0 1000000 w am_c711 = true := ⟨by decide +kernel, 1, by decide +kernel⟩
theorem am_q712 : am_okC am_c712 = true ∧ ∃ w, am_chk am_K0 am_cs0 am_dirs0 am_ids0 am_dsr0 1000000 w am_c712 = true := ⟨by decide +kernel, 1, by decide +kernel⟩
