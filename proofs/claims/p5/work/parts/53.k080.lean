/-! LAYER 2, contracts checked. -/
theorem am_q975 : am_okC am_c975 = true ∧ ∃ w, am_chk am_K0 am_cs0 am_dirs0 am_ids0 am_dsr0 1000000 w am_c975 = true := ⟨by decide +kernel, 1, by decide +kernel⟩
theorem am_q976 : am_okC am_c976 = true ∧ ∃ w, am_chk am_K0 am_cs0 am_dirs0 am_ids0 am_dsr0 1000000 w am_c976 = true := ⟨by decide +kernel, 1, by decide +kernel⟩
theorem am_q977 : am_okC am_c977 = true ∧ ∃ w, am_chk am_K0 am_cs0 am_dirs0 am_ids0 am_dsr0 1000000 w am_c977 = true := ⟨by decide +kernel, 1, by decide +kernel⟩
theorem am_q978 : am_okC am_c978 = true ∧ ∃ w, am_chk am_K0 am_cs0 am_dirs0 am_ids0 am_dsr0 1000000 w am_c978 = true := ⟨by decide +kernel, 1, by decide +kernel⟩
theorem am_q979 : am_okC am_c979 = true ∧ ∃ w, am_chk am_K0 am_cs0 am_dirs0 am_ids0 am_dsr0 1000000 w am_c979 = true := ⟨by decide +kernel, 1, by decide +kernel⟩
theorem am_q980 : am_okC am_c980 = true ∧ ∃ w, am_chk am_K0 am_cs0 am_dirs0 am_ids0 am_dsr0 1000000 w am_c980 = true := ⟨by decide +kernel, 1, by decide +kernel⟩
theorem am_q981 : am_okC am_c981 = true ∧ ∃ w, am_chk am_K0 am_cs0 am_dirs0 am_ids0 am_dsr0 1000000 w am_c981 = true := ⟨by decide +kernel, 1, by decide +kernel⟩
theorem am_q982 : am_okC am_c982 = true ∧ ∃ w, am_chk am_K0 am_cs0 am_dirs0 am_ids0 am_dsr0 1000000 w am_c982 = true := ⟨by decide +kernel, 1, by decide +kernel⟩
theorem am_q983 : am_okC am_c983 = true ∧ ∃ w, am_chk am_K0 am_cs0 am_dirs0 am_ids0 am_dsr0 1000000 w am_c983 = true := ⟨by decide +kernel, 1, by decide +kernel⟩
theorem am_q984 : am_okC am_c984 = true ∧ ∃ w, am_chk am_K0 am_cs0 am_dirs0 am_ids0 am_dsr0 1000000 w am_c984 = true := ⟨by decide +kernel, 1, by decide +kernel⟩
theorem am_q985 : am_okC am_c985 = true ∧ ∃ w, am_chk am_K0 am_cs0 am_dirs0 am_ids0 am_dsr0 1000000 w am_c985 = true := ⟨by decide +kernel, 1, by decide +kernel⟩
theorem am_q986 : am_okC am_c986 = true ∧ ∃ w, am_chk am_K0 am_cs0 am_dirs0 am_ids0 am_dsr0 1000000 w am_c986 = true := ⟨by decide +kernel, 1, by decide +kernel⟩
theorem am_q987 : am_okC am_c987 = true ∧ ∃ w, am_chk am_K0 am_cs0 am_dirs0 am_ids0 am_dsr0 1000000 w am_c987 = true := ⟨by decide +kernel, 1, by decide +kernel⟩
theorem am_q988 : am_okC am_c988 = true ∧ ∃ w, am_chk am_K0 am_cs0 am_dirs0 am_ids0 am_dsr0 1000000 w am_c988 = true := ⟨by decide +kernel, 1, by decide +kernel⟩
theorem am_q989 : am_okC am_c989 = true ∧ ∃ w, am_chk am_K0 am_cs0 am_dirs0 am_ids0 am_dsr0 1000000 w am_c989 = true := ⟨by decide +kernel, 1, by decide +kernel⟩
theorem am_q990 : am_okC am_c990 = true ∧ ∃ w, am_chk am_K0 am_cs0 am_dirs0 am_ids0 am_dsr0 1000000 w am_c990 = true := ⟨by decide +kernel, 1, by decide +kernel⟩
theorem am_q991 : am_okC am_c991 = true ∧ ∃ w, am_chk am_K0 am_cs0 am_dirs0 am_ids0 am_dsr0 1000000 w am_c991 = true := ⟨by decide +kernel, 1, by decide +kernel⟩
