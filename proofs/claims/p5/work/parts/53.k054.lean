/-! LAYER 2, contracts checked. -/
theorem am_q734 : am_okC am_c734 = true ∧ ∃ w, am_chk am_K0 am_cs0 am_dirs0 am_ids0 am_dsr0 1000000 w am_c734 = true := ⟨by decide +kernel, 1, by decide +kernel⟩
theorem am_q735 : am_okC am_c735 = true ∧ ∃ w, am_chk am_K0 am_cs0 am_dirs0 am_ids0 am_dsr0 1000000 w am_c735 = true := ⟨by decide +kernel, 1, by decide +kernel⟩
theorem am_q736 : am_okC am_c736 = true ∧ ∃ w, am_chk am_K0 am_cs0 am_dirs0 am_ids0 am_dsr0 1000000 w am_c736 = true := ⟨by decide +kernel, 1, by decide +kernel⟩
theorem am_q737 : am_okC am_c737 = true ∧ ∃ w, am_chk am_K0 am_cs0 am_dirs0 am_ids0 am_dsr0 1000000 w am_c737 = true := ⟨by decide +kernel, 1, by decide +kernel⟩
theorem am_q738 : am_okC am_c738 = true ∧ ∃ w, am_chk am_K0 am_cs0 am_dirs0 am_ids0 am_dsr0 1000000 w am_c738 = true := ⟨by decide +kernel, 1, by decide +kernel⟩
theorem am_q739 : am_okC am_c739 = true ∧ ∃ w, am_chk am_K0 am_cs0 am_dirs0 am_ids0 am_dsr0 1000000 w am_c739 = true := ⟨by decide +kernel, 1, by decide +kernel⟩
theorem am_q740 : am_okC am_c740 = true ∧ ∃ w, am_chk am_K0 am_cs0 am_dirs0 am_ids0 am_dsr0 1000000 w am_c740 = true := ⟨by decide +kernel, 1, by decide +kernel⟩
theorem am_q741 : am_okC am_c741 = true ∧ ∃ w, am_chk am_K0 am_cs0 am_dirs0 am_ids0 am_dsr0 1000000 w am_c741 = true := ⟨by decide +kernel, 1, by decide +kernel⟩
theorem am_q742 : am_okC am_c742 = true ∧ ∃ w, am_chk am_K0 am_cs0 am_dirs0 am_ids0 am_dsr0 1000000 w am_c742 = true := ⟨by decide +kernel, 1, by decide +kernel⟩
theorem am_q743 : am_okC am_c743 = true ∧ ∃ w, am_chk am_K0 am_cs0 am_dirs0 am_ids0 am_dsr0 1000000 w am_c743 = true := ⟨by decide +kernel, 1, by decide +kernel⟩
theorem am_q744 : am_okC am_c744 = true ∧ ∃ w, am_chk am_K0 am_cs0 am_dirs0 am_ids0 am_dsr0 1000000 w am_c744 = true := ⟨by decide +kernel, 1, by decide +kernel⟩
theorem am_q745 : am_okC am_c745 = true ∧ ∃ w, am_chk am_K0 am_cs0 am_dirs0 am_ids0 am_dsr0 1000000 w am_c745 = true := ⟨by decide +kernel, 1, by decide +kernel⟩
theorem am_q746 : am_okC am_c746 = true ∧ ∃ w, am_chk am_K0 am_cs0 am_dirs0 am_ids0 am_dsr0 1000000 w am_c746 = true := ⟨by decide +kernel, 1, by decide +kernel⟩
theorem am_q747 : am_okC am_c747 = true ∧ ∃ w, am_chk am_K0 am_cs0 am_dirs0 am_ids0 am_dsr0 1000000 w am_c747 = true := ⟨by decide +kernel, 1, by decide +kernel⟩
theorem am_q748 : am_okC am_c748 = true ∧ ∃ w, am_chk am_K0 am_cs0 am_dirs0 am_ids0 am_dsr0 1000000 w am_c748 = true := ⟨by decide +kernel, 1, by decide +kernel⟩
theorem am_q749 : am_okC am_c749 = true ∧ ∃ w, am_chk am_K0 am_cs0 am_dirs0 am_ids0 am_dsr0 1000000 w am_c749 = true := ⟨by decide +kernel, 1, by decide +kernel⟩
