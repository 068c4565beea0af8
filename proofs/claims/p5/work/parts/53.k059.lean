/-! LAYER 2, contracts checked. -/
theorem am_q780 : am_okC am_c780 = true ∧ ∃ w, am_chk am_K0 am_cs0 am_dirs0 am_ids0 am_dsr0 1000000 w am_c780 = true := ⟨by decide +kernel, 1, by decide +kernel⟩
theorem am_q781 : am_okC am_c781 = true ∧ ∃ w, am_chk am_K0 am_cs0 am_dirs0 am_ids0 am_dsr0 1000000 w am_c781 = true := ⟨by decide +kernel, 1, by decide +kernel⟩
theorem am_q782 : am_okC am_c782 = true ∧ ∃ w, am_chk am_K0 am_cs0 am_dirs0 am_ids0 am_dsr0 1000000 w am_c782 = true := ⟨by decide +kernel, 1, by decide +kernel⟩
theorem am_q783 : am_okC am_c783 = true ∧ ∃ w, am_chk am_K0 am_cs0 am_dirs0 am_ids0 am_dsr0 1000000 w am_c783 = true := ⟨by decide +kernel, 1, by decide +kernel⟩
theorem am_q784 : am_okC am_c784 = true ∧ ∃ w, am_chk am_K0 am_cs0 am_dirs0 am_ids0 am_dsr0 1000000 w am_c784 = true := ⟨by decide +kernel, 1, by decide +kernel⟩
theorem am_q785 : am_okC am_c785 = true ∧ ∃ w, am_chk am_K0 am_cs0 am_dirs0 am_ids0 am_dsr0 1000000 w am_c785 = true := ⟨by decide +kernel, 1, by decide +kernel⟩
theorem am_q786 : am_okC am_c786 = true ∧ ∃ w, am_chk am_K0 am_cs0 am_dirs0 am_ids0 am_dsr0 1000000 w am_c786 = true := ⟨by decide +kernel, 1, by decide +kernel⟩
theorem am_q787 : am_okC am_c787 = true ∧ ∃ w, am_chk am_K0 am_cs0 am_dirs0 am_ids0 am_dsr0 1000000 w am_c787 = true := ⟨by decide +kernel, 1, by decide +kernel⟩
theorem am_q788 : am_okC am_c788 = true ∧ ∃ w, am_chk am_K0 am_cs0 am_dirs0 am_ids0 am_dsr0 1000000 w am_c788 = true := ⟨by decide +kernel, 1, by decide +kernel⟩
theorem am_q789 : am_okC am_c789 = true ∧ ∃ w, am_chk am_K0 am_cs0 am_dirs0 am_ids0 am_dsr0 1000000 w am_c789 = true := ⟨by decide +kernel, 1, by decide +kernel⟩
theorem am_q790 : am_okC am_c790 = true ∧ ∃ w, am_chk am_K0 am_cs0 am_dirs0 am_ids0 am_dsr0 1000000 w am_c790 = true := ⟨by decide +kernel, 1, by decide +kernel⟩
