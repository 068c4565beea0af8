/-! LAYER 2, contracts checked. -/
theorem am_q617 : am_okC am_c617 = true ∧ ∃ w, am_chk am_K0 am_cs0 am_dirs0 am_ids0 am_dsr0 1000000 w am_c617 = true := ⟨by decide +kernel, 1, by decide +kernel⟩
theorem am_q618 : am_okC am_c618 = true ∧ ∃ w, am_chk am_K0 am_cs0 am_dirs0 am_ids0 am_dsr0 1000000 w am_c618 = true := ⟨by decide +kernel, 1, by decide +kernel⟩
theorem am_q619 : am_okC am_c619 = true ∧ ∃ w, am_chk am_K0 am_cs0 am_dirs0 am_ids0 am_dsr0 1000000 w am_c619 = true := ⟨by decide +kernel, 1, by decide +kernel⟩
theorem am_q620 : am_okC am_c620 = true ∧ ∃ w, am_chk am_K0 am_cs0 am_dirs0 am_ids0 am_dsr0 1000000 w am_c620 = true := ⟨by decide +kernel, 1, by decide +kernel⟩
theorem am_q621 : am_okC am_c621 = true ∧ ∃ w, am_chk am_K0 am_cs0 am_dirs0 am_ids0 am_dsr0 1000000 w am_c621 = true := ⟨by decide +kernel, 1, by decide +kernel⟩
theorem am_q622 : am_okC am_c622 = true ∧ ∃ w, am_chk am_K0 am_cs0 am_dirs0 am_ids0 am_dsr0 1000000 w am_c622 = true := ⟨by decide +kernel, 1, by decide +kernel⟩
theorem am_q623 : am_okC am_c623 = true ∧ ∃ w, am_chk am_K0 am_cs0 am_dirs0 am_ids0 am_dsr0 1000000 w am_c623 = true := ⟨by decide +kernel, 1, by decide +kernel⟩
theorem am_q624 : am_okC am_c624 = true ∧ ∃ w, am_chk am_K0 am_cs0 am_dirs0 am_ids0 am_dsr0 1000000 w am_c624 = true := ⟨by decide +kernel, 1, by decide +kernel⟩
theorem am_q625 : am_okC am_c625 = true ∧ ∃ w, am_chk am_K0 am_cs0 am_dirs0 am_ids0 am_dsr0 1000000 w am_c625 = true := ⟨by decide +kernel, 1, by decide +kernel⟩
theorem am_q626 : am_okC am_c626 = true ∧ ∃ w, am_chk am_K0 am_cs0 am_dirs0 am_ids0 am_dsr0 1000000 w am_c626 = true := ⟨by decide +kernel, 1, by decide +kernel⟩
theorem am_q627 : am_okC am_c627 = true ∧ ∃ w, am_chk am_K0 am_cs0 am_dirs0 am_ids0 am_dsr0 1000000 w am_c627 = true := ⟨by decide +kernel, 1, by decide +kernel⟩
theorem am_q628 : am_okC am_c628 = true ∧ ∃ w, am_chk am_K0 am_cs0 am_dirs0 am_ids0 am_dsr0 1000000 w am_c628 = true := ⟨by decide +kernel, 1, by decide +kernel⟩
theorem am_q629 : am_okC am_c629 = true ∧ ∃ w, am_chk am_K0 am_cs0 am_dirs0 am_ids0 am_dsr0 1000000 w am_c629 = true := ⟨by decide +kernel, 1, by decide +kernel⟩
theorem am_q630 : am_okC am_c630 = true ∧ ∃ w, am_chk am_K0 am_cs0 am_dirs0 am_ids0 am_dsr0 1000000 w am_c630 = true := ⟨by decide +kernel, 1, by decide +kernel⟩
theorem am_q631 : am_okC am_c631 = true ∧ ∃ w, am_chk am_K0 am_cs0 am_dirs0 am_ids0 am_dsr0 1000000 w am_c631 = true := ⟨by decide +kernel, 1, by decide +kernel⟩
theorem am_q632 : am_okC am_c632 = true ∧ ∃ w, am_chk am_K0 am_cs0 am_dirs0 am_ids0 am_dsr0 1000000 w am_c632 = true := ⟨by decide +kernel, 1, by decide +kernel⟩
