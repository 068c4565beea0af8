theorem cm_k250 : cm_mok cm_Kk cm_m250 cm_n250 658 = true := by decide +kernel
theorem cm_k251 : cm_mok cm_Kk cm_m251 cm_n251 574 = true := by decide +kernel
