noncomputable section
section
theorem zq_2 : cm_wc cm_Kk.1 641 cm_m113 cm_n113 = true := by decide +kernel
end
end
