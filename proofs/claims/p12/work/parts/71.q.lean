noncomputable section
section
theorem zq_1 : cm_wc cm_Kk.1 1234 cm_m202 cm_n202 = true := by decide +kernel
end
end
