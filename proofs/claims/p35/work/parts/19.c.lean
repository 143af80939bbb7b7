theorem k_5_0 : cRows5 0 10 = true := by decide +kernel
theorem k_5_1 : cRows5 10 10 = true := by decide +kernel
theorem k_5_2 : cRows5 20 10 = true := by decide +kernel
theorem k_5_3 : cRows5 30 10 = true := by decide +kernel
theorem k_5_4 : cRows5 40 10 = true := by decide +kernel
theorem k_5_5 : cRows5 50 10 = true := by decide +kernel
theorem k_5_6 : cRows5 60 10 = true := by decide +kernel
theorem k_5_7 : cRows5 70 10 = true := by decide +kernel
theorem k_5_8 : cRows5 80 10 = true := by decide +kernel
theorem k_5_9 : cRows5 90 10 = true := by decide +kernel
theorem k_5_10 : cRows5 100 10 = true := by decide +kernel
theorem k_5_11 : cRows5 110 10 = true := by decide +kernel

