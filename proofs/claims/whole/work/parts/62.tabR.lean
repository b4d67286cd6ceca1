theorem ckR_0 : ab ckR 10 0 = true := by decide +kernel
theorem ckR_1 : ab ckR 10 1024 = true := by decide +kernel
theorem ckR_2 : ab ckR 10 2048 = true := by decide +kernel
theorem ckR_3 : ab ckR 10 3072 = true := by decide +kernel
theorem ckR_4 : ab ckR 10 4096 = true := by decide +kernel
theorem ckR_5 : ab ckR 10 5120 = true := by decide +kernel
theorem ckR_6 : ab ckR 10 6144 = true := by decide +kernel
theorem ckR_7 : ab ckR 10 7168 = true := by decide +kernel
