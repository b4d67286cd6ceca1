theorem ckI_0 : ab ckI 10 0 = true := by decide +kernel
theorem ckI_1 : ab ckI 10 1024 = true := by decide +kernel
theorem ckI_2 : ab ckI 10 2048 = true := by decide +kernel
theorem ckI_3 : ab ckI 10 3072 = true := by decide +kernel
theorem ckI_4 : ab ckI 10 4096 = true := by decide +kernel
theorem ckI_5 : ab ckI 10 5120 = true := by decide +kernel
theorem ckI_6 : ab ckI 10 6144 = true := by decide +kernel
theorem ckI_7 : ab ckI 10 7168 = true := by decide +kernel
