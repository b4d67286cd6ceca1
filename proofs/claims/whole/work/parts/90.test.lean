theorem ck_0 : ck_m 0 = true := by decide +kernel
theorem ck_23 : ck_m 23 = true := by decide +kernel
theorem ck_53 : ck_m 53 = true := by decide +kernel
