/-! printed: the law's own checks -/
theorem ckr_247_12 : ck_r 247 12 25 = true := by decide +kernel
theorem ckr_247_37 : ck_r 247 37 25 = true := by decide +kernel
theorem ckr_247_62 : ck_r 247 62 25 = true := by decide +kernel
theorem ckr_247_87 : ck_r 247 87 25 = true := by decide +kernel
