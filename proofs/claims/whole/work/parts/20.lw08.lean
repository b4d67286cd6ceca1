/-! printed: the law's own checks -/
theorem ckr_247_712 : ck_r 247 712 25 = true := by decide +kernel
theorem ckr_247_737 : ck_r 247 737 25 = true := by decide +kernel
theorem ckr_247_762 : ck_r 247 762 25 = true := by decide +kernel
theorem ckr_247_787 : ck_r 247 787 25 = true := by decide +kernel
