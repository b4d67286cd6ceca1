/-! printed: the law's own checks -/
theorem ckr_247_312 : ck_r 247 312 25 = true := by decide +kernel
theorem ckr_247_337 : ck_r 247 337 25 = true := by decide +kernel
theorem ckr_247_362 : ck_r 247 362 25 = true := by decide +kernel
theorem ckr_247_387 : ck_r 247 387 25 = true := by decide +kernel
