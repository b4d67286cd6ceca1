/-! printed: the law's own checks -/
theorem ckr_247_512 : ck_r 247 512 25 = true := by decide +kernel
theorem ckr_247_537 : ck_r 247 537 25 = true := by decide +kernel
theorem ckr_247_562 : ck_r 247 562 25 = true := by decide +kernel
theorem ckr_247_587 : ck_r 247 587 25 = true := by decide +kernel
