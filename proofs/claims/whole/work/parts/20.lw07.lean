/-! printed: the law's own checks -/
theorem ckr_247_612 : ck_r 247 612 25 = true := by decide +kernel
theorem ckr_247_637 : ck_r 247 637 25 = true := by decide +kernel
theorem ckr_247_662 : ck_r 247 662 25 = true := by decide +kernel
theorem ckr_247_687 : ck_r 247 687 25 = true := by decide +kernel
