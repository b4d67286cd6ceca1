/-! printed: the law's own checks -/
theorem ckr_247_0 : ck_r 247 0 12 = true := by decide +kernel
