/-! printed: the law's own checks -/
theorem ckr_247_412 : ck_r 247 412 25 = true := by decide +kernel
theorem ckr_247_437 : ck_r 247 437 25 = true := by decide +kernel
theorem ckr_247_462 : ck_r 247 462 25 = true := by decide +kernel
theorem ckr_247_487 : ck_r 247 487 25 = true := by decide +kernel
