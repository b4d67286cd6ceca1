/-! printed: the law's own checks -/
theorem ckr_247_112 : ck_r 247 112 25 = true := by decide +kernel
theorem ckr_247_137 : ck_r 247 137 25 = true := by decide +kernel
theorem ckr_247_162 : ck_r 247 162 25 = true := by decide +kernel
theorem ckr_247_187 : ck_r 247 187 25 = true := by decide +kernel
