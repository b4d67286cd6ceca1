/-! printed: the law's own checks -/
theorem ckr_247_212 : ck_r 247 212 25 = true := by decide +kernel
theorem ckr_247_237 : ck_r 247 237 25 = true := by decide +kernel
theorem ckr_247_262 : ck_r 247 262 25 = true := by decide +kernel
theorem ckr_247_287 : ck_r 247 287 25 = true := by decide +kernel
