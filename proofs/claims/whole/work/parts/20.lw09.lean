/-! printed: the law's own checks -/
theorem ckr_247_812 : ck_r 247 812 25 = true := by decide +kernel
theorem ckr_247_837 : ck_r 247 837 25 = true := by decide +kernel
theorem ckr_247_862 : ck_r 247 862 25 = true := by decide +kernel
theorem ckr_247_887 : ck_r 247 887 18 = true := by decide +kernel
