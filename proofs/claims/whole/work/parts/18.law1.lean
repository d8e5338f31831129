theorem kc_law_156 : ((kd_La_law.drop 156).take 52).all (mm_ok1 code) = true := by decide +kernel
theorem kc_law_208 : ((kd_La_law.drop 208).take 52).all (mm_ok1 code) = true := by decide +kernel
theorem kc_law_260 : ((kd_La_law.drop 260).take 52).all (mm_ok1 code) = true := by decide +kernel
