theorem kc_law_0 : ((kd_La_law.drop 0).take 52).all (mm_ok1 code) = true := by decide +kernel
theorem kc_law_52 : ((kd_La_law.drop 52).take 52).all (mm_ok1 code) = true := by decide +kernel
theorem kc_law_104 : ((kd_La_law.drop 104).take 52).all (mm_ok1 code) = true := by decide +kernel
