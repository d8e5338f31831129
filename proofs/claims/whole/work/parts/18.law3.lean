theorem kc_law_468 : ((kd_La_law.drop 468).take 52).all (mm_ok1 code) = true := by decide +kernel
theorem kc_law_520 : ((kd_La_law.drop 520).take 52).all (mm_ok1 code) = true := by decide +kernel
theorem kc_law_572 : ((kd_La_law.drop 572).take 52).all (mm_ok1 code) = true := by decide +kernel
