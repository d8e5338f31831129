theorem kc_law_312 : ((kd_La_law.drop 312).take 52).all (mm_ok1 code) = true := by decide +kernel
theorem kc_law_364 : ((kd_La_law.drop 364).take 52).all (mm_ok1 code) = true := by decide +kernel
theorem kc_law_416 : ((kd_La_law.drop 416).take 52).all (mm_ok1 code) = true := by decide +kernel
