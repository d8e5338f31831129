def itL (i : Nat) : List Op := (1, 4, i, 148 + 3 * i) :: (suL (148 + 3 * i) ++ [(0, 5, 0, 0)])
def ITI (h : MH) (i : Nat) : Prop := hN h = 148 + 3 * i ∧ hK h 2 = 7 ∧ hR h 2 2 = some 4 ∧ hK h 4 = 12 ∧ hL h 4 = 20
theorem dt_it0 {h : MH} (g : ITI h 0) (Q : Option Value → MH → Prop) (k : ITI (hg h (itL 0)) 1 → WP m_DT_init (89, [some (.ref 2), some (.int (nI 1))], [], hg h (itL 0), 148, 3243) Q) : WP m_DT_init (89, [some (.ref 2), some (.int (nI 0))], [], h, 145, 3230) Q := by
  obtain ⟨hn, h2, h22, h4, l4⟩ := g
  change hN h = 148 at hn
  have k2 := k ⟨by rw [hg_N, hn]; rfl, (hg_K (by omega) _).1.trans h2, hR_z hn _ 2 2 h22, (hg_K (by omega) _).1.trans h4, (hg_K (by omega) _).2.trans l4⟩
  change WP m_DT_init (89, [some (.ref 2), some (.int (nI 0))], [], hg h [], 145, 3230) Q
  iterate 2 (refine WP.st rfl ?_)
  refine WP.icf rfl (show ¬ (20 : Int32) ≤ (0 : Int32) by decide) ?_
  refine WP.st rfl ?_
  refine WP.get (v := .ref 4) rfl rfl h2 (congrArg mm_rv h22) ?_
  refine WP.st rfl ?_
  refine WP.nwg (ci := 5) (q := 148) (cu' := 146) (su' := 3235) rfl hn ?_
  refine WP.st rfl ?_
  refine WP.cs rfl rfl rfl rfl rfl ((hg_new hn 5 0).1) rfl rfl rfl (su_init (by rw [hg_N, hn]; rfl) ((hg_new hn 5 0).1)) ?_
  rintro _ _ ⟨rfl, rfl⟩
  rw [← hg_app]
  refine WP.aasg (k := 0) rfl rfl (Or.inl ⟨(hg_K (show 4 < hN h by omega) _).1.trans h4, hK_z hn _ 148 rfl⟩) (show 0 < hL _ 4 by rw [(hg_K (show 4 < hN h by omega) _).2, l4]; decide) (by rw [(hg_K (show 4 < hN h by omega) _).2, l4]; rfl) ?_
  iterate 2 (refine WP.st rfl ?_)
  exact k2
theorem dt_it1 {h : MH} (g : ITI h 1) (Q : Option Value → MH → Prop) (k : ITI (hg h (itL 1)) 2 → WP m_DT_init (89, [some (.ref 2), some (.int (nI 2))], [], hg h (itL 1), 151, 3256) Q) : WP m_DT_init (89, [some (.ref 2), some (.int (nI 1))], [], h, 148, 3243) Q := by
  obtain ⟨hn, h2, h22, h4, l4⟩ := g
  change hN h = 151 at hn
  have k2 := k ⟨by rw [hg_N, hn]; rfl, (hg_K (by omega) _).1.trans h2, hR_z hn _ 2 2 h22, (hg_K (by omega) _).1.trans h4, (hg_K (by omega) _).2.trans l4⟩
  change WP m_DT_init (89, [some (.ref 2), some (.int (nI 1))], [], hg h [], 148, 3243) Q
  iterate 2 (refine WP.st rfl ?_)
  refine WP.icf rfl (show ¬ (20 : Int32) ≤ (1 : Int32) by decide) ?_
  refine WP.st rfl ?_
  refine WP.get (v := .ref 4) rfl rfl h2 (congrArg mm_rv h22) ?_
  refine WP.st rfl ?_
  refine WP.nwg (ci := 5) (q := 151) (cu' := 149) (su' := 3248) rfl hn ?_
  refine WP.st rfl ?_
  refine WP.cs rfl rfl rfl rfl rfl ((hg_new hn 5 0).1) rfl rfl rfl (su_init (by rw [hg_N, hn]; rfl) ((hg_new hn 5 0).1)) ?_
  rintro _ _ ⟨rfl, rfl⟩
  rw [← hg_app]
  refine WP.aasg (k := 1) rfl rfl (Or.inl ⟨(hg_K (show 4 < hN h by omega) _).1.trans h4, hK_z hn _ 151 rfl⟩) (show 1 < hL _ 4 by rw [(hg_K (show 4 < hN h by omega) _).2, l4]; decide) (by rw [(hg_K (show 4 < hN h by omega) _).2, l4]; rfl) ?_
  iterate 2 (refine WP.st rfl ?_)
  exact k2
theorem dt_it2 {h : MH} (g : ITI h 2) (Q : Option Value → MH → Prop) (k : ITI (hg h (itL 2)) 3 → WP m_DT_init (89, [some (.ref 2), some (.int (nI 3))], [], hg h (itL 2), 154, 3269) Q) : WP m_DT_init (89, [some (.ref 2), some (.int (nI 2))], [], h, 151, 3256) Q := by
  obtain ⟨hn, h2, h22, h4, l4⟩ := g
  change hN h = 154 at hn
  have k2 := k ⟨by rw [hg_N, hn]; rfl, (hg_K (by omega) _).1.trans h2, hR_z hn _ 2 2 h22, (hg_K (by omega) _).1.trans h4, (hg_K (by omega) _).2.trans l4⟩
  change WP m_DT_init (89, [some (.ref 2), some (.int (nI 2))], [], hg h [], 151, 3256) Q
  iterate 2 (refine WP.st rfl ?_)
  refine WP.icf rfl (show ¬ (20 : Int32) ≤ (2 : Int32) by decide) ?_
  refine WP.st rfl ?_
  refine WP.get (v := .ref 4) rfl rfl h2 (congrArg mm_rv h22) ?_
  refine WP.st rfl ?_
  refine WP.nwg (ci := 5) (q := 154) (cu' := 152) (su' := 3261) rfl hn ?_
  refine WP.st rfl ?_
  refine WP.cs rfl rfl rfl rfl rfl ((hg_new hn 5 0).1) rfl rfl rfl (su_init (by rw [hg_N, hn]; rfl) ((hg_new hn 5 0).1)) ?_
  rintro _ _ ⟨rfl, rfl⟩
  rw [← hg_app]
  refine WP.aasg (k := 2) rfl rfl (Or.inl ⟨(hg_K (show 4 < hN h by omega) _).1.trans h4, hK_z hn _ 154 rfl⟩) (show 2 < hL _ 4 by rw [(hg_K (show 4 < hN h by omega) _).2, l4]; decide) (by rw [(hg_K (show 4 < hN h by omega) _).2, l4]; rfl) ?_
  iterate 2 (refine WP.st rfl ?_)
  exact k2
theorem dt_it3 {h : MH} (g : ITI h 3) (Q : Option Value → MH → Prop) (k : ITI (hg h (itL 3)) 4 → WP m_DT_init (89, [some (.ref 2), some (.int (nI 4))], [], hg h (itL 3), 157, 3282) Q) : WP m_DT_init (89, [some (.ref 2), some (.int (nI 3))], [], h, 154, 3269) Q := by
  obtain ⟨hn, h2, h22, h4, l4⟩ := g
  change hN h = 157 at hn
  have k2 := k ⟨by rw [hg_N, hn]; rfl, (hg_K (by omega) _).1.trans h2, hR_z hn _ 2 2 h22, (hg_K (by omega) _).1.trans h4, (hg_K (by omega) _).2.trans l4⟩
  change WP m_DT_init (89, [some (.ref 2), some (.int (nI 3))], [], hg h [], 154, 3269) Q
  iterate 2 (refine WP.st rfl ?_)
  refine WP.icf rfl (show ¬ (20 : Int32) ≤ (3 : Int32) by decide) ?_
  refine WP.st rfl ?_
  refine WP.get (v := .ref 4) rfl rfl h2 (congrArg mm_rv h22) ?_
  refine WP.st rfl ?_
  refine WP.nwg (ci := 5) (q := 157) (cu' := 155) (su' := 3274) rfl hn ?_
  refine WP.st rfl ?_
  refine WP.cs rfl rfl rfl rfl rfl ((hg_new hn 5 0).1) rfl rfl rfl (su_init (by rw [hg_N, hn]; rfl) ((hg_new hn 5 0).1)) ?_
  rintro _ _ ⟨rfl, rfl⟩
  rw [← hg_app]
  refine WP.aasg (k := 3) rfl rfl (Or.inl ⟨(hg_K (show 4 < hN h by omega) _).1.trans h4, hK_z hn _ 157 rfl⟩) (show 3 < hL _ 4 by rw [(hg_K (show 4 < hN h by omega) _).2, l4]; decide) (by rw [(hg_K (show 4 < hN h by omega) _).2, l4]; rfl) ?_
  iterate 2 (refine WP.st rfl ?_)
  exact k2
theorem dt_it4 {h : MH} (g : ITI h 4) (Q : Option Value → MH → Prop) (k : ITI (hg h (itL 4)) 5 → WP m_DT_init (89, [some (.ref 2), some (.int (nI 5))], [], hg h (itL 4), 160, 3295) Q) : WP m_DT_init (89, [some (.ref 2), some (.int (nI 4))], [], h, 157, 3282) Q := by
  obtain ⟨hn, h2, h22, h4, l4⟩ := g
  change hN h = 160 at hn
  have k2 := k ⟨by rw [hg_N, hn]; rfl, (hg_K (by omega) _).1.trans h2, hR_z hn _ 2 2 h22, (hg_K (by omega) _).1.trans h4, (hg_K (by omega) _).2.trans l4⟩
  change WP m_DT_init (89, [some (.ref 2), some (.int (nI 4))], [], hg h [], 157, 3282) Q
  iterate 2 (refine WP.st rfl ?_)
  refine WP.icf rfl (show ¬ (20 : Int32) ≤ (4 : Int32) by decide) ?_
  refine WP.st rfl ?_
  refine WP.get (v := .ref 4) rfl rfl h2 (congrArg mm_rv h22) ?_
  refine WP.st rfl ?_
  refine WP.nwg (ci := 5) (q := 160) (cu' := 158) (su' := 3287) rfl hn ?_
  refine WP.st rfl ?_
  refine WP.cs rfl rfl rfl rfl rfl ((hg_new hn 5 0).1) rfl rfl rfl (su_init (by rw [hg_N, hn]; rfl) ((hg_new hn 5 0).1)) ?_
  rintro _ _ ⟨rfl, rfl⟩
  rw [← hg_app]
  refine WP.aasg (k := 4) rfl rfl (Or.inl ⟨(hg_K (show 4 < hN h by omega) _).1.trans h4, hK_z hn _ 160 rfl⟩) (show 4 < hL _ 4 by rw [(hg_K (show 4 < hN h by omega) _).2, l4]; decide) (by rw [(hg_K (show 4 < hN h by omega) _).2, l4]; rfl) ?_
  iterate 2 (refine WP.st rfl ?_)
  exact k2
theorem dt_it5 {h : MH} (g : ITI h 5) (Q : Option Value → MH → Prop) (k : ITI (hg h (itL 5)) 6 → WP m_DT_init (89, [some (.ref 2), some (.int (nI 6))], [], hg h (itL 5), 163, 3308) Q) : WP m_DT_init (89, [some (.ref 2), some (.int (nI 5))], [], h, 160, 3295) Q := by
  obtain ⟨hn, h2, h22, h4, l4⟩ := g
  change hN h = 163 at hn
  have k2 := k ⟨by rw [hg_N, hn]; rfl, (hg_K (by omega) _).1.trans h2, hR_z hn _ 2 2 h22, (hg_K (by omega) _).1.trans h4, (hg_K (by omega) _).2.trans l4⟩
  change WP m_DT_init (89, [some (.ref 2), some (.int (nI 5))], [], hg h [], 160, 3295) Q
  iterate 2 (refine WP.st rfl ?_)
  refine WP.icf rfl (show ¬ (20 : Int32) ≤ (5 : Int32) by decide) ?_
  refine WP.st rfl ?_
  refine WP.get (v := .ref 4) rfl rfl h2 (congrArg mm_rv h22) ?_
  refine WP.st rfl ?_
  refine WP.nwg (ci := 5) (q := 163) (cu' := 161) (su' := 3300) rfl hn ?_
  refine WP.st rfl ?_
  refine WP.cs rfl rfl rfl rfl rfl ((hg_new hn 5 0).1) rfl rfl rfl (su_init (by rw [hg_N, hn]; rfl) ((hg_new hn 5 0).1)) ?_
  rintro _ _ ⟨rfl, rfl⟩
  rw [← hg_app]
  refine WP.aasg (k := 5) rfl rfl (Or.inl ⟨(hg_K (show 4 < hN h by omega) _).1.trans h4, hK_z hn _ 163 rfl⟩) (show 5 < hL _ 4 by rw [(hg_K (show 4 < hN h by omega) _).2, l4]; decide) (by rw [(hg_K (show 4 < hN h by omega) _).2, l4]; rfl) ?_
  iterate 2 (refine WP.st rfl ?_)
  exact k2
theorem dt_it6 {h : MH} (g : ITI h 6) (Q : Option Value → MH → Prop) (k : ITI (hg h (itL 6)) 7 → WP m_DT_init (89, [some (.ref 2), some (.int (nI 7))], [], hg h (itL 6), 166, 3321) Q) : WP m_DT_init (89, [some (.ref 2), some (.int (nI 6))], [], h, 163, 3308) Q := by
  obtain ⟨hn, h2, h22, h4, l4⟩ := g
  change hN h = 166 at hn
  have k2 := k ⟨by rw [hg_N, hn]; rfl, (hg_K (by omega) _).1.trans h2, hR_z hn _ 2 2 h22, (hg_K (by omega) _).1.trans h4, (hg_K (by omega) _).2.trans l4⟩
  change WP m_DT_init (89, [some (.ref 2), some (.int (nI 6))], [], hg h [], 163, 3308) Q
  iterate 2 (refine WP.st rfl ?_)
  refine WP.icf rfl (show ¬ (20 : Int32) ≤ (6 : Int32) by decide) ?_
  refine WP.st rfl ?_
  refine WP.get (v := .ref 4) rfl rfl h2 (congrArg mm_rv h22) ?_
  refine WP.st rfl ?_
  refine WP.nwg (ci := 5) (q := 166) (cu' := 164) (su' := 3313) rfl hn ?_
  refine WP.st rfl ?_
  refine WP.cs rfl rfl rfl rfl rfl ((hg_new hn 5 0).1) rfl rfl rfl (su_init (by rw [hg_N, hn]; rfl) ((hg_new hn 5 0).1)) ?_
  rintro _ _ ⟨rfl, rfl⟩
  rw [← hg_app]
  refine WP.aasg (k := 6) rfl rfl (Or.inl ⟨(hg_K (show 4 < hN h by omega) _).1.trans h4, hK_z hn _ 166 rfl⟩) (show 6 < hL _ 4 by rw [(hg_K (show 4 < hN h by omega) _).2, l4]; decide) (by rw [(hg_K (show 4 < hN h by omega) _).2, l4]; rfl) ?_
  iterate 2 (refine WP.st rfl ?_)
  exact k2
theorem dt_it7 {h : MH} (g : ITI h 7) (Q : Option Value → MH → Prop) (k : ITI (hg h (itL 7)) 8 → WP m_DT_init (89, [some (.ref 2), some (.int (nI 8))], [], hg h (itL 7), 169, 3334) Q) : WP m_DT_init (89, [some (.ref 2), some (.int (nI 7))], [], h, 166, 3321) Q := by
  obtain ⟨hn, h2, h22, h4, l4⟩ := g
  change hN h = 169 at hn
  have k2 := k ⟨by rw [hg_N, hn]; rfl, (hg_K (by omega) _).1.trans h2, hR_z hn _ 2 2 h22, (hg_K (by omega) _).1.trans h4, (hg_K (by omega) _).2.trans l4⟩
  change WP m_DT_init (89, [some (.ref 2), some (.int (nI 7))], [], hg h [], 166, 3321) Q
  iterate 2 (refine WP.st rfl ?_)
  refine WP.icf rfl (show ¬ (20 : Int32) ≤ (7 : Int32) by decide) ?_
  refine WP.st rfl ?_
  refine WP.get (v := .ref 4) rfl rfl h2 (congrArg mm_rv h22) ?_
  refine WP.st rfl ?_
  refine WP.nwg (ci := 5) (q := 169) (cu' := 167) (su' := 3326) rfl hn ?_
  refine WP.st rfl ?_
  refine WP.cs rfl rfl rfl rfl rfl ((hg_new hn 5 0).1) rfl rfl rfl (su_init (by rw [hg_N, hn]; rfl) ((hg_new hn 5 0).1)) ?_
  rintro _ _ ⟨rfl, rfl⟩
  rw [← hg_app]
  refine WP.aasg (k := 7) rfl rfl (Or.inl ⟨(hg_K (show 4 < hN h by omega) _).1.trans h4, hK_z hn _ 169 rfl⟩) (show 7 < hL _ 4 by rw [(hg_K (show 4 < hN h by omega) _).2, l4]; decide) (by rw [(hg_K (show 4 < hN h by omega) _).2, l4]; rfl) ?_
  iterate 2 (refine WP.st rfl ?_)
  exact k2
theorem dt_it8 {h : MH} (g : ITI h 8) (Q : Option Value → MH → Prop) (k : ITI (hg h (itL 8)) 9 → WP m_DT_init (89, [some (.ref 2), some (.int (nI 9))], [], hg h (itL 8), 172, 3347) Q) : WP m_DT_init (89, [some (.ref 2), some (.int (nI 8))], [], h, 169, 3334) Q := by
  obtain ⟨hn, h2, h22, h4, l4⟩ := g
  change hN h = 172 at hn
  have k2 := k ⟨by rw [hg_N, hn]; rfl, (hg_K (by omega) _).1.trans h2, hR_z hn _ 2 2 h22, (hg_K (by omega) _).1.trans h4, (hg_K (by omega) _).2.trans l4⟩
  change WP m_DT_init (89, [some (.ref 2), some (.int (nI 8))], [], hg h [], 169, 3334) Q
  iterate 2 (refine WP.st rfl ?_)
  refine WP.icf rfl (show ¬ (20 : Int32) ≤ (8 : Int32) by decide) ?_
  refine WP.st rfl ?_
  refine WP.get (v := .ref 4) rfl rfl h2 (congrArg mm_rv h22) ?_
  refine WP.st rfl ?_
  refine WP.nwg (ci := 5) (q := 172) (cu' := 170) (su' := 3339) rfl hn ?_
  refine WP.st rfl ?_
  refine WP.cs rfl rfl rfl rfl rfl ((hg_new hn 5 0).1) rfl rfl rfl (su_init (by rw [hg_N, hn]; rfl) ((hg_new hn 5 0).1)) ?_
  rintro _ _ ⟨rfl, rfl⟩
  rw [← hg_app]
  refine WP.aasg (k := 8) rfl rfl (Or.inl ⟨(hg_K (show 4 < hN h by omega) _).1.trans h4, hK_z hn _ 172 rfl⟩) (show 8 < hL _ 4 by rw [(hg_K (show 4 < hN h by omega) _).2, l4]; decide) (by rw [(hg_K (show 4 < hN h by omega) _).2, l4]; rfl) ?_
  iterate 2 (refine WP.st rfl ?_)
  exact k2
theorem dt_it9 {h : MH} (g : ITI h 9) (Q : Option Value → MH → Prop) (k : ITI (hg h (itL 9)) 10 → WP m_DT_init (89, [some (.ref 2), some (.int (nI 10))], [], hg h (itL 9), 175, 3360) Q) : WP m_DT_init (89, [some (.ref 2), some (.int (nI 9))], [], h, 172, 3347) Q := by
  obtain ⟨hn, h2, h22, h4, l4⟩ := g
  change hN h = 175 at hn
  have k2 := k ⟨by rw [hg_N, hn]; rfl, (hg_K (by omega) _).1.trans h2, hR_z hn _ 2 2 h22, (hg_K (by omega) _).1.trans h4, (hg_K (by omega) _).2.trans l4⟩
  change WP m_DT_init (89, [some (.ref 2), some (.int (nI 9))], [], hg h [], 172, 3347) Q
  iterate 2 (refine WP.st rfl ?_)
  refine WP.icf rfl (show ¬ (20 : Int32) ≤ (9 : Int32) by decide) ?_
  refine WP.st rfl ?_
  refine WP.get (v := .ref 4) rfl rfl h2 (congrArg mm_rv h22) ?_
  refine WP.st rfl ?_
  refine WP.nwg (ci := 5) (q := 175) (cu' := 173) (su' := 3352) rfl hn ?_
  refine WP.st rfl ?_
  refine WP.cs rfl rfl rfl rfl rfl ((hg_new hn 5 0).1) rfl rfl rfl (su_init (by rw [hg_N, hn]; rfl) ((hg_new hn 5 0).1)) ?_
  rintro _ _ ⟨rfl, rfl⟩
  rw [← hg_app]
  refine WP.aasg (k := 9) rfl rfl (Or.inl ⟨(hg_K (show 4 < hN h by omega) _).1.trans h4, hK_z hn _ 175 rfl⟩) (show 9 < hL _ 4 by rw [(hg_K (show 4 < hN h by omega) _).2, l4]; decide) (by rw [(hg_K (show 4 < hN h by omega) _).2, l4]; rfl) ?_
  iterate 2 (refine WP.st rfl ?_)
  exact k2
theorem dt_it10 {h : MH} (g : ITI h 10) (Q : Option Value → MH → Prop) (k : ITI (hg h (itL 10)) 11 → WP m_DT_init (89, [some (.ref 2), some (.int (nI 11))], [], hg h (itL 10), 178, 3373) Q) : WP m_DT_init (89, [some (.ref 2), some (.int (nI 10))], [], h, 175, 3360) Q := by
  obtain ⟨hn, h2, h22, h4, l4⟩ := g
  change hN h = 178 at hn
  have k2 := k ⟨by rw [hg_N, hn]; rfl, (hg_K (by omega) _).1.trans h2, hR_z hn _ 2 2 h22, (hg_K (by omega) _).1.trans h4, (hg_K (by omega) _).2.trans l4⟩
  change WP m_DT_init (89, [some (.ref 2), some (.int (nI 10))], [], hg h [], 175, 3360) Q
  iterate 2 (refine WP.st rfl ?_)
  refine WP.icf rfl (show ¬ (20 : Int32) ≤ (10 : Int32) by decide) ?_
  refine WP.st rfl ?_
  refine WP.get (v := .ref 4) rfl rfl h2 (congrArg mm_rv h22) ?_
  refine WP.st rfl ?_
  refine WP.nwg (ci := 5) (q := 178) (cu' := 176) (su' := 3365) rfl hn ?_
  refine WP.st rfl ?_
  refine WP.cs rfl rfl rfl rfl rfl ((hg_new hn 5 0).1) rfl rfl rfl (su_init (by rw [hg_N, hn]; rfl) ((hg_new hn 5 0).1)) ?_
  rintro _ _ ⟨rfl, rfl⟩
  rw [← hg_app]
  refine WP.aasg (k := 10) rfl rfl (Or.inl ⟨(hg_K (show 4 < hN h by omega) _).1.trans h4, hK_z hn _ 178 rfl⟩) (show 10 < hL _ 4 by rw [(hg_K (show 4 < hN h by omega) _).2, l4]; decide) (by rw [(hg_K (show 4 < hN h by omega) _).2, l4]; rfl) ?_
  iterate 2 (refine WP.st rfl ?_)
  exact k2
theorem dt_it11 {h : MH} (g : ITI h 11) (Q : Option Value → MH → Prop) (k : ITI (hg h (itL 11)) 12 → WP m_DT_init (89, [some (.ref 2), some (.int (nI 12))], [], hg h (itL 11), 181, 3386) Q) : WP m_DT_init (89, [some (.ref 2), some (.int (nI 11))], [], h, 178, 3373) Q := by
  obtain ⟨hn, h2, h22, h4, l4⟩ := g
  change hN h = 181 at hn
  have k2 := k ⟨by rw [hg_N, hn]; rfl, (hg_K (by omega) _).1.trans h2, hR_z hn _ 2 2 h22, (hg_K (by omega) _).1.trans h4, (hg_K (by omega) _).2.trans l4⟩
  change WP m_DT_init (89, [some (.ref 2), some (.int (nI 11))], [], hg h [], 178, 3373) Q
  iterate 2 (refine WP.st rfl ?_)
  refine WP.icf rfl (show ¬ (20 : Int32) ≤ (11 : Int32) by decide) ?_
  refine WP.st rfl ?_
  refine WP.get (v := .ref 4) rfl rfl h2 (congrArg mm_rv h22) ?_
  refine WP.st rfl ?_
  refine WP.nwg (ci := 5) (q := 181) (cu' := 179) (su' := 3378) rfl hn ?_
  refine WP.st rfl ?_
  refine WP.cs rfl rfl rfl rfl rfl ((hg_new hn 5 0).1) rfl rfl rfl (su_init (by rw [hg_N, hn]; rfl) ((hg_new hn 5 0).1)) ?_
  rintro _ _ ⟨rfl, rfl⟩
  rw [← hg_app]
  refine WP.aasg (k := 11) rfl rfl (Or.inl ⟨(hg_K (show 4 < hN h by omega) _).1.trans h4, hK_z hn _ 181 rfl⟩) (show 11 < hL _ 4 by rw [(hg_K (show 4 < hN h by omega) _).2, l4]; decide) (by rw [(hg_K (show 4 < hN h by omega) _).2, l4]; rfl) ?_
  iterate 2 (refine WP.st rfl ?_)
  exact k2
theorem dt_it12 {h : MH} (g : ITI h 12) (Q : Option Value → MH → Prop) (k : ITI (hg h (itL 12)) 13 → WP m_DT_init (89, [some (.ref 2), some (.int (nI 13))], [], hg h (itL 12), 184, 3399) Q) : WP m_DT_init (89, [some (.ref 2), some (.int (nI 12))], [], h, 181, 3386) Q := by
  obtain ⟨hn, h2, h22, h4, l4⟩ := g
  change hN h = 184 at hn
  have k2 := k ⟨by rw [hg_N, hn]; rfl, (hg_K (by omega) _).1.trans h2, hR_z hn _ 2 2 h22, (hg_K (by omega) _).1.trans h4, (hg_K (by omega) _).2.trans l4⟩
  change WP m_DT_init (89, [some (.ref 2), some (.int (nI 12))], [], hg h [], 181, 3386) Q
  iterate 2 (refine WP.st rfl ?_)
  refine WP.icf rfl (show ¬ (20 : Int32) ≤ (12 : Int32) by decide) ?_
  refine WP.st rfl ?_
  refine WP.get (v := .ref 4) rfl rfl h2 (congrArg mm_rv h22) ?_
  refine WP.st rfl ?_
  refine WP.nwg (ci := 5) (q := 184) (cu' := 182) (su' := 3391) rfl hn ?_
  refine WP.st rfl ?_
  refine WP.cs rfl rfl rfl rfl rfl ((hg_new hn 5 0).1) rfl rfl rfl (su_init (by rw [hg_N, hn]; rfl) ((hg_new hn 5 0).1)) ?_
  rintro _ _ ⟨rfl, rfl⟩
  rw [← hg_app]
  refine WP.aasg (k := 12) rfl rfl (Or.inl ⟨(hg_K (show 4 < hN h by omega) _).1.trans h4, hK_z hn _ 184 rfl⟩) (show 12 < hL _ 4 by rw [(hg_K (show 4 < hN h by omega) _).2, l4]; decide) (by rw [(hg_K (show 4 < hN h by omega) _).2, l4]; rfl) ?_
  iterate 2 (refine WP.st rfl ?_)
  exact k2
theorem dt_it13 {h : MH} (g : ITI h 13) (Q : Option Value → MH → Prop) (k : ITI (hg h (itL 13)) 14 → WP m_DT_init (89, [some (.ref 2), some (.int (nI 14))], [], hg h (itL 13), 187, 3412) Q) : WP m_DT_init (89, [some (.ref 2), some (.int (nI 13))], [], h, 184, 3399) Q := by
  obtain ⟨hn, h2, h22, h4, l4⟩ := g
  change hN h = 187 at hn
  have k2 := k ⟨by rw [hg_N, hn]; rfl, (hg_K (by omega) _).1.trans h2, hR_z hn _ 2 2 h22, (hg_K (by omega) _).1.trans h4, (hg_K (by omega) _).2.trans l4⟩
  change WP m_DT_init (89, [some (.ref 2), some (.int (nI 13))], [], hg h [], 184, 3399) Q
  iterate 2 (refine WP.st rfl ?_)
  refine WP.icf rfl (show ¬ (20 : Int32) ≤ (13 : Int32) by decide) ?_
  refine WP.st rfl ?_
  refine WP.get (v := .ref 4) rfl rfl h2 (congrArg mm_rv h22) ?_
  refine WP.st rfl ?_
  refine WP.nwg (ci := 5) (q := 187) (cu' := 185) (su' := 3404) rfl hn ?_
  refine WP.st rfl ?_
  refine WP.cs rfl rfl rfl rfl rfl ((hg_new hn 5 0).1) rfl rfl rfl (su_init (by rw [hg_N, hn]; rfl) ((hg_new hn 5 0).1)) ?_
  rintro _ _ ⟨rfl, rfl⟩
  rw [← hg_app]
  refine WP.aasg (k := 13) rfl rfl (Or.inl ⟨(hg_K (show 4 < hN h by omega) _).1.trans h4, hK_z hn _ 187 rfl⟩) (show 13 < hL _ 4 by rw [(hg_K (show 4 < hN h by omega) _).2, l4]; decide) (by rw [(hg_K (show 4 < hN h by omega) _).2, l4]; rfl) ?_
  iterate 2 (refine WP.st rfl ?_)
  exact k2
theorem dt_it14 {h : MH} (g : ITI h 14) (Q : Option Value → MH → Prop) (k : ITI (hg h (itL 14)) 15 → WP m_DT_init (89, [some (.ref 2), some (.int (nI 15))], [], hg h (itL 14), 190, 3425) Q) : WP m_DT_init (89, [some (.ref 2), some (.int (nI 14))], [], h, 187, 3412) Q := by
  obtain ⟨hn, h2, h22, h4, l4⟩ := g
  change hN h = 190 at hn
  have k2 := k ⟨by rw [hg_N, hn]; rfl, (hg_K (by omega) _).1.trans h2, hR_z hn _ 2 2 h22, (hg_K (by omega) _).1.trans h4, (hg_K (by omega) _).2.trans l4⟩
  change WP m_DT_init (89, [some (.ref 2), some (.int (nI 14))], [], hg h [], 187, 3412) Q
  iterate 2 (refine WP.st rfl ?_)
  refine WP.icf rfl (show ¬ (20 : Int32) ≤ (14 : Int32) by decide) ?_
  refine WP.st rfl ?_
  refine WP.get (v := .ref 4) rfl rfl h2 (congrArg mm_rv h22) ?_
  refine WP.st rfl ?_
  refine WP.nwg (ci := 5) (q := 190) (cu' := 188) (su' := 3417) rfl hn ?_
  refine WP.st rfl ?_
  refine WP.cs rfl rfl rfl rfl rfl ((hg_new hn 5 0).1) rfl rfl rfl (su_init (by rw [hg_N, hn]; rfl) ((hg_new hn 5 0).1)) ?_
  rintro _ _ ⟨rfl, rfl⟩
  rw [← hg_app]
  refine WP.aasg (k := 14) rfl rfl (Or.inl ⟨(hg_K (show 4 < hN h by omega) _).1.trans h4, hK_z hn _ 190 rfl⟩) (show 14 < hL _ 4 by rw [(hg_K (show 4 < hN h by omega) _).2, l4]; decide) (by rw [(hg_K (show 4 < hN h by omega) _).2, l4]; rfl) ?_
  iterate 2 (refine WP.st rfl ?_)
  exact k2
theorem dt_it15 {h : MH} (g : ITI h 15) (Q : Option Value → MH → Prop) (k : ITI (hg h (itL 15)) 16 → WP m_DT_init (89, [some (.ref 2), some (.int (nI 16))], [], hg h (itL 15), 193, 3438) Q) : WP m_DT_init (89, [some (.ref 2), some (.int (nI 15))], [], h, 190, 3425) Q := by
  obtain ⟨hn, h2, h22, h4, l4⟩ := g
  change hN h = 193 at hn
  have k2 := k ⟨by rw [hg_N, hn]; rfl, (hg_K (by omega) _).1.trans h2, hR_z hn _ 2 2 h22, (hg_K (by omega) _).1.trans h4, (hg_K (by omega) _).2.trans l4⟩
  change WP m_DT_init (89, [some (.ref 2), some (.int (nI 15))], [], hg h [], 190, 3425) Q
  iterate 2 (refine WP.st rfl ?_)
  refine WP.icf rfl (show ¬ (20 : Int32) ≤ (15 : Int32) by decide) ?_
  refine WP.st rfl ?_
  refine WP.get (v := .ref 4) rfl rfl h2 (congrArg mm_rv h22) ?_
  refine WP.st rfl ?_
  refine WP.nwg (ci := 5) (q := 193) (cu' := 191) (su' := 3430) rfl hn ?_
  refine WP.st rfl ?_
  refine WP.cs rfl rfl rfl rfl rfl ((hg_new hn 5 0).1) rfl rfl rfl (su_init (by rw [hg_N, hn]; rfl) ((hg_new hn 5 0).1)) ?_
  rintro _ _ ⟨rfl, rfl⟩
  rw [← hg_app]
  refine WP.aasg (k := 15) rfl rfl (Or.inl ⟨(hg_K (show 4 < hN h by omega) _).1.trans h4, hK_z hn _ 193 rfl⟩) (show 15 < hL _ 4 by rw [(hg_K (show 4 < hN h by omega) _).2, l4]; decide) (by rw [(hg_K (show 4 < hN h by omega) _).2, l4]; rfl) ?_
  iterate 2 (refine WP.st rfl ?_)
  exact k2
theorem dt_it16 {h : MH} (g : ITI h 16) (Q : Option Value → MH → Prop) (k : ITI (hg h (itL 16)) 17 → WP m_DT_init (89, [some (.ref 2), some (.int (nI 17))], [], hg h (itL 16), 196, 3451) Q) : WP m_DT_init (89, [some (.ref 2), some (.int (nI 16))], [], h, 193, 3438) Q := by
  obtain ⟨hn, h2, h22, h4, l4⟩ := g
  change hN h = 196 at hn
  have k2 := k ⟨by rw [hg_N, hn]; rfl, (hg_K (by omega) _).1.trans h2, hR_z hn _ 2 2 h22, (hg_K (by omega) _).1.trans h4, (hg_K (by omega) _).2.trans l4⟩
  change WP m_DT_init (89, [some (.ref 2), some (.int (nI 16))], [], hg h [], 193, 3438) Q
  iterate 2 (refine WP.st rfl ?_)
  refine WP.icf rfl (show ¬ (20 : Int32) ≤ (16 : Int32) by decide) ?_
  refine WP.st rfl ?_
  refine WP.get (v := .ref 4) rfl rfl h2 (congrArg mm_rv h22) ?_
  refine WP.st rfl ?_
  refine WP.nwg (ci := 5) (q := 196) (cu' := 194) (su' := 3443) rfl hn ?_
  refine WP.st rfl ?_
  refine WP.cs rfl rfl rfl rfl rfl ((hg_new hn 5 0).1) rfl rfl rfl (su_init (by rw [hg_N, hn]; rfl) ((hg_new hn 5 0).1)) ?_
  rintro _ _ ⟨rfl, rfl⟩
  rw [← hg_app]
  refine WP.aasg (k := 16) rfl rfl (Or.inl ⟨(hg_K (show 4 < hN h by omega) _).1.trans h4, hK_z hn _ 196 rfl⟩) (show 16 < hL _ 4 by rw [(hg_K (show 4 < hN h by omega) _).2, l4]; decide) (by rw [(hg_K (show 4 < hN h by omega) _).2, l4]; rfl) ?_
  iterate 2 (refine WP.st rfl ?_)
  exact k2
theorem dt_it17 {h : MH} (g : ITI h 17) (Q : Option Value → MH → Prop) (k : ITI (hg h (itL 17)) 18 → WP m_DT_init (89, [some (.ref 2), some (.int (nI 18))], [], hg h (itL 17), 199, 3464) Q) : WP m_DT_init (89, [some (.ref 2), some (.int (nI 17))], [], h, 196, 3451) Q := by
  obtain ⟨hn, h2, h22, h4, l4⟩ := g
  change hN h = 199 at hn
  have k2 := k ⟨by rw [hg_N, hn]; rfl, (hg_K (by omega) _).1.trans h2, hR_z hn _ 2 2 h22, (hg_K (by omega) _).1.trans h4, (hg_K (by omega) _).2.trans l4⟩
  change WP m_DT_init (89, [some (.ref 2), some (.int (nI 17))], [], hg h [], 196, 3451) Q
  iterate 2 (refine WP.st rfl ?_)
  refine WP.icf rfl (show ¬ (20 : Int32) ≤ (17 : Int32) by decide) ?_
  refine WP.st rfl ?_
  refine WP.get (v := .ref 4) rfl rfl h2 (congrArg mm_rv h22) ?_
  refine WP.st rfl ?_
  refine WP.nwg (ci := 5) (q := 199) (cu' := 197) (su' := 3456) rfl hn ?_
  refine WP.st rfl ?_
  refine WP.cs rfl rfl rfl rfl rfl ((hg_new hn 5 0).1) rfl rfl rfl (su_init (by rw [hg_N, hn]; rfl) ((hg_new hn 5 0).1)) ?_
  rintro _ _ ⟨rfl, rfl⟩
  rw [← hg_app]
  refine WP.aasg (k := 17) rfl rfl (Or.inl ⟨(hg_K (show 4 < hN h by omega) _).1.trans h4, hK_z hn _ 199 rfl⟩) (show 17 < hL _ 4 by rw [(hg_K (show 4 < hN h by omega) _).2, l4]; decide) (by rw [(hg_K (show 4 < hN h by omega) _).2, l4]; rfl) ?_
  iterate 2 (refine WP.st rfl ?_)
  exact k2
theorem dt_it18 {h : MH} (g : ITI h 18) (Q : Option Value → MH → Prop) (k : ITI (hg h (itL 18)) 19 → WP m_DT_init (89, [some (.ref 2), some (.int (nI 19))], [], hg h (itL 18), 202, 3477) Q) : WP m_DT_init (89, [some (.ref 2), some (.int (nI 18))], [], h, 199, 3464) Q := by
  obtain ⟨hn, h2, h22, h4, l4⟩ := g
  change hN h = 202 at hn
  have k2 := k ⟨by rw [hg_N, hn]; rfl, (hg_K (by omega) _).1.trans h2, hR_z hn _ 2 2 h22, (hg_K (by omega) _).1.trans h4, (hg_K (by omega) _).2.trans l4⟩
  change WP m_DT_init (89, [some (.ref 2), some (.int (nI 18))], [], hg h [], 199, 3464) Q
  iterate 2 (refine WP.st rfl ?_)
  refine WP.icf rfl (show ¬ (20 : Int32) ≤ (18 : Int32) by decide) ?_
  refine WP.st rfl ?_
  refine WP.get (v := .ref 4) rfl rfl h2 (congrArg mm_rv h22) ?_
  refine WP.st rfl ?_
  refine WP.nwg (ci := 5) (q := 202) (cu' := 200) (su' := 3469) rfl hn ?_
  refine WP.st rfl ?_
  refine WP.cs rfl rfl rfl rfl rfl ((hg_new hn 5 0).1) rfl rfl rfl (su_init (by rw [hg_N, hn]; rfl) ((hg_new hn 5 0).1)) ?_
  rintro _ _ ⟨rfl, rfl⟩
  rw [← hg_app]
  refine WP.aasg (k := 18) rfl rfl (Or.inl ⟨(hg_K (show 4 < hN h by omega) _).1.trans h4, hK_z hn _ 202 rfl⟩) (show 18 < hL _ 4 by rw [(hg_K (show 4 < hN h by omega) _).2, l4]; decide) (by rw [(hg_K (show 4 < hN h by omega) _).2, l4]; rfl) ?_
  iterate 2 (refine WP.st rfl ?_)
  exact k2
theorem dt_it19 {h : MH} (g : ITI h 19) (Q : Option Value → MH → Prop) (k : ITI (hg h (itL 19)) 20 → WP m_DT_init (89, [some (.ref 2), some (.int (nI 20))], [], hg h (itL 19), 205, 3490) Q) : WP m_DT_init (89, [some (.ref 2), some (.int (nI 19))], [], h, 202, 3477) Q := by
  obtain ⟨hn, h2, h22, h4, l4⟩ := g
  change hN h = 205 at hn
  have k2 := k ⟨by rw [hg_N, hn]; rfl, (hg_K (by omega) _).1.trans h2, hR_z hn _ 2 2 h22, (hg_K (by omega) _).1.trans h4, (hg_K (by omega) _).2.trans l4⟩
  change WP m_DT_init (89, [some (.ref 2), some (.int (nI 19))], [], hg h [], 202, 3477) Q
  iterate 2 (refine WP.st rfl ?_)
  refine WP.icf rfl (show ¬ (20 : Int32) ≤ (19 : Int32) by decide) ?_
  refine WP.st rfl ?_
  refine WP.get (v := .ref 4) rfl rfl h2 (congrArg mm_rv h22) ?_
  refine WP.st rfl ?_
  refine WP.nwg (ci := 5) (q := 205) (cu' := 203) (su' := 3482) rfl hn ?_
  refine WP.st rfl ?_
  refine WP.cs rfl rfl rfl rfl rfl ((hg_new hn 5 0).1) rfl rfl rfl (su_init (by rw [hg_N, hn]; rfl) ((hg_new hn 5 0).1)) ?_
  rintro _ _ ⟨rfl, rfl⟩
  rw [← hg_app]
  refine WP.aasg (k := 19) rfl rfl (Or.inl ⟨(hg_K (show 4 < hN h by omega) _).1.trans h4, hK_z hn _ 205 rfl⟩) (show 19 < hL _ 4 by rw [(hg_K (show 4 < hN h by omega) _).2, l4]; decide) (by rw [(hg_K (show 4 < hN h by omega) _).2, l4]; rfl) ?_
  iterate 2 (refine WP.st rfl ?_)
  exact k2
def itA : Nat → List Op → List Op
  | 0, l => l
  | i + 1, l => itL i ++ itA i l
def dtB : List Op := ((1, 2, 9, 141) :: (fmL ++ ((0, 2, 0, 0) :: ((1, 2, 8, 134) :: (frL ++ ((0, 1, 0, 0) :: ((1, 2, 7, 76) :: (baL ++ ((0, 0, 0, 0) :: ((1, 2, 6, 11) :: (juL ++ ((0, 4, 0, 0) :: ((1, 2, 5, 8) :: (suL 8 ++ ((0, 5, 0, 0) :: ((1, 2, 4, 5) :: (suL 5 ++ ((0, 5, 0, 0) :: ((1, 2, 2, 4) :: ((0, 12, 20, 0) :: ((1, 2, 0, 3) :: ((0, 9, 16, 0) :: []))))))))))))))))))))))
def dtL : List Op := itA 20 dtB
theorem dt_init {h : MH} (h1 : 1 < hN h) (hk1 : hK h 1 = 21) (hl1 : hL h 1 = 6) (hp1 : ∀ i, i < 6 → hJ h 1 i = mm_ps i) (hn : hN h = 3) (hk : hK h 2 = 7) : SP m_DT_init [.ref 2] h (fun v h' => v = none ∧ h' = hg h dtL) := by
  have hs : 2 < hN h := by omega
  unfold SP
  change WP m_DT_init (0, mm_ent m_DT_init [.ref 2], [], hg h [], 0, 0) _
  iterate 4 (refine WP.st rfl ?_)
  refine WP.nar (kd := 9) (n := 16) (q := 3) (cu' := 1) (su' := 16) rfl (by rw [hg_N, hn]; rfl) ?_
  refine WP.pfRg rfl rfl ((hg_K hs _).1.trans hk) (by decide) rfl ?_
  iterate 2 (refine WP.st rfl ?_)
  refine WP.anr (kd := 12) (n := 20) (q := 4) (cu' := 2) (su' := 36) rfl (by rw [hg_N, hn]; rfl) ?_
  refine WP.pfRg rfl rfl ((hg_K hs _).1.trans hk) (by decide) rfl ?_
  iterate 1 (refine WP.st rfl ?_)
  refine WP.nwg (ci := 5) (q := 5) (cu' := 3) (su' := 41) rfl (by rw [hg_N, hn]; rfl) ?_
  iterate 1 (refine WP.st rfl ?_)
  refine WP.cs rfl rfl rfl rfl rfl ((hg_new (by rw [hg_N, hn]; rfl) 5 0).1) rfl rfl rfl (su_init (by rw [hg_N, hn]; rfl) ((hg_new (by rw [hg_N, hn]; rfl) 5 0).1)) ?_
  rintro _ _ ⟨rfl, rfl⟩
  rw [← hg_app]
  refine WP.pfRg rfl rfl ((hg_K hs _).1.trans hk) (by decide) rfl ?_
  iterate 1 (refine WP.st rfl ?_)
  refine WP.nwg (ci := 5) (q := 8) (cu' := 6) (su' := 54) rfl (by rw [hg_N, hn]; rfl) ?_
  iterate 1 (refine WP.st rfl ?_)
  refine WP.cs rfl rfl rfl rfl rfl ((hg_new (by rw [hg_N, hn]; rfl) 5 0).1) rfl rfl rfl (su_init (by rw [hg_N, hn]; rfl) ((hg_new (by rw [hg_N, hn]; rfl) 5 0).1)) ?_
  rintro _ _ ⟨rfl, rfl⟩
  rw [← hg_app]
  refine WP.pfRg rfl rfl ((hg_K hs _).1.trans hk) (by decide) rfl ?_
  iterate 1 (refine WP.st rfl ?_)
  refine WP.nwg (ci := 4) (q := 11) (cu' := 9) (su' := 68) rfl (by rw [hg_N, hn]; rfl) ?_
  iterate 1 (refine WP.st rfl ?_)
  refine WP.cs rfl rfl rfl rfl rfl ((hg_new (by rw [hg_N, hn]; rfl) 4 0).1) rfl rfl rfl (ju_init (by rw [hg_N, hn]; decide) ((hg_K h1 _).1.trans hk1) ((hg_K h1 _).2.trans hl1) (fun i hi => hJ_z hn _ 1 i (hp1 i hi)) (by rw [hg_N, hn]; rfl) ((hg_new (by rw [hg_N, hn]; rfl) 4 0).1)) ?_
  rintro _ _ ⟨rfl, rfl⟩
  rw [← hg_app]
  refine WP.pfRg rfl rfl ((hg_K hs _).1.trans hk) (by decide) rfl ?_
  iterate 1 (refine WP.st rfl ?_)
  refine WP.nwg (ci := 0) (q := 76) (cu' := 74) (su' := 1935) rfl (by rw [hg_N, hn]; rfl) ?_
  iterate 1 (refine WP.st rfl ?_)
  refine WP.cs rfl rfl rfl rfl rfl ((hg_new (by rw [hg_N, hn]; rfl) 0 0).1) rfl rfl rfl (ba_init (by rw [hg_N, hn]; rfl) ((hg_new (by rw [hg_N, hn]; rfl) 0 0).1)) ?_
  rintro _ _ ⟨rfl, rfl⟩
  rw [← hg_app]
  refine WP.pfRg rfl rfl ((hg_K hs _).1.trans hk) (by decide) rfl ?_
  iterate 1 (refine WP.st rfl ?_)
  refine WP.nwg (ci := 1) (q := 134) (cu' := 132) (su' := 2853) rfl (by rw [hg_N, hn]; rfl) ?_
  iterate 1 (refine WP.st rfl ?_)
  refine WP.cs rfl rfl rfl rfl rfl ((hg_new (by rw [hg_N, hn]; rfl) 1 0).1) rfl rfl rfl (fr_init (by rw [hg_N, hn]; rfl) ((hg_new (by rw [hg_N, hn]; rfl) 1 0).1)) ?_
  rintro _ _ ⟨rfl, rfl⟩
  rw [← hg_app]
  refine WP.pfRg rfl rfl ((hg_K hs _).1.trans hk) (by decide) rfl ?_
  iterate 1 (refine WP.st rfl ?_)
  refine WP.nwg (ci := 2) (q := 141) (cu' := 139) (su' := 2886) rfl (by rw [hg_N, hn]; rfl) ?_
  iterate 1 (refine WP.st rfl ?_)
  refine WP.cs rfl rfl rfl rfl rfl ((hg_new (by rw [hg_N, hn]; rfl) 2 0).1) rfl rfl rfl (fm_init (by rw [hg_N, hn]; rfl) ((hg_new (by rw [hg_N, hn]; rfl) 2 0).1)) ?_
  rintro _ _ ⟨rfl, rfl⟩
  rw [← hg_app]
  refine WP.pfRg rfl rfl ((hg_K hs _).1.trans hk) (by decide) rfl ?_
  iterate 2 (refine WP.st rfl ?_)
  change WP m_DT_init (89, [some (.ref 2), some (.int (nI 0))], [], hg h dtB, 145, 3230) _
  have g0 : ITI (hg h dtB) 0 := ⟨by rw [hg_N, hn]; rfl, (hg_K hs _).1.trans hk, hR_z hn _ 2 2 rfl, hK_z hn _ 4 rfl, hL_z hn _ 4 rfl⟩
  refine dt_it0 g0 _ (fun g1 => ?_)
  rw [← hg_app] at g1 ⊢
  change ITI (hg h (itA 1 dtB)) 1 at g1
  change WP m_DT_init (89, [some (.ref 2), some (.int (nI 1))], [], hg h (itA 1 dtB), 148, 3243) _
  refine dt_it1 g1 _ (fun g2 => ?_)
  rw [← hg_app] at g2 ⊢
  change ITI (hg h (itA 2 dtB)) 2 at g2
  change WP m_DT_init (89, [some (.ref 2), some (.int (nI 2))], [], hg h (itA 2 dtB), 151, 3256) _
  refine dt_it2 g2 _ (fun g3 => ?_)
  rw [← hg_app] at g3 ⊢
  change ITI (hg h (itA 3 dtB)) 3 at g3
  change WP m_DT_init (89, [some (.ref 2), some (.int (nI 3))], [], hg h (itA 3 dtB), 154, 3269) _
  refine dt_it3 g3 _ (fun g4 => ?_)
  rw [← hg_app] at g4 ⊢
  change ITI (hg h (itA 4 dtB)) 4 at g4
  change WP m_DT_init (89, [some (.ref 2), some (.int (nI 4))], [], hg h (itA 4 dtB), 157, 3282) _
  refine dt_it4 g4 _ (fun g5 => ?_)
  rw [← hg_app] at g5 ⊢
  change ITI (hg h (itA 5 dtB)) 5 at g5
  change WP m_DT_init (89, [some (.ref 2), some (.int (nI 5))], [], hg h (itA 5 dtB), 160, 3295) _
  refine dt_it5 g5 _ (fun g6 => ?_)
  rw [← hg_app] at g6 ⊢
  change ITI (hg h (itA 6 dtB)) 6 at g6
  change WP m_DT_init (89, [some (.ref 2), some (.int (nI 6))], [], hg h (itA 6 dtB), 163, 3308) _
  refine dt_it6 g6 _ (fun g7 => ?_)
  rw [← hg_app] at g7 ⊢
  change ITI (hg h (itA 7 dtB)) 7 at g7
  change WP m_DT_init (89, [some (.ref 2), some (.int (nI 7))], [], hg h (itA 7 dtB), 166, 3321) _
  refine dt_it7 g7 _ (fun g8 => ?_)
  rw [← hg_app] at g8 ⊢
  change ITI (hg h (itA 8 dtB)) 8 at g8
  change WP m_DT_init (89, [some (.ref 2), some (.int (nI 8))], [], hg h (itA 8 dtB), 169, 3334) _
  refine dt_it8 g8 _ (fun g9 => ?_)
  rw [← hg_app] at g9 ⊢
  change ITI (hg h (itA 9 dtB)) 9 at g9
  change WP m_DT_init (89, [some (.ref 2), some (.int (nI 9))], [], hg h (itA 9 dtB), 172, 3347) _
  refine dt_it9 g9 _ (fun g10 => ?_)
  rw [← hg_app] at g10 ⊢
  change ITI (hg h (itA 10 dtB)) 10 at g10
  change WP m_DT_init (89, [some (.ref 2), some (.int (nI 10))], [], hg h (itA 10 dtB), 175, 3360) _
  refine dt_it10 g10 _ (fun g11 => ?_)
  rw [← hg_app] at g11 ⊢
  change ITI (hg h (itA 11 dtB)) 11 at g11
  change WP m_DT_init (89, [some (.ref 2), some (.int (nI 11))], [], hg h (itA 11 dtB), 178, 3373) _
  refine dt_it11 g11 _ (fun g12 => ?_)
  rw [← hg_app] at g12 ⊢
  change ITI (hg h (itA 12 dtB)) 12 at g12
  change WP m_DT_init (89, [some (.ref 2), some (.int (nI 12))], [], hg h (itA 12 dtB), 181, 3386) _
  refine dt_it12 g12 _ (fun g13 => ?_)
  rw [← hg_app] at g13 ⊢
  change ITI (hg h (itA 13 dtB)) 13 at g13
  change WP m_DT_init (89, [some (.ref 2), some (.int (nI 13))], [], hg h (itA 13 dtB), 184, 3399) _
  refine dt_it13 g13 _ (fun g14 => ?_)
  rw [← hg_app] at g14 ⊢
  change ITI (hg h (itA 14 dtB)) 14 at g14
  change WP m_DT_init (89, [some (.ref 2), some (.int (nI 14))], [], hg h (itA 14 dtB), 187, 3412) _
  refine dt_it14 g14 _ (fun g15 => ?_)
  rw [← hg_app] at g15 ⊢
  change ITI (hg h (itA 15 dtB)) 15 at g15
  change WP m_DT_init (89, [some (.ref 2), some (.int (nI 15))], [], hg h (itA 15 dtB), 190, 3425) _
  refine dt_it15 g15 _ (fun g16 => ?_)
  rw [← hg_app] at g16 ⊢
  change ITI (hg h (itA 16 dtB)) 16 at g16
  change WP m_DT_init (89, [some (.ref 2), some (.int (nI 16))], [], hg h (itA 16 dtB), 193, 3438) _
  refine dt_it16 g16 _ (fun g17 => ?_)
  rw [← hg_app] at g17 ⊢
  change ITI (hg h (itA 17 dtB)) 17 at g17
  change WP m_DT_init (89, [some (.ref 2), some (.int (nI 17))], [], hg h (itA 17 dtB), 196, 3451) _
  refine dt_it17 g17 _ (fun g18 => ?_)
  rw [← hg_app] at g18 ⊢
  change ITI (hg h (itA 18 dtB)) 18 at g18
  change WP m_DT_init (89, [some (.ref 2), some (.int (nI 18))], [], hg h (itA 18 dtB), 199, 3464) _
  refine dt_it18 g18 _ (fun g19 => ?_)
  rw [← hg_app] at g19 ⊢
  change ITI (hg h (itA 19 dtB)) 19 at g19
  change WP m_DT_init (89, [some (.ref 2), some (.int (nI 19))], [], hg h (itA 19 dtB), 202, 3477) _
  refine dt_it19 g19 _ (fun g20 => ?_)
  rw [← hg_app] at g20 ⊢
  change ITI (hg h (itA 20 dtB)) 20 at g20
  change WP m_DT_init (89, [some (.ref 2), some (.int (nI 20))], [], hg h (itA 20 dtB), 205, 3490) _
  iterate 2 (refine WP.st rfl ?_)
  refine WP.ict rfl (show (20 : Int32) ≤ (20 : Int32) by decide) ?_
  exact WP.ret rfl ⟨rfl, rfl⟩
def moL : List Op := ((3, 227, 6, 1) :: ((1, 208, 26, 228) :: ((0, 9, 8, 0) :: ((1, 208, 24, 227) :: ((0, 10, 48, 0) :: ((1, 208, 23, 226) :: ((0, 10, 5, 0) :: ((1, 208, 22, 225) :: ((0, 10, 7, 0) :: ((1, 208, 21, 224) :: ((0, 10, 7, 0) :: ((1, 208, 19, 223) :: ((0, 9, 16, 0) :: ((1, 208, 18, 222) :: ((0, 10, 16, 0) :: ((1, 208, 17, 221) :: ((0, 10, 272, 0) :: ((1, 208, 16, 220) :: ((0, 10, 391, 0) :: ((1, 208, 15, 219) :: ((2, 219, 6, 1073741689) :: ((2, 219, 5, 1073741717) :: ((2, 219, 4, 1073741719) :: ((2, 219, 3, 1073741723) :: ((2, 219, 2, 1073741741) :: ((2, 219, 1, 1073741783) :: ((2, 219, 0, 1073741789) :: ((0, 9, 7, 0) :: ((1, 208, 13, 218) :: ((0, 11, 20, 0) :: ((1, 208, 12, 217) :: ((0, 9, 21, 0) :: ((1, 208, 11, 216) :: ((0, 9, 21, 0) :: ((1, 208, 8, 215) :: ((0, 9, 20, 0) :: ((1, 208, 7, 214) :: ((0, 11, 20, 0) :: ((1, 208, 6, 213) :: ((0, 9, 84, 0) :: ((1, 208, 5, 212) :: ((0, 9, 84, 0) :: ((1, 208, 4, 211) :: ((0, 9, 21, 0) :: ((1, 208, 3, 210) :: ((0, 9, 391, 0) :: ((1, 208, 1, 209) :: ((0, 9, 16, 0) :: []))))))))))))))))))))))))))))))))))))))))))))))))
theorem mo_init {h : MH} (hn : hN h = 209) (hk : hK h 208 = 8) : SP m_Mo_init [.ref 208] h (fun v h' => v = none ∧ h' = hg h moL) := by
  have hs : 208 < hN h := by omega
  unfold SP
  change WP m_Mo_init (0, mm_ent m_Mo_init [.ref 208], [], hg h [], 0, 0) _
  iterate 4 (refine WP.st rfl ?_)
  refine WP.nar (kd := 9) (n := 16) (q := 209) (cu' := 1) (su' := 16) rfl (by rw [hg_N, hn]; rfl) ?_
  refine WP.pfRg rfl rfl ((hg_K hs _).1.trans hk) (by decide) rfl ?_
  iterate 2 (refine WP.st rfl ?_)
  refine WP.nar (kd := 9) (n := 391) (q := 210) (cu' := 2) (su' := 407) rfl (by rw [hg_N, hn]; rfl) ?_
  refine WP.pfRg rfl rfl ((hg_K hs _).1.trans hk) (by decide) rfl ?_
  iterate 2 (refine WP.st rfl ?_)
  refine WP.nar (kd := 9) (n := 21) (q := 211) (cu' := 3) (su' := 428) rfl (by rw [hg_N, hn]; rfl) ?_
  refine WP.pfRg rfl rfl ((hg_K hs _).1.trans hk) (by decide) rfl ?_
  iterate 2 (refine WP.st rfl ?_)
  refine WP.nar (kd := 9) (n := 84) (q := 212) (cu' := 4) (su' := 512) rfl (by rw [hg_N, hn]; rfl) ?_
  refine WP.pfRg rfl rfl ((hg_K hs _).1.trans hk) (by decide) rfl ?_
  iterate 2 (refine WP.st rfl ?_)
  refine WP.nar (kd := 9) (n := 84) (q := 213) (cu' := 5) (su' := 596) rfl (by rw [hg_N, hn]; rfl) ?_
  refine WP.pfRg rfl rfl ((hg_K hs _).1.trans hk) (by decide) rfl ?_
  iterate 2 (refine WP.st rfl ?_)
  refine WP.nar (kd := 11) (n := 20) (q := 214) (cu' := 6) (su' := 616) rfl (by rw [hg_N, hn]; rfl) ?_
  refine WP.pfRg rfl rfl ((hg_K hs _).1.trans hk) (by decide) rfl ?_
  iterate 2 (refine WP.st rfl ?_)
  refine WP.nar (kd := 9) (n := 20) (q := 215) (cu' := 7) (su' := 636) rfl (by rw [hg_N, hn]; rfl) ?_
  refine WP.pfRg rfl rfl ((hg_K hs _).1.trans hk) (by decide) rfl ?_
  iterate 2 (refine WP.st rfl ?_)
  refine WP.nar (kd := 9) (n := 21) (q := 216) (cu' := 8) (su' := 657) rfl (by rw [hg_N, hn]; rfl) ?_
  refine WP.pfRg rfl rfl ((hg_K hs _).1.trans hk) (by decide) rfl ?_
  iterate 2 (refine WP.st rfl ?_)
  refine WP.nar (kd := 9) (n := 21) (q := 217) (cu' := 9) (su' := 678) rfl (by rw [hg_N, hn]; rfl) ?_
  refine WP.pfRg rfl rfl ((hg_K hs _).1.trans hk) (by decide) rfl ?_
  iterate 2 (refine WP.st rfl ?_)
  refine WP.nar (kd := 11) (n := 20) (q := 218) (cu' := 10) (su' := 698) rfl (by rw [hg_N, hn]; rfl) ?_
  refine WP.pfRg rfl rfl ((hg_K hs _).1.trans hk) (by decide) rfl ?_
  iterate 2 (refine WP.st rfl ?_)
  refine WP.nar (kd := 9) (n := 7) (q := 219) (cu' := 11) (su' := 705) rfl (by rw [hg_N, hn]; rfl) ?_
  iterate 3 (refine WP.st rfl ?_)
  refine WP.iasg (k := 0) (v := 1073741789) rfl (by decide) (hK_z hn _ 219 rfl) (show 0 < hL _ 219 by rw [hL_z hn _ 219 (k := 7) rfl]; decide) (by rw [hL_z hn _ 219 (k := 7) rfl]; rfl) (by decide) ?_
  iterate 3 (refine WP.st rfl ?_)
  refine WP.iasg (k := 1) (v := 1073741783) rfl (by decide) (hK_z hn _ 219 rfl) (show 1 < hL _ 219 by rw [hL_z hn _ 219 (k := 7) rfl]; decide) (by rw [hL_z hn _ 219 (k := 7) rfl]; rfl) (by decide) ?_
  iterate 3 (refine WP.st rfl ?_)
  refine WP.iasg (k := 2) (v := 1073741741) rfl (by decide) (hK_z hn _ 219 rfl) (show 2 < hL _ 219 by rw [hL_z hn _ 219 (k := 7) rfl]; decide) (by rw [hL_z hn _ 219 (k := 7) rfl]; rfl) (by decide) ?_
  iterate 3 (refine WP.st rfl ?_)
  refine WP.iasg (k := 3) (v := 1073741723) rfl (by decide) (hK_z hn _ 219 rfl) (show 3 < hL _ 219 by rw [hL_z hn _ 219 (k := 7) rfl]; decide) (by rw [hL_z hn _ 219 (k := 7) rfl]; rfl) (by decide) ?_
  iterate 3 (refine WP.st rfl ?_)
  refine WP.iasg (k := 4) (v := 1073741719) rfl (by decide) (hK_z hn _ 219 rfl) (show 4 < hL _ 219 by rw [hL_z hn _ 219 (k := 7) rfl]; decide) (by rw [hL_z hn _ 219 (k := 7) rfl]; rfl) (by decide) ?_
  iterate 3 (refine WP.st rfl ?_)
  refine WP.iasg (k := 5) (v := 1073741717) rfl (by decide) (hK_z hn _ 219 rfl) (show 5 < hL _ 219 by rw [hL_z hn _ 219 (k := 7) rfl]; decide) (by rw [hL_z hn _ 219 (k := 7) rfl]; rfl) (by decide) ?_
  iterate 3 (refine WP.st rfl ?_)
  refine WP.iasg (k := 6) (v := 1073741689) rfl (by decide) (hK_z hn _ 219 rfl) (show 6 < hL _ 219 by rw [hL_z hn _ 219 (k := 7) rfl]; decide) (by rw [hL_z hn _ 219 (k := 7) rfl]; rfl) (by decide) ?_
  refine WP.pfRg rfl rfl ((hg_K hs _).1.trans hk) (by decide) rfl ?_
  iterate 2 (refine WP.st rfl ?_)
  refine WP.nar (kd := 10) (n := 391) (q := 220) (cu' := 12) (su' := 1096) rfl (by rw [hg_N, hn]; rfl) ?_
  refine WP.pfRg rfl rfl ((hg_K hs _).1.trans hk) (by decide) rfl ?_
  iterate 2 (refine WP.st rfl ?_)
  refine WP.nar (kd := 10) (n := 272) (q := 221) (cu' := 13) (su' := 1368) rfl (by rw [hg_N, hn]; rfl) ?_
  refine WP.pfRg rfl rfl ((hg_K hs _).1.trans hk) (by decide) rfl ?_
  iterate 2 (refine WP.st rfl ?_)
  refine WP.nar (kd := 10) (n := 16) (q := 222) (cu' := 14) (su' := 1384) rfl (by rw [hg_N, hn]; rfl) ?_
  refine WP.pfRg rfl rfl ((hg_K hs _).1.trans hk) (by decide) rfl ?_
  iterate 2 (refine WP.st rfl ?_)
  refine WP.nar (kd := 9) (n := 16) (q := 223) (cu' := 15) (su' := 1400) rfl (by rw [hg_N, hn]; rfl) ?_
  refine WP.pfRg rfl rfl ((hg_K hs _).1.trans hk) (by decide) rfl ?_
  iterate 2 (refine WP.st rfl ?_)
  refine WP.nar (kd := 10) (n := 7) (q := 224) (cu' := 16) (su' := 1407) rfl (by rw [hg_N, hn]; rfl) ?_
  refine WP.pfRg rfl rfl ((hg_K hs _).1.trans hk) (by decide) rfl ?_
  iterate 2 (refine WP.st rfl ?_)
  refine WP.nar (kd := 10) (n := 7) (q := 225) (cu' := 17) (su' := 1414) rfl (by rw [hg_N, hn]; rfl) ?_
  refine WP.pfRg rfl rfl ((hg_K hs _).1.trans hk) (by decide) rfl ?_
  iterate 2 (refine WP.st rfl ?_)
  refine WP.nar (kd := 10) (n := 5) (q := 226) (cu' := 18) (su' := 1419) rfl (by rw [hg_N, hn]; rfl) ?_
  refine WP.pfRg rfl rfl ((hg_K hs _).1.trans hk) (by decide) rfl ?_
  iterate 2 (refine WP.st rfl ?_)
  refine WP.nar (kd := 10) (n := 48) (q := 227) (cu' := 19) (su' := 1467) rfl (by rw [hg_N, hn]; rfl) ?_
  refine WP.pfRg rfl rfl ((hg_K hs _).1.trans hk) (by decide) rfl ?_
  iterate 2 (refine WP.st rfl ?_)
  refine WP.nar (kd := 9) (n := 8) (q := 228) (cu' := 20) (su' := 1475) rfl (by rw [hg_N, hn]; rfl) ?_
  refine WP.pfRg rfl rfl ((hg_K hs _).1.trans hk) (by decide) rfl ?_
  iterate 1 (refine WP.st rfl ?_)
  refine WP.get (v := .ref 227) rfl rfl ((hg_K hs _).1.trans hk) (congrArg mm_rv (hR_z hn _ 208 24 (k := some 227) rfl)) ?_
  iterate 2 (refine WP.st rfl ?_)
  refine WP.lasg (k := 6) (v := 1) rfl (by decide) (hK_z hn _ 227 rfl) (show 6 < hL _ 227 by rw [hL_z hn _ 227 (k := 48) rfl]; decide) (by rw [hL_z hn _ 227 (k := 48) rfl]; rfl) rfl ?_
  exact WP.ret rfl ⟨rfl, rfl⟩
