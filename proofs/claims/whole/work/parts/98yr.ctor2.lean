def itL (i : Nat) : List Op := (1, 4, i, 147 + 3 * i) :: (suL (147 + 3 * i) ++ [(0, 5, 0, 0)])
def ITI (h : MH) (i : Nat) : Prop := hN h = 147 + 3 * i ∧ hK h 2 = 7 ∧ hR h 2 2 = some 4 ∧ hK h 4 = 12 ∧ hL h 4 = 20
theorem dt_it0 {h : MH} (g : ITI h 0) (Q : Option Value → MH → Prop) (k : ITI (hg h (itL 0)) 1 → WP m_DT_init (89, [some (.ref 2), some (.int (nI 1))], [], hg h (itL 0), 147, 3222) Q) : WP m_DT_init (89, [some (.ref 2), some (.int (nI 0))], [], h, 144, 3209) Q := by
  obtain ⟨hn, h2, h22, h4, l4⟩ := g
  change hN h = 147 at hn
  have k2 := k ⟨by rw [hg_N, hn]; rfl, (hg_K (by omega) _).1.trans h2, hR_z hn _ 2 2 h22, (hg_K (by omega) _).1.trans h4, (hg_K (by omega) _).2.trans l4⟩
  change WP m_DT_init (89, [some (.ref 2), some (.int (nI 0))], [], hg h [], 144, 3209) Q
  iterate 2 (refine WP.st rfl ?_)
  refine WP.icf rfl (show ¬ (20 : Int32) ≤ (0 : Int32) by decide) ?_
  refine WP.st rfl ?_
  refine WP.get (v := .ref 4) rfl rfl h2 (congrArg mm_rv h22) ?_
  refine WP.st rfl ?_
  refine WP.nwg (ci := 5) (q := 147) (cu' := 145) (su' := 3214) rfl hn ?_
  refine WP.st rfl ?_
  refine WP.cs rfl rfl rfl rfl rfl ((hg_new hn 5 0).1) rfl rfl rfl (su_init (by rw [hg_N, hn]; rfl) ((hg_new hn 5 0).1)) ?_
  rintro _ _ ⟨rfl, rfl⟩
  rw [← hg_app]
  refine WP.aasg (k := 0) rfl rfl (Or.inl ⟨(hg_K (show 4 < hN h by omega) _).1.trans h4, hK_z hn _ 147 rfl⟩) (show 0 < hL _ 4 by rw [(hg_K (show 4 < hN h by omega) _).2, l4]; decide) (by rw [(hg_K (show 4 < hN h by omega) _).2, l4]; rfl) ?_
  iterate 2 (refine WP.st rfl ?_)
  exact k2
theorem dt_it1 {h : MH} (g : ITI h 1) (Q : Option Value → MH → Prop) (k : ITI (hg h (itL 1)) 2 → WP m_DT_init (89, [some (.ref 2), some (.int (nI 2))], [], hg h (itL 1), 150, 3235) Q) : WP m_DT_init (89, [some (.ref 2), some (.int (nI 1))], [], h, 147, 3222) Q := by
  obtain ⟨hn, h2, h22, h4, l4⟩ := g
  change hN h = 150 at hn
  have k2 := k ⟨by rw [hg_N, hn]; rfl, (hg_K (by omega) _).1.trans h2, hR_z hn _ 2 2 h22, (hg_K (by omega) _).1.trans h4, (hg_K (by omega) _).2.trans l4⟩
  change WP m_DT_init (89, [some (.ref 2), some (.int (nI 1))], [], hg h [], 147, 3222) Q
  iterate 2 (refine WP.st rfl ?_)
  refine WP.icf rfl (show ¬ (20 : Int32) ≤ (1 : Int32) by decide) ?_
  refine WP.st rfl ?_
  refine WP.get (v := .ref 4) rfl rfl h2 (congrArg mm_rv h22) ?_
  refine WP.st rfl ?_
  refine WP.nwg (ci := 5) (q := 150) (cu' := 148) (su' := 3227) rfl hn ?_
  refine WP.st rfl ?_
  refine WP.cs rfl rfl rfl rfl rfl ((hg_new hn 5 0).1) rfl rfl rfl (su_init (by rw [hg_N, hn]; rfl) ((hg_new hn 5 0).1)) ?_
  rintro _ _ ⟨rfl, rfl⟩
  rw [← hg_app]
  refine WP.aasg (k := 1) rfl rfl (Or.inl ⟨(hg_K (show 4 < hN h by omega) _).1.trans h4, hK_z hn _ 150 rfl⟩) (show 1 < hL _ 4 by rw [(hg_K (show 4 < hN h by omega) _).2, l4]; decide) (by rw [(hg_K (show 4 < hN h by omega) _).2, l4]; rfl) ?_
  iterate 2 (refine WP.st rfl ?_)
  exact k2
theorem dt_it2 {h : MH} (g : ITI h 2) (Q : Option Value → MH → Prop) (k : ITI (hg h (itL 2)) 3 → WP m_DT_init (89, [some (.ref 2), some (.int (nI 3))], [], hg h (itL 2), 153, 3248) Q) : WP m_DT_init (89, [some (.ref 2), some (.int (nI 2))], [], h, 150, 3235) Q := by
  obtain ⟨hn, h2, h22, h4, l4⟩ := g
  change hN h = 153 at hn
  have k2 := k ⟨by rw [hg_N, hn]; rfl, (hg_K (by omega) _).1.trans h2, hR_z hn _ 2 2 h22, (hg_K (by omega) _).1.trans h4, (hg_K (by omega) _).2.trans l4⟩
  change WP m_DT_init (89, [some (.ref 2), some (.int (nI 2))], [], hg h [], 150, 3235) Q
  iterate 2 (refine WP.st rfl ?_)
  refine WP.icf rfl (show ¬ (20 : Int32) ≤ (2 : Int32) by decide) ?_
  refine WP.st rfl ?_
  refine WP.get (v := .ref 4) rfl rfl h2 (congrArg mm_rv h22) ?_
  refine WP.st rfl ?_
  refine WP.nwg (ci := 5) (q := 153) (cu' := 151) (su' := 3240) rfl hn ?_
  refine WP.st rfl ?_
  refine WP.cs rfl rfl rfl rfl rfl ((hg_new hn 5 0).1) rfl rfl rfl (su_init (by rw [hg_N, hn]; rfl) ((hg_new hn 5 0).1)) ?_
  rintro _ _ ⟨rfl, rfl⟩
  rw [← hg_app]
  refine WP.aasg (k := 2) rfl rfl (Or.inl ⟨(hg_K (show 4 < hN h by omega) _).1.trans h4, hK_z hn _ 153 rfl⟩) (show 2 < hL _ 4 by rw [(hg_K (show 4 < hN h by omega) _).2, l4]; decide) (by rw [(hg_K (show 4 < hN h by omega) _).2, l4]; rfl) ?_
  iterate 2 (refine WP.st rfl ?_)
  exact k2
theorem dt_it3 {h : MH} (g : ITI h 3) (Q : Option Value → MH → Prop) (k : ITI (hg h (itL 3)) 4 → WP m_DT_init (89, [some (.ref 2), some (.int (nI 4))], [], hg h (itL 3), 156, 3261) Q) : WP m_DT_init (89, [some (.ref 2), some (.int (nI 3))], [], h, 153, 3248) Q := by
  obtain ⟨hn, h2, h22, h4, l4⟩ := g
  change hN h = 156 at hn
  have k2 := k ⟨by rw [hg_N, hn]; rfl, (hg_K (by omega) _).1.trans h2, hR_z hn _ 2 2 h22, (hg_K (by omega) _).1.trans h4, (hg_K (by omega) _).2.trans l4⟩
  change WP m_DT_init (89, [some (.ref 2), some (.int (nI 3))], [], hg h [], 153, 3248) Q
  iterate 2 (refine WP.st rfl ?_)
  refine WP.icf rfl (show ¬ (20 : Int32) ≤ (3 : Int32) by decide) ?_
  refine WP.st rfl ?_
  refine WP.get (v := .ref 4) rfl rfl h2 (congrArg mm_rv h22) ?_
  refine WP.st rfl ?_
  refine WP.nwg (ci := 5) (q := 156) (cu' := 154) (su' := 3253) rfl hn ?_
  refine WP.st rfl ?_
  refine WP.cs rfl rfl rfl rfl rfl ((hg_new hn 5 0).1) rfl rfl rfl (su_init (by rw [hg_N, hn]; rfl) ((hg_new hn 5 0).1)) ?_
  rintro _ _ ⟨rfl, rfl⟩
  rw [← hg_app]
  refine WP.aasg (k := 3) rfl rfl (Or.inl ⟨(hg_K (show 4 < hN h by omega) _).1.trans h4, hK_z hn _ 156 rfl⟩) (show 3 < hL _ 4 by rw [(hg_K (show 4 < hN h by omega) _).2, l4]; decide) (by rw [(hg_K (show 4 < hN h by omega) _).2, l4]; rfl) ?_
  iterate 2 (refine WP.st rfl ?_)
  exact k2
theorem dt_it4 {h : MH} (g : ITI h 4) (Q : Option Value → MH → Prop) (k : ITI (hg h (itL 4)) 5 → WP m_DT_init (89, [some (.ref 2), some (.int (nI 5))], [], hg h (itL 4), 159, 3274) Q) : WP m_DT_init (89, [some (.ref 2), some (.int (nI 4))], [], h, 156, 3261) Q := by
  obtain ⟨hn, h2, h22, h4, l4⟩ := g
  change hN h = 159 at hn
  have k2 := k ⟨by rw [hg_N, hn]; rfl, (hg_K (by omega) _).1.trans h2, hR_z hn _ 2 2 h22, (hg_K (by omega) _).1.trans h4, (hg_K (by omega) _).2.trans l4⟩
  change WP m_DT_init (89, [some (.ref 2), some (.int (nI 4))], [], hg h [], 156, 3261) Q
  iterate 2 (refine WP.st rfl ?_)
  refine WP.icf rfl (show ¬ (20 : Int32) ≤ (4 : Int32) by decide) ?_
  refine WP.st rfl ?_
  refine WP.get (v := .ref 4) rfl rfl h2 (congrArg mm_rv h22) ?_
  refine WP.st rfl ?_
  refine WP.nwg (ci := 5) (q := 159) (cu' := 157) (su' := 3266) rfl hn ?_
  refine WP.st rfl ?_
  refine WP.cs rfl rfl rfl rfl rfl ((hg_new hn 5 0).1) rfl rfl rfl (su_init (by rw [hg_N, hn]; rfl) ((hg_new hn 5 0).1)) ?_
  rintro _ _ ⟨rfl, rfl⟩
  rw [← hg_app]
  refine WP.aasg (k := 4) rfl rfl (Or.inl ⟨(hg_K (show 4 < hN h by omega) _).1.trans h4, hK_z hn _ 159 rfl⟩) (show 4 < hL _ 4 by rw [(hg_K (show 4 < hN h by omega) _).2, l4]; decide) (by rw [(hg_K (show 4 < hN h by omega) _).2, l4]; rfl) ?_
  iterate 2 (refine WP.st rfl ?_)
  exact k2
theorem dt_it5 {h : MH} (g : ITI h 5) (Q : Option Value → MH → Prop) (k : ITI (hg h (itL 5)) 6 → WP m_DT_init (89, [some (.ref 2), some (.int (nI 6))], [], hg h (itL 5), 162, 3287) Q) : WP m_DT_init (89, [some (.ref 2), some (.int (nI 5))], [], h, 159, 3274) Q := by
  obtain ⟨hn, h2, h22, h4, l4⟩ := g
  change hN h = 162 at hn
  have k2 := k ⟨by rw [hg_N, hn]; rfl, (hg_K (by omega) _).1.trans h2, hR_z hn _ 2 2 h22, (hg_K (by omega) _).1.trans h4, (hg_K (by omega) _).2.trans l4⟩
  change WP m_DT_init (89, [some (.ref 2), some (.int (nI 5))], [], hg h [], 159, 3274) Q
  iterate 2 (refine WP.st rfl ?_)
  refine WP.icf rfl (show ¬ (20 : Int32) ≤ (5 : Int32) by decide) ?_
  refine WP.st rfl ?_
  refine WP.get (v := .ref 4) rfl rfl h2 (congrArg mm_rv h22) ?_
  refine WP.st rfl ?_
  refine WP.nwg (ci := 5) (q := 162) (cu' := 160) (su' := 3279) rfl hn ?_
  refine WP.st rfl ?_
  refine WP.cs rfl rfl rfl rfl rfl ((hg_new hn 5 0).1) rfl rfl rfl (su_init (by rw [hg_N, hn]; rfl) ((hg_new hn 5 0).1)) ?_
  rintro _ _ ⟨rfl, rfl⟩
  rw [← hg_app]
  refine WP.aasg (k := 5) rfl rfl (Or.inl ⟨(hg_K (show 4 < hN h by omega) _).1.trans h4, hK_z hn _ 162 rfl⟩) (show 5 < hL _ 4 by rw [(hg_K (show 4 < hN h by omega) _).2, l4]; decide) (by rw [(hg_K (show 4 < hN h by omega) _).2, l4]; rfl) ?_
  iterate 2 (refine WP.st rfl ?_)
  exact k2
theorem dt_it6 {h : MH} (g : ITI h 6) (Q : Option Value → MH → Prop) (k : ITI (hg h (itL 6)) 7 → WP m_DT_init (89, [some (.ref 2), some (.int (nI 7))], [], hg h (itL 6), 165, 3300) Q) : WP m_DT_init (89, [some (.ref 2), some (.int (nI 6))], [], h, 162, 3287) Q := by
  obtain ⟨hn, h2, h22, h4, l4⟩ := g
  change hN h = 165 at hn
  have k2 := k ⟨by rw [hg_N, hn]; rfl, (hg_K (by omega) _).1.trans h2, hR_z hn _ 2 2 h22, (hg_K (by omega) _).1.trans h4, (hg_K (by omega) _).2.trans l4⟩
  change WP m_DT_init (89, [some (.ref 2), some (.int (nI 6))], [], hg h [], 162, 3287) Q
  iterate 2 (refine WP.st rfl ?_)
  refine WP.icf rfl (show ¬ (20 : Int32) ≤ (6 : Int32) by decide) ?_
  refine WP.st rfl ?_
  refine WP.get (v := .ref 4) rfl rfl h2 (congrArg mm_rv h22) ?_
  refine WP.st rfl ?_
  refine WP.nwg (ci := 5) (q := 165) (cu' := 163) (su' := 3292) rfl hn ?_
  refine WP.st rfl ?_
  refine WP.cs rfl rfl rfl rfl rfl ((hg_new hn 5 0).1) rfl rfl rfl (su_init (by rw [hg_N, hn]; rfl) ((hg_new hn 5 0).1)) ?_
  rintro _ _ ⟨rfl, rfl⟩
  rw [← hg_app]
  refine WP.aasg (k := 6) rfl rfl (Or.inl ⟨(hg_K (show 4 < hN h by omega) _).1.trans h4, hK_z hn _ 165 rfl⟩) (show 6 < hL _ 4 by rw [(hg_K (show 4 < hN h by omega) _).2, l4]; decide) (by rw [(hg_K (show 4 < hN h by omega) _).2, l4]; rfl) ?_
  iterate 2 (refine WP.st rfl ?_)
  exact k2
theorem dt_it7 {h : MH} (g : ITI h 7) (Q : Option Value → MH → Prop) (k : ITI (hg h (itL 7)) 8 → WP m_DT_init (89, [some (.ref 2), some (.int (nI 8))], [], hg h (itL 7), 168, 3313) Q) : WP m_DT_init (89, [some (.ref 2), some (.int (nI 7))], [], h, 165, 3300) Q := by
  obtain ⟨hn, h2, h22, h4, l4⟩ := g
  change hN h = 168 at hn
  have k2 := k ⟨by rw [hg_N, hn]; rfl, (hg_K (by omega) _).1.trans h2, hR_z hn _ 2 2 h22, (hg_K (by omega) _).1.trans h4, (hg_K (by omega) _).2.trans l4⟩
  change WP m_DT_init (89, [some (.ref 2), some (.int (nI 7))], [], hg h [], 165, 3300) Q
  iterate 2 (refine WP.st rfl ?_)
  refine WP.icf rfl (show ¬ (20 : Int32) ≤ (7 : Int32) by decide) ?_
  refine WP.st rfl ?_
  refine WP.get (v := .ref 4) rfl rfl h2 (congrArg mm_rv h22) ?_
  refine WP.st rfl ?_
  refine WP.nwg (ci := 5) (q := 168) (cu' := 166) (su' := 3305) rfl hn ?_
  refine WP.st rfl ?_
  refine WP.cs rfl rfl rfl rfl rfl ((hg_new hn 5 0).1) rfl rfl rfl (su_init (by rw [hg_N, hn]; rfl) ((hg_new hn 5 0).1)) ?_
  rintro _ _ ⟨rfl, rfl⟩
  rw [← hg_app]
  refine WP.aasg (k := 7) rfl rfl (Or.inl ⟨(hg_K (show 4 < hN h by omega) _).1.trans h4, hK_z hn _ 168 rfl⟩) (show 7 < hL _ 4 by rw [(hg_K (show 4 < hN h by omega) _).2, l4]; decide) (by rw [(hg_K (show 4 < hN h by omega) _).2, l4]; rfl) ?_
  iterate 2 (refine WP.st rfl ?_)
  exact k2
theorem dt_it8 {h : MH} (g : ITI h 8) (Q : Option Value → MH → Prop) (k : ITI (hg h (itL 8)) 9 → WP m_DT_init (89, [some (.ref 2), some (.int (nI 9))], [], hg h (itL 8), 171, 3326) Q) : WP m_DT_init (89, [some (.ref 2), some (.int (nI 8))], [], h, 168, 3313) Q := by
  obtain ⟨hn, h2, h22, h4, l4⟩ := g
  change hN h = 171 at hn
  have k2 := k ⟨by rw [hg_N, hn]; rfl, (hg_K (by omega) _).1.trans h2, hR_z hn _ 2 2 h22, (hg_K (by omega) _).1.trans h4, (hg_K (by omega) _).2.trans l4⟩
  change WP m_DT_init (89, [some (.ref 2), some (.int (nI 8))], [], hg h [], 168, 3313) Q
  iterate 2 (refine WP.st rfl ?_)
  refine WP.icf rfl (show ¬ (20 : Int32) ≤ (8 : Int32) by decide) ?_
  refine WP.st rfl ?_
  refine WP.get (v := .ref 4) rfl rfl h2 (congrArg mm_rv h22) ?_
  refine WP.st rfl ?_
  refine WP.nwg (ci := 5) (q := 171) (cu' := 169) (su' := 3318) rfl hn ?_
  refine WP.st rfl ?_
  refine WP.cs rfl rfl rfl rfl rfl ((hg_new hn 5 0).1) rfl rfl rfl (su_init (by rw [hg_N, hn]; rfl) ((hg_new hn 5 0).1)) ?_
  rintro _ _ ⟨rfl, rfl⟩
  rw [← hg_app]
  refine WP.aasg (k := 8) rfl rfl (Or.inl ⟨(hg_K (show 4 < hN h by omega) _).1.trans h4, hK_z hn _ 171 rfl⟩) (show 8 < hL _ 4 by rw [(hg_K (show 4 < hN h by omega) _).2, l4]; decide) (by rw [(hg_K (show 4 < hN h by omega) _).2, l4]; rfl) ?_
  iterate 2 (refine WP.st rfl ?_)
  exact k2
theorem dt_it9 {h : MH} (g : ITI h 9) (Q : Option Value → MH → Prop) (k : ITI (hg h (itL 9)) 10 → WP m_DT_init (89, [some (.ref 2), some (.int (nI 10))], [], hg h (itL 9), 174, 3339) Q) : WP m_DT_init (89, [some (.ref 2), some (.int (nI 9))], [], h, 171, 3326) Q := by
  obtain ⟨hn, h2, h22, h4, l4⟩ := g
  change hN h = 174 at hn
  have k2 := k ⟨by rw [hg_N, hn]; rfl, (hg_K (by omega) _).1.trans h2, hR_z hn _ 2 2 h22, (hg_K (by omega) _).1.trans h4, (hg_K (by omega) _).2.trans l4⟩
  change WP m_DT_init (89, [some (.ref 2), some (.int (nI 9))], [], hg h [], 171, 3326) Q
  iterate 2 (refine WP.st rfl ?_)
  refine WP.icf rfl (show ¬ (20 : Int32) ≤ (9 : Int32) by decide) ?_
  refine WP.st rfl ?_
  refine WP.get (v := .ref 4) rfl rfl h2 (congrArg mm_rv h22) ?_
  refine WP.st rfl ?_
  refine WP.nwg (ci := 5) (q := 174) (cu' := 172) (su' := 3331) rfl hn ?_
  refine WP.st rfl ?_
  refine WP.cs rfl rfl rfl rfl rfl ((hg_new hn 5 0).1) rfl rfl rfl (su_init (by rw [hg_N, hn]; rfl) ((hg_new hn 5 0).1)) ?_
  rintro _ _ ⟨rfl, rfl⟩
  rw [← hg_app]
  refine WP.aasg (k := 9) rfl rfl (Or.inl ⟨(hg_K (show 4 < hN h by omega) _).1.trans h4, hK_z hn _ 174 rfl⟩) (show 9 < hL _ 4 by rw [(hg_K (show 4 < hN h by omega) _).2, l4]; decide) (by rw [(hg_K (show 4 < hN h by omega) _).2, l4]; rfl) ?_
  iterate 2 (refine WP.st rfl ?_)
  exact k2
theorem dt_it10 {h : MH} (g : ITI h 10) (Q : Option Value → MH → Prop) (k : ITI (hg h (itL 10)) 11 → WP m_DT_init (89, [some (.ref 2), some (.int (nI 11))], [], hg h (itL 10), 177, 3352) Q) : WP m_DT_init (89, [some (.ref 2), some (.int (nI 10))], [], h, 174, 3339) Q := by
  obtain ⟨hn, h2, h22, h4, l4⟩ := g
  change hN h = 177 at hn
  have k2 := k ⟨by rw [hg_N, hn]; rfl, (hg_K (by omega) _).1.trans h2, hR_z hn _ 2 2 h22, (hg_K (by omega) _).1.trans h4, (hg_K (by omega) _).2.trans l4⟩
  change WP m_DT_init (89, [some (.ref 2), some (.int (nI 10))], [], hg h [], 174, 3339) Q
  iterate 2 (refine WP.st rfl ?_)
  refine WP.icf rfl (show ¬ (20 : Int32) ≤ (10 : Int32) by decide) ?_
  refine WP.st rfl ?_
  refine WP.get (v := .ref 4) rfl rfl h2 (congrArg mm_rv h22) ?_
  refine WP.st rfl ?_
  refine WP.nwg (ci := 5) (q := 177) (cu' := 175) (su' := 3344) rfl hn ?_
  refine WP.st rfl ?_
  refine WP.cs rfl rfl rfl rfl rfl ((hg_new hn 5 0).1) rfl rfl rfl (su_init (by rw [hg_N, hn]; rfl) ((hg_new hn 5 0).1)) ?_
  rintro _ _ ⟨rfl, rfl⟩
  rw [← hg_app]
  refine WP.aasg (k := 10) rfl rfl (Or.inl ⟨(hg_K (show 4 < hN h by omega) _).1.trans h4, hK_z hn _ 177 rfl⟩) (show 10 < hL _ 4 by rw [(hg_K (show 4 < hN h by omega) _).2, l4]; decide) (by rw [(hg_K (show 4 < hN h by omega) _).2, l4]; rfl) ?_
  iterate 2 (refine WP.st rfl ?_)
  exact k2
theorem dt_it11 {h : MH} (g : ITI h 11) (Q : Option Value → MH → Prop) (k : ITI (hg h (itL 11)) 12 → WP m_DT_init (89, [some (.ref 2), some (.int (nI 12))], [], hg h (itL 11), 180, 3365) Q) : WP m_DT_init (89, [some (.ref 2), some (.int (nI 11))], [], h, 177, 3352) Q := by
  obtain ⟨hn, h2, h22, h4, l4⟩ := g
  change hN h = 180 at hn
  have k2 := k ⟨by rw [hg_N, hn]; rfl, (hg_K (by omega) _).1.trans h2, hR_z hn _ 2 2 h22, (hg_K (by omega) _).1.trans h4, (hg_K (by omega) _).2.trans l4⟩
  change WP m_DT_init (89, [some (.ref 2), some (.int (nI 11))], [], hg h [], 177, 3352) Q
  iterate 2 (refine WP.st rfl ?_)
  refine WP.icf rfl (show ¬ (20 : Int32) ≤ (11 : Int32) by decide) ?_
  refine WP.st rfl ?_
  refine WP.get (v := .ref 4) rfl rfl h2 (congrArg mm_rv h22) ?_
  refine WP.st rfl ?_
  refine WP.nwg (ci := 5) (q := 180) (cu' := 178) (su' := 3357) rfl hn ?_
  refine WP.st rfl ?_
  refine WP.cs rfl rfl rfl rfl rfl ((hg_new hn 5 0).1) rfl rfl rfl (su_init (by rw [hg_N, hn]; rfl) ((hg_new hn 5 0).1)) ?_
  rintro _ _ ⟨rfl, rfl⟩
  rw [← hg_app]
  refine WP.aasg (k := 11) rfl rfl (Or.inl ⟨(hg_K (show 4 < hN h by omega) _).1.trans h4, hK_z hn _ 180 rfl⟩) (show 11 < hL _ 4 by rw [(hg_K (show 4 < hN h by omega) _).2, l4]; decide) (by rw [(hg_K (show 4 < hN h by omega) _).2, l4]; rfl) ?_
  iterate 2 (refine WP.st rfl ?_)
  exact k2
theorem dt_it12 {h : MH} (g : ITI h 12) (Q : Option Value → MH → Prop) (k : ITI (hg h (itL 12)) 13 → WP m_DT_init (89, [some (.ref 2), some (.int (nI 13))], [], hg h (itL 12), 183, 3378) Q) : WP m_DT_init (89, [some (.ref 2), some (.int (nI 12))], [], h, 180, 3365) Q := by
  obtain ⟨hn, h2, h22, h4, l4⟩ := g
  change hN h = 183 at hn
  have k2 := k ⟨by rw [hg_N, hn]; rfl, (hg_K (by omega) _).1.trans h2, hR_z hn _ 2 2 h22, (hg_K (by omega) _).1.trans h4, (hg_K (by omega) _).2.trans l4⟩
  change WP m_DT_init (89, [some (.ref 2), some (.int (nI 12))], [], hg h [], 180, 3365) Q
  iterate 2 (refine WP.st rfl ?_)
  refine WP.icf rfl (show ¬ (20 : Int32) ≤ (12 : Int32) by decide) ?_
  refine WP.st rfl ?_
  refine WP.get (v := .ref 4) rfl rfl h2 (congrArg mm_rv h22) ?_
  refine WP.st rfl ?_
  refine WP.nwg (ci := 5) (q := 183) (cu' := 181) (su' := 3370) rfl hn ?_
  refine WP.st rfl ?_
  refine WP.cs rfl rfl rfl rfl rfl ((hg_new hn 5 0).1) rfl rfl rfl (su_init (by rw [hg_N, hn]; rfl) ((hg_new hn 5 0).1)) ?_
  rintro _ _ ⟨rfl, rfl⟩
  rw [← hg_app]
  refine WP.aasg (k := 12) rfl rfl (Or.inl ⟨(hg_K (show 4 < hN h by omega) _).1.trans h4, hK_z hn _ 183 rfl⟩) (show 12 < hL _ 4 by rw [(hg_K (show 4 < hN h by omega) _).2, l4]; decide) (by rw [(hg_K (show 4 < hN h by omega) _).2, l4]; rfl) ?_
  iterate 2 (refine WP.st rfl ?_)
  exact k2
theorem dt_it13 {h : MH} (g : ITI h 13) (Q : Option Value → MH → Prop) (k : ITI (hg h (itL 13)) 14 → WP m_DT_init (89, [some (.ref 2), some (.int (nI 14))], [], hg h (itL 13), 186, 3391) Q) : WP m_DT_init (89, [some (.ref 2), some (.int (nI 13))], [], h, 183, 3378) Q := by
  obtain ⟨hn, h2, h22, h4, l4⟩ := g
  change hN h = 186 at hn
  have k2 := k ⟨by rw [hg_N, hn]; rfl, (hg_K (by omega) _).1.trans h2, hR_z hn _ 2 2 h22, (hg_K (by omega) _).1.trans h4, (hg_K (by omega) _).2.trans l4⟩
  change WP m_DT_init (89, [some (.ref 2), some (.int (nI 13))], [], hg h [], 183, 3378) Q
  iterate 2 (refine WP.st rfl ?_)
  refine WP.icf rfl (show ¬ (20 : Int32) ≤ (13 : Int32) by decide) ?_
  refine WP.st rfl ?_
  refine WP.get (v := .ref 4) rfl rfl h2 (congrArg mm_rv h22) ?_
  refine WP.st rfl ?_
  refine WP.nwg (ci := 5) (q := 186) (cu' := 184) (su' := 3383) rfl hn ?_
  refine WP.st rfl ?_
  refine WP.cs rfl rfl rfl rfl rfl ((hg_new hn 5 0).1) rfl rfl rfl (su_init (by rw [hg_N, hn]; rfl) ((hg_new hn 5 0).1)) ?_
  rintro _ _ ⟨rfl, rfl⟩
  rw [← hg_app]
  refine WP.aasg (k := 13) rfl rfl (Or.inl ⟨(hg_K (show 4 < hN h by omega) _).1.trans h4, hK_z hn _ 186 rfl⟩) (show 13 < hL _ 4 by rw [(hg_K (show 4 < hN h by omega) _).2, l4]; decide) (by rw [(hg_K (show 4 < hN h by omega) _).2, l4]; rfl) ?_
  iterate 2 (refine WP.st rfl ?_)
  exact k2
theorem dt_it14 {h : MH} (g : ITI h 14) (Q : Option Value → MH → Prop) (k : ITI (hg h (itL 14)) 15 → WP m_DT_init (89, [some (.ref 2), some (.int (nI 15))], [], hg h (itL 14), 189, 3404) Q) : WP m_DT_init (89, [some (.ref 2), some (.int (nI 14))], [], h, 186, 3391) Q := by
  obtain ⟨hn, h2, h22, h4, l4⟩ := g
  change hN h = 189 at hn
  have k2 := k ⟨by rw [hg_N, hn]; rfl, (hg_K (by omega) _).1.trans h2, hR_z hn _ 2 2 h22, (hg_K (by omega) _).1.trans h4, (hg_K (by omega) _).2.trans l4⟩
  change WP m_DT_init (89, [some (.ref 2), some (.int (nI 14))], [], hg h [], 186, 3391) Q
  iterate 2 (refine WP.st rfl ?_)
  refine WP.icf rfl (show ¬ (20 : Int32) ≤ (14 : Int32) by decide) ?_
  refine WP.st rfl ?_
  refine WP.get (v := .ref 4) rfl rfl h2 (congrArg mm_rv h22) ?_
  refine WP.st rfl ?_
  refine WP.nwg (ci := 5) (q := 189) (cu' := 187) (su' := 3396) rfl hn ?_
  refine WP.st rfl ?_
  refine WP.cs rfl rfl rfl rfl rfl ((hg_new hn 5 0).1) rfl rfl rfl (su_init (by rw [hg_N, hn]; rfl) ((hg_new hn 5 0).1)) ?_
  rintro _ _ ⟨rfl, rfl⟩
  rw [← hg_app]
  refine WP.aasg (k := 14) rfl rfl (Or.inl ⟨(hg_K (show 4 < hN h by omega) _).1.trans h4, hK_z hn _ 189 rfl⟩) (show 14 < hL _ 4 by rw [(hg_K (show 4 < hN h by omega) _).2, l4]; decide) (by rw [(hg_K (show 4 < hN h by omega) _).2, l4]; rfl) ?_
  iterate 2 (refine WP.st rfl ?_)
  exact k2
theorem dt_it15 {h : MH} (g : ITI h 15) (Q : Option Value → MH → Prop) (k : ITI (hg h (itL 15)) 16 → WP m_DT_init (89, [some (.ref 2), some (.int (nI 16))], [], hg h (itL 15), 192, 3417) Q) : WP m_DT_init (89, [some (.ref 2), some (.int (nI 15))], [], h, 189, 3404) Q := by
  obtain ⟨hn, h2, h22, h4, l4⟩ := g
  change hN h = 192 at hn
  have k2 := k ⟨by rw [hg_N, hn]; rfl, (hg_K (by omega) _).1.trans h2, hR_z hn _ 2 2 h22, (hg_K (by omega) _).1.trans h4, (hg_K (by omega) _).2.trans l4⟩
  change WP m_DT_init (89, [some (.ref 2), some (.int (nI 15))], [], hg h [], 189, 3404) Q
  iterate 2 (refine WP.st rfl ?_)
  refine WP.icf rfl (show ¬ (20 : Int32) ≤ (15 : Int32) by decide) ?_
  refine WP.st rfl ?_
  refine WP.get (v := .ref 4) rfl rfl h2 (congrArg mm_rv h22) ?_
  refine WP.st rfl ?_
  refine WP.nwg (ci := 5) (q := 192) (cu' := 190) (su' := 3409) rfl hn ?_
  refine WP.st rfl ?_
  refine WP.cs rfl rfl rfl rfl rfl ((hg_new hn 5 0).1) rfl rfl rfl (su_init (by rw [hg_N, hn]; rfl) ((hg_new hn 5 0).1)) ?_
  rintro _ _ ⟨rfl, rfl⟩
  rw [← hg_app]
  refine WP.aasg (k := 15) rfl rfl (Or.inl ⟨(hg_K (show 4 < hN h by omega) _).1.trans h4, hK_z hn _ 192 rfl⟩) (show 15 < hL _ 4 by rw [(hg_K (show 4 < hN h by omega) _).2, l4]; decide) (by rw [(hg_K (show 4 < hN h by omega) _).2, l4]; rfl) ?_
  iterate 2 (refine WP.st rfl ?_)
  exact k2
theorem dt_it16 {h : MH} (g : ITI h 16) (Q : Option Value → MH → Prop) (k : ITI (hg h (itL 16)) 17 → WP m_DT_init (89, [some (.ref 2), some (.int (nI 17))], [], hg h (itL 16), 195, 3430) Q) : WP m_DT_init (89, [some (.ref 2), some (.int (nI 16))], [], h, 192, 3417) Q := by
  obtain ⟨hn, h2, h22, h4, l4⟩ := g
  change hN h = 195 at hn
  have k2 := k ⟨by rw [hg_N, hn]; rfl, (hg_K (by omega) _).1.trans h2, hR_z hn _ 2 2 h22, (hg_K (by omega) _).1.trans h4, (hg_K (by omega) _).2.trans l4⟩
  change WP m_DT_init (89, [some (.ref 2), some (.int (nI 16))], [], hg h [], 192, 3417) Q
  iterate 2 (refine WP.st rfl ?_)
  refine WP.icf rfl (show ¬ (20 : Int32) ≤ (16 : Int32) by decide) ?_
  refine WP.st rfl ?_
  refine WP.get (v := .ref 4) rfl rfl h2 (congrArg mm_rv h22) ?_
  refine WP.st rfl ?_
  refine WP.nwg (ci := 5) (q := 195) (cu' := 193) (su' := 3422) rfl hn ?_
  refine WP.st rfl ?_
  refine WP.cs rfl rfl rfl rfl rfl ((hg_new hn 5 0).1) rfl rfl rfl (su_init (by rw [hg_N, hn]; rfl) ((hg_new hn 5 0).1)) ?_
  rintro _ _ ⟨rfl, rfl⟩
  rw [← hg_app]
  refine WP.aasg (k := 16) rfl rfl (Or.inl ⟨(hg_K (show 4 < hN h by omega) _).1.trans h4, hK_z hn _ 195 rfl⟩) (show 16 < hL _ 4 by rw [(hg_K (show 4 < hN h by omega) _).2, l4]; decide) (by rw [(hg_K (show 4 < hN h by omega) _).2, l4]; rfl) ?_
  iterate 2 (refine WP.st rfl ?_)
  exact k2
theorem dt_it17 {h : MH} (g : ITI h 17) (Q : Option Value → MH → Prop) (k : ITI (hg h (itL 17)) 18 → WP m_DT_init (89, [some (.ref 2), some (.int (nI 18))], [], hg h (itL 17), 198, 3443) Q) : WP m_DT_init (89, [some (.ref 2), some (.int (nI 17))], [], h, 195, 3430) Q := by
  obtain ⟨hn, h2, h22, h4, l4⟩ := g
  change hN h = 198 at hn
  have k2 := k ⟨by rw [hg_N, hn]; rfl, (hg_K (by omega) _).1.trans h2, hR_z hn _ 2 2 h22, (hg_K (by omega) _).1.trans h4, (hg_K (by omega) _).2.trans l4⟩
  change WP m_DT_init (89, [some (.ref 2), some (.int (nI 17))], [], hg h [], 195, 3430) Q
  iterate 2 (refine WP.st rfl ?_)
  refine WP.icf rfl (show ¬ (20 : Int32) ≤ (17 : Int32) by decide) ?_
  refine WP.st rfl ?_
  refine WP.get (v := .ref 4) rfl rfl h2 (congrArg mm_rv h22) ?_
  refine WP.st rfl ?_
  refine WP.nwg (ci := 5) (q := 198) (cu' := 196) (su' := 3435) rfl hn ?_
  refine WP.st rfl ?_
  refine WP.cs rfl rfl rfl rfl rfl ((hg_new hn 5 0).1) rfl rfl rfl (su_init (by rw [hg_N, hn]; rfl) ((hg_new hn 5 0).1)) ?_
  rintro _ _ ⟨rfl, rfl⟩
  rw [← hg_app]
  refine WP.aasg (k := 17) rfl rfl (Or.inl ⟨(hg_K (show 4 < hN h by omega) _).1.trans h4, hK_z hn _ 198 rfl⟩) (show 17 < hL _ 4 by rw [(hg_K (show 4 < hN h by omega) _).2, l4]; decide) (by rw [(hg_K (show 4 < hN h by omega) _).2, l4]; rfl) ?_
  iterate 2 (refine WP.st rfl ?_)
  exact k2
theorem dt_it18 {h : MH} (g : ITI h 18) (Q : Option Value → MH → Prop) (k : ITI (hg h (itL 18)) 19 → WP m_DT_init (89, [some (.ref 2), some (.int (nI 19))], [], hg h (itL 18), 201, 3456) Q) : WP m_DT_init (89, [some (.ref 2), some (.int (nI 18))], [], h, 198, 3443) Q := by
  obtain ⟨hn, h2, h22, h4, l4⟩ := g
  change hN h = 201 at hn
  have k2 := k ⟨by rw [hg_N, hn]; rfl, (hg_K (by omega) _).1.trans h2, hR_z hn _ 2 2 h22, (hg_K (by omega) _).1.trans h4, (hg_K (by omega) _).2.trans l4⟩
  change WP m_DT_init (89, [some (.ref 2), some (.int (nI 18))], [], hg h [], 198, 3443) Q
  iterate 2 (refine WP.st rfl ?_)
  refine WP.icf rfl (show ¬ (20 : Int32) ≤ (18 : Int32) by decide) ?_
  refine WP.st rfl ?_
  refine WP.get (v := .ref 4) rfl rfl h2 (congrArg mm_rv h22) ?_
  refine WP.st rfl ?_
  refine WP.nwg (ci := 5) (q := 201) (cu' := 199) (su' := 3448) rfl hn ?_
  refine WP.st rfl ?_
  refine WP.cs rfl rfl rfl rfl rfl ((hg_new hn 5 0).1) rfl rfl rfl (su_init (by rw [hg_N, hn]; rfl) ((hg_new hn 5 0).1)) ?_
  rintro _ _ ⟨rfl, rfl⟩
  rw [← hg_app]
  refine WP.aasg (k := 18) rfl rfl (Or.inl ⟨(hg_K (show 4 < hN h by omega) _).1.trans h4, hK_z hn _ 201 rfl⟩) (show 18 < hL _ 4 by rw [(hg_K (show 4 < hN h by omega) _).2, l4]; decide) (by rw [(hg_K (show 4 < hN h by omega) _).2, l4]; rfl) ?_
  iterate 2 (refine WP.st rfl ?_)
  exact k2
theorem dt_it19 {h : MH} (g : ITI h 19) (Q : Option Value → MH → Prop) (k : ITI (hg h (itL 19)) 20 → WP m_DT_init (89, [some (.ref 2), some (.int (nI 20))], [], hg h (itL 19), 204, 3469) Q) : WP m_DT_init (89, [some (.ref 2), some (.int (nI 19))], [], h, 201, 3456) Q := by
  obtain ⟨hn, h2, h22, h4, l4⟩ := g
  change hN h = 204 at hn
  have k2 := k ⟨by rw [hg_N, hn]; rfl, (hg_K (by omega) _).1.trans h2, hR_z hn _ 2 2 h22, (hg_K (by omega) _).1.trans h4, (hg_K (by omega) _).2.trans l4⟩
  change WP m_DT_init (89, [some (.ref 2), some (.int (nI 19))], [], hg h [], 201, 3456) Q
  iterate 2 (refine WP.st rfl ?_)
  refine WP.icf rfl (show ¬ (20 : Int32) ≤ (19 : Int32) by decide) ?_
  refine WP.st rfl ?_
  refine WP.get (v := .ref 4) rfl rfl h2 (congrArg mm_rv h22) ?_
  refine WP.st rfl ?_
  refine WP.nwg (ci := 5) (q := 204) (cu' := 202) (su' := 3461) rfl hn ?_
  refine WP.st rfl ?_
  refine WP.cs rfl rfl rfl rfl rfl ((hg_new hn 5 0).1) rfl rfl rfl (su_init (by rw [hg_N, hn]; rfl) ((hg_new hn 5 0).1)) ?_
  rintro _ _ ⟨rfl, rfl⟩
  rw [← hg_app]
  refine WP.aasg (k := 19) rfl rfl (Or.inl ⟨(hg_K (show 4 < hN h by omega) _).1.trans h4, hK_z hn _ 204 rfl⟩) (show 19 < hL _ 4 by rw [(hg_K (show 4 < hN h by omega) _).2, l4]; decide) (by rw [(hg_K (show 4 < hN h by omega) _).2, l4]; rfl) ?_
  iterate 2 (refine WP.st rfl ?_)
  exact k2
def itA : Nat → List Op → List Op
  | 0, l => l
  | i + 1, l => itL i ++ itA i l
def dtB : List Op := ((1, 2, 9, 141) :: (fmL ++ ((0, 2, 0, 0) :: ((1, 2, 8, 134) :: (frL ++ ((0, 1, 0, 0) :: ((1, 2, 7, 76) :: (baL ++ ((0, 0, 0, 0) :: ((1, 2, 6, 11) :: (juL ++ ((0, 4, 0, 0) :: ((1, 2, 5, 8) :: (suL 8 ++ ((0, 5, 0, 0) :: ((1, 2, 4, 5) :: (suL 5 ++ ((0, 5, 0, 0) :: ((1, 2, 2, 4) :: ((0, 12, 20, 0) :: ((1, 2, 0, 3) :: ((0, 9, 16, 0) :: []))))))))))))))))))))))
def dtL : List Op := itA 20 dtB
theorem dt_init {h : MH} (h1 : 1 < hN h) (hk1 : hK h 1 = 21) (hl1 : hL h 1 = 6) (hp1 : ∀ i, i < 6 → hJ h 1 i = mm_ps i) (hn : hN h = 3) (hk : hK h 2 = 7) : SP m_DT_init [.ref 2] h (fun v h' => v = none ∧ h' = hg h dtL) := by
  have hs : 2 < hN h := by omega
  unfold SP
  change WP m_DT_init (0, mm_ent m_DT_init [.ref 2], [], hg h [], 0, 0) _
  iterate 4 (refine WP.st rfl ?_)
  refine WP.nar (kd := 9) (n := 16) (q := 3) (cu' := 1) (su' := 16) rfl (by rw [hg_N, hn]; rfl) ?_
  refine WP.pfRg rfl rfl ((hg_K hs _).1.trans hk) (by decide) rfl ?_
  iterate 2 (refine WP.st rfl ?_)
  refine WP.anr (kd := 12) (n := 20) (q := 4) (cu' := 2) (su' := 36) rfl (by rw [hg_N, hn]; rfl) ?_
  refine WP.pfRg rfl rfl ((hg_K hs _).1.trans hk) (by decide) rfl ?_
  iterate 1 (refine WP.st rfl ?_)
  refine WP.nwg (ci := 5) (q := 5) (cu' := 3) (su' := 41) rfl (by rw [hg_N, hn]; rfl) ?_
  iterate 1 (refine WP.st rfl ?_)
  refine WP.cs rfl rfl rfl rfl rfl ((hg_new (by rw [hg_N, hn]; rfl) 5 0).1) rfl rfl rfl (su_init (by rw [hg_N, hn]; rfl) ((hg_new (by rw [hg_N, hn]; rfl) 5 0).1)) ?_
  rintro _ _ ⟨rfl, rfl⟩
  rw [← hg_app]
  refine WP.pfRg rfl rfl ((hg_K hs _).1.trans hk) (by decide) rfl ?_
  iterate 1 (refine WP.st rfl ?_)
  refine WP.nwg (ci := 5) (q := 8) (cu' := 6) (su' := 54) rfl (by rw [hg_N, hn]; rfl) ?_
  iterate 1 (refine WP.st rfl ?_)
  refine WP.cs rfl rfl rfl rfl rfl ((hg_new (by rw [hg_N, hn]; rfl) 5 0).1) rfl rfl rfl (su_init (by rw [hg_N, hn]; rfl) ((hg_new (by rw [hg_N, hn]; rfl) 5 0).1)) ?_
  rintro _ _ ⟨rfl, rfl⟩
  rw [← hg_app]
  refine WP.pfRg rfl rfl ((hg_K hs _).1.trans hk) (by decide) rfl ?_
  iterate 1 (refine WP.st rfl ?_)
  refine WP.nwg (ci := 4) (q := 11) (cu' := 9) (su' := 68) rfl (by rw [hg_N, hn]; rfl) ?_
  iterate 1 (refine WP.st rfl ?_)
  refine WP.cs rfl rfl rfl rfl rfl ((hg_new (by rw [hg_N, hn]; rfl) 4 0).1) rfl rfl rfl (ju_init (by rw [hg_N, hn]; decide) ((hg_K h1 _).1.trans hk1) ((hg_K h1 _).2.trans hl1) (fun i hi => hJ_z hn _ 1 i (hp1 i hi)) (by rw [hg_N, hn]; rfl) ((hg_new (by rw [hg_N, hn]; rfl) 4 0).1)) ?_
  rintro _ _ ⟨rfl, rfl⟩
  rw [← hg_app]
  refine WP.pfRg rfl rfl ((hg_K hs _).1.trans hk) (by decide) rfl ?_
  iterate 1 (refine WP.st rfl ?_)
  refine WP.nwg (ci := 0) (q := 76) (cu' := 74) (su' := 1935) rfl (by rw [hg_N, hn]; rfl) ?_
  iterate 1 (refine WP.st rfl ?_)
  refine WP.cs rfl rfl rfl rfl rfl ((hg_new (by rw [hg_N, hn]; rfl) 0 0).1) rfl rfl rfl (ba_init (by rw [hg_N, hn]; rfl) ((hg_new (by rw [hg_N, hn]; rfl) 0 0).1)) ?_
  rintro _ _ ⟨rfl, rfl⟩
  rw [← hg_app]
  refine WP.pfRg rfl rfl ((hg_K hs _).1.trans hk) (by decide) rfl ?_
  iterate 1 (refine WP.st rfl ?_)
  refine WP.nwg (ci := 1) (q := 134) (cu' := 132) (su' := 2853) rfl (by rw [hg_N, hn]; rfl) ?_
  iterate 1 (refine WP.st rfl ?_)
  refine WP.cs rfl rfl rfl rfl rfl ((hg_new (by rw [hg_N, hn]; rfl) 1 0).1) rfl rfl rfl (fr_init (by rw [hg_N, hn]; rfl) ((hg_new (by rw [hg_N, hn]; rfl) 1 0).1)) ?_
  rintro _ _ ⟨rfl, rfl⟩
  rw [← hg_app]
  refine WP.pfRg rfl rfl ((hg_K hs _).1.trans hk) (by decide) rfl ?_
  iterate 1 (refine WP.st rfl ?_)
  refine WP.nwg (ci := 2) (q := 141) (cu' := 139) (su' := 2885) rfl (by rw [hg_N, hn]; rfl) ?_
  iterate 1 (refine WP.st rfl ?_)
  refine WP.cs rfl rfl rfl rfl rfl ((hg_new (by rw [hg_N, hn]; rfl) 2 0).1) rfl rfl rfl (fm_init (by rw [hg_N, hn]; rfl) ((hg_new (by rw [hg_N, hn]; rfl) 2 0).1)) ?_
  rintro _ _ ⟨rfl, rfl⟩
  rw [← hg_app]
  refine WP.pfRg rfl rfl ((hg_K hs _).1.trans hk) (by decide) rfl ?_
  iterate 2 (refine WP.st rfl ?_)
  change WP m_DT_init (89, [some (.ref 2), some (.int (nI 0))], [], hg h dtB, 144, 3209) _
  have g0 : ITI (hg h dtB) 0 := ⟨by rw [hg_N, hn]; rfl, (hg_K hs _).1.trans hk, hR_z hn _ 2 2 rfl, hK_z hn _ 4 rfl, hL_z hn _ 4 rfl⟩
  refine dt_it0 g0 _ (fun g1 => ?_)
  rw [← hg_app] at g1 ⊢
  change ITI (hg h (itA 1 dtB)) 1 at g1
  change WP m_DT_init (89, [some (.ref 2), some (.int (nI 1))], [], hg h (itA 1 dtB), 147, 3222) _
  refine dt_it1 g1 _ (fun g2 => ?_)
  rw [← hg_app] at g2 ⊢
  change ITI (hg h (itA 2 dtB)) 2 at g2
  change WP m_DT_init (89, [some (.ref 2), some (.int (nI 2))], [], hg h (itA 2 dtB), 150, 3235) _
  refine dt_it2 g2 _ (fun g3 => ?_)
  rw [← hg_app] at g3 ⊢
  change ITI (hg h (itA 3 dtB)) 3 at g3
  change WP m_DT_init (89, [some (.ref 2), some (.int (nI 3))], [], hg h (itA 3 dtB), 153, 3248) _
  refine dt_it3 g3 _ (fun g4 => ?_)
  rw [← hg_app] at g4 ⊢
  change ITI (hg h (itA 4 dtB)) 4 at g4
  change WP m_DT_init (89, [some (.ref 2), some (.int (nI 4))], [], hg h (itA 4 dtB), 156, 3261) _
  refine dt_it4 g4 _ (fun g5 => ?_)
  rw [← hg_app] at g5 ⊢
  change ITI (hg h (itA 5 dtB)) 5 at g5
  change WP m_DT_init (89, [some (.ref 2), some (.int (nI 5))], [], hg h (itA 5 dtB), 159, 3274) _
  refine dt_it5 g5 _ (fun g6 => ?_)
  rw [← hg_app] at g6 ⊢
  change ITI (hg h (itA 6 dtB)) 6 at g6
  change WP m_DT_init (89, [some (.ref 2), some (.int (nI 6))], [], hg h (itA 6 dtB), 162, 3287) _
  refine dt_it6 g6 _ (fun g7 => ?_)
  rw [← hg_app] at g7 ⊢
  change ITI (hg h (itA 7 dtB)) 7 at g7
  change WP m_DT_init (89, [some (.ref 2), some (.int (nI 7))], [], hg h (itA 7 dtB), 165, 3300) _
  refine dt_it7 g7 _ (fun g8 => ?_)
  rw [← hg_app] at g8 ⊢
  change ITI (hg h (itA 8 dtB)) 8 at g8
  change WP m_DT_init (89, [some (.ref 2), some (.int (nI 8))], [], hg h (itA 8 dtB), 168, 3313) _
  refine dt_it8 g8 _ (fun g9 => ?_)
  rw [← hg_app] at g9 ⊢
  change ITI (hg h (itA 9 dtB)) 9 at g9
  change WP m_DT_init (89, [some (.ref 2), some (.int (nI 9))], [], hg h (itA 9 dtB), 171, 3326) _
  refine dt_it9 g9 _ (fun g10 => ?_)
  rw [← hg_app] at g10 ⊢
  change ITI (hg h (itA 10 dtB)) 10 at g10
  change WP m_DT_init (89, [some (.ref 2), some (.int (nI 10))], [], hg h (itA 10 dtB), 174, 3339) _
  refine dt_it10 g10 _ (fun g11 => ?_)
  rw [← hg_app] at g11 ⊢
  change ITI (hg h (itA 11 dtB)) 11 at g11
  change WP m_DT_init (89, [some (.ref 2), some (.int (nI 11))], [], hg h (itA 11 dtB), 177, 3352) _
  refine dt_it11 g11 _ (fun g12 => ?_)
  rw [← hg_app] at g12 ⊢
  change ITI (hg h (itA 12 dtB)) 12 at g12
  change WP m_DT_init (89, [some (.ref 2), some (.int (nI 12))], [], hg h (itA 12 dtB), 180, 3365) _
  refine dt_it12 g12 _ (fun g13 => ?_)
  rw [← hg_app] at g13 ⊢
  change ITI (hg h (itA 13 dtB)) 13 at g13
  change WP m_DT_init (89, [some (.ref 2), some (.int (nI 13))], [], hg h (itA 13 dtB), 183, 3378) _
  refine dt_it13 g13 _ (fun g14 => ?_)
  rw [← hg_app] at g14 ⊢
  change ITI (hg h (itA 14 dtB)) 14 at g14
  change WP m_DT_init (89, [some (.ref 2), some (.int (nI 14))], [], hg h (itA 14 dtB), 186, 3391) _
  refine dt_it14 g14 _ (fun g15 => ?_)
  rw [← hg_app] at g15 ⊢
  change ITI (hg h (itA 15 dtB)) 15 at g15
  change WP m_DT_init (89, [some (.ref 2), some (.int (nI 15))], [], hg h (itA 15 dtB), 189, 3404) _
  refine dt_it15 g15 _ (fun g16 => ?_)
  rw [← hg_app] at g16 ⊢
  change ITI (hg h (itA 16 dtB)) 16 at g16
  change WP m_DT_init (89, [some (.ref 2), some (.int (nI 16))], [], hg h (itA 16 dtB), 192, 3417) _
  refine dt_it16 g16 _ (fun g17 => ?_)
  rw [← hg_app] at g17 ⊢
  change ITI (hg h (itA 17 dtB)) 17 at g17
  change WP m_DT_init (89, [some (.ref 2), some (.int (nI 17))], [], hg h (itA 17 dtB), 195, 3430) _
  refine dt_it17 g17 _ (fun g18 => ?_)
  rw [← hg_app] at g18 ⊢
  change ITI (hg h (itA 18 dtB)) 18 at g18
  change WP m_DT_init (89, [some (.ref 2), some (.int (nI 18))], [], hg h (itA 18 dtB), 198, 3443) _
  refine dt_it18 g18 _ (fun g19 => ?_)
  rw [← hg_app] at g19 ⊢
  change ITI (hg h (itA 19 dtB)) 19 at g19
  change WP m_DT_init (89, [some (.ref 2), some (.int (nI 19))], [], hg h (itA 19 dtB), 201, 3456) _
  refine dt_it19 g19 _ (fun g20 => ?_)
  rw [← hg_app] at g20 ⊢
  change ITI (hg h (itA 20 dtB)) 20 at g20
  change WP m_DT_init (89, [some (.ref 2), some (.int (nI 20))], [], hg h (itA 20 dtB), 204, 3469) _
  iterate 2 (refine WP.st rfl ?_)
  refine WP.ict rfl (show (20 : Int32) ≤ (20 : Int32) by decide) ?_
  exact WP.ret rfl ⟨rfl, rfl⟩
def moL : List Op := ((3, 226, 6, 1) :: ((1, 207, 26, 227) :: ((0, 9, 8, 0) :: ((1, 207, 24, 226) :: ((0, 10, 48, 0) :: ((1, 207, 23, 225) :: ((0, 10, 5, 0) :: ((1, 207, 22, 224) :: ((0, 10, 7, 0) :: ((1, 207, 21, 223) :: ((0, 10, 7, 0) :: ((1, 207, 19, 222) :: ((0, 9, 16, 0) :: ((1, 207, 18, 221) :: ((0, 10, 16, 0) :: ((1, 207, 17, 220) :: ((0, 10, 272, 0) :: ((1, 207, 16, 219) :: ((0, 10, 391, 0) :: ((1, 207, 15, 218) :: ((2, 218, 6, 1073741689) :: ((2, 218, 5, 1073741717) :: ((2, 218, 4, 1073741719) :: ((2, 218, 3, 1073741723) :: ((2, 218, 2, 1073741741) :: ((2, 218, 1, 1073741783) :: ((2, 218, 0, 1073741789) :: ((0, 9, 7, 0) :: ((1, 207, 13, 217) :: ((0, 11, 20, 0) :: ((1, 207, 12, 216) :: ((0, 9, 21, 0) :: ((1, 207, 11, 215) :: ((0, 9, 21, 0) :: ((1, 207, 8, 214) :: ((0, 9, 20, 0) :: ((1, 207, 7, 213) :: ((0, 11, 20, 0) :: ((1, 207, 6, 212) :: ((0, 9, 84, 0) :: ((1, 207, 5, 211) :: ((0, 9, 84, 0) :: ((1, 207, 4, 210) :: ((0, 9, 21, 0) :: ((1, 207, 3, 209) :: ((0, 9, 391, 0) :: ((1, 207, 1, 208) :: ((0, 9, 16, 0) :: []))))))))))))))))))))))))))))))))))))))))))))))))
theorem mo_init {h : MH} (hn : hN h = 208) (hk : hK h 207 = 8) : SP m_Mo_init [.ref 207] h (fun v h' => v = none ∧ h' = hg h moL) := by
  have hs : 207 < hN h := by omega
  unfold SP
  change WP m_Mo_init (0, mm_ent m_Mo_init [.ref 207], [], hg h [], 0, 0) _
  iterate 4 (refine WP.st rfl ?_)
  refine WP.nar (kd := 9) (n := 16) (q := 208) (cu' := 1) (su' := 16) rfl (by rw [hg_N, hn]; rfl) ?_
  refine WP.pfRg rfl rfl ((hg_K hs _).1.trans hk) (by decide) rfl ?_
  iterate 2 (refine WP.st rfl ?_)
  refine WP.nar (kd := 9) (n := 391) (q := 209) (cu' := 2) (su' := 407) rfl (by rw [hg_N, hn]; rfl) ?_
  refine WP.pfRg rfl rfl ((hg_K hs _).1.trans hk) (by decide) rfl ?_
  iterate 2 (refine WP.st rfl ?_)
  refine WP.nar (kd := 9) (n := 21) (q := 210) (cu' := 3) (su' := 428) rfl (by rw [hg_N, hn]; rfl) ?_
  refine WP.pfRg rfl rfl ((hg_K hs _).1.trans hk) (by decide) rfl ?_
  iterate 2 (refine WP.st rfl ?_)
  refine WP.nar (kd := 9) (n := 84) (q := 211) (cu' := 4) (su' := 512) rfl (by rw [hg_N, hn]; rfl) ?_
  refine WP.pfRg rfl rfl ((hg_K hs _).1.trans hk) (by decide) rfl ?_
  iterate 2 (refine WP.st rfl ?_)
  refine WP.nar (kd := 9) (n := 84) (q := 212) (cu' := 5) (su' := 596) rfl (by rw [hg_N, hn]; rfl) ?_
  refine WP.pfRg rfl rfl ((hg_K hs _).1.trans hk) (by decide) rfl ?_
  iterate 2 (refine WP.st rfl ?_)
  refine WP.nar (kd := 11) (n := 20) (q := 213) (cu' := 6) (su' := 616) rfl (by rw [hg_N, hn]; rfl) ?_
  refine WP.pfRg rfl rfl ((hg_K hs _).1.trans hk) (by decide) rfl ?_
  iterate 2 (refine WP.st rfl ?_)
  refine WP.nar (kd := 9) (n := 20) (q := 214) (cu' := 7) (su' := 636) rfl (by rw [hg_N, hn]; rfl) ?_
  refine WP.pfRg rfl rfl ((hg_K hs _).1.trans hk) (by decide) rfl ?_
  iterate 2 (refine WP.st rfl ?_)
  refine WP.nar (kd := 9) (n := 21) (q := 215) (cu' := 8) (su' := 657) rfl (by rw [hg_N, hn]; rfl) ?_
  refine WP.pfRg rfl rfl ((hg_K hs _).1.trans hk) (by decide) rfl ?_
  iterate 2 (refine WP.st rfl ?_)
  refine WP.nar (kd := 9) (n := 21) (q := 216) (cu' := 9) (su' := 678) rfl (by rw [hg_N, hn]; rfl) ?_
  refine WP.pfRg rfl rfl ((hg_K hs _).1.trans hk) (by decide) rfl ?_
  iterate 2 (refine WP.st rfl ?_)
  refine WP.nar (kd := 11) (n := 20) (q := 217) (cu' := 10) (su' := 698) rfl (by rw [hg_N, hn]; rfl) ?_
  refine WP.pfRg rfl rfl ((hg_K hs _).1.trans hk) (by decide) rfl ?_
  iterate 2 (refine WP.st rfl ?_)
  refine WP.nar (kd := 9) (n := 7) (q := 218) (cu' := 11) (su' := 705) rfl (by rw [hg_N, hn]; rfl) ?_
  iterate 3 (refine WP.st rfl ?_)
  refine WP.iasg (k := 0) (v := 1073741789) rfl (by decide) (hK_z hn _ 218 rfl) (show 0 < hL _ 218 by rw [hL_z hn _ 218 (k := 7) rfl]; decide) (by rw [hL_z hn _ 218 (k := 7) rfl]; rfl) (by decide) ?_
  iterate 3 (refine WP.st rfl ?_)
  refine WP.iasg (k := 1) (v := 1073741783) rfl (by decide) (hK_z hn _ 218 rfl) (show 1 < hL _ 218 by rw [hL_z hn _ 218 (k := 7) rfl]; decide) (by rw [hL_z hn _ 218 (k := 7) rfl]; rfl) (by decide) ?_
  iterate 3 (refine WP.st rfl ?_)
  refine WP.iasg (k := 2) (v := 1073741741) rfl (by decide) (hK_z hn _ 218 rfl) (show 2 < hL _ 218 by rw [hL_z hn _ 218 (k := 7) rfl]; decide) (by rw [hL_z hn _ 218 (k := 7) rfl]; rfl) (by decide) ?_
  iterate 3 (refine WP.st rfl ?_)
  refine WP.iasg (k := 3) (v := 1073741723) rfl (by decide) (hK_z hn _ 218 rfl) (show 3 < hL _ 218 by rw [hL_z hn _ 218 (k := 7) rfl]; decide) (by rw [hL_z hn _ 218 (k := 7) rfl]; rfl) (by decide) ?_
  iterate 3 (refine WP.st rfl ?_)
  refine WP.iasg (k := 4) (v := 1073741719) rfl (by decide) (hK_z hn _ 218 rfl) (show 4 < hL _ 218 by rw [hL_z hn _ 218 (k := 7) rfl]; decide) (by rw [hL_z hn _ 218 (k := 7) rfl]; rfl) (by decide) ?_
  iterate 3 (refine WP.st rfl ?_)
  refine WP.iasg (k := 5) (v := 1073741717) rfl (by decide) (hK_z hn _ 218 rfl) (show 5 < hL _ 218 by rw [hL_z hn _ 218 (k := 7) rfl]; decide) (by rw [hL_z hn _ 218 (k := 7) rfl]; rfl) (by decide) ?_
  iterate 3 (refine WP.st rfl ?_)
  refine WP.iasg (k := 6) (v := 1073741689) rfl (by decide) (hK_z hn _ 218 rfl) (show 6 < hL _ 218 by rw [hL_z hn _ 218 (k := 7) rfl]; decide) (by rw [hL_z hn _ 218 (k := 7) rfl]; rfl) (by decide) ?_
  refine WP.pfRg rfl rfl ((hg_K hs _).1.trans hk) (by decide) rfl ?_
  iterate 2 (refine WP.st rfl ?_)
  refine WP.nar (kd := 10) (n := 391) (q := 219) (cu' := 12) (su' := 1096) rfl (by rw [hg_N, hn]; rfl) ?_
  refine WP.pfRg rfl rfl ((hg_K hs _).1.trans hk) (by decide) rfl ?_
  iterate 2 (refine WP.st rfl ?_)
  refine WP.nar (kd := 10) (n := 272) (q := 220) (cu' := 13) (su' := 1368) rfl (by rw [hg_N, hn]; rfl) ?_
  refine WP.pfRg rfl rfl ((hg_K hs _).1.trans hk) (by decide) rfl ?_
  iterate 2 (refine WP.st rfl ?_)
  refine WP.nar (kd := 10) (n := 16) (q := 221) (cu' := 14) (su' := 1384) rfl (by rw [hg_N, hn]; rfl) ?_
  refine WP.pfRg rfl rfl ((hg_K hs _).1.trans hk) (by decide) rfl ?_
  iterate 2 (refine WP.st rfl ?_)
  refine WP.nar (kd := 9) (n := 16) (q := 222) (cu' := 15) (su' := 1400) rfl (by rw [hg_N, hn]; rfl) ?_
  refine WP.pfRg rfl rfl ((hg_K hs _).1.trans hk) (by decide) rfl ?_
  iterate 2 (refine WP.st rfl ?_)
  refine WP.nar (kd := 10) (n := 7) (q := 223) (cu' := 16) (su' := 1407) rfl (by rw [hg_N, hn]; rfl) ?_
  refine WP.pfRg rfl rfl ((hg_K hs _).1.trans hk) (by decide) rfl ?_
  iterate 2 (refine WP.st rfl ?_)
  refine WP.nar (kd := 10) (n := 7) (q := 224) (cu' := 17) (su' := 1414) rfl (by rw [hg_N, hn]; rfl) ?_
  refine WP.pfRg rfl rfl ((hg_K hs _).1.trans hk) (by decide) rfl ?_
  iterate 2 (refine WP.st rfl ?_)
  refine WP.nar (kd := 10) (n := 5) (q := 225) (cu' := 18) (su' := 1419) rfl (by rw [hg_N, hn]; rfl) ?_
  refine WP.pfRg rfl rfl ((hg_K hs _).1.trans hk) (by decide) rfl ?_
  iterate 2 (refine WP.st rfl ?_)
  refine WP.nar (kd := 10) (n := 48) (q := 226) (cu' := 19) (su' := 1467) rfl (by rw [hg_N, hn]; rfl) ?_
  refine WP.pfRg rfl rfl ((hg_K hs _).1.trans hk) (by decide) rfl ?_
  iterate 2 (refine WP.st rfl ?_)
  refine WP.nar (kd := 9) (n := 8) (q := 227) (cu' := 20) (su' := 1475) rfl (by rw [hg_N, hn]; rfl) ?_
  refine WP.pfRg rfl rfl ((hg_K hs _).1.trans hk) (by decide) rfl ?_
  iterate 1 (refine WP.st rfl ?_)
  refine WP.get (v := .ref 226) rfl rfl ((hg_K hs _).1.trans hk) (congrArg mm_rv (hR_z hn _ 207 24 (k := some 226) rfl)) ?_
  iterate 2 (refine WP.st rfl ?_)
  refine WP.lasg (k := 6) (v := 1) rfl (by decide) (hK_z hn _ 226 rfl) (show 6 < hL _ 226 by rw [hL_z hn _ 226 (k := 48) rfl]; decide) (by rw [hL_z hn _ 226 (k := 48) rfl]; rfl) rfl ?_
  exact WP.ret rfl ⟨rfl, rfl⟩
