theorem sp_cw (L : Nat) (I : Nat → Nat → Int32) (J : Nat → Nat → Int64) (w : Nat → Nat) (S : St) (h : CI I J w S) (hx : JX I J (sT S) (sOf S) (sTl S)) (h5 : I 11 5 = nI (sTl S)) (s : Nat) (hs : isSum s) (ho : offJ s) (t : Nat → Int) (hT : isT I s t) : SP m_Ju_weigh [.ref 11, .ref s] (hp L I J w) (fun v h => v = some (.int (nI (kd (am (sT S) (sOf S) (sTl S)) (rk (sT S) (sOf S) (sTl S)) t))) ∧ ∃ (I' : Nat → Nat → Int32) (J' : Nat → Nat → Int64), FR 16 75 I J I' J' ∧ CI I' J' w S ∧ JX I' J' (sT S) (sOf S) (sTl S) ∧ I' 11 5 = nI (sTl S) ∧ h = hp L I' J' w) := by
  refine WP.mono (sp_weigh L I J w s hs ho t hT (rk (sT S) (sOf S) (sTl S)) (rk_16 _ _ _) (am (sT S) (sOf S) (sTl S)) hx.1 (am_ind _ _ _) (srt_T (CT_of h.2.1) (Nat.le_refl _) hT)) ?_
  rintro _ _ ⟨e, I1, J1, xs, f1, f2, rfl⟩
  have g11 := (f1 11 (by omega)).1
  have x2 : JX I1 J1 (sT S) (sOf S) (sTl S) := by
    refine ⟨fun i hi => LK_WF (f2 i hi), by rw [g11]; exact hx.2.1, ?_⟩
    unfold JV ptOK
    rw [(f1 13 (by omega)).1, (f1 14 (by omega)).1, (f1 15 (by omega)).1]
    exact hx.2.2
  exact ⟨e, I1, J1, f1, CI_judge h (FR_wide f1 (by omega) (by omega)) (JX_JI x2 (by rw [g11]; exact h5)), x2, by rw [g11]; exact h5, rfl⟩
noncomputable def oHolds (S : St) : Int32 × St := (if kd (am (sT S) (sOf S) (sTl S)) (rk (sT S) (sOf S) (sTl S)) (sT S 20) = 0 then 2 else if kd (am (sT S) (sOf S) (sTl S)) (rk (sT S) (sOf S) (sTl S)) (sT S 20) = 1 then 1 else 0, S)
theorem c_holds (L : Nat) (I : Nat → Nat → Int32) (J : Nat → Nat → Int64) (w : Nat → Nat) (S : St) (h : CI I J w S) : CM L I J w m_DT_holds [] (.int (oHolds S).1) (oHolds S).2 := by
  have q1 := h.2.1.1
  have q2 := h.2.1.2.1
  unfold CM SP oHolds
  iterate 5 (refine WP.st rfl ?_)
  refine WP.get (v := .int (nI (sTl S))) rfl rfl (rfl) (congrArg Value.int q1) ?_
  refine WP.call rfl rfl (sp_cj L I J w S h) ?_
  rintro _ _ ⟨rfl, I1, J1, f1, f2, f3, f4, rfl⟩
  iterate 4 (refine WP.st rfl ?_)
  refine WP.call rfl rfl (sp_cw L I1 J1 w S f2 f3 f4 5 isSum_asked (Or.inl (by decide)) (sT S 20) ⟨_, _, _, f2.2.1.2.2.2.2.2.2⟩) ?_
  rintro _ _ ⟨rfl, I2, J2, g1, g2, g3, g4, rfl⟩
  have kl := kd_le (am (sT S) (sOf S) (sTl S)) (rk (sT S) (sOf S) (sTl S)) (sT S 20)
  generalize kd (am (sT S) (sOf S) (sTl S)) (rk (sT S) (sOf S) (sTl S)) (sT S 20) = k at kl ⊢
  have fr : FR 1 207 I J I2 J2 := FR_wide (f1.trans (FR_wide g1 (by omega) (by omega))) (by omega) (by omega)
  iterate 2 (refine WP.st rfl ?_)
  by_cases e0 : k = 0
  · rw [if_pos e0]
    refine WP.iff rfl (show ¬ ¬ nI k = 0 by rw [e0]; exact fun z => z rfl) ?_
    iterate 1 (refine WP.st rfl ?_)
    exact WP.ret rfl ⟨rfl, I2, J2, w, fr, g2, rfl⟩
  · rw [if_neg e0]
    refine WP.ift rfl (show ¬ nI k = 0 from nI_ne0 (by omega) (by omega)) ?_
    iterate 2 (refine WP.st rfl ?_)
    by_cases e1 : k = 1
    · rw [if_pos e1]
      refine WP.icf rfl (show ¬ ¬ nI k = nI 1 by rw [e1]; exact fun z => z rfl) ?_
      iterate 2 (refine WP.st rfl ?_)
      exact WP.ret rfl ⟨rfl, I2, J2, w, fr, g2, rfl⟩
    · rw [if_neg e1]
      refine WP.ict rfl (show ¬ nI k = nI 1 from fun z => e1 ((nI_eq (by omega) (by omega)).mp z)) ?_
      iterate 1 (refine WP.st rfl ?_)
      exact WP.ret rfl ⟨rfl, I2, J2, w, fr, g2, rfl⟩
theorem sp_mag (L : Nat) (I : Nat → Nat → Int32) (J : Nat → Nat → Int64) (w : Nat → Nat) (S : St) (h : RI I J S) (hj : JR I (sT S) (sOf S) (sTl S)) (x : Nat) (hx : x < 23) (hmx : sTl S ≤ x) (t : Nat → Int) (hC : ∀ c, c < 17 → I 210 (17 * x + c) = zI (t c)) (ht : dt 16 t t ≤ 36 ∧ -2000 ≤ t 16 ∧ t 16 ≤ 2000) : SP m_Mo_against [.ref 208, .int (I 208 9), .int (nI x)] (hp L I J w) (fun v h => v = some (.int (nI (kd (am (sT S) (sOf S) (sTl S)) (rk (sT S) (sOf S) (sTl S)) t))) ∧ ∃ K : Nat → Nat → Int64, (∀ c, c ≠ 220 → K c = J c) ∧ RI I K S ∧ h = hp L I K w) := by
  obtain ⟨π, hπ⟩ := h.2.2.1.1
  refine WP.mono (sp_ag L I J w (sT S) (sOf S) (sTl S) (sTl S) (R2_RT h.2.1) (Nat.le_refl _) (I 208 9) (fun k hk => hj.1 k (by omega)) x hx hmx t hC ht π hπ) ?_
  rintro _ _ ⟨e, K, f1, rfl⟩
  exact ⟨e, K, f1, RI_judge h (fun _ _ _ => rfl) (fun _ _ => rfl) f1, rfl⟩
theorem m_holds (L : Nat) (I : Nat → Nat → Int32) (J : Nat → Nat → Int64) (w : Nat → Nat) (S : St) (h : RI I J S) : MM L I J w m_Mo_holds [] (.int (oHolds S).1) (oHolds S).2 := by
  have q2 := h.2.1.2.1
  unfold MM SP oHolds
  iterate 1 (refine WP.st rfl ?_)
  refine WP.call rfl rfl (sp_mj L I J w S h) ?_
  rintro _ _ ⟨rfl, I1, J1, f1, f2, f3, rfl⟩
  have r20 := f2.2.1.2.2.2.2.2
  iterate 4 (refine WP.st rfl ?_)
  refine WP.call rfl rfl (sp_mag L I1 J1 w S f2 f3 20 (by omega) q2 (sT S 20) r20.1 (rowOK_srt r20.2.2.2)) ?_
  rintro _ _ ⟨rfl, K, g1, g2, rfl⟩
  have kl := kd_le (am (sT S) (sOf S) (sTl S)) (rk (sT S) (sOf S) (sTl S)) (sT S 20)
  generalize kd (am (sT S) (sOf S) (sTl S)) (rk (sT S) (sOf S) (sTl S)) (sT S 20) = k at kl ⊢
  have fr : FR 208 228 I J I1 K := fun c hc => ⟨(f1 c hc).1, (g1 c (by omega)).trans (f1 c hc).2⟩
  iterate 2 (refine WP.st rfl ?_)
  by_cases e0 : k = 0
  · rw [if_pos e0]
    refine WP.iff rfl (show ¬ ¬ nI k = 0 by rw [e0]; exact fun z => z rfl) ?_
    iterate 2 (refine WP.st rfl ?_)
    exact WP.ret rfl ⟨rfl, I1, K, fr, g2, rfl⟩
  · rw [if_neg e0]
    refine WP.ift rfl (show ¬ nI k = 0 from nI_ne0 (by omega) (by omega)) ?_
    iterate 2 (refine WP.st rfl ?_)
    by_cases e1 : k = 1
    · rw [if_pos e1]
      refine WP.icf rfl (show ¬ ¬ nI k = nI 1 by rw [e1]; exact fun z => z rfl) ?_
      iterate 2 (refine WP.st rfl ?_)
      exact WP.ret rfl ⟨rfl, I1, K, fr, g2, rfl⟩
    · rw [if_neg e1]
      refine WP.ict rfl (show ¬ nI k = nI 1 from fun z => e1 ((nI_eq (by omega) (by omega)).mp z)) ?_
      iterate 1 (refine WP.st rfl ?_)
      exact WP.ret rfl ⟨rfl, I1, K, fr, g2, rfl⟩
