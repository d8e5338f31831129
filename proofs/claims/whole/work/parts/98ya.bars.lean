noncomputable def oBars (S : St) (x : Int32) : Int32 × St := (if x.toInt = 0 then nI (nnw (sBa S) (sBb S) (sB S)) else if x.toInt = 1 then nI (sB S) - nI (nnw (sBa S) (sBb S) (sB S)) else if x.toInt = 2 then (if sPt S < 2 then 0 else nI (2 * sPt S) - Int32.ofInt 3 - nI (nnw (sBa S) (sBb S) (sB S))) else -2, S)
theorem c_bars (L : Nat) (I : Nat → Nat → Int32) (J : Nat → Nat → Int64) (w : Nat → Nat) (S : St) (h : CI I J w S) (x : Int32) : CM L I J w m_DT_bars [.int x] (.int (oBars S x).1) (oBars S x).2 := by
  obtain ⟨f1, f2, f3, f4, f5⟩ := h.2.2.2.2
  have p2 := h.1.2.1
  unfold CM SP oBars
  refine WP.st rfl ?_
  by_cases z : x.toInt < 0 ∨ 2 < x.toInt
  · rw [if_neg (by omega), if_neg (by omega), if_neg (by omega)]
    refine WP.tsd (tgt := 81) rfl z rfl ?_
    iterate 1 (refine WP.st rfl ?_)
    exact WP.ret rfl ⟨rfl, I, J, w, FR.refl _ _ _ _, h, rfl⟩
  · skip
    by_cases e0 : x.toInt = 0
    · rw [if_pos e0]
      refine WP.tsi (off := 27) (tgt := 28) rfl z (by rw [e0]; rfl) rfl ?_
      iterate 2 (refine WP.st rfl ?_)
      refine WP.get (v := .int (nI (nnw (sBa S) (sBb S) (sB S)))) rfl rfl (rfl) (congrArg Value.int f4) ?_
      exact WP.ret rfl ⟨rfl, I, J, w, FR.refl _ _ _ _, h, rfl⟩
    · rw [if_neg e0]
      by_cases e1 : x.toInt = 1
      · rw [if_pos e1]
        refine WP.tsi (off := 35) (tgt := 36) rfl z (by rw [e1]; rfl) rfl ?_
        iterate 2 (refine WP.st rfl ?_)
        refine WP.get (v := .int (nI (sB S))) rfl rfl (rfl) (congrArg Value.int f1) ?_
        iterate 2 (refine WP.st rfl ?_)
        refine WP.get (v := .int (nI (nnw (sBa S) (sBb S) (sB S)))) rfl rfl (rfl) (congrArg Value.int f4) ?_
        iterate 1 (refine WP.st rfl ?_)
        exact WP.ret rfl ⟨rfl, I, J, w, FR.refl _ _ _ _, h, rfl⟩
      · rw [if_neg e1, if_pos (show x.toInt = 2 by omega)]
        refine WP.tsi (off := 51) (tgt := 52) rfl z (by rw [show x.toInt = 2 by omega]; rfl) rfl ?_
        iterate 1 (refine WP.st rfl ?_)
        refine WP.get (v := .int (nI (sPt S))) rfl rfl (rfl) (congrArg Value.int h.1.1) ?_
        iterate 1 (refine WP.st rfl ?_)
        by_cases e2 : sPt S < 2
        · rw [if_pos e2]
          refine WP.icf rfl (show ¬ nI 2 ≤ nI (sPt S) from nI_ge e2 (by omega)) ?_
          iterate 2 (refine WP.st rfl ?_)
          exact WP.ret rfl ⟨rfl, I, J, w, FR.refl _ _ _ _, h, rfl⟩
        · rw [if_neg e2]
          refine WP.ict rfl (show nI 2 ≤ nI (sPt S) from nI_le (by omega) (by omega)) ?_
          iterate 2 (refine WP.st rfl ?_)
          refine WP.get (v := .int (nI (sPt S))) rfl rfl (rfl) (congrArg Value.int h.1.1) ?_
          iterate 5 (refine WP.st rfl ?_)
          refine WP.get (v := .int (nI (nnw (sBa S) (sBb S) (sB S)))) rfl rfl (rfl) (congrArg Value.int f4) ?_
          iterate 1 (refine WP.st rfl ?_)
          exact WP.ret rfl ⟨by rw [ix2], I, J, w, FR.refl _ _ _ _, h, rfl⟩
