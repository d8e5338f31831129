theorem ev_forget (L : Nat) (I : Nat → Nat → Int32) (J : Nat → Nat → Int64) (w : Nat → Nat) (m t : Nat) (hm : m ≤ 20) (ht : t ≤ 20) (h5 : I 11 5 = nI m) : EV m_Ju_forgetFrom [.ref 11, .int (nI t)] (hp L I J w) none (hp L (mm_up I 11 5 (nI (min m t))) J w) := by
  obtain ⟨r, h', e, q⟩ : SP m_Ju_forgetFrom [.ref 11, .int (nI t)] (hp L I J w) (fun r h' => r = none ∧ h' = hp L (mm_up I 11 5 (nI (min m t))) J w) := by
    unfold SP
    iterate 2 (refine WP.st rfl ?_)
    refine WP.get (v := .int (nI m)) rfl rfl (rfl) (congrArg Value.int h5) ?_
    iterate 1 (refine WP.st rfl ?_)
    refine WP.st rfl ?_
    have em : (if nI t < nI m then nI t else nI m : Int32) = nI (min m t) := by
      by_cases z : t < m
      · rw [if_pos (nI_lt z (by omega)), Nat.min_eq_right (by omega)]
      · rw [if_neg (nI_nlt (by omega) (by omega)), Nat.min_eq_left (by omega)]
    rw [em]
    iterate 1 (refine WP.st rfl ?_)
    exact WP.ret rfl ⟨rfl, rfl⟩
  obtain ⟨rfl, rfl⟩ := q
  exact e
