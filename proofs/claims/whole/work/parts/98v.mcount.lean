theorem mn_a (L : Nat) (I : Nat → Nat → Int32) (J : Nat → Nat → Int64) (w : Nat → Nat) (x : Int32) (Q : Option Value → MH → Prop) (k0 : ¬ rg x 4 → WP m_Mo_count (12, [some (.ref 207), some (.int x), none, none], [], hp L I J w, 0, 0) Q) (k1 : rg x 4 → WP m_Mo_count (15, [some (.ref 207), some (.int x), none, none], [], hp L I J w, 0, 0) Q) : WP m_Mo_count (0, [some (.ref 207), some (.int x), none, none], [], hp L I J w, 0, 0) Q := by
  iterate 4 (refine WP.st rfl ?_)
  refine WP.calle rfl rfl (ev_in03 (hp L I J w) x) ?_
  exact WP.bn rfl k1 k0
theorem mn_b (L : Nat) (I : Nat → Nat → Int32) (J : Nat → Nat → Int64) (w : Nat → Nat) (S : St) (h : RI I J S) (x : Int32) (Q : Option Value → MH → Prop) (k : WP m_Mo_count (50, [some (.ref 207), some (.int x), some (.int (nI (hm (fun t => bo01 (sOf S t)) 1 (sTl S)))), some (.int (nI (sTl S)))], [], hp L I J w, 0, 0) Q) : WP m_Mo_count (15, [some (.ref 207), some (.int x), none, none], [], hp L I J w, 0, 0) Q := by
  have q2 := h.2.1.2.1
  iterate 6 (refine WP.st rfl ?_)
  refine WP.get (v := .int (nI (sTl S))) rfl rfl (rfl) (congrArg Value.int h.2.1.1) ?_
  refine WP.inv (fun i (_ : Unit) => (24, [some (.ref 207), some (.int x), some (.int (nI (hm (fun t => bo01 (sOf S t)) 1 i))), some (.int (nI i))], [.int (nI (sTl S)), .int (nI i)], hp L I J w, 0, 0)) (fun _ _ => True) (sTl S) () trivial (fun i _ hi _ kk => ?_) (fun _ _ => ?_)
  · have k2 := kk () trivial
    refine WP.icf rfl (nI_ge hi (by omega)) ?_
    iterate 4 (refine WP.st rfl ?_)
    refine WP.bald (k := i) rfl (rfl) (rfl) (show i < 20 by omega) (rfl) ?_
    rw [show hI (hp L I J w) 213 i = bo01 (sOf S i) from h.2.1.2.2.2.1 i (by omega)]
    by_cases z : sOf S i = true
    · rw [show hm (fun t => bo01 (sOf S t)) 1 (i + 1) = hm (fun t => bo01 (sOf S t)) 1 i + 1 from if_pos (show bo01 (sOf S i) = 1 from if_pos z), nI_succ i, nI_succ (hm _ 1 i)] at k2
      refine WP.iff rfl (show ¬ bo01 (sOf S i) = 0 by rw [show bo01 (sOf S i) = 1 from if_pos z]; decide) ?_
      iterate 8 (refine WP.st rfl ?_)
      refine WP.get (v := .int (nI (sTl S))) rfl rfl (rfl) (congrArg Value.int h.2.1.1) ?_
      exact k2
    · rw [show hm (fun t => bo01 (sOf S t)) 1 (i + 1) = hm (fun t => bo01 (sOf S t)) 1 i from if_neg (show ¬ bo01 (sOf S i) = 1 by rw [show bo01 (sOf S i) = 0 from if_neg z]; decide), nI_succ i] at k2
      refine WP.ift rfl (show bo01 (sOf S i) = 0 from if_neg z) ?_
      iterate 1 (refine WP.st rfl ?_)
      rw [show (nI (hm (fun t => bo01 (sOf S t)) 1 i)) = nI (hm (fun t => bo01 (sOf S t)) 1 i) + Int32.ofInt 0 from (Int32.add_zero _).symm] at k2
      iterate 6 (refine WP.st rfl ?_)
      refine WP.get (v := .int (nI (sTl S))) rfl rfl (rfl) (congrArg Value.int h.2.1.1) ?_
      exact k2
  · skip
    refine WP.ict rfl (nI_le (Nat.le_refl _) (by omega)) ?_
    exact k
