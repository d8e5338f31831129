theorem ev_howManyOff (L : Nat) (I : Nat → Nat → Int32) (J : Nat → Nat → Int64) (w : Nat → Nat) (of : Off) (N : Nat) (hN : N ≤ 20) (h : I 2 3 = nI N) (ho : ∀ t, t < 20 → I (sumP t) 2 = bo01 (of t)) : EV m_DT_howManyOff [.ref 2] (hp L I J w) (some (.int (nI (hm (fun t => bo01 (of t)) 1 N)))) (hp L I J w) := by
  obtain ⟨r, h', e, q⟩ : SP m_DT_howManyOff [.ref 2] (hp L I J w) (fun r h' => r = some (.int (nI (hm (fun t => bo01 (of t)) 1 N))) ∧ h' = hp L I J w) := by
    unfold SP
    iterate 6 (refine WP.st rfl ?_)
    refine WP.get (v := .int (nI N)) rfl rfl (rfl) (congrArg Value.int h) ?_
    refine WP.inv (fun i (_ : Unit) => (9, [some (.ref 2), some (.int (nI (hm (fun t => bo01 (of t)) 1 i))), some (.int (nI i))], [.int (nI N), .int (nI i)], hp L I J w, 0, 0)) (fun _ _ => True) N () trivial (fun i _ hi _ kk => ?_) (fun _ _ => ?_)
    · have k2 := kk () trivial
      have hs := isSum_all i (by omega)
      refine WP.icf rfl (nI_ge hi (by omega)) ?_
      iterate 3 (refine WP.st rfl ?_)
      refine WP.aald (k := i) rfl (rfl) (Or.inl rfl) (show i < 20 by omega) (rfl) (RR_sums w i (by omega)) ?_
      refine WP.get (v := .int (bo01 (of i))) rfl rfl (hs.1) (congrArg Value.int (ho i (by omega))) ?_
      by_cases z : of i = true
      · rw [show hm (fun t => bo01 (of t)) 1 (i + 1) = hm (fun t => bo01 (of t)) 1 i + 1 from if_pos (show bo01 (of i) = 1 from if_pos z), nI_succ i, nI_succ (hm _ 1 i)] at k2
        refine WP.iff rfl (show ¬ bo01 (of i) = 0 by rw [show bo01 (of i) = 1 from if_pos z]; decide) ?_
        iterate 5 (refine WP.st rfl ?_)
        refine WP.get (v := .int (nI N)) rfl rfl (rfl) (congrArg Value.int h) ?_
        exact k2
      · rw [show hm (fun t => bo01 (of t)) 1 (i + 1) = hm (fun t => bo01 (of t)) 1 i from if_neg (show ¬ bo01 (of i) = 1 by rw [show bo01 (of i) = 0 from if_neg z]; decide), nI_succ i] at k2
        refine WP.ift rfl (show bo01 (of i) = 0 from if_neg z) ?_
        iterate 4 (refine WP.st rfl ?_)
        refine WP.get (v := .int (nI N)) rfl rfl (rfl) (congrArg Value.int h) ?_
        exact k2
    · skip
      refine WP.ict rfl (nI_le (Nat.le_refl _) (by omega)) ?_
      iterate 1 (refine WP.st rfl ?_)
      exact WP.ret rfl ⟨rfl, rfl⟩
  obtain ⟨rfl, rfl⟩ := q
  exact e
