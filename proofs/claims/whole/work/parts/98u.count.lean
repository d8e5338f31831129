theorem ev_howManyOff (L : Nat) (I : Nat → Nat → Int32) (J : Nat → Nat → Int64) (w : Nat → Nat) (of : Off) (N : Nat) (hN : N ≤ 20) (h : I 2 3 = nI N) (ho : ∀ t, t < 20 → I (sumP t) 2 = bo01 (of t)) : EV m_DT_howManyOff [.ref 2] (hp L I J w) (some (.int (nI (hm (fun t => bo01 (of t)) 1 N)))) (hp L I J w) := by
  obtain ⟨r, h', e, q⟩ : SP m_DT_howManyOff [.ref 2] (hp L I J w) (fun r h' => r = some (.int (nI (hm (fun t => bo01 (of t)) 1 N))) ∧ h' = hp L I J w) := by
    unfold SP
    iterate 6 (refine WP.st rfl ?_)
    refine WP.get (v := .int (nI N)) rfl rfl (rfl) (congrArg Value.int h) ?_
    refine WP.inv (fun i (_ : Unit) => (9, [some (.ref 2), some (.int (nI (hm (fun t => bo01 (of t)) 1 i))), some (.int (nI i))], [.int (nI N), .int (nI i)], hp L I J w, 0, 0)) (fun _ _ => True) N () trivial (fun i _ hi _ kk => ?_) (fun _ _ => ?_)
    · have k2 := kk () trivial
      have hs := isSum_all i (by omega)
      refine WP.icf rfl (nI_ge hi (by omega)) ?_
      iterate 3 (refine WP.st rfl ?_)
      refine WP.aald (k := i) rfl (rfl) (Or.inl rfl) (show i < 20 by omega) (rfl) (RR_sums w i (by omega)) ?_
      refine WP.get (v := .int (bo01 (of i))) rfl rfl (hs.1) (congrArg Value.int (ho i (by omega))) ?_
      by_cases z : of i = true
      · rw [show hm (fun t => bo01 (of t)) 1 (i + 1) = hm (fun t => bo01 (of t)) 1 i + 1 from if_pos (show bo01 (of i) = 1 from if_pos z), nI_succ i, nI_succ (hm _ 1 i)] at k2
        refine WP.iff rfl (show ¬ bo01 (of i) = 0 by rw [show bo01 (of i) = 1 from if_pos z]; decide) ?_
        iterate 5 (refine WP.st rfl ?_)
        refine WP.get (v := .int (nI N)) rfl rfl (rfl) (congrArg Value.int h) ?_
        exact k2
      · rw [show hm (fun t => bo01 (of t)) 1 (i + 1) = hm (fun t => bo01 (of t)) 1 i from if_neg (show ¬ bo01 (of i) = 1 by rw [show bo01 (of i) = 0 from if_neg z]; decide), nI_succ i] at k2
        refine WP.ift rfl (show bo01 (of i) = 0 from if_neg z) ?_
        iterate 4 (refine WP.st rfl ?_)
        refine WP.get (v := .int (nI N)) rfl rfl (rfl) (congrArg Value.int h) ?_
        exact k2
    · skip
      refine WP.ict rfl (nI_le (Nat.le_refl _) (by omega)) ?_
      iterate 1 (refine WP.st rfl ?_)
      exact WP.ret rfl ⟨rfl, rfl⟩
  obtain ⟨rfl, rfl⟩ := q
  exact e
def oCount (S : St) (x : Int32) : Int32 × St := (if x.toInt = 0 then nI (sPt S) else if x.toInt = 1 then nI (sTl S) else if x.toInt = 2 then nI (hm (fun t => bo01 (sOf S t)) 1 (sTl S)) else if x.toInt = 3 then nI (sB S) else -2, S)
theorem c_count (L : Nat) (I : Nat → Nat → Int32) (J : Nat → Nat → Int64) (w : Nat → Nat) (S : St) (h : CI I J w S) (x : Int32) : CM L I J w m_DT_count [.int x] (.int (oCount S x).1) (oCount S x).2 := by
  unfold CM SP oCount
  refine WP.st rfl ?_
  by_cases z : x.toInt < 0 ∨ 3 < x.toInt
  · rw [if_neg (by omega), if_neg (by omega), if_neg (by omega), if_neg (by omega)]
    refine WP.tsd (tgt := 55) rfl z rfl ?_
    iterate 1 (refine WP.st rfl ?_)
    exact WP.ret rfl ⟨rfl, I, J, w, FR.refl _ _ _ _, h, rfl⟩
  · by_cases e0 : x.toInt = 0
    · rw [if_pos e0]
      refine WP.tsi (off := 31) (tgt := 32) rfl z (by rw [e0]; rfl) rfl ?_
      iterate 1 (refine WP.st rfl ?_)
      refine WP.get (v := .int (nI (sPt S))) rfl rfl (rfl) (congrArg Value.int h.1.1) ?_
      exact WP.ret rfl ⟨rfl, I, J, w, FR.refl _ _ _ _, h, rfl⟩
    · rw [if_neg e0]
      by_cases e1 : x.toInt = 1
      · rw [if_pos e1]
        refine WP.tsi (off := 36) (tgt := 37) rfl z (by rw [e1]; rfl) rfl ?_
        iterate 1 (refine WP.st rfl ?_)
        refine WP.get (v := .int (nI (sTl S))) rfl rfl (rfl) (congrArg Value.int h.2.1.1) ?_
        exact WP.ret rfl ⟨rfl, I, J, w, FR.refl _ _ _ _, h, rfl⟩
      · rw [if_neg e1]
        by_cases e2 : x.toInt = 2
        · rw [if_pos e2]
          refine WP.tsi (off := 41) (tgt := 42) rfl z (by rw [e2]; rfl) rfl ?_
          iterate 1 (refine WP.st rfl ?_)
          refine WP.calle rfl rfl (ev_howManyOff L I J w (sOf S) (sTl S) h.2.1.2.1 h.2.1.1 h.2.1.2.2.2.1) ?_
          exact WP.ret rfl ⟨rfl, I, J, w, FR.refl _ _ _ _, h, rfl⟩
        · rw [if_neg e2, if_pos (show x.toInt = 3 by omega)]
          refine WP.tsi (off := 46) (tgt := 47) rfl z (by rw [show x.toInt = 3 by omega]; rfl) rfl ?_
          iterate 2 (refine WP.st rfl ?_)
          refine WP.get (v := .int (nI (sB S))) rfl rfl (rfl) (congrArg Value.int h.2.2.2.2.1) ?_
          exact WP.ret rfl ⟨rfl, I, J, w, FR.refl _ _ _ _, h, rfl⟩
