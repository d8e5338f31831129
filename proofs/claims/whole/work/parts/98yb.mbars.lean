theorem zp2 : zJ 2 = (2 : Int64) := by decide
theorem ev_in02 (h : MH) (x : Int32) : EV m_Mo_in [.long x.toInt64, .long (Int64.ofNat 0), .long 2] h (some (.int (if rg x 3 then 1 else 0))) h := by
  have := ev_inC h x (A := Int64.ofNat 0) (B := 2) 0 (((3 : Nat) : Int) - 1) rfl (by decide) (by decide)
  rw [rg_in] at this
  exact this
theorem mbs_a (L : Nat) (I : Nat → Nat → Int32) (J : Nat → Nat → Int64) (w : Nat → Nat) (x : Int32) (Q : Option Value → MH → Prop) (k0 : ¬ rg x 3 → WP m_Mo_bars (12, [some (.ref 207), some (.int x), none, none], [], hp L I J w, 0, 0) Q) (k1 : rg x 3 → WP m_Mo_bars (15, [some (.ref 207), some (.int x), none, none], [], hp L I J w, 0, 0) Q) : WP m_Mo_bars (0, [some (.ref 207), some (.int x), none, none], [], hp L I J w, 0, 0) Q := by
  iterate 4 (refine WP.st rfl ?_)
  refine WP.calle rfl rfl (ev_in02 (hp L I J w) x) ?_
  exact WP.bn rfl k1 k0
theorem mbs_b (L : Nat) (I : Nat → Nat → Int32) (J : Nat → Nat → Int64) (w : Nat → Nat) (x : Int32) (B : Nat) (ba bb : Nat → Nat) (hB : B ≤ 20) (h : I 207 10 = nI B) (hm : ∀ k, k < B → I 217 k = bI (mny ba bb k)) (Q : Option Value → MH → Prop) (k : WP m_Mo_bars (54, [some (.ref 207), some (.int x), some (.int (nI (nnw ba bb B))), some (.int (nI B))], [], hp L I J w, 0, 0) Q) : WP m_Mo_bars (19, [some (.ref 207), some (.int x), none, none], [], hp L I J w, 0, 0) Q := by
  iterate 6 (refine WP.st rfl ?_)
  refine WP.get (v := .int (nI B)) rfl rfl (rfl) (congrArg Value.int h) ?_
  refine WP.inv (fun i (_ : Unit) => (28, [some (.ref 207), some (.int x), some (.int (nI (nnw ba bb i))), some (.int (nI i))], [.int (nI B), .int (nI i)], hp L I J w, 0, 0)) (fun _ _ => True) B () trivial (fun i _ hi _ kk => ?_) (fun _ _ => ?_)
  · have k2 := kk () trivial
    refine WP.icf rfl (nI_ge hi (by omega)) ?_
    iterate 4 (refine WP.st rfl ?_)
    refine WP.bald (k := i) rfl (rfl) (rfl) (show i < 20 by omega) (rfl) ?_
    rw [show hI (hp L I J w) 217 i = bI (mny ba bb i) from hm i hi]
    by_cases z : mny ba bb i
    · rw [nnw_t z, nI_succ i] at k2
      rw [bI_t z]
      refine WP.iff rfl (show ¬ (1 : Int32) = 0 by decide) ?_
      iterate 2 (refine WP.st rfl ?_)
      rw [show (nI (nnw ba bb i)) = nI (nnw ba bb i) + Int32.ofInt 0 from (Int32.add_zero _).symm] at k2
      iterate 6 (refine WP.st rfl ?_)
      refine WP.get (v := .int (nI B)) rfl rfl (rfl) (congrArg Value.int h) ?_
      exact k2
    · rw [nnw_f z, nI_succ i, nI_succ (nnw ba bb i)] at k2
      rw [bI_f z]
      refine WP.ift rfl (show (0 : Int32) = 0 from rfl) ?_
      iterate 7 (refine WP.st rfl ?_)
      refine WP.get (v := .int (nI B)) rfl rfl (rfl) (congrArg Value.int h) ?_
      exact k2
  · skip
    refine WP.ict rfl (nI_le (Nat.le_refl _) (by omega)) ?_
    exact k
