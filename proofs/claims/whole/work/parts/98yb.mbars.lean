theorem zp2 : zJ 2 = (2 : Int64) := by decide
theorem ev_in02 (h : MH) (x : Int32) : EV m_Mo_in [.long x.toInt64, .long (Int64.ofNat 0), .long 2] h (some (.int (if rg x 3 then 1 else 0))) h := by
  have := ev_inC h x (A := Int64.ofNat 0) (B := 2) 0 (((3 : Nat) : Int) - 1) rfl (by decide) (by decide)
  rw [rg_in] at this
  exact this
theorem mbs_a (L : Nat) (I : Nat → Nat → Int32) (J : Nat → Nat → Int64) (w : Nat → Nat) (x : Int32) (Q : Option Value → MH → Prop) (k0 : ¬ rg x 3 → WP m_Mo_bars (12, [some (.ref 208), some (.int x), none, none], [], hp L I J w, 0, 0) Q) (k1 : rg x 3 → WP m_Mo_bars (15, [some (.ref 208), some (.int x), none, none], [], hp L I J w, 0, 0) Q) : WP m_Mo_bars (0, [some (.ref 208), some (.int x), none, none], [], hp L I J w, 0, 0) Q := by
  iterate 4 (refine WP.st rfl ?_)
  refine WP.calle rfl rfl (ev_in02 (hp L I J w) x) ?_
  exact WP.bn rfl k1 k0
theorem mbs_b (L : Nat) (I : Nat → Nat → Int32) (J : Nat → Nat → Int64) (w : Nat → Nat) (x : Int32) (B : Nat) (ba bb : Nat → Nat) (hB : B ≤ 20) (h : I 208 10 = nI B) (hm : ∀ k, k < B → I 218 k = bI (mny ba bb k)) (Q : Option Value → MH → Prop) (k : WP m_Mo_bars (54, [some (.ref 208), some (.int x), some (.int (nI (nnw ba bb B))), some (.int (nI B))], [], hp L I J w, 0, 0) Q) : WP m_Mo_bars (19, [some (.ref 208), some (.int x), none, none], [], hp L I J w, 0, 0) Q := by
  iterate 6 (refine WP.st rfl ?_)
  refine WP.get (v := .int (nI B)) rfl rfl (rfl) (congrArg Value.int h) ?_
  refine WP.inv (fun i (_ : Unit) => (28, [some (.ref 208), some (.int x), some (.int (nI (nnw ba bb i))), some (.int (nI i))], [.int (nI B), .int (nI i)], hp L I J w, 0, 0)) (fun _ _ => True) B () trivial (fun i _ hi _ kk => ?_) (fun _ _ => ?_)
  · have k2 := kk () trivial
    refine WP.icf rfl (nI_ge hi (by omega)) ?_
    iterate 4 (refine WP.st rfl ?_)
    refine WP.bald (k := i) rfl (rfl) (rfl) (show i < 20 by omega) (rfl) ?_
    rw [show hI (hp L I J w) 218 i = bI (mny ba bb i) from hm i hi]
    by_cases z : mny ba bb i
    · rw [nnw_t z, nI_succ i] at k2
      rw [bI_t z]
      refine WP.iff rfl (show ¬ (1 : Int32) = 0 by decide) ?_
      iterate 2 (refine WP.st rfl ?_)
      rw [show (nI (nnw ba bb i)) = nI (nnw ba bb i) + Int32.ofInt 0 from (Int32.add_zero _).symm] at k2
      iterate 6 (refine WP.st rfl ?_)
      refine WP.get (v := .int (nI B)) rfl rfl (rfl) (congrArg Value.int h) ?_
      exact k2
    · rw [nnw_f z, nI_succ i, nI_succ (nnw ba bb i)] at k2
      rw [bI_f z]
      refine WP.ift rfl (show (0 : Int32) = 0 from rfl) ?_
      iterate 7 (refine WP.st rfl ?_)
      refine WP.get (v := .int (nI B)) rfl rfl (rfl) (congrArg Value.int h) ?_
      exact k2
  · skip
    refine WP.ict rfl (nI_le (Nat.le_refl _) (by omega)) ?_
    exact k
theorem m_bars (L : Nat) (I : Nat → Nat → Int32) (J : Nat → Nat → Int64) (w : Nat → Nat) (S : St) (h : RI I J S) (x : Int32) : MM L I J w m_Mo_bars [.int x] (.int (oBars S x).1) (oBars S x).2 := by
  have xe : ∀ k : Nat, k < 4 → (x = nI k ↔ x.toInt = (k : Int)) := fun k hk => ⟨fun e => by rw [e]; exact nI_toInt (by omega), fun e => by rw [zI_of x, e, nI_zI]⟩
  have p2 := h.1.2.1
  unfold MM SP oBars
  refine mbs_a L I J w x _ (fun z => ?_) (fun z => ?_)
  · rw [if_neg (fun e => z ⟨by omega, by omega⟩), if_neg (fun e => z ⟨by omega, by omega⟩), if_neg (fun e => z ⟨by omega, by omega⟩)]
    iterate 1 (refine WP.st rfl ?_)
    exact WP.ret rfl ⟨rfl, I, J, FR.refl _ _ _ _, h, rfl⟩
  · have z1 := z.1
    have z2 := z.2
    iterate 1 (refine WP.st rfl ?_)
    refine WP.call rfl rfl (sp_mcb L I J w S h) ?_
    rintro _ _ ⟨rfl, I1, f1, f2, f3, f4, rfl⟩
    obtain ⟨ba, bb, hB, -⟩ := f2.2.2.2.2
    refine mbs_b L I1 J w x (sB S) (sBa S) (sBb S) hB.2.1 hB.1 f4 _ ?_
    iterate 1 (refine WP.st rfl ?_)
    by_cases e0 : x.toInt = 0
    · rw [if_pos e0]
      refine WP.iff rfl (show ¬ ¬ x = 0 from fun y => y ((xe 0 (by omega)).mpr e0)) ?_
      iterate 2 (refine WP.st rfl ?_)
      exact WP.ret rfl ⟨rfl, I1, J, f1, f2, rfl⟩
    · rw [if_neg e0]
      refine WP.ift rfl (show ¬ x = 0 from fun y => e0 ((xe 0 (by omega)).mp y)) ?_
      iterate 2 (refine WP.st rfl ?_)
      by_cases e1 : x.toInt = 1
      · rw [if_pos e1]
        refine WP.icf rfl (show ¬ ¬ x = nI 1 from fun y => y ((xe 1 (by omega)).mpr e1)) ?_
        iterate 1 (refine WP.st rfl ?_)
        refine WP.get (v := .int (nI (sB S))) rfl rfl (rfl) (congrArg Value.int hB.1) ?_
        iterate 3 (refine WP.st rfl ?_)
        exact WP.ret rfl ⟨rfl, I1, J, f1, f2, rfl⟩
      · rw [if_neg e1, if_pos (show x.toInt = 2 by omega)]
        refine WP.ict rfl (show ¬ x = nI 1 from fun y => e1 ((xe 1 (by omega)).mp y)) ?_
        iterate 1 (refine WP.st rfl ?_)
        refine WP.get (v := .int (nI (sPt S))) rfl rfl (rfl) (congrArg Value.int f2.1.1) ?_
        iterate 1 (refine WP.st rfl ?_)
        by_cases e2 : sPt S < 2
        · rw [if_pos e2]
          refine WP.icf rfl (show ¬ nI 2 ≤ nI (sPt S) from nI_ge e2 (by omega)) ?_
          iterate 2 (refine WP.st rfl ?_)
          exact WP.ret rfl ⟨rfl, I1, J, f1, f2, rfl⟩
        · rw [if_neg e2]
          refine WP.ict rfl (show nI 2 ≤ nI (sPt S) from nI_le (by omega) (by omega)) ?_
          iterate 2 (refine WP.st rfl ?_)
          refine WP.get (v := .int (nI (sPt S))) rfl rfl (rfl) (congrArg Value.int f2.1.1) ?_
          iterate 5 (refine WP.st rfl ?_)
          exact WP.ret rfl ⟨by rw [ix2], I1, J, f1, f2, rfl⟩
