noncomputable def oSortOf (S : St) (k : Int32) : Int32 × St := if rg k (sB S) then (bI (mny (sBa S) (sBb S) k.toInt.toNat), S) else (-2, S)
theorem c_sortOf (L : Nat) (I : Nat → Nat → Int32) (J : Nat → Nat → Int64) (w : Nat → Nat) (S : St) (h : CI I J w S) (k : Int32) : CM L I J w m_DT_sortOf [.int k] (.int (oSortOf S k).1) (oSortOf S k).2 := by
  obtain ⟨f1, f2, f3, f4⟩ := h.2.2.2.2
  unfold CM SP oSortOf
  iterate 2 (refine WP.st rfl ?_)
  refine WP.calle rfl rfl (ev_isBar L I J w (sB S) f2 f1 k) ?_
  refine WP.bn rfl (fun z => ?_) (fun z => ?_)
  · rw [if_pos z]
    obtain ⟨k, hk, rfl⟩ := rg_nI z
    rw [nI_toInt (by omega), Int.toNat_natCast]
    iterate 4 (refine WP.st rfl ?_)
    refine WP.bald (k := k) rfl (rfl) (rfl) (show k < 20 by omega) (rfl) ?_
    rw [show hI (hp L I J w) 142 k = bI (mny (sBa S) (sBb S) k) from (f3 k hk).2.2.2.2.2.1]
    by_cases e : mny (sBa S) (sBb S) k
    · rw [bI_t e]
      refine WP.iff rfl (show ¬ (1 : Int32) = 0 by decide) ?_
      iterate 2 (refine WP.st rfl ?_)
      exact WP.ret rfl ⟨rfl, I, J, w, FR.refl _ _ _ _, h, rfl⟩
    · rw [bI_f e]
      refine WP.ift rfl (show (0 : Int32) = 0 from rfl) ?_
      iterate 1 (refine WP.st rfl ?_)
      exact WP.ret rfl ⟨rfl, I, J, w, FR.refl _ _ _ _, h, rfl⟩
  · rw [if_neg z]
    iterate 1 (refine WP.st rfl ?_)
    exact WP.ret rfl ⟨rfl, I, J, w, FR.refl _ _ _ _, h, rfl⟩
