theorem RI_bars {I I' : Nat → Nat → Int32} {J : Nat → Nat → Int64} {S : St} (h : RI I J S) (h1 : ∀ c, c ≠ 208 → c ≠ 218 → I' c = I c) (h2 : ∀ k, k ≠ 14 → I' 208 k = I 208 k) : RI I' J S := by
  unfold RI R1 R2 R3 R4 R5 RR8 rR PM MG zv BR BA21 at *
  rw [h2 0 (by decide), h2 2 (by decide), h2 10 (by decide), h2 25 (by decide), h1 209 (by decide) (by decide), h1 210 (by decide) (by decide), h1 211 (by decide) (by decide), h1 212 (by decide) (by decide), h1 213 (by decide) (by decide), h1 214 (by decide) (by decide), h1 216 (by decide) (by decide), h1 217 (by decide) (by decide), h1 219 (by decide) (by decide)]
  exact h
theorem sp_mcb (L : Nat) (I : Nat → Nat → Int32) (J : Nat → Nat → Int64) (w : Nat → Nat) (S : St) (h : RI I J S) : SP m_Mo_countBars [.ref 208] (hp L I J w) (fun v h => v = none ∧ ∃ I' : Nat → Nat → Int32, FR 208 228 I J I' J ∧ RI I' J S ∧ (∀ k, k < 32 → bt (I' 208 14) k = nwb (sBa S) (sBb S) (sB S) k) ∧ (∀ k, k < sB S → I' 218 k = bI (mny (sBa S) (sBb S) k)) ∧ h = hp L I' J w) := by
  obtain ⟨ba, bb, hB, hE⟩ := h.2.2.2.2
  have b2 := hB.2.1
  refine WP.mono (sp_countBars L I J w (sB S) ba bb hB) ?_
  rintro _ _ ⟨e, I1, f1, f2, f3, rfl⟩
  refine ⟨e, I1, fun c hc => ⟨f1 c (by omega) (by omega), rfl⟩, RI_bars h f1 f2, fun k hk => ?_, fun k hk => ?_, rfl⟩
  · rw [f3.1 k hk, nwb_congr (sB S) (by omega) hE]
  · rw [f3.2 k hk]
    have c := mny_congr (m := k) (by omega) (fun j hj => hE j (by omega))
    by_cases z : mny ba bb k
    · rw [bI_t z, bI_t (c.mp z)]
    · rw [bI_f z, bI_f (fun y => z (c.mpr y))]
theorem mso_a (L : Nat) (I : Nat → Nat → Int32) (J : Nat → Nat → Int64) (w : Nat → Nat) (k : Int32) (B : Nat) (hB : B ≤ 20) (h : I 208 10 = nI B) (Q : Option Value → MH → Prop) (k0 : ¬ rg k B → WP m_Mo_sortOf (16, [some (.ref 208), some (.int k)], [], hp L I J w, 0, 0) Q) (k1 : rg k B → WP m_Mo_sortOf (19, [some (.ref 208), some (.int k)], [], hp L I J w, 0, 0) Q) : WP m_Mo_sortOf (0, [some (.ref 208), some (.int k)], [], hp L I J w, 0, 0) Q := by
  iterate 4 (refine WP.st rfl ?_)
  refine WP.get (v := .int (nI B)) rfl rfl (rfl) (congrArg Value.int h) ?_
  iterate 3 (refine WP.st rfl ?_)
  rw [m1_long (by omega)]
  refine WP.calle rfl rfl (ev_inR (hp L I J w) k 0 ((B : Int) - 1) (by decide) (by decide) (by omega) (by omega)) ?_
  rw [rg_in]
  exact WP.bn rfl k1 k0
theorem m_sortOf (L : Nat) (I : Nat → Nat → Int32) (J : Nat → Nat → Int64) (w : Nat → Nat) (S : St) (h : RI I J S) (k : Int32) : MM L I J w m_Mo_sortOf [.int k] (.int (oSortOf S k).1) (oSortOf S k).2 := by
  obtain ⟨ba, bb, hB, -⟩ := h.2.2.2.2
  have b2 := hB.2.1
  unfold MM SP oSortOf
  refine mso_a L I J w k (sB S) b2 hB.1 _ (fun z => ?_) (fun z => ?_)
  · rw [if_neg z]
    iterate 1 (refine WP.st rfl ?_)
    exact WP.ret rfl ⟨rfl, I, J, FR.refl _ _ _ _, h, rfl⟩
  · rw [if_pos z]
    obtain ⟨k, hk, rfl⟩ := rg_nI z
    rw [nI_toInt (by omega), Int.toNat_natCast]
    iterate 1 (refine WP.st rfl ?_)
    refine WP.call rfl rfl (sp_mcb L I J w S h) ?_
    rintro _ _ ⟨rfl, I1, f1, f2, f3, f4, rfl⟩
    iterate 3 (refine WP.st rfl ?_)
    refine WP.bald (k := k) rfl (rfl) (rfl) (show k < 20 by omega) (rfl) ?_
    rw [show hI (hp L I1 J w) 218 k = bI (mny (sBa S) (sBb S) k) from f4 k hk]
    by_cases e : mny (sBa S) (sBb S) k
    · rw [bI_t e]
      refine WP.iff rfl (show ¬ (1 : Int32) = 0 by decide) ?_
      iterate 2 (refine WP.st rfl ?_)
      exact WP.ret rfl ⟨rfl, I1, J, f1, f2, rfl⟩
    · rw [bI_f e]
      refine WP.ift rfl (show (0 : Int32) = 0 from rfl) ?_
      iterate 1 (refine WP.st rfl ?_)
      exact WP.ret rfl ⟨rfl, I1, J, f1, f2, rfl⟩
