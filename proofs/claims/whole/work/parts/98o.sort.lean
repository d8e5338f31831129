theorem RI_judge {I I' : Nat → Nat → Int32} {J K : Nat → Nat → Int64} {S : St} (h : RI I J S) (h1 : ∀ c, c ≠ 208 → c ≠ 215 → I' c = I c) (h2 : ∀ k, k ≠ 9 → I' 208 k = I 208 k) (h3 : ∀ c, c ≠ 220 → K c = J c) : RI I' K S := by
  unfold RI R1 R2 R3 R4 R5 RR8 rR PM MG zv BR BA21 at *
  rw [h2 0 (by decide), h2 2 (by decide), h2 10 (by decide), h2 25 (by decide), h1 209 (by decide) (by decide), h1 210 (by decide) (by decide), h1 211 (by decide) (by decide), h1 212 (by decide) (by decide), h1 213 (by decide) (by decide), h1 214 (by decide) (by decide), h1 216 (by decide) (by decide), h1 217 (by decide) (by decide), h1 219 (by decide) (by decide), h3 221 (by decide), h3 227 (by decide)]
  exact h
theorem sp_cj (L : Nat) (I : Nat → Nat → Int32) (J : Nat → Nat → Int64) (w : Nat → Nat) (S : St) (h : CI I J w S) : SP m_Ju_judgeUpTo [.ref 11, .ref 4, .int (nI (sTl S))] (hp L I J w) (fun v h => v = none ∧ ∃ (I' : Nat → Nat → Int32) (J' : Nat → Nat → Int64), FR 11 75 I J I' J' ∧ CI I' J' w S ∧ JX I' J' (sT S) (sOf S) (sTl S) ∧ I' 11 5 = nI (sTl S) ∧ h = hp L I' J' w) := by
  refine WP.mono (sp_judgeUpTo L I J w (sT S) (sOf S) (sTl S) h.2.1.2.1 (CT_of h.2.1) h.2.1.2.2.2.2.2.1) ?_
  rintro _ _ ⟨e, I1, J1, f1, f2, f3, rfl⟩
  exact ⟨e, I1, J1, f1, CI_judge h f1 (JX_JI f2 f3), f2, f3, rfl⟩
theorem sp_mj (L : Nat) (I : Nat → Nat → Int32) (J : Nat → Nat → Int64) (w : Nat → Nat) (S : St) (h : RI I J S) : SP m_Mo_judge [.ref 208] (hp L I J w) (fun v h => v = none ∧ ∃ (I' : Nat → Nat → Int32) (J' : Nat → Nat → Int64), FR 208 228 I J I' J' ∧ RI I' J' S ∧ JR I' (sT S) (sOf S) (sTl S) ∧ h = hp L I' J' w) := by
  obtain ⟨π, hπ⟩ := h.2.2.1.1
  refine WP.mono (sp_mjudge L I J w (sT S) (sOf S) (sTl S) (R2_RT h.2.1) π hπ) ?_
  rintro _ _ ⟨e, I1, K, f1, f2, f3, f4, rfl⟩
  exact ⟨e, I1, K, fun c hc => ⟨f1 c (by omega) (by omega), f3 c (by omega)⟩, RI_judge h f1 f2 f3, f4, rfl⟩
theorem FR_wide {a b a' b' : Nat} {I I' : Nat → Nat → Int32} {J J' : Nat → Nat → Int64} (h : FR a b I J I' J') (h1 : a' ≤ a) (h2 : b ≤ b') : FR a' b' I J I' J' := fun c hc => h c (by omega)
noncomputable def oSort (S : St) (t : Int32) : Int32 × St := if rg t (sTl S) then (nI (knd (sT S) (sOf S) t.toInt.toNat), S) else (-2, S)
theorem c_sort (L : Nat) (I : Nat → Nat → Int32) (J : Nat → Nat → Int64) (w : Nat → Nat) (S : St) (h : CI I J w S) (t : Int32) : CM L I J w m_DT_sort [.int t] (.int (oSort S t).1) (oSort S t).2 := by
  have q1 := h.2.1.1
  have q2 := h.2.1.2.1
  unfold CM SP oSort
  iterate 2 (refine WP.st rfl ?_)
  refine WP.calle rfl rfl (ev_isTelling L I J w (sTl S) q2 q1 t) ?_
  refine WP.bn rfl (fun z => ?_) (fun z => ?_)
  · rw [if_pos z]
    obtain ⟨k, hk, rfl⟩ := rg_nI z
    rw [nI_toInt (by omega), Int.toNat_natCast]
    iterate 5 (refine WP.st rfl ?_)
    refine WP.get (v := .int (nI (sTl S))) rfl rfl (rfl) (congrArg Value.int q1) ?_
    refine WP.call rfl rfl (sp_cj L I J w S h) ?_
    rintro _ _ ⟨rfl, I1, J1, f1, f2, f3, f4, rfl⟩
    iterate 4 (refine WP.st rfl ?_)
    refine WP.iald (k := k) rfl (rfl) (Or.inl rfl) (show k < 20 by omega) (rfl) ?_
    exact WP.ret rfl ⟨congrArg (fun z => some (Value.int z)) (f3.2.2.1 k hk).1, I1, J1, w, FR_wide f1 (by omega) (by omega), f2, rfl⟩
  · rw [if_neg z]
    iterate 1 (refine WP.st rfl ?_)
    exact WP.ret rfl ⟨rfl, I, J, w, FR.refl _ _ _ _, h, rfl⟩
theorem m_sort (L : Nat) (I : Nat → Nat → Int32) (J : Nat → Nat → Int64) (w : Nat → Nat) (S : St) (h : RI I J S) (t : Int32) : MM L I J w m_Mo_sort [.int t] (.int (oSort S t).1) (oSort S t).2 := by
  have q1 := h.2.1.1
  have q2 := h.2.1.2.1
  unfold MM SP oSort
  iterate 2 (refine WP.st rfl ?_)
  refine WP.calle rfl rfl (ev_misTelling L I J w (sTl S) q2 q1 t) ?_
  refine WP.bn rfl (fun z => ?_) (fun z => ?_)
  · rw [if_pos z]
    obtain ⟨k, hk, rfl⟩ := rg_nI z
    rw [nI_toInt (by omega), Int.toNat_natCast]
    iterate 1 (refine WP.st rfl ?_)
    refine WP.call rfl rfl (sp_mj L I J w S h) ?_
    rintro _ _ ⟨rfl, I1, J1, f1, f2, f3, rfl⟩
    iterate 3 (refine WP.st rfl ?_)
    refine WP.iald (k := k) rfl (rfl) (Or.inl rfl) (show k < 20 by omega) (rfl) ?_
    exact WP.ret rfl ⟨congrArg (fun z => some (Value.int z)) (f3.2 k hk), I1, J1, f1, f2, rfl⟩
  · rw [if_neg z]
    iterate 1 (refine WP.st rfl ?_)
    exact WP.ret rfl ⟨rfl, I, J, FR.refl _ _ _ _, h, rfl⟩
