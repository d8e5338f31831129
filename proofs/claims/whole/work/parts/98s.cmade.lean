/-- the word with these bits -/
noncomputable def ofB (f : Nat → Prop) : Int32 := @dite _ (∃ v : Int32, ∀ k, k < 32 → (bt v k = true ↔ f k)) (Classical.propDecidable _) (fun h => Classical.choose h) (fun _ => 0)
theorem ofB_eq {f : Nat → Prop} {v : Int32} (h : ∀ k, k < 32 → (bt v k = true ↔ f k)) : ofB f = v := by
  have ex : ∃ v : Int32, ∀ k, k < 32 → (bt v k = true ↔ f k) := ⟨v, h⟩
  unfold ofB
  rw [dif_pos ex]
  refine bt_ext (fun k hk => ?_)
  have a := Classical.choose_spec ex k hk
  have b := h k hk
  have c : bt (Classical.choose ex) k = true ↔ bt v k = true := a.trans b.symm
  cases e1 : bt (Classical.choose ex) k <;> cases e2 : bt v k
  · rfl
  · rw [e1, e2] at c; exact absurd (c.mpr rfl) (by decide)
  · rw [e1, e2] at c; exact absurd (c.mp rfl) (by decide)
  · rfl
/-- telling k is one that t is made of -/
def mdo (T : Nat → Nat → Int) (of : Off) (t k : Nat) : Prop := ∃ q, q < rk T of t ∧ nos T of t q = k ∧ ind 16 (rk T of t) (wo (beh (am T of t) (rk T of t) (T t)) q)
noncomputable def oMade (S : St) (t : Int32) : Int32 × St := if rg t (sTl S) then (if knd (sT S) (sOf S) t.toInt.toNat = 1 ∨ knd (sT S) (sOf S) t.toInt.toNat = 2 then ofB (mdo (sT S) (sOf S) t.toInt.toNat) else -3, S) else (-2, S)
theorem c_madeOf (L : Nat) (I : Nat → Nat → Int32) (J : Nat → Nat → Int64) (w : Nat → Nat) (S : St) (h : CI I J w S) (t : Int32) : CM L I J w m_DT_madeOf [.int t] (.int (oMade S t).1) (oMade S t).2 := by
  have q1 := h.2.1.1
  have q2 := h.2.1.2.1
  unfold CM SP oMade
  iterate 2 (refine WP.st rfl ?_)
  refine WP.calle rfl rfl (ev_isTelling L I J w (sTl S) q2 q1 t) ?_
  refine WP.bn rfl (fun z => ?_) (fun z => ?_)
  · rw [if_pos z]
    obtain ⟨k, hk, rfl⟩ := rg_nI z
    rw [nI_toInt (by omega), Int.toNat_natCast]
    iterate 5 (refine WP.st rfl ?_)
    refine WP.get (v := .int (nI (sTl S))) rfl rfl (rfl) (congrArg Value.int q1) ?_
    refine WP.call rfl rfl (sp_cj L I J w S h) ?_
    rintro _ _ ⟨rfl, I1, J1, f1, f2, f3, f4, rfl⟩
    have fr : FR 1 207 I J I1 J1 := FR_wide f1 (by omega) (by omega)
    have kl := knd_le (sT S) (sOf S) k
    obtain ⟨g1, g2⟩ := f3.2.2.1 k hk
    iterate 4 (refine WP.st rfl ?_)
    refine WP.iald (k := k) rfl (rfl) (Or.inl rfl) (show k < 20 by omega) (rfl) ?_
    rw [show hI (hp L I1 J1 w) 13 k = nI (knd (sT S) (sOf S) k) from g1]
    iterate 3 (refine WP.st rfl ?_)
    by_cases e1 : knd (sT S) (sOf S) k = 1
    · rw [if_pos (Or.inl e1)]
      refine WP.ict rfl (show nI (knd (sT S) (sOf S) k) = nI 1 by rw [e1]) ?_
      iterate 4 (refine WP.st rfl ?_)
      refine WP.iald (k := k) rfl (rfl) (Or.inl rfl) (show k < 20 by omega) (rfl) ?_
      exact WP.ret rfl ⟨congrArg (fun z => some (Value.int z)) (ofB_eq (g2 (Or.inl e1))).symm, I1, J1, w, fr, f2, rfl⟩
    · skip
      refine WP.icf rfl (show ¬ nI (knd (sT S) (sOf S) k) = nI 1 from fun y => e1 ((nI_eq (by omega) (by omega)).mp y)) ?_
      iterate 2 (refine WP.st rfl ?_)
      by_cases e2 : knd (sT S) (sOf S) k = 2
      · rw [if_pos (Or.inr e2)]
        refine WP.ict rfl (show nI (knd (sT S) (sOf S) k) = nI 2 by rw [e2]) ?_
        iterate 4 (refine WP.st rfl ?_)
        refine WP.iald (k := k) rfl (rfl) (Or.inl rfl) (show k < 20 by omega) (rfl) ?_
        exact WP.ret rfl ⟨congrArg (fun z => some (Value.int z)) (ofB_eq (g2 (Or.inr e2))).symm, I1, J1, w, fr, f2, rfl⟩
      · rw [if_neg (by omega)]
        refine WP.icf rfl (show ¬ nI (knd (sT S) (sOf S) k) = nI 2 from fun y => e2 ((nI_eq (by omega) (by omega)).mp y)) ?_
        iterate 1 (refine WP.st rfl ?_)
        exact WP.ret rfl ⟨rfl, I1, J1, w, fr, f2, rfl⟩
  · rw [if_neg z]
    iterate 1 (refine WP.st rfl ?_)
    exact WP.ret rfl ⟨rfl, I, J, w, FR.refl _ _ _ _, h, rfl⟩
