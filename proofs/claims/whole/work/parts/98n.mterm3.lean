theorem sp_termOf (L : Nat) (I : Nat → Nat → Int32) (J : Nat → Nat → Int64) (w : Nat → Nat) (S : St) (h : RI I J S) (t : Nat) (ht : t = 20 ∨ t < sTl S) (a b : Int32) : SP m_Mo_termOf [.ref 208, .int (nI t), .int a, .int b] (hp L I J w) (fun v h => v = some (.int (oPut S t a b).1) ∧ ∃ (I' : Nat → Nat → Int32) (J' : Nat → Nat → Int64), FR 208 228 I J I' J' ∧ RI I' J' (oPut S t a b).2 ∧ h = hp L I' J' w) := by
  have q2 := h.2.1.2.1
  have p2 := h.1.2.1
  have hR : rR I t (sTn S t) (sNm S t) (sFc S t) (sT S t) := by
    rcases ht with e | e
    · rw [e]; exact h.2.1.2.2.2.2.2
    · exact h.2.1.2.2.1 t e
  unfold SP oPut
  refine mf_a L I J w (nI t) a b (sPt S) p2 h.1.1 _ (fun z => ?_) (fun z => mf_b L I J w (nI t) a b _ (fun z3 => ?_) (fun z3 => ?_))
  · rw [if_neg (fun k => z k.1)]; exact mf_bad L I J w (nI t) a b ⟨rfl, I, J, FR.refl _ _ _ _, h, rfl⟩
  · rw [if_neg (fun k => z3 k.2.2.1)]; exact mf_bad L I J w (nI t) a b ⟨rfl, I, J, FR.refl _ _ _ _, h, rfl⟩
  · obtain ⟨a, ha, rfl⟩ := rg_nI z
    have ea : (nI a).toInt.toNat = a := by rw [nI_toInt (by omega), Int.toNat_natCast]
    refine mf_c L I J w t a (by omega) (by omega) b hR _ (fun z4 => ?_) (fun z2 z4 => ?_)
    · rw [if_neg (fun k => z4 ⟨k.2.1, by have := k.2.2.2; rw [ea] at this; exact this⟩)]; exact mf_bad L I J w (nI t) (nI a) b ⟨rfl, I, J, FR.refl _ _ _ _, h, rfl⟩
    · rw [if_pos ⟨z, z2, z3, by rw [ea]; exact z4⟩, ea]
      exact mf_d L I J w S h t a ht (by omega) b z2 z3 z4 hR
theorem m_ask (L : Nat) (I : Nat → Nat → Int32) (J : Nat → Nat → Int64) (w : Nat → Nat) (S : St) (h : RI I J S) (a b : Int32) : MM L I J w m_Mo_ask [.int a, .int b] (.int (oPut S 20 a b).1) (oPut S 20 a b).2 := by
  unfold MM SP
  iterate 4 (refine WP.st rfl ?_)
  refine WP.call rfl rfl (sp_termOf L I J w S h 20 (Or.inl rfl) a b) ?_
  rintro _ _ ⟨rfl, I1, J1, f1, f2, rfl⟩
  exact WP.ret rfl ⟨rfl, I1, J1, f1, f2, rfl⟩
theorem m_term (L : Nat) (I : Nat → Nat → Int32) (J : Nat → Nat → Int64) (w : Nat → Nat) (S : St) (h : RI I J S) (t a b : Int32) : MM L I J w m_Mo_term [.int t, .int a, .int b] (.int (oTerm S t a b).1) (oTerm S t a b).2 := by
  unfold MM SP oTerm
  iterate 2 (refine WP.st rfl ?_)
  refine WP.calle rfl rfl (ev_misTelling L I J w (sTl S) h.2.1.2.1 h.2.1.1 t) ?_
  refine WP.bz rfl (fun z => ?_) (fun z => ?_)
  · rw [if_neg z]
    iterate 1 (refine WP.st rfl ?_)
    exact WP.ret rfl ⟨rfl, I, J, FR.refl _ _ _ _, h, rfl⟩
  · rw [if_pos z]
    obtain ⟨k, hk, rfl⟩ := rg_nI z
    have q2 := h.2.1.2.1
    rw [nI_toInt (by omega), Int.toNat_natCast]
    iterate 4 (refine WP.st rfl ?_)
    refine WP.call rfl rfl (sp_termOf L I J w S h k (Or.inr hk) a b) ?_
    rintro _ _ ⟨rfl, I1, J1, f1, f2, rfl⟩
    iterate 1 (refine WP.st rfl ?_)
    exact WP.ret rfl ⟨rfl, I1, J1, f1, f2, rfl⟩
