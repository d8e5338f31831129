theorem ev_forget (L : Nat) (I : Nat → Nat → Int32) (J : Nat → Nat → Int64) (w : Nat → Nat) (m t : Nat) (hm : m ≤ 20) (ht : t ≤ 20) (h5 : I 11 5 = nI m) : EV m_Ju_forgetFrom [.ref 11, .int (nI t)] (hp L I J w) none (hp L (mm_up I 11 5 (nI (min m t))) J w) := by
  obtain ⟨r, h', e, q⟩ : SP m_Ju_forgetFrom [.ref 11, .int (nI t)] (hp L I J w) (fun r h' => r = none ∧ h' = hp L (mm_up I 11 5 (nI (min m t))) J w) := by
    unfold SP
    iterate 2 (refine WP.st rfl ?_)
    refine WP.get (v := .int (nI m)) rfl rfl (rfl) (congrArg Value.int h5) ?_
    iterate 1 (refine WP.st rfl ?_)
    refine WP.st rfl ?_
    have em : (if nI t < nI m then nI t else nI m : Int32) = nI (min m t) := by
      by_cases z : t < m
      · rw [if_pos (nI_lt z (by omega)), Nat.min_eq_right (by omega)]
      · rw [if_neg (nI_nlt (by omega) (by omega)), Nat.min_eq_left (by omega)]
    rw [em]
    iterate 1 (refine WP.st rfl ?_)
    exact WP.ret rfl ⟨rfl, rfl⟩
  obtain ⟨rfl, rfl⟩ := q
  exact e
def oTerm (S : St) (t a b : Int32) : Int32 × St := if rg t (sTl S) then oPut S t.toInt.toNat a b else (-2, S)
def oOff (S : St) (t : Int32) (bo : Bool) : Int32 × St := if rg t (sTl S) then (if sOf S t.toInt.toNat = bo then (-3, S) else (1, stO S (upT (sOf S) t.toInt.toNat bo))) else (-2, S)
theorem ct_bad (L : Nat) (I : Nat → Nat → Int32) (J : Nat → Nat → Int64) (w : Nat → Nat) (t a b : Int32) {Q : Option Value → MH → Prop} (k : Q (some (.int (-2))) (hp L I J w)) : WP m_DT_term (8, [some (.ref 2), some (.int t), some (.int a), some (.int b), none], [], hp L I J w, 0, 0) Q := by
  iterate 1 (refine WP.st rfl ?_)
  exact WP.ret rfl k
theorem ct_a (L : Nat) (I : Nat → Nat → Int32) (J : Nat → Nat → Int64) (w : Nat → Nat) (S : St) (h : CI I J w S) (t : Nat) (ht : t < sTl S) (a b : Int32) : WP m_DT_term (11, [some (.ref 2), some (.int (nI t)), some (.int a), some (.int b), none], [], hp L I J w, 0, 0) (fun v h => v = some (.int (oPut S t a b).1) ∧ ∃ (I' : Nat → Nat → Int32) (J' : Nat → Nat → Int64) (w' : Nat → Nat), FR 1 207 I J I' J' ∧ CI I' J' w' (oPut S t a b).2 ∧ h = hp L I' J' w') := by
  have p2 := h.1.2.1
  have q2 := h.2.1.2.1
  have hT := h.2.1.2.2.1 t ht
  have hs := isSum_all t (by omega)
  have es : sumP t = 148 + 3 * t := rfl
  unfold oPut
  iterate 4 (refine WP.st rfl ?_)
  refine WP.aald (k := t) rfl (rfl) (Or.inl rfl) (show t < 20 by omega) (rfl) (RR_sums w t (by omega)) ?_
  iterate 2 (refine WP.st rfl ?_)
  refine WP.call rfl rfl (sp_putTerm L I J w (sumP t) hs hT (sPt S) p2 h.1.1 a b) ?_
  rintro _ _ (⟨z, rfl, rfl⟩ | ⟨z, e, rfl, rfl⟩ | ⟨z, e, rfl, rfl⟩)
  · rw [if_neg z]
    iterate 2 (refine WP.st rfl ?_)
    refine WP.ift rfl (show (-2 : Int32) ≤ 0 by decide) ?_
    iterate 1 (refine WP.st rfl ?_)
    exact WP.ret rfl ⟨rfl, I, J, w, FR.refl _ _ _ _, h, rfl⟩
  · rw [if_pos z, if_pos e]
    iterate 2 (refine WP.st rfl ?_)
    refine WP.ift rfl (show (-4 : Int32) ≤ 0 by decide) ?_
    iterate 1 (refine WP.st rfl ?_)
    exact WP.ret rfl ⟨rfl, I, J, w, FR.refl _ _ _ _, h, rfl⟩
  · rw [if_pos z, if_neg (by omega)]
    iterate 2 (refine WP.st rfl ?_)
    refine WP.iff rfl (show ¬ nI (sTn S t + 1) ≤ nI 0 from nI_ge (by omega) (by omega)) ?_
    iterate 3 (refine WP.st rfl ?_)
    obtain ⟨z1, z2, z3, z4⟩ := z
    obtain ⟨a, ha, rfl⟩ := rg_nI z1
    have ea : (nI a).toInt.toNat = a := by rw [nI_toInt (by omega), Int.toNat_natCast]
    rw [ea] at z4 ⊢
    have o : ∀ c, c ≠ sumP t → c ≠ sumP t + 1 → c ≠ sumP t + 2 → sm_put I (sumP t) (sTn S t) (nI a) b c = I c := fun c c1 c2 c3 => sm_off I _ _ _ _ c1 c2 c3
    obtain ⟨m, m1, m2, -⟩ := h.2.1.2.2.2.2.2.1
    refine WP.calle rfl rfl (ev_forget L (sm_put I (sumP t) (sTn S t) (nI a) b) J w m t (by omega) (by omega) (by rw [o 11 (by omega) (by omega) (by omega)]; exact m2)) ?_
    iterate 1 (refine WP.st rfl ?_)
    have o2 : ∀ c, c ≠ 11 → c ≠ sumP t → c ≠ sumP t + 1 → c ≠ sumP t + 2 → mm_up (sm_put I (sumP t) (sTn S t) (nI a) b) 11 5 (nI (min m t)) c = I c := fun c c0 c1 c2 c3 => (up_ne _ _ c0).trans (o c c1 c2 c3)
    have o3 : ∀ c, c ≠ 11 → mm_up (sm_put I (sumP t) (sTn S t) (nI a) b) 11 5 (nI (min m t)) c = sm_put I (sumP t) (sTn S t) (nI a) b c := fun c c0 => up_ne _ _ c0
    refine WP.ret rfl ⟨rfl, mm_up (sm_put I (sumP t) (sTn S t) (nI a) b) 11 5 (nI (min m t)), J, w, fun c hc => ⟨o2 c (by omega) (by omega) (by omega) (by omega), rfl⟩, ?_, rfl⟩
    refine CI_row h (Or.inr ⟨by omega, rfl⟩) (fun k _ => by rw [o2 2 (by omega) (by omega) (by omega) (by omega)]) (by rw [o2 2 (by omega) (by omega) (by omega) (by omega)]; exact h.2.1.1) q2 (Nat.le_refl _) (fun j hj => Or.inr hj) (fun c _ c2 c3 c4 c5 => o2 c c2 c3 c4 c5) (by rw [o3 _ (by omega)]; exact sm_s2 I _ _ _ _) (tT_ext (tT_put hT e (by omega) z2 z3 z4) (o3 _ (by omega)) (o3 _ (by omega)) (o3 _ (by omega))) ?_
    refine JI_cut (t := t) h.2.1.2.2.2.2.2.1 ht (fun s hs => ⟨(upT_ne _ _ (by omega)).symm, rfl⟩) (fun m' e1 e2 => ?_) ?_ (fun c g1 g2 => o2 c (by omega) (by omega) (by omega) (by omega))
    · have : m' = m := (nI_eq (by omega) (by omega)).mp (e1.symm.trans m2)
      rw [this, mm_up_at]
    · rw [up_nk _ _ (by decide), o 11 (by omega) (by omega) (by omega)]
theorem c_term (L : Nat) (I : Nat → Nat → Int32) (J : Nat → Nat → Int64) (w : Nat → Nat) (S : St) (h : CI I J w S) (t a b : Int32) : CM L I J w m_DT_term [.int t, .int a, .int b] (.int (oTerm S t a b).1) (oTerm S t a b).2 := by
  unfold CM SP oTerm
  iterate 2 (refine WP.st rfl ?_)
  refine WP.calle rfl rfl (ev_isTelling L I J w (sTl S) h.2.1.2.1 h.2.1.1 t) ?_
  refine WP.bn rfl (fun z => ?_) (fun z => ?_)
  · rw [if_pos z]
    obtain ⟨k, hk, rfl⟩ := rg_nI z
    have q2 := h.2.1.2.1
    rw [nI_toInt (by omega), Int.toNat_natCast]
    exact ct_a L I J w S h k hk a b
  · rw [if_neg z]
    exact ct_bad L I J w t a b ⟨rfl, I, J, w, FR.refl _ _ _ _, h, rfl⟩
