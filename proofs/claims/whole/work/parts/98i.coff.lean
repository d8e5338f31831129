abbrev bo01 (b : Bool) : Int32 := if b = true then 1 else 0
theorem bo_eq (a b : Bool) : bo01 a = bo01 b ↔ a = b := by cases a <;> cases b <;> decide
theorem CI_offs {I I' : Nat → Nat → Int32} {J : Nat → Nat → Int64} {w : Nat → Nat} {S : St} (h : CI I J w S) {t : Nat} {bo : Bool} (ht : t < sTl S) (hoff : ∀ c, c ≠ 11 → c ≠ sumP t → I' c = I c) (hk : ∀ k, k ≠ 2 → I' (sumP t) k = I (sumP t) k) (h2 : I' (sumP t) 2 = bo01 bo) (hj : JI I' J (sT S) (upT (sOf S) t bo) (sTl S)) : CI I' J w (stO S (upT (sOf S) t bo)) := by
  obtain ⟨a1, ⟨b1, b2, b3, b4, b5, b6, b7⟩, a3, a4, a5⟩ := h
  have e : ∀ t, sumP t = 148 + 3 * t := fun _ => rfl
  have hs := e t
  refine ⟨C1_ext (S := S) a1 (hoff 2 (by omega) (by omega)) (hoff 3 (by omega) (by omega)), ⟨by rw [hoff 2 (by omega) (by omega)]; exact b1, b2, fun j hj => ?_, fun j hj => ?_, fun j hj => ?_, hj, tT_ext b7 (hoff 5 (by omega) (by omega)) (hoff 6 (by omega) (by omega)) (hoff 7 (by omega) (by omega))⟩, a3, C4_ext (S := S) a4 (hoff 134 (by omega) (by omega)) rfl rfl, CF_ext a5 (fun c g1 g2 _ => hoff c (by omega) (by omega))⟩
  · have hj' : j < sTl S := hj
    have ej := e j
    by_cases z : j = t
    · subst z
      have g := b3 j hj'
      show tT I' (sumP j) (sTn S j) (sNm S j) (sFc S j) (sT S j)
      unfold tT at *
      rw [hk 0 (by decide), hk 1 (by decide), hoff (sumP j + 1) (by omega) (by omega), hoff (sumP j + 2) (by omega) (by omega)]
      exact g
    · exact tT_ext (b3 j hj') (hoff _ (by omega) (by omega)) (hoff _ (by omega) (by omega)) (hoff _ (by omega) (by omega))
  · show I' (sumP j) 2 = (if upT (sOf S) t bo j = true then 1 else 0)
    have ej := e j
    by_cases z : j = t
    · subst z; rw [upT_at]; exact h2
    · rw [upT_ne _ _ z, hoff _ (by omega) (by omega)]; exact b4 j hj
  · show upT (sOf S) t bo j = false
    have hj' : sTl S ≤ j := hj
    rw [upT_ne _ _ (by omega)]; exact b5 j hj'
theorem co_a (L : Nat) (I : Nat → Nat → Int32) (J : Nat → Nat → Int64) (w : Nat → Nat) (S : St) (h : CI I J w S) (t : Nat) (ht : t < sTl S) (bo : Bool) : WP m_DT_takeOff (11, [some (.ref 2), some (.int (nI t)), some (.int (bo01 bo))], [], hp L I J w, 0, 0) (fun v h => v = some (.int (if sOf S t = bo then ((-3 : Int32), S) else (1, stO S (upT (sOf S) t bo))).1) ∧ ∃ (I' : Nat → Nat → Int32) (J' : Nat → Nat → Int64) (w' : Nat → Nat), FR 1 207 I J I' J' ∧ CI I' J' w' (if sOf S t = bo then ((-3 : Int32), S) else (1, stO S (upT (sOf S) t bo))).2 ∧ h = hp L I' J' w') := by
  have q2 := h.2.1.2.1
  have hT := h.2.1.2.2.1 t ht
  have ho := h.2.1.2.2.2.1 t (by omega)
  have hs := isSum_all t (by omega)
  have es : sumP t = 148 + 3 * t := rfl
  iterate 3 (refine WP.st rfl ?_)
  refine WP.aald (k := t) rfl (rfl) (Or.inl rfl) (show t < 20 by omega) (rfl) (RR_sums w t (by omega)) ?_
  refine WP.get (v := .int (bo01 (sOf S t))) rfl rfl (hs.1) (congrArg Value.int ho) ?_
  iterate 1 (refine WP.st rfl ?_)
  by_cases e : sOf S t = bo
  · rw [if_pos e]
    refine WP.icf rfl (show ¬ ¬ bo01 (sOf S t) = bo01 bo by rw [e]; exact fun k => k rfl) ?_
    iterate 1 (refine WP.st rfl ?_)
    exact WP.ret rfl ⟨rfl, I, J, w, FR.refl _ _ _ _, h, rfl⟩
  · rw [if_neg e]
    refine WP.ict rfl (show ¬ bo01 (sOf S t) = bo01 bo from fun k => e ((bo_eq _ _).mp k)) ?_
    iterate 3 (refine WP.st rfl ?_)
    refine WP.aald (k := t) rfl (rfl) (Or.inl rfl) (show t < 20 by omega) (rfl) (RR_sums w t (by omega)) ?_
    iterate 1 (refine WP.st rfl ?_)
    refine WP.pfZ rfl rfl hs.1 rfl rfl (by cases bo; exact Or.inl rfl; exact Or.inr rfl) ?_
    iterate 3 (refine WP.st rfl ?_)
    have o : ∀ c, c ≠ sumP t → mm_up I (sumP t) 2 (bo01 bo) c = I c := fun c c1 => up_ne I _ c1
    obtain ⟨m, m1, m2, -⟩ := h.2.1.2.2.2.2.2.1
    refine WP.calle rfl rfl (ev_forget L (mm_up I (sumP t) 2 (bo01 bo)) J w m t (by omega) (by omega) (by rw [o 11 (by omega)]; exact m2)) ?_
    iterate 1 (refine WP.st rfl ?_)
    have o2 : ∀ c, c ≠ 11 → c ≠ sumP t → mm_up (mm_up I (sumP t) 2 (bo01 bo)) 11 5 (nI (min m t)) c = I c := fun c c0 c1 => (up_ne _ _ c0).trans (o c c1)
    have o3 : mm_up (mm_up I (sumP t) 2 (bo01 bo)) 11 5 (nI (min m t)) (sumP t) = mm_up I (sumP t) 2 (bo01 bo) (sumP t) := up_ne _ _ (by omega)
    refine WP.ret rfl ⟨rfl, mm_up (mm_up I (sumP t) 2 (bo01 bo)) 11 5 (nI (min m t)), J, w, fun c hc => ⟨o2 c (by omega) (by omega), rfl⟩, ?_, rfl⟩
    refine CI_offs h ht o2 (fun k hk => by rw [o3, up_nk I _ hk]) (by rw [o3, mm_up_at]) ?_
    refine JI_cut (t := t) h.2.1.2.2.2.2.2.1 ht (fun s hs => ⟨rfl, (upT_ne _ _ (by omega)).symm⟩) (fun m' e1 e2 => ?_) ?_ (fun c g1 g2 => o2 c (by omega) (by omega))
    · have : m' = m := (nI_eq (by omega) (by omega)).mp (e1.symm.trans m2)
      rw [this, mm_up_at]
    · rw [up_nk _ _ (by decide), o 11 (by omega)]
theorem c_takeOff (L : Nat) (I : Nat → Nat → Int32) (J : Nat → Nat → Int64) (w : Nat → Nat) (S : St) (h : CI I J w S) (t : Int32) (bo : Bool) : CM L I J w m_DT_takeOff [.int t, .int (bo01 bo)] (.int (oOff S t bo).1) (oOff S t bo).2 := by
  unfold CM SP oOff
  iterate 2 (refine WP.st rfl ?_)
  refine WP.calle rfl rfl (ev_isTelling L I J w (sTl S) h.2.1.2.1 h.2.1.1 t) ?_
  refine WP.bn rfl (fun z => ?_) (fun z => ?_)
  · rw [if_pos z]
    obtain ⟨k, hk, rfl⟩ := rg_nI z
    have q2 := h.2.1.2.1
    rw [nI_toInt (by omega), Int.toNat_natCast]
    exact co_a L I J w S h k hk bo
  · rw [if_neg z]
    iterate 1 (refine WP.st rfl ?_)
    exact WP.ret rfl ⟨rfl, I, J, w, FR.refl _ _ _ _, h, rfl⟩
