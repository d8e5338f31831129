theorem RI_offs {I I' : Nat → Nat → Int32} {J : Nat → Nat → Int64} {S : St} (h : RI I J S) {t : Nat} {bo : Bool} (ht : t < sTl S) (hoff : ∀ c, c ≠ 213 → I' c = I c) (hk : ∀ k, k ≠ t → I' 213 k = I 213 k) (h2 : I' 213 t = bo01 bo) : RI I' J (stO S (upT (sOf S) t bo)) := by
  obtain ⟨a1, ⟨b1, b2, b3, b4, b5, b6⟩, a3, a4, a5⟩ := h
  have e7 := hoff 207 (by decide)
  have e9 := hoff 209 (by decide)
  have e10 := hoff 210 (by decide)
  have e11 := hoff 211 (by decide)
  have e12 := hoff 212 (by decide)
  have g : ∀ j n nm fc r, rR I j n nm fc r → rR I' j n nm fc r := fun j n nm fc r q => by unfold rR at *; rw [e9, e10, e11, e12]; exact q
  refine ⟨?_, ⟨by rw [e7]; exact b1, b2, fun j hj => g _ _ _ _ _ (b3 j hj), fun j hj => ?_, fun j hj => ?_, g _ _ _ _ _ b6⟩, ?_, ?_, ?_⟩
  · unfold R1 RR8 at *
    rw [e7, hoff 208 (by decide)]; exact a1
  · show I' 213 j = (if upT (sOf S) t bo j = true then 1 else 0)
    by_cases z : j = t
    · rw [z, upT_at]; exact h2
    · rw [upT_ne _ _ z, hk j z]; exact b4 j hj
  · show upT (sOf S) t bo j = false
    have hj' : sTl S ≤ j := hj
    rw [upT_ne _ _ (by omega)]; exact b5 j hj'
  · unfold R3 PM at *
    rw [hoff 218 (by decide)]; exact a3
  · unfold R4 at *
    rw [e7]; exact a4
  · unfold R5 BR BA21 at *
    rw [e7, hoff 215 (by decide), hoff 216 (by decide)]; exact a5
theorem mo_a (L : Nat) (I : Nat → Nat → Int32) (J : Nat → Nat → Int64) (w : Nat → Nat) (S : St) (h : RI I J S) (t : Nat) (ht : t < sTl S) (bo : Bool) : WP m_Mo_takeOff (11, [some (.ref 207), some (.int (nI t)), some (.int (bo01 bo))], [], hp L I J w, 0, 0) (fun v h => v = some (.int (if sOf S t = bo then ((-3 : Int32), S) else (1, stO S (upT (sOf S) t bo))).1) ∧ ∃ (I' : Nat → Nat → Int32) (J' : Nat → Nat → Int64), FR 207 227 I J I' J' ∧ RI I' J' (if sOf S t = bo then ((-3 : Int32), S) else (1, stO S (upT (sOf S) t bo))).2 ∧ h = hp L I' J' w) := by
  have q2 := h.2.1.2.1
  have ho := h.2.1.2.2.2.1 t (by omega)
  iterate 3 (refine WP.st rfl ?_)
  refine WP.bald (k := t) rfl (rfl) (rfl) (show t < 20 by omega) (rfl) ?_
  rw [show hI (hp L I J w) 213 t = bo01 (sOf S t) from ho]
  iterate 1 (refine WP.st rfl ?_)
  by_cases e : sOf S t = bo
  · rw [if_pos e]
    refine WP.icf rfl (show ¬ ¬ bo01 (sOf S t) = bo01 bo by rw [e]; exact fun k => k rfl) ?_
    iterate 1 (refine WP.st rfl ?_)
    exact WP.ret rfl ⟨rfl, I, J, FR.refl _ _ _ _, h, rfl⟩
  · rw [if_neg e]
    refine WP.ict rfl (show ¬ bo01 (sOf S t) = bo01 bo from fun k => e ((bo_eq _ _).mp k)) ?_
    iterate 4 (refine WP.st rfl ?_)
    refine WP.bast (k := t) rfl (rfl) (rfl) (show t < 20 by omega) (rfl) (by cases bo; exact Or.inl rfl; exact Or.inr rfl) ?_
    iterate 1 (refine WP.st rfl ?_)
    refine WP.ret rfl ⟨rfl, mm_up I 213 t (bo01 bo), J, fun c hc => ⟨up_ne I _ (by omega), rfl⟩, ?_, rfl⟩
    exact RI_offs h ht (fun c hc => up_ne I _ hc) (fun k hk => up_nk I _ hk) (mm_up_at _ _ _ _)
theorem m_takeOff (L : Nat) (I : Nat → Nat → Int32) (J : Nat → Nat → Int64) (w : Nat → Nat) (S : St) (h : RI I J S) (t : Int32) (bo : Bool) : MM L I J w m_Mo_takeOff [.int t, .int (bo01 bo)] (.int (oOff S t bo).1) (oOff S t bo).2 := by
  unfold MM SP oOff
  iterate 2 (refine WP.st rfl ?_)
  refine WP.calle rfl rfl (ev_misTelling L I J w (sTl S) h.2.1.2.1 h.2.1.1 t) ?_
  refine WP.bn rfl (fun z => ?_) (fun z => ?_)
  · rw [if_pos z]
    obtain ⟨k, hk, rfl⟩ := rg_nI z
    have q2 := h.2.1.2.1
    rw [nI_toInt (by omega), Int.toNat_natCast]
    exact mo_a L I J w S h k hk bo
  · rw [if_neg z]
    iterate 1 (refine WP.st rfl ?_)
    exact WP.ret rfl ⟨rfl, I, J, FR.refl _ _ _ _, h, rfl⟩
