theorem RI_offs {I I' : Nat → Nat → Int32} {J : Nat → Nat → Int64} {S : St} (h : RI I J S) {t : Nat} {bo : Bool} (ht : t < sTl S) (hoff : ∀ c, c ≠ 214 → I' c = I c) (hk : ∀ k, k ≠ t → I' 214 k = I 214 k) (h2 : I' 214 t = bo01 bo) : RI I' J (stO S (upT (sOf S) t bo)) := by
  obtain ⟨a1, ⟨b1, b2, b3, b4, b5, b6⟩, a3, a4, a5⟩ := h
  have e7 := hoff 208 (by decide)
  have e9 := hoff 210 (by decide)
  have e10 := hoff 211 (by decide)
  have e11 := hoff 212 (by decide)
  have e12 := hoff 213 (by decide)
  have g : ∀ j n nm fc r, rR I j n nm fc r → rR I' j n nm fc r := fun j n nm fc r q => by unfold rR at *; rw [e9, e10, e11, e12]; exact q
  refine ⟨?_, ⟨by rw [e7]; exact b1, b2, fun j hj => g _ _ _ _ _ (b3 j hj), fun j hj => ?_, fun j hj => ?_, g _ _ _ _ _ b6⟩, ?_, ?_, ?_⟩
  · unfold R1 RR8 at *
    rw [e7, hoff 209 (by decide)]; exact a1
  · show I' 214 j = (if upT (sOf S) t bo j = true then 1 else 0)
    by_cases z : j = t
    · rw [z, upT_at]; exact h2
    · rw [upT_ne _ _ z, hk j z]; exact b4 j hj
  · show upT (sOf S) t bo j = false
    have hj' : sTl S ≤ j := hj
    rw [upT_ne _ _ (by omega)]; exact b5 j hj'
  · unfold R3 PM at *
    rw [hoff 219 (by decide)]; exact a3
  · unfold R4 at *
    rw [e7]; exact a4
  · unfold R5 BR BA21 at *
    rw [e7, hoff 216 (by decide), hoff 217 (by decide)]; exact a5
theorem mo_a (L : Nat) (I : Nat → Nat → Int32) (J : Nat → Nat → Int64) (w : Nat → Nat) (S : St) (h : RI I J S) (t : Nat) (ht : t < sTl S) (bo : Bool) : WP m_Mo_takeOff (11, [some (.ref 208), some (.int (nI t)), some (.int (bo01 bo))], [], hp L I J w, 0, 0) (fun v h => v = some (.int (if sOf S t = bo then ((-3 : Int32), S) else (1, stO S (upT (sOf S) t bo))).1) ∧ ∃ (I' : Nat → Nat → Int32) (J' : Nat → Nat → Int64), FR 208 228 I J I' J' ∧ RI I' J' (if sOf S t = bo then ((-3 : Int32), S) else (1, stO S (upT (sOf S) t bo))).2 ∧ h = hp L I' J' w) := by
  have q2 := h.2.1.2.1
  have ho := h.2.1.2.2.2.1 t (by omega)
  iterate 3 (refine WP.st rfl ?_)
  refine WP.bald (k := t) rfl (rfl) (rfl) (show t < 20 by omega) (rfl) ?_
  rw [show hI (hp L I J w) 214 t = bo01 (sOf S t) from ho]
  iterate 1 (refine WP.st rfl ?_)
  by_cases e : sOf S t = bo
  · rw [if_pos e]
    refine WP.icf rfl (show ¬ ¬ bo01 (sOf S t) = bo01 bo by rw [e]; exact fun k => k rfl) ?_
    iterate 1 (refine WP.st rfl ?_)
    exact WP.ret rfl ⟨rfl, I, J, FR.refl _ _ _ _, h, rfl⟩
  · rw [if_neg e]
    refine WP.ict rfl (show ¬ bo01 (sOf S t) = bo01 bo from fun k => e ((bo_eq _ _).mp k)) ?_
    iterate 4 (refine WP.st rfl ?_)
    refine WP.bast (k := t) rfl (rfl) (rfl) (show t < 20 by omega) (rfl) (by cases bo; exact Or.inl rfl; exact Or.inr rfl) ?_
    iterate 1 (refine WP.st rfl ?_)
    refine WP.ret rfl ⟨rfl, mm_up I 214 t (bo01 bo), J, fun c hc => ⟨up_ne I _ (by omega), rfl⟩, ?_, rfl⟩
    exact RI_offs h ht (fun c hc => up_ne I _ hc) (fun k hk => up_nk I _ hk) (mm_up_at _ _ _ _)
theorem m_takeOff (L : Nat) (I : Nat → Nat → Int32) (J : Nat → Nat → Int64) (w : Nat → Nat) (S : St) (h : RI I J S) (t : Int32) (bo : Bool) : MM L I J w m_Mo_takeOff [.int t, .int (bo01 bo)] (.int (oOff S t bo).1) (oOff S t bo).2 := by
  unfold MM SP oOff
  iterate 2 (refine WP.st rfl ?_)
  refine WP.calle rfl rfl (ev_misTelling L I J w (sTl S) h.2.1.2.1 h.2.1.1 t) ?_
  refine WP.bn rfl (fun z => ?_) (fun z => ?_)
  · rw [if_pos z]
    obtain ⟨k, hk, rfl⟩ := rg_nI z
    have q2 := h.2.1.2.1
    rw [nI_toInt (by omega), Int.toNat_natCast]
    exact mo_a L I J w S h k hk bo
  · rw [if_neg z]
    iterate 1 (refine WP.st rfl ?_)
    exact WP.ret rfl ⟨rfl, I, J, FR.refl _ _ _ _, h, rfl⟩
theorem zm3 : zJ (-3) = (-3 : Int64) := by decide
theorem zp3 : zJ 3 = (3 : Int64) := by decide
theorem ev_in3 (h : MH) (x : Int32) : EV m_Mo_in [.long x.toInt64, .long (-3), .long 3] h (some (.int (if wi x 3 then 1 else 0))) h := ev_inC h x (-3) 3 zm3 zp3 (by decide)
theorem mf_b (L : Nat) (I : Nat → Nat → Int32) (J : Nat → Nat → Int64) (w : Nat → Nat) (t a b : Int32) (Q : Option Value → MH → Prop) (k0 : ¬ wi b 3 → WP m_Mo_termOf (50, [some (.ref 208), some (.int t), some (.int a), some (.int b)], [], hp L I J w, 0, 0) Q) (k1 : wi b 3 → WP m_Mo_termOf (32, [some (.ref 208), some (.int t), some (.int a), some (.int b)], [], hp L I J w, 0, 0) Q) : WP m_Mo_termOf (18, [some (.ref 208), some (.int t), some (.int a), some (.int b)], [], hp L I J w, 0, 0) Q := by
  iterate 4 (refine WP.st rfl ?_)
  refine WP.calle rfl rfl (ev_in3 (hp L I J w) b) ?_
  exact WP.bz rfl k0 k1
theorem mf_bad (L : Nat) (I : Nat → Nat → Int32) (J : Nat → Nat → Int64) (w : Nat → Nat) (t a b : Int32) {Q : Option Value → MH → Prop} (k : Q (some (.int (-2))) (hp L I J w)) : WP m_Mo_termOf (50, [some (.ref 208), some (.int t), some (.int a), some (.int b)], [], hp L I J w, 0, 0) Q := by
  iterate 1 (refine WP.st rfl ?_)
  exact WP.ret rfl k
theorem mf_c (L : Nat) (I : Nat → Nat → Int32) (J : Nat → Nat → Int64) (w : Nat → Nat) (t a : Nat) (ht : t ≤ 20) (ha : a < 16) (b : Int32) {n : Nat} {nm : Nat → Nat} {fc row : Nat → Int} (hR : rR I t n nm fc row) (Q : Option Value → MH → Prop) (k0 : ¬ (b ≠ 0 ∧ row a = 0) → WP m_Mo_termOf (50, [some (.ref 208), some (.int (nI t)), some (.int (nI a)), some (.int b)], [], hp L I J w, 0, 0) Q) (k1 : b ≠ 0 → row a = 0 → WP m_Mo_termOf (53, [some (.ref 208), some (.int (nI t)), some (.int (nI a)), some (.int b)], [], hp L I J w, 0, 0) Q) : WP m_Mo_termOf (32, [some (.ref 208), some (.int (nI t)), some (.int (nI a)), some (.int b)], [], hp L I J w, 0, 0) Q := by
  have hb := row_b hR.2.2.2 ha
  iterate 1 (refine WP.st rfl ?_)
  by_cases z : b = 0
  · refine WP.ift rfl (z) ?_
    exact k0 (fun k => k.1 z)
  · skip
    refine WP.iff rfl (z) ?_
    iterate 7 (refine WP.st rfl ?_)
    refine WP.iald (k := 17 * t + a) rfl (ix17 _ _) (Or.inl rfl) (show 17 * t + a < 391 by omega) (rfl) ?_
    rw [show hI (hp L I J w) 210 (17 * t + a) = zI (row a) from hR.1 a (by omega)]
    by_cases y : row a = 0
    · refine WP.ift rfl (show zI (row a) = 0 by rw [y]; rfl) ?_
      exact k1 z y
    · skip
      refine WP.iff rfl (show ¬ zI (row a) = 0 from fun e => y ((zI_eq (a := row a) (b := 0) (by omega) (by omega) (by omega) (by omega)).mp e)) ?_
      exact k0 (fun k => y k.2)
