theorem rowOK_put {n : Nat} {nm : Nat → Nat} {fc row : Nat → Int} (h : rowOK n nm fc row) (hn : n < 4) {a : Nat} {b : Int32} (ha : a < 16) (hb : b ≠ 0) (hb3 : wi b 3) (h0 : row a = 0) : rowOK (n + 1) (upT nm n a) (upT fc n b.toInt) (upT row a b.toInt) := by
  obtain ⟨t2, t3, t5, t6, t7⟩ := h
  exact tT_row (tT_put (I := fun c k => if c = 0 then (if k = 0 then zI (row 16) else nI n) else if c = 1 then nI (nm k) else zI (fc k)) (s := 0) ⟨rfl, t2, t3, rfl, fun k hk => ⟨rfl, (t5 k hk).1, rfl, (t5 k hk).2⟩, t6, t7⟩ hn ha hb hb3 h0)
theorem mf_a (L : Nat) (I : Nat → Nat → Int32) (J : Nat → Nat → Int64) (w : Nat → Nat) (t a b : Int32) (P : Nat) (hP : P ≤ 8) (h : I 208 0 = nI P) (Q : Option Value → MH → Prop) (k0 : ¬ rg a (2 * P : Nat) → WP m_Mo_termOf (50, [some (.ref 208), some (.int t), some (.int a), some (.int b)], [], hp L I J w, 0, 0) Q) (k1 : rg a (2 * P : Nat) → WP m_Mo_termOf (18, [some (.ref 208), some (.int t), some (.int a), some (.int b)], [], hp L I J w, 0, 0) Q) : WP m_Mo_termOf (0, [some (.ref 208), some (.int t), some (.int a), some (.int b)], [], hp L I J w, 0, 0) Q := by
  iterate 5 (refine WP.st rfl ?_)
  refine WP.get (v := .int (nI P)) rfl rfl (rfl) (congrArg Value.int h) ?_
  iterate 4 (refine WP.st rfl ?_)
  rw [ix2, m1_long (by omega)]
  refine WP.calle rfl rfl (ev_inR (hp L I J w) a 0 (((2 * P : Nat) : Int) - 1) (by decide) (by decide) (by omega) (by omega)) ?_
  rw [rg_in]
  exact WP.bz rfl k0 k1
set_option maxHeartbeats 4000000 in
set_option maxRecDepth 20000 in
theorem mf_d (L : Nat) (I : Nat → Nat → Int32) (J : Nat → Nat → Int64) (w : Nat → Nat) (S : St) (h : RI I J S) (t a : Nat) (ht : t = 20 ∨ t < sTl S) (ha : a < 16) (b : Int32) (z2 : b ≠ 0) (z3 : wi b 3) (z4 : sT S t a = 0) (hR : rR I t (sTn S t) (sNm S t) (sFc S t) (sT S t)) : WP m_Mo_termOf (53, [some (.ref 208), some (.int (nI t)), some (.int (nI a)), some (.int b)], [], hp L I J w, 0, 0) (fun v h => v = some (.int (if sTn S t = 4 then ((-4 : Int32), S) else (nI (sTn S t + 1), stT S (sTl S) t (upT (sT S t) a b.toInt) (sTn S t + 1) (upT (sNm S t) (sTn S t) a) (upT (sFc S t) (sTn S t) b.toInt))).1) ∧ ∃ (I' : Nat → Nat → Int32) (J' : Nat → Nat → Int64), FR 208 228 I J I' J' ∧ RI I' J' (if sTn S t = 4 then ((-4 : Int32), S) else (nI (sTn S t + 1), stT S (sTl S) t (upT (sT S t) a b.toInt) (sTn S t + 1) (upT (sNm S t) (sTn S t) a) (upT (sFc S t) (sTn S t) b.toInt))).2 ∧ h = hp L I' J' w) := by
  have q2 := h.2.1.2.1
  obtain ⟨r1, r2, r3, r4⟩ := hR
  have rn := r4.2.1
  iterate 3 (refine WP.st rfl ?_)
  refine WP.iald (k := t) rfl (rfl) (Or.inl rfl) (show t < 21 by omega) (rfl) ?_
  rw [show hI (hp L I J w) 211 t = nI (sTn S t) from r2]
  iterate 1 (refine WP.st rfl ?_)
  by_cases e : sTn S t = 4
  · rw [if_pos e]
    refine WP.icf rfl (show ¬ ¬ nI (sTn S t) = nI 4 by rw [e]; exact fun k => k rfl) ?_
    iterate 1 (refine WP.st rfl ?_)
    exact WP.ret rfl ⟨rfl, I, J, FR.refl _ _ _ _, h, rfl⟩
  · rw [if_neg e]
    refine WP.ict rfl (show ¬ nI (sTn S t) = nI 4 from fun k => e ((nI_eq (by omega) (by omega)).mp k)) ?_
    iterate 8 (refine WP.st rfl ?_)
    refine WP.iald (k := t) rfl (rfl) (Or.inl rfl) (show t < 21 by omega) (rfl) ?_
    rw [show hI (hp L I J w) 211 t = nI (sTn S t) from r2]
    iterate 2 (refine WP.st rfl ?_)
    refine WP.iast (k := 4 * t + sTn S t) rfl (jx4 _ _) (rfl) (show 4 * t + sTn S t < 84 by omega) (rfl) ?_
    iterate 8 (refine WP.st rfl ?_)
    refine WP.iald (k := t) rfl (rfl) (Or.inl rfl) (show t < 21 by omega) (rfl) ?_
    rw [show hI (hp L (mm_up I 212 (4 * t + sTn S t) (nI a)) J w) 211 t = nI (sTn S t) from by show mm_up I 212 (4 * t + sTn S t) (nI a) 211 t = _; rw [up_ne I _ (by decide)]; exact r2]
    iterate 2 (refine WP.st rfl ?_)
    refine WP.iast (k := 4 * t + sTn S t) rfl (jx4 _ _) (rfl) (show 4 * t + sTn S t < 84 by omega) (rfl) ?_
    iterate 8 (refine WP.st rfl ?_)
    refine WP.iast (k := 17 * t + a) rfl (ix17 _ _) (rfl) (show 17 * t + a < 391 by omega) (rfl) ?_
    iterate 4 (refine WP.st rfl ?_)
    refine WP.iald (k := t) rfl (rfl) (Or.inl rfl) (show t < 21 by omega) (rfl) ?_
    show WP m_Mo_termOf (117, [some (.ref 208), some (.int (nI t)), some (.int (nI a)), some (.int b)], [.int (mm_up (mm_up (mm_up I 212 (4 * t + sTn S t) (nI a)) 213 (4 * t + sTn S t) b) 210 (17 * t + a) b 211 t), .int (nI t), .ref 211], hp L (mm_up (mm_up (mm_up I 212 (4 * t + sTn S t) (nI a)) 213 (4 * t + sTn S t) b) 210 (17 * t + a) b) J w, 0, 0) _
    generalize hU : mm_up (mm_up (mm_up I 212 (4 * t + sTn S t) (nI a)) 213 (4 * t + sTn S t) b) 210 (17 * t + a) b = U
    have u0 : ∀ c, c ≠ 210 → c ≠ 212 → c ≠ 213 → U c = I c := fun c c1 c2 c3 => by rw [← hU, up_ne _ _ c1, up_ne _ _ c3, up_ne I _ c2]
    have u9 : ∀ k, U 210 k = if k = 17 * t + a then b else I 210 k := fun k => by
      rw [← hU]
      by_cases z : k = 17 * t + a
      · rw [if_pos z, z, mm_up_at]
      · rw [if_neg z, up_nk _ _ z, up_ne _ _ (by decide), up_ne I _ (by decide)]
    have u11 : ∀ k, U 212 k = if k = 4 * t + sTn S t then nI a else I 212 k := fun k => by
      rw [← hU, up_ne _ _ (by decide), up_ne _ _ (by decide)]
      by_cases z : k = 4 * t + sTn S t
      · rw [if_pos z, z, mm_up_at]
      · rw [if_neg z, up_nk I _ z]
    have u12 : ∀ k, U 213 k = if k = 4 * t + sTn S t then b else I 213 k := fun k => by
      rw [← hU, up_ne _ _ (by decide)]
      by_cases z : k = 4 * t + sTn S t
      · rw [if_pos z, z, mm_up_at]
      · rw [if_neg z, up_nk _ _ z, up_ne I _ (by decide)]
    rw [show U 211 t = nI (sTn S t) from by rw [u0 211 (by decide) (by decide) (by decide)]; exact r2]
    iterate 2 (refine WP.st rfl ?_)
    refine WP.iast (k := t) rfl (rfl) (rfl) (show t < 21 by omega) (rfl) ?_
    iterate 3 (refine WP.st rfl ?_)
    refine WP.iald (k := t) rfl (rfl) (Or.inl rfl) (show t < 21 by omega) (rfl) ?_
    have e4 : mm_up U 211 t (nI (sTn S t) + Int32.ofInt 1) 211 t = nI (sTn S t + 1) := by rw [mm_up_at]; exact nI_1 _
    have w0 : ∀ c, c ≠ 211 → mm_up U 211 t (nI (sTn S t) + Int32.ofInt 1) c = U c := fun c hc => up_ne U _ hc
    refine WP.ret rfl ⟨congrArg (fun z => some (Value.int z)) e4, mm_up U 211 t (nI (sTn S t) + Int32.ofInt 1), J, fun c hc => ⟨(w0 c (by omega)).trans (u0 c (by omega) (by omega) (by omega)), rfl⟩, ?_, rfl⟩
    refine RI_row h (by omega) (fun k _ => by rw [w0 208 (by decide), u0 208 (by decide) (by decide) (by decide)]) (by rw [w0 208 (by decide), u0 208 (by decide) (by decide) (by decide)]; exact h.2.1.1) q2 (Nat.le_refl _) (fun j hj => Or.inr hj) (fun c _ c2 c3 c4 c5 => (w0 c c3).trans (u0 c c2 c4 c5)) (fun j c hj hc => by rw [w0 210 (by decide), u9, if_neg (by omega)]) (fun j hj => by rw [up_nk U _ hj, u0 211 (by decide) (by decide) (by decide)]) (fun j k hj hk => by rw [w0 212 (by decide), w0 213 (by decide), u11, u12, if_neg (by omega), if_neg (by omega)]; exact ⟨rfl, rfl⟩) ⟨fun c hc => ?_, by rw [mm_up_at]; exact nI_1 _, fun k hk => ?_, rowOK_put r4 (by omega) ha z2 z3 z4⟩
    · rw [w0 210 (by decide), u9]
      by_cases z : c = a
      · rw [if_pos (by omega), z, upT_at]; exact zI_of b
      · rw [if_neg (by omega), upT_ne _ _ z]; exact r1 c hc
    · rw [w0 212 (by decide), w0 213 (by decide), u11, u12]
      by_cases z : k = sTn S t
      · rw [if_pos (by omega), if_pos (by omega), z, upT_at, upT_at]; exact ⟨rfl, zI_of b⟩
      · rw [if_neg (by omega), if_neg (by omega), upT_ne _ _ z, upT_ne _ _ z]; exact r3 k (by omega)
