theorem mp_a (L : Nat) (I : Nat → Nat → Int32) (J : Nat → Nat → Int64) (w : Nat → Nat) (x y : Int32) (Q : Option Value → MH → Prop) (k0 : ¬ wi x 1000 → WP m_Mo_point (28, [some (.ref 208), some (.int x), some (.int y)], [], hp L I J w, 0, 0) Q) (k1 : wi x 1000 → WP m_Mo_point (14, [some (.ref 208), some (.int x), some (.int y)], [], hp L I J w, 0, 0) Q) : WP m_Mo_point (0, [some (.ref 208), some (.int x), some (.int y)], [], hp L I J w, 0, 0) Q := by
  iterate 4 (refine WP.st rfl ?_)
  refine WP.calle rfl rfl (ev_in1000 (hp L I J w) x) ?_
  exact WP.bz rfl k0 k1
theorem mp_b (L : Nat) (I : Nat → Nat → Int32) (J : Nat → Nat → Int64) (w : Nat → Nat) (x y : Int32) (Q : Option Value → MH → Prop) (k0 : ¬ wi y 1000 → WP m_Mo_point (28, [some (.ref 208), some (.int x), some (.int y)], [], hp L I J w, 0, 0) Q) (k1 : wi y 1000 → WP m_Mo_point (31, [some (.ref 208), some (.int x), some (.int y)], [], hp L I J w, 0, 0) Q) : WP m_Mo_point (14, [some (.ref 208), some (.int x), some (.int y)], [], hp L I J w, 0, 0) Q := by
  iterate 4 (refine WP.st rfl ?_)
  refine WP.calle rfl rfl (ev_in1000 (hp L I J w) y) ?_
  exact WP.bn rfl k1 k0
theorem mp_bad (L : Nat) (I : Nat → Nat → Int32) (J : Nat → Nat → Int64) (w : Nat → Nat) (S : St) (h : RI I J S) (x y : Int32) : WP m_Mo_point (28, [some (.ref 208), some (.int x), some (.int y)], [], hp L I J w, 0, 0) (fun v h => v = some (.int (-2)) ∧ ∃ (I' : Nat → Nat → Int32) (J' : Nat → Nat → Int64), FR 208 228 I J I' J' ∧ RI I' J' S ∧ h = hp L I' J' w) := by
  iterate 1 (refine WP.st rfl ?_)
  exact WP.ret rfl ⟨rfl, I, J, FR.refl _ _ _ _, h, rfl⟩
set_option maxHeartbeats 4000000 in
set_option maxRecDepth 20000 in
theorem mp_c (L : Nat) (I : Nat → Nat → Int32) (J : Nat → Nat → Int64) (w : Nat → Nat) (S : St) (h : RI I J S) (x y : Int32) (z : wi x 1000) (z2 : wi y 1000) : WP m_Mo_point (31, [some (.ref 208), some (.int x), some (.int y)], [], hp L I J w, 0, 0) (fun v h => v = some (.int (if sPt S = 8 then ((-4 : Int32), S) else (nI (sPt S), ((sPt S + 1, upR (sRo S) (sPt S) x y), S.2))).1) ∧ ∃ (I' : Nat → Nat → Int32) (J' : Nat → Nat → Int64), FR 208 228 I J I' J' ∧ RI I' J' (if sPt S = 8 then ((-4 : Int32), S) else (nI (sPt S), ((sPt S + 1, upR (sRo S) (sPt S) x y), S.2))).2 ∧ h = hp L I' J' w) := by
  obtain ⟨p1, p2, p3⟩ := h.1
  iterate 1 (refine WP.st rfl ?_)
  refine WP.get (v := .int (nI (sPt S))) rfl rfl (rfl) (congrArg Value.int p1) ?_
  iterate 1 (refine WP.st rfl ?_)
  by_cases e : sPt S = 8
  · rw [if_pos e]
    refine WP.icf rfl (show ¬ ¬ nI (sPt S) = nI 8 by rw [e]; exact fun k => k rfl) ?_
    iterate 1 (refine WP.st rfl ?_)
    exact WP.ret rfl ⟨rfl, I, J, FR.refl _ _ _ _, h, rfl⟩
  · rw [if_neg e]
    refine WP.ict rfl (show ¬ nI (sPt S) = nI 8 from fun k => e ((nI_eq (by omega) (by omega)).mp k)) ?_
    iterate 4 (refine WP.st rfl ?_)
    refine WP.get (v := .int (nI (sPt S))) rfl rfl (rfl) (congrArg Value.int p1) ?_
    iterate 2 (refine WP.st rfl ?_)
    refine WP.iast (k := 2 * sPt S) rfl (ix2 _) (rfl) (show 2 * sPt S < 16 by omega) (rfl) ?_
    have q1 : mm_up I 209 (2 * sPt S) x 208 0 = nI (sPt S) := by rw [up_ne I _ (by decide)]; exact p1
    iterate 4 (refine WP.st rfl ?_)
    refine WP.get (v := .int (nI (sPt S))) rfl rfl (rfl) (congrArg Value.int q1) ?_
    iterate 4 (refine WP.st rfl ?_)
    refine WP.iast (k := 2 * sPt S + 1) rfl (ix21 _) (rfl) (show 2 * sPt S + 1 < 16 by omega) (rfl) ?_
    have q2 : mm_up (mm_up I 209 (2 * sPt S) x) 209 (2 * sPt S + 1) y 208 0 = nI (sPt S) := by rw [up_ne _ _ (by decide)]; exact q1
    iterate 2 (refine WP.st rfl ?_)
    refine WP.get (v := .int (nI (sPt S))) rfl rfl (rfl) (congrArg Value.int q2) ?_
    iterate 3 (refine WP.st rfl ?_)
    have q3 : mm_up (mm_up (mm_up I 209 (2 * sPt S) x) 209 (2 * sPt S + 1) y) 208 0 (nI (sPt S) + 1) 208 0 = nI (sPt S + 1) := by rw [mm_up_at]; exact nI_1 _
    iterate 1 (refine WP.st rfl ?_)
    refine WP.get (v := .int (nI (sPt S + 1))) rfl rfl (rfl) (congrArg Value.int q3) ?_
    iterate 2 (refine WP.st rfl ?_)
    refine WP.ret rfl ⟨by rw [show (nI (sPt S + 1) - Int32.ofInt 1 : Int32) = nI (sPt S) from nI_m1 _], mm_up (mm_up (mm_up I 209 (2 * sPt S) x) 209 (2 * sPt S + 1) y) 208 0 (nI (sPt S) + 1), J, fun c hc => ⟨(up_ne _ _ (by omega)).trans ((up_ne _ _ (by omega)).trans (up_ne I _ (by omega))), rfl⟩, RI_pts h (fun k hk => (up_nk _ _ hk).trans (by rw [up_ne _ _ (by decide), up_ne I _ (by decide)])) (fun c c1 c2 => (up_ne _ _ (by omega)).trans ((up_ne _ _ c2).trans (up_ne I _ c2))) ⟨q3, by show sPt S + 1 ≤ 8; omega, ?_⟩, rfl⟩
    unfold RR8
    rw [up_ne _ _ (show (209 : Nat) ≠ 208 by decide)]
    exact R8_up p3 z z2
theorem m_point (L : Nat) (I : Nat → Nat → Int32) (J : Nat → Nat → Int64) (w : Nat → Nat) (S : St) (h : RI I J S) (x y : Int32) : MM L I J w m_Mo_point [.int x, .int y] (.int (oPoint S x y).1) (oPoint S x y).2 := by
  unfold MM SP oPoint
  refine mp_a L I J w x y _ (fun z => ?_) (fun z => mp_b L I J w x y _ (fun z2 => ?_) (fun z2 => ?_))
  · rw [if_neg (fun k => z k.1)]; exact mp_bad L I J w S h x y
  · rw [if_neg (fun k => z2 k.2)]; exact mp_bad L I J w S h x y
  · rw [if_pos ⟨z, z2⟩]; exact mp_c L I J w S h x y z z2
theorem mr_a (L : Nat) (I : Nat → Nat → Int32) (J : Nat → Nat → Int64) (w : Nat → Nat) (P : Nat) (p2 : P ≤ 8) (p1 : I 208 0 = nI P) (p x y : Int32) (Q : Option Value → MH → Prop) (k0 : ¬ rg p P → WP m_Mo_rough (36, [some (.ref 208), some (.int p), some (.int x), some (.int y)], [], hp L I J w, 0, 0) Q) (k1 : rg p P → WP m_Mo_rough (8, [some (.ref 208), some (.int p), some (.int x), some (.int y)], [], hp L I J w, 0, 0) Q) : WP m_Mo_rough (0, [some (.ref 208), some (.int p), some (.int x), some (.int y)], [], hp L I J w, 0, 0) Q := by
  iterate 2 (refine WP.st rfl ?_)
  refine WP.calle rfl rfl (ev_misPoint L I J w P p2 p1 p) ?_
  exact WP.bz rfl k0 k1
theorem mr_b (L : Nat) (I : Nat → Nat → Int32) (J : Nat → Nat → Int64) (w : Nat → Nat) (p x y : Int32) (Q : Option Value → MH → Prop) (k0 : ¬ wi x 1000 → WP m_Mo_rough (36, [some (.ref 208), some (.int p), some (.int x), some (.int y)], [], hp L I J w, 0, 0) Q) (k1 : wi x 1000 → WP m_Mo_rough (22, [some (.ref 208), some (.int p), some (.int x), some (.int y)], [], hp L I J w, 0, 0) Q) : WP m_Mo_rough (8, [some (.ref 208), some (.int p), some (.int x), some (.int y)], [], hp L I J w, 0, 0) Q := by
  iterate 4 (refine WP.st rfl ?_)
  refine WP.calle rfl rfl (ev_in1000 (hp L I J w) x) ?_
  exact WP.bz rfl k0 k1
theorem mr_c (L : Nat) (I : Nat → Nat → Int32) (J : Nat → Nat → Int64) (w : Nat → Nat) (p x y : Int32) (Q : Option Value → MH → Prop) (k0 : ¬ wi y 1000 → WP m_Mo_rough (36, [some (.ref 208), some (.int p), some (.int x), some (.int y)], [], hp L I J w, 0, 0) Q) (k1 : wi y 1000 → WP m_Mo_rough (39, [some (.ref 208), some (.int p), some (.int x), some (.int y)], [], hp L I J w, 0, 0) Q) : WP m_Mo_rough (22, [some (.ref 208), some (.int p), some (.int x), some (.int y)], [], hp L I J w, 0, 0) Q := by
  iterate 4 (refine WP.st rfl ?_)
  refine WP.calle rfl rfl (ev_in1000 (hp L I J w) y) ?_
  exact WP.bn rfl k1 k0
theorem mr_bad (L : Nat) (I : Nat → Nat → Int32) (J : Nat → Nat → Int64) (w : Nat → Nat) (S : St) (h : RI I J S) (p x y : Int32) : WP m_Mo_rough (36, [some (.ref 208), some (.int p), some (.int x), some (.int y)], [], hp L I J w, 0, 0) (fun v h => v = some (.int (-2)) ∧ ∃ (I' : Nat → Nat → Int32) (J' : Nat → Nat → Int64), FR 208 228 I J I' J' ∧ RI I' J' S ∧ h = hp L I' J' w) := by
  iterate 1 (refine WP.st rfl ?_)
  exact WP.ret rfl ⟨rfl, I, J, FR.refl _ _ _ _, h, rfl⟩
set_option maxHeartbeats 4000000 in
set_option maxRecDepth 20000 in
theorem mr_d (L : Nat) (I : Nat → Nat → Int32) (J : Nat → Nat → Int64) (w : Nat → Nat) (S : St) (h : RI I J S) (k : Nat) (hk : k < sPt S) (x y : Int32) (z2 : wi x 1000) (z3 : wi y 1000) : WP m_Mo_rough (39, [some (.ref 208), some (.int (nI k)), some (.int x), some (.int y)], [], hp L I J w, 0, 0) (fun v h => v = some (.int 1) ∧ ∃ (I' : Nat → Nat → Int32) (J' : Nat → Nat → Int64), FR 208 228 I J I' J' ∧ RI I' J' ((sPt S, upR (sRo S) k x y), S.2) ∧ h = hp L I' J' w) := by
  obtain ⟨p1, p2, p3⟩ := h.1
  iterate 6 (refine WP.st rfl ?_)
  refine WP.iast (k := 2 * k) rfl (ix2 _) (rfl) (show 2 * k < 16 by omega) (rfl) ?_
  iterate 8 (refine WP.st rfl ?_)
  refine WP.iast (k := 2 * k + 1) rfl (ix21 _) (rfl) (show 2 * k + 1 < 16 by omega) (rfl) ?_
  iterate 1 (refine WP.st rfl ?_)
  exact WP.ret rfl ⟨rfl, mm_up (mm_up I 209 (2 * k) x) 209 (2 * k + 1) y, J, fun c hc => ⟨(up_ne _ _ (by omega)).trans (up_ne I _ (by omega)), rfl⟩, RI_pts h (fun j _ => by rw [up_ne _ _ (by decide), up_ne I _ (by decide)]) (fun c _ c2 => (up_ne _ _ c2).trans (up_ne I _ c2)) ⟨by rw [up_ne _ _ (by decide), up_ne I _ (by decide)]; exact p1, p2, R8_up p3 z2 z3⟩, rfl⟩
theorem m_rough (L : Nat) (I : Nat → Nat → Int32) (J : Nat → Nat → Int64) (w : Nat → Nat) (S : St) (h : RI I J S) (p x y : Int32) : MM L I J w m_Mo_rough [.int p, .int x, .int y] (.int (oRough S p x y).1) (oRough S p x y).2 := by
  unfold MM SP oRough
  refine mr_a L I J w _ h.1.2.1 h.1.1 p x y _ (fun z => ?_) (fun z => mr_b L I J w p x y _ (fun z2 => ?_) (fun z2 => mr_c L I J w p x y _ (fun z3 => ?_) (fun z3 => ?_)))
  · rw [if_neg (fun k => z k.1)]; exact mr_bad L I J w S h p x y
  · rw [if_neg (fun k => z2 k.2.1)]; exact mr_bad L I J w S h p x y
  · rw [if_neg (fun k => z3 k.2.2)]; exact mr_bad L I J w S h p x y
  · rw [if_pos ⟨z, z2, z3⟩]
    obtain ⟨k, hk, rfl⟩ := rg_nI z
    rw [nI_toInt (by have := h.1.2.1; omega), Int.toNat_natCast]
    exact mr_d L I J w S h k hk x y z2 z3
