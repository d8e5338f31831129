/-! a term put to a row -/
def okT (P : Nat) (row : Nat → Int) (a b : Int32) : Prop := rg a (2 * P : Nat) ∧ b ≠ 0 ∧ wi b 3 ∧ row a.toInt.toNat = 0
theorem ev_timesT (L : Nat) (I : Nat → Nat → Int32) (J : Nat → Nat → Int64) (w : Nat → Nat) (s : Nat) (hs : isSum s) {n : Nat} {nm : Nat → Nat} {fc row : Nat → Int} (hT : tT I s n nm fc row) (a : Nat) (ha : a < 16) : EV m_Su_timesOf [.ref s, .int (nI a)] (hp L I J w) (some (.int (zI (row a)))) (hp L I J w) := by
  obtain ⟨t1, t2, t3, t4, t5, t6, t7⟩ := hT
  refine ev_timesOf L I J w s hs (nI a) n t3 t4 _ (fun i hi e _ => ?_) (fun h => ?_)
  · have q := t5 i hi
    have : nm i = a := (nI_eq (by omega) (by omega)).mp (q.1.symm.trans e)
    rw [q.2.2.1, ← q.2.2.2.2.2.2, this]
  · rw [t7 a ha (fun k hk e => h k hk (by rw [(t5 k hk).1, e]))]; rfl
theorem tT_put {I : Nat → Nat → Int32} {s n : Nat} {nm : Nat → Nat} {fc row : Nat → Int} (hT : tT I s n nm fc row) (hn : n < 4) {a : Nat} {b : Int32} (ha : a < 16) (hb : b ≠ 0) (hb3 : wi b 3) (h0 : row a = 0) : tT (sm_put I s n (nI a) b) s (n + 1) (upT nm n a) (upT fc n b.toInt) (upT row a b.toInt) := by
  obtain ⟨t1, t2, t3, t4, t5, t6, t7⟩ := hT
  have na : ∀ k, k < n → nm k ≠ a := fun k hk e => (t5 k hk).2.2.2.1 (by rw [← (t5 k hk).2.2.2.2.2.2, e]; exact h0)
  have e0 : sm_put I s n (nI a) b s 0 = I s 0 := by unfold sm_put; rw [up_nk _ _ (by decide), up_ne _ _ (by omega), up_ne I _ (by omega)]
  have e1 : ∀ k, sm_put I s n (nI a) b (s + 1) k = if k = n then nI a else I (s + 1) k := fun k => by
    unfold sm_put
    rw [up_ne _ _ (by omega), up_ne _ _ (by omega)]
    by_cases z : k = n
    · rw [if_pos z, z, mm_up_at]
    · rw [if_neg z, up_nk _ _ z]
  have e2 : ∀ k, sm_put I s n (nI a) b (s + 2) k = if k = n then b else I (s + 2) k := fun k => by
    unfold sm_put
    rw [up_ne _ _ (by omega)]
    by_cases z : k = n
    · rw [if_pos z, z, mm_up_at]
    · rw [if_neg z, up_nk _ _ z, up_ne I _ (by omega)]
  have hb0 : b.toInt ≠ 0 := fun e => hb (by rw [zI_of b, e]; rfl)
  refine ⟨?_, ?_, by omega, by unfold sm_put; rw [mm_up_at], fun k hk => ?_, fun j k hj hk => ?_, fun c hc hk => ?_⟩
  · rw [e0, upT_ne _ _ (by omega)]; exact t1
  · rw [upT_ne _ _ (by omega)]; exact t2
  · rw [e1, e2]
    by_cases z : k = n
    · subst z
      rw [if_pos rfl, if_pos rfl, upT_at, upT_at, upT_at]
      exact ⟨rfl, ha, zI_of b, hb0, hb3.1, hb3.2, rfl⟩
    · rw [if_neg z, if_neg z, upT_ne _ _ z, upT_ne _ _ z, upT_ne _ _ (na k (by omega))]
      exact t5 k (by omega)
  · by_cases z : k = n
    · rw [upT_ne _ _ (by omega), z, upT_at]; exact na j (by omega)
    · rw [upT_ne _ _ (by omega), upT_ne _ _ z]; exact t6 j k hj (by omega)
  · have q := hk n (by omega)
    rw [upT_at] at q
    rw [upT_ne _ _ (Ne.symm q)]
    refine t7 c hc (fun k hkn => ?_)
    have := hk k (by omega)
    rw [upT_ne _ _ (by omega)] at this
    exact this
theorem cp_a (L : Nat) (I : Nat → Nat → Int32) (J : Nat → Nat → Int64) (w : Nat → Nat) (s : Nat) (a b : Int32) (P : Nat) (p2 : P ≤ 8) (p1 : I 2 1 = nI P) (Q : Option Value → MH → Prop) (k0 : ¬ rg a (2 * P : Nat) → WP m_DT_putTerm (28, [some (.ref 2), some (.ref s), some (.int a), some (.int b)], [], hp L I J w, 0, 0) Q) (k1 : rg a (2 * P : Nat) → WP m_DT_putTerm (8, [some (.ref 2), some (.ref s), some (.int a), some (.int b)], [], hp L I J w, 0, 0) Q) : WP m_DT_putTerm (0, [some (.ref 2), some (.ref s), some (.int a), some (.int b)], [], hp L I J w, 0, 0) Q := by
  iterate 2 (refine WP.st rfl ?_)
  refine WP.calle rfl rfl (ev_isNumber L I J w P p2 p1 a) ?_
  exact WP.bz rfl k0 k1
theorem cp_b (L : Nat) (I : Nat → Nat → Int32) (J : Nat → Nat → Int64) (w : Nat → Nat) (s : Nat) (a b : Int32) (Q : Option Value → MH → Prop) (k0 : ¬ (b ≠ 0 ∧ wi b 3) → WP m_DT_putTerm (28, [some (.ref 2), some (.ref s), some (.int a), some (.int b)], [], hp L I J w, 0, 0) Q) (k1 : b ≠ 0 → wi b 3 → WP m_DT_putTerm (20, [some (.ref 2), some (.ref s), some (.int a), some (.int b)], [], hp L I J w, 0, 0) Q) : WP m_DT_putTerm (8, [some (.ref 2), some (.ref s), some (.int a), some (.int b)], [], hp L I J w, 0, 0) Q := by
  iterate 1 (refine WP.st rfl ?_)
  by_cases z : b = 0
  · refine WP.ift rfl (z) ?_
    exact k0 (fun k => k.1 z)
  · skip
    refine WP.iff rfl (z) ?_
    iterate 2 (refine WP.st rfl ?_)
    refine WP.calle rfl rfl (ev_within (hp L I J w) b 3 (by omega) (by omega)) ?_
    exact WP.bz rfl (fun y => k0 (fun k => y k.2)) (fun y => k1 z y)
theorem cp_c (L : Nat) (I : Nat → Nat → Int32) (J : Nat → Nat → Int64) (w : Nat → Nat) (s : Nat) (hs : isSum s) {n : Nat} {nm : Nat → Nat} {fc row : Nat → Int} (hT : tT I s n nm fc row) (a : Nat) (ha : a < 16) (b : Int32) (Q : Option Value → MH → Prop) (k0 : ¬ row a = 0 → WP m_DT_putTerm (28, [some (.ref 2), some (.ref s), some (.int (nI a)), some (.int b)], [], hp L I J w, 0, 0) Q) (k1 : row a = 0 → WP m_DT_putTerm (31, [some (.ref 2), some (.ref s), some (.int (nI a)), some (.int b)], [], hp L I J w, 0, 0) Q) (hr : -3 ≤ row a ∧ row a ≤ 3) : WP m_DT_putTerm (20, [some (.ref 2), some (.ref s), some (.int (nI a)), some (.int b)], [], hp L I J w, 0, 0) Q := by
  iterate 2 (refine WP.st rfl ?_)
  refine WP.cve rfl rfl rfl rfl rfl (hs.1) rfl rfl rfl (ev_timesT L I J w s hs hT a ha) ?_
  by_cases z : row a = 0
  · refine WP.ift rfl (show zI (row a) = 0 by rw [z]; rfl) ?_
    exact k1 z
  · skip
    refine WP.iff rfl (show ¬ zI (row a) = 0 from fun e => z ((zI_eq (a := row a) (b := 0) (by omega) (by omega) (by omega) (by omega)).mp e)) ?_
    exact k0 z
