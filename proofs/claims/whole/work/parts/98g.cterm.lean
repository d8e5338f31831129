/-! a term put to a row -/
abbrev okT (P : Nat) (row : Nat → Int) (a b : Int32) : Prop := rg a (2 * P : Nat) ∧ b ≠ 0 ∧ wi b 3 ∧ row a.toInt.toNat = 0
theorem ev_timesT (L : Nat) (I : Nat → Nat → Int32) (J : Nat → Nat → Int64) (w : Nat → Nat) (s : Nat) (hs : isSum s) {n : Nat} {nm : Nat → Nat} {fc row : Nat → Int} (hT : tT I s n nm fc row) (a : Nat) (ha : a < 16) : EV m_Su_timesOf [.ref s, .int (nI a)] (hp L I J w) (some (.int (zI (row a)))) (hp L I J w) := by
  obtain ⟨t1, t2, t3, t4, t5, t6, t7⟩ := hT
  refine ev_timesOf L I J w s hs (nI a) n t3 t4 _ (fun i hi e _ => ?_) (fun h => ?_)
  · have q := t5 i hi
    have : nm i = a := (nI_eq (by omega) (by omega)).mp (q.1.symm.trans e)
    rw [q.2.2.1, ← q.2.2.2.2.2.2, this]
  · rw [t7 a ha (fun k hk e => h k hk (by rw [(t5 k hk).1, e]))]; rfl
theorem tT_put {I : Nat → Nat → Int32} {s n : Nat} {nm : Nat → Nat} {fc row : Nat → Int} (hT : tT I s n nm fc row) (hn : n < 4) {a : Nat} {b : Int32} (ha : a < 16) (hb : b ≠ 0) (hb3 : wi b 3) (h0 : row a = 0) : tT (sm_put I s n (nI a) b) s (n + 1) (upT nm n a) (upT fc n b.toInt) (upT row a b.toInt) := by
  obtain ⟨t1, t2, t3, t4, t5, t6, t7⟩ := hT
  have na : ∀ k, k < n → nm k ≠ a := fun k hk e => (t5 k hk).2.2.2.1 (by rw [← (t5 k hk).2.2.2.2.2.2, e]; exact h0)
  have e0 : sm_put I s n (nI a) b s 0 = I s 0 := by unfold sm_put; rw [up_nk _ _ (by decide), up_ne _ _ (by omega), up_ne I _ (by omega)]
  have e1 : ∀ k, sm_put I s n (nI a) b (s + 1) k = if k = n then nI a else I (s + 1) k := fun k => by
    unfold sm_put
    rw [up_ne _ _ (by omega), up_ne _ _ (by omega)]
    by_cases z : k = n
    · rw [if_pos z, z, mm_up_at]
    · rw [if_neg z, up_nk _ _ z]
  have e2 : ∀ k, sm_put I s n (nI a) b (s + 2) k = if k = n then b else I (s + 2) k := fun k => by
    unfold sm_put
    rw [up_ne _ _ (by omega)]
    by_cases z : k = n
    · rw [if_pos z, z, mm_up_at]
    · rw [if_neg z, up_nk _ _ z, up_ne I _ (by omega)]
  have hb0 : b.toInt ≠ 0 := fun e => hb (by rw [zI_of b, e]; rfl)
  refine ⟨?_, ?_, by omega, by unfold sm_put; rw [mm_up_at], fun k hk => ?_, fun j k hj hk => ?_, fun c hc hk => ?_⟩
  · rw [e0, upT_ne _ _ (by omega)]; exact t1
  · rw [upT_ne _ _ (by omega)]; exact t2
  · rw [e1, e2]
    by_cases z : k = n
    · subst z
      rw [if_pos rfl, if_pos rfl, upT_at, upT_at, upT_at]
      exact ⟨rfl, ha, zI_of b, hb0, hb3.1, hb3.2, rfl⟩
    · rw [if_neg z, if_neg z, upT_ne _ _ z, upT_ne _ _ z, upT_ne _ _ (na k (by omega))]
      exact t5 k (by omega)
  · by_cases z : k = n
    · rw [upT_ne _ _ (by omega), z, upT_at]; exact na j (by omega)
    · rw [upT_ne _ _ (by omega), upT_ne _ _ z]; exact t6 j k hj (by omega)
  · have q := hk n (by omega)
    rw [upT_at] at q
    rw [upT_ne _ _ (Ne.symm q)]
    refine t7 c hc (fun k hkn => ?_)
    have := hk k (by omega)
    rw [upT_ne _ _ (by omega)] at this
    exact this
theorem cp_a (L : Nat) (I : Nat → Nat → Int32) (J : Nat → Nat → Int64) (w : Nat → Nat) (s : Nat) (a b : Int32) (P : Nat) (p2 : P ≤ 8) (p1 : I 2 1 = nI P) (Q : Option Value → MH → Prop) (k0 : ¬ rg a (2 * P : Nat) → WP m_DT_putTerm (28, [some (.ref 2), some (.ref s), some (.int a), some (.int b)], [], hp L I J w, 0, 0) Q) (k1 : rg a (2 * P : Nat) → WP m_DT_putTerm (8, [some (.ref 2), some (.ref s), some (.int a), some (.int b)], [], hp L I J w, 0, 0) Q) : WP m_DT_putTerm (0, [some (.ref 2), some (.ref s), some (.int a), some (.int b)], [], hp L I J w, 0, 0) Q := by
  iterate 2 (refine WP.st rfl ?_)
  refine WP.calle rfl rfl (ev_isNumber L I J w P p2 p1 a) ?_
  exact WP.bz rfl k0 k1
theorem cp_b (L : Nat) (I : Nat → Nat → Int32) (J : Nat → Nat → Int64) (w : Nat → Nat) (s : Nat) (a b : Int32) (Q : Option Value → MH → Prop) (k0 : ¬ (b ≠ 0 ∧ wi b 3) → WP m_DT_putTerm (28, [some (.ref 2), some (.ref s), some (.int a), some (.int b)], [], hp L I J w, 0, 0) Q) (k1 : b ≠ 0 → wi b 3 → WP m_DT_putTerm (20, [some (.ref 2), some (.ref s), some (.int a), some (.int b)], [], hp L I J w, 0, 0) Q) : WP m_DT_putTerm (8, [some (.ref 2), some (.ref s), some (.int a), some (.int b)], [], hp L I J w, 0, 0) Q := by
  iterate 1 (refine WP.st rfl ?_)
  by_cases z : b = 0
  · refine WP.ift rfl (z) ?_
    exact k0 (fun k => k.1 z)
  · skip
    refine WP.iff rfl (z) ?_
    iterate 2 (refine WP.st rfl ?_)
    refine WP.calle rfl rfl (ev_within (hp L I J w) b 3 (by omega) (by omega)) ?_
    exact WP.bz rfl (fun y => k0 (fun k => y k.2)) (fun y => k1 z y)
theorem cp_c (L : Nat) (I : Nat → Nat → Int32) (J : Nat → Nat → Int64) (w : Nat → Nat) (s : Nat) (hs : isSum s) {n : Nat} {nm : Nat → Nat} {fc row : Nat → Int} (hT : tT I s n nm fc row) (a : Nat) (ha : a < 16) (b : Int32) (Q : Option Value → MH → Prop) (k0 : ¬ row a = 0 → WP m_DT_putTerm (28, [some (.ref 2), some (.ref s), some (.int (nI a)), some (.int b)], [], hp L I J w, 0, 0) Q) (k1 : row a = 0 → WP m_DT_putTerm (31, [some (.ref 2), some (.ref s), some (.int (nI a)), some (.int b)], [], hp L I J w, 0, 0) Q) (hr : -3 ≤ row a ∧ row a ≤ 3) : WP m_DT_putTerm (20, [some (.ref 2), some (.ref s), some (.int (nI a)), some (.int b)], [], hp L I J w, 0, 0) Q := by
  iterate 2 (refine WP.st rfl ?_)
  refine WP.cve rfl rfl rfl rfl rfl (hs.1) rfl rfl rfl (ev_timesT L I J w s hs hT a ha) ?_
  by_cases z : row a = 0
  · refine WP.ift rfl (show zI (row a) = 0 by rw [z]; rfl) ?_
    exact k1 z
  · skip
    refine WP.iff rfl (show ¬ zI (row a) = 0 from fun e => z ((zI_eq (a := row a) (b := 0) (by omega) (by omega) (by omega) (by omega)).mp e)) ?_
    exact k0 z
theorem row_b {n : Nat} {nm : Nat → Nat} {fc row : Nat → Int} (h : rowOK n nm fc row) {a : Nat} (ha : a < 16) : -3 ≤ row a ∧ row a ≤ 3 := by
  obtain ⟨t2, t3, t5, t6, t7⟩ := h
  by_cases z : ∃ k, k < n ∧ nm k = a
  · obtain ⟨k, hk, e⟩ := z
    have q := t5 k hk
    rw [← e, q.2.2.2.2]
    exact ⟨q.2.2.1, q.2.2.2.1⟩
  · rw [t7 a ha (fun k hk e => z ⟨k, hk, e⟩)]; omega
theorem cp_d (L : Nat) (I : Nat → Nat → Int32) (J : Nat → Nat → Int64) (w : Nat → Nat) (s : Nat) (hs : isSum s) {n : Nat} {nm : Nat → Nat} {fc row : Nat → Int} (hT : tT I s n nm fc row) (a : Nat) (b : Int32) : WP m_DT_putTerm (31, [some (.ref 2), some (.ref s), some (.int (nI a)), some (.int b)], [], hp L I J w, 0, 0) (fun v h => (n = 4 ∧ v = some (.int (-4)) ∧ h = hp L I J w) ∨ (n < 4 ∧ v = some (.int (nI (n + 1))) ∧ h = hp L (sm_put I s n (nI a) b) J w)) := by
  have t3 := hT.2.2.1
  have t4 := hT.2.2.2.1
  iterate 1 (refine WP.st rfl ?_)
  refine WP.get (v := .int (nI n)) rfl rfl (hs.1) (congrArg Value.int t4) ?_
  iterate 1 (refine WP.st rfl ?_)
  by_cases e : n = 4
  · refine WP.icf rfl (show ¬ nI n < nI 4 from nI_nlt (by omega) (by omega)) ?_
    iterate 1 (refine WP.st rfl ?_)
    exact WP.ret rfl (Or.inl ⟨e, rfl, rfl⟩)
  · skip
    refine WP.ict rfl (show nI n < nI 4 from nI_lt (by omega) (by omega)) ?_
    iterate 3 (refine WP.st rfl ?_)
    refine WP.cve rfl rfl rfl rfl rfl (hs.1) rfl rfl rfl (ev_put L I J w s hs (nI a) b n (by omega) t4) ?_
    have q : sm_put I s n (nI a) b s 1 = nI (n + 1) := by unfold sm_put; rw [mm_up_at]
    iterate 1 (refine WP.st rfl ?_)
    refine WP.get (v := .int (nI (n + 1))) rfl rfl (hs.1) (congrArg Value.int q) ?_
    exact WP.ret rfl (Or.inr ⟨by omega, rfl, rfl⟩)
theorem sp_putTerm (L : Nat) (I : Nat → Nat → Int32) (J : Nat → Nat → Int64) (w : Nat → Nat) (s : Nat) (hs : isSum s) {n : Nat} {nm : Nat → Nat} {fc row : Nat → Int} (hT : tT I s n nm fc row) (P : Nat) (p2 : P ≤ 8) (p1 : I 2 1 = nI P) (a b : Int32) : SP m_DT_putTerm [.ref 2, .ref s, .int a, .int b] (hp L I J w) (fun v h => (¬ okT P row a b ∧ v = some (.int (-2)) ∧ h = hp L I J w) ∨ (okT P row a b ∧ n = 4 ∧ v = some (.int (-4)) ∧ h = hp L I J w) ∨ (okT P row a b ∧ n < 4 ∧ v = some (.int (nI (n + 1))) ∧ h = hp L (sm_put I s n a b) J w)) := by
  unfold SP
  have bad : ¬ okT P row a b → WP m_DT_putTerm (28, [some (.ref 2), some (.ref s), some (.int a), some (.int b)], [], hp L I J w, 0, 0) (fun v h => (¬ okT P row a b ∧ v = some (.int (-2)) ∧ h = hp L I J w) ∨ (okT P row a b ∧ n = 4 ∧ v = some (.int (-4)) ∧ h = hp L I J w) ∨ (okT P row a b ∧ n < 4 ∧ v = some (.int (nI (n + 1))) ∧ h = hp L (sm_put I s n a b) J w)) := fun z => by
    iterate 1 (refine WP.st rfl ?_)
    exact WP.ret rfl (Or.inl ⟨z, rfl, rfl⟩)
  refine cp_a L I J w s a b P p2 p1 _ (fun z => bad (fun k => z k.1)) (fun z => cp_b L I J w s a b _ (fun z2 => bad (fun k => z2 ⟨k.2.1, k.2.2.1⟩)) (fun z2 z3 => ?_))
  obtain ⟨a, ha, rfl⟩ := rg_nI z
  have ea : (nI a).toInt.toNat = a := by rw [nI_toInt (by omega), Int.toNat_natCast]
  refine cp_c L I J w s hs hT a (by omega) b _ (fun z4 => bad (fun k => z4 (by have := k.2.2.2; rw [ea] at this; exact this))) (fun z4 => ?_) (row_b (tT_row hT) (by omega))
  have ok : okT P row (nI a) b := ⟨z, z2, z3, by rw [ea]; exact z4⟩
  refine WP.mono (cp_d L I J w s hs hT a b) ?_
  rintro v h (⟨q1, q2, q3⟩ | ⟨q1, q2, q3⟩)
  · exact Or.inr (Or.inl ⟨ok, q1, q2, q3⟩)
  · exact Or.inr (Or.inr ⟨ok, q1, q2, q3⟩)
/-- what a term does to the state: row t, in a state of N tellings -/
def oPut (S : St) (t : Nat) (a b : Int32) : Int32 × St := if okT (sPt S) (sT S t) a b then (if sTn S t = 4 then (-4, S) else (nI (sTn S t + 1), stT S (sTl S) t (upT (sT S t) a.toInt.toNat b.toInt) (sTn S t + 1) (upT (sNm S t) (sTn S t) a.toInt.toNat) (upT (sFc S t) (sTn S t) b.toInt))) else (-2, S)
theorem sm_off (I : Nat → Nat → Int32) (s n : Nat) (a b : Int32) {c : Nat} (h0 : c ≠ s) (h1 : c ≠ s + 1) (h2 : c ≠ s + 2) : sm_put I s n a b c = I c := by unfold sm_put; rw [up_ne _ _ h0, up_ne _ _ h2, up_ne I _ h1]
theorem sm_s2 (I : Nat → Nat → Int32) (s n : Nat) (a b : Int32) : sm_put I s n a b s 2 = I s 2 := by unfold sm_put; rw [up_nk _ _ (by decide), up_ne _ _ (by omega), up_ne I _ (by omega)]
theorem c_ask (L : Nat) (I : Nat → Nat → Int32) (J : Nat → Nat → Int64) (w : Nat → Nat) (S : St) (h : CI I J w S) (a b : Int32) : CM L I J w m_DT_ask [.int a, .int b] (.int (oPut S 20 a b).1) (oPut S 20 a b).2 := by
  unfold CM SP oPut
  iterate 5 (refine WP.st rfl ?_)
  refine WP.call rfl rfl (sp_putTerm L I J w 5 isSum_asked h.2.1.2.2.2.2.2.2 (sPt S) h.1.2.1 h.1.1 a b) ?_
  rintro _ _ (⟨z, rfl, rfl⟩ | ⟨z, e, rfl, rfl⟩ | ⟨z, e, rfl, rfl⟩)
  · rw [if_neg z]
    exact WP.ret rfl ⟨rfl, I, J, w, FR.refl _ _ _ _, h, rfl⟩
  · rw [if_pos z, if_pos e]
    exact WP.ret rfl ⟨rfl, I, J, w, FR.refl _ _ _ _, h, rfl⟩
  · rw [if_pos z, if_neg (by omega)]
    obtain ⟨z1, z2, z3, z4⟩ := z
    obtain ⟨a, ha, rfl⟩ := rg_nI z1
    have p2 := h.1.2.1
    have ea : (nI a).toInt.toNat = a := by rw [nI_toInt (by omega), Int.toNat_natCast]
    rw [ea] at z4 ⊢
    have o : ∀ c, c ≠ 5 → c ≠ 6 → c ≠ 7 → sm_put I 5 (sTn S 20) (nI a) b c = I c := fun c c1 c2 c3 => sm_off I 5 _ _ _ c1 c2 c3
    refine WP.ret rfl ⟨rfl, sm_put I 5 (sTn S 20) (nI a) b, J, w, fun c hc => ⟨o c (by omega) (by omega) (by omega), rfl⟩, ?_, rfl⟩
    exact CI_row h (Or.inl ⟨rfl, rfl⟩) (fun k _ => by rw [o 2 (by decide) (by decide) (by decide)]) (by rw [o 2 (by decide) (by decide) (by decide)]; exact h.2.1.1) h.2.1.2.1 (Nat.le_refl _) (fun j hj => Or.inr hj) (fun c _ _ c3 c4 c5 => o c c3 c4 c5) (sm_s2 I 5 _ _ _) (tT_put h.2.1.2.2.2.2.2.2 e (by omega) z2 z3 z4) (JI_same h.2.1.2.2.2.2.2.1 (fun s hs => (upT_ne _ _ (by have := h.2.1.2.1; omega)).symm) (fun c g1 g2 => o c (by omega) (by omega) (by omega)))
