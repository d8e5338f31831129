noncomputable def fin (f : Nat → Nat → Prop) (x : Int32) (a : Nat) : Nat → Nat → Nat → Option Int32 × Nat
  | 0, _, n => (none, n)
  | d + 1, b, n => if bI (f a b) = 0 then (if nI n = x then (some (Int32.ofInt 10 * nI a + nI b), n) else fin f x a d (b + 1) (n + 1)) else fin f x a d (b + 1) n
noncomputable def fou (f : Nat → Nat → Prop) (x : Int32) (P : Nat) : Nat → Nat → Nat → Option Int32 × Nat
  | 0, _, n => (none, n)
  | d + 1, a, n => match fin f x a (P - (a + 1)) (a + 1) n with
    | (some v, m) => (some v, m)
    | (none, m) => fou f x P d (a + 1) m
noncomputable def oFixes (S : St) (x : Int32) : Int32 × St := (if x.toInt < -1 then -10 else match fou (fun a b => kp (sBa S) (sBb S) (sB S) a b) x (sPt S) (sPt S) 0 0 with
  | (some v, _) => v
  | (none, m) => if x = -1 then nI m else -5, S)
theorem cfx_in (L : Nat) (I : Nat → Nat → Int32) (J : Nat → Nat → Int64) (w : Nat → Nat) (S : St) (h : CI I J w S) (x : Int32) (a : Nat) (ha : a < sPt S) (Q : Option Value → MH → Prop) : ∀ d b n, b + d = sPt S → (∀ v m, fin (fun a b => kp (sBa S) (sBb S) (sB S) a b) x a d b n = (some v, m) → Q (some (.int v)) (hp L I J w)) → (∀ m, fin (fun a b => kp (sBa S) (sBb S) (sB S) a b) x a d b n = (none, m) → WP m_DT_fixes (69, [some (.ref 2), some (.int x), some (.int (nI m)), some (.int (nI a)), some (.int (nI (sPt S)))], [], hp L I J w, 0, 0) Q) → WP m_DT_fixes (31, [some (.ref 2), some (.int x), some (.int (nI n)), some (.int (nI a)), some (.int (nI b))], [.int (nI (sPt S)), .int (nI b)], hp L I J w, 0, 0) Q
  | 0, b, n, hb, _, kn => by
    obtain rfl : b = sPt S := by omega
    have p2 := h.1.2.1
    refine WP.ict rfl (nI_le (Nat.le_refl _) (by omega)) ?_
    exact kn n rfl
  | d + 1, b, n, hb, ks, kn => by
    have p2 := h.1.2.1
    have cf := h.2.2.2.2
    refine WP.icf rfl (nI_ge (show b < sPt S by omega) (by omega)) ?_
    iterate 4 (refine WP.st rfl ?_)
    refine WP.calle rfl rfl (ev_ckeeps L I J w (sB S) (sBa S) (sBb S) cf a b (by omega) (by omega)) ?_
    by_cases e : kp (sBa S) (sBb S) (sB S) a b
    · have un : fin (fun a b => kp (sBa S) (sBb S) (sB S) a b) x a (d + 1) b n = fin (fun a b => kp (sBa S) (sBb S) (sB S) a b) x a d (b + 1) n := if_neg (by rw [bI_t e]; decide)
      rw [un] at ks kn
      have ih := cfx_in L I J w S h x a ha Q d (b + 1) n (by omega) ks kn
      rw [bI_t e]
      refine WP.ift rfl (show ¬ (1 : Int32) = 0 by decide) ?_
      rw [nI_succ b] at ih
      iterate 4 (refine WP.st rfl ?_)
      refine WP.get (v := .int (nI (sPt S))) rfl rfl (rfl) (congrArg Value.int h.1.1) ?_
      exact ih
    · have un : fin (fun a b => kp (sBa S) (sBb S) (sB S) a b) x a (d + 1) b n = if nI n = x then (some (Int32.ofInt 10 * nI a + nI b), n) else fin (fun a b => kp (sBa S) (sBb S) (sB S) a b) x a d (b + 1) (n + 1) := if_pos (by rw [bI_f e])
      rw [bI_f e]
      refine WP.iff rfl (fun z => z rfl) ?_
      iterate 2 (refine WP.st rfl ?_)
      by_cases q : nI n = x
      · rw [if_pos q] at un
        refine WP.icf rfl (fun z => z q) ?_
        iterate 5 (refine WP.st rfl ?_)
        exact WP.ret rfl (ks _ _ un)
      · rw [if_neg q] at un
        rw [un] at ks kn
        have ih := cfx_in L I J w S h x a ha Q d (b + 1) (n + 1) (by omega) ks kn
        refine WP.ict rfl (q) ?_
        rw [nI_succ b, nI_succ n] at ih
        iterate 5 (refine WP.st rfl ?_)
        refine WP.get (v := .int (nI (sPt S))) rfl rfl (rfl) (congrArg Value.int h.1.1) ?_
        exact ih
theorem cfx_ou (L : Nat) (I : Nat → Nat → Int32) (J : Nat → Nat → Int64) (w : Nat → Nat) (S : St) (h : CI I J w S) (x : Int32) (Q : Option Value → MH → Prop) : ∀ d a n o4, a + d = sPt S → (∀ v m, fou (fun a b => kp (sBa S) (sBb S) (sB S) a b) x (sPt S) d a n = (some v, m) → Q (some (.int v)) (hp L I J w)) → (∀ m o4, fou (fun a b => kp (sBa S) (sBb S) (sB S) a b) x (sPt S) d a n = (none, m) → WP m_DT_fixes (75, [some (.ref 2), some (.int x), some (.int (nI m)), some (.int (nI (sPt S))), o4], [], hp L I J w, 0, 0) Q) → WP m_DT_fixes (17, [some (.ref 2), some (.int x), some (.int (nI n)), some (.int (nI a)), o4], [.int (nI (sPt S)), .int (nI a)], hp L I J w, 0, 0) Q
  | 0, a, n, o4, ha, _, kn => by
    obtain rfl : a = sPt S := by omega
    have p2 := h.1.2.1
    refine WP.ict rfl (nI_le (Nat.le_refl _) (by omega)) ?_
    exact kn n o4 rfl
  | d + 1, a, n, o4, ha, ks, kn => by
    have p2 := h.1.2.1
    have un : fou (fun a b => kp (sBa S) (sBb S) (sB S) a b) x (sPt S) (d + 1) a n = match fin (fun a b => kp (sBa S) (sBb S) (sB S) a b) x a (sPt S - (a + 1)) (a + 1) n with
      | (some v, m) => (some v, m)
      | (none, m) => fou (fun a b => kp (sBa S) (sBb S) (sB S) a b) x (sPt S) d (a + 1) m := rfl
    have go := cfx_in L I J w S h x a (by omega) Q (sPt S - (a + 1)) (a + 1) n (by omega) (fun v m e => ks v m (by rw [un, e])) (fun m e => by
      rw [e] at un
      have un' : fou (fun a b => kp (sBa S) (sBb S) (sB S) a b) x (sPt S) (d + 1) a n = fou (fun a b => kp (sBa S) (sBb S) (sB S) a b) x (sPt S) d (a + 1) m := un
      rw [un'] at ks kn
      have ih := cfx_ou L I J w S h x Q d (a + 1) m (some (.int (nI (sPt S)))) (by omega) ks kn
      rw [nI_succ a] at ih
      iterate 4 (refine WP.st rfl ?_)
      refine WP.get (v := .int (nI (sPt S))) rfl rfl (rfl) (congrArg Value.int h.1.1) ?_
      exact ih)
    refine WP.icf rfl (nI_ge (show a < sPt S by omega) (by omega)) ?_
    rw [nI_succ a] at go
    iterate 6 (refine WP.st rfl ?_)
    refine WP.get (v := .int (nI (sPt S))) rfl rfl (rfl) (congrArg Value.int h.1.1) ?_
    exact go
theorem c_fixes (L : Nat) (I : Nat → Nat → Int32) (J : Nat → Nat → Int64) (w : Nat → Nat) (S : St) (h : CI I J w S) (x : Int32) : CM L I J w m_DT_fixes [.int x] (.int (oFixes S x).1) (oFixes S x).2 := by
  have c1 := x_lt x (m := -1) (by omega) (by omega)
  unfold CM SP oFixes
  iterate 2 (refine WP.st rfl ?_)
  by_cases z : x.toInt < -1
  · rw [if_pos z]
    refine WP.icf rfl (show ¬ zI (-1) ≤ x from fun y => by have := c1.2.2.2.mp y; omega) ?_
    iterate 1 (refine WP.st rfl ?_)
    exact WP.ret rfl ⟨rfl, I, J, w, FR.refl _ _ _ _, h, rfl⟩
  · rw [if_neg z]
    refine WP.ict rfl (show zI (-1) ≤ x from c1.2.2.2.mpr (by omega)) ?_
    iterate 6 (refine WP.st rfl ?_)
    refine WP.get (v := .int (nI (sPt S))) rfl rfl (rfl) (congrArg Value.int h.1.1) ?_
    refine cfx_ou L I J w S h x _ (sPt S) 0 0 none (by omega) (fun v m e => ?_) (fun m o4 e => ?_)
    · rw [e]
      exact ⟨rfl, I, J, w, FR.refl _ _ _ _, h, rfl⟩
    · rw [e]
      iterate 2 (refine WP.st rfl ?_)
      by_cases q : x = -1
      · refine WP.icf rfl (fun y => y q) ?_
        iterate 2 (refine WP.st rfl ?_)
        exact WP.ret rfl ⟨congrArg (fun z => some (Value.int z)) (if_pos q).symm, I, J, w, FR.refl _ _ _ _, h, rfl⟩
      · skip
        refine WP.ict rfl (q) ?_
        iterate 1 (refine WP.st rfl ?_)
        exact WP.ret rfl ⟨congrArg (fun z => some (Value.int z)) (if_neg q).symm, I, J, w, FR.refl _ _ _ _, h, rfl⟩
theorem mfx_in (L : Nat) (J : Nat → Nat → Int64) (w : Nat → Nat) (S : St) (I0 : Nat → Nat → Int32) (x : Int32) (a : Nat) (ha : a < sPt S) (Q : Option Value → MH → Prop) : ∀ d b n (I : Nat → Nat → Int32), FR 208 228 I0 J I J → RI I J S → KI I S → a < b → b + d = sPt S → (∀ v m (I' : Nat → Nat → Int32), FR 208 228 I0 J I' J → RI I' J S → KI I' S → fin (fun a b => kp (sBa S) (sBb S) (sB S) a b) x a d b n = (some v, m) → Q (some (.int v)) (hp L I' J w)) → (∀ m (I' : Nat → Nat → Int32), FR 208 228 I0 J I' J → RI I' J S → KI I' S → fin (fun a b => kp (sBa S) (sBb S) (sB S) a b) x a d b n = (none, m) → WP m_Mo_fixes (70, [some (.ref 208), some (.int x), some (.int (nI m)), some (.int (nI a)), some (.int (nI (sPt S)))], [], hp L I' J w, 0, 0) Q) → WP m_Mo_fixes (35, [some (.ref 208), some (.int x), some (.int (nI n)), some (.int (nI a)), some (.int (nI b))], [.int (nI (sPt S)), .int (nI b)], hp L I J w, 0, 0) Q
  | 0, b, n, I, hf, h, hk, _, hb, _, kn => by
    obtain rfl : b = sPt S := by omega
    have p2 := h.1.2.1
    refine WP.ict rfl (nI_le (Nat.le_refl _) (by omega)) ?_
    exact kn n I hf h hk rfl
  | d + 1, b, n, I, hf, h, hk, hl, hb, ks, kn => by
    have p2 := h.1.2.1
    refine WP.icf rfl (nI_ge (show b < sPt S by omega) (by omega)) ?_
    iterate 3 (refine WP.st rfl ?_)
    refine WP.call rfl rfl (sp_mik L I J w S h hk a b (by omega) (by omega) (by omega)) ?_
    rintro _ _ ⟨rfl, I1, f1, f2, f3, rfl⟩
    by_cases e : kp (sBa S) (sBb S) (sB S) a b
    · have un : fin (fun a b => kp (sBa S) (sBb S) (sB S) a b) x a (d + 1) b n = fin (fun a b => kp (sBa S) (sBb S) (sB S) a b) x a d (b + 1) n := if_neg (by rw [bI_t e]; decide)
      rw [un] at ks kn
      have ih := mfx_in L J w S I0 x a ha Q d (b + 1) n I1 (hf.trans f1) f2 f3 (by omega) (by omega) ks kn
      rw [bI_t e]
      refine WP.ift rfl (show ¬ (1 : Int32) = 0 by decide) ?_
      rw [nI_succ b] at ih
      iterate 4 (refine WP.st rfl ?_)
      refine WP.get (v := .int (nI (sPt S))) rfl rfl (rfl) (congrArg Value.int f2.1.1) ?_
      exact ih
    · have un : fin (fun a b => kp (sBa S) (sBb S) (sB S) a b) x a (d + 1) b n = if nI n = x then (some (Int32.ofInt 10 * nI a + nI b), n) else fin (fun a b => kp (sBa S) (sBb S) (sB S) a b) x a d (b + 1) (n + 1) := if_pos (by rw [bI_f e])
      rw [bI_f e]
      refine WP.iff rfl (fun z => z rfl) ?_
      iterate 2 (refine WP.st rfl ?_)
      by_cases q : nI n = x
      · rw [if_pos q] at un
        refine WP.icf rfl (fun z => z q) ?_
        iterate 5 (refine WP.st rfl ?_)
        exact WP.ret rfl (ks _ _ I1 (hf.trans f1) f2 f3 un)
      · rw [if_neg q] at un
        rw [un] at ks kn
        have ih := mfx_in L J w S I0 x a ha Q d (b + 1) (n + 1) I1 (hf.trans f1) f2 f3 (by omega) (by omega) ks kn
        refine WP.ict rfl (q) ?_
        rw [nI_succ b, nI_succ n] at ih
        iterate 5 (refine WP.st rfl ?_)
        refine WP.get (v := .int (nI (sPt S))) rfl rfl (rfl) (congrArg Value.int f2.1.1) ?_
        exact ih
theorem mfx_ou (L : Nat) (J : Nat → Nat → Int64) (w : Nat → Nat) (S : St) (I0 : Nat → Nat → Int32) (x : Int32) (Q : Option Value → MH → Prop) : ∀ d a n o4 (I : Nat → Nat → Int32), FR 208 228 I0 J I J → RI I J S → KI I S → a + d = sPt S → (∀ v m (I' : Nat → Nat → Int32), FR 208 228 I0 J I' J → RI I' J S → KI I' S → fou (fun a b => kp (sBa S) (sBb S) (sB S) a b) x (sPt S) d a n = (some v, m) → Q (some (.int v)) (hp L I' J w)) → (∀ m o4 (I' : Nat → Nat → Int32), FR 208 228 I0 J I' J → RI I' J S → KI I' S → fou (fun a b => kp (sBa S) (sBb S) (sB S) a b) x (sPt S) d a n = (none, m) → WP m_Mo_fixes (76, [some (.ref 208), some (.int x), some (.int (nI m)), some (.int (nI (sPt S))), o4], [], hp L I' J w, 0, 0) Q) → WP m_Mo_fixes (21, [some (.ref 208), some (.int x), some (.int (nI n)), some (.int (nI a)), o4], [.int (nI (sPt S)), .int (nI a)], hp L I J w, 0, 0) Q
  | 0, a, n, o4, I, hf, h, hk, ha, _, kn => by
    obtain rfl : a = sPt S := by omega
    have p2 := h.1.2.1
    refine WP.ict rfl (nI_le (Nat.le_refl _) (by omega)) ?_
    exact kn n o4 I hf h hk rfl
  | d + 1, a, n, o4, I, hf, h, hk, ha, ks, kn => by
    have p2 := h.1.2.1
    have un : fou (fun a b => kp (sBa S) (sBb S) (sB S) a b) x (sPt S) (d + 1) a n = match fin (fun a b => kp (sBa S) (sBb S) (sB S) a b) x a (sPt S - (a + 1)) (a + 1) n with
      | (some v, m) => (some v, m)
      | (none, m) => fou (fun a b => kp (sBa S) (sBb S) (sB S) a b) x (sPt S) d (a + 1) m := rfl
    have go := mfx_in L J w S I0 x a (by omega) Q (sPt S - (a + 1)) (a + 1) n I hf h hk (by omega) (by omega) (fun v m I1 f1 f2 f3 e => ks v m I1 f1 f2 f3 (by rw [un, e])) (fun m I1 f1 f2 f3 e => by
      rw [e] at un
      have un' : fou (fun a b => kp (sBa S) (sBb S) (sB S) a b) x (sPt S) (d + 1) a n = fou (fun a b => kp (sBa S) (sBb S) (sB S) a b) x (sPt S) d (a + 1) m := un
      rw [un'] at ks kn
      have ih := mfx_ou L J w S I0 x Q d (a + 1) m (some (.int (nI (sPt S)))) I1 f1 f2 f3 (by omega) ks kn
      rw [nI_succ a] at ih
      iterate 4 (refine WP.st rfl ?_)
      refine WP.get (v := .int (nI (sPt S))) rfl rfl (rfl) (congrArg Value.int f2.1.1) ?_
      exact ih)
    refine WP.icf rfl (nI_ge (show a < sPt S by omega) (by omega)) ?_
    rw [nI_succ a] at go
    iterate 6 (refine WP.st rfl ?_)
    refine WP.get (v := .int (nI (sPt S))) rfl rfl (rfl) (congrArg Value.int h.1.1) ?_
    exact go
theorem m_fixes (L : Nat) (I : Nat → Nat → Int32) (J : Nat → Nat → Int64) (w : Nat → Nat) (S : St) (h : RI I J S) (x : Int32) : MM L I J w m_Mo_fixes [.int x] (.int (oFixes S x).1) (oFixes S x).2 := by
  have c1 := x_lt x (m := -1) (by omega) (by omega)
  unfold MM SP oFixes
  iterate 2 (refine WP.st rfl ?_)
  by_cases z : x.toInt < -1
  · rw [if_pos z]
    refine WP.icf rfl (show ¬ zI (-1) ≤ x from fun y => by have := c1.2.2.2.mp y; omega) ?_
    iterate 1 (refine WP.st rfl ?_)
    exact WP.ret rfl ⟨rfl, I, J, FR.refl _ _ _ _, h, rfl⟩
  · rw [if_neg z]
    refine WP.ict rfl (show zI (-1) ≤ x from c1.2.2.2.mpr (by omega)) ?_
    iterate 1 (refine WP.st rfl ?_)
    refine WP.call rfl rfl (sp_mck L I J w S h) ?_
    rintro _ _ ⟨rfl, I1, f1, f2, f3, rfl⟩
    iterate 6 (refine WP.st rfl ?_)
    refine WP.get (v := .int (nI (sPt S))) rfl rfl (rfl) (congrArg Value.int f2.1.1) ?_
    refine mfx_ou L J w S I x _ (sPt S) 0 0 none I1 f1 f2 f3 (by omega) (fun v m I2 g1 g2 g3 e => ?_) (fun m o4 I2 g1 g2 g3 e => ?_)
    · rw [e]
      exact ⟨rfl, I2, J, g1, g2, rfl⟩
    · rw [e]
      iterate 2 (refine WP.st rfl ?_)
      by_cases q : x = -1
      · refine WP.icf rfl (fun y => y q) ?_
        iterate 2 (refine WP.st rfl ?_)
        exact WP.ret rfl ⟨congrArg (fun z => some (Value.int z)) (if_pos q).symm, I2, J, g1, g2, rfl⟩
      · skip
        refine WP.ict rfl (q) ?_
        iterate 1 (refine WP.st rfl ?_)
        exact WP.ret rfl ⟨congrArg (fun z => some (Value.int z)) (if_neg q).symm, I2, J, g1, g2, rfl⟩
