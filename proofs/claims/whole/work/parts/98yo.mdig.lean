theorem up_up {α : Type} (f : Nat → Nat → α) (a k : Nat) (v u : α) : mm_up (mm_up f a k v) a k u = mm_up f a k u := by
  funext b j
  by_cases h : b = a
  · subst h
    by_cases h2 : j = k
    · subst h2; rw [mm_up_at, mm_up_at]
    · rw [up_nk _ _ h2, up_nk _ _ h2, up_nk _ _ h2]
  · rw [up_ne _ _ h, up_ne _ _ h, up_ne _ _ h]
abbrev hd (J : Nat → Nat → Int64) (v : Int64) : Nat → Nat → Int64 := mm_up J 208 28 v
theorem RI_h {I : Nat → Nat → Int32} {J : Nat → Nat → Int64} {S : St} (h : RI I J S) (v : Int64) : RI I (hd J v) S := by
  unfold RI R3 R4 MG zv hd at *
  rw [up_ne J _ (show (221 : Nat) ≠ 208 by decide), up_ne J _ (show (227 : Nat) ≠ 208 by decide)]
  exact h
theorem ev_madd (L : Nat) (I : Nat → Nat → Int32) (J : Nat → Nat → Int64) (w : Nat → Nat) (v x : Int64) : EV m_Mo_add [.ref 208, .long x] (hp L I (hd J v) w) none (hp L I (hd J (31 * v + x)) w) := by
  obtain ⟨r, h', e, q⟩ : SP m_Mo_add [.ref 208, .long x] (hp L I (hd J v) w) (fun r h' => r = none ∧ h' = hp L I (hd J (31 * v + x)) w) := by
    unfold SP
    iterate 3 (refine WP.st rfl ?_)
    refine WP.get (v := .long v) rfl rfl (rfl) (congrArg Value.long (mm_up_at J 208 28 v)) ?_
    iterate 4 (refine WP.st rfl ?_)
    refine WP.ret rfl ⟨rfl, ?_⟩
    show hp L I (mm_up (mm_up J 208 28 v) 208 28 (31 * v + x)) w = _
    rw [up_up]
  obtain ⟨rfl, rfl⟩ := q
  exact e
theorem mat_a (L : Nat) (I : Nat → Nat → Int32) (J : Nat → Nat → Int64) (w : Nat → Nat) (t n : Nat) (nm : Nat → Nat) (fc r : Nat → Int) (ht : t ≤ 20) (hr : rR I t n nm fc r) (v : Int64) (Q : Option Value → MH → Prop) (k : WP m_Mo_addTerms (28, [some (.ref 208), some (.int (nI t)), none], [], hp L I (hd J (31 * (31 * v + (zI (r 16)).toInt64) + (nI n).toInt64)) w, 0, 0) Q) : WP m_Mo_addTerms (0, [some (.ref 208), some (.int (nI t)), none], [], hp L I (hd J v) w, 0, 0) Q := by
  iterate 8 (refine WP.st rfl ?_)
  refine WP.iald (k := 17 * t + 16) rfl (ix17 _ 16) (Or.inl rfl) (show 17 * t + 16 < 391 by omega) (rfl) ?_
  rw [show hI (hp L I (hd J v) w) 210 (17 * t + 16) = zI (r 16) from hr.1 16 (by omega)]
  iterate 1 (refine WP.st rfl ?_)
  refine WP.calle rfl rfl (ev_madd L I J w v (zI (r 16)).toInt64) ?_
  iterate 4 (refine WP.st rfl ?_)
  refine WP.iald (k := t) rfl (rfl) (Or.inl rfl) (show t < 21 by omega) (rfl) ?_
  rw [show hI (hp L I (hd J (31 * v + (zI (r 16)).toInt64)) w) 211 t = nI n from hr.2.1]
  iterate 1 (refine WP.st rfl ?_)
  refine WP.calle rfl rfl (ev_madd L I J w (31 * v + (zI (r 16)).toInt64) (nI n).toInt64) ?_
  exact k
def pTi (t : Nat → Int) (n : Nat) (nm : Nat → Nat) (fc : Nat → Int) (h : Int64) : Nat → Int64 := fun m => fl (fun i x => 31 * (31 * x + (nI (nm i)).toInt64) + (zI (fc i)).toInt64) m (31 * (31 * h + (zI (t 16)).toInt64) + (nI n).toInt64)
theorem ev_maddT (L : Nat) (I : Nat → Nat → Int32) (J : Nat → Nat → Int64) (w : Nat → Nat) (t n : Nat) (nm : Nat → Nat) (fc r : Nat → Int) (ht : t ≤ 20) (hr : rR I t n nm fc r) (v : Int64) : EV m_Mo_addTerms [.ref 208, .int (nI t)] (hp L I (hd J v) w) none (hp L I (hd J (pT r n nm fc v)) w) := by
  have n4 := hr.2.2.2.2.1
  obtain ⟨r', h', e, q⟩ : SP m_Mo_addTerms [.ref 208, .int (nI t)] (hp L I (hd J v) w) (fun r' h' => r' = none ∧ h' = hp L I (hd J (pT r n nm fc v)) w) := by
    unfold SP
    refine mat_a L I J w t n nm fc r ht hr v _ ?_
    iterate 6 (refine WP.st rfl ?_)
    refine WP.iald (k := t) rfl (rfl) (Or.inl rfl) (show t < 21 by omega) (rfl) ?_
    rw [show hI (hp L I (hd J (31 * (31 * v + (zI (r 16)).toInt64) + (nI n).toInt64)) w) 211 t = nI n from hr.2.1]
    refine WP.inv (fun i (_ : Unit) => (37, [some (.ref 208), some (.int (nI t)), some (.int (nI i))], [.int (nI n), .int (nI i)], hp L I (hd J (pTi r n nm fc v i)) w, 0, 0)) (fun _ _ => True) n () trivial (fun i _ hi _ kk => ?_) (fun _ _ => ?_)
    · have k2 := kk () trivial
      rw [nI_succ i] at k2
      refine WP.icf rfl (nI_ge hi (by omega)) ?_
      iterate 8 (refine WP.st rfl ?_)
      refine WP.iald (k := 4 * t + i) rfl (jx4 t i) (Or.inl rfl) (show 4 * t + i < 84 by omega) (rfl) ?_
      rw [show hI (hp L I (hd J (pTi r n nm fc v i)) w) 212 (4 * t + i) = nI (nm i) from (hr.2.2.1 i hi).1]
      iterate 1 (refine WP.st rfl ?_)
      refine WP.calle rfl rfl (ev_madd L I J w (pTi r n nm fc v i) (nI (nm i)).toInt64) ?_
      iterate 8 (refine WP.st rfl ?_)
      refine WP.iald (k := 4 * t + i) rfl (jx4 t i) (Or.inl rfl) (show 4 * t + i < 84 by omega) (rfl) ?_
      rw [show hI (hp L I (hd J (31 * pTi r n nm fc v i + (nI (nm i)).toInt64)) w) 213 (4 * t + i) = zI (fc i) from (hr.2.2.1 i hi).2]
      iterate 1 (refine WP.st rfl ?_)
      refine WP.calle rfl rfl (ev_madd L I J w (31 * pTi r n nm fc v i + (nI (nm i)).toInt64) (zI (fc i)).toInt64) ?_
      iterate 6 (refine WP.st rfl ?_)
      refine WP.iald (k := t) rfl (rfl) (Or.inl rfl) (show t < 21 by omega) (rfl) ?_
      rw [show hI (hp L I (hd J (31 * (31 * pTi r n nm fc v i + (nI (nm i)).toInt64) + (zI (fc i)).toInt64)) w) 211 t = nI n from hr.2.1]
      exact k2
    · skip
      refine WP.ict rfl (nI_le (Nat.le_refl _) (by omega)) ?_
      exact WP.ret rfl ⟨rfl, rfl⟩
  obtain ⟨rfl, rfl⟩ := q
  exact e
theorem mdg_1 (L : Nat) (I : Nat → Nat → Int32) (J : Nat → Nat → Int64) (w : Nat → Nat) (S : St) (h : RI I J S) (wv : Int32) (Q : Option Value → MH → Prop) (k : WP m_Mo_digest (39, [some (.ref 208), some (.int wv), some (.int (nI 4)), none], [], hp L I (hd J (dH1 S 4)) w, 0, 0) Q) : WP m_Mo_digest (9, [some (.ref 208), some (.int wv), none, none], [], hp L I J w, 0, 0) Q := by
  iterate 7 (refine WP.st rfl ?_)
  refine WP.inv (fun i (_ : Unit) => (20, [some (.ref 208), some (.int wv), some (.int (nI i)), none], [.int (nI 4), .int (nI i)], hp L I (hd J (dH1 S i)) w, 0, 0)) (fun _ _ => True) 4 () trivial (fun i _ hi _ kk => ?_) (fun _ _ => ?_)
  · have k2 := kk () trivial
    rw [nI_succ i] at k2
    refine WP.icf rfl (nI_ge hi (by omega)) ?_
    iterate 3 (refine WP.st rfl ?_)
    refine WP.call rfl rfl (ms_count L I (hd J (dH1 S i)) w S (RI_h h _) (nI i)) ?_
    rintro _ _ ⟨rfl, rfl⟩
    iterate 1 (refine WP.st rfl ?_)
    refine WP.calle rfl rfl (ev_madd L I J w (dH1 S i) (oCount S (nI i)).1.toInt64) ?_
    iterate 4 (refine WP.st rfl ?_)
    exact k2
  · skip
    refine WP.ict rfl (nI_le (Nat.le_refl _) (by omega)) ?_
    exact k
theorem mdg_2 (L : Nat) (I : Nat → Nat → Int32) (J : Nat → Nat → Int64) (w : Nat → Nat) (S : St) (h : RI I J S) (wv o2 : Int32) (x : Int64) (Q : Option Value → MH → Prop) (k : WP m_Mo_digest (68, [some (.ref 208), some (.int wv), some (.int (nI (2 * sPt S))), none], [], hp L I (hd J (dH2 S x (2 * sPt S))) w, 0, 0) Q) : WP m_Mo_digest (39, [some (.ref 208), some (.int wv), some (.int o2), none], [], hp L I (hd J x) w, 0, 0) Q := by
  obtain ⟨p1, p2, p3⟩ := h.1
  iterate 5 (refine WP.st rfl ?_)
  refine WP.get (v := .int (nI (sPt S))) rfl rfl (rfl) (congrArg Value.int p1) ?_
  iterate 1 (refine WP.st rfl ?_)
  rw [ix2]
  refine WP.inv (fun i (_ : Unit) => (48, [some (.ref 208), some (.int wv), some (.int (nI i)), none], [.int (nI (2 * sPt S)), .int (nI i)], hp L I (hd J (dH2 S x i)) w, 0, 0)) (fun _ _ => True) (2 * sPt S) () trivial (fun i _ hi _ kk => ?_) (fun _ _ => ?_)
  · have k2 := kk () trivial
    rw [nI_succ i, ← ix2] at k2
    refine WP.icf rfl (nI_ge hi (by omega)) ?_
    iterate 4 (refine WP.st rfl ?_)
    refine WP.iald (k := i) rfl (rfl) (Or.inl rfl) (show i < 16 by omega) (rfl) ?_
    rw [show hI (hp L I (hd J (dH2 S x i)) w) 209 i = zI (sRo S i) from (p3 i (by omega)).1]
    iterate 1 (refine WP.st rfl ?_)
    refine WP.calle rfl rfl (ev_madd L I J w (dH2 S x i) (zI (sRo S i)).toInt64) ?_
    iterate 5 (refine WP.st rfl ?_)
    refine WP.get (v := .int (nI (sPt S))) rfl rfl (rfl) (congrArg Value.int p1) ?_
    iterate 1 (refine WP.st rfl ?_)
    exact k2
  · skip
    refine WP.ict rfl (nI_le (Nat.le_refl _) (by omega)) ?_
    exact k
theorem mdg_3 (L : Nat) (I : Nat → Nat → Int32) (J : Nat → Nat → Int64) (w : Nat → Nat) (S : St) (h : RI I J S) (hk : ∀ t, t < sTl S → I 215 t = nI (knd (sT S) (sOf S) t)) (wv o2 : Int32) (x : Int64) (Q : Option Value → MH → Prop) (k : WP m_Mo_digest (100, [some (.ref 208), some (.int wv), some (.int (nI (sTl S))), none], [], hp L I (hd J (dH3 S x (sTl S))) w, 0, 0) Q) : WP m_Mo_digest (68, [some (.ref 208), some (.int wv), some (.int o2), none], [], hp L I (hd J x) w, 0, 0) Q := by
  obtain ⟨q1, q2, q3, -⟩ := h.2.1
  iterate 4 (refine WP.st rfl ?_)
  refine WP.get (v := .int (nI (sTl S))) rfl rfl (rfl) (congrArg Value.int q1) ?_
  refine WP.inv (fun i (_ : Unit) => (75, [some (.ref 208), some (.int wv), some (.int (nI i)), none], [.int (nI (sTl S)), .int (nI i)], hp L I (hd J (dH3 S x i)) w, 0, 0)) (fun _ _ => True) (sTl S) () trivial (fun i _ hi _ kk => ?_) (fun _ _ => ?_)
  · have k2 := kk () trivial
    rw [nI_succ i] at k2
    refine WP.icf rfl (nI_ge hi (by omega)) ?_
    iterate 2 (refine WP.st rfl ?_)
    refine WP.calle rfl rfl (ev_maddT L I J w i _ _ _ _ (by omega) (q3 i hi) (dH3 S x i)) ?_
    iterate 4 (refine WP.st rfl ?_)
    refine WP.iald (k := i) rfl (rfl) (Or.inl rfl) (show i < 20 by omega) (rfl) ?_
    rw [show hI (hp L I (hd J (pT (sT S i) (sTn S i) (sNm S i) (sFc S i) (dH3 S x i))) w) 215 i = nI (knd (sT S) (sOf S) i) from hk i hi]
    iterate 1 (refine WP.st rfl ?_)
    refine WP.calle rfl rfl (ev_madd L I J w (pT (sT S i) (sTn S i) (sNm S i) (sFc S i) (dH3 S x i)) (nI (knd (sT S) (sOf S) i)).toInt64) ?_
    iterate 4 (refine WP.st rfl ?_)
    refine WP.get (v := .int (nI (sTl S))) rfl rfl (rfl) (congrArg Value.int q1) ?_
    exact k2
  · skip
    refine WP.ict rfl (nI_le (Nat.le_refl _) (by omega)) ?_
    exact k
theorem mdg_4 (L : Nat) (I : Nat → Nat → Int32) (J : Nat → Nat → Int64) (w : Nat → Nat) (S : St) (h : RI I J S) (wv o2 : Int32) (x : Int64) (Q : Option Value → MH → Prop) (k : WP m_Mo_digest (106, [some (.ref 208), some (.int wv), some (.int o2), none], [], hp L I (hd J (pT (sT S 20) (sTn S 20) (sNm S 20) (sFc S 20) x)) w, 0, 0) Q) : WP m_Mo_digest (100, [some (.ref 208), some (.int wv), some (.int o2), none], [], hp L I (hd J x) w, 0, 0) Q := by
  iterate 2 (refine WP.st rfl ?_)
  refine WP.calle rfl rfl (ev_maddT L I J w 20 _ _ _ _ (by omega) h.2.1.2.2.2.2.2 x) ?_
  exact k
theorem mdg_5 (L : Nat) (I : Nat → Nat → Int32) (J : Nat → Nat → Int64) (w : Nat → Nat) (S : St) (h : RI I J S) (hk : KI I S) (wv o2 : Int32) (x : Int64) (Q : Option Value → MH → Prop) (k : WP m_Mo_digest (162, [some (.ref 208), some (.int wv), some (.int (nI (sB S))), none], [], hp L I (hd J (dH5 S x (sB S))) w, 0, 0) Q) : WP m_Mo_digest (106, [some (.ref 208), some (.int wv), some (.int o2), none], [], hp L I (hd J x) w, 0, 0) Q := by
  obtain ⟨ba, bb, hB, hE⟩ := h.2.2.2.2
  have b2 := hB.2.1
  iterate 4 (refine WP.st rfl ?_)
  refine WP.get (v := .int (nI (sB S))) rfl rfl (rfl) (congrArg Value.int hB.1) ?_
  refine WP.inv (fun i (_ : Unit) => (113, [some (.ref 208), some (.int wv), some (.int (nI i)), none], [.int (nI (sB S)), .int (nI i)], hp L I (hd J (dH5 S x i)) w, 0, 0)) (fun _ _ => True) (sB S) () trivial (fun i _ hi _ kk => ?_) (fun _ _ => ?_)
  · have k2 := kk () trivial
    obtain ⟨g1, -, g3, -⟩ := hB.2.2.2 i (by omega)
    rw [(hE i hi).1] at g1
    rw [(hE i hi).2] at g3
    rw [nI_succ i] at k2
    refine WP.icf rfl (nI_ge hi (by omega)) ?_
    iterate 4 (refine WP.st rfl ?_)
    refine WP.iald (k := i) rfl (rfl) (Or.inl rfl) (show i < 21 by omega) (rfl) ?_
    rw [show hI (hp L I (hd J (dH5 S x i)) w) 216 i = nI (sBa S i) from g1]
    iterate 1 (refine WP.st rfl ?_)
    refine WP.calle rfl rfl (ev_madd L I J w (dH5 S x i) (nI (sBa S i)).toInt64) ?_
    iterate 4 (refine WP.st rfl ?_)
    refine WP.iald (k := i) rfl (rfl) (Or.inl rfl) (show i < 21 by omega) (rfl) ?_
    rw [show hI (hp L I (hd J (31 * dH5 S x i + (nI (sBa S i)).toInt64)) w) 217 i = nI (sBb S i) from g3]
    iterate 1 (refine WP.st rfl ?_)
    refine WP.calle rfl rfl (ev_madd L I J w (31 * dH5 S x i + (nI (sBa S i)).toInt64) (nI (sBb S i)).toInt64) ?_
    iterate 4 (refine WP.st rfl ?_)
    refine WP.bald (k := i) rfl (rfl) (rfl) (show i < 20 by omega) (rfl) ?_
    rw [show hI (hp L I (hd J (31 * (31 * dH5 S x i + (nI (sBa S i)).toInt64) + (nI (sBb S i)).toInt64)) w) 218 i = bI (mny (sBa S) (sBb S) i) from hk.2 i hi]
    have ed : dH5 S x (i + 1) = 31 * (31 * (31 * dH5 S x i + (nI (sBa S i)).toInt64) + (nI (sBb S i)).toInt64) + (if bI (mny (sBa S) (sBb S) i) = 0 then 0 else 1) := rfl
    by_cases e : mny (sBa S) (sBb S) i
    · rw [bI_t e, if_neg (by decide)] at ed
      rw [ed] at k2
      rw [bI_t e]
      refine WP.iff rfl (show ¬ (1 : Int32) = 0 by decide) ?_
      iterate 2 (refine WP.st rfl ?_)
      refine WP.calle rfl rfl (ev_madd L I J w (31 * (31 * dH5 S x i + (nI (sBa S i)).toInt64) + (nI (sBb S i)).toInt64) 1) ?_
      iterate 4 (refine WP.st rfl ?_)
      refine WP.get (v := .int (nI (sB S))) rfl rfl (rfl) (congrArg Value.int hB.1) ?_
      exact k2
    · rw [bI_f e, if_pos rfl] at ed
      rw [ed] at k2
      rw [bI_f e]
      refine WP.ift rfl (show (0 : Int32) = 0 from rfl) ?_
      iterate 1 (refine WP.st rfl ?_)
      refine WP.calle rfl rfl (ev_madd L I J w (31 * (31 * dH5 S x i + (nI (sBa S i)).toInt64) + (nI (sBb S i)).toInt64) 0) ?_
      iterate 4 (refine WP.st rfl ?_)
      refine WP.get (v := .int (nI (sB S))) rfl rfl (rfl) (congrArg Value.int hB.1) ?_
      exact k2
  · skip
    refine WP.ict rfl (nI_le (Nat.le_refl _) (by omega)) ?_
    exact k
theorem mdg_6 (L : Nat) (I : Nat → Nat → Int32) (J : Nat → Nat → Int64) (w : Nat → Nat) (wv o2 : Int32) (x : Int64) (Q : Option Value → MH → Prop) (k : WP m_Mo_digest (168, [some (.ref 208), some (.int wv), some (.int o2), none], [], hp L I (hd J (31 * x + wv.toInt64)) w, 0, 0) Q) : WP m_Mo_digest (162, [some (.ref 208), some (.int wv), some (.int o2), none], [], hp L I (hd J x) w, 0, 0) Q := by
  iterate 3 (refine WP.st rfl ?_)
  refine WP.calle rfl rfl (ev_madd L I J w x wv.toInt64) ?_
  exact k
def dS (S : St) (h : Int64) : Nat → Int64 := fun i => fl (fun i x => 31 * x + ((oSign S (nI i)).1).toInt64) i h
theorem dS_3 (S : St) (h : Int64) : dS S h 3 = 31 * (31 * (31 * h + (sSg S).toInt64) + (nI (us (sFA S) 5)).toInt64) + (nI (us (sFB S) 5)).toInt64 := by
  have t0 : (nI 0).toInt = 0 := by decide
  have t1 : (nI 1).toInt = 1 := by decide
  have t2 : (nI 2).toInt = 2 := by decide
  have e0 : (oSign S (nI 0)).1 = sSg S := by
    unfold oSign
    show (if (nI 0).toInt = 0 then sSg S else if (nI 0).toInt = 1 then nI (us (sFA S) 5) else if (nI 0).toInt = 2 then nI (us (sFB S) 5) else -10) = _
    rw [if_pos t0]
  have e1 : (oSign S (nI 1)).1 = nI (us (sFA S) 5) := by
    unfold oSign
    show (if (nI 1).toInt = 0 then sSg S else if (nI 1).toInt = 1 then nI (us (sFA S) 5) else if (nI 1).toInt = 2 then nI (us (sFB S) 5) else -10) = _
    rw [t1, if_neg (by decide), if_pos rfl]
  have e2 : (oSign S (nI 2)).1 = nI (us (sFB S) 5) := by
    unfold oSign
    show (if (nI 2).toInt = 0 then sSg S else if (nI 2).toInt = 1 then nI (us (sFA S) 5) else if (nI 2).toInt = 2 then nI (us (sFB S) 5) else -10) = _
    rw [t2, if_neg (by decide), if_neg (by decide), if_pos rfl]
  show 31 * (31 * (31 * h + (oSign S (nI 0)).1.toInt64) + (oSign S (nI 1)).1.toInt64) + (oSign S (nI 2)).1.toInt64 = _
  rw [e0, e1, e2]
theorem mdg_7 (L : Nat) (I : Nat → Nat → Int32) (J : Nat → Nat → Int64) (w : Nat → Nat) (S : St) (h : RI I J S) (wv o2 : Int32) (x : Int64) (Q : Option Value → MH → Prop) (k : WP m_Mo_digest (191, [some (.ref 208), some (.int wv), some (.int (nI 3)), none], [], hp L I (hd J (dS S x 3)) w, 0, 0) Q) : WP m_Mo_digest (168, [some (.ref 208), some (.int wv), some (.int o2), none], [], hp L I (hd J x) w, 0, 0) Q := by
  iterate 4 (refine WP.st rfl ?_)
  refine WP.inv (fun i (_ : Unit) => (172, [some (.ref 208), some (.int wv), some (.int (nI i)), none], [.int (nI 3), .int (nI i)], hp L I (hd J (dS S x i)) w, 0, 0)) (fun _ _ => True) 3 () trivial (fun i _ hi _ kk => ?_) (fun _ _ => ?_)
  · have k2 := kk () trivial
    rw [nI_succ i] at k2
    refine WP.icf rfl (nI_ge hi (by omega)) ?_
    iterate 3 (refine WP.st rfl ?_)
    refine WP.call rfl rfl (ms_sign L I (hd J (dS S x i)) w S (RI_h h _) (nI i)) ?_
    rintro _ _ ⟨rfl, rfl⟩
    iterate 1 (refine WP.st rfl ?_)
    refine WP.calle rfl rfl (ev_madd L I J w (dS S x i) (oSign S (nI i)).1.toInt64) ?_
    iterate 4 (refine WP.st rfl ?_)
    exact k2
  · skip
    refine WP.ict rfl (nI_le (Nat.le_refl _) (by omega)) ?_
    exact k
def dF (S : St) (a : Nat) : Nat := if a = 0 then sFA S else sFB S
theorem ev_mlF (L : Nat) (I : Nat → Nat → Int32) (J : Nat → Nat → Int64) (w : Nat → Nat) (S : St) (h : RI I J S) (a : Nat) (ha : a < 2) : EV m_Mo_limbs [.ref 208, .int (nI a)] (hp L I J w) (some (.int (nI (us (dF S a) 5)))) (hp L I J w) := ev_mlim L I J w S h a ha
theorem dF_z {I : Nat → Nat → Int32} {J : Nat → Nat → Int64} {S : St} (h : RI I J S) {a : Nat} (ha : a < 2) : ∀ i, i < 6 → J 227 (6 * a + i) = zJ (dg (dF S a) i) := fun i hi => by
  obtain ⟨s1, s2, s3, s4, s5⟩ := h.2.2.2.1
  unfold dF
  by_cases e : a = 0
  · rw [if_pos e, e]; exact s2 i hi
  · rw [if_neg e, show a = 1 by omega]; exact s3 i hi
/-- the limbs of one number -/
theorem mdg_8 (L : Nat) (I : Nat → Nat → Int32) (J : Nat → Nat → Int64) (w : Nat → Nat) (S : St) (h : RI I J S) (wv : Int32) (a : Nat) (ha : a < 2) (o3 : Option Value) (x : Int64) (Q : Option Value → MH → Prop) (k : WP m_Mo_digest (230, [some (.ref 208), some (.int wv), some (.int (nI a)), some (.int (nI (us (dF S a) 5)))], [], hp L I (hd J (fr_d1 (dF S a) x (us (dF S a) 5))) w, 0, 0) Q) : WP m_Mo_digest (198, [some (.ref 208), some (.int wv), some (.int (nI a)), o3], [], hp L I (hd J x) w, 0, 0) Q := by
  have ul := us_le (dF S a) 5
  iterate 5 (refine WP.st rfl ?_)
  refine WP.calle rfl rfl (ev_mlF L I (hd J x) w S (RI_h h x) a ha) ?_
  refine WP.inv (fun i (_ : Unit) => (206, [some (.ref 208), some (.int wv), some (.int (nI a)), some (.int (nI i))], [.int (nI (us (dF S a) 5)), .int (nI i)], hp L I (hd J (fr_d1 (dF S a) x i)) w, 0, 0)) (fun _ _ => True) (us (dF S a) 5) () trivial (fun i _ hi _ kk => ?_) (fun _ _ => ?_)
  · have k2 := kk () trivial
    rw [nI_succ i] at k2
    refine WP.icf rfl (nI_ge hi (by omega)) ?_
    iterate 8 (refine WP.st rfl ?_)
    refine WP.lald (k := 6 * a + i) rfl (ix6 a i) (Or.inl rfl) (show 6 * a + i < 48 by omega) (rfl) ?_
    rw [show hJ (hp L I (hd J (fr_d1 (dF S a) x i)) w) 227 (6 * a + i) = zJ (dg (dF S a) i) from (congrFun (up_ne J (k := 28) (fr_d1 (dF S a) x i) (show (227 : Nat) ≠ 208 by decide)) _).trans (dF_z h ha i (by omega))]
    refine WP.calle rfl rfl (ev_madd L I J w (fr_d1 (dF S a) x i) (zJ (dg (dF S a) i))) ?_
    iterate 5 (refine WP.st rfl ?_)
    refine WP.calle rfl rfl (ev_mlF L I (hd J (31 * fr_d1 (dF S a) x i + zJ (dg (dF S a) i))) w S (RI_h h _) a ha) ?_
    exact k2
  · skip
    refine WP.ict rfl (nI_le (Nat.le_refl _) (by omega)) ?_
    exact k
theorem mdg_9 (L : Nat) (I : Nat → Nat → Int32) (J : Nat → Nat → Int64) (w : Nat → Nat) (S : St) (h : RI I J S) (wv o2 : Int32) (x : Int64) : WP m_Mo_digest (191, [some (.ref 208), some (.int wv), some (.int o2), none], [], hp L I (hd J x) w, 0, 0) (fun v h => v = some (.long (fr_d1 (sFB S) (fr_d1 (sFA S) x (us (sFA S) 5)) (us (sFB S) 5))) ∧ ∃ K : Nat → Nat → Int64, (∀ c, c ≠ 208 → K c = J c) ∧ RI I K S ∧ h = hp L I K w) := by
  iterate 4 (refine WP.st rfl ?_)
  refine WP.icf rfl (show ¬ nI 2 ≤ nI 0 by decide) ?_
  refine mdg_8 L I J w S h wv 0 (by omega) none x _ ?_
  iterate 4 (refine WP.st rfl ?_)
  refine WP.icf rfl (show ¬ nI 2 ≤ nI 1 by decide) ?_
  refine mdg_8 L I J w S h wv 1 (by omega) _ _ _ ?_
  iterate 4 (refine WP.st rfl ?_)
  refine WP.ict rfl (show nI 2 ≤ nI 2 by decide) ?_
  iterate 1 (refine WP.st rfl ?_)
  refine WP.get (v := .long (fr_d1 (sFB S) (fr_d1 (sFA S) x (us (sFA S) 5)) (us (sFB S) 5))) rfl rfl (rfl) (congrArg Value.long (mm_up_at J 208 28 _)) ?_
  exact WP.ret rfl ⟨rfl, _, fun c hc => up_ne J _ hc, RI_h h _, rfl⟩
theorem m_digest (L : Nat) (I : Nat → Nat → Int32) (J : Nat → Nat → Int64) (w : Nat → Nat) (S : St) (h : RI I J S) : MM L I J w m_Mo_digest [] (.long (oDigest S)) S := by
  unfold MM SP
  iterate 1 (refine WP.st rfl ?_)
  refine WP.call rfl rfl (sp_mj L I J w S h) ?_
  rintro _ _ ⟨rfl, I1, J1, f1, f2, f3, rfl⟩
  iterate 1 (refine WP.st rfl ?_)
  refine WP.call rfl rfl (m_whole2 L I1 J1 w S f2) ?_
  rintro _ _ ⟨rfl, I2, g1, g0, g2, g3, rfl⟩
  have k14 : ∀ t, t < sTl S → I2 215 t = nI (knd (sT S) (sOf S) t) := fun t ht => by rw [g0]; exact f3.2 t ht
  iterate 1 (refine WP.st rfl ?_)
  refine mdg_1 L I2 J1 w S g2 _ _ (mdg_2 L I2 J1 w S g2 _ _ _ _ (mdg_3 L I2 J1 w S g2 k14 _ _ _ _ (mdg_4 L I2 J1 w S g2 _ _ _ _ (mdg_5 L I2 J1 w S g2 g3 _ _ _ _ (mdg_6 L I2 J1 w _ _ _ _ (mdg_7 L I2 J1 w S g2 _ _ _ _ ?_))))))
  refine WP.mono (mdg_9 L I2 J1 w S g2 _ _ _) ?_
  rintro _ _ ⟨rfl, K, l1, l2, rfl⟩
  rw [dS_3]
  exact ⟨rfl, I2, K, fun c hc => ⟨(g1 c hc).1.trans (f1 c hc).1, (l1 c (by omega)).trans ((g1 c hc).2.trans (f1 c hc).2)⟩, l2, rfl⟩
