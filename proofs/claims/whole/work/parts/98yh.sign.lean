theorem us_56 {V : Nat} (h : V < 2 ^ 150) : us V 6 = us V 5 := if_pos (dg_top (by have : (1073741824 : Nat) ^ 5 = 2 ^ 150 := by decide
                                                                                  omega))
def oSign (S : St) (x : Int32) : Int32 × St := (if x.toInt = 0 then sSg S else if x.toInt = 1 then nI (us (sFA S) 5) else if x.toInt = 2 then nI (us (sFB S) 5) else -10, S)
theorem ev_cuA (L : Nat) (I : Nat → Nat → Int32) (J : Nat → Nat → Int64) (w : Nat → Nat) (V : Nat) (h : ∀ i, i < 5 → J 135 i = zJ (dg V i)) : EV m_Li_used [.ref 135] (hp L I J w) (some (.int (nI (us V 5)))) (hp L I J w) := by
  have e := ev_used L I J w 135 V (by decide)
  rw [lm_self J 135 V h] at e
  exact e
theorem ev_cuB (L : Nat) (I : Nat → Nat → Int32) (J : Nat → Nat → Int64) (w : Nat → Nat) (V : Nat) (h : ∀ i, i < 5 → J 136 i = zJ (dg V i)) : EV m_Li_used [.ref 136] (hp L I J w) (some (.int (nI (us V 5)))) (hp L I J w) := by
  have e := ev_used L I J w 136 V (by decide)
  rw [lm_self J 136 V h] at e
  exact e
theorem c_sign (L : Nat) (I : Nat → Nat → Int32) (J : Nat → Nat → Int64) (w : Nat → Nat) (S : St) (h : CI I J w S) (x : Int32) : CM L I J w m_DT_sign [.int x] (.int (oSign S x).1) (oSign S x).2 := by
  obtain ⟨s1, s2, s3, s4, s5⟩ := h.2.2.2.1
  unfold CM SP oSign
  refine WP.st rfl ?_
  by_cases z : x.toInt < 0 ∨ 2 < x.toInt
  · rw [if_neg (by omega), if_neg (by omega), if_neg (by omega)]
    refine WP.tsd (tgt := 58) rfl z rfl ?_
    iterate 1 (refine WP.st rfl ?_)
    exact WP.ret rfl ⟨rfl, I, J, w, FR.refl _ _ _ _, h, rfl⟩
  · skip
    by_cases e0 : x.toInt = 0
    · rw [if_pos e0]
      refine WP.tsi (off := 27) (tgt := 28) rfl z (by rw [e0]; rfl) rfl ?_
      iterate 2 (refine WP.st rfl ?_)
      refine WP.get (v := .int (sSg S)) rfl rfl (rfl) (congrArg Value.int s1) ?_
      exact WP.ret rfl ⟨rfl, I, J, w, FR.refl _ _ _ _, h, rfl⟩
    · rw [if_neg e0]
      by_cases e1 : x.toInt = 1
      · rw [if_pos e1]
        refine WP.tsi (off := 35) (tgt := 36) rfl z (by rw [e1]; rfl) rfl ?_
        iterate 3 (refine WP.st rfl ?_)
        refine WP.calle rfl rfl (ev_cuA L I J w (sFA S) s2) ?_
        exact WP.ret rfl ⟨rfl, I, J, w, FR.refl _ _ _ _, h, rfl⟩
      · rw [if_neg e1, if_pos (show x.toInt = 2 by omega)]
        refine WP.tsi (off := 46) (tgt := 47) rfl z (by rw [show x.toInt = 2 by omega]; rfl) rfl ?_
        iterate 3 (refine WP.st rfl ?_)
        refine WP.calle rfl rfl (ev_cuB L I J w (sFB S) s3) ?_
        exact WP.ret rfl ⟨rfl, I, J, w, FR.refl _ _ _ _, h, rfl⟩
theorem ev_mlim (L : Nat) (I : Nat → Nat → Int32) (J : Nat → Nat → Int64) (w : Nat → Nat) (S : St) (h : RI I J S) (a : Nat) (ha : a < 2) : EV m_Mo_limbs [.ref 208, .int (nI a)] (hp L I J w) (some (.int (nI (us (if a = 0 then sFA S else sFB S) 5)))) (hp L I J w) := by
  obtain ⟨s1, s2, s3, s4, s5⟩ := h.2.2.2.1
  by_cases e : a = 0
  · rw [if_pos e, e, ← us_56 s4]
    exact ev_limbs L I J w 0 (sFA S) (by omega) s2
  · rw [if_neg e, show a = 1 by omega, ← us_56 s5]
    exact ev_limbs L I J w 1 (sFB S) (by omega) s3
theorem msg_a (L : Nat) (I : Nat → Nat → Int32) (J : Nat → Nat → Int64) (w : Nat → Nat) (x : Int32) (Q : Option Value → MH → Prop) (k0 : ¬ rg x 3 → WP m_Mo_sign (12, [some (.ref 208), some (.int x)], [], hp L I J w, 0, 0) Q) (k1 : rg x 3 → WP m_Mo_sign (15, [some (.ref 208), some (.int x)], [], hp L I J w, 0, 0) Q) : WP m_Mo_sign (0, [some (.ref 208), some (.int x)], [], hp L I J w, 0, 0) Q := by
  iterate 4 (refine WP.st rfl ?_)
  refine WP.calle rfl rfl (ev_in02 (hp L I J w) x) ?_
  exact WP.bn rfl k1 k0
theorem m_sign (L : Nat) (I : Nat → Nat → Int32) (J : Nat → Nat → Int64) (w : Nat → Nat) (S : St) (h : RI I J S) (x : Int32) : MM L I J w m_Mo_sign [.int x] (.int (oSign S x).1) (oSign S x).2 := by
  unfold MM SP oSign
  refine msg_a L I J w x _ (fun z => ?_) (fun z => ?_)
  · rw [if_neg (fun e => z ⟨by omega, by omega⟩), if_neg (fun e => z ⟨by omega, by omega⟩), if_neg (fun e => z ⟨by omega, by omega⟩)]
    iterate 1 (refine WP.st rfl ?_)
    exact WP.ret rfl ⟨rfl, I, J, FR.refl _ _ _ _, h, rfl⟩
  · obtain ⟨k, hk, rfl⟩ := rg_nI (n := 3) z
    rw [nI_toInt (by omega)]
    iterate 1 (refine WP.st rfl ?_)
    by_cases e0 : k = 0
    · rw [if_pos (by omega)]
      refine WP.iff rfl (show ¬ ¬ nI k = 0 by rw [e0]; exact fun y => y rfl) ?_
      iterate 1 (refine WP.st rfl ?_)
      refine WP.get (v := .int (sSg S)) rfl rfl (rfl) (congrArg Value.int h.2.2.2.1.1) ?_
      iterate 1 (refine WP.st rfl ?_)
      exact WP.ret rfl ⟨rfl, I, J, FR.refl _ _ _ _, h, rfl⟩
    · rw [if_neg (by omega)]
      refine WP.ift rfl (show ¬ nI k = 0 from nI_ne0 (by omega) (by omega)) ?_
      iterate 4 (refine WP.st rfl ?_)
      rw [show (nI k - Int32.ofInt 1 : Int32) = nI (k - 1) by rw [show k = k - 1 + 1 by omega]; exact nI_m1 _]
      refine WP.calle rfl rfl (ev_mlim L I J w S h (k - 1) (by omega)) ?_
      by_cases e1 : k = 1
      · rw [if_pos (by omega), if_pos (show (k : Int) = 1 by omega)]
        exact WP.ret rfl ⟨rfl, I, J, FR.refl _ _ _ _, h, rfl⟩
      · rw [if_neg (by omega), if_neg (show ¬ (k : Int) = 1 by omega), if_pos (by omega)]
        exact WP.ret rfl ⟨rfl, I, J, FR.refl _ _ _ _, h, rfl⟩
def oLimb (S : St) (x i : Int32) : Int32 × St := (if rg x 2 ∧ 0 ≤ i.toInt then (if i.toInt < (us (if x.toInt.toNat = 0 then sFA S else sFB S) 5 : Int) then (zJ (dg (if x.toInt.toNat = 0 then sFA S else sFB S) i.toInt.toNat)).toInt32 else -1) else -2, S)
theorem ev_cuX (L : Nat) (I : Nat → Nat → Int32) (J : Nat → Nat → Int64) (w : Nat → Nat) (S : St) (h : CI I J w S) (a : Nat) (ha : a < 2) : EV m_Li_used [.ref (135 + a)] (hp L I J w) (some (.int (nI (us (if a = 0 then sFA S else sFB S) 5)))) (hp L I J w) := by
  obtain ⟨s1, s2, s3, s4, s5⟩ := h.2.2.2.1
  by_cases e : a = 0
  · rw [if_pos e, e]
    exact ev_cuA L I J w (sFA S) s2
  · rw [if_neg e, show a = 1 by omega]
    exact ev_cuB L I J w (sFB S) s3
theorem clb_b (L : Nat) (I : Nat → Nat → Int32) (J : Nat → Nat → Int64) (w : Nat → Nat) (S : St) (h : CI I J w S) (x i : Int32) (a : Nat) (ha : a < 2) (hi : 0 ≤ i.toInt) : WP m_DT_limb (38, [some (.ref 2), some (.int x), some (.int i), some (.ref (135 + a))], [], hp L I J w, 0, 0) (fun v h => v = some (.int (if i.toInt < (us (if a = 0 then sFA S else sFB S) 5 : Int) then (zJ (dg (if a = 0 then sFA S else sFB S) i.toInt.toNat)).toInt32 else -1)) ∧ ∃ (I' : Nat → Nat → Int32) (J' : Nat → Nat → Int64) (w' : Nat → Nat), FR 1 207 I J I' J' ∧ CI I' J' w' S ∧ h = hp L I' J' w') := by
  obtain ⟨s1, s2, s3, s4, s5⟩ := h.2.2.2.1
  have hd : ∀ i, i < 5 → J (135 + a) i = zJ (dg (if a = 0 then sFA S else sFB S) i) := fun i hi => by
    by_cases e : a = 0
    · rw [if_pos e, e]; exact s2 i hi
    · rw [if_neg e, show a = 1 by omega]; exact s3 i hi
  have eu := ev_cuX L I J w S h a ha
  have kl : KK (135 + a) = 10 ∧ LL L (135 + a) = 5 := by
    rcases (show a = 0 ∨ a = 1 by omega) with rfl | rfl
    · exact ⟨rfl, rfl⟩
    · exact ⟨rfl, rfl⟩
  generalize (if a = 0 then sFA S else sFB S) = V at *
  have ul := us_le V 5
  have c0 := rg_test i (n := us V 5) (by omega)
  have c5 := x_lt i (m := 5) (by omega) (by omega)
  iterate 2 (refine WP.st rfl ?_)
  refine WP.calle rfl rfl (eu) ?_
  by_cases z : i.toInt < (us V 5 : Int)
  · rw [if_pos z]
    refine WP.icf rfl (show ¬ nI (us V 5) ≤ i from fun y => by have := c0.2.mp y; omega) ?_
    iterate 2 (refine WP.st rfl ?_)
    refine WP.alen (n := 5) rfl (Or.inl (by rw [show hK (hp L I J w) (135 + a) = 10 from kl.1]; omega)) kl.2 ?_
    refine WP.ict rfl (show i < zI 5 from c5.1.mpr (by omega)) ?_
    iterate 2 (refine WP.st rfl ?_)
    obtain ⟨k, hk, rfl⟩ := rg_nI (x := i) (n := 5) ⟨hi, by omega⟩
    rw [nI_toInt (by omega), Int.toNat_natCast]
    refine WP.lald (k := k) rfl (rfl) (Or.inl kl.1) (show k < LL L (135 + a) by rw [kl.2]; exact hk) (by show Nat.ble (LL L (135 + a)) 2560 = true; rw [kl.2]; rfl) ?_
    rw [show hJ (hp L I J w) (135 + a) k = zJ (dg V k) from hd k hk]
    iterate 1 (refine WP.st rfl ?_)
    exact WP.ret rfl ⟨rfl, I, J, w, FR.refl _ _ _ _, h, rfl⟩
  · rw [if_neg z]
    refine WP.ict rfl (c0.2.mpr (by omega)) ?_
    iterate 1 (refine WP.st rfl ?_)
    exact WP.ret rfl ⟨rfl, I, J, w, FR.refl _ _ _ _, h, rfl⟩
theorem c_limb (L : Nat) (I : Nat → Nat → Int32) (J : Nat → Nat → Int64) (w : Nat → Nat) (S : St) (h : CI I J w S) (x i : Int32) : CM L I J w m_DT_limb [.int x, .int i] (.int (oLimb S x i).1) (oLimb S x i).2 := by
  have c0 := rg_test x (n := 2) (by omega)
  have c1 := x_lt x (m := 1) (by omega) (by omega)
  have ci := x_lt i (m := 0) (by omega) (by omega)
  unfold CM SP oLimb
  have bad : ¬ (rg x 2 ∧ 0 ≤ i.toInt) → WP m_DT_limb (13, [some (.ref 2), some (.int x), some (.int i), none], [], hp L I J w, 0, 0) (fun v h => v = some (.int (if rg x 2 ∧ 0 ≤ i.toInt then (if i.toInt < (us (if x.toInt.toNat = 0 then sFA S else sFB S) 5 : Int) then (zJ (dg (if x.toInt.toNat = 0 then sFA S else sFB S) i.toInt.toNat)).toInt32 else -1) else -2)) ∧ ∃ (I' : Nat → Nat → Int32) (J' : Nat → Nat → Int64) (w' : Nat → Nat), FR 1 207 I J I' J' ∧ CI I' J' w' S ∧ h = hp L I' J' w') := fun z => by
    rw [if_neg z]
    iterate 1 (refine WP.st rfl ?_)
    exact WP.ret rfl ⟨rfl, I, J, w, FR.refl _ _ _ _, h, rfl⟩
  iterate 1 (refine WP.st rfl ?_)
  by_cases z : x.toInt < 0
  · refine WP.ift rfl (c0.1.mpr z) ?_
    exact bad (fun y => by have := y.1.1; omega)
  · skip
    refine WP.iff rfl (fun y => z (c0.1.mp y)) ?_
    iterate 2 (refine WP.st rfl ?_)
    by_cases z1 : 1 < x.toInt
    · refine WP.ict rfl (show zI 1 < x from c1.2.1.mpr z1) ?_
      exact bad (fun y => by have := y.1.2; omega)
    · skip
      refine WP.icf rfl (show ¬ zI 1 < x from fun y => z1 (c1.2.1.mp y)) ?_
      iterate 1 (refine WP.st rfl ?_)
      by_cases z2 : 0 ≤ i.toInt
      · refine WP.ift rfl (show (0 : Int32) ≤ i from ci.2.2.2.mpr z2) ?_
        rw [if_pos ⟨⟨by omega, by omega⟩, z2⟩]
        obtain ⟨k, hk, rfl⟩ := rg_nI (x := x) (n := 2) ⟨by omega, by omega⟩
        rw [nI_toInt (by omega), Int.toNat_natCast]
        iterate 1 (refine WP.st rfl ?_)
        by_cases e0 : k = 0
        · refine WP.iff rfl (show ¬ ¬ nI k = 0 by rw [e0]; exact fun y => y rfl) ?_
          iterate 5 (refine WP.st rfl ?_)
          have g := clb_b L I J w S h (nI k) i 0 (by omega) z2
          rw [e0]
          rw [e0] at g
          exact g
        · skip
          refine WP.ift rfl (show ¬ nI k = 0 from nI_ne0 (by omega) (by omega)) ?_
          iterate 4 (refine WP.st rfl ?_)
          have g := clb_b L I J w S h (nI k) i 1 (by omega) z2
          rw [show k = 1 by omega]
          rw [show k = 1 by omega] at g
          exact g
      · skip
        refine WP.iff rfl (show ¬ (0 : Int32) ≤ i from fun y => z2 (ci.2.2.2.mp y)) ?_
        exact bad (fun y => z2 y.2)
theorem ev_in01 (h : MH) (x : Int32) : EV m_Mo_in [.long x.toInt64, .long (Int64.ofNat 0), .long (Int64.ofNat 1)] h (some (.int (if rg x 2 then 1 else 0))) h := by
  have := ev_inC h x (A := Int64.ofNat 0) (B := Int64.ofNat 1) 0 (((2 : Nat) : Int) - 1) rfl (by decide) (by decide)
  rw [rg_in] at this
  exact this
theorem mlb_a (L : Nat) (I : Nat → Nat → Int32) (J : Nat → Nat → Int64) (w : Nat → Nat) (x i : Int32) (Q : Option Value → MH → Prop) (k0 : ¬ rg x 2 → WP m_Mo_limb (14, [some (.ref 208), some (.int x), some (.int i)], [], hp L I J w, 0, 0) Q) (k1 : rg x 2 → WP m_Mo_limb (10, [some (.ref 208), some (.int x), some (.int i)], [], hp L I J w, 0, 0) Q) : WP m_Mo_limb (0, [some (.ref 208), some (.int x), some (.int i)], [], hp L I J w, 0, 0) Q := by
  iterate 4 (refine WP.st rfl ?_)
  refine WP.calle rfl rfl (ev_in01 (hp L I J w) x) ?_
  exact WP.bz rfl k0 k1
theorem m_limb (L : Nat) (I : Nat → Nat → Int32) (J : Nat → Nat → Int64) (w : Nat → Nat) (S : St) (h : RI I J S) (x i : Int32) : MM L I J w m_Mo_limb [.int x, .int i] (.int (oLimb S x i).1) (oLimb S x i).2 := by
  obtain ⟨s1, s2, s3, s4, s5⟩ := h.2.2.2.1
  have ci := x_lt i (m := 0) (by omega) (by omega)
  unfold MM SP oLimb
  have bad : ¬ (rg x 2 ∧ 0 ≤ i.toInt) → WP m_Mo_limb (14, [some (.ref 208), some (.int x), some (.int i)], [], hp L I J w, 0, 0) (fun v h => v = some (.int (if rg x 2 ∧ 0 ≤ i.toInt then (if i.toInt < (us (if x.toInt.toNat = 0 then sFA S else sFB S) 5 : Int) then (zJ (dg (if x.toInt.toNat = 0 then sFA S else sFB S) i.toInt.toNat)).toInt32 else -1) else -2)) ∧ ∃ (I' : Nat → Nat → Int32) (J' : Nat → Nat → Int64), FR 208 228 I J I' J' ∧ RI I' J' S ∧ h = hp L I' J' w) := fun z => by
    rw [if_neg z]
    iterate 1 (refine WP.st rfl ?_)
    exact WP.ret rfl ⟨rfl, I, J, FR.refl _ _ _ _, h, rfl⟩
  refine mlb_a L I J w x i _ (fun z => bad (fun y => z y.1)) (fun z => ?_)
  iterate 1 (refine WP.st rfl ?_)
  by_cases z2 : 0 ≤ i.toInt
  · refine WP.ift rfl (show (0 : Int32) ≤ i from ci.2.2.2.mpr z2) ?_
    rw [if_pos ⟨z, z2⟩]
    obtain ⟨a, ha, rfl⟩ := rg_nI (n := 2) z
    rw [nI_toInt (by omega), Int.toNat_natCast]
    have hd : ∀ i, i < 6 → J 227 (6 * a + i) = zJ (dg (if a = 0 then sFA S else sFB S) i) := fun i hi => by
      by_cases e : a = 0
      · rw [if_pos e, e]; exact s2 i hi
      · rw [if_neg e, show a = 1 by omega]; exact s3 i hi
    have eu := ev_mlim L I J w S h a ha
    generalize (if a = 0 then sFA S else sFB S) = V at *
    have ul := us_le V 5
    have c0 := rg_test i (n := us V 5) (by omega)
    iterate 3 (refine WP.st rfl ?_)
    refine WP.calle rfl rfl (eu) ?_
    by_cases z3 : i.toInt < (us V 5 : Int)
    · rw [if_pos z3]
      refine WP.icf rfl (show ¬ nI (us V 5) ≤ i from fun y => by have := c0.2.mp y; omega) ?_
      iterate 7 (refine WP.st rfl ?_)
      obtain ⟨k, hk, rfl⟩ := rg_nI (x := i) (n := 5) ⟨z2, by omega⟩
      rw [nI_toInt (by omega), Int.toNat_natCast]
      refine WP.lald (k := 6 * a + k) rfl (ix6 a k) (Or.inl rfl) (show 6 * a + k < 48 by omega) (rfl) ?_
      rw [show hJ (hp L I J w) 227 (6 * a + k) = zJ (dg V k) from hd k (by omega)]
      iterate 2 (refine WP.st rfl ?_)
      exact WP.ret rfl ⟨rfl, I, J, FR.refl _ _ _ _, h, rfl⟩
    · rw [if_neg z3]
      refine WP.ict rfl (c0.2.mpr (by omega)) ?_
      iterate 1 (refine WP.st rfl ?_)
      exact WP.ret rfl ⟨rfl, I, J, FR.refl _ _ _ _, h, rfl⟩
  · skip
    refine WP.iff rfl (show ¬ (0 : Int32) ≤ i from fun y => z2 (ci.2.2.2.mp y)) ?_
    exact bad (fun y => z2 y.2)
