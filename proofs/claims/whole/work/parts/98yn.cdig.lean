theorem cs_count (L : Nat) (I : Nat → Nat → Int32) (J : Nat → Nat → Int64) (w : Nat → Nat) (S : St) (h : CI I J w S) (x : Int32) : SP m_DT_count [.ref 2, .int x] (hp L I J w) (fun v h => v = some (.int (oCount S x).1) ∧ h = hp L I J w) := by
  unfold SP oCount
  refine WP.st rfl ?_
  by_cases z : x.toInt < 0 ∨ 3 < x.toInt
  · rw [if_neg (by omega), if_neg (by omega), if_neg (by omega), if_neg (by omega)]
    refine WP.tsd (tgt := 55) rfl z rfl ?_
    iterate 1 (refine WP.st rfl ?_)
    exact WP.ret rfl ⟨rfl, rfl⟩
  · by_cases e0 : x.toInt = 0
    · rw [if_pos e0]
      refine WP.tsi (off := 31) (tgt := 32) rfl z (by rw [e0]; rfl) rfl ?_
      iterate 1 (refine WP.st rfl ?_)
      refine WP.get (v := .int (nI (sPt S))) rfl rfl (rfl) (congrArg Value.int h.1.1) ?_
      exact WP.ret rfl ⟨rfl, rfl⟩
    · rw [if_neg e0]
      by_cases e1 : x.toInt = 1
      · rw [if_pos e1]
        refine WP.tsi (off := 36) (tgt := 37) rfl z (by rw [e1]; rfl) rfl ?_
        iterate 1 (refine WP.st rfl ?_)
        refine WP.get (v := .int (nI (sTl S))) rfl rfl (rfl) (congrArg Value.int h.2.1.1) ?_
        exact WP.ret rfl ⟨rfl, rfl⟩
      · rw [if_neg e1]
        by_cases e2 : x.toInt = 2
        · rw [if_pos e2]
          refine WP.tsi (off := 41) (tgt := 42) rfl z (by rw [e2]; rfl) rfl ?_
          iterate 1 (refine WP.st rfl ?_)
          refine WP.calle rfl rfl (ev_howManyOff L I J w (sOf S) (sTl S) h.2.1.2.1 h.2.1.1 h.2.1.2.2.2.1) ?_
          exact WP.ret rfl ⟨rfl, rfl⟩
        · rw [if_neg e2, if_pos (show x.toInt = 3 by omega)]
          refine WP.tsi (off := 46) (tgt := 47) rfl z (by rw [show x.toInt = 3 by omega]; rfl) rfl ?_
          iterate 2 (refine WP.st rfl ?_)
          refine WP.get (v := .int (nI (sB S))) rfl rfl (rfl) (congrArg Value.int h.2.2.2.2.1) ?_
          exact WP.ret rfl ⟨rfl, rfl⟩
theorem ms_count (L : Nat) (I : Nat → Nat → Int32) (J : Nat → Nat → Int64) (w : Nat → Nat) (S : St) (h : RI I J S) (x : Int32) : SP m_Mo_count [.ref 208, .int x] (hp L I J w) (fun v h => v = some (.int (oCount S x).1) ∧ h = hp L I J w) := by
  have q0 := x_lt x (m := 0) (by omega) (by omega)
  have xe : ∀ k : Nat, k < 4 → (x = nI k ↔ x.toInt = (k : Int)) := fun k hk => ⟨fun e => by rw [e]; exact nI_toInt (by omega), fun e => by rw [zI_of x, e, nI_zI]⟩
  obtain ⟨ba, bb, hB, -⟩ := h.2.2.2.2
  unfold SP oCount
  refine mn_a L I J w x _ (fun z => ?_) (fun z => mn_b L I J w S h x _ ?_)
  · rw [if_neg (fun e => z ⟨by omega, by omega⟩), if_neg (fun e => z ⟨by omega, by omega⟩), if_neg (fun e => z ⟨by omega, by omega⟩), if_neg (fun e => z ⟨by omega, by omega⟩)]
    iterate 1 (refine WP.st rfl ?_)
    exact WP.ret rfl ⟨rfl, rfl⟩
  · have z1 := z.1
    have z2 := z.2
    iterate 1 (refine WP.st rfl ?_)
    by_cases e0 : x.toInt = 0
    · rw [if_pos e0]
      refine WP.iff rfl (show ¬ ¬ x = 0 from fun y => y ((xe 0 (by omega)).mpr e0)) ?_
      iterate 1 (refine WP.st rfl ?_)
      refine WP.get (v := .int (nI (sPt S))) rfl rfl (rfl) (congrArg Value.int h.1.1) ?_
      iterate 1 (refine WP.st rfl ?_)
      exact WP.ret rfl ⟨rfl, rfl⟩
    · rw [if_neg e0]
      refine WP.ift rfl (show ¬ x = 0 from fun y => e0 ((xe 0 (by omega)).mp y)) ?_
      iterate 2 (refine WP.st rfl ?_)
      by_cases e1 : x.toInt = 1
      · rw [if_pos e1]
        refine WP.icf rfl (show ¬ ¬ x = nI 1 from fun y => y ((xe 1 (by omega)).mpr e1)) ?_
        iterate 1 (refine WP.st rfl ?_)
        refine WP.get (v := .int (nI (sTl S))) rfl rfl (rfl) (congrArg Value.int h.2.1.1) ?_
        iterate 1 (refine WP.st rfl ?_)
        exact WP.ret rfl ⟨rfl, rfl⟩
      · rw [if_neg e1]
        refine WP.ict rfl (show ¬ x = nI 1 from fun y => e1 ((xe 1 (by omega)).mp y)) ?_
        iterate 2 (refine WP.st rfl ?_)
        by_cases e2 : x.toInt = 2
        · rw [if_pos e2]
          refine WP.icf rfl (show ¬ ¬ x = nI 2 from fun y => y ((xe 2 (by omega)).mpr e2)) ?_
          iterate 2 (refine WP.st rfl ?_)
          exact WP.ret rfl ⟨rfl, rfl⟩
        · rw [if_neg e2, if_pos (show x.toInt = 3 by omega)]
          refine WP.ict rfl (show ¬ x = nI 2 from fun y => e2 ((xe 2 (by omega)).mp y)) ?_
          iterate 1 (refine WP.st rfl ?_)
          refine WP.get (v := .int (nI (sB S))) rfl rfl (rfl) (congrArg Value.int hB.1) ?_
          exact WP.ret rfl ⟨rfl, rfl⟩
theorem ms_sign (L : Nat) (I : Nat → Nat → Int32) (J : Nat → Nat → Int64) (w : Nat → Nat) (S : St) (h : RI I J S) (x : Int32) : SP m_Mo_sign [.ref 208, .int x] (hp L I J w) (fun v h => v = some (.int (oSign S x).1) ∧ h = hp L I J w) := by
  unfold SP oSign
  refine msg_a L I J w x _ (fun z => ?_) (fun z => ?_)
  · rw [if_neg (fun e => z ⟨by omega, by omega⟩), if_neg (fun e => z ⟨by omega, by omega⟩), if_neg (fun e => z ⟨by omega, by omega⟩)]
    iterate 1 (refine WP.st rfl ?_)
    exact WP.ret rfl ⟨rfl, rfl⟩
  · obtain ⟨k, hk, rfl⟩ := rg_nI (n := 3) z
    rw [nI_toInt (by omega)]
    iterate 1 (refine WP.st rfl ?_)
    by_cases e0 : k = 0
    · rw [if_pos (by omega)]
      refine WP.iff rfl (show ¬ ¬ nI k = 0 by rw [e0]; exact fun y => y rfl) ?_
      iterate 1 (refine WP.st rfl ?_)
      refine WP.get (v := .int (sSg S)) rfl rfl (rfl) (congrArg Value.int h.2.2.2.1.1) ?_
      iterate 1 (refine WP.st rfl ?_)
      exact WP.ret rfl ⟨rfl, rfl⟩
    · rw [if_neg (by omega)]
      refine WP.ift rfl (show ¬ nI k = 0 from nI_ne0 (by omega) (by omega)) ?_
      iterate 4 (refine WP.st rfl ?_)
      rw [show (nI k - Int32.ofInt 1 : Int32) = nI (k - 1) by rw [show k = k - 1 + 1 by omega]; exact nI_m1 _]
      refine WP.calle rfl rfl (ev_mlim L I J w S h (k - 1) (by omega)) ?_
      by_cases e1 : k = 1
      · rw [if_pos (by omega), if_pos (show (k : Int) = 1 by omega)]
        exact WP.ret rfl ⟨rfl, rfl⟩
      · rw [if_neg (by omega), if_neg (show ¬ (k : Int) = 1 by omega), if_pos (by omega)]
        exact WP.ret rfl ⟨rfl, rfl⟩
theorem fl_congr {σ : Type} {f g : Nat → σ → σ} : ∀ n s, (∀ i, i < n → ∀ x, f i x = g i x) → fl f n s = fl g n s
  | 0, _, _ => rfl
  | n + 1, s, h => by
    show f n (fl f n s) = g n (fl g n s)
    rw [fl_congr n s (fun i hi => h i (by omega)), h n (by omega)]
def pT (t : Nat → Int) (n : Nat) (nm : Nat → Nat) (fc : Nat → Int) (h : Int64) : Int64 := fl (fun i x => 31 * (31 * x + (nI (nm i)).toInt64) + (zI (fc i)).toInt64) n (31 * (31 * h + (zI (t 16)).toInt64) + (nI n).toInt64)
theorem sm_pT {I : Nat → Nat → Int32} {s n : Nat} {nm : Nat → Nat} {fc t : Nat → Int} (h : tT I s n nm fc t) (x : Int64) : sm_dg I s x n = pT t n nm fc x := by
  obtain ⟨t1, t2, t3, t4, t5, t6, t7⟩ := h
  unfold sm_dg pT
  rw [t1, t4]
  exact fl_congr n _ (fun i hi x => by rw [(t5 i hi).1, (t5 i hi).2.2.1])
def dH1 (S : St) : Nat → Int64 := fun i => fl (fun i x => 31 * x + ((oCount S (nI i)).1).toInt64) i 409
def dH2 (S : St) (h : Int64) : Nat → Int64 := fun i => fl (fun i x => 31 * x + (zI (sRo S i)).toInt64) i h
noncomputable def dH3 (S : St) (h : Int64) : Nat → Int64 := fun i => fl (fun t x => 31 * pT (sT S t) (sTn S t) (sNm S t) (sFc S t) x + (nI (knd (sT S) (sOf S) t)).toInt64) i h
noncomputable def dH5 (S : St) (h : Int64) : Nat → Int64 := fun i => fl (fun i x => 31 * (31 * (31 * x + (nI (sBa S i)).toInt64) + (nI (sBb S i)).toInt64) + (if bI (mny (sBa S) (sBb S) i) = 0 then 0 else 1)) i h
def dH7 (S : St) (x : Int64) : Int64 := fr_d1 (sFB S) (fr_d1 (sFA S) (31 * (31 * (31 * x + (sSg S).toInt64) + (nI (us (sFA S) 5)).toInt64) + (nI (us (sFB S) 5)).toInt64) (us (sFA S) 5)) (us (sFB S) 5)
noncomputable def dH4 (S : St) : Int64 := pT (sT S 20) (sTn S 20) (sNm S 20) (sFc S 20) (dH3 S (dH2 S (dH1 S 4) (2 * sPt S)) (sTl S))
noncomputable def oDigest (S : St) : Int64 := dH7 S (31 * dH5 S (dH4 S) (sB S) + (oWhole S).1.toInt64)
theorem cdg_1 (L : Nat) (I : Nat → Nat → Int32) (J : Nat → Nat → Int64) (w : Nat → Nat) (S : St) (h : CI I J w S) (Q : Option Value → MH → Prop) (k : WP m_DT_digest (45, [some (.ref 2), some (.long (dH1 S 4)), none, some (.int (nI 4))], [], hp L I J w, 0, 0) Q) : WP m_DT_digest (15, [some (.ref 2), none, none, none], [], hp L I J w, 0, 0) Q := by
  iterate 6 (refine WP.st rfl ?_)
  refine WP.inv (fun i (_ : Unit) => (23, [some (.ref 2), some (.long (dH1 S i)), none, some (.int (nI i))], [.int (nI 4), .int (nI i)], hp L I J w, 0, 0)) (fun _ _ => True) 4 () trivial (fun i _ hi _ kk => ?_) (fun _ _ => ?_)
  · have k2 := kk () trivial
    rw [nI_succ i] at k2
    refine WP.icf rfl (nI_ge hi (by omega)) ?_
    iterate 5 (refine WP.st rfl ?_)
    refine WP.call rfl rfl (cs_count L I J w S h (nI i)) ?_
    rintro _ _ ⟨rfl, rfl⟩
    iterate 7 (refine WP.st rfl ?_)
    exact k2
  · skip
    refine WP.ict rfl (nI_le (Nat.le_refl _) (by omega)) ?_
    exact k
theorem cdg_2 (L : Nat) (I : Nat → Nat → Int32) (J : Nat → Nat → Int64) (w : Nat → Nat) (S : St) (h : CI I J w S) (x : Int64) (o3 : Int32) (Q : Option Value → MH → Prop) (k : WP m_DT_digest (77, [some (.ref 2), some (.long (dH2 S x (2 * sPt S))), none, some (.int (nI (2 * sPt S)))], [], hp L I J w, 0, 0) Q) : WP m_DT_digest (45, [some (.ref 2), some (.long x), none, some (.int o3)], [], hp L I J w, 0, 0) Q := by
  obtain ⟨p1, p2, p3⟩ := h.1
  iterate 5 (refine WP.st rfl ?_)
  refine WP.get (v := .int (nI (sPt S))) rfl rfl (rfl) (congrArg Value.int p1) ?_
  iterate 1 (refine WP.st rfl ?_)
  rw [ix2]
  refine WP.inv (fun i (_ : Unit) => (54, [some (.ref 2), some (.long (dH2 S x i)), none, some (.int (nI i))], [.int (nI (2 * sPt S)), .int (nI i)], hp L I J w, 0, 0)) (fun _ _ => True) (2 * sPt S) () trivial (fun i _ hi _ kk => ?_) (fun _ _ => ?_)
  · have k2 := kk () trivial
    rw [nI_succ i, ← ix2] at k2
    refine WP.icf rfl (nI_ge hi (by omega)) ?_
    iterate 6 (refine WP.st rfl ?_)
    refine WP.iald (k := i) rfl (rfl) (Or.inl rfl) (show i < 16 by omega) (rfl) ?_
    rw [show hI (hp L I J w) 3 i = zI (sRo S i) from (p3 i (by omega)).1]
    iterate 8 (refine WP.st rfl ?_)
    refine WP.get (v := .int (nI (sPt S))) rfl rfl (rfl) (congrArg Value.int p1) ?_
    iterate 1 (refine WP.st rfl ?_)
    exact k2
  · skip
    refine WP.ict rfl (nI_le (Nat.le_refl _) (by omega)) ?_
    exact k
theorem cdg_3 (L : Nat) (I : Nat → Nat → Int32) (J : Nat → Nat → Int64) (w : Nat → Nat) (S : St) (h : CI I J w S) (hx : JX I J (sT S) (sOf S) (sTl S)) (x : Int64) (o3 : Int32) (Q : Option Value → MH → Prop) (k : WP m_DT_digest (119, [some (.ref 2), some (.long (dH3 S x (sTl S))), none, some (.int (nI (sTl S)))], [], hp L I J w, 0, 0) Q) : WP m_DT_digest (77, [some (.ref 2), some (.long x), none, some (.int o3)], [], hp L I J w, 0, 0) Q := by
  obtain ⟨q1, q2, q3, q4, -⟩ := h.2.1
  iterate 4 (refine WP.st rfl ?_)
  refine WP.get (v := .int (nI (sTl S))) rfl rfl (rfl) (congrArg Value.int q1) ?_
  refine WP.inv (fun i (_ : Unit) => (84, [some (.ref 2), some (.long (dH3 S x i)), none, some (.int (nI i))], [.int (nI (sTl S)), .int (nI i)], hp L I J w, 0, 0)) (fun _ _ => True) (sTl S) () trivial (fun i _ hi _ kk => ?_) (fun _ _ => ?_)
  · have k2 := kk () trivial
    have hs := isSum_all i (by omega)
    have t := q3 i hi
    rw [nI_succ i] at k2
    refine WP.icf rfl (nI_ge hi (by omega)) ?_
    iterate 4 (refine WP.st rfl ?_)
    refine WP.aald (k := i) rfl (rfl) (Or.inl rfl) (show i < 20 by omega) (rfl) (RR_sums w i (by omega)) ?_
    iterate 1 (refine WP.st rfl ?_)
    refine WP.cve rfl rfl rfl rfl rfl (hs.1) rfl rfl rfl (ev_smDigest L I J w (sumP i) hs (dH3 S x i) (sTn S i) t.2.2.1 t.2.2.2.1) ?_
    rw [sm_pT t]
    iterate 5 (refine WP.st rfl ?_)
    refine WP.iald (k := i) rfl (rfl) (Or.inl rfl) (show i < 20 by omega) (rfl) ?_
    rw [show hI (hp L I J w) 13 i = nI (knd (sT S) (sOf S) i) from (hx.2.2.1 i hi).1]
    iterate 7 (refine WP.st rfl ?_)
    refine WP.get (v := .int (nI (sTl S))) rfl rfl (rfl) (congrArg Value.int q1) ?_
    exact k2
  · skip
    refine WP.ict rfl (nI_le (Nat.le_refl _) (by omega)) ?_
    exact k
theorem fm_d5 {I : Nat → Nat → Int32} {S : St} (h : CF I (sB S) (sBa S) (sBb S)) (x : Int64) : fm_dg I x (sB S) = dH5 S x (sB S) := by
  unfold fm_dg dH5
  refine fl_congr _ _ (fun i hi y => ?_)
  obtain ⟨g1, g2, g3, g4, g5, g6, -⟩ := h.2.2.1 i hi
  rw [g1, g3, g6]
theorem cdg_4 (L : Nat) (I : Nat → Nat → Int32) (J : Nat → Nat → Int64) (w : Nat → Nat) (S : St) (h : CI I J w S) (x : Int64) (o3 : Int32) (Q : Option Value → MH → Prop) (k : WP m_DT_digest (135, [some (.ref 2), some (.long (dH5 S (pT (sT S 20) (sTn S 20) (sNm S 20) (sFc S 20) x) (sB S))), none, some (.int o3)], [], hp L I J w, 0, 0) Q) : WP m_DT_digest (119, [some (.ref 2), some (.long x), none, some (.int o3)], [], hp L I J w, 0, 0) Q := by
  obtain ⟨q1, q2, q3, q4, q5, q6, q7⟩ := h.2.1
  have cf := h.2.2.2.2
  iterate 5 (refine WP.st rfl ?_)
  refine WP.calle rfl rfl (ev_smDigest L I J w 5 isSum_asked x (sTn S 20) q7.2.2.1 q7.2.2.2.1) ?_
  rw [sm_pT q7]
  refine WP.calle rfl rfl (ev_fmDigest L I J w (pT (sT S 20) (sTn S 20) (sNm S 20) (sFc S 20) x) (sB S) cf.2.1 cf.1) ?_
  rw [fm_d5 cf]
  iterate 1 (refine WP.st rfl ?_)
  exact k
theorem cdg_5 (L : Nat) (I : Nat → Nat → Int32) (J : Nat → Nat → Int64) (w : Nat → Nat) (S : St) (h : CI I J w S) (x : Int64) (o3 : Int32) (Q : Option Value → MH → Prop) (k : ∀ (I' : Nat → Nat → Int32) (J' : Nat → Nat → Int64) (w' : Nat → Nat), FR 1 207 I J I' J' → CI I' J' w' S → WP m_DT_digest (147, [some (.ref 2), some (.long (31 * x + (oWhole S).1.toInt64)), none, some (.int o3)], [], hp L I' J' w', 0, 0) Q) : WP m_DT_digest (135, [some (.ref 2), some (.long x), none, some (.int o3)], [], hp L I J w, 0, 0) Q := by
  iterate 4 (refine WP.st rfl ?_)
  refine WP.call rfl rfl (c_whole L I J w S h) ?_
  rintro _ _ ⟨rfl, I1, J1, w1, f1, f2, rfl⟩
  iterate 3 (refine WP.st rfl ?_)
  exact k I1 J1 w1 f1 f2
theorem cdg_6 (L : Nat) (I : Nat → Nat → Int32) (J : Nat → Nat → Int64) (w : Nat → Nat) (S : St) (h : CI I J w S) (x : Int64) (o3 : Int32) : WP m_DT_digest (147, [some (.ref 2), some (.long x), none, some (.int o3)], [], hp L I J w, 0, 0) (fun v h => v = some (.long (dH7 S x)) ∧ h = hp L I J w) := by
  obtain ⟨s1, s2, s3, s4, s5⟩ := h.2.2.2.1
  have e := ev_frDigest L I J w x (sFA S) (sFB S)
  rw [lm_self J 135 _ s2, lm_self J 136 _ s3, s1] at e
  iterate 3 (refine WP.st rfl ?_)
  refine WP.calle rfl rfl (e) ?_
  exact WP.ret rfl ⟨rfl, rfl⟩
theorem c_digest (L : Nat) (I : Nat → Nat → Int32) (J : Nat → Nat → Int64) (w : Nat → Nat) (S : St) (h : CI I J w S) : CM L I J w m_DT_digest [] (.long (oDigest S)) S := by
  unfold CM SP
  iterate 5 (refine WP.st rfl ?_)
  refine WP.get (v := .int (nI (sTl S))) rfl rfl (rfl) (congrArg Value.int h.2.1.1) ?_
  refine WP.call rfl rfl (sp_cj L I J w S h) ?_
  rintro _ _ ⟨rfl, I1, J1, f1, f2, f3, f4, rfl⟩
  refine cdg_1 L I1 J1 w S f2 _ (cdg_2 L I1 J1 w S f2 _ _ _ (cdg_3 L I1 J1 w S f2 f3 _ _ _ (cdg_4 L I1 J1 w S f2 _ _ _ (cdg_5 L I1 J1 w S f2 _ _ _ (fun I2 J2 w2 g1 g2 => ?_)))))
  refine WP.mono (cdg_6 L I2 J2 w2 S g2 _ _) ?_
  rintro _ _ ⟨rfl, rfl⟩
  exact ⟨rfl, I2, J2, w2, (FR_wide f1 (by omega) (by omega)).trans g1, g2, rfl⟩
