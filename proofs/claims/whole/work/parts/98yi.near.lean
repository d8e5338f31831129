def stF (S : St) (T D : Int) : St := (S.1, S.2.1, (sg T, fa T.natAbs D.natAbs, fbl T.natAbs D.natAbs), S.2.2.2)
/-- the fraction that a number (or the strain) becomes -/
def stR (S : St) (A : Nat → Nat → Int) (n : Nat) (v : Nat → Int) (s : Int) : St := stF S (det (n + 1) (bd n (gm 16 A) (fun i => gp (A i) (sRo S)) v s)) (det n (gm 16 A))
theorem fr_lt {n : Nat} {A : Nat → Nat → Int} {g v : Nat → Int} {s : Int} (hn : n ≤ 16) (hA : ∀ i, i < n → dt 16 (A i) (A i) ≤ 36) (hi : ind 16 n A) (hg : ∀ i, i < n → -14000 ≤ g i ∧ g i ≤ 14000) (hv : ∀ i, i < n → -14000 ≤ v i ∧ v i ≤ 14000) (hs : -1000 ≤ s ∧ s ≤ 1000) : fa (det (n + 1) (bd n (gm 16 A) g v s)).natAbs (det n (gm 16 A)).natAbs < 2 ^ 150 ∧ fbl (det (n + 1) (bd n (gm 16 A) g v s)).natAbs (det n (gm 16 A)).natAbs < 2 ^ 150 := by
  obtain ⟨b1, b2, b3, b4⟩ := frac_bounds hn hA hi hg hv hs
  generalize det (n + 1) (bd n (gm 16 A) g v s) = T at *
  generalize det n (gm 16 A) = D at *
  have e1 : (2147483549 : Int) ^ 4 < 2 ^ 150 := by decide
  have e2 : (37 : Int) ^ 16 < 2 ^ 150 := by decide
  have e3 : ((2 ^ 150 : Nat) : Int) = 2 ^ 150 := by decide
  refine ⟨Nat.lt_of_le_of_lt (Nat.div_le_self _ _) ?_, Nat.lt_of_le_of_lt (Nat.div_le_self _ _) ?_⟩
  · generalize (2147483549 : Int) ^ 4 = X at *
    omega
  · generalize (37 : Int) ^ 16 = X at *
    omega
theorem BA_congr {I : Nat → Nat → Int32} {A A' : Nat → Nat → Int} {g g' : Nat → Int} {n : Nat} (h : BA I A g n) (he : ∀ i, i < n → A i = A' i ∧ g i = g' i) : BA I A' g' n := by
  obtain ⟨a1, a2, a3, a4⟩ := h
  refine ⟨a1, a2, fun i hi => ?_, fun i hi => ?_⟩
  · rw [← (he i hi).1, ← (he i hi).2]; exact a3 i hi
  · rw [← (he i hi).1, ← (he i hi).2]; exact a4 i hi
theorem CI_mid {I I' : Nat → Nat → Int32} {J J' : Nat → Nat → Int64} {w w' : Nat → Nat} {S : St} (h : CI I J w S) (hf : FR 76 133 I J I' J') (hw : isP w') : CI I' J' w' S := by
  have g : ∀ c, c < 76 ∨ 133 < c → I' c = I c ∧ J' c = J c := fun c hc => hf c hc
  obtain ⟨a1, a2, a3, a4, a5⟩ := h
  exact ⟨C1_ext a1 (g 2 (by omega)).1 (g 3 (by omega)).1, C2_ext a2 (by rw [(g 2 (by omega)).1]) (fun c h1 h2 => g c (by omega)) (fun c hc => (g c (by omega)).1), ⟨hw, by rw [(g 1 (by omega)).2]; exact a3.2⟩, C4_ext a4 (g 134 (by omega)).1 (g 135 (by omega)).2 (g 136 (by omega)).2, CF_ext a5 (fun c h1 h2 _ => (g c (by omega)).1)⟩
theorem CI_frac {I : Nat → Nat → Int32} {J K : Nat → Nat → Int64} {w w' : Nat → Nat} {S : St} (h : CI I J w S) {T D : Int} (hK : ∀ c, c < 96 ∨ 140 < c → K c = J c) (hw : isP w') (h1 : ∀ i, i < 5 → K 135 i = zJ (dg (fa T.natAbs D.natAbs) i)) (h2 : ∀ i, i < 5 → K 136 i = zJ (dg (fbl T.natAbs D.natAbs) i)) (hl : fa T.natAbs D.natAbs < 2 ^ 150 ∧ fbl T.natAbs D.natAbs < 2 ^ 150) : CI (mm_up I 134 0 (sg T)) K w' (stF S T D) := by
  obtain ⟨a1, a2, a3, a4, a5⟩ := h
  have b1 : C1 (mm_up I 134 0 (sg T)) S := C1_ext a1 (up_ne I _ (by decide)) (up_ne I _ (by decide))
  have b2 : C2 (mm_up I 134 0 (sg T)) K S := C2_ext a2 (by rw [up_ne I _ (by decide)]) (fun c g1 g2 => ⟨up_ne I _ (by omega), hK c (by omega)⟩) (fun c hc => up_ne I _ (by omega))
  have b5 : CF (mm_up I 134 0 (sg T)) (sB S) (sBa S) (sBb S) := CF_ext a5 (fun c g1 g2 _ => up_ne I _ (by omega))
  exact ⟨b1, b2, ⟨hw, by rw [hK 1 (by omega)]; exact a3.2⟩, ⟨mm_up_at I _ _ _, h1, h2, hl.1, hl.2⟩, b5⟩
theorem ev_bclear (L : Nat) (I : Nat → Nat → Int32) (J : Nat → Nat → Int64) (w : Nat → Nat) : EV m_Ba_clear [.ref 76] (hp L I J w) none (hp L (mm_up I 76 2 0) J w) := by
  obtain ⟨r, h', e, q⟩ : SP m_Ba_clear [.ref 76] (hp L I J w) (fun r h' => r = none ∧ h' = hp L (mm_up I 76 2 0) J w) := by
    unfold SP
    iterate 3 (refine WP.st rfl ?_)
    exact WP.ret rfl ⟨rfl, rfl⟩
  obtain ⟨rfl, rfl⟩ := q
  exact e
theorem sp_gather (L : Nat) (I : Nat → Nat → Int32) (J : Nat → Nat → Int64) (w : Nat → Nat) (S : St) (h : CI I J w S) (hx : JX I J (sT S) (sOf S) (sTl S)) : SP m_DT_gatherHeld [.ref 2] (hp L I J w) (fun v h => v = none ∧ ∃ I' : Nat → Nat → Int32, FR 76 133 I J I' J ∧ BA I' (am (sT S) (sOf S) (sTl S)) (fun i => gp (am (sT S) (sOf S) (sTl S) i) (sRo S)) (rk (sT S) (sOf S) (sTl S)) ∧ h = hp L I' J w) := by
  have q1 := h.2.1.1
  have q2 := h.2.1.2.1
  unfold SP
  iterate 2 (refine WP.st rfl ?_)
  refine WP.calle rfl rfl (ev_bclear L I J w) ?_
  have q1' : mm_up I 76 2 0 2 3 = nI (sTl S) := by rw [up_ne I _ (by decide)]; exact q1
  iterate 4 (refine WP.st rfl ?_)
  refine WP.get (v := .int (nI (sTl S))) rfl rfl (rfl) (congrArg Value.int q1') ?_
  refine WP.inv (fun i (I1 : Nat → Nat → Int32) => (14, [some (.ref 2), some (.int (nI i))], [.int (nI (sTl S)), .int (nI i)], hp L I1 J w, 0, 0)) (fun i I1 => FR 76 133 I J I1 J ∧ BA I1 (am (sT S) (sOf S) i) (fun q => gp (am (sT S) (sOf S) i q) (sRo S)) (rk (sT S) (sOf S) i)) (sTl S) (mm_up I 76 2 0) ⟨fun c hc => ⟨up_ne I _ (by omega), rfl⟩, mm_up_at I _ _ _, Nat.zero_le _, fun i hi => absurd hi (Nat.not_lt_zero i), fun i hi => absurd hi (Nat.not_lt_zero i)⟩ (fun i I1 hi hv kk => ?_) (fun I1 hv => ?_)
  · obtain ⟨f1, f2⟩ := hv
    have c1 := CI_mid h f1 h.2.2.1.1
    have q1'' : I1 2 3 = nI (sTl S) := c1.2.1.1
    have kl := knd_le (sT S) (sOf S) i
    have hv13 : I1 13 i = nI (knd (sT S) (sOf S) i) := by rw [(f1 13 (by omega)).1]; exact (hx.2.2.1 i hi).1
    have hs := isSum_all i (by omega)
    refine WP.icf rfl (nI_ge hi (by omega)) ?_
    iterate 4 (refine WP.st rfl ?_)
    refine WP.iald (k := i) rfl (rfl) (Or.inl rfl) (show i < 20 by omega) (rfl) ?_
    rw [show hI (hp L I1 J w) 13 i = nI (knd (sT S) (sOf S) i) from hv13]
    by_cases z : knd (sT S) (sOf S) i = 0
    · have r16 := rk_16 (sT S) (sOf S) (i + 1)
      rw [rk_new z] at r16
      refine WP.iff rfl (show ¬ ¬ nI (knd (sT S) (sOf S) i) = 0 by rw [z]; exact fun y => y rfl) ?_
      iterate 5 (refine WP.st rfl ?_)
      refine WP.aald (k := i) rfl (rfl) (Or.inl rfl) (show i < 20 by omega) (rfl) (RR_sums w i (by omega)) ?_
      iterate 2 (refine WP.st rfl ?_)
      refine WP.call rfl rfl (sp_badd L I1 J w (sumP i) hs (Or.inr (by show 133 < 148 + 3 * i; omega)) (sT S i) ⟨_, _, _, c1.2.1.2.2.1 i hi⟩ (sRo S) c1.1.2.2 _ _ _ (by omega) f2) ?_
      rintro _ _ ⟨rfl, I2, g1, g2, rfl⟩
      have c2 := CI_mid h (f1.trans g1) h.2.2.1.1
      have k2 := kk I2 ⟨f1.trans g1, by
        rw [rk_new z]
        refine BA_congr g2 (fun q hq => ?_)
        unfold beh am
        rw [nos_new z]
        by_cases e : q = rk (sT S) (sOf S) i
        · rw [if_pos e, if_neg (by omega), if_neg (by omega)]; exact ⟨rfl, rfl⟩
        · rw [if_neg e, if_pos (by omega), if_pos (by omega)]; exact ⟨rfl, rfl⟩⟩
      rw [nI_succ i] at k2
      iterate 4 (refine WP.st rfl ?_)
      refine WP.get (v := .int (nI (sTl S))) rfl rfl (rfl) (congrArg Value.int c2.2.1.1) ?_
      exact k2
    · have k2 := kk I1 ⟨f1, by
        rw [rk_old z]
        unfold am at f2 ⊢
        rw [nos_old z]
        exact f2⟩
      refine WP.ift rfl (show ¬ nI (knd (sT S) (sOf S) i) = 0 from nI_ne0 (by omega) (by omega)) ?_
      rw [nI_succ i] at k2
      iterate 4 (refine WP.st rfl ?_)
      refine WP.get (v := .int (nI (sTl S))) rfl rfl (rfl) (congrArg Value.int q1'') ?_
      exact k2
  · obtain ⟨f1, f2⟩ := hv
    refine WP.ict rfl (nI_le (Nat.le_refl _) (by omega)) ?_
    exact WP.ret rfl ⟨rfl, I1, f1, f2, rfl⟩
theorem sp_cfrac (L : Nat) (I : Nat → Nat → Int32) (J : Nat → Nat → Int64) (w : Nat → Nat) (S : St) (h : CI I J w S) (A : Nat → Nat → Int) (n : Nat) (hB : BA I A (fun i => gp (A i) (sRo S)) n) (hi : ind 16 n A) (v : Nat → Int) (s : Int) (hv : ∀ i, i < n → -14000 ≤ v i ∧ v i ≤ 14000) (hs : -1000 ≤ s ∧ s ≤ 1000) (hT : TB J n (bd n (gm 16 A) (fun i => gp (A i) (sRo S)) v s)) : SP m_Ba_settle [.ref 76, .ref 134] (hp L I J w) (fun r h => r = none ∧ ∃ (I' : Nat → Nat → Int32) (J' : Nat → Nat → Int64) (w' : Nat → Nat), FR 76 140 I J I' J' ∧ CI I' J' w' (stR S A n v s) ∧ h = hp L I' J' w') := by
  refine WP.mono (sp_settle L I J w A _ v n s hB.2.1 hB.1 h.2.2.1.1 (fun i hi => (hB.2.2.2 i hi).1) hi (fun i hi => (hB.2.2.2 i hi).2) hv hs hT h.2.2.1.2) ?_
  rintro _ _ ⟨e, K, w', k1, k2, k3, k4, rfl⟩
  exact ⟨e, _, K, w', fun c hc => ⟨up_ne I _ (by omega), k1 c (by omega)⟩, CI_frac h (fun c hc => k1 c (by omega)) k2 k3 k4 (fr_lt hB.2.1 (fun i hi => (hB.2.2.2 i hi).1) hi (fun i hi => (hB.2.2.2 i hi).2) hv hs), rfl⟩
theorem sp_fn (L : Nat) (I : Nat → Nat → Int32) (J : Nat → Nat → Int64) (w : Nat → Nat) (S : St) (h : CI I J w S) (A : Nat → Nat → Int) (n : Nat) (hB : BA I A (fun i => gp (A i) (sRo S)) n) (hi : ind 16 n A) (k : Nat) (hk : k < 16) : SP m_DT_findNearest [.ref 2, .int (nI k)] (hp L I J w) (fun r h => r = none ∧ ∃ (I' : Nat → Nat → Int32) (J' : Nat → Nat → Int64) (w' : Nat → Nat), FR 76 140 I J I' J' ∧ CI I' J' w' (stR S A n (fun i => A i k) (sRo S k)) ∧ h = hp L I' J' w') := by
  obtain ⟨r1, r2, r3⟩ := h.1.2.2 k hk
  unfold SP
  iterate 6 (refine WP.st rfl ?_)
  refine WP.iald (k := k) rfl (rfl) (Or.inl rfl) (show k < 16 by omega) (rfl) ?_
  rw [show hI (hp L I J w) 3 k = zI (sRo S k) from r1]
  refine WP.call rfl rfl (sp_aimAt L I J w A _ n hB k hk (sRo S k) ⟨r2, r3⟩) ?_
  rintro _ _ ⟨rfl, K, k1, k2, rfl⟩
  have f1 : FR 76 133 I J I K := fun c hc => ⟨rfl, k1 c (by omega)⟩
  iterate 4 (refine WP.st rfl ?_)
  refine WP.call rfl rfl (sp_cfrac L I K w S (CI_mid h f1 h.2.2.1.1) A n hB hi (fun i => A i k) (sRo S k) (fun i hi => by have := ent6 (hB.2.2.2 i hi).1 hk; omega) ⟨r2, r3⟩ k2) ?_
  rintro _ _ ⟨rfl, I2, J2, w2, g1, g2, rfl⟩
  exact WP.ret rfl ⟨rfl, I2, J2, w2, (FR_wide f1 (by omega) (by omega)).trans g1, g2, rfl⟩
noncomputable def oNear (S : St) (x : Int32) : Int32 × St := if rg x (2 * sPt S : Nat) then (1, stR S (am (sT S) (sOf S) (sTl S)) (rk (sT S) (sOf S) (sTl S)) (fun i => am (sT S) (sOf S) (sTl S) i x.toInt.toNat) (sRo S x.toInt.toNat)) else (-2, S)
theorem c_nearest (L : Nat) (I : Nat → Nat → Int32) (J : Nat → Nat → Int64) (w : Nat → Nat) (S : St) (h : CI I J w S) (x : Int32) : CM L I J w m_DT_nearest [.int x] (.int (oNear S x).1) (oNear S x).2 := by
  obtain ⟨p1, p2, p3⟩ := h.1
  have q1 := h.2.1.1
  unfold CM SP oNear
  iterate 2 (refine WP.st rfl ?_)
  refine WP.calle rfl rfl (ev_isNumber L I J w (sPt S) p2 p1 x) ?_
  refine WP.bn rfl (fun z => ?_) (fun z => ?_)
  · rw [if_pos z]
    obtain ⟨k, hk, rfl⟩ := rg_nI z
    rw [nI_toInt (by omega), Int.toNat_natCast]
    iterate 5 (refine WP.st rfl ?_)
    refine WP.get (v := .int (nI (sTl S))) rfl rfl (rfl) (congrArg Value.int q1) ?_
    refine WP.call rfl rfl (sp_cj L I J w S h) ?_
    rintro _ _ ⟨rfl, I1, J1, f1, f2, f3, f4, rfl⟩
    iterate 1 (refine WP.st rfl ?_)
    refine WP.call rfl rfl (sp_gather L I1 J1 w S f2 f3) ?_
    rintro _ _ ⟨rfl, I2, g1, g2, rfl⟩
    iterate 2 (refine WP.st rfl ?_)
    refine WP.call rfl rfl (sp_fn L I2 J1 w S (CI_mid f2 g1 f2.2.2.1.1) _ _ g2 (am_ind _ _ _) k (by omega)) ?_
    rintro _ _ ⟨rfl, I3, J3, w3, l1, l2, rfl⟩
    iterate 1 (refine WP.st rfl ?_)
    exact WP.ret rfl ⟨rfl, I3, J3, w3, (FR_wide f1 (by omega) (by omega)).trans ((FR_wide g1 (by omega) (by omega)).trans (FR_wide l1 (by omega) (by omega))), l2, rfl⟩
  · rw [if_neg z]
    iterate 1 (refine WP.st rfl ?_)
    exact WP.ret rfl ⟨rfl, I, J, w, FR.refl _ _ _ _, h, rfl⟩
noncomputable def oStrain (S : St) : Int32 × St := (1, stR S (am (sT S) (sOf S) (sTl S)) (rk (sT S) (sOf S) (sTl S)) (fun i => gp (am (sT S) (sOf S) (sTl S) i) (sRo S)) 0)
theorem c_strain (L : Nat) (I : Nat → Nat → Int32) (J : Nat → Nat → Int64) (w : Nat → Nat) (S : St) (h : CI I J w S) : CM L I J w m_DT_strain [] (.int (oStrain S).1) (oStrain S).2 := by
  have q1 := h.2.1.1
  unfold CM SP oStrain
  iterate 5 (refine WP.st rfl ?_)
  refine WP.get (v := .int (nI (sTl S))) rfl rfl (rfl) (congrArg Value.int q1) ?_
  refine WP.call rfl rfl (sp_cj L I J w S h) ?_
  rintro _ _ ⟨rfl, I1, J1, f1, f2, f3, f4, rfl⟩
  iterate 1 (refine WP.st rfl ?_)
  refine WP.call rfl rfl (sp_gather L I1 J1 w S f2 f3) ?_
  rintro _ _ ⟨rfl, I2, g1, g2, rfl⟩
  iterate 2 (refine WP.st rfl ?_)
  refine WP.call rfl rfl (sp_aimStrain L I2 J1 w _ _ _ g2) ?_
  rintro _ _ ⟨rfl, K, k1, k2, rfl⟩
  have fk : FR 76 133 I2 J1 I2 K := fun c hc => ⟨rfl, k1 c (by omega)⟩
  iterate 4 (refine WP.st rfl ?_)
  refine WP.call rfl rfl (sp_cfrac L I2 K w S (CI_mid f2 (g1.trans fk) f2.2.2.1.1) _ _ g2 (am_ind _ _ _) (fun i => gp (am (sT S) (sOf S) (sTl S) i) (sRo S)) 0 (fun i hi => (g2.2.2.2 i hi).2) (by omega) k2) ?_
  rintro _ _ ⟨rfl, I3, J3, w3, l1, l2, rfl⟩
  iterate 1 (refine WP.st rfl ?_)
  exact WP.ret rfl ⟨rfl, I3, J3, w3, (FR_wide f1 (by omega) (by omega)).trans ((FR_wide (g1.trans fk) (by omega) (by omega)).trans (FR_wide l1 (by omega) (by omega))), l2, rfl⟩
