theorem gp_row {n : Nat} {nm : Nat → Nat} {fc t ρ : Nat → Int} (h : rowOK n nm fc t) (hρ : ∀ c, c < 16 → -1000 ≤ ρ c ∧ ρ c ≤ 1000) : -14000 ≤ gp t ρ ∧ gp t ρ ≤ 14000 := by
  obtain ⟨t2, t3, t5, t6, t7⟩ := h
  exact gp_bound (I := fun c k => if c = 0 then (if k = 0 then zI (t 16) else nI n) else if c = 1 then nI (nm k) else zI (fc k)) (s := 0) ⟨n, nm, fc, rfl, t2, t3, rfl, fun k hk => ⟨rfl, (t5 k hk).1, rfl, (t5 k hk).2⟩, t6, t7⟩ hρ
theorem RI_frac {I I' : Nat → Nat → Int32} {J K : Nat → Nat → Int64} {S : St} (h : RI I J S) {T D : Int} (h1 : ∀ c, c ≠ 208 → c ≠ 219 → c ≠ 223 → I' c = I c) (h2 : ∀ k, k ≠ 20 → k ≠ 25 → I' 208 k = I 208 k) (h3 : R3 I' K) (h25 : I' 208 25 = sg T) (z0 : zv K 0 (fa T.natAbs D.natAbs)) (z1 : zv K 1 (fbl T.natAbs D.natAbs)) (hl : fa T.natAbs D.natAbs < 2 ^ 150 ∧ fbl T.natAbs D.natAbs < 2 ^ 150) : RI I' K (stF S T D) := by
  obtain ⟨a1, a2, -, -, a5⟩ := h
  have b1 : R1 I' S := by
    unfold R1 RR8 at *
    rw [h2 0 (by decide) (by decide), h1 209 (by decide) (by decide) (by decide)]
    exact a1
  have b2 : R2 I' S := by
    unfold R2 rR at *
    rw [h2 2 (by decide) (by decide), h1 210 (by decide) (by decide) (by decide), h1 211 (by decide) (by decide) (by decide), h1 212 (by decide) (by decide) (by decide), h1 213 (by decide) (by decide) (by decide), h1 214 (by decide) (by decide) (by decide)]
    exact a2
  have b5 : R5 I' S := by
    unfold R5 BR BA21 at *
    rw [h2 10 (by decide) (by decide), h1 216 (by decide) (by decide) (by decide), h1 217 (by decide) (by decide) (by decide)]
    exact a5
  exact ⟨b1, b2, h3, ⟨h25, z0, z1, hl.1, hl.2⟩, b5⟩
theorem sp_mpl (L : Nat) (I : Nat → Nat → Int32) (J : Nat → Nat → Int64) (w : Nat → Nat) (S : St) (h : RI I J S) (set : Int32) (Z : Nat → Bool) (hS : ∀ k, k < 23 → bt set k = Z k) (n : Nat) (ri : Nat → Nat) (hrc : (rc Z 23).1 = n) (hri : ∀ i, i < n → (rc Z 23).2 i = ri i) (A : Nat → Nat → Int) (hn : n ≤ 16) (hA : ∀ i, i < n → (∀ c, c < 17 → I 210 (17 * ri i + c) = zI (A i c)) ∧ (dt 16 (A i) (A i) ≤ 36 ∧ -2000 ≤ A i 16 ∧ A i 16 ≤ 2000)) (hi : ind 16 n A) (hgb : ∀ i, i < n → -14000 ≤ gp (A i) (sRo S) ∧ gp (A i) (sRo S) ≤ 14000) (jv : Int32) (v : Nat → Int) (s : Int) (hj : aim jv n A (sRo S) v s) : SP m_Mo_place [.ref 208, .int set, .int jv] (hp L I J w) (fun r h => r = none ∧ ∃ (I' : Nat → Nat → Int32) (K : Nat → Nat → Int64), FR 208 228 I J I' K ∧ RI I' K (stR S A n v s) ∧ h = hp L I' K w) := by
  obtain ⟨⟨π, hπ⟩, M0, hM⟩ := h.2.2.1
  have hr := h.1.2.2
  have hvs : (∀ i, i < n → -14000 ≤ v i ∧ v i ≤ 14000) ∧ (-1000 ≤ s ∧ s ≤ 1000) := by
    rcases hj with ⟨jn, j1, -, j3, j4⟩ | ⟨-, j3, j4⟩
    · exact ⟨fun i hi => by rw [j3 i hi]; have := ent6 (hA i hi).2.1 j1; omega, by rw [j4]; exact (hr jn j1).2⟩
    · exact ⟨fun i hi => by rw [j3 i hi]; exact hgb i hi, by rw [j4]; omega⟩
  refine WP.mono (sp_place L I J w set Z hS n ri hrc hri A hn hA hi (sRo S) hr hgb π hπ M0 hM jv v s hj) ?_
  rintro _ _ ⟨e, I1, K, π', M', f1, f2, f3, f4, f5, f6, f7, f8, rfl⟩
  exact ⟨e, I1, K, fun c hc => ⟨f1 c (by omega) (by omega) (by omega), f3 c (by omega)⟩, RI_frac h f1 f2 ⟨⟨π', f4⟩, M', f5⟩ f6 f7 f8 (fr_lt hn (fun i hi => (hA i hi).2.1) hi hgb hvs.1 hvs.2), rfl⟩
theorem sp_mplN (L : Nat) (I : Nat → Nat → Int32) (J : Nat → Nat → Int64) (w : Nat → Nat) (S : St) (h : RI I J S) (hj : JR I (sT S) (sOf S) (sTl S)) (jv : Int32) (v : Nat → Int) (s : Int) (ha : aim jv (rk (sT S) (sOf S) (sTl S)) (am (sT S) (sOf S) (sTl S)) (sRo S) v s) : SP m_Mo_place [.ref 208, .int (I 208 9), .int jv] (hp L I J w) (fun r h => r = none ∧ ∃ (I' : Nat → Nat → Int32) (K : Nat → Nat → Int64), FR 208 228 I J I' K ∧ RI I' K (stR S (am (sT S) (sOf S) (sTl S)) (rk (sT S) (sOf S) (sTl S)) v s) ∧ h = hp L I' K w) := by
  have q2 := h.2.1.2.1
  have e := rc_sb23 (sT S) (sOf S) (m := sTl S) (by omega)
  have row : ∀ i, i < rk (sT S) (sOf S) (sTl S) → rR I (nos (sT S) (sOf S) (sTl S) i) _ _ _ _ := fun i hi => h.2.1.2.2.1 _ (nos_lt _ _ _ i hi)
  exact sp_mpl L I J w S h (I 208 9) (sb (sT S) (sOf S) (sTl S)) (fun k hk => hj.1 k (by omega)) _ (nos (sT S) (sOf S) (sTl S)) (by rw [e]; rfl) (fun i hi => by rw [e]; rfl) _ (rk_16 _ _ _) (fun i hi => ⟨(row i hi).1, rowOK_srt (row i hi).2.2.2⟩) (am_ind _ _ _) (fun i hi => gp_row (row i hi).2.2.2 (fun c hc => (h.1.2.2 c hc).2)) jv v s ha
theorem mne_a (L : Nat) (I : Nat → Nat → Int32) (J : Nat → Nat → Int64) (w : Nat → Nat) (P : Nat) (p2 : P ≤ 8) (p1 : I 208 0 = nI P) (x : Int32) (Q : Option Value → MH → Prop) (k0 : ¬ rg x (2 * P : Nat) → WP m_Mo_nearest (18, [some (.ref 208), some (.int x)], [], hp L I J w, 0, 0) Q) (k1 : rg x (2 * P : Nat) → WP m_Mo_nearest (21, [some (.ref 208), some (.int x)], [], hp L I J w, 0, 0) Q) : WP m_Mo_nearest (0, [some (.ref 208), some (.int x)], [], hp L I J w, 0, 0) Q := by
  iterate 5 (refine WP.st rfl ?_)
  refine WP.get (v := .int (nI P)) rfl rfl (rfl) (congrArg Value.int p1) ?_
  iterate 4 (refine WP.st rfl ?_)
  rw [ix2, m1_long (by omega)]
  refine WP.calle rfl rfl (ev_inR (hp L I J w) x 0 (((2 * P : Nat) : Int) - 1) (by decide) (by decide) (by omega) (by omega)) ?_
  rw [rg_in]
  exact WP.bn rfl k1 k0
theorem m_nearest (L : Nat) (I : Nat → Nat → Int32) (J : Nat → Nat → Int64) (w : Nat → Nat) (S : St) (h : RI I J S) (x : Int32) : MM L I J w m_Mo_nearest [.int x] (.int (oNear S x).1) (oNear S x).2 := by
  obtain ⟨p1, p2, p3⟩ := h.1
  unfold MM SP oNear
  refine mne_a L I J w (sPt S) p2 p1 x _ (fun z => ?_) (fun z => ?_)
  · rw [if_neg z]
    iterate 1 (refine WP.st rfl ?_)
    exact WP.ret rfl ⟨rfl, I, J, FR.refl _ _ _ _, h, rfl⟩
  · rw [if_pos z]
    obtain ⟨k, hk, rfl⟩ := rg_nI z
    rw [nI_toInt (by omega), Int.toNat_natCast]
    iterate 1 (refine WP.st rfl ?_)
    refine WP.call rfl rfl (sp_mj L I J w S h) ?_
    rintro _ _ ⟨rfl, I1, J1, f1, f2, f3, rfl⟩
    iterate 4 (refine WP.st rfl ?_)
    refine WP.call rfl rfl (sp_mplN L I1 J1 w S f2 f3 (nI k) (fun i => am (sT S) (sOf S) (sTl S) i k) (sRo S k) (Or.inl ⟨k, by omega, rfl, fun _ _ => rfl, rfl⟩)) ?_
    rintro _ _ ⟨rfl, I2, K, g1, g2, rfl⟩
    iterate 1 (refine WP.st rfl ?_)
    exact WP.ret rfl ⟨rfl, I2, K, f1.trans g1, g2, rfl⟩
theorem m_strain (L : Nat) (I : Nat → Nat → Int32) (J : Nat → Nat → Int64) (w : Nat → Nat) (S : St) (h : RI I J S) : MM L I J w m_Mo_strain [] (.int (oStrain S).1) (oStrain S).2 := by
  unfold MM SP oStrain
  iterate 1 (refine WP.st rfl ?_)
  refine WP.call rfl rfl (sp_mj L I J w S h) ?_
  rintro _ _ ⟨rfl, I1, J1, f1, f2, f3, rfl⟩
  iterate 4 (refine WP.st rfl ?_)
  refine WP.call rfl rfl (sp_mplN L I1 J1 w S f2 f3 (-1) (fun i => gp (am (sT S) (sOf S) (sTl S) i) (sRo S)) 0 (Or.inr ⟨rfl, fun _ _ => rfl, rfl⟩)) ?_
  rintro _ _ ⟨rfl, I2, K, g1, g2, rfl⟩
  iterate 1 (refine WP.st rfl ?_)
  exact WP.ret rfl ⟨rfl, I2, K, f1.trans g1, g2, rfl⟩
/-! fixed -/
def prow (x : Int32) (k : Nat) : Nat → Int := upT (zrow x) k 1
theorem prow_ok {x : Int32} (hx : wi x 2000) {k : Nat} (hk : k < 16) : rowOK 1 (fun _ => k) (fun _ => 1) (prow x k) := by
  unfold prow
  refine ⟨?_, by omega, fun j hj => ⟨hk, show (1 : Int) ≠ 0 by decide, show (-3 : Int) ≤ 1 by decide, show (1 : Int) ≤ 3 by decide, upT_at _ _ _⟩, fun j i hj hi => by omega, fun c hc hne => ?_⟩
  · rw [upT_ne _ _ (by omega)]; exact hx
  · rw [upT_ne _ _ (Ne.symm (hne 0 (by omega)))]; exact if_neg (by omega)
/-- the probe told -/
def prb (I : Nat → Nat → Int32) (x : Int32) (k : Nat) : Nat → Nat → Int32 := sm_put (mm_up (mm_up I 8 0 x) 8 1 0) 8 0 (nI k) 1
theorem prb_T (I : Nat → Nat → Int32) {x : Int32} (hx : wi x 2000) {k : Nat} (hk : k < 16) : isT (prb I x k) 8 (prow x k) := by
  have t0 : tT (mm_up (mm_up I 8 0 x) 8 1 0) 8 0 (fun _ => k) (fun _ => 1) (zrow x) := tT_z hx _ _ (by rw [up_nk _ _ (by decide), mm_up_at]) (mm_up_at _ _ _ _)
  have := tT_put t0 (by omega) (b := 1) hk (by decide) (by decide) (if_neg (by omega))
  exact ⟨_, _, _, this⟩
theorem prb_off (I : Nat → Nat → Int32) (x : Int32) (k : Nat) {c : Nat} (h0 : c ≠ 8) (h1 : c ≠ 9) (h2 : c ≠ 10) : prb I x k c = I c := by
  unfold prb
  rw [sm_off _ 8 0 _ _ h0 h1 h2, up_ne _ _ h0, up_ne I _ h0]
theorem CI_prb {I : Nat → Nat → Int32} {J : Nat → Nat → Int64} {w : Nat → Nat} {S : St} (h : CI I J w S) (x : Int32) (k : Nat) : CI (prb I x k) J w S := by
  have o : ∀ c, c ≠ 8 → c ≠ 9 → c ≠ 10 → prb I x k c = I c := fun c h0 h1 h2 => prb_off I x k h0 h1 h2
  obtain ⟨a1, a2, a3, a4, a5⟩ := h
  exact ⟨C1_ext a1 (o 2 (by decide) (by decide) (by decide)) (o 3 (by decide) (by decide) (by decide)), C2_ext a2 (by rw [o 2 (by decide) (by decide) (by decide)]) (fun c g1 g2 => ⟨o c (by omega) (by omega) (by omega), rfl⟩) (fun c hc => o c (by omega) (by omega) (by omega)), a3, C4_ext a4 (o 134 (by decide) (by decide) (by decide)) rfl rfl, CF_ext a5 (fun c g1 g2 _ => o c (by omega) (by omega) (by omega))⟩
theorem JW_ext {I I' : Nat → Nat → Int32} {J J' : Nat → Nat → Int64} {a : Nat → Nat → Int} {r : Nat} (h : JW I J a r) (hr : r ≤ 16) (hI : ∀ c, 16 ≤ c → c ≤ 75 → I' c = I c ∧ J' c = J c) : JW I' J' a r := fun i hi => WF_ext (h i hi) (fun c h1 h2 => (hI c (by have : ww i = 16 + 20 * i := rfl; omega) (by have : ww i = 16 + 20 * i := rfl; omega)).1) (fun c h1 h2 => (hI c (by have : ww i = 16 + 20 * i := rfl; omega) (by have : ww i = 16 + 20 * i := rfl; omega)).2) hr
theorem JX_ext {I I' : Nat → Nat → Int32} {J J' : Nat → Nat → Int64} {T : Nat → Nat → Int} {of : Off} {m : Nat} (h : JX I J T of m) (hI : ∀ c, 11 ≤ c → c ≤ 75 → I' c = I c ∧ J' c = J c) : JX I' J' T of m := by
  refine ⟨JW_ext h.1 (rk_16 _ _ _) (fun c h1 h2 => hI c (by omega) h2), by rw [(hI 11 (by omega) (by omega)).1]; exact h.2.1, ?_⟩
  unfold JV ptOK
  rw [(hI 13 (by omega) (by omega)).1, (hI 14 (by omega) (by omega)).1, (hI 15 (by omega) (by omega)).1]
  exact h.2.2
noncomputable def oFixed (S : St) (x : Int32) : Int32 × St := if rg x (2 * sPt S : Nat) then (if kd (am (sT S) (sOf S) (sTl S)) (rk (sT S) (sOf S) (sTl S)) (prow 0 x.toInt.toNat) = 0 then (0, S) else (1, stR S (am (sT S) (sOf S) (sTl S)) (rk (sT S) (sOf S) (sTl S)) (fun i => am (sT S) (sOf S) (sTl S) i x.toInt.toNat) (sRo S x.toInt.toNat))) else (-2, S)
theorem c_fixed (L : Nat) (I : Nat → Nat → Int32) (J : Nat → Nat → Int64) (w : Nat → Nat) (S : St) (h : CI I J w S) (x : Int32) : CM L I J w m_DT_fixed [.int x] (.int (oFixed S x).1) (oFixed S x).2 := by
  obtain ⟨p1, p2, p3⟩ := h.1
  have q1 := h.2.1.1
  unfold CM SP oFixed
  iterate 2 (refine WP.st rfl ?_)
  refine WP.calle rfl rfl (ev_isNumber L I J w (sPt S) p2 p1 x) ?_
  refine WP.bn rfl (fun z => ?_) (fun z => ?_)
  · rw [if_pos z]
    obtain ⟨k, hk, rfl⟩ := rg_nI z
    rw [nI_toInt (by omega), Int.toNat_natCast]
    iterate 5 (refine WP.st rfl ?_)
    refine WP.get (v := .int (nI (sTl S))) rfl rfl (rfl) (congrArg Value.int q1) ?_
    refine WP.call rfl rfl (sp_cj L I J w S h) ?_
    rintro _ _ ⟨rfl, I1, J1, f1, f2, f3, f4, rfl⟩
    iterate 3 (refine WP.st rfl ?_)
    refine WP.calle rfl rfl (ev_restart L I1 J1 w 8 isSum_probe 0) ?_
    iterate 4 (refine WP.st rfl ?_)
    refine WP.calle rfl rfl (ev_put L (mm_up (mm_up I1 8 0 0) 8 1 0) J1 w 8 isSum_probe (nI k) 1 0 (by omega) (mm_up_at _ _ _ _)) ?_
    rw [show sm_put (mm_up (mm_up I1 8 0 0) 8 1 0) 8 0 (nI k) 1 = prb I1 0 k from rfl]
    have fp : FR 8 10 I1 J1 (prb I1 0 k) J1 := fun c hc => ⟨prb_off I1 0 k (by omega) (by omega) (by omega), rfl⟩
    iterate 4 (refine WP.st rfl ?_)
    refine WP.call rfl rfl (sp_cw L (prb I1 0 k) J1 w S (CI_prb f2 0 k) (JX_ext f3 (fun c h1 h2 => fp c (by omega))) (by rw [prb_off I1 0 k (by decide) (by decide) (by decide)]; exact f4) 8 isSum_probe (Or.inl (by decide)) (prow 0 k) (prb_T I1 (by decide) (by omega))) ?_
    rintro _ _ ⟨rfl, I2, J2, g1, g2, g3, g4, rfl⟩
    have kl := kd_le (am (sT S) (sOf S) (sTl S)) (rk (sT S) (sOf S) (sTl S)) (prow 0 k)
    have fr : FR 1 207 I J I2 J2 := (FR_wide f1 (by omega) (by omega)).trans ((FR_wide fp (by omega) (by omega)).trans (FR_wide g1 (by omega) (by omega)))
    by_cases e : kd (am (sT S) (sOf S) (sTl S)) (rk (sT S) (sOf S) (sTl S)) (prow 0 k) = 0
    · rw [if_pos e]
      refine WP.iff rfl (show ¬ ¬ nI _ = 0 by rw [e]; exact fun y => y rfl) ?_
      iterate 1 (refine WP.st rfl ?_)
      exact WP.ret rfl ⟨rfl, I2, J2, w, fr, g2, rfl⟩
    · rw [if_neg e]
      refine WP.ift rfl (show ¬ nI _ = 0 from nI_ne0 (by omega) (by omega)) ?_
      iterate 1 (refine WP.st rfl ?_)
      refine WP.call rfl rfl (sp_gather L I2 J2 w S g2 g3) ?_
      rintro _ _ ⟨rfl, I3, l1, l2, rfl⟩
      iterate 2 (refine WP.st rfl ?_)
      refine WP.call rfl rfl (sp_fn L I3 J2 w S (CI_mid g2 l1 g2.2.2.1.1) _ _ l2 (am_ind _ _ _) k (by omega)) ?_
      rintro _ _ ⟨rfl, I4, J4, w4, n1, n2, rfl⟩
      iterate 1 (refine WP.st rfl ?_)
      exact WP.ret rfl ⟨rfl, I4, J4, w4, fr.trans ((FR_wide l1 (by omega) (by omega)).trans (FR_wide n1 (by omega) (by omega))), n2, rfl⟩
  · rw [if_neg z]
    iterate 1 (refine WP.st rfl ?_)
    exact WP.ret rfl ⟨rfl, I, J, w, FR.refl _ _ _ _, h, rfl⟩
theorem mfi_a (L : Nat) (I : Nat → Nat → Int32) (J : Nat → Nat → Int64) (w : Nat → Nat) (P : Nat) (p2 : P ≤ 8) (p1 : I 208 0 = nI P) (x : Int32) (Q : Option Value → MH → Prop) (k0 : ¬ rg x (2 * P : Nat) → WP m_Mo_fixed (18, [some (.ref 208), some (.int x)], [], hp L I J w, 0, 0) Q) (k1 : rg x (2 * P : Nat) → WP m_Mo_fixed (21, [some (.ref 208), some (.int x)], [], hp L I J w, 0, 0) Q) : WP m_Mo_fixed (0, [some (.ref 208), some (.int x)], [], hp L I J w, 0, 0) Q := by
  iterate 5 (refine WP.st rfl ?_)
  refine WP.get (v := .int (nI P)) rfl rfl (rfl) (congrArg Value.int p1) ?_
  iterate 4 (refine WP.st rfl ?_)
  rw [ix2, m1_long (by omega)]
  refine WP.calle rfl rfl (ev_inR (hp L I J w) x 0 (((2 * P : Nat) : Int) - 1) (by decide) (by decide) (by omega) (by omega)) ?_
  rw [rg_in]
  exact WP.bn rfl k1 k0
/-- a row beyond the question's -/
theorem RI_more {I I' : Nat → Nat → Int32} {J : Nat → Nat → Int64} {S : St} (h : RI I J S) (h1 : ∀ c, c ≠ 210 → I' c = I c) (h9 : ∀ k, k < 357 → I' 210 k = I 210 k) : RI I' J S := by
  obtain ⟨a1, ⟨b1, b2, b3, b4, b5, b6⟩, a3, a4, a5⟩ := h
  have g : ∀ j n nm fc row, j ≤ 20 → rR I j n nm fc row → rR I' j n nm fc row := fun j n nm fc row hj ⟨q1, q2, q3, q4⟩ => by
    refine ⟨fun c hc => (h9 _ (by omega)).trans (q1 c hc), ?_, ?_, q4⟩
    · rw [h1 211 (by decide)]; exact q2
    · rw [h1 212 (by decide), h1 213 (by decide)]; exact q3
  refine ⟨?_, ⟨by rw [h1 208 (by decide)]; exact b1, b2, fun t ht => g t _ _ _ _ (by omega) (b3 t ht), by rw [h1 214 (by decide)]; exact b4, b5, g 20 _ _ _ _ (by omega) b6⟩, ?_, ?_, ?_⟩
  · unfold R1 RR8 at *
    rw [h1 208 (by decide), h1 209 (by decide)]
    exact a1
  · unfold R3 PM at *
    rw [h1 219 (by decide)]
    exact a3
  · unfold R4 at *
    rw [h1 208 (by decide)]
    exact a4
  · unfold R5 BR BA21 at *
    rw [h1 208 (by decide), h1 216 (by decide), h1 217 (by decide)]
    exact a5
theorem prow_at {I : Nat → Nat → Int32} {t k : Nat} {x : Int32} (h : ∀ c, c < 17 → I 210 (17 * t + c) = zI (zrow x c)) : ∀ c, c < 17 → mm_up I 210 (17 * t + k) 1 210 (17 * t + c) = zI (prow x k c) := fun c hc => by
  unfold prow
  by_cases z : c = k
  · rw [z, mm_up_at, upT_at]; rfl
  · rw [up_nk I _ (by omega), upT_ne _ _ z]; exact h c hc
theorem m_fixed (L : Nat) (I : Nat → Nat → Int32) (J : Nat → Nat → Int64) (w : Nat → Nat) (S : St) (h : RI I J S) (x : Int32) : MM L I J w m_Mo_fixed [.int x] (.int (oFixed S x).1) (oFixed S x).2 := by
  obtain ⟨p1, p2, p3⟩ := h.1
  have q2 := h.2.1.2.1
  unfold MM SP oFixed
  refine mfi_a L I J w (sPt S) p2 p1 x _ (fun z => ?_) (fun z => ?_)
  · rw [if_neg z]
    iterate 1 (refine WP.st rfl ?_)
    exact WP.ret rfl ⟨rfl, I, J, FR.refl _ _ _ _, h, rfl⟩
  · rw [if_pos z]
    obtain ⟨k, hk, rfl⟩ := rg_nI z
    rw [nI_toInt (by omega), Int.toNat_natCast]
    iterate 1 (refine WP.st rfl ?_)
    refine WP.call rfl rfl (sp_mj L I J w S h) ?_
    rintro _ _ ⟨rfl, I1, J1, f1, f2, f3, rfl⟩
    iterate 3 (refine WP.st rfl ?_)
    refine WP.call rfl rfl (sp_clearRow L I1 J1 w 21 (by omega) 0) ?_
    rintro _ _ ⟨rfl, I2, g1, g2, g3, rfl⟩
    iterate 6 (refine WP.st rfl ?_)
    refine WP.iast (k := 17 * 21 + k) rfl (nI_add 357 k) (rfl) (show 17 * 21 + k < 391 by omega) (rfl) ?_
    iterate 4 (refine WP.st rfl ?_)
    have o1 : ∀ c, c ≠ 210 → mm_up I2 210 (17 * 21 + k) 1 c = I1 c := fun c hc => (up_ne I2 _ hc).trans (g1 c hc)
    have r2 : RI (mm_up I2 210 (17 * 21 + k) 1) J1 S := RI_more f2 o1 (fun q hq => (up_nk I2 _ (by omega)).trans (g2 q (by omega)))
    have j2 : JR (mm_up I2 210 (17 * 21 + k) 1) (sT S) (sOf S) (sTl S) := by
      unfold JR
      rw [o1 208 (by decide), o1 215 (by decide)]
      exact f3
    refine WP.call rfl rfl (sp_mag L (mm_up I2 210 (17 * 21 + k) 1) J1 w S r2 j2 21 (by omega) (by omega) (prow 0 k) (prow_at g3) (rowOK_srt (prow_ok (by decide) (by omega)))) ?_
    rintro _ _ ⟨rfl, K, l1, l2, rfl⟩
    have kl := kd_le (am (sT S) (sOf S) (sTl S)) (rk (sT S) (sOf S) (sTl S)) (prow 0 k)
    have fr : FR 208 228 I J (mm_up I2 210 (17 * 21 + k) 1) K := fun c hc => ⟨(o1 c (by omega)).trans (f1 c hc).1, (l1 c (by omega)).trans (f1 c hc).2⟩
    by_cases e : kd (am (sT S) (sOf S) (sTl S)) (rk (sT S) (sOf S) (sTl S)) (prow 0 k) = 0
    · rw [if_pos e]
      refine WP.iff rfl (show ¬ ¬ nI _ = 0 by rw [e]; exact fun y => y rfl) ?_
      iterate 1 (refine WP.st rfl ?_)
      exact WP.ret rfl ⟨rfl, _, K, fr, l2, rfl⟩
    · rw [if_neg e]
      refine WP.ift rfl (show ¬ nI _ = 0 from nI_ne0 (by omega) (by omega)) ?_
      iterate 4 (refine WP.st rfl ?_)
      refine WP.call rfl rfl (sp_mplN L (mm_up I2 210 (17 * 21 + k) 1) K w S l2 j2 (nI k) (fun i => am (sT S) (sOf S) (sTl S) i k) (sRo S k) (Or.inl ⟨k, by omega, rfl, fun _ _ => rfl, rfl⟩)) ?_
      rintro _ _ ⟨rfl, I3, K3, n1, n2, rfl⟩
      iterate 1 (refine WP.st rfl ?_)
      exact WP.ret rfl ⟨rfl, I3, K3, fr.trans n1, n2, rfl⟩
