noncomputable def adS (p : (Nat → Nat → Int) × Nat) (t : Nat → Int) : (Nat → Nat → Int) × Nat := if kd p.1 p.2 t = 0 then (beh p.1 p.2 t, p.2 + 1) else p
/-- the hand's two tellings put behind the new ones, if they are new -/
noncomputable def dgi (S : St) (tt : Nat → Nat → Int) : Nat → (Nat → Nat → Int) × Nat
  | 0 => (am (sT S) (sOf S) (sTl S), rk (sT S) (sOf S) (sTl S))
  | i + 1 => adS (dgi S tt i) (tt i)
def hnd (p : Nat) (x y : Int32) : Nat → Nat → Int := fun i => prow (if i = 0 then x else y) (2 * p + i)
noncomputable def oDrag (S : St) (p x y j : Int32) : Int32 × St := if rg p (sPt S) ∧ (wi x 1000 ∧ wi y 1000) ∧ rg j (2 * sPt S : Nat) then (1, stR S (dgi S (hnd p.toInt.toNat x y) 2).1 (dgi S (hnd p.toInt.toNat x y) 2).2 (fun i => (dgi S (hnd p.toInt.toNat x y) 2).1 i j.toInt.toNat) (sRo S j.toInt.toNat)) else (-2, S)
def DG (I1 : Nat → Nat → Int32) (J1 : Nat → Nat → Int64) (S : St) (I : Nat → Nat → Int32) (J : Nat → Nat → Int64) (b : (Nat → Nat → Int) × Nat) : Prop := (∀ c, c < 8 ∨ (11 < c ∧ c < 16) ∨ 133 < c → I c = I1 c ∧ J c = J1 c) ∧ (∀ k, k ≠ 4 → I 11 k = I1 11 k) ∧ JW I J b.1 b.2 ∧ I 11 4 = nI b.2 ∧ BA I b.1 (fun i => gp (b.1 i) (sRo S)) b.2 ∧ ind 16 b.2 b.1 ∧ srt b.2 b.1 ∧ rk (sT S) (sOf S) (sTl S) ≤ b.2 ∧ ∀ q, q < rk (sT S) (sOf S) (sTl S) → b.1 q = am (sT S) (sOf S) (sTl S) q
theorem JL_JW {I : Nat → Nat → Int32} {J : Nat → Nat → Int64} {a : Nat → Nat → Int} {r : Nat} {t : Nat → Int} {xs : Nat → Nat → Int} (h : JL I J a r t xs) : JW I J a r := fun i hi => LK_WF (h i hi)
theorem srt_beh {a : Nat → Nat → Int} {r : Nat} {t : Nat → Int} (h : srt r a) (ht : dt 16 t t ≤ 36 ∧ -2000 ≤ t 16 ∧ t 16 ≤ 2000) : srt (r + 1) (beh a r t) := fun i hi => by
  unfold beh
  by_cases z : i < r
  · rw [if_pos z]; exact h i z
  · rw [if_neg z]; exact ht
theorem BA_off {I I' : Nat → Nat → Int32} {A : Nat → Nat → Int} {g : Nat → Int} {n : Nat} (h : BA I A g n) (ho : ∀ c, 76 ≤ c → c ≤ 133 → I' c = I c) : BA I' A g n := by
  obtain ⟨a1, a2, a3, a4⟩ := h
  refine ⟨by rw [ho 76 (by omega) (by omega)]; exact a1, a2, fun i hi => ?_, a4⟩
  rw [ho (78 + i) (by omega) (by omega), ho 94 (by omega) (by omega)]
  exact a3 i hi
theorem adS_0 {b : (Nat → Nat → Int) × Nat} {t : Nat → Int} (h : kd b.1 b.2 t = 0) : adS b t = (beh b.1 b.2 t, b.2 + 1) := if_pos h
theorem adS_n {b : (Nat → Nat → Int) × Nat} {t : Nat → Int} (h : ¬ kd b.1 b.2 t = 0) : adS b t = b := if_neg h
theorem prb_8 (I : Nat → Nat → Int32) (x : Int32) (k : Nat) : ∀ c, c < 8 ∨ 10 < c → prb I x k c = I c := fun c hc => prb_off I x k (by omega) (by omega) (by omega)
theorem sp_tbh (L : Nat) (I : Nat → Nat → Int32) (J : Nat → Nat → Int64) (w : Nat → Nat) (I1 : Nat → Nat → Int32) (J1 : Nat → Nat → Int64) (S : St) (h1 : CI I1 J1 w S) (b : (Nat → Nat → Int) × Nat) (hd : DG I1 J1 S I J b) (k : Nat) (hk : k < 16) (v : Int32) (hv : wi v 1000) : SP m_DT_tellByHand [.ref 2, .int (nI k), .int v] (hp L I J w) (fun r h => r = none ∧ ∃ (I' : Nat → Nat → Int32) (J' : Nat → Nat → Int64), DG I1 J1 S I' J' (adS b (prow v k)) ∧ h = hp L I' J' w) := by
  obtain ⟨d1, d2, d3, d4, d5, d6, d7, d8, d9⟩ := hd
  have hv2 : wi v 2000 := ⟨by have := hv.1; omega, by have := hv.2; omega⟩
  have b16 := d5.2.1
  have pok := rowOK_srt (prow_ok hv2 hk)
  have T0 := prb_T I hv2 hk
  have o0 := prb_8 I v k
  unfold SP
  iterate 3 (refine WP.st rfl ?_)
  refine WP.calle rfl rfl (ev_restart L I J w 8 isSum_probe v) ?_
  iterate 4 (refine WP.st rfl ?_)
  refine WP.calle rfl rfl (ev_put L (mm_up (mm_up I 8 0 v) 8 1 0) J w 8 isSum_probe (nI k) 1 0 (by omega) (mm_up_at _ _ _ _)) ?_
  rw [show sm_put (mm_up (mm_up I 8 0 v) 8 1 0) 8 0 (nI k) 1 = prb I v k from rfl]
  iterate 4 (refine WP.st rfl ?_)
  refine WP.call rfl rfl (sp_weigh L (prb I v k) J w 8 isSum_probe (Or.inl (by decide)) (prow v k) T0 b.2 b16 b.1 (JW_ext d3 b16 (fun c c1 c2 => ⟨o0 c (by omega), rfl⟩)) d6 (srt_beh d7 pok)) ?_
  rintro _ _ ⟨rfl, I2, J2, xs, g1, g2, rfl⟩
  have kl := kd_le b.1 b.2 (prow v k)
  have e11 : I2 11 = I 11 := (g1 11 (by omega)).1.trans (o0 11 (by omega))
  by_cases e : kd b.1 b.2 (prow v k) = 0
  · have hi2 := kd_ind e
    have r16 := ind_dim 16 _ _ hi2
    rw [adS_0 e]
    refine WP.iff rfl (show ¬ ¬ nI _ = 0 by rw [e]; exact fun y => y rfl) ?_
    iterate 2 (refine WP.st rfl ?_)
    refine WP.call rfl rfl (sp_jadopt L I2 J2 w b.2 (by omega) b.1 (prow v k) xs g2 (by rw [e11]; exact d4)) ?_
    rintro _ _ ⟨rfl, I3, J3, l1, l2, rfl⟩
    have o3 : ∀ c, c ≠ 11 → c < 16 ∨ 75 < c → mm_up I3 11 4 (nI (b.2 + 1)) c = prb I v k c := fun c c1 c2 => (up_ne I3 _ c1).trans ((l1 c c2).1.trans (g1 c c2).1)
    have oJ : ∀ c, c < 16 ∨ 75 < c → J3 c = J c := fun c c2 => (l1 c c2).2.trans (g1 c c2).2
    have T3 : isT (mm_up I3 11 4 (nI (b.2 + 1))) 8 (prow v k) := isT_ext T0 (o3 8 (by omega) (by omega)) (o3 9 (by omega) (by omega)) (o3 10 (by omega) (by omega))
    have B3 : BA (mm_up I3 11 4 (nI (b.2 + 1))) b.1 (fun i => gp (b.1 i) (sRo S)) b.2 := BA_off d5 (fun c c1 c2 => (o3 c (by omega) (by omega)).trans (o0 c (by omega)))
    have R3' : RO (mm_up I3 11 4 (nI (b.2 + 1))) (sRo S) := by
      have := h1.1.2.2
      unfold RO at *
      rw [o3 3 (by omega) (by omega), o0 3 (by omega), (d1 3 (by omega)).1]
      exact this
    iterate 6 (refine WP.st rfl ?_)
    refine WP.call rfl rfl (sp_badd L (mm_up I3 11 4 (nI (b.2 + 1))) J3 w 8 isSum_probe (Or.inl ⟨by omega, by omega⟩) (prow v k) T3 (sRo S) R3' _ _ _ (by omega) B3) ?_
    rintro _ _ ⟨rfl, I4, m1, m2, rfl⟩
    refine WP.ret rfl ⟨rfl, I4, J3, ⟨fun c hc => ?_, fun q hq => ?_, ?_, ?_, ?_, hi2, srt_beh d7 pok, by show _ ≤ b.2 + 1; omega, fun q hq => ?_⟩, rfl⟩
    · exact ⟨((m1 c (by omega)).1.trans (o3 c (by omega) (by omega))).trans ((o0 c (by omega)).trans (d1 c hc).1), (oJ c (by omega)).trans (d1 c hc).2⟩
    · rw [(m1 11 (by omega)).1, up_nk I3 _ hq, (l1 11 (by omega)).1, e11]; exact d2 q hq
    · exact JW_ext l2 (by omega) (fun c c1 c2 => ⟨(m1 c (by omega)).1.trans (up_ne I3 _ (by omega)), rfl⟩)
    · rw [(m1 11 (by omega)).1, mm_up_at]
    · refine BA_congr m2 (fun i hi => ⟨rfl, ?_⟩)
      show _ = gp (beh b.1 b.2 (prow v k) i) (sRo S)
      unfold beh
      by_cases z : i < b.2
      · rw [if_pos z, if_pos z]
      · rw [if_neg z, if_neg z]
    · show beh b.1 b.2 (prow v k) q = _
      unfold beh
      rw [if_pos (by omega)]
      exact d9 q hq
  · rw [adS_n e]
    refine WP.ift rfl (show ¬ nI _ = 0 from nI_ne0 (by omega) (by omega)) ?_
    refine WP.ret rfl ⟨rfl, I2, J2, ⟨fun c hc => ?_, fun q hq => by rw [e11]; exact d2 q hq, JL_JW g2, by rw [e11]; exact d4, BA_off d5 (fun c c1 c2 => (g1 c (by omega)).1.trans (o0 c (by omega))), d6, d7, d8, d9⟩, rfl⟩
    exact ⟨(g1 c (by omega)).1.trans ((o0 c (by omega)).trans (d1 c hc).1), (g1 c (by omega)).2.trans (d1 c hc).2⟩
theorem CI_lo {I I' : Nat → Nat → Int32} {J J' : Nat → Nat → Int64} {w : Nat → Nat} {S : St} (h : CI I J w S) (hf : FR 8 133 I J I' J') (hj : JI I' J' (sT S) (sOf S) (sTl S)) : CI I' J' w S := by
  have g : ∀ c, c < 8 ∨ 133 < c → I' c = I c ∧ J' c = J c := fun c hc => hf c hc
  obtain ⟨a1, ⟨b1, b2, b3, b4, b5, b6, b7⟩, a3, a4, a5⟩ := h
  refine ⟨C1_ext a1 (g 2 (by omega)).1 (g 3 (by omega)).1, ⟨by rw [(g 2 (by omega)).1]; exact b1, b2, fun t ht => ?_, fun t ht => ?_, b5, hj, tT_ext b7 (g 5 (by omega)).1 (g 6 (by omega)).1 (g 7 (by omega)).1⟩, ⟨a3.1, by rw [(g 1 (by omega)).2]; exact a3.2⟩, C4_ext a4 (g 134 (by omega)).1 (g 135 (by omega)).2 (g 136 (by omega)).2, CF_ext a5 (fun c h1 h2 _ => (g c (by omega)).1)⟩
  · have e : sumP t = 148 + 3 * t := rfl
    exact tT_ext (b3 t ht) (g _ (by omega)).1 (g _ (by omega)).1 (g _ (by omega)).1
  · have e : sumP t = 148 + 3 * t := rfl
    rw [(g _ (by omega)).1]; exact b4 t ht
theorem sp_dsh (L : Nat) (I : Nat → Nat → Int32) (J : Nat → Nat → Int64) (w : Nat → Nat) (I1 : Nat → Nat → Int32) (J1 : Nat → Nat → Int64) (S : St) (h1 : CI I1 J1 w S) (hx : JX I1 J1 (sT S) (sOf S) (sTl S)) (h5 : I1 11 5 = nI (sTl S)) (b : (Nat → Nat → Int) × Nat) (hd : DG I1 J1 S I J b) : SP m_Ju_shrinkTo [.ref 11, .int (nI (rk (sT S) (sOf S) (sTl S)))] (hp L I J w) (fun r h => r = none ∧ ∃ I' : Nat → Nat → Int32, FR 8 133 I1 J1 I' J ∧ CI I' J w S ∧ BA I' b.1 (fun i => gp (b.1 i) (sRo S)) b.2 ∧ h = hp L I' J w) := by
  obtain ⟨d1, d2, d3, d4, d5, d6, d7, d8, d9⟩ := hd
  refine WP.mono (sp_jshrink L I J w b.2 (rk (sT S) (sOf S) (sTl S)) d5.2.1 d8 b.1 d3) ?_
  rintro _ _ ⟨e, I2, f1, f2, rfl⟩
  have o : ∀ c, c ≠ 11 → c < 16 ∨ 75 < c → I2 c = I c := fun c c1 c2 => (f1 c c2).1.trans (up_ne I _ c1)
  have fr : FR 8 133 I1 J1 I2 J := fun c hc => ⟨(o c (by omega) (by omega)).trans (d1 c (by omega)).1, (d1 c (by omega)).2⟩
  have x2 : JX I2 J (sT S) (sOf S) (sTl S) := by
    refine ⟨fun i hi => WF_a (rk_16 _ _ _) (f2 i hi) d9, by rw [(f1 11 (by omega)).1, mm_up_at], ?_⟩
    have := hx.2.2
    unfold JV ptOK at *
    rw [o 13 (by omega) (by omega), o 14 (by omega) (by omega), o 15 (by omega) (by omega), (d1 13 (by omega)).1, (d1 14 (by omega)).1, (d1 15 (by omega)).1]
    exact this
  exact ⟨e, I2, fr, CI_lo h1 fr (JX_JI x2 (by rw [(f1 11 (by omega)).1, up_nk I _ (by decide), d2 5 (by decide)]; exact h5)), BA_off d5 (fun c c1 c2 => o c (by omega) (by omega)), rfl⟩
theorem cdr_a (L : Nat) (I : Nat → Nat → Int32) (J : Nat → Nat → Int64) (w : Nat → Nat) (S : St) (h : CI I J w S) (p x y j : Int32) (Q : Option Value → MH → Prop) (k0 : ¬ (rg p (sPt S) ∧ (wi x 1000 ∧ wi y 1000) ∧ rg j (2 * sPt S : Nat)) → WP m_DT_drag (25, [some (.ref 2), some (.int p), some (.int x), some (.int y), some (.int j), none], [], hp L I J w, 0, 0) Q) (k1 : (rg p (sPt S) ∧ (wi x 1000 ∧ wi y 1000) ∧ rg j (2 * sPt S : Nat)) → WP m_DT_drag (28, [some (.ref 2), some (.int p), some (.int x), some (.int y), some (.int j), none], [], hp L I J w, 0, 0) Q) : WP m_DT_drag (0, [some (.ref 2), some (.int p), some (.int x), some (.int y), some (.int j), none], [], hp L I J w, 0, 0) Q := by
  obtain ⟨p1, p2, p3⟩ := h.1
  iterate 2 (refine WP.st rfl ?_)
  refine WP.calle rfl rfl (ev_isPoint L I J w (sPt S) p2 p1 p) ?_
  refine WP.bz rfl (fun z => k0 (fun k => z k.1)) (fun z => ?_)
  iterate 2 (refine WP.st rfl ?_)
  refine WP.calle rfl rfl (ev_place (hp L I J w) x y) ?_
  refine WP.bz rfl (fun z2 => k0 (fun k => z2 k.2.1)) (fun z2 => ?_)
  iterate 2 (refine WP.st rfl ?_)
  refine WP.calle rfl rfl (ev_isNumber L I J w (sPt S) p2 p1 j) ?_
  exact WP.bn rfl (fun z3 => k1 ⟨z, z2, z3⟩) (fun z3 => k0 (fun k => z3 k.2.2))
theorem c_drag (L : Nat) (I : Nat → Nat → Int32) (J : Nat → Nat → Int64) (w : Nat → Nat) (S : St) (h : CI I J w S) (p x y j : Int32) : CM L I J w m_DT_drag [.int p, .int x, .int y, .int j] (.int (oDrag S p x y j).1) (oDrag S p x y j).2 := by
  have p2 := h.1.2.1
  have q1 := h.2.1.1
  unfold CM SP oDrag
  refine cdr_a L I J w S h p x y j _ (fun z => ?_) (fun z => ?_)
  · rw [if_neg z]
    iterate 1 (refine WP.st rfl ?_)
    exact WP.ret rfl ⟨rfl, I, J, w, FR.refl _ _ _ _, h, rfl⟩
  · rw [if_pos z]
    obtain ⟨z1, ⟨z2, z3⟩, z4⟩ := z
    obtain ⟨a, ha, rfl⟩ := rg_nI z1
    obtain ⟨k, hk, rfl⟩ := rg_nI z4
    rw [nI_toInt (by omega), nI_toInt (by omega), Int.toNat_natCast, Int.toNat_natCast]
    iterate 5 (refine WP.st rfl ?_)
    refine WP.get (v := .int (nI (sTl S))) rfl rfl (rfl) (congrArg Value.int q1) ?_
    refine WP.call rfl rfl (sp_cj L I J w S h) ?_
    rintro _ _ ⟨rfl, I1, J1, f1, f2, f3, f4, rfl⟩
    iterate 2 (refine WP.st rfl ?_)
    refine WP.get (v := .int (nI (rk (sT S) (sOf S) (sTl S)))) rfl rfl (rfl) (congrArg Value.int f3.2.1) ?_
    iterate 2 (refine WP.st rfl ?_)
    refine WP.call rfl rfl (sp_gather L I1 J1 w S f2 f3) ?_
    rintro _ _ ⟨rfl, I2, g1, g2, rfl⟩
    have D0 : DG I1 J1 S I2 J1 (dgi S (hnd a x y) 0) := ⟨fun c hc => g1 c (by omega), fun q hq => by rw [(g1 11 (by omega)).1], JW_ext f3.1 (rk_16 _ _ _) (fun c c1 c2 => g1 c (by omega)), by rw [(g1 11 (by omega)).1]; exact f3.2.1, g2, am_ind _ _ _, fun i hi => by
      have row := f2.2.1.2.2.1 _ (nos_lt (sT S) (sOf S) (sTl S) i hi)
      exact rowOK_srt (tT_row row), Nat.le_refl _, fun q hq => rfl⟩
    iterate 5 (refine WP.st rfl ?_)
    rw [ix2]
    refine WP.call rfl rfl (sp_tbh L I2 J1 w I1 J1 S f2 (dgi S (hnd a x y) 0) D0 (2 * a) (by omega) x z2) ?_
    rintro _ _ ⟨rfl, I3, J3, D1, rfl⟩
    iterate 7 (refine WP.st rfl ?_)
    rw [ix21]
    refine WP.call rfl rfl (sp_tbh L I3 J3 w I1 J1 S f2 (dgi S (hnd a x y) 1) D1 (2 * a + 1) (by omega) y z3) ?_
    rintro _ _ ⟨rfl, I4, J4, D2, rfl⟩
    iterate 3 (refine WP.st rfl ?_)
    refine WP.call rfl rfl (sp_dsh L I4 J4 w I1 J1 S f2 f3 f4 (dgi S (hnd a x y) 2) D2) ?_
    rintro _ _ ⟨rfl, I5, m1, m2, m3, rfl⟩
    iterate 2 (refine WP.st rfl ?_)
    refine WP.call rfl rfl (sp_fn L I5 J4 w S m2 (dgi S (hnd a x y) 2).1 (dgi S (hnd a x y) 2).2 m3 D2.2.2.2.2.2.1 k (by omega)) ?_
    rintro _ _ ⟨rfl, I6, J6, w6, n1, n2, rfl⟩
    iterate 1 (refine WP.st rfl ?_)
    exact WP.ret rfl ⟨rfl, I6, J6, w6, (FR_wide f1 (by omega) (by omega)).trans ((FR_wide m1 (by omega) (by omega)).trans (FR_wide n1 (by omega) (by omega))), n2, rfl⟩
