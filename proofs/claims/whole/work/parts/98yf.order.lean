theorem dcn_congr {ba bb ba' bb' : Nat → Nat} {S : Nat → Bool} {V p : Nat} : ∀ m, (∀ k, k < m → ba k = ba' k ∧ bb k = bb' k) → dcn ba bb S V p m = dcn ba' bb' S V p m
  | 0, _ => rfl
  | m + 1, h => by
    have ih := dcn_congr (S := S) (V := V) (p := p) m (fun k hk => h k (by omega))
    show dcn ba bb S V p m + (if (S m && inB (ba m) (bb m) V && (decide (ba m = p) || decide (bb m = p))) = true then 1 else 0) = dcn ba' bb' S V p m + (if (S m && inB (ba' m) (bb' m) V && (decide (ba' m = p) || decide (bb' m = p))) = true then 1 else 0)
    rw [ih, (h m (by omega)).1, (h m (by omega)).2]
theorem gop_congr {ba bb ba' bb' : Nat → Nat} {S : Nat → Bool} {n V : Nat} (h : ∀ k, k < n → ba k = ba' k ∧ bb k = bb' k) : ∀ m, gop ba bb S n V m = gop ba' bb' S n V m
  | 0 => rfl
  | m + 1 => by
    show (if V.testBit m = true ∧ dcn ba bb S V m n ≤ 2 then some m else gop ba bb S n V m) = (if V.testBit m = true ∧ dcn ba' bb' S V m n ≤ 2 then some m else gop ba' bb' S n V m)
    rw [gop_congr h m, dcn_congr n h]
theorem blx_congr {ba bb ba' bb' : Nat → Nat} {S : Nat → Bool} {n P : Nat} (h : ∀ k, k < n → ba k = ba' k ∧ bb k = bb' k) : ∀ d V m gf, blx ba bb S n P d V m gf = blx ba' bb' S n P d V m gf
  | 0, _, _, _ => rfl
  | d + 1, V, m, gf => by
    show (if 2 < P - m then (match gop ba bb S n V 8 with
      | none => (V, m, gf)
      | some p => blx ba bb S n P d (V - 2 ^ p) (m + 1) (fun j => if j = m then p else gf j)) else (V, m, gf)) = (if 2 < P - m then (match gop ba' bb' S n V 8 with
      | none => (V, m, gf)
      | some p => blx ba' bb' S n P d (V - 2 ^ p) (m + 1) (fun j => if j = m then p else gf j)) else (V, m, gf))
    rw [gop_congr h 8]
    cases gop ba' bb' S n V 8 with
    | none => rfl
    | some p => dsimp only; rw [blx_congr h d]
theorem blt_congr {ba bb ba' bb' : Nat → Nat} {B P : Nat} (hB : B ≤ 20) (h : ∀ k, k < B → ba k = ba' k ∧ bb k = bb' k) : blt ba bb B P = blt ba' bb' B P := by
  unfold blt
  rw [nwb_congr B (by omega) h, blx_congr h]
theorem CF_any {B : Nat} {ba bb : Nat → Nat} (hB : B ≤ 20) (h : ∀ k, k < B → ba k < 8 ∧ bb k < 8 ∧ ba k ≠ bb k) : ∃ I : Nat → Nat → Int32, CF I B ba bb :=
  ⟨fun c k => if c = 141 then (if k = 1 then nI B else nI (nnw ba bb B)) else if c = 144 then nI (ba k) else if c = 145 then nI (bb k) else if c = 142 then bI (mny ba bb k) else if c = 146 then fm_pair (nI (ba k)) (nI (bb k)) else bI (tgt ba bb B k), rfl, hB, fun k hk => ⟨rfl, (h k hk).1, rfl, (h k hk).2.1, (h k hk).2.2, rfl, rfl⟩, rfl, fun _ _ => rfl⟩
noncomputable def oOrder (S : St) (x : Int32) : Int32 × St := (if x.toInt < 0 then -2 else if x.toInt < (sPt S : Int) then nI (ordf (sBa S) (sBb S) (sB S) (sPt S) x.toInt.toNat) else -1, S)
theorem CI_143 {I : Nat → Nat → Int32} {J : Nat → Nat → Int64} {w : Nat → Nat} {S : St} (h : CI I J w S) (g : Nat → Int32) : CI (mm_row I 143 g) J w S := by
  have o : ∀ c, c ≠ 143 → mm_row I 143 g c = I c := fun c hc => funext (fun j => mm_row_off I g j hc)
  exact CI_frame (B := sB S) (ba := sBa S) (bb := sBb S) h (fun c hc => o c (by omega)) (CF_ext h.2.2.2.2 (fun c _ _ hc => o c hc))
theorem FR_143 {I : Nat → Nat → Int32} {J : Nat → Nat → Int64} (g : Nat → Int32) : FR 1 207 I J (mm_row I 143 g) J := fun c hc => ⟨funext (fun j => mm_row_off I g j (by omega)), rfl⟩
theorem c_order (L : Nat) (I : Nat → Nat → Int32) (J : Nat → Nat → Int64) (w : Nat → Nat) (S : St) (h : CI I J w S) (x : Int32) : CM L I J w m_DT_order [.int x] (.int (oOrder S x).1) (oOrder S x).2 := by
  obtain ⟨p1, p2, p3⟩ := h.1
  have c0 := rg_test x (n := sPt S) (by omega)
  have c8 := x_lt x (m := 8) (by omega) (by omega)
  unfold CM SP oOrder
  iterate 1 (refine WP.st rfl ?_)
  by_cases z : x.toInt < 0
  · rw [if_pos z]
    refine WP.iff rfl (show ¬ (0 : Int32) ≤ x from fun y => by have := (x_lt x (m := 0) (by omega) (by omega)).2.2.2.mp y; omega) ?_
    iterate 1 (refine WP.st rfl ?_)
    exact WP.ret rfl ⟨rfl, I, J, w, FR.refl _ _ _ _, h, rfl⟩
  · rw [if_neg z]
    refine WP.ift rfl (show (0 : Int32) ≤ x from (x_lt x (m := 0) (by omega) (by omega)).2.2.2.mpr (by omega)) ?_
    iterate 2 (refine WP.st rfl ?_)
    refine WP.get (v := .int (nI (sPt S))) rfl rfl (rfl) (congrArg Value.int p1) ?_
    by_cases z2 : x.toInt < (sPt S : Int)
    · rw [if_pos z2]
      refine WP.icf rfl (show ¬ nI (sPt S) ≤ x from fun y => by have := c0.2.mp y; omega) ?_
      iterate 2 (refine WP.st rfl ?_)
      refine WP.ict rfl (show x < zI 8 from c8.1.mpr (by omega)) ?_
      iterate 3 (refine WP.st rfl ?_)
      refine WP.get (v := .int (nI (sPt S))) rfl rfl (rfl) (congrArg Value.int p1) ?_
      obtain ⟨k, hk, rfl⟩ := rg_nI (x := x) (n := sPt S) ⟨by omega, z2⟩
      rw [nI_toInt (by omega), Int.toNat_natCast]
      refine WP.call rfl rfl (sp_cbuild L I J w (sB S) (sPt S) (sBa S) (sBb S) h.2.2.2.2 p2) ?_
      rintro _ _ ⟨rfl, g, g1, rfl⟩
      iterate 5 (refine WP.st rfl ?_)
      refine WP.iald (k := k) rfl (rfl) (Or.inl rfl) (show k < 8 by omega) (rfl) ?_
      rw [show hI (hp L (mm_row I 143 g) J w) 143 k = nI (ordf (sBa S) (sBb S) (sB S) (sPt S) k) from (mm_row_at I 143 g k).trans (g1 k hk)]
      exact WP.ret rfl ⟨rfl, mm_row I 143 g, J, w, FR_143 g, CI_143 h g, rfl⟩
    · rw [if_neg z2]
      refine WP.ict rfl (c0.2.mpr (by omega)) ?_
      iterate 1 (refine WP.st rfl ?_)
      exact WP.ret rfl ⟨rfl, I, J, w, FR.refl _ _ _ _, h, rfl⟩
noncomputable def oWhole (S : St) : Int32 × St := (if 2 < sPt S - (blt (sBa S) (sBb S) (sB S) (sPt S)).2.1 then nI (blt (sBa S) (sBb S) (sB S) (sPt S)).1 else 0, S)
theorem c_whole (L : Nat) (I : Nat → Nat → Int32) (J : Nat → Nat → Int64) (w : Nat → Nat) (S : St) (h : CI I J w S) : CM L I J w m_DT_whole [] (.int (oWhole S).1) (oWhole S).2 := by
  obtain ⟨p1, p2, p3⟩ := h.1
  obtain ⟨k1, k2, k3, k4, k5⟩ := blt_ok h.2.2.2.2 p2
  unfold CM SP oWhole
  iterate 3 (refine WP.st rfl ?_)
  refine WP.get (v := .int (nI (sPt S))) rfl rfl (rfl) (congrArg Value.int p1) ?_
  refine WP.call rfl rfl (sp_cbuild L I J w (sB S) (sPt S) (sBa S) (sBb S) h.2.2.2.2 p2) ?_
  rintro _ _ ⟨rfl, g, g1, rfl⟩
  iterate 2 (refine WP.st rfl ?_)
  refine WP.calle rfl rfl (ev_bitCount (hp L (mm_row I 143 g) J w) (nI (blt (sBa S) (sBb S) (sB S) (sPt S)).1)) ?_
  rw [fm_bc_eq _ k2, k3]
  iterate 1 (refine WP.st rfl ?_)
  by_cases z : 2 < sPt S - (blt (sBa S) (sBb S) (sB S) (sPt S)).2.1
  · rw [if_pos z]
    refine WP.icf rfl (nI_ge z (by omega)) ?_
    iterate 2 (refine WP.st rfl ?_)
    exact WP.ret rfl ⟨rfl, mm_row I 143 g, J, w, FR_143 g, CI_143 h g, rfl⟩
  · rw [if_neg z]
    refine WP.ict rfl (show nI (sPt S - (blt (sBa S) (sBb S) (sB S) (sPt S)).2.1) ≤ nI 2 from nI_le (by omega) (by omega)) ?_
    iterate 1 (refine WP.st rfl ?_)
    exact WP.ret rfl ⟨rfl, mm_row I 143 g, J, w, FR_143 g, CI_143 h g, rfl⟩
theorem RI_bld {I I' : Nat → Nat → Int32} {J : Nat → Nat → Int64} {S : St} (h : RI I J S) (h1 : ∀ c, c ≠ 208 → c ≠ 218 → c ≠ 228 → I' c = I c) (h2 : ∀ k, k ≠ 14 → k ≠ 27 → I' 208 k = I 208 k) : RI I' J S := by
  unfold RI R1 R2 R3 R4 R5 RR8 rR PM MG zv BR BA21 at *
  rw [h2 0 (by decide) (by decide), h2 2 (by decide) (by decide), h2 10 (by decide) (by decide), h2 25 (by decide) (by decide), h1 209 (by decide) (by decide) (by decide), h1 210 (by decide) (by decide) (by decide), h1 211 (by decide) (by decide) (by decide), h1 212 (by decide) (by decide) (by decide), h1 213 (by decide) (by decide) (by decide), h1 214 (by decide) (by decide) (by decide), h1 216 (by decide) (by decide) (by decide), h1 217 (by decide) (by decide) (by decide), h1 219 (by decide) (by decide) (by decide)]
  exact h
/-- build of the reference, at a state; the sorts of the tellings stay -/
theorem sp_mb (L : Nat) (I : Nat → Nat → Int32) (J : Nat → Nat → Int64) (w : Nat → Nat) (S : St) (h : RI I J S) : SP m_Mo_build [.ref 208] (hp L I J w) (fun v h => v = some (.int (nI (blt (sBa S) (sBb S) (sB S) (sPt S)).1)) ∧ ∃ I' : Nat → Nat → Int32, FR 208 228 I J I' J ∧ I' 215 = I 215 ∧ RI I' J S ∧ KI I' S ∧ GN I' (blt (sBa S) (sBb S) (sB S) (sPt S)).2.1 (blt (sBa S) (sBb S) (sB S) (sPt S)).2.2 ∧ ((blt (sBa S) (sBb S) (sB S) (sPt S)).2.1 ≤ sPt S ∧ (blt (sBa S) (sBb S) (sB S) (sPt S)).1 < 256 ∧ pcnt (blt (sBa S) (sBb S) (sB S) (sPt S)).1 = sPt S - (blt (sBa S) (sBb S) (sB S) (sPt S)).2.1 ∧ (∀ k, sPt S ≤ k → k < 8 → (blt (sBa S) (sBb S) (sB S) (sPt S)).1.testBit k = false) ∧ (rc (fun k => (blt (sBa S) (sBb S) (sB S) (sPt S)).1.testBit k) 8).1 = sPt S - (blt (sBa S) (sBb S) (sB S) (sPt S)).2.1) ∧ h = hp L I' J w) := by
  obtain ⟨ba, bb, hB, hE⟩ := h.2.2.2.2
  have b2 := hB.2.1
  have p2 := h.1.2.1
  obtain ⟨I0, hI0⟩ := CF_any (B := sB S) (ba := sBa S) (bb := sBb S) b2 (fun k hk => by
    obtain ⟨g1, g2, g3, g4⟩ := hB.2.2.2 k (by omega)
    rw [← (hE k hk).1, ← (hE k hk).2]
    exact ⟨g2, g4, hB.2.2.1 k hk⟩)
  have ok := blt_ok hI0 p2
  refine WP.mono (sp_mbuild L I J w (sB S) (sPt S) ba bb p2 hB h.1.1) ?_
  rintro _ _ ⟨e, I1, f1, f2, f3, f4, rfl⟩
  rw [blt_congr b2 hE] at e f4
  refine ⟨e, I1, fun c hc => ⟨f1 c (by omega) (by omega) (by omega), rfl⟩, f1 215 (by decide) (by decide) (by decide), RI_bld h f1 f2, ⟨fun k hk => ?_, fun k hk => ?_⟩, f4, ok, rfl⟩
  · rw [f3.1 k hk, nwb_congr (sB S) (by omega) hE]
  · rw [f3.2 k hk]
    exact bI_c (mny_congr (m := k) (by omega) (fun j hj => hE j (by omega)))
theorem m_whole2 (L : Nat) (I : Nat → Nat → Int32) (J : Nat → Nat → Int64) (w : Nat → Nat) (S : St) (h : RI I J S) : SP m_Mo_whole [.ref 208] (hp L I J w) (fun v h => v = some (.int (oWhole S).1) ∧ ∃ I' : Nat → Nat → Int32, FR 208 228 I J I' J ∧ I' 215 = I 215 ∧ RI I' J S ∧ KI I' S ∧ h = hp L I' J w) := by
  have p2 := h.1.2.1
  unfold SP oWhole
  iterate 1 (refine WP.st rfl ?_)
  refine WP.call rfl rfl (sp_mb L I J w S h) ?_
  rintro _ _ ⟨rfl, I1, f1, f0, f2, f3, f4, ⟨k1, -⟩, rfl⟩
  generalize blt (sBa S) (sBb S) (sB S) (sPt S) = b at *
  iterate 2 (refine WP.st rfl ?_)
  refine WP.get (v := .int (nI (sPt S))) rfl rfl (rfl) (congrArg Value.int f2.1.1) ?_
  iterate 1 (refine WP.st rfl ?_)
  refine WP.get (v := .int (nI b.2.1)) rfl rfl (rfl) (congrArg Value.int f4.1) ?_
  iterate 1 (refine WP.st rfl ?_)
  rw [show (nI (sPt S) - nI b.2.1 : Int32) = nI (sPt S - b.2.1) from by rw [nI_zI, nI_zI, nI_zI, zI_sub]; congr 1; omega]
  iterate 1 (refine WP.st rfl ?_)
  by_cases z : 2 < sPt S - b.2.1
  · rw [if_pos z]
    refine WP.icf rfl (nI_ge z (by omega)) ?_
    iterate 2 (refine WP.st rfl ?_)
    exact WP.ret rfl ⟨rfl, I1, f1, f0, f2, f3, rfl⟩
  · rw [if_neg z]
    refine WP.ict rfl (show nI (sPt S - b.2.1) ≤ nI 2 from nI_le (by omega) (by omega)) ?_
    iterate 1 (refine WP.st rfl ?_)
    exact WP.ret rfl ⟨rfl, I1, f1, f0, f2, f3, rfl⟩
theorem m_whole (L : Nat) (I : Nat → Nat → Int32) (J : Nat → Nat → Int64) (w : Nat → Nat) (S : St) (h : RI I J S) : MM L I J w m_Mo_whole [] (.int (oWhole S).1) (oWhole S).2 := by
  refine WP.mono (m_whole2 L I J w S h) ?_
  rintro _ _ ⟨e, I1, f1, -, f2, -, rfl⟩
  exact ⟨e, I1, J, f1, f2, rfl⟩
theorem rc_keep (T : Nat → Bool) (m : Nat) : ∀ d q, q < (rc T m).1 → (rc T (m + d)).2 q = (rc T m).2 q
  | 0, _, _ => rfl
  | d + 1, q, hq => by
    have ih := rc_keep T m d q hq
    have mo := rc_mono T m d
    show (rc T (m + d + 1)).2 q = _
    cases hb : T (m + d) with
    | false => rw [rc_f hb]; exact ih
    | true =>
      rw [rc_t hb]
      show (if q = (rc T (m + d)).1 then m + d else (rc T (m + d)).2 q) = _
      rw [if_neg (by omega)]
      exact ih
set_option maxHeartbeats 4000000 in
set_option maxRecDepth 20000 in
theorem m_order (L : Nat) (I : Nat → Nat → Int32) (J : Nat → Nat → Int64) (w : Nat → Nat) (S : St) (h : RI I J S) (x : Int32) : MM L I J w m_Mo_order [.int x] (.int (oOrder S x).1) (oOrder S x).2 := by
  have p2 := h.1.2.1
  have xb := x_bd x
  unfold MM SP oOrder
  iterate 1 (refine WP.st rfl ?_)
  by_cases z : x.toInt < 0
  · rw [if_pos z]
    refine WP.iff rfl (show ¬ (0 : Int32) ≤ x from fun y => by have := (x_lt x (m := 0) (by omega) (by omega)).2.2.2.mp y; omega) ?_
    iterate 1 (refine WP.st rfl ?_)
    exact WP.ret rfl ⟨rfl, I, J, FR.refl _ _ _ _, h, rfl⟩
  · rw [if_neg z]
    refine WP.ift rfl (show (0 : Int32) ≤ x from (x_lt x (m := 0) (by omega) (by omega)).2.2.2.mpr (by omega)) ?_
    iterate 1 (refine WP.st rfl ?_)
    refine WP.call rfl rfl (sp_mb L I J w S h) ?_
    rintro _ _ ⟨rfl, I1, f1, -, f2, -, f4, ⟨k1, k2, k3, k4, k5⟩, rfl⟩
    unfold ordf
    generalize blt (sBa S) (sBb S) (sB S) (sPt S) = b at *
    iterate 7 (refine WP.st rfl ?_)
    refine WP.get (v := .int (nI (sPt S))) rfl rfl (rfl) (congrArg Value.int f2.1.1) ?_
    refine WP.search (fun p => (23, [some (.ref 208), some (.int x), some (.int (nI b.1)), some (.int (nI (rc (fun k => b.1.testBit k) p).1)), some (.int (nI p))], [.int (nI (sPt S)), .int (nI p)], hp L I1 J w, 0, 0)) (fun p => b.1.testBit p = true ∧ x = nI (rc (fun k => b.1.testBit k) p).1) (sPt S) (fun p hp1 hP _ => ?_) (fun p hp1 hP kk => ?_) (fun hP => ?_)
    · have rl := rc_le (fun k => b.1.testBit k) p
      have r8 := rc_t (S := fun k => b.1.testBit k) (m := p) hP.1
      have rk8 := rc_keep (fun k => b.1.testBit k) (p + 1) (8 - (p + 1)) (rc (fun k => b.1.testBit k) p).1 (by rw [r8]; show _ < (rc _ p).1 + 1; omega)
      have rm8 := rc_mono (fun k => b.1.testBit k) (p + 1) (8 - (p + 1))
      rw [show p + 1 + (8 - (p + 1)) = 8 by omega, r8] at rk8 rm8
      have rk8' : (rc (fun k => b.1.testBit k) 8).2 (rc (fun k => b.1.testBit k) p).1 = p := rk8.trans (if_pos rfl)
      have rm8' : (rc (fun k => b.1.testBit k) p).1 + 1 ≤ (rc (fun k => b.1.testBit k) 8).1 := rm8
      have ex : x.toInt = ((rc (fun k => b.1.testBit k) p).1 : Int) := by rw [hP.2]; exact nI_toInt (by omega)
      refine WP.icf rfl (nI_ge hp1 (by omega)) ?_
      iterate 5 (refine WP.st rfl ?_)
      rw [show ((nI b.1 >>> (nI p &&& 31)) &&& Int32.ofInt 1 : Int32) = _ from sh_and (nI b.1) (k := p) (by omega), bt_nI (by omega), hP.1, if_pos rfl]
      iterate 1 (refine WP.st rfl ?_)
      refine WP.icf rfl (fun y => y rfl) ?_
      iterate 2 (refine WP.st rfl ?_)
      refine WP.icf rfl (show ¬ ¬ nI (rc (fun k => b.1.testBit k) p).1 = x from fun y => y hP.2.symm) ?_
      iterate 1 (refine WP.st rfl ?_)
      rw [if_pos (by omega), ex, Int.toNat_natCast, if_pos (by omega), rk8']
      exact WP.ret rfl ⟨rfl, I1, J, f1, f2, rfl⟩
    · skip
      refine WP.icf rfl (nI_ge hp1 (by omega)) ?_
      iterate 5 (refine WP.st rfl ?_)
      rw [show ((nI b.1 >>> (nI p &&& 31)) &&& Int32.ofInt 1 : Int32) = _ from sh_and (nI b.1) (k := p) (by omega), bt_nI (by omega)]
      cases hb : b.1.testBit p with
      | true =>
        have ne : ¬ nI (rc (fun k => b.1.testBit k) p).1 = x := fun y => hP ⟨hb, y.symm⟩
        rw [if_pos rfl]
        rw [rc_t (S := fun k => b.1.testBit k) hb, nI_succ p] at kk
        iterate 1 (refine WP.st rfl ?_)
        refine WP.icf rfl (fun y => y rfl) ?_
        iterate 2 (refine WP.st rfl ?_)
        refine WP.ict rfl (ne) ?_
        rw [show nI ((rc (fun k => b.1.testBit k) p).1 + 1, fun q => if q = (rc (fun k => b.1.testBit k) p).1 then p else (rc (fun k => b.1.testBit k) p).2 q).1 = nI (rc (fun k => b.1.testBit k) p).1 + Int32.ofInt 1 from nI_succ _] at kk
        iterate 5 (refine WP.st rfl ?_)
        refine WP.get (v := .int (nI (sPt S))) rfl rfl (rfl) (congrArg Value.int f2.1.1) ?_
        exact kk
      | false =>
        rw [if_neg (by decide)]
        rw [rc_f (S := fun k => b.1.testBit k) hb, nI_succ p] at kk
        iterate 1 (refine WP.st rfl ?_)
        refine WP.ict rfl (show ¬ (0 : Int32) = Int32.ofInt 1 by decide) ?_
        iterate 4 (refine WP.st rfl ?_)
        refine WP.get (v := .int (nI (sPt S))) rfl rfl (rfl) (congrArg Value.int f2.1.1) ?_
        exact kk
    · have pad := rc_pad (S := fun k => b.1.testBit k) (m := sPt S) (8 - sPt S) (fun k q1 q2 => k4 k q1 (by omega))
      rw [show sPt S + (8 - sPt S) = 8 by omega] at pad
      refine WP.ict rfl (nI_le (Nat.le_refl _) (by omega)) ?_
      rw [← pad, k5]
      iterate 1 (refine WP.st rfl ?_)
      refine WP.get (v := .int (nI b.2.1)) rfl rfl (rfl) (congrArg Value.int f4.1) ?_
      iterate 7 (refine WP.st rfl ?_)
      have ev : (nI b.2.1 - Int32.ofInt 1 - (x - nI (sPt S - b.2.1)) : Int32) = zI ((sPt S : Int) - 1 - x.toInt) := by
        rw [nI_zI, nI_zI]
        conv => lhs; rw [zI_of x]
        show (zI _ - zI 1 - (zI _ - zI _)) = _
        rw [zI_sub, zI_sub, zI_sub]
        congr 1
        omega
      rw [ev]
      iterate 1 (refine WP.st rfl ?_)
      have big : ¬ x.toInt.toNat < sPt S - b.2.1 := fun y => by
        have l8 := rc_lt (fun k => b.1.testBit k) 8 x.toInt.toNat (by omega)
        have key : ∀ m, m ≤ sPt S → (rc (fun k => b.1.testBit k) m).1 ≤ x.toInt.toNat := by
          intro m
          induction m with
          | zero => intro _; exact Nat.zero_le _
          | succ m ih =>
            intro hm
            have i1 := ih (by omega)
            cases hb : b.1.testBit m with
            | false => rw [rc_f (S := fun k => b.1.testBit k) hb]; exact i1
            | true =>
              rw [rc_t (S := fun k => b.1.testBit k) hb]
              show (rc _ m).1 + 1 ≤ _
              by_cases q : (rc (fun k => b.1.testBit k) m).1 = x.toInt.toNat
              · exact absurd ⟨hb, by rw [q, nI_zI, Int.toNat_of_nonneg (by omega)]; exact zI_of x⟩ (hP m (by omega))
              · omega
        have := key (sPt S) (Nat.le_refl _)
        rw [← pad, k5] at this
        omega
      by_cases z2 : x.toInt < (sPt S : Int)
      · rw [if_pos z2, if_neg (by omega)]
        obtain ⟨k, hk, rfl⟩ := rg_nI (x := x) (n := sPt S) ⟨by omega, z2⟩
        rw [nI_toInt (by omega)] at big ⊢
        rw [Int.toNat_natCast] at big ⊢
        rw [show (sPt S : Int) - 1 - (k : Int) = ((sPt S - 1 - k : Nat) : Int) by omega, ← nI_zI]
        refine WP.iff rfl (nI_nneg (by omega)) ?_
        iterate 3 (refine WP.st rfl ?_)
        refine WP.iald (k := sPt S - 1 - k) rfl (rfl) (Or.inl rfl) (show sPt S - 1 - k < 8 by omega) (rfl) ?_
        rw [show hI (hp L I1 J w) 228 (sPt S - 1 - k) = nI (b.2.2 (sPt S - 1 - k)) from f4.2 _ (by omega)]
        iterate 1 (refine WP.st rfl ?_)
        exact WP.ret rfl ⟨rfl, I1, J, f1, f2, rfl⟩
      · rw [if_neg z2]
        refine WP.ift rfl (show zI ((sPt S : Int) - 1 - x.toInt) < 0 from (rg_test _ (n := 0) (by omega)).1.mpr (by rw [zI_int (by omega) (by omega)]; omega)) ?_
        iterate 1 (refine WP.st rfl ?_)
        exact WP.ret rfl ⟨rfl, I1, J, f1, f2, rfl⟩
