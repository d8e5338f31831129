/-- the rows of the reference: tellings, then the hand's -/
def hC (S : St) (tt : Nat → Nat → Int) : Nat → Nat → Int := fun q => if q < 21 then sT S q else tt (q - 21)
abbrev okR (t : Nat → Int) : Prop := dt 16 t t ≤ 36 ∧ -2000 ≤ t 16 ∧ t 16 ≤ 2000
def DR (S : St) (tt : Nat → Nat → Int) (I : Nat → Nat → Int32) (i : Nat) (set : Int32) : Prop := ∃ Z : Nat → Bool, (∀ k, k < 23 → bt set k = Z k) ∧ (∀ k, 21 + i ≤ k → k < 23 → Z k = false) ∧ (rc Z 23).1 = (dgi S tt i).2 ∧ (∀ q, q < (dgi S tt i).2 → hC S tt ((rc Z 23).2 q) = (dgi S tt i).1 q) ∧ (∀ q, q < 23 → Z q = true → (∀ c, c < 17 → I 210 (17 * q + c) = zI (hC S tt q c)) ∧ okR (hC S tt q) ∧ (-14000 ≤ gp (hC S tt q) (sRo S) ∧ gp (hC S tt q) (sRo S) ≤ 14000)) ∧ ind 16 (dgi S tt i).2 (dgi S tt i).1
theorem beh_eq {a b : Nat → Nat → Int} {r : Nat} {t : Nat → Int} (h : ∀ i, i < r → a i = b i) : beh a r t = beh b r t := by
  funext i
  unfold beh
  by_cases z : i < r
  · rw [if_pos z, if_pos z, h i z]
  · rw [if_neg z, if_neg z]
theorem sp_mdg (L : Nat) (I : Nat → Nat → Int32) (J : Nat → Nat → Int64) (w : Nat → Nat) (S : St) (h : RI I J S) (tt : Nat → Nat → Int) (i : Nat) (hi : i < 2) (set : Int32) (hd : DR S tt I i set) (hr : ∀ c, c < 17 → I 210 (17 * (21 + i) + c) = zI (tt i c)) (ho : okR (tt i)) : SP m_Mo_against [.ref 208, .int set, .int (nI (21 + i))] (hp L I J w) (fun v h => v = some (.int (nI (kd (dgi S tt i).1 (dgi S tt i).2 (tt i)))) ∧ ∃ K : Nat → Nat → Int64, (∀ c, c ≠ 220 → K c = J c) ∧ RI I K S ∧ h = hp L I K w) := by
  obtain ⟨Z, z1, z2, z3, z4, z5, z6⟩ := hd
  obtain ⟨π, hπ⟩ := h.2.2.1.1
  have ex : hC S tt (21 + i) = tt i := by unfold hC; rw [if_neg (by omega), Nat.add_sub_cancel_left]
  have sa := sp_against L I J w set Z z1 (21 + i) (by omega) z2 π hπ (hC S tt) (fun q h1 h2 c hc => by
    dsimp only at h2
    by_cases e : q = 21 + i
    · rw [e, ex]; exact ⟨hr c hc, ent20 ho hc⟩
    · rw [decide_eq_false e, Bool.or_false] at h2
      have := z5 q h1 h2
      exact ⟨this.1 c hc, ent20 this.2.1 hc⟩) (by
    rw [z3]
    exact ind_congr (fun q hq c _ => by rw [z4 q hq]) z6) (by
    rw [z3, ex]
    refine srt_beh (fun q hq => ?_) ho
    have := rc_lt Z 23 q (by rw [z3]; exact hq)
    exact (z5 _ this.1 this.2).2.1)
  rw [z3, ex] at sa
  have ek : kd (fun q => hC S tt ((rc Z 23).2 q)) (dgi S tt i).2 (tt i) = kd (dgi S tt i).1 (dgi S tt i).2 (tt i) := by
    unfold kd
    rw [beh_eq (a := fun q => hC S tt ((rc Z 23).2 q)) z4]
  rw [ek] at sa
  refine WP.mono sa ?_
  rintro _ _ ⟨e, K, f1, rfl⟩
  exact ⟨e, K, f1, RI_judge h (fun _ _ _ => rfl) (fun _ _ => rfl) f1, rfl⟩
theorem DR_n {S : St} {tt : Nat → Nat → Int} {I : Nat → Nat → Int32} {i : Nat} {set : Int32} (hd : DR S tt I i set) (e : ¬ kd (dgi S tt i).1 (dgi S tt i).2 (tt i) = 0) : DR S tt I (i + 1) set := by
  obtain ⟨Z, z1, z2, z3, z4, z5, z6⟩ := hd
  have ed : dgi S tt (i + 1) = dgi S tt i := adS_n e
  unfold DR
  rw [ed]
  exact ⟨Z, z1, fun k h1 h2 => z2 k (by omega) h2, z3, z4, z5, z6⟩
theorem DR_0 {S : St} {tt : Nat → Nat → Int} {I : Nat → Nat → Int32} {i : Nat} (hi : i < 2) {set : Int32} (hd : DR S tt I i set) (e : kd (dgi S tt i).1 (dgi S tt i).2 (tt i) = 0) (hr : ∀ c, c < 17 → I 210 (17 * (21 + i) + c) = zI (tt i c)) (ho : okR (tt i)) (hg : -14000 ≤ gp (tt i) (sRo S) ∧ gp (tt i) (sRo S) ≤ 14000) : DR S tt I (i + 1) (set ||| ((1 : Int32) <<< (nI (21 + i) &&& 31))) := by
  obtain ⟨Z, z1, z2, z3, z4, z5, z6⟩ := hd
  have ed : dgi S tt (i + 1) = (beh (dgi S tt i).1 (dgi S tt i).2 (tt i), (dgi S tt i).2 + 1) := adS_0 e
  have ex : hC S tt (21 + i) = tt i := by unfold hC; rw [if_neg (by omega), Nat.add_sub_cancel_left]
  have ra := rc_add (S := Z) (x := 21 + i) (M := 23) (by omega) z2
  unfold DR
  rw [ed]
  refine ⟨fun k => Z k || decide (k = 21 + i), fun k hk => by rw [bt_or1 _ (by omega) (by omega), z1 k hk], fun k h1 h2 => ?_, ?_, fun q hq => ?_, fun q hq h2 => ?_, kd_ind e⟩
  · show (Z k || decide (k = 21 + i)) = false
    rw [z2 k (by omega) h2, decide_eq_false (by omega)]; rfl
  · rw [ra, z3]
  · rw [ra]
    show hC S tt (if q = (rc Z 23).1 then 21 + i else (rc Z 23).2 q) = beh (dgi S tt i).1 (dgi S tt i).2 (tt i) q
    have hq' : q < (dgi S tt i).2 + 1 := hq
    unfold beh
    rw [z3]
    by_cases y : q = (dgi S tt i).2
    · rw [if_pos y, if_neg (by omega), ex]
    · rw [if_neg y, if_pos (by omega), z4 q (by omega)]
  · dsimp only at h2
    by_cases y : q = 21 + i
    · rw [y, ex]; exact ⟨hr, ho, hg⟩
    · rw [decide_eq_false y, Bool.or_false] at h2
      exact z5 q hq h2
theorem DR_row {S : St} {tt : Nat → Nat → Int} {I I' : Nat → Nat → Int32} {i : Nat} {set : Int32} (hd : DR S tt I i set) (h9 : ∀ k, k < 17 * (21 + i) → I' 210 k = I 210 k) : DR S tt I' i set := by
  obtain ⟨Z, z1, z2, z3, z4, z5, z6⟩ := hd
  refine ⟨Z, z1, z2, z3, z4, fun q hq h2 => ?_, z6⟩
  have hl : q < 21 + i := by
    by_cases y : q < 21 + i
    · exact y
    · rw [z2 q (by omega) hq] at h2; cases h2
  have := z5 q hq h2
  exact ⟨fun c hc => (h9 _ (by omega)).trans (this.1 c hc), this.2⟩
theorem DR_start {S : St} {tt : Nat → Nat → Int} {I : Nat → Nat → Int32} {J : Nat → Nat → Int64} (h : RI I J S) (hj : JR I (sT S) (sOf S) (sTl S)) : DR S tt I 0 (I 208 9) := by
  have q2 := h.2.1.2.1
  have e := rc_sb23 (sT S) (sOf S) (m := sTl S) (by omega)
  have lo : ∀ q, sb (sT S) (sOf S) (sTl S) q = true → q < sTl S := fun q hq => by
    unfold sb at hq
    rw [decide_eq_true_iff] at hq
    exact hq.1
  have hc : ∀ q, q < sTl S → hC S tt q = sT S q := fun q hq => if_pos (by omega)
  refine ⟨sb (sT S) (sOf S) (sTl S), fun k hk => hj.1 k (by omega), fun k h1 h2 => ?_, by rw [e]; rfl, fun q hq => ?_, fun q hq h2 => ?_, am_ind _ _ _⟩
  · unfold sb
    exact decide_eq_false (fun y => by omega)
  · rw [e]
    have : nos (sT S) (sOf S) (sTl S) q < sTl S := nos_lt _ _ _ q hq
    exact hc _ this
  · have hl := lo q h2
    have row := h.2.1.2.2.1 q hl
    rw [hc q hl]
    exact ⟨row.1, rowOK_srt row.2.2.2, gp_row row.2.2.2 (fun c hc => (h.1.2.2 c hc).2)⟩
theorem mdc_a (L : Nat) (I : Nat → Nat → Int32) (J : Nat → Nat → Int64) (w : Nat → Nat) (P : Nat) (p2 : P ≤ 8) (p1 : I 208 0 = nI P) (p x y j : Int32) (Q : Option Value → MH → Prop) (k0 : ¬ rg p P → WP m_Mo_drag (55, [some (.ref 208), some (.int p), some (.int x), some (.int y), some (.int j), none, none], [], hp L I J w, 0, 0) Q) (k1 : rg p P → WP m_Mo_drag (8, [some (.ref 208), some (.int p), some (.int x), some (.int y), some (.int j), none, none], [], hp L I J w, 0, 0) Q) : WP m_Mo_drag (0, [some (.ref 208), some (.int p), some (.int x), some (.int y), some (.int j), none, none], [], hp L I J w, 0, 0) Q := by
  iterate 2 (refine WP.st rfl ?_)
  refine WP.calle rfl rfl (ev_misPoint L I J w P p2 p1 p) ?_
  exact WP.bz rfl k0 k1
theorem mdc_b (L : Nat) (I : Nat → Nat → Int32) (J : Nat → Nat → Int64) (w : Nat → Nat) (p x y j : Int32) (Q : Option Value → MH → Prop) (k0 : ¬ wi x 1000 → WP m_Mo_drag (55, [some (.ref 208), some (.int p), some (.int x), some (.int y), some (.int j), none, none], [], hp L I J w, 0, 0) Q) (k1 : wi x 1000 → WP m_Mo_drag (22, [some (.ref 208), some (.int p), some (.int x), some (.int y), some (.int j), none, none], [], hp L I J w, 0, 0) Q) : WP m_Mo_drag (8, [some (.ref 208), some (.int p), some (.int x), some (.int y), some (.int j), none, none], [], hp L I J w, 0, 0) Q := by
  iterate 4 (refine WP.st rfl ?_)
  refine WP.calle rfl rfl (ev_in1000 (hp L I J w) x) ?_
  exact WP.bz rfl k0 k1
theorem mdc_c (L : Nat) (I : Nat → Nat → Int32) (J : Nat → Nat → Int64) (w : Nat → Nat) (p x y j : Int32) (Q : Option Value → MH → Prop) (k0 : ¬ wi y 1000 → WP m_Mo_drag (55, [some (.ref 208), some (.int p), some (.int x), some (.int y), some (.int j), none, none], [], hp L I J w, 0, 0) Q) (k1 : wi y 1000 → WP m_Mo_drag (36, [some (.ref 208), some (.int p), some (.int x), some (.int y), some (.int j), none, none], [], hp L I J w, 0, 0) Q) : WP m_Mo_drag (22, [some (.ref 208), some (.int p), some (.int x), some (.int y), some (.int j), none, none], [], hp L I J w, 0, 0) Q := by
  iterate 4 (refine WP.st rfl ?_)
  refine WP.calle rfl rfl (ev_in1000 (hp L I J w) y) ?_
  exact WP.bz rfl k0 k1
theorem mdc_d (L : Nat) (I : Nat → Nat → Int32) (J : Nat → Nat → Int64) (w : Nat → Nat) (P : Nat) (p2 : P ≤ 8) (p1 : I 208 0 = nI P) (p x y j : Int32) (Q : Option Value → MH → Prop) (k0 : ¬ rg j (2 * P : Nat) → WP m_Mo_drag (55, [some (.ref 208), some (.int p), some (.int x), some (.int y), some (.int j), none, none], [], hp L I J w, 0, 0) Q) (k1 : rg j (2 * P : Nat) → WP m_Mo_drag (58, [some (.ref 208), some (.int p), some (.int x), some (.int y), some (.int j), none, none], [], hp L I J w, 0, 0) Q) : WP m_Mo_drag (36, [some (.ref 208), some (.int p), some (.int x), some (.int y), some (.int j), none, none], [], hp L I J w, 0, 0) Q := by
  iterate 5 (refine WP.st rfl ?_)
  refine WP.get (v := .int (nI P)) rfl rfl (rfl) (congrArg Value.int p1) ?_
  iterate 4 (refine WP.st rfl ?_)
  rw [ix2, m1_long (by omega)]
  refine WP.calle rfl rfl (ev_inR (hp L I J w) j 0 (((2 * P : Nat) : Int) - 1) (by decide) (by decide) (by omega) (by omega)) ?_
  rw [rg_in]
  exact WP.bn rfl k1 k0
/-- a row of the hand's is written -/
theorem mdr_1 (L : Nat) (I : Nat → Nat → Int32) (J : Nat → Nat → Int64) (w : Nat → Nat) (a : Nat) (ha : a < 8) (x y : Int32) (j s : Int32) (k : Nat) (hk : k < 2) (Q : Option Value → MH → Prop) (kk : ∀ I' : Nat → Nat → Int32, (∀ c, c ≠ 210 → I' c = I c) → (∀ q, q < 17 * (21 + k) → I' 210 q = I 210 q) → (∀ c, c < 17 → I' 210 (17 * (21 + k) + c) = zI (hnd a x y k c)) → WP m_Mo_drag (117, [some (.ref 208), some (.int (nI a)), some (.int x), some (.int y), some (.int j), some (.int s), some (.int (nI k))], [], hp L I' J w, 0, 0) Q) : WP m_Mo_drag (77, [some (.ref 208), some (.int (nI a)), some (.int x), some (.int y), some (.int j), some (.int s), some (.int (nI k))], [], hp L I J w, 0, 0) Q := by
  have go : WP m_Mo_drag (93, [some (.ref 208), some (.int (nI a)), some (.int x), some (.int y), some (.int j), some (.int s), some (.int (nI k))], [.int (if k = 0 then x else y), .int (nI (21 + k)), .ref 208], hp L I J w, 0, 0) Q := by
    refine WP.call rfl rfl (sp_clearRow L I J w (21 + k) (by omega) (if k = 0 then x else y)) ?_
    rintro _ _ ⟨rfl, I2, g1, g2, g3, rfl⟩
    iterate 14 (refine WP.st rfl ?_)
    refine WP.iast (k := 17 * (21 + k) + (2 * a + k)) rfl (by rw [show ((Int8.ofInt 21).toInt32 + nI k : Int32) = nI (21 + k) from nI_add 21 k, ix2, show ((Int8.ofInt 17).toInt32 * nI (21 + k) : Int32) = nI (17 * (21 + k)) from pk_mul 17 _, nI_add, nI_add, Nat.add_assoc]) (rfl) (show 17 * (21 + k) + (2 * a + k) < 391 by omega) (rfl) ?_
    exact kk (mm_up I2 210 (17 * (21 + k) + (2 * a + k)) 1) (fun c hc => (up_ne I2 _ hc).trans (g1 c hc)) (fun q hq => (up_nk I2 _ (by omega)).trans (g2 q (by omega))) (prow_at g3)
  iterate 5 (refine WP.st rfl ?_)
  rw [show ((Int8.ofInt 21).toInt32 + nI k : Int32) = nI (21 + k) from nI_add 21 k]
  by_cases e : k = 0
  · rw [if_pos e] at go
    refine WP.iff rfl (show ¬ ¬ nI k = 0 by rw [e]; exact fun z => z rfl) ?_
    iterate 2 (refine WP.st rfl ?_)
    exact go
  · rw [if_neg e] at go
    refine WP.ift rfl (show ¬ nI k = 0 from nI_ne0 (by omega) (by omega)) ?_
    iterate 1 (refine WP.st rfl ?_)
    exact go
theorem hnd_ok {a : Nat} (ha : a < 8) {x y : Int32} (hx : wi x 1000) (hy : wi y 1000) {k : Nat} (hk : k < 2) : rowOK 1 (fun _ => 2 * a + k) (fun _ => 1) (hnd a x y k) := by
  unfold hnd
  by_cases e : k = 0
  · rw [if_pos e]
    exact prow_ok ⟨by have := hx.1; omega, by have := hx.2; omega⟩ (by omega)
  · rw [if_neg e]
    exact prow_ok ⟨by have := hy.1; omega, by have := hy.2; omega⟩ (by omega)
theorem mdr_2 (L : Nat) (I : Nat → Nat → Int32) (J : Nat → Nat → Int64) (w : Nat → Nat) (S : St) (h : RI I J S) (hj : JR I (sT S) (sOf S) (sTl S)) (a : Nat) (ha : a < 8) (x y : Int32) (hx : wi x 1000) (hy : wi y 1000) (j : Int32) (Q : Option Value → MH → Prop) (kk : ∀ (I' : Nat → Nat → Int32) (J' : Nat → Nat → Int64) (set : Int32), FR 208 228 I J I' J' → RI I' J' S → DR S (hnd a x y) I' 2 set → WP m_Mo_drag (154, [some (.ref 208), some (.int (nI a)), some (.int x), some (.int y), some (.int j), some (.int set), some (.int (nI 2))], [], hp L I' J' w, 0, 0) Q) : WP m_Mo_drag (62, [some (.ref 208), some (.int (nI a)), some (.int x), some (.int y), some (.int j), none, none], [], hp L I J w, 0, 0) Q := by
  iterate 7 (refine WP.st rfl ?_)
  refine WP.inv (fun i (s : Int32 × (Nat → Nat → Int32) × (Nat → Nat → Int64)) => (74, [some (.ref 208), some (.int (nI a)), some (.int x), some (.int y), some (.int j), some (.int s.1), some (.int (nI i))], [.int (nI 2), .int (nI i)], hp L s.2.1 s.2.2 w, 0, 0)) (fun i s => FR 208 228 I J s.2.1 s.2.2 ∧ RI s.2.1 s.2.2 S ∧ DR S (hnd a x y) s.2.1 i s.1) 2 (I 208 9, I, J) ⟨FR.refl _ _ _ _, h, DR_start h hj⟩ (fun i s hi hv k2 => ?_) (fun s hv => ?_)
  · obtain ⟨set, I1, J1⟩ := s
    obtain ⟨f1, f2, f3⟩ := hv
    dsimp only at f1 f2 f3 ⊢
    have ok := hnd_ok ha hx hy hi
    refine WP.icf rfl (nI_ge hi (by omega)) ?_
    refine mdr_1 L I1 J1 w a ha x y j set i hi Q (fun I2 g1 g2 g3 => ?_)
    have r2 : RI I2 J1 S := RI_more f2 g1 (fun q hq => g2 q (by omega))
    have d2 := DR_row f3 g2
    iterate 5 (refine WP.st rfl ?_)
    rw [show ((Int8.ofInt 21).toInt32 + nI i : Int32) = nI (21 + i) from nI_add 21 i]
    refine WP.call rfl rfl (sp_mdg L I2 J1 w S r2 (hnd a x y) i hi set d2 g3 (rowOK_srt ok)) ?_
    rintro _ _ ⟨rfl, K, l1, l2, rfl⟩
    have kl := kd_le (dgi S (hnd a x y) i).1 (dgi S (hnd a x y) i).2 (hnd a x y i)
    have fr : FR 208 228 I J I2 K := fun c hc => ⟨(g1 c (by omega)).trans (f1 c hc).1, (l1 c (by omega)).trans (f1 c hc).2⟩
    by_cases e : kd (dgi S (hnd a x y) i).1 (dgi S (hnd a x y) i).2 (hnd a x y i) = 0
    · have k3 := k2 (_, I2, K) ⟨fr, l2, DR_0 hi d2 e g3 (rowOK_srt ok) (gp_row ok (fun c hc => (h.1.2.2 c hc).2))⟩
      rw [nI_succ i, ← nI_add 21 i] at k3
      refine WP.iff rfl (show ¬ ¬ nI _ = 0 by rw [e]; exact fun z => z rfl) ?_
      iterate 13 (refine WP.st rfl ?_)
      exact k3
    · have k3 := k2 (set, I2, K) ⟨fr, l2, DR_n d2 e⟩
      rw [nI_succ i] at k3
      refine WP.ift rfl (show ¬ nI _ = 0 from nI_ne0 (by omega) (by omega)) ?_
      iterate 6 (refine WP.st rfl ?_)
      exact k3
  · skip
    refine WP.ict rfl (show nI 2 ≤ nI 2 from nI_le (Nat.le_refl _) (by omega)) ?_
    exact kk s.2.1 s.2.2 s.1 hv.1 hv.2.1 hv.2.2
theorem m_drag (L : Nat) (I : Nat → Nat → Int32) (J : Nat → Nat → Int64) (w : Nat → Nat) (S : St) (h : RI I J S) (p x y j : Int32) : MM L I J w m_Mo_drag [.int p, .int x, .int y, .int j] (.int (oDrag S p x y j).1) (oDrag S p x y j).2 := by
  obtain ⟨p1, p2, p3⟩ := h.1
  unfold MM SP oDrag
  have bad : ¬ (rg p (sPt S) ∧ (wi x 1000 ∧ wi y 1000) ∧ rg j (2 * sPt S : Nat)) → WP m_Mo_drag (55, [some (.ref 208), some (.int p), some (.int x), some (.int y), some (.int j), none, none], [], hp L I J w, 0, 0) (fun v h => v = some (.int (if rg p (sPt S) ∧ (wi x 1000 ∧ wi y 1000) ∧ rg j (2 * sPt S : Nat) then ((1 : Int32), stR S (dgi S (hnd p.toInt.toNat x y) 2).1 (dgi S (hnd p.toInt.toNat x y) 2).2 (fun i => (dgi S (hnd p.toInt.toNat x y) 2).1 i j.toInt.toNat) (sRo S j.toInt.toNat)) else (-2, S)).1) ∧ ∃ (I' : Nat → Nat → Int32) (J' : Nat → Nat → Int64), FR 208 228 I J I' J' ∧ RI I' J' (if rg p (sPt S) ∧ (wi x 1000 ∧ wi y 1000) ∧ rg j (2 * sPt S : Nat) then ((1 : Int32), stR S (dgi S (hnd p.toInt.toNat x y) 2).1 (dgi S (hnd p.toInt.toNat x y) 2).2 (fun i => (dgi S (hnd p.toInt.toNat x y) 2).1 i j.toInt.toNat) (sRo S j.toInt.toNat)) else (-2, S)).2 ∧ h = hp L I' J' w) := fun z => by
    rw [if_neg z]
    iterate 1 (refine WP.st rfl ?_)
    exact WP.ret rfl ⟨rfl, I, J, FR.refl _ _ _ _, h, rfl⟩
  refine mdc_a L I J w (sPt S) p2 p1 p x y j _ (fun z => bad (fun k => z k.1)) (fun z => mdc_b L I J w p x y j _ (fun z2 => bad (fun k => z2 k.2.1.1)) (fun z2 => mdc_c L I J w p x y j _ (fun z3 => bad (fun k => z3 k.2.1.2)) (fun z3 => mdc_d L I J w (sPt S) p2 p1 p x y j _ (fun z4 => bad (fun k => z4 k.2.2)) (fun z4 => ?_))))
  rw [if_pos ⟨z, ⟨z2, z3⟩, z4⟩]
  obtain ⟨a, ha, rfl⟩ := rg_nI z
  obtain ⟨k, hk, rfl⟩ := rg_nI z4
  rw [nI_toInt (by omega), nI_toInt (by omega), Int.toNat_natCast, Int.toNat_natCast]
  iterate 1 (refine WP.st rfl ?_)
  refine WP.call rfl rfl (sp_mj L I J w S h) ?_
  rintro _ _ ⟨rfl, I1, J1, f1, f2, f3, rfl⟩
  refine mdr_2 L I1 J1 w S f2 f3 a (by omega) x y z2 z3 (nI k) _ (fun I2 J2 set g1 g2 g3 => ?_)
  obtain ⟨Z, d1, d2, d3, d4, d5, d6⟩ := g3
  have row : ∀ i, i < (dgi S (hnd a x y) 2).2 → (∀ c, c < 17 → I2 210 (17 * (rc Z 23).2 i + c) = zI ((dgi S (hnd a x y) 2).1 i c)) ∧ okR ((dgi S (hnd a x y) 2).1 i) ∧ (-14000 ≤ gp ((dgi S (hnd a x y) 2).1 i) (sRo S) ∧ gp ((dgi S (hnd a x y) 2).1 i) (sRo S) ≤ 14000) := fun i hi => by
    have := rc_lt Z 23 i (by rw [d3]; exact hi)
    rw [← d4 i hi]
    exact d5 _ this.1 this.2
  iterate 3 (refine WP.st rfl ?_)
  refine WP.call rfl rfl (sp_mpl L I2 J2 w S g2 set Z d1 _ (rc Z 23).2 d3 (fun i _ => rfl) _ (ind_dim 16 _ _ d6) (fun i hi => ⟨(row i hi).1, (row i hi).2.1⟩) d6 (fun i hi => (row i hi).2.2) (nI k) (fun i => (dgi S (hnd a x y) 2).1 i k) (sRo S k) (Or.inl ⟨k, by omega, rfl, fun _ _ => rfl, rfl⟩)) ?_
  rintro _ _ ⟨rfl, I3, K3, n1, n2, rfl⟩
  iterate 1 (refine WP.st rfl ?_)
  exact WP.ret rfl ⟨rfl, I3, K3, (f1.trans g1).trans n1, n2, rfl⟩
