/-! what a call does, on either side -/
def CM (L : Nat) (I : Nat → Nat → Int32) (J : Nat → Nat → Int64) (w : Nat → Nat) (m : Nat) (av : List Value) (r : Value) (S' : St) : Prop := SP m (.ref 2 :: av) (hp L I J w) (fun v h => v = some r ∧ ∃ (I' : Nat → Nat → Int32) (J' : Nat → Nat → Int64) (w' : Nat → Nat), FR 1 207 I J I' J' ∧ CI I' J' w' S' ∧ h = hp L I' J' w')
def MM (L : Nat) (I : Nat → Nat → Int32) (J : Nat → Nat → Int64) (w : Nat → Nat) (m : Nat) (av : List Value) (r : Value) (S' : St) : Prop := SP m (.ref 208 :: av) (hp L I J w) (fun v h => v = some r ∧ ∃ (I' : Nat → Nat → Int32) (J' : Nat → Nat → Int64), FR 208 228 I J I' J' ∧ RI I' J' S' ∧ h = hp L I' J' w)
theorem ev_inC (h : MH) (x : Int32) {A B : Int64} (a b : Int) (hA : zJ a = A) (hB : zJ b = B) (hr : -2 ^ 40 < a ∧ a < 2 ^ 40 ∧ -2 ^ 40 < b ∧ b < 2 ^ 40) : EV m_Mo_in [.long x.toInt64, .long A, .long B] h (some (.int (if a ≤ x.toInt ∧ x.toInt ≤ b then 1 else 0))) h := by
  subst hA hB
  exact ev_inR h x a b hr.1 hr.2.1 hr.2.2.1 hr.2.2.2
theorem zm1000 : zJ (-1000) = (-1000 : Int64) := by decide
theorem zp1000 : zJ 1000 = (1000 : Int64) := by decide
theorem ev_in1000 (h : MH) (x : Int32) : EV m_Mo_in [.long x.toInt64, .long (-1000), .long 1000] h (some (.int (if wi x 1000 then 1 else 0))) h := ev_inC h x (-1000) 1000 zm1000 zp1000 (by decide)
def upR (ρ : Nat → Int) (p : Nat) (x y : Int32) : Nat → Int := fun c => if c = 2 * p then x.toInt else if c = 2 * p + 1 then y.toInt else ρ c
theorem RO_up {I : Nat → Nat → Int32} {ρ : Nat → Int} (h : RO I ρ) {p : Nat} {x y : Int32} (hx : wi x 1000) (hy : wi y 1000) : RO (mm_up (mm_up I 3 (2 * p) x) 3 (2 * p + 1) y) (upR ρ p x y) := fun c hc => by
  unfold upR
  by_cases e1 : c = 2 * p
  · rw [if_pos e1, e1, up_nk _ _ (by omega), mm_up_at]; exact ⟨zI_of x, hx⟩
  · rw [if_neg e1]
    by_cases e2 : c = 2 * p + 1
    · rw [if_pos e2, e2, mm_up_at]; exact ⟨zI_of y, hy⟩
    · rw [if_neg e2, up_nk _ _ e2, up_nk _ _ e1]; exact h c hc
theorem ix2 (p : Nat) : (Int32.ofInt 2 * nI p : Int32) = nI (2 * p) := pk_mul 2 p
theorem ix21 (p : Nat) : (Int32.ofInt 2 * nI p + Int32.ofInt 1 : Int32) = nI (2 * p + 1) := by rw [ix2]; exact nI_1 _
theorem ev_putRough (L : Nat) (I : Nat → Nat → Int32) (J : Nat → Nat → Int64) (w : Nat → Nat) (p : Nat) (hp8 : p < 8) (x y : Int32) : EV m_DT_putRough [.ref 2, .int (nI p), .int x, .int y] (hp L I J w) none (hp L (mm_up (mm_up I 3 (2 * p) x) 3 (2 * p + 1) y) J w) := by
  obtain ⟨r, h', e, q⟩ : SP m_DT_putRough [.ref 2, .int (nI p), .int x, .int y] (hp L I J w) (fun r h' => r = none ∧ h' = hp L (mm_up (mm_up I 3 (2 * p) x) 3 (2 * p + 1) y) J w) := by
    unfold SP
    iterate 6 (refine WP.st rfl ?_)
    refine WP.iast (k := 2 * p) rfl (ix2 p) (rfl) (show 2 * p < 16 by omega) (rfl) ?_
    iterate 8 (refine WP.st rfl ?_)
    refine WP.iast (k := 2 * p + 1) rfl (ix21 p) (rfl) (show 2 * p + 1 < 16 by omega) (rfl) ?_
    exact WP.ret rfl ⟨rfl, rfl⟩
  obtain ⟨rfl, rfl⟩ := q
  exact e
def oPoint (S : St) (x y : Int32) : Int32 × St := if wi x 1000 ∧ wi y 1000 then (if sPt S = 8 then (-4, S) else (nI (sPt S), ((sPt S + 1, upR (sRo S) (sPt S) x y), S.2))) else (-2, S)
theorem CI_pts {I I' : Nat → Nat → Int32} {J : Nat → Nat → Int64} {w : Nat → Nat} {S : St} (h : CI I J w S) {P : Nat} {ρ : Nat → Int} (h2 : ∀ k, k ≠ 1 → I' 2 k = I 2 k) (hn : ∀ c, c ≠ 2 → c ≠ 3 → I' c = I c) (h1 : C1 I' ((P, ρ), S.2)) : CI I' J w ((P, ρ), S.2) := by
  obtain ⟨a1, a2, a3, a4, a5⟩ := h
  have b2 : C2 I' J S := C2_ext a2 (h2 3 (by decide)) (fun c g1 g2 => ⟨hn c (by omega) (by omega), rfl⟩) (fun c hc => hn c (by omega) (by omega))
  have b4 : C4 I' J S := C4_ext a4 (hn 134 (by decide) (by decide)) rfl rfl
  have b5 : CF I' (sB S) (sBa S) (sBb S) := CF_ext a5 (fun c g1 g2 _ => hn c (by omega) (by omega))
  exact ⟨h1, b2, a3, b4, b5⟩
set_option maxHeartbeats 4000000 in
set_option maxRecDepth 20000 in
theorem c_point (L : Nat) (I : Nat → Nat → Int32) (J : Nat → Nat → Int64) (w : Nat → Nat) (S : St) (h : CI I J w S) (x y : Int32) : CM L I J w m_DT_point [.int x, .int y] (.int (oPoint S x y).1) (oPoint S x y).2 := by
  obtain ⟨p1, p2, p3⟩ := h.1
  unfold CM SP oPoint
  iterate 2 (refine WP.st rfl ?_)
  refine WP.calle rfl rfl (ev_place (hp L I J w) x y) ?_
  refine WP.bn rfl (fun z => ?_) (fun z => ?_)
  · rw [if_pos z]
    iterate 3 (refine WP.st rfl ?_)
    by_cases e : sPt S = 8
    · rw [if_pos e]
      refine WP.icf rfl (show ¬ I 2 1 < nI 8 by rw [p1, e]; exact nI_nlt (Nat.le_refl _) (by omega)) ?_
      iterate 1 (refine WP.st rfl ?_)
      exact WP.ret rfl ⟨rfl, I, J, w, FR.refl _ _ _ _, h, rfl⟩
    · rw [if_neg e]
      refine WP.ict rfl (show I 2 1 < nI 8 by rw [p1]; exact nI_lt (by omega) (by omega)) ?_
      iterate 2 (refine WP.st rfl ?_)
      refine WP.get (v := .int (nI (sPt S))) rfl rfl (rfl) (congrArg Value.int p1) ?_
      iterate 2 (refine WP.st rfl ?_)
      refine WP.calle rfl rfl (ev_putRough L I J w (sPt S) (by omega) x y) ?_
      have p1' : mm_up (mm_up I 3 (2 * sPt S) x) 3 (2 * sPt S + 1) y 2 1 = nI (sPt S) := by rw [up_ne _ _ (by decide), up_ne I _ (by decide)]; exact p1
      iterate 2 (refine WP.st rfl ?_)
      refine WP.get (v := .int (nI (sPt S))) rfl rfl (rfl) (congrArg Value.int p1') ?_
      iterate 3 (refine WP.st rfl ?_)
      have p1'' : mm_up (mm_up (mm_up I 3 (2 * sPt S) x) 3 (2 * sPt S + 1) y) 2 1 (nI (sPt S) + 1) 2 1 = nI (sPt S + 1) := by rw [mm_up_at]; exact nI_1 _
      iterate 1 (refine WP.st rfl ?_)
      refine WP.get (v := .int (nI (sPt S + 1))) rfl rfl (rfl) (congrArg Value.int p1'') ?_
      iterate 2 (refine WP.st rfl ?_)
      refine WP.ret rfl ⟨by rw [show (nI (sPt S + 1) - Int32.ofInt 1 : Int32) = nI (sPt S) from nI_m1 _], mm_up (mm_up (mm_up I 3 (2 * sPt S) x) 3 (2 * sPt S + 1) y) 2 1 (nI (sPt S) + 1), J, w, fun c hc => ⟨(up_ne _ _ (by omega)).trans ((up_ne _ _ (by omega)).trans (up_ne I _ (by omega))), rfl⟩, CI_pts h (fun k hk => (up_nk _ _ hk).trans (by rw [up_ne _ _ (by decide), up_ne I _ (by decide)])) (fun c c1 c2 => (up_ne _ _ c1).trans ((up_ne _ _ c2).trans (up_ne I _ c2))) ⟨p1'', by show sPt S + 1 ≤ 8; omega, ?_⟩, rfl⟩
      unfold RO
      rw [up_ne _ _ (show (3 : Nat) ≠ 2 by decide)]
      exact RO_up p3 z.1 z.2
  · rw [if_neg z]
    iterate 1 (refine WP.st rfl ?_)
    exact WP.ret rfl ⟨rfl, I, J, w, FR.refl _ _ _ _, h, rfl⟩
def oRough (S : St) (p x y : Int32) : Int32 × St := if rg p (sPt S) ∧ wi x 1000 ∧ wi y 1000 then (1, ((sPt S, upR (sRo S) p.toInt.toNat x y), S.2)) else (-2, S)
set_option maxHeartbeats 4000000 in
set_option maxRecDepth 20000 in
theorem c_rough (L : Nat) (I : Nat → Nat → Int32) (J : Nat → Nat → Int64) (w : Nat → Nat) (S : St) (h : CI I J w S) (p x y : Int32) : CM L I J w m_DT_rough [.int p, .int x, .int y] (.int (oRough S p x y).1) (oRough S p x y).2 := by
  obtain ⟨p1, p2, p3⟩ := h.1
  unfold CM SP oRough
  have bad : ¬ (rg p (sPt S) ∧ wi x 1000 ∧ wi y 1000) → WP m_DT_rough (16, [some (.ref 2), some (.int p), some (.int x), some (.int y)], [], hp L I J w, 0, 0) (fun v h => v = some (.int (if rg p (sPt S) ∧ wi x 1000 ∧ wi y 1000 then (1, ((sPt S, upR (sRo S) p.toInt.toNat x y), S.2)) else ((-2 : Int32), S)).1) ∧ ∃ (I' : Nat → Nat → Int32) (J' : Nat → Nat → Int64) (w' : Nat → Nat), FR 1 207 I J I' J' ∧ CI I' J' w' (if rg p (sPt S) ∧ wi x 1000 ∧ wi y 1000 then ((1 : Int32), ((sPt S, upR (sRo S) p.toInt.toNat x y), S.2)) else (-2, S)).2 ∧ h = hp L I' J' w') := fun z => by
    rw [if_neg z]
    iterate 1 (refine WP.st rfl ?_)
    exact WP.ret rfl ⟨rfl, I, J, w, FR.refl _ _ _ _, h, rfl⟩
  iterate 2 (refine WP.st rfl ?_)
  refine WP.calle rfl rfl (ev_isPoint L I J w (sPt S) p2 p1 p) ?_
  refine WP.bz rfl (fun z => bad (fun y => z y.1)) (fun z => ?_)
  iterate 2 (refine WP.st rfl ?_)
  refine WP.calle rfl rfl (ev_place (hp L I J w) x y) ?_
  refine WP.bn rfl (fun z2 => ?_) (fun z2 => bad (fun y => z2 y.2))
  rw [if_pos ⟨z, z2⟩]
  obtain ⟨k, hk, rfl⟩ := rg_nI z
  rw [nI_toInt (by omega), Int.toNat_natCast]
  iterate 4 (refine WP.st rfl ?_)
  refine WP.calle rfl rfl (ev_putRough L I J w k (by omega) x y) ?_
  iterate 1 (refine WP.st rfl ?_)
  exact WP.ret rfl ⟨rfl, mm_up (mm_up I 3 (2 * k) x) 3 (2 * k + 1) y, J, w, fun c hc => ⟨(up_ne _ _ (by omega)).trans (up_ne I _ (by omega)), rfl⟩, CI_pts h (fun j _ => by rw [up_ne _ _ (by decide), up_ne I _ (by decide)]) (fun c _ c2 => (up_ne _ _ c2).trans (up_ne I _ c2)) ⟨by rw [up_ne _ _ (by decide), up_ne I _ (by decide)]; exact p1, p2, RO_up p3 z2.1 z2.2⟩, rfl⟩
theorem R8_up {I : Nat → Nat → Int32} {ρ : Nat → Int} (h : RR8 I ρ) {p : Nat} {x y : Int32} (hx : wi x 1000) (hy : wi y 1000) : RR8 (mm_up (mm_up I 209 (2 * p) x) 209 (2 * p + 1) y) (upR ρ p x y) := fun c hc => by
  unfold upR
  by_cases e1 : c = 2 * p
  · rw [if_pos e1, e1, up_nk _ _ (by omega), mm_up_at]; exact ⟨zI_of x, hx⟩
  · rw [if_neg e1]
    by_cases e2 : c = 2 * p + 1
    · rw [if_pos e2, e2, mm_up_at]; exact ⟨zI_of y, hy⟩
    · rw [if_neg e2, up_nk _ _ e2, up_nk _ _ e1]; exact h c hc
theorem RI_pts {I I' : Nat → Nat → Int32} {J : Nat → Nat → Int64} {S : St} (h : RI I J S) {P : Nat} {ρ : Nat → Int} (h2 : ∀ k, k ≠ 0 → I' 208 k = I 208 k) (hn : ∀ c, 208 < c → c ≠ 209 → I' c = I c) (h1 : R1 I' ((P, ρ), S.2)) : RI I' J ((P, ρ), S.2) := by
  obtain ⟨a1, a2, a3, a4, a5⟩ := h
  have b2 : R2 I' S := by
    unfold R2 rR at *
    rw [h2 2 (by decide), hn 210 (by decide) (by decide), hn 211 (by decide) (by decide), hn 212 (by decide) (by decide), hn 213 (by decide) (by decide), hn 214 (by decide) (by decide)]
    exact a2
  have b3 : R3 I' J := by
    unfold R3 PM at *
    rw [hn 219 (by decide) (by decide)]
    exact a3
  have b4 : R4 I' J S := by
    unfold R4 at *
    rw [h2 25 (by decide)]
    exact a4
  have b5 : R5 I' S := by
    unfold R5 BR BA21 at *
    rw [h2 10 (by decide), hn 216 (by decide) (by decide), hn 217 (by decide) (by decide)]
    exact a5
  exact ⟨h1, b2, b3, b4, b5⟩
