/-! Balance: settle -/
/-- the first f primes that were taken, and what was passed over -/
def tk (K : Nat → Nat → Int64) (D T : Int) (q f : Nat) (ch : Nat → Nat) : Prop := (∀ k, k < f → ch k < q ∧ K 131 k = zJ (pc (ch k)) ∧ K 132 k = zJ (T % pc (ch k)) ∧ K 133 k = zJ (D % pc (ch k)) ∧ D % pc (ch k) ≠ 0) ∧ (∀ j k, j < k → k < f → ch j < ch k) ∧ ∃ X : Int, X ∣ D ∧ (∀ j, q ≤ j → j < 6 → ¬ pc j ∣ X) ∧ (2147483549 : Int) ^ (q - f) ≤ X
theorem tk_skip {K : Nat → Nat → Int64} {D T : Int} {q f : Nat} {ch : Nat → Nat} (hq : q < 6) (hf : f ≤ q) (h : tk K D T q f ch) (hd : D % pc q = 0) : tk K D T (q + 1) f ch := by
  obtain ⟨h1, h2, X, x1, x2, x3⟩ := h
  refine ⟨fun k hk => ⟨by have := (h1 k hk).1; omega, (h1 k hk).2⟩, h2, X * pc q, cop_dvd (pm_gcd (pc_pm q) (x2 q (Nat.le_refl q) hq)) x1 (Int.dvd_of_emod_eq_zero hd), fun j h3 h4 z => ?_, ?_⟩
  · rcases (pc_pm j).2 _ _ z with y | y
    · exact x2 j (by omega) h4 y
    · exact pc_ne j h4 q hq (by omega) y
  · rw [show q + 1 - f = q - f + 1 by omega, Int.pow_succ]
    have : (0 : Int) ≤ 2147483549 ^ (q - f) := Int.pow_nonneg (by decide)
    exact Int.mul_le_mul x3 (pc_ge q).1 (by decide) (by omega)
theorem tk_few {K : Nat → Nat → Int64} {D T : Int} {q f : Nat} {ch : Nat → Nat} (h : tk K D T q f ch) (h0 : 0 < D) (h1 : D ≤ 37 ^ 16) : q - f ≤ 2 := by
  obtain ⟨-, -, X, x1, -, x3⟩ := h
  have h2 := Int.le_of_dvd h0 x1
  by_cases e : q - f ≤ 2
  · exact e
  · exfalso
    obtain ⟨d, hd⟩ : ∃ d, q - f = 3 + d := ⟨q - f - 3, by omega⟩
    have h4 : (0 : Int) < 2147483549 ^ d := Int.pow_pos (by decide)
    have h3 := Int.mul_le_mul_of_nonneg_left (show (1 : Int) ≤ 2147483549 ^ d by omega) (show (0 : Int) ≤ 2147483549 ^ 3 by decide)
    rw [← Int.pow_add, ← hd, Int.mul_one] at h3
    have c3 : (2147483549 : Int) ^ 3 = 9903518944612357868719518149 := by decide
    have c37 : (37 : Int) ^ 16 = 12337511914217166362274241 := by decide
    omega
set_option maxHeartbeats 4000000 in
set_option maxRecDepth 20000 in
theorem sp_settle (L : Nat) (I : Nat → Nat → Int32) (J : Nat → Nat → Int64) (w : Nat → Nat) (A : Nat → Nat → Int) (g v : Nat → Int) (n : Nat) (s : Int) (hn : n ≤ 16) (hsz : I 76 2 = nI n) (hw : isP w) (hA : ∀ i, i < n → dt 16 (A i) (A i) ≤ 36) (hi : ind 16 n A) (hg : ∀ i, i < n → -14000 ≤ g i ∧ g i ≤ 14000) (hv : ∀ i, i < n → -14000 ≤ v i ∧ v i ≤ 14000) (hs : -1000 ≤ s ∧ s ≤ 1000) (hT : TB J n (bd n (gm 16 A) g v s)) (hP : ∀ i, i < 6 → J 1 i = zJ (pc i)) : SP m_Ba_settle [.ref 76, .ref 134] (hp L I J w) (fun r h => r = none ∧ ∃ (K : Nat → Nat → Int64) (w' : Nat → Nat), (∀ c, c < 114 ∨ 140 < c → K c = J c) ∧ isP w' ∧ (∀ i, i < 5 → K 135 i = zJ (dg (fa (det (n + 1) (bd n (gm 16 A) g v s)).natAbs (det n (gm 16 A)).natAbs) i)) ∧ (∀ i, i < 5 → K 136 i = zJ (dg (fbl (det (n + 1) (bd n (gm 16 A) g v s)).natAbs (det n (gm 16 A)).natAbs) i)) ∧ h = hp L (mm_up I 134 0 (sg (det (n + 1) (bd n (gm 16 A) g v s)))) K w') := by
  obtain ⟨d0, d1, t1, t2⟩ := frac_bounds hn hA hi hg hv hs
  have hM : ∀ i j, i ≤ n → j ≤ n → -2 ^ 40 < bd n (gm 16 A) g v s i j ∧ bd n (gm 16 A) g v s i j < 2 ^ 40 := by
    intro i j h1 h2
    by_cases e1 : i < n
    · by_cases e2 : j < n
      · rw [bd_in e1 e2]
        have := dt_small (hA i e1) (hA j e2)
        unfold gm
        omega
      · obtain rfl : j = n := by omega
        rw [bd_col e1]
        have := hg i e1
        omega
    · obtain rfl : i = n := by omega
      by_cases e2 : j < i
      · rw [bd_row e2]
        have := hv j e2
        omega
      · obtain rfl : j = i := by omega
        rw [bd_cor]
        omega
  have eD : det n (bd n (gm 16 A) g v s) = det n (gm 16 A) := det_congr n (fun i j h1 h2 => bd_in h1 h2)
  generalize hTT : det (n + 1) (bd n (gm 16 A) g v s) = T at *
  generalize hDD : det n (gm 16 A) = D at *
  unfold SP
  iterate 7 (refine WP.st rfl ?_)
  have fin : ∀ (K : Nat → Nat → Int64) (w1 : Nat → Nat) (o3 o4 o6 : Option Value) (q : Nat) (ch : Nat → Nat), q ≤ 6 → (∀ c, c < 114 ∨ 133 < c → K c = J c) → isP w1 → tk K D T q 4 ch → WP m_Ba_settle (92, [some (.ref 76), some (.ref 134), some (.int (nI 4)), o3, o4, none, o6, none], [], hp L I K w1, 0, 0) (fun r h => r = none ∧ ∃ (K : Nat → Nat → Int64) (w' : Nat → Nat), (∀ c, c < 114 ∨ 140 < c → K c = J c) ∧ isP w' ∧ (∀ i, i < 5 → K 135 i = zJ (dg (fa T.natAbs D.natAbs) i)) ∧ (∀ i, i < 5 → K 136 i = zJ (dg (fbl T.natAbs D.natAbs) i)) ∧ h = hp L (mm_up I 134 0 (sg T)) K w') := by
    intro K w1 o3 o4 o6 q ch hq k1 k2 k3
    obtain ⟨c1, c2, -⟩ := k3
    have hpm : ∀ i, i < 4 → pm (pc (ch i)) := fun i _ => pc_pm _
    have hge : ∀ i, 2147483549 ≤ pc (ch i) ∧ pc (ch i) < 2 ^ 31 := fun i => pc_ge _
    have hnd := pr_nd (p := fun i => pc (ch i)) hpm (fun i j h1 h2 => pc_ne (ch j) (by have := (c1 j h2).1; omega) (ch i) (by have := (c1 i (by omega)).1; omega) (by have := c2 i j h1 h2; omega))
    have e4 : pr (fun i => pc (ch i)) 4 = 1 * pc (ch 0) * pc (ch 1) * pc (ch 2) * pc (ch 3) := rfl
    have lo : (2147483549 : Int) ^ 4 ≤ pr (fun i => pc (ch i)) 4 := by
      rw [e4, show (2147483549 : Int) ^ 4 = 1 * 2147483549 * 2147483549 * 2147483549 * 2147483549 by decide]
      have := hge 0
      have := hge 1
      have := hge 2
      have := hge 3
      have m1 : 1 * 2147483549 * 2147483549 ≤ 1 * pc (ch 0) * pc (ch 1) := Int.mul_le_mul (by omega) (by omega) (by omega) (by omega)
      have m2 : 1 * 2147483549 * 2147483549 * 2147483549 ≤ 1 * pc (ch 0) * pc (ch 1) * pc (ch 2) := Int.mul_le_mul m1 (by omega) (by omega) (by omega)
      exact Int.mul_le_mul m2 (by omega) (by omega) (by omega)
    have hi4 : pr (fun i => pc (ch i)) 4 < 2 ^ 124 := by
      rw [e4]
      have := hge 0
      have := hge 1
      have := hge 2
      have := hge 3
      have m1 : 1 * pc (ch 0) * pc (ch 1) ≤ (2 ^ 31 - 1) * (2 ^ 31 - 1) := Int.mul_le_mul (by omega) (by omega) (by omega) (by omega)
      have m2 : 1 * pc (ch 0) * pc (ch 1) * pc (ch 2) ≤ (2 ^ 31 - 1) * (2 ^ 31 - 1) * (2 ^ 31 - 1) := Int.mul_le_mul m1 (by omega) (by omega) (by omega)
      have m3 : 1 * pc (ch 0) * pc (ch 1) * pc (ch 2) * pc (ch 3) ≤ (2 ^ 31 - 1) * (2 ^ 31 - 1) * (2 ^ 31 - 1) * (2 ^ 31 - 1) := Int.mul_le_mul m2 (by omega) (by omega) (by omega)
      refine Int.lt_of_le_of_lt m3 (by decide)
    have c4 : (2147483549 : Int) ^ 4 = 21267644010764880705175866920184430801 := by decide
    have c37 : (37 : Int) ^ 16 = 12337511914217166362274241 := by decide
    iterate 7 (refine WP.st rfl ?_)
    refine WP.call rfl rfl (sp_become L I K w1 (fun i => pc (ch i)) (fun i => T % pc (ch i)) (fun i => D % pc (ch i)) T D (fun i hi => ⟨(c1 i hi).2.1, by have := hge i; omega⟩) (by have := hge 3; show 8 ≤ pc (ch 3); omega) (fun i hi => ⟨(c1 i hi).2.2.1, rfl⟩) (fun i hi => ⟨(c1 i hi).2.2.2.1, rfl⟩) (fun i hi => pm_gcd (hpm i hi) (hnd i hi i (Nat.le_refl i))) (by omega) (by omega) hi4) ?_
    rintro _ _ ⟨rfl, K2, f1, f2, f3, rfl⟩
    exact WP.ret rfl ⟨rfl, K2, w1, fun c hc => (f1 c (by omega) (by omega) (by omega) (by omega) (by omega)).trans (k1 c (by omega)), k2, f2, f3, rfl⟩
  refine WP.inv (fun q (σ : (Nat → Nat → Int64) × (Nat → Nat) × Nat × Option Value × Option Value) => (9, [some (.ref 76), some (.ref 134), some (.int (nI σ.2.2.1)), some (.int (nI q)), σ.2.2.2.1, none, σ.2.2.2.2, none], [.int (nI 6), .int (nI q)], hp L I σ.1 σ.2.1, 0, 0)) (fun q σ => (∀ c, c < 114 ∨ 133 < c → σ.1 c = J c) ∧ isP σ.2.1 ∧ σ.2.2.1 ≤ 4 ∧ σ.2.2.1 ≤ q ∧ ∃ ch, tk σ.1 D T q σ.2.2.1 ch) 6 (J, w, 0, none, none) ⟨fun _ _ => rfl, hw, Nat.zero_le _, Nat.le_refl _, fun _ => 0, fun k hk => absurd hk (Nat.not_lt_zero k), fun j k _ hk => absurd hk (Nat.not_lt_zero k), 1, Int.one_dvd _, fun j _ _ z => by have := Int.eq_one_of_dvd_one (by have := (pc_pm j).1; omega) z; have := (pc_pm j).1; omega, by show (2147483549 : Int) ^ (0 - 0) ≤ 1; decide⟩ (fun q σ hq hv kk => ?_) (fun σ hv => ?_)
  · obtain ⟨K, w1, f, o4, o6⟩ := σ
    obtain ⟨v1, v2, v3, v4, ch, v5⟩ := hv
    dsimp only at v1 v2 v3 v4 v5 ⊢
    refine WP.icf rfl (nI_ge hq (by omega)) ?_
    iterate 2 (refine WP.st rfl ?_)
    by_cases e4 : f = 4
    · subst e4
      refine WP.ict rfl (nI_le (Nat.le_refl _) (by omega)) ?_
      exact fin K w1 _ o4 o6 q ch (by omega) v1 v2 v5
    · skip
      refine WP.icf rfl (show ¬ nI 4 ≤ nI f from nI_ge (by omega) (by omega)) ?_
      iterate 2 (refine WP.st rfl ?_)
      refine WP.lald (k := q) rfl (rfl) (Or.inr rfl) (show q < 6 from hq) (rfl) ?_
      rw [show hJ (hp L I K w1) 1 q = zJ (pc q) from (congrFun (v1 1 (by omega)) q).trans (hP q hq)]
      iterate 3 (refine WP.st rfl ?_)
      refine WP.call rfl rfl (sp_clearTable L I K w1 n hn hsz v2 (bd n (gm 16 A) g v s) (fun i j h1 h2 => (congrFun (v1 (96 + i) (by omega)) j).trans (hT i j h1 h2)) hM (pc q) (pc_pm q) (pc_ge q).2) ?_
      rintro _ _ ⟨K2, w2, rfl, g1, g2, g3, rfl⟩
      rw [eD] at g3 ⊢
      have pq := pc_ge q
      have D0 := Int.emod_nonneg D (show pc q ≠ 0 by omega)
      have D1 := Int.emod_lt_of_pos D (show 0 < pc q by omega)
      iterate 4 (refine WP.st rfl ?_)
      have v5' : tk K2 D T q f ch := by
        obtain ⟨a1, a2, a3⟩ := v5
        refine ⟨fun k hk => ?_, a2, a3⟩
        rw [g1 131 (by omega), g1 132 (by omega), g1 133 (by omega)]
        exact a1 k hk
      have fr : ∀ c, c < 114 ∨ 133 < c → K2 c = J c := fun c hc => (g1 c (by omega)).trans (v1 c hc)
      by_cases ez : D % pc q = 0
      · refine WP.ift rfl (lc_eq.mpr (by rw [ez]; rfl)) ?_
        iterate 5 (refine WP.st rfl ?_)
        have kk2 := kk (K2, w2, f, some (.long (zJ (pc q))), some (.long (zJ (D % pc q)))) ⟨fr, g2, v3, by dsimp only; omega, ch, tk_skip hq v4 v5' ez⟩
        rw [nI_succ q] at kk2
        exact kk2
      · obtain ⟨x, x1, x2, x3, x4⟩ := g3 ez
        rw [hTT] at x4
        have wn := wk_i (L := L) g2 (show n < 17 by omega)
        have wb := g2.1 n (by omega)
        refine WP.iff rfl (fun y => ez ((zJ_eq (by omega) (by omega) (by decide) (by decide)).mp (lc_eq.mp y))) ?_
        iterate 4 (refine WP.st rfl ?_)
        refine WP.last (k := f) rfl (rfl) (rfl) (show f < 4 by omega) (rfl) ?_
        iterate 4 (refine WP.st rfl ?_)
        refine WP.last (k := f) rfl (rfl) (rfl) (show f < 4 by omega) (rfl) ?_
        iterate 8 (refine WP.st rfl ?_)
        refine WP.aald (k := n) rfl (hsz) (Or.inr (Or.inr (Or.inr rfl))) (show n < 17 by omega) (rfl) (RR_w w2 (show n < 17 by omega)) ?_
        iterate 2 (refine WP.st rfl ?_)
        refine WP.lald (k := n) rfl (hsz) (Or.inl wn.1) (show n < LL L (w2 n) by rw [wn.2.1]; omega) (wn.2.2) ?_
        rw [show hJ (putJ (putJ (hp L I K2 w2) 131 f (zJ (pc q))) 133 f (zJ (D % pc q))) (w2 n) n = zJ x from (congrFun (up_ne (mm_up K2 131 f (zJ (pc q))) (k := f) (zJ (D % pc q)) (show w2 n ≠ 133 by omega)) n).trans ((congrFun (up_ne K2 (k := f) (zJ (pc q)) (show w2 n ≠ 131 by omega)) n).trans x1)]
        have U0 : 0 ≤ D % pc q * x := Int.mul_nonneg D0 x2
        have U1 : D % pc q * x ≤ (2 ^ 31 - 1) * (2 ^ 31 - 1) := Int.mul_le_mul (by omega) (by omega) (by omega) (by omega)
        iterate 1 (refine WP.st rfl ?_)
        rw [zJ_mul]
        iterate 1 (refine WP.st rfl ?_)
        refine WP.calle rfl rfl (ev_rem _ (D % pc q * x) (pc q) (by omega) (by omega) (by omega) (by omega)) ?_
        rw [emod_dvd x4]
        refine WP.last (k := f) rfl (rfl) (rfl) (show f < 4 by omega) (rfl) ?_
        iterate 6 (refine WP.st rfl ?_)
        have kk2 := kk (mm_up (mm_up (mm_up K2 131 f (zJ (pc q))) 133 f (zJ (D % pc q))) 132 f (zJ (T % pc q)), w2, f + 1, some (.long (zJ (pc q))), some (.long (zJ (D % pc q)))) ⟨fun c hc => (up_ne _ _ (by omega)).trans ((up_ne _ _ (by omega)).trans ((up_ne K2 _ (by omega)).trans (fr c hc))), g2, by dsimp only; omega, by dsimp only; omega, fun k => if k = f then q else ch k, ?_⟩
        · rw [nI_succ q, nI_succ f] at kk2
          exact kk2
        · obtain ⟨a1, a2, a3⟩ := v5'
          dsimp only
          refine ⟨fun k hk => ?_, fun j k h1 h2 => ?_, ?_⟩
          · by_cases e : k = f
            · subst e
              simp only [if_true]
              exact ⟨by omega, (congrFun (up_ne _ _ (by decide)) k).trans ((congrFun (up_ne _ _ (by decide)) k).trans (mm_up_at K2 131 k _)), mm_up_at _ 132 k _, (congrFun (up_ne _ _ (by decide)) k).trans (mm_up_at _ 133 k _), ez⟩
            · simp only [e, if_false]
              obtain ⟨y1, y2, y3, y4, y5⟩ := a1 k (by omega)
              exact ⟨by omega, (congrFun (up_ne _ _ (by decide)) k).trans ((congrFun (up_ne _ _ (by decide)) k).trans ((up_nk K2 _ e).trans y2)), (up_nk _ _ e).trans ((congrFun (up_ne _ _ (by decide)) k).trans ((congrFun (up_ne K2 _ (by decide)) k).trans y3)), (congrFun (up_ne _ _ (by decide)) k).trans ((up_nk _ _ e).trans ((congrFun (up_ne K2 _ (by decide)) k).trans y4)), y5⟩
          · dsimp only
            rw [if_neg (show ¬ j = f by omega)]
            by_cases e : k = f
            · rw [if_pos e]
              exact (a1 j (by omega)).1
            · rw [if_neg e]
              exact a2 j k h1 (by omega)
          · obtain ⟨X, b1, b2, b3⟩ := a3
            exact ⟨X, b1, fun j h1 h2 => b2 j (by omega) h2, by rw [show q + 1 - (f + 1) = q - f by omega]; exact b3⟩
  · obtain ⟨K, w1, f, o4, o6⟩ := σ
    obtain ⟨v1, v2, v3, v4, ch, v5⟩ := hv
    dsimp only at v1 v2 v3 v4 v5 ⊢
    have := tk_few v5 d0 d1
    obtain rfl : f = 4 := by omega
    refine WP.ict rfl (nI_le (Nat.le_refl _) (by omega)) ?_
    exact fin K w1 _ o4 o6 6 ch (by omega) v1 v2 v5
