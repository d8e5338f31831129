/-! the reference: rankBy, rank, against -/
theorem sh_amt32 : ∀ k, k < 32 → ((nI k &&& 31).toBitVec.smod 32).toNat = k := by decide
theorem bt_1 : ∀ j, j < 32 → bt 1 j = decide (j = 0) := by decide
theorem and1 (y : Int32) : y &&& 1 = if bt y 0 = true then 1 else 0 := by
  apply bt_ext
  intro j hj
  have e : bt (y &&& 1) j = (bt y j && bt 1 j) := by
    unfold bt
    rw [Int32.toBitVec_and, BitVec.getLsbD_and]
  rw [e, bt_1 j hj]
  by_cases h0 : j = 0
  · subst h0
    cases hb : bt y 0 with
    | true => rw [if_pos rfl]; rfl
    | false => rw [if_neg (by decide)]; rfl
  · rw [show decide (j = 0) = false from decide_eq_false h0, Bool.and_false]
    split
    · rw [bt_1 j hj, decide_eq_false h0]
    · rw [bt_0]
theorem sh_and (v : Int32) {k : Nat} (hk : k < 32) : ((v >>> (nI k &&& 31)) &&& 1 : Int32) = if bt v k = true then 1 else 0 := by
  rw [and1]
  have e : bt (v >>> (nI k &&& 31)) 0 = bt v k := by
    unfold bt
    rw [Int32.toBitVec_shiftRight]
    show (v.toBitVec.sshiftRight ((nI k &&& 31).toBitVec.smod 32).toNat).getLsbD 0 = _
    rw [sh_amt32 k hk, BitVec.getLsbD_sshiftRight]
    simp [hk]
  rw [e]
def zc (b : Bool) (C : Nat → Nat → Int) : Nat → Nat → Int := fun r c => if c = 16 ∧ b = false then 0 else C r c
/-- the reference's rows -/
def CO (I : Nat → Nat → Int32) (S : Nat → Bool) (C : Nat → Nat → Int) : Prop := ∀ r, r < 23 → S r = true → ∀ c, c < 17 → I 210 (17 * r + c) = zI (C r c) ∧ -2 ^ 20 < C r c ∧ C r c < 2 ^ 20
set_option maxHeartbeats 4000000 in
set_option maxRecDepth 20000 in
theorem sp_rankBy (L : Nat) (I : Nat → Nat → Int32) (J : Nat → Nat → Int64) (w : Nat → Nat) (set : Int32) (S : Nat → Bool) (hS : ∀ k, k < 23 → bt set k = S k) (b : Bool) (pn : Nat) (hpp : pm (pn : Int)) (p3 : pn < 2 ^ 30) (C : Nat → Nat → Int) (hC : CO I S C) : SP m_Mo_rankBy [.ref 208, .int set, .int (if b = true then 1 else 0), .int (nI pn)] (hp L I J w) (fun v h => ∃ (ρ : Nat) (K : Nat → Nat → Int64), v = some (.int (nI ρ)) ∧ ρ ≤ (rc S 23).1 ∧ (ρ = (rc S 23).1 ↔ imd pn 17 (rc S 23).1 (fun i => zc b C ((rc S 23).2 i))) ∧ (∀ c, c ≠ 220 → K c = J c) ∧ h = hp L I K w) := by
  have p1 := hpp.1
  have zp : (nI pn).toInt64 = zJ (pn : Int) := by rw [nI_zI]; exact zI_l (by omega) (by omega)
  have n23 := rc_le S 23
  unfold SP
  iterate 6 (refine WP.st rfl ?_)
  refine WP.inv (fun row (σ : (Nat → Nat → Int64) × Option Value) => (10, [some (.ref 208), some (.int set), some (.int (if b = true then 1 else 0)), some (.int (nI pn)), some (.int (nI (rc S row).1)), some (.int (nI row)), σ.2, none], [.int (nI 23), .int (nI row)], hp L I σ.1 w, 0, 0)) (fun row σ => (∀ c, c ≠ 220 → σ.1 c = J c) ∧ WK σ.1 (rc S row).1 (fun i c => zc b C ((rc S row).2 i) c % pn)) 23 (J, none) ⟨fun _ _ => rfl, fun i hi => absurd hi (Nat.not_lt_zero i)⟩ (fun row σ hrow hv kk => ?_) (fun σ hv => ?_)
  · obtain ⟨K, o6⟩ := σ
    obtain ⟨v1, v2⟩ := hv
    dsimp only at v1 v2 ⊢
    have nr := rc_le S row
    refine WP.icf rfl (nI_ge hrow (by omega)) ?_
    iterate 6 (refine WP.st rfl ?_)
    rw [show ((set >>> (nI row &&& 31)) &&& Int32.ofInt 1 : Int32) = if bt set row = true then 1 else 0 from sh_and set (by omega), hS row hrow]
    cases hSr : S row with
    | false =>
      rw [show (if (false : Bool) = true then (1 : Int32) else 0) = 0 from rfl]
      refine WP.ict rfl (show ¬ (0 : Int32) = 1 by decide) ?_
      iterate 4 (refine WP.st rfl ?_)
      have kk2 := kk (K, o6) ⟨v1, by rw [rc_f hSr]; exact v2⟩
      rw [nI_succ row, rc_f hSr] at kk2
      exact kk2
    | true =>
      rw [show (if (true : Bool) = true then (1 : Int32) else 0) = 1 from rfl]
      refine WP.icf rfl (fun z => z rfl) ?_
      iterate 4 (refine WP.st rfl ?_)
      generalize hn : (rc S row).1 = n at *
      refine WP.inv (fun c (K : Nat → Nat → Int64) => (30, [some (.ref 208), some (.int set), some (.int (if b = true then 1 else 0)), some (.int (nI pn)), some (.int (nI n)), some (.int (nI row)), some (.int (nI c)), none], [.int (nI 17), .int (nI c)], hp L I K w, 0, 0)) (fun c K => (∀ c, c ≠ 220 → K c = J c) ∧ WK K n (fun i c => zc b C ((rc S row).2 i) c % pn) ∧ ∀ d, d < c → K 220 (17 * n + d) = zJ (zc b C row d % pn)) 17 K ⟨v1, v2, fun d hd => absurd hd (Nat.not_lt_zero d)⟩ (fun c K hc hv k2 => ?_) (fun K hv => ?_)
      · obtain ⟨u1, u2, u3⟩ := hv
        have step : ∀ x : Int, x = zc b C row c % pn → WP m_Mo_rankBy (79, [some (.ref 208), some (.int set), some (.int (if b = true then 1 else 0)), some (.int (nI pn)), some (.int (nI n)), some (.int (nI row)), some (.int (nI c)), none], [.long (zJ x), .int (nI (17 * n + c)), .ref 220], hp L I K w, 0, 0) (fun v h => ∃ (ρ : Nat) (K : Nat → Nat → Int64), v = some (.int (nI ρ)) ∧ ρ ≤ (rc S 23).1 ∧ (ρ = (rc S 23).1 ↔ imd pn 17 (rc S 23).1 (fun i => zc b C ((rc S 23).2 i))) ∧ (∀ c, c ≠ 220 → K c = J c) ∧ h = hp L I K w) := by
          intro x hx
          refine WP.last (k := 17 * n + c) rfl (rfl) (rfl) (show 17 * n + c < 391 by omega) (rfl) ?_
          iterate 4 (refine WP.st rfl ?_)
          have k3 := k2 (mm_up K 220 (17 * n + c) (zJ x)) ⟨fun d hd => (up_ne K _ hd).trans (u1 d hd), fun i hi d hd => (up_nk K _ (by omega)).trans (u2 i hi d hd), fun d hd => by
            by_cases e : d = c
            · rw [e, mm_up_at, hx]
            · exact (up_nk K _ (by omega)).trans (u3 d (by omega))⟩
          rw [nI_succ c] at k3
          exact k3
        refine WP.icf rfl (nI_ge hc (by omega)) ?_
        iterate 9 (refine WP.st rfl ?_)
        rw [show ((Int8.ofInt 17).toInt32 * nI n + nI c : Int32) = nI (17 * n + c) from ix17 n c]
        have read : WP m_Mo_rankBy (60, [some (.ref 208), some (.int set), some (.int (if b = true then 1 else 0)), some (.int (nI pn)), some (.int (nI n)), some (.int (nI row)), some (.int (nI c)), none], [.int (nI (17 * n + c)), .ref 220], hp L I K w, 0, 0) (fun v h => ∃ (ρ : Nat) (K : Nat → Nat → Int64), v = some (.int (nI ρ)) ∧ ρ ≤ (rc S 23).1 ∧ (ρ = (rc S 23).1 ↔ imd pn 17 (rc S 23).1 (fun i => zc b C ((rc S 23).2 i))) ∧ (∀ c, c ≠ 220 → K c = J c) ∧ h = hp L I K w) ∨ (c = 16 ∧ b = false) := by
          by_cases e : c = 16 ∧ b = false
          · exact Or.inr e
          · left
            obtain ⟨c1, c2, c3⟩ := hC row hrow hSr c hc
            iterate 7 (refine WP.st rfl ?_)
            refine WP.iald (k := 17 * row + c) rfl (ix17 row c) (Or.inl rfl) (show 17 * row + c < 391 by omega) (rfl) ?_
            rw [show hI (hp L I K w) 210 (17 * row + c) = zI (C row c) from c1]
            iterate 1 (refine WP.st rfl ?_)
            rw [zI_l (by omega) (by omega)]
            iterate 2 (refine WP.st rfl ?_)
            rw [zp]
            refine WP.calle rfl rfl (ev_rest _ (C row c) pn (by omega) (by omega) (by omega) (by omega)) ?_
            exact step _ (by unfold zc; rw [if_neg e])
        by_cases e16 : c = 16
        · subst e16
          refine WP.icf rfl (fun z => z rfl) ?_
          iterate 1 (refine WP.st rfl ?_)
          cases hb : b with
          | true =>
            rw [hb] at read
            refine WP.ift rfl (show ¬ (if true = true then (1 : Int32) else 0) = 0 by decide) ?_
            exact read.resolve_right (fun z => by cases z.2)
          | false =>
            refine WP.iff rfl (show ¬ ¬ (if false = true then (1 : Int32) else 0) = 0 by decide) ?_
            iterate 2 (refine WP.st rfl ?_)
            have := step 0 (by unfold zc; rw [if_pos ⟨rfl, hb⟩, Int.zero_emod])
            rw [hb] at this
            exact this
        · skip
          refine WP.ict rfl (show ¬ nI c = nI 16 from fun z => e16 ((nI_eq (by omega) (by omega)).mp z)) ?_
          exact read.resolve_right (fun z => e16 z.1)
      · obtain ⟨u1, u2, u3⟩ := hv
        refine WP.ict rfl (nI_le (Nat.le_refl _) (by omega)) ?_
        iterate 5 (refine WP.st rfl ?_)
        have kk2 := kk (K, some (.int (nI 17))) ⟨u1, by
          rw [rc_t hSr]
          intro i hi c hc
          dsimp only at hi ⊢
          rw [hn] at hi ⊢
          by_cases e : i = n
          · rw [if_pos e, e]; exact u3 c hc
          · rw [if_neg e]; exact u2 i (by omega) c hc⟩
        rw [rc_t hSr] at kk2
        dsimp only at kk2
        rw [hn, nI_succ row, nI_succ n] at kk2
        exact kk2
  · obtain ⟨K, o6⟩ := σ
    obtain ⟨v1, v2⟩ := hv
    dsimp only at v1 v2 ⊢
    generalize hn : (rc S 23).1 = n at *
    generalize hA : (fun i => zc b C ((rc S 23).2 i)) = A at *
    have v2' : WK K n (fun i j => A i j % pn) := by rw [← hA]; exact v2
    refine WP.ict rfl (nI_le (Nat.le_refl _) (by omega)) ?_
    iterate 6 (refine WP.st rfl ?_)
    refine WP.inv (fun k (σ : (Nat → Nat → Int64) × Nat × Option Value) => (105, [some (.ref 208), some (.int set), some (.int (if b = true then 1 else 0)), some (.int (nI pn)), some (.int (nI n)), some (.int (nI σ.2.1)), some (.int (nI k)), σ.2.2], [.int (nI 17), .int (nI k)], hp L I σ.1 w, 0, 0)) (fun k σ => (∀ c, c ≠ 220 → σ.1 c = J c) ∧ ∃ W, WK σ.1 n W ∧ ech pn n k σ.2.1 A W) 17 (K, 0, none) ⟨v1, _, v2', ech_0 hpp n A⟩ (fun k σ hk hv kk => ?_) (fun σ hv => ?_)
    · obtain ⟨K, ρ, o7⟩ := σ
      obtain ⟨u1, W, u2, u3⟩ := hv
      dsimp only at u1 u2 u3 ⊢
      have hρ := u3.2.1
      refine WP.icf rfl (nI_ge hk (by omega)) ?_
      iterate 4 (refine WP.st rfl ?_)
      refine WP.search (fun i => (116, [some (.ref 208), some (.int set), some (.int (if b = true then 1 else 0)), some (.int (nI pn)), some (.int (nI n)), some (.int (nI ρ)), some (.int (nI k)), some (.int (nI (ρ + i)))], [.int (nI n), .int (nI (ρ + i))], hp L I K w, 0, 0)) (fun i => W (ρ + i) k ≠ 0) (n - ρ) (fun i hi hP hb => ?_) (fun i hi hP k2 => ?_) (fun hP => ?_)
      · generalize ha : ρ + i = a at *
        have rg := u3.1 a (by omega) k hk
        refine WP.icf rfl (nI_ge (show a < n by omega) (by omega)) ?_
        iterate 7 (refine WP.st rfl ?_)
        refine WP.lald (k := 17 * a + k) rfl (ix17 a k) (Or.inl rfl) (show 17 * a + k < 391 by omega) (rfl) ?_
        rw [show hJ (hp L I K w) 220 (17 * a + k) = zJ (W a k) from u2 a (by omega) k hk]
        iterate 2 (refine WP.st rfl ?_)
        refine WP.ift rfl (lc_ne.mpr (fun y => hP ((zJ_eq (by omega) (by omega) (by decide) (by decide)).mp y))) ?_
        iterate 2 (refine WP.st rfl ?_)
        refine WP.icf rfl (nI_ge (show a < n by omega) (by omega)) ?_
        iterate 6 (refine WP.st rfl ?_)
        refine WP.call rfl rfl (sp_bring L I K w n ρ a k pn (by omega) (by omega) (by omega) hk W hpp p3 u2 u3.1 hP (fun κ h1 => u3.2.2.2.1 a (by omega) (by omega) κ h1)) ?_
        rintro _ _ ⟨rfl, K2, V, g1, g2, g3, rfl⟩
        iterate 5 (refine WP.st rfl ?_)
        have kk2 := kk (K2, ρ + 1, some (.int (nI a))) ⟨fun c hc => (g1 c hc).trans (u1 c hc), V, g2, ech_yes u3 hk (by omega) (by omega) hP g3⟩
        rw [nI_succ k, nI_succ ρ] at kk2
        exact kk2
      · generalize ha : ρ + i = a at *
        refine WP.icf rfl (nI_ge (show a < n by omega) (by omega)) ?_
        iterate 7 (refine WP.st rfl ?_)
        refine WP.lald (k := 17 * a + k) rfl (ix17 a k) (Or.inl rfl) (show 17 * a + k < 391 by omega) (rfl) ?_
        rw [show hJ (hp L I K w) 220 (17 * a + k) = zJ (W a k) from u2 a (by omega) k hk]
        iterate 2 (refine WP.st rfl ?_)
        refine WP.iff rfl (fun y => lc_ne.mp y (by rw [Classical.not_not.mp hP]; rfl)) ?_
        iterate 4 (refine WP.st rfl ?_)
        rw [show ρ + (i + 1) = a + 1 by omega, nI_succ a] at k2
        exact k2
      · rw [show ρ + (n - ρ) = n by omega]
        refine WP.ict rfl (nI_le (Nat.le_refl _) (by omega)) ?_
        iterate 2 (refine WP.st rfl ?_)
        refine WP.ict rfl (nI_le (Nat.le_refl _) (by omega)) ?_
        iterate 4 (refine WP.st rfl ?_)
        have kk2 := kk (K, ρ, some (.int (nI n))) ⟨u1, W, u2, ech_no (ρ := ρ) (n := n) (k := k) u3 (fun i h1 h2 => by
          have := Classical.not_not.mp (hP (i - ρ) (by omega))
          rw [show ρ + (i - ρ) = i by omega] at this
          exact this)⟩
        rw [nI_succ k] at kk2
        exact kk2
    · obtain ⟨K, ρ, o7⟩ := σ
      obtain ⟨u1, W, u2, u3⟩ := hv
      dsimp only at u1 u2 u3 ⊢
      refine WP.ict rfl (nI_le (Nat.le_refl _) (by omega)) ?_
      iterate 1 (refine WP.st rfl ?_)
      exact WP.ret rfl ⟨ρ, K, rfl, u3.2.1, ech_end hpp u3, u1, rfl⟩
