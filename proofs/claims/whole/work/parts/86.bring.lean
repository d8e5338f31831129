/-! the reference: bringDown -/
def WK (J : Nat → Nat → Int64) (n : Nat) (W : Nat → Nat → Int) : Prop := ∀ i, i < n → ∀ j, j < 17 → J 220 (17 * i + j) = zJ (W i j)
set_option maxHeartbeats 4000000 in
set_option maxRecDepth 20000 in
theorem sp_bring (L : Nat) (I : Nat → Nat → Int32) (J : Nat → Nat → Int64) (w : Nat → Nat) (n ρ a k pn : Nat) (hn : n ≤ 23) (hρ : ρ ≤ a) (ha : a < n) (hk : k < 17) (W : Nat → Nat → Int) (hpp : pm (pn : Int)) (p3 : pn < 2 ^ 30) (hW : WK J n W) (hr : ∀ i, i < n → ∀ j, j < 17 → 0 ≤ W i j ∧ W i j < pn) (hne : W a k ≠ 0) (h0 : ∀ κ, κ < k → W a κ = 0) : SP m_Mo_bringDown [.ref 208, .int (nI ρ), .int (nI a), .int (nI n), .int (nI k), .int (nI pn)] (hp L I J w) (fun v h => v = none ∧ ∃ (K : Nat → Nat → Int64) (V : Nat → Nat → Int), (∀ c, c ≠ 220 → K c = J c) ∧ WK K n V ∧ brd pn n k ρ n (sw W a ρ) V ∧ h = hp L I K w) := by
  have p1 := hpp.1
  have zp : (nI pn).toInt64 = zJ (pn : Int) := by rw [nI_zI]; exact zI_l (by omega) (by omega)
  have pz : ¬ zJ (pn : Int) = 0 := fun z => by have := (zJ_eq (a := (pn : Int)) (b := 0) (by omega) (by omega) (by omega) (by omega)).mp z; omega
  unfold SP
  iterate 4 (refine WP.st rfl ?_)
  refine WP.inv (fun j (σ : (Nat → Nat → Int64) × Option Value) => (7, [some (.ref 208), some (.int (nI ρ)), some (.int (nI a)), some (.int (nI n)), some (.int (nI k)), some (.int (nI pn)), some (.int (nI j)), σ.2, none, none, none, none], [.int (nI 17), .int (nI j)], hp L I σ.1 w, 0, 0)) (fun j σ => (∀ c, c ≠ 220 → σ.1 c = J c) ∧ ∀ i, i < n → ∀ c, c < 17 → σ.1 220 (17 * i + c) = zJ (if c < j then sw W a ρ i c else W i c)) 17 (J, none) ⟨fun _ _ => rfl, fun i hi c hc => by rw [if_neg (Nat.not_lt_zero c)]; exact hW i hi c hc⟩ (fun j σ hj hv kk => ?_) (fun σ hv => ?_)
  · obtain ⟨K, o⟩ := σ
    obtain ⟨v1, v2⟩ := hv
    dsimp only at v1 v2 ⊢
    have ra := v2 a ha j hj
    have rρ := v2 ρ (by omega) j hj
    rw [if_neg (Nat.lt_irrefl j)] at ra rρ
    refine WP.icf rfl (nI_ge hj (by omega)) ?_
    iterate 7 (refine WP.st rfl ?_)
    refine WP.lald (k := 17 * a + j) rfl (ix17 a j) (Or.inl rfl) (show 17 * a + j < 391 by omega) (rfl) ?_
    rw [show hJ (hp L I K w) 220 (17 * a + j) = zJ (W a j) from ra]
    iterate 15 (refine WP.st rfl ?_)
    refine WP.lald (k := 17 * ρ + j) rfl (ix17 ρ j) (Or.inl rfl) (show 17 * ρ + j < 391 by omega) (rfl) ?_
    rw [show hJ (hp L I K w) 220 (17 * ρ + j) = zJ (W ρ j) from rρ]
    refine WP.last (k := 17 * a + j) rfl (ix17 a j) (rfl) (show 17 * a + j < 391 by omega) (rfl) ?_
    iterate 8 (refine WP.st rfl ?_)
    refine WP.last (k := 17 * ρ + j) rfl (ix17 ρ j) (rfl) (show 17 * ρ + j < 391 by omega) (rfl) ?_
    iterate 4 (refine WP.st rfl ?_)
    have kk2 := kk (mm_up (mm_up K 220 (17 * a + j) (zJ (W ρ j))) 220 (17 * ρ + j) (zJ (W a j)), some (.long (zJ (W a j)))) ⟨fun c hc => (up_ne _ _ hc).trans ((up_ne K _ hc).trans (v1 c hc)), fun i hi c hc => ?_⟩
    · rw [nI_succ j] at kk2
      exact kk2
    · dsimp only
      by_cases e : c = j
      · subst e
        rw [if_pos (by omega)]
        unfold sw
        by_cases e1 : i = ρ
        · subst e1
          rw [mm_up_at]
          by_cases e2 : i = a
          · rw [if_pos e2, e2]
          · rw [if_neg e2, if_pos rfl]
        · rw [up_nk _ _ (show 17 * i + c ≠ 17 * ρ + c by omega)]
          by_cases e2 : i = a
          · subst e2
            rw [mm_up_at, if_pos rfl]
          · rw [up_nk _ _ (show 17 * i + c ≠ 17 * a + c by omega), if_neg e2, if_neg e1, v2 i hi c hc, if_neg (Nat.lt_irrefl c)]
      · rw [up_nk _ _ (by omega), up_nk _ _ (by omega), v2 i hi c hc]
        by_cases e1 : c < j
        · rw [if_pos e1, if_pos (by omega)]
        · rw [if_neg e1, if_neg (by omega)]
  · obtain ⟨K, o⟩ := σ
    obtain ⟨v1, v2⟩ := hv
    dsimp only at v1 v2 ⊢
    have hW2 : WK K n (sw W a ρ) := fun i hi c hc => by rw [v2 i hi c hc, if_pos hc]
    have swρ : sw W a ρ ρ = W a := by
      unfold sw
      by_cases e : ρ = a
      · rw [if_pos e, e]
      · rw [if_neg e, if_pos rfl]
    have hr2 : ∀ i, i < n → ∀ j, j < 17 → 0 ≤ sw W a ρ i j ∧ sw W a ρ i j < pn := fun i hi j hj => by
      unfold sw
      split
      · exact hr ρ (by omega) j hj
      · split
        · exact hr a ha j hj
        · exact hr i hi j hj
    have b0 : brd pn n k ρ (ρ + 1) (sw W a ρ) (sw W a ρ) := brd_0 hr2 (by rw [swρ]; exact h0)
    have rg := hr a ha k hk
    have nd : ¬ (pn : Int) ∣ W a k := fun z => hne (nz_dvd rg.1 rg.2 z)
    obtain ⟨z, hz⟩ := inv_pow hpp nd
    rw [Int.emod_eq_of_lt rg.1 rg.2] at hz
    generalize hu : W a k ^ (pn - 2) % (pn : Int) = u
    have u0 : 0 ≤ u := by rw [← hu]; exact Int.emod_nonneg _ (by omega)
    have u1 : u < pn := by rw [← hu]; exact Int.emod_lt_of_pos _ (by omega)
    obtain ⟨z2, hz2⟩ : ∃ z2, u * W a k = 1 + z2 * (pn : Int) := by
      obtain ⟨y, hy⟩ := Int.dvd_self_sub_emod (x := W a k ^ (pn - 2)) (m := (pn : Int))
      rw [hu] at hy
      exact ⟨z - y * W a k, by grind⟩
    generalize sw W a ρ = X at *
    refine WP.ict rfl (nI_le (Nat.le_refl _) (by omega)) ?_
    iterate 7 (refine WP.st rfl ?_)
    refine WP.lald (k := 17 * ρ + k) rfl (ix17 ρ k) (Or.inl rfl) (show 17 * ρ + k < 391 by omega) (rfl) ?_
    rw [show hJ (hp L I K w) 220 (17 * ρ + k) = zJ (W a k) from by rw [← swρ]; exact hW2 ρ (by omega) k hk]
    iterate 3 (refine WP.st rfl ?_)
    rw [show (nI pn - Int32.ofInt 2 : Int32) = nI (pn - 2) from pk_sub (a := pn) (b := 2) (by omega)]
    iterate 2 (refine WP.st rfl ?_)
    rw [zp]
    refine WP.calle rfl rfl (ev_power _ (W a k) (pn - 2) pn (by omega) (by omega) (by omega) rg.1 rg.2) ?_
    rw [hu]
    iterate 7 (refine WP.st rfl ?_)
    have key := WP.inv (mid := m_Mo_bringDown) (Q := fun v h => v = none ∧ ∃ (K : Nat → Nat → Int64) (V : Nat → Nat → Int), (∀ c, c ≠ 220 → K c = J c) ∧ WK K n V ∧ brd pn n k ρ n X V ∧ h = hp L I K w) (fun i (σ : (Nat → Nat → Int64) × Option Value × Option Value) => (100, [some (.ref 208), some (.int (nI ρ)), some (.int (nI a)), some (.int (nI n)), some (.int (nI k)), some (.int (nI pn)), some (.long (zJ u)), none, some (.int (nI (ρ + 1 + i))), σ.2.1, none, σ.2.2], [.int (nI n), .int (nI (ρ + 1 + i))], hp L I σ.1 w, 0, 0)) (fun i σ => (∀ c, c ≠ 220 → σ.1 c = J c) ∧ ∃ V, WK σ.1 n V ∧ brd pn n k ρ (ρ + 1 + i) X V) (n - (ρ + 1)) (K, none, none) ⟨v1, X, hW2, b0⟩ (fun i σ hi hv kk => ?_) (fun σ hv => ?_)
    · rw [nI_succ ρ] at key
      exact key
    · obtain ⟨K, o9, o11⟩ := σ
      obtain ⟨v1, V, v3, v4⟩ := hv
      dsimp only at v1 v3 v4 ⊢
      generalize hq : ρ + 1 + i = q at *
      have hqn : q < n := by omega
      have vρk : V ρ k = W a k := by rw [v4.2.1 ρ (Nat.le_refl ρ) k hk, swρ]
      have rq := v4.1 q hqn k hk
      have M0 : 0 ≤ V q k * u := Int.mul_nonneg rq.1 u0
      have M1 : V q k * u ≤ (2 ^ 30 - 1) * (2 ^ 30 - 1) := Int.mul_le_mul (by omega) (by omega) (by omega) (by omega)
      refine WP.icf rfl (nI_ge hqn (by omega)) ?_
      iterate 7 (refine WP.st rfl ?_)
      refine WP.lald (k := 17 * q + k) rfl (ix17 q k) (Or.inl rfl) (show 17 * q + k < 391 by omega) (rfl) ?_
      rw [show hJ (hp L I K w) 220 (17 * q + k) = zJ (V q k) from v3 q hqn k hk]
      iterate 2 (refine WP.st rfl ?_)
      rw [zJ_mul]
      iterate 2 (refine WP.st rfl ?_)
      rw [zp]
      refine WP.lrem rfl (pz) ?_
      rw [zJ_remp M0 (by omega) (by omega) (by omega)]
      iterate 5 (refine WP.st rfl ?_)
      generalize hf : V q k * u % (pn : Int) = f
      have f0 : 0 ≤ f := by rw [← hf]; exact Int.emod_nonneg _ (by omega)
      have f1 : f < pn := by rw [← hf]; exact Int.emod_lt_of_pos _ (by omega)
      have next : ∀ (M : Nat → Nat → Int64) (V2 : Nat → Nat → Int) (o : Option Value), (∀ c, c ≠ 220 → M c = J c) → WK M n V2 → brd pn n k ρ (q + 1) X V2 → WP m_Mo_bringDown (201, [some (.ref 208), some (.int (nI ρ)), some (.int (nI a)), some (.int (nI n)), some (.int (nI k)), some (.int (nI pn)), some (.long (zJ u)), none, some (.int (nI q)), some (.long (zJ f)), none, o], [], hp L I M w, 0, 0) (fun v h => v = none ∧ ∃ (K : Nat → Nat → Int64) (V : Nat → Nat → Int), (∀ c, c ≠ 220 → K c = J c) ∧ WK K n V ∧ brd pn n k ρ n X V ∧ h = hp L I K w) := by
        intro M V2 o m1 m2 m3
        iterate 4 (refine WP.st rfl ?_)
        have kk2 := kk (M, some (.long (zJ f)), o) ⟨m1, V2, m2, by rw [show ρ + 1 + (i + 1) = q + 1 by omega]; exact m3⟩
        rw [show ρ + 1 + (i + 1) = q + 1 by omega, nI_succ q] at kk2
        exact kk2
      by_cases ef : f = 0
      · have vq0 : V q k = 0 := by
          have : (pn : Int) ∣ V q k * u := Int.dvd_of_emod_eq_zero (hf.trans ef)
          rcases hpp.2 _ _ this with y | y
          · exact nz_dvd rq.1 rq.2 y
          · exfalso
            obtain ⟨y, hy⟩ := y
            have : (pn : Int) ∣ 1 := ⟨y * W a k - z2, by rw [hy] at hz2; grind⟩
            have := Int.eq_one_of_dvd_one (by omega) this
            omega
        refine WP.icf rfl (nI_ge hk (by omega)) ?_
        iterate 3 (refine WP.st rfl ?_)
        refine WP.ift rfl (lc_eq.mpr (by rw [ef]; rfl)) ?_
        exact next K V _ v1 v3 (brd_skip v4 vq0)
      · have hop := brd_op hpp v4 hk (by omega) hqn (by rw [vρk]; exact hz2)
        rw [hf] at hop
        refine (fun key => ?_ : WP m_Mo_bringDown _ _ → _) (WP.inv (mid := m_Mo_bringDown) (Q := fun v h => v = none ∧ ∃ (K : Nat → Nat → Int64) (V : Nat → Nat → Int), (∀ c, c ≠ 220 → K c = J c) ∧ WK K n V ∧ brd pn n k ρ n X V ∧ h = hp L I K w) (fun j (M : Nat → Nat → Int64) => (133, [some (.ref 208), some (.int (nI ρ)), some (.int (nI a)), some (.int (nI n)), some (.int (nI k)), some (.int (nI pn)), some (.long (zJ u)), none, some (.int (nI q)), some (.long (zJ f)), none, some (.int (nI (k + j)))], [.int (nI 17), .int (nI (k + j))], hp L I M w, 0, 0)) (fun j M => (∀ c, c ≠ 220 → M c = J c) ∧ ∀ i, i < n → ∀ c, c < 17 → M 220 (17 * i + c) = zJ (if c < k + j then opr pn V q ρ k f i c else V i c)) (17 - k) K ⟨v1, fun i hi c hc => by
          rw [v3 i hi c hc]
          by_cases e : c < k + 0
          · rw [if_pos e]
            unfold opr
            rw [if_neg (by omega)]
          · rw [if_neg e]⟩ (fun j M hj hv kk3 => ?_) (fun M hv => ?_))
        · exact key
        · obtain ⟨m1, m2⟩ := hv
          generalize hc : k + j = c at *
          have hc17 : c < 17 := by omega
          have rqc := m2 q hqn c hc17
          have rρc := m2 ρ (by omega) c hc17
          rw [if_neg (Nat.lt_irrefl c)] at rqc rρc
          have g1 := v4.1 q hqn c hc17
          have g2 := v4.1 ρ (by omega) c hc17
          have F0 : 0 ≤ f * V ρ c := Int.mul_nonneg f0 g2.1
          have F1 : f * V ρ c ≤ (2 ^ 30 - 1) * (2 ^ 30 - 1) := Int.mul_le_mul (by omega) (by omega) (by omega) (by omega)
          have E0 := Int.emod_nonneg (f * V ρ c) (show (pn : Int) ≠ 0 by omega)
          have E1 := Int.emod_lt_of_pos (f * V ρ c) (show (0 : Int) < pn by omega)
          refine WP.icf rfl (nI_ge hc17 (by omega)) ?_
          iterate 3 (refine WP.st rfl ?_)
          refine WP.iff rfl (fun y => ef ((zJ_eq (by omega) (by omega) (by decide) (by decide)).mp (lc_eq.mp y))) ?_
          iterate 14 (refine WP.st rfl ?_)
          refine WP.lald (k := 17 * q + c) rfl (ix17 q c) (Or.inl rfl) (show 17 * q + c < 391 by omega) (rfl) ?_
          rw [show hJ (hp L I M w) 220 (17 * q + c) = zJ (V q c) from rqc]
          iterate 8 (refine WP.st rfl ?_)
          refine WP.lald (k := 17 * ρ + c) rfl (ix17 ρ c) (Or.inl rfl) (show 17 * ρ + c < 391 by omega) (rfl) ?_
          rw [show hJ (hp L I M w) 220 (17 * ρ + c) = zJ (V ρ c) from rρc]
          iterate 1 (refine WP.st rfl ?_)
          rw [zJ_mul]
          iterate 2 (refine WP.st rfl ?_)
          rw [zp]
          refine WP.lrem rfl (pz) ?_
          rw [zJ_remp F0 (by omega) (by omega) (by omega)]
          iterate 1 (refine WP.st rfl ?_)
          rw [zJ_sub]
          iterate 2 (refine WP.st rfl ?_)
          rw [zp]
          refine WP.calle rfl rfl (ev_rest _ (V q c - f * V ρ c % pn) pn (by omega) (by omega) (by omega) (by omega)) ?_
          refine WP.last (k := 17 * q + c) rfl (ix17 q c) (rfl) (show 17 * q + c < 391 by omega) (rfl) ?_
          iterate 4 (refine WP.st rfl ?_)
          have kk4 := kk3 (mm_up M 220 (17 * q + c) (zJ ((V q c - f * V ρ c % pn) % pn))) ⟨fun d hd => (up_ne M _ hd).trans (m1 d hd), fun i' hi' d hd => ?_⟩
          · rw [show k + (j + 1) = c + 1 by omega, nI_succ c] at kk4
            exact kk4
          · rw [show k + (j + 1) = c + 1 by omega]
            by_cases e : i' = q ∧ d = c
            · obtain ⟨rfl, rfl⟩ := e
              rw [mm_up_at, if_pos (by omega)]
              unfold opr
              rw [if_pos ⟨rfl, by omega⟩]
            · rw [up_nk M _ (by omega), m2 i' hi' d hd]
              by_cases e1 : d < c
              · rw [if_pos e1, if_pos (by omega)]
              · rw [if_neg e1]
                by_cases e2 : d < c + 1
                · rw [if_pos e2]
                  unfold opr
                  rw [if_neg (by omega)]
                · rw [if_neg e2]
        · obtain ⟨m1, m2⟩ := hv
          rw [show k + (17 - k) = 17 by omega] at m2 ⊢
          refine WP.ict rfl (nI_le (Nat.le_refl _) (by omega)) ?_
          exact next M (opr pn V q ρ k f) _ m1 (fun i' hi' c hc => by rw [m2 i' hi' c hc, if_pos hc]) hop
    · obtain ⟨K, o9, o11⟩ := σ
      obtain ⟨v1, V, v3, v4⟩ := hv
      dsimp only at v1 v3 v4 ⊢
      rw [show ρ + 1 + (n - (ρ + 1)) = n by omega] at v4 ⊢
      refine WP.ict rfl (nI_le (Nat.le_refl _) (by omega)) ?_
      exact WP.ret rfl ⟨rfl, K, V, v1, v3, v4, rfl⟩
