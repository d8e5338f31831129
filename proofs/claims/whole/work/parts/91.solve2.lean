/-! the reference: solve -/
set_option maxHeartbeats 4000000 in
set_option maxRecDepth 20000 in
theorem sp_solve (L : Nat) (I : Nat → Nat → Int32) (J : Nat → Nat → Int64) (w : Nat → Nat) (n pn : Nat) (A : Nat → Nat → Int) (hA : RW I n A) (ρ : Nat → Int) (hρ : RR8 I ρ) (hgb : ∀ i, i < n → -14000 ≤ gp (A i) ρ ∧ gp (A i) ρ ≤ 14000) (hpp : pm (pn : Int)) (p3 : pn < 2 ^ 30) (M0 : Nat → Nat → Int) (hM : MG J M0) : SP m_Mo_solve [.ref 208, .int (nI pn)] (hp L I J w) (fun v h => v = some (.long (zJ (det n (gm 16 A) % pn))) ∧ ∃ (K : Nat → Nat → Int64) (M : Nat → Nat → Int), (∀ c, c ≠ 221 → c ≠ 222 → K c = J c) ∧ MG K M ∧ (det n (gm 16 A) % pn ≠ 0 → ∃ y : Nat → Int, (∀ i, i < n → K 222 i = zJ (y i * (det n (gm 16 A) % pn) % pn)) ∧ ∀ i, i < n → (pn : Int) ∣ sm (fun j => gm 16 A i j * y j) n - (- gp (A i) ρ)) ∧ h = hp L I K w) := by
  have p1 := hpp.1
  have hA' := hA
  obtain ⟨hmn, h16, ri, hri⟩ := hA
  have zp : (nI pn).toInt64 = zJ (pn : Int) := by rw [nI_zI]; exact zI_l (by omega) (by omega)
  have pz : ¬ zJ (pn : Int) = 0 := fun z => by have := (zJ_eq (a := (pn : Int)) (b := 0) (by omega) (by omega) (by omega) (by omega)).mp z; omega
  unfold SP
  iterate 5 (refine WP.st rfl ?_)
  refine WP.inv (fun i (σ : (Nat → Nat → Int64) × Option Value × Option Value × Option Value) => (7, [some (.ref 208), some (.int (nI pn)), some (.int (nI i)), σ.2.1, σ.2.2.1, none, σ.2.2.2, none, none], [.int (I 208 20), .int (nI i)], hp L I σ.1 w, 0, 0)) (fun i σ => (∀ c, c ≠ 221 → σ.1 c = J c) ∧ ∃ M, MG σ.1 M ∧ ∀ a, a < i → (∀ b, b < n → M a b = gm 16 A a b % pn) ∧ M a 16 = (- gp (A a) ρ) % pn) n (J, none, none, none) ⟨fun _ _ => rfl, M0, hM, fun a ha => absurd ha (Nat.not_lt_zero a)⟩ (fun i σ hi hv kk => ?_) (fun σ hv => ?_)
  · obtain ⟨K, o3, o4, o6⟩ := σ
    obtain ⟨v1, M, v2, v3⟩ := hv
    dsimp only at v1 v2 ⊢
    obtain ⟨r1, r2, r3, r4⟩ := hri i hi
    refine WP.icf rfl (show ¬ I 208 20 ≤ nI i by rw [hmn]; exact nI_ge hi (by omega)) ?_
    iterate 5 (refine WP.st rfl ?_)
    refine WP.inv (fun j (σ : (Nat → Nat → Int64) × Option Value × Option Value) => (17, [some (.ref 208), some (.int (nI pn)), some (.int (nI i)), some (.int (nI j)), σ.2.1, none, σ.2.2, none, none], [.int (I 208 20), .int (nI j)], hp L I σ.1 w, 0, 0)) (fun j σ => (∀ c, c ≠ 221 → σ.1 c = J c) ∧ ∃ M, MG σ.1 M ∧ (∀ a, a < i → (∀ b, b < n → M a b = gm 16 A a b % pn) ∧ M a 16 = (- gp (A a) ρ) % pn) ∧ ∀ b, b < j → M i b = gm 16 A i b % pn) n (K, o4, o6) ⟨v1, M, v2, v3, fun b hb => absurd hb (Nat.not_lt_zero b)⟩ (fun j σ hj hv k2 => ?_) (fun σ hv => ?_)
    · obtain ⟨K, o4, o6⟩ := σ
      obtain ⟨v1, M, v2, v3, v4⟩ := hv
      dsimp only at v1 v2 ⊢
      obtain ⟨s1, s2, s3, s4⟩ := hri j hj
      refine WP.icf rfl (show ¬ I 208 20 ≤ nI j by rw [hmn]; exact nI_ge hj (by omega)) ?_
      iterate 6 (refine WP.st rfl ?_)
      refine WP.inv (fun c (_ : Unit) => (30, [some (.ref 208), some (.int (nI pn)), some (.int (nI i)), some (.int (nI j)), some (.long (zJ (dt c (A i) (A j)))), none, some (.int (nI c)), none, none], [.int (nI 16), .int (nI c)], hp L I K w, 0, 0)) (fun _ _ => True) 16 () trivial (fun c _ hc _ k3 => ?_) (fun _ _ => ?_)
      · have b1 := ent6 r4.1 hc
        have b2 := ent6 s4.1 hc
        refine WP.icf rfl (nI_ge hc (by omega)) ?_
        iterate 7 (refine WP.st rfl ?_)
        refine WP.iald (k := i) rfl (rfl) (Or.inl rfl) (show i < 16 by omega) (rfl) ?_
        rw [show hI (hp L I K w) 223 i = nI (ri i) from r1]
        iterate 3 (refine WP.st rfl ?_)
        refine WP.iald (k := 17 * ri i + c) rfl (ix17 (ri i) c) (Or.inl rfl) (show 17 * ri i + c < 391 by omega) (rfl) ?_
        rw [show hI (hp L I K w) 210 (17 * ri i + c) = zI (A i c) from r3 c (by omega)]
        iterate 1 (refine WP.st rfl ?_)
        rw [zI_l (by omega) (by omega)]
        iterate 6 (refine WP.st rfl ?_)
        refine WP.iald (k := j) rfl (rfl) (Or.inl rfl) (show j < 16 by omega) (rfl) ?_
        rw [show hI (hp L I K w) 223 j = nI (ri j) from s1]
        iterate 3 (refine WP.st rfl ?_)
        refine WP.iald (k := 17 * ri j + c) rfl (ix17 (ri j) c) (Or.inl rfl) (show 17 * ri j + c < 391 by omega) (rfl) ?_
        rw [show hI (hp L I K w) 210 (17 * ri j + c) = zI (A j c) from s3 c (by omega)]
        iterate 1 (refine WP.st rfl ?_)
        rw [zI_l (by omega) (by omega)]
        iterate 1 (refine WP.st rfl ?_)
        rw [zJ_mul]
        iterate 1 (refine WP.st rfl ?_)
        rw [zJ_add]
        iterate 5 (refine WP.st rfl ?_)
        have k4 := k3 () trivial
        rw [nI_succ c] at k4
        exact k4
      · have ds := dt_small r4.1 s4.1
        have E0 := Int.emod_nonneg (dt 16 (A i) (A j)) (show (pn : Int) ≠ 0 by omega)
        have E1 := Int.emod_lt_of_pos (dt 16 (A i) (A j)) (show (0 : Int) < pn by omega)
        refine WP.ict rfl (nI_le (Nat.le_refl _) (by omega)) ?_
        iterate 10 (refine WP.st rfl ?_)
        rw [zp]
        refine WP.calle rfl rfl (ev_rest _ (dt 16 (A i) (A j)) pn (by omega) (by omega) (by omega) (by omega)) ?_
        refine WP.last (k := 17 * i + j) rfl (ix17 i j) (rfl) (show 17 * i + j < 272 by omega) (rfl) ?_
        iterate 5 (refine WP.st rfl ?_)
        have k4 := k2 (mm_up K 221 (17 * i + j) (zJ (dt 16 (A i) (A j) % pn)), some (.long (zJ (dt 16 (A i) (A j)))), some (.int (nI 16))) ⟨fun c hc => (up_ne K _ hc).trans (v1 c hc), _, MG_up v2 (by omega) E0 (by omega), fun a ha => ⟨fun b hb => by rw [if_neg (by omega)]; exact (v3 a ha).1 b hb, by rw [if_neg (by omega)]; exact (v3 a ha).2⟩, fun b hb => by
          by_cases e : b = j
          · rw [if_pos ⟨rfl, e⟩, e]; rfl
          · rw [if_neg (fun y => e y.2)]; exact v4 b (by omega)⟩
        rw [nI_succ j] at k4
        exact k4
    · obtain ⟨K, o4, o6⟩ := σ
      obtain ⟨v1, M, v2, v3, v4⟩ := hv
      dsimp only at v1 v2 ⊢
      have gb := hgb i hi
      have E0 := Int.emod_nonneg (- gp (A i) ρ) (show (pn : Int) ≠ 0 by omega)
      have E1 := Int.emod_lt_of_pos (- gp (A i) ρ) (show (0 : Int) < pn by omega)
      refine WP.ict rfl (show I 208 20 ≤ nI n by rw [hmn]; exact nI_le (Nat.le_refl _) (by omega)) ?_
      iterate 9 (refine WP.st rfl ?_)
      refine WP.calle rfl rfl (ev_off L I K w n A hA' ρ hρ i hi) ?_
      iterate 1 (refine WP.st rfl ?_)
      rw [zI_l (by omega) (by omega)]
      iterate 2 (refine WP.st rfl ?_)
      rw [zp]
      refine WP.calle rfl rfl (ev_rest _ (- gp (A i) ρ) pn (by omega) (by omega) (by omega) (by omega)) ?_
      refine WP.last (k := 17 * i + 16) rfl (ix17 i 16) (rfl) (show 17 * i + 16 < 272 by omega) (rfl) ?_
      iterate 5 (refine WP.st rfl ?_)
      have k4 := kk (mm_up K 221 (17 * i + 16) (zJ ((- gp (A i) ρ) % pn)), some (.int (nI n)), o4, o6) ⟨fun c hc => (up_ne K _ hc).trans (v1 c hc), _, MG_up v2 (by omega) E0 (by omega), fun a ha => ?_⟩
      · rw [nI_succ i] at k4
        exact k4
      · by_cases e : a = i
        · subst e
          exact ⟨fun b hb => by rw [if_neg (by omega)]; exact v4 b hb, by rw [if_pos ⟨rfl, rfl⟩]⟩
        · exact ⟨fun b hb => by rw [if_neg (by omega)]; exact (v3 a (by omega)).1 b hb, by rw [if_neg (by omega)]; exact (v3 a (by omega)).2⟩
  · obtain ⟨K, o3, o4, o6⟩ := σ
    obtain ⟨v1, M, v2, v3⟩ := hv
    dsimp only at v1 v2 ⊢
    have s0 : sol pn n 0 (gm 16 A) (fun i => - gp (A i) ρ) M 1 := sol_0 hpp (fun i hi j hj => (v3 i hi).1 j hj) (fun i hi => (v3 i hi).2) h16
    refine WP.ict rfl (show I 208 20 ≤ nI n by rw [hmn]; exact nI_le (Nat.le_refl _) (by omega)) ?_
    iterate 7 (refine WP.st rfl ?_)
    refine WP.inv (fun k (σ : (Nat → Nat → Int64) × Int × (Nat → Option Value)) => (145, [some (.ref 208), some (.int (nI pn)), some (.long (zJ σ.2.1)), none, some (.int (nI k)), σ.2.2 5, σ.2.2 6, σ.2.2 7, σ.2.2 8], [.int (I 208 20), .int (nI k)], hp L I σ.1 w, 0, 0)) (fun k σ => (∀ c, c ≠ 221 → σ.1 c = J c) ∧ ∃ M, MG σ.1 M ∧ sol pn n k (gm 16 A) (fun i => - gp (A i) ρ) M σ.2.1) n (K, 1, fun q => if q = 6 then o6 else none) ⟨v1, M, v2, s0⟩ (fun k σ hk hv kk => ?_) (fun σ hv => ?_)
    · obtain ⟨K, b, f⟩ := σ
      obtain ⟨v1, M, v2, v3⟩ := hv
      dsimp only at v1 v2 v3 ⊢
      have b1 := v3.2.2.1
      refine WP.icf rfl (show ¬ I 208 20 ≤ nI k by rw [hmn]; exact nI_ge hk (by omega)) ?_
      iterate 5 (refine WP.st rfl ?_)
      refine WP.search (fun i => (158, [some (.ref 208), some (.int (nI pn)), some (.long (zJ b)), none, some (.int (nI k)), some (.int (nI (k + i))), f 6, f 7, f 8], [.int (I 208 20), .int (nI (k + i))], hp L I K w, 0, 0)) (fun i => M (k + i) k ≠ 0) (n - k) (fun i hi hP hb => ?_) (fun i hi hP k2 => ?_) (fun hP => ?_)
      · generalize ha : k + i = a at *
        have ha1 : a < n := by omega
        have rg := v3.1 a ha1 k (Or.inl hk)
        refine WP.icf rfl (show ¬ I 208 20 ≤ nI a by rw [hmn]; exact nI_ge ha1 (by omega)) ?_
        iterate 7 (refine WP.st rfl ?_)
        refine WP.lald (k := 17 * a + k) rfl (ix17 a k) (Or.inl rfl) (show 17 * a + k < 272 by omega) (rfl) ?_
        rw [show hJ (hp L I K w) 221 (17 * a + k) = zJ (M a k) from (v2 a (by omega) k (by omega)).1]
        iterate 2 (refine WP.st rfl ?_)
        refine WP.ift rfl (lc_ne.mpr (fun y => hP ((zJ_eq (by omega) (by omega) (by decide) (by decide)).mp y))) ?_
        iterate 3 (refine WP.st rfl ?_)
        refine WP.ict rfl (show ¬ nI a = I 208 20 by rw [hmn]; exact fun y => by have := (nI_eq (by omega) (by omega)).mp y; omega) ?_
        iterate 4 (refine WP.st rfl ?_)
        -- the pivot stands in its place
        have rest : ∀ (K2 : Nat → Nat → Int64) (M2 : Nat → Nat → Int) (b2 : Int) (g : Nat → Option Value), (∀ c, c ≠ 221 → K2 c = J c) → MG K2 M2 → sol pn n k (gm 16 A) (fun i => - gp (A i) ρ) M2 b2 → M2 k k ≠ 0 → WP m_Mo_solve (290, [some (.ref 208), some (.int (nI pn)), some (.long (zJ b)), none, some (.int (nI k)), some (.int (nI a)), g 6, g 7, g 8], [.long (zJ b2)], hp L I K2 w, 0, 0) (fun v h => v = some (.long (zJ (det n (gm 16 A) % pn))) ∧ ∃ (K : Nat → Nat → Int64) (M : Nat → Nat → Int), (∀ c, c ≠ 221 → c ≠ 222 → K c = J c) ∧ MG K M ∧ (det n (gm 16 A) % pn ≠ 0 → ∃ y : Nat → Int, (∀ i, i < n → K 222 i = zJ (y i * (det n (gm 16 A) % pn) % pn)) ∧ ∀ i, i < n → (pn : Int) ∣ sm (fun j => gm 16 A i j * y j) n - (- gp (A i) ρ)) ∧ h = hp L I K w) := by
          intro K2 M2 b2 g q1 q2 q3 q4
          have c1 := q3.2.2.1
          have rg2 := q3.1 k hk k (Or.inl hk)
          have U0 : 0 ≤ b2 * M2 k k := Int.mul_nonneg (by omega) rg2.1
          have U1 : b2 * M2 k k ≤ (2 ^ 30 - 1) * (2 ^ 30 - 1) := Int.mul_le_mul (by omega) (by omega) (by omega) (by omega)
          iterate 9 (refine WP.st rfl ?_)
          refine WP.lald (k := 17 * k + k) rfl (ix17 k k) (Or.inl rfl) (show 17 * k + k < 272 by omega) (rfl) ?_
          rw [show hJ (hp L I K2 w) 221 (17 * k + k) = zJ (M2 k k) from (q2 k (by omega) k (by omega)).1]
          iterate 1 (refine WP.st rfl ?_)
          rw [zJ_mul]
          iterate 2 (refine WP.st rfl ?_)
          rw [zp]
          refine WP.lrem rfl (pz) ?_
          rw [zJ_remp U0 (by omega) (by omega) (by omega)]
          iterate 4 (refine WP.st rfl ?_)
          refine WP.call rfl rfl (sp_clearOut L I K2 w n k pn h16 hk hmn hpp p3 M2 q2 q3.1 q4) ?_
          rintro _ _ ⟨rfl, K3, V, u, z, d1, d2, d3, d4, rfl⟩
          iterate 5 (refine WP.st rfl ?_)
          have kk2 := kk (K3, b2 * M2 k k % pn, fun q => if q = 5 then some (.int (nI a)) else g q) ⟨fun c hc => (d1 c hc).trans (q1 c hc), V, d2, jor_sol hpp h16 q3 hk d3 d4 q4⟩
          rw [nI_succ k] at kk2
          exact kk2
        by_cases eak : a = k
        · subst eak
          refine WP.icf rfl (nI_ge (show 0 < 17 by omega) (by omega)) ?_
          iterate 2 (refine WP.st rfl ?_)
          refine WP.ict rfl (rfl) ?_
          iterate 2 (refine WP.st rfl ?_)
          refine WP.icf rfl (fun y => y rfl) ?_
          iterate 2 (refine WP.st rfl ?_)
          exact rest K M b (fun q => if q = 6 then some (.int (nI 0)) else f q) v1 v2 v3 hP
        · refine WP.inv (fun j (σ : (Nat → Nat → Int64) × Option Value × Option Value) => (203, [some (.ref 208), some (.int (nI pn)), some (.long (zJ b)), none, some (.int (nI k)), some (.int (nI a)), some (.int (nI j)), σ.2.1, σ.2.2], [.int (nI 17), .int (nI j)], hp L I σ.1 w, 0, 0)) (fun j σ => (∀ c, c ≠ 221 → σ.1 c = J c) ∧ MG σ.1 (fun i c => if c < j then sw M a k i c else M i c)) 17 (K, f 7, f 8) ⟨v1, MG_ext v2 (fun i _ c _ => by rw [if_neg (Nat.not_lt_zero c)])⟩ (fun j σ hj hv k3 => ?_) (fun σ hv => ?_)
          · obtain ⟨K2, o7, o8⟩ := σ
            obtain ⟨m1, m2⟩ := hv
            dsimp only at m1 m2 ⊢
            have ga := m2 a (by omega) j hj
            have gk := m2 k (by omega) j hj
            dsimp only at ga gk
            rw [if_neg (Nat.lt_irrefl j)] at ga gk
            refine WP.icf rfl (nI_ge hj (by omega)) ?_
            iterate 2 (refine WP.st rfl ?_)
            refine WP.icf rfl (fun y => eak ((nI_eq (by omega) (by omega)).mp y)) ?_
            iterate 7 (refine WP.st rfl ?_)
            refine WP.lald (k := 17 * a + j) rfl (ix17 a j) (Or.inl rfl) (show 17 * a + j < 272 by omega) (rfl) ?_
            rw [show hJ (hp L I K2 w) 221 (17 * a + j) = zJ (M a j) from ga.1]
            iterate 15 (refine WP.st rfl ?_)
            refine WP.lald (k := 17 * k + j) rfl (ix17 k j) (Or.inl rfl) (show 17 * k + j < 272 by omega) (rfl) ?_
            rw [show hJ (hp L I K2 w) 221 (17 * k + j) = zJ (M k j) from gk.1]
            refine WP.last (k := 17 * a + j) rfl (ix17 a j) (rfl) (show 17 * a + j < 272 by omega) (rfl) ?_
            iterate 8 (refine WP.st rfl ?_)
            refine WP.last (k := 17 * k + j) rfl (ix17 k j) (rfl) (show 17 * k + j < 272 by omega) (rfl) ?_
            iterate 4 (refine WP.st rfl ?_)
            have k4 := k3 (mm_up (mm_up K2 221 (17 * a + j) (zJ (M k j))) 221 (17 * k + j) (zJ (M a j)), some (.long (zJ (M a j))), none) ⟨fun c hc => (up_ne _ _ hc).trans ((up_ne K2 _ hc).trans (m1 c hc)), MG_ext (MG_up (MG_up m2 hj gk.2.1 gk.2.2) hj ga.2.1 ga.2.2) (fun i hi c hc => ?_)⟩
            · rw [nI_succ j] at k4
              exact k4
            · try dsimp only
              by_cases ec : c = j
              · subst ec
                rw [if_pos (show c < c + 1 by omega)]
                unfold sw
                by_cases e1 : i = k
                · rw [if_pos ⟨e1, rfl⟩, if_neg (by omega), if_pos e1]
                · rw [if_neg (fun y => e1 y.1)]
                  by_cases e2 : i = a
                  · rw [if_pos ⟨e2, rfl⟩, if_pos e2]
                  · rw [if_neg (fun y => e2 y.1), if_neg (Nat.lt_irrefl c), if_neg e2, if_neg e1]
              · rw [if_neg (fun y => ec y.2), if_neg (fun y => ec y.2)]
                by_cases e3 : c < j
                · rw [if_pos e3, if_pos (show c < j + 1 by omega)]
                · rw [if_neg e3, if_neg (show ¬ c < j + 1 by omega)]
          · obtain ⟨K2, o7, o8⟩ := σ
            obtain ⟨m1, m2⟩ := hv
            dsimp only at m1 m2 ⊢
            refine WP.ict rfl (nI_le (Nat.le_refl _) (by omega)) ?_
            iterate 2 (refine WP.st rfl ?_)
            refine WP.ict rfl (fun y => eak ((nI_eq (by omega) (by omega)).mp y)) ?_
            iterate 2 (refine WP.st rfl ?_)
            rw [zp]
            iterate 2 (refine WP.st rfl ?_)
            rw [zJ_sub]
            exact rest K2 (sw M a k) (pn - b) (fun q => if q = 6 then some (.int (nI 17)) else if q = 7 then o7 else o8) m1 (MG_ext m2 (fun i _ c hc => by rw [if_pos hc])) (sol_sw v3 (by omega) ha1) (by show sw M a k k k ≠ 0; unfold sw; rw [if_neg (Ne.symm eak), if_pos rfl]; exact hP)
      · generalize ha : k + i = a at *
        refine WP.icf rfl (show ¬ I 208 20 ≤ nI a by rw [hmn]; exact nI_ge (by omega) (by omega)) ?_
        iterate 7 (refine WP.st rfl ?_)
        refine WP.lald (k := 17 * a + k) rfl (ix17 a k) (Or.inl rfl) (show 17 * a + k < 272 by omega) (rfl) ?_
        rw [show hJ (hp L I K w) 221 (17 * a + k) = zJ (M a k) from (v2 a (by omega) k (by omega)).1]
        iterate 2 (refine WP.st rfl ?_)
        refine WP.iff rfl (fun y => lc_ne.mp y (by rw [Classical.not_not.mp hP]; rfl)) ?_
        iterate 5 (refine WP.st rfl ?_)
        rw [show k + (i + 1) = a + 1 by omega, nI_succ a] at k2
        exact k2
      · rw [show k + (n - k) = n by omega]
        refine WP.ict rfl (show I 208 20 ≤ nI n by rw [hmn]; exact nI_le (Nat.le_refl _) (by omega)) ?_
        iterate 3 (refine WP.st rfl ?_)
        refine WP.icf rfl (fun y => y hmn.symm) ?_
        iterate 1 (refine WP.st rfl ?_)
        have d0 := sol_stuck v3 hk (fun i h1 h2 => by
          have := Classical.not_not.mp (hP (i - k) (by omega))
          rw [show k + (i - k) = i by omega] at this
          exact this)
        exact WP.ret rfl ⟨by rw [d0]; rfl, K, M, fun c h1 _ => v1 c h1, v2, fun y => absurd d0 y, rfl⟩
    · obtain ⟨K, b, f⟩ := σ
      obtain ⟨v1, M, v2, v3⟩ := hv
      dsimp only at v1 v2 v3 ⊢
      have b1 := v3.2.2.1
      obtain ⟨e1, e2⟩ := sol_end hpp h16 v3
      have rng := v3.1
      subst e1
      generalize det n (gm 16 A) % (pn : Int) = D at *
      refine WP.ict rfl (show I 208 20 ≤ nI n by rw [hmn]; exact nI_le (Nat.le_refl _) (by omega)) ?_
      iterate 5 (refine WP.st rfl ?_)
      refine WP.inv (fun i (K : Nat → Nat → Int64) => (332, [some (.ref 208), some (.int (nI pn)), some (.long (zJ D)), none, some (.int (nI i)), f 5, f 6, f 7, f 8], [.int (I 208 20), .int (nI i)], hp L I K w, 0, 0)) (fun i K => (∀ c, c ≠ 221 → c ≠ 222 → K c = J c) ∧ MG K M ∧ ∀ a, a < i → K 222 a = zJ (M a 16 * D % pn)) n K ⟨fun c h1 _ => v1 c h1, v2, fun a ha => absurd ha (Nat.not_lt_zero a)⟩ (fun i K hi hv kk => ?_) (fun K hv => ?_)
      · obtain ⟨u1, u2, u3⟩ := hv
        have rg := rng i hi 16 (Or.inr rfl)
        have U0 : 0 ≤ M i 16 * D := Int.mul_nonneg rg.1 (by omega)
        have U1 : M i 16 * D ≤ (2 ^ 30 - 1) * (2 ^ 30 - 1) := Int.mul_le_mul (by omega) (by omega) (by omega) (by omega)
        refine WP.icf rfl (show ¬ I 208 20 ≤ nI i by rw [hmn]; exact nI_ge hi (by omega)) ?_
        iterate 10 (refine WP.st rfl ?_)
        refine WP.lald (k := 17 * i + 16) rfl (ix17 i 16) (Or.inl rfl) (show 17 * i + 16 < 272 by omega) (rfl) ?_
        rw [show hJ (hp L I K w) 221 (17 * i + 16) = zJ (M i 16) from (u2 i (by omega) 16 (by omega)).1]
        iterate 2 (refine WP.st rfl ?_)
        rw [zJ_mul]
        iterate 2 (refine WP.st rfl ?_)
        rw [zp]
        refine WP.lrem rfl (pz) ?_
        rw [zJ_remp U0 (by omega) (by omega) (by omega)]
        refine WP.last (k := i) rfl (rfl) (rfl) (show i < 16 by omega) (rfl) ?_
        iterate 5 (refine WP.st rfl ?_)
        have kk2 := kk (mm_up K 222 i (zJ (M i 16 * D % pn))) ⟨fun c h1 h2 => (up_ne K _ h2).trans (u1 c h1 h2), fun a ha c hc => by rw [up_ne K _ (by decide)]; exact u2 a ha c hc, fun a ha => by
          by_cases e : a = i
          · rw [e]; exact mm_up_at K _ _ _
          · exact (up_nk K _ e).trans (u3 a (by omega))⟩
        rw [nI_succ i] at kk2
        exact kk2
      · obtain ⟨u1, u2, u3⟩ := hv
        refine WP.ict rfl (show I 208 20 ≤ nI n by rw [hmn]; exact nI_le (Nat.le_refl _) (by omega)) ?_
        iterate 1 (refine WP.st rfl ?_)
        exact WP.ret rfl ⟨rfl, K, M, u1, u2, fun _ => ⟨fun i => M i 16, u3, e2⟩, rfl⟩
