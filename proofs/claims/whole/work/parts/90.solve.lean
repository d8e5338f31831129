/-! the reference: off, clearOut, solve -/
/-- the rows that are placed -/
def RW (I : Nat → Nat → Int32) (n : Nat) (A : Nat → Nat → Int) : Prop := I 208 20 = nI n ∧ n ≤ 16 ∧ ∃ ri : Nat → Nat, ∀ i, i < n → I 223 i = nI (ri i) ∧ ri i < 23 ∧ (∀ c, c < 17 → I 210 (17 * ri i + c) = zI (A i c)) ∧ (dt 16 (A i) (A i) ≤ 36 ∧ -2000 ≤ A i 16 ∧ A i 16 ≤ 2000)
def RR8 (I : Nat → Nat → Int32) (ρ : Nat → Int) : Prop := ∀ c, c < 16 → I 209 c = zI (ρ c) ∧ -1000 ≤ ρ c ∧ ρ c ≤ 1000
theorem ev_off (L : Nat) (I : Nat → Nat → Int32) (J : Nat → Nat → Int64) (w : Nat → Nat) (n : Nat) (A : Nat → Nat → Int) (hA : RW I n A) (ρ : Nat → Int) (hρ : RR8 I ρ) (i : Nat) (hi : i < n) : EV m_Mo_off [.ref 208, .int (nI i)] (hp L I J w) (some (.int (zI (- gp (A i) ρ)))) (hp L I J w) := by
  obtain ⟨-, h16, ri, hri⟩ := hA
  obtain ⟨r1, r2, r3, -⟩ := hri i hi
  obtain ⟨r, h', e, q⟩ : SP m_Mo_off [.ref 208, .int (nI i)] (hp L I J w) (fun r h' => r = some (.int (zI (- gp (A i) ρ))) ∧ h' = hp L I J w) := by
    unfold SP
    iterate 6 (refine WP.st rfl ?_)
    refine WP.iald (k := i) rfl (rfl) (Or.inl rfl) (show i < 16 by omega) (rfl) ?_
    rw [show hI (hp L I J w) 223 i = nI (ri i) from r1]
    iterate 3 (refine WP.st rfl ?_)
    refine WP.iald (k := 17 * ri i + 16) rfl (ix17 (ri i) 16) (Or.inl rfl) (show 17 * ri i + 16 < 391 by omega) (rfl) ?_
    rw [show hI (hp L I J w) 210 (17 * ri i + 16) = zI (A i 16) from r3 16 (by omega)]
    iterate 1 (refine WP.st rfl ?_)
    rw [zI_neg]
    iterate 5 (refine WP.st rfl ?_)
    rw [show zI (- A i 16) = zI (- A i 16 + sm (fun c => A i c * ρ c) 0) from congrArg zI (Int.add_zero _).symm]
    refine WP.inv (fun k (_ : Unit) => (24, [some (.ref 208), some (.int (nI i)), some (.int (zI (- A i 16 + sm (fun c => A i c * ρ c) k))), some (.int (nI k))], [.int (nI 16), .int (nI k)], hp L I J w, 0, 0)) (fun _ _ => True) 16 () trivial (fun k _ hk _ kk => ?_) (fun _ _ => ?_)
    · refine WP.icf rfl (nI_ge hk (by omega)) ?_
      iterate 7 (refine WP.st rfl ?_)
      refine WP.iald (k := i) rfl (rfl) (Or.inl rfl) (show i < 16 by omega) (rfl) ?_
      rw [show hI (hp L I J w) 223 i = nI (ri i) from r1]
      iterate 3 (refine WP.st rfl ?_)
      refine WP.iald (k := 17 * ri i + k) rfl (ix17 (ri i) k) (Or.inl rfl) (show 17 * ri i + k < 391 by omega) (rfl) ?_
      rw [show hI (hp L I J w) 210 (17 * ri i + k) = zI (A i k) from r3 k (by omega)]
      iterate 3 (refine WP.st rfl ?_)
      refine WP.iald (k := k) rfl (rfl) (Or.inl rfl) (show k < 16 by omega) (rfl) ?_
      rw [show hI (hp L I J w) 209 k = zI (ρ k) from (hρ k hk).1]
      iterate 1 (refine WP.st rfl ?_)
      rw [zI_mul]
      iterate 1 (refine WP.st rfl ?_)
      rw [zI_add]
      iterate 5 (refine WP.st rfl ?_)
      have k2 := kk () trivial
      rw [nI_succ k] at k2
      rw [show - A i 16 + sm (fun c => A i c * ρ c) k + A i k * ρ k = - A i 16 + sm (fun c => A i c * ρ c) (k + 1) by show _ = - A i 16 + (sm (fun c => A i c * ρ c) k + A i k * ρ k); omega]
      exact k2
    · skip
      refine WP.ict rfl (nI_le (Nat.le_refl _) (by omega)) ?_
      iterate 1 (refine WP.st rfl ?_)
      refine WP.ret rfl ⟨?_, rfl⟩
      unfold gp
      rw [show - (A i 16 - sm (fun c => A i c * ρ c) 16) = - A i 16 + sm (fun c => A i c * ρ c) 16 by omega]
  obtain ⟨rfl, rfl⟩ := q
  exact e
/-- the gram table -/
def MG (J : Nat → Nat → Int64) (M : Nat → Nat → Int) : Prop := ∀ i, i < 16 → ∀ j, j < 17 → J 221 (17 * i + j) = zJ (M i j) ∧ 0 ≤ M i j ∧ M i j < 2 ^ 30
theorem MG_up {J : Nat → Nat → Int64} {M : Nat → Nat → Int} (h : MG J M) {r c : Nat} (hc : c < 17) {x : Int} (h0 : 0 ≤ x) (h1 : x < 2 ^ 30) : MG (mm_up J 221 (17 * r + c) (zJ x)) (fun i j => if i = r ∧ j = c then x else M i j) := fun i hi j hj => by
  try dsimp only
  by_cases e : i = r ∧ j = c
  · obtain ⟨rfl, rfl⟩ := e
    rw [if_pos ⟨rfl, rfl⟩]
    exact ⟨mm_up_at J _ _ _, h0, h1⟩
  · rw [if_neg e]
    exact ⟨(up_nk J _ (by omega)).trans (h i hi j hj).1, (h i hi j hj).2⟩
theorem MG_ext {J : Nat → Nat → Int64} {M N : Nat → Nat → Int} (h : MG J M) (he : ∀ i, i < 16 → ∀ j, j < 17 → M i j = N i j) : MG J N := fun i hi j hj => by rw [← he i hi j hj]; exact h i hi j hj
set_option maxHeartbeats 4000000 in
set_option maxRecDepth 20000 in
theorem sp_clearOut (L : Nat) (I : Nat → Nat → Int32) (J : Nat → Nat → Int64) (w : Nat → Nat) (n k pn : Nat) (hn : n ≤ 16) (hk : k < n) (hmn : I 208 20 = nI n) (hpp : pm (pn : Int)) (p3 : pn < 2 ^ 30) (M : Nat → Nat → Int) (hM : MG J M) (hr : ∀ i, i < n → ∀ j, (j < n ∨ j = 16) → 0 ≤ M i j ∧ M i j < pn) (hne : M k k ≠ 0) : SP m_Mo_clearOut [.ref 208, .int (nI k), .int (nI pn)] (hp L I J w) (fun v h => v = none ∧ ∃ (K : Nat → Nat → Int64) (V : Nat → Nat → Int) (u z : Int), (∀ c, c ≠ 221 → K c = J c) ∧ MG K V ∧ u * M k k = 1 + z * pn ∧ jor pn n k n u M V ∧ h = hp L I K w) := by
  have p1 := hpp.1
  have zp : (nI pn).toInt64 = zJ (pn : Int) := by rw [nI_zI]; exact zI_l (by omega) (by omega)
  have pz : ¬ zJ (pn : Int) = 0 := fun z => by have := (zJ_eq (a := (pn : Int)) (b := 0) (by omega) (by omega) (by omega) (by omega)).mp z; omega
  have rg := hr k hk k (Or.inl hk)
  have nd : ¬ (pn : Int) ∣ M k k := fun z => hne (nz_dvd rg.1 rg.2 z)
  obtain ⟨z, hz⟩ := inv_pow hpp nd
  rw [Int.emod_eq_of_lt rg.1 rg.2] at hz
  generalize hu : M k k ^ (pn - 2) % (pn : Int) = u
  have u0 : 0 ≤ u := by rw [← hu]; exact Int.emod_nonneg _ (by omega)
  have u1 : u < pn := by rw [← hu]; exact Int.emod_lt_of_pos _ (by omega)
  obtain ⟨z2, hz2⟩ : ∃ z2, u * M k k = 1 + z2 * (pn : Int) := by
    obtain ⟨y, hy⟩ := Int.dvd_self_sub_emod (x := M k k ^ (pn - 2)) (m := (pn : Int))
    rw [hu] at hy
    exact ⟨z - y * M k k, by grind⟩
  unfold SP
  iterate 7 (refine WP.st rfl ?_)
  refine WP.lald (k := 17 * k + k) rfl (ix17 k k) (Or.inl rfl) (show 17 * k + k < 272 by omega) (rfl) ?_
  rw [show hJ (hp L I J w) 221 (17 * k + k) = zJ (M k k) from (hM k (by omega) k (by omega)).1]
  iterate 2 (refine WP.st rfl ?_)
  iterate 1 (refine WP.st rfl ?_)
  rw [show (nI pn - Int32.ofInt 2 : Int32) = nI (pn - 2) from pk_sub (a := pn) (b := 2) (by omega)]
  iterate 2 (refine WP.st rfl ?_)
  rw [zp]
  refine WP.calle rfl rfl (ev_power _ (M k k) (pn - 2) pn (by omega) (by omega) (by omega) rg.1 rg.2) ?_
  rw [hu]
  iterate 5 (refine WP.st rfl ?_)
  refine WP.inv (fun j (K : Nat → Nat → Int64) => (27, [some (.ref 208), some (.int (nI k)), some (.int (nI pn)), some (.long (zJ u)), none, some (.int (nI j)), none, none, none], [.int (nI 17), .int (nI j)], hp L I K w, 0, 0)) (fun j K => (∀ c, c ≠ 221 → K c = J c) ∧ MG K (fun i c => if i = k ∧ c < j then M k c * u % pn else M i c)) 17 J ⟨fun _ _ => rfl, MG_ext hM (fun i _ j _ => by rw [if_neg (fun y => absurd y.2 (Nat.not_lt_zero j))])⟩ (fun j K hj hv kk => ?_) (fun K hv => ?_)
  · obtain ⟨v1, v2⟩ := hv
    have g := v2 k (by omega) j hj
    dsimp only at g
    rw [if_neg (fun y => absurd y.2 (Nat.lt_irrefl j))] at g
    have m0 : 0 ≤ M k j * u := Int.mul_nonneg g.2.1 u0
    have m1 : M k j * u ≤ (2 ^ 30 - 1) * (2 ^ 30 - 1) := Int.mul_le_mul (by omega) (by omega) (by omega) (by omega)
    have e0 := Int.emod_nonneg (M k j * u) (show (pn : Int) ≠ 0 by omega)
    have e1 := Int.emod_lt_of_pos (M k j * u) (show (0 : Int) < pn by omega)
    refine WP.icf rfl (nI_ge hj (by omega)) ?_
    iterate 14 (refine WP.st rfl ?_)
    refine WP.lald (k := 17 * k + j) rfl (ix17 k j) (Or.inl rfl) (show 17 * k + j < 272 by omega) (rfl) ?_
    rw [show hJ (hp L I K w) 221 (17 * k + j) = zJ (M k j) from g.1]
    iterate 2 (refine WP.st rfl ?_)
    rw [zJ_mul]
    iterate 2 (refine WP.st rfl ?_)
    rw [zp]
    refine WP.lrem rfl (pz) ?_
    rw [zJ_remp m0 (by omega) (by omega) (by omega)]
    refine WP.last (k := 17 * k + j) rfl (ix17 k j) (rfl) (show 17 * k + j < 272 by omega) (rfl) ?_
    iterate 4 (refine WP.st rfl ?_)
    have kk2 := kk (mm_up K 221 (17 * k + j) (zJ (M k j * u % pn))) ⟨fun c hc => (up_ne K _ hc).trans (v1 c hc), MG_ext (MG_up v2 hj e0 (by omega)) (fun i hi c hc => ?_)⟩
    · rw [nI_succ j] at kk2
      exact kk2
    · try dsimp only
      by_cases e : i = k ∧ c = j
      · obtain ⟨rfl, rfl⟩ := e
        rw [if_pos ⟨rfl, rfl⟩, if_pos ⟨rfl, by omega⟩]
      · rw [if_neg e]
        by_cases e2 : i = k ∧ c < j
        · rw [if_pos e2, if_pos ⟨e2.1, by omega⟩]
        · rw [if_neg e2, if_neg (by omega)]
  · obtain ⟨v1, v2⟩ := hv
    have j0 : jor pn n k 0 u M (fun i c => if i = k ∧ c < 17 then M k c * u % pn else M i c) := by
      refine ⟨fun i hi j hj => ?_, fun j hj => if_pos ⟨rfl, by omega⟩, fun i h1 _ _ j _ => if_neg (fun y => h1 y.1), fun i _ h => absurd h (Nat.not_lt_zero i)⟩
      try dsimp only
      split
      · exact ⟨Int.emod_nonneg _ (by omega), Int.emod_lt_of_pos _ (by omega)⟩
      · exact hr i hi j hj
    refine WP.ict rfl (nI_le (Nat.le_refl _) (by omega)) ?_
    iterate 5 (refine WP.st rfl ?_)
    refine WP.inv (fun i (σ : (Nat → Nat → Int64) × Option Value × Option Value) => (74, [some (.ref 208), some (.int (nI k)), some (.int (nI pn)), some (.long (zJ u)), none, some (.int (nI i)), σ.2.1, none, σ.2.2], [.int (I 208 20), .int (nI i)], hp L I σ.1 w, 0, 0)) (fun i σ => (∀ c, c ≠ 221 → σ.1 c = J c) ∧ ∃ V, MG σ.1 V ∧ jor pn n k i u M V) n (K, none, none) ⟨v1, _, v2, j0⟩ (fun i σ hi hv kk => ?_) (fun σ hv => ?_)
    · obtain ⟨K, o6, o8⟩ := σ
      obtain ⟨v1, V, v3, j1, j2, j3, j4⟩ := hv
      dsimp only at v1 v3 ⊢
      refine WP.icf rfl (show ¬ I 208 20 ≤ nI i by rw [hmn]; exact nI_ge hi (by omega)) ?_
      iterate 2 (refine WP.st rfl ?_)
      have next : ∀ (N : Nat → Nat → Int64) (V2 : Nat → Nat → Int) (f : Int) (o : Option Value), (∀ c, c ≠ 221 → N c = J c) → MG N V2 → jor pn n k (i + 1) u M V2 → WP m_Mo_clearOut (174, [some (.ref 208), some (.int (nI k)), some (.int (nI pn)), some (.long (zJ u)), none, some (.int (nI i)), some (.long (zJ f)), none, o], [], hp L I N w, 0, 0) (fun v h => v = none ∧ ∃ (K : Nat → Nat → Int64) (V : Nat → Nat → Int) (u z : Int), (∀ c, c ≠ 221 → K c = J c) ∧ MG K V ∧ u * M k k = 1 + z * pn ∧ jor pn n k n u M V ∧ h = hp L I K w) := by
        intro N V2 f o n1 n2 n3
        iterate 5 (refine WP.st rfl ?_)
        have kk2 := kk (N, some (.long (zJ f)), o) ⟨n1, V2, n2, n3⟩
        rw [nI_succ i] at kk2
        exact kk2
      by_cases ek : i = k
      · subst ek
        refine WP.icf rfl (fun y => y rfl) ?_
        iterate 7 (refine WP.st rfl ?_)
        refine WP.icf rfl (nI_ge (show 0 < 17 by omega) (by omega)) ?_
        iterate 3 (refine WP.st rfl ?_)
        refine WP.ift rfl (lc_eq.mpr rfl) ?_
        exact next K V 0 _ v1 v3 ⟨j1, j2, fun i' h1 h2 => j3 i' h1 (by omega), fun i' h1 h2 => j4 i' h1 (by omega)⟩
      · skip
        refine WP.ict rfl (fun y => ek ((nI_eq (by omega) (by omega)).mp y)) ?_
        iterate 7 (refine WP.st rfl ?_)
        have vik : V i k = M i k := j3 i ek (Nat.le_refl i) hi k (Or.inl hk)
        have rik := hr i hi k (Or.inl hk)
        refine WP.lald (k := 17 * i + k) rfl (ix17 i k) (Or.inl rfl) (show 17 * i + k < 272 by omega) (rfl) ?_
        rw [show hJ (hp L I K w) 221 (17 * i + k) = zJ (M i k) from by rw [← vik]; exact (v3 i (by omega) k (by omega)).1]
        iterate 5 (refine WP.st rfl ?_)
        by_cases ef : M i k = 0
        · skip
          refine WP.icf rfl (nI_ge (show 0 < 17 by omega) (by omega)) ?_
          iterate 3 (refine WP.st rfl ?_)
          refine WP.ift rfl (lc_eq.mpr (by rw [ef]; rfl)) ?_
          refine next K V (M i k) _ v1 v3 ⟨j1, j2, fun i' h1 h2 => j3 i' h1 (by omega), fun i' h1 h2 h3 j hj => ?_⟩
          by_cases e : i' = i
          · subst e
            have := hr i' hi j hj
            rw [j3 i' ek (Nat.le_refl i') hi j hj, ef, Int.zero_mul, Int.zero_emod, Int.sub_zero, Int.emod_eq_of_lt this.1 this.2]
          · exact j4 i' h1 (by omega) h3 j hj
        · refine WP.inv (fun j (N : Nat → Nat → Int64) => (108, [some (.ref 208), some (.int (nI k)), some (.int (nI pn)), some (.long (zJ u)), none, some (.int (nI i)), some (.long (zJ (M i k))), none, some (.int (nI j))], [.int (nI 17), .int (nI j)], hp L I N w, 0, 0)) (fun j N => (∀ c, c ≠ 221 → N c = J c) ∧ MG N (fun i' c => if i' = i ∧ c < j then (V i c - M i k * V k c % pn) % pn else V i' c)) 17 K ⟨v1, MG_ext v3 (fun i' _ j _ => by rw [if_neg (fun y => absurd y.2 (Nat.not_lt_zero j))])⟩ (fun j N hj hv k3 => ?_) (fun N hv => ?_)
          · obtain ⟨n1, n2⟩ := hv
            have g1 := n2 i (by omega) j hj
            dsimp only at g1
            rw [if_neg (fun y => absurd y.2 (Nat.lt_irrefl j))] at g1
            have g2 := n2 k (by omega) j hj
            dsimp only at g2
            rw [if_neg (fun y => ek y.1.symm)] at g2
            have F0 : 0 ≤ M i k * V k j := Int.mul_nonneg rik.1 g2.2.1
            have F1 : M i k * V k j ≤ (2 ^ 30 - 1) * (2 ^ 30 - 1) := Int.mul_le_mul (by omega) (by omega) (by omega) (by omega)
            have E0 := Int.emod_nonneg (M i k * V k j) (show (pn : Int) ≠ 0 by omega)
            have E1 := Int.emod_lt_of_pos (M i k * V k j) (show (0 : Int) < pn by omega)
            have H0 := Int.emod_nonneg (V i j - M i k * V k j % pn) (show (pn : Int) ≠ 0 by omega)
            have H1 := Int.emod_lt_of_pos (V i j - M i k * V k j % pn) (show (0 : Int) < pn by omega)
            refine WP.icf rfl (nI_ge hj (by omega)) ?_
            iterate 3 (refine WP.st rfl ?_)
            refine WP.iff rfl (fun y => ef ((zJ_eq (by omega) (by omega) (by decide) (by decide)).mp (lc_eq.mp y))) ?_
            iterate 14 (refine WP.st rfl ?_)
            refine WP.lald (k := 17 * i + j) rfl (ix17 i j) (Or.inl rfl) (show 17 * i + j < 272 by omega) (rfl) ?_
            rw [show hJ (hp L I N w) 221 (17 * i + j) = zJ (V i j) from g1.1]
            iterate 8 (refine WP.st rfl ?_)
            refine WP.lald (k := 17 * k + j) rfl (ix17 k j) (Or.inl rfl) (show 17 * k + j < 272 by omega) (rfl) ?_
            rw [show hJ (hp L I N w) 221 (17 * k + j) = zJ (V k j) from g2.1]
            iterate 1 (refine WP.st rfl ?_)
            rw [zJ_mul]
            iterate 2 (refine WP.st rfl ?_)
            rw [zp]
            refine WP.lrem rfl (pz) ?_
            rw [zJ_remp F0 (by omega) (by omega) (by omega)]
            iterate 1 (refine WP.st rfl ?_)
            rw [zJ_sub]
            iterate 2 (refine WP.st rfl ?_)
            rw [zp]
            refine WP.calle rfl rfl (ev_rest _ (V i j - M i k * V k j % pn) pn (by omega) (by omega) (by omega) (by omega)) ?_
            refine WP.last (k := 17 * i + j) rfl (ix17 i j) (rfl) (show 17 * i + j < 272 by omega) (rfl) ?_
            iterate 4 (refine WP.st rfl ?_)
            have k4 := k3 (mm_up N 221 (17 * i + j) (zJ ((V i j - M i k * V k j % pn) % pn))) ⟨fun c hc => (up_ne N _ hc).trans (n1 c hc), MG_ext (MG_up n2 hj H0 (by omega)) (fun i' hi' c hc => ?_)⟩
            · rw [nI_succ j] at k4
              exact k4
            · try dsimp only
              by_cases e : i' = i ∧ c = j
              · obtain ⟨rfl, rfl⟩ := e
                rw [if_pos ⟨rfl, rfl⟩, if_pos ⟨rfl, by omega⟩]
              · rw [if_neg e]
                by_cases e2 : i' = i ∧ c < j
                · rw [if_pos e2, if_pos ⟨e2.1, by omega⟩]
                · rw [if_neg e2, if_neg (by omega)]
          · obtain ⟨n1, n2⟩ := hv
            refine WP.ict rfl (nI_le (Nat.le_refl _) (by omega)) ?_
            refine next N _ (M i k) _ n1 n2 ⟨fun i' hi' j hj => ?_, fun j hj => ?_, fun i' h1 h2 h3 j hj => ?_, fun i' h1 h2 h3 j hj => ?_⟩
            · try dsimp only
              split
              · exact ⟨Int.emod_nonneg _ (by omega), Int.emod_lt_of_pos _ (by omega)⟩
              · exact j1 i' hi' j hj
            · try dsimp only
              rw [if_neg (fun y => ek y.1.symm)]
              exact j2 j hj
            · try dsimp only
              rw [if_neg (by omega)]
              exact j3 i' h1 (by omega) h3 j hj
            · try dsimp only
              have ekj : (if k = i ∧ j < 17 then (V i j - M i k * V k j % (pn : Int)) % (pn : Int) else V k j) = V k j := if_neg (fun y => ek y.1.symm)
              rw [ekj]
              by_cases e : i' = i
              · subst e
                rw [if_pos ⟨rfl, by omega⟩, j3 i' ek (Nat.le_refl i') hi j hj]
              · rw [if_neg (fun y => e y.1)]
                exact j4 i' h1 (by omega) h3 j hj
    · obtain ⟨K, o6, o8⟩ := σ
      obtain ⟨v1, V, v3, v4⟩ := hv
      dsimp only at v1 v3 v4 ⊢
      refine WP.ict rfl (show I 208 20 ≤ nI n by rw [hmn]; exact nI_le (Nat.le_refl _) (by omega)) ?_
      exact WP.ret rfl ⟨rfl, K, V, u, z2, v1, v3, hz2, v4, rfl⟩
