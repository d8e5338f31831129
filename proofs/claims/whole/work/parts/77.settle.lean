/-! Balance: clearTable, settle -/
set_option maxHeartbeats 4000000 in
set_option maxRecDepth 20000 in
theorem sp_clearTable (L : Nat) (I : Nat → Nat → Int32) (J : Nat → Nat → Int64) (w : Nat → Nat) (n : Nat) (hn : n ≤ 16) (hsz : I 76 2 = nI n) (hw : isP w) (M : Nat → Nat → Int) (hT : TB J n M) (hM : ∀ i j, i ≤ n → j ≤ n → -2 ^ 40 < M i j ∧ M i j < 2 ^ 40) (p : Int) (hpp : pm p) (p3 : p < 2 ^ 31) : SP m_Ba_clearTable [.ref 76, .long (zJ p)] (hp L I J w) (fun v h => ∃ (K : Nat → Nat → Int64) (w' : Nat → Nat), v = some (.long (zJ (det n M % p))) ∧ (∀ q, q < 114 ∨ 130 < q → K q = J q) ∧ isP w' ∧ (det n M % p ≠ 0 → ∃ x, K (w' n) n = zJ x ∧ 0 ≤ x ∧ x < p ∧ p ∣ det n M % p * x - det (n + 1) M) ∧ h = hp L I K w') := by
  have p1 := hpp.1
  unfold SP
  iterate 2 (refine WP.st rfl ?_)
  refine WP.call rfl rfl (sp_fillWork L I J w n hn hsz hw M hT hM p (by omega) p3) ?_
  rintro _ _ ⟨rfl, K0, k1, k2, rfl⟩
  iterate 7 (refine WP.st rfl ?_)
  refine WP.inv (fun c (σ : (Nat → Nat → Int64) × (Nat → Nat) × Int × Option Value) => (16, [some (.ref 76), some (.long (zJ p)), none, some (.long (zJ σ.2.2.1)), none, some (.int (nI c)), σ.2.2.2], [.int (I 76 2), .int (nI c)], hp L I σ.1 σ.2.1, 0, 0)) (fun c σ => (∀ q, q < 114 ∨ 130 < q → σ.1 q = J q) ∧ isP σ.2.1 ∧ ∃ W, WM σ.1 σ.2.1 n W ∧ clr_ok p n c M W σ.2.2.1) n (K0, w, 1, none) ⟨k1, hw, _, k2, clr_0 hpp n M⟩ (fun c σ hc hv kk => ?_) (fun σ hv => ?_)
  · obtain ⟨K, w1, d, o6⟩ := σ
    obtain ⟨v1, v2, W, v3, v4⟩ := hv
    dsimp only at v1 v2 v3 v4 ⊢
    refine WP.icf rfl (show ¬ I 76 2 ≤ nI c by rw [hsz]; exact nI_ge hc (by omega)) ?_
    iterate 2 (refine WP.st rfl ?_)
    refine WP.call rfl rfl (sp_findRow L I K w1 n c hn hc hsz v2 W v3 p p3 v4.1) ?_
    rintro _ _ ⟨rfl, x, rfl, hx⟩
    iterate 3 (refine WP.st rfl ?_)
    rcases hx with ⟨r, r1, r2, r3, rfl⟩ | ⟨r1, rfl⟩
    · refine WP.ict rfl (show ¬ nI r = -1 from fun z => by have := congrArg Int32.toInt z; rw [nI_zI, zI_int (by omega) (by omega)] at this; have e : (-1 : Int32).toInt = -1 := rfl; omega) ?_
      iterate 2 (refine WP.st rfl ?_)
      -- what is left when the row stands in its place
      have rest : ∀ (w2 : Nat → Nat) (W2 : Nat → Nat → Int) (d2 : Int), isP w2 → WM K w2 n W2 → clr_ok p n c M W2 d2 → W2 c c ≠ 0 → WP m_Ba_clearTable (54, [some (.ref 76), some (.long (zJ p)), none, some (.long (zJ d2)), none, some (.int (nI c)), some (.int (nI r))], [], hp L I K w2, 0, 0) (fun v h => ∃ (K : Nat → Nat → Int64) (w' : Nat → Nat), v = some (.long (zJ (det n M % p))) ∧ (∀ q, q < 114 ∨ 130 < q → K q = J q) ∧ isP w' ∧ (det n M % p ≠ 0 → ∃ x, K (w' n) n = zJ x ∧ 0 ≤ x ∧ x < p ∧ p ∣ det n M % p * x - det (n + 1) M) ∧ h = hp L I K w') := by
        intro w2 W2 d2 q1 q2 q3 q4
        have wc := wk_i (L := L) q1 (show c < 17 by omega)
        have rg := q3.1 c c (by omega) (by omega)
        have U0 : 0 ≤ d2 * W2 c c := Int.mul_nonneg (by have := q3.2.2.1; omega) rg.1
        have U1 : d2 * W2 c c ≤ (2 ^ 31 - 1) * (2 ^ 31 - 1) := Int.mul_le_mul (by have := q3.2.2.1; omega) (by omega) (by omega) (by omega)
        iterate 4 (refine WP.st rfl ?_)
        refine WP.aald (k := c) rfl (rfl) (Or.inr (Or.inr (Or.inr rfl))) (show c < 17 by omega) (rfl) (RR_w w2 (show c < 17 by omega)) ?_
        iterate 1 (refine WP.st rfl ?_)
        refine WP.lald (k := c) rfl (rfl) (Or.inl wc.1) (show c < LL L (w2 c) by rw [wc.2.1]; omega) (wc.2.2) ?_
        rw [show hJ (hp L I K w2) (w2 c) c = zJ (W2 c c) from q2 c c (by omega) (by omega)]
        iterate 1 (refine WP.st rfl ?_)
        rw [zJ_mul]
        iterate 1 (refine WP.st rfl ?_)
        refine WP.calle rfl rfl (ev_rem _ (d2 * W2 c c) p (by omega) (by omega) (by omega) (by omega)) ?_
        iterate 4 (refine WP.st rfl ?_)
        refine WP.call rfl rfl (sp_clearBelow L I K w2 n c hn hc hsz q1 M W2 d2 p hpp p3 q2 q3 q4) ?_
        rintro _ _ ⟨rfl, K2, V, e1, e2, e3, rfl⟩
        iterate 5 (refine WP.st rfl ?_)
        have kk2 := kk (K2, w2, d2 * W2 c c % p, some (.int (nI r))) ⟨fun q hq => (e1 q hq).trans (v1 q hq), q1, V, e2, clr_step hpp q3 hc q4 e3⟩
        rw [nI_succ c] at kk2
        exact kk2
      by_cases erc : r = c
      · subst erc
        refine WP.ict rfl (rfl) ?_
        exact rest w1 W d v2 v3 v4 r3
      · skip
        refine WP.icf rfl (fun z => erc ((nI_eq (by omega) (by omega)).mp z)) ?_
        iterate 3 (refine WP.st rfl ?_)
        refine WP.calle rfl rfl (ev_swapRows L I K w1 r c (by omega) (by omega) erc v2) ?_
        iterate 3 (refine WP.st rfl ?_)
        rw [zJ_sub]
        iterate 1 (refine WP.st rfl ?_)
        exact rest (wsw w1 r c) (sw W r c) (p - d) (wsw_P v2 (by omega) (by omega)) (wsw_WM v3 (by omega) (by omega) erc) (clr_sw v4 hc r2 (by omega)) (by show sw W r c c c ≠ 0; unfold sw; rw [if_neg (Ne.symm erc), if_pos rfl]; exact r3)
    · skip
      refine WP.icf rfl (fun z => z rfl) ?_
      iterate 1 (refine WP.st rfl ?_)
      have hd0 := clr_stuck v4 hc r1
      exact WP.ret rfl ⟨K, w1, by rw [hd0]; rfl, v1, v2, fun z => absurd hd0 z, rfl⟩
  · obtain ⟨K, w1, d, o6⟩ := σ
    obtain ⟨v1, v2, W, v3, v4⟩ := hv
    dsimp only at v1 v2 v3 v4 ⊢
    have he := clr_end hpp v4
    refine WP.ict rfl (show I 76 2 ≤ nI n by rw [hsz]; exact nI_le (Nat.le_refl _) (by omega)) ?_
    iterate 1 (refine WP.st rfl ?_)
    refine WP.ret rfl ⟨K, w1, by rw [he.1], v1, v2, fun _ => ⟨W n n, v3 n n (Nat.le_refl n) (Nat.le_refl n), (v4.1 n n (Nat.le_refl n) (Nat.le_refl n)).1, (v4.1 n n (Nat.le_refl n) (Nat.le_refl n)).2, ?_⟩, rfl⟩
    rw [← he.1]
    exact he.2
theorem pr_nd {p : Nat → Int} (hp : ∀ i, i < 4 → pm (p i)) (hne : ∀ i j, i < j → j < 4 → ¬ p j ∣ p i) : ∀ i, i < 4 → ∀ k, k ≤ i → ¬ p i ∣ pr p k
  | i, hi, 0, _ => fun z => by
    have := Int.eq_one_of_dvd_one (by have := (hp i hi).1; omega) z
    have := (hp i hi).1
    omega
  | i, hi, k + 1, hk => fun z => by
    rcases (hp i hi).2 _ _ (show p i ∣ pr p k * p k from z) with y | y
    · exact pr_nd hp hne i hi k (by omega) y
    · exact hne k i (by omega) hi y
/-- bounds of what stands above and below the fraction -/
theorem frac_bounds {n : Nat} {A : Nat → Nat → Int} {g v : Nat → Int} {s : Int} (hn : n ≤ 16) (hA : ∀ i, i < n → dt 16 (A i) (A i) ≤ 36) (hi : ind 16 n A) (hg : ∀ i, i < n → -14000 ≤ g i ∧ g i ≤ 14000) (hv : ∀ i, i < n → -14000 ≤ v i ∧ v i ≤ 14000) (hs : -1000 ≤ s ∧ s ≤ 1000) : 0 < det n (gm 16 A) ∧ det n (gm 16 A) ≤ 37 ^ 16 ∧ 4 * det (n + 1) (bd n (gm 16 A) g v s) < 2147483549 ^ 4 - 1 ∧ 4 * (- det (n + 1) (bd n (gm 16 A) g v s)) < 2147483549 ^ 4 - 1 := by
  have hS : srt n (fun i c => if c < 16 then A i c else 0) := fun i hi => ⟨by
    have := hA i hi
    rw [dt_congr (u' := A i) (v' := A i) (fun c hc => if_pos hc) (fun c hc => if_pos hc)]
    exact this, by show -2000 ≤ (if 16 < 16 then A i 16 else 0) ∧ (if 16 < 16 then A i 16 else 0) ≤ (2000 : Int); simp⟩
  have eG : ∀ i j, gm 16 (fun i c => if c < 16 then A i c else 0) i j = gm 16 A i j := fun i j => dt_congr (fun c hc => if_pos hc) (fun c hc => if_pos hc)
  have d0 : 0 < gd 16 n A := ind_gd hi
  have d1 : gd 16 n A ≤ 37 ^ n := by
    have := gd_16 hS
    unfold gd at this ⊢
    rw [det_congr n (N := gm 16 A) (fun i j _ _ => eG i j)] at this
    exact this
  have b1 := bf_int hS (u := g) (v := v) (U := 14000) (V := 14000) hg hv
  rw [bf_congr (G' := gm 16 A) (u' := g) (v' := v) (fun i j _ _ => eG i j) (fun _ _ => rfl) (fun _ _ => rfl)] at b1
  have e : det (n + 1) (bd n (gm 16 A) g v s) = bf n (gm 16 A) g v + s * gd 16 n A := bd_s n (gm 16 A) g v s
  have p37 : (37 : Int) ^ n ≤ 37 ^ 16 := by
    have : (37 : Nat) ^ n ≤ 37 ^ 16 := Nat.pow_le_pow_right (by omega) hn
    exact_mod_cast this
  have p0 : (0 : Int) ≤ 37 ^ n := Int.pow_nonneg (by decide)
  have z2 : (n : Int) * (14000 * (n * (14000 * 37 ^ n))) ≤ 16 * (14000 * (16 * (14000 * 37 ^ 16))) := by
    have e1 : (n : Int) * (14000 * 37 ^ n) ≤ 16 * (14000 * 37 ^ 16) := Int.mul_le_mul (by omega) (by omega) (by omega) (by omega)
    have e0 : 0 ≤ (n : Int) * (14000 * 37 ^ n) := Int.mul_nonneg (by omega) (by omega)
    exact Int.mul_le_mul (by omega) (by omega) (by omega) (by omega)
  have s1 : s * gd 16 n A ≤ 1000 * 37 ^ 16 := by
    have := Int.mul_nonneg (show 0 ≤ 1000 - s by omega) (Int.le_of_lt d0)
    rw [Int.sub_mul] at this
    omega
  have s2 : -(1000 * 37 ^ 16) ≤ s * gd 16 n A := by
    have := Int.mul_nonneg (show 0 ≤ 1000 + s by omega) (Int.le_of_lt d0)
    rw [Int.add_mul] at this
    omega
  have c4 : (2147483549 : Int) ^ 4 = 21267644010764880705175866920184430801 := by decide
  have c37 : (37 : Int) ^ 16 = 12337511914217166362274241 := by decide
  refine ⟨d0, ?_, ?_, ?_⟩
  · show gd 16 n A ≤ _
    omega
  · rw [e]; omega
  · rw [e]; omega
