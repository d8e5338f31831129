/-! Joiner -/
def pr (p : Nat → Int) : Nat → Int
  | 0 => 1
  | n + 1 => pr p n * p n
def vl (p d : Nat → Int) : Nat → Int
  | 0 => 0
  | n + 1 => vl p d n + d n * pr p n
theorem vl_congr {p d d' : Nat → Int} : ∀ n, (∀ k, k < n → d k = d' k) → vl p d n = vl p d' n
  | 0, _ => rfl
  | n + 1, h => by
    show vl p d n + d n * pr p n = vl p d' n + d' n * pr p n
    rw [vl_congr n (fun k hk => h k (by omega)), h n (by omega)]
theorem emod_mul_l (a b p : Int) : a % p * b % p = a * b % p := by rw [Int.mul_emod, Int.emod_emod, ← Int.mul_emod]
theorem emod_ma (a b c p : Int) : (a % p * b + c) % p = (a * b + c) % p := by
  rw [Int.add_emod, emod_mul_l, ← Int.add_emod]
theorem nI_m1 (m : Nat) : nI (m + 1) - 1 = nI m := by
  rw [nI_succ]
  show nI m + 1 - 1 = nI m
  rw [Int32.add_sub_cancel]
def dr (J : Nat → Nat → Int64) (d : Nat → Int) (i : Nat) : Nat → Nat → Int64 := mm_row J 140 (fun k => if k < i then zJ (d k) else J 140 k)
theorem dr_off (J : Nat → Nat → Int64) (d : Nat → Int) (i : Nat) {c : Nat} (h : c ≠ 140) (k : Nat) : dr J d i c k = J c k := mm_row_off J _ k h
theorem dr_at (J : Nat → Nat → Int64) (d : Nat → Int) (i k : Nat) (h : k < i) : dr J d i 140 k = zJ (d k) := (mm_row_at J 140 _ k).trans (if_pos h)
theorem dr_s (J : Nat → Nat → Int64) (d : Nat → Int) (i : Nat) (v : Int) : mm_up (dr J d i) 140 i (zJ v) = dr J (fun j => if j = i then v else d j) (i + 1) := by
  unfold dr
  rw [mm_row_up]
  apply mm_row_congr
  intro j
  dsimp only
  by_cases hj : j = i
  · subst hj; rw [if_pos rfl, if_pos (by omega), if_pos rfl]
  · rw [if_neg hj]
    by_cases h2 : j < i
    · rw [if_pos h2, if_pos (by omega), if_neg hj]
    · rw [if_neg h2, if_neg (by omega)]
theorem nI_sub1 (m : Nat) : nI m - 1 = nI m + Int32.ofInt (-1) := Int32.sub_eq_add_neg _ _
theorem zJ_i1 : (1 : Int32).toInt64 = zJ 1 := by decide
theorem zJ_im1 : (-1 : Int32).toInt64 = zJ (-1) := by decide
set_option maxHeartbeats 4000000 in
set_option maxRecDepth 20000 in
theorem sp_findDigits (L : Nat) (I : Nat → Nat → Int32) (J : Nat → Nat → Int64) (w : Nat → Nat) (a : Nat) (ka : KK a = 10) (la : hp_l.getD a 0 = 4) (a0 : a ≠ 0) (a1 : a ≠ 140) (p x : Nat → Int) (hP : ∀ i, i < 4 → J 131 i = zJ (p i) ∧ 2 ≤ p i ∧ p i < 2 ^ 31) (hX : ∀ i, i < 4 → J a i = zJ (x i) ∧ 0 ≤ x i ∧ x i < p i) (sd : Int32) (s : Int) (hs : sd.toInt64 = zJ s) (hs1 : s = 1 ∨ s = -1) (hc : ∀ i, i < 4 → Int.gcd (pr p i) (p i) = 1) : SP m_Jo_findDigits [.ref 139, .ref a, .ref 131, .int sd] (hp L I J w) (fun r h => r = none ∧ ∃ d : Nat → Int, (∀ i, i < 4 → 0 ≤ d i ∧ d i < p i ∧ (vl p d (i + 1) - s * x i) % p i = 0) ∧ h = hp L I (dr J d 4) w) := by
  have hla : LL L a = 4 := (if_neg a0).trans la
  have hbl : Nat.ble (LL L a) 2560 = true := by rw [hla]; rfl
  unfold SP
  iterate 4 (refine WP.st rfl ?_)
  have e0 : J = dr J (fun _ => 0) 0 := by
    unfold dr
    rw [show (fun k => if k < 0 then zJ ((fun _ => 0 : Nat → Int) k) else J 140 k) = J 140 from funext fun j => if_neg (Nat.not_lt_zero j), mm_row_self]
  have key := WP.inv (mid := m_Jo_findDigits) (Q := fun r h => r = none ∧ ∃ d : Nat → Int, (∀ i, i < 4 → 0 ≤ d i ∧ d i < p i ∧ (vl p d (i + 1) - s * x i) % p i = 0) ∧ h = hp L I (dr J d 4) w) (fun i (σ : (Nat → Int) × (Nat → Option Value)) => (6, [some (.ref 139), some (.ref a), some (.ref 131), some (.int sd), some (.int (nI i)), σ.2 5, σ.2 6, σ.2 7, σ.2 8, σ.2 9, σ.2 10, σ.2 11, σ.2 12], [.int (nI 4), .int (nI i)], hp L I (dr J σ.1 i) w, 0, 0)) (fun i σ => ∀ k, k < i → 0 ≤ σ.1 k ∧ σ.1 k < p k ∧ (vl p σ.1 (k + 1) - s * x k) % p k = 0) 4 ((fun _ => 0), fun _ => none) (fun k hk => absurd hk (Nat.not_lt_zero k)) (fun i σ hi hI kk => ?_) (fun σ hI => ?_)
  · rw [← e0] at key
    exact key
  · obtain ⟨d, f⟩ := σ
    dsimp only at hI kk ⊢
    obtain ⟨p1, p2, p3⟩ := hP i hi
    refine WP.icf rfl (nI_ge hi (by omega)) ?_
    iterate 2 (refine WP.st rfl ?_)
    refine WP.lald (k := i) rfl (rfl) (Or.inl rfl) (show i < 4 by omega) (rfl) ?_
    rw [show hJ (hp L I (dr J d i) w) 131 i = zJ (p i) from (dr_off J d i (by decide) i).trans p1]
    iterate 10 (refine WP.st rfl ?_)
    refine WP.down (fun m (σ : Int × Int) => (29, [some (.ref 139), some (.ref a), some (.ref 131), some (.int sd), some (.int (nI i)), some (.long (zJ (p i))), none, some (.long (zJ σ.1)), none, some (.long (zJ σ.2)), none, some (.int (nI m - 1)), f 12], [.int (nI m - 1)], hp L I (dr J d i) w, 0, 0)) (fun m σ => ∃ K W : Int, σ.1 = K % p i ∧ σ.2 = W % p i ∧ vl p d i = vl p d m + pr p m * K ∧ pr p i = pr p m * W) i (0, 1) ⟨0, 1, by simp, (Int.emod_eq_of_lt (by omega) (by omega)).symm, by simp, by simp⟩ (fun m σ hm hI2 k2 => ?_) (fun σ hI2 => ?_)
    · obtain ⟨q1, q2, q3⟩ := hP m (by omega)
      obtain ⟨r1, r2, r3⟩ := hI m (by omega)
      obtain ⟨k1, w1⟩ := σ
      dsimp only at hI2 k2 ⊢
      obtain ⟨K, W, rfl, rfl, hI2⟩ := hI2
      have K0 := Int.emod_nonneg K (show p i ≠ 0 by omega)
      have K1 := Int.emod_lt_of_pos K (show 0 < p i by omega)
      have W0 := Int.emod_nonneg W (show p i ≠ 0 by omega)
      have W1 := Int.emod_lt_of_pos W (show 0 < p i by omega)
      have K2 : 0 ≤ K % p i * p m := Int.mul_nonneg K0 (by omega)
      have K3 : K % p i * p m ≤ (2 ^ 31 - 2) * (2 ^ 31 - 1) := Int.mul_le_mul (by omega) (by omega) (by omega) (by omega)
      have W2 : 0 ≤ W % p i * p m := Int.mul_nonneg W0 (by omega)
      have W3 : W % p i * p m ≤ (2 ^ 31 - 2) * (2 ^ 31 - 1) := Int.mul_le_mul (by omega) (by omega) (by omega) (by omega)
      rw [nI_m1]
      rw [nI_sub1] at k2
      refine WP.iff rfl (nI_pos (by omega)) ?_
      iterate 3 (refine WP.st rfl ?_)
      refine WP.lald (k := m) rfl (rfl) (Or.inl rfl) (show m < 4 by omega) (rfl) ?_
      rw [show hJ (hp L I (dr J d i) w) 131 m = zJ (p m) from (dr_off J d i (by decide) m).trans q1]
      iterate 4 (refine WP.st rfl ?_)
      refine WP.lald (k := m) rfl (rfl) (Or.inl rfl) (show m < 4 by omega) (rfl) ?_
      rw [show hJ (hp L I (dr J d i) w) 140 m = zJ (d m) from dr_at J d i m hm]
      rw [zJ_mul]
      iterate 1 (refine WP.st rfl ?_)
      rw [zJ_add]
      iterate 1 (refine WP.st rfl ?_)
      refine WP.calle rfl rfl (ev_rem _ (K % p i * p m + d m) (p i) p2 (by omega) (by omega) (by omega)) ?_
      rw [emod_ma]
      iterate 4 (refine WP.st rfl ?_)
      refine WP.lald (k := m) rfl (rfl) (Or.inl rfl) (show m < 4 by omega) (rfl) ?_
      rw [show hJ (hp L I (dr J d i) w) 131 m = zJ (p m) from (dr_off J d i (by decide) m).trans q1]
      iterate 1 (refine WP.st rfl ?_)
      rw [zJ_mul]
      iterate 1 (refine WP.st rfl ?_)
      refine WP.calle rfl rfl (ev_rem _ (W % p i * p m) (p i) p2 (by omega) (by omega) (by omega)) ?_
      rw [emod_mul_l]
      iterate 4 (refine WP.st rfl ?_)
      refine k2 ((K * p m + d m) % p i, W * p m % p i) ⟨K * p m + d m, W * p m, rfl, rfl, ?_, ?_⟩
      · rw [hI2.1]
        show vl p d m + d m * pr p m + pr p m * p m * K = _
        grind
      · rw [hI2.2]
        show pr p m * p m * W = _
        grind
    · obtain ⟨k1, w1⟩ := σ
      dsimp only at hI2 ⊢
      obtain ⟨K, W, rfl, rfl, hI2⟩ := hI2
      have eK : K = vl p d i := by have := hI2.1; simp [vl, pr] at this; omega
      have eW : W = pr p i := by have := hI2.2; simp [pr] at this; omega
      subst eK
      subst eW
      obtain ⟨x1, x2, x3⟩ := hX i hi
      have K0 := Int.emod_nonneg (vl p d i) (show p i ≠ 0 by omega)
      have K1 := Int.emod_lt_of_pos (vl p d i) (show 0 < p i by omega)
      have W0 := Int.emod_nonneg (pr p i) (show p i ≠ 0 by omega)
      have W1 := Int.emod_lt_of_pos (pr p i) (show 0 < p i by omega)
      have hg : Int.gcd (pr p i % p i) (p i) = 1 := by rw [Int.emod_def, Int.gcd_sub_mul_left_left]; exact hc i hi
      have W4 : 0 < pr p i % p i := by
        rcases Int.lt_or_eq_of_le W0 with h | h
        · exact h
        · rw [← h, Int.gcd_zero_left] at hg
          omega
      obtain ⟨u, u0, u1, ⟨c, hcu⟩, hev⟩ := ev_inv (hp L I (dr J d i) w) (pr p i % p i) (p i) W4 W1 p3 hg
      have sx : -(2 ^ 31) < s * x i ∧ s * x i < 2 ^ 31 := by rcases hs1 with rfl | rfl <;> omega
      have M0 := Int.emod_nonneg (s * x i - vl p d i % p i) (show p i ≠ 0 by omega)
      have M1 := Int.emod_lt_of_pos (s * x i - vl p d i % p i) (show 0 < p i by omega)
      refine WP.ift rfl (show nI 0 - 1 < 0 by decide) ?_
      iterate 4 (refine WP.st rfl ?_)
      refine WP.lald (k := i) rfl (rfl) (Or.inl ka) (show i < LL L a by omega) (hbl) ?_
      rw [show hJ (hp L I (dr J d i) w) a i = zJ (x i) from (dr_off J d i a1 i).trans x1]
      iterate 1 (refine WP.st rfl ?_)
      rw [hs, zJ_mul]
      iterate 2 (refine WP.st rfl ?_)
      rw [zJ_sub]
      iterate 1 (refine WP.st rfl ?_)
      refine WP.calle rfl rfl (ev_rem _ (s * x i - vl p d i % p i) (p i) p2 (by omega) (by omega) (by omega)) ?_
      generalize hM : (s * x i - vl p d i % p i) % p i = M at M0 M1 ⊢
      have U2 : 0 ≤ M * u := Int.mul_nonneg M0 u0
      have U3 : M * u ≤ (2 ^ 31 - 2) * (2 ^ 31 - 1) := Int.mul_le_mul (by omega) (by omega) (by omega) (by omega)
      iterate 7 (refine WP.st rfl ?_)
      refine WP.calle rfl rfl (hev) ?_
      iterate 1 (refine WP.st rfl ?_)
      rw [zJ_mul]
      iterate 1 (refine WP.st rfl ?_)
      refine WP.calle rfl rfl (ev_rem _ (M * u) (p i) p2 (by omega) (by omega) (by omega)) ?_
      have D0 := Int.emod_nonneg (M * u) (show p i ≠ 0 by omega)
      have D1 := Int.emod_lt_of_pos (M * u) (show 0 < p i by omega)
      refine WP.last (k := i) rfl (rfl) (rfl) (show i < 4 by omega) (rfl) ?_
      iterate 4 (refine WP.st rfl ?_)
      have e1 := dr_s J d i (M * u % p i)
      have kk2 := kk ((fun j => if j = i then M * u % p i else d j), fun q => if q = 5 then some (.long (zJ (p i))) else if q = 7 then some (.long (zJ (vl p d i % p i))) else if q = 9 then some (.long (zJ (pr p i % p i))) else if q = 11 then some (.long (zJ M)) else none) ?_
      · rw [nI_succ] at kk2
        dsimp only at kk2
        rw [← e1] at kk2
        exact kk2
      · dsimp only
        intro k hk
        by_cases hki : k = i
        · subst hki
          rw [if_pos rfl]
          refine ⟨D0, D1, ?_⟩
          have ev : vl p (fun j => if j = k then M * u % p k else d j) (k + 1) = vl p d k + M * u % p k * pr p k := by
            show vl p (fun j => if j = k then M * u % p k else d j) k + (if k = k then M * u % p k else d k) * pr p k = _
            rw [vl_congr (d' := d) k (fun j hj => if_neg (by omega)), if_pos rfl]
          rw [ev]
          have a1 := Int.mul_ediv_add_emod (M * u) (p k)
          have a2 := Int.mul_ediv_add_emod (pr p k) (p k)
          have a3 := Int.mul_ediv_add_emod (s * x k - vl p d k % p k) (p k)
          have a4 := Int.mul_ediv_add_emod (vl p d k) (p k)
          rw [hM] at a3
          apply Int.emod_eq_zero_of_dvd
          generalize (M * u) / p k = t1 at *
          generalize (M * u) % p k = t2 at *
          generalize (pr p k) / p k = t3 at *
          generalize (pr p k) % p k = t4 at *
          generalize (s * x k - vl p d k % p k) / p k = t5 at *
          generalize (vl p d k) / p k = t6 at *
          generalize (vl p d k) % p k = t7 at *
          refine ⟨t6 - t1 * pr p k + M * u * t3 + M * c - t5, ?_⟩
          grind
        · rw [if_neg hki]
          have ev : vl p (fun j => if j = i then M * u % p i else d j) (k + 1) = vl p d (k + 1) := vl_congr (k + 1) (fun j hj => if_neg (by omega))
          rw [ev]
          exact hI k (by omega)
  · skip
    refine WP.ict rfl (nI_le (Nat.le_refl _) (by omega)) ?_
    exact WP.ret rfl ⟨rfl, σ.1, hI, rfl⟩
