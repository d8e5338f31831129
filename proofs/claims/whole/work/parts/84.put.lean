/-! the reference: putTogether -/
theorem pr_ndN {p : Nat → Int} {n : Nat} (hp : ∀ i, i < n → pm (p i)) (hne : ∀ i j, i < j → j < n → ¬ p j ∣ p i) : ∀ i, i < n → ∀ k, k ≤ i → ¬ p i ∣ pr p k
  | i, hi, 0, _ => fun z => by
    have := Int.eq_one_of_dvd_one (by have := (hp i hi).1; omega) z
    have := (hp i hi).1
    omega
  | i, hi, k + 1, hk => fun z => by
    rcases (hp i hi).2 _ _ (show p i ∣ pr p k * p k from z) with y | y
    · exact pr_ndN hp hne i hi k (by omega) y
    · exact hne k i (by omega) hi y
/-- the reference's inverse -/
theorem inv_pow {p : Nat} (hp : pm (p : Int)) {b : Int} (h : ¬ (p : Int) ∣ b) : (p : Int) ∣ b * (b % p) ^ (p - 2) - 1 := by
  have p1 := hp.1
  have b0 := Int.emod_nonneg b (show (p : Int) ≠ 0 by omega)
  obtain ⟨a, ha⟩ : ∃ a : Nat, b % p = a := ⟨(b % p).toNat, by omega⟩
  have hn : ¬ (p : Int) ∣ (a : Int) := fun z => h (by rw [← ha] at z; exact Int.dvd_of_emod_eq_zero (by rw [← Int.emod_emod_of_dvd b (Int.dvd_refl _)]; exact Int.emod_eq_zero_of_dvd z))
  obtain ⟨z, hz⟩ := frm hp hn
  obtain ⟨y, hy⟩ := Int.dvd_self_sub_emod (x := b) (m := (p : Int))
  rw [ha] at hy ⊢
  exact ⟨z + y * (a : Int) ^ (p - 2), by grind⟩
/-- the digit found -/
theorem dig_ok {p : Nat} (hp : pm (p : Int)) {x u b : Int} (h : ¬ (p : Int) ∣ b) : (p : Int) ∣ u + ((x - u) % p * ((b % p) ^ (p - 2) % p) % p) * b - x := by
  obtain ⟨z, hz⟩ := inv_pow hp h
  obtain ⟨y1, h1⟩ := Int.dvd_self_sub_emod (x := x - u) (m := (p : Int))
  obtain ⟨y2, h2⟩ := Int.dvd_self_sub_emod (x := (b % p) ^ (p - 2)) (m := (p : Int))
  obtain ⟨y3, h3⟩ := Int.dvd_self_sub_emod (x := (x - u) % p * ((b % p) ^ (p - 2) % p)) (m := (p : Int))
  generalize (x - u) % p * ((b % p) ^ (p - 2) % p) % p = D at *
  generalize (b % p) ^ (p - 2) % p = E at *
  generalize (b % p) ^ (p - 2) = F at *
  generalize (x - u) % p = G at *
  refine ⟨(x - u) * z - y1 * F * b - G * y2 * b - y3 * b, ?_⟩
  grind
def HN (p d : Nat → Nat) (n : Nat) : Nat → Nat
  | 0 => 0
  | k + 1 => HN p d n k * p (n - (k + 1)) + d (n - (k + 1))
def HQ (p : Nat → Nat) (n : Nat) : Nat → Nat
  | 0 => 1
  | k + 1 => HQ p n k * p (n - (k + 1))
theorem HN_c (p d : Nat → Nat) (n : Nat) : ∀ k, (HN p d n k : Int) = hn (fun i => (p i : Int)) (fun i => (d i : Int)) n k ∧ (HQ p n k : Int) = hq (fun i => (p i : Int)) n k
  | 0 => ⟨rfl, rfl⟩
  | k + 1 => by
    obtain ⟨a, b⟩ := HN_c p d n k
    show ((HN p d n k * p (n - (k + 1)) + d (n - (k + 1)) : Nat) : Int) = hn _ _ n k * _ + _ ∧ ((HQ p n k * p (n - (k + 1)) : Nat) : Int) = hq _ n k * _
    rw [← a, ← b]
    exact ⟨by push_cast; rfl, by push_cast; rfl⟩
/-- the primes that are used -/
def PR5 (I : Nat → Nat → Int32) (pn : Nat → Nat) : Prop := (∀ i, i < 5 → I 219 i = nI (pn i) ∧ pm (pn i : Int) ∧ pn i < 2 ^ 30) ∧ ∀ i j, i < j → j < 5 → ¬ (pn j : Int) ∣ (pn i : Int)
set_option maxHeartbeats 4000000 in
set_option maxRecDepth 20000 in
theorem sp_put (L : Nat) (I : Nat → Nat → Int32) (J : Nat → Nat → Int64) (w : Nat → Nat) (ra a : Nat) (hra : ra = 224 ∨ ra = 225) (ha : a < 2) (pn : Nat → Nat) (hP : PR5 I pn) (X : Int) (hX : ∀ i, i < 5 → J ra i = zJ (X % pn i)) (hb : 2 * X < pr (fun i => (pn i : Int)) 5 ∧ -(2 * X) < pr (fun i => (pn i : Int)) 5) : SP m_Mo_putTogether [.ref 208, .ref ra, .int (nI a)] (hp L I J w) (fun v h => v = some (.int (sg X)) ∧ ∃ K : Nat → Nat → Int64, (∀ c, c ≠ 226 → c ≠ 227 → K c = J c) ∧ (∀ r U, r < 2 → r ≠ a → zv J r U → zv K r U) ∧ zv K a X.natAbs ∧ h = hp L I K w) := by
  obtain ⟨hP, hne⟩ := hP
  have hnd := pr_ndN (p := fun i => (pn i : Int)) (n := 5) (fun i hi => (hP i hi).2.1) hne
  have kra : KK ra = 10 ∧ LL L ra = 7 := by rcases hra with rfl | rfl <;> exact ⟨rfl, rfl⟩
  have bra : Nat.ble (LL L ra) 2560 = true := by rw [kra.2]; rfl
  unfold SP
  iterate 4 (refine WP.st rfl ?_)
  refine WP.inv (fun i (σ : (Nat → Nat → Int64) × (Nat → Option Value)) => (4, [some (.ref 208), some (.ref ra), some (.int (nI a)), some (.int (nI i)), σ.2 4, none, σ.2 6, none, σ.2 8, none, σ.2 10], [.int (nI 5), .int (nI i)], hp L I σ.1 w, 0, 0)) (fun i σ => (∀ c, c ≠ 226 → σ.1 c = J c) ∧ ∃ d : Nat → Int, ∀ k, k < i → σ.1 226 k = zJ (d k) ∧ 0 ≤ d k ∧ d k < pn k ∧ (pn k : Int) ∣ vl (fun i => (pn i : Int)) d (k + 1) - X) 5 (J, fun _ => none) ⟨fun _ _ => rfl, fun _ => 0, fun k hk => absurd hk (Nat.not_lt_zero k)⟩ (fun i σ hi hv kk => ?_) (fun σ hv => ?_)
  · obtain ⟨K, f⟩ := σ
    obtain ⟨v1, d, v2⟩ := hv
    dsimp only at v1 v2 ⊢
    obtain ⟨p1, p2, p3⟩ := hP i hi
    have p4 := p2.1
    have zp : (nI (pn i)).toInt64 = zJ (pn i : Int) := by rw [nI_zI]; exact zI_l (by omega) (by omega)
    have pz : ¬ zJ (pn i : Int) = 0 := fun z => by have := (zJ_eq (a := (pn i : Int)) (b := 0) (by omega) (by omega) (by omega) (by omega)).mp z; omega
    refine WP.icf rfl (nI_ge hi (by omega)) ?_
    iterate 3 (refine WP.st rfl ?_)
    refine WP.iald (k := i) rfl (rfl) (Or.inl rfl) (show i < 7 by omega) (rfl) ?_
    rw [show hI (hp L I K w) 219 i = nI (pn i) from p1]
    iterate 1 (refine WP.st rfl ?_)
    rw [zp]
    iterate 3 (refine WP.st rfl ?_)
    refine WP.lald (k := i) rfl (rfl) (Or.inl kra.1) (show i < LL L ra by rw [kra.2]; omega) (bra) ?_
    rw [show hJ (hp L I K w) ra i = zJ (X % pn i) from (congrFun (v1 ra (by omega)) i).trans (hX i hi)]
    iterate 7 (refine WP.st rfl ?_)
    have key := WP.inv (mid := m_Mo_putTogether) (Q := fun v h => v = some (.int (sg X)) ∧ ∃ K : Nat → Nat → Int64, (∀ c, c ≠ 226 → c ≠ 227 → K c = J c) ∧ (∀ r U, r < 2 → r ≠ a → zv J r U → zv K r U) ∧ zv K a X.natAbs ∧ h = hp L I K w) (fun k (_ : Unit) => (30, [some (.ref 208), some (.ref ra), some (.int (nI a)), some (.int (nI i)), some (.long (zJ (pn i : Int))), none, some (.long (zJ ((X - vl (fun i => (pn i : Int)) d k) % pn i))), none, some (.long (zJ (pr (fun i => (pn i : Int)) k % pn i))), none, some (.int (nI k))], [.int (nI i), .int (nI k)], hp L I K w, 0, 0)) (fun _ _ => True) i () trivial (fun k _ hk _ k2 => ?_) (fun _ _ => ?_)
    · rw [show (X - vl (fun i => (pn i : Int)) d 0) = X from Int.sub_zero X, show pr (fun i => (pn i : Int)) 0 % (pn i : Int) = 1 from (show (1 : Int) % (pn i : Int) = 1 from Int.emod_eq_of_lt (by decide) (by omega))] at key
      exact key
    · obtain ⟨q1, q2, q3⟩ := hP k (by omega)
      have q4 := q2.1
      obtain ⟨r1, r2, r3, r4⟩ := v2 k hk
      have B0 := Int.emod_nonneg (pr (fun i => (pn i : Int)) k) (show (pn i : Int) ≠ 0 by omega)
      have B1 := Int.emod_lt_of_pos (pr (fun i => (pn i : Int)) k) (show (0 : Int) < pn i by omega)
      have V0 := Int.emod_nonneg (X - vl (fun i => (pn i : Int)) d k) (show (pn i : Int) ≠ 0 by omega)
      have V1 := Int.emod_lt_of_pos (X - vl (fun i => (pn i : Int)) d k) (show (0 : Int) < pn i by omega)
      have M0 : 0 ≤ d k * (pr (fun i => (pn i : Int)) k % pn i) := Int.mul_nonneg r2 B0
      have M1 : d k * (pr (fun i => (pn i : Int)) k % pn i) ≤ (2 ^ 30 - 1) * (2 ^ 30 - 1) := Int.mul_le_mul (by omega) (by omega) (by omega) (by omega)
      have N0 : 0 ≤ pr (fun i => (pn i : Int)) k % pn i * pn k := Int.mul_nonneg B0 (by omega)
      have N1 : pr (fun i => (pn i : Int)) k % pn i * pn k ≤ (2 ^ 30 - 1) * (2 ^ 30 - 1) := Int.mul_le_mul (by omega) (by omega) (by omega) (by omega)
      have R0 := Int.emod_nonneg (d k * (pr (fun i => (pn i : Int)) k % pn i)) (show (pn i : Int) ≠ 0 by omega)
      have R1 := Int.emod_lt_of_pos (d k * (pr (fun i => (pn i : Int)) k % pn i)) (show (0 : Int) < pn i by omega)
      have zq : (nI (pn k)).toInt64 = zJ (pn k : Int) := by rw [nI_zI]; exact zI_l (by omega) (by omega)
      refine WP.icf rfl (nI_ge hk (by omega)) ?_
      iterate 4 (refine WP.st rfl ?_)
      refine WP.lald (k := k) rfl (rfl) (Or.inl rfl) (show k < 5 by omega) (rfl) ?_
      rw [show hJ (hp L I K w) 226 k = zJ (d k) from r1]
      iterate 2 (refine WP.st rfl ?_)
      rw [zJ_mul]
      iterate 1 (refine WP.st rfl ?_)
      refine WP.lrem rfl (pz) ?_
      rw [zJ_remp M0 (by omega) (by omega) (by omega)]
      iterate 1 (refine WP.st rfl ?_)
      rw [zJ_sub]
      iterate 1 (refine WP.st rfl ?_)
      refine WP.calle rfl rfl (ev_rest _ ((X - vl (fun i => (pn i : Int)) d k) % pn i - d k * (pr (fun i => (pn i : Int)) k % pn i) % pn i) (pn i) (by omega) (by omega) (by omega) (by omega)) ?_
      rw [show ((X - vl (fun i => (pn i : Int)) d k) % pn i - d k * (pr (fun i => (pn i : Int)) k % pn i) % pn i) % (pn i : Int) = (X - vl (fun i => (pn i : Int)) d (k + 1)) % pn i from by
        apply emod_dvd
        obtain ⟨y1, h1⟩ := Int.dvd_self_sub_emod (x := X - vl (fun i => (pn i : Int)) d k) (m := (pn i : Int))
        obtain ⟨y2, h2⟩ := Int.dvd_self_sub_emod (x := d k * (pr (fun i => (pn i : Int)) k % pn i)) (m := (pn i : Int))
        obtain ⟨y3, h3⟩ := Int.dvd_self_sub_emod (x := pr (fun i => (pn i : Int)) k) (m := (pn i : Int))
        have e : vl (fun i => (pn i : Int)) d (k + 1) = vl (fun i => (pn i : Int)) d k + d k * pr (fun i => (pn i : Int)) k := rfl
        rw [e]
        generalize (X - vl (fun i => (pn i : Int)) d k) % pn i = G1 at *
        generalize d k * (pr (fun i => (pn i : Int)) k % pn i) % pn i = G2 at *
        generalize pr (fun i => (pn i : Int)) k % pn i = G3 at *
        exact ⟨- y1 + y2 + d k * y3, by grind⟩]
      iterate 5 (refine WP.st rfl ?_)
      refine WP.iald (k := k) rfl (rfl) (Or.inl rfl) (show k < 7 by omega) (rfl) ?_
      rw [show hI (hp L I K w) 219 k = nI (pn k) from q1]
      iterate 1 (refine WP.st rfl ?_)
      rw [zq]
      iterate 1 (refine WP.st rfl ?_)
      rw [zJ_mul]
      iterate 1 (refine WP.st rfl ?_)
      refine WP.lrem rfl (pz) ?_
      rw [zJ_remp N0 (by omega) (by omega) (by omega), emod_mul_l]
      iterate 5 (refine WP.st rfl ?_)
      have k3 := k2 () trivial
      rw [nI_succ k] at k3
      exact k3
    · have B0 := Int.emod_nonneg (pr (fun i => (pn i : Int)) i) (show (pn i : Int) ≠ 0 by omega)
      have B1 := Int.emod_lt_of_pos (pr (fun i => (pn i : Int)) i) (show (0 : Int) < pn i by omega)
      have V0 := Int.emod_nonneg (X - vl (fun i => (pn i : Int)) d i) (show (pn i : Int) ≠ 0 by omega)
      have V1 := Int.emod_lt_of_pos (X - vl (fun i => (pn i : Int)) d i) (show (0 : Int) < pn i by omega)
      have W0 := Int.emod_nonneg ((pr (fun i => (pn i : Int)) i % pn i) ^ (pn i - 2)) (show (pn i : Int) ≠ 0 by omega)
      have W1 := Int.emod_lt_of_pos ((pr (fun i => (pn i : Int)) i % pn i) ^ (pn i - 2)) (show (0 : Int) < pn i by omega)
      have M0 : 0 ≤ (X - vl (fun i => (pn i : Int)) d i) % pn i * ((pr (fun i => (pn i : Int)) i % pn i) ^ (pn i - 2) % pn i) := Int.mul_nonneg V0 W0
      have M1 : (X - vl (fun i => (pn i : Int)) d i) % pn i * ((pr (fun i => (pn i : Int)) i % pn i) ^ (pn i - 2) % pn i) ≤ (2 ^ 30 - 1) * (2 ^ 30 - 1) := Int.mul_le_mul (by omega) (by omega) (by omega) (by omega)
      refine WP.ict rfl (nI_le (Nat.le_refl _) (by omega)) ?_
      iterate 8 (refine WP.st rfl ?_)
      refine WP.iald (k := i) rfl (rfl) (Or.inl rfl) (show i < 7 by omega) (rfl) ?_
      rw [show hI (hp L I K w) 219 i = nI (pn i) from p1]
      iterate 2 (refine WP.st rfl ?_)
      rw [show (nI (pn i) - Int32.ofInt 2 : Int32) = nI (pn i - 2) from pk_sub (a := pn i) (b := 2) (by omega)]
      iterate 1 (refine WP.st rfl ?_)
      refine WP.calle rfl rfl (ev_power _ (pr (fun i => (pn i : Int)) i % pn i) (pn i - 2) (pn i) (by omega) (by omega) (by omega) B0 B1) ?_
      iterate 1 (refine WP.st rfl ?_)
      rw [zJ_mul]
      iterate 1 (refine WP.st rfl ?_)
      refine WP.lrem rfl (pz) ?_
      rw [zJ_remp M0 (by omega) (by omega) (by omega)]
      refine WP.last (k := i) rfl (rfl) (rfl) (show i < 5 by omega) (rfl) ?_
      iterate 4 (refine WP.st rfl ?_)
      have ok := dig_ok p2 (x := X) (u := vl (fun i => (pn i : Int)) d i) (hnd i hi i (Nat.le_refl i))
      have D0 := Int.emod_nonneg ((X - vl (fun i => (pn i : Int)) d i) % pn i * ((pr (fun i => (pn i : Int)) i % pn i) ^ (pn i - 2) % pn i)) (show (pn i : Int) ≠ 0 by omega)
      have D1 := Int.emod_lt_of_pos ((X - vl (fun i => (pn i : Int)) d i) % pn i * ((pr (fun i => (pn i : Int)) i % pn i) ^ (pn i - 2) % pn i)) (show (0 : Int) < pn i by omega)
      generalize (X - vl (fun i => (pn i : Int)) d i) % pn i * ((pr (fun i => (pn i : Int)) i % pn i) ^ (pn i - 2) % pn i) % pn i = Dg at ok D0 D1 ⊢
      have kk2 := kk (mm_up K 226 i (zJ Dg), fun q => if q = 4 then some (.long (zJ (pn i : Int))) else if q = 6 then some (.long (zJ ((X - vl (fun i => (pn i : Int)) d i) % pn i))) else if q = 8 then some (.long (zJ (pr (fun i => (pn i : Int)) i % pn i))) else some (.int (nI i))) ⟨fun c hc => (up_ne K _ hc).trans (v1 c hc), fun j => if j = i then Dg else d j, fun k hk => ?_⟩
      · rw [nI_succ i] at kk2
        exact kk2
      · dsimp only
        by_cases e : k = i
        · subst e
          rw [if_pos rfl]
          refine ⟨mm_up_at K _ _ _, D0, D1, ?_⟩
          show (pn k : Int) ∣ vl _ _ k + (if k = k then Dg else d k) * pr (fun i => (pn i : Int)) k - X
          rw [if_pos rfl, vl_congr (d' := d) k (fun j hj => if_neg (by omega))]
          exact ok
        · rw [if_neg e, vl_congr (d' := d) (k + 1) (fun j hj => if_neg (by omega))]
          refine ⟨(up_nk K _ e).trans (v2 k (by omega)).1, (v2 k (by omega)).2⟩
  · obtain ⟨K, f⟩ := σ
    obtain ⟨v1, d, v2⟩ := hv
    dsimp only at v1 v2 ⊢
    have hcop : ∀ i, i < 5 → Int.gcd (pr (fun i => (pn i : Int)) i) (pn i : Int) = 1 := fun i hi => pm_gcd (hP i hi).2.1 (hnd i hi i (Nat.le_refl i))
    have hcrt := vl_crtN (p := fun i => (pn i : Int)) (d := d) (n := 5) (X := X) (fun i hi => by have := (hP i hi).2.1.1; show (2 : Int) ≤ pn i; omega) hcop (fun i hi => ⟨(v2 i hi).2.1, (v2 i hi).2.2.1, (v2 i hi).2.2.2⟩)
    have hrng := vl_rngN (p := fun i => (pn i : Int)) (d := d) (n := 5) (fun i hi => by have := (hP i hi).2.1.1; show (2 : Int) ≤ pn i; omega) (fun i hi => ⟨(v2 i hi).2.1, (v2 i hi).2.2.1⟩) 5 (Nat.le_refl 5)
    -- digits as numbers
    obtain ⟨dn, hdn⟩ : ∃ dn : Nat → Nat, ∀ k, k < 5 → d k = (dn k : Int) := ⟨fun k => (d k).toNat, fun k hk => by have := (v2 k hk).2.1; show d k = ((d k).toNat : Int); omega⟩
    have evl : vl (fun i => (pn i : Int)) d 5 = vl (fun i => (pn i : Int)) (fun i => (dn i : Int)) 5 := vl_congr 5 hdn
    rw [evl] at hcrt hrng
    have hval : (HN pn dn 5 5 : Int) = X % pr (fun i => (pn i : Int)) 5 ∧ (HQ pn 5 5 : Int) = pr (fun i => (pn i : Int)) 5 := by
      obtain ⟨h1, h2⟩ := HN_c pn dn 5 5
      obtain ⟨h3, h4⟩ := hn_vl (fun i => (pn i : Int)) (fun i => (dn i : Int)) 5 5 (by omega)
      rw [← hcrt, h1, h2, h3, h4]
      constructor
      · show _ = (0 : Int) + 1 * _
        omega
      · show _ = (1 : Int) * _
        omega
    have hPi : HQ pn 5 5 < 2 ^ 150 := by
      have : ∀ k, k ≤ 5 → HQ pn 5 k ≤ (2 ^ 30 - 1) ^ k := by
        intro k
        induction k with
        | zero => exact fun _ => Nat.le_refl 1
        | succ k ih =>
          intro hk
          have := (hP (5 - (k + 1)) (by omega)).2.2
          rw [Nat.pow_succ]
          exact Nat.mul_le_mul (ih (by omega)) (by omega)
      exact Nat.lt_of_le_of_lt (this 5 (Nat.le_refl 5)) (by decide)
    have c6 : (2 : Nat) ^ 150 < 1073741824 ^ 6 := by decide
    generalize pr (fun i => (pn i : Int)) 5 = Pi at *
    have fin : ∀ M : Nat → Nat → Int64, (∀ c, c ≠ 226 → c ≠ 227 → M c = J c) → (∀ r U, r < 2 → r ≠ a → zv J r U → zv M r U) → zv M a (HN pn dn 5 5) → zv M 2 (HQ pn 5 5) → ∀ o4 o6 o8 o10 o3 : Option Value, WP m_Mo_putTogether (172, [some (.ref 208), some (.ref ra), some (.int (nI a)), o3, o4, none, o6, none, o8, none, o10], [], hp L I M w, 0, 0) (fun v h => v = some (.int (sg X)) ∧ ∃ K : Nat → Nat → Int64, (∀ c, c ≠ 226 → c ≠ 227 → K c = J c) ∧ (∀ r U, r < 2 → r ≠ a → zv J r U → zv K r U) ∧ zv K a X.natAbs ∧ h = hp L I K w) := by
      intro M m1 m2 m3 m4 o4 o6 o8 o10 o3
      obtain ⟨e1, e2⟩ := hval
      have X1 := Int.emod_nonneg X (show Pi ≠ 0 by omega)
      have X2 := Int.emod_lt_of_pos X (show 0 < Pi by omega)
      iterate 3 (refine WP.st rfl ?_)
      refine WP.calle rfl rfl (ev_copy L I M w 3 2 (HQ pn 5 5) (by omega) (by omega) (by omega) m4) ?_
      iterate 3 (refine WP.st rfl ?_)
      refine WP.calle rfl rfl (ev_zless L I (zs M 3 (HQ pn 5 5)) w 3 a (HQ pn 5 5) (HN pn dn 5 5) (by omega) (by omega) (by omega) (zs_at _ _ _) (zs_off m3 (by omega)) (by omega)) ?_
      have z3 : zv (zs (zs M 3 (HQ pn 5 5)) 3 (HQ pn 5 5 - HN pn dn 5 5)) 3 (HQ pn 5 5 - HN pn dn 5 5) := zs_at _ _ _
      have za : zv (zs (zs M 3 (HQ pn 5 5)) 3 (HQ pn 5 5 - HN pn dn 5 5)) a (HN pn dn 5 5) := zs_off (zs_off m3 (by omega)) (by omega)
      have zr : ∀ r U, r < 2 → r ≠ a → zv J r U → zv (zs (zs M 3 (HQ pn 5 5)) 3 (HQ pn 5 5 - HN pn dn 5 5)) r U := fun r U h1 h2 h3 => zs_off (zs_off (m2 r U h1 h2 h3) (by omega)) (by omega)
      have zf : ∀ c, c ≠ 226 → c ≠ 227 → zs (zs M 3 (HQ pn 5 5)) 3 (HQ pn 5 5 - HN pn dn 5 5) c = J c := fun c h1 h2 => (zs_ne _ _ _ h2).trans ((zs_ne M _ _ h2).trans (m1 c h1 h2))
      generalize zs (zs M 3 (HQ pn 5 5)) 3 (HQ pn 5 5 - HN pn dn 5 5) = M2 at *
      iterate 3 (refine WP.st rfl ?_)
      refine WP.calle rfl rfl (ev_zcompare L I M2 w 3 a (HQ pn 5 5 - HN pn dn 5 5) (HN pn dn 5 5) (by omega) (by omega) z3 za (by omega) (by omega)) ?_
      by_cases neg : X < 0
      · have eX : X % Pi = X + Pi := by
          rw [← Int.add_emod_right]
          exact Int.emod_eq_of_lt (by omega) (by omega)
        have ev : HQ pn 5 5 - HN pn dn 5 5 = X.natAbs := by omega
        refine WP.iff rfl (show ¬ 0 ≤ cmI (HQ pn 5 5 - HN pn dn 5 5) (HN pn dn 5 5) by unfold cmI; rw [if_pos (by omega)]; decide) ?_
        rw [ev] at z3
        iterate 3 (refine WP.st rfl ?_)
        refine WP.calle rfl rfl (ev_copy L I M2 w a 3 X.natAbs (by omega) (by omega) (by omega) z3) ?_
        iterate 1 (refine WP.st rfl ?_)
        refine WP.ret rfl ⟨?_, zs M2 a X.natAbs, fun c h1 h2 => (zs_ne M2 _ _ h2).trans (zf c h1 h2), fun r U h1 h2 h3 => zs_off (zr r U h1 h2 h3) h2, zs_at _ _ _, rfl⟩
        unfold sg
        rw [if_neg (by omega), if_pos neg]
        rfl
      · have eX : X % Pi = X := Int.emod_eq_of_lt (by omega) (by omega)
        have ev : HN pn dn 5 5 = X.natAbs := by omega
        refine WP.ift rfl (show 0 ≤ cmI (HQ pn 5 5 - HN pn dn 5 5) (HN pn dn 5 5) by unfold cmI; rw [if_neg (by omega)]; split <;> decide) ?_
        rw [ev] at za
        iterate 2 (refine WP.st rfl ?_)
        refine WP.calle rfl rfl (ev_limbs L I M2 w a X.natAbs (by omega) za) ?_
        have hu2 : us X.natAbs 6 ≤ 6 := us_le _ 6
        by_cases e0 : X = 0
        · subst e0
          rw [show us (0 : Int).natAbs 6 = 0 from rfl]
          refine WP.iff rfl (fun z => z rfl) ?_
          iterate 2 (refine WP.st rfl ?_)
          exact WP.ret rfl ⟨rfl, M2, zf, zr, za, rfl⟩
        · have hu : us X.natAbs 6 ≠ 0 := fun z => e0 (by have := (us6_pos (by omega)).mp z; omega)
          refine WP.ift rfl (nI_ne0 (by omega) (by omega)) ?_
          iterate 1 (refine WP.st rfl ?_)
          refine WP.ret rfl ⟨?_, M2, zf, zr, za, rfl⟩
          unfold sg
          rw [if_neg e0, if_neg neg]
          rfl
    refine WP.ict rfl (nI_le (Nat.le_refl _) (by omega)) ?_
    iterate 2 (refine WP.st rfl ?_)
    refine WP.calle rfl rfl (ev_zero L I K w a (by omega)) ?_
    iterate 2 (refine WP.st rfl ?_)
    refine WP.calle rfl rfl (ev_zero L I (zs K a 0) w 2 (by omega)) ?_
    iterate 4 (refine WP.st rfl ?_)
    refine WP.last (k := 12) rfl (rfl) (rfl) (show 12 < 48 by omega) (rfl) ?_
    iterate 3 (refine WP.st rfl ?_)
    have z21 : zv (mm_up (zs (zs K a 0) 2 0) 227 12 (zJ 1)) 2 1 := by
      intro i hi
      by_cases e : i = 0
      · subst e
        exact mm_up_at _ _ _ _
      · refine (up_nk _ _ (by omega)).trans ((zs_at (zs K a 0) 2 0 i hi).trans ?_)
        have e1 : i = 1 ∨ i = 2 ∨ i = 3 ∨ i = 4 ∨ i = 5 := by omega
        rcases e1 with rfl | rfl | rfl | rfl | rfl <;> rfl
    have za0 : zv (mm_up (zs (zs K a 0) 2 0) 227 12 (zJ 1)) a 0 := zv_ne (zs_off (zs_at _ _ _) (by omega)) (fun k h1 h2 => up_nk _ _ (by omega))
    refine WP.down (fun k (M : Nat → Nat → Int64) => (132, [some (.ref 208), some (.ref ra), some (.int (nI a)), some (.int (nI k - 1)), f 4, none, f 6, none, f 8, none, f 10], [.int (nI k - 1)], hp L I M w, 0, 0)) (fun k M => (∀ c, c ≠ 227 → M c = K c) ∧ (∀ r U, r < 2 → r ≠ a → zv J r U → zv M r U) ∧ zv M a (HN pn dn 5 (5 - k)) ∧ zv M 2 (HQ pn 5 (5 - k))) 5 (mm_up (zs (zs K a 0) 2 0) 227 12 (zJ 1)) ⟨fun c hc => (up_ne _ _ hc).trans ((zs_ne _ _ _ hc).trans (zs_ne K _ _ hc)), fun r U h1 h2 h3 => zv_ne (zs_off (zs_off (zv_ne h3 (fun k _ _ => by rw [v1 227 (by decide)])) h2) (by omega)) (fun k h1 h2 => up_nk _ _ (by omega)), by rw [show HN pn dn 5 (5 - 5) = 0 from rfl]; exact za0, by rw [show HQ pn 5 (5 - 5) = 1 from rfl]; exact z21⟩ (fun k M hk hv kk => ?_) (fun M hv => ?_)
    · obtain ⟨m1, m2, m3, m4⟩ := hv
      obtain ⟨p1, p2, p3⟩ := hP k hk
      have zp : (nI (pn k)).toInt64 = zJ (pn k : Int) := by rw [nI_zI]; exact zI_l (by omega) (by omega)
      have hdk := v2 k hk
      rw [hdn k hk] at hdk
      rw [nI_m1]
      refine WP.iff rfl (nI_pos (by omega)) ?_
      iterate 5 (refine WP.st rfl ?_)
      refine WP.iald (k := k) rfl (rfl) (Or.inl rfl) (show k < 7 by omega) (rfl) ?_
      rw [show hI (hp L I M w) 219 k = nI (pn k) from p1]
      iterate 1 (refine WP.st rfl ?_)
      rw [zp]
      iterate 3 (refine WP.st rfl ?_)
      refine WP.lald (k := k) rfl (rfl) (Or.inl rfl) (show k < 5 by omega) (rfl) ?_
      rw [show hJ (hp L I M w) 226 k = zJ (dn k : Int) from (congrFun (m1 226 (by decide)) k).trans hdk.1]
      refine WP.calle rfl rfl (ev_timesAnd L I M w a (HN pn dn 5 (5 - (k + 1))) (pn k) (dn k) (by omega) m3 (by omega) (by omega)) ?_
      have eN : HN pn dn 5 (5 - (k + 1)) * pn k + dn k = HN pn dn 5 (5 - k) := by
        rw [show 5 - k = 5 - (k + 1) + 1 by omega]
        show _ = _ * pn (5 - (5 - (k + 1) + 1)) + dn (5 - (5 - (k + 1) + 1))
        rw [show 5 - (5 - (k + 1) + 1) = k by omega]
      have eQ : HQ pn 5 (5 - (k + 1)) * pn k + 0 = HQ pn 5 (5 - k) := by
        rw [show 5 - k = 5 - (k + 1) + 1 by omega]
        show _ = _ * pn (5 - (5 - (k + 1) + 1))
        rw [show 5 - (5 - (k + 1) + 1) = k by omega]
        rfl
      rw [eN]
      iterate 5 (refine WP.st rfl ?_)
      refine WP.iald (k := k) rfl (rfl) (Or.inl rfl) (show k < 7 by omega) (rfl) ?_
      rw [show hI (hp L I (zs M a (HN pn dn 5 (5 - k))) w) 219 k = nI (pn k) from p1]
      iterate 1 (refine WP.st rfl ?_)
      rw [zp]
      iterate 1 (refine WP.st rfl ?_)
      refine WP.calle rfl rfl (ev_timesAnd L I (zs M a (HN pn dn 5 (5 - k))) w 2 (HQ pn 5 (5 - (k + 1))) (pn k) 0 (by omega) (zs_off m4 (by omega)) (by omega) (by omega)) ?_
      rw [eQ]
      iterate 3 (refine WP.st rfl ?_)
      have k2 := kk (zs (zs M a (HN pn dn 5 (5 - k))) 2 (HQ pn 5 (5 - k))) ⟨fun c hc => (zs_ne _ _ _ hc).trans ((zs_ne M _ _ hc).trans (m1 c hc)), fun r U h1 h2 h3 => zs_off (zs_off (m2 r U h1 h2 h3) h2) (by omega), zs_off (zs_at _ _ _) (by omega), zs_at _ _ _⟩
      rw [nI_sub1] at k2
      exact k2
    · obtain ⟨m1, m2, m3, m4⟩ := hv
      refine WP.ift rfl (show nI 0 - 1 < 0 by decide) ?_
      exact fin M (fun c h1 h2 => (m1 c h2).trans (v1 c h1)) m2 m3 m4 _ _ _ _ _
