/-! the reference: reduce, putTogether -/
theorem us6_pos {V : Nat} (h : V < 1073741824 ^ 6) : us V 6 = 0 ↔ V = 0 := by
  constructor
  · intro hV
    have e : ∀ q, us V q = 0 → V % 1073741824 ^ q = 0 := by
      intro q
      induction q with
      | zero => intro _; rw [Nat.pow_zero]; omega
      | succ q ih =>
        intro hq
        have : us V (q + 1) = if dg V q = 0 then us V q else q + 1 := rfl
        rw [this] at hq
        split at hq
        · rename_i h0
          rw [mod_step, h0, ih hq]; omega
        · omega
    have := e 6 hV
    rw [Nat.mod_eq_of_lt h] at this
    exact this
  · intro e
    subst e
    decide
/-- Euclid -/
theorem rd_loop (L : Nat) (I : Nat → Nat → Int32) (w : Nat → Nat) (J0 : Nat → Nat → Int64) (A B : Nat) : ∀ (n : Nat) (J : Nat → Nat → Int64) (x y : Nat), y ≤ n → x < 2 ^ 170 → y < 2 ^ 170 → (∀ c, c ≠ 227 → J c = J0 c) → zv J 0 A → zv J 1 B → zv J 2 x → zv J 3 y → ∀ (Q : Option Value → MH → Prop), (∀ J' : Nat → Nat → Int64, (∀ c, c ≠ 227 → J' c = J0 c) → zv J' 0 A → zv J' 1 B → zv J' 2 (Nat.gcd x y) → WP m_Mo_reduce (48, [some (.ref 208)], [], hp L I J' w, 0, 0) Q) → WP m_Mo_reduce (12, [some (.ref 208)], [], hp L I J w, 0, 0) Q
  | n, J, x, y, hn, lx, ly, f0, z0, z1, z2, z3, Q, kk => by
    have c6 : (2 : Nat) ^ 170 < 1073741824 ^ 6 := by decide
    iterate 2 (refine WP.st rfl ?_)
    refine WP.calle rfl rfl (ev_limbs L I J w 3 y (by omega) z3) ?_
    by_cases e : y = 0
    · subst e
      rw [show us 0 6 = 0 from rfl]
      refine WP.ift rfl (show nI 0 ≤ 0 by decide) ?_
      rw [Nat.gcd_zero_right] at kk
      exact kk J f0 z0 z1 z2
    · have hu : us y 6 ≠ 0 := fun z => e ((us6_pos (by omega)).mp z)
      have hu2 : us y 6 ≤ 6 := us_le y 6
      refine WP.iff rfl (nI_nle (by omega) (by omega)) ?_
      iterate 4 (refine WP.st rfl ?_)
      refine WP.call rfl rfl (sp_divide L I J w 2 3 4 x y (by omega) (by omega) (by omega) (by omega) (by omega) (by omega) z2 z3 (by omega) ly (by omega)) ?_
      rintro _ _ ⟨rfl, K, g1, g2, g3, g4, rfl⟩
      have k3 := g2 3 y (by omega) (by omega) (by omega) z3
      have k0 := g2 0 A (by omega) (by omega) (by omega) z0
      have k1 := g2 1 B (by omega) (by omega) (by omega) z1
      iterate 3 (refine WP.st rfl ?_)
      refine WP.calle rfl rfl (ev_copy L I K w 5 2 (x % y) (by omega) (by omega) (by omega) g3) ?_
      iterate 3 (refine WP.st rfl ?_)
      refine WP.calle rfl rfl (ev_copy L I (zs K 5 (x % y)) w 2 3 y (by omega) (by omega) (by omega) (zs_off k3 (by omega))) ?_
      iterate 3 (refine WP.st rfl ?_)
      refine WP.calle rfl rfl (ev_copy L I (zs (zs K 5 (x % y)) 2 y) w 3 5 (x % y) (by omega) (by omega) (by omega) (zs_off (zs_at _ _ _) (by omega))) ?_
      iterate 1 (refine WP.st rfl ?_)
      have hl := Nat.mod_lt x (show 0 < y by omega)
      obtain ⟨m, rfl⟩ : ∃ m, n = m + 1 := ⟨n - 1, by omega⟩
      refine rd_loop L I w J0 A B m (zs (zs (zs K 5 (x % y)) 2 y) 3 (x % y)) y (x % y) (by omega) ly (by omega) (fun c hc => (zs_ne _ _ _ hc).trans ((zs_ne _ _ _ hc).trans ((zs_ne K _ _ hc).trans ((g1 c hc).trans (f0 c hc))))) (zs_off (zs_off (zs_off k0 (by omega)) (by omega)) (by omega)) (zs_off (zs_off (zs_off k1 (by omega)) (by omega)) (by omega)) (zs_off (zs_at _ _ _) (by omega)) (zs_at _ _ _) Q ?_
      rw [Nat.gcd_comm x y, Nat.gcd_rec] at kk
      rw [Nat.gcd_comm]
      exact kk
  termination_by n => n
set_option maxHeartbeats 4000000 in
set_option maxRecDepth 20000 in
theorem sp_reduce (L : Nat) (I : Nat → Nat → Int32) (J : Nat → Nat → Int64) (w : Nat → Nat) (A B : Nat) (hA : zv J 0 A) (hB : zv J 1 B) (lA : A < 2 ^ 170) (lB : B < 2 ^ 170) (B0 : 0 < B) : SP m_Mo_reduce [.ref 208] (hp L I J w) (fun v h => v = none ∧ ∃ K : Nat → Nat → Int64, (∀ c, c ≠ 227 → K c = J c) ∧ zv K 0 (fa A B) ∧ zv K 1 (fbl A B) ∧ h = hp L I K w) := by
  have g0 : 0 < Nat.gcd A B := Nat.gcd_pos_of_pos_right A B0
  have gl : Nat.gcd A B ≤ B := Nat.le_of_dvd B0 (Nat.gcd_dvd_right A B)
  unfold SP
  iterate 3 (refine WP.st rfl ?_)
  refine WP.calle rfl rfl (ev_copy L I J w 2 0 A (by omega) (by omega) (by omega) hA) ?_
  iterate 3 (refine WP.st rfl ?_)
  refine WP.calle rfl rfl (ev_copy L I (zs J 2 A) w 3 1 B (by omega) (by omega) (by omega) (zs_off hB (by omega))) ?_
  refine rd_loop L I w J A B B (zs (zs J 2 A) 3 B) A B (Nat.le_refl B) lA lB (fun c hc => (zs_ne _ _ _ hc).trans (zs_ne J _ _ hc)) (zs_off (zs_off hA (by omega)) (by omega)) (zs_off (zs_off hB (by omega)) (by omega)) (zs_off (zs_at _ _ _) (by omega)) (zs_at _ _ _) _ (fun K f0 z0 z1 z2 => ?_)
  iterate 3 (refine WP.st rfl ?_)
  refine WP.calle rfl rfl (ev_copy L I K w 6 2 (Nat.gcd A B) (by omega) (by omega) (by omega) z2) ?_
  iterate 3 (refine WP.st rfl ?_)
  refine WP.calle rfl rfl (ev_copy L I (zs K 6 (Nat.gcd A B)) w 5 0 A (by omega) (by omega) (by omega) (zs_off z0 (by omega))) ?_
  iterate 4 (refine WP.st rfl ?_)
  refine WP.call rfl rfl (sp_divide L I (zs (zs K 6 (Nat.gcd A B)) 5 A) w 5 6 0 A (Nat.gcd A B) (by omega) (by omega) (by omega) (by omega) (by omega) (by omega) (zs_at _ _ _) (zs_off (zs_at _ _ _) (by omega)) (by omega) (by omega) g0) ?_
  rintro _ _ ⟨rfl, K2, g1, g2, g3, g4, rfl⟩
  have k1 := g2 1 B (by omega) (by omega) (by omega) (zs_off (zs_off z1 (by omega)) (by omega))
  have k6 := g2 6 (Nat.gcd A B) (by omega) (by omega) (by omega) (zs_off (zs_at _ _ _) (by omega))
  iterate 3 (refine WP.st rfl ?_)
  refine WP.calle rfl rfl (ev_copy L I K2 w 5 1 B (by omega) (by omega) (by omega) k1) ?_
  iterate 4 (refine WP.st rfl ?_)
  refine WP.call rfl rfl (sp_divide L I (zs K2 5 B) w 5 6 1 B (Nat.gcd A B) (by omega) (by omega) (by omega) (by omega) (by omega) (by omega) (zs_at _ _ _) (zs_off k6 (by omega)) (by omega) (by omega) g0) ?_
  rintro _ _ ⟨rfl, K3, e1, e2, e3, e4, rfl⟩
  exact WP.ret rfl ⟨rfl, K3, fun c hc => (e1 c hc).trans ((zs_ne K2 _ _ hc).trans ((g1 c hc).trans ((zs_ne _ _ _ hc).trans ((zs_ne K _ _ hc).trans (f0 c hc))))), e2 0 _ (by omega) (by omega) (by omega) (zs_off g4 (by omega)), e4, rfl⟩
/-! putTogether -/
theorem vl_rngN {p d : Nat → Int} {n : Nat} (hP : ∀ i, i < n → 2 ≤ p i) (hd : ∀ i, i < n → 0 ≤ d i ∧ d i < p i) : ∀ i, i ≤ n → 0 < pr p i ∧ 0 ≤ vl p d i ∧ vl p d i < pr p i
  | 0, _ => ⟨Int.zero_lt_one, Int.le_refl 0, Int.zero_lt_one⟩
  | i + 1, hi => by
    obtain ⟨a, b, c⟩ := vl_rngN hP hd i (by omega)
    have h1 := hP i (by omega)
    have h2 := hd i (by omega)
    have e1 : 0 ≤ d i * pr p i := Int.mul_nonneg h2.1 (by omega)
    have e2 : (d i + 1) * pr p i ≤ p i * pr p i := Int.mul_le_mul_of_nonneg_right (by omega) (by omega)
    rw [Int.add_mul, Int.one_mul] at e2
    have e3 : 0 < pr p i * p i := Int.mul_pos a (by omega)
    show 0 < pr p i * p i ∧ 0 ≤ vl p d i + d i * pr p i ∧ vl p d i + d i * pr p i < pr p i * p i
    rw [Int.mul_comm (pr p i)] at *
    omega
theorem pr_dvdN {p : Nat → Int} {n : Nat} (hc : ∀ i, i < n → Int.gcd (pr p i) (p i) = 1) {z : Int} (hz : ∀ i, i < n → p i ∣ z) : ∀ i, i ≤ n → pr p i ∣ z
  | 0, _ => Int.one_dvd z
  | i + 1, hi => cop_dvd (hc i (by omega)) (pr_dvdN hc hz i (by omega)) (hz i (by omega))
theorem vl_crtN {p d : Nat → Int} {n : Nat} {X : Int} (hP : ∀ i, i < n → 2 ≤ p i) (hc : ∀ i, i < n → Int.gcd (pr p i) (p i) = 1) (hd : ∀ i, i < n → 0 ≤ d i ∧ d i < p i ∧ p i ∣ vl p d (i + 1) - X) : vl p d n = X % pr p n := by
  have h1 : pr p n ∣ vl p d n - X := by
    refine pr_dvdN hc (fun i hi => ?_) n (Nat.le_refl _)
    have a := (hd i hi).2.2
    have b : p i ∣ vl p d n - vl p d (i + 1) := by
      obtain ⟨k, hk⟩ : ∃ k, n = i + 1 + k := ⟨n - i - 1, by omega⟩
      rw [hk]
      exact Int.dvd_trans (show p i ∣ pr p i * p i from Int.dvd_mul_left _ _) (vl_step (i + 1) k)
    have := Int.dvd_add b a
    rw [show vl p d n - vl p d (i + 1) + (vl p d (i + 1) - X) = vl p d n - X by omega] at this
    exact this
  obtain ⟨-, r0, r1⟩ := vl_rngN hP (fun i hi => ⟨(hd i hi).1, (hd i hi).2.1⟩) n (Nat.le_refl _)
  rw [← Int.emod_eq_of_lt r0 r1]
  exact emod_dvd h1
/-- Horner, from the top -/
def hn (p d : Nat → Int) (n : Nat) : Nat → Int
  | 0 => 0
  | k + 1 => hn p d n k * p (n - (k + 1)) + d (n - (k + 1))
def hq (p : Nat → Int) (n : Nat) : Nat → Int
  | 0 => 1
  | k + 1 => hq p n k * p (n - (k + 1))
theorem hn_vl (p d : Nat → Int) (n : Nat) : ∀ k, k ≤ n → vl p d n = vl p d (n - k) + pr p (n - k) * hn p d n k ∧ pr p n = pr p (n - k) * hq p n k
  | 0, _ => by
    show vl p d n = vl p d n + pr p n * 0 ∧ pr p n = pr p n * 1
    constructor <;> grind
  | k + 1, hk => by
    obtain ⟨a, b⟩ := hn_vl p d n k (by omega)
    have e1 : vl p d (n - k) = vl p d (n - (k + 1)) + d (n - (k + 1)) * pr p (n - (k + 1)) := by
      rw [show n - k = n - (k + 1) + 1 by omega]; rfl
    have e2 : pr p (n - k) = pr p (n - (k + 1)) * p (n - (k + 1)) := by
      rw [show n - k = n - (k + 1) + 1 by omega]; rfl
    show _ = _ + pr p (n - (k + 1)) * (hn p d n k * p (n - (k + 1)) + d (n - (k + 1))) ∧ _ = pr p (n - (k + 1)) * (hq p n k * p (n - (k + 1)))
    rw [a, b, e1, e2]
    constructor <;> grind
