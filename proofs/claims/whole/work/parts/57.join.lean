/-! Joiner.join -/
theorem dr_dr (J : Nat → Nat → Int64) (d d' : Nat → Int) : dr (dr J d 4) d' 4 = dr J d' 4 := by
  unfold dr
  rw [mm_row_row]
  apply mm_row_congr
  intro j
  by_cases h : j < 4
  · rw [if_pos h, if_pos h]
  · rw [if_neg h, if_neg h, mm_row_at, if_neg h]
theorem pr_pos {p : Nat → Int} (hP : ∀ i, i < 4 → 2 ≤ p i) : ∀ i, i ≤ 4 → 0 < pr p i
  | 0, _ => by show (0 : Int) < 1; omega
  | i + 1, h => Int.mul_pos (pr_pos hP i (by omega)) (by have := hP i (by omega); omega)
theorem vl_rng {p d : Nat → Int} (hP : ∀ i, i < 4 → 2 ≤ p i) (hd : ∀ i, i < 4 → 0 ≤ d i ∧ d i < p i) : ∀ i, i ≤ 4 → 0 ≤ vl p d i ∧ vl p d i < pr p i
  | 0, _ => ⟨by show (0 : Int) ≤ 0; omega, by show (0 : Int) < 1; omega⟩
  | i + 1, h => by
    obtain ⟨a, b⟩ := vl_rng hP hd i (by omega)
    have c := pr_pos hP i (by omega)
    obtain ⟨d0, d1⟩ := hd i (by omega)
    show 0 ≤ vl p d i + d i * pr p i ∧ vl p d i + d i * pr p i < pr p i * p i
    have e1 : 0 ≤ d i * pr p i := Int.mul_nonneg d0 (by omega)
    have e2 : (d i + 1) * pr p i ≤ p i * pr p i := Int.mul_le_mul_of_nonneg_right (by omega) (by omega)
    rw [Int.add_mul, Int.mul_comm (p i)] at e2
    omega
theorem vl_step {p d : Nat → Int} (m : Nat) : ∀ k, pr p m ∣ vl p d (m + k) - vl p d m
  | 0 => by rw [Nat.add_zero, Int.sub_self]; exact Int.dvd_zero _
  | k + 1 => by
    have ih := vl_step (p := p) (d := d) m k
    have h : ∀ k, pr p m ∣ pr p (m + k) := by
      intro k
      induction k with
      | zero => exact Int.dvd_refl _
      | succ k ih => exact Int.dvd_trans ih (Int.dvd_mul_right _ _)
    show pr p m ∣ vl p d (m + k) + d (m + k) * pr p (m + k) - vl p d m
    rw [show vl p d (m + k) + d (m + k) * pr p (m + k) - vl p d m = (vl p d (m + k) - vl p d m) + d (m + k) * pr p (m + k) by omega]
    exact Int.dvd_add ih (Int.dvd_trans (h k) (Int.dvd_mul_left _ _))
theorem cop_dvd {a b z : Int} (hg : Int.gcd a b = 1) (ha : a ∣ z) (hb : b ∣ z) : a * b ∣ z := by
  rw [← Int.natAbs_dvd_natAbs] at ha hb ⊢
  rw [Int.natAbs_mul]
  exact Nat.Coprime.mul_dvd_of_dvd_of_dvd hg ha hb
theorem pr_dvd {p : Nat → Int} (hc : ∀ i, i < 4 → Int.gcd (pr p i) (p i) = 1) {z : Int} (hz : ∀ i, i < 4 → p i ∣ z) : ∀ i, i ≤ 4 → pr p i ∣ z
  | 0, _ => Int.one_dvd _
  | i + 1, h => cop_dvd (hc i (by omega)) (pr_dvd hc hz i (by omega)) (hz i (by omega))
/-- the digits' number is V modulo the product -/
theorem vl_crt {p d x : Nat → Int} {s V : Int} (hP : ∀ i, i < 4 → 2 ≤ p i) (hc : ∀ i, i < 4 → Int.gcd (pr p i) (p i) = 1) (hx : ∀ i, i < 4 → x i = V % p i) (hd : ∀ i, i < 4 → 0 ≤ d i ∧ d i < p i ∧ (vl p d (i + 1) - s * x i) % p i = 0) : vl p d 4 = (s * V) % pr p 4 := by
  have h1 : pr p 4 ∣ vl p d 4 - s * V := by
    refine pr_dvd hc (fun i hi => ?_) 4 (Nat.le_refl _)
    obtain ⟨-, -, h⟩ := hd i hi
    have a := Int.dvd_of_emod_eq_zero h
    have b : p i ∣ vl p d 4 - vl p d (i + 1) := by
      obtain ⟨k, hk⟩ : ∃ k, 4 = i + 1 + k := ⟨3 - i, by omega⟩
      rw [hk]
      exact Int.dvd_trans (show p i ∣ pr p i * p i from Int.dvd_mul_left _ _) (vl_step (i + 1) k)
    have c : p i ∣ s * x i - s * V := by
      rw [hx i hi, ← Int.mul_sub]
      refine Int.dvd_trans ?_ (Int.dvd_mul_left _ _)
      refine ⟨-(V / p i), ?_⟩
      have := Int.mul_ediv_add_emod V (p i)
      grind
    have := Int.dvd_add (Int.dvd_add b a) c
    rw [show vl p d 4 - vl p d (i + 1) + (vl p d (i + 1) - s * x i) + (s * x i - s * V) = vl p d 4 - s * V by omega] at this
    exact this
  obtain ⟨r0, r1⟩ := vl_rng hP (fun i hi => ⟨(hd i hi).1, (hd i hi).2.1⟩) 4 (Nat.le_refl _)
  rw [← Int.emod_eq_of_lt r0 r1]
  exact Int.emod_eq_emod_iff_emod_sub_eq_zero.mpr (Int.emod_eq_zero_of_dvd h1)
/-- the sign of a number, as the class says it -/
def sg (V : Int) : Int32 := if V = 0 then 0 else if V < 0 then -1 else 1
theorem us_0 : us 0 5 = 0 := by decide
theorem us_pos {V : Nat} (h : V < 1073741824 ^ 5) (hV : us V 5 = 0) : V = 0 := by
  have e : ∀ q, us V q = 0 → V % 1073741824 ^ q = 0 := by
    intro q
    induction q with
    | zero => intro _; rw [Nat.pow_zero]; omega
    | succ q ih =>
      intro hq
      have : us V (q + 1) = if dg V q = 0 then us V q else q + 1 := rfl
      rw [this] at hq
      split at hq
      · rename_i h0
        rw [mod_step, h0, ih hq]; omega
      · omega
  have := e 5 hV
  rw [Nat.mod_eq_of_lt h] at this
  exact this
set_option maxHeartbeats 4000000 in
set_option maxRecDepth 20000 in
theorem sp_join_tail (L : Nat) (I : Nat → Nat → Int32) (J : Nat → Nat → Int64) (w : Nat → Nat) (a b : Nat) (hb : isL b) (hb1 : b ≠ 131) (hb2 : b ≠ 140) (p d : Nat → Int) (hP : ∀ i, i < 4 → J 131 i = zJ (p i) ∧ 2 ≤ p i ∧ p i < 2 ^ 31) (hd : ∀ i, i < 4 → 0 ≤ d i ∧ d i < p i) (W : Nat) (hW : vl p d 4 = W) (lW : W < 1073741824 ^ 5) (ng : Int32) (v5 : Option Value) (Q : Option Value → MH → Prop) (q0 : W = 0 → Q (some (.int 0)) (hp L I (lm (dr J d 4) b W) w)) (q1 : ¬ W = 0 → ¬ ng = 0 → Q (some (.int (-1))) (hp L I (lm (dr J d 4) b W) w)) (q2 : ¬ W = 0 → ng = 0 → Q (some (.int 1)) (hp L I (lm (dr J d 4) b W) w)) : WP m_Jo_join (43, [some (.ref 139), some (.ref a), some (.ref 131), some (.ref b), some (.int ng), v5], [], hp L I (dr J d 4) w, 0, 0) Q := by
  iterate 1 (refine WP.st rfl ?_)
  refine WP.calle rfl rfl (ev_clear L I (dr J d 4) w b hb) ?_
  iterate 3 (refine WP.st rfl ?_)
  refine WP.down (fun m (X : Nat) => (52, [some (.ref 139), some (.ref a), some (.ref 131), some (.ref b), some (.int ng), some (.int (nI m - 1))], [.int (nI m - 1)], hp L I (lm (dr J d 4) b X) w, 0, 0)) (fun m X => vl p d 4 = vl p d m + pr p m * X) 4 0 (by simp) (fun m X hm hI k2 => ?_) (fun X hI => ?_)
  · obtain ⟨p1, p2, p3⟩ := hP m hm
    obtain ⟨d1, d2⟩ := hd m hm
    rw [nI_sub1] at k2
    rw [nI_m1]
    refine WP.iff rfl (nI_pos (by omega)) ?_
    iterate 3 (refine WP.st rfl ?_)
    refine WP.lald (k := m) rfl (rfl) (Or.inl rfl) (show m < 4 by omega) (rfl) ?_
    rw [show hJ (hp L I (lm (dr J d 4) b X) w) 131 m = zJ (p m) from (lm_off _ X m (Ne.symm hb1)).trans ((dr_off J d 4 (by decide) m).trans p1)]
    iterate 3 (refine WP.st rfl ?_)
    refine WP.lald (k := m) rfl (rfl) (Or.inl rfl) (show m < 4 by omega) (rfl) ?_
    rw [show hJ (hp L I (lm (dr J d 4) b X) w) 140 m = zJ (d m) from (lm_off _ X m (Ne.symm hb2)).trans (dr_at J d 4 m hm)]
    obtain ⟨pn, hpn⟩ : ∃ n : Nat, p m = n := ⟨(p m).toNat, by omega⟩
    obtain ⟨dn, hdn⟩ : ∃ n : Nat, d m = n := ⟨(d m).toNat, by omega⟩
    rw [hpn, hdn]
    refine WP.calle rfl rfl (ev_timesAndAdd L I (lm (dr J d 4) b X) w b X pn dn hb (fun i hi => lm_at _ b X hi) (by omega) (by omega)) ?_
    rw [lm_lm]
    iterate 3 (refine WP.st rfl ?_)
    refine k2 (X * pn + dn) ?_
    rw [hI]
    show vl p d m + d m * pr p m + pr p m * p m * X = _
    rw [hpn, hdn]
    push_cast
    grind
  · have e : X = W := by
      have h1 : vl p d 4 = 0 + 1 * (X : Int) := hI
      omega
    subst e
    refine WP.ift rfl (show nI 0 - 1 < 0 by decide) ?_
    iterate 1 (refine WP.st rfl ?_)
    refine WP.calle rfl rfl (ev_used L I (dr J d 4) w b X hb) ?_
    by_cases hX : X = 0
    · subst hX
      rw [us_0]
      refine WP.iff rfl (fun z => z rfl) ?_
      iterate 1 (refine WP.st rfl ?_)
      exact WP.ret rfl (q0 rfl)
    · skip
      have ul := us_le X 5
      refine WP.ift rfl (fun z => hX (us_pos lW ((nI_eq (by omega) (by omega)).mp (show nI (us X 5) = nI 0 from z)))) ?_
      iterate 1 (refine WP.st rfl ?_)
      by_cases hn : ng = 0
      · skip
        refine WP.ift rfl (hn) ?_
        iterate 1 (refine WP.st rfl ?_)
        exact WP.ret rfl (q2 hX hn)
      · skip
        refine WP.iff rfl (hn) ?_
        iterate 2 (refine WP.st rfl ?_)
        exact WP.ret rfl (q1 hX hn)

theorem jn_top {p d : Nat → Int} (hP : ∀ i, i < 4 → 2 ≤ p i) (hd : ∀ i, i < 4 → 0 ≤ d i ∧ d i < p i) : d 3 * pr p 3 ≤ vl p d 4 ∧ vl p d 4 < (d 3 + 1) * pr p 3 := by
  obtain ⟨a, b⟩ := vl_rng hP hd 3 (by omega)
  show d 3 * pr p 3 ≤ vl p d 3 + d 3 * pr p 3 ∧ vl p d 3 + d 3 * pr p 3 < (d 3 + 1) * pr p 3
  rw [Int.add_mul]
  omega
set_option maxHeartbeats 4000000 in
set_option maxRecDepth 20000 in
theorem sp_join (L : Nat) (I : Nat → Nat → Int32) (J : Nat → Nat → Int64) (w : Nat → Nat) (a b : Nat) (ka : KK a = 10) (la : hp_l.getD a 0 = 4) (a0 : a ≠ 0) (a1 : a ≠ 140) (hb : isL b) (hb1 : b ≠ 131) (hb2 : b ≠ 140) (p x : Nat → Int) (V : Int) (hP : ∀ i, i < 4 → J 131 i = zJ (p i) ∧ 2 ≤ p i ∧ p i < 2 ^ 31) (p8 : 8 ≤ p 3) (hX : ∀ i, i < 4 → J a i = zJ (x i) ∧ x i = V % p i) (hc : ∀ i, i < 4 → Int.gcd (pr p i) (p i) = 1) (hV : 4 * V < pr p 4 ∧ 4 * (-V) < pr p 4) : SP m_Jo_join [.ref 139, .ref a, .ref 131, .ref b] (hp L I J w) (fun r h => r = some (.int (sg V)) ∧ ∃ d : Nat → Int, h = hp L I (lm (dr J d 4) b V.natAbs) w) := by
  have hP2 : ∀ i, i < 4 → 2 ≤ p i := fun i hi => (hP i hi).2.1
  have hX2 : ∀ i, i < 4 → J a i = zJ (x i) ∧ 0 ≤ x i ∧ x i < p i := fun i hi => by
    have := hP2 i hi
    rw [(hX i hi).1, (hX i hi).2]
    exact ⟨rfl, Int.emod_nonneg _ (by omega), Int.emod_lt_of_pos _ (by omega)⟩
  have q0 := pr_pos hP2 3 (by omega)
  have q4 : pr p 4 = pr p 3 * p 3 := rfl
  have q44 : pr p 4 < 4 * 1073741824 ^ 5 := by
    have h0 := hP 0 (by omega)
    have h1 := hP 1 (by omega)
    have h2 := hP 2 (by omega)
    have h3 := hP 3 (by omega)
    have e1 : pr p 1 ≤ 2 ^ 31 := by show 1 * p 0 ≤ _; omega
    have e2 : pr p 1 * p 1 ≤ 2 ^ 31 * 2 ^ 31 := Int.mul_le_mul e1 (by omega) (by omega) (by omega)
    have e3 : pr p 1 * p 1 * p 2 ≤ 2 ^ 31 * 2 ^ 31 * 2 ^ 31 := Int.mul_le_mul e2 (by omega) (by omega) (by omega)
    have e4 : pr p 1 * p 1 * p 2 * p 3 ≤ 2 ^ 31 * 2 ^ 31 * 2 ^ 31 * 2 ^ 31 := Int.mul_le_mul e3 (by omega) (by omega) (by omega)
    show pr p 1 * p 1 * p 2 * p 3 < _
    omega
  unfold SP
  iterate 4 (refine WP.st rfl ?_)
  refine WP.call rfl rfl (sp_findDigits L I J w a ka la a0 a1 p x hP hX2 1 1 zJ_i1 (Or.inl rfl) hc) ?_
  rintro _ _ ⟨rfl, d, hd, rfl⟩
  have hd2 : ∀ i, i < 4 → 0 ≤ d i ∧ d i < p i := fun i hi => ⟨(hd i hi).1, (hd i hi).2.1⟩
  have hv := vl_crt hP2 hc (fun i hi => (hX i hi).2) hd
  rw [Int.one_mul] at hv
  have ht := jn_top hP2 hd2
  obtain ⟨p1, p2, p3⟩ := hP 3 (by omega)
  obtain ⟨d1, d2⟩ := hd2 3 (by omega)
  iterate 3 (refine WP.st rfl ?_)
  refine WP.lald (k := 3) rfl (rfl) (Or.inl rfl) (show 3 < 4 by omega) (rfl) ?_
  rw [show hJ (hp L I (dr J d 4) w) 140 3 = zJ (d 3) from dr_at J d 4 3 (by omega)]
  iterate 2 (refine WP.st rfl ?_)
  refine WP.lald (k := 3) rfl (rfl) (Or.inl rfl) (show 3 < 4 by omega) (rfl) ?_
  rw [show hJ (hp L I (dr J d 4) w) 131 3 = zJ (p 3) from (dr_off J d 4 (by decide) 3).trans p1]
  iterate 1 (refine WP.st rfl ?_)
  refine WP.ldiv rfl (by decide) ?_
  rw [show zJ (p 3) / (2 : Int64) = zJ ((p 3) / 2) from (zJ_div (a := p 3) (b := 2) (by omega) (by omega) (by omega) (by omega)).trans (congrArg zJ (Int.tdiv_eq_ediv_of_nonneg (by omega)))]
  iterate 1 (refine WP.st rfl ?_)
  by_cases hneg : V < 0
  · have e1 : vl p d 4 = V + pr p 4 := by
      rw [hv, ← Int.add_emod_right]
      exact Int.emod_eq_of_lt (by omega) (by omega)
    have hbig : p 3 / 2 < d 3 := by
      have h1 : (p 3 * 3) * pr p 3 < (4 * (d 3 + 1)) * pr p 3 := by
        have : (p 3 * 3) * pr p 3 = 3 * pr p 4 := by rw [q4]; grind
        have h2 : (4 * (d 3 + 1)) * pr p 3 = 4 * ((d 3 + 1) * pr p 3) := by grind
        omega
      have := Int.lt_of_mul_lt_mul_right h1 (by omega)
      omega
    refine WP.iff rfl (fun z => by have := (zJ_le (a := d 3) (b := p 3 / 2) (by omega) (by omega) (by omega) (by omega)).mp (lc_le.mp z); omega) ?_
    iterate 4 (refine WP.st rfl ?_)
    refine WP.iff rfl (show ¬ (1 : Int32) = 0 by decide) ?_
    iterate 4 (refine WP.st rfl ?_)
    refine WP.call rfl rfl (sp_findDigits L I (dr J d 4) w a ka la a0 a1 p x (fun i hi => ⟨(dr_off J d 4 (by decide) i).trans (hP i hi).1, (hP i hi).2⟩) (fun i hi => ⟨(dr_off J d 4 a1 i).trans (hX2 i hi).1, (hX2 i hi).2⟩) (-1) (-1) zJ_im1 (Or.inr rfl) hc) ?_
    rintro _ _ ⟨rfl, d', hd', rfl⟩
    rw [dr_dr]
    have hv' := vl_crt hP2 hc (fun i hi => (hX i hi).2) hd'
    have hW : vl p d' 4 = (V.natAbs : Int) := by
      rw [hv', Int.emod_eq_of_lt (by omega) (by omega)]
      omega
    refine sp_join_tail L I J w a b hb hb1 hb2 p d' hP (fun i hi => ⟨(hd' i hi).1, (hd' i hi).2.1⟩) V.natAbs hW (by omega) 1 none _ (fun z => by omega) (fun _ _ => ⟨?_, d', rfl⟩) (fun _ z => absurd z (by decide))
    unfold sg
    rw [if_neg (by omega), if_pos hneg]
  · have e1 : vl p d 4 = V := by
      rw [hv]
      exact Int.emod_eq_of_lt (by omega) (by omega)
    have hsm : d 3 ≤ p 3 / 2 := by
      have h1 : (4 * d 3) * pr p 3 < p 3 * pr p 3 := by
        have : p 3 * pr p 3 = pr p 4 := by rw [q4]; grind
        have h2 : (4 * d 3) * pr p 3 = 4 * (d 3 * pr p 3) := by grind
        omega
      have := Int.lt_of_mul_lt_mul_right h1 (by omega)
      omega
    refine WP.ift rfl (lc_le.mpr ((zJ_le (a := d 3) (b := p 3 / 2) (by omega) (by omega) (by omega) (by omega)).mpr hsm)) ?_
    iterate 3 (refine WP.st rfl ?_)
    refine WP.ift rfl (show (0 : Int32) = 0 by rfl) ?_
    refine sp_join_tail L I J w a b hb hb1 hb2 p d hP hd2 V.natAbs (by omega) (by omega) 0 none _ (fun z => ⟨?_, d, rfl⟩) (fun _ z => absurd rfl z) (fun z _ => ⟨?_, d, rfl⟩)
    · unfold sg
      rw [if_pos (by omega)]
    · unfold sg
      rw [if_neg (by omega), if_neg hneg]
