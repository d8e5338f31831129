/-! Clock.inverse, Clock.addTimes -/
def fb : Nat → Nat
  | 0 => 0
  | 1 => 1
  | n + 2 => fb n + fb (n + 1)
/-- what holds of Euclid's numbers behind i steps -/
def eu_I (v p : Int) (i : Nat) (o n ot nt : Int) : Prop := ∃ a b : Int, ((ot = -a ∧ nt = b) ∨ (ot = a ∧ nt = -b)) ∧ 0 ≤ a ∧ a ≤ b ∧ (fb i : Int) ≤ a ∧ (fb (i + 1) : Int) ≤ b ∧ o * b + n * a = p ∧ 0 ≤ n ∧ n < o ∧ (∃ k, o = ot * v + k * p) ∧ (∃ k, n = nt * v + k * p) ∧ Int.gcd o n = 1
theorem eu_0 {v p : Int} (h0 : 0 < v) (h1 : v < p) (hg : Int.gcd v p = 1) : eu_I v p 0 p v 0 1 := by
  refine ⟨0, 1, Or.inl ⟨rfl, rfl⟩, by omega, by omega, ?_, ?_, by omega, by omega, h1, ⟨1, by omega⟩, ⟨0, by omega⟩, ?_⟩
  · show ((0 : Nat) : Int) ≤ 0; omega
  · show ((1 : Nat) : Int) ≤ 1; omega
  · rw [Int.gcd_comm]; exact hg
theorem eu_s {v p : Int} {i : Nat} {o n ot nt : Int} (h : eu_I v p i o n ot nt) (hn : 0 < n) : eu_I v p (i + 1) n (o - o / n * n) nt (ot - o / n * nt) := by
  obtain ⟨a, b, hs, ha, hab, hf1, hf2, hp, hn0, hno, ⟨k1, hk1⟩, ⟨k2, hk2⟩, hg⟩ := h
  have hq : 1 ≤ o / n := (Int.le_ediv_iff_mul_le hn).mpr (by omega)
  have hr : o - o / n * n = o % n := by
    have := Int.mul_ediv_add_emod o n
    rw [Int.mul_comm] at this
    omega
  have hr0 := Int.emod_nonneg o (show n ≠ 0 by omega)
  have hr1 := Int.emod_lt_of_pos o hn
  have hqb : b ≤ o / n * b := by
    have := Int.mul_le_mul_of_nonneg_right hq (show 0 ≤ b by omega)
    omega
  refine ⟨b, a + o / n * b, ?_, by omega, by omega, hf2, ?_, ?_, by omega, by omega, ⟨k2, hk2⟩, ⟨k1 - o / n * k2, ?_⟩, ?_⟩
  · rcases hs with ⟨rfl, rfl⟩ | ⟨rfl, rfl⟩
    · exact Or.inr ⟨rfl, by omega⟩
    · refine Or.inl ⟨rfl, ?_⟩
      rw [Int.mul_neg]; omega
  · show ((fb i + fb (i + 1) : Nat) : Int) ≤ _
    omega
  · rw [Int.mul_add, Int.sub_mul, Int.add_assoc]
    have : n * (o / n * b) = o / n * n * b := by rw [Int.mul_comm n, Int.mul_assoc, Int.mul_comm b n, ← Int.mul_assoc]
    rw [this]
    omega
  · rw [Int.sub_mul, Int.sub_mul]
    have e1 : o / n * n = o / n * (nt * v + k2 * p) := by rw [← hk2]
    rw [e1, Int.mul_add, ← Int.mul_assoc, ← Int.mul_assoc]
    omega
  · have e9 := Int.gcd_add_mul_right_left n (o - o / n * n) (o / n)
    rw [show o - o / n * n + o / n * n = o by omega, hg] at e9
    rw [Int.gcd_comm]
    exact e9.symm
theorem eu_end {v p : Int} {i : Nat} {o ot nt : Int} (h0 : 0 < v) (h1 : v < p) (h : eu_I v p i o 0 ot nt) : 0 ≤ (if ot < 0 then ot + p else ot) ∧ (if ot < 0 then ot + p else ot) < p ∧ ∃ k, (if ot < 0 then ot + p else ot) * v = 1 + k * p := by
  obtain ⟨a, b, hs, ha, hab, hf1, hf2, hp, hn0, hno, ⟨k1, hk1⟩, -, hg⟩ := h
  have ho : o = 1 := by
    rw [Int.gcd_zero_right] at hg
    omega
  subst ho
  have hbp : b = p := by omega
  have hap : a ≠ p := by
    intro e
    have : ∃ c, 1 = c * p := by
      rcases hs with ⟨rfl, -⟩ | ⟨rfl, -⟩
      · exact ⟨-v + k1, by rw [Int.add_mul, hk1, e, Int.neg_mul, Int.neg_mul, Int.mul_comm p v]⟩
      · exact ⟨v + k1, by rw [Int.add_mul, hk1, e, Int.mul_comm p v]⟩
    obtain ⟨c, hc⟩ := this
    have h2 : 2 ≤ p := by omega
    have : c ≤ 0 ∨ 1 ≤ c := by omega
    rcases this with h3 | h3
    · have := Int.mul_le_mul_of_nonneg_right h3 (show 0 ≤ p by omega)
      omega
    · have := Int.mul_le_mul_of_nonneg_right h3 (show 0 ≤ p by omega)
      omega
  have hlt : -p < ot ∧ ot < p := by
    rcases hs with ⟨rfl, -⟩ | ⟨rfl, -⟩ <;> omega
  by_cases hot : ot < 0
  · rw [if_pos hot]
    refine ⟨by omega, by omega, v - k1, ?_⟩
    rw [Int.add_mul, Int.sub_mul, Int.mul_comm p v]
    omega
  · rw [if_neg hot]
    refine ⟨by omega, by omega, -k1, ?_⟩
    rw [Int.neg_mul]
    omega
theorem fb65 : 2 ^ 31 < fb 65 := by decide +kernel
theorem ev_inv_loop (h : MH) (v p : Int) (h1 : v < p) (hpx : p < 2 ^ 31) (h0 : 0 < v) : ∀ (d i : Nat) (o n ot nt : Int) (v13 v15 v17 : Option Value), i + d = 64 → eu_I v p i o n ot nt → ∃ r : Int, (0 ≤ r ∧ r < p ∧ ∃ k, r * v = 1 + k * p) ∧ RN m_Ck_inverse (19, [some (.long (zJ v)), none, some (.long (zJ p)), none, some (.long (zJ o)), none, some (.long (zJ n)), none, some (.long (zJ ot)), none, some (.long (zJ nt)), none, some (.int (nI i)), v13, none, v15, none, v17, none], [.int (nI 64), .int (nI i)], h, 0, 0) (some (.long (zJ r)), h)
  | 0, i, o, n, ot, nt, v13, v15, v17, hi, hI => by
    exfalso
    obtain rfl : i = 64 := by omega
    obtain ⟨a, b, -, ha, hab, hf1, hf2, hp, hn0, hno, -⟩ := hI
    have h3 : (fb 65 : Int) ≤ b := hf2
    have h4 := fb65
    have h5 : b ≤ o * b := by
      have := Int.mul_le_mul_of_nonneg_right (show (1 : Int) ≤ o by omega) (show 0 ≤ b by omega)
      omega
    have h6 : 0 ≤ n * a := Int.mul_nonneg hn0 ha
    omega
  | d + 1, i, o, n, ot, nt, v13, v15, v17, hi, hI => by
    have hI2 := hI
    obtain ⟨a, b, hs, ha, hab, hf1, hf2, hp, hn0, hno, -⟩ := hI2
    have h5 : b ≤ o * b := by
      have := Int.mul_le_mul_of_nonneg_right (show (1 : Int) ≤ o by omega) (show 0 ≤ b by omega)
      omega
    have h6 : 0 ≤ n * a := Int.mul_nonneg hn0 ha
    have hb1 : 1 ≤ b := by
      have : 1 ≤ fb (i + 1) := by
        have : ∀ k, 1 ≤ fb (k + 1) := by
          intro k
          induction k with
          | zero => decide
          | succ k ih => show 1 ≤ fb k + fb (k + 1); omega
        exact this i
      omega
    have hop : o ≤ p := by
      have := Int.mul_le_mul_of_nonneg_left hb1 (show 0 ≤ o by omega)
      omega
    by_cases hn : 0 < n
    · obtain ⟨r, hrr, ih⟩ := ev_inv_loop h v p h1 hpx h0 d (i + 1) n (o - o / n * n) nt (ot - o / n * nt) (some (.long (zJ (o / n)))) (some (.long (zJ (o - o / n * n)))) (some (.long (zJ (ot - o / n * nt)))) (by omega) (eu_s hI hn)
      refine ⟨r, hrr, ?_⟩
      refine RN.icf rfl (nI_ge (show i < 64 by omega) (by omega)) ?_
      repeat (refine RN.st rfl ?_)
      refine RN.iff rfl (fun z => by have := (zJ_le (a := n) (b := 0) (by omega) (by omega) (by omega) (by omega)).mp (lc_le.mp z); omega) ?_
      repeat (refine RN.st rfl ?_)
      refine RN.ldiv rfl (fun z => by have := (zJ_eq (a := n) (b := 0) (by omega) (by omega) (by omega) (by omega)).mp z; omega) ?_
      rw [zJ_div (by omega) (by omega) (by omega) (by omega), Int.tdiv_eq_ediv_of_nonneg (by omega)]
      rw [nI_succ i, ← zJ_sub, ← zJ_sub, ← zJ_mul, ← zJ_mul] at ih
      iterate 13 (refine RN.st rfl ?_)
      show RN m_Ck_inverse (56, [some (.long (zJ v)), none, some (.long (zJ p)), none, some (.long (zJ o)), none, some (.long (zJ n)), none, some (.long (zJ ot)), none, some (.long (zJ nt)), none, some (.int (nI i)), some (.long (zJ (o / n))), none, some (.long (zJ o - zJ (o / n) * zJ n)), none, some (.long (zJ ot - zJ (o / n) * zJ nt)), none], [], h, 0, 0) _
      iterate 4 (refine RN.st rfl ?_)
      show RN m_Ck_inverse (64, [some (.long (zJ v)), none, some (.long (zJ p)), none, some (.long (zJ n)), none, some (.long (zJ o - zJ (o / n) * zJ n)), none, some (.long (zJ ot)), none, some (.long (zJ nt)), none, some (.int (nI i)), some (.long (zJ (o / n))), none, some (.long (zJ o - zJ (o / n) * zJ n)), none, some (.long (zJ ot - zJ (o / n) * zJ nt)), none], [], h, 0, 0) _
      iterate 4 (refine RN.st rfl ?_)
      show RN m_Ck_inverse (72, [some (.long (zJ v)), none, some (.long (zJ p)), none, some (.long (zJ n)), none, some (.long (zJ o - zJ (o / n) * zJ n)), none, some (.long (zJ nt)), none, some (.long (zJ ot - zJ (o / n) * zJ nt)), none, some (.int (nI i)), some (.long (zJ (o / n))), none, some (.long (zJ o - zJ (o / n) * zJ n)), none, some (.long (zJ ot - zJ (o / n) * zJ nt)), none], [], h, 0, 0) _
      iterate 4 (refine RN.st rfl ?_)
      exact ih
    · obtain rfl : n = 0 := by omega
      refine ⟨if ot < 0 then ot + p else ot, eu_end h0 h1 hI, ?_⟩
      refine RN.icf rfl (nI_ge (show i < 64 by omega) (by omega)) ?_
      repeat (refine RN.st rfl ?_)
      by_cases hot : ot < 0
      · rw [if_pos hot]
        refine RN.iff rfl (fun z => by have := (zJ_le (a := 0) (b := ot) (by omega) (by omega) (by omega) (by omega)).mp (lc_ge.mp z); omega) ?_
        rw [← zJ_add]
        repeat (refine RN.st rfl ?_)
        exact RN.ret rfl
      · rw [if_neg hot]
        refine RN.ift rfl (lc_ge.mpr (show zJ 0 ≤ zJ ot from (zJ_le (by omega) (by omega) (by omega) (by omega)).mpr (by omega))) ?_
        repeat (refine RN.st rfl ?_)
        exact RN.ret rfl
/-- the inverse that Clock finds -/
theorem ev_inv (h : MH) (v p : Int) (h0 : 0 < v) (h1 : v < p) (hpx : p < 2 ^ 31) (hg : Int.gcd v p = 1) : ∃ r : Int, 0 ≤ r ∧ r < p ∧ (∃ k, r * v = 1 + k * p) ∧ EV m_Ck_inverse [.long (zJ v), .long (zJ p)] h (some (.long (zJ r))) h := by
  obtain ⟨r, ⟨r1, r2, r3⟩, hk⟩ := ev_inv_loop h v p h1 hpx h0 64 0 p v 0 1 none none none (by omega) (eu_0 h0 h1 hg)
  refine ⟨r, r1, r2, r3, ?_⟩
  unfold EV
  iterate 8 (refine RN.st rfl ?_)
  show RN m_Ck_inverse (12, [some (.long (zJ v)), none, some (.long (zJ p)), none, some (.long (zJ p)), none, some (.long (zJ v)), none, some (.long (zJ 0)), none, some (.long (zJ 1)), none, none, none, none, none, none, none, none], [], h, 0, 0) _
  iterate 4 (refine RN.st rfl ?_)
  exact hk
