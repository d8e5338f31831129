/-! Fraction: halveBoth, findDivisor, digestOnto -/
theorem isL_135 : isL 135 := by decide
theorem isL_136 : isL 136 := by decide
theorem isL_137 : isL 137 := by decide
theorem isL_138 : isL 138 := by decide
theorem zJ_orN (a b : Nat) (ha : a < 2 ^ 62) (hb : b < 2 ^ 62) : zJ a ||| zJ b = zJ ((a ||| b : Nat) : Int) := by
  have h3 : a ||| b < 2 ^ 62 := Nat.or_lt_two_pow ha hb
  apply Int64.toBitVec.inj
  apply BitVec.eq_of_toNat_eq
  show ((zJ a).toBitVec ||| (zJ b).toBitVec).toNat = _
  rw [BitVec.toNat_or, zJ_nat a (by omega), zJ_nat b (by omega), zJ_nat _ (by omega)]
theorem or_mod2 (a b : Nat) : (a ||| b) % 2 = 0 ↔ a % 2 = 0 ∧ b % 2 = 0 := by
  have h := Nat.testBit_or a b 0
  simp only [Nat.testBit_zero] at h
  have h1 : decide ((a ||| b) % 2 = 1) = (decide (a % 2 = 1) || decide (b % 2 = 1)) := h
  by_cases ha : a % 2 = 1
  · have h2 : (a ||| b) % 2 = 1 := by simpa [ha] using h1
    exact ⟨fun z => by omega, fun z => by omega⟩
  · by_cases hb : b % 2 = 1
    · have h2 : (a ||| b) % 2 = 1 := by simpa [hb] using h1
      exact ⟨fun z => by omega, fun z => by omega⟩
    · have h2 : ¬ (a ||| b) % 2 = 1 := by simpa [ha, hb] using h1
      exact ⟨fun z => by omega, fun z => by omega⟩
theorem lm_comm (J : Nat → Nat → Int64) {a b : Nat} (h : a ≠ b) (V W : Nat) : lm (lm J a V) b W = lm (lm J b W) a V := by
  funext c k
  by_cases h1 : c = a
  · subst h1
    rw [lm_off _ W k h]
    by_cases hk : k < 5
    · rw [lm_at _ _ _ hk, lm_at _ _ _ hk]
    · show mm_row J c _ c k = mm_row (lm J b W) c _ c k
      rw [mm_row_at, mm_row_at, if_neg hk, if_neg hk]
      exact (lm_off J W k h).symm
  · rw [lm_off (lm J b W) V k h1]
    by_cases h2 : c = b
    · subst h2
      by_cases hk : k < 5
      · rw [lm_at _ _ _ hk, lm_at _ _ _ hk]
      · show mm_row (lm J a V) c _ c k = mm_row J c _ c k
        rw [mm_row_at, mm_row_at, if_neg hk, if_neg hk]
        exact lm_off J V k h1
    · rw [lm_off _ W k h2, lm_off _ W k h2, lm_off _ V k h1]
/-- two numbers halved while both are even, at most d times -/
def hb : Nat → Nat → Nat → Nat × Nat
  | 0, A, B => (A, B)
  | d + 1, A, B => if A % 2 = 0 ∧ B % 2 = 0 then hb d (A / 2) (B / 2) else (A, B)
theorem ev_halveBoth_loop (L : Nat) (I : Nat → Nat → Int32) (J : Nat → Nat → Int64) (w : Nat → Nat) : ∀ (d i A B : Nat), i + d = 150 → A < 1073741824 ^ 5 → B < 1073741824 ^ 5 → RN m_Fr_halveBoth (6, [some (.ref 134), some (.int (nI i))], [.int (nI 150), .int (nI i)], hp L I (lm (lm J 135 A) 136 B) w, 0, 0) (none, hp L I (lm (lm J 135 (hb d A B).1) 136 (hb d A B).2) w)
  | 0, i, A, B, hi, lA, lB => by
    obtain rfl : i = 150 := by omega
    refine RN.ict rfl (nI_le (Nat.le_refl _) (by omega)) ?_
    exact RN.ret rfl
  | d + 1, i, A, B, hi, lA, lB => by
    have hA := dg_lt A 0
    have hB := dg_lt B 0
    have pA := dg_par A
    have pB := dg_par B
    refine RN.icf rfl (nI_ge (show i < 150 by omega) (by omega)) ?_
    iterate 3 (refine RN.st rfl ?_)
    refine RN.lald (k := 0) rfl rfl (Or.inl rfl) (show 0 < 5 by omega) rfl ?_
    rw [show hJ (hp L I (lm (lm J 135 A) 136 B) w) 135 0 = zJ (dg A 0) from (lm_off (a := 136) (c := 135) (lm J 135 A) B 0 (by decide)).trans (lm_at J 135 A (show 0 < 5 by omega))]
    iterate 3 (refine RN.st rfl ?_)
    refine RN.lald (k := 0) rfl rfl (Or.inl rfl) (show 0 < 5 by omega) rfl ?_
    rw [show hJ (hp L I (lm (lm J 135 A) 136 B) w) 136 0 = zJ (dg B 0) from lm_at (lm J 135 A) 136 B (show 0 < 5 by omega)]
    iterate 1 (refine RN.st rfl ?_)
    rw [zJ_orN _ _ (by omega) (by omega)]
    iterate 2 (refine RN.st rfl ?_)
    rw [show (zJ ((dg A 0 ||| dg B 0 : Nat) : Int) &&& Int64.ofNat ((1 : Fin 2) : Nat)) = zJ (((dg A 0 ||| dg B 0) % 2 : Nat) : Int) from zJ_and1 _]
    iterate 2 (refine RN.st rfl ?_)
    have hor := or_mod2 (dg A 0) (dg B 0)
    by_cases q : A % 2 = 0 ∧ B % 2 = 0
    · have e : hb (d + 1) A B = hb d (A / 2) (B / 2) := if_pos q
      rw [e]
      have q2 : (dg A 0 ||| dg B 0) % 2 = 0 := hor.mpr ⟨by omega, by omega⟩
      refine RN.iff rfl (fun z => z (lc_eq.mpr (show zJ (((dg A 0 ||| dg B 0) % 2 : Nat) : Int) = zJ 0 by rw [q2]; rfl))) ?_
      have ih := ev_halveBoth_loop L I J w d (i + 1) (A / 2) (B / 2) (by omega) (by omega) (by omega)
      rw [nI_succ] at ih
      iterate 2 (refine RN.st rfl ?_)
      have e1 : lm (lm (lm J 135 A) 136 B) 135 (A / 2) = lm (lm J 135 (A / 2)) 136 B := by
        rw [lm_comm (lm J 135 A) (by decide), lm_lm]
      refine RN.call rfl rfl (ev_halve L I (lm (lm J 135 A) 136 B) w 135 A isL_135 (fun j hj => (lm_off (a := 136) (c := 135) (lm J 135 A) B j (by decide)).trans (lm_at J 135 A hj)) lA) ?_
      rw [e1]
      iterate 2 (refine RN.st rfl ?_)
      refine RN.call rfl rfl (ev_halve L I (lm (lm J 135 (A / 2)) 136 B) w 136 B isL_136 (fun j hj => lm_at (lm J 135 (A / 2)) 136 B hj) lB) ?_
      rw [lm_lm]
      iterate 4 (refine RN.st rfl ?_)
      exact ih
    · have e : hb (d + 1) A B = (A, B) := if_neg q
      rw [e]
      refine RN.ift rfl (lc_ne.mpr (fun z => q (by have z2 := (zJ_eq (a := (((dg A 0 ||| dg B 0) % 2 : Nat) : Int)) (b := 0) (by omega) (by omega) (by omega) (by omega)).mp z; have := hor.mp (by omega); omega))) ?_
      exact RN.ret rfl
theorem ev_halveBoth (L : Nat) (I : Nat → Nat → Int32) (J : Nat → Nat → Int64) (w : Nat → Nat) (A B : Nat) (lA : A < 1073741824 ^ 5) (lB : B < 1073741824 ^ 5) : EV m_Fr_halveBoth [.ref 134] (hp L I (lm (lm J 135 A) 136 B) w) none (hp L I (lm (lm J 135 (hb 150 A B).1) 136 (hb 150 A B).2) w) := by
  unfold EV
  iterate 4 (refine RN.st rfl ?_)
  exact ev_halveBoth_loop L I J w 150 0 A B (by omega) lA lB
/-- the fraction's digest -/
def fr_d1 (A : Nat) (h : Int64) : Nat → Int64 := fun m => fl (fun i x => 31 * x + zJ (dg A i)) m h
theorem us_le (V : Nat) : ∀ q, us V q ≤ q
  | 0 => Nat.le_refl 0
  | q + 1 => by
    show (if dg V q = 0 then us V q else q + 1) ≤ q + 1
    have := us_le V q
    split <;> omega
theorem ev_frDigest (L : Nat) (I : Nat → Nat → Int32) (J : Nat → Nat → Int64) (w : Nat → Nat) (x : Int64) (A B : Nat) : EV m_Fr_digestOnto [.ref 134, .long x] (hp L I (lm (lm J 135 A) 136 B) w) (some (.long (fr_d1 B (fr_d1 A (31 * (31 * (31 * x + (I 134 0).toInt64) + (nI (us A 5)).toInt64) + (nI (us B 5)).toInt64) (us A 5)) (us B 5)))) (hp L I (lm (lm J 135 A) 136 B) w) := by
  have uA := us_le A 5
  have uB := us_le B 5
  unfold EV
  iterate 2 (refine RN.st rfl ?_)
  have e1 : lm (lm J 135 A) 136 B = lm (lm (lm J 135 A) 136 B) 135 A := (lm_self _ 135 A (fun i hi => (lm_off (a := 136) (c := 135) (lm J 135 A) B i (by decide)).trans (lm_at J 135 A hi))).symm
  refine RN.call rfl rfl (v := some (.int (nI (us A 5)))) (h2 := hp L I (lm (lm J 135 A) 136 B) w) ?_ ?_
  · have := ev_used L I (lm (lm J 135 A) 136 B) w 135 A isL_135
    rw [← e1] at this
    exact this
  iterate 3 (refine RN.st rfl ?_)
  refine RN.call rfl rfl (ev_used L I (lm J 135 A) w 136 B isL_136) ?_
  generalize us A 5 = nA at uA ⊢
  generalize us B 5 = nB at uB ⊢
  iterate 1 (refine RN.st rfl ?_)
  show RN m_Fr_digestOnto (17, [some (.ref 134), some (.long x), none, some (.int (nI nA)), some (.int (nI nB)), none, none, none], [], hp L I (lm (lm J 135 A) 136 B) w, 0, 0) _
  generalize hy : (31 * (31 * (31 * x + (I 134 0).toInt64) + (nI nA).toInt64) + (nI nB).toInt64) = y
  have start : RN m_Fr_digestOnto (51, [some (.ref 134), some (.long x), none, some (.int (nI nA)), some (.int (nI nB)), some (.long y), none, some (.int (nI 0))], [.int (nI nA), .int (nI 0)], hp L I (lm (lm J 135 A) 136 B) w, 0, 0) (some (.long (fr_d1 B (fr_d1 A y nA) nB)), hp L I (lm (lm J 135 A) 136 B) w) := by
    refine RN.run (fun i => (51, [some (.ref 134), some (.long x), none, some (.int (nI nA)), some (.int (nI nB)), some (.long (fr_d1 A y i)), none, some (.int (nI i))], [.int (nI nA), .int (nI i)], hp L I (lm (lm J 135 A) 136 B) w, 0, 0)) nA (fun i hi k => ?_) ?_
    · rw [nI_succ] at k
      refine RN.icf rfl (nI_ge hi (by omega)) ?_
      iterate 6 (refine RN.st rfl ?_)
      refine RN.lald (k := i) rfl rfl (Or.inl rfl) (show i < 5 by omega) rfl ?_
      rw [show hJ (hp L I (lm (lm J 135 A) 136 B) w) 135 i = zJ (dg A i) from (lm_off (a := 136) (c := 135) (lm J 135 A) B i (by decide)).trans (lm_at J 135 A (by omega))]
      iterate 6 (refine RN.st rfl ?_)
      exact k
    · refine RN.ict rfl (nI_le (Nat.le_refl _) (by omega)) ?_
      generalize fr_d1 A y nA = z
      iterate 4 (refine RN.st rfl ?_)
      refine RN.run (fun i => (83, [some (.ref 134), some (.long x), none, some (.int (nI nA)), some (.int (nI nB)), some (.long (fr_d1 B z i)), none, some (.int (nI i))], [.int (nI nB), .int (nI i)], hp L I (lm (lm J 135 A) 136 B) w, 0, 0)) nB (fun i hi k => ?_) ?_
      · rw [nI_succ] at k
        refine RN.icf rfl (nI_ge hi (by omega)) ?_
        iterate 6 (refine RN.st rfl ?_)
        refine RN.lald (k := i) rfl rfl (Or.inl rfl) (show i < 5 by omega) rfl ?_
        rw [show hJ (hp L I (lm (lm J 135 A) 136 B) w) 136 i = zJ (dg B i) from lm_at (lm J 135 A) 136 B (by omega)]
        iterate 6 (refine RN.st rfl ?_)
        exact k
      · refine RN.ict rfl (nI_le (Nat.le_refl _) (by omega)) ?_
        iterate 1 (refine RN.st rfl ?_)
        exact RN.ret rfl
  subst hy
  iterate 22 (refine RN.st rfl ?_)
  exact start
