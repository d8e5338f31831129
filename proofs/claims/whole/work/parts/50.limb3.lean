/-! Limbs: halve, makeOdd, inverseOfOdd -/
theorem zJ_nat (n : Nat) (hn : n < 2 ^ 64) : (zJ n).toBitVec.toNat = n := by
  show (BitVec.ofInt 64 n).toNat = n
  rw [BitVec.toNat_ofInt, Int.emod_eq_of_lt (Int.natCast_nonneg _) (by have : ((2 ^ 64 : Nat) : Int) = 2 ^ 64 := rfl; omega)]
  rfl
theorem zJ_or29 (a b : Nat) (ha : a < 2 ^ 29) (hb : b < 2) : zJ a ||| zJ ((b * 2 ^ 29 : Nat) : Int) = zJ ((a + b * 2 ^ 29 : Nat) : Int) := by
  apply Int64.toBitVec.inj
  apply BitVec.eq_of_toNat_eq
  show ((zJ a).toBitVec ||| (zJ ((b * 2 ^ 29 : Nat) : Int)).toBitVec).toNat = _
  rw [BitVec.toNat_or, zJ_nat a (by omega), zJ_nat _ (by omega), zJ_nat _ (by omega)]
  rw [Nat.or_comm, Nat.mul_comm b, ← Nat.two_pow_add_eq_or_of_lt ha]
  omega
theorem zJ_shl29 (b : Nat) (hb : b < 2) : zJ b <<< ((Int8.ofInt 29).toInt32.toInt64 &&& 63) = zJ ((b * 2 ^ 29 : Nat) : Int) := by
  have : b = 0 ∨ b = 1 := by omega
  rcases this with rfl | rfl <;> decide
theorem zJ_and1 (n : Nat) : zJ n &&& zJ 1 = zJ ((n % 2 : Nat) : Int) := by
  rw [zJ_and 1 (by decide) (zJ 1) (by decide)]
  rfl
theorem zJ_shr1 (n : Nat) (h : n < 2 ^ 63) : zJ n >>> ((Int32.ofInt 1).toInt64 &&& 63) = zJ ((n / 2 : Nat) : Int) := by
  rw [zJ_shr (by omega) (by omega) _ 1 (by decide)]
  rfl
theorem dg_half (V i : Nat) : dg (V / 2) i = dg V i / 2 + dg V (i + 1) % 2 * 2 ^ 29 := by
  have h1 := dg_step V i
  have h2 := dg_lt V i
  have e : V / 2 / 1073741824 ^ i = V / 1073741824 ^ i / 2 := by rw [Nat.div_div_eq_div_mul, Nat.div_div_eq_div_mul, Nat.mul_comm]
  have e2 : dg V (i + 1) = V / 1073741824 ^ (i + 1) % 1073741824 := rfl
  show V / 2 / 1073741824 ^ i % 1073741824 = _
  rw [e, h1, e2]
  generalize V / 1073741824 ^ (i + 1) = q
  generalize dg V i = r at h2
  omega
theorem dg_top {V : Nat} (hV : V < 1073741824 ^ 5) : dg V 5 = 0 := by
  unfold dg
  rw [Nat.div_eq_of_lt hV]
theorem ev_halve (L : Nat) (I : Nat → Nat → Int32) (J : Nat → Nat → Int64) (w : Nat → Nat) (a V : Nat) (ha : isL a) (hV : ∀ i, i < 5 → J a i = zJ (dg V i)) (lV : V < 1073741824 ^ 5) : EV m_Li_halve [.ref a] (hp L I J w) none (hp L I (lm J a (V / 2)) w) := by
  unfold EV
  iterate 4 (refine RN.st rfl ?_)
  have key := RN.run (mid := m_Li_halve) (R := (none, hp L I (lm J a (V / 2)) w)) (fun i => (4, [some (.ref a), some (.int (nI i))], [.int (nI 4), .int (nI i)], hp L I (lmi J a (V / 2) i) w, 0, 0)) 4 (fun i hi k => ?_) ?_
  · rw [lmi_0] at key
    exact key
  · have hd := dg_lt V i
    have hd2 := dg_lt V (i + 1)
    rw [nI_succ, ← lmi_s, dg_half] at k
    refine RN.icf rfl (nI_ge hi (by omega)) ?_
    iterate 4 (refine RN.st rfl ?_)
    refine RN.lald (k := i) rfl rfl (Or.inl ha.1) (show i < LL L a by rw [isL_l ha]; omega) (isL_b ha) ?_
    rw [show hJ (hp L I (lmi J a (V / 2) i) w) a i = zJ (dg V i) from (lmi_at J a (V / 2) i).trans (hV i (by omega))]
    iterate 2 (refine RN.st rfl ?_)
    rw [zJ_shr1 _ (by omega)]
    iterate 4 (refine RN.st rfl ?_)
    refine RN.lald (k := i + 1) rfl (nI_succ i).symm (Or.inl ha.1) (show i + 1 < LL L a by rw [isL_l ha]; omega) (isL_b ha) ?_
    rw [show hJ (hp L I (lmi J a (V / 2) i) w) a (i + 1) = zJ (dg V (i + 1)) from ((mm_row_at J a (fun j => if j < i then zJ (dg (V / 2) j) else J a j) (i + 1)).trans (if_neg (by omega))).trans (hV (i + 1) (by omega))]
    iterate 2 (refine RN.st rfl ?_)
    rw [show (zJ (dg V (i + 1)) &&& Int64.ofNat ((1 : Fin 2) : Nat)) = zJ ((dg V (i + 1) % 2 : Nat) : Int) from zJ_and1 _]
    iterate 2 (refine RN.st rfl ?_)
    rw [zJ_shl29 _ (by omega)]
    iterate 1 (refine RN.st rfl ?_)
    rw [zJ_or29 _ _ (by omega) (by omega)]
    refine RN.last (k := i) rfl rfl ha.1 (show i < LL L a by rw [isL_l ha]; omega) (isL_b ha) ?_
    iterate 4 (refine RN.st rfl ?_)
    exact k
  · have hd := dg_lt V 4
    refine RN.ict rfl (nI_le (Nat.le_refl _) (by omega)) ?_
    iterate 3 (refine RN.st rfl ?_)
    refine RN.lald (k := 4) rfl rfl (Or.inl ha.1) (show 4 < LL L a by rw [isL_l ha]; omega) (isL_b ha) ?_
    rw [show hJ (hp L I (lmi J a (V / 2) 4) w) a 4 = zJ (dg V 4) from (lmi_at J a (V / 2) 4).trans (hV 4 (by omega))]
    iterate 2 (refine RN.st rfl ?_)
    rw [zJ_shr1 _ (by omega)]
    refine RN.last (k := 4) rfl rfl ha.1 (show 4 < LL L a by rw [isL_l ha]; omega) (isL_b ha) ?_
    have e := lmi_s J a (V / 2) 4
    rw [dg_half, dg_top lV] at e
    have e2 : mm_up (lmi J a (V / 2) 4) a 4 (zJ ((dg V 4 / 2 : Nat) : Int)) = lm J a (V / 2) := e
    show RN m_Li_halve (_, _, _, hp L I (mm_up (lmi J a (V / 2) 4) a 4 (zJ ((dg V 4 / 2 : Nat) : Int))) w, 0, 0) _
    rw [e2]
    exact RN.ret rfl
/-- halved until it is odd, at most d times -/
def mo : Nat → Nat → Nat
  | 0, V => V
  | d + 1, V => if V % 2 = 0 then mo d (V / 2) else V
theorem dg_par (V : Nat) : dg V 0 % 2 = V % 2 := by
  unfold dg
  rw [Nat.pow_zero, Nat.div_one]
  omega
theorem ev_makeOdd_loop (L : Nat) (I : Nat → Nat → Int32) (J : Nat → Nat → Int64) (w : Nat → Nat) (a : Nat) (ha : isL a) : ∀ (d i V : Nat), i + d = 150 → V < 1073741824 ^ 5 → RN m_Li_makeOdd (6, [some (.ref a), some (.int (nI i))], [.int (nI 150), .int (nI i)], hp L I (lm J a V) w, 0, 0) (none, hp L I (lm J a (mo d V)) w)
  | 0, i, V, hi, lV => by
    obtain rfl : i = 150 := by omega
    refine RN.ict rfl (nI_le (Nat.le_refl _) (by omega)) ?_
    exact RN.ret rfl
  | d + 1, i, V, hi, lV => by
    have hd := dg_lt V 0
    have hp9 := dg_par V
    refine RN.icf rfl (nI_ge (show i < 150 by omega) (by omega)) ?_
    iterate 2 (refine RN.st rfl ?_)
    refine RN.lald (k := 0) rfl rfl (Or.inl ha.1) (show 0 < LL L a by rw [isL_l ha]; omega) (isL_b ha) ?_
    rw [show hJ (hp L I (lm J a V) w) a 0 = zJ (dg V 0) from lm_at J a V (by omega)]
    iterate 2 (refine RN.st rfl ?_)
    rw [show (zJ (dg V 0) &&& Int64.ofNat ((1 : Fin 2) : Nat)) = zJ ((dg V 0 % 2 : Nat) : Int) from zJ_and1 _, hp9]
    iterate 2 (refine RN.st rfl ?_)
    by_cases q : V % 2 = 0
    · have e : mo (d + 1) V = mo d (V / 2) := if_pos q
      rw [e]
      refine RN.iff rfl (fun z => z (lc_eq.mpr (show zJ ((V % 2 : Nat) : Int) = zJ 0 by rw [q]; rfl))) ?_
      have ih := ev_makeOdd_loop L I J w a ha d (i + 1) (V / 2) (by omega) (by omega)
      rw [nI_succ] at ih
      iterate 1 (refine RN.st rfl ?_)
      refine RN.call rfl rfl (ev_halve L I (lm J a V) w a V ha (fun j hj => lm_at J a V hj) lV) ?_
      rw [lm_lm]
      iterate 4 (refine RN.st rfl ?_)
      exact ih
    · have e : mo (d + 1) V = V := if_neg q
      rw [e]
      refine RN.ift rfl (lc_ne.mpr (fun z => q (by have := (zJ_eq (a := ((V % 2 : Nat) : Int)) (b := 0) (by omega) (by omega) (by omega) (by omega)).mp z; omega))) ?_
      exact RN.ret rfl
theorem ev_makeOdd (L : Nat) (I : Nat → Nat → Int32) (J : Nat → Nat → Int64) (w : Nat → Nat) (a V : Nat) (ha : isL a) (hV : ∀ i, i < 5 → J a i = zJ (dg V i)) (lV : V < 1073741824 ^ 5) : EV m_Li_makeOdd [.ref a] (hp L I J w) none (hp L I (lm J a (mo 150 V)) w) := by
  have k := ev_makeOdd_loop L I J w a ha 150 0 V (by omega) lV
  rw [lm_self J a V hV] at k
  unfold EV
  iterate 4 (refine RN.st rfl ?_)
  exact k
