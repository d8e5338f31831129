/-! Limbs -/
theorem zJ_shr {z : Int} (h1 : -2 ^ 63 ≤ z) (h2 : z < 2 ^ 63) (s : Int64) (k : Nat) (hs : (s.toBitVec.smod 64).toNat = k) : zJ z >>> s = zJ (z / 2 ^ k) := by
  have e : (zJ z >>> s).toInt = z >>> k := by
    show ((zJ z).toBitVec.sshiftRight (s.toBitVec.smod 64).toNat).toInt = _
    rw [hs, BitVec.toInt_sshiftRight]
    show (zJ z).toInt >>> k = _
    rw [zJ_int h1 h2]
  rw [← Int64.toInt_inj, e, Int.shiftRight_eq_div_pow]
  have hk : (1 : Int) ≤ 2 ^ k := by
    have : (0 : Int) < 2 ^ k := Int.pow_pos (by omega)
    omega
  have hq : -2 ^ 63 ≤ z / 2 ^ k ∧ z / 2 ^ k < 2 ^ 63 := by
    constructor
    · rw [Int.le_ediv_iff_mul_le (by omega)]
      have : -2 ^ 63 * 2 ^ k ≤ -2 ^ 63 * (1 : Int) := Int.mul_le_mul_of_nonpos_left (by omega) hk
      omega
    · rw [Int.ediv_lt_iff_lt_mul (by omega)]
      have : (2 : Int) ^ 63 * 1 ≤ 2 ^ 63 * 2 ^ k := Int.mul_le_mul_of_nonneg_left hk (by omega)
      omega
  rw [zJ_int hq.1 hq.2]
  congr 1
theorem zJ_and {z : Int} (k : Nat) (hk : k < 63) (m : Int64) (hm : m.toBitVec.toNat = 2 ^ k - 1) : zJ z &&& m = zJ (z % 2 ^ k) := by
  have hk0 : (0 : Int) < 2 ^ k := Int.pow_pos (by omega)
  have hkk : (2 : Int) ^ k ≤ 2 ^ 62 := by
    have : (2 : Nat) ^ k ≤ 2 ^ 62 := Nat.pow_le_pow_right (by omega) (by omega)
    exact_mod_cast this
  have r0 := Int.emod_nonneg z (show (2 : Int) ^ k ≠ 0 by omega)
  have r1 := Int.emod_lt_of_pos z hk0
  have e1 : (zJ z &&& m).toBitVec.toNat = (z % 2 ^ k).toNat := by
    show ((zJ z).toBitVec &&& m.toBitVec).toNat = _
    rw [BitVec.toNat_and, hm, Nat.and_two_pow_sub_one_eq_mod]
    show (BitVec.ofInt 64 z).toNat % 2 ^ k = _
    rw [BitVec.toNat_ofInt]
    have e2 : z % 2 ^ k = (z % (2 ^ 64 : Nat)) % 2 ^ k := by
      rw [Int.emod_emod_of_dvd]
      refine ⟨2 ^ (64 - k), ?_⟩
      have : (2 : Int) ^ k * 2 ^ (64 - k) = 2 ^ 64 := by rw [← Int.pow_add, show k + (64 - k) = 64 by omega]
      rw [this]
      rfl
    rw [e2, Int.toNat_emod (Int.emod_nonneg _ (by decide)) (by omega)]
    congr 1
  have e3 : (zJ (z % 2 ^ k)).toBitVec.toNat = (z % 2 ^ k).toNat := by
    show (BitVec.ofInt 64 (z % 2 ^ k)).toNat = _
    rw [BitVec.toNat_ofInt, Int.emod_eq_of_lt r0 (by have : ((2 ^ 64 : Nat) : Int) = 2 ^ 64 := rfl; omega)]
  exact Int64.toBitVec.inj (BitVec.eq_of_toNat_eq (e1.trans e3.symm))
def dg (V i : Nat) : Nat := V / 1073741824 ^ i % 1073741824
theorem dg_lt (V i : Nat) : dg V i < 1073741824 := Nat.mod_lt _ (by decide)
/-- the row a holds V -/
def lm (J : Nat → Nat → Int64) (a V : Nat) : Nat → Nat → Int64 := mm_row J a (fun i => if i < 5 then zJ (dg V i) else J a i)
abbrev isL (a : Nat) : Prop := KK a = 10 ∧ hp_l.getD a 0 = 5 ∧ a ≠ 0
theorem isL_l {L a : Nat} (h : isL a) : LL L a = 5 := (if_neg h.2.2).trans h.2.1
theorem isL_b {L a : Nat} (h : isL a) : Nat.ble (LL L a) 2560 = true := by rw [isL_l h]; rfl
theorem lm_at (J : Nat → Nat → Int64) (a V : Nat) {i : Nat} (hi : i < 5) : lm J a V a i = zJ (dg V i) := (mm_row_at J a _ i).trans (if_pos hi)
theorem lm_off (J : Nat → Nat → Int64) {a c : Nat} (V i : Nat) (h : c ≠ a) : lm J a V c i = J c i := mm_row_off J _ i h
theorem lm_lm (J : Nat → Nat → Int64) (a V W : Nat) : lm (lm J a V) a W = lm J a W := by
  unfold lm
  rw [mm_row_row]
  apply mm_row_congr
  intro i
  by_cases h : i < 5
  · rw [if_pos h, if_pos h]
  · rw [if_neg h, if_neg h, mm_row_at, if_neg h]
/-- the row, as it is while it is written from below: i limbs of W, the others as they were -/
def lmi (J : Nat → Nat → Int64) (a W i : Nat) : Nat → Nat → Int64 := mm_row J a (fun j => if j < i then zJ (dg W j) else J a j)
theorem lmi_0 (J : Nat → Nat → Int64) (a W : Nat) : lmi J a W 0 = J := by
  unfold lmi
  rw [show (fun j => if j < 0 then zJ (dg W j) else J a j) = J a from funext fun j => if_neg (Nat.not_lt_zero j), mm_row_self]
theorem lmi_s (J : Nat → Nat → Int64) (a W i : Nat) : mm_up (lmi J a W i) a i (zJ (dg W i)) = lmi J a W (i + 1) := by
  unfold lmi
  rw [mm_row_up]
  apply mm_row_congr
  intro j
  by_cases hj : j = i
  · subst hj; rw [if_pos rfl, if_pos (by omega)]
  · rw [if_neg hj]
    by_cases h2 : j < i
    · rw [if_pos h2, if_pos (by omega)]
    · rw [if_neg h2, if_neg (by omega)]
theorem lmi_5 (J : Nat → Nat → Int64) (a W : Nat) : lmi J a W 5 = lm J a W := rfl
theorem lmi_lm (J : Nat → Nat → Int64) (a V W : Nat) : lmi (lm J a V) a W 5 = lm J a W := by rw [lmi_5, lm_lm]
theorem lmi_at (J : Nat → Nat → Int64) (a W i : Nat) : lmi J a W i a i = J a i := (mm_row_at J a _ i).trans (if_neg (by omega))
theorem lmi_off (J : Nat → Nat → Int64) {a c : Nat} (W i j : Nat) (h : c ≠ a) : lmi J a W i c j = J c j := mm_row_off J _ j h
theorem dg_0 (i : Nat) : dg 0 i = 0 := by unfold dg; rw [Nat.zero_div]
theorem ev_clear (L : Nat) (I : Nat → Nat → Int32) (J : Nat → Nat → Int64) (w : Nat → Nat) (a : Nat) (ha : isL a) : EV m_Li_clear [.ref a] (hp L I J w) none (hp L I (lm J a 0) w) := by
  unfold EV
  iterate 4 (refine RN.st rfl ?_)
  have key := RN.run (mid := m_Li_clear) (R := (none, hp L I (lm J a 0) w)) (fun i => (4, [some (.ref a), some (.int (nI i))], [.int (nI 5), .int (nI i)], hp L I (lmi J a 0 i) w, 0, 0)) 5 (fun i hi k => ?_) ?_
  · rw [lmi_0] at key
    exact key
  · rw [nI_succ, ← lmi_s, dg_0] at k
    refine RN.icf rfl (nI_ge hi (by omega)) ?_
    iterate 3 (refine RN.st rfl ?_)
    refine RN.last rfl rfl ha.1 (show i < LL L a by rw [isL_l ha]; exact hi) (isL_b ha) ?_
    iterate 4 (refine RN.st rfl ?_)
    exact k
  · refine RN.ict rfl (nI_le (Nat.le_refl _) (by omega)) ?_
    exact RN.ret rfl
theorem lj_0 : Int64.ofNat ((0 : Fin 2) : Nat) = zJ 0 := rfl
/-- how many limbs are used -/
def us (V : Nat) : Nat → Nat
  | 0 => 0
  | n + 1 => if dg V n = 0 then us V n else n + 1
theorem ev_used_loop (L : Nat) (I : Nat → Nat → Int32) (J : Nat → Nat → Int64) (w : Nat → Nat) (a V : Nat) (ha : isL a) : ∀ q, q ≤ 5 → RN m_Li_used (3, [some (.ref a), some (.int (nI q))], [.int (nI q)], hp L I (lm J a V) w, 0, 0) (some (.int (nI (us V q))), hp L I (lm J a V) w)
  | 0, _ => by
    refine RN.ift rfl (show nI 0 ≤ 0 by decide) ?_
    repeat (refine RN.st rfl ?_)
    exact RN.ret rfl
  | q + 1, hq => by
    have ih := ev_used_loop L I J w a V ha q (by omega)
    refine RN.iff rfl (show ¬ nI (q + 1) ≤ 0 from nI_nle (by omega) (by omega)) ?_
    iterate 4 (refine RN.st rfl ?_)
    refine RN.lald (k := q) rfl (nI_pred q) (Or.inl ha.1) (show q < LL L a by rw [isL_l ha]; omega) (isL_b ha) ?_
    rw [show hJ (hp L I (lm J a V) w) a q = zJ (dg V q) from lm_at J a V (by omega)]
    iterate 2 (refine RN.st rfl ?_)
    have hd := dg_lt V q
    by_cases q2 : dg V q = 0
    · have e : us V (q + 1) = us V q := if_pos q2
      rw [e]
      refine RN.ift rfl (lc_eq.mpr (show zJ (dg V q) = zJ 0 by rw [q2]; rfl)) ?_
      iterate 2 (refine RN.st rfl ?_)
      rw [show nI (q + 1) + Int32.ofInt (-1) = nI q from pk_m1' q]
      iterate 1 (refine RN.st rfl ?_)
      exact ih
    · have e : us V (q + 1) = q + 1 := if_neg q2
      rw [e]
      refine RN.iff rfl (fun z => q2 (by have := (zJ_eq (a := dg V q) (b := 0) (by omega) (by omega) (by omega) (by omega)).mp (lc_eq.mp z); omega)) ?_
      iterate 1 (refine RN.st rfl ?_)
      exact RN.ret rfl
theorem ev_used (L : Nat) (I : Nat → Nat → Int32) (J : Nat → Nat → Int64) (w : Nat → Nat) (a V : Nat) (ha : isL a) : EV m_Li_used [.ref a] (hp L I (lm J a V) w) (some (.int (nI (us V 5)))) (hp L I (lm J a V) w) := by
  unfold EV
  iterate 3 (refine RN.st rfl ?_)
  exact ev_used_loop L I J w a V ha 5 (Nat.le_refl _)
