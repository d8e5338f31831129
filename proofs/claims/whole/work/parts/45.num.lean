/-! longs as whole numbers -/
def zJ (z : Int) : Int64 := Int64.ofInt z
theorem zJ_add (a b : Int) : zJ a + zJ b = zJ (a + b) := (Int64.ofInt_add a b).symm
theorem zJ_sub (a b : Int) : zJ a - zJ b = zJ (a - b) := (Int64.ofInt_sub a b).symm
theorem zJ_mul (a b : Int) : zJ a * zJ b = zJ (a * b) := (Int64.ofInt_mul a b).symm
theorem zJ_int {z : Int} (h1 : -2 ^ 63 ≤ z) (h2 : z < 2 ^ 63) : (zJ z).toInt = z := Int64.toInt_ofInt_of_le h1 h2
theorem zJ_of (x : Int64) : x = zJ x.toInt := (Int64.ofInt_toInt x).symm
theorem zJ_lt {a b : Int} (a1 : -2 ^ 63 ≤ a) (a2 : a < 2 ^ 63) (b1 : -2 ^ 63 ≤ b) (b2 : b < 2 ^ 63) : zJ a < zJ b ↔ a < b := by rw [Int64.lt_iff_toInt_lt, zJ_int a1 a2, zJ_int b1 b2]
theorem zJ_le {a b : Int} (a1 : -2 ^ 63 ≤ a) (a2 : a < 2 ^ 63) (b1 : -2 ^ 63 ≤ b) (b2 : b < 2 ^ 63) : zJ a ≤ zJ b ↔ a ≤ b := by rw [Int64.le_iff_toInt_le, zJ_int a1 a2, zJ_int b1 b2]
theorem zJ_eq {a b : Int} (a1 : -2 ^ 63 ≤ a) (a2 : a < 2 ^ 63) (b1 : -2 ^ 63 ≤ b) (b2 : b < 2 ^ 63) : zJ a = zJ b ↔ a = b := by rw [← Int64.toInt_inj, zJ_int a1 a2, zJ_int b1 b2]
theorem zJ_div {a b : Int} (a1 : -2 ^ 63 < a) (a2 : a < 2 ^ 63) (b1 : -2 ^ 63 ≤ b) (b2 : b < 2 ^ 63) : zJ a / zJ b = zJ (a.tdiv b) := by
  have hne : zJ a ≠ Int64.minValue := fun e => by
    have h := congrArg Int64.toInt e
    rw [zJ_int (by omega) a2] at h
    have : Int64.minValue.toInt = -2 ^ 63 := by decide
    omega
  rw [← Int64.toInt_inj, Int64.toInt_div_of_ne_left _ _ hne, zJ_int (by omega) a2, zJ_int b1 b2, zJ_int]
  · have h1 : (a.tdiv b).natAbs ≤ a.natAbs := by rw [Int.natAbs_tdiv]; exact Nat.div_le_self _ _
    omega
  · have h1 : (a.tdiv b).natAbs ≤ a.natAbs := by rw [Int.natAbs_tdiv]; exact Nat.div_le_self _ _
    omega
theorem zJ_rem {a b : Int} (a1 : -2 ^ 63 < a) (a2 : a < 2 ^ 63) (b1 : -2 ^ 63 ≤ b) (b2 : b < 2 ^ 63) : zJ a - zJ a / zJ b * zJ b = zJ (a.tmod b) := by
  rw [zJ_div a1 a2 b1 b2, zJ_mul, zJ_sub]
  congr 1
  have := Int.tmod_add_mul_tdiv a b
  rw [Int.mul_comm] at this
  omega
theorem zJ_remp {a b : Int} (a1 : 0 ≤ a) (a2 : a < 2 ^ 63) (b1 : 0 < b) (b2 : b < 2 ^ 63) : zJ a - zJ a / zJ b * zJ b = zJ (a % b) := by
  rw [zJ_rem (by omega) a2 (by omega) b2, Int.tmod_eq_emod_of_nonneg a1]
section LRULES
variable {mid pc : Nat} {Lo : ML} {st : List Value} {h : MH} {cu su : Nat} {R : MR}
theorem RN.lrem {x y : Int64} (hf : mm_fet mid pc = some (.lrem, 1, 0)) (hy : ¬ y = 0) (k : RN mid (pc + 1, Lo, .long (x - x / y * y) :: st, h, cu, su) R) : RN mid (pc, Lo, .long y :: .long x :: st, h, cu, su) R := by
  refine RN.st ?_ k
  rw [mm_one_of hf]
  show (match (if y = 0 then none else some (x - x / y * y) : Option Int64) with
    | some z => mm_nx (pc + 1) Lo (.long z :: st) h cu su
    | none => none) = _
  rw [if_neg hy]
  rfl
theorem RN.ldiv {x y : Int64} (hf : mm_fet mid pc = some (.ldiv, 1, 0)) (hy : ¬ y = 0) (k : RN mid (pc + 1, Lo, .long (x / y) :: st, h, cu, su) R) : RN mid (pc, Lo, .long y :: .long x :: st, h, cu, su) R := by
  refine RN.st ?_ k
  rw [mm_one_of hf]
  show (match (if y = 0 then none else some (x / y) : Option Int64) with
    | some z => mm_nx (pc + 1) Lo (.long z :: st) h cu su
    | none => none) = _
  rw [if_neg hy]
  rfl
theorem RN.irem {x y : Int32} (hf : mm_fet mid pc = some (.irem, 1, 0)) (hy : ¬ y = 0) (k : RN mid (pc + 1, Lo, .int (x - x / y * y) :: st, h, cu, su) R) : RN mid (pc, Lo, .int y :: .int x :: st, h, cu, su) R := by
  refine RN.st ?_ k
  rw [mm_one_of hf]
  show (match (if y = 0 then none else some (x - x / y * y) : Option Int32) with
    | some z => mm_nx (pc + 1) Lo (.int z :: st) h cu su
    | none => none) = _
  rw [if_neg hy]
  rfl
theorem RN.idiv {x y : Int32} (hf : mm_fet mid pc = some (.idiv, 1, 0)) (hy : ¬ y = 0) (k : RN mid (pc + 1, Lo, .int (x / y) :: st, h, cu, su) R) : RN mid (pc, Lo, .int y :: .int x :: st, h, cu, su) R := by
  refine RN.st ?_ k
  rw [mm_one_of hf]
  show (match (if y = 0 then none else some (x / y) : Option Int32) with
    | some z => mm_nx (pc + 1) Lo (.int z :: st) h cu su
    | none => none) = _
  rw [if_neg hy]
  rfl
end LRULES
theorem lc_ge {x y : Int64} : icP .ge (lg_cmp x y) 0 ↔ y ≤ x := lg_cmp_ge x y
theorem lc_lt {x y : Int64} : icP .lt (lg_cmp x y) 0 ↔ x < y := by
  show lg_cmp x y < 0 ↔ _
  unfold lg_cmp
  simp only [gt_iff_lt, Int64.lt_iff_toInt_lt, ← Int64.toInt_inj]
  repeat' split
  all_goals (simp; try omega)
theorem lc_eq {x y : Int64} : icP .eq (lg_cmp x y) 0 ↔ x = y := by
  show lg_cmp x y = 0 ↔ _
  unfold lg_cmp
  simp only [gt_iff_lt, Int64.lt_iff_toInt_lt, ← Int64.toInt_inj]
  repeat' split
  all_goals (simp; try omega)
theorem lc_ne {x y : Int64} : icP .ne (lg_cmp x y) 0 ↔ ¬ x = y := not_congr lc_eq
theorem lc_le {x y : Int64} : icP .le (lg_cmp x y) 0 ↔ x ≤ y := by
  show lg_cmp x y ≤ 0 ↔ _
  unfold lg_cmp
  simp only [gt_iff_lt, Int64.lt_iff_toInt_lt, Int64.le_iff_toInt_le, ← Int64.toInt_inj]
  repeat' split
  all_goals (simp; try omega)
theorem lc_gt {x y : Int64} : icP .gt (lg_cmp x y) 0 ↔ y < x := by
  show 0 < lg_cmp x y ↔ _
  unfold lg_cmp
  simp only [gt_iff_lt, Int64.lt_iff_toInt_lt, ← Int64.toInt_inj]
  repeat' split
  all_goals (simp; try omega)
/-! Clock.remainder -/
theorem ev_rem (h : MH) (v p : Int) (hp2 : 2 ≤ p) (hpx : p < 2 ^ 62) (v1 : -2 ^ 62 < v) (v2 : v < 2 ^ 62) : EV m_Ck_remainder [.long (zJ v), .long (zJ p)] h (some (.long (zJ (v % p)))) h := by
  unfold EV
  repeat (refine RN.st rfl ?_)
  refine RN.ift rfl (lc_ge.mpr (show zJ 2 ≤ zJ p from (zJ_le (by omega) (by omega) (by omega) (by omega)).mpr hp2)) ?_
  repeat (refine RN.st rfl ?_)
  refine RN.lrem rfl (fun z => by have := (zJ_eq (a := p) (b := 0) (by omega) (by omega) (by omega) (by omega)).mp z; omega) ?_
  rw [zJ_rem (by omega) (by omega) (by omega) (by omega)]
  have hm := Int.emod_nonneg v (show p ≠ 0 by omega)
  have hm2 := Int.emod_lt_of_pos v (show 0 < p by omega)
  have ht : v.tmod p = v % p ∨ (v.tmod p = v % p - p ∧ v.tmod p < 0) := by
    by_cases hv : 0 ≤ v
    · exact Or.inl (Int.tmod_eq_emod_of_nonneg hv)
    · have h1 := Int.tmod_eq_emod (a := v) (b := p)
      by_cases hd : p ∣ v
      · left
        rw [h1]
        simp [hd]
      · right
        have h2 : v.tmod p = v % p - p.natAbs := by rw [h1]; simp [hd, hv]
        have h3 : (p.natAbs : Int) = p := Int.natAbs_of_nonneg (by omega)
        rw [h3] at h2
        exact ⟨h2, by omega⟩
  rcases ht with ht | ⟨ht, hneg⟩
  · repeat (refine RN.st rfl ?_)
    refine RN.ift rfl (lc_ge.mpr (show zJ 0 ≤ zJ (v.tmod p) from (zJ_le (by omega) (by omega) (by omega) (by omega)).mpr (by omega))) ?_
    repeat (refine RN.st rfl ?_)
    rw [← ht]
    exact RN.ret rfl
  · repeat (refine RN.st rfl ?_)
    refine RN.iff rfl (fun z => by have := (zJ_le (a := 0) (b := v.tmod p) (by omega) (by omega) (by omega) (by omega)).mp (lc_ge.mp z); omega) ?_
    repeat (refine RN.st rfl ?_)
    refine RN.ret ?_
    rw [show v % p = v.tmod p + p by omega, ← zJ_add]
    rfl
