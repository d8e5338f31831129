/-! Limbs: inverseOfOdd, divideByOdd -/
/-- Newton's steps towards the inverse modulo 2 ^ 30 -/
def nw (o : Int) : Nat → Int
  | 0 => o
  | n + 1 => nw o n * ((2 - o * nw o n) % 1073741824) % 1073741824
theorem ev_invOdd (h : MH) (o : Int) : EV m_Li_inverseOfOdd [.long (zJ o)] h (some (.long (zJ (nw o 4)))) h := by
  unfold EV
  iterate 6 (refine RN.st rfl ?_)
  refine RN.run (fun i => (8, [some (.long (zJ o)), none, some (.long (zJ (nw o i))), none, some (.int (nI i))], [.int (nI 4), .int (nI i)], h, 0, 0)) 4 (fun i hi k => ?_) ?_
  · rw [nI_succ] at k
    refine RN.icf rfl (nI_ge hi (by omega)) ?_
    iterate 5 (refine RN.st rfl ?_)
    rw [zJ_mul]
    iterate 1 (refine RN.st rfl ?_)
    rw [show (2 : Int64) - zJ (o * nw o i) = zJ (2 - o * nw o i) from zJ_sub 2 _]
    iterate 2 (refine RN.st rfl ?_)
    rw [show (zJ (2 - o * nw o i) &&& 1073741823) = zJ ((2 - o * nw o i) % 1073741824) from zJ_andZ _]
    iterate 1 (refine RN.st rfl ?_)
    rw [zJ_mul]
    iterate 2 (refine RN.st rfl ?_)
    rw [show (zJ (nw o i * ((2 - o * nw o i) % 1073741824)) &&& 1073741823) = zJ (nw o i * ((2 - o * nw o i) % 1073741824) % 1073741824) from zJ_andZ _]
    iterate 5 (refine RN.st rfl ?_)
    exact k
  · refine RN.ict rfl (nI_le (Nat.le_refl _) (by omega)) ?_
    iterate 1 (refine RN.st rfl ?_)
    exact RN.ret rfl
/-- one step: if o x is 1 modulo m, and m is at least its own half of 2 ^ 30, then modulo 2 ^ 30 or m m -/
theorem nw_step {o x m : Int} (hm : ∃ c, o * x = 1 + c * m) (hd : ∃ e, 1073741824 = m * e) : ∃ c, o * (x * ((2 - o * x) % 1073741824) % 1073741824) = 1 + c * m := by
  obtain ⟨c, hc⟩ := hm
  obtain ⟨e, he⟩ := hd
  have h1 := Int.mul_ediv_add_emod (2 - o * x) 1073741824
  have h2 := Int.mul_ediv_add_emod (x * ((2 - o * x) % 1073741824)) 1073741824
  generalize (2 - o * x) / 1073741824 = q1 at h1
  generalize (x * ((2 - o * x) % 1073741824)) / 1073741824 = q2 at h2
  generalize (2 - o * x) % 1073741824 = r1 at h1 h2 ⊢
  generalize x * r1 % 1073741824 = r2 at h2 ⊢
  have e1 : r1 = 2 - o * x - m * e * q1 := by rw [← he]; omega
  have e2 : r2 = x * r1 - m * e * q2 := by rw [← he]; omega
  refine ⟨-(c * c * m) - o * x * e * q1 - o * e * q2, ?_⟩
  rw [e2, e1]
  have e3 : o * (x * (2 - o * x - m * e * q1) - m * e * q2) = (o * x) * (2 - (o * x)) - (o * x) * (m * e * q1) - o * (m * e * q2) := by grind
  rw [e3]
  have e4 : (o * x) * (2 - (o * x)) = 1 - c * c * m * m := by rw [hc]; grind
  rw [e4]
  grind
theorem nw_sq {o x m : Int} (hm : ∃ c, o * x = 1 + c * m) (hd : ∃ e, 1073741824 = m * m * e) : ∃ c, o * (x * ((2 - o * x) % 1073741824) % 1073741824) = 1 + c * (m * m) := by
  obtain ⟨c, hc⟩ := hm
  obtain ⟨e, he⟩ := hd
  have h1 := Int.mul_ediv_add_emod (2 - o * x) 1073741824
  have h2 := Int.mul_ediv_add_emod (x * ((2 - o * x) % 1073741824)) 1073741824
  generalize (2 - o * x) / 1073741824 = q1 at h1
  generalize (x * ((2 - o * x) % 1073741824)) / 1073741824 = q2 at h2
  generalize (2 - o * x) % 1073741824 = r1 at h1 h2 ⊢
  generalize x * r1 % 1073741824 = r2 at h2 ⊢
  have e1 : r1 = 2 - o * x - m * m * e * q1 := by rw [← he]; omega
  have e2 : r2 = x * r1 - m * m * e * q2 := by rw [← he]; omega
  refine ⟨-(c * c) - o * x * e * q1 - o * e * q2, ?_⟩
  rw [e2, e1]
  have e4 : (o * x) * (2 - (o * x)) = 1 - c * c * m * m := by rw [hc]; grind
  grind
theorem nw_ok (o : Int) (ho : o % 2 = 1) : ∃ c, o * nw o 4 = 1 + c * 1073741824 := by
  have h0 : ∃ c, o * nw o 0 = 1 + c * 8 := by
    have : o % 8 = 1 ∨ o % 8 = 3 ∨ o % 8 = 5 ∨ o % 8 = 7 := by omega
    have hq := Int.mul_ediv_add_emod o 8
    show ∃ c, o * o = _
    generalize o / 8 = q at hq
    rcases this with h | h | h | h <;> rw [h] at hq
    · exact ⟨8 * q * q + 2 * q, by rw [← hq]; grind⟩
    · exact ⟨8 * q * q + 6 * q + 1, by rw [← hq]; grind⟩
    · exact ⟨8 * q * q + 10 * q + 3, by rw [← hq]; grind⟩
    · exact ⟨8 * q * q + 14 * q + 6, by rw [← hq]; grind⟩
  have h1 : ∃ c, o * nw o 1 = 1 + c * 64 := nw_sq h0 ⟨16777216, rfl⟩
  have h2 : ∃ c, o * nw o 2 = 1 + c * 4096 := nw_sq h1 ⟨262144, rfl⟩
  have h3 : ∃ c, o * nw o 3 = 1 + c * 16777216 := nw_sq h2 ⟨64, rfl⟩
  have h3' : ∃ c, o * nw o 3 = 1 + c * 32768 := by
    obtain ⟨c, hc⟩ := h3
    exact ⟨c * 512, by rw [hc]; omega⟩
  exact nw_sq h3' ⟨1, rfl⟩
/-! divideByOdd: V = Q W, W odd -/
/-- the row while it is divided: i limbs of the answer, the rest of what is left -/
def dv (J : Nat → Nat → Int64) (a Q W i : Nat) : Nat → Nat → Int64 := mm_row J a (fun j => if j < i then zJ (dg Q j) else if j < 5 then zJ (dg (Q / 1073741824 ^ i * W) (j - i)) else J a j)
/-- the inner loop: the borrow behind j limbs of X - q W, where X holds the limbs from i on -/
def db (X q W j : Nat) : Int := (((X % 1073741824 ^ j : Nat) : Int) - ((q * (W % 1073741824 ^ j) : Nat) : Int)) / ((1073741824 ^ j : Nat) : Int)
theorem db_step (X q W j : Nat) : db X q W j + (((dg X j : Nat) : Int) - ((q * dg W j : Nat) : Int)) = (((X % 1073741824 ^ (j + 1) : Nat) : Int) - ((q * (W % 1073741824 ^ (j + 1)) : Nat) : Int)) / ((1073741824 ^ j : Nat) : Int) := by
  unfold db
  have hB : 0 < 1073741824 ^ j := Nat.pow_pos (by decide)
  rw [mod_step X, mod_step W]
  have e : (((X % 1073741824 ^ j + dg X j * 1073741824 ^ j : Nat) : Int) - ((q * (W % 1073741824 ^ j + dg W j * 1073741824 ^ j) : Nat) : Int)) = (((X % 1073741824 ^ j : Nat) : Int) - ((q * (W % 1073741824 ^ j) : Nat) : Int)) + (((dg X j : Nat) : Int) - ((q * dg W j : Nat) : Int)) * ((1073741824 ^ j : Nat) : Int) := by
    rw [Nat.mul_add, ← Nat.mul_assoc, Int.natCast_add, Int.natCast_add, Int.natCast_mul (dg X j), Int.natCast_mul (q * dg W j), Int.sub_mul]
    omega
  rw [e, Int.add_mul_ediv_right _ _ (by omega)]
theorem db_dig (X q W j : Nat) (hWV : q * W ≤ X) : (db X q W j + (((dg X j : Nat) : Int) - ((q * dg W j : Nat) : Int))) % 1073741824 = ((dg (X - q * W) j : Nat) : Int) := by
  rw [db_step]
  have hB : 0 < 1073741824 ^ j := Nat.pow_pos (by decide)
  have hN : ((1073741824 ^ (j + 1) : Nat) : Int) = ((1073741824 ^ j : Nat) : Int) * 1073741824 := by rw [Nat.pow_succ, Int.natCast_mul]; rfl
  have fx : ∀ U : Nat, ((U : Nat) : Int) = ((1073741824 ^ j : Nat) : Int) * 1073741824 * ((U / 1073741824 ^ (j + 1) : Nat) : Int) + ((U % 1073741824 ^ (j + 1) : Nat) : Int) := by
    intro U
    have e := Nat.div_add_mod U (1073741824 ^ (j + 1))
    rw [← hN, ← Int.natCast_mul, ← Int.natCast_add, e]
  have f1 := fx X
  have f2 := fx W
  have e4 : ((dg (X - q * W) j : Nat) : Int) = ((X - q * W : Nat) : Int) / ((1073741824 ^ j : Nat) : Int) % 1073741824 := by
    unfold dg
    rw [Int.natCast_emod, Int.natCast_ediv]
    rfl
  have e3 : ((X - q * W : Nat) : Int) = (((X % 1073741824 ^ (j + 1) : Nat) : Int) - ((q * (W % 1073741824 ^ (j + 1)) : Nat) : Int)) + (1073741824 * (((X / 1073741824 ^ (j + 1) : Nat) : Int) - (q : Int) * ((W / 1073741824 ^ (j + 1) : Nat) : Int))) * ((1073741824 ^ j : Nat) : Int) := by
    rw [Int.natCast_sub hWV, Int.natCast_mul, Int.natCast_mul, f1, f2]
    generalize ((X / 1073741824 ^ (j + 1) : Nat) : Int) = x1
    generalize ((W / 1073741824 ^ (j + 1) : Nat) : Int) = x2
    generalize ((X % 1073741824 ^ (j + 1) : Nat) : Int) = x3
    generalize ((W % 1073741824 ^ (j + 1) : Nat) : Int) = x4
    generalize ((1073741824 ^ j : Nat) : Int) = x5
    grind
  rw [e4, e3, Int.add_mul_ediv_right _ _ (by omega), Int.add_mul_emod_self_left]
theorem db_next (X q W j : Nat) : (db X q W j + (((dg X j : Nat) : Int) - ((q * dg W j : Nat) : Int))) / 1073741824 = db X q W (j + 1) := by
  rw [db_step]
  unfold db
  rw [Int.ediv_ediv_of_nonneg (show (0 : Int) ≤ ((1073741824 ^ j : Nat) : Int) from Int.natCast_nonneg _), show ((1073741824 ^ (j + 1) : Nat) : Int) = ((1073741824 ^ j : Nat) : Int) * 1073741824 from by rw [Nat.pow_succ, Int.natCast_mul]; rfl]
theorem db_lt (X q W j : Nat) (hq : q < 1073741824) : -1073741824 ≤ db X q W j ∧ db X q W j ≤ 0 := by
  unfold db
  have hB : 0 < 1073741824 ^ j := Nat.pow_pos (by decide)
  have h1 : X % 1073741824 ^ j < 1073741824 ^ j := Nat.mod_lt _ hB
  have h2 : W % 1073741824 ^ j < 1073741824 ^ j := Nat.mod_lt _ hB
  have h3 : q * (W % 1073741824 ^ j) ≤ 1073741824 * 1073741824 ^ j := Nat.mul_le_mul (by omega) (by omega)
  have h4 : ((1073741824 * 1073741824 ^ j : Nat) : Int) = 1073741824 * ((1073741824 ^ j : Nat) : Int) := by rw [Int.natCast_mul]; rfl
  constructor
  · rw [Int.le_ediv_iff_mul_le (by omega), Int.neg_mul]; omega
  · have : (((X % 1073741824 ^ j : Nat) : Int) - ((q * (W % 1073741824 ^ j) : Nat) : Int)) / ((1073741824 ^ j : Nat) : Int) < 1 := by
      rw [Int.ediv_lt_iff_lt_mul (by omega)]; omega
    omega
