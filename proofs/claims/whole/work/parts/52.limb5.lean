/-! Limbs.divideByOdd -/
theorem dg_zero (X : Nat) : dg X 0 = X % 1073741824 := by unfold dg; rw [Nat.pow_zero, Nat.div_one]
theorem dg_mulB (X j : Nat) : dg (1073741824 * X) (j + 1) = dg X j := by
  unfold dg
  rw [Nat.pow_succ, Nat.mul_comm (1073741824 ^ j), ← Nat.div_div_eq_div_mul, Nat.mul_div_cancel_left _ (by decide)]
theorem dv_sub (Q W i : Nat) : Q / 1073741824 ^ i * W - dg Q i * W = 1073741824 * (Q / 1073741824 ^ (i + 1) * W) := by
  have h := dg_step Q i
  rw [h, ← Nat.sub_mul, Nat.add_sub_cancel, Nat.mul_comm _ 1073741824, Nat.mul_assoc]
theorem dv_le (Q W i : Nat) : dg Q i * W ≤ Q / 1073741824 ^ i * W := by
  have h := dg_step Q i
  exact Nat.mul_le_mul_right _ (by omega)
/-- the digit that is found is the answer's -/
theorem dv_dig (Q W i : Nat) (hW : W % 2 = 1) : ((dg (Q / 1073741824 ^ i * W) 0 : Nat) : Int) * nw ((dg W 0 : Nat) : Int) 4 % 1073741824 = ((dg Q i : Nat) : Int) := by
  obtain ⟨c, hc⟩ := nw_ok ((dg W 0 : Nat) : Int) (by rw [dg_zero]; omega)
  rw [dg_zero] at hc ⊢
  rw [dg_zero]
  generalize nw (((W % 1073741824 : Nat)) : Int) 4 = v at hc ⊢
  have e1 : ((dg Q i : Nat) : Int) = ((Q / 1073741824 ^ i : Nat) : Int) % 1073741824 := by unfold dg; rfl
  rw [e1]
  generalize Q / 1073741824 ^ i = X
  have a1 := Nat.div_add_mod W 1073741824
  have a2 := Nat.div_add_mod (X * W) 1073741824
  generalize W % 1073741824 = w0 at a1 hc
  generalize X * W % 1073741824 = r0 at a2 ⊢
  generalize W / 1073741824 = w1 at a1
  generalize X * W / 1073741824 = r1 at a2
  have b1 : (X : Int) * (1073741824 * (w1 : Int) + (w0 : Int)) = 1073741824 * (r1 : Int) + (r0 : Int) := by
    have b2 : (W : Int) = 1073741824 * (w1 : Int) + (w0 : Int) := by omega
    have b3 : ((X * W : Nat) : Int) = 1073741824 * (r1 : Int) + (r0 : Int) := by omega
    rw [← b2, ← Int.natCast_mul, b3]
  have e2 : (r0 : Int) * v = (X : Int) + 1073741824 * ((X : Int) * w1 * v + X * c - r1 * v) := by
    have : (r0 : Int) = X * (1073741824 * (w1 : Int) + (w0 : Int)) - 1073741824 * r1 := by omega
    rw [this]
    grind
  rw [e2, Int.add_mul_emod_self_left]
/-- the row in the inner loop -/
def dvi (J : Nat → Nat → Int64) (a Q W i j : Nat) : Nat → Nat → Int64 := mm_row J a (fun k => if k < i then zJ (dg Q k) else if k < i + j then zJ (dg (Q / 1073741824 ^ i * W - dg Q i * W) (k - i)) else if k < 5 then zJ (dg (Q / 1073741824 ^ i * W) (k - i)) else J a k)
theorem dvi_0 (J : Nat → Nat → Int64) (a Q W i : Nat) : dvi J a Q W i 0 = dv J a Q W i := by
  unfold dvi dv
  apply mm_row_congr
  intro k
  by_cases h : k < i
  · rw [if_pos h, if_pos h]
  · rw [if_neg h, if_neg h, if_neg (by omega)]
theorem dvi_s (J : Nat → Nat → Int64) (a Q W i j : Nat) : mm_up (dvi J a Q W i j) a (i + j) (zJ (dg (Q / 1073741824 ^ i * W - dg Q i * W) j)) = dvi J a Q W i (j + 1) := by
  unfold dvi
  rw [mm_row_up]
  apply mm_row_congr
  intro k
  by_cases h : k = i + j
  · subst h
    rw [if_pos rfl, if_neg (by omega), if_pos (by omega), show i + j - i = j by omega]
  · rw [if_neg h]
    by_cases h1 : k < i
    · rw [if_pos h1, if_pos h1]
    · rw [if_neg h1, if_neg h1]
      by_cases h2 : k < i + j
      · rw [if_pos h2, if_pos (show k < i + (j + 1) by omega)]
      · rw [if_neg h2, if_neg (show ¬ k < i + (j + 1) by omega)]
theorem dvi_e (J : Nat → Nat → Int64) (a Q W i : Nat) (hi : i < 5) : mm_up (dvi J a Q W i (5 - i)) a i (zJ (dg Q i)) = dv J a Q W (i + 1) := by
  unfold dvi dv
  rw [mm_row_up]
  apply mm_row_congr
  intro k
  by_cases h : k = i
  · subst h
    rw [if_pos rfl, if_pos (by omega)]
  · rw [if_neg h]
    by_cases h1 : k < i
    · rw [if_pos h1, if_pos (show k < i + 1 by omega)]
    · rw [if_neg h1, if_neg (show ¬ k < i + 1 by omega)]
      by_cases h2 : k < 5
      · rw [if_pos (show k < i + (5 - i) by omega), if_pos h2, dv_sub, show k - i = (k - (i + 1)) + 1 by omega, dg_mulB]
      · rw [if_neg (show ¬ k < i + (5 - i) by omega), if_neg h2, if_neg h2]
theorem dv_0 (J : Nat → Nat → Int64) (a Q W : Nat) (h : ∀ i, i < 5 → J a i = zJ (dg (Q * W) i)) : dv J a Q W 0 = J := by
  unfold dv
  rw [show (fun j => if j < 0 then zJ (dg Q j) else if j < 5 then zJ (dg (Q / 1073741824 ^ 0 * W) (j - 0)) else J a j) = J a from funext fun j => by
    rw [if_neg (Nat.not_lt_zero j), Nat.pow_zero, Nat.div_one, Nat.sub_zero]
    by_cases hj : j < 5
    · rw [if_pos hj, h j hj]
    · rw [if_neg hj], mm_row_self]
theorem dv_5 (J : Nat → Nat → Int64) (a Q W : Nat) : dv J a Q W 5 = lm J a Q := by
  unfold dv lm
  apply mm_row_congr
  intro k
  by_cases h : k < 5
  · rw [if_pos h, if_pos h]
  · rw [if_neg h, if_neg h, if_neg h]
set_option maxHeartbeats 4000000 in
set_option maxRecDepth 20000 in
theorem ev_divideByOdd (L : Nat) (I : Nat → Nat → Int32) (J : Nat → Nat → Int64) (w : Nat → Nat) (a b Q W : Nat) (hab : a ≠ b) (ha : isL a) (hb : isL b) (hV : ∀ i, i < 5 → J a i = zJ (dg (Q * W) i)) (hW : ∀ i, i < 5 → J b i = zJ (dg W i)) (hodd : W % 2 = 1) : EV m_Li_divideByOdd [.ref a, .ref b] (hp L I J w) none (hp L I (lm J a Q) w) := by
  unfold EV
  iterate 2 (refine RN.st rfl ?_)
  refine RN.lald (k := 0) rfl rfl (Or.inl hb.1) (show 0 < LL L b by rw [isL_l hb]; omega) (isL_b hb) ?_
  rw [show hJ (hp L I J w) b 0 = zJ (dg W 0) from hW 0 (by omega)]
  refine RN.call rfl rfl (ev_invOdd _ ((dg W 0 : Nat) : Int)) ?_
  generalize hv : nw ((dg W 0 : Nat) : Int) 4 = v
  iterate 5 (refine RN.st rfl ?_)
  have key := fun (v5 v7 v9 : Option Value) => RN.run (mid := m_Li_divideByOdd) (R := (none, hp L I (lm J a Q) w)) (fun i => (13, [some (.ref a), some (.ref b), some (.long (zJ v)), none, some (.int (nI i)), (if i = 0 then v5 else some (.long (zJ (dg Q (i - 1))))), none, (if i = 0 then v7 else some (.long (zJ (db (Q / 1073741824 ^ (i - 1) * W) (dg Q (i - 1)) W (5 - (i - 1)))))), none, (if i = 0 then v9 else some (.int (nI (5 - (i - 1)))))], [.int (nI 5), .int (nI i)], hp L I (dv J a Q W i) w, 0, 0)) 5 (fun i hi k => ?_) ?_
  · have key := key none none none
    rw [dv_0 J a Q W hV] at key
    exact key
  · have hq := dg_lt Q i
    rw [nI_succ, ← dvi_e J a Q W i hi] at k
    rw [if_neg (Nat.succ_ne_zero i), if_neg (Nat.succ_ne_zero i), if_neg (Nat.succ_ne_zero i), Nat.add_sub_cancel] at k
    have hbd := dv_dig Q W i hodd
    rw [hv] at hbd
    refine RN.icf rfl (nI_ge hi (by omega)) ?_
    iterate 2 (refine RN.st rfl ?_)
    refine RN.lald (k := i) rfl rfl (Or.inl ha.1) (show i < LL L a by rw [isL_l ha]; omega) (isL_b ha) ?_
    rw [show hJ (hp L I (dv J a Q W i) w) a i = zJ (dg (Q / 1073741824 ^ i * W) 0) from (mm_row_at J a (fun j => if j < i then zJ (dg Q j) else if j < 5 then zJ (dg (Q / 1073741824 ^ i * W) (j - i)) else J a j) i).trans ((if_neg (by omega)).trans ((if_pos hi).trans (by rw [Nat.sub_self])))]
    iterate 2 (refine RN.st rfl ?_)
    rw [zJ_mul]
    iterate 2 (refine RN.st rfl ?_)
    rw [show (zJ (((dg (Q / 1073741824 ^ i * W) 0 : Nat) : Int) * v) &&& 1073741823) = zJ (dg Q i) from (zJ_andZ _).trans (by rw [hbd])]
    iterate 1 (refine RN.st rfl ?_)
    have inner := fun (R : MR) (v7 v9 : Option Value) (kk : RN m_Li_divideByOdd (40, [some (.ref a), some (.ref b), some (.long (zJ v)), none, some (.int (nI i)), some (.long (zJ (dg Q i))), none, some (.long (zJ (db (Q / 1073741824 ^ i * W) (dg Q i) W (5 - i)))), none, some (.int (nI (5 - i)))], [.int (nI 5), .int (nI i + nI (5 - i))], hp L I (dvi J a Q W i (5 - i)) w, 0, 0) R) => RN.run (mid := m_Li_divideByOdd) (R := R) (fun j => (40, [some (.ref a), some (.ref b), some (.long (zJ v)), none, some (.int (nI i)), some (.long (zJ (dg Q i))), none, some (.long (zJ (db (Q / 1073741824 ^ i * W) (dg Q i) W j))), none, some (.int (nI j))], [.int (nI 5), .int (nI i + nI j)], hp L I (dvi J a Q W i j) w, 0, 0)) (5 - i) (fun j hj k2 => ?_) kk
    · have inner := inner (none, hp L I (lm J a Q) w) none none ?_
      · rw [dvi_0, show db (Q / 1073741824 ^ i * W) (dg Q i) W 0 = 0 from by unfold db; rw [Nat.pow_zero, Nat.mod_one, Nat.mod_one, Nat.mul_zero]; rfl] at inner
        iterate 8 (refine RN.st rfl ?_)
        exact inner
      · refine RN.ict rfl (show nI 5 ≤ nI i + nI (5 - i) from by rw [nI_add]; exact nI_le (by omega) (by omega)) ?_
        iterate 3 (refine RN.st rfl ?_)
        refine RN.last (k := i) rfl rfl ha.1 (show i < LL L a by rw [isL_l ha]; omega) (isL_b ha) ?_
        iterate 4 (refine RN.st rfl ?_)
        exact k
    · have hx := dg_lt (Q / 1073741824 ^ i * W) j
      have hw := dg_lt W j
      have hc := db_lt (Q / 1073741824 ^ i * W) (dg Q i) W j hq
      have hqw : dg Q i * dg W j ≤ 1073741824 * 1073741824 := Nat.mul_le_mul (by omega) (by omega)
      have e9 := db_dig (Q / 1073741824 ^ i * W) (dg Q i) W j (dv_le Q W i)
      rw [← dvi_s, ← e9, ← db_next, nI_succ] at k2
      refine RN.icf rfl (show ¬ nI 5 ≤ nI i + nI j from by rw [nI_add]; exact nI_ge (by omega) (by omega)) ?_
      iterate 5 (refine RN.st rfl ?_)
      refine RN.lald (k := i + j) rfl (nI_add i j) (Or.inl ha.1) (show i + j < LL L a by rw [isL_l ha]; omega) (isL_b ha) ?_
      rw [show hJ (hp L I (dvi J a Q W i j) w) a (i + j) = zJ (dg (Q / 1073741824 ^ i * W) j) from (mm_row_at J a (fun k => if k < i then zJ (dg Q k) else if k < i + j then zJ (dg (Q / 1073741824 ^ i * W - dg Q i * W) (k - i)) else if k < 5 then zJ (dg (Q / 1073741824 ^ i * W) (k - i)) else J a k) (i + j)).trans ((if_neg (by omega)).trans ((if_neg (by omega)).trans ((if_pos (by omega)).trans (by rw [show i + j - i = j by omega]))))]
      iterate 3 (refine RN.st rfl ?_)
      refine RN.lald (k := j) rfl rfl (Or.inl hb.1) (show j < LL L b by rw [isL_l hb]; omega) (isL_b hb) ?_
      rw [show hJ (hp L I (dvi J a Q W i j) w) b j = zJ (dg W j) from (mm_row_off J (fun k => if k < i then zJ (dg Q k) else if k < i + j then zJ (dg (Q / 1073741824 ^ i * W - dg Q i * W) (k - i)) else if k < 5 then zJ (dg (Q / 1073741824 ^ i * W) (k - i)) else J a k) j (Ne.symm hab)).trans (hW j (by omega))]
      iterate 1 (refine RN.st rfl ?_)
      rw [zJ_m]
      iterate 2 (refine RN.st rfl ?_)
      rw [zJ_sub, zJ_add]
      iterate 8 (refine RN.st rfl ?_)
      refine RN.last (k := i + j) rfl (nI_add i j) ha.1 (show i + j < LL L a by rw [isL_l ha]; omega) (isL_b ha) ?_
      rw [show (zJ (db (Q / 1073741824 ^ i * W) (dg Q i) W j + (((dg (Q / 1073741824 ^ i * W) j : Nat) : Int) - ((dg Q i * dg W j : Nat) : Int))) &&& 1073741823) = zJ ((db (Q / 1073741824 ^ i * W) (dg Q i) W j + (((dg (Q / 1073741824 ^ i * W) j : Nat) : Int) - ((dg Q i * dg W j : Nat) : Int))) % 1073741824) from zJ_andZ _]
      iterate 3 (refine RN.st rfl ?_)
      rw [zJ_shrZ _ (by omega) (by omega)]
      iterate 7 (refine RN.st rfl ?_)
      exact k2
  · rw [dv_5]
    refine RN.ict rfl (nI_le (Nat.le_refl _) (by omega)) ?_
    exact RN.ret rfl
