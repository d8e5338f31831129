/-! Limbs: compare, timesAndAdd, subtract, halve -/
theorem lm_self (J : Nat → Nat → Int64) (a V : Nat) (h : ∀ i, i < 5 → J a i = zJ (dg V i)) : lm J a V = J := by
  unfold lm
  rw [show (fun i => if i < 5 then zJ (dg V i) else J a i) = J a from funext fun i => by
    by_cases hi : i < 5
    · rw [if_pos hi, h i hi]
    · rw [if_neg hi], mm_row_self]
theorem dg_step (V i : Nat) : V / 1073741824 ^ i = V / 1073741824 ^ (i + 1) * 1073741824 + dg V i := by
  unfold dg
  rw [Nat.pow_succ, ← Nat.div_div_eq_div_mul]
  have := Nat.div_add_mod (V / 1073741824 ^ i) 1073741824
  rw [Nat.mul_comm] at this
  omega
theorem ev_compare_loop (L : Nat) (I : Nat → Nat → Int32) (J : Nat → Nat → Int64) (w : Nat → Nat) (a b V W : Nat) (ha : isL a) (hb : isL b) (hV : ∀ i, i < 5 → J a i = zJ (dg V i)) (hW : ∀ i, i < 5 → J b i = zJ (dg W i)) (r : Int32) (h1 : V < W → r = -1) (h2 : W < V → r = 1) (h0 : V = W → r = 0) : ∀ q, q ≤ 5 → V / 1073741824 ^ q = W / 1073741824 ^ q → RN m_Li_compare (3, [some (.ref a), some (.ref b), some (.int (nI q + Int32.ofInt (-1)))], [.int (nI q + Int32.ofInt (-1))], hp L I J w, 0, 0) (some (.int r), hp L I J w)
  | 0, _, he => by
    refine RN.ift rfl (show (nI 0 + Int32.ofInt (-1) : Int32) < 0 by decide) ?_
    rw [h0 (by simpa using he)]
    iterate 1 (refine RN.st rfl ?_)
    exact RN.ret rfl
  | q + 1, hq, he => by
    have d1 := dg_step V q
    have d2 := dg_step W q
    have dl1 := dg_lt V q
    have dl2 := dg_lt W q
    rw [pk_m1' q]
    refine RN.iff rfl (show ¬ nI q < 0 from nI_pos (by omega)) ?_
    iterate 2 (refine RN.st rfl ?_)
    refine RN.lald (k := q) rfl rfl (Or.inl ha.1) (show q < LL L a by rw [isL_l ha]; omega) (isL_b ha) ?_
    rw [show hJ (hp L I J w) a q = zJ (dg V q) from hV q (by omega)]
    iterate 2 (refine RN.st rfl ?_)
    refine RN.lald (k := q) rfl rfl (Or.inl hb.1) (show q < LL L b by rw [isL_l hb]; omega) (isL_b hb) ?_
    rw [show hJ (hp L I J w) b q = zJ (dg W q) from hW q (by omega)]
    iterate 1 (refine RN.st rfl ?_)
    by_cases e : dg V q = dg W q
    · refine RN.ift rfl (lc_eq.mpr (by rw [e])) ?_
      have ih := ev_compare_loop L I J w a b V W ha hb hV hW r h1 h2 h0 q (by omega) (by rw [d1, d2, he, e])
      iterate 3 (refine RN.st rfl ?_)
      exact ih
    · refine RN.iff rfl (fun z => e (by have := (zJ_eq (a := dg V q) (b := dg W q) (by omega) (by omega) (by omega) (by omega)).mp (lc_eq.mp z); omega)) ?_
      iterate 2 (refine RN.st rfl ?_)
      refine RN.lald (k := q) rfl rfl (Or.inl ha.1) (show q < LL L a by rw [isL_l ha]; omega) (isL_b ha) ?_
      rw [show hJ (hp L I J w) a q = zJ (dg V q) from hV q (by omega)]
      iterate 2 (refine RN.st rfl ?_)
      refine RN.lald (k := q) rfl rfl (Or.inl hb.1) (show q < LL L b by rw [isL_l hb]; omega) (isL_b hb) ?_
      rw [show hJ (hp L I J w) b q = zJ (dg W q) from hW q (by omega)]
      iterate 1 (refine RN.st rfl ?_)
      by_cases lt : dg V q < dg W q
      · have hlt : V < W := by
          apply Classical.byContradiction
          intro hn
          have : W / 1073741824 ^ q ≤ V / 1073741824 ^ q := Nat.div_le_div_right (by omega)
          omega
        rw [h1 hlt]
        refine RN.iff rfl (fun z => by have := (zJ_le (a := dg W q) (b := dg V q) (by omega) (by omega) (by omega) (by omega)).mp (lc_ge.mp z); omega) ?_
        iterate 2 (refine RN.st rfl ?_)
        exact RN.ret rfl
      · have hlt : W < V := by
          apply Classical.byContradiction
          intro hn
          have : V / 1073741824 ^ q ≤ W / 1073741824 ^ q := Nat.div_le_div_right (by omega)
          omega
        rw [h2 hlt]
        refine RN.ift rfl (lc_ge.mpr ((zJ_le (by omega) (by omega) (by omega) (by omega)).mpr (by omega))) ?_
        iterate 1 (refine RN.st rfl ?_)
        exact RN.ret rfl
theorem ev_compare (L : Nat) (I : Nat → Nat → Int32) (J : Nat → Nat → Int64) (w : Nat → Nat) (a b V W : Nat) (ha : isL a) (hb : isL b) (hV : ∀ i, i < 5 → J a i = zJ (dg V i)) (hW : ∀ i, i < 5 → J b i = zJ (dg W i)) (lV : V < 1073741824 ^ 5) (lW : W < 1073741824 ^ 5) (r : Int32) (h1 : V < W → r = -1) (h2 : W < V → r = 1) (h0 : V = W → r = 0) : EV m_Li_compare [.ref a, .ref b] (hp L I J w) (some (.int r)) (hp L I J w) := by
  have k := ev_compare_loop L I J w a b V W ha hb hV hW r h1 h2 h0 5 (Nat.le_refl _) (by rw [Nat.div_eq_of_lt lV, Nat.div_eq_of_lt lW])
  unfold EV
  iterate 3 (refine RN.st rfl ?_)
  rw [show nI 5 + Int32.ofInt (-1) = Int32.ofInt 4 from by decide] at k
  exact k
/-- the carry behind i limbs of V t + m -/
def cy_ (V t m i : Nat) : Nat := (V % 1073741824 ^ i * t + m) / 1073741824 ^ i
theorem mod_step (V i : Nat) : V % 1073741824 ^ (i + 1) = V % 1073741824 ^ i + dg V i * 1073741824 ^ i := by
  unfold dg
  rw [Nat.pow_succ, Nat.mod_mul]
  rw [Nat.mul_comm (1073741824 ^ i)]
theorem cy_step (V t m i : Nat) : cy_ V t m i + dg V i * t = (V % 1073741824 ^ (i + 1) * t + m) / 1073741824 ^ i := by
  unfold cy_
  rw [mod_step, Nat.add_mul]
  have hB : 0 < 1073741824 ^ i := Nat.pow_pos (by decide)
  rw [show V % 1073741824 ^ i * t + dg V i * 1073741824 ^ i * t + m = (V % 1073741824 ^ i * t + m) + 1073741824 ^ i * (dg V i * t) by
    rw [show dg V i * 1073741824 ^ i * t = 1073741824 ^ i * (dg V i * t) by rw [Nat.mul_comm (dg V i), Nat.mul_assoc]]
    omega]
  rw [Nat.add_mul_div_left _ _ hB]
theorem cy_dig (V t m i : Nat) : (cy_ V t m i + dg V i * t) % 1073741824 = dg (V * t + m) i := by
  rw [cy_step]
  have hB : 0 < 1073741824 ^ i := Nat.pow_pos (by decide)
  have e := Nat.div_add_mod V (1073741824 ^ (i + 1))
  unfold dg
  have e2 : V * t + m = (V % 1073741824 ^ (i + 1) * t + m) + 1073741824 ^ i * (1073741824 * (V / 1073741824 ^ (i + 1) * t)) := by
    have e3 : V * t = (1073741824 ^ (i + 1) * (V / 1073741824 ^ (i + 1)) + V % 1073741824 ^ (i + 1)) * t := by rw [e]
    rw [e3, Nat.add_mul, Nat.pow_succ, Nat.mul_assoc (1073741824 ^ i), Nat.mul_assoc (1073741824 ^ i), Nat.mul_assoc 1073741824]
    omega
  rw [e2, Nat.add_mul_div_left _ _ hB, Nat.add_mul_mod_self_left]
theorem cy_next (V t m i : Nat) : (cy_ V t m i + dg V i * t) / 1073741824 = cy_ V t m (i + 1) := by
  rw [cy_step]
  unfold cy_
  rw [Nat.div_div_eq_div_mul, ← Nat.pow_succ]
theorem cy_lt (V t m i : Nat) (ht : t < 2 ^ 31) (hm : m < 2 ^ 31) : cy_ V t m i < 2 ^ 31 := by
  unfold cy_
  have hB : 0 < 1073741824 ^ i := Nat.pow_pos (by decide)
  rw [Nat.div_lt_iff_lt_mul hB]
  have h1 : V % 1073741824 ^ i < 1073741824 ^ i := Nat.mod_lt _ hB
  have h2 : V % 1073741824 ^ i * t ≤ (1073741824 ^ i - 1) * (2 ^ 31 - 1) := Nat.mul_le_mul (by omega) (by omega)
  have h3 : (1073741824 ^ i - 1) * (2 ^ 31 - 1) + (2 ^ 31 - 1) = 1073741824 ^ i * (2 ^ 31 - 1) := by
    obtain ⟨q, hq⟩ : ∃ q, 1073741824 ^ i = q + 1 := ⟨1073741824 ^ i - 1, by omega⟩
    rw [hq, Nat.add_sub_cancel, Nat.add_mul, Nat.one_mul]
  rw [Nat.mul_comm (2 ^ 31)]
  have h4 : 1073741824 ^ i * (2 ^ 31 - 1) + 1 ≤ 1073741824 ^ i * 2 ^ 31 := by
    have : 1073741824 ^ i * 2 ^ 31 = 1073741824 ^ i * (2 ^ 31 - 1) + 1073741824 ^ i := by
      rw [show (2 : Nat) ^ 31 = (2 ^ 31 - 1) + 1 from rfl, Nat.mul_add, Nat.mul_one]
    omega
  omega
theorem zJ_c (a b : Nat) : zJ a + zJ b = zJ ((a + b : Nat) : Int) := by rw [zJ_add]; rfl
theorem zJ_m (a b : Nat) : zJ a * zJ b = zJ ((a * b : Nat) : Int) := by rw [zJ_mul]; rfl
theorem zJ_andM (n : Nat) : zJ n &&& 1073741823 = zJ ((n % 1073741824 : Nat) : Int) := by
  rw [zJ_and 30 (by decide) 1073741823 (by decide)]
  rfl
theorem zJ_shr30 (n : Nat) (h : n < 2 ^ 63) : zJ n >>> ((Int8.ofInt 30).toInt32.toInt64 &&& 63) = zJ ((n / 1073741824 : Nat) : Int) := by
  rw [zJ_shr (by omega) (by omega) _ 30 (by decide)]
  rfl
theorem ev_timesAndAdd (L : Nat) (I : Nat → Nat → Int32) (J : Nat → Nat → Int64) (w : Nat → Nat) (a V t m : Nat) (ha : isL a) (hV : ∀ i, i < 5 → J a i = zJ (dg V i)) (ht : t < 2 ^ 31) (hm : m < 2 ^ 31) : EV m_Li_timesAndAdd [.ref a, .long (zJ t), .long (zJ m)] (hp L I J w) none (hp L I (lm J a (V * t + m)) w) := by
  unfold EV
  iterate 6 (refine RN.st rfl ?_)
  have key := RN.run (mid := m_Li_timesAndAdd) (R := (none, hp L I (lm J a (V * t + m)) w)) (fun i => (9, [some (.ref a), some (.long (zJ t)), none, some (.long (zJ m)), none, some (.long (zJ (cy_ V t m i))), none, some (.int (nI i))], [.int (nI 5), .int (nI i)], hp L I (lmi J a (V * t + m) i) w, 0, 0)) 5 (fun i hi k => ?_) ?_
  · rw [lmi_0, show cy_ V t m 0 = m from by unfold cy_; rw [Nat.pow_zero, Nat.mod_one, Nat.zero_mul, Nat.zero_add, Nat.div_one]] at key
    exact key
  · have hd := dg_lt V i
    have hc := cy_lt V t m i ht hm
    have hdt : dg V i * t ≤ 1073741824 * 2 ^ 31 := Nat.mul_le_mul (by omega) (by omega)
    rw [nI_succ, ← lmi_s, ← cy_dig, ← cy_next] at k
    refine RN.icf rfl (nI_ge hi (by omega)) ?_
    iterate 3 (refine RN.st rfl ?_)
    refine RN.lald (k := i) rfl rfl (Or.inl ha.1) (show i < LL L a by rw [isL_l ha]; omega) (isL_b ha) ?_
    rw [show hJ (hp L I (lmi J a (V * t + m) i) w) a i = zJ (dg V i) from (lmi_at J a (V * t + m) i).trans (hV i hi)]
    iterate 3 (refine RN.st rfl ?_)
    rw [zJ_m, zJ_c]
    iterate 6 (refine RN.st rfl ?_)
    refine RN.last (k := i) rfl rfl ha.1 (show i < LL L a by rw [isL_l ha]; omega) (isL_b ha) ?_
    rw [show (zJ ((cy_ V t m i + dg V i * t : Nat) : Int) &&& 1073741823) = zJ (((cy_ V t m i + dg V i * t) % 1073741824 : Nat) : Int) from zJ_andM _]
    iterate 3 (refine RN.st rfl ?_)
    rw [zJ_shr30 _ (by omega)]
    iterate 5 (refine RN.st rfl ?_)
    exact k
  · refine RN.ict rfl (nI_le (Nat.le_refl _) (by omega)) ?_
    exact RN.ret rfl
/-- the borrow behind i limbs of V - W -/
def bw_ (V W i : Nat) : Int := (((V % 1073741824 ^ i : Nat) : Int) - ((W % 1073741824 ^ i : Nat) : Int)) / ((1073741824 ^ i : Nat) : Int)
theorem bw_step (V W i : Nat) : bw_ V W i + ((dg V i : Nat) : Int) - ((dg W i : Nat) : Int) = (((V % 1073741824 ^ (i + 1) : Nat) : Int) - ((W % 1073741824 ^ (i + 1) : Nat) : Int)) / ((1073741824 ^ i : Nat) : Int) := by
  unfold bw_
  have hB : 0 < 1073741824 ^ i := Nat.pow_pos (by decide)
  rw [mod_step V, mod_step W]
  have e : (((V % 1073741824 ^ i + dg V i * 1073741824 ^ i : Nat) : Int) - ((W % 1073741824 ^ i + dg W i * 1073741824 ^ i : Nat) : Int)) = (((V % 1073741824 ^ i : Nat) : Int) - ((W % 1073741824 ^ i : Nat) : Int)) + (((dg V i : Nat) : Int) - ((dg W i : Nat) : Int)) * ((1073741824 ^ i : Nat) : Int) := by
    rw [Int.natCast_add, Int.natCast_add, Int.natCast_mul, Int.natCast_mul, Int.sub_mul]
    omega
  rw [e, Int.add_mul_ediv_right _ _ (by omega)]
  omega
theorem bw_dig (V W i : Nat) (hWV : W ≤ V) : (bw_ V W i + ((dg V i : Nat) : Int) - ((dg W i : Nat) : Int)) % 1073741824 = ((dg (V - W) i : Nat) : Int) := by
  rw [bw_step]
  have hB : 0 < 1073741824 ^ i := Nat.pow_pos (by decide)
  have e1 := Nat.div_add_mod V (1073741824 ^ (i + 1))
  have e2 := Nat.div_add_mod W (1073741824 ^ (i + 1))
  have e3 : ((V - W : Nat) : Int) = (((V % 1073741824 ^ (i + 1) : Nat) : Int) - ((W % 1073741824 ^ (i + 1) : Nat) : Int)) + (1073741824 * (((V / 1073741824 ^ (i + 1) : Nat) : Int) - ((W / 1073741824 ^ (i + 1) : Nat) : Int))) * ((1073741824 ^ i : Nat) : Int) := by
    have hN : ((1073741824 ^ (i + 1) : Nat) : Int) = ((1073741824 ^ i : Nat) : Int) * 1073741824 := by rw [Nat.pow_succ, Int.natCast_mul]; rfl
    have fx : ∀ U : Nat, ((U : Nat) : Int) = ((1073741824 ^ i : Nat) : Int) * 1073741824 * ((U / 1073741824 ^ (i + 1) : Nat) : Int) + ((U % 1073741824 ^ (i + 1) : Nat) : Int) := by
      intro U
      have e := Nat.div_add_mod U (1073741824 ^ (i + 1))
      rw [← hN, ← Int.natCast_mul, ← Int.natCast_add, e]
    have f1 := fx V
    have f2 := fx W
    rw [Int.natCast_sub hWV]
    rw [show (1073741824 * (((V / 1073741824 ^ (i + 1) : Nat) : Int) - ((W / 1073741824 ^ (i + 1) : Nat) : Int))) * ((1073741824 ^ i : Nat) : Int) = ((1073741824 ^ i : Nat) : Int) * 1073741824 * ((V / 1073741824 ^ (i + 1) : Nat) : Int) - ((1073741824 ^ i : Nat) : Int) * 1073741824 * ((W / 1073741824 ^ (i + 1) : Nat) : Int) by
      rw [Int.mul_comm, ← Int.mul_assoc, Int.mul_sub]]
    omega
  have e4 : ((dg (V - W) i : Nat) : Int) = ((V - W : Nat) : Int) / ((1073741824 ^ i : Nat) : Int) % 1073741824 := by
    unfold dg
    rw [Int.natCast_emod, Int.natCast_ediv]
    rfl
  rw [e4, e3, Int.add_mul_ediv_right _ _ (by omega), Int.add_mul_emod_self_left]
theorem bw_next (V W i : Nat) : (bw_ V W i + ((dg V i : Nat) : Int) - ((dg W i : Nat) : Int)) / 1073741824 = bw_ V W (i + 1) := by
  rw [bw_step]
  unfold bw_
  rw [Int.ediv_ediv_of_nonneg (show (0 : Int) ≤ ((1073741824 ^ i : Nat) : Int) from Int.natCast_nonneg _), show ((1073741824 ^ (i + 1) : Nat) : Int) = ((1073741824 ^ i : Nat) : Int) * 1073741824 from by rw [Nat.pow_succ, Int.natCast_mul]; rfl]
theorem bw_lt (V W i : Nat) : -1 ≤ bw_ V W i ∧ bw_ V W i ≤ 0 := by
  unfold bw_
  have hB : 0 < 1073741824 ^ i := Nat.pow_pos (by decide)
  have h1 : V % 1073741824 ^ i < 1073741824 ^ i := Nat.mod_lt _ hB
  have h2 : W % 1073741824 ^ i < 1073741824 ^ i := Nat.mod_lt _ hB
  constructor
  · rw [Int.le_ediv_iff_mul_le (by omega)]; omega
  · have : (((V % 1073741824 ^ i : Nat) : Int) - ((W % 1073741824 ^ i : Nat) : Int)) / ((1073741824 ^ i : Nat) : Int) < 1 := by
      rw [Int.ediv_lt_iff_lt_mul (by omega)]; omega
    omega
theorem zJ_andZ (z : Int) : zJ z &&& 1073741823 = zJ (z % 1073741824) := by
  rw [zJ_and 30 (by decide) 1073741823 (by decide)]
  rfl
theorem zJ_shrZ (z : Int) (h1 : -2 ^ 63 ≤ z) (h2 : z < 2 ^ 63) : zJ z >>> ((Int8.ofInt 30).toInt32.toInt64 &&& 63) = zJ (z / 1073741824) := by
  rw [zJ_shr h1 h2 _ 30 (by decide)]
  rfl
theorem ev_subtract (L : Nat) (I : Nat → Nat → Int32) (J : Nat → Nat → Int64) (w : Nat → Nat) (a b V W : Nat) (hab : a ≠ b) (ha : isL a) (hb : isL b) (hV : ∀ i, i < 5 → J a i = zJ (dg V i)) (hW : ∀ i, i < 5 → J b i = zJ (dg W i)) (hWV : W ≤ V) : EV m_Li_subtract [.ref a, .ref b] (hp L I J w) none (hp L I (lm J a (V - W)) w) := by
  unfold EV
  iterate 6 (refine RN.st rfl ?_)
  have key := RN.run (mid := m_Li_subtract) (R := (none, hp L I (lm J a (V - W)) w)) (fun i => (8, [some (.ref a), some (.ref b), some (.long (zJ (bw_ V W i))), none, some (.int (nI i))], [.int (nI 5), .int (nI i)], hp L I (lmi J a (V - W) i) w, 0, 0)) 5 (fun i hi k => ?_) ?_
  · rw [lmi_0, show bw_ V W 0 = 0 from by unfold bw_; rw [Nat.pow_zero, Nat.mod_one, Nat.mod_one]; rfl] at key
    exact key
  · have hd := dg_lt V i
    have hd2 := dg_lt W i
    have hc := bw_lt V W i
    rw [nI_succ, ← lmi_s, ← bw_dig V W i hWV, ← bw_next] at k
    refine RN.icf rfl (nI_ge hi (by omega)) ?_
    iterate 3 (refine RN.st rfl ?_)
    refine RN.lald (k := i) rfl rfl (Or.inl ha.1) (show i < LL L a by rw [isL_l ha]; omega) (isL_b ha) ?_
    rw [show hJ (hp L I (lmi J a (V - W) i) w) a i = zJ (dg V i) from (lmi_at J a (V - W) i).trans (hV i hi)]
    iterate 2 (refine RN.st rfl ?_)
    refine RN.lald (k := i) rfl rfl (Or.inl hb.1) (show i < LL L b by rw [isL_l hb]; omega) (isL_b hb) ?_
    rw [show hJ (hp L I (lmi J a (V - W) i) w) b i = zJ (dg W i) from (lmi_off J (V - W) i i (Ne.symm hab)).trans (hW i hi)]
    iterate 2 (refine RN.st rfl ?_)
    rw [zJ_sub, zJ_add, show bw_ V W i + (((dg V i : Nat) : Int) - ((dg W i : Nat) : Int)) = bw_ V W i + ((dg V i : Nat) : Int) - ((dg W i : Nat) : Int) by omega]
    iterate 6 (refine RN.st rfl ?_)
    refine RN.last (k := i) rfl rfl ha.1 (show i < LL L a by rw [isL_l ha]; omega) (isL_b ha) ?_
    rw [show (zJ (bw_ V W i + ((dg V i : Nat) : Int) - ((dg W i : Nat) : Int)) &&& 1073741823) = zJ ((bw_ V W i + ((dg V i : Nat) : Int) - ((dg W i : Nat) : Int)) % 1073741824) from zJ_andZ _]
    iterate 3 (refine RN.st rfl ?_)
    rw [zJ_shrZ _ (by omega) (by omega)]
    iterate 5 (refine RN.st rfl ?_)
    exact k
  · refine RN.ict rfl (nI_le (Nat.le_refl _) (by omega)) ?_
    exact RN.ret rfl
