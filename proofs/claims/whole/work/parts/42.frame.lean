/-! Frame -/
def fm_pair (a b : Int32) : Int32 := (1 <<< (a &&& 31)) ||| (1 <<< (b &&& 31))
theorem ev_pairOf (h : MH) (a b : Int32) : EV m_Fm_pairOf [.int a, .int b] h (some (.int (fm_pair a b))) h := by
  unfold EV
  repeat (refine RN.st rfl ?_)
  exact RN.ret rfl
/-- the ends of a bar, as two bits -/
def fm_ends (I : Nat → Nat → Int32) (k : Nat) : Int32 := I 146 k
def fm_inside (I : Nat → Nat → Int32) (k : Nat) (s : Int32) : Bool := decide (fm_ends I k &&& (s ^^^ (-1)) = 0)
theorem ev_isInside (L : Nat) (I : Nat → Nat → Int32) (J : Nat → Nat → Int64) (w : Nat → Nat) (k : Nat) (hk : k < 20) (s : Int32) : EV m_Fm_isInside [.ref 141, .int (nI k), .int s] (hp L I J w) (some (.int (if fm_inside I k s = true then 1 else 0))) (hp L I J w) := by
  unfold EV
  repeat (refine RN.st rfl ?_)
  refine RN.iald rfl rfl (Or.inl rfl) hk rfl ?_
  repeat (refine RN.st rfl ?_)
  refine RN.i0 rfl (fun q => ?_) (fun q => ?_)
  · repeat (refine RN.st rfl ?_)
    rw [show (if fm_inside I k s = true then (1 : Int32) else 0) = 0 from if_neg (fun z => q (of_decide_eq_true z))]
    exact RN.ret rfl
  · repeat (refine RN.st rfl ?_)
    rw [show (if fm_inside I k s = true then (1 : Int32) else 0) = 1 from if_pos (decide_eq_true (Classical.not_not.mp q))]
    exact RN.ret rfl
/-- how many new bars are inside, from bar i on, n of them -/
def fm_cnt (I : Nat → Nat → Int32) (s : Int32) (i : Nat) : Nat → Nat
  | 0 => 0
  | n + 1 => (if I 142 i = 0 ∧ fm_inside I i s = true then 1 else 0) + fm_cnt I s (i + 1) n
theorem ev_newInside_loop (L : Nat) (I : Nat → Nat → Int32) (J : Nat → Nat → Int64) (w : Nat → Nat) (s : Int32) (n : Nat) (hn : n ≤ 20) (hsz : I 141 1 = nI n) : ∀ (d i m : Nat), i + d = n → RN m_Fm_newInside (9, [some (.ref 141), some (.int s), some (.int (nI m)), some (.int (nI i))], [.int (I 141 1), .int (nI i)], hp L I J w, 0, 0) (some (.int (nI (m + fm_cnt I s i d))), hp L I J w)
  | 0, i, m, hi => by
    obtain rfl : i = n := by omega
    refine RN.ict rfl (show I 141 1 ≤ nI i from by rw [hsz]; exact nI_le (Nat.le_refl _) (by omega)) ?_
    repeat (refine RN.st rfl ?_)
    exact RN.ret rfl
  | d + 1, i, m, hi => by
    have ih := fun m => ev_newInside_loop L I J w s n hn hsz d (i + 1) m (by omega)
    rw [nI_succ i] at ih
    refine RN.icf rfl (show ¬ I 141 1 ≤ nI i from by rw [hsz]; exact nI_ge (by omega) (by omega)) ?_
    repeat (refine RN.st rfl ?_)
    refine RN.bald rfl rfl rfl (show i < 20 by omega) rfl ?_
    refine RN.i0 rfl (fun q => ?_) (fun q => ?_)
    · have hc : fm_cnt I s i (d + 1) = fm_cnt I s (i + 1) d := by
        show (if I 142 i = 0 ∧ fm_inside I i s = true then 1 else 0) + _ = _
        rw [if_neg (fun z => q z.1), Nat.zero_add]
      rw [hc]
      repeat (refine RN.st rfl ?_)
      exact ih m
    · have q0 : I 142 i = 0 := Classical.not_not.mp q
      repeat (refine RN.st rfl ?_)
      refine RN.call rfl rfl (ev_isInside L I J w i (by omega) s) ?_
      by_cases hin : fm_inside I i s = true
      · rw [if_pos hin]
        have hc : m + fm_cnt I s i (d + 1) = m + 1 + fm_cnt I s (i + 1) d := by
          show m + ((if I 142 i = 0 ∧ fm_inside I i s = true then 1 else 0) + _) = _
          rw [if_pos ⟨q0, hin⟩]; omega
        rw [hc]
        refine RN.iff rfl (show ¬ (1 : Int32) = 0 by decide) ?_
        have ih1 := ih (m + 1)
        rw [nI_succ m] at ih1
        repeat (refine RN.st rfl ?_)
        exact ih1
      · rw [if_neg hin]
        have hc : fm_cnt I s i (d + 1) = fm_cnt I s (i + 1) d := by
          show (if I 142 i = 0 ∧ fm_inside I i s = true then 1 else 0) + _ = _
          rw [if_neg (fun z => hin z.2), Nat.zero_add]
        rw [hc]
        refine RN.ift rfl (show (0 : Int32) = 0 by rfl) ?_
        repeat (refine RN.st rfl ?_)
        exact ih m
theorem ev_newInside (L : Nat) (I : Nat → Nat → Int32) (J : Nat → Nat → Int64) (w : Nat → Nat) (s : Int32) (n : Nat) (hn : n ≤ 20) (hsz : I 141 1 = nI n) : EV m_Fm_newInside [.ref 141, .int s] (hp L I J w) (some (.int (nI (fm_cnt I s 0 n)))) (hp L I J w) := by
  unfold EV
  repeat (refine RN.st rfl ?_)
  have := ev_newInside_loop L I J w s n hn hsz n 0 0 (by omega)
  rw [Nat.zero_add] at this
  exact this
theorem ev_hasBar (L : Nat) (I : Nat → Nat → Int32) (J : Nat → Nat → Int64) (w : Nat → Nat) (a b : Int32) (n : Nat) (hn : n ≤ 20) (hsz : I 141 1 = nI n) (r : Int32) (hr1 : (∃ i, i < n ∧ fm_ends I i = fm_pair a b) → r = 1) (hr0 : (∀ i, i < n → ¬ fm_ends I i = fm_pair a b) → r = 0) : EV m_Fm_hasBar [.ref 141, .int a, .int b] (hp L I J w) (some (.int r)) (hp L I J w) := by
  unfold EV
  repeat (refine RN.st rfl ?_)
  refine RN.search (fun i => (7, [some (.ref 141), some (.int a), some (.int b), some (.int (nI i))], [.int (I 141 1), .int (nI i)], hp L I J w, 0, 0)) (fun i => fm_ends I i = fm_pair a b) n (fun i hi hP hb => ?_) (fun i hi hP k => ?_) (fun hP => ?_)
  · refine RN.icf rfl (show ¬ I 141 1 ≤ nI i from by rw [hsz]; exact nI_ge hi (by omega)) ?_
    repeat (refine RN.st rfl ?_)
    refine RN.iald rfl rfl (Or.inl rfl) (show i < 20 by omega) rfl ?_
    repeat (refine RN.st rfl ?_)
    refine RN.call rfl rfl (ev_pairOf _ a b) ?_
    refine RN.icf rfl (show ¬ ¬ fm_ends I i = fm_pair a b from fun z => z hP) ?_
    repeat (refine RN.st rfl ?_)
    rw [hr1 ⟨i, hi, hP⟩]
    exact RN.ret rfl
  · refine RN.icf rfl (show ¬ I 141 1 ≤ nI i from by rw [hsz]; exact nI_ge hi (by omega)) ?_
    repeat (refine RN.st rfl ?_)
    refine RN.iald rfl rfl (Or.inl rfl) (show i < 20 by omega) rfl ?_
    repeat (refine RN.st rfl ?_)
    refine RN.call rfl rfl (ev_pairOf _ a b) ?_
    refine RN.ict rfl hP ?_
    rw [nI_succ i] at k
    repeat (refine RN.st rfl ?_)
    exact k
  · refine RN.ict rfl (show I 141 1 ≤ nI n from by rw [hsz]; exact nI_le (Nat.le_refl _) (by omega)) ?_
    repeat (refine RN.st rfl ?_)
    rw [hr0 hP]
    exact RN.ret rfl
def fm_bc (x : Int32) : Int32 := 
  let a := x - ((x.toUInt32 >>> ((1 : Int32).toUInt32 &&& Int32.toUInt32 31)).toInt32 &&& 1431655765)
  let b := (a &&& 858993459) + ((a.toUInt32 >>> ((2 : Int32).toUInt32 &&& Int32.toUInt32 31)).toInt32 &&& 858993459)
  let c := (b + (b.toUInt32 >>> ((4 : Int32).toUInt32 &&& Int32.toUInt32 31)).toInt32) &&& 252645135
  let d := c + (c.toUInt32 >>> ((8 : Int32).toUInt32 &&& Int32.toUInt32 31)).toInt32
  let e := d + (d.toUInt32 >>> ((16 : Int32).toUInt32 &&& Int32.toUInt32 31)).toInt32
  e &&& 63
theorem ev_bitCount (h : MH) (x : Int32) : EV m_In_bitCount [.int x] h (some (.int (fm_bc x))) h := by
  unfold EV
  repeat (refine RN.st rfl ?_)
  exact RN.ret rfl
/-- the points of a set -/
def pcnt (s : Nat) : Nat := (if s.testBit 0 then 1 else 0) + (if s.testBit 1 then 1 else 0) + (if s.testBit 2 then 1 else 0) + (if s.testBit 3 then 1 else 0) + (if s.testBit 4 then 1 else 0) + (if s.testBit 5 then 1 else 0) + (if s.testBit 6 then 1 else 0) + (if s.testBit 7 then 1 else 0)
theorem fm_bc_eq : ∀ s, s < 256 → fm_bc (nI s) = nI (pcnt s) := by
  have h : ((List.range 256).all fun s => decide (fm_bc (nI s) = nI (pcnt s))) = true := by decide +kernel
  intro s hs
  exact of_decide_eq_true (List.all_eq_true.mp h s (List.mem_range.mpr hs))
theorem pcnt_le (s : Nat) : pcnt s ≤ 8 := by
  unfold pcnt
  repeat' split
  all_goals omega
theorem ev_keeps (L : Nat) (I : Nat → Nat → Int32) (J : Nat → Nat → Int64) (w : Nat → Nat) (a b : Int32) (r : Int32) (hr1 : (∃ s, s < 256 ∧ ¬ I 147 s = 0 ∧ fm_pair a b &&& (nI s ^^^ (-1)) = 0) → r = 1) (hr0 : (∀ s, s < 256 → ¬ (¬ I 147 s = 0 ∧ fm_pair a b &&& (nI s ^^^ (-1)) = 0)) → r = 0) : EV m_Fm_keeps [.ref 141, .int a, .int b] (hp L I J w) (some (.int r)) (hp L I J w) := by
  unfold EV
  repeat (refine RN.st rfl ?_)
  refine RN.call rfl rfl (ev_pairOf _ a b) ?_
  iterate 5 (refine RN.st rfl ?_)
  refine RN.search (fun i => (14, [some (.ref 141), some (.int a), some (.int b), some (.int (fm_pair a b)), some (.int (nI i))], [.int (nI 256), .int (nI i)], hp L I J w, 0, 0)) (fun s => ¬ I 147 s = 0 ∧ fm_pair a b &&& (nI s ^^^ (-1)) = 0) 256 (fun i hi hP hb => ?_) (fun i hi hP k => ?_) (fun hP => ?_)
  · refine RN.icf rfl (nI_ge hi (by omega)) ?_
    repeat (refine RN.st rfl ?_)
    refine RN.bald rfl rfl rfl hi rfl ?_
    refine RN.iff rfl hP.1 ?_
    repeat (refine RN.st rfl ?_)
    refine RN.iff rfl (fun z => z hP.2) ?_
    repeat (refine RN.st rfl ?_)
    rw [hr1 ⟨i, hi, hP⟩]
    exact RN.ret rfl
  · rw [nI_succ i] at k
    refine RN.icf rfl (nI_ge hi (by omega)) ?_
    repeat (refine RN.st rfl ?_)
    refine RN.bald rfl rfl rfl hi rfl ?_
    by_cases q : I 147 i = 0
    · refine RN.ift rfl q ?_
      repeat (refine RN.st rfl ?_)
      exact k
    · refine RN.iff rfl q ?_
      repeat (refine RN.st rfl ?_)
      refine RN.ift rfl (fun z => hP ⟨q, z⟩) ?_
      repeat (refine RN.st rfl ?_)
      exact k
  · refine RN.ict rfl (nI_le (Nat.le_refl _) (by omega)) ?_
    repeat (refine RN.st rfl ?_)
    rw [hr0 hP]
    exact RN.ret rfl
/-- is a set tight -/
def fm_tt (I : Nat → Nat → Int32) (n s : Nat) : Int32 := if 2 ≤ pcnt s ∧ 2 * pcnt s ≤ fm_cnt I (nI s) 0 n + 3 then 1 else 0
theorem fm_cnt_row (I : Nat → Nat → Int32) (g : Nat → Int32) (s : Int32) : ∀ (d i : Nat), fm_cnt (mm_row I 147 g) s i d = fm_cnt I s i d
  | 0, _ => rfl
  | d + 1, i => by
    show (if mm_row I 147 g 142 i = 0 ∧ fm_inside (mm_row I 147 g) i s = true then 1 else 0) + _ = (if I 142 i = 0 ∧ fm_inside I i s = true then 1 else 0) + _
    rw [fm_cnt_row I g s d (i + 1)]
    rfl
theorem fm_cnt_le (I : Nat → Nat → Int32) (s : Int32) : ∀ (d i : Nat), fm_cnt I s i d ≤ d
  | 0, _ => Nat.le_refl 0
  | d + 1, i => by
    show (if _ then 1 else 0) + _ ≤ _
    have := fm_cnt_le I s d (i + 1)
    split <;> omega
theorem ev_findTightSets (L : Nat) (I : Nat → Nat → Int32) (J : Nat → Nat → Int64) (w : Nat → Nat) (n : Nat) (hn : n ≤ 20) (hsz : I 141 1 = nI n) : EV m_Fm_findTightSets [.ref 141] (hp L I J w) none (hp L (mm_row I 147 (fun j => if j < 256 then fm_tt I n j else I 147 j)) J w) := by
  unfold EV
  iterate 4 (refine RN.st rfl ?_)
  have e0 : I = mm_row I 147 (fun j => if j < 0 then fm_tt I n j else I 147 j) := by
    rw [show (fun j => if j < 0 then fm_tt I n j else I 147 j) = I 147 from funext fun j => if_neg (Nat.not_lt_zero j), mm_row_self]
  have key := RN.run (mid := m_Fm_findTightSets) (R := (none, hp L (mm_row I 147 (fun j => if j < 256 then fm_tt I n j else I 147 j)) J w)) (fun i => (6, [some (.ref 141), some (.int (nI i)), (if i = 0 then none else some (.int (nI (pcnt (i - 1)))))], [.int (nI 256), .int (nI i)], hp L (mm_row I 147 (fun j => if j < i then fm_tt I n j else I 147 j)) J w, 0, 0)) 256 (fun i hi k => ?_) ?_
  · rw [← e0] at key
    exact key
  · rw [nI_succ i] at k
    refine RN.icf rfl (nI_ge hi (by omega)) ?_
    repeat (refine RN.st rfl ?_)
    refine RN.call rfl rfl (ev_bitCount _ _) ?_
    rw [fm_bc_eq i hi]
    have hk9 : RN m_Fm_findTightSets (42, [some (.ref 141), some (.int (nI i)), some (.int (nI (pcnt i)))], [.int (fm_tt I n i), .int (nI i), .ref 147], hp L (mm_row I 147 (fun j => if j < i then fm_tt I n j else I 147 j)) J w, 0, 0) (none, hp L (mm_row I 147 (fun j => if j < 256 then fm_tt I n j else I 147 j)) J w) := by
      refine RN.bast rfl rfl rfl hi rfl (by unfold fm_tt; split <;> simp) ?_
      repeat (refine RN.st rfl ?_)
      have e1 : mm_up (mm_row I 147 (fun j => if j < i then fm_tt I n j else I 147 j)) 147 i (fm_tt I n i) = mm_row I 147 (fun j => if j < i + 1 then fm_tt I n j else I 147 j) := by
        rw [mm_row_up]
        apply mm_row_congr
        intro j
        by_cases hj : j = i
        · subst hj; simp
        · by_cases h2 : j < i
          · simp [hj, h2, Nat.lt_succ_of_lt h2]
          · simp [hj, h2, show ¬ j < i + 1 by omega]
      show RN m_Fm_findTightSets (_, _, _, hp L (mm_up (mm_row I 147 (fun j => if j < i then fm_tt I n j else I 147 j)) 147 i (fm_tt I n i)) J w, 0, 0) _
      rw [e1]
      exact k
    by_cases q : 2 ≤ pcnt i
    · repeat (refine RN.st rfl ?_)
      refine RN.icf rfl (show ¬ nI (pcnt i) < nI 2 from nI_nlt q (by have := pcnt_le i; omega)) ?_
      repeat (refine RN.st rfl ?_)
      refine RN.call rfl rfl (ev_newInside L _ J w (nI i) n hn hsz) ?_
      rw [fm_cnt_row]
      repeat (refine RN.st rfl ?_)
      have e3 : (Int32.ofInt 2 * nI (pcnt i) - Int32.ofInt 3 : Int32) = nI (2 * pcnt i - 3) := by
        have e4 : (Int32.ofInt 2 : Int32) = nI 2 := rfl
        have e5 : (Int32.ofInt 3 : Int32) = nI 3 := rfl
        rw [e4, e5, pk_mul, pk_sub (by omega)]
      by_cases q2 : 2 * pcnt i ≤ fm_cnt I (nI i) 0 n + 3
      · refine RN.icf rfl (show ¬ nI (fm_cnt I (nI i) 0 n) < (Int32.ofInt 2 * nI (pcnt i) - Int32.ofInt 3 : Int32) from by rw [e3]; exact nI_nlt (by omega) (by have := fm_cnt_le I (nI i) n 0; omega)) ?_
        have e6 : fm_tt I n i = 1 := if_pos ⟨q, q2⟩
        rw [e6] at hk9
        repeat (refine RN.st rfl ?_)
        exact hk9
      · refine RN.ict rfl (show nI (fm_cnt I (nI i) 0 n) < (Int32.ofInt 2 * nI (pcnt i) - Int32.ofInt 3 : Int32) from by rw [e3]; exact nI_lt (by omega) (by have := pcnt_le i; omega)) ?_
        have e6 : fm_tt I n i = 0 := if_neg (fun z => q2 z.2)
        rw [e6] at hk9
        repeat (refine RN.st rfl ?_)
        exact hk9
    · repeat (refine RN.st rfl ?_)
      refine RN.ict rfl (show nI (pcnt i) < nI 2 from nI_lt (by omega) (by omega)) ?_
      have e6 : fm_tt I n i = 0 := if_neg (fun z => q z.1)
      rw [e6] at hk9
      repeat (refine RN.st rfl ?_)
      exact hk9
  · refine RN.ict rfl (nI_le (Nat.le_refl _) (by omega)) ?_
    exact RN.ret rfl
/-- the bar put down, and its sort r -/
def fm_put (I : Nat → Nat → Int32) (n : Nat) (a b r : Int32) : Nat → Nat → Int32 := mm_up (mm_up (mm_up (mm_up (mm_up I 144 n a) 145 n b) 146 n (fm_pair a b)) 142 n r) 141 1 (nI (n + 1))
def fm_new (I : Nat → Nat → Int32) : Nat → Nat → Int32 := mm_up I 141 2 (I 141 2 + 1)
theorem ev_add1 (L : Nat) (I : Nat → Nat → Int32) (J : Nat → Nat → Int64) (w : Nat → Nat) (a b : Int32) (n : Nat) (hn : n < 20) (hsz : I 141 1 = nI n) (hk : ∃ s, s < 256 ∧ ¬ I 147 s = 0 ∧ fm_pair a b &&& (nI s ^^^ (-1)) = 0) : EV m_Fm_add [.ref 141, .int a, .int b] (hp L I J w) none (hp L (fm_put I n a b 1) J w) := by
  unfold EV
  repeat (refine RN.st rfl ?_)
  refine RN.ict rfl (show I 141 1 < nI 20 from by rw [hsz]; exact nI_lt hn (by omega)) ?_
  repeat (refine RN.st rfl ?_)
  refine RN.iast rfl hsz rfl hn rfl ?_
  repeat (refine RN.st rfl ?_)
  refine RN.iast rfl hsz rfl hn rfl ?_
  repeat (refine RN.st rfl ?_)
  refine RN.call rfl rfl (ev_pairOf _ a b) ?_
  refine RN.iast rfl hsz rfl hn rfl ?_
  repeat (refine RN.st rfl ?_)
  refine RN.call rfl rfl (ev_keeps L (mm_up (mm_up (mm_up I 144 n a) 145 n b) 146 n (fm_pair a b)) J w a b 1 (fun _ => rfl) (fun z => absurd hk.choose_spec.2 (z _ hk.choose_spec.1))) ?_
  refine RN.bast rfl hsz rfl hn rfl (Or.inr rfl) ?_
  repeat (refine RN.st rfl ?_)
  refine RN.bald (k := n) rfl (show (I 141 1 + Int32.ofInt 1 : Int32) - Int32.ofInt 1 = nI n from by rw [hsz]; have z := nI_pred n; rw [nI_succ] at z; exact z) rfl hn rfl ?_
  refine RN.ift rfl (show ¬ (if 142 = 141 ∧ n = 1 then I 141 1 + Int32.ofInt 1 else if 142 = 142 ∧ n = n then (1 : Int32) else _) = 0 by rw [if_neg (by omega), if_pos ⟨rfl, rfl⟩]; decide) ?_
  refine RN.ret ?_
  unfold fm_put
  rw [nI_succ, ← hsz]
  rfl
theorem ev_add0 (L : Nat) (I : Nat → Nat → Int32) (J : Nat → Nat → Int64) (w : Nat → Nat) (a b : Int32) (n : Nat) (hn : n < 20) (hsz : I 141 1 = nI n) (hk : ∀ s, s < 256 → ¬ (¬ I 147 s = 0 ∧ fm_pair a b &&& (nI s ^^^ (-1)) = 0)) : EV m_Fm_add [.ref 141, .int a, .int b] (hp L I J w) none (hp L (mm_row (fm_new (fm_put I n a b 0)) 147 (fun j => if j < 256 then fm_tt (fm_new (fm_put I n a b 0)) (n + 1) j else I 147 j)) J w) := by
  unfold EV
  repeat (refine RN.st rfl ?_)
  refine RN.ict rfl (show I 141 1 < nI 20 from by rw [hsz]; exact nI_lt hn (by omega)) ?_
  repeat (refine RN.st rfl ?_)
  refine RN.iast rfl hsz rfl hn rfl ?_
  repeat (refine RN.st rfl ?_)
  refine RN.iast rfl hsz rfl hn rfl ?_
  repeat (refine RN.st rfl ?_)
  refine RN.call rfl rfl (ev_pairOf _ a b) ?_
  refine RN.iast rfl hsz rfl hn rfl ?_
  repeat (refine RN.st rfl ?_)
  refine RN.call rfl rfl (ev_keeps L (mm_up (mm_up (mm_up I 144 n a) 145 n b) 146 n (fm_pair a b)) J w a b 0 (fun z => absurd z.choose_spec.2 (hk _ z.choose_spec.1)) (fun _ => rfl)) ?_
  refine RN.bast rfl hsz rfl hn rfl (Or.inl rfl) ?_
  repeat (refine RN.st rfl ?_)
  refine RN.bald (k := n) rfl (show (I 141 1 + Int32.ofInt 1 : Int32) - Int32.ofInt 1 = nI n from by rw [hsz]; have z := nI_pred n; rw [nI_succ] at z; exact z) rfl hn rfl ?_
  refine RN.iff rfl (show ¬ ¬ (if 142 = 141 ∧ n = 1 then I 141 1 + Int32.ofInt 1 else if 142 = 142 ∧ n = n then (0 : Int32) else _) = 0 by rw [if_neg (by omega), if_pos ⟨rfl, rfl⟩]; decide) ?_
  have e1 : (mm_up (mm_up (mm_up (mm_up (mm_up (mm_up I 144 n a) 145 n b) 146 n (fm_pair a b)) 142 n 0) 141 1 (I 141 1 + Int32.ofInt 1)) 141 2 (I 141 2 + Int32.ofInt 1)) = fm_new (fm_put I n a b 0) := by
    unfold fm_new fm_put
    rw [nI_succ, ← hsz]
    rfl
  repeat (refine RN.st rfl ?_)
  refine RN.call rfl rfl (v := none) (h2 := hp L (mm_row (fm_new (fm_put I n a b 0)) 147 (fun j => if j < 256 then fm_tt (fm_new (fm_put I n a b 0)) (n + 1) j else I 147 j)) J w) ?_ ?_
  · show EV m_Fm_findTightSets [.ref 141] (hp L (mm_up (mm_up (mm_up (mm_up (mm_up (mm_up I 144 n a) 145 n b) 146 n (fm_pair a b)) 142 n 0) 141 1 (I 141 1 + Int32.ofInt 1)) 141 2 (I 141 2 + Int32.ofInt 1)) J w) _ _
    rw [e1]
    exact ev_findTightSets L (fm_new (fm_put I n a b 0)) J w (n + 1) (by omega) rfl
  · exact RN.ret rfl
def fm_common (I : Nat → Nat → Int32) (k : Nat) : Nat → Int32 := fun m => fl (fun s c => if ¬ I 147 s = 0 ∧ fm_inside I k (nI s) = true then c &&& nI s else c) m 255
def fm_ring (I : Nat → Nat → Int32) (c : Int32) : Nat → Int32 := fun m => fl (fun i r => if I 142 i = 0 ∧ fm_inside I i c = true then r ||| (1 <<< (nI i &&& 31)) else r) m 0
theorem ev_ringOf (L : Nat) (I : Nat → Nat → Int32) (J : Nat → Nat → Int64) (w : Nat → Nat) (k : Nat) (hk : k < 20) (n : Nat) (hn : n ≤ 20) (hsz : I 141 1 = nI n) : EV m_Fm_ringOf [.ref 141, .int (nI k)] (hp L I J w) (some (.int (fm_ring I (fm_common I k 256) n))) (hp L I J w) := by
  unfold EV
  iterate 6 (refine RN.st rfl ?_)
  refine RN.run (fun i => (10, [some (.ref 141), some (.int (nI k)), some (.int (fm_common I k i)), some (.int (nI i)), none], [.int (nI 256), .int (nI i)], hp L I J w, 0, 0)) 256 (fun i hi kk => ?_) ?_
  · rw [nI_succ i] at kk
    refine RN.icf rfl (nI_ge hi (by omega)) ?_
    repeat (refine RN.st rfl ?_)
    refine RN.bald rfl rfl rfl hi rfl ?_
    by_cases q : I 147 i = 0
    · have e : fm_common I k (i + 1) = fm_common I k i := if_neg (fun z => z.1 q)
      rw [e] at kk
      refine RN.ift rfl q ?_
      repeat (refine RN.st rfl ?_)
      exact kk
    · refine RN.iff rfl q ?_
      repeat (refine RN.st rfl ?_)
      refine RN.call rfl rfl (ev_isInside L I J w k hk (nI i)) ?_
      by_cases q2 : fm_inside I k (nI i) = true
      · have e : fm_common I k (i + 1) = fm_common I k i &&& nI i := if_pos ⟨q, q2⟩
        rw [e] at kk
        rw [if_pos q2]
        refine RN.iff rfl (show ¬ (1 : Int32) = 0 by decide) ?_
        repeat (refine RN.st rfl ?_)
        exact kk
      · have e : fm_common I k (i + 1) = fm_common I k i := if_neg (fun z => q2 z.2)
        rw [e] at kk
        rw [if_neg q2]
        refine RN.ift rfl (show (0 : Int32) = 0 from rfl) ?_
        repeat (refine RN.st rfl ?_)
        exact kk
  · refine RN.ict rfl (nI_le (Nat.le_refl _) (by omega)) ?_
    repeat (refine RN.st rfl ?_)
    generalize fm_common I k 256 = c
    refine RN.run (fun i => (52, [some (.ref 141), some (.int (nI k)), some (.int c), some (.int (fm_ring I c i)), some (.int (nI i))], [.int (I 141 1), .int (nI i)], hp L I J w, 0, 0)) n (fun i hi kk => ?_) ?_
    · rw [nI_succ i] at kk
      refine RN.icf rfl (show ¬ I 141 1 ≤ nI i from by rw [hsz]; exact nI_ge hi (by omega)) ?_
      repeat (refine RN.st rfl ?_)
      refine RN.bald rfl rfl rfl (show i < 20 by omega) rfl ?_
      by_cases q : I 142 i = 0
      · refine RN.iff rfl (fun z => z q) ?_
        repeat (refine RN.st rfl ?_)
        refine RN.call rfl rfl (ev_isInside L I J w i (by omega) c) ?_
        by_cases q2 : fm_inside I i c = true
        · have e : fm_ring I c (i + 1) = fm_ring I c i ||| (1 <<< (nI i &&& 31)) := if_pos ⟨q, q2⟩
          rw [e] at kk
          rw [if_pos q2]
          refine RN.iff rfl (show ¬ (1 : Int32) = 0 by decide) ?_
          repeat (refine RN.st rfl ?_)
          exact kk
        · have e : fm_ring I c (i + 1) = fm_ring I c i := if_neg (fun z => q2 z.2)
          rw [e] at kk
          rw [if_neg q2]
          refine RN.ift rfl (show (0 : Int32) = 0 from rfl) ?_
          repeat (refine RN.st rfl ?_)
          exact kk
      · have e : fm_ring I c (i + 1) = fm_ring I c i := if_neg (fun z => q z.1)
        rw [e] at kk
        refine RN.ift rfl q ?_
        repeat (refine RN.st rfl ?_)
        exact kk
    · refine RN.ict rfl (show I 141 1 ≤ nI n from by rw [hsz]; exact nI_le (Nat.le_refl _) (by omega)) ?_
      repeat (refine RN.st rfl ?_)
      exact RN.ret rfl
def fm_at (I : Nat → Nat → Int32) (p l : Int32) : Nat → Nat := fun m => fl (fun i r => if I 142 i = 0 ∧ fm_inside I i l = true ∧ ¬ fm_ends I i &&& (1 <<< (p &&& 31)) = 0 then r + 1 else r) m 0
theorem fm_at_le (I : Nat → Nat → Int32) (p l : Int32) : ∀ m, fm_at I p l m ≤ m
  | 0 => Nat.le_refl 0
  | m + 1 => by
    have := fm_at_le I p l m
    show (if _ then fm_at I p l m + 1 else fm_at I p l m) ≤ _
    split
    · exact Nat.succ_le_succ this
    · exact Nat.le_succ_of_le this
theorem ev_newAt (L : Nat) (I : Nat → Nat → Int32) (J : Nat → Nat → Int64) (w : Nat → Nat) (p l : Int32) (n : Nat) (hn : n ≤ 20) (hsz : I 141 1 = nI n) : EV m_Fm_newAt [.ref 141, .int p, .int l] (hp L I J w) (some (.int (nI (fm_at I p l n)))) (hp L I J w) := by
  unfold EV
  repeat (refine RN.st rfl ?_)
  refine RN.run (fun i => (11, [some (.ref 141), some (.int p), some (.int l), some (.int (nI (fm_at I p l i))), some (.int (nI i))], [.int (I 141 1), .int (nI i)], hp L I J w, 0, 0)) n (fun i hi kk => ?_) ?_
  · rw [nI_succ i] at kk
    refine RN.icf rfl (show ¬ I 141 1 ≤ nI i from by rw [hsz]; exact nI_ge hi (by omega)) ?_
    repeat (refine RN.st rfl ?_)
    refine RN.bald rfl rfl rfl (show i < 20 by omega) rfl ?_
    by_cases q : I 142 i = 0
    · refine RN.iff rfl (fun z => z q) ?_
      repeat (refine RN.st rfl ?_)
      refine RN.call rfl rfl (ev_isInside L I J w i (by omega) l) ?_
      by_cases q2 : fm_inside I i l = true
      · rw [if_pos q2]
        refine RN.iff rfl (show ¬ (1 : Int32) = 0 by decide) ?_
        repeat (refine RN.st rfl ?_)
        refine RN.iald rfl rfl (Or.inl rfl) (show i < 20 by omega) rfl ?_
        repeat (refine RN.st rfl ?_)
        by_cases q3 : fm_ends I i &&& (1 <<< (p &&& 31)) = 0
        · have e : fm_at I p l (i + 1) = fm_at I p l i := if_neg (fun z => z.2.2 q3)
          rw [e] at kk
          refine RN.ift rfl q3 ?_
          repeat (refine RN.st rfl ?_)
          exact kk
        · have e : fm_at I p l (i + 1) = fm_at I p l i + 1 := if_pos ⟨q, q2, q3⟩
          rw [e, nI_succ] at kk
          refine RN.iff rfl q3 ?_
          repeat (refine RN.st rfl ?_)
          exact kk
      · have e : fm_at I p l (i + 1) = fm_at I p l i := if_neg (fun z => q2 z.2.1)
        rw [e] at kk
        rw [if_neg q2]
        refine RN.ift rfl (show (0 : Int32) = 0 from rfl) ?_
        repeat (refine RN.st rfl ?_)
        exact kk
    · have e : fm_at I p l (i + 1) = fm_at I p l i := if_neg (fun z => q z.1)
      rw [e] at kk
      refine RN.ift rfl q ?_
      repeat (refine RN.st rfl ?_)
      exact kk
  · refine RN.ict rfl (show I 141 1 ≤ nI n from by rw [hsz]; exact nI_le (Nat.le_refl _) (by omega)) ?_
    repeat (refine RN.st rfl ?_)
    exact RN.ret rfl
def fm_dg (I : Nat → Nat → Int32) (h : Int64) : Nat → Int64 := fun m => fl (fun i x => 31 * (31 * (31 * x + (I 144 i).toInt64) + (I 145 i).toInt64) + (if I 142 i = 0 then 0 else 1)) m h
theorem ev_fmDigest (L : Nat) (I : Nat → Nat → Int32) (J : Nat → Nat → Int64) (w : Nat → Nat) (x : Int64) (n : Nat) (hn : n ≤ 20) (hsz : I 141 1 = nI n) : EV m_Fm_digestOnto [.ref 141, .long x] (hp L I J w) (some (.long (fm_dg I x n))) (hp L I J w) := by
  unfold EV
  repeat (refine RN.st rfl ?_)
  refine RN.run (fun i => (11, [some (.ref 141), some (.long x), none, some (.long (fm_dg I x i)), none, some (.int (nI i))], [.int (I 141 1), .int (nI i)], hp L I J w, 0, 0)) n (fun i hi kk => ?_) ?_
  · rw [nI_succ i] at kk
    refine RN.icf rfl (show ¬ I 141 1 ≤ nI i from by rw [hsz]; exact nI_ge hi (by omega)) ?_
    repeat (refine RN.st rfl ?_)
    refine RN.iald rfl rfl (Or.inl rfl) (show i < 20 by omega) rfl ?_
    repeat (refine RN.st rfl ?_)
    refine RN.iald rfl rfl (Or.inl rfl) (show i < 20 by omega) rfl ?_
    repeat (refine RN.st rfl ?_)
    refine RN.bald rfl rfl rfl (show i < 20 by omega) rfl ?_
    by_cases q : I 142 i = 0
    · have e : fm_dg I x (i + 1) = 31 * (31 * (31 * fm_dg I x i + (I 144 i).toInt64) + (I 145 i).toInt64) + (if I 142 i = 0 then 0 else 1) := rfl
      rw [e, if_pos q] at kk
      refine RN.ift rfl q ?_
      repeat (refine RN.st rfl ?_)
      exact kk
    · have e : fm_dg I x (i + 1) = 31 * (31 * (31 * fm_dg I x i + (I 144 i).toInt64) + (I 145 i).toInt64) + (if I 142 i = 0 then 0 else 1) := rfl
      rw [e, if_neg q] at kk
      refine RN.iff rfl q ?_
      repeat (refine RN.st rfl ?_)
      exact kk
  · refine RN.ict rfl (show I 141 1 ≤ nI n from by rw [hsz]; exact nI_le (Nat.le_refl _) (by omega)) ?_
    repeat (refine RN.st rfl ?_)
    exact RN.ret rfl
