/-! Frame -/
def fm_pair (a b : Int32) : Int32 := (1 <<< (a &&& 31)) ||| (1 <<< (b &&& 31))
theorem ev_pairOf (h : MH) (a b : Int32) : EV m_Fm_pairOf [.int a, .int b] h (some (.int (fm_pair a b))) h := by
  unfold EV
  repeat (refine RN.st rfl ?_)
  exact RN.ret rfl
def fm_ends (I : Nat → Nat → Int32) (k : Nat) : Int32 := fm_pair (I 144 k) (I 145 k)
theorem ev_endsOf (L : Nat) (I : Nat → Nat → Int32) (J : Nat → Nat → Int64) (w : Nat → Nat) (k : Nat) (hk : k < 20) : EV m_Fm_endsOf [.ref 141, .int (nI k)] (hp L I J w) (some (.int (fm_ends I k))) (hp L I J w) := by
  unfold EV
  repeat (refine RN.st rfl ?_)
  refine RN.iald rfl rfl (Or.inl rfl) hk rfl ?_
  repeat (refine RN.st rfl ?_)
  refine RN.iald rfl rfl (Or.inl rfl) hk rfl ?_
  refine RN.call rfl rfl (ev_pairOf _ _ _) ?_
  exact RN.ret rfl
def fm_inside (I : Nat → Nat → Int32) (k : Nat) (s : Int32) : Bool := decide (fm_ends I k &&& (s ^^^ (-1)) = 0)
theorem ev_isInside (L : Nat) (I : Nat → Nat → Int32) (J : Nat → Nat → Int64) (w : Nat → Nat) (k : Nat) (hk : k < 20) (s : Int32) : EV m_Fm_isInside [.ref 141, .int (nI k), .int s] (hp L I J w) (some (.int (if fm_inside I k s = true then 1 else 0))) (hp L I J w) := by
  unfold EV
  repeat (refine RN.st rfl ?_)
  refine RN.call rfl rfl (ev_endsOf L I J w k hk) ?_
  repeat (refine RN.st rfl ?_)
  refine RN.i0 rfl (fun q => ?_) (fun q => ?_)
  · repeat (refine RN.st rfl ?_)
    rw [show (if fm_inside I k s = true then (1 : Int32) else 0) = 0 from if_neg (fun z => q (of_decide_eq_true z))]
    exact RN.ret rfl
  · repeat (refine RN.st rfl ?_)
    rw [show (if fm_inside I k s = true then (1 : Int32) else 0) = 1 from if_pos (decide_eq_true (Classical.not_not.mp q))]
    exact RN.ret rfl
/-- how many new bars are inside, from bar i on, n of them -/
def fm_cnt (I : Nat → Nat → Int32) (s : Int32) (i : Nat) : Nat → Nat
  | 0 => 0
  | n + 1 => (if I 142 i = 0 ∧ fm_inside I i s = true then 1 else 0) + fm_cnt I s (i + 1) n
theorem ev_newInside_loop (L : Nat) (I : Nat → Nat → Int32) (J : Nat → Nat → Int64) (w : Nat → Nat) (s : Int32) (n : Nat) (hn : n ≤ 20) (hsz : I 141 1 = nI n) : ∀ (d i m : Nat), i + d = n → RN m_Fm_newInside (9, [some (.ref 141), some (.int s), some (.int (nI m)), some (.int (nI i))], [.int (I 141 1), .int (nI i)], hp L I J w, 0, 0) (some (.int (nI (m + fm_cnt I s i d))), hp L I J w)
  | 0, i, m, hi => by
    obtain rfl : i = n := by omega
    refine RN.ict rfl (show I 141 1 ≤ nI i from by rw [hsz]; exact nI_le (Nat.le_refl _) (by omega)) ?_
    repeat (refine RN.st rfl ?_)
    exact RN.ret rfl
  | d + 1, i, m, hi => by
    have ih := fun m => ev_newInside_loop L I J w s n hn hsz d (i + 1) m (by omega)
    rw [nI_succ i] at ih
    refine RN.icf rfl (show ¬ I 141 1 ≤ nI i from by rw [hsz]; exact nI_ge (by omega) (by omega)) ?_
    repeat (refine RN.st rfl ?_)
    refine RN.bald rfl rfl rfl (show i < 20 by omega) rfl ?_
    refine RN.i0 rfl (fun q => ?_) (fun q => ?_)
    · have hc : fm_cnt I s i (d + 1) = fm_cnt I s (i + 1) d := by
        show (if I 142 i = 0 ∧ fm_inside I i s = true then 1 else 0) + _ = _
        rw [if_neg (fun z => q z.1), Nat.zero_add]
      rw [hc]
      repeat (refine RN.st rfl ?_)
      exact ih m
    · have q0 : I 142 i = 0 := Classical.not_not.mp q
      repeat (refine RN.st rfl ?_)
      refine RN.call rfl rfl (ev_isInside L I J w i (by omega) s) ?_
      by_cases hin : fm_inside I i s = true
      · rw [if_pos hin]
        have hc : m + fm_cnt I s i (d + 1) = m + 1 + fm_cnt I s (i + 1) d := by
          show m + ((if I 142 i = 0 ∧ fm_inside I i s = true then 1 else 0) + _) = _
          rw [if_pos ⟨q0, hin⟩]; omega
        rw [hc]
        refine RN.iff rfl (show ¬ (1 : Int32) = 0 by decide) ?_
        have ih1 := ih (m + 1)
        rw [nI_succ m] at ih1
        repeat (refine RN.st rfl ?_)
        exact ih1
      · rw [if_neg hin]
        have hc : fm_cnt I s i (d + 1) = fm_cnt I s (i + 1) d := by
          show (if I 142 i = 0 ∧ fm_inside I i s = true then 1 else 0) + _ = _
          rw [if_neg (fun z => hin z.2), Nat.zero_add]
        rw [hc]
        refine RN.ift rfl (show (0 : Int32) = 0 by rfl) ?_
        repeat (refine RN.st rfl ?_)
        exact ih m
theorem ev_newInside (L : Nat) (I : Nat → Nat → Int32) (J : Nat → Nat → Int64) (w : Nat → Nat) (s : Int32) (n : Nat) (hn : n ≤ 20) (hsz : I 141 1 = nI n) : EV m_Fm_newInside [.ref 141, .int s] (hp L I J w) (some (.int (nI (fm_cnt I s 0 n)))) (hp L I J w) := by
  unfold EV
  repeat (refine RN.st rfl ?_)
  have := ev_newInside_loop L I J w s n hn hsz n 0 0 (by omega)
  rw [Nat.zero_add] at this
  exact this
