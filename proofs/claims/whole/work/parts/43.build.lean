/-! Frame.findGoing, Frame.build -/
def fm_gP (I : Nat → Nat → Int32) (l : Int32) (n p : Nat) : Prop := ¬ l &&& (1 <<< (nI p &&& 31)) = 0 ∧ fm_at I (nI p) l n ≤ 2
def fm_gd (I : Nat → Nat → Int32) (l : Int32) (n : Nat) : Nat → Int32
  | 0 => -1
  | p + 1 => if ¬ l &&& (1 <<< (nI p &&& 31)) = 0 ∧ fm_at I (nI p) l n ≤ 2 then nI p else fm_gd I l n p
theorem pk_m1' (n : Nat) : nI (n + 1) + Int32.ofInt (-1) = nI n := pk_m1 n
theorem ev_findGoing_loop (L : Nat) (I : Nat → Nat → Int32) (J : Nat → Nat → Int64) (w : Nat → Nat) (l : Int32) (n : Nat) (hn : n ≤ 20) (hsz : I 141 1 = nI n) : ∀ p, p ≤ 8 → RN m_Fm_findGoing (4, [some (.ref 141), some (.int l), some (.int (nI p + Int32.ofInt (-1)))], [.int (nI p + Int32.ofInt (-1))], hp L I J w, 0, 0) (some (.int (fm_gd I l n p)), hp L I J w)
  | 0, _ => by
    refine RN.ift rfl (show (nI 0 + Int32.ofInt (-1) : Int32) < 0 by decide) ?_
    repeat (refine RN.st rfl ?_)
    exact RN.ret rfl
  | p + 1, hp9 => by
    have ih := ev_findGoing_loop L I J w l n hn hsz p (by omega)
    rw [pk_m1' p]
    refine RN.iff rfl (show ¬ nI p < 0 from nI_pos (by omega)) ?_
    repeat (refine RN.st rfl ?_)
    by_cases q : l &&& (1 <<< (nI p &&& 31)) = 0
    · have e : fm_gd I l n (p + 1) = fm_gd I l n p := if_neg (fun z => z.1 q)
      rw [e]
      refine RN.ift rfl q ?_
      iterate 3 (refine RN.st rfl ?_)
      exact ih
    · refine RN.iff rfl q ?_
      repeat (refine RN.st rfl ?_)
      refine RN.call rfl rfl (ev_newAt L I J w (nI p) l n hn hsz) ?_
      by_cases q2 : fm_at I (nI p) l n ≤ 2
      · have e : fm_gd I l n (p + 1) = nI p := if_pos ⟨q, q2⟩
        rw [e]
        repeat (refine RN.st rfl ?_)
        refine RN.icf rfl (show ¬ nI 2 < nI (fm_at I (nI p) l n) from nI_nlt q2 (by omega)) ?_
        repeat (refine RN.st rfl ?_)
        exact RN.ret rfl
      · have e : fm_gd I l n (p + 1) = fm_gd I l n p := if_neg (fun z => q2 z.2)
        rw [e]
        repeat (refine RN.st rfl ?_)
        refine RN.ict rfl (show nI 2 < nI (fm_at I (nI p) l n) from nI_lt (by omega) (by have := fm_at_le I (nI p) l n; omega)) ?_
        iterate 3 (refine RN.st rfl ?_)
        exact ih
theorem ev_findGoing (L : Nat) (I : Nat → Nat → Int32) (J : Nat → Nat → Int64) (w : Nat → Nat) (l : Int32) (n : Nat) (hn : n ≤ 20) (hsz : I 141 1 = nI n) : EV m_Fm_findGoing [.ref 141, .int l] (hp L I J w) (some (.int (fm_gd I l n 8))) (hp L I J w) := by
  unfold EV
  iterate 3 (refine RN.st rfl ?_)
  have k := ev_findGoing_loop L I J w l n hn hsz 8 (Nat.le_refl _)
  rw [show nI 8 + Int32.ofInt (-1) = (Int8.ofInt 7).toInt32 from by decide] at k
  exact k
/-- the first loop of build: what is left, how many, what was put -/
def fm_b1 (I : Nat → Nat → Int32) (n : Nat) : Nat → Int32 → Nat → (Nat → Int32) → Int32 × Nat × (Nat → Int32)
  | 0, l, e, g => (l, e, g)
  | d + 1, l, e, g => if e ≤ 2 ∨ fm_gd I l n 8 = -1 then (l, e, g) else fm_b1 I n d (l &&& ((1 <<< (fm_gd I l n 8 &&& 31)) ^^^ (-1))) (e - 1) (fun j => if j = e - 1 then fm_gd I l n 8 else g j)
def fm_b2 (l : Int32) (g : Nat → Int32) : Nat → Nat × (Nat → Int32) := fun m => fl (fun p s => if l &&& (1 <<< (nI p &&& 31)) = 0 then s else (s.1 + 1, fun j => if j = s.1 then nI p else s.2 j)) m (0, g)
theorem fm_b2_le (l : Int32) (g : Nat → Int32) : ∀ m, (fm_b2 l g m).1 ≤ m
  | 0 => Nat.le_refl 0
  | m + 1 => by
    have h := fm_b2_le l g m
    show (if l &&& (1 <<< (nI m &&& 31)) = 0 then fm_b2 l g m else ((fm_b2 l g m).1 + 1, _)).1 ≤ _
    split
    · exact Nat.le_succ_of_le h
    · exact Nat.succ_le_succ h
theorem fm_at_row (I : Nat → Nat → Int32) (g : Nat → Int32) (p l : Int32) : ∀ m, fm_at (mm_row I 143 g) p l m = fm_at I p l m
  | 0 => rfl
  | m + 1 => by
    show (if mm_row I 143 g 142 m = 0 ∧ fm_inside (mm_row I 143 g) m l = true ∧ ¬ fm_ends (mm_row I 143 g) m &&& (1 <<< (p &&& 31)) = 0 then fm_at (mm_row I 143 g) p l m + 1 else fm_at (mm_row I 143 g) p l m) = (if I 142 m = 0 ∧ fm_inside I m l = true ∧ ¬ fm_ends I m &&& (1 <<< (p &&& 31)) = 0 then fm_at I p l m + 1 else fm_at I p l m)
    rw [fm_at_row I g p l m]
    rfl
theorem fm_gd_row (I : Nat → Nat → Int32) (g : Nat → Int32) (l : Int32) (n : Nat) : ∀ p, fm_gd (mm_row I 143 g) l n p = fm_gd I l n p
  | 0 => rfl
  | p + 1 => by
    show (if ¬ l &&& (1 <<< (nI p &&& 31)) = 0 ∧ fm_at (mm_row I 143 g) (nI p) l n ≤ 2 then nI p else fm_gd (mm_row I 143 g) l n p) = (if ¬ l &&& (1 <<< (nI p &&& 31)) = 0 ∧ fm_at I (nI p) l n ≤ 2 then nI p else fm_gd I l n p)
    rw [fm_at_row, fm_gd_row I g l n p]
theorem ev_build_2 (L : Nat) (I : Nat → Nat → Int32) (J : Nat → Nat → Int64) (w : Nat → Nat) (n : Nat) (l e9 l4 l5 : Int32) (g : Nat → Int32) (v5 : Option Value) (pt : Int32) : RN m_Fm_build (65, [some (.ref 141), some (.int pt), some (.int l), some (.int e9), some (.int l4), v5], [], hp L (mm_row I 143 g) J w, 0, 0) (some (.int l), hp L (mm_row I 143 (fm_b2 l g 8).2) J w) := by
  iterate 6 (refine RN.st rfl ?_)
  refine RN.run (fun i => (75, [some (.ref 141), some (.int pt), some (.int l), some (.int e9), some (.int (nI (fm_b2 l g i).1)), some (.int (nI i))], [.int (nI 8), .int (nI i)], hp L (mm_row I 143 (fm_b2 l g i).2) J w, 0, 0)) 8 (fun i hi kk => ?_) ?_
  · rw [nI_succ i] at kk
    refine RN.icf rfl (nI_ge hi (by omega)) ?_
    repeat (refine RN.st rfl ?_)
    by_cases q : l &&& (1 <<< (nI i &&& 31)) = 0
    · have e : fm_b2 l g (i + 1) = fm_b2 l g i := if_pos q
      rw [e] at kk
      refine RN.ift rfl q ?_
      repeat (refine RN.st rfl ?_)
      exact kk
    · have e : fm_b2 l g (i + 1) = ((fm_b2 l g i).1 + 1, fun j => if j = (fm_b2 l g i).1 then nI i else (fm_b2 l g i).2 j) := if_neg q
      rw [e] at kk
      dsimp only at kk
      rw [nI_succ (fm_b2 l g i).1, ← mm_row_up] at kk
      refine RN.iff rfl q ?_
      repeat (refine RN.st rfl ?_)
      refine RN.iast rfl rfl rfl (show (fm_b2 l g i).1 < 8 by have := fm_b2_le l g i; omega) rfl ?_
      repeat (refine RN.st rfl ?_)
      exact kk
  · refine RN.ict rfl (nI_le (Nat.le_refl _) (by omega)) ?_
    repeat (refine RN.st rfl ?_)
    exact RN.ret rfl
theorem ev_build_1 (L : Nat) (I : Nat → Nat → Int32) (J : Nat → Nat → Int64) (w : Nat → Nat) (n : Nat) (hn : n ≤ 20) (hsz : I 141 1 = nI n) (pt : Int32) : ∀ (d i : Nat) (l : Int32) (e9 : Nat) (g : Nat → Int32) (v5 : Option Value), i + d = 8 → e9 ≤ 8 → RN m_Fm_build (15, [some (.ref 141), some (.int pt), some (.int l), some (.int (nI e9)), some (.int (nI i)), v5], [.int (nI 8), .int (nI i)], hp L (mm_row I 143 g) J w, 0, 0) (some (.int (fm_b1 I n d l e9 g).1), hp L (mm_row I 143 (fm_b2 (fm_b1 I n d l e9 g).1 (fm_b1 I n d l e9 g).2.2 8).2) J w)
  | 0, i, l, e9, g, v5, hi, he => by
    obtain rfl : i = 8 := by omega
    refine RN.ict rfl (nI_le (Nat.le_refl _) (by omega)) ?_
    exact ev_build_2 L I J w n l (nI e9) (nI 8) 0 g v5 pt
  | d + 1, i, l, e9, g, v5, hi, he => by
    refine RN.icf rfl (nI_ge (show i < 8 by omega) (by omega)) ?_
    repeat (refine RN.st rfl ?_)
    by_cases q : e9 ≤ 2
    · have e : fm_b1 I n (d + 1) l e9 g = (l, e9, g) := if_pos (Or.inl q)
      rw [e]
      refine RN.ict rfl (show nI e9 ≤ nI 2 from nI_le q (by omega)) ?_
      exact ev_build_2 L I J w n l (nI e9) (nI i) 0 g v5 pt
    · refine RN.icf rfl (show ¬ nI e9 ≤ nI 2 from nI_ge (by omega) (by omega)) ?_
      repeat (refine RN.st rfl ?_)
      refine RN.call rfl rfl (ev_findGoing L (mm_row I 143 g) J w l n hn hsz) ?_
      rw [fm_gd_row]
      repeat (refine RN.st rfl ?_)
      by_cases q2 : fm_gd I l n 8 = -1
      · have e : fm_b1 I n (d + 1) l e9 g = (l, e9, g) := if_pos (Or.inr q2)
        rw [e]
        refine RN.icf rfl (fun z => z q2) ?_
        iterate 1 (refine RN.st rfl ?_)
        exact ev_build_2 L I J w n l (nI e9) (nI i) 0 g _ pt
      · have e : fm_b1 I n (d + 1) l e9 g = fm_b1 I n d (l &&& ((1 <<< (fm_gd I l n 8 &&& 31)) ^^^ (-1))) (e9 - 1) (fun j => if j = e9 - 1 then fm_gd I l n 8 else g j) := if_neg (fun z => z.elim q q2)
        rw [e]
        refine RN.ict rfl q2 ?_
        have ih := ev_build_1 L I J w n hn hsz pt d (i + 1) (l &&& ((1 <<< (fm_gd I l n 8 &&& 31)) ^^^ (-1))) (e9 - 1) (fun j => if j = e9 - 1 then fm_gd I l n 8 else g j) (some (.int (fm_gd I l n 8))) (by omega) (by omega)
        have e2 : nI (e9 - 1) = nI e9 + Int32.ofInt (-1) := by
          obtain ⟨k, rfl⟩ : ∃ k, e9 = k + 1 := ⟨e9 - 1, by omega⟩
          rw [pk_m1']; rfl
        rw [nI_succ i, ← mm_row_up] at ih
        iterate 13 (refine RN.st rfl ?_)
        refine RN.iast rfl (show (nI e9 + Int32.ofInt (-1) : Int32) = nI (e9 - 1) from e2.symm) rfl (show e9 - 1 < 8 by omega) rfl ?_
        rw [e2] at ih
        iterate 4 (refine RN.st rfl ?_)
        exact ih
theorem ev_build (L : Nat) (I : Nat → Nat → Int32) (J : Nat → Nat → Int64) (w : Nat → Nat) (n : Nat) (hn : n ≤ 20) (hsz : I 141 1 = nI n) (pt : Nat) (hpt : pt ≤ 8) (l : Int32) (hl : (1 <<< (nI pt &&& 31)) - 1 = l) : EV m_Fm_build [.ref 141, .int (nI pt)] (hp L I J w) (some (.int (fm_b1 I n 8 l pt (I 143)).1)) (hp L (mm_row I 143 (fm_b2 (fm_b1 I n 8 l pt (I 143)).1 (fm_b1 I n 8 l pt (I 143)).2.2 8).2) J w) := by
  unfold EV
  subst hl
  have key := ev_build_1 L I J w n hn hsz (nI pt) 8 0 ((1 <<< (nI pt &&& 31)) - 1) pt (I 143) none (by omega) hpt
  rw [mm_row_self] at key
  iterate 12 (refine RN.st rfl ?_)
  exact key
