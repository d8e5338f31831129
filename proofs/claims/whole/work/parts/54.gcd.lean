/-! Fraction.findDivisor -/
section COPY
variable {mid pc : Nat} {Lo : ML} {st : List Value} {h : MH} {cu su : Nat} {R : MR}
theorem RN.copy {idx a b n : Nat} (hf : mm_fet mid pc = some (.invokestatic idx, 3, 0)) (hm : mm_mth (mi_c (mm_of mid)) idx = some 901) (ka : hK h a = 10) (kb : hK h b = 10) (hn : n ≤ 1000) (la : n ≤ hL h a) (lb : n ≤ hL h b) (hfr : Nat.ble 1 (mi_f (mm_of mid)) = true) (hw : Nat.ble (mm_cat st + 45) (mi_w (mm_of mid)) = true) (k : RN mid (pc + 3, Lo, st, rowJ h a (fun j => if j < n then hJ h b j else hJ h a j), cu, su) R) : RN mid (pc, Lo, .int (nI n) :: .int 0 :: .ref a :: .int 0 :: .ref b :: st, h, cu, su) R := by
  refine RN.st ?_ k
  rw [mm_one_of hf]
  show mm_inv mid (mi_c (mm_of mid)) idx pc false Lo (.int (nI n) :: .int 0 :: .ref a :: .int 0 :: .ref b :: st) h cu su = _
  unfold mm_inv
  rw [hm]
  have hc : (nI n).toNatClampNeg = n := nI_clamp (by omega)
  show (if false = false ∧ hK h a = 10 ∧ hK h b = 10 ∧ (0 : Int32) = 0 ∧ (0 : Int32) = 0 ∧ ¬ nI n < 0 ∧ (nI n).toNatClampNeg ≤ hL h a ∧ (nI n).toNatClampNeg ≤ hL h b ∧ Nat.ble 1 (mi_f (mm_of mid)) = true ∧ Nat.ble (mm_cat st + 45) (mi_w (mm_of mid)) = true then mm_nx (pc + 3) Lo st (rowJ h a (fun j => if j < (nI n).toNatClampNeg then hJ h b j else hJ h a j)) cu su else none) = _
  rw [hc, if_pos ⟨rfl, ka, kb, rfl, rfl, nI_pos (by omega), la, lb, hfr, hw⟩]
  rfl
end COPY
/-- the binary way to the greatest odd divisor, at most d steps -/
def bg : Nat → Nat → Nat → Nat × Nat
  | 0, x, y => (x, y)
  | d + 1, x, y => if x = y then (x, y) else if y < x then bg d (mo 150 (x - y)) y else bg d x (mo 150 (y - x))
theorem mo_le : ∀ d V, mo d V ≤ V
  | 0, V => Nat.le_refl V
  | d + 1, V => by
    show (if V % 2 = 0 then mo d (V / 2) else V) ≤ V
    have := mo_le d (V / 2)
    split <;> omega
theorem ev_findDivisor_loop (L : Nat) (I : Nat → Nat → Int32) (J : Nat → Nat → Int64) (w : Nat → Nat) : ∀ (d i x y : Nat) (v2 v3 : Option Value), i + d = 300 → x < 1073741824 ^ 5 → y < 1073741824 ^ 5 → RN m_Fr_findDivisor (48, [some (.ref 134), some (.int (nI i)), v2, v3], [.int (nI 300), .int (nI i)], hp L I (lm (lm J 137 x) 138 y) w, 0, 0) (none, hp L I (lm (lm J 137 (bg d x y).1) 138 (bg d x y).2) w)
  | 0, i, x, y, v2, v3, hi, lx, ly => by
    obtain rfl : i = 300 := by omega
    refine RN.ict rfl (nI_le (Nat.le_refl _) (by omega)) ?_
    exact RN.ret rfl
  | d + 1, i, x, y, v2, v3, hi, lx, ly => by
    have hx : ∀ j, j < 5 → lm (lm J 137 x) 138 y 137 j = zJ (dg x j) := fun j hj => (lm_off (a := 138) (c := 137) (lm J 137 x) y j (by decide)).trans (lm_at J 137 x hj)
    have hy : ∀ j, j < 5 → lm (lm J 137 x) 138 y 138 j = zJ (dg y j) := fun j hj => lm_at (lm J 137 x) 138 y hj
    refine RN.icf rfl (nI_ge (show i < 300 by omega) (by omega)) ?_
    iterate 4 (refine RN.st rfl ?_)
    by_cases e : x = y
    · have eb : bg (d + 1) x y = (x, y) := if_pos e
      rw [eb]
      refine RN.call rfl rfl (ev_compare L I (lm (lm J 137 x) 138 y) w 137 138 x y isL_137 isL_138 hx hy lx ly 0 (fun z => by omega) (fun z => by omega) (fun _ => rfl)) ?_
      iterate 2 (refine RN.st rfl ?_)
      refine RN.iff rfl (fun z => z rfl) ?_
      exact RN.ret rfl
    · by_cases lt : y < x
      · have eb : bg (d + 1) x y = bg d (mo 150 (x - y)) y := (if_neg e).trans (if_pos lt)
        rw [eb]
        have hm := mo_le 150 (x - y)
        have ih := ev_findDivisor_loop L I J w d (i + 1) (mo 150 (x - y)) y (some (.int 1)) (some (.ref 137)) (by omega) (by omega) ly
        rw [nI_succ] at ih
        refine RN.call rfl rfl (ev_compare L I (lm (lm J 137 x) 138 y) w 137 138 x y isL_137 isL_138 hx hy lx ly 1 (fun z => by omega) (fun _ => rfl) (fun z => by omega)) ?_
        iterate 2 (refine RN.st rfl ?_)
        refine RN.ift rfl (show ¬ (1 : Int32) = 0 by decide) ?_
        iterate 1 (refine RN.st rfl ?_)
        refine RN.iff rfl (show ¬ (1 : Int32) ≤ 0 by decide) ?_
        iterate 6 (refine RN.st rfl ?_)
        refine RN.iff rfl (show ¬ (1 : Int32) ≤ 0 by decide) ?_
        iterate 3 (refine RN.st rfl ?_)
        refine RN.call rfl rfl (ev_subtract L I (lm (lm J 137 x) 138 y) w 137 138 x y (by decide) isL_137 isL_138 hx hy (by omega)) ?_
        rw [lm_comm (lm J 137 x) (a := 138) (b := 137) (by decide), lm_lm]
        iterate 1 (refine RN.st rfl ?_)
        refine RN.call rfl rfl (ev_makeOdd L I (lm (lm J 137 (x - y)) 138 y) w 137 (x - y) isL_137 (fun j hj => (lm_off (a := 138) (c := 137) (lm J 137 (x - y)) y j (by decide)).trans (lm_at J 137 (x - y) hj)) (by omega)) ?_
        rw [lm_comm (lm J 137 (x - y)) (a := 138) (b := 137) (by decide), lm_lm]
        iterate 4 (refine RN.st rfl ?_)
        exact ih
      · have eb : bg (d + 1) x y = bg d x (mo 150 (y - x)) := (if_neg e).trans (if_neg lt)
        rw [eb]
        have hm := mo_le 150 (y - x)
        have ih := ev_findDivisor_loop L I J w d (i + 1) x (mo 150 (y - x)) (some (.int (-1))) (some (.ref 138)) (by omega) lx (by omega)
        rw [nI_succ] at ih
        refine RN.call rfl rfl (ev_compare L I (lm (lm J 137 x) 138 y) w 137 138 x y isL_137 isL_138 hx hy lx ly (-1) (fun _ => rfl) (fun z => by omega) (fun z => by omega)) ?_
        iterate 2 (refine RN.st rfl ?_)
        refine RN.ift rfl (show ¬ (-1 : Int32) = 0 by decide) ?_
        iterate 1 (refine RN.st rfl ?_)
        refine RN.ift rfl (show (-1 : Int32) ≤ 0 by decide) ?_
        iterate 5 (refine RN.st rfl ?_)
        refine RN.ift rfl (show (-1 : Int32) ≤ 0 by decide) ?_
        iterate 2 (refine RN.st rfl ?_)
        refine RN.call rfl rfl (ev_subtract L I (lm (lm J 137 x) 138 y) w 138 137 y x (by decide) isL_138 isL_137 hy hx (by omega)) ?_
        rw [lm_lm]
        iterate 1 (refine RN.st rfl ?_)
        refine RN.call rfl rfl (ev_makeOdd L I (lm (lm J 137 x) 138 (y - x)) w 138 (y - x) isL_138 (fun j hj => lm_at (lm J 137 x) 138 (y - x) hj) (by omega)) ?_
        rw [lm_lm]
        iterate 4 (refine RN.st rfl ?_)
        exact ih
theorem ev_findDivisor (L : Nat) (I : Nat → Nat → Int32) (J : Nat → Nat → Int64) (w : Nat → Nat) (A B : Nat) (lA : A < 1073741824 ^ 5) (lB : B < 1073741824 ^ 5) (hA : ∀ j, j < 5 → J 135 j = zJ (dg A j)) (hB : ∀ j, j < 5 → J 136 j = zJ (dg B j)) : EV m_Fr_findDivisor [.ref 134] (hp L I J w) none (hp L I (lm (lm J 137 (bg 300 (mo 150 A) (mo 150 B)).1) 138 (bg 300 (mo 150 A) (mo 150 B)).2) w) := by
  have mA := mo_le 150 A
  have mB := mo_le 150 B
  have key := ev_findDivisor_loop L I J w 300 0 (mo 150 A) (mo 150 B) none none (by omega) (by omega) (by omega)
  unfold EV
  iterate 7 (refine RN.st rfl ?_)
  refine RN.copy (n := 5) rfl rfl rfl rfl (by omega) (show 5 ≤ 5 by omega) (show 5 ≤ 5 by omega) rfl rfl ?_
  have e1 : mm_row J 137 (fun j => if j < 5 then J 135 j else J 137 j) = lm J 137 A := by
    unfold lm
    apply mm_row_congr
    intro j
    by_cases hj : j < 5
    · rw [if_pos hj, if_pos hj, hA j hj]
    · rw [if_neg hj, if_neg hj]
  show RN m_Fr_findDivisor (14, _, _, hp L I (mm_row J 137 (fun j => if j < 5 then J 135 j else J 137 j)) w, 0, 0) _
  rw [e1]
  iterate 7 (refine RN.st rfl ?_)
  refine RN.copy (n := 5) rfl rfl rfl rfl (by omega) (show 5 ≤ 5 by omega) (show 5 ≤ 5 by omega) rfl rfl ?_
  have e2 : mm_row (lm J 137 A) 138 (fun j => if j < 5 then lm J 137 A 136 j else lm J 137 A 138 j) = lm (lm J 137 A) 138 B := by
    show _ = mm_row (lm J 137 A) 138 _
    apply mm_row_congr
    intro j
    by_cases hj : j < 5
    · rw [if_pos hj, if_pos hj, lm_off J A j (by decide), hB j hj]
    · rw [if_neg hj, if_neg hj]
  show RN m_Fr_findDivisor (28, _, _, hp L I (mm_row (lm J 137 A) 138 (fun j => if j < 5 then lm J 137 A 136 j else lm J 137 A 138 j)) w, 0, 0) _
  rw [e2]
  iterate 2 (refine RN.st rfl ?_)
  refine RN.call rfl rfl (ev_makeOdd L I (lm (lm J 137 A) 138 B) w 137 A isL_137 (fun j hj => (lm_off (a := 138) (c := 137) (lm J 137 A) B j (by decide)).trans (lm_at J 137 A hj)) lA) ?_
  rw [lm_comm (lm J 137 A) (a := 138) (b := 137) (by decide), lm_lm]
  iterate 2 (refine RN.st rfl ?_)
  refine RN.call rfl rfl (ev_makeOdd L I (lm (lm J 137 (mo 150 A)) 138 B) w 138 B isL_138 (fun j hj => lm_at (lm J 137 (mo 150 A)) 138 B hj) lB) ?_
  rw [lm_lm]
  iterate 4 (refine RN.st rfl ?_)
  exact key
