/-! a table with a border -/
def bd {K : Type} [Lean.Grind.CommRing K] (n : Nat) (G : Nat → Nat → K) (u v : Nat → K) (s : K) : Nat → Nat → K := fun i j => if i < n then (if j < n then G i j else u i) else (if j < n then - v j else s)
theorem bd_in {K : Type} [Lean.Grind.CommRing K] {n : Nat} {G : Nat → Nat → K} {u v : Nat → K} {s : K} {i j : Nat} (hi : i < n) (hj : j < n) : bd n G u v s i j = G i j := by
  unfold bd; rw [if_pos hi, if_pos hj]
theorem bd_col {K : Type} [Lean.Grind.CommRing K] {n : Nat} {G : Nat → Nat → K} {u v : Nat → K} {s : K} {i : Nat} (hi : i < n) : bd n G u v s i n = u i := by
  unfold bd; rw [if_pos hi, if_neg (by omega)]
theorem bd_row {K : Type} [Lean.Grind.CommRing K] {n : Nat} {G : Nat → Nat → K} {u v : Nat → K} {s : K} {j : Nat} (hj : j < n) : bd n G u v s n j = - v j := by
  unfold bd; rw [if_neg (by omega), if_pos hj]
theorem bd_cor {K : Type} [Lean.Grind.CommRing K] {n : Nat} {G : Nat → Nat → K} {u v : Nat → K} {s : K} : bd n G u v s n n = s := by
  unfold bd; rw [if_neg (by omega), if_neg (by omega)]
theorem bd_s {K : Type} [Lean.Grind.CommRing K] (n : Nat) (G : Nat → Nat → K) (u v : Nat → K) (s : K) : det (n + 1) (bd n G u v s) = det (n + 1) (bd n G u v 0) + s * det n G := by
  have h := det_lin (n + 1) (bd n G u v 0) n (bd n G u v 0 n) (fun j => if j < n then 0 else 1) s (by omega)
  rw [rs_self] at h
  rw [det_last n (rs (bd n G u v 0) n (fun j => if j < n then 0 else 1)) (fun j hj => by rw [rs_at, if_pos hj]), rs_at, if_neg (by omega)] at h
  have e1 : det n (rs (bd n G u v 0) n (fun j => if j < n then 0 else 1)) = det n G := det_congr n (fun i j hi hj => by rw [rs_off _ _ (by omega), bd_in hi hj])
  rw [e1] at h
  have e2 : det (n + 1) (bd n G u v s) = det (n + 1) (rs (bd n G u v 0) n (fun j => bd n G u v 0 n j + s * (if j < n then 0 else 1))) := det_congr (n + 1) (fun i j hi hj => by
    by_cases e : i = n
    · rw [e, rs_at]
      by_cases hj2 : j < n
      · rw [bd_row hj2, bd_row hj2, if_pos hj2]; grind
      · obtain rfl : j = n := by omega
        rw [bd_cor, bd_cor, if_neg (by omega)]; grind
    · rw [rs_off _ _ e]
      by_cases hj2 : j < n
      · rw [bd_in (by omega) hj2, bd_in (by omega) hj2]
      · obtain rfl : j = n := by omega
        rw [bd_col (by omega), bd_col (by omega)])
  rw [e2, h]
  grind
/-- multiples of the last row added to the first m rows -/
theorem det_opl {K : Type} [Lean.Grind.CommRing K] (n : Nat) (M : Nat → Nat → K) (f : Nat → K) : ∀ m, m ≤ n → det (n + 1) (fun i j => if i < m then M i j + f i * M n j else M i j) = det (n + 1) M
  | 0, _ => det_congr _ (fun i j _ _ => if_neg (Nat.not_lt_zero i))
  | m + 1, hm => by
    rw [← det_opl n M f m (by omega), ← det_op (n + 1) (fun i j => if i < m then M i j + f i * M n j else M i j) m n (f m) (by omega) (by omega) (by omega)]
    refine det_congr _ (fun i j _ _ => ?_)
    by_cases e : i = m
    · rw [e, rs_at, if_pos (by omega), if_neg (by omega), if_neg (by omega)]
    · rw [rs_off _ _ e]
      by_cases hi : i < m
      · rw [if_pos hi, if_pos (by omega)]
      · rw [if_neg hi, if_neg (by omega)]
theorem bd_1 {K : Type} [Lean.Grind.CommRing K] (n : Nat) (G : Nat → Nat → K) (u v : Nat → K) : det (n + 1) (bd n G u v 1) = det n (fun i j => G i j + u i * v j) := by
  rw [← det_opl n (bd n G u v 1) (fun i => - u i) n (Nat.le_refl n), det_lastc n _ (fun i hi => by
    rw [if_pos hi, bd_col hi, bd_cor]; grind), if_neg (by omega), bd_cor]
  rw [det_congr n (N := fun i j => G i j + u i * v j) (fun i j hi hj => by
    rw [if_pos hi, bd_in hi hj, bd_row hj]; grind)]
  grind
theorem bd_r1 {K : Type} [Lean.Grind.CommRing K] (n : Nat) (G : Nat → Nat → K) (u v : Nat → K) : det n (fun i j => G i j + u i * v j) = det n G + det (n + 1) (bd n G u v 0) := by
  rw [← bd_1, bd_s]
  grind
/-- the form of the border -/
def bf {K : Type} [Lean.Grind.CommRing K] (n : Nat) (G : Nat → Nat → K) (u v : Nat → K) : K := det (n + 1) (bd n G u v 0)
theorem bf_linr {K : Type} [Lean.Grind.CommRing K] (n : Nat) (G : Nat → Nat → K) (u v x : Nat → K) (f : K) : bf n G u (fun j => v j + f * x j) = bf n G u v + f * bf n G u x := by
  have h := det_lin (n + 1) (bd n G u v 0) n (bd n G u v 0 n) (bd n G u x 0 n) f (by omega)
  rw [rs_self] at h
  have e1 : rs (bd n G u v 0) n (bd n G u x 0 n) = bd n G u x 0 := by
    funext i j
    unfold rs bd
    by_cases e : i = n
    · rw [if_pos e, if_neg (by omega), if_neg (by omega)]
    · rw [if_neg e]
      by_cases hi : i < n
      · rw [if_pos hi, if_pos hi]
      · rw [if_neg hi, if_neg hi]
        sorry
  sorry
