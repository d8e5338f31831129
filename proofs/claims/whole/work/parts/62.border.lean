/-! a table with a border -/
def bd {K : Type} [Lean.Grind.CommRing K] (n : Nat) (G : Nat → Nat → K) (u v : Nat → K) (s : K) : Nat → Nat → K := fun i j => if i < n then (if j < n then G i j else u i) else (if j < n then - v j else s)
theorem bd_in {K : Type} [Lean.Grind.CommRing K] {n : Nat} {G : Nat → Nat → K} {u v : Nat → K} {s : K} {i j : Nat} (hi : i < n) (hj : j < n) : bd n G u v s i j = G i j := by
  unfold bd; rw [if_pos hi, if_pos hj]
theorem bd_col {K : Type} [Lean.Grind.CommRing K] {n : Nat} {G : Nat → Nat → K} {u v : Nat → K} {s : K} {i : Nat} (hi : i < n) : bd n G u v s i n = u i := by
  unfold bd; rw [if_pos hi, if_neg (by omega)]
theorem bd_row {K : Type} [Lean.Grind.CommRing K] {n : Nat} {G : Nat → Nat → K} {u v : Nat → K} {s : K} {j : Nat} (hj : j < n) : bd n G u v s n j = - v j := by
  unfold bd; rw [if_neg (by omega), if_pos hj]
theorem bd_cor {K : Type} [Lean.Grind.CommRing K] {n : Nat} {G : Nat → Nat → K} {u v : Nat → K} {s : K} : bd n G u v s n n = s := by
  unfold bd; rw [if_neg (by omega), if_neg (by omega)]
theorem bd_s {K : Type} [Lean.Grind.CommRing K] (n : Nat) (G : Nat → Nat → K) (u v : Nat → K) (s : K) : det (n + 1) (bd n G u v s) = det (n + 1) (bd n G u v 0) + s * det n G := by
  have h := det_lin (n + 1) (bd n G u v 0) n (bd n G u v 0 n) (fun j => if j < n then 0 else 1) s (by omega)
  rw [rs_self] at h
  rw [det_last n (rs (bd n G u v 0) n (fun j => if j < n then 0 else 1)) (fun j hj => by rw [rs_at, if_pos hj]), rs_at, if_neg (by omega)] at h
  have e1 : det n (rs (bd n G u v 0) n (fun j => if j < n then 0 else 1)) = det n G := det_congr n (fun i j hi hj => by rw [rs_off _ _ (by omega), bd_in hi hj])
  rw [e1] at h
  have e2 : det (n + 1) (bd n G u v s) = det (n + 1) (rs (bd n G u v 0) n (fun j => bd n G u v 0 n j + s * (if j < n then 0 else 1))) := det_congr (n + 1) (fun i j hi hj => by
    by_cases e : i = n
    · rw [e, rs_at]
      by_cases hj2 : j < n
      · rw [bd_row hj2, bd_row hj2, if_pos hj2]; grind
      · obtain rfl : j = n := by omega
        rw [bd_cor, bd_cor, if_neg (by omega)]; grind
    · rw [rs_off _ _ e]
      by_cases hj2 : j < n
      · rw [bd_in (by omega) hj2, bd_in (by omega) hj2]
      · obtain rfl : j = n := by omega
        rw [bd_col (by omega), bd_col (by omega)])
  rw [e2, h]
  grind
/-- multiples of the last row added to the first m rows -/
theorem det_opl {K : Type} [Lean.Grind.CommRing K] (n : Nat) (M : Nat → Nat → K) (f : Nat → K) : ∀ m, m ≤ n → det (n + 1) (fun i j => if i < m then M i j + f i * M n j else M i j) = det (n + 1) M
  | 0, _ => det_congr _ (fun i j _ _ => if_neg (Nat.not_lt_zero i))
  | m + 1, hm => by
    rw [← det_opl n M f m (by omega), ← det_op (n + 1) (fun i j => if i < m then M i j + f i * M n j else M i j) m n (f m) (by omega) (by omega) (by omega)]
    refine det_congr _ (fun i j _ _ => ?_)
    by_cases e : i = m
    · rw [e, rs_at, if_pos (by omega), if_neg (by omega), if_neg (by omega)]
    · rw [rs_off _ _ e]
      by_cases hi : i < m
      · rw [if_pos hi, if_pos (by omega)]
      · rw [if_neg hi, if_neg (by omega)]
theorem bd_1 {K : Type} [Lean.Grind.CommRing K] (n : Nat) (G : Nat → Nat → K) (u v : Nat → K) : det (n + 1) (bd n G u v 1) = det n (fun i j => G i j + u i * v j) := by
  rw [← det_opl n (bd n G u v 1) (fun i => - u i) n (Nat.le_refl n), det_lastc n _ (fun i hi => by
    rw [if_pos hi, bd_col hi, bd_cor]; grind), if_neg (by omega), bd_cor]
  rw [det_congr n (N := fun i j => G i j + u i * v j) (fun i j hi hj => by
    rw [if_pos hi, bd_in hi hj, bd_row hj]; grind)]
  grind
theorem bd_r1 {K : Type} [Lean.Grind.CommRing K] (n : Nat) (G : Nat → Nat → K) (u v : Nat → K) : det n (fun i j => G i j + u i * v j) = det n G + det (n + 1) (bd n G u v 0) := by
  rw [← bd_1, bd_s]
  grind
/-- the form of the border -/
def bf {K : Type} [Lean.Grind.CommRing K] (n : Nat) (G : Nat → Nat → K) (u v : Nat → K) : K := det (n + 1) (bd n G u v 0)
theorem bf_congr {K : Type} [Lean.Grind.CommRing K] {n : Nat} {G G' : Nat → Nat → K} {u u' v v' : Nat → K} (hG : ∀ i j, i < n → j < n → G i j = G' i j) (hu : ∀ i, i < n → u i = u' i) (hv : ∀ i, i < n → v i = v' i) : bf n G u v = bf n G' u' v' := by
  refine det_congr (n + 1) (fun i j hi hj => ?_)
  unfold bd
  by_cases h1 : i < n
  · by_cases h2 : j < n
    · rw [if_pos h1, if_pos h1, if_pos h2, if_pos h2, hG i j h1 h2]
    · rw [if_pos h1, if_pos h1, if_neg h2, if_neg h2, hu i h1]
  · by_cases h2 : j < n
    · rw [if_neg h1, if_neg h1, if_pos h2, if_pos h2, hv j h2]
    · rw [if_neg h1, if_neg h1, if_neg h2, if_neg h2]
theorem bf_linr {K : Type} [Lean.Grind.CommRing K] (n : Nat) (G : Nat → Nat → K) (u v x : Nat → K) (f : K) : bf n G u (fun j => v j + f * x j) = bf n G u v + f * bf n G u x := by
  have h := det_lin (n + 1) (bd n G u v 0) n (bd n G u v 0 n) (bd n G u x 0 n) f (by omega)
  rw [rs_self] at h
  have e1 : det (n + 1) (rs (bd n G u v 0) n (bd n G u x 0 n)) = det (n + 1) (bd n G u x 0) := det_congr (n + 1) (fun i j hi hj => by
    by_cases e : i = n
    · rw [e, rs_at]
    · rw [rs_off _ _ e]
      simp [bd, show i < n by omega])
  have e2 : det (n + 1) (bd n G u (fun j => v j + f * x j) 0) = det (n + 1) (rs (bd n G u v 0) n (fun j => bd n G u v 0 n j + f * bd n G u x 0 n j)) := det_congr (n + 1) (fun i j hi hj => by
    by_cases e : i = n
    · rw [e, rs_at]
      by_cases h2 : j < n
      · simp [bd, h2]; grind
      · simp [bd, h2]; grind
    · rw [rs_off _ _ e]
      simp [bd, show i < n by omega])
  unfold bf
  rw [e2, h, e1]
theorem bf_negr {K : Type} [Lean.Grind.CommRing K] (n : Nat) (G : Nat → Nat → K) (u v : Nat → K) : bf n G u (fun j => - v j) = - bf n G u v := by
  have h := bf_linr n G u v v (-2)
  rw [show (fun j => v j + -2 * v j) = fun j => - v j from funext fun j => by grind] at h
  rw [h]
  grind
theorem bf_tr {K : Type} [Lean.Grind.CommRing K] {n : Nat} {G : Nat → Nat → K} (hG : ∀ i j, G i j = G j i) (u v : Nat → K) : bf n G u v = bf n G (fun i => - v i) (fun i => - u i) := by
  unfold bf
  rw [← det_tr (n + 1) (bd n G u v 0)]
  refine det_congr (n + 1) (fun i j _ _ => ?_)
  by_cases h1 : i < n
  · by_cases h2 : j < n
    · simp [bd, h1, h2]; exact hG j i
    · simp [bd, h1, h2]
  · by_cases h2 : j < n
    · simp [bd, h1, h2]; grind
    · simp [bd, h1, h2]
theorem bf_sym {K : Type} [Lean.Grind.CommRing K] {n : Nat} {G : Nat → Nat → K} (hG : ∀ i j, G i j = G j i) (u v : Nat → K) : bf n G u v = bf n G v u := by
  have a : ∀ x y : Nat → K, bf n G x y = - bf n G (fun i => - y i) x := fun x y => by rw [bf_tr hG x y, bf_negr]
  have b : ∀ x y : Nat → K, bf n G (fun i => - x i) y = - bf n G x y := fun x y => by
    have h1 := a x y
    rw [a (fun i => - y i) x, bf_negr] at h1
    grind
  rw [a u v, b v u]
  grind
theorem bf_0r {K : Type} [Lean.Grind.CommRing K] (n : Nat) (G : Nat → Nat → K) (u : Nat → K) : bf n G u (fun _ => 0) = 0 := by
  have h := bf_linr n G u (fun _ => 0) (fun _ => 0) (-1)
  rw [show (fun j : Nat => (0 : K) + -1 * 0) = fun _ => 0 from funext fun j => by grind] at h
  rw [h]
  grind
def ev {K : Type} [Lean.Grind.CommRing K] (i : Nat) : Nat → K := fun c => if c = i then 1 else 0
theorem bf_expr {K : Type} [Lean.Grind.CommRing K] (n : Nat) (G : Nat → Nat → K) (u v : Nat → K) : bf n G u v = sm (fun j => v j * bf n G u (ev j)) n := by
  have key : ∀ m, bf n G u (fun c => if c < m then v c else 0) = sm (fun j => v j * bf n G u (ev j)) m := by
    intro m
    induction m with
    | zero =>
      rw [show (fun c => if c < 0 then v c else 0) = fun _ => (0 : K) from funext fun c => if_neg (Nat.not_lt_zero c), bf_0r]
      rfl
    | succ m ih =>
      show _ = sm _ m + v m * bf n G u (ev m)
      rw [← ih, ← bf_linr]
      congr 1
      funext c
      unfold ev
      by_cases h : c < m
      · rw [if_pos h, if_pos (by omega), if_neg (by omega)]; grind
      · by_cases h2 : c = m
        · rw [if_pos (by omega), if_neg h, if_pos h2, h2]; grind
        · rw [if_neg (by omega), if_neg h, if_neg h2]; grind
  rw [← key n]
  exact bf_congr (fun _ _ _ _ => rfl) (fun _ _ => rfl) (fun i hi => (if_pos hi).symm)
theorem bf_ex2 {K : Type} [Lean.Grind.CommRing K] {n : Nat} {G : Nat → Nat → K} (hG : ∀ i j, G i j = G j i) (u v : Nat → K) : bf n G u v = sm (fun j => v j * sm (fun i => u i * bf n G (ev j) (ev i)) n) n := by
  rw [bf_expr]
  refine sm_congr n (fun j _ => ?_)
  rw [bf_sym hG u (ev j), bf_expr n G (ev j) u]
/-- what the border's corner is worth when the border is a sum of the table's columns -/
theorem bd_sol {K : Type} [Lean.Grind.CommRing K] {n : Nat} {G : Nat → Nat → K} (hG : ∀ i j, G i j = G j i) (x v : Nat → K) : bf n G (fun i => sm (fun j => x j * G i j) n) v = det n G * sm (fun j => v j * x j) n := by
  have e0 : ∀ k, k < n → bf n G (fun i => G i k) v = v k * det n G := by
    intro k hk
    have h := det_op (n + 1) (bd n G v (fun i => G i k) 0) n k 1 (by omega) (by omega) (by omega)
    rw [det_last n _ (fun j hj => by
      rw [rs_at]
      show bd n G v (fun i => G i k) 0 n j + 1 * bd n G v (fun i => G i k) 0 k j = 0
      rw [bd_row hj, bd_in hk hj, hG k j]; grind), rs_at] at h
    rw [bd_cor, bd_col hk, det_congr n (N := G) (fun i j hi hj => by rw [rs_off _ _ (by omega), bd_in hi hj])] at h
    rw [bf_sym hG]
    unfold bf
    rw [← h]
    grind
  have key : ∀ m, m ≤ n → bf n G v (fun i => sm (fun j => x j * G i j) m) = det n G * sm (fun j => v j * x j) m := by
    intro m
    induction m with
    | zero =>
      intro _
      show bf n G v (fun _ => 0) = det n G * 0
      rw [bf_0r]; grind
    | succ m ih =>
      intro hm
      show bf n G v (fun i => sm (fun j => x j * G i j) m + x m * G i m) = det n G * (sm (fun j => v j * x j) m + v m * x m)
      rw [bf_linr, ih (by omega), bf_sym hG v, e0 m (by omega)]
      grind
  rw [bf_sym hG]
  exact key n (Nat.le_refl n)
/-! bounds -/
def ax {K : Type} [Lean.Grind.CommRing K] (D : Nat) (A : Nat → Nat → K) (u : Nat → K) : Nat → Nat → K := fun i c => if c < D then A i c else u i
theorem dt_ax {K : Type} [Lean.Grind.CommRing K] (D : Nat) (A : Nat → Nat → K) (u : Nat → K) (i j : Nat) : dt (D + 1) (ax D A u i) (ax D A u j) = dt D (A i) (A j) + u i * u j := by
  show sm _ D + ax D A u i D * ax D A u j D = _
  unfold ax dt
  rw [if_neg (by omega), if_neg (by omega), sm_congr D (fun c hc => by rw [if_pos hc, if_pos hc])]
theorem gd_ax {K : Type} [Lean.Grind.CommRing K] (D n : Nat) (A : Nat → Nat → K) (u : Nat → K) : gd (D + 1) n (ax D A u) = gd D n A + bf n (gm D A) u u := by
  unfold bf gd
  rw [← bd_r1]
  exact det_congr n (fun i j _ _ => dt_ax D A u i j)
theorem gm_sym {K : Type} [Lean.Grind.CommRing K] (D : Nat) (A : Nat → Nat → K) (i j : Nat) : gm D A i j = gm D A j i := dt_comm D _ _
theorem bf_nn (D n : Nat) (A : Nat → Nat → Rat) (u : Nat → Rat) : 0 ≤ bf n (gm D A) u u := by
  have h : ∀ s : Rat, 0 ≤ gd D n A + s * s * bf n (gm D A) u u := by
    intro s
    have h1 := (gd_had (D + 1) n (ax D A (fun i => s * u i))).1
    rw [gd_ax] at h1
    have e : bf n (gm D A) (fun i => s * u i) (fun i => s * u i) = s * s * bf n (gm D A) u u := by
      have sc : ∀ x y : Nat → Rat, bf n (gm D A) x (fun i => s * y i) = s * bf n (gm D A) x y := fun x y => by
        have z := bf_linr n (gm D A) x (fun _ => 0) y s
        rw [bf_0r, show (fun j => (0 : Rat) + s * y j) = fun j => s * y j from funext fun j => by grind] at z
        rw [z]; grind
      rw [sc, bf_sym (gm_sym D A), sc]
      grind
    rw [e] at h1
    exact h1
  have g0 := (gd_had D n A).1
  generalize gd D n A = g at *
  generalize bf n (gm D A) u u = b at *
  by_cases hb : 0 ≤ b
  · exact hb
  · exfalso
    have hb' : 0 < -b := by grind
    have hq : g / (-b) * (-b) = g := Rat.div_mul_cancel (by grind)
    have hq0 : 0 ≤ g / (-b) := by
      by_cases z : 0 ≤ g / (-b)
      · exact z
      · have z1 : 0 ≤ -(g / (-b)) := by grind
        have z2 := Rat.mul_nonneg z1 (Rat.le_of_lt hb')
        have z3 : g = 0 := by grind
        rw [z3] at z
        exact absurd (show (0 : Rat) ≤ 0 / -b by rw [Rat.div_def, Rat.zero_mul]; exact Rat.le_refl) z
    have h1 := h (g / (-b) + 1)
    have e : (g / (-b) + 1) * (g / (-b) + 1) * b = -(g / (-b)) * g - 2 * g + b := by grind
    have h2 := Rat.mul_nonneg hq0 g0
    rw [e] at h1
    grind
theorem pd_pow {f : Nat → Rat} {B : Rat} (hB : 0 ≤ B) : ∀ n, (∀ i, i < n → 0 ≤ f i ∧ f i ≤ B) → pd f n ≤ B ^ n
  | 0, _ => by show (1 : Rat) ≤ B ^ 0; rw [Rat.pow_zero]; exact Rat.le_refl
  | n + 1, h => by
    have h1 := pd_pow hB n (fun i hi => h i (by omega))
    have h2 := (pd_le (f := f) (g := fun _ => B) n (fun i hi => ⟨(h i (by omega)).1, (h i (by omega)).2⟩)).1
    obtain ⟨a, b⟩ := h n (by omega)
    show f n * pd f n ≤ B ^ (n + 1)
    rw [Rat.pow_succ]
    have e1 := Rat.mul_nonneg (show 0 ≤ B - f n by grind) h2
    have e2 := Rat.mul_nonneg hB (show 0 ≤ B ^ n - pd f n by grind)
    grind
theorem gd_37 {D n : Nat} {A : Nat → Nat → Rat} (h : ∀ i, i < n → dt D (A i) (A i) ≤ 36) : gd D n A ≤ 37 ^ n := by
  refine Rat.le_trans (gd_had D n A).2 (pd_pow (by decide) n (fun i hi => ⟨dt_nn _ D, ?_⟩))
  have := h i hi
  grind
theorem bf_ee {D n : Nat} {A : Nat → Nat → Rat} (h : ∀ i, i < n → dt D (A i) (A i) ≤ 36) (k : Nat) : bf n (gm D A) (ev k) (ev k) ≤ 37 ^ n := by
  have h1 := (gd_had (D + 1) n (ax D A (ev k))).2
  have h2 := pd_pow (f := fun i => dt (D + 1) (ax D A (ev k) i) (ax D A (ev k) i)) (B := 37) (by decide) n (fun i hi => ⟨dt_nn _ _, by
    rw [dt_ax]
    have := h i hi
    unfold ev
    split
    · grind
    · grind⟩)
  have h3 := (gd_had D n A).1
  rw [gd_ax] at h1
  grind
/-- between -B and B -/
def wn (x B : Rat) : Prop := -B ≤ x ∧ x ≤ B
theorem wn_sm {f : Nat → Rat} {B : Rat} : ∀ n, (∀ i, i < n → wn (f i) B) → wn (sm f n) (n * B)
  | 0, _ => by
    show -((0 : Nat) * B) ≤ (0 : Rat) ∧ (0 : Rat) ≤ (0 : Nat) * B
    rw [show ((0 : Nat) : Rat) = 0 from rfl]
    grind
  | n + 1, h => by
    obtain ⟨a, b⟩ := wn_sm n (fun i hi => h i (by omega))
    obtain ⟨c, d⟩ := h n (by omega)
    show -(((n + 1 : Nat) : Rat) * B) ≤ sm f n + f n ∧ sm f n + f n ≤ ((n + 1 : Nat) : Rat) * B
    rw [Rat.natCast_add, show ((1 : Nat) : Rat) = 1 from rfl]
    grind
theorem wn_mul {x y B C : Rat} (h1 : wn x B) (h2 : wn y C) : wn (x * y) (B * C) := by
  obtain ⟨a, b⟩ := h1
  obtain ⟨c, d⟩ := h2
  have e1 := Rat.mul_nonneg (show 0 ≤ B - x by grind) (show 0 ≤ C - y by grind)
  have e2 := Rat.mul_nonneg (show 0 ≤ B + x by grind) (show 0 ≤ C + y by grind)
  have e3 := Rat.mul_nonneg (show 0 ≤ B - x by grind) (show 0 ≤ C + y by grind)
  have e4 := Rat.mul_nonneg (show 0 ≤ B + x by grind) (show 0 ≤ C - y by grind)
  constructor <;> grind
theorem bf_wn {D n : Nat} {A : Nat → Nat → Rat} (h : ∀ i, i < n → dt D (A i) (A i) ≤ 36) (i j : Nat) : wn (bf n (gm D A) (ev i) (ev j)) (37 ^ n) := by
  have s := bf_sym (gm_sym D A) (n := n) (ev i) (ev j)
  have a := bf_ee h i
  have b := bf_ee h j
  have c : ∀ f : Rat, bf n (gm D A) (fun c => ev i c + f * ev j c) (fun c => ev i c + f * ev j c) = bf n (gm D A) (ev i) (ev i) + 2 * f * bf n (gm D A) (ev i) (ev j) + f * f * bf n (gm D A) (ev j) (ev j) := by
    intro f
    rw [bf_linr n (gm D A) (fun c => ev i c + f * ev j c) (ev i) (ev j) f, bf_sym (gm_sym D A) (fun c => ev i c + f * ev j c) (ev i), bf_sym (gm_sym D A) (fun c => ev i c + f * ev j c) (ev j), bf_linr, bf_linr, ← s]
    grind
  have p := bf_nn D n A (fun c => ev i c + 1 * ev j c)
  have q := bf_nn D n A (fun c => ev i c + (-1) * ev j c)
  rw [c] at p q
  constructor <;> grind
theorem bf_bound {D n : Nat} {A : Nat → Nat → Rat} (h : ∀ i, i < n → dt D (A i) (A i) ≤ 36) {u v : Nat → Rat} {U V : Rat} (hu : ∀ i, i < n → wn (u i) U) (hv : ∀ i, i < n → wn (v i) V) : wn (bf n (gm D A) u v) (n * (V * (n * (U * 37 ^ n)))) := by
  rw [bf_ex2 (gm_sym D A)]
  exact wn_sm n (fun j hj => wn_mul (hv j hj) (wn_sm n (fun i hi => wn_mul (hu i hi) (bf_wn h j i))))
