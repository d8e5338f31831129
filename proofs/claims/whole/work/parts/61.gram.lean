/-! products of vectors, and their determinants -/
def dt {K : Type} [Lean.Grind.CommRing K] (D : Nat) (u v : Nat → K) : K := sm (fun c => u c * v c) D
def gm {K : Type} [Lean.Grind.CommRing K] (D : Nat) (A : Nat → Nat → K) : Nat → Nat → K := fun i j => dt D (A i) (A j)
def gd {K : Type} [Lean.Grind.CommRing K] (D n : Nat) (A : Nat → Nat → K) : K := det n (gm D A)
theorem dt_comm {K : Type} [Lean.Grind.CommRing K] (D : Nat) (u v : Nat → K) : dt D u v = dt D v u := sm_congr D (fun c _ => by grind)
theorem dt_lin {K : Type} [Lean.Grind.CommRing K] (D : Nat) (u v w : Nat → K) (f : K) : dt D (fun c => u c + f * v c) w = dt D u w + f * dt D v w := by
  unfold dt
  rw [← sm_lin]
  exact sm_congr D (fun c _ => by grind)
theorem dt_linr {K : Type} [Lean.Grind.CommRing K] (D : Nat) (u v w : Nat → K) (f : K) : dt D w (fun c => u c + f * v c) = dt D w u + f * dt D w v := by
  rw [dt_comm, dt_lin, dt_comm D u, dt_comm D v]
theorem dt_mul {K : Type} [Lean.Grind.CommRing K] (D : Nat) (v w : Nat → K) (f : K) : dt D (fun c => f * v c) w = f * dt D v w := by
  unfold dt
  rw [← sm_mul]
  exact sm_congr D (fun c _ => by grind)
theorem dt_congr {K : Type} [Lean.Grind.CommRing K] {D : Nat} {u u' v v' : Nat → K} (h1 : ∀ c, c < D → u c = u' c) (h2 : ∀ c, c < D → v c = v' c) : dt D u v = dt D u' v' := sm_congr D (fun c hc => by rw [h1 c hc, h2 c hc])
theorem gd_congr {K : Type} [Lean.Grind.CommRing K] {D n : Nat} {A B : Nat → Nat → K} (h : ∀ i c, i < n → c < D → A i c = B i c) : gd D n A = gd D n B := det_congr n (fun i j hi hj => dt_congr (fun c hc => h i c hi hc) (fun c hc => h j c hj hc))
theorem det_scale {K : Type} [Lean.Grind.CommRing K] (n : Nat) (M : Nat → Nat → K) (k : Nat) (v : Nat → K) (f : K) (hk : k < n) : det n (rs M k (fun j => f * v j)) = f * det n (rs M k v) := by
  have h := det_lin n M k v v (f - 1) hk
  rw [show (fun j => v j + (f - 1) * v j) = fun j => f * v j from funext fun j => by grind] at h
  rw [h]
  grind
def mx {K : Type} [Lean.Grind.CommRing K] (D : Nat) (U V : Nat → Nat → K) : Nat → Nat → K := fun i j => dt D (U i) (V j)
theorem mx_tr {K : Type} [Lean.Grind.CommRing K] (D n : Nat) (U V : Nat → Nat → K) : det n (mx D U V) = det n (mx D V U) := by
  rw [← det_tr n (mx D U V)]
  exact det_congr n (fun i j _ _ => dt_comm D (U j) (V i))
theorem rs_at {K : Type} [Lean.Grind.CommRing K] (A : Nat → Nat → K) (r : Nat) (x : Nat → K) : rs A r x r = x := funext fun _ => if_pos rfl
theorem rs_off {K : Type} [Lean.Grind.CommRing K] (A : Nat → Nat → K) {r i : Nat} (x : Nat → K) (h : i ≠ r) : rs A r x i = A i := funext fun _ => if_neg h
theorem mx_rs {K : Type} [Lean.Grind.CommRing K] (D : Nat) (U V : Nat → Nat → K) (r : Nat) (x : Nat → K) : mx D (rs U r x) V = rs (mx D U V) r (fun j => dt D x (V j)) := by
  funext i j
  by_cases hi : i = r
  · rw [hi, rs_at]
    show dt D (rs U r x r) (V j) = _
    rw [rs_at]
  · rw [rs_off _ _ hi]
    show dt D (rs U r x i) (V j) = _
    rw [rs_off _ _ hi]
    rfl
theorem mx_op {K : Type} [Lean.Grind.CommRing K] (D n : Nat) (U V : Nat → Nat → K) (r s : Nat) (f : K) (hr : r < n) (hs : s < n) (hrs : r ≠ s) : det n (mx D (rs U r (fun c => U r c + f * U s c)) V) = det n (mx D U V) := by
  rw [mx_rs, ← det_op n (mx D U V) r s f hr hs hrs]
  congr 2
  funext j
  exact dt_lin D _ _ _ f
theorem mx_scale {K : Type} [Lean.Grind.CommRing K] (D n : Nat) (U V : Nat → Nat → K) (r : Nat) (x : Nat → K) (f : K) (hr : r < n) : det n (mx D (rs U r (fun c => f * x c)) V) = f * det n (mx D (rs U r x) V) := by
  rw [mx_rs, mx_rs, ← det_scale n (mx D U V) r _ f hr]
  congr 2
  funext j
  exact dt_mul D _ _ f
theorem rs_rs {K : Type} [Lean.Grind.CommRing K] (A : Nat → Nat → K) (r : Nat) (x y : Nat → K) : rs (rs A r x) r y = rs A r y := by
  funext i j
  unfold rs
  split <;> rfl
theorem gd_op {K : Type} [Lean.Grind.CommRing K] (D n : Nat) (A : Nat → Nat → K) (r s : Nat) (f : K) (hr : r < n) (hs : s < n) (hrs : r ≠ s) : gd D n (rs A r (fun c => A r c + f * A s c)) = gd D n A := by
  show det n (mx D _ _) = det n (mx D _ _)
  rw [mx_op D n A _ r s f hr hs hrs, mx_tr, mx_op D n A _ r s f hr hs hrs]
theorem gd_scale {K : Type} [Lean.Grind.CommRing K] (D n : Nat) (A : Nat → Nat → K) (r : Nat) (x : Nat → K) (f : K) (hr : r < n) : gd D n (rs A r (fun c => f * x c)) = f * f * gd D n (rs A r x) := by
  show det n (mx D _ _) = f * f * det n (mx D _ _)
  rw [mx_scale D n A _ r x f hr, mx_tr, mx_scale D n A _ r x f hr]
  grind
/-- a sum of other rows added -/
theorem gd_ops {K : Type} [Lean.Grind.CommRing K] (D n : Nat) (A : Nat → Nat → K) (r : Nat) (f : Nat → K) (hr : r < n) : ∀ m, m ≤ n → (∀ j, j < m → j = r → f j = 0) → gd D n (rs A r (fun c => A r c + sm (fun j => f j * A j c) m)) = gd D n A
  | 0, _, _ => gd_congr (fun i c _ _ => by
      unfold rs
      split
      · rename_i h; rw [h]; show A r c + 0 = _; grind
      · rfl)
  | m + 1, hm, hf => by
    have ih := gd_ops D n A r f hr m (by omega) (fun j hj => hf j (by omega))
    by_cases e : m = r
    · have z := hf m (by omega) e
      rw [← ih]
      refine gd_congr (fun i c _ _ => ?_)
      unfold rs
      split
      · show A r c + (sm _ m + f m * A m c) = _
        rw [z]; grind
      · rfl
    · rw [← ih, ← gd_op D n (rs A r (fun c => A r c + sm (fun j => f j * A j c) m)) r m (f m) hr (by omega) (Ne.symm e)]
      refine gd_congr (fun i c _ _ => ?_)
      by_cases hi : i = r
      · rw [hi, rs_at, rs_at]
        rw [rs_at, rs_off _ _ e]
        show A r c + (sm _ m + f m * A m c) = _
        grind
      · rw [rs_off _ _ hi, rs_off _ _ hi, rs_off _ _ hi]
theorem gd_last {K : Type} [Lean.Grind.CommRing K] (D n : Nat) (A : Nat → Nat → K) (h : ∀ j, j < n → dt D (A n) (A j) = 0) : gd D (n + 1) A = dt D (A n) (A n) * gd D n A := det_last n (gm D A) h

/-! Gram and Schmidt, over fractions -/
/-- a sum of the first m of A -/
def spn (A : Nat → Nat → Rat) (m : Nat) (v : Nat → Rat) : Prop := ∃ t : Nat → Rat, ∀ c, v c = sm (fun j => t j * A j c) m
theorem spn_0 (A : Nat → Nat → Rat) (m : Nat) : spn A m (fun _ => 0) := ⟨fun _ => 0, fun c => (sm_0 m (fun j _ => by grind)).symm⟩
theorem spn_up {A : Nat → Nat → Rat} {m : Nat} {v : Nat → Rat} : ∀ k, spn A m v → spn A (m + k) v
  | 0, h => h
  | k + 1, h => by
    obtain ⟨t, ht⟩ := spn_up k h
    refine ⟨fun j => if j < m + k then t j else 0, fun c => ?_⟩
    show _ = sm _ (m + k) + (if m + k < m + k then t (m + k) else 0) * A (m + k) c
    rw [ht c]
    rw [if_neg (by omega), sm_congr (m + k) (f := fun j => (if j < m + k then t j else 0) * A j c) (g := fun j => t j * A j c) (fun j hj => by rw [if_pos hj])]
    grind
theorem spn_le {A : Nat → Nat → Rat} {m n : Nat} {v : Nat → Rat} (h : m ≤ n) (hv : spn A m v) : spn A n v := by
  obtain ⟨k, rfl⟩ : ∃ k, n = m + k := ⟨n - m, by omega⟩
  exact spn_up k hv
theorem spn_add {A : Nat → Nat → Rat} {m : Nat} {u v : Nat → Rat} (f : Rat) (hu : spn A m u) (hv : spn A m v) : spn A m (fun c => u c + f * v c) := by
  obtain ⟨t, ht⟩ := hu
  obtain ⟨s, hs⟩ := hv
  refine ⟨fun j => t j + f * s j, fun c => ?_⟩
  dsimp only
  rw [ht c, hs c, ← sm_lin]
  exact sm_congr m (fun j _ => by grind)
theorem spn_self (A : Nat → Nat → Rat) (m : Nat) : spn A (m + 1) (A m) := by
  refine ⟨fun j => if j = m then 1 else 0, fun c => ?_⟩
  rw [sm_one (k := m) (m + 1) (by omega) (fun i _ hi => by dsimp only; rw [if_neg hi]; grind)]
  dsimp only
  rw [if_pos rfl]
  grind
theorem spn_sm {A O : Nat → Nat → Rat} {m : Nat} (f : Nat → Rat) : ∀ k, (∀ j, j < k → spn A m (O j)) → spn A m (fun c => sm (fun j => f j * O j c) k)
  | 0, _ => spn_0 A m
  | k + 1, h => spn_add (f k) (spn_sm f k (fun j hj => h j (by omega))) (h k (by omega))
theorem sq_nn (a : Rat) : 0 ≤ a * a := by
  rcases Rat.le_total (a := 0) (b := a) with h | h
  · exact Rat.mul_nonneg h h
  · have h2 : 0 ≤ -a := by grind
    have := Rat.mul_nonneg h2 h2
    grind
theorem dt_nn (u : Nat → Rat) : ∀ D, 0 ≤ dt D u u
  | 0 => by show (0 : Rat) ≤ 0; grind
  | D + 1 => by
    have h1 := dt_nn u D
    have h2 := sq_nn (u D)
    show 0 ≤ dt D u u + u D * u D
    grind
theorem dt_z (u : Nat → Rat) : ∀ D, dt D u u = 0 → ∀ c, c < D → u c = 0
  | 0, _, c, hc => absurd hc (Nat.not_lt_zero c)
  | D + 1, h, c, hc => by
    have h1 := dt_nn u D
    have h2 := sq_nn (u D)
    have h3 : dt D u u + u D * u D = 0 := h
    have h4 : u D * u D = 0 := by grind
    have h5 : dt D u u = 0 := by grind
    by_cases e : c = D
    · subst e
      rcases Rat.mul_eq_zero.mp h4 with h6 | h6 <;> exact h6
    · exact dt_z u D h5 c (by omega)

theorem dt_sm (D : Nat) (O : Nat → Nat → Rat) (f : Nat → Rat) (v : Nat → Rat) : ∀ m, dt D (fun c => sm (fun j => f j * O j c) m) v = sm (fun j => f j * dt D (O j) v) m
  | 0 => sm_0 D (fun c _ => by show (0 : Rat) * v c = 0; grind)
  | m + 1 => by
    show dt D (fun c => sm (fun j => f j * O j c) m + f m * O m c) v = sm (fun j => f j * dt D (O j) v) m + f m * dt D (O m) v
    rw [dt_lin, dt_sm D O f v m]
theorem dt_zr {D : Nat} {u v : Nat → Rat} (h : dt D v v = 0) : dt D u v = 0 := sm_0 D (fun c hc => by rw [dt_z v D h c hc]; grind)
/-- O is what Gram and Schmidt make of A -/
def isGS (D n : Nat) (A O : Nat → Nat → Rat) : Prop := (∀ i j, i < n → j < i → dt D (O i) (O j) = 0) ∧ (∀ i, i < n → ∃ f : Nat → Rat, ∀ c, O i c = A i c + sm (fun j => f j * O j c) i)
theorem sm_rs {A O : Nat → Nat → Rat} {n : Nat} {x f : Nat → Rat} {c i : Nat} (h : i ≤ n) : sm (fun j => f j * rs O n x j c) i = sm (fun j => f j * O j c) i := sm_congr i (fun j hj => by rw [rs_off _ _ (show j ≠ n by omega)])
theorem gs_ex (D : Nat) (A : Nat → Nat → Rat) : ∀ n, ∃ O, isGS D n A O
  | 0 => ⟨A, fun i j h => absurd h (Nat.not_lt_zero i), fun i h => absurd h (Nat.not_lt_zero i)⟩
  | n + 1 => by
    obtain ⟨O, h1, h2⟩ := gs_ex D A n
    refine ⟨rs O n (fun c => A n c + sm (fun j => -(dt D (A n) (O j) / dt D (O j) (O j)) * O j c) n), fun i j hi hj => ?_, fun i hi => ?_⟩
    · by_cases e : i = n
      · subst e
        rw [rs_at, rs_off _ _ (show j ≠ i by omega)]
        have hl := dt_lin D (A i) (fun c => sm (fun j => -(dt D (A i) (O j) / dt D (O j) (O j)) * O j c) i) (O j) 1
        rw [dt_sm, sm_one (k := j) i hj (fun l hl hlj => ?_)] at hl
        · rw [show (fun c => A i c + sm (fun j => -(dt D (A i) (O j) / dt D (O j) (O j)) * O j c) i) = fun c => A i c + 1 * sm (fun j => -(dt D (A i) (O j) / dt D (O j) (O j)) * O j c) i from funext fun c => by grind, hl]
          by_cases z : dt D (O j) (O j) = 0
          · rw [z, dt_zr (u := A i) z]
            grind
          · have := Rat.div_mul_cancel (a := dt D (A i) (O j)) z
            grind
        · by_cases hlt : l < j
          · rw [dt_comm D (O l) (O j), h1 j l (by omega) hlt]
            grind
          · rw [h1 l j (by omega) (by omega)]
            grind
      · rw [rs_off _ _ e, rs_off _ _ (show j ≠ n by omega)]
        exact h1 i j (by omega) hj
    · by_cases e : i = n
      · subst e
        refine ⟨fun j => -(dt D (A i) (O j) / dt D (O j) (O j)), fun c => ?_⟩
        rw [rs_at, sm_rs (A := A) (Nat.le_refl i)]
      · obtain ⟨f, hf⟩ := h2 i (by omega)
        refine ⟨f, fun c => ?_⟩
        rw [rs_off _ _ e, sm_rs (A := A) (show i ≤ n by omega)]
        exact hf c
theorem gs_gd {D n : Nat} {A O : Nat → Nat → Rat} (h : isGS D n A O) : gd D n A = gd D n O := by
  have key : ∀ m, m ≤ n → gd D n (fun i => if i < m then O i else A i) = gd D n A := by
    intro m
    induction m with
    | zero => exact fun _ => gd_congr (fun i c _ _ => by rw [if_neg (Nat.not_lt_zero i)])
    | succ m ih =>
      intro hm
      rw [← ih (by omega)]
      obtain ⟨f, hf⟩ := h.2 m (by omega)
      rw [← gd_ops D n (fun i => if i < m then O i else A i) m f (by omega) m (by omega) (fun j hj e => absurd e (by omega))]
      refine gd_congr (fun i c _ _ => ?_)
      by_cases e : i = m
      · rw [e, rs_at, if_pos (show m < m + 1 by omega), hf c]
        rw [if_neg (show ¬ m < m by omega)]
        congr 1
        exact sm_congr m (fun j hj => by rw [if_pos hj])
      · rw [rs_off _ _ e]
        by_cases hi : i < m
        · rw [if_pos hi, if_pos (by omega)]
        · rw [if_neg hi, if_neg (by omega)]
  rw [← key n (Nat.le_refl n)]
  exact gd_congr (fun i c hi _ => by rw [if_pos hi])
def pd (f : Nat → Rat) : Nat → Rat
  | 0 => 1
  | n + 1 => f n * pd f n
theorem gd_pd {D : Nat} {O : Nat → Nat → Rat} : ∀ n, (∀ i j, i < n → j < i → dt D (O i) (O j) = 0) → gd D n O = pd (fun i => dt D (O i) (O i)) n
  | 0, _ => rfl
  | n + 1, h => by
    rw [gd_last D n O (fun j hj => h n j (by omega) hj), gd_pd n (fun i j hi hj => h i j (by omega) hj)]
    rfl
theorem gs_le {D n : Nat} {A O : Nat → Nat → Rat} (h : isGS D n A O) (i : Nat) (hi : i < n) : dt D (O i) (O i) ≤ dt D (A i) (A i) := by
  obtain ⟨f, hf⟩ := h.2 i hi
  have e1 : dt D (A i) (O i) = dt D (O i) (O i) := by
    have e : dt D (O i) (O i) = dt D (fun c => A i c + 1 * sm (fun j => f j * O j c) i) (O i) := dt_congr (fun c _ => by rw [hf c]; grind) (fun _ _ => rfl)
    rw [e, dt_lin, dt_sm, sm_0 i (fun j hj => by rw [dt_comm, h.1 i j hi hj]; grind)]
    grind
  have e2 := dt_nn (fun c => A i c + (-1) * O i c) D
  rw [dt_lin, dt_linr, dt_linr, e1, dt_comm D (O i) (A i), e1] at e2
  grind
theorem pd_le {f g : Nat → Rat} : ∀ n, (∀ i, i < n → 0 ≤ f i ∧ f i ≤ g i) → 0 ≤ pd f n ∧ pd f n ≤ pd g n
  | 0, _ => by show (0 : Rat) ≤ 1 ∧ (1 : Rat) ≤ 1; grind
  | n + 1, h => by
    obtain ⟨a, b⟩ := pd_le n (fun i hi => h i (by omega))
    obtain ⟨c, d⟩ := h n (by omega)
    show 0 ≤ f n * pd f n ∧ f n * pd f n ≤ g n * pd g n
    refine ⟨Rat.mul_nonneg c a, ?_⟩
    have e1 := Rat.mul_nonneg (show 0 ≤ g n - f n by grind) a
    have e2 := Rat.mul_nonneg (show 0 ≤ g n by grind) (show 0 ≤ pd g n - pd f n by grind)
    grind
/-- Hadamard -/
theorem gd_had (D n : Nat) (A : Nat → Nat → Rat) : 0 ≤ gd D n A ∧ gd D n A ≤ pd (fun i => dt D (A i) (A i)) n := by
  obtain ⟨O, h⟩ := gs_ex D A n
  rw [gs_gd h, gd_pd n h.1]
  exact pd_le n (fun i hi => ⟨dt_nn _ D, gs_le h i hi⟩)
theorem pd_z {f : Nat → Rat} : ∀ n, pd f n = 0 → ∃ i, i < n ∧ f i = 0
  | 0, h => by exact absurd h (show ¬ (1 : Rat) = 0 by decide)
  | n + 1, h => by
    rcases Rat.mul_eq_zero.mp (show f n * pd f n = 0 from h) with h | h
    · exact ⟨n, by omega, h⟩
    · obtain ⟨i, a, b⟩ := pd_z n h
      exact ⟨i, by omega, b⟩
theorem gs_spn {D n : Nat} {A O : Nat → Nat → Rat} (h : isGS D n A O) : ∀ i, i < n → spn A (i + 1) (O i) := by
  have key : ∀ m i, i < m → i < n → spn A (i + 1) (O i) := by
    intro m
    induction m with
    | zero => exact fun i hi => absurd hi (Nat.not_lt_zero i)
    | succ m ih =>
      intro i him hi
      obtain ⟨f, hf⟩ := h.2 i hi
      have h1 := spn_sm (A := A) (O := O) (m := i + 1) f i (fun j hj => spn_le (by omega) (ih j (by omega) (by omega)))
      have h2 := spn_add 1 (spn_self A i) h1
      rw [show O i = fun c => A i c + 1 * sm (fun j => f j * O j c) i from funext fun c => by rw [hf c]; grind]
      exact h2
  exact fun i hi => key (i + 1) i (by omega) hi
/-- a determinant of products that is 0: a row is a sum of those ahead of it -/
theorem gd_dep (D n : Nat) (A : Nat → Nat → Rat) (h0 : gd D n A = 0) : ∃ i, i < n ∧ ∃ t : Nat → Rat, ∀ c, c < D → A i c = sm (fun j => t j * A j c) i := by
  obtain ⟨O, h⟩ := gs_ex D A n
  rw [gs_gd h, gd_pd n h.1] at h0
  obtain ⟨i, hi, hz⟩ := pd_z n h0
  refine ⟨i, hi, ?_⟩
  obtain ⟨f, hf⟩ := h.2 i hi
  have h1 := spn_sm (A := A) (O := O) (m := i) (fun j => -1 * f j) i (fun j hj => spn_le (by omega) (gs_spn h j (by omega)))
  obtain ⟨t, ht⟩ := h1
  refine ⟨t, fun c hc => ?_⟩
  rw [← ht c]
  have h2 := hf c
  rw [dt_z _ D hz c hc] at h2
  have h3 : sm (fun j => -1 * f j * O j c) i = -1 * sm (fun j => f j * O j c) i := by
    rw [← sm_mul]
    exact sm_congr i (fun j _ => by grind)
  show A i c = sm (fun j => -1 * f j * O j c) i
  rw [h3]
  grind
