/-! determinants -/
def sm {K : Type} [Lean.Grind.CommRing K] (f : Nat → K) : Nat → K
  | 0 => 0
  | n + 1 => sm f n + f n
def sn {K : Type} [Lean.Grind.CommRing K] : Nat → K
  | 0 => 1
  | n + 1 => - sn n
def dl {K : Type} [Lean.Grind.CommRing K] (M : Nat → Nat → K) (i : Nat) : Nat → Nat → K := fun r c => M (if r < i then r else r + 1) (c + 1)
def dc {K : Type} [Lean.Grind.CommRing K] (M : Nat → Nat → K) (j : Nat) : Nat → Nat → K := fun r c => M (r + 1) (if c < j then c else c + 1)
def det {K : Type} [Lean.Grind.CommRing K] : Nat → (Nat → Nat → K) → K
  | 0, _ => 1
  | n + 1, M => sm (fun i => sn i * M i 0 * det n (dl M i)) (n + 1)
theorem sm_congr {K : Type} [Lean.Grind.CommRing K] {f g : Nat → K} : ∀ n, (∀ i, i < n → f i = g i) → sm f n = sm g n
  | 0, _ => rfl
  | n + 1, h => by
    show sm f n + f n = sm g n + g n
    rw [sm_congr n (fun i hi => h i (by omega)), h n (by omega)]
theorem sm_0 {K : Type} [Lean.Grind.CommRing K] {f : Nat → K} : ∀ n, (∀ i, i < n → f i = 0) → sm f n = 0
  | 0, _ => rfl
  | n + 1, h => by
    show sm f n + f n = 0
    rw [sm_0 n (fun i hi => h i (by omega)), h n (by omega)]
    grind
theorem sm_lin {K : Type} [Lean.Grind.CommRing K] (f g : Nat → K) (c : K) : ∀ n, sm (fun i => f i + c * g i) n = sm f n + c * sm g n
  | 0 => by show (0 : K) = 0 + c * 0; grind
  | n + 1 => by
    show sm (fun i => f i + c * g i) n + (f n + c * g n) = sm f n + f n + c * (sm g n + g n)
    rw [sm_lin f g c n]
    grind
theorem sm_mul {K : Type} [Lean.Grind.CommRing K] (g : Nat → K) (c : K) : ∀ n, sm (fun i => c * g i) n = c * sm g n
  | 0 => by show (0 : K) = c * 0; grind
  | n + 1 => by
    show sm (fun i => c * g i) n + c * g n = c * (sm g n + g n)
    rw [sm_mul g c n]
    grind
theorem sm_add {K : Type} [Lean.Grind.CommRing K] (f g : Nat → K) : ∀ n, sm (fun i => f i + g i) n = sm f n + sm g n
  | 0 => by show (0 : K) = 0 + 0; grind
  | n + 1 => by
    show sm (fun i => f i + g i) n + (f n + g n) = sm f n + f n + (sm g n + g n)
    rw [sm_add f g n]
    grind
theorem sm_swap {K : Type} [Lean.Grind.CommRing K] (f : Nat → Nat → K) (m : Nat) : ∀ n, sm (fun i => sm (fun j => f i j) m) n = sm (fun j => sm (fun i => f i j) n) m
  | 0 => (sm_0 m (fun _ _ => rfl)).symm
  | n + 1 => by
    show sm (fun i => sm (fun j => f i j) m) n + sm (fun j => f n j) m = sm (fun j => sm (fun i => f i j) n + f n j) m
    rw [sm_swap f m n, sm_add]
theorem sm_head {K : Type} [Lean.Grind.CommRing K] (f : Nat → K) : ∀ n, sm f (n + 1) = f 0 + sm (fun i => f (i + 1)) n
  | 0 => by show (0 : K) + f 0 = f 0 + 0; grind
  | n + 1 => by
    show sm f (n + 1) + f (n + 1) = f 0 + (sm (fun i => f (i + 1)) n + f (n + 1))
    rw [sm_head f n]
    grind
theorem sm_one {K : Type} [Lean.Grind.CommRing K] {f : Nat → K} {k : Nat} : ∀ n, k < n → (∀ i, i < n → i ≠ k → f i = 0) → sm f n = f k
  | 0, h, _ => absurd h (Nat.not_lt_zero k)
  | n + 1, h, h0 => by
    show sm f n + f n = f k
    by_cases e : k = n
    · subst e
      rw [sm_0 k (fun i hi => h0 i (by omega) (by omega))]
      grind
    · rw [sm_one n (by omega) (fun i hi hk => h0 i (by omega) hk), h0 n (by omega) (by omega)]
      grind
theorem sm_two {K : Type} [Lean.Grind.CommRing K] {f : Nat → K} {k : Nat} : ∀ n, k + 1 < n → (∀ i, i < n → i ≠ k → i ≠ k + 1 → f i = 0) → sm f n = f k + f (k + 1)
  | 0, h, _ => absurd h (Nat.not_lt_zero _)
  | n + 1, h, h0 => by
    show sm f n + f n = f k + f (k + 1)
    by_cases e : k + 1 = n
    · subst e
      rw [sm_one (k := k) (k + 1) (by omega) (fun i hi hk => h0 i (by omega) hk (by omega))]
    · rw [sm_two n (by omega) (fun i hi hk hk1 => h0 i (by omega) hk hk1), h0 n (by omega) (by omega) (by omega)]
      grind
theorem det_congr {K : Type} [Lean.Grind.CommRing K] : ∀ (n : Nat) {M N : Nat → Nat → K}, (∀ i j, i < n → j < n → M i j = N i j) → det n M = det n N
  | 0, _, _, _ => rfl
  | n + 1, M, N, h => by
    refine sm_congr (n + 1) (fun i hi => ?_)
    rw [h i 0 hi (by omega), det_congr n (M := dl M i) (N := dl N i) (fun r c hr hc => h _ _ (by split <;> omega) (by omega))]
def rs {K : Type} [Lean.Grind.CommRing K] (M : Nat → Nat → K) (k : Nat) (u : Nat → K) : Nat → Nat → K := fun i j => if i = k then u j else M i j
theorem dl_rs_same {K : Type} [Lean.Grind.CommRing K] (M : Nat → Nat → K) (k : Nat) (u : Nat → K) : dl (rs M k u) k = dl M k := by
  funext r c
  show (if (if r < k then r else r + 1) = k then _ else _) = _
  rw [if_neg (by split <;> omega)]
  rfl
theorem dl_rs {K : Type} [Lean.Grind.CommRing K] (M : Nat → Nat → K) (k i : Nat) (u : Nat → K) (h : i ≠ k) : dl (rs M k u) i = rs (dl M i) (if k < i then k else k - 1) (fun c => u (c + 1)) := by
  funext r c
  show (if (if r < i then r else r + 1) = k then u (c + 1) else M (if r < i then r else r + 1) (c + 1)) = (if r = (if k < i then k else k - 1) then u (c + 1) else M (if r < i then r else r + 1) (c + 1))
  by_cases e : (if r < i then r else r + 1) = k
  · rw [if_pos e, if_pos (by split at e <;> split <;> omega)]
  · rw [if_neg e]
    rw [if_neg (show ¬ r = (if k < i then k else k - 1) from by split at e <;> split <;> omega)]
theorem det_lin {K : Type} [Lean.Grind.CommRing K] : ∀ (n : Nat) (M : Nat → Nat → K) (k : Nat) (u v : Nat → K) (f : K), k < n → det n (rs M k (fun j => u j + f * v j)) = det n (rs M k u) + f * det n (rs M k v)
  | 0, _, k, _, _, _, h => absurd h (Nat.not_lt_zero k)
  | n + 1, M, k, u, v, f, h => by
    show sm _ (n + 1) = sm _ (n + 1) + f * sm _ (n + 1)
    rw [← sm_lin]
    refine sm_congr (n + 1) (fun i hi => ?_)
    by_cases e : i = k
    · subst e
      rw [dl_rs_same, dl_rs_same, dl_rs_same]
      show sn i * (if i = i then _ else _) * _ = sn i * (if i = i then _ else _) * _ + f * (sn i * (if i = i then _ else _) * _)
      rw [if_pos rfl, if_pos rfl, if_pos rfl]
      grind
    · rw [dl_rs M k i _ e, dl_rs M k i _ e, dl_rs M k i _ e, det_lin n (dl M i) _ (fun c => u (c + 1)) (fun c => v (c + 1)) f (by split <;> omega)]
      show sn i * (if i = k then _ else _) * _ = sn i * (if i = k then _ else _) * _ + f * (sn i * (if i = k then _ else _) * _)
      rw [if_neg e, if_neg e, if_neg e]
      grind
theorem det_adj0 {K : Type} [Lean.Grind.CommRing K] : ∀ (n : Nat) (M : Nat → Nat → K) (k : Nat), k + 1 < n → (∀ j, M k j = M (k + 1) j) → det n M = 0
  | 0, _, _, h, _ => absurd h (Nat.not_lt_zero _)
  | n + 1, M, k, h, he => by
    show sm _ (n + 1) = 0
    rw [sm_two (k := k) (n + 1) h]
    · have e : dl M k = dl M (k + 1) := by
        funext r c
        show M (if r < k then r else r + 1) (c + 1) = M (if r < k + 1 then r else r + 1) (c + 1)
        by_cases h1 : r < k
        · rw [if_pos h1, if_pos (by omega)]
        · by_cases h2 : r = k
          · subst h2
            rw [if_neg (by omega), if_pos (by omega), he]
          · rw [if_neg h1, if_neg (by omega)]
      rw [e, he 0]
      show sn k * M (k + 1) 0 * det n (dl M (k + 1)) + (- sn k) * M (k + 1) 0 * det n (dl M (k + 1)) = 0
      grind
    · intro i hi h1 h2
      by_cases h3 : i < k
      · rw [det_adj0 n (dl M i) (k - 1) (by omega) (fun j => ?_)]
        · grind
        · show M (if k - 1 < i then k - 1 else k - 1 + 1) (j + 1) = M (if k - 1 + 1 < i then k - 1 + 1 else k - 1 + 1 + 1) (j + 1)
          rw [if_neg (by omega), if_neg (by omega), show k - 1 + 1 = k by omega]
          exact he _
      · rw [det_adj0 n (dl M i) k (by omega) (fun j => ?_)]
        · grind
        · show M (if k < i then k else k + 1) (j + 1) = M (if k + 1 < i then k + 1 else k + 1 + 1) (j + 1)
          rw [if_pos (by omega), if_pos (by omega)]
          exact he _
def sw {K : Type} [Lean.Grind.CommRing K] (M : Nat → Nat → K) (r s : Nat) : Nat → Nat → K := fun i => if i = r then M s else if i = s then M r else M i
theorem det_pol {K : Type} [Lean.Grind.CommRing K] (n : Nat) (r s : Nat) (hr : r < n) (hs : s < n) (hrs : r ≠ s) (h0 : ∀ M : Nat → Nat → K, (∀ j, M r j = M s j) → det n M = 0) (M : Nat → Nat → K) : det n (sw M r s) = - det n M := by
  have hD : ∀ u v : Nat → K, det n (rs (rs M r u) s v) = - det n (rs (rs M r v) s u) := by
    intro u v
    have com : ∀ x y : Nat → K, rs (rs M r x) s y = rs (rs M s y) r x := by
      intro x y
      funext i j
      unfold rs
      by_cases h1 : i = s
      · rw [if_pos h1, if_neg (by omega), if_pos h1]
      · rw [if_neg h1]
        by_cases h2 : i = r
        · rw [if_pos h2, if_pos h2]
        · rw [if_neg h2, if_neg h2, if_neg h1]
    have z : ∀ x : Nat → K, det n (rs (rs M r x) s x) = 0 := fun x => h0 _ (fun j => by
      unfold rs
      rw [if_neg hrs, if_pos rfl, if_pos rfl])
    have z1 := z (fun j => u j + 1 * v j)
    rw [det_lin n _ s u v 1 hs, com, com, det_lin n _ r u v 1 hr, det_lin n _ r u v 1 hr, ← com, ← com, ← com, ← com, z u, z v] at z1
    grind
  have e1 : sw M r s = rs (rs M r (M s)) s (M r) := by
    funext i j
    unfold sw rs
    by_cases h1 : i = s
    · rw [if_pos h1, if_neg (by omega), if_pos h1]
    · rw [if_neg h1, if_neg h1]
      by_cases h2 : i = r
      · rw [if_pos h2, if_pos h2]
      · rw [if_neg h2, if_neg h2]
  have e2 : M = rs (rs M r (M r)) s (M s) := by
    funext i j
    unfold rs
    by_cases h1 : i = s
    · rw [if_pos h1, h1]
    · rw [if_neg h1]
      by_cases h2 : i = r
      · rw [if_pos h2, h2]
      · rw [if_neg h2]
  rw [e1, hD, ← e2]
theorem det_eq0 {K : Type} [Lean.Grind.CommRing K] (n : Nat) : ∀ (d : Nat) (M : Nat → Nat → K) (r : Nat), r + d + 1 < n → (∀ j, M r j = M (r + d + 1) j) → det n M = 0
  | 0, M, r, h, he => det_adj0 n M r h he
  | d + 1, M, r, h, he => by
    have h1 := det_pol n (r + d + 1) (r + d + 2) (by omega) (by omega) (by omega) (fun N hN => det_adj0 n N (r + d + 1) (by omega) hN) M
    have h2 := det_eq0 n d (sw M (r + d + 1) (r + d + 2)) r (by omega) (fun j => by
      unfold sw
      rw [if_neg (by omega), if_neg (by omega), if_pos rfl]
      exact he j)
    rw [h2] at h1
    grind
theorem det_same {K : Type} [Lean.Grind.CommRing K] (n : Nat) (M : Nat → Nat → K) (r s : Nat) (hr : r < n) (hs : s < n) (hrs : r ≠ s) (he : ∀ j, M r j = M s j) : det n M = 0 := by
  by_cases h : r < s
  · exact det_eq0 n (s - r - 1) M r (by omega) (fun j => by rw [show r + (s - r - 1) + 1 = s by omega]; exact he j)
  · exact det_eq0 n (r - s - 1) M s (by omega) (fun j => by rw [show s + (r - s - 1) + 1 = r by omega]; exact (he j).symm)
theorem det_sw {K : Type} [Lean.Grind.CommRing K] (n : Nat) (M : Nat → Nat → K) (r s : Nat) (hr : r < n) (hs : s < n) (hrs : r ≠ s) : det n (sw M r s) = - det n M := det_pol n r s hr hs hrs (fun N hN => det_same n N r s hr hs hrs hN) M
theorem rs_self {K : Type} [Lean.Grind.CommRing K] (M : Nat → Nat → K) (r : Nat) : rs M r (M r) = M := by
  funext i j
  unfold rs
  split
  · rename_i h; rw [h]
  · rfl
/-- a multiple of another row added -/
theorem det_op {K : Type} [Lean.Grind.CommRing K] (n : Nat) (M : Nat → Nat → K) (r s : Nat) (f : K) (hr : r < n) (hs : s < n) (hrs : r ≠ s) : det n (rs M r (fun j => M r j + f * M s j)) = det n M := by
  rw [det_lin n M r (M r) (M s) f hr, rs_self, det_same n (rs M r (M s)) r s hr hs hrs (fun j => by unfold rs; rw [if_pos rfl, if_neg (Ne.symm hrs)])]
  grind
theorem det_col0 {K : Type} [Lean.Grind.CommRing K] (n : Nat) (M : Nat → Nat → K) (h : ∀ i, i < n → M (i + 1) 0 = 0) : det (n + 1) M = M 0 0 * det n (fun r c => M (r + 1) (c + 1)) := by
  show sm _ (n + 1) = _
  rw [sm_one (k := 0) (n + 1) (by omega) (fun i hi h0 => ?_)]
  · show (1 : K) * M 0 0 * det n (dl M 0) = _
    rw [show dl M 0 = fun r c => M (r + 1) (c + 1) from rfl]
    grind
  · obtain ⟨k, rfl⟩ : ∃ k, i = k + 1 := ⟨i - 1, by omega⟩
    rw [h k (by omega)]
    grind
theorem det_zc {K : Type} [Lean.Grind.CommRing K] (n : Nat) (M : Nat → Nat → K) (h : ∀ i, i < n + 1 → M i 0 = 0) : det (n + 1) M = 0 := by
  refine sm_0 (n + 1) (fun i hi => ?_)
  rw [h i hi]
  grind
theorem dc_dl {K : Type} [Lean.Grind.CommRing K] (M : Nat → Nat → K) (i j : Nat) : dc (dl M (i + 1)) j = dl (dc M (j + 1)) i := by
  funext r c
  show M (if r + 1 < i + 1 then r + 1 else r + 1 + 1) ((if c < j then c else c + 1) + 1) = M ((if r < i then r else r + 1) + 1) (if c + 1 < j + 1 then c + 1 else c + 1 + 1)
  congr 1
  · split <;> split <;> omega
  · split <;> split <;> omega
theorem det_row {K : Type} [Lean.Grind.CommRing K] : ∀ (n : Nat) (M : Nat → Nat → K), det (n + 1) M = sm (fun j => sn j * M 0 j * det n (dc M j)) (n + 1)
  | 0, M => rfl
  | n + 1, M => by
    show sm _ (n + 1 + 1) = sm _ (n + 1 + 1)
    rw [sm_head (fun i => sn i * M i 0 * det (n + 1) (dl M i)), sm_head (fun j => sn j * M 0 j * det (n + 1) (dc M j))]
    have e0 : dl M 0 = dc M 0 := by
      funext r c
      rfl
    rw [e0]
    congr 1
    have a : ∀ i, sn (i + 1) * M (i + 1) 0 * det (n + 1) (dl M (i + 1)) = sm (fun j => sn (i + 1) * M (i + 1) 0 * (sn j * M 0 (j + 1) * det n (dl (dc M (j + 1)) i))) (n + 1) := fun i => by
      rw [det_row n (dl M (i + 1)), sm_mul]
      congr 1
      refine sm_congr _ (fun j _ => ?_)
      rw [dc_dl]
      rfl
    have b : ∀ j, sn (j + 1) * M 0 (j + 1) * det (n + 1) (dc M (j + 1)) = sm (fun i => sn (j + 1) * M 0 (j + 1) * (sn i * M (i + 1) 0 * det n (dl (dc M (j + 1)) i))) (n + 1) := fun j => by
      rw [sm_mul]
      rfl
    rw [sm_congr _ (fun i _ => a i), sm_congr _ (fun j _ => b j), sm_swap]
    refine sm_congr _ (fun j _ => sm_congr _ (fun i _ => ?_))
    show (- sn i) * _ * _ = (- sn j) * _ * _
    grind
theorem det_tr {K : Type} [Lean.Grind.CommRing K] : ∀ (n : Nat) (M : Nat → Nat → K), det n (fun i j => M j i) = det n M
  | 0, _ => rfl
  | n + 1, M => by
    rw [det_row n M]
    show sm _ (n + 1) = _
    refine sm_congr _ (fun i _ => ?_)
    rw [← det_tr n (dc M i)]
    rfl
/-- only the corner of the last row -/
theorem det_last {K : Type} [Lean.Grind.CommRing K] : ∀ (n : Nat) (M : Nat → Nat → K), (∀ j, j < n → M n j = 0) → det (n + 1) M = M n n * det n M
  | 0, M, _ => by show (0 : K) + 1 * M 0 0 * 1 = M 0 0 * 1; grind
  | n + 1, M, h => by
    show sm _ (n + 1) + sn (n + 1) * M (n + 1) 0 * _ = M (n + 1) (n + 1) * sm _ (n + 1)
    rw [h 0 (by omega), ← sm_mul]
    have e : sm (fun i => sn i * M i 0 * det (n + 1) (dl M i)) (n + 1) = sm (fun i => M (n + 1) (n + 1) * (sn i * M i 0 * det n (dl M i))) (n + 1) := sm_congr _ (fun i hi => by
      rw [det_last n (dl M i) (fun j hj => by
        show M (if n < i then n else n + 1) (j + 1) = 0
        rw [if_neg (by omega)]
        exact h _ (by omega))]
      show _ * ((M (if n < i then n else n + 1) (n + 1)) * _) = _
      rw [if_neg (by omega)]
      grind)
    rw [e]
    grind
theorem det_lastc {K : Type} [Lean.Grind.CommRing K] (n : Nat) (M : Nat → Nat → K) (h : ∀ i, i < n → M i n = 0) : det (n + 1) M = M n n * det n M := by
  rw [← det_tr (n + 1) M, det_last n _ h, det_tr]
