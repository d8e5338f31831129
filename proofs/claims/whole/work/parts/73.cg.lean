/-! determinants by remainders -/
theorem det_cg {p : Int} : ∀ (n : Nat) {A B : Nat → Nat → Int}, (∀ i j, i < n → j < n → p ∣ A i j - B i j) → p ∣ det n A - det n B
  | 0, _, _, _ => ⟨0, by simp [det]⟩
  | n + 1, A, B, h => by
    refine sm_dm (n + 1) (fun i hi => ?_)
    obtain ⟨z1, hz1⟩ := h i 0 hi (by omega)
    obtain ⟨z2, hz2⟩ := det_cg n (A := dl A i) (B := dl B i) (fun r c hr hc => h _ _ (by split <;> omega) (by omega))
    exact ⟨sn i * (z1 * det n (dl A i) + B i 0 * z2), by grind⟩
def pI (f : Nat → Int) : Nat → Int
  | 0 => 1
  | n + 1 => pI f n * f n
theorem pI_congr {f g : Nat → Int} : ∀ n, (∀ i, i < n → f i = g i) → pI f n = pI g n
  | 0, _ => rfl
  | n + 1, h => by
    show pI f n * f n = pI g n * g n
    rw [pI_congr n (fun i hi => h i (by omega)), h n (by omega)]
/-- a table cleared below the diagonal -/
theorem det_tri : ∀ (n : Nat) (W : Nat → Nat → Int), (∀ k r, k < r → r < n → W r k = 0) → det n W = pI (fun k => W k k) n
  | 0, _, _ => rfl
  | n + 1, W, h => by
    rw [det_last n W (fun j hj => h j n hj (by omega)), det_tri n W (fun k r h1 h2 => h k r h1 (by omega))]
    exact Int.mul_comm _ _
/-- a column with nothing from the diagonal on -/
theorem det_stuck : ∀ (c n : Nat) (W : Nat → Nat → Int), c < n → (∀ k r, k < c → k < r → r < n → W r k = 0) → (∀ r, c ≤ r → r < n → W r c = 0) → det n W = 0
  | 0, n, W, hc, _, h0 => by
    obtain ⟨m, rfl⟩ : ∃ m, n = m + 1 := ⟨n - 1, by omega⟩
    exact det_zc m W (fun i hi => h0 i (by omega) hi)
  | c + 1, n, W, hc, h, h0 => by
    obtain ⟨m, rfl⟩ : ∃ m, n = m + 1 := ⟨n - 1, by omega⟩
    rw [det_col0 m W (fun i hi => h 0 (i + 1) (by omega) (by omega) (by omega)), det_stuck c m _ (by omega) (fun k r h1 h2 h3 => h (k + 1) (r + 1) (by omega) (by omega) (by omega)) (fun r h1 h2 => h0 (r + 1) (by omega) (by omega)), Int.mul_zero]
/-- how far the clearing of M has come: W, the product d of the first c of the diagonal, by the remainders of p -/
def clr_ok (p : Int) (n c : Nat) (M W : Nat → Nat → Int) (d : Int) : Prop := (∀ i j, i ≤ n → j ≤ n → 0 ≤ W i j ∧ W i j < p) ∧ (∀ k r, k < c → k < r → r ≤ n → W r k = 0) ∧ (0 < d ∧ d < p) ∧ ∃ s : Int, (s = 1 ∨ s = -1) ∧ p ∣ s * det n W - det n M ∧ p ∣ s * det (n + 1) W - det (n + 1) M ∧ p ∣ d - s * pI (fun k => W k k) c
theorem clr_0 {p : Int} (hp : pm p) (n : Nat) (M : Nat → Nat → Int) : clr_ok p n 0 M (fun i j => M i j % p) 1 := by
  have p1 := hp.1
  have cg : ∀ m, p ∣ det m (fun i j => M i j % p) - det m M := fun m => det_cg m (fun i j _ _ => by
    have := Int.dvd_self_sub_emod (x := M i j) (m := p)
    rw [← Int.dvd_neg, Int.neg_sub] at this
    exact this)
  refine ⟨fun i j _ _ => ⟨Int.emod_nonneg _ (by omega), Int.emod_lt_of_pos _ (by omega)⟩, fun k r hk => absurd hk (Nat.not_lt_zero k), by omega, 1, Or.inl rfl, by rw [Int.one_mul]; exact cg n, by rw [Int.one_mul]; exact cg (n + 1), ⟨0, by simp [pI]⟩⟩
theorem clr_stuck {p : Int} {n c : Nat} {M W : Nat → Nat → Int} {d : Int} (h : clr_ok p n c M W d) (hc : c < n) (h0 : ∀ r, c ≤ r → r < n → W r c = 0) : det n M % p = 0 := by
  obtain ⟨-, h2, -, s, -, h5, -⟩ := h
  rw [det_stuck c n W hc (fun k r h1 h3 h4 => h2 k r h1 h3 (by omega)) h0] at h5
  apply Int.emod_eq_zero_of_dvd
  obtain ⟨z, hz⟩ := h5
  exact ⟨-z, by grind⟩
theorem sw_in {W : Nat → Nat → Int} {n a b : Nat} (ha : a ≤ n) (hb : b ≤ n) {i : Nat} (hi : i ≤ n) : ∃ k, k ≤ n ∧ sw W a b i = W k := by
  unfold sw
  split
  · exact ⟨b, hb, rfl⟩
  · split
    · exact ⟨a, ha, rfl⟩
    · exact ⟨i, hi, rfl⟩
theorem clr_sw {p : Int} {n c r : Nat} {M W : Nat → Nat → Int} {d : Int} (h : clr_ok p n c M W d) (hc : c < n) (hr : r < n) (hcr : c < r) : clr_ok p n c M (sw W r c) (p - d) := by
  obtain ⟨h1, h2, h3, s, h4, h5, h6, h7⟩ := h
  refine ⟨fun i j hi hj => ?_, fun k q h8 h9 h10 => ?_, by omega, -s, by omega, ?_, ?_, ?_⟩
  · obtain ⟨k, hk, e⟩ := sw_in (W := W) (n := n) (a := r) (b := c) (by omega) (by omega) hi
    rw [e]
    exact h1 k j hk hj
  · unfold sw
    split
    · exact h2 k c h8 (by omega) (by omega)
    · split
      · exact h2 k r h8 (by omega) (by omega)
      · exact h2 k q h8 h9 h10
  · rw [det_sw n W r c (by omega) (by omega) (by omega)]
    rw [show -s * -det n W - det n M = s * det n W - det n M by grind]
    exact h5
  · rw [det_sw (n + 1) W r c (by omega) (by omega) (by omega)]
    rw [show -s * -det (n + 1) W - det (n + 1) M = s * det (n + 1) W - det (n + 1) M by grind]
    exact h6
  · rw [pI_congr (g := fun k => W k k) c (fun i hi => by show sw W r c i i = W i i; unfold sw; rw [if_neg (by omega), if_neg (by omega)])]
    obtain ⟨z, hz⟩ := h7
    exact ⟨1 - z, by grind⟩
/-- row r with a multiple of row c added, by remainders -/
def opm (p : Int) (W : Nat → Nat → Int) (r c n : Nat) (f : Int) : Nat → Nat → Int := fun i j => if i = r ∧ c ≤ j ∧ j ≤ n then (W r j + f * W c j) % p else W i j
theorem det_opm {p : Int} {m n r c : Nat} {W : Nat → Nat → Int} {f : Int} (hm : m ≤ n + 1) (hr : r < m) (hc : c < r) (h0 : ∀ k, k < c → W c k = 0) : p ∣ det m (opm p W r c n f) - det m W := by
  rw [← det_op m W r c f hr (by omega) (by omega)]
  refine det_cg m (fun i j hi hj => ?_)
  unfold opm
  by_cases e : i = r
  · rw [e, rs_at]
    by_cases e2 : c ≤ j
    · rw [if_pos ⟨rfl, e2, by omega⟩]
      have := Int.dvd_self_sub_emod (x := W r j + f * W c j) (m := p)
      rw [← Int.dvd_neg, Int.neg_sub] at this
      exact this
    · rw [if_neg (fun z => e2 z.2.1), h0 j (by omega)]
      exact ⟨0, by grind⟩
  · rw [if_neg (fun z => e z.1), rs_off _ _ e]
    exact ⟨0, by grind⟩
theorem emod_dvd {p a b : Int} (h : p ∣ a - b) : a % p = b % p := Int.emod_eq_emod_iff_emod_sub_eq_zero.mpr (Int.emod_eq_zero_of_dvd h)
/-- column c cleared in the rows ahead of q -/
def cbl (p : Int) (n c q : Nat) (W V : Nat → Nat → Int) : Prop := (∀ i j, i ≤ n → j ≤ n → 0 ≤ V i j ∧ V i j < p) ∧ (∀ i j, i ≤ c → j ≤ n → V i j = W i j) ∧ (∀ r, c < r → r < q → r ≤ n → V r c = 0) ∧ (∀ r j, q ≤ r → r ≤ n → j ≤ n → V r j = W r j) ∧ (∀ k r, k < c → c < r → r ≤ n → V r k = 0) ∧ p ∣ det n V - det n W ∧ p ∣ det (n + 1) V - det (n + 1) W
theorem cbl_0 {p : Int} {n c : Nat} {M W : Nat → Nat → Int} {d : Int} (h : clr_ok p n c M W d) : cbl p n c (c + 1) W W :=
  ⟨h.1, fun _ _ _ _ => rfl, fun r h1 h2 => by omega, fun _ _ _ _ _ => rfl, fun k r h1 h2 h3 => h.2.1 k r h1 (by omega) h3, ⟨0, by grind⟩, ⟨0, by grind⟩⟩
theorem cbl_skip {p : Int} {n c q : Nat} {W V : Nat → Nat → Int} (h : cbl p n c q W V) (hq : q ≤ n) (h0 : V q c = 0) : cbl p n c (q + 1) W V := by
  obtain ⟨h1, h2, h3, h4, h5, h6, h7⟩ := h
  exact ⟨h1, h2, fun r a b e => by by_cases z : r = q; rw [z]; exact h0; exact h3 r a (by omega) e, fun r j a b e => h4 r j (by omega) b e, h5, h6, h7⟩
theorem cbl_op {p : Int} (hp : pm p) {n c q : Nat} {W V : Nat → Nat → Int} {u z : Int} (h : cbl p n c q W V) (hcq : c < q) (hq : q ≤ n) (hc0 : ∀ k, k < c → W c k = 0) (hu : u * V c c = 1 + z * p) : cbl p n c (q + 1) W (opm p V q c n ((p - V q c) * u % p)) := by
  have p1 := hp.1
  obtain ⟨h1, h2, h3, h4, h5, h6, h7⟩ := h
  have hv0 : ∀ k, k < c → V c k = 0 := fun k hk => by rw [h2 c k (Nat.le_refl c) (by omega)]; exact hc0 k hk
  refine ⟨fun i j hi hj => ?_, fun i j hi hj => ?_, fun r a b e => ?_, fun r j a b e => ?_, fun k r a b e => ?_, ?_, ?_⟩
  · unfold opm
    split
    · exact ⟨Int.emod_nonneg _ (by omega), Int.emod_lt_of_pos _ (by omega)⟩
    · exact h1 i j hi hj
  · unfold opm
    rw [if_neg (by omega)]
    exact h2 i j hi hj
  · unfold opm
    by_cases e2 : r = q
    · rw [if_pos ⟨e2, Nat.le_refl c, by omega⟩]
      apply Int.emod_eq_zero_of_dvd
      obtain ⟨y, hy⟩ := Int.dvd_self_sub_emod (x := (p - V q c) * u) (m := p)
      refine ⟨1 + (p - V q c) * z - y * V c c, ?_⟩
      have : (p - V q c) * u % p = (p - V q c) * u - p * y := by omega
      rw [this]
      grind
    · rw [if_neg (fun z => e2 z.1)]
      exact h3 r a (by omega) e
  · unfold opm
    rw [if_neg (by omega)]
    exact h4 r j (by omega) b e
  · unfold opm
    rw [if_neg (by omega)]
    exact h5 k r a b e
  · by_cases e : q = n
    · rw [det_congr n (N := V) (fun i j hi hj => by unfold opm; rw [if_neg (by omega)])]
      exact h6
    · have := Int.dvd_add (det_opm (p := p) (m := n) (n := n) (r := q) (c := c) (W := V) (f := (p - V q c) * u % p) (by omega) (by omega) hcq hv0) h6
      rw [show ∀ a b c : Int, a - b + (b - c) = a - c from fun a b c => by omega] at this
      exact this
  · have := Int.dvd_add (det_opm (p := p) (m := n + 1) (n := n) (r := q) (c := c) (W := V) (f := (p - V q c) * u % p) (by omega) (by omega) hcq hv0) h7
    rw [show ∀ a b c : Int, a - b + (b - c) = a - c from fun a b c => by omega] at this
    exact this
theorem cg_aux {p d s P w z y g : Int} (h7 : d - s * P = p * z) (hy : d * w - g = p * y) : g - s * (P * w) = p * (z * w - y) := by grind
theorem clr_step {p : Int} (hp : pm p) {n c : Nat} {M W V : Nat → Nat → Int} {d : Int} (h : clr_ok p n c M W d) (hc : c < n) (hcc : W c c ≠ 0) (hV : cbl p n c (n + 1) W V) : clr_ok p n (c + 1) M V (d * W c c % p) := by
  have p1 := hp.1
  obtain ⟨h1, h2, h3, s, h4, ⟨z5, h5⟩, ⟨z6, h6⟩, ⟨z7, h7⟩⟩ := h
  obtain ⟨v1, v2, v3, v4, v5, ⟨z8, v6⟩, ⟨z9, v7⟩⟩ := hV
  have hw := h1 c c (by omega) (by omega)
  have nd : ¬ p ∣ d * W c c := fun z => by
    rcases hp.2 _ _ z with y | y
    · have := nz_dvd (by omega) h3.2 y; omega
    · exact hcc (nz_dvd hw.1 hw.2 y)
  have e0 := Int.emod_nonneg (d * W c c) (show p ≠ 0 by omega)
  have e1 := Int.emod_lt_of_pos (d * W c c) (show 0 < p by omega)
  have e2 : d * W c c % p ≠ 0 := fun z => nd (Int.dvd_of_emod_eq_zero z)
  refine ⟨v1, fun k r a b e => ?_, ⟨by omega, e1⟩, s, h4, ⟨s * z8 + z5, by grind⟩, ⟨s * z9 + z6, by grind⟩, ?_⟩
  · by_cases e3 : k = c
    · rw [e3]; exact v3 r (by omega) (by omega) e
    · by_cases e4 : r ≤ c
      · rw [v2 r k e4 (by omega)]; exact h2 k r (by omega) b e
      · exact v5 k r (by omega) (by omega) e
  · show p ∣ _ - s * (pI (fun k => V k k) c * V c c)
    rw [pI_congr (g := fun k => W k k) c (fun i hi => v2 i i (by omega) (by omega)), v2 c c (Nat.le_refl c) (by omega)]
    obtain ⟨y, hy⟩ := Int.dvd_self_sub_emod (x := d * W c c) (m := p)
    exact ⟨z7 * W c c - y, cg_aux h7 hy⟩
theorem clr_end {p : Int} (hp : pm p) {n : Nat} {M W : Nat → Nat → Int} {d : Int} (h : clr_ok p n n M W d) : d = det n M % p ∧ p ∣ d * W n n - det (n + 1) M := by
  obtain ⟨h1, h2, h3, s, h4, ⟨z5, h5⟩, ⟨z6, h6⟩, ⟨z7, h7⟩⟩ := h
  have e1 : det n W = pI (fun k => W k k) n := det_tri n W (fun k r a b => h2 k r (by omega) a (by omega))
  have e2 : det (n + 1) W = pI (fun k => W k k) n * W n n := det_tri (n + 1) W (fun k r a b => h2 k r (by omega) a (by omega))
  rw [e1] at h5
  rw [e2] at h6
  constructor
  · rw [← emod_dvd (a := d) (b := det n M) ⟨z7 + z5, by grind⟩]
    exact (Int.emod_eq_of_lt (by omega) h3.2).symm
  · exact ⟨z7 * W n n + z6, by grind⟩
