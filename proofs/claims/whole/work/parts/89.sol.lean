/-! Gauss and Jordan by the remainders of a prime -/
/-- row i of M, with the right side's column 16, at z -/
abbrev rz (n : Nat) (M : Nat → Nat → Int) (i : Nat) (z : Nat → Int) : Int := sm (fun j => M i j * z j) n + M i 16 * z 16
def sol (p : Int) (n k : Nat) (G : Nat → Nat → Int) (o : Nat → Int) (M : Nat → Nat → Int) (b : Int) : Prop := (∀ i, i < n → ∀ j, (j < n ∨ j = 16) → 0 ≤ M i j ∧ M i j < p) ∧ (∀ c, c < k → ∀ i, i < n → M i c = if i = c then 1 else 0) ∧ (0 < b ∧ b < p) ∧ (∀ z : Nat → Int, (∀ i, i < n → p ∣ rz n M i z) → ∀ i, i < n → p ∣ sm (fun j => G i j * z j) n + o i * z 16) ∧ p ∣ b * det n M - det n G
theorem sol_0 {p : Int} (hp : pm p) {n : Nat} {G : Nat → Nat → Int} {o : Nat → Int} {M : Nat → Nat → Int} (hG : ∀ i, i < n → ∀ j, j < n → M i j = G i j % p) (ho : ∀ i, i < n → M i 16 = o i % p) (hn : n ≤ 16) : sol p n 0 G o M 1 := by
  have p1 := hp.1
  refine ⟨fun i hi j hj => ?_, fun c hc => absurd hc (Nat.not_lt_zero c), by omega, fun z hz i hi => ?_, ?_⟩
  · by_cases e : j < n
    · rw [hG i hi j e]
      exact ⟨Int.emod_nonneg _ (by omega), Int.emod_lt_of_pos _ (by omega)⟩
    · obtain rfl : j = 16 := by omega
      rw [ho i hi]
      exact ⟨Int.emod_nonneg _ (by omega), Int.emod_lt_of_pos _ (by omega)⟩
  · obtain ⟨y, hy⟩ := hz i hi
    obtain ⟨x1, h1⟩ := sm_dm (p := p) (f := fun j => G i j * z j) (g := fun j => M i j * z j) n (fun j hj => by
      obtain ⟨x, hx⟩ := Int.dvd_self_sub_emod (x := G i j) (m := p)
      rw [hG i hi j hj]
      exact ⟨x * z j, by rw [← Int.sub_mul, hx]; grind⟩)
    obtain ⟨x2, h2⟩ := Int.dvd_self_sub_emod (x := o i) (m := p)
    unfold rz at hy
    rw [ho i hi] at hy
    generalize o i % p = O at *
    exact ⟨y + x1 + x2 * z 16, by grind⟩
  · rw [Int.one_mul]
    exact det_cg n (fun i j hi hj => by rw [hG i hi j hj]; exact dvd_swap Int.dvd_self_sub_emod)
theorem sol_stuck {p : Int} {n k : Nat} {G M : Nat → Nat → Int} {o : Nat → Int} {b : Int} (h : sol p n k G o M b) (hk : k < n) (h0 : ∀ i, k ≤ i → i < n → M i k = 0) : det n G % p = 0 := by
  obtain ⟨-, h2, -, -, h5⟩ := h
  rw [det_stuck k n M hk (fun c r a b e => by rw [h2 c a r e, if_neg (by omega)]) h0] at h5
  apply Int.emod_eq_zero_of_dvd
  obtain ⟨z, hz⟩ := h5
  exact ⟨-z, by grind⟩
theorem sol_sw {p : Int} {n k a : Nat} {G M : Nat → Nat → Int} {o : Nat → Int} {b : Int} (h : sol p n k G o M b) (hk : k < a) (ha : a < n) : sol p n k G o (sw M a k) (p - b) := by
  obtain ⟨h1, h2, h3, h4, h5⟩ := h
  have pick : ∀ i, i < n → ∃ m, m < n ∧ sw M a k i = M m := fun i hi => by
    unfold sw
    split
    · exact ⟨k, by omega, rfl⟩
    · split
      · exact ⟨a, ha, rfl⟩
      · exact ⟨i, hi, rfl⟩
  refine ⟨fun i hi j hj => ?_, fun c hc i hi => ?_, by omega, fun z hz => h4 z (fun i hi => ?_), ?_⟩
  · obtain ⟨m, m1, m2⟩ := pick i hi
    rw [m2]; exact h1 m m1 j hj
  · unfold sw
    split
    · rename_i e
      rw [h2 c hc k (by omega), if_neg (by omega), if_neg (by omega)]
    · split
      · rename_i e
        rw [h2 c hc a ha, if_neg (by omega), if_neg (by omega)]
      · exact h2 c hc i hi
  · by_cases e1 : i = a
    · have := hz k (by omega)
      have e : sw M a k k = M a := by unfold sw; rw [if_neg (by omega), if_pos rfl]
      unfold rz at this ⊢
      rw [e] at this
      rw [e1]; exact this
    · by_cases e2 : i = k
      · have := hz a ha
        have e : sw M a k a = M k := by unfold sw; rw [if_pos rfl]
        unfold rz at this ⊢
        rw [e] at this
        rw [e2]; exact this
      · have := hz i hi
        have e : sw M a k i = M i := by unfold sw; rw [if_neg e1, if_neg e2]
        unfold rz at this ⊢
        rw [e] at this
        exact this
  · rw [det_sw n M a k ha (by omega) (by omega)]
    obtain ⟨z, hz⟩ := h5
    exact ⟨z - det n M, by grind⟩
/-- the pivot's row scaled, and the other rows ahead of q cleared -/
def jor (p : Int) (n k q : Nat) (u : Int) (M V : Nat → Nat → Int) : Prop := (∀ i, i < n → ∀ j, (j < n ∨ j = 16) → 0 ≤ V i j ∧ V i j < p) ∧ (∀ j, (j < n ∨ j = 16) → V k j = M k j * u % p) ∧ (∀ i, i ≠ k → q ≤ i → i < n → ∀ j, (j < n ∨ j = 16) → V i j = M i j) ∧ (∀ i, i ≠ k → i < q → i < n → ∀ j, (j < n ∨ j = 16) → V i j = (M i j - M i k * V k j % p) % p)
theorem jor_sol {p : Int} (hp : pm p) {n k : Nat} {G M V : Nat → Nat → Int} {o : Nat → Int} {b u z : Int} (hn : n ≤ 16) (h : sol p n k G o M b) (hk : k < n) (hu : u * M k k = 1 + z * p) (hV : jor p n k n u M V) (hne : M k k ≠ 0) : sol p n (k + 1) G o V (b * M k k % p) := by
  have p1 := hp.1
  obtain ⟨h1, h2, h3, h4, h5⟩ := h
  obtain ⟨v1, v2, v3, v4⟩ := hV
  have rg := h1 k hk k (Or.inl hk)
  have vkk : V k k = 1 := by
    rw [v2 k (Or.inl hk), Int.mul_comm, hu, Int.add_mul_emod_self_right]
    exact Int.emod_eq_of_lt (by omega) (by omega)
  have vkc : ∀ c, c < k → V k c = 0 := fun c hc => by
    rw [v2 c (Or.inl (by omega)), h2 c hc k hk, if_neg (by omega), Int.zero_mul]; rfl
  have nu : ¬ p ∣ u := fun ⟨y, hy⟩ => by
    have : p ∣ 1 := ⟨y * M k k - z, by rw [hy] at hu; grind⟩
    have := Int.eq_one_of_dvd_one (by omega) this
    omega
  have nd : ¬ p ∣ b * M k k := fun y => by
    rcases hp.2 _ _ y with x | x
    · have := nz_dvd (by omega) h3.2 x; omega
    · exact hne (nz_dvd rg.1 rg.2 x)
  have e0 := Int.emod_nonneg (b * M k k) (show p ≠ 0 by omega)
  have e1 := Int.emod_lt_of_pos (b * M k k) (show 0 < p by omega)
  have e2 : b * M k k % p ≠ 0 := fun y => nd (Int.dvd_of_emod_eq_zero y)
  -- rows by remainders
  have ck : ∀ j, (j < n ∨ j = 16) → p ∣ M k j * u - V k j := fun j hj => by rw [v2 j hj]; exact Int.dvd_self_sub_emod
  have ci : ∀ i, i ≠ k → i < n → ∀ j, (j < n ∨ j = 16) → p ∣ V i j - (M i j + (- M i k) * V k j) := fun i h6 h7 j hj => by
    rw [v4 i h6 h7 h7 j hj]
    obtain ⟨y1, g1⟩ := Int.dvd_self_sub_emod (x := M i j - M i k * V k j % p) (m := p)
    obtain ⟨y2, g2⟩ := Int.dvd_self_sub_emod (x := M i k * V k j) (m := p)
    generalize M i k * V k j % p = F at *
    exact ⟨y2 - y1, by grind⟩
  refine ⟨v1, fun c hc i hi => ?_, ⟨by omega, e1⟩, fun x hx => h4 x (fun i hi => ?_), ?_⟩
  · by_cases ek : i = k
    · subst ek
      by_cases ec : c = i
      · subst ec; rw [vkk, if_pos rfl]
      · rw [vkc c (by omega), if_neg (Ne.symm ec)]
    · rw [v4 i ek hi hi c (Or.inl (by omega))]
      by_cases ec : c = k
      · subst ec
        have := h1 i hi c (Or.inl hk)
        rw [vkk, Int.mul_one, Int.emod_eq_of_lt this.1 this.2, Int.sub_self, if_neg ek]; rfl
      · rw [vkc c (by omega), Int.mul_zero, Int.zero_emod, Int.sub_zero, h2 c (by omega) i hi]
        split
        · exact Int.emod_eq_of_lt (by omega) (by omega)
        · rfl
  · -- what V takes to 0, M does
    have hk0 : p ∣ rz n M k x := by
      obtain ⟨y, hy⟩ := hx k hk
      obtain ⟨y1, g1⟩ := sm_dm (p := p) (f := fun j => u * (M k j * x j)) (g := fun j => V k j * x j) n (fun j hj => by
        obtain ⟨w, hw⟩ := ck j (Or.inl hj)
        exact ⟨w * x j, by grind⟩)
      obtain ⟨y2, g2⟩ := ck 16 (Or.inr rfl)
      rw [sm_mul] at g1
      have : p ∣ u * rz n M k x := ⟨y + y1 + y2 * x 16, by unfold rz at *; grind⟩
      rcases hp.2 _ _ this with w | w
      · exact absurd w nu
      · exact w
    by_cases ek : i = k
    · rw [ek]; exact hk0
    · obtain ⟨y, hy⟩ := hx i hi
      obtain ⟨y0, hy0⟩ := hx k hk
      obtain ⟨y1, g1⟩ := sm_dm (p := p) (f := fun j => V i j * x j) (g := fun j => M i j * x j + (- M i k) * (V k j * x j)) n (fun j hj => by
        obtain ⟨w, hw⟩ := ci i ek hi j (Or.inl hj)
        exact ⟨w * x j, by grind⟩)
      obtain ⟨y2, g2⟩ := ci i ek hi 16 (Or.inr rfl)
      rw [sm_lin] at g1
      exact ⟨y - y1 - y2 * x 16 + M i k * y0, by unfold rz at *; grind⟩
  · -- the determinant
    have d1 : p ∣ det n V - u * det n M := by
      have hsc := det_scale n M k (M k) u hk
      rw [rs_self] at hsc
      rw [← hsc]
      -- clear the rows one by one
      have key : ∀ m, m ≤ n → p ∣ det n (fun i j => if i = k then V k j else if i < m then V i j else M i j) - det n (rs M k (fun j => u * M k j)) := by
        intro m
        induction m with
        | zero =>
          intro _
          refine det_cg n (fun i j hi hj => ?_)
          unfold rs
          by_cases e : i = k
          · rw [if_pos e, if_pos e]
            obtain ⟨w, hw⟩ := ck j (Or.inl hj)
            exact ⟨-w, by grind⟩
          · rw [if_neg e, if_neg e, if_neg (Nat.not_lt_zero i)]
            exact ⟨0, by grind⟩
        | succ m ih =>
          intro hm
          by_cases em : m = k
          · have ih := ih (by omega)
            rw [det_congr n (N := fun i j => if i = k then V k j else if i < m then V i j else M i j) (fun i j hi hj => ?_)]
            · exact ih
            · by_cases e : i = k
              · rw [if_pos e, if_pos e]
              · rw [if_neg e, if_neg e]
                by_cases e3 : i < m
                · rw [if_pos e3, if_pos (by omega)]
                · rw [if_neg e3, if_neg (by omega)]
          · have ih := ih (by omega)
            have hop := det_op n (fun i j => if i = k then V k j else if i < m then V i j else M i j) m k (- M m k) (by omega) hk em
            have hcg : p ∣ det n (fun i j => if i = k then V k j else if i < m + 1 then V i j else M i j) - det n (rs (fun i j => if i = k then V k j else if i < m then V i j else M i j) m (fun j => (if m = k then V k j else if m < m then V m j else M m j) + (- M m k) * (if k = k then V k j else if k < m then V k j else M k j))) := by
              refine det_cg n (fun i j hi hj => ?_)
              by_cases e : i = m
              · subst e
                rw [rs_at, if_neg em, if_pos (by omega), if_neg em, if_neg (by omega), if_pos rfl]
                exact ci i em hi j (Or.inl hj)
              · rw [rs_off _ _ e]
                by_cases e4 : i = k
                · rw [if_pos e4, if_pos e4]; exact ⟨0, by grind⟩
                · rw [if_neg e4, if_neg e4]
                  by_cases e3 : i < m
                  · rw [if_pos e3, if_pos (by omega)]; exact ⟨0, by grind⟩
                  · rw [if_neg e3, if_neg (by omega)]; exact ⟨0, by grind⟩
            rw [hop] at hcg
            have := Int.dvd_add hcg ih
            rw [show ∀ a b c : Int, a - b + (b - c) = a - c from fun a b c => by omega] at this
            exact this
      have := key n (Nat.le_refl n)
      rw [det_congr n (N := V) (fun i j hi hj => by
        by_cases e : i = k
        · rw [if_pos e, e]
        · rw [if_neg e, if_pos hi])] at this
      exact this
    obtain ⟨y1, g1⟩ := d1
    obtain ⟨y2, g2⟩ := h5
    obtain ⟨y3, g3⟩ := Int.dvd_self_sub_emod (x := b * M k k) (m := p)
    generalize b * M k k % p = B at *
    refine ⟨y2 + b * z * det n M - y3 * (det n V) + b * M k k * y1, ?_⟩
    have e5 : b * M k k * det n V = b * M k k * (u * det n M) + b * M k k * (p * y1) := by rw [← g1]; grind
    have e6 : b * M k k * (u * det n M) = b * det n M + b * z * p * det n M := by
      rw [show b * M k k * (u * det n M) = b * det n M * (u * M k k) by grind, hu]; grind
    grind
theorem sol_end {p : Int} (hp : pm p) {n : Nat} {G M : Nat → Nat → Int} {o : Nat → Int} {b : Int} (hn : n ≤ 16) (h : sol p n n G o M b) : b = det n G % p ∧ ∀ i, i < n → p ∣ sm (fun j => G i j * M j 16) n - o i := by
  obtain ⟨h1, h2, h3, h4, h5⟩ := h
  constructor
  · have e : det n M = 1 := by
      rw [det_tri n M (fun k r a b => by rw [h2 k (by omega) r b, if_neg (by omega)])]
      have : ∀ m, m ≤ n → pI (fun k => M k k) m = 1 := by
        intro m
        induction m with
        | zero => exact fun _ => rfl
        | succ m ih =>
          intro hm
          show pI _ m * M m m = 1
          rw [ih (by omega), h2 m (by omega) m (by omega), if_pos rfl]
          rfl
      exact this n (Nat.le_refl n)
    rw [e, Int.mul_one] at h5
    rw [← emod_dvd h5]
    exact (Int.emod_eq_of_lt (by omega) h3.2).symm
  · intro i hi
    have := h4 (fun j => if j < n then M j 16 else -1) (fun i hi => by
      show p ∣ sm (fun j => M i j * (if j < n then M j 16 else -1)) n + M i 16 * (if 16 < n then M 16 16 else -1)
      rw [if_neg (by omega), sm_one (k := i) n hi (fun j hj hji => by rw [h2 j hj i hi, if_neg (Ne.symm hji)]; exact Int.zero_mul _), if_pos hi, h2 i hi i hi, if_pos rfl]
      exact ⟨0, by grind⟩) i hi
    rw [if_neg (by omega), sm_congr (g := fun j => G i j * M j 16) n (fun j hj => by rw [if_pos hj])] at this
    obtain ⟨y, hy⟩ := this
    exact ⟨y, by grind⟩
/-- the value above the bar, by remainders -/
theorem above_ok {p : Int} {n : Nat} {G : Nat → Nat → Int} (hG : ∀ i j, G i j = G j i) {g v y : Nat → Int} {s : Int} (hy : ∀ i, i < n → p ∣ sm (fun j => G i j * y j) n - (- g i)) : p ∣ det n G * (s - sm (fun j => v j * y j) n) - det (n + 1) (bd n G g v s) := by
  rw [bd_s]
  show p ∣ _ - (bf n G g v + s * det n G)
  -- g is G's columns times - y, and a multiple of p
  obtain ⟨e, he⟩ : ∃ e : Nat → Int, ∀ i, i < n → g i = sm (fun j => (- y j) * G i j) n + p * e i := by
    refine ⟨fun i => (sm (fun j => G i j * y j) n - (- g i)) / p, fun i hi => ?_⟩
    rw [Int.mul_ediv_cancel' (hy i hi), sm_congr (g := fun j => (-1) * (G i j * y j)) n (fun j _ => by grind), sm_mul]
    omega
  rw [bf_congr (G' := G) (u' := fun i => sm (fun j => (- y j) * G i j) n + p * e i) (v' := v) (fun _ _ _ _ => rfl) he (fun _ _ => rfl), bf_sym hG, bf_linr, bf_sym hG v (fun i => sm (fun j => (- y j) * G i j) n), bd_sol hG (fun j => - y j) v]
  rw [sm_congr (f := fun j => v j * - y j) (g := fun j => (-1) * (v j * y j)) n (fun j _ => by grind), sm_mul]
  exact ⟨- bf n G v e, by grind⟩
