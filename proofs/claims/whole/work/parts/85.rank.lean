/-! ranks by the remainders of a prime -/
theorem imd_cg {p : Int} {D n : Nat} {A B : Nat → Nat → Int} (h : ∀ i, i < n → ∀ c, c < D → p ∣ A i c - B i c) (hA : imd p D n A) : imd p D n B := fun c hc => hA c (fun k hk => by
  obtain ⟨z1, h1⟩ := hc k hk
  obtain ⟨z2, h2⟩ := sm_dm (p := p) (f := fun i => c i * A i k) (g := fun i => c i * B i k) n (fun i hi => by
    obtain ⟨z, hz⟩ := h i hi k hk
    exact ⟨c i * z, by grind⟩)
  exact ⟨z1 + z2, by grind⟩)
theorem dvd_swap {p a b : Int} (h : p ∣ a - b) : p ∣ b - a := by
  obtain ⟨z, hz⟩ := h
  exact ⟨-z, by grind⟩
theorem sm_rs2 (f g : Nat → Int) (r : Nat) (n : Nat) (hr : r < n) (h : ∀ i, i < n → i ≠ r → f i = g i) : sm f n - f r = sm g n - g r := by
  rw [sm_split f r n hr, sm_split g r n hr, sm_congr (g := fun i => if i = r then 0 else g i) n (fun i hi => by
    by_cases e : i = r
    · rw [if_pos e, if_pos e]
    · rw [if_neg e, if_neg e, h i hi e])]
  omega
theorem imd_op {p : Int} {D n : Nat} {A : Nat → Nat → Int} {r s : Nat} (hr : r < n) (hs : s < n) (hrs : r ≠ s) (f : Int) (hA : imd p D n A) : imd p D n (rs A r (fun j => A r j + f * A s j)) := by
  intro c hc
  have h1 := hA (fun i => if i = s then c s + f * c r else c i) (fun k hk => by
    obtain ⟨z, hz⟩ := hc k hk
    have e1 := sm_rs2 (fun i => c i * rs A r (fun j => A r j + f * A s j) i k) (fun i => c i * A i k) r n hr (fun i _ hi => by rw [rs_off _ _ hi])
    have e2 := sm_rs2 (fun i => (if i = s then c s + f * c r else c i) * A i k) (fun i => c i * A i k) s n hs (fun i _ hi => by rw [if_neg hi])
    rw [rs_at] at e1
    rw [if_pos rfl] at e2
    exact ⟨z, by grind⟩)
  intro i hi
  have hcr : p ∣ c r := by
    have := h1 r hr
    rw [if_neg hrs] at this
    exact this
  by_cases e : i = s
  · have := h1 s hs
    rw [if_pos rfl] at this
    obtain ⟨y, hy⟩ := this
    obtain ⟨x, hx⟩ := hcr
    rw [e]
    exact ⟨y - f * x, by grind⟩
  · have := h1 i hi
    rw [if_neg e] at this
    exact this
theorem imd_sw {p : Int} {D n : Nat} {A : Nat → Nat → Int} {r s : Nat} (hr : r < n) (hs : s < n) (hA : imd p D n A) : imd p D n (sw A r s) := by
  by_cases hrs : r = s
  · subst hrs
    refine imd_congr (fun i _ c _ => ?_) hA
    unfold sw
    by_cases e : i = r
    · rw [if_pos e, e]
    · rw [if_neg e, if_neg e]
  · intro c hc
    have h1 := hA (fun i => if i = r then c s else if i = s then c r else c i) (fun k hk => by
      obtain ⟨z, hz⟩ := hc k hk
      have a1 := sm_split (fun i => c i * sw A r s i k) r n hr
      have a2 := sm_split (fun i => if i = r then 0 else c i * sw A r s i k) s n hs
      have b1 := sm_split (fun i => (if i = r then c s else if i = s then c r else c i) * A i k) r n hr
      have b2 := sm_split (fun i => if i = r then 0 else (if i = r then c s else if i = s then c r else c i) * A i k) s n hs
      have e : sm (fun i => if i = s then 0 else if i = r then 0 else c i * sw A r s i k) n = sm (fun i => if i = s then 0 else if i = r then 0 else (if i = r then c s else if i = s then c r else c i) * A i k) n := sm_congr n (fun i _ => by
        by_cases e1 : i = s
        · rw [if_pos e1, if_pos e1]
        · rw [if_neg e1, if_neg e1]
          by_cases e2 : i = r
          · rw [if_pos e2, if_pos e2]
          · rw [if_neg e2, if_neg e2, if_neg e2, if_neg e1]
            unfold sw
            rw [if_neg e2, if_neg e1])
      have w1 : sw A r s r k = A s k := by unfold sw; rw [if_pos rfl]
      have w2 : sw A r s s k = A r k := by unfold sw; rw [if_neg (Ne.symm hrs), if_pos rfl]
      rw [if_neg (Ne.symm hrs), w2] at a2
      rw [w1] at a1
      rw [if_pos rfl] at b1
      rw [if_neg (Ne.symm hrs), if_neg (Ne.symm hrs), if_pos rfl] at b2
      exact ⟨z, by grind⟩)
    intro i hi
    by_cases e1 : i = r
    · have := h1 s hs
      rw [if_neg (Ne.symm hrs), if_pos rfl] at this
      rw [e1]; exact this
    · by_cases e2 : i = s
      · have := h1 r hr
        rw [if_pos rfl] at this
        rw [e2]; exact this
      · have := h1 i hi
        rw [if_neg e1, if_neg e2] at this
        exact this
/-- as far as the elimination has come -/
def ech (p : Int) (n k ρ : Nat) (A W : Nat → Nat → Int) : Prop := (∀ i, i < n → ∀ j, j < 17 → 0 ≤ W i j ∧ W i j < p) ∧ ρ ≤ n ∧ (imd p 17 n A ↔ imd p 17 n W) ∧ (∀ i, ρ ≤ i → i < n → ∀ c, c < k → W i c = 0) ∧ ∃ κ : Nat → Nat, ∀ i, i < ρ → κ i < k ∧ W i (κ i) ≠ 0 ∧ ∀ j, i < j → j < n → W j (κ i) = 0
theorem ech_0 {p : Int} (hp : pm p) (n : Nat) (A : Nat → Nat → Int) : ech p n 0 0 A (fun i j => A i j % p) := by
  have p1 := hp.1
  refine ⟨fun i _ j _ => ⟨Int.emod_nonneg _ (by omega), Int.emod_lt_of_pos _ (by omega)⟩, Nat.zero_le n, ⟨fun h => imd_cg (fun i _ c _ => Int.dvd_self_sub_emod) h, fun h => imd_cg (fun i _ c _ => dvd_swap Int.dvd_self_sub_emod) h⟩, fun i _ _ c hc => absurd hc (Nat.not_lt_zero c), fun _ => 0, fun i hi => absurd hi (Nat.not_lt_zero i)⟩
theorem ech_no {p : Int} {n k ρ : Nat} {A W : Nat → Nat → Int} (h : ech p n k ρ A W) (h0 : ∀ i, ρ ≤ i → i < n → W i k = 0) : ech p n (k + 1) ρ A W := by
  obtain ⟨h1, h2, h3, h4, κ, h5⟩ := h
  exact ⟨h1, h2, h3, fun i a b c hc => by by_cases e : c = k; rw [e]; exact h0 i a b; exact h4 i a b c (by omega), κ, fun i hi => ⟨by have := (h5 i hi).1; omega, (h5 i hi).2⟩⟩
theorem ech_end {p : Int} (hp : pm p) {n ρ : Nat} {A W : Nat → Nat → Int} (h : ech p n 17 ρ A W) : ρ = n ↔ imd p 17 n A := by
  obtain ⟨h1, h2, h3, h4, κ, h5⟩ := h
  rw [h3]
  constructor
  · intro e
    subst e
    intro c hc
    have key : ∀ m i, i < m → i < ρ → p ∣ c i := by
      intro m
      induction m with
      | zero => exact fun i hi => absurd hi (Nat.not_lt_zero i)
      | succ m ih =>
        intro i him hi
        obtain ⟨k1, k2, k3⟩ := h5 i hi
        obtain ⟨z, hz⟩ := hc (κ i) k1
        rw [sm_split _ i ρ hi] at hz
        obtain ⟨y, hy⟩ := sm_dvd (p := p) (f := fun j => if j = i then 0 else c j * W j (κ i)) ρ (fun j hj => by
          by_cases e : j = i
          · rw [if_pos e]; exact Int.dvd_zero p
          · rw [if_neg e]
            by_cases e2 : j < i
            · exact Int.dvd_mul_of_dvd_left (ih j (by omega) hj)
            · rw [k3 j (by omega) hj, Int.mul_zero]; exact Int.dvd_zero p)
        have : p ∣ c i * W i (κ i) := ⟨z - y, by grind⟩
        rcases hp.2 _ _ this with x | x
        · exact x
        · exact absurd (nz_dvd (h1 i hi _ k1).1 (h1 i hi _ k1).2 x) k2
    exact fun i hi => key (i + 1) i (by omega) hi
  · intro hi
    by_cases e : ρ = n
    · exact e
    · exfalso
      have := hi (fun i => if i = ρ then 1 else 0) (fun k hk => by
        rw [sm_one (k := ρ) n (by omega) (fun i _ hi => by rw [if_neg hi]; exact Int.zero_mul _), if_pos rfl, h4 ρ (Nat.le_refl ρ) (by omega) k hk]
        exact ⟨0, by grind⟩) ρ (by omega)
      rw [if_pos rfl] at this
      have := Int.eq_one_of_dvd_one (by have := hp.1; omega) this
      have := hp.1
      omega
/-- column k cleared behind row ρ, in the rows ahead of q -/
def brd (p : Int) (n k ρ q : Nat) (W V : Nat → Nat → Int) : Prop := (∀ i, i < n → ∀ j, j < 17 → 0 ≤ V i j ∧ V i j < p) ∧ (∀ i, i ≤ ρ → ∀ j, j < 17 → V i j = W i j) ∧ (∀ r, ρ < r → r < q → r < n → V r k = 0) ∧ (∀ r, q ≤ r → r < n → ∀ j, j < 17 → V r j = W r j) ∧ (∀ r, ρ < r → r < n → ∀ c, c < k → V r c = W r c) ∧ (∀ κ, κ < k → W ρ κ = 0) ∧ (imd p 17 n W ↔ imd p 17 n V)
theorem brd_0 {p : Int} {n k ρ : Nat} {W : Nat → Nat → Int} (h1 : ∀ i, i < n → ∀ j, j < 17 → 0 ≤ W i j ∧ W i j < p) (h2 : ∀ κ, κ < k → W ρ κ = 0) : brd p n k ρ (ρ + 1) W W := ⟨h1, fun _ _ _ _ => rfl, fun r a b => by omega, fun _ _ _ _ _ => rfl, fun _ _ _ _ _ => rfl, h2, Iff.rfl⟩
theorem brd_skip {p : Int} {n k ρ q : Nat} {W V : Nat → Nat → Int} (h : brd p n k ρ q W V) (h0 : V q k = 0) : brd p n k ρ (q + 1) W V := by
  obtain ⟨h1, h2, h3, h4, h5, h6, h7⟩ := h
  exact ⟨h1, h2, fun r a b e => by by_cases z : r = q; rw [z]; exact h0; exact h3 r a (by omega) e, fun r a b j hj => h4 r (by omega) b j hj, h5, h6, h7⟩
def opr (p : Int) (V : Nat → Nat → Int) (r s k : Nat) (f : Int) : Nat → Nat → Int := fun i j => if i = r ∧ k ≤ j then (V r j - f * V s j % p) % p else V i j
theorem opr_cg {p : Int} {V : Nat → Nat → Int} {r s k : Nat} {f : Int} (h0 : ∀ c, c < k → V s c = 0) (j : Nat) : p ∣ opr p V r s k f r j - (V r j + (- f) * V s j) := by
  unfold opr
  by_cases e : k ≤ j
  · rw [if_pos ⟨rfl, e⟩]
    obtain ⟨z1, h1⟩ := Int.dvd_self_sub_emod (x := V r j - f * V s j % p) (m := p)
    obtain ⟨z2, h2⟩ := Int.dvd_self_sub_emod (x := f * V s j) (m := p)
    exact ⟨z2 - z1, by grind⟩
  · rw [if_neg (fun z => e z.2), h0 j (by omega)]
    exact ⟨0, by grind⟩
theorem imd_opr {p : Int} {n : Nat} {V : Nat → Nat → Int} {r s k : Nat} {f : Int} (hr : r < n) (hs : s < n) (hrs : r ≠ s) (h0 : ∀ c, c < k → V s c = 0) : imd p 17 n V ↔ imd p 17 n (opr p V r s k f) := by
  have off : ∀ i, i ≠ r → ∀ j, opr p V r s k f i j = V i j := fun i hi j => by unfold opr; rw [if_neg (fun z => hi z.1)]
  constructor
  · intro h
    refine imd_cg (fun i _ c _ => ?_) (imd_op hr hs hrs (-f) h)
    by_cases e : i = r
    · rw [e, rs_at]; exact dvd_swap (opr_cg h0 c)
    · rw [rs_off _ _ e, off i e]; exact ⟨0, by grind⟩
  · intro h
    refine imd_cg (fun i _ c _ => ?_) (imd_op hr hs hrs f h)
    by_cases e : i = r
    · rw [e, rs_at]
      obtain ⟨z, hz⟩ := opr_cg (p := p) (V := V) (r := r) (s := s) (k := k) (f := f) h0 c
      rw [off s (Ne.symm hrs)]
      exact ⟨z, by grind⟩
    · rw [rs_off _ _ e, off i e]; exact ⟨0, by grind⟩
theorem brd_op {p : Int} (hp : pm p) {n k ρ q : Nat} {W V : Nat → Nat → Int} {u z : Int} (h : brd p n k ρ q W V) (hk : k < 17) (hρq : ρ < q) (hq : q < n) (hu : u * V ρ k = 1 + z * p) : brd p n k ρ (q + 1) W (opr p V q ρ k (V q k * u % p)) := by
  have p1 := hp.1
  obtain ⟨h1, h2, h3, h4, h5, h6, h7⟩ := h
  have hv0 : ∀ c, c < k → V ρ c = 0 := fun c hc => by rw [h2 ρ (Nat.le_refl ρ) c (by omega)]; exact h6 c hc
  refine ⟨fun i hi j hj => ?_, fun i hi j hj => ?_, fun r a b e => ?_, fun r a b j hj => ?_, fun r a b c hc => ?_, h6, h7.trans (imd_opr hq (by omega) (by omega) hv0)⟩
  · unfold opr
    split
    · exact ⟨Int.emod_nonneg _ (by omega), Int.emod_lt_of_pos _ (by omega)⟩
    · exact h1 i hi j hj
  · unfold opr
    rw [if_neg (by omega)]
    exact h2 i hi j hj
  · unfold opr
    by_cases e2 : r = q
    · rw [if_pos ⟨e2, Nat.le_refl k⟩]
      apply Int.emod_eq_zero_of_dvd
      obtain ⟨y1, g1⟩ := Int.dvd_self_sub_emod (x := V q k * u % p * V ρ k) (m := p)
      obtain ⟨y2, g2⟩ := Int.dvd_self_sub_emod (x := V q k * u) (m := p)
      generalize V q k * u % p * V ρ k % p = G at *
      generalize V q k * u % p = F at *
      exact ⟨y1 + y2 * V ρ k - V q k * z, by grind⟩
    · rw [if_neg (fun z => e2 z.1)]
      exact h3 r a (by omega) e
  · unfold opr
    rw [if_neg (by omega)]
    exact h4 r (by omega) b j hj
  · unfold opr
    rw [if_neg (by omega)]
    exact h5 r a b c hc
theorem ech_yes {p : Int} {n k ρ at_ : Nat} {A W V : Nat → Nat → Int} (h : ech p n k ρ A W) (hk : k < 17) (ha1 : ρ ≤ at_) (ha2 : at_ < n) (hne : W at_ k ≠ 0) (hV : brd p n k ρ n (sw W at_ ρ) V) : ech p n (k + 1) (ρ + 1) A V := by
  obtain ⟨h1, h2, h3, h4, κ, h5⟩ := h
  obtain ⟨v1, v2, v3, v4, v5, v6, v7⟩ := hV
  have swlo : ∀ i, i < ρ → sw W at_ ρ i = W i := fun i hi => by unfold sw; rw [if_neg (by omega), if_neg (by omega)]
  have swρ : sw W at_ ρ ρ = W at_ := by
    unfold sw
    by_cases e : ρ = at_
    · rw [if_pos e, e]
    · rw [if_neg e, if_pos rfl]
  have swhi : ∀ i, ρ ≤ i → i < n → ∃ m, ρ ≤ m ∧ m < n ∧ sw W at_ ρ i = W m := fun i a b => by
    unfold sw
    split
    · exact ⟨ρ, by omega, by omega, rfl⟩
    · split
      · exact ⟨at_, ha1, ha2, rfl⟩
      · exact ⟨i, a, b, rfl⟩
  refine ⟨v1, by omega, h3.trans (Iff.trans ⟨fun z => imd_sw ha2 (by omega) z, fun z => ?_⟩ v7), fun i a b c hc => ?_, fun i => if i = ρ then k else κ i, fun i hi => ?_⟩
  · have z2 := imd_sw (r := at_) (s := ρ) ha2 (by omega) z
    refine imd_congr (fun i _ c _ => ?_) z2
    unfold sw
    by_cases e1 : i = at_
    · by_cases e2 : ρ = at_
      · subst e1; rw [if_pos rfl, if_pos e2, e2]
      · rw [if_pos e1, if_neg e2, if_pos rfl, e1]
    · rw [if_neg e1]
      by_cases e2 : i = ρ
      · rw [if_pos e2, if_pos rfl, e2]
      · rw [if_neg e2, if_neg e1, if_neg e2]
  · by_cases e : c = k
    · rw [e]; exact v3 i (by omega) b b
    · rw [v5 i (by omega) b c (by omega)]
      obtain ⟨m, m1, m2, m3⟩ := swhi i (by omega) b
      rw [m3]
      exact h4 m m1 m2 c (by omega)
  · dsimp only
    by_cases e : i = ρ
    · subst e
      rw [if_pos rfl]
      refine ⟨by omega, ?_, fun j a b => v3 j a b b⟩
      rw [v2 i (Nat.le_refl i) k hk, swρ]
      exact hne
    · rw [if_neg e]
      obtain ⟨k1, k2, k3⟩ := h5 i (by omega)
      refine ⟨by omega, ?_, fun j a b => ?_⟩
      · rw [v2 i (by omega) (κ i) (by omega), swlo i (by omega)]
        exact k2
      · by_cases e2 : j ≤ ρ
        · rw [v2 j e2 (κ i) (by omega)]
          by_cases e3 : j = ρ
          · rw [e3, swρ]; exact k3 at_ (by omega) ha2
          · rw [swlo j (by omega)]; exact k3 j a b
        · rw [v5 j (by omega) b (κ i) k1]
          obtain ⟨m, m1, m2, m3⟩ := swhi j (by omega) b
          rw [m3]
          exact k3 m (by omega) m2
/-! the rows of a set -/
def rc (S : Nat → Bool) : Nat → Nat × (Nat → Nat)
  | 0 => (0, fun _ => 0)
  | m + 1 => if S m = true then ((rc S m).1 + 1, fun q => if q = (rc S m).1 then m else (rc S m).2 q) else rc S m
theorem rc_t {S : Nat → Bool} {m : Nat} (h : S m = true) : rc S (m + 1) = ((rc S m).1 + 1, fun q => if q = (rc S m).1 then m else (rc S m).2 q) := if_pos h
theorem rc_f {S : Nat → Bool} {m : Nat} (h : S m = false) : rc S (m + 1) = rc S m := if_neg (by rw [h]; decide)
theorem rc_le (S : Nat → Bool) : ∀ m, (rc S m).1 ≤ m
  | 0 => Nat.le_refl 0
  | m + 1 => by
    have := rc_le S m
    cases h : S m with
    | true => rw [rc_t h]; show (rc S m).1 + 1 ≤ _; omega
    | false => rw [rc_f h]; omega
theorem rc_lt (S : Nat → Bool) : ∀ m q, q < (rc S m).1 → (rc S m).2 q < m ∧ S ((rc S m).2 q) = true
  | 0, q, hq => absurd hq (Nat.not_lt_zero q)
  | m + 1, q, hq => by
    cases h : S m with
    | true =>
      rw [rc_t h] at hq ⊢
      dsimp only at hq ⊢
      by_cases e : q = (rc S m).1
      · rw [if_pos e]; exact ⟨by omega, h⟩
      · rw [if_neg e]
        have := rc_lt S m q (by omega)
        exact ⟨by omega, this.2⟩
    | false =>
      rw [rc_f h] at hq ⊢
      have := rc_lt S m q hq
      exact ⟨by omega, this.2⟩
theorem rc_congr {S S' : Nat → Bool} : ∀ m, (∀ k, k < m → S k = S' k) → rc S m = rc S' m
  | 0, _ => rfl
  | m + 1, h => by
    have ih := rc_congr m (fun k hk => h k (by omega))
    show (if S m = true then _ else _) = (if S' m = true then _ else _)
    rw [h m (by omega), ih]
theorem rc_pad {S : Nat → Bool} {m : Nat} : ∀ d, (∀ k, m ≤ k → k < m + d → S k = false) → rc S (m + d) = rc S m
  | 0, _ => rfl
  | d + 1, h => by
    rw [show m + (d + 1) = m + d + 1 by omega, rc_f (h (m + d) (by omega) (by omega))]
    exact rc_pad d (fun k a b => h k a (by omega))
/-- a set with one more element, behind all others -/
theorem rc_add {S : Nat → Bool} {x M : Nat} (hx : x < M) (h : ∀ k, x ≤ k → k < M → S k = false) : rc (fun k => S k || decide (k = x)) M = ((rc S M).1 + 1, fun q => if q = (rc S M).1 then x else (rc S M).2 q) := by
  have e1 : rc S M = rc S x := by
    obtain ⟨d, rfl⟩ : ∃ d, M = x + d := ⟨M - x, by omega⟩
    exact rc_pad d h
  have e2 : rc (fun k => S k || decide (k = x)) x = rc S x := rc_congr x (fun k hk => by simp [show k ≠ x by omega])
  have e3 : rc (fun k => S k || decide (k = x)) M = rc (fun k => S k || decide (k = x)) (x + 1) := by
    obtain ⟨d, rfl⟩ : ∃ d, M = x + 1 + d := ⟨M - x - 1, by omega⟩
    exact rc_pad d (fun k a b => by rw [h k (by omega) (by omega)]; simp; omega)
  rw [e3, rc_t (by simp), e2, e1]
/-- a set without its i-th element -/
theorem rc_del {S : Nat → Bool} {i x : Nat} : ∀ M, i < (rc S M).1 → (rc S M).2 i = x → (∀ a b, a < b → b < (rc S M).1 → (rc S M).2 a < (rc S M).2 b) → (rc (fun k => S k && decide (k ≠ x)) M).1 = (rc S M).1 - 1 ∧ ∀ q, q < (rc S M).1 - 1 → (rc (fun k => S k && decide (k ≠ x)) M).2 q = if q < i then (rc S M).2 q else (rc S M).2 (q + 1)
  | 0, h, _, _ => absurd h (Nat.not_lt_zero i)
  | M + 1, hi, hx, hinc => by
    cases hS : S M with
    | false =>
      rw [rc_f hS] at hi hx hinc ⊢
      rw [rc_f (S := fun k => S k && decide (k ≠ x)) (by rw [hS]; rfl)]
      exact rc_del M hi hx hinc
    | true =>
      have ht := rc_t hS
      rw [ht] at hi hx hinc
      dsimp only at hi hx hinc
      by_cases e : i = (rc S M).1
      · rw [if_pos e] at hx
        subst hx
        rw [rc_f (S := fun k => S k && decide (k ≠ M)) (by simp), rc_congr (S' := S) M (fun k hk => by simp [show k ≠ M by omega]), ht]
        refine ⟨rfl, fun q hq => ?_⟩
        dsimp only at hq ⊢
        rw [if_pos (show q < i by omega), if_neg (by omega)]
      · rw [if_neg e] at hx
        have hlt := rc_lt S M i (by omega)
        have hxM : M ≠ x := by omega
        obtain ⟨d1, d2⟩ := rc_del (S := S) (i := i) (x := x) M (by omega) hx (fun a b h1 h2 => by
          have := hinc a b h1 (by omega)
          rw [if_neg (by omega), if_neg (by omega)] at this
          exact this)
        rw [rc_t (S := fun k => S k && decide (k ≠ x)) (by rw [hS]; simp [hxM]), ht]
        dsimp only
        refine ⟨by omega, fun q hq => ?_⟩
        by_cases e2 : q = (rc S M).1 - 1
        · rw [if_pos (by omega), if_neg (by omega), if_pos (by omega)]
        · rw [if_neg (by omega), d2 q (by omega)]
          by_cases e3 : q < i
          · rw [if_pos e3, if_pos e3, if_neg (by omega)]
          · rw [if_neg e3, if_neg e3, if_neg (by omega)]
