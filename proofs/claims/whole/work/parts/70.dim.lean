/-! no more free rows than columns; the sorts of the tellings -/
theorem ind_le {D n m : Nat} {A : Nat → Nat → Int} (h : ind D n A) (hm : m ≤ n) : ind D m A := by
  intro c hc i hi
  have := h (fun i => if i < m then c i else 0) (fun k hk => by
    rw [sm_cut (m := m) n hm (fun j h1 h2 => by rw [if_neg (by omega)]; exact Int.zero_mul _), sm_congr (g := fun i => c i * A i k) m (fun i hi => by rw [if_pos hi])]
    exact hc k hk) i (by omega)
  rw [if_pos hi] at this
  exact this
theorem ind_dim : ∀ (D n : Nat) (A : Nat → Nat → Int), ind D n A → n ≤ D
  | 0, n, A, h => by
    by_cases e : n = 0
    · omega
    · exfalso
      have := h (fun _ => 1) (fun k hk => absurd hk (Nat.not_lt_zero k)) 0 (by omega)
      exact absurd this (by decide)
  | D + 1, n, A, h => by
    by_cases e : ∃ k, k < n ∧ A k D ≠ 0
    · obtain ⟨k, hk, hA⟩ := e
      obtain ⟨m, rfl⟩ : ∃ m, n = m + 1 := ⟨n - 1, by omega⟩
      have := ind_dim D m (fun i c => A k D * wo A k i c - wo A k i D * A k c) (fun c hc i hi => ?_)
      · omega
      · -- a relation of these rows is one of A's
        have h1 := h (fun j => if j < k then A k D * c j else if j = k then - sm (fun i => c i * wo A k i D) m else A k D * c (j - 1)) (fun q hq => ?_)
        · by_cases e2 : i < k
          · have h2 := h1 i (by omega)
            rw [if_pos e2] at h2
            exact (Int.mul_eq_zero.mp h2).resolve_left hA
          · have h2 := h1 (i + 1) (by omega)
            rw [if_neg (by omega), if_neg (by omega), show i + 1 - 1 = i by omega] at h2
            exact (Int.mul_eq_zero.mp h2).resolve_left hA
        · have e3 := sm_split (fun j => (if j < k then A k D * c j else if j = k then - sm (fun i => c i * wo A k i D) m else A k D * c (j - 1)) * A j q) k (m + 1) hk
          rw [e3, if_neg (by omega), if_pos rfl]
          have e4 := sm_wo (fun j => (if j < k then A k D * c j else A k D * c (j - 1)) * A j q) k m (by omega)
          have e5 : sm (fun i => if i = k then 0 else (if i < k then A k D * c i else if i = k then - sm (fun i => c i * wo A k i D) m else A k D * c (i - 1)) * A i q) (m + 1) = sm (fun j => A k D * (c j * wo A k j q)) m := by
            rw [sm_congr (g := fun i => if i = k then 0 else (if i < k then A k D * c i else A k D * c (i - 1)) * A i q) (m + 1) (fun i _ => by
              by_cases z : i = k
              · rw [if_pos z, if_pos z]
              · rw [if_neg z, if_neg z, if_neg z]), ← e4]
            refine sm_congr m (fun j _ => ?_)
            unfold wo
            by_cases z : j < k
            · rw [if_pos z, if_pos z, if_pos z]; grind
            · rw [if_neg z, if_neg (by omega), if_neg z, show j + 1 - 1 = j by omega]; grind
          rw [e5, sm_mul]
          by_cases eq : q = D
          · subst eq
            grind
          · have h3 := hc q (by omega)
            have e6 : sm (fun i => c i * (A k D * wo A k i q - wo A k i D * A k q)) m = A k D * sm (fun j => c j * wo A k j q) m + (- A k q) * sm (fun i => c i * wo A k i D) m := by
              rw [← sm_mul, ← sm_lin]
              exact sm_congr m (fun i _ => by grind)
            rw [e6] at h3
            grind
    · have h0 : ∀ k, k < n → A k D = 0 := fun k hk => Classical.not_not.mp (fun z => e ⟨k, hk, z⟩)
      have := ind_dim D n A (fun c hc => h c (fun k hk => by
        by_cases e2 : k = D
        · rw [e2]; exact sm_0 n (fun i hi => by rw [h0 i hi, Int.mul_zero])
        · exact hc k (by omega)))
      omega
/-! the sorts -/
abbrev Off : Type := Nat → Bool
/-- how many of the first m are new, and which -/
noncomputable def nst (T : Nat → Nat → Int) (of : Off) : Nat → Nat × (Nat → Nat)
  | 0 => (0, fun _ => 0)
  | m + 1 => if of m = true then nst T of m else if kd (fun q => T ((nst T of m).2 q)) (nst T of m).1 (T m) = 0 then ((nst T of m).1 + 1, fun q => if q = (nst T of m).1 then m else (nst T of m).2 q) else nst T of m
noncomputable def rk (T : Nat → Nat → Int) (of : Off) (m : Nat) : Nat := (nst T of m).1
noncomputable def nos (T : Nat → Nat → Int) (of : Off) (m : Nat) : Nat → Nat := (nst T of m).2
/-- the new ones as rows -/
noncomputable def am (T : Nat → Nat → Int) (of : Off) (m : Nat) : Nat → Nat → Int := fun q => T (nos T of m q)
noncomputable def knd (T : Nat → Nat → Int) (of : Off) (m : Nat) : Nat := if of m = true then 3 else kd (am T of m) (rk T of m) (T m)
theorem nst_off {T : Nat → Nat → Int} {of : Off} {m : Nat} (h : of m = true) : nst T of (m + 1) = nst T of m := if_pos h
theorem nst_new {T : Nat → Nat → Int} {of : Off} {m : Nat} (h : knd T of m = 0) : nst T of (m + 1) = (rk T of m + 1, fun q => if q = rk T of m then m else nos T of m q) := by
  unfold knd at h
  by_cases e : of m = true
  · rw [if_pos e] at h; omega
  · rw [if_neg e] at h
    exact (if_neg e).trans (if_pos h)
theorem nst_old {T : Nat → Nat → Int} {of : Off} {m : Nat} (h : knd T of m ≠ 0) : nst T of (m + 1) = nst T of m := by
  unfold knd at h
  by_cases e : of m = true
  · exact if_pos e
  · rw [if_neg e] at h
    exact (if_neg e).trans (if_neg h)
theorem rk_new {T : Nat → Nat → Int} {of : Off} {m : Nat} (h : knd T of m = 0) : rk T of (m + 1) = rk T of m + 1 := congrArg Prod.fst (nst_new h)
theorem rk_old {T : Nat → Nat → Int} {of : Off} {m : Nat} (h : knd T of m ≠ 0) : rk T of (m + 1) = rk T of m := congrArg Prod.fst (nst_old h)
theorem nos_new {T : Nat → Nat → Int} {of : Off} {m : Nat} (h : knd T of m = 0) (q : Nat) : nos T of (m + 1) q = if q = rk T of m then m else nos T of m q := congrFun (congrArg Prod.snd (nst_new h)) q
theorem nos_old {T : Nat → Nat → Int} {of : Off} {m : Nat} (h : knd T of m ≠ 0) : nos T of (m + 1) = nos T of m := congrArg Prod.snd (nst_old h)
theorem rk_mono (T : Nat → Nat → Int) (of : Off) (m : Nat) : rk T of m ≤ rk T of (m + 1) := by
  by_cases h : knd T of m = 0
  · rw [rk_new h]; omega
  · rw [rk_old h]; exact Nat.le_refl _
theorem nst_congr {T T' : Nat → Nat → Int} {of of' : Off} : ∀ m, (∀ t, t < m → T t = T' t ∧ of t = of' t) → nst T of m = nst T' of' m
  | 0, _ => rfl
  | m + 1, h => by
    have ih := nst_congr m (fun t ht => h t (by omega))
    have h2 := h m (by omega)
    have lt : ∀ q, q < (nst T of m).1 → (nst T of m).2 q < m := by
      clear ih h2
      have : ∀ m, ∀ q, q < (nst T of m).1 → (nst T of m).2 q < m := by
        intro m
        induction m with
        | zero => exact fun q hq => absurd hq (Nat.not_lt_zero q)
        | succ m ih =>
          intro q hq
          by_cases e : knd T of m = 0
          · rw [nst_new e] at hq ⊢
            dsimp only at hq ⊢
            split
            · omega
            · have := ih q (by unfold rk at *; omega)
              unfold nos
              omega
          · rw [nst_old e] at hq ⊢
            have := ih q hq
            omega
      exact this m
    have ek : kd (fun q => T ((nst T of m).2 q)) (nst T of m).1 (T m) = kd (fun q => T' ((nst T' of' m).2 q)) (nst T' of' m).1 (T' m) := by
      rw [← ih, ← h2.1]
      have eb : beh (fun q => T ((nst T of m).2 q)) (nst T of m).1 (T m) = beh (fun q => T' ((nst T of m).2 q)) (nst T of m).1 (T m) := by
        funext i
        unfold beh
        by_cases z : i < (nst T of m).1
        · rw [if_pos z, if_pos z]; exact (h ((nst T of m).2 i) (by have := lt i z; omega)).1
        · rw [if_neg z, if_neg z]
      unfold kd
      rw [eb]
    show (if of m = true then _ else _) = (if of' m = true then _ else _)
    rw [ek, ih, h2.2]
theorem nos_lt (T : Nat → Nat → Int) (of : Off) : ∀ m q, q < rk T of m → nos T of m q < m
  | 0, q, hq => absurd hq (Nat.not_lt_zero q)
  | m + 1, q, hq => by
    by_cases e : knd T of m = 0
    · rw [rk_new e] at hq
      rw [nos_new e]
      split
      · omega
      · have := nos_lt T of m q (by omega); omega
    · rw [rk_old e] at hq
      rw [nos_old e]
      have := nos_lt T of m q hq; omega
theorem nos_inc (T : Nat → Nat → Int) (of : Off) : ∀ m p q, p < q → q < rk T of m → nos T of m p < nos T of m q
  | 0, p, q, _, hq => absurd hq (Nat.not_lt_zero q)
  | m + 1, p, q, hpq, hq => by
    by_cases e : knd T of m = 0
    · rw [rk_new e] at hq
      rw [nos_new e, nos_new e, if_neg (show p ≠ rk T of m by omega)]
      by_cases e2 : q = rk T of m
      · rw [if_pos e2]
        exact nos_lt T of m p (by omega)
      · rw [if_neg e2]
        exact nos_inc T of m p q hpq (by omega)
    · rw [rk_old e] at hq
      rw [nos_old e]
      exact nos_inc T of m p q hpq hq
theorem nos_mono (T : Nat → Nat → Int) (of : Off) : ∀ m k q, q < rk T of m → nos T of (m + k) q = nos T of m q ∧ q < rk T of (m + k)
  | m, 0, q, hq => ⟨rfl, hq⟩
  | m, k + 1, q, hq => by
    obtain ⟨h1, h2⟩ := nos_mono T of m k q hq
    show nos T of (m + k + 1) q = _ ∧ q < rk T of (m + k + 1)
    by_cases e : knd T of (m + k) = 0
    · rw [nos_new e, if_neg (by omega), rk_new e]
      exact ⟨h1, by omega⟩
    · rw [nos_old e, rk_old e]
      exact ⟨h1, h2⟩
theorem kd_ind {a : Nat → Nat → Int} {r : Nat} {t : Nat → Int} (h : kd a r t = 0) : ind 16 (r + 1) (beh a r t) := by
  by_cases e : ind 16 (r + 1) (beh a r t)
  · exact e
  · by_cases e2 : ind 17 (r + 1) (beh a r t)
    · rw [kd_2 e e2] at h; omega
    · rw [kd_1 e e2] at h; omega
theorem knd_0 {T : Nat → Nat → Int} {of : Off} {m : Nat} (h : knd T of m = 0) : of m = false ∧ ind 16 (rk T of m + 1) (beh (am T of m) (rk T of m) (T m)) := by
  unfold knd at h
  by_cases e : of m = true
  · rw [if_pos e] at h; omega
  · rw [if_neg e] at h
    exact ⟨by simpa using e, kd_ind h⟩
/-- the new ones are free -/
theorem am_ind (T : Nat → Nat → Int) (of : Off) : ∀ m, ind 16 (rk T of m) (am T of m)
  | 0 => fun c _ i hi => absurd hi (Nat.not_lt_zero i)
  | m + 1 => by
    by_cases e : knd T of m = 0
    · rw [rk_new e]
      refine ind_congr (fun i hi c _ => ?_) (knd_0 e).2
      unfold beh am
      rw [nos_new e]
      by_cases z : i < rk T of m
      · rw [if_pos z, if_neg (by omega)]
      · rw [if_neg z, if_pos (by omega)]
    · have := am_ind T of m
      unfold am at this ⊢
      rw [rk_old e, nos_old e]
      exact this
theorem rk_16 (T : Nat → Nat → Int) (of : Off) (m : Nat) : rk T of m ≤ 16 := ind_dim 16 _ _ (am_ind T of m)
theorem rk_m (T : Nat → Nat → Int) (of : Off) : ∀ m, rk T of m ≤ m
  | 0 => Nat.le_refl 0
  | m + 1 => by
    have := rk_m T of m
    by_cases e : knd T of m = 0
    · rw [rk_new e]; omega
    · rw [rk_old e]; omega
theorem knd_le (T : Nat → Nat → Int) (of : Off) (m : Nat) : knd T of m ≤ 3 := by
  unfold knd
  split
  · omega
  · have := kd_le (am T of m) (rk T of m) (T m); omega
theorem knd_congr {T T' : Nat → Nat → Int} {of of' : Off} {m : Nat} (h : ∀ t, t < m + 1 → T t = T' t ∧ of t = of' t) : knd T of m = knd T' of' m := by
  have e := nst_congr m (fun t ht => h t (by omega))
  have lt := nos_lt T of m
  unfold knd am rk nos at *
  rw [← e, ← (h m (by omega)).1, ← (h m (by omega)).2]
  have eb : beh (fun q => T ((nst T of m).2 q)) (nst T of m).1 (T m) = beh (fun q => T' ((nst T of m).2 q)) (nst T of m).1 (T m) := by
    funext i
    unfold beh
    by_cases z : i < (nst T of m).1
    · rw [if_pos z, if_pos z]; exact (h ((nst T of m).2 i) (by have := lt i z; omega)).1
    · rw [if_neg z, if_neg z]
  unfold kd
  rw [eb]
