/-! loops -/
def fl {σ : Type} (f : Nat → σ → σ) : Nat → σ → σ
  | 0, s => s
  | n + 1, s => f n (fl f n s)
theorem RN.for {σ : Type} {mid : Nat} {R : MR} (S : Nat → σ → MS) (f : Nat → σ → σ) (Inv : Nat → σ → Prop) (n : Nat) (s0 : σ) (h0 : Inv 0 s0) (hs : ∀ i s, i < n → Inv i s → Inv (i + 1) (f i s) ∧ (RN mid (S (i + 1) (f i s)) R → RN mid (S i s) R)) (k : Inv n (fl f n s0) → RN mid (S n (fl f n s0)) R) : RN mid (S 0 s0) R := by
  have key : ∀ j, j ≤ n → Inv j (fl f j s0) ∧ (RN mid (S j (fl f j s0)) R → RN mid (S 0 s0) R) := by
    intro j
    induction j with
    | zero => exact fun _ => ⟨h0, fun z => z⟩
    | succ j ih =>
      intro hj
      obtain ⟨i1, i2⟩ := ih (by omega)
      obtain ⟨s1, s2⟩ := hs j _ (by omega) i1
      exact ⟨s1, fun z => i2 (s2 z)⟩
  obtain ⟨i1, i2⟩ := key n (Nat.le_refl _)
  exact i2 (k i1)
/-- a loop whose state behind i rounds is known -/
theorem RN.run {mid : Nat} {R : MR} (S : Nat → MS) (n : Nat) (hs : ∀ i, i < n → (RN mid (S (i + 1)) R → RN mid (S i) R)) (k : RN mid (S n) R) : RN mid (S 0) R := by
  have key : ∀ j, j ≤ n → (RN mid (S j) R → RN mid (S 0) R) := by
    intro j
    induction j with
    | zero => exact fun _ z => z
    | succ j ih => exact fun hj z => ih (by omega) (hs j (by omega) z)
  exact key n (Nat.le_refl _) k
/-- a loop that may end early -/
theorem RN.search {mid : Nat} {R : MR} (S : Nat → MS) (P : Nat → Prop) (n : Nat) (hx : ∀ i, i < n → P i → (∀ j, j < i → ¬ P j) → RN mid (S i) R) (hs : ∀ i, i < n → ¬ P i → RN mid (S (i + 1)) R → RN mid (S i) R) (k : (∀ j, j < n → ¬ P j) → RN mid (S n) R) : RN mid (S 0) R := by
  have key : ∀ d i, i + d = n → (∀ j, j < i → ¬ P j) → RN mid (S i) R := by
    intro d
    induction d with
    | zero =>
      intro i hi hp
      obtain rfl : i = n := by omega
      exact k hp
    | succ d ih =>
      intro i hi hp
      by_cases hP : P i
      · exact hx i (by omega) hP hp
      · refine hs i (by omega) hP (ih (i + 1) (by omega) (fun j hj => ?_))
        by_cases e : j = i
        · rw [e]; exact hP
        · exact hp j (by omega)
  exact key n 0 (by omega) (fun j hj => absurd hj (Nat.not_lt_zero j))
theorem mm_row_up {α : Type} (f : Nat → Nat → α) (a k : Nat) (g : Nat → α) (v : α) : mm_up (mm_row f a g) a k v = mm_row f a (fun j => if j = k then v else g j) := by
  funext b j
  unfold mm_up mm_row
  by_cases h : b = a
  · simp [h]
  · simp [h]
theorem mm_row_self {α : Type} (f : Nat → Nat → α) (a : Nat) : mm_row f a (f a) = f := by
  funext b j
  unfold mm_row
  split
  · rename_i h; rw [h]
  · rfl
theorem mm_up_row {α : Type} (f : Nat → Nat → α) (a k : Nat) (v : α) : mm_up f a k v = mm_row f a (fun j => if j = k then v else f a j) := by
  have := mm_row_up f a k (f a) v
  rw [mm_row_self] at this
  exact this
theorem mm_row_row {α : Type} (f : Nat → Nat → α) (a : Nat) (g g' : Nat → α) : mm_row (mm_row f a g) a g' = mm_row f a g' := by
  funext b j
  unfold mm_row
  split <;> rfl
theorem mm_row_congr {α : Type} {f : Nat → Nat → α} {a : Nat} {g g' : Nat → α} (h : ∀ j, g j = g' j) : mm_row f a g = mm_row f a g' := by
  rw [show g = g' from funext h]
theorem mm_row_at {α : Type} (f : Nat → Nat → α) (a : Nat) (g : Nat → α) (j : Nat) : mm_row f a g a j = g j := if_pos rfl
theorem mm_row_off {α : Type} (f : Nat → Nat → α) {a c : Nat} (g : Nat → α) (j : Nat) (h : c ≠ a) : mm_row f a g c j = f c j := if_neg h
