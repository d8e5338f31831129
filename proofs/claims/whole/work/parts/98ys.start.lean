/-! the heap behind the constructors -/
def lgA : List Op := moL ++ ((0, 8, 0, 0) :: (dtL ++ [(0, 7, 0, 0)]))
theorem cna_A : cna lgA = 226 := by decide +kernel
theorem kz_far {f : Nat → Nat} {n a : Nat} : ∀ l, n + cna l ≤ a → kz f n l a = f a
  | [], _ => rfl
  | (c, x, y, d) :: l, h => by
    have h' : n + (cna l + cnt (c, x, y, d)) ≤ a := h
    have i := kz_far (f := f) (n := n) (a := a) l (by omega)
    match c with
    | 0 =>
      have : cnt (0, x, y, d) = 1 := rfl
      exact (if_neg (by omega)).trans i
    | 1 => exact i
    | 2 => exact i
    | 3 => exact i
    | 4 =>
      have : cnt (4, x, y, d) = d := rfl
      exact (if_neg (by omega)).trans i
    | c + 5 => exact i
theorem lz_far {f : Nat → Nat} {n a : Nat} : ∀ l, n + cna l ≤ a → lz f n l a = f a
  | [], _ => rfl
  | (c, x, y, d) :: l, h => by
    have h' : n + (cna l + cnt (c, x, y, d)) ≤ a := h
    have i := lz_far (f := f) (n := n) (a := a) l (by omega)
    match c with
    | 0 =>
      have : cnt (0, x, y, d) = 1 := rfl
      exact (if_neg (by omega)).trans i
    | 1 => exact i
    | 2 => exact i
    | 3 => exact i
    | 4 =>
      have : cnt (4, x, y, d) = d := rfl
      exact (if_neg (by omega)).trans i
    | c + 5 => exact i
/-- where ints, longs, references are written -/
def wr (t : Nat) : List Op → List Nat
  | [] => []
  | (c, b, _, _) :: l => if (c = t ∨ (5 ≤ c ∧ t = 1)) then b :: wr t l else wr t l
theorem iz_0 {n a j : Nat} : ∀ l, (∀ b, b ∈ wr 2 l → b ≠ a) → iz (fun _ _ => 0) n l a j = 0
  | [], _ => rfl
  | (c, x, y, d) :: l, h => by
    match c with
    | 0 =>
      have i := iz_0 (n := n) (a := a) (j := j) l h
      show (if a = n + cna l then 0 else iz _ n l a j) = 0
      rw [i]; split <;> rfl
    | 1 => exact iz_0 l h
    | 2 =>
      have i := iz_0 (n := n) (a := a) (j := j) l (fun b hb => h b (List.mem_cons_of_mem _ hb))
      have hx : x ≠ a := h x List.mem_cons_self
      exact (if_neg (fun z => hx z.1.symm)).trans i
    | 3 => exact iz_0 l h
    | 4 =>
      have i := iz_0 (n := n) (a := a) (j := j) l h
      show (if inr a (n + cna l) d then 0 else iz _ n l a j) = 0
      rw [i]; split <;> rfl
    | c + 5 =>
      have e : wr 2 ((c + 5, x, y, d) :: l) = wr 2 l := if_neg (by omega)
      rw [e] at h
      exact iz_0 l h
theorem jz_0 {n a j : Nat} : ∀ l, (∀ b, b ∈ wr 3 l → b ≠ a) → jz (fun _ _ => 0) n l a j = 0
  | [], _ => rfl
  | (c, x, y, d) :: l, h => by
    match c with
    | 0 =>
      have i := jz_0 (n := n) (a := a) (j := j) l h
      show (if a = n + cna l then 0 else jz _ n l a j) = 0
      rw [i]; split <;> rfl
    | 1 => exact jz_0 l h
    | 2 => exact jz_0 l h
    | 3 =>
      have i := jz_0 (n := n) (a := a) (j := j) l (fun b hb => h b (List.mem_cons_of_mem _ hb))
      have hx : x ≠ a := h x List.mem_cons_self
      exact (if_neg (fun z => hx z.1.symm)).trans i
    | 4 =>
      have i := jz_0 (n := n) (a := a) (j := j) l h
      show (if inr a (n + cna l) d then 0 else jz _ n l a j) = 0
      rw [i]; split <;> rfl
    | c + 5 =>
      have e : wr 3 ((c + 5, x, y, d) :: l) = wr 3 l := if_neg (by omega)
      rw [e] at h
      exact jz_0 l h
theorem qz_0 {n a j : Nat} : ∀ l, (∀ b, b ∈ wr 1 l → b ≠ a) → qz (fun _ _ => none) n l a j = none
  | [], _ => rfl
  | (c, x, y, d) :: l, h => by
    match c with
    | 0 =>
      have i := qz_0 (n := n) (a := a) (j := j) l h
      show (if a = n + cna l then none else qz _ n l a j) = none
      rw [i]; split <;> rfl
    | 1 =>
      have i := qz_0 (n := n) (a := a) (j := j) l (fun b hb => h b (List.mem_cons_of_mem _ hb))
      have hx : x ≠ a := h x List.mem_cons_self
      exact (if_neg (fun z => hx z.1.symm)).trans i
    | 2 => exact qz_0 l h
    | 3 => exact qz_0 l h
    | 4 =>
      have i := qz_0 (n := n) (a := a) (j := j) l h
      show (if inr a (n + cna l) d then none else qz _ n l a j) = none
      rw [i]; split <;> rfl
    | c + 5 =>
      have e : wr 1 ((c + 5, x, y, d) :: l) = x :: wr 1 l := if_pos (Or.inr ⟨by omega, rfl⟩)
      rw [e] at h
      have i := qz_0 (n := n) (a := a) (j := j) l (fun b hb => h b (List.mem_cons_of_mem _ hb))
      have hx : x ≠ a := h x List.mem_cons_self
      exact (if_neg (fun z => hx z.symm)).trans i
/-- no column beyond 40 -/
def okc : List Op → Bool
  | [] => true
  | (c, _, y, _) :: l => (if c = 1 then decide (y < 40) else if 5 ≤ c then decide (y ≤ 40) else true) && okc l
theorem qz_c {n a j : Nat} (hj : 40 ≤ j) : ∀ l, okc l = true → qz (fun _ _ => none) n l a j = none
  | [], _ => rfl
  | (c, x, y, d) :: l, h => by
    have h2 := (Bool.and_eq_true _ _ ▸ (show ((if c = 1 then decide (y < 40) else if 5 ≤ c then decide (y ≤ 40) else true) && okc l) = true from h))
    have i := qz_c (n := n) (a := a) hj l h2.2
    match c with
    | 0 =>
      show (if a = n + cna l then none else qz _ n l a j) = none
      rw [i]; split <;> rfl
    | 1 =>
      have h3 : y < 40 := of_decide_eq_true h2.1
      exact (if_neg (fun z => by omega)).trans i
    | 2 => exact i
    | 3 => exact i
    | 4 =>
      show (if inr a (n + cna l) d then none else qz _ n l a j) = none
      rw [i]; split <;> rfl
    | c + 5 =>
      have h3 : y ≤ 40 := by
        have := h2.1
        rw [if_neg (by omega), if_pos (by omega)] at this
        exact of_decide_eq_true this
      show (if a = x then (if j < y then some (d + j) else none) else qz _ n l a j) = none
      rw [i, if_neg (show ¬ j < y by omega)]
      split <;> rfl
abbrev w0 : Nat → Nat := fun k => 114 + k
theorem ck_K : ∀ a, a < 228 → kz (fun a => if a = 0 then 20 else if a = 1 then 21 else 99) 2 lgA a = KK a := by decide +kernel
theorem ck_L : ∀ a, a < 228 → lz (fun a => if a = 1 then 6 else 0) 2 lgA a = hp_l.getD a 0 := by decide +kernel
theorem ck_okc : okc lgA = true := by decide +kernel
theorem ck_R : ((List.range 228).all fun a => if (wr 1 lgA).elem a then (List.range 40).all (fun j => decide (qz (fun _ _ => none) 2 lgA a j = RR w0 a j)) else (decide (a ≠ 113) && decide (hp_r.getD a [] = []))) = true := by decide +kernel
theorem ck_w1 : ((wr 1 lgA).all fun b => Nat.blt b 228) = true := by decide +kernel
theorem ck_rl : ∀ a, a < 228 → (hp_r.getD a []).length ≤ 40 := by decide +kernel
theorem ck_w2 : ((wr 2 lgA).all fun b => Nat.beq b 218 || Nat.beq b 16 || Nat.beq b 36 || Nat.beq b 56) = true := by decide +kernel
theorem ck_w3 : ((wr 3 lgA).all fun b => Nat.beq b 226 || Nat.beq b 136 || Nat.beq b 16 || Nat.beq b 36 || Nat.beq b 56) = true := by decide +kernel
