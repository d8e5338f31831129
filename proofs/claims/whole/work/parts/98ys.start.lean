/-! the heap behind the constructors -/
def lgA : List Op := moL ++ ((0, 8, 0, 0) :: (dtL ++ [(0, 7, 0, 0)]))
theorem cna_A : cna lgA = 227 := by decide +kernel
theorem kz_far {f : Nat → Nat} {n a : Nat} : ∀ l, n + cna l ≤ a → kz f n l a = f a
  | [], _ => rfl
  | (c, x, y, d) :: l, h => by
    have h' : n + (cna l + cnt (c, x, y, d)) ≤ a := h
    have i := kz_far (f := f) (n := n) (a := a) l (by omega)
    match c with
    | 0 =>
      have : cnt (0, x, y, d) = 1 := rfl
      exact (if_neg (by omega)).trans i
    | 1 => exact i
    | 2 => exact i
    | 3 => exact i
    | 4 =>
      have : cnt (4, x, y, d) = d := rfl
      exact (if_neg (by omega)).trans i
    | c + 5 => exact i
theorem lz_far {f : Nat → Nat} {n a : Nat} : ∀ l, n + cna l ≤ a → lz f n l a = f a
  | [], _ => rfl
  | (c, x, y, d) :: l, h => by
    have h' : n + (cna l + cnt (c, x, y, d)) ≤ a := h
    have i := lz_far (f := f) (n := n) (a := a) l (by omega)
    match c with
    | 0 =>
      have : cnt (0, x, y, d) = 1 := rfl
      exact (if_neg (by omega)).trans i
    | 1 => exact i
    | 2 => exact i
    | 3 => exact i
    | 4 =>
      have : cnt (4, x, y, d) = d := rfl
      exact (if_neg (by omega)).trans i
    | c + 5 => exact i
/-- where ints, longs, references are written -/
def wr (t : Nat) : List Op → List Nat
  | [] => []
  | (c, b, _, _) :: l => if (c = t ∨ (5 ≤ c ∧ t = 1)) then b :: wr t l else wr t l
theorem qz_0 {n a j : Nat} : ∀ l, (∀ b, b ∈ wr 1 l → b ≠ a) → qz (fun _ _ => none) n l a j = none
  | [], _ => rfl
  | (c, x, y, d) :: l, h => by
    match c with
    | 0 =>
      have i := qz_0 (n := n) (a := a) (j := j) l h
      show (if a = n + cna l then none else qz _ n l a j) = none
      rw [i]; split <;> rfl
    | 1 =>
      have i := qz_0 (n := n) (a := a) (j := j) l (fun b hb => h b (List.mem_cons_of_mem _ hb))
      have hx : x ≠ a := h x List.mem_cons_self
      exact (if_neg (fun z => hx z.1.symm)).trans i
    | 2 => exact qz_0 l h
    | 3 => exact qz_0 l h
    | 4 =>
      have i := qz_0 (n := n) (a := a) (j := j) l h
      show (if inr a (n + cna l) d then none else qz _ n l a j) = none
      rw [i]; split <;> rfl
    | c + 5 =>
      have e : wr 1 ((c + 5, x, y, d) :: l) = x :: wr 1 l := if_pos (Or.inr ⟨by omega, rfl⟩)
      rw [e] at h
      have i := qz_0 (n := n) (a := a) (j := j) l (fun b hb => h b (List.mem_cons_of_mem _ hb))
      have hx : x ≠ a := h x List.mem_cons_self
      exact (if_neg (fun z => hx z.symm)).trans i
/-! one place, read off the list in one go -/
abbrev SZ : Type := Nat × Nat × Nat × List (Nat × Nat) × List (Nat × Nat) × List (Nat × Nat)
def fil (c : Nat) : Nat → List (Nat × Nat)
  | 0 => []
  | m + 1 => (m, c + m) :: fil c m
theorem lk_fil (c j : Nat) : ∀ m, mm_lk (fil c m) j = if j < m then some (c + j) else none
  | 0 => (if_neg (Nat.not_lt_zero j)).symm
  | m + 1 => by
    have i := lk_fil c j m
    show (bif Nat.beq m j then some (c + m) else mm_lk (fil c m) j) = _
    cases e : Nat.beq m j
    · have ne : m ≠ j := Nat.ne_of_beq_eq_false e
      show mm_lk (fil c m) j = _
      rw [i]
      by_cases g : j < m
      · rw [if_pos g, if_pos (by omega)]
      · rw [if_neg g, if_neg (by omega)]
    · have ee : m = j := Nat.eq_of_beq_eq_true e
      rw [if_pos (by omega), ee]
      rfl
def so (a : Nat) (o : Op) (s : SZ) : SZ := match o, s with
  | (0, x, y, _), (p, k, l, R, I, J) => bif Nat.beq a p then (p + 1, x, y, [], [], []) else (p + 1, k, l, R, I, J)
  | (1, b, f, q), (p, k, l, R, I, J) => bif Nat.beq a b then (p, k, l, (f, q) :: R, I, J) else (p, k, l, R, I, J)
  | (2, b, f, q), (p, k, l, R, I, J) => bif Nat.beq a b then (p, k, l, R, (f, q) :: I, J) else (p, k, l, R, I, J)
  | (3, b, f, q), (p, k, l, R, I, J) => bif Nat.beq a b then (p, k, l, R, I, (f, q) :: J) else (p, k, l, R, I, J)
  | (4, x, y, m), (p, k, l, R, I, J) => bif (Nat.ble p a && Nat.blt a (p + m)) then (p + m, x, y, [], [], []) else (p + m, k, l, R, I, J)
  | (_, b, m, c), (p, k, l, R, I, J) => bif Nat.beq a b then (p, k, l, fil c m, I, J) else (p, k, l, R, I, J)
def sz (a n k l : Nat) : List Op → SZ
  | [] => (n, k, l, [], [], [])
  | o :: r => so a o (sz a n k l r)
def gR (o : Option Nat) : Option Nat := o
def gI (o : Option Nat) : Int32 := match o with
  | none => 0
  | some v => nI v
def gJ (o : Option Nat) : Int64 := match o with
  | none => 0
  | some v => zJ v
def sR (h : MH) (a : Nat) (s : SZ) : Prop := hN h = s.1 ∧ hK h a = s.2.1 ∧ hL h a = s.2.2.1 ∧ (∀ j, hR h a j = gR (mm_lk s.2.2.2.1 j)) ∧ (∀ j, hI h a j = gI (mm_lk s.2.2.2.2.1 j)) ∧ ∀ j, hJ h a j = gJ (mm_lk s.2.2.2.2.2 j)
theorem up_lk {α : Type} {f : Nat → Nat → α} {g : Option Nat → α} {a y d : Nat} {R : List (Nat × Nat)} (h : ∀ j, f a j = g (mm_lk R j)) (j : Nat) : mm_up f a y (g (some d)) a j = g (mm_lk ((y, d) :: R) j) := by
  show (if a = a ∧ j = y then g (some d) else f a j) = g (bif Nat.beq y j then some d else mm_lk R j)
  cases e : Nat.beq y j
  · rw [if_neg (fun z => Nat.ne_of_beq_eq_false e z.2.symm)]; exact h j
  · rw [if_pos ⟨rfl, (Nat.eq_of_beq_eq_true e).symm⟩]; rfl
theorem up_no {α : Type} {f : Nat → Nat → α} {a b y : Nat} {v : α} (h : a ≠ b) (j : Nat) : mm_up f b y v a j = f a j := if_neg (fun z => h z.1)
theorem so_ok {h : MH} {a : Nat} {s : SZ} (hs : sR h a s) (o : Op) : sR (hop h o) a (so a o s) := by
  obtain ⟨c, x, y, d⟩ := o
  obtain ⟨p, k, l, R, I, J⟩ := s
  obtain ⟨h1, h2, h3, h4, h5, h6⟩ := hs
  dsimp only at h1 h2 h3 h4 h5 h6
  match c with
  | 0 =>
    show sR (mm_mk h x y) a (bif Nat.beq a p then (p + 1, x, y, [], [], []) else (p + 1, k, l, R, I, J))
    cases e : Nat.beq a p
    · have e' : a ≠ hN h := by rw [h1]; exact Nat.ne_of_beq_eq_false e
      exact ⟨congrArg (· + 1) h1, (if_neg e').trans h2, (if_neg e').trans h3, fun j => (if_neg e').trans (h4 j), fun j => (if_neg e').trans (h5 j), fun j => (if_neg e').trans (h6 j)⟩
    · have e' : a = hN h := by rw [h1]; exact Nat.eq_of_beq_eq_true e
      exact ⟨congrArg (· + 1) h1, if_pos e', if_pos e', fun j => if_pos e', fun j => if_pos e', fun j => if_pos e'⟩
  | 1 =>
    show sR (putR h x y (some d)) a (bif Nat.beq a x then (p, k, l, (y, d) :: R, I, J) else (p, k, l, R, I, J))
    cases e : Nat.beq a x
    · exact ⟨h1, h2, h3, fun j => (up_no (Nat.ne_of_beq_eq_false e) j).trans (h4 j), h5, h6⟩
    · obtain rfl : a = x := Nat.eq_of_beq_eq_true e
      exact ⟨h1, h2, h3, fun j => up_lk (g := gR) h4 j, h5, h6⟩
  | 2 =>
    show sR (putI h x y (nI d)) a (bif Nat.beq a x then (p, k, l, R, (y, d) :: I, J) else (p, k, l, R, I, J))
    cases e : Nat.beq a x
    · exact ⟨h1, h2, h3, h4, fun j => (up_no (Nat.ne_of_beq_eq_false e) j).trans (h5 j), h6⟩
    · obtain rfl : a = x := Nat.eq_of_beq_eq_true e
      exact ⟨h1, h2, h3, h4, fun j => up_lk (g := gI) h5 j, h6⟩
  | 3 =>
    show sR (putJ h x y (zJ d)) a (bif Nat.beq a x then (p, k, l, R, I, (y, d) :: J) else (p, k, l, R, I, J))
    cases e : Nat.beq a x
    · exact ⟨h1, h2, h3, h4, h5, fun j => (up_no (Nat.ne_of_beq_eq_false e) j).trans (h6 j)⟩
    · obtain rfl : a = x := Nat.eq_of_beq_eq_true e
      exact ⟨h1, h2, h3, h4, h5, fun j => up_lk (g := gJ) h6 j⟩
  | 4 =>
    have m0 := mks_N h x y d
    have mz := fun j => mks_z h x y a j d
    show sR (mm_mks h x y d) a (bif (Nat.ble p a && Nat.blt a (p + d)) then (p + d, x, y, [], [], []) else (p + d, k, l, R, I, J))
    cases e : (Nat.ble p a && Nat.blt a (p + d))
    · have e' : ¬ inr a (hN h) d := by
        intro z
        rw [h1] at z
        have z1 : Nat.ble p a = true := Nat.ble_eq_true_of_le z.1
        have z2 : Nat.blt a (p + d) = true := Nat.ble_eq_true_of_le z.2
        rw [z1, z2] at e
        cases e
      exact ⟨m0.trans (congrArg (· + d) h1), ((mz 0).1.trans (if_neg e')).trans h2, ((mz 0).2.1.trans (if_neg e')).trans h3, fun j => ((mz j).2.2.2.2.trans (if_neg e')).trans (h4 j), fun j => ((mz j).2.2.1.trans (if_neg e')).trans (h5 j), fun j => ((mz j).2.2.2.1.trans (if_neg e')).trans (h6 j)⟩
    · have e2 := (Bool.and_eq_true _ _ ▸ e)
      have e' : inr a (hN h) d := by
        rw [h1]
        exact ⟨Nat.le_of_ble_eq_true e2.1, Nat.le_of_ble_eq_true e2.2⟩
      exact ⟨m0.trans (congrArg (· + d) h1), (mz 0).1.trans (if_pos e'), (mz 0).2.1.trans (if_pos e'), fun j => (mz j).2.2.2.2.trans (if_pos e'), fun j => (mz j).2.2.1.trans (if_pos e'), fun j => (mz j).2.2.2.1.trans (if_pos e')⟩
  | c + 5 =>
    show sR (hI h, hJ h, mm_row (hR h) x (fun j => if j < y then some (d + j) else none), hK h, hL h, hN h) a (bif Nat.beq a x then (p, k, l, fil d y, I, J) else (p, k, l, R, I, J))
    cases e : Nat.beq a x
    · exact ⟨h1, h2, h3, fun j => (if_neg (Nat.ne_of_beq_eq_false e)).trans (h4 j), h5, h6⟩
    · have e' : a = x := Nat.eq_of_beq_eq_true e
      exact ⟨h1, h2, h3, fun j => (if_pos e').trans (lk_fil d j y).symm, h5, h6⟩
theorem sz_ok {h : MH} {a n k l : Nat} (h1 : hN h = n) (h2 : hK h a = k) (h3 : hL h a = l) (h4 : ∀ j, hR h a j = none) (h5 : ∀ j, hI h a j = 0) (h6 : ∀ j, hJ h a j = 0) : ∀ r, sR (hg h r) a (sz a n k l r)
  | [] => ⟨h1, h2, h3, h4, h5, h6⟩
  | o :: r => so_ok (sz_ok h1 h2 h3 h4 h5 h6 r) o
abbrev w0 : Nat → Nat := fun k => 114 + k
def hqR (a : Nat) : List (Option Nat) := bif Nat.beq a 113 then (List.range 17).map (fun j => some (114 + j)) else hp_r.getD a []
def oeq (x y : Option Nat) : Bool := match x, y with
  | none, none => true
  | some a, some b => Nat.beq a b
  | _, _ => false
def rok (R : List (Nat × Nat)) (r : List (Option Nat)) : Bool := (R.isEmpty && r.isEmpty) || (R.all (fun q => Nat.blt q.1 40) && (Nat.ble r.length 40 && (List.range 40).all (fun j => oeq (mm_lk R j) (r.getD j none))))
def ckI (a : Nat) : Bool := Nat.beq a 219 || (Nat.beq a 16 || (Nat.beq a 36 || Nat.beq a 56))
def ckJ (a : Nat) : Bool := Nat.beq a 227 || (Nat.beq a 136 || (Nat.beq a 16 || (Nat.beq a 36 || Nat.beq a 56)))
def cka (a : Nat) : Bool := match sz a 2 99 0 lgA with
  | (p, k, l, R, I, J) => Nat.beq p 229 && (Nat.beq k (hp_k.getD a 99) && (Nat.beq l (hp_l.getD a 0) && (rok R (hqR a) && ((I.isEmpty || ckI a) && (J.isEmpty || ckJ a)))))
theorem ck_1 : ((List.range 46).all fun i => cka (i + 2)) = true := by decide +kernel
theorem ck_2 : ((List.range 60).all fun i => cka (i + 48)) = true := by decide +kernel
theorem ck_3 : ((List.range 60).all fun i => cka (i + 108)) = true := by decide +kernel
theorem ck_4 : ((List.range 61).all fun i => cka (i + 168)) = true := by decide +kernel
theorem ck_w1 : ((wr 1 lgA).all fun b => Nat.blt b 229 && Nat.ble 2 b) = true := by decide +kernel
theorem ck_w3 : ((wr 3 lgA).all fun b => Nat.ble 2 b) = true := by decide +kernel
theorem getD_far {α : Type} (l : List α) (n : Nat) (d : α) (h : l.length ≤ n) : l.getD n d = d := by
  rw [List.getD_eq_getElem?_getD, List.getElem?_eq_none h]
  rfl
theorem oeq_eq {x y : Option Nat} (h : oeq x y = true) : x = y := by
  match x, y with
  | none, none => rfl
  | some a, some b => exact congrArg some (Nat.eq_of_beq_eq_true h)
  | none, some b => cases h
  | some a, none => cases h
theorem lk_far {j : Nat} (hj : 40 ≤ j) : ∀ R : List (Nat × Nat), R.all (fun q => Nat.blt q.1 40) = true → mm_lk R j = none
  | [], _ => rfl
  | (k, v) :: R, h => by
    have h2 := (Bool.and_eq_true _ _ ▸ (show (Nat.blt k 40 && R.all (fun q => Nat.blt q.1 40)) = true from h))
    have h3 : k + 1 ≤ 40 := Nat.le_of_ble_eq_true h2.1
    show (bif Nat.beq k j then some v else mm_lk R j) = none
    cases e : Nat.beq k j
    · exact lk_far hj R h2.2
    · have : k = j := Nat.eq_of_beq_eq_true e
      omega
theorem rok_ok {R : List (Nat × Nat)} {r : List (Option Nat)} (h : rok R r = true) (j : Nat) : mm_lk R j = r.getD j none := by
  unfold rok at h
  rcases (Bool.or_eq_true _ _ ▸ h) with h | h
  · have h2 := (Bool.and_eq_true _ _ ▸ h)
    rw [List.isEmpty_iff.mp h2.1, List.isEmpty_iff.mp h2.2]
    rfl
  · have h2 := (Bool.and_eq_true _ _ ▸ h)
    have h3 := (Bool.and_eq_true _ _ ▸ h2.2)
    by_cases g : j < 40
    · exact oeq_eq (List.all_eq_true.mp h3.2 j (List.mem_range.mpr g))
    · rw [lk_far (by omega) R h2.1, getD_far r j none (by have := Nat.le_of_ble_eq_true h3.1; omega)]
theorem hq_113 : ∀ k, k < 17 → (hqR 113).getD k none = some (114 + k) := by decide
theorem hq_RR (a k : Nat) : (hqR a).getD k none = RR w0 a k := by
  unfold RR
  by_cases e : a = 113
  · subst e
    rw [if_pos rfl]
    by_cases g : k < 17
    · rw [if_pos g]; exact hq_113 k g
    · rw [if_neg g]; exact getD_far _ _ _ (show 17 ≤ k by omega)
  · rw [if_neg e]
    unfold hqR
    cases e2 : Nat.beq a 113
    · rfl
    · exact absurd (Nat.eq_of_beq_eq_true e2) e
theorem cka_all {a : Nat} (h2 : 2 ≤ a) (ha : a < 229) : cka a = true := by
  by_cases c1 : a < 48
  · have : cka (a - 2 + 2) = true := List.all_eq_true.mp ck_1 (a - 2) (List.mem_range.mpr (by omega))
    rwa [Nat.sub_add_cancel h2] at this
  by_cases c2 : a < 108
  · have : cka (a - 48 + 48) = true := List.all_eq_true.mp ck_2 (a - 48) (List.mem_range.mpr (by omega))
    rwa [Nat.sub_add_cancel (by omega)] at this
  by_cases c3 : a < 168
  · have : cka (a - 108 + 108) = true := List.all_eq_true.mp ck_3 (a - 108) (List.mem_range.mpr (by omega))
    rwa [Nat.sub_add_cancel (by omega)] at this
  · have : cka (a - 168 + 168) = true := List.all_eq_true.mp ck_4 (a - 168) (List.mem_range.mpr (by omega))
    rwa [Nat.sub_add_cancel (by omega)] at this
/-- the heap behind the constructors -/
abbrev h1A (L : Nat) (xs : Nat → Int32) : MH := hg (mm_h0 L xs) lgA
theorem h1_sR (L : Nat) (xs : Nat → Int32) {a : Nat} (h2 : 2 ≤ a) : sR (h1A L xs) a (sz a 2 99 0 lgA) := by
  have e0 : a ≠ 0 := by omega
  have e1 : a ≠ 1 := by omega
  exact sz_ok (h := mm_h0 L xs) (a := a) rfl ((if_neg e0).trans (if_neg e1)) ((if_neg e0).trans (if_neg e1)) (fun j => rfl) (fun j => if_neg e0) (fun j => if_neg e1) lgA
theorem h1_at (L : Nat) (xs : Nat → Int32) {a : Nat} (h2 : 2 ≤ a) (ha : a < 229) : hK (h1A L xs) a = hp_k.getD a 99 ∧ hL (h1A L xs) a = hp_l.getD a 0 ∧ (∀ j, hR (h1A L xs) a j = RR w0 a j) ∧ (ckI a = false → ∀ j, hI (h1A L xs) a j = 0) ∧ (ckJ a = false → ∀ j, hJ (h1A L xs) a j = 0) := by
  have s := h1_sR L xs h2
  have c := cka_all h2 ha
  unfold cka at c
  generalize h1A L xs = h at s
  generalize sz a 2 99 0 lgA = q at s c
  obtain ⟨p, k, l, R, I, J⟩ := q
  obtain ⟨s1, s2, s3, s4, s5, s6⟩ := s
  dsimp only at c s1 s2 s3 s4 s5 s6
  simp only [Bool.and_eq_true, Bool.or_eq_true] at c
  obtain ⟨c1, c2, c3, c4, c5, c6⟩ := c
  refine ⟨s2.trans (Nat.eq_of_beq_eq_true c2), s3.trans (Nat.eq_of_beq_eq_true c3), fun j => (s4 j).trans ((rok_ok c4 j).trans (hq_RR a j)), fun e j => ?_, fun e j => ?_⟩
  · rcases c5 with c5 | c5
    · rw [s5 j, List.isEmpty_iff.mp c5]; rfl
    · rw [e] at c5; cases c5
  · rcases c6 with c6 | c6
    · rw [s6 j, List.isEmpty_iff.mp c6]; rfl
    · rw [e] at c6; cases c6
theorem h1_R (L : Nat) (xs : Nat → Int32) {a : Nat} (h2 : a < 2 ∨ 229 ≤ a) (j : Nat) : hR (h1A L xs) a j = none := hR_z rfl lgA a j (qz_0 lgA (fun b hb => by
  have := List.all_eq_true.mp ck_w1 b hb
  have t := (Bool.and_eq_true _ _ ▸ this)
  have t1 : b + 1 ≤ 229 := Nat.le_of_ble_eq_true t.1
  have t2 : 2 ≤ b := Nat.le_of_ble_eq_true t.2
  omega))
theorem hg_J1 {h : MH} {a : Nat} (ha : a < hN h) (j : Nat) : ∀ l, (∀ b, b ∈ wr 3 l → b ≠ a) → hJ (hg h l) a j = hJ h a j
  | [], _ => rfl
  | (c, x, y, d) :: l, hw => by
    have en := hg_N h l
    match c with
    | 0 => exact (if_neg (show ¬ a = hN (hg h l) by omega)).trans (hg_J1 ha j l hw)
    | 1 => exact hg_J1 ha j l hw
    | 2 => exact hg_J1 ha j l hw
    | 3 => exact (up_no (fun z => hw x List.mem_cons_self z.symm) j).trans (hg_J1 ha j l (fun b hb => hw b (List.mem_cons_of_mem _ hb)))
    | 4 => exact ((mks_z (hg h l) x y a j d).2.2.2.1.trans (if_neg (show ¬ inr a (hN (hg h l)) d by omega))).trans (hg_J1 ha j l hw)
    | c + 5 =>
      have e : wr 3 ((c + 5, x, y, d) :: l) = wr 3 l := if_neg (by omega)
      rw [e] at hw
      exact hg_J1 ha j l hw
theorem h1_J1 (L : Nat) (xs : Nat → Int32) (j : Nat) : hJ (h1A L xs) 1 j = mm_ps j := hg_J1 (h := mm_h0 L xs) (show 1 < 2 by decide) j lgA (fun b hb => by
  have := List.all_eq_true.mp ck_w3 b hb
  have t2 : 2 ≤ b := Nat.le_of_ble_eq_true this
  omega)
theorem mh_eq {h : MH} {R : Nat → Nat → Option Nat} {K M : Nat → Nat} {N : Nat} (e1 : hR h = R) (e2 : hK h = K) (e3 : hL h = M) (e4 : hN h = N) : h = (hI h, hJ h, R, K, M, N) := by
  subst e1 e2 e3 e4
  rfl
theorem h1_eq (L : Nat) (xs : Nat → Int32) : h1A L xs = hp L (hI (h1A L xs)) (hJ (h1A L xs)) w0 := by
  refine mh_eq (funext fun a => funext fun j => ?_) (funext fun a => ?_) (funext fun a => ?_) ?_
  · by_cases c : 2 ≤ a ∧ a < 229
    · exact (h1_at L xs c.1 c.2).2.2.1 j
    · rw [h1_R L xs (by omega) j]
      unfold RR
      rw [if_neg (by omega)]
      by_cases e : a < 2
      · rcases (show a = 0 ∨ a = 1 by omega) with rfl | rfl <;> rfl
      · rw [getD_far hp_r a [] (show 229 ≤ a by omega)]; rfl
  · by_cases c : 2 ≤ a ∧ a < 229
    · exact (h1_at L xs c.1 c.2).1
    · by_cases e : a < 2
      · rcases (show a = 0 ∨ a = 1 by omega) with rfl | rfl
        · exact (hg_K (h := mm_h0 L xs) (show 0 < 2 by decide) lgA).1
        · exact (hg_K (h := mm_h0 L xs) (show 1 < 2 by decide) lgA).1
      · unfold KK
        rw [getD_far hp_k a 99 (show 229 ≤ a by omega)]
        refine hK_z (h := mm_h0 L xs) rfl lgA a ((kz_far lgA (show 2 + cna lgA ≤ a by rw [cna_A]; omega)).trans ?_)
        exact (if_neg (by omega)).trans (if_neg (by omega))
  · by_cases c : 2 ≤ a ∧ a < 229
    · unfold LL
      rw [if_neg (by omega)]
      exact (h1_at L xs c.1 c.2).2.1
    · by_cases e : a < 2
      · rcases (show a = 0 ∨ a = 1 by omega) with rfl | rfl
        · exact (hg_K (h := mm_h0 L xs) (show 0 < 2 by decide) lgA).2
        · exact (hg_K (h := mm_h0 L xs) (show 1 < 2 by decide) lgA).2
      · unfold LL
        rw [if_neg (by omega), getD_far hp_l a 0 (show 229 ≤ a by omega)]
        refine hL_z (h := mm_h0 L xs) rfl lgA a ((lz_far lgA (show 2 + cna lgA ≤ a by rw [cna_A]; omega)).trans ?_)
        exact (if_neg (by omega)).trans (if_neg (by omega))
  · rw [hg_N, cna_A]; rfl
theorem sv_1 : (sz 219 2 99 0 lgA).2.2.2.2.1 = [(6, 1073741689), (5, 1073741717), (4, 1073741719), (3, 1073741723), (2, 1073741741), (1, 1073741783), (0, 1073741789)] := by decide +kernel
theorem sv_2 : (sz 16 2 99 0 lgA).2.2.2.2 = ([(4, 16)], [(0, 2147483647)]) := by decide +kernel
theorem sv_3 : (sz 36 2 99 0 lgA).2.2.2.2 = ([(4, 16)], [(0, 2147483629)]) := by decide +kernel
theorem sv_4 : (sz 56 2 99 0 lgA).2.2.2.2 = ([(4, 16)], [(0, 2147483587)]) := by decide +kernel
theorem sv_5 : (sz 227 2 99 0 lgA).2.2.2.2.2 = [(6, 1)] := by decide +kernel
theorem sv_6 : (sz 136 2 99 0 lgA).2.2.2.2.2 = [(0, 1)] := by decide +kernel
/-- what the constructors leave, in numbers -/
def Z0 (I : Nat → Nat → Int32) (J : Nat → Nat → Int64) : Prop := (∀ a, 2 ≤ a → a < 229 → ckI a = false → ∀ j, I a j = 0) ∧ (∀ a, 2 ≤ a → a < 229 → ckJ a = false → ∀ j, J a j = 0) ∧ (∀ i, i < 7 → I 219 i = nI (qn i)) ∧ (∀ i, i < 3 → I (ww i) 3 = 0 ∧ I (ww i) 4 = nI 16 ∧ J (ww i) 0 = zJ (pc i)) ∧ (∀ j, J 227 j = if j = 6 then zJ 1 else 0) ∧ (∀ j, J 136 j = if j = 0 then zJ 1 else 0) ∧ ∀ i, i < 6 → J 1 i = zJ (pc i)
theorem lk_one (k v j : Nat) : gJ (mm_lk [(k, v)] j) = if j = k then zJ v else 0 := by
  show gJ (bif Nat.beq k j then some v else none) = _
  cases e : Nat.beq k j
  · rw [if_neg (fun z => Nat.ne_of_beq_eq_false e z.symm)]; rfl
  · rw [if_pos (Nat.eq_of_beq_eq_true e).symm]; rfl
theorem h1_Z0 (L : Nat) (xs : Nat → Int32) : Z0 (hI (h1A L xs)) (hJ (h1A L xs)) := by
  refine ⟨fun a h2 ha => (h1_at L xs h2 ha).2.2.2.1, fun a h2 ha => (h1_at L xs h2 ha).2.2.2.2, fun i hi => ?_, fun i hi => ?_, fun j => ?_, fun j => ?_, fun i hi => ?_⟩
  · rw [(h1_sR L xs (a := 219) (by decide)).2.2.2.2.1 i, sv_1]
    rcases (show i = 0 ∨ i = 1 ∨ i = 2 ∨ i = 3 ∨ i = 4 ∨ i = 5 ∨ i = 6 by omega) with rfl | rfl | rfl | rfl | rfl | rfl | rfl <;> rfl
  · rcases (show i = 0 ∨ i = 1 ∨ i = 2 by omega) with rfl | rfl | rfl
    · have s := h1_sR L xs (a := 16) (by decide)
      have s5 := s.2.2.2.2.1
      have s6 := s.2.2.2.2.2
      rw [sv_2] at s5 s6
      exact ⟨s5 3, s5 4, s6 0⟩
    · have s := h1_sR L xs (a := 36) (by decide)
      have s5 := s.2.2.2.2.1
      have s6 := s.2.2.2.2.2
      rw [sv_3] at s5 s6
      exact ⟨s5 3, s5 4, s6 0⟩
    · have s := h1_sR L xs (a := 56) (by decide)
      have s5 := s.2.2.2.2.1
      have s6 := s.2.2.2.2.2
      rw [sv_4] at s5 s6
      exact ⟨s5 3, s5 4, s6 0⟩
  · rw [(h1_sR L xs (a := 227) (by decide)).2.2.2.2.2 j, sv_5]; exact lk_one 6 1 j
  · rw [(h1_sR L xs (a := 136) (by decide)).2.2.2.2.2 j, sv_6]; exact lk_one 0 1 j
  · rw [h1_J1]
    rcases (show i = 0 ∨ i = 1 ∨ i = 2 ∨ i = 3 ∨ i = 4 ∨ i = 5 by omega) with rfl | rfl | rfl | rfl | rfl | rfl <;> rfl
