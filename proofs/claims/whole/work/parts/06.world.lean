/-! THE WORLD OF A MINI-HEAP -/
def mm_A (base : Nat) : Nat → Prop := fun q => base ≤ q
def mm_tys (cy : Nat → ClassId) : List (ClassId × FieldType) := [(cy 9, .int), (cy 10, .long), (cy 11, .boolean), (cy 12, .object "DrawnTold$Sum"), (cy 13, .object "DrawnTold$Witness"), (cy 14, .array .int), (cy 15, .array .long)]
def mm_ce (cy : Nat → ClassId) (ad : Nat → Nat) (h : MH) (k : Nat) : va_E :=
  if hK h k ≤ 8 then .inr (hK h k, (List.range (mm_cN (hK h k))).map (fun f => mm_tv ad (mm_fv h k (hK h k) f)))
  else if hK h k = 9 ∨ hK h k = 11 then .inl (cy (hK h k), hL h k, .inl (hI h k))
  else if hK h k = 10 then .inl (cy (hK h k), hL h k, .inr (.inl (hJ h k)))
  else .inl (cy (hK h k), hL h k, .inr (.inr (.inr (.inr (fun j => (hR h k j).map ad)))))
def mm_wl (cy : Nat → ClassId) (base b t : Nat) (h : MH) : va_W := (List.range (hN h - 2)).map (fun j => (base + j, mm_ce cy (mm_ad base b t) h (j + 2)))
theorem mm_wl_at {cy : Nat → ClassId} {base b t : Nat} {h : MH} {j : Nat} (hj : j < hN h - 2) : (mm_wl cy base b t h)[j]? = some (base + j, mm_ce cy (mm_ad base b t) h (j + 2)) := by
  unfold mm_wl
  rw [List.getElem?_map, List.getElem?_range hj]
  rfl
theorem mm_wl_len {cy : Nat → ClassId} {base b t : Nat} {h : MH} : (mm_wl cy base b t h).length = hN h - 2 := by
  unfold mm_wl
  simp
theorem mm_wl_D {cy : Nat → ClassId} {base b t : Nat} {h : MH} : va_D (mm_A base) (mm_wl cy base b t h) := by
  have key : ∀ (i : Nat) (p : Nat × va_E), (mm_wl cy base b t h)[i]? = some p → p.1 = base + i := by
    intro i p hp
    obtain ⟨hi, -⟩ := List.getElem?_eq_some_iff.mp hp
    rw [mm_wl_len] at hi
    rw [mm_wl_at hi] at hp
    cases hp
    rfl
  refine ⟨fun i j p q hp hq e => ?_, fun k q hk => ?_⟩
  · rw [key i p hp, key j q hq] at e
    omega
  · rw [key k q hk]
    exact Nat.le_add_right _ _
/-- a world with one cell another -/
theorem mm_wl_set {cy : Nat → ClassId} {base b t : Nat} {h h' : MH} {j : Nat} {e : va_E} (hn : hN h' = hN h) (he : mm_ce cy (mm_ad base b t) h' (j + 2) = e) (ho : ∀ k, k ≠ j + 2 → mm_ce cy (mm_ad base b t) h' k = mm_ce cy (mm_ad base b t) h k) : (mm_wl cy base b t h).set j (base + j, e) = mm_wl cy base b t h' := by
  apply List.ext_getElem?
  intro i
  rw [List.getElem?_set]
  by_cases hij : j = i
  · subst hij
    rw [if_pos rfl]
    by_cases hl : j < (mm_wl cy base b t h).length
    · rw [if_pos hl, mm_wl_at (by rw [mm_wl_len] at hl; rw [hn]; exact hl), he]
    · rw [if_neg hl]
      symm
      rw [List.getElem?_eq_none_iff, mm_wl_len, hn]
      rw [mm_wl_len] at hl
      omega
  · rw [if_neg hij]
    by_cases hl : i < hN h - 2
    · rw [mm_wl_at hl, mm_wl_at (by rw [hn]; exact hl), ho (i + 2) (by omega)]
    · rw [List.getElem?_eq_none (by rw [mm_wl_len]; omega), List.getElem?_eq_none (by rw [mm_wl_len, hn]; omega)]
/-- the heap's part -/
def mm_H (D : va_G) (cy : Nat → ClassId) (base b t Ls : Nat) (xs : Nat → Int32) (ps : Nat → Int64) (h : MH) (H : Heap) : Prop :=
  (2 ≤ hN h ∧ H.size = base + (hN h - 2)) ∧ (hK h 0 = 20 ∧ hK h 1 = 21 ∧ (∀ a, hN h ≤ a → hK h a = 99) ∧ ∀ a, 2 ≤ a → a < hN h → hK h a ≤ 15) ∧ (hL h 0 = Ls ∧ hI h 0 = xs ∧ hL h 1 = 6 ∧ hJ h 1 = ps) ∧ va_P D mm_C (mm_wl cy base b t h) H
/-- the machine's part: classes, the script, PRIMES -/
def mm_X (D : va_G) (cy : Nat → ClassId) (base b t Ls : Nat) (xs : Nat → Int32) (ps : Nat → Int64) (U : State) : Prop :=
  (b < base ∧ base ≤ U.heap.size) ∧ va_K D mm_C (mm_tys cy) U ∧ va_X b Ls xs U U.heap ∧ va_Z "DrawnTold" "PRIMES" "[J" (.ref t) (mm_A base) U U.heap ∧ va_T .long t 6 (fun j => .long (ps j)) (mm_A base) U U.heap
theorem mm_X.moved {D : va_G} {cy : Nat → ClassId} {base b t Ls : Nat} {xs : Nat → Int32} {ps : Nat → Int64} {s U : State} {locs : List Loc} (h : mm_X D cy base b t Ls xs ps s) (hvm : s.vm.Alike U.vm) (hS : va_S (mm_A base) s.heap U.heap locs) : mm_X D cy base b t Ls xs ps U := by
  obtain ⟨⟨h1, h2⟩, h3, h4, h5, h6⟩ := h
  have hk : ∀ a : Nat, a < s.heap.size → ¬ mm_A base a → U.heap[a]? = s.heap[a]? := fun a ha hna => hS.2.1 a ha hna
  refine ⟨⟨h1, Nat.le_trans h2 hS.1⟩, va_K.moved hvm h3, (va_X.moved hvm h4).kept (hk b (by omega) (fun e => by unfold mm_A at e; omega)), (va_Z.moved hvm h5).kept hk, (va_T.moved hvm h6).kept hk⟩
/-- a known place of a kind is one of those that were made -/
theorem mm_H.mem {D : va_G} {cy : Nat → ClassId} {base b t Ls : Nat} {xs : Nat → Int32} {ps : Nat → Int64} {h : MH} {H : Heap} (hh : mm_H D cy base b t Ls xs ps h H) {a : Nat} (ha : hK h a ≤ 15) : 2 ≤ a ∧ a < hN h ∧ mm_ad base b t a = base + (a - 2) ∧ (mm_wl cy base b t h)[a - 2]? = some (mm_ad base b t a, mm_ce cy (mm_ad base b t) h a) := by
  obtain ⟨-, ⟨k0, k1, k2, -⟩, -, -⟩ := hh
  have h0 : a ≠ 0 := fun e => by subst e; omega
  have h1 : a ≠ 1 := fun e => by subst e; omega
  have h2 : a < hN h := Nat.lt_of_not_le (fun e => by have := k2 a e; omega)
  have e : mm_ad base b t a = base + (a - 2) := by unfold mm_ad; rw [if_neg h0, if_neg h1]
  refine ⟨by omega, h2, e, ?_⟩
  rw [mm_wl_at (by omega), e, show a - 2 + 2 = a by omega]
theorem mm_cN_le : ∀ ci, ci ≤ 8 → ∃ C T, mm_C[ci]? = some (C, T, mm_cN ci) := by
  intro ci h
  have : ci = 0 ∨ ci = 1 ∨ ci = 2 ∨ ci = 3 ∨ ci = 4 ∨ ci = 5 ∨ ci = 6 ∨ ci = 7 ∨ ci = 8 := by omega
  rcases this with rfl | rfl | rfl | rfl | rfl | rfl | rfl | rfl | rfl <;> exact ⟨_, _, rfl⟩
/-- writing an int -/
theorem mm_ce_putI {cy : Nat → ClassId} {ad : Nat → Nat} {h : MH} {a f : Nat} {x : Int32} {k : Nat} (hk : k ≠ a) : mm_ce cy ad (putI h a f x) k = mm_ce cy ad h k := by
  have e1 : ∀ j, mm_up (hI h) a f x k j = hI h k j := fun j => if_neg (fun e => hk e.1)
  have e2 : mm_up (hI h) a f x k = hI h k := funext e1
  have e3 : ∀ j, mm_fv (putI h a f x) k (hK h k) j = mm_fv h k (hK h k) j := by
    intro j
    unfold mm_fv
    split <;> first | rfl | exact congrArg Value.int (e1 j)
  unfold mm_ce
  show (if hK h k ≤ 8 then _ else if hK h k = 9 ∨ hK h k = 11 then Sum.inl (cy (hK h k), hL h k, Sum.inl (mm_up (hI h) a f x k)) else _) = _
  rw [e2]
  simp only [e3]
theorem mm_ce_putJ {cy : Nat → ClassId} {ad : Nat → Nat} {h : MH} {a f : Nat} {x : Int64} {k : Nat} (hk : k ≠ a) : mm_ce cy ad (putJ h a f x) k = mm_ce cy ad h k := by
  have e1 : ∀ j, mm_up (hJ h) a f x k j = hJ h k j := fun j => if_neg (fun e => hk e.1)
  have e2 : mm_up (hJ h) a f x k = hJ h k := funext e1
  have e3 : ∀ j, mm_fv (putJ h a f x) k (hK h k) j = mm_fv h k (hK h k) j := by
    intro j
    unfold mm_fv
    split <;> first | rfl | exact congrArg Value.long (e1 j)
  unfold mm_ce
  show (if hK h k ≤ 8 then _ else if hK h k = 9 ∨ hK h k = 11 then _ else if hK h k = 10 then Sum.inl (cy (hK h k), hL h k, Sum.inr (Sum.inl (mm_up (hJ h) a f x k))) else _) = _
  rw [e2]
  simp only [e3]
theorem mm_ce_putR {cy : Nat → ClassId} {ad : Nat → Nat} {h : MH} {a f : Nat} {x : Option Nat} {k : Nat} (hk : k ≠ a) : mm_ce cy ad (putR h a f x) k = mm_ce cy ad h k := by
  have e1 : ∀ j, mm_up (hR h) a f x k j = hR h k j := fun j => if_neg (fun e => hk e.1)
  have e3 : ∀ j, mm_fv (putR h a f x) k (hK h k) j = mm_fv h k (hK h k) j := by
    intro j
    unfold mm_fv
    split <;> first | rfl | exact congrArg mm_rv (e1 j)
  unfold mm_ce
  show (if hK h k ≤ 8 then _ else if hK h k = 9 ∨ hK h k = 11 then _ else if hK h k = 10 then _ else Sum.inl (cy (hK h k), hL h k, Sum.inr (Sum.inr (Sum.inr (Sum.inr (fun j => (mm_up (hR h) a f x k j).map ad)))))) = _
  simp only [e1, e3]
theorem mm_ce_rowJ {cy : Nat → ClassId} {ad : Nat → Nat} {h : MH} {a : Nat} {g : Nat → Int64} {k : Nat} (hk : k ≠ a) : mm_ce cy ad (rowJ h a g) k = mm_ce cy ad h k := by
  have e1 : ∀ j, mm_row (hJ h) a g k j = hJ h k j := fun j => if_neg hk
  have e2 : mm_row (hJ h) a g k = hJ h k := funext e1
  have e3 : ∀ j, mm_fv (rowJ h a g) k (hK h k) j = mm_fv h k (hK h k) j := by
    intro j
    unfold mm_fv
    split <;> first | rfl | exact congrArg Value.long (e1 j)
  unfold mm_ce
  show (if hK h k ≤ 8 then _ else if hK h k = 9 ∨ hK h k = 11 then _ else if hK h k = 10 then Sum.inl (cy (hK h k), hL h k, Sum.inr (Sum.inl (mm_row (hJ h) a g k))) else _) = _
  rw [e2]
  simp only [e3]
theorem mm_tv_rv (ad : Nat → Nat) (r : Option Nat) : mm_tv ad (mm_rv r) = va_rf (r.map ad) := by cases r <;> rfl
