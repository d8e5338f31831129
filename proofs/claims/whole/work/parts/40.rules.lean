/-! RUNS, BY RULES -/
def RN (mid : Nat) (x : MS) (R : MR) : Prop := ∃ n, mm_ex n mid x = some R
def EV (mid : Nat) (av : List Value) (h : MH) (r : Option Value) (h' : MH) : Prop := RN mid (0, mm_ent mid av, [], h, 0, 0) (r, h')
theorem mm_ex_succ : ∀ (n mid : Nat) (x : MS) (R : MR), mm_ex n mid x = some R → mm_ex (n + 1) mid x = some R
  | 0, _, _, _, h => by cases h
  | n + 1, mid, x, R, h => by
    rw [mm_ex] at h ⊢
    split at h
    · cases h
    · rename_i s' e
      exact mm_ex_succ n mid s' R h
    · rename_i r e
      exact h
    · rename_i m2 av s' e
      cases hb : Nat.ble (mm_slots av).length (mi_l (mm_of m2)) with
      | false => rw [hb] at h; cases h
      | true =>
        rw [hb] at h
        simp only [cond_true] at h ⊢
        split at h
        · cases h
        · rename_i v h' e2
          rw [mm_ex_succ n m2 _ _ e2]
          exact mm_ex_succ n mid _ R h
theorem mm_ex_mono {n k mid : Nat} {x : MS} {R : MR} (h : mm_ex n mid x = some R) : mm_ex (n + k) mid x = some R := by
  induction k with
  | zero => exact h
  | succ k ih => exact mm_ex_succ _ _ _ _ ih
theorem mm_ex_le {n k mid : Nat} {x : MS} {R : MR} (h : mm_ex n mid x = some R) (hk : n ≤ k) : mm_ex k mid x = some R := by
  obtain ⟨j, rfl⟩ : ∃ j, k = n + j := ⟨k - n, by omega⟩
  exact mm_ex_mono h
theorem RN.st {mid pc : Nat} {L : ML} {st : List Value} {h : MH} {cu su : Nat} {x' : MS} {R : MR} (e : mm_one mid pc L st h cu su = some (.inl x')) (k : RN mid x' R) : RN mid (pc, L, st, h, cu, su) R := by
  obtain ⟨n, hn⟩ := k
  refine ⟨n + 1, ?_⟩
  rw [mm_ex]
  dsimp only
  rw [e]
  exact hn
theorem RN.ret {mid pc : Nat} {L : ML} {st : List Value} {h : MH} {cu su : Nat} {R : MR} (e : mm_one mid pc L st h cu su = some (.inr (.inl R))) : RN mid (pc, L, st, h, cu, su) R := by
  refine ⟨1, ?_⟩
  rw [mm_ex]
  dsimp only
  rw [e]
theorem RN.call {mid pc : Nat} {L : ML} {st : List Value} {h : MH} {cu su m2 : Nat} {av : List Value} {x' : MS} {v : Option Value} {h2 : MH} {R : MR} (e : mm_one mid pc L st h cu su = some (.inr (.inr (m2, av, x')))) (hb : Nat.ble (mm_slots av).length (mi_l (mm_of m2)) = true) (hev : EV m2 av x'.2.2.2.1 v h2) (k : RN mid (x'.1, x'.2.1, v.toList ++ x'.2.2.1, h2, x'.2.2.2.2.1, x'.2.2.2.2.2) R) : RN mid (pc, L, st, h, cu, su) R := by
  obtain ⟨n, hn⟩ := k
  obtain ⟨n2, hn2⟩ := hev
  refine ⟨n + n2 + 1, ?_⟩
  rw [mm_ex]
  dsimp only
  rw [e]
  dsimp only
  rw [hb]
  simp only [cond_true]
  rw [mm_ex_le hn2 (by omega)]
  exact mm_ex_le hn (by omega)
theorem RN.br {mid pc : Nat} {L : ML} {st : List Value} {h : MH} {cu su : Nat} {c : Prop} [Decidable c] {a b : MS} {R : MR} (e : mm_one mid pc L st h cu su = if c then some (.inl a) else some (.inl b)) (k1 : c → RN mid a R) (k2 : ¬ c → RN mid b R) : RN mid (pc, L, st, h, cu, su) R := by
  by_cases hc : c
  · rw [if_pos hc] at e
    exact RN.st e (k1 hc)
  · rw [if_neg hc] at e
    exact RN.st e (k2 hc)
/-- a step that asks for something first -/
theorem RN.ok {mid pc : Nat} {L : ML} {st : List Value} {h : MH} {cu su : Nat} {c : Prop} [Decidable c] {a : MS} {R : MR} (hc : c) (e : mm_one mid pc L st h cu su = if c then some (.inl a) else none) (k : RN mid a R) : RN mid (pc, L, st, h, cu, su) R := by
  rw [if_pos hc] at e
  exact RN.st e k
def icP (c : ClassFile.Cond) (x y : Int32) : Prop := match c with
  | .eq => x = y
  | .ne => ¬ x = y
  | .lt => x < y
  | .ge => y ≤ x
  | .gt => y < x
  | .le => x ≤ y
theorem icP_iff {c : ClassFile.Cond} {x y : Int32} : mm_ic c x y = true ↔ icP c x y := by
  cases c <;> simp [mm_ic, icP]
section RULES
variable {mid pc : Nat} {L : ML} {st : List Value} {h : MH} {cu su : Nat} {R : MR}
theorem mm_one_of {i : Instr} {len tgt : Nat} (hf : mm_fet mid pc = some (i, len, tgt)) : mm_one mid pc L st h cu su = mm_stp mid i len tgt pc L st h cu su := by
  unfold mm_one
  rw [hf]
theorem RN.ict {c : ClassFile.Cond} {off : Int} {tgt : Nat} {x y : Int32} (hf : mm_fet mid pc = some (.if_icmp c off, 3, tgt)) (hc : icP c x y) (k : RN mid (tgt, L, st, h, cu, su) R) : RN mid (pc, L, .int y :: .int x :: st, h, cu, su) R := by
  refine RN.st ?_ k
  rw [mm_one_of hf]
  show (if mm_ic c x y = true then _ else _) = _
  rw [if_pos (icP_iff.mpr hc)]
  rfl
theorem RN.icf {c : ClassFile.Cond} {off : Int} {tgt : Nat} {x y : Int32} (hf : mm_fet mid pc = some (.if_icmp c off, 3, tgt)) (hc : ¬ icP c x y) (k : RN mid (pc + 3, L, st, h, cu, su) R) : RN mid (pc, L, .int y :: .int x :: st, h, cu, su) R := by
  refine RN.st ?_ k
  rw [mm_one_of hf]
  show (if mm_ic c x y = true then _ else _) = _
  rw [if_neg (fun z => hc (icP_iff.mp z))]
  rfl
theorem RN.ift {c : ClassFile.Cond} {off : Int} {tgt : Nat} {x : Int32} (hf : mm_fet mid pc = some (.ifCond c off, 3, tgt)) (hc : icP c x 0) (k : RN mid (tgt, L, st, h, cu, su) R) : RN mid (pc, L, .int x :: st, h, cu, su) R := by
  refine RN.st ?_ k
  rw [mm_one_of hf]
  show (if mm_ic c x 0 = true then _ else _) = _
  rw [if_pos (icP_iff.mpr hc)]
  rfl
theorem RN.iff {c : ClassFile.Cond} {off : Int} {tgt : Nat} {x : Int32} (hf : mm_fet mid pc = some (.ifCond c off, 3, tgt)) (hc : ¬ icP c x 0) (k : RN mid (pc + 3, L, st, h, cu, su) R) : RN mid (pc, L, .int x :: st, h, cu, su) R := by
  refine RN.st ?_ k
  rw [mm_one_of hf]
  show (if mm_ic c x 0 = true then _ else _) = _
  rw [if_neg (fun z => hc (icP_iff.mp z))]
  rfl
theorem RN.ic {c : ClassFile.Cond} {off : Int} {tgt : Nat} {x y : Int32} (hf : mm_fet mid pc = some (.if_icmp c off, 3, tgt)) (k1 : icP c x y → RN mid (tgt, L, st, h, cu, su) R) (k2 : ¬ icP c x y → RN mid (pc + 3, L, st, h, cu, su) R) : RN mid (pc, L, .int y :: .int x :: st, h, cu, su) R := by
  by_cases hc : icP c x y
  · exact RN.ict hf hc (k1 hc)
  · exact RN.icf hf hc (k2 hc)
theorem RN.i0 {c : ClassFile.Cond} {off : Int} {tgt : Nat} {x : Int32} (hf : mm_fet mid pc = some (.ifCond c off, 3, tgt)) (k1 : icP c x 0 → RN mid (tgt, L, st, h, cu, su) R) (k2 : ¬ icP c x 0 → RN mid (pc + 3, L, st, h, cu, su) R) : RN mid (pc, L, .int x :: st, h, cu, su) R := by
  by_cases hc : icP c x 0
  · exact RN.ift hf hc (k1 hc)
  · exact RN.iff hf hc (k2 hc)
theorem mm_in_nI {k n : Nat} (h : k < n) (hn : n < 2 ^ 31) : mm_in (nI k) n = true := mm_in_iff.mpr (vp_in_nI h hn)
theorem RN.iald {x : Int32} {a k : Nat} (hf : mm_fet mid pc = some (.iaload, 1, 0)) (hx : x = nI k) (hk : hK h a = 9 ∨ hK h a = 20) (hb : k < hL h a) (hl : Nat.ble (hL h a) 2560 = true) (kk : RN mid (pc + 1, L, .int (hI h a k) :: st, h, cu, su) R) : RN mid (pc, L, .int x :: .ref a :: st, h, cu, su) R := by
  subst hx
  refine RN.st ?_ kk
  rw [mm_one_of hf]
  show (if (hK h a = 9 ∨ hK h a = 20) ∧ mm_in (nI k) (hL h a) = true then _ else none) = _
  rw [if_pos ⟨hk, mm_in_nI hb (Nat.lt_of_le_of_lt (Nat.le_of_ble_eq_true hl) (by decide))⟩, nI_clamp (by have := Nat.le_of_ble_eq_true hl; omega)]
  rfl
theorem RN.lald {x : Int32} {a k : Nat} (hf : mm_fet mid pc = some (.laload, 1, 0)) (hx : x = nI k) (hk : hK h a = 10 ∨ hK h a = 21) (hb : k < hL h a) (hl : Nat.ble (hL h a) 2560 = true) (kk : RN mid (pc + 1, L, .long (hJ h a k) :: st, h, cu, su) R) : RN mid (pc, L, .int x :: .ref a :: st, h, cu, su) R := by
  subst hx
  refine RN.st ?_ kk
  rw [mm_one_of hf]
  show (if (hK h a = 10 ∨ hK h a = 21) ∧ mm_in (nI k) (hL h a) = true then _ else none) = _
  rw [if_pos ⟨hk, mm_in_nI hb (Nat.lt_of_le_of_lt (Nat.le_of_ble_eq_true hl) (by decide))⟩, nI_clamp (by have := Nat.le_of_ble_eq_true hl; omega)]
  rfl
theorem RN.bald {x : Int32} {a k : Nat} (hf : mm_fet mid pc = some (.baload, 1, 0)) (hx : x = nI k) (hk : hK h a = 11) (hb : k < hL h a) (hl : Nat.ble (hL h a) 2560 = true) (kk : RN mid (pc + 1, L, .int (hI h a k) :: st, h, cu, su) R) : RN mid (pc, L, .int x :: .ref a :: st, h, cu, su) R := by
  subst hx
  refine RN.st ?_ kk
  rw [mm_one_of hf]
  show (if hK h a = 11 ∧ mm_in (nI k) (hL h a) = true then _ else none) = _
  rw [if_pos ⟨hk, mm_in_nI hb (Nat.lt_of_le_of_lt (Nat.le_of_ble_eq_true hl) (by decide))⟩, nI_clamp (by have := Nat.le_of_ble_eq_true hl; omega)]
  rfl
theorem RN.aald {x : Int32} {a k q : Nat} (hf : mm_fet mid pc = some (.aaload, 1, 0)) (hx : x = nI k) (hk : hK h a = 12 ∨ hK h a = 13 ∨ hK h a = 14 ∨ hK h a = 15) (hb : k < hL h a) (hl : Nat.ble (hL h a) 2560 = true) (hq : hR h a k = some q) (kk : RN mid (pc + 1, L, .ref q :: st, h, cu, su) R) : RN mid (pc, L, .int x :: .ref a :: st, h, cu, su) R := by
  subst hx
  refine RN.st ?_ kk
  rw [mm_one_of hf]
  show (if (hK h a = 12 ∨ hK h a = 13 ∨ hK h a = 14 ∨ hK h a = 15) ∧ mm_in (nI k) (hL h a) = true then _ else none) = _
  rw [if_pos ⟨hk, mm_in_nI hb (Nat.lt_of_le_of_lt (Nat.le_of_ble_eq_true hl) (by decide))⟩, nI_clamp (by have := Nat.le_of_ble_eq_true hl; omega), hq]
  rfl
theorem RN.iast {x v : Int32} {a k : Nat} (hf : mm_fet mid pc = some (.iastore, 1, 0)) (hx : x = nI k) (hk : hK h a = 9) (hb : k < hL h a) (hl : Nat.ble (hL h a) 2560 = true) (kk : RN mid (pc + 1, L, st, putI h a k v, cu, su) R) : RN mid (pc, L, .int v :: .int x :: .ref a :: st, h, cu, su) R := by
  subst hx
  refine RN.st ?_ kk
  rw [mm_one_of hf]
  show (if hK h a = 9 ∧ mm_in (nI k) (hL h a) = true then _ else none) = _
  rw [if_pos ⟨hk, mm_in_nI hb (Nat.lt_of_le_of_lt (Nat.le_of_ble_eq_true hl) (by decide))⟩, nI_clamp (by have := Nat.le_of_ble_eq_true hl; omega)]
  rfl
theorem RN.last {x : Int32} {v : Int64} {a k : Nat} (hf : mm_fet mid pc = some (.lastore, 1, 0)) (hx : x = nI k) (hk : hK h a = 10) (hb : k < hL h a) (hl : Nat.ble (hL h a) 2560 = true) (kk : RN mid (pc + 1, L, st, putJ h a k v, cu, su) R) : RN mid (pc, L, .long v :: .int x :: .ref a :: st, h, cu, su) R := by
  subst hx
  refine RN.st ?_ kk
  rw [mm_one_of hf]
  show (if hK h a = 10 ∧ mm_in (nI k) (hL h a) = true then _ else none) = _
  rw [if_pos ⟨hk, mm_in_nI hb (Nat.lt_of_le_of_lt (Nat.le_of_ble_eq_true hl) (by decide))⟩, nI_clamp (by have := Nat.le_of_ble_eq_true hl; omega)]
  rfl
theorem RN.bast {x v : Int32} {a k : Nat} (hf : mm_fet mid pc = some (.bastore, 1, 0)) (hx : x = nI k) (hk : hK h a = 11) (hb : k < hL h a) (hl : Nat.ble (hL h a) 2560 = true) (hv : v = 0 ∨ v = 1) (kk : RN mid (pc + 1, L, st, putI h a k v, cu, su) R) : RN mid (pc, L, .int v :: .int x :: .ref a :: st, h, cu, su) R := by
  subst hx
  refine RN.st ?_ kk
  rw [mm_one_of hf]
  show (if hK h a = 11 ∧ mm_in (nI k) (hL h a) = true ∧ (v = 0 ∨ v = 1) then _ else none) = _
  rw [if_pos ⟨hk, mm_in_nI hb (Nat.lt_of_le_of_lt (Nat.le_of_ble_eq_true hl) (by decide)), hv⟩, nI_clamp (by have := Nat.le_of_ble_eq_true hl; omega)]
  rfl
theorem RN.aast {x : Int32} {a v k : Nat} (hf : mm_fet mid pc = some (.aastore, 1, 0)) (hx : x = nI k) (hk : (hK h a = 12 ∧ hK h v = 5) ∨ (hK h a = 13 ∧ hK h v = 6) ∨ (hK h a = 15 ∧ hK h v = 10)) (hb : k < hL h a) (hl : Nat.ble (hL h a) 2560 = true) (kk : RN mid (pc + 1, L, st, putR h a k (some v), cu, su) R) : RN mid (pc, L, .ref v :: .int x :: .ref a :: st, h, cu, su) R := by
  subst hx
  refine RN.st ?_ kk
  rw [mm_one_of hf]
  show (if ((hK h a = 12 ∧ hK h v = 5) ∨ (hK h a = 13 ∧ hK h v = 6) ∨ (hK h a = 15 ∧ hK h v = 10)) ∧ mm_in (nI k) (hL h a) = true then _ else none) = _
  rw [if_pos ⟨hk, mm_in_nI hb (Nat.lt_of_le_of_lt (Nat.le_of_ble_eq_true hl) (by decide))⟩, nI_clamp (by have := Nat.le_of_ble_eq_true hl; omega)]
  rfl
end RULES
