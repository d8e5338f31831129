/-! Clock.addTimes -/
section ALEN
variable {mid pc : Nat} {Lo : ML} {st : List Value} {h : MH} {cu su : Nat} {R : MR}
theorem RN.alen {a n : Nat} (hf : mm_fet mid pc = some (.arraylength, 1, 0)) (hk : (9 ≤ hK h a ∧ hK h a ≤ 15) ∨ hK h a = 20 ∨ hK h a = 21) (hn : hL h a = n) (k : RN mid (pc + 1, Lo, .int (nI n) :: st, h, cu, su) R) : RN mid (pc, Lo, .ref a :: st, h, cu, su) R := by
  refine RN.st ?_ k
  rw [mm_one_of hf]
  show (if (9 ≤ hK h a ∧ hK h a ≤ 15) ∨ hK h a = 20 ∨ hK h a = 21 then _ else none) = _
  rw [if_pos hk, hn]
  rfl
end ALEN
theorem nI_range {a b : Nat} (ha : a < 2 ^ 31) (hb : b < 2 ^ 31) : (nI a < nI b ↔ a < b) ∧ (nI a ≤ nI b ↔ a ≤ b) := ⟨nI_ltI ha hb, nI_leI ha hb⟩
theorem ev_addTimes (L : Nat) (I : Nat → Nat → Int32) (J : Nat → Nat → Int64) (w : Nat → Nat) (a b la lb : Nat) (hab : a ≠ b) (ka : KK a = 10) (kb : KK b = 10) (hla : LL L a = la) (hlb : LL L b = lb) (l1 : la ≤ 33) (l2 : lb ≤ 33) (f0 e0 : Nat) (hfe : f0 ≤ e0) (he1 : e0 ≤ la) (he2 : e0 ≤ lb) (x y : Nat → Int) (f p : Int) (hp2 : 2 ≤ p) (hpx : p < 2 ^ 31) (hf0 : 0 ≤ f) (hfp : f ≤ p) (hx : ∀ c, c < e0 → J a c = zJ (x c) ∧ 0 ≤ x c ∧ x c < p) (hy : ∀ c, c < e0 → J b c = zJ (y c) ∧ 0 ≤ y c ∧ y c < p) : EV m_Ck_addTimes [.ref a, .ref b, .long (zJ f), .long (zJ p), .int (nI f0), .int (nI e0)] (hp L I J w) none (hp L I (mm_row J a (fun c => if f0 ≤ c ∧ c < e0 then zJ ((x c + f * y c) % p) else J a c)) w) := by
  unfold EV
  repeat (refine RN.st rfl ?_)
  refine RN.iff rfl (fun z => by have := (zJ_lt (a := p) (b := 2) (by omega) (by omega) (by omega) (by omega)).mp (lc_lt.mp z); omega) ?_
  iterate 1 (refine RN.st rfl ?_)
  refine RN.iff rfl (show ¬ nI f0 < 0 from nI_pos (by omega)) ?_
  iterate 2 (refine RN.st rfl ?_)
  refine RN.alen rfl (Or.inl ⟨by show 9 ≤ KK a; omega, by show KK a ≤ 15; omega⟩) hla ?_
  refine RN.icf rfl (show ¬ nI la < nI e0 from nI_nlt he1 (by omega)) ?_
  iterate 2 (refine RN.st rfl ?_)
  refine RN.alen rfl (Or.inl ⟨by show 9 ≤ KK b; omega, by show KK b ≤ 15; omega⟩) hlb ?_
  refine RN.ict rfl (show nI e0 ≤ nI lb from nI_le he2 (by omega)) ?_
  iterate 4 (refine RN.st rfl ?_)
  have e0' : J = mm_row J a (fun c => if f0 ≤ c ∧ c < f0 + 0 then zJ ((x c + f * y c) % p) else J a c) := by
    rw [show (fun c => if f0 ≤ c ∧ c < f0 + 0 then zJ ((x c + f * y c) % p) else J a c) = J a from funext fun c => if_neg (by omega), mm_row_self]
  have key := RN.run (mid := m_Ck_addTimes) (R := (none, hp L I (mm_row J a (fun c => if f0 ≤ c ∧ c < e0 then zJ ((x c + f * y c) % p) else J a c)) w)) (fun i => (37, [some (.ref a), some (.ref b), some (.long (zJ f)), none, some (.long (zJ p)), none, some (.int (nI f0)), some (.int (nI e0)), some (.int (nI (f0 + i)))], [.int (nI e0), .int (nI (f0 + i))], hp L I (mm_row J a (fun c => if f0 ≤ c ∧ c < f0 + i then zJ ((x c + f * y c) % p) else J a c)) w, 0, 0)) (e0 - f0) (fun i hi k => ?_) ?_
  · rw [← e0'] at key
    exact key
  · obtain ⟨x1, x2, x3⟩ := hx (f0 + i) (by omega)
    obtain ⟨y1, y2, y3⟩ := hy (f0 + i) (by omega)
    have hfy : 0 ≤ f * y (f0 + i) := Int.mul_nonneg hf0 y2
    have hfy2 : f * y (f0 + i) ≤ 2 ^ 31 * 2 ^ 31 := Int.mul_le_mul (by omega) (by omega) y2 (by omega)
    refine RN.icf rfl (nI_ge (by omega) (by omega)) ?_
    iterate 4 (refine RN.st rfl ?_)
    refine RN.lald (k := f0 + i) rfl rfl (Or.inl ka) (show f0 + i < LL L a by omega) (show Nat.ble (LL L a) 2560 = true by rw [hla]; exact Nat.ble_eq_true_of_le (by omega)) ?_
    rw [show hJ (hp L I (mm_row J a (fun c => if f0 ≤ c ∧ c < f0 + i then zJ ((x c + f * y c) % p) else J a c)) w) a (f0 + i) = zJ (x (f0 + i)) from (mm_row_at J a (fun c => if f0 ≤ c ∧ c < f0 + i then zJ ((x c + f * y c) % p) else J a c) (f0 + i)).trans ((if_neg (by omega)).trans x1)]
    iterate 3 (refine RN.st rfl ?_)
    refine RN.lald (k := f0 + i) rfl rfl (Or.inl kb) (show f0 + i < LL L b by omega) (show Nat.ble (LL L b) 2560 = true by rw [hlb]; exact Nat.ble_eq_true_of_le (by omega)) ?_
    rw [show hJ (hp L I (mm_row J a (fun c => if f0 ≤ c ∧ c < f0 + i then zJ ((x c + f * y c) % p) else J a c)) w) b (f0 + i) = zJ (y (f0 + i)) from (mm_row_off J (fun c => if f0 ≤ c ∧ c < f0 + i then zJ ((x c + f * y c) % p) else J a c) (f0 + i) (Ne.symm hab)).trans y1]
    iterate 3 (refine RN.st rfl ?_)
    rw [zJ_mul, zJ_add]
    refine RN.lrem rfl (fun z => by have := (zJ_eq (a := p) (b := 0) (by omega) (by omega) (by omega) (by omega)).mp z; omega) ?_
    rw [zJ_remp (by omega) (by omega) (by omega) (by omega)]
    refine RN.last (k := f0 + i) rfl rfl ka (show f0 + i < LL L a by omega) (show Nat.ble (LL L a) 2560 = true by rw [hla]; exact Nat.ble_eq_true_of_le (by omega)) ?_
    have e1 : mm_up (mm_row J a (fun c => if f0 ≤ c ∧ c < f0 + i then zJ ((x c + f * y c) % p) else J a c)) a (f0 + i) (zJ ((x (f0 + i) + f * y (f0 + i)) % p)) = mm_row J a (fun c => if f0 ≤ c ∧ c < f0 + (i + 1) then zJ ((x c + f * y c) % p) else J a c) := by
      rw [mm_row_up]
      apply mm_row_congr
      intro c
      by_cases hc : c = f0 + i
      · subst hc
        rw [if_pos rfl, if_pos (by omega)]
      · rw [if_neg hc]
        by_cases h2 : f0 ≤ c ∧ c < f0 + i
        · rw [if_pos h2, if_pos (by omega)]
        · rw [if_neg h2, if_neg (by omega)]
    rw [← e1] at k
    rw [show f0 + (i + 1) = f0 + i + 1 by omega, nI_succ] at k
    iterate 4 (refine RN.st rfl ?_)
    exact k
  · rw [show f0 + (e0 - f0) = e0 by omega]
    refine RN.ict rfl (nI_le (Nat.le_refl _) (by omega)) ?_
    exact RN.ret rfl
