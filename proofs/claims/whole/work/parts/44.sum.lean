/-! Sum: its object at s, numbers at s + 1, factors at s + 2 -/
/-- the places of sums -/
abbrev isSum (s : Nat) : Prop := KK s = 5 ∧ KK (s + 1) = 9 ∧ KK (s + 2) = 9 ∧ hp_l.getD (s + 1) 0 = 4 ∧ hp_l.getD (s + 2) 0 = 4 ∧ s ≠ 113 ∧ (hp_r.getD s []).getD 3 none = some (s + 1) ∧ (hp_r.getD s []).getD 4 none = some (s + 2)
theorem isSum_asked : isSum 5 := by decide
theorem isSum_probe : isSum 8 := by decide
def sumP (i : Nat) : Nat := 148 + 3 * i
theorem isSum_all : ∀ i, i < 20 → isSum (sumP i) := by decide
theorem RR_sums (w : Nat → Nat) : ∀ i, i < 20 → RR w 4 i = some (sumP i) := by
  intro i hi
  show (hp_r.getD 4 []).getD i none = some (sumP i)
  revert i
  decide
section SUM
variable {mid pc : Nat} {Lo : ML} {st : List Value} {cu su : Nat} {R : MR}
/-- getfield of an object that is known by a premise -/
theorem RN.get {h : MH} {a ci f idx : Nat} {v : Value} (hf : mm_fet mid pc = some (.getfield idx, 3, 0)) (hfl : mm_fld (mi_c (mm_of mid)) idx = some (ci, f)) (hk : hK h a = ci) (hv : mm_fv h a ci f = v) (k : RN mid (pc + 3, Lo, v :: st, h, cu, su) R) : RN mid (pc, Lo, .ref a :: st, h, cu, su) R := by
  refine RN.st ?_ k
  rw [mm_one_of hf]
  show (match mm_fld (mi_c (mm_of mid)) idx, Value.ref a :: st with
    | some (ci, f), .ref a :: r => if hK h a = ci then mm_nx (pc + 3) Lo (mm_fv h a ci f :: r) h cu su else none
    | _, _ => none) = _
  rw [hfl]
  dsimp only
  rw [if_pos hk, hv]
  rfl
theorem RN.pfI {h : MH} {a ci f idx : Nat} {x : Int32} (hf : mm_fet mid pc = some (.putfield idx, 3, 0)) (hfl : mm_fld (mi_c (mm_of mid)) idx = some (ci, f)) (hk : hK h a = ci) (hfin : mm_isF ci f = false) (ht : mm_ty ci f = 0) (k : RN mid (pc + 3, Lo, st, putI h a f x, cu, su) R) : RN mid (pc, Lo, .int x :: .ref a :: st, h, cu, su) R := by
  refine RN.st ?_ k
  rw [mm_one_of hf]
  unfold mm_stp
  dsimp only
  rw [hfl]
  try dsimp only
  rw [if_pos ⟨hk, fun z => by rw [hfin] at z; cases z⟩, ht]
  rfl
theorem RN.pfZ {h : MH} {a ci f idx : Nat} {x : Int32} (hf : mm_fet mid pc = some (.putfield idx, 3, 0)) (hfl : mm_fld (mi_c (mm_of mid)) idx = some (ci, f)) (hk : hK h a = ci) (hfin : mm_isF ci f = false) (ht : mm_ty ci f = 1) (hx : x = 0 ∨ x = 1) (k : RN mid (pc + 3, Lo, st, putI h a f x, cu, su) R) : RN mid (pc, Lo, .int x :: .ref a :: st, h, cu, su) R := by
  refine RN.st ?_ k
  rw [mm_one_of hf]
  unfold mm_stp
  dsimp only
  rw [hfl]
  try dsimp only
  rw [if_pos ⟨hk, fun z => by rw [hfin] at z; cases z⟩, ht]
  show (if x = 0 ∨ x = 1 then mm_nx (pc + 3) Lo st (putI h a f x) cu su else none) = _
  rw [if_pos hx]
  rfl
end SUM
theorem sum_num (w : Nat → Nat) {s : Nat} (hs : isSum s) : RR w s 3 = some (s + 1) := by
  obtain ⟨-, -, -, -, -, h6, h7, -⟩ := hs
  show (if s = 113 then _ else _) = _
  rw [if_neg h6]; exact h7
theorem sum_fac (w : Nat → Nat) {s : Nat} (hs : isSum s) : RR w s 4 = some (s + 2) := by
  obtain ⟨-, -, -, -, -, h6, -, h8⟩ := hs
  show (if s = 113 then _ else _) = _
  rw [if_neg h6]; exact h8
theorem sum_l1 {L s : Nat} (hs : isSum s) : LL L (s + 1) = 4 := by
  obtain ⟨-, -, -, h4, -⟩ := hs
  show (if s + 1 = 0 then _ else _) = _
  rw [if_neg (by omega)]; exact h4
theorem sum_l2 {L s : Nat} (hs : isSum s) : LL L (s + 2) = 4 := by
  obtain ⟨-, -, -, -, h5, -⟩ := hs
  show (if s + 2 = 0 then _ else _) = _
  rw [if_neg (by omega)]; exact h5
theorem ev_restart (L : Nat) (I : Nat → Nat → Int32) (J : Nat → Nat → Int64) (w : Nat → Nat) (s : Nat) (hs : isSum s) (n : Int32) : EV m_Su_restart [.ref s, .int n] (hp L I J w) none (hp L (mm_up (mm_up I s 0 n) s 1 0) J w) := by
  unfold EV
  repeat (refine RN.st rfl ?_)
  refine RN.pfI rfl rfl hs.1 rfl rfl ?_
  repeat (refine RN.st rfl ?_)
  refine RN.pfI rfl rfl hs.1 rfl rfl ?_
  exact RN.ret rfl
theorem ev_timesOf (L : Nat) (I : Nat → Nat → Int32) (J : Nat → Nat → Int64) (w : Nat → Nat) (s : Nat) (hs : isSum s) (x : Int32) (n : Nat) (hn : n ≤ 4) (hsz : I s 1 = nI n) (r : Int32) (hr1 : ∀ i, i < n → I (s + 1) i = x → (∀ j, j < i → ¬ I (s + 1) j = x) → r = I (s + 2) i) (hr0 : (∀ i, i < n → ¬ I (s + 1) i = x) → r = 0) : EV m_Su_timesOf [.ref s, .int x] (hp L I J w) (some (.int r)) (hp L I J w) := by
  unfold EV
  repeat (refine RN.st rfl ?_)
  refine RN.get (v := .int (I s 1)) rfl rfl hs.1 rfl ?_
  refine RN.search (fun i => (7, [some (.ref s), some (.int x), some (.int (nI i))], [.int (I s 1), .int (nI i)], hp L I J w, 0, 0)) (fun i => I (s + 1) i = x) n (fun i hi hP hb => ?_) (fun i hi hP k => ?_) (fun hP => ?_)
  · refine RN.icf rfl (show ¬ I s 1 ≤ nI i from by rw [hsz]; exact nI_ge hi (by omega)) ?_
    repeat (refine RN.st rfl ?_)
    refine RN.get (v := .ref (s + 1)) rfl rfl hs.1 (congrArg mm_rv (sum_num w hs)) ?_
    repeat (refine RN.st rfl ?_)
    refine RN.iald rfl rfl (Or.inl hs.2.1) (show i < LL L (s + 1) by rw [sum_l1 hs]; omega) (show Nat.ble (LL L (s + 1)) 2560 = true by rw [sum_l1 hs]; rfl) ?_
    repeat (refine RN.st rfl ?_)
    refine RN.icf rfl (fun z => z hP) ?_
    repeat (refine RN.st rfl ?_)
    refine RN.get (v := .ref (s + 2)) rfl rfl hs.1 (congrArg mm_rv (sum_fac w hs)) ?_
    repeat (refine RN.st rfl ?_)
    refine RN.iald rfl rfl (Or.inl hs.2.2.1) (show i < LL L (s + 2) by rw [sum_l2 hs]; omega) (show Nat.ble (LL L (s + 2)) 2560 = true by rw [sum_l2 hs]; rfl) ?_
    rw [hr1 i hi hP hb]
    exact RN.ret rfl
  · refine RN.icf rfl (show ¬ I s 1 ≤ nI i from by rw [hsz]; exact nI_ge hi (by omega)) ?_
    repeat (refine RN.st rfl ?_)
    refine RN.get (v := .ref (s + 1)) rfl rfl hs.1 (congrArg mm_rv (sum_num w hs)) ?_
    repeat (refine RN.st rfl ?_)
    refine RN.iald rfl rfl (Or.inl hs.2.1) (show i < LL L (s + 1) by rw [sum_l1 hs]; omega) (show Nat.ble (LL L (s + 1)) 2560 = true by rw [sum_l1 hs]; rfl) ?_
    repeat (refine RN.st rfl ?_)
    refine RN.ict rfl hP ?_
    rw [nI_succ i] at k
    repeat (refine RN.st rfl ?_)
    refine RN.get (v := .int (I s 1)) rfl rfl hs.1 rfl ?_
    exact k
  · refine RN.ict rfl (show I s 1 ≤ nI n from by rw [hsz]; exact nI_le (Nat.le_refl _) (by omega)) ?_
    repeat (refine RN.st rfl ?_)
    rw [hr0 hP]
    exact RN.ret rfl
/-- a term put to a sum -/
def sm_put (I : Nat → Nat → Int32) (s n : Nat) (a b : Int32) : Nat → Nat → Int32 := mm_up (mm_up (mm_up I (s + 1) n a) (s + 2) n b) s 1 (nI (n + 1))
theorem ev_put (L : Nat) (I : Nat → Nat → Int32) (J : Nat → Nat → Int64) (w : Nat → Nat) (s : Nat) (hs : isSum s) (a b : Int32) (n : Nat) (hn : n < 4) (hsz : I s 1 = nI n) : EV m_Su_put [.ref s, .int a, .int b] (hp L I J w) none (hp L (sm_put I s n a b) J w) := by
  unfold EV
  repeat (refine RN.st rfl ?_)
  refine RN.get (v := .int (I s 1)) rfl rfl hs.1 rfl ?_
  repeat (refine RN.st rfl ?_)
  refine RN.icf rfl (show ¬ nI 4 ≤ I s 1 from by rw [hsz]; exact nI_ge hn (by omega)) ?_
  repeat (refine RN.st rfl ?_)
  refine RN.get (v := .ref (s + 1)) rfl rfl hs.1 (congrArg mm_rv (sum_num w hs)) ?_
  repeat (refine RN.st rfl ?_)
  refine RN.get (v := .int (I s 1)) rfl rfl hs.1 rfl ?_
  repeat (refine RN.st rfl ?_)
  refine RN.iast rfl hsz hs.2.1 (show n < LL L (s + 1) by rw [sum_l1 hs]; omega) (show Nat.ble (LL L (s + 1)) 2560 = true by rw [sum_l1 hs]; rfl) ?_
  have e1 : mm_up I (s + 1) n a s 1 = I s 1 := if_neg (fun z => by omega)
  repeat (refine RN.st rfl ?_)
  refine RN.get (v := .ref (s + 2)) rfl rfl hs.1 (congrArg mm_rv (sum_fac w hs)) ?_
  repeat (refine RN.st rfl ?_)
  refine RN.get (v := .int (I s 1)) rfl rfl hs.1 (congrArg Value.int e1) ?_
  repeat (refine RN.st rfl ?_)
  refine RN.iast rfl hsz hs.2.2.1 (show n < LL L (s + 2) by rw [sum_l2 hs]; omega) (show Nat.ble (LL L (s + 2)) 2560 = true by rw [sum_l2 hs]; rfl) ?_
  have e2 : mm_up (mm_up I (s + 1) n a) (s + 2) n b s 1 = I s 1 := (if_neg (fun z => by omega)).trans e1
  repeat (refine RN.st rfl ?_)
  refine RN.get (v := .int (I s 1)) rfl rfl hs.1 (congrArg Value.int e2) ?_
  repeat (refine RN.st rfl ?_)
  refine RN.pfI rfl rfl hs.1 rfl rfl ?_
  refine RN.ret ?_
  unfold sm_put
  rw [nI_succ, ← hsz]
  rfl
def sm_dg (I : Nat → Nat → Int32) (s : Nat) (h : Int64) : Nat → Int64 := fun m => fl (fun i x => 31 * (31 * x + (I (s + 1) i).toInt64) + (I (s + 2) i).toInt64) m (31 * (31 * h + (I s 0).toInt64) + (I s 1).toInt64)
theorem ev_smDigest (L : Nat) (I : Nat → Nat → Int32) (J : Nat → Nat → Int64) (w : Nat → Nat) (s : Nat) (hs : isSum s) (x : Int64) (n : Nat) (hn : n ≤ 4) (hsz : I s 1 = nI n) : EV m_Su_digestOnto [.ref s, .long x] (hp L I J w) (some (.long (sm_dg I s x n))) (hp L I J w) := by
  unfold EV
  repeat (refine RN.st rfl ?_)
  refine RN.get (v := .int (I s 0)) rfl rfl hs.1 rfl ?_
  repeat (refine RN.st rfl ?_)
  refine RN.get (v := .int (I s 1)) rfl rfl hs.1 rfl ?_
  repeat (refine RN.st rfl ?_)
  refine RN.get (v := .int (I s 1)) rfl rfl hs.1 rfl ?_
  refine RN.run (fun i => (31, [some (.ref s), some (.long x), none, some (.long (sm_dg I s x i)), none, some (.int (nI i))], [.int (I s 1), .int (nI i)], hp L I J w, 0, 0)) n (fun i hi kk => ?_) ?_
  · rw [nI_succ i] at kk
    refine RN.icf rfl (show ¬ I s 1 ≤ nI i from by rw [hsz]; exact nI_ge hi (by omega)) ?_
    repeat (refine RN.st rfl ?_)
    refine RN.get (v := .ref (s + 1)) rfl rfl hs.1 (congrArg mm_rv (sum_num w hs)) ?_
    repeat (refine RN.st rfl ?_)
    refine RN.iald rfl rfl (Or.inl hs.2.1) (show i < LL L (s + 1) by rw [sum_l1 hs]; omega) (show Nat.ble (LL L (s + 1)) 2560 = true by rw [sum_l1 hs]; rfl) ?_
    repeat (refine RN.st rfl ?_)
    refine RN.get (v := .ref (s + 2)) rfl rfl hs.1 (congrArg mm_rv (sum_fac w hs)) ?_
    repeat (refine RN.st rfl ?_)
    refine RN.iald rfl rfl (Or.inl hs.2.2.1) (show i < LL L (s + 2) by rw [sum_l2 hs]; omega) (show Nat.ble (LL L (s + 2)) 2560 = true by rw [sum_l2 hs]; rfl) ?_
    repeat (refine RN.st rfl ?_)
    refine RN.get (v := .int (I s 1)) rfl rfl hs.1 rfl ?_
    exact kk
  · refine RN.ict rfl (show I s 1 ≤ nI n from by rw [hsz]; exact nI_le (Nat.le_refl _) (by omega)) ?_
    repeat (refine RN.st rfl ?_)
    exact RN.ret rfl
