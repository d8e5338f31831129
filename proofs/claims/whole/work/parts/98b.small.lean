/-! ranges -/
abbrev wi (x : Int32) (m : Int) : Prop := -m ≤ x.toInt ∧ x.toInt ≤ m
abbrev rg (x : Int32) (n : Int) : Prop := 0 ≤ x.toInt ∧ x.toInt < n
theorem rg_nI {x : Int32} {n : Nat} (h : rg x n) : ∃ k, k < n ∧ x = nI k := ⟨x.toInt.toNat, by omega, by rw [nI_zI, Int.toNat_of_nonneg h.1]; exact zI_of x⟩
theorem nI_rg {k n : Nat} (hk : k < 2 ^ 31) : rg (nI k) n ↔ k < n := by
  unfold rg
  rw [nI_toInt hk]
  omega
theorem x_bd (x : Int32) : -2 ^ 31 ≤ x.toInt ∧ x.toInt < 2 ^ 31 := ⟨by have := Int32.le_toInt x; omega, by have := Int32.toInt_lt x; omega⟩
theorem x_lt (x : Int32) {m : Int} (h1 : -2 ^ 31 ≤ m) (h2 : m < 2 ^ 31) : (x < zI m ↔ x.toInt < m) ∧ (zI m < x ↔ m < x.toInt) ∧ (x ≤ zI m ↔ x.toInt ≤ m) ∧ (zI m ≤ x ↔ m ≤ x.toInt) := by
  have := x_bd x
  rw [Int32.lt_iff_toInt_lt, Int32.lt_iff_toInt_lt, Int32.le_iff_toInt_le, Int32.le_iff_toInt_le, zI_int h1 h2]
  exact ⟨Iff.rfl, Iff.rfl, Iff.rfl, Iff.rfl⟩
theorem x_long (x : Int32) : x.toInt64 = zJ x.toInt := by
  have := x_bd x
  conv => lhs; rw [zI_of x]
  exact zI_l this.1 this.2
section BR0
variable {mid pc : Nat} {L : ML} {sk : List Value} {h : MH} {cu su : Nat} {Q : Option Value → MH → Prop}
/-- a branch on a truth value -/
theorem WP.bz {P : Prop} [Decidable P] {off : Int} {tgt : Nat} (hf : mm_fet mid pc = some (.ifCond .eq off, 3, tgt)) (k1 : ¬ P → WP mid (tgt, L, sk, h, cu, su) Q) (k2 : P → WP mid (pc + 3, L, sk, h, cu, su) Q) : WP mid (pc, L, .int (if P then 1 else 0) :: sk, h, cu, su) Q := by
  by_cases z : P
  · rw [if_pos z]; exact WP.iff hf (show ¬ (1 : Int32) = 0 by decide) (k2 z)
  · rw [if_neg z]; exact WP.ift hf rfl (k1 z)
theorem WP.bn {P : Prop} [Decidable P] {off : Int} {tgt : Nat} (hf : mm_fet mid pc = some (.ifCond .ne off, 3, tgt)) (k1 : P → WP mid (tgt, L, sk, h, cu, su) Q) (k2 : ¬ P → WP mid (pc + 3, L, sk, h, cu, su) Q) : WP mid (pc, L, .int (if P then 1 else 0) :: sk, h, cu, su) Q := by
  by_cases z : P
  · rw [if_pos z]; exact WP.ift hf (show ¬ (1 : Int32) = 0 by decide) (k1 z)
  · rw [if_neg z]; exact WP.iff hf (fun y => y rfl) (k2 z)
end BR0
theorem ev_within (h : MH) (x : Int32) (m : Int) (h1 : 0 ≤ m) (h2 : m < 2 ^ 31) : EV m_DT_isWithin [.int x, .int (zI m)] h (some (.int (if wi x m then 1 else 0))) h := by
  obtain ⟨r, h', e, q⟩ : SP m_DT_isWithin [.int x, .int (zI m)] h (fun r h' => r = some (.int (if wi x m then 1 else 0)) ∧ h' = h) := by
    unfold SP
    have c1 := x_lt x (m := m) (by omega) h2
    have c2 := x_lt x (m := -m) (by omega) (by omega)
    iterate 3 (refine WP.st rfl ?_)
    by_cases z : x.toInt < -m
    · refine WP.ict rfl (show x < - zI m by rw [zI_neg]; exact c2.1.mpr z) ?_
      iterate 1 (refine WP.st rfl ?_)
      rw [if_neg (by omega)]
      exact WP.ret rfl ⟨rfl, rfl⟩
    · skip
      refine WP.icf rfl (show ¬ x < - zI m by rw [zI_neg]; exact fun y => z (c2.1.mp y)) ?_
      iterate 2 (refine WP.st rfl ?_)
      by_cases z2 : m < x.toInt
      · refine WP.ict rfl (c1.2.1.mpr z2) ?_
        iterate 1 (refine WP.st rfl ?_)
        rw [if_neg (by omega)]
        exact WP.ret rfl ⟨rfl, rfl⟩
      · skip
        refine WP.icf rfl (fun y => z2 (c1.2.1.mp y)) ?_
        iterate 2 (refine WP.st rfl ?_)
        rw [if_pos (by omega)]
        exact WP.ret rfl ⟨rfl, rfl⟩
  obtain ⟨rfl, rfl⟩ := q
  exact e
theorem ev_place (h : MH) (x y : Int32) : EV m_DT_isPlace [.int x, .int y] h (some (.int (if wi x 1000 ∧ wi y 1000 then 1 else 0))) h := by
  obtain ⟨r, h', e, q⟩ : SP m_DT_isPlace [.int x, .int y] h (fun r h' => r = some (.int (if wi x 1000 ∧ wi y 1000 then 1 else 0)) ∧ h' = h) := by
    unfold SP
    iterate 2 (refine WP.st rfl ?_)
    refine WP.calle rfl rfl (ev_within h x 1000 (by decide) (by decide)) ?_
    refine WP.bz rfl (fun z => ?_) (fun z => ?_)
    · skip
      iterate 1 (refine WP.st rfl ?_)
      rw [if_neg (fun y => z y.1)]
      exact WP.ret rfl ⟨rfl, rfl⟩
    · skip
      iterate 2 (refine WP.st rfl ?_)
      refine WP.calle rfl rfl (ev_within h y 1000 (by decide) (by decide)) ?_
      refine WP.bz rfl (fun z2 => ?_) (fun z2 => ?_)
      · skip
        iterate 1 (refine WP.st rfl ?_)
        rw [if_neg (fun y => z2 y.2)]
        exact WP.ret rfl ⟨rfl, rfl⟩
      · skip
        iterate 2 (refine WP.st rfl ?_)
        rw [if_pos ⟨z, z2⟩]
        exact WP.ret rfl ⟨rfl, rfl⟩
  obtain ⟨rfl, rfl⟩ := q
  exact e
theorem ev_total (h : MH) (x : Int32) : EV m_DT_isTotal [.int x] h (some (.int (if wi x 2000 then 1 else 0))) h := by
  obtain ⟨r, h', e, q⟩ : SP m_DT_isTotal [.int x] h (fun r h' => r = some (.int (if wi x 2000 then 1 else 0)) ∧ h' = h) := by
    unfold SP
    iterate 2 (refine WP.st rfl ?_)
    refine WP.calle rfl rfl (ev_within h x 2000 (by decide) (by decide)) ?_
    refine WP.ret ?_ ⟨rfl, rfl⟩
    by_cases z : wi x 2000
    · rw [if_pos z]; rfl
    · rw [if_neg z]; rfl
  obtain ⟨rfl, rfl⟩ := q
  exact e
/-- x is from 0 on and below n -/
theorem rg_test (x : Int32) {n : Nat} (hn : n < 2 ^ 31) : (x < 0 ↔ x.toInt < 0) ∧ (nI n ≤ x ↔ (n : Int) ≤ x.toInt) := by
  have c1 := x_lt x (m := 0) (by decide) (by decide)
  have c2 := x_lt x (m := (n : Int)) (by omega) (by omega)
  exact ⟨c1.1, by rw [nI_zI]; exact c2.2.2.2⟩
theorem ev_isPoint (L : Nat) (I : Nat → Nat → Int32) (J : Nat → Nat → Int64) (w : Nat → Nat) (P : Nat) (hP : P ≤ 8) (h : I 2 1 = nI P) (x : Int32) : EV m_DT_isPoint [.ref 2, .int x] (hp L I J w) (some (.int (if rg x P then 1 else 0))) (hp L I J w) := by
  obtain ⟨r, h', e, q⟩ : SP m_DT_isPoint [.ref 2, .int x] (hp L I J w) (fun r h' => r = some (.int (if rg x P then 1 else 0)) ∧ h' = hp L I J w) := by
    unfold SP
    have c := rg_test x (n := P) (by omega)
    iterate 1 (refine WP.st rfl ?_)
    by_cases z : x.toInt < 0
    · refine WP.ift rfl (c.1.mpr z) ?_
      iterate 1 (refine WP.st rfl ?_)
      rw [if_neg (by omega)]
      exact WP.ret rfl ⟨rfl, rfl⟩
    · skip
      refine WP.iff rfl (fun y => z (c.1.mp y)) ?_
      iterate 3 (refine WP.st rfl ?_)
      by_cases z2 : (P : Int) ≤ x.toInt
      · refine WP.ict rfl (show I 2 1 ≤ x by rw [h]; exact c.2.mpr z2) ?_
        iterate 1 (refine WP.st rfl ?_)
        rw [if_neg (by omega)]
        exact WP.ret rfl ⟨rfl, rfl⟩
      · skip
        refine WP.icf rfl (show ¬ I 2 1 ≤ x by rw [h]; exact fun y => z2 (c.2.mp y)) ?_
        iterate 2 (refine WP.st rfl ?_)
        rw [if_pos (by omega)]
        exact WP.ret rfl ⟨rfl, rfl⟩
  obtain ⟨rfl, rfl⟩ := q
  exact e
theorem ev_isTelling (L : Nat) (I : Nat → Nat → Int32) (J : Nat → Nat → Int64) (w : Nat → Nat) (N : Nat) (hN : N ≤ 20) (h : I 2 3 = nI N) (x : Int32) : EV m_DT_isTelling [.ref 2, .int x] (hp L I J w) (some (.int (if rg x N then 1 else 0))) (hp L I J w) := by
  obtain ⟨r, h', e, q⟩ : SP m_DT_isTelling [.ref 2, .int x] (hp L I J w) (fun r h' => r = some (.int (if rg x N then 1 else 0)) ∧ h' = hp L I J w) := by
    unfold SP
    have c := rg_test x (n := N) (by omega)
    iterate 1 (refine WP.st rfl ?_)
    by_cases z : x.toInt < 0
    · refine WP.ift rfl (c.1.mpr z) ?_
      iterate 1 (refine WP.st rfl ?_)
      rw [if_neg (by omega)]
      exact WP.ret rfl ⟨rfl, rfl⟩
    · skip
      refine WP.iff rfl (fun y => z (c.1.mp y)) ?_
      iterate 3 (refine WP.st rfl ?_)
      by_cases z2 : (N : Int) ≤ x.toInt
      · refine WP.ict rfl (show I 2 3 ≤ x by rw [h]; exact c.2.mpr z2) ?_
        iterate 1 (refine WP.st rfl ?_)
        rw [if_neg (by omega)]
        exact WP.ret rfl ⟨rfl, rfl⟩
      · skip
        refine WP.icf rfl (show ¬ I 2 3 ≤ x by rw [h]; exact fun y => z2 (c.2.mp y)) ?_
        iterate 2 (refine WP.st rfl ?_)
        rw [if_pos (by omega)]
        exact WP.ret rfl ⟨rfl, rfl⟩
  obtain ⟨rfl, rfl⟩ := q
  exact e
theorem ev_isBar (L : Nat) (I : Nat → Nat → Int32) (J : Nat → Nat → Int64) (w : Nat → Nat) (B : Nat) (hB : B ≤ 20) (h : I 141 1 = nI B) (x : Int32) : EV m_DT_isBar [.ref 2, .int x] (hp L I J w) (some (.int (if rg x B then 1 else 0))) (hp L I J w) := by
  obtain ⟨r, h', e, q⟩ : SP m_DT_isBar [.ref 2, .int x] (hp L I J w) (fun r h' => r = some (.int (if rg x B then 1 else 0)) ∧ h' = hp L I J w) := by
    unfold SP
    have c := rg_test x (n := B) (by omega)
    iterate 1 (refine WP.st rfl ?_)
    by_cases z : x.toInt < 0
    · refine WP.ift rfl (c.1.mpr z) ?_
      iterate 1 (refine WP.st rfl ?_)
      rw [if_neg (by omega)]
      exact WP.ret rfl ⟨rfl, rfl⟩
    · skip
      refine WP.iff rfl (fun y => z (c.1.mp y)) ?_
      iterate 4 (refine WP.st rfl ?_)
      by_cases z2 : (B : Int) ≤ x.toInt
      · refine WP.ict rfl (show I 141 1 ≤ x by rw [h]; exact c.2.mpr z2) ?_
        iterate 1 (refine WP.st rfl ?_)
        rw [if_neg (by omega)]
        exact WP.ret rfl ⟨rfl, rfl⟩
      · skip
        refine WP.icf rfl (show ¬ I 141 1 ≤ x by rw [h]; exact fun y => z2 (c.2.mp y)) ?_
        iterate 2 (refine WP.st rfl ?_)
        rw [if_pos (by omega)]
        exact WP.ret rfl ⟨rfl, rfl⟩
  obtain ⟨rfl, rfl⟩ := q
  exact e
theorem ev_isNumber (L : Nat) (I : Nat → Nat → Int32) (J : Nat → Nat → Int64) (w : Nat → Nat) (P : Nat) (hP : P ≤ 8) (h : I 2 1 = nI P) (x : Int32) : EV m_DT_isNumber [.ref 2, .int x] (hp L I J w) (some (.int (if rg x (2 * P : Nat) then 1 else 0))) (hp L I J w) := by
  obtain ⟨r, h', e, q⟩ : SP m_DT_isNumber [.ref 2, .int x] (hp L I J w) (fun r h' => r = some (.int (if rg x (2 * P : Nat) then 1 else 0)) ∧ h' = hp L I J w) := by
    unfold SP
    have c := rg_test x (n := 2 * P) (by omega)
    have e2 : (Int32.ofInt 2 * I 2 1 : Int32) = nI (2 * P) := by rw [h]; exact pk_mul 2 P
    iterate 1 (refine WP.st rfl ?_)
    by_cases z : x.toInt < 0
    · refine WP.ift rfl (c.1.mpr z) ?_
      iterate 1 (refine WP.st rfl ?_)
      rw [if_neg (by omega)]
      exact WP.ret rfl ⟨rfl, rfl⟩
    · skip
      refine WP.iff rfl (fun y => z (c.1.mp y)) ?_
      iterate 5 (refine WP.st rfl ?_)
      by_cases z2 : ((2 * P : Nat) : Int) ≤ x.toInt
      · refine WP.ict rfl (show (Int32.ofInt 2 * I 2 1 : Int32) ≤ x by rw [e2]; exact c.2.mpr z2) ?_
        iterate 1 (refine WP.st rfl ?_)
        rw [if_neg (by omega)]
        exact WP.ret rfl ⟨rfl, rfl⟩
      · skip
        refine WP.icf rfl (show ¬ (Int32.ofInt 2 * I 2 1 : Int32) ≤ x by rw [e2]; exact fun y => z2 (c.2.mp y)) ?_
        iterate 2 (refine WP.st rfl ?_)
        rw [if_pos (by omega)]
        exact WP.ret rfl ⟨rfl, rfl⟩
  obtain ⟨rfl, rfl⟩ := q
  exact e
theorem ev_isPair (L : Nat) (I : Nat → Nat → Int32) (J : Nat → Nat → Int64) (w : Nat → Nat) (P : Nat) (hP : P ≤ 8) (h : I 2 1 = nI P) (x y : Int32) : EV m_DT_isPair [.ref 2, .int x, .int y] (hp L I J w) (some (.int (if rg x P ∧ rg y P ∧ x ≠ y then 1 else 0))) (hp L I J w) := by
  obtain ⟨r, h', e, q⟩ : SP m_DT_isPair [.ref 2, .int x, .int y] (hp L I J w) (fun r h' => r = some (.int (if rg x P ∧ rg y P ∧ x ≠ y then 1 else 0)) ∧ h' = hp L I J w) := by
    unfold SP
    iterate 2 (refine WP.st rfl ?_)
    refine WP.calle rfl rfl (ev_isPoint L I J w P hP h x) ?_
    refine WP.bz rfl (fun z => ?_) (fun z => ?_)
    · skip
      iterate 1 (refine WP.st rfl ?_)
      rw [if_neg (fun k => z k.1)]
      exact WP.ret rfl ⟨rfl, rfl⟩
    · skip
      iterate 2 (refine WP.st rfl ?_)
      refine WP.calle rfl rfl (ev_isPoint L I J w P hP h y) ?_
      refine WP.bz rfl (fun z2 => ?_) (fun z2 => ?_)
      · skip
        iterate 1 (refine WP.st rfl ?_)
        rw [if_neg (fun k => z2 k.2.1)]
        exact WP.ret rfl ⟨rfl, rfl⟩
      · skip
        iterate 2 (refine WP.st rfl ?_)
        by_cases z3 : x = y
        · refine WP.ict rfl (z3) ?_
          iterate 1 (refine WP.st rfl ?_)
          rw [if_neg (fun k => k.2.2 z3)]
          exact WP.ret rfl ⟨rfl, rfl⟩
        · skip
          refine WP.icf rfl (z3) ?_
          iterate 2 (refine WP.st rfl ?_)
          rw [if_pos ⟨z, z2, z3⟩]
          exact WP.ret rfl ⟨rfl, rfl⟩
  obtain ⟨rfl, rfl⟩ := q
  exact e
/-! the same, in the reference -/
theorem in_eq' (x : Int32) (a b : Int) (h1 : -2 ^ 40 < a) (h2 : a < 2 ^ 40) (h3 : -2 ^ 40 < b) (h4 : b < 2 ^ 40) : (if zJ a ≤ x.toInt64 ∧ x.toInt64 ≤ zJ b then (1 : Int32) else 0) = if a ≤ x.toInt ∧ x.toInt ≤ b then 1 else 0 := by
  have := x_bd x
  rw [x_long x]
  have e1 : zJ a ≤ zJ x.toInt ↔ a ≤ x.toInt := zJ_le (by omega) (by omega) (by omega) (by omega)
  have e2 : zJ x.toInt ≤ zJ b ↔ x.toInt ≤ b := zJ_le (by omega) (by omega) (by omega) (by omega)
  by_cases z : a ≤ x.toInt ∧ x.toInt ≤ b
  · rw [if_pos z, if_pos ⟨e1.mpr z.1, e2.mpr z.2⟩]
  · rw [if_neg z, if_neg (fun y => z ⟨e1.mp y.1, e2.mp y.2⟩)]
theorem ev_inR (h : MH) (x : Int32) (a b : Int) (h1 : -2 ^ 40 < a) (h2 : a < 2 ^ 40) (h3 : -2 ^ 40 < b) (h4 : b < 2 ^ 40) : EV m_Mo_in [.long x.toInt64, .long (zJ a), .long (zJ b)] h (some (.int (if a ≤ x.toInt ∧ x.toInt ≤ b then 1 else 0))) h := by
  have := ev_in h x.toInt64 (zJ a) (zJ b)
  rw [in_eq' x a b h1 h2 h3 h4] at this
  exact this
theorem m1_long {n : Nat} (hn : n < 2 ^ 30) : (nI n - Int32.ofInt 1 : Int32).toInt64 = zJ ((n : Int) - 1) := by
  rw [nI_zI]
  show (zI (n : Int) - zI 1).toInt64 = _
  rw [zI_sub]
  exact zI_l (by omega) (by omega)
theorem rg_in (x : Int32) (n : Nat) : (if 0 ≤ x.toInt ∧ x.toInt ≤ (n : Int) - 1 then (1 : Int32) else 0) = if rg x n then 1 else 0 := by
  by_cases z : rg x n
  · rw [if_pos z, if_pos (by omega)]
  · rw [if_neg z, if_neg (by omega)]
theorem ev_misPoint (L : Nat) (I : Nat → Nat → Int32) (J : Nat → Nat → Int64) (w : Nat → Nat) (P : Nat) (hP : P ≤ 8) (h : I 208 0 = nI P) (x : Int32) : EV m_Mo_isPoint [.ref 208, .int x] (hp L I J w) (some (.int (if rg x P then 1 else 0))) (hp L I J w) := by
  obtain ⟨r, h', e, q⟩ : SP m_Mo_isPoint [.ref 208, .int x] (hp L I J w) (fun r h' => r = some (.int (if rg x P then 1 else 0)) ∧ h' = hp L I J w) := by
    unfold SP
    iterate 4 (refine WP.st rfl ?_)
    refine WP.get (v := .int (nI P)) rfl rfl (rfl) (congrArg Value.int h) ?_
    iterate 3 (refine WP.st rfl ?_)
    rw [m1_long (by omega)]
    refine WP.calle rfl rfl (ev_inR (hp L I J w) x 0 ((P : Int) - 1) (by decide) (by decide) (by omega) (by omega)) ?_
    rw [rg_in]
    refine WP.ret ?_ ⟨rfl, rfl⟩
    by_cases z : rg x P
    · rw [if_pos z]; rfl
    · rw [if_neg z]; rfl
  obtain ⟨rfl, rfl⟩ := q
  exact e
theorem ev_misTelling (L : Nat) (I : Nat → Nat → Int32) (J : Nat → Nat → Int64) (w : Nat → Nat) (N : Nat) (hN : N ≤ 20) (h : I 208 2 = nI N) (x : Int32) : EV m_Mo_isTelling [.ref 208, .int x] (hp L I J w) (some (.int (if rg x N then 1 else 0))) (hp L I J w) := by
  obtain ⟨r, h', e, q⟩ : SP m_Mo_isTelling [.ref 208, .int x] (hp L I J w) (fun r h' => r = some (.int (if rg x N then 1 else 0)) ∧ h' = hp L I J w) := by
    unfold SP
    iterate 4 (refine WP.st rfl ?_)
    refine WP.get (v := .int (nI N)) rfl rfl (rfl) (congrArg Value.int h) ?_
    iterate 3 (refine WP.st rfl ?_)
    rw [m1_long (by omega)]
    refine WP.calle rfl rfl (ev_inR (hp L I J w) x 0 ((N : Int) - 1) (by decide) (by decide) (by omega) (by omega)) ?_
    rw [rg_in]
    refine WP.ret ?_ ⟨rfl, rfl⟩
    by_cases z : rg x N
    · rw [if_pos z]; rfl
    · rw [if_neg z]; rfl
  obtain ⟨rfl, rfl⟩ := q
  exact e
theorem ev_misPair (L : Nat) (I : Nat → Nat → Int32) (J : Nat → Nat → Int64) (w : Nat → Nat) (P : Nat) (hP : P ≤ 8) (h : I 208 0 = nI P) (x y : Int32) : EV m_Mo_isPair [.ref 208, .int x, .int y] (hp L I J w) (some (.int (if rg x P ∧ rg y P ∧ x ≠ y then 1 else 0))) (hp L I J w) := by
  obtain ⟨r, h', e, q⟩ : SP m_Mo_isPair [.ref 208, .int x, .int y] (hp L I J w) (fun r h' => r = some (.int (if rg x P ∧ rg y P ∧ x ≠ y then 1 else 0)) ∧ h' = hp L I J w) := by
    unfold SP
    iterate 2 (refine WP.st rfl ?_)
    refine WP.calle rfl rfl (ev_misPoint L I J w P hP h x) ?_
    refine WP.bz rfl (fun z => ?_) (fun z => ?_)
    · skip
      iterate 1 (refine WP.st rfl ?_)
      rw [if_neg (fun k => z k.1)]
      exact WP.ret rfl ⟨rfl, rfl⟩
    · skip
      iterate 2 (refine WP.st rfl ?_)
      refine WP.calle rfl rfl (ev_misPoint L I J w P hP h y) ?_
      refine WP.bz rfl (fun z2 => ?_) (fun z2 => ?_)
      · skip
        iterate 1 (refine WP.st rfl ?_)
        rw [if_neg (fun k => z2 k.2.1)]
        exact WP.ret rfl ⟨rfl, rfl⟩
      · skip
        iterate 2 (refine WP.st rfl ?_)
        by_cases z3 : x = y
        · refine WP.ict rfl (z3) ?_
          iterate 1 (refine WP.st rfl ?_)
          rw [if_neg (fun k => k.2.2 z3)]
          exact WP.ret rfl ⟨rfl, rfl⟩
        · skip
          refine WP.icf rfl (z3) ?_
          iterate 2 (refine WP.st rfl ?_)
          rw [if_pos ⟨z, z2, z3⟩]
          exact WP.ret rfl ⟨rfl, rfl⟩
  obtain ⟨rfl, rfl⟩ := q
  exact e
