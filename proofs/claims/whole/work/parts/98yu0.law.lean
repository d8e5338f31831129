/-! the law's rows -/
abbrev lC (i : Nat) : ML := [some (.ref 0), some (.ref 2), some (.ref 208), some (.int (nI (5 * i)))]
theorem nI_k (n c : Nat) : nI n + Int32.ofInt (c : Int) = nI (n + c) := by
  have e : nI c = Int32.ofInt (c : Int) := nI_zI c
  rw [← e]
  exact (Int32.ofNat_add n c).symm
theorem WP.ialv {mid pc : Nat} {L : ML} {sk : List Value} {h : MH} {cu su : Nat} {Q : Option Value → MH → Prop} {x v : Int32} {a k : Nat} (hf : mm_fet mid pc = some (.iaload, 1, 0)) (hx : x = nI k) (hk : hK h a = 9 ∨ hK h a = 20) (hb : k < hL h a) (hl : Nat.ble (hL h a) 2560 = true) (hv : hI h a k = v) (kk : WP mid (pc + 1, L, .int v :: sk, h, cu, su) Q) : WP mid (pc, L, .int x :: .ref a :: sk, h, cu, su) Q := by
  subst hv
  exact WP.iald hf hx hk hb hl kk
/-- what a row of the law needs of the rest -/
abbrev lK (L i : Nat) (Q : Option Value → MH → Prop) : Prop := ∀ (I' : Nat → Nat → Int32) (J' : Nat → Nat → Int64) (w' : Nat → Nat) (S' : St), CI I' J' w' S' → RI I' J' S' → WP m_La_law (921, lC i, [], hp L I' J' w', 227, 5004) Q
set_option maxHeartbeats 4000000 in
set_option maxRecDepth 20000 in
theorem la_point (L : Nat) (I : Nat → Nat → Int32) (J : Nat → Nat → Int64) (w : Nat → Nat) (S : St) (i : Nat) (hL : L ≤ 2560) (hi : 5 * i + 5 ≤ L) (hc : CI I J w S) (hr : RI I J S) {Q : Option Value → MH → Prop} (kk : lK L i Q) : WP m_La_law (160, lC i, [], hp L I J w, 227, 5004) Q := by
  have bl : Nat.ble L 2560 = true := Nat.ble_eq_true_of_le hL
  iterate 5 (refine WP.st rfl ?_)
  refine WP.ialv (k := 5 * i + 1) (v := I 0 (5 * i + 1)) rfl (nI_k (5 * i) 1) (Or.inr rfl) (show 5 * i + 1 < L by omega) bl (rfl) ?_
  iterate 4 (refine WP.st rfl ?_)
  refine WP.ialv (k := 5 * i + 2) (v := I 0 (5 * i + 2)) rfl (nI_k (5 * i) 2) (Or.inr rfl) (show 5 * i + 2 < L by omega) bl (rfl) ?_
  refine WP.call rfl rfl (c_point L I J w S hc (I 0 (5 * i + 1)) (I 0 (5 * i + 2))) ?_
  rintro v h2 ⟨rfl, I1, J1, w1, hf, hc1, rfl⟩
  have e0 : I1 0 = I 0 := (hf 0 (Or.inl (by decide))).1
  iterate 5 (refine WP.st rfl ?_)
  refine WP.ialv (k := 5 * i + 1) (v := I 0 (5 * i + 1)) rfl (nI_k (5 * i) 1) (Or.inr rfl) (show 5 * i + 1 < L by omega) bl (congrFun e0 _) ?_
  iterate 4 (refine WP.st rfl ?_)
  refine WP.ialv (k := 5 * i + 2) (v := I 0 (5 * i + 2)) rfl (nI_k (5 * i) 2) (Or.inr rfl) (show 5 * i + 2 < L by omega) bl (congrFun e0 _) ?_
  refine WP.call rfl rfl (m_point L I1 J1 w1 S (RI_off hr hf) (I 0 (5 * i + 1)) (I 0 (5 * i + 2))) ?_
  rintro v h2 ⟨rfl, I2, J2, hf2, hr2, rfl⟩
  refine WP.ict rfl rfl ?_
  exact kk I2 J2 w1 _ (CI_off hc1 hf2) hr2
set_option maxHeartbeats 4000000 in
set_option maxRecDepth 20000 in
theorem la_rough (L : Nat) (I : Nat → Nat → Int32) (J : Nat → Nat → Int64) (w : Nat → Nat) (S : St) (i : Nat) (hL : L ≤ 2560) (hi : 5 * i + 5 ≤ L) (hc : CI I J w S) (hr : RI I J S) {Q : Option Value → MH → Prop} (kk : lK L i Q) : WP m_La_law (193, lC i, [], hp L I J w, 227, 5004) Q := by
  have bl : Nat.ble L 2560 = true := Nat.ble_eq_true_of_le hL
  iterate 5 (refine WP.st rfl ?_)
  refine WP.ialv (k := 5 * i + 1) (v := I 0 (5 * i + 1)) rfl (nI_k (5 * i) 1) (Or.inr rfl) (show 5 * i + 1 < L by omega) bl (rfl) ?_
  iterate 4 (refine WP.st rfl ?_)
  refine WP.ialv (k := 5 * i + 2) (v := I 0 (5 * i + 2)) rfl (nI_k (5 * i) 2) (Or.inr rfl) (show 5 * i + 2 < L by omega) bl (rfl) ?_
  iterate 4 (refine WP.st rfl ?_)
  refine WP.ialv (k := 5 * i + 3) (v := I 0 (5 * i + 3)) rfl (nI_k (5 * i) 3) (Or.inr rfl) (show 5 * i + 3 < L by omega) bl (rfl) ?_
  refine WP.call rfl rfl (c_rough L I J w S hc (I 0 (5 * i + 1)) (I 0 (5 * i + 2)) (I 0 (5 * i + 3))) ?_
  rintro v h2 ⟨rfl, I1, J1, w1, hf, hc1, rfl⟩
  have e0 : I1 0 = I 0 := (hf 0 (Or.inl (by decide))).1
  iterate 5 (refine WP.st rfl ?_)
  refine WP.ialv (k := 5 * i + 1) (v := I 0 (5 * i + 1)) rfl (nI_k (5 * i) 1) (Or.inr rfl) (show 5 * i + 1 < L by omega) bl (congrFun e0 _) ?_
  iterate 4 (refine WP.st rfl ?_)
  refine WP.ialv (k := 5 * i + 2) (v := I 0 (5 * i + 2)) rfl (nI_k (5 * i) 2) (Or.inr rfl) (show 5 * i + 2 < L by omega) bl (congrFun e0 _) ?_
  iterate 4 (refine WP.st rfl ?_)
  refine WP.ialv (k := 5 * i + 3) (v := I 0 (5 * i + 3)) rfl (nI_k (5 * i) 3) (Or.inr rfl) (show 5 * i + 3 < L by omega) bl (congrFun e0 _) ?_
  refine WP.call rfl rfl (m_rough L I1 J1 w1 S (RI_off hr hf) (I 0 (5 * i + 1)) (I 0 (5 * i + 2)) (I 0 (5 * i + 3))) ?_
  rintro v h2 ⟨rfl, I2, J2, hf2, hr2, rfl⟩
  refine WP.ict rfl rfl ?_
  exact kk I2 J2 w1 _ (CI_off hc1 hf2) hr2
set_option maxHeartbeats 4000000 in
set_option maxRecDepth 20000 in
theorem la_telling (L : Nat) (I : Nat → Nat → Int32) (J : Nat → Nat → Int64) (w : Nat → Nat) (S : St) (i : Nat) (hL : L ≤ 2560) (hi : 5 * i + 5 ≤ L) (hc : CI I J w S) (hr : RI I J S) {Q : Option Value → MH → Prop} (kk : lK L i Q) : WP m_La_law (236, lC i, [], hp L I J w, 227, 5004) Q := by
  have bl : Nat.ble L 2560 = true := Nat.ble_eq_true_of_le hL
  iterate 5 (refine WP.st rfl ?_)
  refine WP.ialv (k := 5 * i + 1) (v := I 0 (5 * i + 1)) rfl (nI_k (5 * i) 1) (Or.inr rfl) (show 5 * i + 1 < L by omega) bl (rfl) ?_
  refine WP.call rfl rfl (c_telling L I J w S hc (I 0 (5 * i + 1))) ?_
  rintro v h2 ⟨rfl, I1, J1, w1, hf, hc1, rfl⟩
  have e0 : I1 0 = I 0 := (hf 0 (Or.inl (by decide))).1
  iterate 5 (refine WP.st rfl ?_)
  refine WP.ialv (k := 5 * i + 1) (v := I 0 (5 * i + 1)) rfl (nI_k (5 * i) 1) (Or.inr rfl) (show 5 * i + 1 < L by omega) bl (congrFun e0 _) ?_
  refine WP.call rfl rfl (m_telling L I1 J1 w1 S (RI_off hr hf) (I 0 (5 * i + 1))) ?_
  rintro v h2 ⟨rfl, I2, J2, hf2, hr2, rfl⟩
  refine WP.ict rfl rfl ?_
  exact kk I2 J2 w1 _ (CI_off hc1 hf2) hr2
set_option maxHeartbeats 4000000 in
set_option maxRecDepth 20000 in
theorem la_term (L : Nat) (I : Nat → Nat → Int32) (J : Nat → Nat → Int64) (w : Nat → Nat) (S : St) (i : Nat) (hL : L ≤ 2560) (hi : 5 * i + 5 ≤ L) (hc : CI I J w S) (hr : RI I J S) {Q : Option Value → MH → Prop} (kk : lK L i Q) : WP m_La_law (259, lC i, [], hp L I J w, 227, 5004) Q := by
  have bl : Nat.ble L 2560 = true := Nat.ble_eq_true_of_le hL
  iterate 5 (refine WP.st rfl ?_)
  refine WP.ialv (k := 5 * i + 1) (v := I 0 (5 * i + 1)) rfl (nI_k (5 * i) 1) (Or.inr rfl) (show 5 * i + 1 < L by omega) bl (rfl) ?_
  iterate 4 (refine WP.st rfl ?_)
  refine WP.ialv (k := 5 * i + 2) (v := I 0 (5 * i + 2)) rfl (nI_k (5 * i) 2) (Or.inr rfl) (show 5 * i + 2 < L by omega) bl (rfl) ?_
  iterate 4 (refine WP.st rfl ?_)
  refine WP.ialv (k := 5 * i + 3) (v := I 0 (5 * i + 3)) rfl (nI_k (5 * i) 3) (Or.inr rfl) (show 5 * i + 3 < L by omega) bl (rfl) ?_
  refine WP.call rfl rfl (c_term L I J w S hc (I 0 (5 * i + 1)) (I 0 (5 * i + 2)) (I 0 (5 * i + 3))) ?_
  rintro v h2 ⟨rfl, I1, J1, w1, hf, hc1, rfl⟩
  have e0 : I1 0 = I 0 := (hf 0 (Or.inl (by decide))).1
  iterate 5 (refine WP.st rfl ?_)
  refine WP.ialv (k := 5 * i + 1) (v := I 0 (5 * i + 1)) rfl (nI_k (5 * i) 1) (Or.inr rfl) (show 5 * i + 1 < L by omega) bl (congrFun e0 _) ?_
  iterate 4 (refine WP.st rfl ?_)
  refine WP.ialv (k := 5 * i + 2) (v := I 0 (5 * i + 2)) rfl (nI_k (5 * i) 2) (Or.inr rfl) (show 5 * i + 2 < L by omega) bl (congrFun e0 _) ?_
  iterate 4 (refine WP.st rfl ?_)
  refine WP.ialv (k := 5 * i + 3) (v := I 0 (5 * i + 3)) rfl (nI_k (5 * i) 3) (Or.inr rfl) (show 5 * i + 3 < L by omega) bl (congrFun e0 _) ?_
  refine WP.call rfl rfl (m_term L I1 J1 w1 S (RI_off hr hf) (I 0 (5 * i + 1)) (I 0 (5 * i + 2)) (I 0 (5 * i + 3))) ?_
  rintro v h2 ⟨rfl, I2, J2, hf2, hr2, rfl⟩
  refine WP.ict rfl rfl ?_
  exact kk I2 J2 w1 _ (CI_off hc1 hf2) hr2
