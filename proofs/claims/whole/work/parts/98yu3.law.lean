set_option maxHeartbeats 4000000 in
set_option maxRecDepth 20000 in
theorem la_limb (L : Nat) (I : Nat → Nat → Int32) (J : Nat → Nat → Int64) (w : Nat → Nat) (S : St) (i : Nat) (hL : L ≤ 2560) (hi : 5 * i + 5 ≤ L) (hc : CI I J w S) (hr : RI I J S) {Q : Option Value → MH → Prop} (kk : lK L i Q) : WP m_La_law (624, lC i, [], hp L I J w, 227, 5004) Q := by
  have bl : Nat.ble L 2560 = true := Nat.ble_eq_true_of_le hL
  iterate 5 (refine WP.st rfl ?_)
  refine WP.ialv (k := 5 * i + 1) (v := I 0 (5 * i + 1)) rfl (nI_k (5 * i) 1) (Or.inr rfl) (show 5 * i + 1 < L by omega) bl (rfl) ?_
  iterate 4 (refine WP.st rfl ?_)
  refine WP.ialv (k := 5 * i + 2) (v := I 0 (5 * i + 2)) rfl (nI_k (5 * i) 2) (Or.inr rfl) (show 5 * i + 2 < L by omega) bl (rfl) ?_
  refine WP.call rfl rfl (c_limb L I J w S hc (I 0 (5 * i + 1)) (I 0 (5 * i + 2))) ?_
  rintro v h2 ⟨rfl, I1, J1, w1, hf, hc1, rfl⟩
  have e0 : I1 0 = I 0 := (hf 0 (Or.inl (by decide))).1
  iterate 5 (refine WP.st rfl ?_)
  refine WP.ialv (k := 5 * i + 1) (v := I 0 (5 * i + 1)) rfl (nI_k (5 * i) 1) (Or.inr rfl) (show 5 * i + 1 < L by omega) bl (congrFun e0 _) ?_
  iterate 4 (refine WP.st rfl ?_)
  refine WP.ialv (k := 5 * i + 2) (v := I 0 (5 * i + 2)) rfl (nI_k (5 * i) 2) (Or.inr rfl) (show 5 * i + 2 < L by omega) bl (congrFun e0 _) ?_
  refine WP.call rfl rfl (m_limb L I1 J1 w1 S (RI_off hr hf) (I 0 (5 * i + 1)) (I 0 (5 * i + 2))) ?_
  rintro v h2 ⟨rfl, I2, J2, hf2, hr2, rfl⟩
  refine WP.ict rfl rfl ?_
  exact kk I2 J2 w1 _ (CI_off hc1 hf2) hr2
set_option maxHeartbeats 4000000 in
set_option maxRecDepth 20000 in
theorem la_bar (L : Nat) (I : Nat → Nat → Int32) (J : Nat → Nat → Int64) (w : Nat → Nat) (S : St) (i : Nat) (hL : L ≤ 2560) (hi : 5 * i + 5 ≤ L) (hc : CI I J w S) (hr : RI I J S) {Q : Option Value → MH → Prop} (kk : lK L i Q) : WP m_La_law (657, lC i, [], hp L I J w, 227, 5004) Q := by
  have bl : Nat.ble L 2560 = true := Nat.ble_eq_true_of_le hL
  iterate 5 (refine WP.st rfl ?_)
  refine WP.ialv (k := 5 * i + 1) (v := I 0 (5 * i + 1)) rfl (nI_k (5 * i) 1) (Or.inr rfl) (show 5 * i + 1 < L by omega) bl (rfl) ?_
  iterate 4 (refine WP.st rfl ?_)
  refine WP.ialv (k := 5 * i + 2) (v := I 0 (5 * i + 2)) rfl (nI_k (5 * i) 2) (Or.inr rfl) (show 5 * i + 2 < L by omega) bl (rfl) ?_
  refine WP.call rfl rfl (c_bar L I J w S hc (I 0 (5 * i + 1)) (I 0 (5 * i + 2))) ?_
  rintro v h2 ⟨rfl, I1, J1, w1, hf, hc1, rfl⟩
  have e0 : I1 0 = I 0 := (hf 0 (Or.inl (by decide))).1
  iterate 5 (refine WP.st rfl ?_)
  refine WP.ialv (k := 5 * i + 1) (v := I 0 (5 * i + 1)) rfl (nI_k (5 * i) 1) (Or.inr rfl) (show 5 * i + 1 < L by omega) bl (congrFun e0 _) ?_
  iterate 4 (refine WP.st rfl ?_)
  refine WP.ialv (k := 5 * i + 2) (v := I 0 (5 * i + 2)) rfl (nI_k (5 * i) 2) (Or.inr rfl) (show 5 * i + 2 < L by omega) bl (congrFun e0 _) ?_
  refine WP.call rfl rfl (m_bar L I1 J1 w1 S (RI_off hr hf) (I 0 (5 * i + 1)) (I 0 (5 * i + 2))) ?_
  rintro v h2 ⟨rfl, I2, J2, hf2, hr2, rfl⟩
  refine WP.ict rfl rfl ?_
  exact kk I2 J2 w1 _ (CI_off hc1 hf2) hr2
set_option maxHeartbeats 4000000 in
set_option maxRecDepth 20000 in
theorem la_sortOf (L : Nat) (I : Nat → Nat → Int32) (J : Nat → Nat → Int64) (w : Nat → Nat) (S : St) (i : Nat) (hL : L ≤ 2560) (hi : 5 * i + 5 ≤ L) (hc : CI I J w S) (hr : RI I J S) {Q : Option Value → MH → Prop} (kk : lK L i Q) : WP m_La_law (690, lC i, [], hp L I J w, 227, 5004) Q := by
  have bl : Nat.ble L 2560 = true := Nat.ble_eq_true_of_le hL
  iterate 5 (refine WP.st rfl ?_)
  refine WP.ialv (k := 5 * i + 1) (v := I 0 (5 * i + 1)) rfl (nI_k (5 * i) 1) (Or.inr rfl) (show 5 * i + 1 < L by omega) bl (rfl) ?_
  refine WP.call rfl rfl (c_sortOf L I J w S hc (I 0 (5 * i + 1))) ?_
  rintro v h2 ⟨rfl, I1, J1, w1, hf, hc1, rfl⟩
  have e0 : I1 0 = I 0 := (hf 0 (Or.inl (by decide))).1
  iterate 5 (refine WP.st rfl ?_)
  refine WP.ialv (k := 5 * i + 1) (v := I 0 (5 * i + 1)) rfl (nI_k (5 * i) 1) (Or.inr rfl) (show 5 * i + 1 < L by omega) bl (congrFun e0 _) ?_
  refine WP.call rfl rfl (m_sortOf L I1 J1 w1 S (RI_off hr hf) (I 0 (5 * i + 1))) ?_
  rintro v h2 ⟨rfl, I2, J2, hf2, hr2, rfl⟩
  refine WP.ict rfl rfl ?_
  exact kk I2 J2 w1 _ (CI_off hc1 hf2) hr2
set_option maxHeartbeats 4000000 in
set_option maxRecDepth 20000 in
theorem la_bars (L : Nat) (I : Nat → Nat → Int32) (J : Nat → Nat → Int64) (w : Nat → Nat) (S : St) (i : Nat) (hL : L ≤ 2560) (hi : 5 * i + 5 ≤ L) (hc : CI I J w S) (hr : RI I J S) {Q : Option Value → MH → Prop} (kk : lK L i Q) : WP m_La_law (713, lC i, [], hp L I J w, 227, 5004) Q := by
  have bl : Nat.ble L 2560 = true := Nat.ble_eq_true_of_le hL
  iterate 5 (refine WP.st rfl ?_)
  refine WP.ialv (k := 5 * i + 1) (v := I 0 (5 * i + 1)) rfl (nI_k (5 * i) 1) (Or.inr rfl) (show 5 * i + 1 < L by omega) bl (rfl) ?_
  refine WP.call rfl rfl (c_bars L I J w S hc (I 0 (5 * i + 1))) ?_
  rintro v h2 ⟨rfl, I1, J1, w1, hf, hc1, rfl⟩
  have e0 : I1 0 = I 0 := (hf 0 (Or.inl (by decide))).1
  iterate 5 (refine WP.st rfl ?_)
  refine WP.ialv (k := 5 * i + 1) (v := I 0 (5 * i + 1)) rfl (nI_k (5 * i) 1) (Or.inr rfl) (show 5 * i + 1 < L by omega) bl (congrFun e0 _) ?_
  refine WP.call rfl rfl (m_bars L I1 J1 w1 S (RI_off hr hf) (I 0 (5 * i + 1))) ?_
  rintro v h2 ⟨rfl, I2, J2, hf2, hr2, rfl⟩
  refine WP.ict rfl rfl ?_
  exact kk I2 J2 w1 _ (CI_off hc1 hf2) hr2
set_option maxHeartbeats 4000000 in
set_option maxRecDepth 20000 in
theorem la_round (L : Nat) (I : Nat → Nat → Int32) (J : Nat → Nat → Int64) (w : Nat → Nat) (S : St) (i : Nat) (hL : L ≤ 2560) (hi : 5 * i + 5 ≤ L) (hc : CI I J w S) (hr : RI I J S) {Q : Option Value → MH → Prop} (kk : lK L i Q) : WP m_La_law (736, lC i, [], hp L I J w, 227, 5004) Q := by
  have bl : Nat.ble L 2560 = true := Nat.ble_eq_true_of_le hL
  iterate 5 (refine WP.st rfl ?_)
  refine WP.ialv (k := 5 * i + 1) (v := I 0 (5 * i + 1)) rfl (nI_k (5 * i) 1) (Or.inr rfl) (show 5 * i + 1 < L by omega) bl (rfl) ?_
  refine WP.call rfl rfl (c_round L I J w S hc (I 0 (5 * i + 1))) ?_
  rintro v h2 ⟨rfl, I1, J1, w1, hf, hc1, rfl⟩
  have e0 : I1 0 = I 0 := (hf 0 (Or.inl (by decide))).1
  iterate 5 (refine WP.st rfl ?_)
  refine WP.ialv (k := 5 * i + 1) (v := I 0 (5 * i + 1)) rfl (nI_k (5 * i) 1) (Or.inr rfl) (show 5 * i + 1 < L by omega) bl (congrFun e0 _) ?_
  refine WP.call rfl rfl (m_round L I1 J1 w1 S (RI_off hr hf) (I 0 (5 * i + 1))) ?_
  rintro v h2 ⟨rfl, I2, J2, hf2, hr2, rfl⟩
  refine WP.ict rfl rfl ?_
  exact kk I2 J2 w1 _ (CI_off hc1 hf2) hr2
set_option maxHeartbeats 4000000 in
set_option maxRecDepth 20000 in
theorem la_kept (L : Nat) (I : Nat → Nat → Int32) (J : Nat → Nat → Int64) (w : Nat → Nat) (S : St) (i : Nat) (hL : L ≤ 2560) (hi : 5 * i + 5 ≤ L) (hc : CI I J w S) (hr : RI I J S) {Q : Option Value → MH → Prop} (kk : lK L i Q) : WP m_La_law (759, lC i, [], hp L I J w, 227, 5004) Q := by
  have bl : Nat.ble L 2560 = true := Nat.ble_eq_true_of_le hL
  iterate 5 (refine WP.st rfl ?_)
  refine WP.ialv (k := 5 * i + 1) (v := I 0 (5 * i + 1)) rfl (nI_k (5 * i) 1) (Or.inr rfl) (show 5 * i + 1 < L by omega) bl (rfl) ?_
  iterate 4 (refine WP.st rfl ?_)
  refine WP.ialv (k := 5 * i + 2) (v := I 0 (5 * i + 2)) rfl (nI_k (5 * i) 2) (Or.inr rfl) (show 5 * i + 2 < L by omega) bl (rfl) ?_
  refine WP.call rfl rfl (c_kept L I J w S hc (I 0 (5 * i + 1)) (I 0 (5 * i + 2))) ?_
  rintro v h2 ⟨rfl, I1, J1, w1, hf, hc1, rfl⟩
  have e0 : I1 0 = I 0 := (hf 0 (Or.inl (by decide))).1
  iterate 5 (refine WP.st rfl ?_)
  refine WP.ialv (k := 5 * i + 1) (v := I 0 (5 * i + 1)) rfl (nI_k (5 * i) 1) (Or.inr rfl) (show 5 * i + 1 < L by omega) bl (congrFun e0 _) ?_
  iterate 4 (refine WP.st rfl ?_)
  refine WP.ialv (k := 5 * i + 2) (v := I 0 (5 * i + 2)) rfl (nI_k (5 * i) 2) (Or.inr rfl) (show 5 * i + 2 < L by omega) bl (congrFun e0 _) ?_
  refine WP.call rfl rfl (m_kept L I1 J1 w1 S (RI_off hr hf) (I 0 (5 * i + 1)) (I 0 (5 * i + 2))) ?_
  rintro v h2 ⟨rfl, I2, J2, hf2, hr2, rfl⟩
  refine WP.ict rfl rfl ?_
  exact kk I2 J2 w1 _ (CI_off hc1 hf2) hr2
