set_option maxHeartbeats 4000000 in
set_option maxRecDepth 20000 in
theorem la_ask (L : Nat) (I : Nat → Nat → Int32) (J : Nat → Nat → Int64) (w : Nat → Nat) (S : St) (i : Nat) (hL : L ≤ 2560) (hi : 5 * i + 5 ≤ L) (hc : CI I J w S) (hr : RI I J S) {Q : Option Value → MH → Prop} (kk : lK L i Q) : WP m_La_law (466, lC i, [], hp L I J w, 227, 5004) Q := by
  have bl : Nat.ble L 2560 = true := Nat.ble_eq_true_of_le hL
  iterate 5 (refine WP.st rfl ?_)
  refine WP.ialv (k := 5 * i + 1) (v := I 0 (5 * i + 1)) rfl (nI_k (5 * i) 1) (Or.inr rfl) (show 5 * i + 1 < L by omega) bl (rfl) ?_
  iterate 4 (refine WP.st rfl ?_)
  refine WP.ialv (k := 5 * i + 2) (v := I 0 (5 * i + 2)) rfl (nI_k (5 * i) 2) (Or.inr rfl) (show 5 * i + 2 < L by omega) bl (rfl) ?_
  refine WP.call rfl rfl (c_ask L I J w S hc (I 0 (5 * i + 1)) (I 0 (5 * i + 2))) ?_
  rintro v h2 ⟨rfl, I1, J1, w1, hf, hc1, rfl⟩
  have e0 : I1 0 = I 0 := (hf 0 (Or.inl (by decide))).1
  iterate 5 (refine WP.st rfl ?_)
  refine WP.ialv (k := 5 * i + 1) (v := I 0 (5 * i + 1)) rfl (nI_k (5 * i) 1) (Or.inr rfl) (show 5 * i + 1 < L by omega) bl (congrFun e0 _) ?_
  iterate 4 (refine WP.st rfl ?_)
  refine WP.ialv (k := 5 * i + 2) (v := I 0 (5 * i + 2)) rfl (nI_k (5 * i) 2) (Or.inr rfl) (show 5 * i + 2 < L by omega) bl (congrFun e0 _) ?_
  refine WP.call rfl rfl (m_ask L I1 J1 w1 S (RI_off hr hf) (I 0 (5 * i + 1)) (I 0 (5 * i + 2))) ?_
  rintro v h2 ⟨rfl, I2, J2, hf2, hr2, rfl⟩
  refine WP.ict rfl rfl ?_
  exact kk I2 J2 w1 _ (CI_off hc1 hf2) hr2
set_option maxHeartbeats 4000000 in
set_option maxRecDepth 20000 in
theorem la_holds (L : Nat) (I : Nat → Nat → Int32) (J : Nat → Nat → Int64) (w : Nat → Nat) (S : St) (i : Nat) (hL : L ≤ 2560) (hi : 5 * i + 5 ≤ L) (hc : CI I J w S) (hr : RI I J S) {Q : Option Value → MH → Prop} (kk : lK L i Q) : WP m_La_law (499, lC i, [], hp L I J w, 227, 5004) Q := by
  have bl : Nat.ble L 2560 = true := Nat.ble_eq_true_of_le hL
  iterate 1 (refine WP.st rfl ?_)
  refine WP.call rfl rfl (c_holds L I J w S hc ) ?_
  rintro v h2 ⟨rfl, I1, J1, w1, hf, hc1, rfl⟩
  have e0 : I1 0 = I 0 := (hf 0 (Or.inl (by decide))).1
  iterate 1 (refine WP.st rfl ?_)
  refine WP.call rfl rfl (m_holds L I1 J1 w1 S (RI_off hr hf) ) ?_
  rintro v h2 ⟨rfl, I2, J2, hf2, hr2, rfl⟩
  refine WP.ict rfl rfl ?_
  exact kk I2 J2 w1 _ (CI_off hc1 hf2) hr2
set_option maxHeartbeats 4000000 in
set_option maxRecDepth 20000 in
theorem la_nearest (L : Nat) (I : Nat → Nat → Int32) (J : Nat → Nat → Int64) (w : Nat → Nat) (S : St) (i : Nat) (hL : L ≤ 2560) (hi : 5 * i + 5 ≤ L) (hc : CI I J w S) (hr : RI I J S) {Q : Option Value → MH → Prop} (kk : lK L i Q) : WP m_La_law (512, lC i, [], hp L I J w, 227, 5004) Q := by
  have bl : Nat.ble L 2560 = true := Nat.ble_eq_true_of_le hL
  iterate 5 (refine WP.st rfl ?_)
  refine WP.ialv (k := 5 * i + 1) (v := I 0 (5 * i + 1)) rfl (nI_k (5 * i) 1) (Or.inr rfl) (show 5 * i + 1 < L by omega) bl (rfl) ?_
  refine WP.call rfl rfl (c_nearest L I J w S hc (I 0 (5 * i + 1))) ?_
  rintro v h2 ⟨rfl, I1, J1, w1, hf, hc1, rfl⟩
  have e0 : I1 0 = I 0 := (hf 0 (Or.inl (by decide))).1
  iterate 5 (refine WP.st rfl ?_)
  refine WP.ialv (k := 5 * i + 1) (v := I 0 (5 * i + 1)) rfl (nI_k (5 * i) 1) (Or.inr rfl) (show 5 * i + 1 < L by omega) bl (congrFun e0 _) ?_
  refine WP.call rfl rfl (m_nearest L I1 J1 w1 S (RI_off hr hf) (I 0 (5 * i + 1))) ?_
  rintro v h2 ⟨rfl, I2, J2, hf2, hr2, rfl⟩
  refine WP.ict rfl rfl ?_
  exact kk I2 J2 w1 _ (CI_off hc1 hf2) hr2
set_option maxHeartbeats 4000000 in
set_option maxRecDepth 20000 in
theorem la_strain (L : Nat) (I : Nat → Nat → Int32) (J : Nat → Nat → Int64) (w : Nat → Nat) (S : St) (i : Nat) (hL : L ≤ 2560) (hi : 5 * i + 5 ≤ L) (hc : CI I J w S) (hr : RI I J S) {Q : Option Value → MH → Prop} (kk : lK L i Q) : WP m_La_law (535, lC i, [], hp L I J w, 227, 5004) Q := by
  have bl : Nat.ble L 2560 = true := Nat.ble_eq_true_of_le hL
  iterate 1 (refine WP.st rfl ?_)
  refine WP.call rfl rfl (c_strain L I J w S hc ) ?_
  rintro v h2 ⟨rfl, I1, J1, w1, hf, hc1, rfl⟩
  have e0 : I1 0 = I 0 := (hf 0 (Or.inl (by decide))).1
  iterate 1 (refine WP.st rfl ?_)
  refine WP.call rfl rfl (m_strain L I1 J1 w1 S (RI_off hr hf) ) ?_
  rintro v h2 ⟨rfl, I2, J2, hf2, hr2, rfl⟩
  refine WP.ict rfl rfl ?_
  exact kk I2 J2 w1 _ (CI_off hc1 hf2) hr2
set_option maxHeartbeats 4000000 in
set_option maxRecDepth 20000 in
theorem la_drag (L : Nat) (I : Nat → Nat → Int32) (J : Nat → Nat → Int64) (w : Nat → Nat) (S : St) (i : Nat) (hL : L ≤ 2560) (hi : 5 * i + 5 ≤ L) (hc : CI I J w S) (hr : RI I J S) {Q : Option Value → MH → Prop} (kk : lK L i Q) : WP m_La_law (548, lC i, [], hp L I J w, 227, 5004) Q := by
  have bl : Nat.ble L 2560 = true := Nat.ble_eq_true_of_le hL
  iterate 5 (refine WP.st rfl ?_)
  refine WP.ialv (k := 5 * i + 1) (v := I 0 (5 * i + 1)) rfl (nI_k (5 * i) 1) (Or.inr rfl) (show 5 * i + 1 < L by omega) bl (rfl) ?_
  iterate 4 (refine WP.st rfl ?_)
  refine WP.ialv (k := 5 * i + 2) (v := I 0 (5 * i + 2)) rfl (nI_k (5 * i) 2) (Or.inr rfl) (show 5 * i + 2 < L by omega) bl (rfl) ?_
  iterate 4 (refine WP.st rfl ?_)
  refine WP.ialv (k := 5 * i + 3) (v := I 0 (5 * i + 3)) rfl (nI_k (5 * i) 3) (Or.inr rfl) (show 5 * i + 3 < L by omega) bl (rfl) ?_
  iterate 4 (refine WP.st rfl ?_)
  refine WP.ialv (k := 5 * i + 4) (v := I 0 (5 * i + 4)) rfl (nI_k (5 * i) 4) (Or.inr rfl) (show 5 * i + 4 < L by omega) bl (rfl) ?_
  refine WP.call rfl rfl (c_drag L I J w S hc (I 0 (5 * i + 1)) (I 0 (5 * i + 2)) (I 0 (5 * i + 3)) (I 0 (5 * i + 4))) ?_
  rintro v h2 ⟨rfl, I1, J1, w1, hf, hc1, rfl⟩
  have e0 : I1 0 = I 0 := (hf 0 (Or.inl (by decide))).1
  iterate 5 (refine WP.st rfl ?_)
  refine WP.ialv (k := 5 * i + 1) (v := I 0 (5 * i + 1)) rfl (nI_k (5 * i) 1) (Or.inr rfl) (show 5 * i + 1 < L by omega) bl (congrFun e0 _) ?_
  iterate 4 (refine WP.st rfl ?_)
  refine WP.ialv (k := 5 * i + 2) (v := I 0 (5 * i + 2)) rfl (nI_k (5 * i) 2) (Or.inr rfl) (show 5 * i + 2 < L by omega) bl (congrFun e0 _) ?_
  iterate 4 (refine WP.st rfl ?_)
  refine WP.ialv (k := 5 * i + 3) (v := I 0 (5 * i + 3)) rfl (nI_k (5 * i) 3) (Or.inr rfl) (show 5 * i + 3 < L by omega) bl (congrFun e0 _) ?_
  iterate 4 (refine WP.st rfl ?_)
  refine WP.ialv (k := 5 * i + 4) (v := I 0 (5 * i + 4)) rfl (nI_k (5 * i) 4) (Or.inr rfl) (show 5 * i + 4 < L by omega) bl (congrFun e0 _) ?_
  refine WP.call rfl rfl (m_drag L I1 J1 w1 S (RI_off hr hf) (I 0 (5 * i + 1)) (I 0 (5 * i + 2)) (I 0 (5 * i + 3)) (I 0 (5 * i + 4))) ?_
  rintro v h2 ⟨rfl, I2, J2, hf2, hr2, rfl⟩
  refine WP.ict rfl rfl ?_
  exact kk I2 J2 w1 _ (CI_off hc1 hf2) hr2
set_option maxHeartbeats 4000000 in
set_option maxRecDepth 20000 in
theorem la_sign (L : Nat) (I : Nat → Nat → Int32) (J : Nat → Nat → Int64) (w : Nat → Nat) (S : St) (i : Nat) (hL : L ≤ 2560) (hi : 5 * i + 5 ≤ L) (hc : CI I J w S) (hr : RI I J S) {Q : Option Value → MH → Prop} (kk : lK L i Q) : WP m_La_law (601, lC i, [], hp L I J w, 227, 5004) Q := by
  have bl : Nat.ble L 2560 = true := Nat.ble_eq_true_of_le hL
  iterate 5 (refine WP.st rfl ?_)
  refine WP.ialv (k := 5 * i + 1) (v := I 0 (5 * i + 1)) rfl (nI_k (5 * i) 1) (Or.inr rfl) (show 5 * i + 1 < L by omega) bl (rfl) ?_
  refine WP.call rfl rfl (c_sign L I J w S hc (I 0 (5 * i + 1))) ?_
  rintro v h2 ⟨rfl, I1, J1, w1, hf, hc1, rfl⟩
  have e0 : I1 0 = I 0 := (hf 0 (Or.inl (by decide))).1
  iterate 5 (refine WP.st rfl ?_)
  refine WP.ialv (k := 5 * i + 1) (v := I 0 (5 * i + 1)) rfl (nI_k (5 * i) 1) (Or.inr rfl) (show 5 * i + 1 < L by omega) bl (congrFun e0 _) ?_
  refine WP.call rfl rfl (m_sign L I1 J1 w1 S (RI_off hr hf) (I 0 (5 * i + 1))) ?_
  rintro v h2 ⟨rfl, I2, J2, hf2, hr2, rfl⟩
  refine WP.ict rfl rfl ?_
  exact kk I2 J2 w1 _ (CI_off hc1 hf2) hr2
