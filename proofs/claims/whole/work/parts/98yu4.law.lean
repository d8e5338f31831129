set_option maxHeartbeats 4000000 in
set_option maxRecDepth 20000 in
theorem la_piece (L : Nat) (I : Nat → Nat → Int32) (J : Nat → Nat → Int64) (w : Nat → Nat) (S : St) (i : Nat) (hL : L ≤ 2560) (hi : 5 * i + 5 ≤ L) (hc : CI I J w S) (hr : RI I J S) {Q : Option Value → MH → Prop} (kk : lK L i Q) : WP m_La_law (792, lC i, [], hp L I J w, 227, 5004) Q := by
  have bl : Nat.ble L 2560 = true := Nat.ble_eq_true_of_le hL
  iterate 5 (refine WP.st rfl ?_)
  refine WP.ialv (k := 5 * i + 1) (v := I 0 (5 * i + 1)) rfl (nI_k (5 * i) 1) (Or.inr rfl) (show 5 * i + 1 < L by omega) bl (rfl) ?_
  iterate 4 (refine WP.st rfl ?_)
  refine WP.ialv (k := 5 * i + 2) (v := I 0 (5 * i + 2)) rfl (nI_k (5 * i) 2) (Or.inr rfl) (show 5 * i + 2 < L by omega) bl (rfl) ?_
  refine WP.call rfl rfl (c_piece L I J w S hc (I 0 (5 * i + 1)) (I 0 (5 * i + 2))) ?_
  rintro v h2 ⟨rfl, I1, J1, w1, hf, hc1, rfl⟩
  have e0 : I1 0 = I 0 := (hf 0 (Or.inl (by decide))).1
  iterate 5 (refine WP.st rfl ?_)
  refine WP.ialv (k := 5 * i + 1) (v := I 0 (5 * i + 1)) rfl (nI_k (5 * i) 1) (Or.inr rfl) (show 5 * i + 1 < L by omega) bl (congrFun e0 _) ?_
  iterate 4 (refine WP.st rfl ?_)
  refine WP.ialv (k := 5 * i + 2) (v := I 0 (5 * i + 2)) rfl (nI_k (5 * i) 2) (Or.inr rfl) (show 5 * i + 2 < L by omega) bl (congrFun e0 _) ?_
  refine WP.call rfl rfl (m_piece L I1 J1 w1 S (RI_off hr hf) (I 0 (5 * i + 1)) (I 0 (5 * i + 2))) ?_
  rintro v h2 ⟨rfl, I2, J2, hf2, hr2, rfl⟩
  refine WP.ict rfl rfl ?_
  exact kk I2 J2 w1 _ (CI_off hc1 hf2) hr2
set_option maxHeartbeats 4000000 in
set_option maxRecDepth 20000 in
theorem la_fixes (L : Nat) (I : Nat → Nat → Int32) (J : Nat → Nat → Int64) (w : Nat → Nat) (S : St) (i : Nat) (hL : L ≤ 2560) (hi : 5 * i + 5 ≤ L) (hc : CI I J w S) (hr : RI I J S) {Q : Option Value → MH → Prop} (kk : lK L i Q) : WP m_La_law (825, lC i, [], hp L I J w, 227, 5004) Q := by
  have bl : Nat.ble L 2560 = true := Nat.ble_eq_true_of_le hL
  iterate 5 (refine WP.st rfl ?_)
  refine WP.ialv (k := 5 * i + 1) (v := I 0 (5 * i + 1)) rfl (nI_k (5 * i) 1) (Or.inr rfl) (show 5 * i + 1 < L by omega) bl (rfl) ?_
  refine WP.call rfl rfl (c_fixes L I J w S hc (I 0 (5 * i + 1))) ?_
  rintro v h2 ⟨rfl, I1, J1, w1, hf, hc1, rfl⟩
  have e0 : I1 0 = I 0 := (hf 0 (Or.inl (by decide))).1
  iterate 5 (refine WP.st rfl ?_)
  refine WP.ialv (k := 5 * i + 1) (v := I 0 (5 * i + 1)) rfl (nI_k (5 * i) 1) (Or.inr rfl) (show 5 * i + 1 < L by omega) bl (congrFun e0 _) ?_
  refine WP.call rfl rfl (m_fixes L I1 J1 w1 S (RI_off hr hf) (I 0 (5 * i + 1))) ?_
  rintro v h2 ⟨rfl, I2, J2, hf2, hr2, rfl⟩
  refine WP.ict rfl rfl ?_
  exact kk I2 J2 w1 _ (CI_off hc1 hf2) hr2
set_option maxHeartbeats 4000000 in
set_option maxRecDepth 20000 in
theorem la_order (L : Nat) (I : Nat → Nat → Int32) (J : Nat → Nat → Int64) (w : Nat → Nat) (S : St) (i : Nat) (hL : L ≤ 2560) (hi : 5 * i + 5 ≤ L) (hc : CI I J w S) (hr : RI I J S) {Q : Option Value → MH → Prop} (kk : lK L i Q) : WP m_La_law (848, lC i, [], hp L I J w, 227, 5004) Q := by
  have bl : Nat.ble L 2560 = true := Nat.ble_eq_true_of_le hL
  iterate 5 (refine WP.st rfl ?_)
  refine WP.ialv (k := 5 * i + 1) (v := I 0 (5 * i + 1)) rfl (nI_k (5 * i) 1) (Or.inr rfl) (show 5 * i + 1 < L by omega) bl (rfl) ?_
  refine WP.call rfl rfl (c_order L I J w S hc (I 0 (5 * i + 1))) ?_
  rintro v h2 ⟨rfl, I1, J1, w1, hf, hc1, rfl⟩
  have e0 : I1 0 = I 0 := (hf 0 (Or.inl (by decide))).1
  iterate 5 (refine WP.st rfl ?_)
  refine WP.ialv (k := 5 * i + 1) (v := I 0 (5 * i + 1)) rfl (nI_k (5 * i) 1) (Or.inr rfl) (show 5 * i + 1 < L by omega) bl (congrFun e0 _) ?_
  refine WP.call rfl rfl (m_order L I1 J1 w1 S (RI_off hr hf) (I 0 (5 * i + 1))) ?_
  rintro v h2 ⟨rfl, I2, J2, hf2, hr2, rfl⟩
  refine WP.ict rfl rfl ?_
  exact kk I2 J2 w1 _ (CI_off hc1 hf2) hr2
set_option maxHeartbeats 4000000 in
set_option maxRecDepth 20000 in
theorem la_whole (L : Nat) (I : Nat → Nat → Int32) (J : Nat → Nat → Int64) (w : Nat → Nat) (S : St) (i : Nat) (hL : L ≤ 2560) (hi : 5 * i + 5 ≤ L) (hc : CI I J w S) (hr : RI I J S) {Q : Option Value → MH → Prop} (kk : lK L i Q) : WP m_La_law (871, lC i, [], hp L I J w, 227, 5004) Q := by
  have bl : Nat.ble L 2560 = true := Nat.ble_eq_true_of_le hL
  iterate 1 (refine WP.st rfl ?_)
  refine WP.call rfl rfl (c_whole L I J w S hc ) ?_
  rintro v h2 ⟨rfl, I1, J1, w1, hf, hc1, rfl⟩
  have e0 : I1 0 = I 0 := (hf 0 (Or.inl (by decide))).1
  iterate 1 (refine WP.st rfl ?_)
  refine WP.call rfl rfl (m_whole L I1 J1 w1 S (RI_off hr hf) ) ?_
  rintro v h2 ⟨rfl, I2, J2, hf2, hr2, rfl⟩
  refine WP.ict rfl rfl ?_
  exact kk I2 J2 w1 _ (CI_off hc1 hf2) hr2
set_option maxHeartbeats 4000000 in
set_option maxRecDepth 20000 in
theorem la_count (L : Nat) (I : Nat → Nat → Int32) (J : Nat → Nat → Int64) (w : Nat → Nat) (S : St) (i : Nat) (hL : L ≤ 2560) (hi : 5 * i + 5 ≤ L) (hc : CI I J w S) (hr : RI I J S) {Q : Option Value → MH → Prop} (kk : lK L i Q) : WP m_La_law (884, lC i, [], hp L I J w, 227, 5004) Q := by
  have bl : Nat.ble L 2560 = true := Nat.ble_eq_true_of_le hL
  iterate 5 (refine WP.st rfl ?_)
  refine WP.ialv (k := 5 * i + 1) (v := I 0 (5 * i + 1)) rfl (nI_k (5 * i) 1) (Or.inr rfl) (show 5 * i + 1 < L by omega) bl (rfl) ?_
  refine WP.call rfl rfl (c_count L I J w S hc (I 0 (5 * i + 1))) ?_
  rintro v h2 ⟨rfl, I1, J1, w1, hf, hc1, rfl⟩
  have e0 : I1 0 = I 0 := (hf 0 (Or.inl (by decide))).1
  iterate 5 (refine WP.st rfl ?_)
  refine WP.ialv (k := 5 * i + 1) (v := I 0 (5 * i + 1)) rfl (nI_k (5 * i) 1) (Or.inr rfl) (show 5 * i + 1 < L by omega) bl (congrFun e0 _) ?_
  refine WP.call rfl rfl (m_count L I1 J1 w1 S (RI_off hr hf) (I 0 (5 * i + 1))) ?_
  rintro v h2 ⟨rfl, I2, J2, hf2, hr2, rfl⟩
  refine WP.ict rfl rfl ?_
  exact kk I2 J2 w1 _ (CI_off hc1 hf2) hr2
set_option maxHeartbeats 4000000 in
set_option maxRecDepth 20000 in
theorem la_digest (L : Nat) (I : Nat → Nat → Int32) (J : Nat → Nat → Int64) (w : Nat → Nat) (S : St) (i : Nat) (hL : L ≤ 2560) (hi : 5 * i + 5 ≤ L) (hc : CI I J w S) (hr : RI I J S) {Q : Option Value → MH → Prop} (kk : lK L i Q) : WP m_La_law (907, lC i, [], hp L I J w, 227, 5004) Q := by
  have bl : Nat.ble L 2560 = true := Nat.ble_eq_true_of_le hL
  iterate 1 (refine WP.st rfl ?_)
  refine WP.call rfl rfl (c_digest L I J w S hc ) ?_
  rintro v h2 ⟨rfl, I1, J1, w1, hf, hc1, rfl⟩
  have e0 : I1 0 = I 0 := (hf 0 (Or.inl (by decide))).1
  iterate 1 (refine WP.st rfl ?_)
  refine WP.call rfl rfl (m_digest L I1 J1 w1 S (RI_off hr hf) ) ?_
  rintro v h2 ⟨rfl, I2, J2, hf2, hr2, rfl⟩
  refine WP.st rfl ?_
  refine WP.ift rfl (lc_eq.mpr rfl) ?_
  exact kk I2 J2 w1 _ (CI_off hc1 hf2) hr2
