set_option maxHeartbeats 4000000 in
set_option maxRecDepth 20000 in
theorem la_toff (L : Nat) (I : Nat → Nat → Int32) (J : Nat → Nat → Int64) (w : Nat → Nat) (S : St) (i : Nat) (hL : L ≤ 2560) (hi : 5 * i + 5 ≤ L) (hc : CI I J w S) (hr : RI I J S) {Q : Option Value → MH → Prop} (kk : lK L i Q) (bo : Bool) (hbo : I 0 (5 * i + 2) = 0 ↔ bo = false) : WP m_La_law (321, lC i, [.int (bo01 bo), .int (I 0 (5 * i + 1)), .ref 2], hp L I J w, 227, 5004) Q := by
  have bl : Nat.ble L 2560 = true := Nat.ble_eq_true_of_le hL
  refine WP.call rfl rfl (c_takeOff L I J w S hc (I 0 (5 * i + 1)) bo) ?_
  rintro v h2 ⟨rfl, I1, J1, w1, hf, hc1, rfl⟩
  have e0 : I1 0 = I 0 := (hf 0 (Or.inl (by decide))).1
  iterate 5 (refine WP.st rfl ?_)
  refine WP.ialv (k := 5 * i + 1) (v := I 0 (5 * i + 1)) rfl (nI_k (5 * i) 1) (Or.inr rfl) (show 5 * i + 1 < L by omega) bl (congrFun e0 _) ?_
  iterate 4 (refine WP.st rfl ?_)
  refine WP.ialv (k := 5 * i + 2) (v := I 0 (5 * i + 2)) rfl (nI_k (5 * i) 2) (Or.inr rfl) (show 5 * i + 2 < L by omega) bl (congrFun e0 _) ?_
  have fin : WP m_La_law (343, lC i, [.int (bo01 bo), .int (I 0 (5 * i + 1)), .ref 208, .int (oOff S (I 0 (5 * i + 1)) bo).1], hp L I1 J1 w1, 227, 5004) Q := by
    refine WP.call rfl rfl (m_takeOff L I1 J1 w1 S (RI_off hr hf) (I 0 (5 * i + 1)) bo) ?_
    rintro v h2 ⟨rfl, I2, J2, hf2, hr2, rfl⟩
    refine WP.ict rfl rfl ?_
    exact kk I2 J2 w1 _ (CI_off hc1 hf2) hr2
  cases bo
  · refine WP.ift rfl (hbo.mpr rfl) ?_
    iterate 1 (refine WP.st rfl ?_)
    exact fin
  · refine WP.iff rfl (fun z => by have := hbo.mp z; cases this) ?_
    iterate 2 (refine WP.st rfl ?_)
    exact fin
set_option maxHeartbeats 4000000 in
set_option maxRecDepth 20000 in
theorem la_takeOff (L : Nat) (I : Nat → Nat → Int32) (J : Nat → Nat → Int64) (w : Nat → Nat) (S : St) (i : Nat) (hL : L ≤ 2560) (hi : 5 * i + 5 ≤ L) (hc : CI I J w S) (hr : RI I J S) {Q : Option Value → MH → Prop} (kk : lK L i Q) : WP m_La_law (302, lC i, [], hp L I J w, 227, 5004) Q := by
  have bl : Nat.ble L 2560 = true := Nat.ble_eq_true_of_le hL
  iterate 5 (refine WP.st rfl ?_)
  refine WP.ialv (k := 5 * i + 1) (v := I 0 (5 * i + 1)) rfl (nI_k (5 * i) 1) (Or.inr rfl) (show 5 * i + 1 < L by omega) bl (rfl) ?_
  iterate 4 (refine WP.st rfl ?_)
  refine WP.ialv (k := 5 * i + 2) (v := I 0 (5 * i + 2)) rfl (nI_k (5 * i) 2) (Or.inr rfl) (show 5 * i + 2 < L by omega) bl (rfl) ?_
  refine WP.i0 rfl (fun z => ?_) (fun z => ?_)
  · iterate 1 (refine WP.st rfl ?_)
    exact la_toff L I J w S i hL hi hc hr kk false ⟨fun _ => rfl, fun _ => z⟩
  · iterate 2 (refine WP.st rfl ?_)
    exact la_toff L I J w S i hL hi hc hr kk true ⟨fun y => absurd y z, fun y => by cases y⟩
set_option maxHeartbeats 4000000 in
set_option maxRecDepth 20000 in
theorem la_sort (L : Nat) (I : Nat → Nat → Int32) (J : Nat → Nat → Int64) (w : Nat → Nat) (S : St) (i : Nat) (hL : L ≤ 2560) (hi : 5 * i + 5 ≤ L) (hc : CI I J w S) (hr : RI I J S) {Q : Option Value → MH → Prop} (kk : lK L i Q) : WP m_La_law (351, lC i, [], hp L I J w, 227, 5004) Q := by
  have bl : Nat.ble L 2560 = true := Nat.ble_eq_true_of_le hL
  iterate 5 (refine WP.st rfl ?_)
  refine WP.ialv (k := 5 * i + 1) (v := I 0 (5 * i + 1)) rfl (nI_k (5 * i) 1) (Or.inr rfl) (show 5 * i + 1 < L by omega) bl (rfl) ?_
  refine WP.call rfl rfl (c_sort L I J w S hc (I 0 (5 * i + 1))) ?_
  rintro v h2 ⟨rfl, I1, J1, w1, hf, hc1, rfl⟩
  have e0 : I1 0 = I 0 := (hf 0 (Or.inl (by decide))).1
  iterate 5 (refine WP.st rfl ?_)
  refine WP.ialv (k := 5 * i + 1) (v := I 0 (5 * i + 1)) rfl (nI_k (5 * i) 1) (Or.inr rfl) (show 5 * i + 1 < L by omega) bl (congrFun e0 _) ?_
  refine WP.call rfl rfl (m_sort L I1 J1 w1 S (RI_off hr hf) (I 0 (5 * i + 1))) ?_
  rintro v h2 ⟨rfl, I2, J2, hf2, hr2, rfl⟩
  refine WP.ict rfl rfl ?_
  exact kk I2 J2 w1 _ (CI_off hc1 hf2) hr2
set_option maxHeartbeats 4000000 in
set_option maxRecDepth 20000 in
theorem la_madeOf (L : Nat) (I : Nat → Nat → Int32) (J : Nat → Nat → Int64) (w : Nat → Nat) (S : St) (i : Nat) (hL : L ≤ 2560) (hi : 5 * i + 5 ≤ L) (hc : CI I J w S) (hr : RI I J S) {Q : Option Value → MH → Prop} (kk : lK L i Q) : WP m_La_law (374, lC i, [], hp L I J w, 227, 5004) Q := by
  have bl : Nat.ble L 2560 = true := Nat.ble_eq_true_of_le hL
  iterate 5 (refine WP.st rfl ?_)
  refine WP.ialv (k := 5 * i + 1) (v := I 0 (5 * i + 1)) rfl (nI_k (5 * i) 1) (Or.inr rfl) (show 5 * i + 1 < L by omega) bl (rfl) ?_
  refine WP.call rfl rfl (c_madeOf L I J w S hc (I 0 (5 * i + 1))) ?_
  rintro v h2 ⟨rfl, I1, J1, w1, hf, hc1, rfl⟩
  have e0 : I1 0 = I 0 := (hf 0 (Or.inl (by decide))).1
  iterate 5 (refine WP.st rfl ?_)
  refine WP.ialv (k := 5 * i + 1) (v := I 0 (5 * i + 1)) rfl (nI_k (5 * i) 1) (Or.inr rfl) (show 5 * i + 1 < L by omega) bl (congrFun e0 _) ?_
  refine WP.call rfl rfl (m_madeOf L I1 J1 w1 S (RI_off hr hf) (I 0 (5 * i + 1))) ?_
  rintro v h2 ⟨rfl, I2, J2, hf2, hr2, rfl⟩
  refine WP.ict rfl rfl ?_
  exact kk I2 J2 w1 _ (CI_off hc1 hf2) hr2
set_option maxHeartbeats 4000000 in
set_option maxRecDepth 20000 in
theorem la_tellings (L : Nat) (I : Nat → Nat → Int32) (J : Nat → Nat → Int64) (w : Nat → Nat) (S : St) (i : Nat) (hL : L ≤ 2560) (hi : 5 * i + 5 ≤ L) (hc : CI I J w S) (hr : RI I J S) {Q : Option Value → MH → Prop} (kk : lK L i Q) : WP m_La_law (397, lC i, [], hp L I J w, 227, 5004) Q := by
  have bl : Nat.ble L 2560 = true := Nat.ble_eq_true_of_le hL
  iterate 5 (refine WP.st rfl ?_)
  refine WP.ialv (k := 5 * i + 1) (v := I 0 (5 * i + 1)) rfl (nI_k (5 * i) 1) (Or.inr rfl) (show 5 * i + 1 < L by omega) bl (rfl) ?_
  refine WP.call rfl rfl (c_tellings L I J w S hc (I 0 (5 * i + 1))) ?_
  rintro v h2 ⟨rfl, I1, J1, w1, hf, hc1, rfl⟩
  have e0 : I1 0 = I 0 := (hf 0 (Or.inl (by decide))).1
  iterate 5 (refine WP.st rfl ?_)
  refine WP.ialv (k := 5 * i + 1) (v := I 0 (5 * i + 1)) rfl (nI_k (5 * i) 1) (Or.inr rfl) (show 5 * i + 1 < L by omega) bl (congrFun e0 _) ?_
  refine WP.call rfl rfl (m_tellings L I1 J1 w1 S (RI_off hr hf) (I 0 (5 * i + 1))) ?_
  rintro v h2 ⟨rfl, I2, J2, hf2, hr2, rfl⟩
  refine WP.ict rfl rfl ?_
  exact kk I2 J2 w1 _ (CI_off hc1 hf2) hr2
set_option maxHeartbeats 4000000 in
set_option maxRecDepth 20000 in
theorem la_fixed (L : Nat) (I : Nat → Nat → Int32) (J : Nat → Nat → Int64) (w : Nat → Nat) (S : St) (i : Nat) (hL : L ≤ 2560) (hi : 5 * i + 5 ≤ L) (hc : CI I J w S) (hr : RI I J S) {Q : Option Value → MH → Prop} (kk : lK L i Q) : WP m_La_law (420, lC i, [], hp L I J w, 227, 5004) Q := by
  have bl : Nat.ble L 2560 = true := Nat.ble_eq_true_of_le hL
  iterate 5 (refine WP.st rfl ?_)
  refine WP.ialv (k := 5 * i + 1) (v := I 0 (5 * i + 1)) rfl (nI_k (5 * i) 1) (Or.inr rfl) (show 5 * i + 1 < L by omega) bl (rfl) ?_
  refine WP.call rfl rfl (c_fixed L I J w S hc (I 0 (5 * i + 1))) ?_
  rintro v h2 ⟨rfl, I1, J1, w1, hf, hc1, rfl⟩
  have e0 : I1 0 = I 0 := (hf 0 (Or.inl (by decide))).1
  iterate 5 (refine WP.st rfl ?_)
  refine WP.ialv (k := 5 * i + 1) (v := I 0 (5 * i + 1)) rfl (nI_k (5 * i) 1) (Or.inr rfl) (show 5 * i + 1 < L by omega) bl (congrFun e0 _) ?_
  refine WP.call rfl rfl (m_fixed L I1 J1 w1 S (RI_off hr hf) (I 0 (5 * i + 1))) ?_
  rintro v h2 ⟨rfl, I2, J2, hf2, hr2, rfl⟩
  refine WP.ict rfl rfl ?_
  exact kk I2 J2 w1 _ (CI_off hc1 hf2) hr2
set_option maxHeartbeats 4000000 in
set_option maxRecDepth 20000 in
theorem la_question (L : Nat) (I : Nat → Nat → Int32) (J : Nat → Nat → Int64) (w : Nat → Nat) (S : St) (i : Nat) (hL : L ≤ 2560) (hi : 5 * i + 5 ≤ L) (hc : CI I J w S) (hr : RI I J S) {Q : Option Value → MH → Prop} (kk : lK L i Q) : WP m_La_law (443, lC i, [], hp L I J w, 227, 5004) Q := by
  have bl : Nat.ble L 2560 = true := Nat.ble_eq_true_of_le hL
  iterate 5 (refine WP.st rfl ?_)
  refine WP.ialv (k := 5 * i + 1) (v := I 0 (5 * i + 1)) rfl (nI_k (5 * i) 1) (Or.inr rfl) (show 5 * i + 1 < L by omega) bl (rfl) ?_
  refine WP.call rfl rfl (c_question L I J w S hc (I 0 (5 * i + 1))) ?_
  rintro v h2 ⟨rfl, I1, J1, w1, hf, hc1, rfl⟩
  have e0 : I1 0 = I 0 := (hf 0 (Or.inl (by decide))).1
  iterate 5 (refine WP.st rfl ?_)
  refine WP.ialv (k := 5 * i + 1) (v := I 0 (5 * i + 1)) rfl (nI_k (5 * i) 1) (Or.inr rfl) (show 5 * i + 1 < L by omega) bl (congrFun e0 _) ?_
  refine WP.call rfl rfl (m_question L I1 J1 w1 S (RI_off hr hf) (I 0 (5 * i + 1))) ?_
  rintro v h2 ⟨rfl, I2, J2, hf2, hr2, rfl⟩
  refine WP.ict rfl rfl ?_
  exact kk I2 J2 w1 _ (CI_off hc1 hf2) hr2
