/-! the law's loop -/
def la_t : List Nat := [160, 193, 236, 259, 302, 351, 374, 397, 420, 443, 466, 499, 512, 535, 548, 601, 624, 657, 690, 713, 736, 759, 792, 825, 848, 871, 884, 907]
theorem la_o : ∀ k : Nat, k < 28 → (#[128, 161, 204, 227, 270, 319, 342, 365, 388, 411, 434, 467, 480, 503, 516, 569, 592, 625, 658, 681, 704, 727, 760, 793, 816, 839, 852, 875] : Array Int)[((k : Int) - 0).toNat]? = some ((la_t.getD k 0 : Int) - 32) := by decide
theorem la_ts {k : Nat} (hk : k < 28) {Lc : ML} {sk : List Value} {h : MH} {cu su : Nat} {Q : Option Value → MH → Prop} (kk : WP m_La_law (la_t.getD k 0, Lc, sk, h, cu, su) Q) : WP m_La_law (32, Lc, .int (nI k) :: sk, h, cu, su) Q := by
  refine WP.tsi (off := (la_t.getD k 0 : Int) - 32) rfl ?_ ?_ (show ((32 : Nat) : Int) + ((la_t.getD k 0 : Int) - 32) = (la_t.getD k 0 : Int) by omega) kk
  · rw [nI_toInt (by omega)]; omega
  · rw [nI_toInt (by omega)]; exact la_o k hk
theorem la_td {k : Nat} (hk : 28 ≤ k) (hk2 : k < 32) {Lc : ML} {sk : List Value} {h : MH} {cu su : Nat} {Q : Option Value → MH → Prop} (kk : WP m_La_law (921, Lc, sk, h, cu, su) Q) : WP m_La_law (32, Lc, .int (nI k) :: sk, h, cu, su) Q := by
  refine WP.tsd (tgt := 921) rfl (Or.inr ?_) rfl kk
  rw [nI_toInt (by omega)]; omega
theorem and31 (x : Int32) : ∃ k : Nat, k < 32 ∧ x &&& (Int8.ofInt 31).toInt32 = nI k := by
  refine ⟨(x.toBitVec &&& 31#32).toNat, ?_, ?_⟩
  · rw [BitVec.toNat_and]
    exact Nat.lt_of_le_of_lt Nat.and_le_right (by decide)
  · apply Int32.toBitVec_inj.mp
    show x.toBitVec &&& 31#32 = BitVec.ofNat 32 ((x.toBitVec &&& 31#32).toNat)
    exact BitVec.eq_of_toNat_eq (by rw [BitVec.toNat_ofNat, Nat.mod_eq_of_lt (BitVec.isLt _)])
set_option maxHeartbeats 4000000 in
set_option maxRecDepth 20000 in
theorem la_row (L : Nat) (I : Nat → Nat → Int32) (J : Nat → Nat → Int64) (w : Nat → Nat) (S : St) (i : Nat) (hL : L ≤ 2560) (hi : 5 * i + 5 ≤ L) (hc : CI I J w S) (hr : RI I J S) {Q : Option Value → MH → Prop} (kk : lK L i Q) (k : Nat) (hk : k < 32) : WP m_La_law (32, lC i, [.int (nI k)], hp L I J w, 227, 5004) Q := by
  by_cases h28 : 28 ≤ k
  · exact la_td h28 hk (kk I J w S hc hr)
  · refine la_ts (by omega) ?_
    rcases (show k = 0 ∨ k = 1 ∨ k = 2 ∨ k = 3 ∨ k = 4 ∨ k = 5 ∨ k = 6 ∨ k = 7 ∨ k = 8 ∨ k = 9 ∨ k = 10 ∨ k = 11 ∨ k = 12 ∨ k = 13 ∨ k = 14 ∨ k = 15 ∨ k = 16 ∨ k = 17 ∨ k = 18 ∨ k = 19 ∨ k = 20 ∨ k = 21 ∨ k = 22 ∨ k = 23 ∨ k = 24 ∨ k = 25 ∨ k = 26 ∨ k = 27 by omega) with rfl | rfl | rfl | rfl | rfl | rfl | rfl | rfl | rfl | rfl | rfl | rfl | rfl | rfl | rfl | rfl | rfl | rfl | rfl | rfl | rfl | rfl | rfl | rfl | rfl | rfl | rfl | rfl
    · exact la_point L I J w S i hL hi hc hr kk
    · exact la_rough L I J w S i hL hi hc hr kk
    · exact la_telling L I J w S i hL hi hc hr kk
    · exact la_term L I J w S i hL hi hc hr kk
    · exact la_takeOff L I J w S i hL hi hc hr kk
    · exact la_sort L I J w S i hL hi hc hr kk
    · exact la_madeOf L I J w S i hL hi hc hr kk
    · exact la_tellings L I J w S i hL hi hc hr kk
    · exact la_fixed L I J w S i hL hi hc hr kk
    · exact la_question L I J w S i hL hi hc hr kk
    · exact la_ask L I J w S i hL hi hc hr kk
    · exact la_holds L I J w S i hL hi hc hr kk
    · exact la_nearest L I J w S i hL hi hc hr kk
    · exact la_strain L I J w S i hL hi hc hr kk
    · exact la_drag L I J w S i hL hi hc hr kk
    · exact la_sign L I J w S i hL hi hc hr kk
    · exact la_limb L I J w S i hL hi hc hr kk
    · exact la_bar L I J w S i hL hi hc hr kk
    · exact la_sortOf L I J w S i hL hi hc hr kk
    · exact la_bars L I J w S i hL hi hc hr kk
    · exact la_round L I J w S i hL hi hc hr kk
    · exact la_kept L I J w S i hL hi hc hr kk
    · exact la_piece L I J w S i hL hi hc hr kk
    · exact la_fixes L I J w S i hL hi hc hr kk
    · exact la_order L I J w S i hL hi hc hr kk
    · exact la_whole L I J w S i hL hi hc hr kk
    · exact la_count L I J w S i hL hi hc hr kk
    · exact la_digest L I J w S i hL hi hc hr kk
theorem nI_5 (i : Nat) : nI (5 * i) + Int32.ofInt 5 = nI (5 * (i + 1)) := nI_k (5 * i) 5
theorem la_gt {L i : Nat} (hL : L ≤ 2560) (hi : 5 * i ≤ 2560) : (nI L - Int32.ofInt 5 < nI (5 * i)) ↔ L < 5 * i + 5 := by
  have e : nI L - Int32.ofInt 5 = zI ((L : Int) - 5) := by
    rw [nI_zI]
    exact zI_sub (L : Int) 5
  rw [e, nI_zI, zI_lt (by omega) (by omega) (by omega) (by omega)]
  omega
set_option maxHeartbeats 4000000 in
set_option maxRecDepth 20000 in
theorem la_loop (L : Nat) (I : Nat → Nat → Int32) (J : Nat → Nat → Int64) (w : Nat → Nat) (S : St) (hL : L ≤ 2560) (hc : CI I J w S) (hr : RI I J S) : WP m_La_law (18, lC 0, [], hp L I J w, 227, 5004) (fun v _ => v = some (.int 1)) := by
  have bl : Nat.ble L 2560 = true := Nat.ble_eq_true_of_le hL
  refine WP.inv (σ := (Nat → Nat → Int32) × (Nat → Nat → Int64) × (Nat → Nat) × St) (fun i s => (18, lC i, [], hp L s.1 s.2.1 s.2.2.1, 227, 5004)) (fun _ s => CI s.1 s.2.1 s.2.2.1 s.2.2.2 ∧ RI s.1 s.2.1 s.2.2.2) (L / 5) (I, J, w, S) ⟨hc, hr⟩ ?_ ?_
  · rintro i ⟨I, J, w, S⟩ hi ⟨hc, hr⟩ kk
    dsimp only at hc hr kk ⊢
    have hi5 : 5 * i + 5 ≤ L := by omega
    iterate 2 (refine WP.st rfl ?_)
    refine WP.alen (n := L) rfl (Or.inr (Or.inl rfl)) rfl ?_
    iterate 2 (refine WP.st rfl ?_)
    refine WP.icf rfl (fun z => by have := (la_gt hL (by omega)).mp z; omega) ?_
    iterate 2 (refine WP.st rfl ?_)
    refine WP.ialv (k := 5 * i) (v := I 0 (5 * i)) rfl rfl (Or.inr rfl) (show 5 * i < L by omega) bl rfl ?_
    iterate 2 (refine WP.st rfl ?_)
    obtain ⟨k, hk, e⟩ := and31 (I 0 (5 * i))
    rw [e]
    refine la_row L I J w S i hL hi5 hc hr (fun I2 J2 w2 S2 hc2 hr2 => ?_) k hk
    iterate 2 (refine WP.st rfl ?_)
    have g := kk (I2, J2, w2, S2) ⟨hc2, hr2⟩
    dsimp only at g
    rw [lC, ← nI_5] at g
    exact g
  · rintro ⟨I, J, w, S⟩ ⟨hc, hr⟩
    dsimp only
    iterate 2 (refine WP.st rfl ?_)
    refine WP.alen (n := L) rfl (Or.inr (Or.inl rfl)) rfl ?_
    iterate 2 (refine WP.st rfl ?_)
    refine WP.ict rfl ((la_gt hL (by omega)).mpr (by omega)) ?_
    iterate 1 (refine WP.st rfl ?_)
    exact WP.ret rfl rfl
set_option maxHeartbeats 4000000 in
set_option maxRecDepth 20000 in
theorem la_start (L : Nat) (xs : Nat → Int32) (hL : L ≤ 2560) : WP m_La_law (0, mm_ent m_La_law [.ref 0], [], mm_h0 L xs, 0, 0) (fun v _ => v = some (.int 1)) := by
  change WP m_La_law (0, mm_ent m_La_law [.ref 0], [], hg (mm_h0 L xs) [], 0, 0) _
  refine WP.nwg (ci := 7) (q := 2) (cu' := 1) (su' := 10) rfl rfl ?_
  iterate 1 (refine WP.st rfl ?_)
  refine WP.cs rfl rfl rfl rfl rfl rfl rfl rfl rfl (dt_init (show 1 < 3 by decide) rfl rfl (fun i _ => rfl) rfl rfl) ?_
  rintro _ _ ⟨rfl, rfl⟩
  rw [← hg_app]
  iterate 1 (refine WP.st rfl ?_)
  refine WP.nwg (ci := 8) (q := 208) (cu' := 207) (su' := 3529) rfl (by rw [hg_N]; rfl) ?_
  iterate 1 (refine WP.st rfl ?_)
  refine WP.cs rfl rfl rfl rfl rfl ((hg_new (by rw [hg_N]; rfl) 8 0).1) rfl rfl rfl (mo_init (by rw [hg_N]; rfl) ((hg_new (by rw [hg_N]; rfl) 8 0).1)) ?_
  rintro _ _ ⟨rfl, rfl⟩
  rw [← hg_app]
  change WP m_La_law (15, [some (.ref 0), some (.ref 2), none, none], [.ref 208], h1A L xs, 227, 5004) _
  rw [h1_eq L xs]
  iterate 3 (refine WP.st rfl ?_)
  exact la_loop L _ _ w0 S0 hL (CI_0 (h1_Z0 L xs)) (RI_0 (h1_Z0 L xs))
