/-! the reference: divide, reduce -/
theorem sh_amt : ∀ k, k < 30 → (((nI k).toInt64 &&& 63).toBitVec.smod 64).toNat = k := by decide
theorem shl_one : ∀ k, k < 30 → (Int64.ofNat ((1 : Fin 2) : Nat) <<< ((nI k).toInt64 &&& 63) : Int64) = zJ ((2 ^ k : Nat) : Int) := by decide
theorem B_pow (m : Nat) : (1073741824 : Nat) ^ m = 2 ^ (30 * m) := by
  rw [Nat.pow_mul]
theorem dg_bit (V i : Nat) : dg V (i / 30) / 2 ^ (i % 30) % 2 = V / 2 ^ i % 2 := by
  unfold dg
  rw [B_pow, show (1073741824 : Nat) = 2 ^ (i % 30) * 2 ^ (30 - i % 30) by rw [← Nat.pow_add, show i % 30 + (30 - i % 30) = 30 by omega], Nat.mod_mul_right_div_self, Nat.div_div_eq_div_mul, ← Nat.pow_add, show 30 * (i / 30) + i % 30 = i by omega]
  exact Nat.mod_mod_of_dvd _ ⟨2 ^ (30 - i % 30 - 1), by rw [← Nat.pow_succ']; congr 1; omega⟩
/-- one bit more in a number whose lower bits are 0 -/
theorem dg_add {c i k : Nat} : dg (2 ^ (i + 1) * c + 2 ^ i) k = dg (2 ^ (i + 1) * c) k + (if k = i / 30 then 2 ^ (i % 30) else 0) := by
  unfold dg
  rw [B_pow]
  by_cases h1 : k < i / 30
  · rw [if_neg (by omega)]
    obtain ⟨m, hm⟩ : ∃ m, i = 30 * k + 30 + m := ⟨i - 30 * k - 30, by omega⟩
    have e1 : 2 ^ (i + 1) * c = 2 ^ (30 * k) * (2 ^ 30 * (2 ^ (m + 1) * c)) := by
      rw [hm, show 30 * k + 30 + m + 1 = 30 * k + (30 + (m + 1)) by omega, Nat.pow_add, Nat.pow_add]
      simp only [Nat.mul_assoc]
    have e2 : 2 ^ i = 2 ^ (30 * k) * (2 ^ 30 * 2 ^ m) := by
      rw [hm, show 30 * k + 30 + m = 30 * k + (30 + m) by omega, Nat.pow_add, Nat.pow_add]
    have hp : 0 < 2 ^ (30 * k) := Nat.two_pow_pos _
    rw [e1, e2, ← Nat.mul_add, Nat.mul_div_cancel_left _ hp, Nat.mul_div_cancel_left _ hp, ← Nat.mul_add]
    rw [show (1073741824 : Nat) = 2 ^ 30 from rfl, Nat.mul_mod_right, Nat.mul_mod_right]
  · by_cases h2 : k = i / 30
    · rw [if_pos h2]
      generalize hj : i % 30 = j
      have hj30 : j < 30 := by omega
      have hi : i = 30 * k + j := by omega
      have hp : 0 < 2 ^ (30 * k) := Nat.two_pow_pos _
      have e1 : 2 ^ (i + 1) * c = 2 ^ (30 * k) * (2 ^ (j + 1) * c) := by
        rw [hi, show 30 * k + j + 1 = 30 * k + (j + 1) by omega, Nat.pow_add]
        simp only [Nat.mul_assoc]
      have e2 : 2 ^ i = 2 ^ (30 * k) * 2 ^ j := by rw [hi, Nat.pow_add]
      rw [e1, e2, ← Nat.mul_add, Nat.mul_div_cancel_left _ hp, Nat.mul_div_cancel_left _ hp]
      have e3 : (1073741824 : Nat) = 2 ^ (j + 1) * 2 ^ (29 - j) := by rw [← Nat.pow_add, show j + 1 + (29 - j) = 30 by omega]
      rw [e3]
      have m1 : (2 ^ (j + 1) * c) % (2 ^ (j + 1) * 2 ^ (29 - j)) = 2 ^ (j + 1) * (c % 2 ^ (29 - j)) := Nat.mul_mod_mul_left _ _ _
      have m2 : (2 ^ (j + 1) * c + 2 ^ j) % (2 ^ (j + 1) * 2 ^ (29 - j)) = 2 ^ (j + 1) * (c % 2 ^ (29 - j)) + 2 ^ j := by
        rw [Nat.mod_mul, Nat.mul_add_mod, Nat.mul_add_div (Nat.two_pow_pos _), Nat.mod_eq_of_lt (show 2 ^ j < 2 ^ (j + 1) from Nat.pow_lt_pow_right (by omega) (by omega)), Nat.div_eq_of_lt (show 2 ^ j < 2 ^ (j + 1) from Nat.pow_lt_pow_right (by omega) (by omega)), Nat.add_zero]
        exact Nat.add_comm _ _
      rw [m1, m2]
    · rw [if_neg h2]
      obtain ⟨m, hm⟩ : ∃ m, 30 * k = i + 1 + m := ⟨30 * k - i - 1, by omega⟩
      rw [hm, show 2 ^ (i + 1 + m) = 2 ^ (i + 1) * 2 ^ m from Nat.pow_add 2 (i + 1) m, ← Nat.div_div_eq_div_mul, ← Nat.div_div_eq_div_mul, Nat.mul_add_div (Nat.two_pow_pos _), Nat.mul_div_cancel_left _ (Nat.two_pow_pos _), Nat.div_eq_of_lt (show 2 ^ i < 2 ^ (i + 1) from Nat.pow_lt_pow_right (by omega) (by omega)), Nat.add_zero]
      rfl
/-- the quotient and the rest of the bits from i on -/
theorem dv_step (V W i : Nat) (hW : 0 < W) : let r := 2 * (V / 2 ^ (i + 1) % W) + V / 2 ^ i % 2
    (r < W → V / 2 ^ i % W = r ∧ 2 ^ i * (V / 2 ^ i / W) = 2 ^ (i + 1) * (V / 2 ^ (i + 1) / W)) ∧ (W ≤ r → V / 2 ^ i % W = r - W ∧ 2 ^ i * (V / 2 ^ i / W) = 2 ^ (i + 1) * (V / 2 ^ (i + 1) / W) + 2 ^ i) := by
  intro r
  have hr : r = 2 * (V / 2 ^ (i + 1) % W) + V / 2 ^ i % 2 := rfl
  clear_value r
  have h0 : V / 2 ^ i = 2 * (V / 2 ^ (i + 1)) + V / 2 ^ i % 2 := by
    rw [Nat.pow_succ, ← Nat.div_div_eq_div_mul]
    omega
  generalize hU : V / 2 ^ (i + 1) = U at *
  have hm := Nat.div_add_mod U W
  have hl := Nat.mod_lt U hW
  have hb : V / 2 ^ i % 2 < 2 := Nat.mod_lt _ (by decide)
  have e : V / 2 ^ i = W * (2 * (U / W)) + r := by
    rw [h0, hr]
    generalize V / 2 ^ i % 2 = b
    have : W * (2 * (U / W)) = 2 * (W * (U / W)) := by rw [Nat.mul_left_comm]
    omega
  constructor
  · intro hlt
    rw [e]
    refine ⟨by rw [Nat.mul_add_mod, Nat.mod_eq_of_lt hlt], ?_⟩
    rw [Nat.mul_add_div hW, Nat.div_eq_of_lt hlt, Nat.add_zero, Nat.pow_succ, Nat.mul_assoc]
  · intro hge
    have e2 : V / 2 ^ i = W * (2 * (U / W) + 1) + (r - W) := by rw [e, Nat.mul_add, Nat.mul_one]; omega
    have hlt : r - W < W := by omega
    rw [e2]
    refine ⟨by rw [Nat.mul_add_mod, Nat.mod_eq_of_lt hlt], ?_⟩
    rw [Nat.mul_add_div hW, Nat.div_eq_of_lt hlt, Nat.add_zero, Nat.pow_succ, Nat.mul_add, Nat.mul_one, Nat.mul_assoc]
theorem zv_ne {J K : Nat → Nat → Int64} {r U : Nat} (h : zv J r U) (hk : ∀ k, 6 * r ≤ k → k < 6 * r + 6 → K 227 k = J 227 k) : zv K r U := fun i hi => (hk _ (by omega) (by omega)).trans (h i hi)
set_option maxHeartbeats 4000000 in
set_option maxRecDepth 20000 in
theorem sp_divide (L : Nat) (I : Nat → Nat → Int32) (J : Nat → Nat → Int64) (w : Nat → Nat) (a b q V W : Nat) (ha : a < 7) (hb : b < 7) (hq : q < 7) (hab : a ≠ b) (haq : a ≠ q) (hbq : b ≠ q) (hV : zv J a V) (hW : zv J b W) (lV : V < 2 ^ 180) (lW : W < 2 ^ 170) (W0 : 0 < W) : SP m_Mo_divide [.ref 208, .int (nI a), .int (nI b), .int (nI q)] (hp L I J w) (fun v h => v = none ∧ ∃ K : Nat → Nat → Int64, (∀ c, c ≠ 227 → K c = J c) ∧ (∀ r U, r < 7 → r ≠ a → r ≠ q → zv J r U → zv K r U) ∧ zv K a (V % W) ∧ zv K q (V / W) ∧ h = hp L I K w) := by
  unfold SP
  iterate 2 (refine WP.st rfl ?_)
  refine WP.calle rfl rfl (ev_zero L I J w q (by omega)) ?_
  iterate 2 (refine WP.st rfl ?_)
  refine WP.calle rfl rfl (ev_zero L I (zs J q 0) w 7 (by omega)) ?_
  iterate 3 (refine WP.st rfl ?_)
  refine WP.down (fun i (σ : (Nat → Nat → Int64) × Option Value) => (18, [some (.ref 208), some (.int (nI a)), some (.int (nI b)), some (.int (nI q)), some (.int (nI i - 1)), σ.2, none], [.int (nI i - 1)], hp L I σ.1 w, 0, 0)) (fun i σ => (∀ c, c ≠ 227 → σ.1 c = J c) ∧ (∀ r U, r < 7 → r ≠ q → zv J r U → zv σ.1 r U) ∧ zv σ.1 7 (V / 2 ^ i % W) ∧ zv σ.1 q (2 ^ i * (V / 2 ^ i / W))) 180 (zs (zs J q 0) 7 0, none) ⟨fun c hc => (zs_ne _ _ _ hc).trans (zs_ne J _ _ hc), fun r U hr hrq h => zs_off (zs_off h hrq) (by omega), ?_, ?_⟩ (fun i σ hi hv kk => ?_) (fun σ hv => ?_)
  · dsimp only
    rw [Nat.div_eq_of_lt lV, Nat.zero_mod]
    exact zs_at _ _ _
  · dsimp only
    rw [Nat.div_eq_of_lt lV, Nat.zero_div, Nat.mul_zero]
    exact zs_off (zs_at _ _ _) (by omega)
  · obtain ⟨K, o⟩ := σ
    obtain ⟨v1, v2, v3, v4⟩ := hv
    dsimp only at v1 v2 v3 v4 ⊢
    have dl := dg_lt V (i / 30)
    have hj : i % 30 < 30 := Nat.mod_lt _ (by decide)
    have hR := Nat.mod_lt (V / 2 ^ (i + 1)) W0
    have hbit : V / 2 ^ i % 2 < 2 := Nat.mod_lt _ (by decide)
    have hst := dv_step V W i W0
    rw [nI_m1]
    refine WP.iff rfl (nI_pos (by omega)) ?_
    iterate 7 (refine WP.st rfl ?_)
    refine WP.idiv rfl (show ¬ ((Int8.ofInt 30).toInt32 : Int32) = 0 by decide) ?_
    rw [show (nI i / (Int8.ofInt 30).toInt32 : Int32) = nI (i / 30) from pk_div (d := 30) (by omega) (by decide) (by decide)]
    iterate 1 (refine WP.st rfl ?_)
    refine WP.lald (k := 6 * a + i / 30) rfl (ix6 a (i / 30)) (Or.inl rfl) (show 6 * a + i / 30 < 48 by omega) (rfl) ?_
    rw [show hJ (hp L I K w) 227 (6 * a + i / 30) = zJ (dg V (i / 30)) from v2 a V (by omega) (by omega) hV (i / 30) (by omega)]
    iterate 2 (refine WP.st rfl ?_)
    refine WP.irem rfl (show ¬ ((Int8.ofInt 30).toInt32 : Int32) = 0 by decide) ?_
    rw [show (nI i - nI i / (Int8.ofInt 30).toInt32 * (Int8.ofInt 30).toInt32 : Int32) = nI (i % 30) from pk_rem (d := 30) (by omega) (by decide) (by decide)]
    iterate 1 (refine WP.st rfl ?_)
    rw [zJ_shr (by omega) (by omega) _ (i % 30) (sh_amt (i % 30) hj)]
    rw [show ((dg V (i / 30) : Nat) : Int) / 2 ^ (i % 30) = ((dg V (i / 30) / 2 ^ (i % 30) : Nat) : Int) from by push_cast; rfl]
    iterate 2 (refine WP.st rfl ?_)
    rw [show (zJ ((dg V (i / 30) / 2 ^ (i % 30) : Nat) : Int) &&& Int64.ofNat ((1 : Fin 2) : Nat) : Int64) = zJ ((V / 2 ^ i % 2 : Nat) : Int) from by rw [← dg_bit]; exact zJ_and1 _]
    iterate 5 (refine WP.st rfl ?_)
    refine WP.calle rfl rfl (ev_timesAnd L I K w 7 (V / 2 ^ (i + 1) % W) 2 (V / 2 ^ i % 2) (by omega) v3 (by decide) (by omega)) ?_
    rw [Nat.mul_comm _ 2]
    generalize hr : 2 * (V / 2 ^ (i + 1) % W) + V / 2 ^ i % 2 = r at hst ⊢
    have lr : r < 2 ^ 180 := by omega
    have z7 : zv (zs K 7 r) 7 r := zs_at _ _ _
    have zb : zv (zs K 7 r) b W := zs_off (v2 b W (by omega) hbq hW) (by omega)
    have c180 : (2 : Nat) ^ 180 = 1073741824 ^ 6 := by decide
    iterate 3 (refine WP.st rfl ?_)
    refine WP.calle rfl rfl (ev_zcompare L I (zs K 7 r) w 7 b r W (by omega) (by omega) z7 zb (by omega) (by omega)) ?_
    by_cases hlt : r < W
    · obtain ⟨h1, h2⟩ := hst.1 hlt
      refine WP.ift rfl (show cmI r W < 0 by unfold cmI; rw [if_pos hlt]; decide) ?_
      iterate 3 (refine WP.st rfl ?_)
      have k2 := kk (zs K 7 r, some (.long (zJ ((V / 2 ^ i % 2 : Nat) : Int)))) ⟨fun c hc => (zs_ne K _ _ hc).trans (v1 c hc), fun r' U hr' hrq h => zs_off (v2 r' U hr' hrq h) (by omega), by dsimp only; rw [h1]; exact z7, by dsimp only; rw [h2]; exact zs_off v4 (by omega)⟩
      rw [nI_sub1] at k2
      exact k2
    · obtain ⟨h1, h2⟩ := hst.2 (by omega)
      have zq : zv (zs (zs K 7 r) 7 (r - W)) q (2 ^ (i + 1) * (V / 2 ^ (i + 1) / W)) := zs_off (zs_off v4 (by omega)) (by omega)
      refine WP.iff rfl (show ¬ cmI r W < 0 by unfold cmI; rw [if_neg hlt]; split <;> decide) ?_
      iterate 3 (refine WP.st rfl ?_)
      refine WP.calle rfl rfl (ev_zless L I (zs K 7 r) w 7 b r W (by omega) (by omega) (by omega) z7 zb (by omega)) ?_
      iterate 7 (refine WP.st rfl ?_)
      refine WP.idiv rfl (show ¬ ((Int8.ofInt 30).toInt32 : Int32) = 0 by decide) ?_
      rw [show (nI i / (Int8.ofInt 30).toInt32 : Int32) = nI (i / 30) from pk_div (d := 30) (by omega) (by decide) (by decide)]
      iterate 2 (refine WP.st rfl ?_)
      refine WP.lald (k := 6 * q + i / 30) rfl (ix6 q (i / 30)) (Or.inl rfl) (show 6 * q + i / 30 < 48 by omega) (rfl) ?_
      rw [show hJ (hp L I (zs (zs K 7 r) 7 (r - W)) w) 227 (6 * q + i / 30) = zJ (dg (2 ^ (i + 1) * (V / 2 ^ (i + 1) / W)) (i / 30)) from zq (i / 30) (by omega)]
      iterate 3 (refine WP.st rfl ?_)
      refine WP.irem rfl (show ¬ ((Int8.ofInt 30).toInt32 : Int32) = 0 by decide) ?_
      rw [show (nI i - nI i / (Int8.ofInt 30).toInt32 * (Int8.ofInt 30).toInt32 : Int32) = nI (i % 30) from pk_rem (d := 30) (by omega) (by decide) (by decide)]
      iterate 1 (refine WP.st rfl ?_)
      rw [shl_one (i % 30) hj]
      iterate 1 (refine WP.st rfl ?_)
      rw [zJ_c, show dg (2 ^ (i + 1) * (V / 2 ^ (i + 1) / W)) (i / 30) + 2 ^ (i % 30) = dg (2 ^ (i + 1) * (V / 2 ^ (i + 1) / W) + 2 ^ i) (i / 30) from by rw [dg_add, if_pos rfl]]
      refine WP.last (k := 6 * q + i / 30) rfl (ix6 q (i / 30)) (rfl) (show 6 * q + i / 30 < 48 by omega) (rfl) ?_
      iterate 3 (refine WP.st rfl ?_)
      have k2 := kk (mm_up (zs (zs K 7 r) 7 (r - W)) 227 (6 * q + i / 30) (zJ (dg (2 ^ (i + 1) * (V / 2 ^ (i + 1) / W) + 2 ^ i) (i / 30))), some (.long (zJ ((V / 2 ^ i % 2 : Nat) : Int)))) ⟨fun c hc => (up_ne _ _ hc).trans ((zs_ne _ _ _ hc).trans ((zs_ne K _ _ hc).trans (v1 c hc))), fun r' U hr' hrq h => ?_, ?_, ?_⟩
      · rw [nI_sub1] at k2
        exact k2
      · exact zv_ne (zs_off (zs_off (v2 r' U hr' hrq h) (by omega)) (by omega)) (fun k h1 h2 => up_nk _ _ (by omega))
      · dsimp only
        rw [h1]
        exact zv_ne (zs_at _ _ _) (fun k h1 h2 => up_nk _ _ (by omega))
      · dsimp only
        rw [h2]
        intro k hk
        by_cases e : k = i / 30
        · rw [e]; exact mm_up_at _ _ _ _
        · refine (up_nk _ _ (by omega)).trans ((zq k hk).trans ?_)
          rw [dg_add, if_neg e]
          rfl
  · obtain ⟨K, o⟩ := σ
    obtain ⟨v1, v2, v3, v4⟩ := hv
    dsimp only at v1 v2 v3 v4 ⊢
    rw [Nat.pow_zero, Nat.div_one] at v3 v4
    rw [Nat.one_mul] at v4
    refine WP.ift rfl (show nI 0 - 1 < 0 by decide) ?_
    iterate 3 (refine WP.st rfl ?_)
    refine WP.calle rfl rfl (ev_copy L I K w a 7 (V % W) (by omega) (by omega) (by omega) v3) ?_
    exact WP.ret rfl ⟨rfl, zs K a (V % W), fun c hc => (zs_ne K _ _ hc).trans (v1 c hc), fun r U hr h1 h2 h => zs_off (v2 r U hr h2 h) h1, zs_at _ _ _, zs_off v4 (Ne.symm haq), rfl⟩
