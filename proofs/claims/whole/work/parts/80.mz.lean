/-! the reference: small things, numbers in z -/
theorem ev_in (h : MH) (v a b : Int64) : EV m_Mo_in [.long v, .long a, .long b] h (some (.int (if a ≤ v ∧ v ≤ b then 1 else 0))) h := by
  obtain ⟨r, h', e, q⟩ : SP m_Mo_in [.long v, .long a, .long b] h (fun r h' => r = some (.int (if a ≤ v ∧ v ≤ b then 1 else 0)) ∧ h' = h) := by
    unfold SP
    iterate 3 (refine WP.st rfl ?_)
    by_cases z : v < a
    · refine WP.ift rfl (lc_lt.mpr z) ?_
      iterate 1 (refine WP.st rfl ?_)
      rw [if_neg (fun y => absurd y.1 (Int64.not_le.mpr z))]
      exact WP.ret rfl ⟨rfl, rfl⟩
    · skip
      refine WP.iff rfl (fun y => z (lc_lt.mp y)) ?_
      iterate 3 (refine WP.st rfl ?_)
      by_cases z2 : b < v
      · refine WP.ift rfl (lc_gt.mpr z2) ?_
        iterate 1 (refine WP.st rfl ?_)
        rw [if_neg (fun y => absurd y.2 (Int64.not_le.mpr z2))]
        exact WP.ret rfl ⟨rfl, rfl⟩
      · skip
        refine WP.iff rfl (fun y => z2 (lc_gt.mp y)) ?_
        iterate 2 (refine WP.st rfl ?_)
        rw [if_pos ⟨Int64.not_lt.mp z, Int64.not_lt.mp z2⟩]
        exact WP.ret rfl ⟨rfl, rfl⟩
  obtain ⟨rfl, rfl⟩ := q
  exact e
theorem ev_rest (h : MH) (v p : Int) (hp2 : 1 ≤ p) (hpx : p < 2 ^ 62) (v1 : -2 ^ 62 < v) (v2 : v < 2 ^ 62) : EV m_Mo_rest [.long (zJ v), .long (zJ p)] h (some (.long (zJ (v % p)))) h := by
  obtain ⟨r, h', e, q⟩ : SP m_Mo_rest [.long (zJ v), .long (zJ p)] h (fun r h' => r = some (.long (zJ (v % p))) ∧ h' = h) := by
    unfold SP
    have t1 := Int.tmod_lt_of_pos v (show 0 < p by omega)
    have t2 : -p < v.tmod p := Int.lt_tmod_of_pos v (by omega)
    iterate 2 (refine WP.st rfl ?_)
    refine WP.lrem rfl (fun z => by have := (zJ_eq (a := p) (b := 0) (by omega) (by omega) (by omega) (by omega)).mp z; omega) ?_
    rw [zJ_rem (by omega) (by omega) (by omega) (by omega)]
    iterate 4 (refine WP.st rfl ?_)
    by_cases z : v.tmod p < 0
    · refine WP.iff rfl (fun y => by have := (zJ_le (a := 0) (b := v.tmod p) (by omega) (by omega) (by omega) (by omega)).mp (lc_ge.mp y); omega) ?_
      iterate 3 (refine WP.st rfl ?_)
      rw [zJ_add]
      iterate 1 (refine WP.st rfl ?_)
      refine WP.ret rfl ⟨?_, rfl⟩
      show some (Value.long (zJ (v.tmod p + p))) = _
      rw [Int.emod_eq_tmod]
      have hv : ¬ (0 ≤ v ∨ p ∣ v) := by
        rintro (h0 | h0)
        · have := Int.tmod_nonneg p h0; omega
        · rw [Int.tmod_eq_zero_of_dvd h0] at z; omega
      rw [if_neg hv]
      congr 4
      omega
    · skip
      refine WP.ift rfl (lc_ge.mpr (show zJ 0 ≤ zJ (v.tmod p) from (zJ_le (by omega) (by omega) (by omega) (by omega)).mpr (by omega))) ?_
      iterate 1 (refine WP.st rfl ?_)
      refine WP.ret rfl ⟨?_, rfl⟩
      show some (Value.long (zJ (v.tmod p))) = _
      congr 3
      have m1 := Int.mul_tdiv_add_tmod v p
      have e2 : v % p = v.tmod p := by
        rw [← emod_dvd (a := v.tmod p) (b := v) ⟨- v.tdiv p, by grind⟩]
        exact Int.emod_eq_of_lt (by omega) t1
      rw [e2]
  obtain ⟨rfl, rfl⟩ := q
  exact e
theorem pw_e {p v x : Int} {k : Nat} (hk : k % 2 = 0) : v * (x * x % p) ^ (k / 2) % p = v * x ^ k % p := by
  apply emod_dvd
  obtain ⟨m, rfl⟩ : ∃ m, k = 2 * m := ⟨k / 2, by omega⟩
  rw [show 2 * m / 2 = m by omega, Int.pow_mul]
  have : ∀ m : Nat, p ∣ (x * x % p) ^ m - (x ^ 2) ^ m := by
    intro m
    induction m with
    | zero => exact ⟨0, by simp⟩
    | succ m ih =>
      obtain ⟨z1, hz1⟩ := ih
      obtain ⟨z2, hz2⟩ := Int.dvd_self_sub_emod (x := x * x) (m := p)
      rw [Int.pow_succ, Int.pow_succ]
      exact ⟨z1 * (x * x % p) - (x ^ 2) ^ m * z2, by grind⟩
  obtain ⟨z, hz⟩ := this m
  exact ⟨v * z, by grind⟩
theorem pw_o {p v x : Int} {k : Nat} (hk : k % 2 = 1) : (v * x % p) * (x * x % p) ^ (k / 2) % p = v * x ^ k % p := by
  rw [emod_mul_l]
  have h := pw_e (p := p) (v := v * x) (x := x) (k := k - 1) (by omega)
  rw [show (k - 1) / 2 = k / 2 by omega] at h
  rw [h]
  congr 1
  obtain ⟨m, rfl⟩ : ∃ m, k = m + 1 := ⟨k - 1, by omega⟩
  rw [show m + 1 - 1 = m by omega, Int.pow_succ]
  grind
theorem pw_loop (h : MH) (b e : Int32) (b0 : Int64) (p : Int) (p2 : 2 ≤ p) (p3 : p < 2 ^ 31) : ∀ (n k : Nat) (v x : Int), k ≤ n → k < 2 ^ 31 → 0 ≤ v → v < p → 0 ≤ x → x < p → WP m_Mo_power (11, [some (.long b0), none, some (.int e), some (.long (zJ p)), none, some (.long (zJ v)), none, some (.long (zJ x)), none, some (.int (nI k))], [.int (nI k)], h, 0, 0) (fun r h' => r = some (.long (zJ (v * x ^ k % p))) ∧ h' = h)
  | 0, k, v, x, hk, k1, v0, v1, x0, x1 => by
    obtain rfl : k = 0 := by omega
    refine WP.ift rfl (show nI 0 ≤ 0 by decide) ?_
    iterate 1 (refine WP.st rfl ?_)
    refine WP.ret rfl ⟨?_, rfl⟩
    rw [Int.pow_zero, Int.mul_one, Int.emod_eq_of_lt v0 v1]
  | n + 1, k, v, x, hk, k1, v0, v1, x0, x1 => by
    by_cases e0 : k = 0
    · subst e0
      refine WP.ift rfl (show nI 0 ≤ 0 by decide) ?_
      iterate 1 (refine WP.st rfl ?_)
      refine WP.ret rfl ⟨?_, rfl⟩
      rw [Int.pow_zero, Int.mul_one, Int.emod_eq_of_lt v0 v1]
    · have U0 : 0 ≤ v * x := Int.mul_nonneg v0 x0
      have U1 : v * x ≤ (2 ^ 31 - 1) * (2 ^ 31 - 1) := Int.mul_le_mul (by omega) (by omega) (by omega) (by omega)
      have X0 : 0 ≤ x * x := Int.mul_nonneg x0 x0
      have X1 : x * x ≤ (2 ^ 31 - 1) * (2 ^ 31 - 1) := Int.mul_le_mul (by omega) (by omega) (by omega) (by omega)
      have pz : ¬ zJ p = 0 := fun z => by have := (zJ_eq (a := p) (b := 0) (by omega) (by omega) (by omega) (by omega)).mp z; omega
      refine WP.iff rfl (nI_nle (by omega) k1) ?_
      iterate 2 (refine WP.st rfl ?_)
      refine WP.irem rfl (show ¬ (2 : Int32) = 0 by decide) ?_
      rw [show (nI k - nI k / Int32.ofInt 2 * Int32.ofInt 2 : Int32) = nI (k % 2) from pk_rem (d := 2) k1 (by decide) (by decide)]
      iterate 1 (refine WP.st rfl ?_)
      by_cases o : k % 2 = 1
      · rw [o]
        refine WP.icf rfl (fun z => z rfl) ?_
        iterate 3 (refine WP.st rfl ?_)
        rw [zJ_mul]
        iterate 1 (refine WP.st rfl ?_)
        refine WP.lrem rfl (pz) ?_
        rw [zJ_remp U0 (by omega) (by omega) (by omega)]
        iterate 4 (refine WP.st rfl ?_)
        rw [zJ_mul]
        iterate 1 (refine WP.st rfl ?_)
        refine WP.lrem rfl (pz) ?_
        rw [zJ_remp X0 (by omega) (by omega) (by omega)]
        iterate 3 (refine WP.st rfl ?_)
        refine WP.idiv rfl (show ¬ (2 : Int32) = 0 by decide) ?_
        rw [show (nI k / Int32.ofInt 2 : Int32) = nI (k / 2) from pk_div (d := 2) k1 (by decide) (by decide)]
        iterate 3 (refine WP.st rfl ?_)
        rw [← pw_o (p := p) (v := v) (x := x) o]
        exact pw_loop h b e b0 p p2 p3 n (k / 2) (v * x % p) (x * x % p) (by omega) (by omega) (Int.emod_nonneg _ (by omega)) (Int.emod_lt_of_pos _ (by omega)) (Int.emod_nonneg _ (by omega)) (Int.emod_lt_of_pos _ (by omega))
      · rw [show k % 2 = 0 by omega]
        refine WP.ict rfl (show ¬ nI 0 = nI 1 by decide) ?_
        iterate 3 (refine WP.st rfl ?_)
        rw [zJ_mul]
        iterate 1 (refine WP.st rfl ?_)
        refine WP.lrem rfl (pz) ?_
        rw [zJ_remp X0 (by omega) (by omega) (by omega)]
        iterate 3 (refine WP.st rfl ?_)
        refine WP.idiv rfl (show ¬ (2 : Int32) = 0 by decide) ?_
        rw [show (nI k / Int32.ofInt 2 : Int32) = nI (k / 2) from pk_div (d := 2) k1 (by decide) (by decide)]
        iterate 3 (refine WP.st rfl ?_)
        rw [← pw_e (p := p) (v := v) (x := x) (show k % 2 = 0 by omega)]
        exact pw_loop h b e b0 p p2 p3 n (k / 2) v (x * x % p) (by omega) (by omega) v0 v1 (Int.emod_nonneg _ (by omega)) (Int.emod_lt_of_pos _ (by omega))
theorem ev_power (h : MH) (x : Int) (k : Nat) (p : Int) (p2 : 2 ≤ p) (p3 : p < 2 ^ 31) (hk : k < 2 ^ 31) (x0 : 0 ≤ x) (x1 : x < p) : EV m_Mo_power [.long (zJ x), .int (nI k), .long (zJ p)] h (some (.long (zJ (x ^ k % p)))) h := by
  obtain ⟨r, h', e, q⟩ : SP m_Mo_power [.long (zJ x), .int (nI k), .long (zJ p)] h (fun r h' => r = some (.long (zJ (x ^ k % p))) ∧ h' = h) := by
    unfold SP
    iterate 7 (refine WP.st rfl ?_)
    have := pw_loop h 0 (nI k) (zJ x) p p2 p3 k k 1 x (Nat.le_refl k) hk (by omega) (by omega) x0 x1
    rw [Int.one_mul] at this
    exact this
  obtain ⟨rfl, rfl⟩ := q
  exact e
/-! rows of z -/
def zv (J : Nat → Nat → Int64) (a V : Nat) : Prop := ∀ i, i < 6 → J 227 (6 * a + i) = zJ (dg V i)
def zs (J : Nat → Nat → Int64) (a V : Nat) : Nat → Nat → Int64 := fun c k => if c = 227 ∧ 6 * a ≤ k ∧ k < 6 * a + 6 then zJ (dg V (k - 6 * a)) else J c k
theorem zs_at (J : Nat → Nat → Int64) (a V : Nat) : zv (zs J a V) a V := fun i hi => by
  show (if 227 = 227 ∧ _ then _ else _) = _
  rw [if_pos ⟨rfl, by omega, by omega⟩, show 6 * a + i - 6 * a = i by omega]
theorem zs_off {J : Nat → Nat → Int64} {a b V W : Nat} (h : zv J b W) (hab : b ≠ a) : zv (zs J a V) b W := fun i hi => by
  show (if 227 = 227 ∧ _ then _ else _) = _
  rw [if_neg (by omega)]
  exact h i hi
theorem zs_ne (J : Nat → Nat → Int64) (a V : Nat) {c : Nat} (h : c ≠ 227) : zs J a V c = J c := funext fun k => if_neg (fun z => h z.1)
theorem zs_of {J K : Nat → Nat → Int64} {a V : Nat} (h1 : ∀ c, c ≠ 227 → K c = J c) (h2 : ∀ k, k < 6 * a ∨ 6 * a + 6 ≤ k → K 227 k = J 227 k) (h3 : zv K a V) : K = zs J a V := by
  funext c k
  unfold zs
  by_cases e : c = 227
  · subst e
    by_cases e2 : 6 * a ≤ k ∧ k < 6 * a + 6
    · rw [if_pos ⟨rfl, e2⟩]
      have := h3 (k - 6 * a) (by omega)
      rw [show 6 * a + (k - 6 * a) = k by omega] at this
      exact this
    · rw [if_neg (fun z => e2 z.2)]
      exact h2 k (by omega)
  · rw [if_neg (fun z => e z.1), h1 c e]
theorem ix6 (a i : Nat) : ((Int8.ofInt 6).toInt32 * nI a + nI i : Int32) = nI (6 * a + i) := by
  rw [show ((Int8.ofInt 6).toInt32 : Int32) = nI 6 from rfl, pk_mul, nI_add]
theorem ix17 (a i : Nat) : ((Int8.ofInt 17).toInt32 * nI a + nI i : Int32) = nI (17 * a + i) := by
  rw [show ((Int8.ofInt 17).toInt32 : Int32) = nI 17 from rfl, pk_mul, nI_add]
/-- i of row a stand, the rest as in J -/
def zi (J K : Nat → Nat → Int64) (a V i : Nat) : Prop := (∀ c, c ≠ 227 → K c = J c) ∧ (∀ k, k < 6 * a ∨ 6 * a + i ≤ k → K 227 k = J 227 k) ∧ ∀ k, k < i → K 227 (6 * a + k) = zJ (dg V k)
theorem zi_0 (J : Nat → Nat → Int64) (a V : Nat) : zi J J a V 0 := ⟨fun _ _ => rfl, fun _ _ => rfl, fun k hk => absurd hk (Nat.not_lt_zero k)⟩
theorem zi_s {J K : Nat → Nat → Int64} {a V i : Nat} (h : zi J K a V i) : zi J (mm_up K 227 (6 * a + i) (zJ (dg V i))) a V (i + 1) :=
  ⟨fun c hc => (up_ne K _ hc).trans (h.1 c hc), fun k hk => (up_nk K _ (by omega)).trans (h.2.1 k (by omega)), fun k hk => by
    by_cases e : k = i
    · rw [e]; exact mm_up_at K _ _ _
    · exact (up_nk K _ (by omega)).trans (h.2.2 k (by omega))⟩
theorem zi_6 {J K : Nat → Nat → Int64} {a V : Nat} (h : zi J K a V 6) : K = zs J a V := zs_of h.1 h.2.1 h.2.2
theorem ev_zero (L : Nat) (I : Nat → Nat → Int32) (J : Nat → Nat → Int64) (w : Nat → Nat) (a : Nat) (ha : a < 8) : EV m_Mo_zero [.ref 208, .int (nI a)] (hp L I J w) none (hp L I (zs J a 0) w) := by
  obtain ⟨r, h', e, q⟩ : SP m_Mo_zero [.ref 208, .int (nI a)] (hp L I J w) (fun r h' => r = none ∧ h' = hp L I (zs J a 0) w) := by
    unfold SP
    iterate 4 (refine WP.st rfl ?_)
    refine WP.inv (fun i (K : Nat → Nat → Int64) => (5, [some (.ref 208), some (.int (nI a)), some (.int (nI i))], [.int (nI 6), .int (nI i)], hp L I K w, 0, 0)) (fun i K => zi J K a 0 i) 6 J (zi_0 J a 0) (fun i K hi hv kk => ?_) (fun K hv => ?_)
    · refine WP.icf rfl (nI_ge hi (by omega)) ?_
      iterate 8 (refine WP.st rfl ?_)
      refine WP.last (k := 6 * a + i) rfl (ix6 a i) (rfl) (show 6 * a + i < 48 by omega) (rfl) ?_
      iterate 4 (refine WP.st rfl ?_)
      have kk2 := kk (mm_up K 227 (6 * a + i) (zJ (dg 0 i))) (zi_s hv)
      rw [nI_succ i, dg_0] at kk2
      exact kk2
    · skip
      refine WP.ict rfl (nI_le (Nat.le_refl _) (by omega)) ?_
      rw [zi_6 hv]
      exact WP.ret rfl ⟨rfl, rfl⟩
  obtain ⟨rfl, rfl⟩ := q
  exact e
theorem ev_copy (L : Nat) (I : Nat → Nat → Int32) (J : Nat → Nat → Int64) (w : Nat → Nat) (a b V : Nat) (ha : a < 8) (hb : b < 8) (hab : a ≠ b) (hV : zv J b V) : EV m_Mo_copy [.ref 208, .int (nI a), .int (nI b)] (hp L I J w) none (hp L I (zs J a V) w) := by
  obtain ⟨r, h', e, q⟩ : SP m_Mo_copy [.ref 208, .int (nI a), .int (nI b)] (hp L I J w) (fun r h' => r = none ∧ h' = hp L I (zs J a V) w) := by
    unfold SP
    iterate 4 (refine WP.st rfl ?_)
    refine WP.inv (fun i (K : Nat → Nat → Int64) => (5, [some (.ref 208), some (.int (nI a)), some (.int (nI b)), some (.int (nI i))], [.int (nI 6), .int (nI i)], hp L I K w, 0, 0)) (fun i K => zi J K a V i) 6 J (zi_0 J a V) (fun i K hi hv kk => ?_) (fun K hv => ?_)
    · refine WP.icf rfl (nI_ge hi (by omega)) ?_
      iterate 14 (refine WP.st rfl ?_)
      refine WP.lald (k := 6 * b + i) rfl (ix6 b i) (Or.inl rfl) (show 6 * b + i < 48 by omega) (rfl) ?_
      rw [show hJ (hp L I K w) 227 (6 * b + i) = zJ (dg V i) from (hv.2.1 _ (by omega)).trans (hV i hi)]
      refine WP.last (k := 6 * a + i) rfl (ix6 a i) (rfl) (show 6 * a + i < 48 by omega) (rfl) ?_
      iterate 4 (refine WP.st rfl ?_)
      have kk2 := kk (mm_up K 227 (6 * a + i) (zJ (dg V i))) (zi_s hv)
      rw [nI_succ i] at kk2
      exact kk2
    · skip
      refine WP.ict rfl (nI_le (Nat.le_refl _) (by omega)) ?_
      rw [zi_6 hv]
      exact WP.ret rfl ⟨rfl, rfl⟩
  obtain ⟨rfl, rfl⟩ := q
  exact e
theorem ev_timesAnd (L : Nat) (I : Nat → Nat → Int32) (J : Nat → Nat → Int64) (w : Nat → Nat) (a V t m : Nat) (ha : a < 8) (hV : zv J a V) (ht : t < 2 ^ 31) (hm : m < 2 ^ 31) : EV m_Mo_timesAnd [.ref 208, .int (nI a), .long (zJ t), .long (zJ m)] (hp L I J w) none (hp L I (zs J a (V * t + m)) w) := by
  obtain ⟨r, h', e, q⟩ : SP m_Mo_timesAnd [.ref 208, .int (nI a), .long (zJ t), .long (zJ m)] (hp L I J w) (fun r h' => r = none ∧ h' = hp L I (zs J a (V * t + m)) w) := by
    unfold SP
    iterate 6 (refine WP.st rfl ?_)
    have key := WP.inv (mid := m_Mo_timesAnd) (Q := fun r h' => r = none ∧ h' = hp L I (zs J a (V * t + m)) w) (fun i (σ : (Nat → Nat → Int64) × Option Value) => (11, [some (.ref 208), some (.int (nI a)), some (.long (zJ t)), none, some (.long (zJ m)), none, some (.long (zJ (cy_ V t m i))), none, some (.int (nI i)), σ.2, none], [.int (nI 6), .int (nI i)], hp L I σ.1 w, 0, 0)) (fun i σ => zi J σ.1 a (V * t + m) i) 6 (J, none) (zi_0 J a _) (fun i σ hi hv kk => ?_) (fun σ hv => ?_)
    · rw [show cy_ V t m 0 = m from by unfold cy_; simp [Nat.mod_one]] at key
      exact key
    · obtain ⟨K, o⟩ := σ
      dsimp only at hv ⊢
      have c1 := cy_lt V t m i ht hm
      have d1 := dg_lt V i
      have m1 : dg V i * t ≤ 1073741823 * 2147483647 := Nat.mul_le_mul (by omega) (by omega)
      refine WP.icf rfl (nI_ge hi (by omega)) ?_
      iterate 7 (refine WP.st rfl ?_)
      refine WP.lald (k := 6 * a + i) rfl (ix6 a i) (Or.inl rfl) (show 6 * a + i < 48 by omega) (rfl) ?_
      rw [show hJ (hp L I K w) 227 (6 * a + i) = zJ (dg V i) from (hv.2.1 _ (by omega)).trans (hV i hi)]
      iterate 2 (refine WP.st rfl ?_)
      rw [zJ_m]
      iterate 2 (refine WP.st rfl ?_)
      rw [zJ_c, Nat.add_comm (dg V i * t)]
      iterate 10 (refine WP.st rfl ?_)
      refine WP.lrem rfl (show ¬ (1073741824 : Int64) = 0 by decide) ?_
      rw [show (zJ ((cy_ V t m i + dg V i * t : Nat) : Int) - zJ ((cy_ V t m i + dg V i * t : Nat) : Int) / 1073741824 * 1073741824 : Int64) = zJ ((dg (V * t + m) i : Nat) : Int) from by
        rw [← cy_dig]
        have := zJ_remp (a := ((cy_ V t m i + dg V i * t : Nat) : Int)) (b := 1073741824) (by omega) (by omega) (by decide) (by decide)
        exact this]
      refine WP.last (k := 6 * a + i) rfl (ix6 a i) (rfl) (show 6 * a + i < 48 by omega) (rfl) ?_
      iterate 2 (refine WP.st rfl ?_)
      refine WP.ldiv rfl (show ¬ (1073741824 : Int64) = 0 by decide) ?_
      rw [show (zJ ((cy_ V t m i + dg V i * t : Nat) : Int) / 1073741824 : Int64) = zJ ((cy_ V t m (i + 1) : Nat) : Int) from by
        rw [← cy_next]
        have := zJ_div (a := ((cy_ V t m i + dg V i * t : Nat) : Int)) (b := 1073741824) (by omega) (by omega) (by decide) (by decide)
        rw [Int.tdiv_eq_ediv_of_nonneg (by omega)] at this
        exact this]
      iterate 5 (refine WP.st rfl ?_)
      have kk2 := kk (mm_up K 227 (6 * a + i) (zJ (dg (V * t + m) i)), some (.long (zJ ((cy_ V t m i + dg V i * t : Nat) : Int)))) (zi_s hv)
      rw [nI_succ i] at kk2
      exact kk2
    · obtain ⟨K, o⟩ := σ
      dsimp only at hv ⊢
      refine WP.ict rfl (nI_le (Nat.le_refl _) (by omega)) ?_
      rw [zi_6 hv]
      exact WP.ret rfl ⟨rfl, rfl⟩
  obtain ⟨rfl, rfl⟩ := q
  exact e
