/-! Balance: the work on the table -/
def isP (w : Nat → Nat) : Prop := (∀ k, k < 17 → 114 ≤ w k ∧ w k ≤ 130) ∧ ∀ j k, j < 17 → k < 17 → w j = w k → j = k
theorem wk {L x : Nat} (h1 : 114 ≤ x) (h2 : x ≤ 130) : KK x = 10 ∧ LL L x = 17 := by
  have e : x = 114 ∨ x = 115 ∨ x = 116 ∨ x = 117 ∨ x = 118 ∨ x = 119 ∨ x = 120 ∨ x = 121 ∨ x = 122 ∨ x = 123 ∨ x = 124 ∨ x = 125 ∨ x = 126 ∨ x = 127 ∨ x = 128 ∨ x = 129 ∨ x = 130 := by omega
  rcases e with rfl | rfl | rfl | rfl | rfl | rfl | rfl | rfl | rfl | rfl | rfl | rfl | rfl | rfl | rfl | rfl | rfl <;> exact ⟨rfl, rfl⟩
theorem wk_i {L : Nat} {w : Nat → Nat} (hw : isP w) {i : Nat} (hi : i < 17) : KK (w i) = 10 ∧ LL L (w i) = 17 ∧ Nat.ble (LL L (w i)) 2560 = true := by
  have h := wk (L := L) (hw.1 i hi).1 (hw.1 i hi).2
  exact ⟨h.1, h.2, by rw [h.2]; rfl⟩
theorem RR_w (w : Nat → Nat) {i : Nat} (hi : i < 17) : RR w 113 i = some (w i) := (if_pos rfl).trans (if_pos hi)
theorem RR_up (w : Nat → Nat) {k : Nat} (hk : k < 17) (v : Nat) : mm_up (RR w) 113 k (some v) = RR (fun i => if i = k then v else w i) := by
  funext b j
  unfold mm_up RR
  by_cases e : b = 113
  · subst e
    by_cases e2 : j = k
    · subst e2
      simp [hk]
    · rw [if_neg (fun z => e2 z.2), if_pos rfl, if_pos rfl]
      by_cases e3 : j < 17
      · simp [e3, e2]
      · rw [if_neg e3, if_neg e3]
  · rw [if_neg (fun z => e z.1), if_neg e, if_neg e]
/-- the work table -/
def WM (J : Nat → Nat → Int64) (w : Nat → Nat) (n : Nat) (W : Nat → Nat → Int) : Prop := ∀ i j, i ≤ n → j ≤ n → J (w i) j = zJ (W i j)
set_option maxHeartbeats 4000000 in
set_option maxRecDepth 20000 in
theorem sp_fillWork (L : Nat) (I : Nat → Nat → Int32) (J : Nat → Nat → Int64) (w : Nat → Nat) (n : Nat) (hn : n ≤ 16) (hsz : I 76 2 = nI n) (hw : isP w) (M : Nat → Nat → Int) (hT : TB J n M) (hM : ∀ i j, i ≤ n → j ≤ n → -2 ^ 40 < M i j ∧ M i j < 2 ^ 40) (p : Int) (p2 : 2 ≤ p) (p3 : p < 2 ^ 31) : SP m_Ba_fillWork [.ref 76, .long (zJ p)] (hp L I J w) (fun v h => v = none ∧ ∃ K : Nat → Nat → Int64, (∀ c, c < 114 ∨ 130 < c → K c = J c) ∧ WM K w n (fun i j => M i j % p) ∧ h = hp L I K w) := by
  unfold SP
  iterate 5 (refine WP.st rfl ?_)
  refine WP.inv (fun i (σ : (Nat → Nat → Int64) × Option Value) => (7, [some (.ref 76), some (.long (zJ p)), none, some (.int (nI i)), σ.2], [.int (I 76 2), .int (nI i)], hp L I σ.1 w, 0, 0)) (fun i σ => (∀ c, c < 114 ∨ 130 < c → σ.1 c = J c) ∧ ∀ a b, a < i → b ≤ n → σ.1 (w a) b = zJ (M a b % p)) (n + 1) (J, none) ⟨fun _ _ => rfl, fun a b ha => absurd ha (Nat.not_lt_zero a)⟩ (fun i σ hi hv kk => ?_) (fun σ hv => ?_)
  · obtain ⟨K, o4⟩ := σ
    obtain ⟨v1, v2⟩ := hv
    dsimp only at v1 v2 ⊢
    have wi := wk_i (L := L) hw (show i < 17 by omega)
    have ti := tb_i (L := L) w (show i < 17 by omega)
    refine WP.icf rfl (show ¬ I 76 2 < nI i by rw [hsz]; exact nI_nlt (by omega) (by omega)) ?_
    iterate 5 (refine WP.st rfl ?_)
    refine WP.inv (fun j (K : Nat → Nat → Int64) => (19, [some (.ref 76), some (.long (zJ p)), none, some (.int (nI i)), some (.int (nI j))], [.int (I 76 2), .int (nI j)], hp L I K w, 0, 0)) (fun j K => (∀ c, c < 114 ∨ 130 < c → K c = J c) ∧ (∀ a b, a < i → b ≤ n → K (w a) b = zJ (M a b % p)) ∧ ∀ b, b < j → K (w i) b = zJ (M i b % p)) (n + 1) K ⟨v1, v2, fun b hb => absurd hb (Nat.not_lt_zero b)⟩ (fun j K hj hv kk2 => ?_) (fun K hv => ?_)
    · obtain ⟨v1, v2, v3⟩ := hv
      have hm := hM i j (by omega) (by omega)
      refine WP.icf rfl (show ¬ I 76 2 < nI j by rw [hsz]; exact nI_nlt (by omega) (by omega)) ?_
      iterate 3 (refine WP.st rfl ?_)
      refine WP.aald (k := i) rfl (rfl) (Or.inr (Or.inr (Or.inr rfl))) (show i < 17 by omega) (rfl) (RR_w w (show i < 17 by omega)) ?_
      iterate 4 (refine WP.st rfl ?_)
      refine WP.aald (k := i) rfl (rfl) (Or.inr (Or.inr (Or.inr rfl))) (show i < 17 by omega) (rfl) (ti.1) ?_
      iterate 1 (refine WP.st rfl ?_)
      refine WP.lald (k := j) rfl (rfl) (Or.inl ti.2.1) (show j < LL L (96 + i) by rw [ti.2.2]; omega) (show Nat.ble (LL L (96 + i)) 2560 = true by rw [ti.2.2]; rfl) ?_
      rw [show hJ (hp L I K w) (96 + i) j = zJ (M i j) from (congrFun (v1 (96 + i) (by omega)) j).trans (hT i j (by omega) (by omega))]
      iterate 1 (refine WP.st rfl ?_)
      refine WP.calle rfl rfl (ev_rem _ (M i j) p p2 (by omega) (by omega) (by omega)) ?_
      refine WP.last (k := j) rfl (rfl) (wi.1) (show j < LL L (w i) by rw [wi.2.1]; omega) (wi.2.2) ?_
      iterate 5 (refine WP.st rfl ?_)
      have kk3 := kk2 (mm_up K (w i) j (zJ (M i j % p))) ⟨fun c hc => (up_ne K _ (by have := hw.1 i (by omega); omega)).trans (v1 c hc), fun a b ha hb => (mm_up_off K _ (fun z => by have := hw.2 a i (by omega) (by omega) z.1; omega)).trans (v2 a b ha hb), fun b hb => by
        by_cases e : b = j
        · rw [e]; exact mm_up_at K _ _ _
        · exact (up_nk K _ e).trans (v3 b (by omega))⟩
      rw [nI_succ j] at kk3
      exact kk3
    · obtain ⟨v1, v2, v3⟩ := hv
      refine WP.ict rfl (show I 76 2 < nI (n + 1) by rw [hsz]; exact nI_lt (by omega) (by omega)) ?_
      iterate 5 (refine WP.st rfl ?_)
      have kk3 := kk (K, some (.int (nI (n + 1)))) ⟨v1, fun a b ha hb => by
        by_cases e : a = i
        · rw [e]; exact v3 b (by omega)
        · exact v2 a b (by omega) hb⟩
      rw [nI_succ i] at kk3
      exact kk3
  · obtain ⟨K, o4⟩ := σ
    obtain ⟨v1, v2⟩ := hv
    dsimp only at v1 v2 ⊢
    refine WP.ict rfl (show I 76 2 < nI (n + 1) by rw [hsz]; exact nI_lt (by omega) (by omega)) ?_
    exact WP.ret rfl ⟨rfl, K, v1, fun i j hi hj => v2 i j (by omega) hj, rfl⟩
set_option maxHeartbeats 4000000 in
set_option maxRecDepth 20000 in
theorem sp_findRow (L : Nat) (I : Nat → Nat → Int32) (J : Nat → Nat → Int64) (w : Nat → Nat) (n c : Nat) (hn : n ≤ 16) (hc : c < n) (hsz : I 76 2 = nI n) (hw : isP w) (W : Nat → Nat → Int) (hW : WM J w n W) (p : Int) (p3 : p < 2 ^ 31) (hr : ∀ i j, i ≤ n → j ≤ n → 0 ≤ W i j ∧ W i j < p) : SP m_Ba_findRow [.ref 76, .int (nI c)] (hp L I J w) (fun v h => h = hp L I J w ∧ ∃ x, v = some (.int x) ∧ ((∃ r, c ≤ r ∧ r < n ∧ W r c ≠ 0 ∧ x = nI r) ∨ ((∀ r, c ≤ r → r < n → W r c = 0) ∧ x = -1))) := by
  unfold SP
  iterate 5 (refine WP.st rfl ?_)
  refine WP.search (fun i => (7, [some (.ref 76), some (.int (nI c)), some (.int (nI (c + i)))], [.int (I 76 2), .int (nI (c + i))], hp L I J w, 0, 0)) (fun i => W (c + i) c ≠ 0) (n - c) (fun i hi hP hb => ?_) (fun i hi hP kk => ?_) (fun hP => ?_)
  · have wi := wk_i (L := L) hw (show c + i < 17 by omega)
    have rg := hr (c + i) c (by omega) (by omega)
    refine WP.icf rfl (show ¬ I 76 2 ≤ nI (c + i) by rw [hsz]; exact nI_ge (by omega) (by omega)) ?_
    iterate 3 (refine WP.st rfl ?_)
    refine WP.aald (k := c + i) rfl (rfl) (Or.inr (Or.inr (Or.inr rfl))) (show c + i < 17 by omega) (rfl) (RR_w w (show c + i < 17 by omega)) ?_
    iterate 1 (refine WP.st rfl ?_)
    refine WP.lald (k := c) rfl (rfl) (Or.inl wi.1) (show c < LL L (w (c + i)) by rw [wi.2.1]; omega) (wi.2.2) ?_
    rw [show hJ (hp L I J w) (w (c + i)) c = zJ (W (c + i) c) from hW (c + i) c (by omega) (by omega)]
    iterate 2 (refine WP.st rfl ?_)
    refine WP.iff rfl (fun z => hP ((zJ_eq (by omega) (by omega) (by decide) (by decide)).mp (lc_eq.mp z))) ?_
    iterate 1 (refine WP.st rfl ?_)
    exact WP.ret rfl ⟨rfl, _, rfl, Or.inl ⟨c + i, by omega, by omega, hP, rfl⟩⟩
  · have wi := wk_i (L := L) hw (show c + i < 17 by omega)
    refine WP.icf rfl (show ¬ I 76 2 ≤ nI (c + i) by rw [hsz]; exact nI_ge (by omega) (by omega)) ?_
    iterate 3 (refine WP.st rfl ?_)
    refine WP.aald (k := c + i) rfl (rfl) (Or.inr (Or.inr (Or.inr rfl))) (show c + i < 17 by omega) (rfl) (RR_w w (show c + i < 17 by omega)) ?_
    iterate 1 (refine WP.st rfl ?_)
    refine WP.lald (k := c) rfl (rfl) (Or.inl wi.1) (show c < LL L (w (c + i)) by rw [wi.2.1]; omega) (wi.2.2) ?_
    rw [show hJ (hp L I J w) (w (c + i)) c = zJ (W (c + i) c) from hW (c + i) c (by omega) (by omega)]
    iterate 2 (refine WP.st rfl ?_)
    refine WP.ift rfl (lc_eq.mpr (by rw [Classical.not_not.mp hP]; rfl)) ?_
    iterate 5 (refine WP.st rfl ?_)
    rw [show c + (i + 1) = c + i + 1 by omega, nI_succ (c + i)] at kk
    exact kk
  · skip
    refine WP.ict rfl (show I 76 2 ≤ nI (c + (n - c)) by rw [hsz]; exact nI_le (by omega) (by omega)) ?_
    iterate 1 (refine WP.st rfl ?_)
    exact WP.ret rfl ⟨rfl, _, rfl, Or.inr ⟨fun r h1 h2 => by
      have := Classical.not_not.mp (hP (r - c) (by omega))
      rw [show c + (r - c) = r by omega] at this
      exact this, rfl⟩⟩
/-- the rows of the work table swapped -/
def wsw (w : Nat → Nat) (r c : Nat) : Nat → Nat := fun i => if i = c then w r else if i = r then w c else w i
theorem wsw_P {w : Nat → Nat} (hw : isP w) {r c : Nat} (hr : r < 17) (hc : c < 17) : isP (wsw w r c) := by
  refine ⟨fun k hk => ?_, fun j k hj hk h => ?_⟩
  · unfold wsw
    split
    · exact hw.1 r hr
    · split
      · exact hw.1 c hc
      · exact hw.1 k hk
  · unfold wsw at h
    have := hw.2
    split at h
    · split at h
      · omega
      · split at h
        · have := this r c hr hc h; omega
        · have := this r k hr hk h; omega
    · split at h
      · split at h
        · have := this c r hc hr h; omega
        · split at h
          · omega
          · have := this c k hc hk h; omega
      · split at h
        · have := this j r hj hr h; omega
        · split at h
          · have := this j c hj hc h; omega
          · exact this j k hj hk h
theorem wsw_WM {J : Nat → Nat → Int64} {w : Nat → Nat} {n r c : Nat} {W : Nat → Nat → Int} (h : WM J w n W) (hr : r ≤ n) (hc : c ≤ n) (hrc : r ≠ c) : WM J (wsw w r c) n (sw W r c) := by
  intro i j hi hj
  unfold wsw sw
  by_cases e : i = c
  · rw [if_pos e, if_neg (by omega), if_pos e]
    exact h r j hr hj
  · rw [if_neg e]
    by_cases e2 : i = r
    · rw [if_pos e2, if_pos e2]
      exact h c j hc hj
    · rw [if_neg e2, if_neg e2, if_neg e]
      exact h i j hi hj
theorem ev_swapRows (L : Nat) (I : Nat → Nat → Int32) (J : Nat → Nat → Int64) (w : Nat → Nat) (r c : Nat) (hr : r < 17) (hc : c < 17) (hrc : r ≠ c) (hw : isP w) : EV m_Ba_swapRows [.ref 76, .int (nI r), .int (nI c)] (hp L I J w) none (hp L I J (wsw w r c)) := by
  obtain ⟨v, h, e, q⟩ : SP m_Ba_swapRows [.ref 76, .int (nI r), .int (nI c)] (hp L I J w) (fun v h => v = none ∧ h = hp L I J (wsw w r c)) := by
    unfold SP
    iterate 3 (refine WP.st rfl ?_)
    refine WP.aald (k := r) rfl (rfl) (Or.inr (Or.inr (Or.inr rfl))) (show r < 17 from hr) (rfl) (RR_w w hr) ?_
    iterate 7 (refine WP.st rfl ?_)
    refine WP.aald (k := c) rfl (rfl) (Or.inr (Or.inr (Or.inr rfl))) (show c < 17 from hc) (rfl) (RR_w w hc) ?_
    refine WP.aast (k := r) rfl (rfl) (Or.inr (Or.inr ⟨rfl, (wk_i (L := L) hw hc).1⟩)) (show r < 17 from hr) (rfl) ?_
    iterate 4 (refine WP.st rfl ?_)
    refine WP.aast (k := c) rfl (rfl) (Or.inr (Or.inr ⟨rfl, (wk_i (L := L) hw hr).1⟩)) (show c < 17 from hc) (rfl) ?_
    refine WP.ret rfl ⟨rfl, ?_⟩
    show (I, J, mm_up (mm_up (RR w) 113 r (some (w c))) 113 c (some (w r)), KK, LL L, 229) = _
    rw [RR_up w hr, RR_up _ hc]
    rfl
  obtain ⟨rfl, rfl⟩ := q
  exact e
set_option maxHeartbeats 4000000 in
set_option maxRecDepth 20000 in
theorem sp_clearBelow (L : Nat) (I : Nat → Nat → Int32) (J : Nat → Nat → Int64) (w : Nat → Nat) (n c : Nat) (hn : n ≤ 16) (hc : c < n) (hsz : I 76 2 = nI n) (hw : isP w) (M W : Nat → Nat → Int) (d : Int) (p : Int) (hpp : pm p) (p3 : p < 2 ^ 31) (hW : WM J w n W) (hO : clr_ok p n c M W d) (hcc : W c c ≠ 0) : SP m_Ba_clearBelow [.ref 76, .int (nI c), .long (zJ p)] (hp L I J w) (fun v h => v = none ∧ ∃ (K : Nat → Nat → Int64) (V : Nat → Nat → Int), (∀ q, q < 114 ∨ 130 < q → K q = J q) ∧ WM K w n V ∧ cbl p n c (n + 1) W V ∧ h = hp L I K w) := by
  have p1 := hpp.1
  have wc := wk_i (L := L) hw (show c < 17 by omega)
  have rg := hO.1 c c (by omega) (by omega)
  obtain ⟨u, u0, u1, ⟨z, hz⟩, hev⟩ := ev_inv (hp L I J w) (W c c) p (by omega) rg.2 p3 (pm_gcd hpp (fun hd => hcc (nz_dvd rg.1 rg.2 hd)))
  unfold SP
  iterate 3 (refine WP.st rfl ?_)
  refine WP.aald (k := c) rfl (rfl) (Or.inr (Or.inr (Or.inr rfl))) (show c < 17 by omega) (rfl) (RR_w w (show c < 17 by omega)) ?_
  iterate 1 (refine WP.st rfl ?_)
  refine WP.lald (k := c) rfl (rfl) (Or.inl wc.1) (show c < LL L (w c) by rw [wc.2.1]; omega) (wc.2.2) ?_
  rw [show hJ (hp L I J w) (w c) c = zJ (W c c) from hW c c (by omega) (by omega)]
  iterate 1 (refine WP.st rfl ?_)
  refine WP.calle rfl rfl (hev) ?_
  iterate 8 (refine WP.st rfl ?_)
  have key := WP.inv (mid := m_Ba_clearBelow) (Q := fun v h => v = none ∧ ∃ (K : Nat → Nat → Int64) (V : Nat → Nat → Int), (∀ q, q < 114 ∨ 130 < q → K q = J q) ∧ WM K w n V ∧ cbl p n c (n + 1) W V ∧ h = hp L I K w) (fun i (σ : (Nat → Nat → Int64) × Option Value × Option Value) => (25, [some (.ref 76), some (.int (nI c)), some (.long (zJ p)), none, some (.long (zJ u)), none, some (.int (nI (c + 1 + i))), σ.2.1, none, σ.2.2, none], [.int (I 76 2), .int (nI (c + 1 + i))], hp L I σ.1 w, 0, 0)) (fun i σ => (∀ q, q < 114 ∨ 130 < q → σ.1 q = J q) ∧ ∃ V, WM σ.1 w n V ∧ cbl p n c (c + 1 + i) W V) (n - c) (J, none, none) ⟨fun _ _ => rfl, W, hW, cbl_0 hO⟩ (fun i σ hi hv kk => ?_) (fun σ hv => ?_)
  · rw [nI_succ c] at key
    exact key
  · obtain ⟨K, o7, o9⟩ := σ
    obtain ⟨v1, V, v2, v3⟩ := hv
    dsimp only at v1 v2 ⊢
    have wi := wk_i (L := L) hw (show c + 1 + i < 17 by omega)
    have rg2 := v3.1 (c + 1 + i) c (by omega) (by omega)
    have vcc : V c c = W c c := v3.2.1 c c (Nat.le_refl c) (by omega)
    refine WP.icf rfl (show ¬ I 76 2 < nI (c + 1 + i) by rw [hsz]; exact nI_nlt (by omega) (by omega)) ?_
    iterate 3 (refine WP.st rfl ?_)
    refine WP.aald (k := c + 1 + i) rfl (rfl) (Or.inr (Or.inr (Or.inr rfl))) (show c + 1 + i < 17 by omega) (rfl) (RR_w w (show c + 1 + i < 17 by omega)) ?_
    iterate 1 (refine WP.st rfl ?_)
    refine WP.lald (k := c) rfl (rfl) (Or.inl wi.1) (show c < LL L (w (c + 1 + i)) by rw [wi.2.1]; omega) (wi.2.2) ?_
    rw [show hJ (hp L I K w) (w (c + 1 + i)) c = zJ (V (c + 1 + i) c) from v2 (c + 1 + i) c (by omega) (by omega)]
    iterate 4 (refine WP.st rfl ?_)
    by_cases e0 : V (c + 1 + i) c = 0
    · refine WP.ift rfl (lc_eq.mpr (by rw [e0]; rfl)) ?_
      iterate 5 (refine WP.st rfl ?_)
      have kk2 := kk (K, some (.long (zJ (V (c + 1 + i) c))), o9) ⟨v1, V, v2, cbl_skip (q := c + 1 + i) v3 (by omega) e0⟩
      rw [show c + 1 + (i + 1) = c + 1 + i + 1 by omega, nI_succ (c + 1 + i)] at kk2
      exact kk2
    · skip
      refine WP.iff rfl (fun y => e0 ((zJ_eq (by omega) (by omega) (by decide) (by decide)).mp (lc_eq.mp y))) ?_
      iterate 3 (refine WP.st rfl ?_)
      rw [zJ_sub]
      iterate 2 (refine WP.st rfl ?_)
      rw [zJ_mul]
      have U0 : 0 ≤ (p - V (c + 1 + i) c) * u := Int.mul_nonneg (by omega) u0
      have U1 : (p - V (c + 1 + i) c) * u ≤ (2 ^ 31 - 1) * (2 ^ 31 - 1) := Int.mul_le_mul (by omega) (by omega) (by omega) (by omega)
      have F0 := Int.emod_nonneg ((p - V (c + 1 + i) c) * u) (show p ≠ 0 by omega)
      have F1 := Int.emod_lt_of_pos ((p - V (c + 1 + i) c) * u) (show 0 < p by omega)
      iterate 1 (refine WP.st rfl ?_)
      refine WP.calle rfl rfl (ev_rem _ ((p - V (c + 1 + i) c) * u) p (by omega) (by omega) (by omega) (by omega)) ?_
      iterate 4 (refine WP.st rfl ?_)
      refine WP.aald (k := c + 1 + i) rfl (rfl) (Or.inr (Or.inr (Or.inr rfl))) (show c + 1 + i < 17 by omega) (rfl) (RR_w w (show c + 1 + i < 17 by omega)) ?_
      iterate 3 (refine WP.st rfl ?_)
      refine WP.aald (k := c) rfl (rfl) (Or.inr (Or.inr (Or.inr rfl))) (show c < 17 by omega) (rfl) (RR_w w (show c < 17 by omega)) ?_
      iterate 7 (refine WP.st rfl ?_)
      rw [show (hI (hp L I K w) 76 2 + Int32.ofInt 1 : Int32) = nI (n + 1) from by rw [nI_succ, ← hsz]; rfl]
      refine WP.calle rfl rfl (ev_addTimes L I K w (w (c + 1 + i)) (w c) 17 17 (fun y => by have := hw.2 (c + 1 + i) c (by omega) (by omega) y; omega) wi.1 wc.1 wi.2.1 wc.2.1 (by omega) (by omega) c (n + 1) (by omega) (by omega) (by omega) (V (c + 1 + i)) (V c) ((p - V (c + 1 + i) c) * u % p) p (by omega) p3 F0 (by omega) (fun j hj => ⟨v2 (c + 1 + i) j (by omega) (by omega), v3.1 (c + 1 + i) j (by omega) (by omega)⟩) (fun j hj => ⟨v2 c j (by omega) (by omega), v3.1 c j (by omega) (by omega)⟩)) ?_
      iterate 5 (refine WP.st rfl ?_)
      have kk2 := kk (mm_row K (w (c + 1 + i)) (fun j => if c ≤ j ∧ j < n + 1 then zJ ((V (c + 1 + i) j + (p - V (c + 1 + i) c) * u % p * V c j) % p) else K (w (c + 1 + i)) j), some (.long (zJ (V (c + 1 + i) c))), some (.long (zJ ((p - V (c + 1 + i) c) * u % p)))) ⟨fun q hq => ?_, opm p V (c + 1 + i) c n ((p - V (c + 1 + i) c) * u % p), fun a b ha hb => ?_, cbl_op (q := c + 1 + i) hpp v3 (by omega) (by omega) (fun k hk => hO.2.1 k c hk hk (by omega)) (by rw [vcc]; exact hz)⟩
      · rw [show c + 1 + (i + 1) = c + 1 + i + 1 by omega, nI_succ (c + 1 + i)] at kk2
        exact kk2
      · funext k
        have hb := hw.1 (c + 1 + i) (by omega)
        dsimp only
        exact (mm_row_off K (a := w (c + 1 + i)) (c := q) _ k (by omega)).trans (congrFun (v1 q hq) k)
      · dsimp only
        unfold opm
        by_cases ea : a = c + 1 + i
        · subst ea
          refine (mm_row_at K _ _ b).trans ?_
          by_cases eb : c ≤ b
          · rw [if_pos ⟨eb, by omega⟩, if_pos ⟨rfl, eb, hb⟩]
          · rw [if_neg (fun y => eb y.1), if_neg (fun y => eb y.2.1)]
            exact v2 _ b ha hb
        · rw [if_neg (fun y => ea y.1)]
          exact (mm_row_off K _ b (fun y => ea (hw.2 a (c + 1 + i) (by omega) (by omega) y))).trans (v2 a b ha hb)
  · obtain ⟨K, o7, o9⟩ := σ
    obtain ⟨v1, V, v2, v3⟩ := hv
    dsimp only at v1 v2 ⊢
    rw [show c + 1 + (n - c) = n + 1 by omega] at v3 ⊢
    refine WP.ict rfl (show I 76 2 < nI (n + 1) by rw [hsz]; exact nI_lt (by omega) (by omega)) ?_
    exact WP.ret rfl ⟨rfl, K, V, v1, v2, v3, rfl⟩
