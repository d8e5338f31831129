/-! Balance: fillTable, aimAt, aimAtStrain -/
set_option maxHeartbeats 4000000 in
set_option maxRecDepth 20000 in
theorem sp_fillTable (L : Nat) (I : Nat → Nat → Int32) (J : Nat → Nat → Int64) (w : Nat → Nat) (A : Nat → Nat → Int) (g : Nat → Int) (n : Nat) (hB : BA I A g n) (s : Int) (hs : -1000 ≤ s ∧ s ≤ 1000) : SP m_Ba_fillTable [.ref 76, .int (zI s)] (hp L I J w) (fun v h => v = none ∧ ∃ K : Nat → Nat → Int64, (∀ c, c < 96 ∨ 112 < c → K c = J c) ∧ (∀ a b, a < n → b < n → K (96 + a) b = zJ (gm 16 A a b)) ∧ (∀ a, a < n → K (96 + a) n = zJ (g a)) ∧ K (96 + n) n = zJ s ∧ h = hp L I K w) := by
  obtain ⟨b1, b2, b3, b4⟩ := hB
  unfold SP
  iterate 5 (refine WP.st rfl ?_)
  refine WP.inv (fun i (σ : (Nat → Nat → Int64) × Option Value × Option Value) => (7, [some (.ref 76), some (.int (zI s)), some (.int (nI i)), σ.2.1, σ.2.2], [.int (I 76 2), .int (nI i)], hp L I σ.1 w, 0, 0)) (fun i σ => (∀ c, c < 96 ∨ 112 < c → σ.1 c = J c) ∧ (∀ a b, a < i → b < i → σ.1 (96 + a) b = zJ (gm 16 A a b)) ∧ (∀ a, a < i → σ.1 (96 + a) n = zJ (g a))) n (J, none, none) ⟨fun _ _ => rfl, fun a b ha => absurd ha (Nat.not_lt_zero a), fun a ha => absurd ha (Nat.not_lt_zero a)⟩ (fun i σ hi hv kk => ?_) (fun σ hv => ?_)
  · obtain ⟨K, o3, o4⟩ := σ
    obtain ⟨v1, v2, v3⟩ := hv
    dsimp only at v1 v2 v3 ⊢
    have fi := fa_i (L := L) w (show i < 16 by omega)
    have ti := tb_i (L := L) w (show i < 17 by omega)
    refine WP.icf rfl (show ¬ I 76 2 ≤ nI i by rw [b1]; exact nI_ge hi (by omega)) ?_
    iterate 4 (refine WP.st rfl ?_)
    refine WP.inv (fun j (σ : (Nat → Nat → Int64) × Option Value) => (14, [some (.ref 76), some (.int (zI s)), some (.int (nI i)), some (.int (nI j)), σ.2], [.int (nI i), .int (nI j)], hp L I σ.1 w, 0, 0)) (fun j σ => (∀ c, c < 96 ∨ 112 < c → σ.1 c = J c) ∧ (∀ a b, a < i → b < i → σ.1 (96 + a) b = zJ (gm 16 A a b)) ∧ (∀ a, a < i → σ.1 (96 + a) n = zJ (g a)) ∧ (∀ b, b < j → σ.1 (96 + i) b = zJ (gm 16 A i b) ∧ σ.1 (96 + b) i = zJ (gm 16 A i b))) (i + 1) (K, o4) ⟨v1, v2, v3, fun b hb => absurd hb (Nat.not_lt_zero b)⟩ (fun j σ hj hv kk2 => ?_) (fun σ hv => ?_)
    · obtain ⟨K, o4⟩ := σ
      obtain ⟨v1, v2, v3, v4⟩ := hv
      dsimp only at v1 v2 v3 v4 ⊢
      have fj := fa_i (L := L) w (show j < 16 by omega)
      have tj := tb_i (L := L) w (show j < 17 by omega)
      refine WP.icf rfl (show ¬ nI i < nI j from nI_nlt (by omega) (by omega)) ?_
      iterate 3 (refine WP.st rfl ?_)
      refine WP.aald (k := i) rfl (rfl) (Or.inr (Or.inr (Or.inl rfl))) (show i < 16 by omega) (rfl) (fi.1) ?_
      iterate 3 (refine WP.st rfl ?_)
      refine WP.aald (k := j) rfl (rfl) (Or.inr (Or.inr (Or.inl rfl))) (show j < 16 by omega) (rfl) (fj.1) ?_
      refine WP.calle rfl rfl (ev_dot L I K w (78 + i) (78 + j) fi.2.1 fj.2.1 fi.2.2 fj.2.2 (A i) (A j) (b3 i hi).1 (b3 j (by omega)).1) ?_
      have db := dt_small (b4 i hi).1 (b4 j (by omega)).1
      iterate 4 (refine WP.st rfl ?_)
      refine WP.aald (k := i) rfl (rfl) (Or.inr (Or.inr (Or.inr rfl))) (show i < 17 by omega) (rfl) (ti.1) ?_
      iterate 3 (refine WP.st rfl ?_)
      rw [zI_l (by omega) (by omega)]
      refine WP.last (k := j) rfl (rfl) (ti.2.1) (show j < LL L (96 + i) by rw [ti.2.2]; omega) (show Nat.ble (LL L (96 + i)) 2560 = true by rw [ti.2.2]; rfl) ?_
      iterate 3 (refine WP.st rfl ?_)
      refine WP.aald (k := j) rfl (rfl) (Or.inr (Or.inr (Or.inr rfl))) (show j < 17 by omega) (rfl) (tj.1) ?_
      iterate 3 (refine WP.st rfl ?_)
      rw [zI_l (by omega) (by omega)]
      refine WP.last (k := i) rfl (rfl) (tj.2.1) (show i < LL L (96 + j) by rw [tj.2.2]; omega) (show Nat.ble (LL L (96 + j)) 2560 = true by rw [tj.2.2]; rfl) ?_
      iterate 4 (refine WP.st rfl ?_)
      have kk3 := kk2 (mm_up (mm_up K (96 + i) j (zJ (dt 16 (A i) (A j)))) (96 + j) i (zJ (dt 16 (A i) (A j))), some (.int (zI (dt 16 (A i) (A j))))) ⟨fun c hc => (up_ne _ _ (by omega)).trans ((up_ne K _ (by omega)).trans (v1 c hc)), fun a b ha hb => (mm_up_off _ _ (by omega)).trans ((mm_up_off K _ (by omega)).trans (v2 a b ha hb)), fun a ha => (mm_up_off _ _ (by omega)).trans ((mm_up_off K _ (by omega)).trans (v3 a ha)), fun b hb => ?_⟩
      · rw [nI_succ j] at kk3
        exact kk3
      · by_cases e : b = j
        · subst e
          refine ⟨?_, mm_up_at _ _ _ _⟩
          dsimp only
          by_cases e2 : b = i
          · subst e2
            exact mm_up_at _ _ _ _
          · exact (mm_up_off _ _ (by omega)).trans (mm_up_at _ _ _ _)
        · exact ⟨(mm_up_off _ _ (by omega)).trans ((mm_up_off K _ (by omega)).trans (v4 b (by omega)).1), (mm_up_off _ _ (by omega)).trans ((mm_up_off K _ (by omega)).trans (v4 b (by omega)).2)⟩
    · obtain ⟨K, o4⟩ := σ
      obtain ⟨v1, v2, v3, v4⟩ := hv
      dsimp only at v1 v2 v3 v4 ⊢
      have gb := (b4 i hi).2
      refine WP.ict rfl (show nI i < nI (i + 1) from nI_lt (by omega) (by omega)) ?_
      iterate 3 (refine WP.st rfl ?_)
      refine WP.aald (k := i) rfl (rfl) (Or.inr (Or.inr (Or.inr rfl))) (show i < 17 by omega) (rfl) (ti.1) ?_
      iterate 5 (refine WP.st rfl ?_)
      refine WP.iald (k := i) rfl (rfl) (Or.inl rfl) (show i < 16 by omega) (rfl) ?_
      rw [show hI (hp L I K w) 94 i = zI (g i) from (b3 i hi).2]
      iterate 1 (refine WP.st rfl ?_)
      rw [zI_l (by omega) (by omega)]
      refine WP.last (k := n) rfl (b1) (ti.2.1) (show n < LL L (96 + i) by rw [ti.2.2]; omega) (show Nat.ble (LL L (96 + i)) 2560 = true by rw [ti.2.2]; rfl) ?_
      iterate 5 (refine WP.st rfl ?_)
      have kk3 := kk (mm_up K (96 + i) n (zJ (g i)), some (.int (nI (i + 1))), o4) ⟨fun c hc => (up_ne K _ (by omega)).trans (v1 c hc), fun a b ha hb => ?_, fun a ha => ?_⟩
      · rw [nI_succ i] at kk3 ⊢
        exact kk3
      · refine (mm_up_off K _ (by omega)).trans ?_
        by_cases e : a = i
        · rw [e]; exact (v4 b hb).1
        · by_cases e2 : b = i
          · rw [e2, gm_sym]; exact (v4 a (by omega)).2
          · exact v2 a b (by omega) (by omega)
      · by_cases e : a = i
        · rw [e]; exact mm_up_at K _ _ _
        · exact (mm_up_off K _ (by omega)).trans (v3 a (by omega))
  · obtain ⟨K, o3, o4⟩ := σ
    obtain ⟨v1, v2, v3⟩ := hv
    dsimp only at v1 v2 v3 ⊢
    have tn := tb_i (L := L) w (show n < 17 by omega)
    refine WP.ict rfl (show I 76 2 ≤ nI n by rw [b1]; exact nI_le (Nat.le_refl _) (by omega)) ?_
    iterate 4 (refine WP.st rfl ?_)
    refine WP.aald (k := n) rfl (b1) (Or.inr (Or.inr (Or.inr rfl))) (show n < 17 by omega) (rfl) (tn.1) ?_
    iterate 4 (refine WP.st rfl ?_)
    rw [zI_l (by omega) (by omega)]
    refine WP.last (k := n) rfl (b1) (tn.2.1) (show n < LL L (96 + n) by rw [tn.2.2]; omega) (show Nat.ble (LL L (96 + n)) 2560 = true by rw [tn.2.2]; rfl) ?_
    exact WP.ret rfl ⟨rfl, _, fun c hc => (up_ne K _ (by omega)).trans (v1 c hc), fun a b ha hb => (mm_up_off K _ (by omega)).trans (v2 a b ha hb), fun a ha => (mm_up_off K _ (by omega)).trans (v3 a ha), mm_up_at K _ _ _, rfl⟩
/-- the table -/
def TB (J : Nat → Nat → Int64) (n : Nat) (M : Nat → Nat → Int) : Prop := ∀ i j, i ≤ n → j ≤ n → J (96 + i) j = zJ (M i j)
theorem TB_of {K : Nat → Nat → Int64} {n : Nat} {A : Nat → Nat → Int} {g v : Nat → Int} {s : Int} (h1 : ∀ a b, a < n → b < n → K (96 + a) b = zJ (gm 16 A a b)) (h2 : ∀ a, a < n → K (96 + a) n = zJ (g a)) (h3 : K (96 + n) n = zJ s) (h4 : ∀ b, b < n → K (96 + n) b = zJ (- v b)) : TB K n (bd n (gm 16 A) g v s) := by
  intro i j hi hj
  by_cases e1 : i < n
  · by_cases e2 : j < n
    · rw [bd_in e1 e2]; exact h1 i j e1 e2
    · obtain rfl : j = n := by omega
      rw [bd_col e1]; exact h2 i e1
  · obtain rfl : i = n := by omega
    by_cases e2 : j < i
    · rw [bd_row e2]; exact h4 j e2
    · obtain rfl : j = i := by omega
      rw [bd_cor]; exact h3
set_option maxHeartbeats 4000000 in
set_option maxRecDepth 20000 in
theorem sp_aimAt (L : Nat) (I : Nat → Nat → Int32) (J : Nat → Nat → Int64) (w : Nat → Nat) (A : Nat → Nat → Int) (g : Nat → Int) (n : Nat) (hB : BA I A g n) (k : Nat) (hk : k < 16) (s : Int) (hs : -1000 ≤ s ∧ s ≤ 1000) : SP m_Ba_aimAt [.ref 76, .int (nI k), .int (zI s)] (hp L I J w) (fun v h => v = none ∧ ∃ K : Nat → Nat → Int64, (∀ c, c < 96 ∨ 112 < c → K c = J c) ∧ TB K n (bd n (gm 16 A) g (fun i => A i k) s) ∧ h = hp L I K w) := by
  have hB' := hB
  obtain ⟨b1, b2, b3, b4⟩ := hB
  have tn := tb_i (L := L) w (show n < 17 by omega)
  unfold SP
  iterate 2 (refine WP.st rfl ?_)
  refine WP.call rfl rfl (sp_fillTable L I J w A g n hB' s hs) ?_
  rintro _ _ ⟨rfl, K, k1, k2, k3, k4, rfl⟩
  iterate 5 (refine WP.st rfl ?_)
  refine WP.inv (fun i (K : Nat → Nat → Int64) => (12, [some (.ref 76), some (.int (nI k)), some (.int (zI s)), some (.int (nI i))], [.int (I 76 2), .int (nI i)], hp L I K w, 0, 0)) (fun i K => (∀ c, c < 96 ∨ 112 < c → K c = J c) ∧ (∀ a b, a < n → b < n → K (96 + a) b = zJ (gm 16 A a b)) ∧ (∀ a, a < n → K (96 + a) n = zJ (g a)) ∧ K (96 + n) n = zJ s ∧ (∀ b, b < i → K (96 + n) b = zJ (- A b k))) n K ⟨k1, k2, k3, k4, fun b hb => absurd hb (Nat.not_lt_zero b)⟩ (fun i K hi hv kk => ?_) (fun K hv => ?_)
  · obtain ⟨k1, k2, k3, k4, k5⟩ := hv
    have fi := fa_i (L := L) w (show i < 16 by omega)
    have e6 := ent6 (b4 i hi).1 hk
    refine WP.icf rfl (show ¬ I 76 2 ≤ nI i by rw [b1]; exact nI_ge hi (by omega)) ?_
    iterate 4 (refine WP.st rfl ?_)
    refine WP.aald (k := n) rfl (b1) (Or.inr (Or.inr (Or.inr rfl))) (show n < 17 by omega) (rfl) (tn.1) ?_
    iterate 4 (refine WP.st rfl ?_)
    refine WP.aald (k := i) rfl (rfl) (Or.inr (Or.inr (Or.inl rfl))) (show i < 16 by omega) (rfl) (fi.1) ?_
    iterate 1 (refine WP.st rfl ?_)
    refine WP.iald (k := k) rfl (rfl) (Or.inl fi.2.1) (show k < LL L (78 + i) by rw [fi.2.2]; omega) (show Nat.ble (LL L (78 + i)) 2560 = true by rw [fi.2.2]; rfl) ?_
    rw [show hI (hp L I K w) (78 + i) k = zI (A i k) from (b3 i hi).1 k hk]
    iterate 1 (refine WP.st rfl ?_)
    rw [zI_neg]
    iterate 1 (refine WP.st rfl ?_)
    rw [zI_l (by omega) (by omega)]
    refine WP.last (k := i) rfl (rfl) (tn.2.1) (show i < LL L (96 + n) by rw [tn.2.2]; omega) (show Nat.ble (LL L (96 + n)) 2560 = true by rw [tn.2.2]; rfl) ?_
    iterate 5 (refine WP.st rfl ?_)
    have kk2 := kk (mm_up K (96 + n) i (zJ (- A i k))) ⟨fun c hc => (up_ne K _ (by omega)).trans (k1 c hc), fun a b ha hb => (mm_up_off K _ (by omega)).trans (k2 a b ha hb), fun a ha => (mm_up_off K _ (by omega)).trans (k3 a ha), (mm_up_off K _ (by omega)).trans k4, fun b hb => by
      by_cases e : b = i
      · rw [e]; exact mm_up_at K _ _ _
      · exact (mm_up_off K _ (by omega)).trans (k5 b (by omega))⟩
    rw [nI_succ i] at kk2
    exact kk2
  · obtain ⟨k1, k2, k3, k4, k5⟩ := hv
    refine WP.ict rfl (show I 76 2 ≤ nI n by rw [b1]; exact nI_le (Nat.le_refl _) (by omega)) ?_
    exact WP.ret rfl ⟨rfl, K, k1, TB_of k2 k3 k4 k5, rfl⟩
set_option maxHeartbeats 4000000 in
set_option maxRecDepth 20000 in
theorem sp_aimStrain (L : Nat) (I : Nat → Nat → Int32) (J : Nat → Nat → Int64) (w : Nat → Nat) (A : Nat → Nat → Int) (g : Nat → Int) (n : Nat) (hB : BA I A g n) : SP m_Ba_aimAtStrain [.ref 76] (hp L I J w) (fun v h => v = none ∧ ∃ K : Nat → Nat → Int64, (∀ c, c < 96 ∨ 112 < c → K c = J c) ∧ TB K n (bd n (gm 16 A) g g 0) ∧ h = hp L I K w) := by
  have hB' := hB
  obtain ⟨b1, b2, b3, b4⟩ := hB
  have tn := tb_i (L := L) w (show n < 17 by omega)
  unfold SP
  iterate 2 (refine WP.st rfl ?_)
  refine WP.call rfl rfl (sp_fillTable L I J w A g n hB' 0 (by omega)) ?_
  rintro _ _ ⟨rfl, K, k1, k2, k3, k4, rfl⟩
  iterate 5 (refine WP.st rfl ?_)
  refine WP.inv (fun i (K : Nat → Nat → Int64) => (12, [some (.ref 76), some (.int (nI i))], [.int (I 76 2), .int (nI i)], hp L I K w, 0, 0)) (fun i K => (∀ c, c < 96 ∨ 112 < c → K c = J c) ∧ (∀ a b, a < n → b < n → K (96 + a) b = zJ (gm 16 A a b)) ∧ (∀ a, a < n → K (96 + a) n = zJ (g a)) ∧ K (96 + n) n = zJ 0 ∧ (∀ b, b < i → K (96 + n) b = zJ (- g b))) n K ⟨k1, k2, k3, k4, fun b hb => absurd hb (Nat.not_lt_zero b)⟩ (fun i K hi hv kk => ?_) (fun K hv => ?_)
  · obtain ⟨k1, k2, k3, k4, k5⟩ := hv
    have gb := (b4 i hi).2
    refine WP.icf rfl (show ¬ I 76 2 ≤ nI i by rw [b1]; exact nI_ge hi (by omega)) ?_
    iterate 4 (refine WP.st rfl ?_)
    refine WP.aald (k := n) rfl (b1) (Or.inr (Or.inr (Or.inr rfl))) (show n < 17 by omega) (rfl) (tn.1) ?_
    iterate 4 (refine WP.st rfl ?_)
    refine WP.iald (k := i) rfl (rfl) (Or.inl rfl) (show i < 16 by omega) (rfl) ?_
    rw [show hI (hp L I K w) 94 i = zI (g i) from (b3 i hi).2]
    iterate 1 (refine WP.st rfl ?_)
    rw [zI_neg]
    iterate 1 (refine WP.st rfl ?_)
    rw [zI_l (by omega) (by omega)]
    refine WP.last (k := i) rfl (rfl) (tn.2.1) (show i < LL L (96 + n) by rw [tn.2.2]; omega) (show Nat.ble (LL L (96 + n)) 2560 = true by rw [tn.2.2]; rfl) ?_
    iterate 5 (refine WP.st rfl ?_)
    have kk2 := kk (mm_up K (96 + n) i (zJ (- g i))) ⟨fun c hc => (up_ne K _ (by omega)).trans (k1 c hc), fun a b ha hb => (mm_up_off K _ (by omega)).trans (k2 a b ha hb), fun a ha => (mm_up_off K _ (by omega)).trans (k3 a ha), (mm_up_off K _ (by omega)).trans k4, fun b hb => by
      by_cases e : b = i
      · rw [e]; exact mm_up_at K _ _ _
      · exact (mm_up_off K _ (by omega)).trans (k5 b (by omega))⟩
    rw [nI_succ i] at kk2
    exact kk2
  · obtain ⟨k1, k2, k3, k4, k5⟩ := hv
    refine WP.ict rfl (show I 76 2 ≤ nI n by rw [b1]; exact nI_le (Nat.le_refl _) (by omega)) ?_
    exact WP.ret rfl ⟨rfl, K, k1, TB_of k2 k3 k4 k5, rfl⟩
