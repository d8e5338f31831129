/-! calls of an object that is known by a premise -/
section CALLV
variable {mid pc : Nat} {L : ML} {sk : List Value} {h : MH} {cu su : Nat} {Q : Option Value → MH → Prop}
theorem one_cv {idx m2 b : Nat} {r av : List Value} (hf : mm_fet mid pc = some (.invokevirtual idx, 3, 0)) (hm : mm_mth (mi_c (mm_of mid)) idx = some m2) (h9 : Nat.blt m2 900 = true) (hs0 : Nat.beq (mi_s (mm_of m2)) 1 = false) (hd : sk.drop (mi_n (mm_of m2)) = .ref b :: r) (hk : hK h b = mi_c (mm_of m2)) (hft : mm_fit (mm_of mid) (mm_of m2) cu su r = true) (hav : .ref b :: (sk.take (mi_n (mm_of m2))).reverse = av) : mm_one mid pc L sk h cu su = some (.inr (.inr (m2, av, (pc + 3, L, r, h, cu + mi_mc (mm_of m2), su + mi_ms (mm_of m2))))) := by
  rw [mm_one_of hf]
  show mm_inv mid (mi_c (mm_of mid)) idx pc true L sk h cu su = _
  unfold mm_inv
  rw [hm]
  have h9' : m2 < 900 := Nat.lt_of_succ_le (Nat.le_of_ble_eq_true h9)
  split
  · rename_i e; cases e
  · rename_i e; cases e; omega
  · rename_i e; cases e; omega
  · rename_i e; cases e; omega
  · rename_i m3 _ _ _ e
    cases e
    rw [hs0, hd]
    dsimp only
    rw [cond_false, if_pos ⟨rfl, hk, hft⟩, hav]
theorem WP.cv {idx m2 b : Nat} {r av : List Value} {Q2 : Option Value → MH → Prop} (hf : mm_fet mid pc = some (.invokevirtual idx, 3, 0)) (hm : mm_mth (mi_c (mm_of mid)) idx = some m2) (h9 : Nat.blt m2 900 = true) (hs0 : Nat.beq (mi_s (mm_of m2)) 1 = false) (hd : sk.drop (mi_n (mm_of m2)) = .ref b :: r) (hk : hK h b = mi_c (mm_of m2)) (hft : mm_fit (mm_of mid) (mm_of m2) cu su r = true) (hav : .ref b :: (sk.take (mi_n (mm_of m2))).reverse = av) (hb : Nat.ble (mm_slots av).length (mi_l (mm_of m2)) = true) (hs : SP m2 av h Q2) (k : ∀ v h2, Q2 v h2 → WP mid (pc + 3, L, v.toList ++ r, h2, cu + mi_mc (mm_of m2), su + mi_ms (mm_of m2)) Q) : WP mid (pc, L, sk, h, cu, su) Q := WP.call (one_cv hf hm h9 hs0 hd hk hft hav) hb hs k
theorem WP.cve {idx m2 b : Nat} {r av : List Value} {v : Option Value} {h2 : MH} (hf : mm_fet mid pc = some (.invokevirtual idx, 3, 0)) (hm : mm_mth (mi_c (mm_of mid)) idx = some m2) (h9 : Nat.blt m2 900 = true) (hs0 : Nat.beq (mi_s (mm_of m2)) 1 = false) (hd : sk.drop (mi_n (mm_of m2)) = .ref b :: r) (hk : hK h b = mi_c (mm_of m2)) (hft : mm_fit (mm_of mid) (mm_of m2) cu su r = true) (hav : .ref b :: (sk.take (mi_n (mm_of m2))).reverse = av) (hb : Nat.ble (mm_slots av).length (mi_l (mm_of m2)) = true) (hs : EV m2 av h v h2) (k : WP mid (pc + 3, L, v.toList ++ r, h2, cu + mi_mc (mm_of m2), su + mi_ms (mm_of m2)) Q) : WP mid (pc, L, sk, h, cu, su) Q := WP.calle (one_cv hf hm h9 hs0 hd hk hft hav) hb hs k
end CALLV
/-! Witness -/
abbrev isW (b : Nat) : Prop := b = 16 ∨ b = 36 ∨ b = 56
theorem isW_K {b : Nat} (h : isW b) : KK b = 6 ∧ KK (b + 1) = 15 ∧ KK (b + 18) = 9 ∧ KK (b + 19) = 10 := by rcases h with rfl | rfl | rfl <;> decide
theorem isW_L {L b : Nat} (h : isW b) : LL L (b + 1) = 16 ∧ LL L (b + 18) = 16 ∧ LL L (b + 19) = 33 := by rcases h with rfl | rfl | rfl <;> exact ⟨rfl, rfl, rfl⟩
theorem isW_R (w : Nat → Nat) {b : Nat} (h : isW b) : RR w b 1 = some (b + 1) ∧ RR w b 2 = some (b + 18) ∧ RR w b 5 = some (b + 19) := by rcases h with rfl | rfl | rfl <;> exact ⟨rfl, rfl, rfl⟩
theorem isW_i {L : Nat} (w : Nat → Nat) {b i : Nat} (h : isW b) (hi : i < 16) : RR w (b + 1) i = some (b + 2 + i) ∧ KK (b + 2 + i) = 10 ∧ LL L (b + 2 + i) = 33 := by
  have e : i = 0 ∨ i = 1 ∨ i = 2 ∨ i = 3 ∨ i = 4 ∨ i = 5 ∨ i = 6 ∨ i = 7 ∨ i = 8 ∨ i = 9 ∨ i = 10 ∨ i = 11 ∨ i = 12 ∨ i = 13 ∨ i = 14 ∨ i = 15 := by omega
  rcases h with rfl | rfl | rfl <;> rcases e with rfl | rfl | rfl | rfl | rfl | rfl | rfl | rfl | rfl | rfl | rfl | rfl | rfl | rfl | rfl | rfl <;> exact ⟨rfl, rfl, rfl⟩
/-- a telling: its terms, and what it is as a row -/
def tT (I : Nat → Nat → Int32) (s n : Nat) (nm : Nat → Nat) (fc t : Nat → Int) : Prop := I s 0 = zI (t 16) ∧ (-2000 ≤ t 16 ∧ t 16 ≤ 2000) ∧ n ≤ 4 ∧ I s 1 = nI n ∧ (∀ k, k < n → I (s + 1) k = nI (nm k) ∧ nm k < 16 ∧ I (s + 2) k = zI (fc k) ∧ fc k ≠ 0 ∧ -3 ≤ fc k ∧ fc k ≤ 3 ∧ t (nm k) = fc k) ∧ (∀ j k, j < k → k < n → nm j ≠ nm k) ∧ (∀ c, c < 16 → (∀ k, k < n → nm k ≠ c) → t c = 0)
def isT (I : Nat → Nat → Int32) (s : Nat) (t : Nat → Int) : Prop := ∃ n nm fc, tT I s n nm fc t
theorem ev_isBlind (L : Nat) (I : Nat → Nat → Int32) (J : Nat → Nat → Int64) (w : Nat → Nat) (b : Nat) (hb : isW b) : EV m_Wi_isBlind [.ref b] (hp L I J w) (some (.int (if I b 4 < I b 3 then 1 else 0))) (hp L I J w) := by
  obtain ⟨r, h, e, q⟩ : SP m_Wi_isBlind [.ref b] (hp L I J w) (fun r h => r = some (.int (if I b 4 < I b 3 then 1 else 0)) ∧ h = hp L I J w) := by
    unfold SP
    iterate 1 (refine WP.st rfl ?_)
    refine WP.get (v := .int (I b 4)) rfl rfl ((isW_K hb).1) (rfl) ?_
    iterate 1 (refine WP.st rfl ?_)
    refine WP.get (v := .int (I b 3)) rfl rfl ((isW_K hb).1) (rfl) ?_
    by_cases z : I b 4 < I b 3
    · refine WP.icf rfl (fun y => absurd y (Int32.not_le.mpr z)) ?_
      iterate 2 (refine WP.st rfl ?_)
      rw [if_pos z]
      exact WP.ret rfl ⟨rfl, rfl⟩
    · skip
      refine WP.ict rfl (Int32.not_lt.mp z) ?_
      iterate 1 (refine WP.st rfl ?_)
      rw [if_neg z]
      exact WP.ret rfl ⟨rfl, rfl⟩
  obtain ⟨rfl, rfl⟩ := q
  exact e
def ld (p : Int) (t : Nat → Int) (c : Nat) : Int := if c < 17 then t c % p else 0
set_option maxHeartbeats 4000000 in
set_option maxRecDepth 20000 in
theorem sp_load (L : Nat) (I : Nat → Nat → Int32) (J : Nat → Nat → Int64) (w : Nat → Nat) (b s : Nat) (hb : isW b) (hs : isSum s) (t : Nat → Int) (hT : isT I s t) (p : Int) (hpr : J b 0 = zJ p) (p2 : 2 ≤ p) (p3 : p < 2 ^ 31) : SP m_Wi_load [.ref b, .ref s] (hp L I J w) (fun r h => r = none ∧ ∃ J' : Nat → Nat → Int64, (∀ c, c ≠ b + 19 → J' c = J c) ∧ (∀ c, c < 33 → J' (b + 19) c = zJ (ld p t c)) ∧ h = hp L I J' w) := by
  obtain ⟨n, nm, fc, t1, t2, t3, t4, t5, t6, t7⟩ := hT
  have l19 : Nat.ble (LL L (b + 19)) 2560 = true := by rw [(isW_L hb).2.2]; rfl
  have k19 := (isW_K hb).2.2.2
  unfold SP
  iterate 4 (refine WP.st rfl ?_)
  refine WP.inv (fun i (K : Nat → Nat → Int64) => (5, [some (.ref b), some (.ref s), some (.int (nI i))], [.int (nI 33), .int (nI i)], hp L I K w, 0, 0)) (fun i K => (∀ c, c ≠ b + 19 → K c = J c) ∧ ∀ k, k < i → K (b + 19) k = zJ 0) 33 J ⟨fun _ _ => rfl, fun k hk => absurd hk (Nat.not_lt_zero k)⟩ (fun i K hi hv kk => ?_) (fun K hk1 => ?_)
  · refine WP.icf rfl (nI_ge hi (by omega)) ?_
    iterate 1 (refine WP.st rfl ?_)
    refine WP.get (v := .ref (b + 19)) rfl rfl ((isW_K hb).1) (congrArg mm_rv (isW_R w hb).2.2) ?_
    iterate 2 (refine WP.st rfl ?_)
    refine WP.last (k := i) rfl (rfl) (k19) (show i < LL L (b + 19) by rw [(isW_L hb).2.2]; exact hi) (l19) ?_
    iterate 4 (refine WP.st rfl ?_)
    have kk2 := kk (mm_up K (b + 19) i (zJ 0)) ⟨fun c hc => by funext k; exact (mm_up_off K _ (fun z => hc z.1)).trans (congrFun (hv.1 c hc) k), fun k hk => by
      by_cases e : k = i
      · rw [e]; exact mm_up_at K _ _ _
      · exact (mm_up_off K _ (fun z => e z.2)).trans (hv.2 k (by omega))⟩
    rw [nI_succ] at kk2
    exact kk2
  · skip
    refine WP.ict rfl (nI_le (Nat.le_refl _) (by omega)) ?_
    iterate 4 (refine WP.st rfl ?_)
    refine WP.get (v := .int (I s 1)) rfl rfl (hs.1) (rfl) ?_
    have hKp : K b 0 = zJ p := by rw [hk1.1 b (by omega)]; exact hpr
    refine WP.inv (fun i (M : Nat → Nat → Int64) => (28, [some (.ref b), some (.ref s), some (.int (nI i))], [.int (I s 1), .int (nI i)], hp L I M w, 0, 0)) (fun i M => (∀ c, c ≠ b + 19 → M c = J c) ∧ (∀ c, c < 16 → (∀ k, k < i → nm k = c → M (b + 19) c = zJ (fc k % p)) ∧ ((∀ k, k < i → nm k ≠ c) → M (b + 19) c = zJ 0)) ∧ (∀ c, 16 ≤ c → c < 33 → M (b + 19) c = zJ 0)) n K ⟨hk1.1, fun c hc => ⟨fun k hk => absurd hk (Nat.not_lt_zero k), fun _ => hk1.2 c (by omega)⟩, fun c _ hc => hk1.2 c hc⟩ (fun i M hi hv kk => ?_) (fun M hv => ?_)
    · obtain ⟨u1, u2, u3, u4, u5, u6, u7⟩ := t5 i hi
      have hMp : M b 0 = zJ p := by rw [hv.1 b (by omega)]; exact hpr
      refine WP.icf rfl (show ¬ I s 1 ≤ nI i by rw [t4]; exact nI_ge hi (by omega)) ?_
      iterate 1 (refine WP.st rfl ?_)
      refine WP.get (v := .ref (b + 19)) rfl rfl ((isW_K hb).1) (congrArg mm_rv (isW_R w hb).2.2) ?_
      iterate 1 (refine WP.st rfl ?_)
      refine WP.get (v := .ref (s + 1)) rfl rfl (hs.1) (congrArg mm_rv (sum_num w hs)) ?_
      iterate 1 (refine WP.st rfl ?_)
      refine WP.iald (k := i) rfl (rfl) (Or.inl hs.2.1) (show i < LL L (s + 1) by rw [sum_l1 hs]; omega) (show Nat.ble (LL L (s + 1)) 2560 = true by rw [sum_l1 hs]; rfl) ?_
      iterate 1 (refine WP.st rfl ?_)
      refine WP.get (v := .ref (s + 2)) rfl rfl (hs.1) (congrArg mm_rv (sum_fac w hs)) ?_
      iterate 1 (refine WP.st rfl ?_)
      refine WP.iald (k := i) rfl (rfl) (Or.inl hs.2.2.1) (show i < LL L (s + 2) by rw [sum_l2 hs]; omega) (show Nat.ble (LL L (s + 2)) 2560 = true by rw [sum_l2 hs]; rfl) ?_
      rw [show hI (hp L I M w) (s + 2) i = zI (fc i) from u3, show hI (hp L I M w) (s + 1) i = nI (nm i) from u1]
      iterate 1 (refine WP.st rfl ?_)
      rw [zI_l (by omega) (by omega)]
      iterate 1 (refine WP.st rfl ?_)
      refine WP.get (v := .long (zJ p)) rfl rfl ((isW_K hb).1) (congrArg Value.long hMp) ?_
      refine WP.calle rfl rfl (ev_rem _ (fc i) p p2 (by omega) (by omega) (by omega)) ?_
      refine WP.last (k := nm i) rfl (rfl) (k19) (show nm i < LL L (b + 19) by rw [(isW_L hb).2.2]; omega) (l19) ?_
      iterate 4 (refine WP.st rfl ?_)
      refine WP.get (v := .int (I s 1)) rfl rfl (hs.1) (rfl) ?_
      have kk2 := kk (mm_up M (b + 19) (nm i) (zJ (fc i % p))) ⟨fun c hc => by funext k; exact (mm_up_off M _ (fun z => hc z.1)).trans (congrFun (hv.1 c hc) k), fun c hc => ?_, fun c h1 h2 => (mm_up_off M _ (fun z => by omega)).trans (hv.2.2 c h1 h2)⟩
      · rw [nI_succ] at kk2
        exact kk2
      · by_cases e : c = nm i
        · subst e
          refine ⟨fun k hk hkc => ?_, fun hno => absurd rfl (hno i (by omega))⟩
          by_cases e2 : k = i
          · rw [e2]; exact mm_up_at M _ _ _
          · exact absurd hkc (t6 k i (by omega) hi)
        · refine ⟨fun k hk hkc => ?_, fun hno => ?_⟩
          · have : k ≠ i := fun z => by subst z; exact e hkc.symm
            exact (mm_up_off M _ (fun z => e z.2)).trans ((hv.2.1 c hc).1 k (by omega) hkc)
          · exact (mm_up_off M _ (fun z => e z.2)).trans ((hv.2.1 c hc).2 (fun k hk => hno k (by omega)))
    · have hMp : M b 0 = zJ p := by rw [hv.1 b (by omega)]; exact hpr
      refine WP.ict rfl (show I s 1 ≤ nI n by rw [t4]; exact nI_le (Nat.le_refl _) (by omega)) ?_
      iterate 1 (refine WP.st rfl ?_)
      refine WP.get (v := .ref (b + 19)) rfl rfl ((isW_K hb).1) (congrArg mm_rv (isW_R w hb).2.2) ?_
      iterate 2 (refine WP.st rfl ?_)
      refine WP.get (v := .int (I s 0)) rfl rfl (hs.1) (rfl) ?_
      rw [t1]
      iterate 1 (refine WP.st rfl ?_)
      rw [zI_l (by omega) (by omega)]
      iterate 1 (refine WP.st rfl ?_)
      refine WP.get (v := .long (zJ p)) rfl rfl ((isW_K hb).1) (congrArg Value.long hMp) ?_
      refine WP.calle rfl rfl (ev_rem _ (t 16) p p2 (by omega) (by omega) (by omega)) ?_
      refine WP.last (k := 16) rfl (rfl) (k19) (show 16 < LL L (b + 19) by rw [(isW_L hb).2.2]; decide) (l19) ?_
      refine WP.ret rfl ⟨rfl, _, fun c hc => ?_, fun c hc => ?_, rfl⟩
      · funext k
        exact (mm_up_off M _ (fun z => hc z.1)).trans (congrFun (hv.1 c hc) k)
      · unfold ld
        by_cases e : c = 16
        · subst e
          rw [if_pos (by decide)]
          exact mm_up_at M _ _ _
        · refine (mm_up_off M _ (fun z => e z.2)).trans ?_
          by_cases h16 : c < 16
          · rw [if_pos (by omega)]
            by_cases ex : ∃ k, k < n ∧ nm k = c
            · obtain ⟨k, hk, hkc⟩ := ex
              have := (t5 k hk).2.2.2.2.2.2
              rw [hkc] at this
              rw [this]
              exact (hv.2.1 c h16).1 k hk hkc
            · have hno : ∀ k, k < n → nm k ≠ c := fun k hk z => ex ⟨k, hk, z⟩
              rw [t7 c h16 hno, (hv.2.1 c h16).2 hno, Int.zero_emod]
          · rw [if_neg (by omega)]
            exact hv.2.2 c (by omega) hc
