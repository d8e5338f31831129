/-! the order of building: both sides -/
/-- how many new bars inside V end at p -/
def dcn (ba bb : Nat → Nat) (S : Nat → Bool) (V p : Nat) : Nat → Nat
  | 0 => 0
  | m + 1 => dcn ba bb S V p m + (if (S m && inB (ba m) (bb m) V && (decide (ba m = p) || decide (bb m = p))) = true then 1 else 0)
theorem dcn_le (ba bb : Nat → Nat) (S : Nat → Bool) (V p : Nat) : ∀ m, dcn ba bb S V p m ≤ m
  | 0 => Nat.le_refl 0
  | m + 1 => by
    have := dcn_le ba bb S V p m
    show dcn ba bb S V p m + _ ≤ _
    split <;> omega
/-- the greatest point below m that can go -/
def gop (ba bb : Nat → Nat) (S : Nat → Bool) (n V : Nat) : Nat → Option Nat
  | 0 => none
  | m + 1 => if V.testBit m = true ∧ dcn ba bb S V m n ≤ 2 then some m else gop ba bb S n V m
theorem gop_some {ba bb : Nat → Nat} {S : Nat → Bool} {n V : Nat} : ∀ m p, gop ba bb S n V m = some p → p < m ∧ V.testBit p = true
  | 0, p, h => by cases h
  | m + 1, p, h => by
    have h' : (if V.testBit m = true ∧ dcn ba bb S V m n ≤ 2 then some m else gop ba bb S n V m) = some p := h
    split at h'
    · rename_i c
      cases h'
      exact ⟨by omega, c.1⟩
    · have := gop_some m p h'
      exact ⟨by omega, this.2⟩
/-- points go while more than two are left: what is left, how many went, which -/
def blx (ba bb : Nat → Nat) (S : Nat → Bool) (n P : Nat) : Nat → Nat → Nat → (Nat → Nat) → Nat × Nat × (Nat → Nat)
  | 0, V, m, gf => (V, m, gf)
  | d + 1, V, m, gf => if 2 < P - m then (match gop ba bb S n V 8 with
    | none => (V, m, gf)
    | some p => blx ba bb S n P d (V - 2 ^ p) (m + 1) (fun j => if j = m then p else gf j)) else (V, m, gf)
theorem sub_bit : ∀ V, V < 256 → ∀ p, p < 8 → V.testBit p = true → (∀ k, k < 8 → (V - 2 ^ p).testBit k = (V.testBit k && decide (k ≠ p))) ∧ pcnt (V - 2 ^ p) + 1 = pcnt V ∧ V - 2 ^ p < 256 := by decide +kernel
theorem bt_lt {V : Nat} (hV : V < 256) {k : Nat} (hk : 8 ≤ k) : V.testBit k = false := Nat.testBit_lt_two_pow (Nat.lt_of_lt_of_le hV (by have := Nat.pow_le_pow_right (show 0 < 2 by decide) hk; omega))
/-- a bit taken away, as the programs do it -/
theorem nI_clear {V p : Nat} (hV : V < 256) (hp : p < 8) (hb : V.testBit p = true) : (nI V &&& (((1 : Int32) <<< (nI p &&& 31)) ^^^ (-1))) = nI (V - 2 ^ p) := by
  obtain ⟨h1, -, h3⟩ := sub_bit V hV p hp hb
  apply bt_ext
  intro k hk
  rw [bt_and, bt_not _ hk, bt_sh (by omega) hk, bt_nI (by omega), bt_nI (by omega)]
  by_cases e : k < 8
  · rw [h1 k e, decide_not]
  · rw [bt_lt hV (by omega), bt_lt h3 (by omega)]; rfl
theorem pow_bits : ∀ P, P ≤ 8 → ((1 : Int32) <<< (nI P &&& 31)) - 1 = nI (2 ^ P - 1) ∧ 2 ^ P - 1 < 256 ∧ pcnt (2 ^ P - 1) = P ∧ ∀ k, k < 8 → (2 ^ P - 1).testBit k = decide (k < P) := by decide +kernel
/-! the reference: barsAt, build -/
set_option maxHeartbeats 4000000 in
set_option maxRecDepth 20000 in
theorem ev_barsAt (L : Nat) (I : Nat → Nat → Int32) (J : Nat → Nat → Int64) (w : Nat → Nat) (B : Nat) (ba bb : Nat → Nat) (hB : BR I B ba bb) (hC : BC I B ba bb B) (p V : Nat) (h8 : p < 8) (hV : V < 256) (hb : V.testBit p = true) : EV m_Mo_barsAt [.ref 208, .int (nI p), .int (nI V)] (hp L I J w) (some (.int (nI (dcn ba bb (nwb ba bb B) V p B)))) (hp L I J w) := by
  obtain ⟨h1, h2, h3, h4⟩ := hB
  have nq : ∀ {x y : Nat}, x < 8 → y < 8 → (nI x = nI y ↔ x = y) := fun hx hy => nI_eq (by omega) (by omega)
  obtain ⟨r, h', e, q⟩ : SP m_Mo_barsAt [.ref 208, .int (nI p), .int (nI V)] (hp L I J w) (fun r h' => r = some (.int (nI (dcn ba bb (nwb ba bb B) V p B))) ∧ h' = hp L I J w) := by
    unfold SP
    iterate 7 (refine WP.st rfl ?_)
    refine WP.inv (fun k (o : Option Value) => (11, [some (.ref 208), some (.int (nI p)), some (.int (nI V)), some (.int (nI (dcn ba bb (nwb ba bb B) V p k))), some (.int (nI k)), o], [.int (I 208 10), .int (nI k)], hp L I J w, 0, 0)) (fun _ _ => True) B none trivial (fun k o hk _ kk => ?_) (fun o _ => ?_)
    · obtain ⟨b1, b2, b3, b4⟩ := h4 k (by omega)
      have hne := h3 k hk
      have hnw := nwb_lt (ba := ba) (bb := bb) B k hk
      have c217 := hC.2 k hk
      have hdc : dcn ba bb (nwb ba bb B) V p (k + 1) = dcn ba bb (nwb ba bb B) V p k + (if (nwb ba bb B k && inB (ba k) (bb k) V && (decide (ba k = p) || decide (bb k = p))) = true then 1 else 0) := rfl
      -- with the other end known
      have fin : ∀ (x : Int32), ((∃ o2, o2 < 8 ∧ x = nI o2 ∧ ((ba k = p ∧ bb k = o2) ∨ (bb k = p ∧ ba k = o2))) ∨ (x = -1 ∧ ba k ≠ p ∧ bb k ≠ p)) → WP m_Mo_barsAt (57, [some (.ref 208), some (.int (nI p)), some (.int (nI V)), some (.int (nI (dcn ba bb (nwb ba bb B) V p k))), some (.int (nI k)), o], [.int x], hp L I J w, 0, 0) (fun r h' => r = some (.int (nI (dcn ba bb (nwb ba bb B) V p B))) ∧ h' = hp L I J w) := by
        intro x hx
        have yes : (nwb ba bb B k && inB (ba k) (bb k) V && (decide (ba k = p) || decide (bb k = p))) = true → WP m_Mo_barsAt (85, [some (.ref 208), some (.int (nI p)), some (.int (nI V)), some (.int (nI (dcn ba bb (nwb ba bb B) V p k))), some (.int (nI k)), some (.int x)], [.int (nI (dcn ba bb (nwb ba bb B) V p k))], hp L I J w, 0, 0) (fun r h' => r = some (.int (nI (dcn ba bb (nwb ba bb B) V p B))) ∧ h' = hp L I J w) := fun hy => by
          have k3 := kk (some (.int x)) trivial
          rw [nI_succ k, hdc, if_pos hy, nI_succ] at k3
          iterate 9 (refine WP.st rfl ?_)
          exact k3
        have no : ¬ (nwb ba bb B k && inB (ba k) (bb k) V && (decide (ba k = p) || decide (bb k = p))) = true → WP m_Mo_barsAt (89, [some (.ref 208), some (.int (nI p)), some (.int (nI V)), some (.int (nI (dcn ba bb (nwb ba bb B) V p k))), some (.int (nI k)), some (.int x)], [.int (nI (dcn ba bb (nwb ba bb B) V p k))], hp L I J w, 0, 0) (fun r h' => r = some (.int (nI (dcn ba bb (nwb ba bb B) V p B))) ∧ h' = hp L I J w) := fun hy => by
          have k3 := kk (some (.int x)) trivial
          rw [nI_succ k, hdc, if_neg hy, Nat.add_zero] at k3
          iterate 2 (refine WP.st rfl ?_)
          rw [show (nI (dcn ba bb (nwb ba bb B) V p k) + Int32.ofInt 0 : Int32) = nI (dcn ba bb (nwb ba bb B) V p k) from nI_add _ 0]
          iterate 6 (refine WP.st rfl ?_)
          exact k3
        iterate 3 (refine WP.st rfl ?_)
        rcases hx with ⟨o2, o3, rfl, o4⟩ | ⟨rfl, o3, o4⟩
        · refine WP.iff rfl (nI_pos (by omega)) ?_
          iterate 3 (refine WP.st rfl ?_)
          refine WP.bald (k := k) rfl (rfl) (rfl) (show k < 20 by omega) (rfl) ?_
          rw [show hI (hp L I J w) 218 k = bI (mny ba bb k) from c217]
          by_cases m : mny ba bb k
          · rw [bI_t m]
            refine WP.ift rfl (show ¬ (1 : Int32) = 0 by decide) ?_
            refine no (fun z => ?_)
            rw [Bool.and_eq_true, Bool.and_eq_true] at z
            exact hnw.mp z.1.1 m
          · rw [bI_f m]
            refine WP.iff rfl (fun z => z rfl) ?_
            iterate 6 (refine WP.st rfl ?_)
            rw [show ((nI V >>> (nI o2 &&& 31)) &&& Int32.ofInt 1 : Int32) = if V.testBit o2 = true then 1 else 0 from by rw [← bt_nI (show V < 2 ^ 31 by omega)]; exact sh_and (nI V) (by omega)]
            have hin : inB (ba k) (bb k) V = V.testBit o2 := by
              unfold inB
              rcases o4 with ⟨e1, e2⟩ | ⟨e1, e2⟩
              · rw [e1, e2, hb, Bool.true_and]
              · rw [e1, e2, hb, Bool.and_true]
            have hor : (decide (ba k = p) || decide (bb k = p)) = true := by
              rcases o4 with ⟨e1, e2⟩ | ⟨e1, e2⟩ <;> simp [e1]
            cases h5 : V.testBit o2 with
            | false =>
              refine WP.ict rfl (show ¬ (if (false : Bool) = true then (1 : Int32) else 0) = 1 by decide) ?_
              exact no (by rw [hin, h5]; simp)
            | true =>
              refine WP.icf rfl (show ¬ ¬ (if (true : Bool) = true then (1 : Int32) else 0) = 1 by decide) ?_
              exact yes (by rw [hin, h5, hor, hnw.mpr m]; rfl)
        · skip
          refine WP.ift rfl (show (-1 : Int32) < 0 by decide) ?_
          exact no (by simp [o3, o4])
      refine WP.icf rfl (show ¬ I 208 10 ≤ nI k by rw [h1]; exact nI_ge hk (by omega)) ?_
      iterate 3 (refine WP.st rfl ?_)
      refine WP.iald (k := k) rfl (rfl) (Or.inl rfl) (show k < 21 by omega) (rfl) ?_
      rw [show hI (hp L I J w) 216 k = nI (ba k) from b1]
      iterate 1 (refine WP.st rfl ?_)
      by_cases e1 : ba k = p
      · refine WP.icf rfl (fun z => z ((nq b2 h8).mpr e1)) ?_
        iterate 3 (refine WP.st rfl ?_)
        refine WP.iald (k := k) rfl (rfl) (Or.inl rfl) (show k < 21 by omega) (rfl) ?_
        rw [show hI (hp L I J w) 217 k = nI (bb k) from b3]
        iterate 1 (refine WP.st rfl ?_)
        exact fin _ (Or.inl ⟨bb k, b4, rfl, Or.inl ⟨e1, rfl⟩⟩)
      · skip
        refine WP.ict rfl (fun z => e1 ((nq b2 h8).mp z)) ?_
        iterate 3 (refine WP.st rfl ?_)
        refine WP.iald (k := k) rfl (rfl) (Or.inl rfl) (show k < 21 by omega) (rfl) ?_
        rw [show hI (hp L I J w) 217 k = nI (bb k) from b3]
        iterate 1 (refine WP.st rfl ?_)
        by_cases e2 : bb k = p
        · refine WP.icf rfl (fun z => z ((nq b4 h8).mpr e2)) ?_
          iterate 3 (refine WP.st rfl ?_)
          refine WP.iald (k := k) rfl (rfl) (Or.inl rfl) (show k < 21 by omega) (rfl) ?_
          rw [show hI (hp L I J w) 216 k = nI (ba k) from b1]
          iterate 1 (refine WP.st rfl ?_)
          exact fin _ (Or.inl ⟨ba k, b2, rfl, Or.inr ⟨e2, rfl⟩⟩)
        · skip
          refine WP.ict rfl (fun z => e2 ((nq b4 h8).mp z)) ?_
          iterate 1 (refine WP.st rfl ?_)
          exact fin _ (Or.inr ⟨rfl, e1, e2⟩)
    · skip
      refine WP.ict rfl (show I 208 10 ≤ nI B by rw [h1]; exact nI_le (Nat.le_refl _) (by omega)) ?_
      iterate 1 (refine WP.st rfl ?_)
      exact WP.ret rfl ⟨rfl, rfl⟩
  obtain ⟨rfl, rfl⟩ := q
  exact e
/-- the points that went, in the reference -/
def GN (I : Nat → Nat → Int32) (m : Nat) (gf : Nat → Nat) : Prop := I 208 27 = nI m ∧ ∀ j, j < m → I 228 j = nI (gf j)
theorem gop_max {ba bb : Nat → Nat} {S : Nat → Bool} {n V P : Nat} (hV : ∀ k, P ≤ k → k < 8 → V.testBit k = false) : ∀ m, P ≤ m → m ≤ 8 → gop ba bb S n V m = gop ba bb S n V P
  | 0, h, _ => by rw [show P = 0 by omega]
  | m + 1, h, h8 => by
    by_cases e : P = m + 1
    · rw [e]
    · show (if V.testBit m = true ∧ _ then some m else gop ba bb S n V m) = _
      rw [if_neg (fun z => by have := hV m (by omega) (by omega); rw [this] at z; cases z.1)]
      exact gop_max hV m (by omega) (by omega)
set_option maxHeartbeats 4000000 in
set_option maxRecDepth 20000 in
theorem bl_loop (L : Nat) (J : Nat → Nat → Int64) (w : Nat → Nat) (B P : Nat) (ba bb : Nat → Nat) (hP : P ≤ 8) (Q : Option Value → MH → Prop) : ∀ (d V m : Nat) (gf : Nat → Nat) (I : Nat → Nat → Int32) (x : Int32) (o4 o5 : Option Value), P - m ≤ d + 2 → m ≤ P → V < 256 → (∀ k, P ≤ k → k < 8 → V.testBit k = false) → (x = if 2 < P - m then 1 else 0) → BR I B ba bb → BC I B ba bb B → I 208 0 = nI P → GN I m gf → (∀ (I' : Nat → Nat → Int32) (o4 o5 : Option Value) (y : Int32), (∀ c, c ≠ 208 → c ≠ 228 → I' c = I c) → (∀ k, k ≠ 27 → I' 208 k = I 208 k) → GN I' (blx ba bb (nwb ba bb B) B P d V m gf).2.1 (blx ba bb (nwb ba bb B) B P d V m gf).2.2 → WP m_Mo_build (146, [some (.ref 208), some (.int (nI (blx ba bb (nwb ba bb B) B P d V m gf).1)), some (.int (nI (P - (blx ba bb (nwb ba bb B) B P d V m gf).2.1))), some (.int y), o4, o5], [], hp L I' J w, 0, 0) Q) → WP m_Mo_build (35, [some (.ref 208), some (.int (nI V)), some (.int (nI (P - m))), some (.int x), o4, o5], [.int x], hp L I J w, 0, 0) Q
  | 0, V, m, gf, I, x, o4, o5, hd, hm, hV, hVP, hx, hB, hC, h0, hG, k => by
    rw [if_neg (by omega)] at hx
    subst hx
    refine WP.ift rfl (rfl) ?_
    exact k I o4 o5 0 (fun _ _ _ => rfl) (fun _ _ => rfl) hG
  | d + 1, V, m, gf, I, x, o4, o5, hd, hm, hV, hVP, hx, hB, hC, h0, hG, k => by
    by_cases hc : 2 < P - m
    · rw [if_pos hc] at hx
      subst hx
      have ebl : blx ba bb (nwb ba bb B) B P (d + 1) V m gf = (match gop ba bb (nwb ba bb B) B V 8 with
        | none => (V, m, gf)
        | some p => blx ba bb (nwb ba bb B) B P d (V - 2 ^ p) (m + 1) (fun j => if j = m then p else gf j)) := if_pos hc
      rw [ebl] at k
      refine WP.iff rfl (show ¬ (1 : Int32) = 0 by decide) ?_
      iterate 7 (refine WP.st rfl ?_)
      -- the greatest one that can go
      refine WP.inv (fun q (_ : Unit) => (50, [some (.ref 208), some (.int (nI V)), some (.int (nI (P - m))), some (.int 1), some (.int (match gop ba bb (nwb ba bb B) B V q with
        | none => -1
        | some p => nI p)), some (.int (nI q))], [.int (I 208 0), .int (nI q)], hp L I J w, 0, 0)) (fun _ _ => True) P () trivial (fun q _ hq _ kk => ?_) (fun _ _ => ?_)
      · have k3 := kk () trivial
        rw [nI_succ q] at k3
        have eg : gop ba bb (nwb ba bb B) B V (q + 1) = if V.testBit q = true ∧ dcn ba bb (nwb ba bb B) V q B ≤ 2 then some q else gop ba bb (nwb ba bb B) B V q := rfl
        refine WP.icf rfl (show ¬ I 208 0 ≤ nI q by rw [h0]; exact nI_ge hq (by omega)) ?_
        iterate 6 (refine WP.st rfl ?_)
        rw [show ((nI V >>> (nI q &&& 31)) &&& Int32.ofInt 1 : Int32) = if V.testBit q = true then 1 else 0 from by rw [← bt_nI (show V < 2 ^ 31 by omega)]; exact sh_and (nI V) (by omega)]
        cases h1 : V.testBit q with
        | false =>
          rw [eg, if_neg (fun z => by rw [h1] at z; cases z.1)] at k3
          refine WP.ict rfl (show ¬ (if (false : Bool) = true then (1 : Int32) else 0) = 1 by decide) ?_
          iterate 7 (refine WP.st rfl ?_)
          exact k3
        | true =>
          have dl := dcn_le ba bb (nwb ba bb B) V q B
          have B20 := hB.2.1
          refine WP.icf rfl (show ¬ ¬ (if (true : Bool) = true then (1 : Int32) else 0) = 1 by decide) ?_
          iterate 3 (refine WP.st rfl ?_)
          refine WP.calle rfl rfl (ev_barsAt L I J w B ba bb hB hC q V (by omega) hV h1) ?_
          iterate 1 (refine WP.st rfl ?_)
          by_cases h2 : dcn ba bb (nwb ba bb B) V q B ≤ 2
          · rw [eg, if_pos ⟨h1, h2⟩] at k3
            refine WP.icf rfl (show ¬ nI 2 < nI (dcn ba bb (nwb ba bb B) V q B) from nI_nlt h2 (by omega)) ?_
            iterate 8 (refine WP.st rfl ?_)
            exact k3
          · rw [eg, if_neg (fun z => h2 z.2)] at k3
            refine WP.ict rfl (show nI 2 < nI (dcn ba bb (nwb ba bb B) V q B) from nI_lt (by omega) (by omega)) ?_
            iterate 7 (refine WP.st rfl ?_)
            exact k3
      · rw [← gop_max hVP 8 hP (Nat.le_refl 8)]
        refine WP.ict rfl (show I 208 0 ≤ nI P by rw [h0]; exact nI_le (Nat.le_refl _) (by omega)) ?_
        cases hg : gop ba bb (nwb ba bb B) B V 8 with
        | none =>
          rw [hg] at k
          dsimp only at k ⊢
          iterate 1 (refine WP.st rfl ?_)
          refine WP.ift rfl (show (-1 : Int32) < 0 by decide) ?_
          iterate 1 (refine WP.st rfl ?_)
          refine WP.ift rfl (show (-1 : Int32) < 0 by decide) ?_
          iterate 4 (refine WP.st rfl ?_)
          refine WP.ift rfl (rfl) ?_
          exact k I _ _ _ (fun _ _ _ => rfl) (fun _ _ => rfl) hG
        | some p =>
          rw [hg] at k
          dsimp only at k ⊢
          obtain ⟨p8, pb⟩ := gop_some 8 p hg
          obtain ⟨s1, s2, s3⟩ := sub_bit V hV p p8 pb
          iterate 1 (refine WP.st rfl ?_)
          refine WP.iff rfl (nI_pos (by omega)) ?_
          iterate 7 (refine WP.st rfl ?_)
          rw [show (nI V &&& (((Int32.ofInt 1 : Int32) <<< (nI p &&& 31)) ^^^ Int32.ofInt (-1)) : Int32) = nI (V - 2 ^ p) from nI_clear hV p8 pb]
          iterate 6 (refine WP.st rfl ?_)
          refine WP.iast (k := m) rfl (hG.1) (rfl) (show m < 8 by omega) (rfl) ?_
          have e27 : mm_up I 228 m (nI p) 208 27 = nI m := (congrFun (up_ne I _ (by decide)) 27).trans hG.1
          iterate 2 (refine WP.st rfl ?_)
          refine WP.get (v := .int (nI m)) rfl rfl (rfl) (congrArg Value.int e27) ?_
          iterate 5 (refine WP.st rfl ?_)
          refine WP.iff rfl (nI_pos (by omega)) ?_
          rw [show (nI (P - m) + Int32.ofInt (-1) : Int32) = nI (P - (m + 1)) from by rw [show P - m = P - (m + 1) + 1 by omega]; exact pk_m1' _]
          iterate 2 (refine WP.st rfl ?_)
          have G2 : GN (mm_up (mm_up I 228 m (nI p)) 208 27 (nI (m + 1))) (m + 1) (fun j => if j = m then p else gf j) := ⟨mm_up_at _ _ _ _, fun j hj => by
            rw [up_ne _ _ (by decide)]
            dsimp only
            by_cases e : j = m
            · rw [if_pos e, e]; exact mm_up_at I _ _ _
            · rw [if_neg e]; exact (up_nk I _ e).trans (hG.2 j (by omega))⟩
          have fr1 : ∀ c, c ≠ 208 → c ≠ 228 → mm_up (mm_up I 228 m (nI p)) 208 27 (nI (m + 1)) c = I c := fun c a b => (up_ne _ _ a).trans (up_ne I _ b)
          have fr2 : ∀ q, q ≠ 27 → mm_up (mm_up I 228 m (nI p)) 208 27 (nI (m + 1)) 208 q = I 208 q := fun q hq => (up_nk _ _ hq).trans (congrFun (up_ne I _ (by decide)) q)
          have go : ∀ x : Int32, (x = if 2 < P - (m + 1) then 1 else 0) → ∀ o4 o5, WP m_Mo_build (35, [some (.ref 208), some (.int (nI (V - 2 ^ p))), some (.int (nI (P - (m + 1)))), some (.int x), o4, o5], [.int x], hp L (mm_up (mm_up I 228 m (nI p)) 208 27 (nI (m + 1))) J w, 0, 0) Q := fun x hx o4 o5 => by
            refine bl_loop L J w B P ba bb hP Q d (V - 2 ^ p) (m + 1) (fun j => if j = m then p else gf j) (mm_up (mm_up I 228 m (nI p)) 208 27 (nI (m + 1))) x o4 o5 (by omega) (by omega) s3 (fun q h1 h2 => by rw [s1 q h2, hVP q h1 h2]; rfl) hx ?_ ?_ ((fr2 0 (by decide)).trans h0) G2 (fun I' o4 o5 y a1 a2 a3 => k I' o4 o5 y (fun c c1 c2 => (a1 c c1 c2).trans (fr1 c c1 c2)) (fun q hq => (a2 q hq).trans (fr2 q hq)) a3)
            · obtain ⟨b1, b2, b3, b4⟩ := hB
              exact ⟨(fr2 10 (by decide)).trans b1, b2, b3, by unfold BA21; rw [fr1 216 (by decide) (by decide), fr1 217 (by decide) (by decide)]; exact b4⟩
            · unfold BC
              rw [fr2 14 (by decide), fr1 218 (by decide) (by decide)]
              exact hC
          rw [nI_succ m] at go
          by_cases h3 : 2 < P - (m + 1)
          · refine WP.icf rfl (nI_ge h3 (by omega)) ?_
            iterate 5 (refine WP.st rfl ?_)
            exact go 1 (if_pos h3).symm _ _
          · skip
            refine WP.ict rfl (show nI (P - (m + 1)) ≤ nI 2 from nI_le (by omega) (by omega)) ?_
            iterate 4 (refine WP.st rfl ?_)
            exact go 0 (if_neg h3).symm _ _
    · rw [if_neg hc] at hx
      subst hx
      have ebl : blx ba bb (nwb ba bb B) B P (d + 1) V m gf = (V, m, gf) := if_neg hc
      rw [ebl] at k
      refine WP.ift rfl (rfl) ?_
      exact k I o4 o5 0 (fun _ _ _ => rfl) (fun _ _ => rfl) hG
/-- all that build does -/
noncomputable def blt (ba bb : Nat → Nat) (B P : Nat) : Nat × Nat × (Nat → Nat) := blx ba bb (nwb ba bb B) B P 8 (2 ^ P - 1) 0 (fun _ => 0)
set_option maxHeartbeats 4000000 in
set_option maxRecDepth 20000 in
theorem sp_mbuild (L : Nat) (I : Nat → Nat → Int32) (J : Nat → Nat → Int64) (w : Nat → Nat) (B P : Nat) (ba bb : Nat → Nat) (hP : P ≤ 8) (hB : BR I B ba bb) (h0 : I 208 0 = nI P) : SP m_Mo_build [.ref 208] (hp L I J w) (fun v h => v = some (.int (nI (blt ba bb B P).1)) ∧ ∃ I' : Nat → Nat → Int32, (∀ c, c ≠ 208 → c ≠ 218 → c ≠ 228 → I' c = I c) ∧ (∀ k, k ≠ 14 → k ≠ 27 → I' 208 k = I 208 k) ∧ BC I' B ba bb B ∧ GN I' (blt ba bb B P).2.1 (blt ba bb B P).2.2 ∧ h = hp L I' J w) := by
  obtain ⟨q1, q2, q3, q4⟩ := pow_bits P hP
  unfold SP
  iterate 1 (refine WP.st rfl ?_)
  refine WP.call rfl rfl (sp_countBars L I J w B ba bb hB) ?_
  rintro _ _ ⟨rfl, I1, a1, a2, a3, rfl⟩
  have p0 : I1 208 0 = nI P := (a2 0 (by decide)).trans h0
  iterate 2 (refine WP.st rfl ?_)
  refine WP.get (v := .int (nI P)) rfl rfl (rfl) (congrArg Value.int p0) ?_
  iterate 3 (refine WP.st rfl ?_)
  rw [show (((Int32.ofInt 1 : Int32) <<< (nI P &&& 31)) - Int32.ofInt 1 : Int32) = nI (2 ^ P - 1) from q1]
  iterate 2 (refine WP.st rfl ?_)
  refine WP.get (v := .int (nI P)) rfl rfl (rfl) (congrArg Value.int p0) ?_
  iterate 1 (refine WP.st rfl ?_)
  iterate 2 (refine WP.st rfl ?_)
  have p0' : mm_up I1 208 27 0 208 0 = nI P := (up_nk I1 _ (by decide)).trans p0
  iterate 3 (refine WP.st rfl ?_)
  have hB1 : BR (mm_up I1 208 27 0) B ba bb := by
    obtain ⟨b1, b2, b3, b4⟩ := hB
    exact ⟨(up_nk I1 _ (by decide)).trans ((a2 10 (by decide)).trans b1), b2, b3, by unfold BA21; rw [up_ne I1 _ (by decide), up_ne I1 _ (by decide), a1 216 (by decide) (by decide), a1 217 (by decide) (by decide)]; exact b4⟩
  have hC1 : BC (mm_up I1 208 27 0) B ba bb B := by
    unfold BC
    rw [up_nk I1 _ (by decide), up_ne I1 _ (by decide)]
    exact a3
  have go : ∀ x : Int32, (x = if 2 < P - 0 then 1 else 0) → WP m_Mo_build (35, [some (.ref 208), some (.int (nI (2 ^ P - 1))), some (.int (nI (P - 0))), some (.int x), none, none], [.int x], hp L (mm_up I1 208 27 0) J w, 0, 0) (fun v h => v = some (.int (nI (blt ba bb B P).1)) ∧ ∃ I' : Nat → Nat → Int32, (∀ c, c ≠ 208 → c ≠ 218 → c ≠ 228 → I' c = I c) ∧ (∀ k, k ≠ 14 → k ≠ 27 → I' 208 k = I 208 k) ∧ BC I' B ba bb B ∧ GN I' (blt ba bb B P).2.1 (blt ba bb B P).2.2 ∧ h = hp L I' J w) := fun x hx => by
    refine bl_loop L J w B P ba bb hP _ 8 (2 ^ P - 1) 0 (fun _ => 0) (mm_up I1 208 27 0) x none none (by omega) (by omega) q2 (fun k h1 h2 => by rw [q4 k h2]; exact decide_eq_false (by omega)) hx hB1 hC1 p0' ⟨mm_up_at I1 _ _ _, fun j hj => absurd hj (Nat.not_lt_zero j)⟩ (fun I' o4 o5 y c1 c2 c3 => ?_)
    iterate 1 (refine WP.st rfl ?_)
    refine WP.ret rfl ⟨rfl, I', fun c d1 d2 d3 => (c1 c d1 d3).trans ((up_ne I1 _ d1).trans (a1 c d1 d2)), fun q d1 d2 => (c2 q d2).trans ((up_nk I1 _ d2).trans (a2 q d1)), ?_, c3, rfl⟩
    unfold BC
    rw [c2 14 (by decide), c1 218 (by decide) (by decide)]
    exact hC1
  by_cases h2 : 2 < P
  · skip
    refine WP.icf rfl (nI_ge h2 (by omega)) ?_
    iterate 4 (refine WP.st rfl ?_)
    exact go 1 (if_pos h2).symm
  · skip
    refine WP.ict rfl (show nI P ≤ nI 2 from nI_le (by omega) (by omega)) ?_
    iterate 3 (refine WP.st rfl ?_)
    exact go 0 (if_neg h2).symm
