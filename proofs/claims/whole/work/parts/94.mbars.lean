/-! the reference: isIndependent, countBars, barOf, isKept -/
def BA21 (I : Nat → Nat → Int32) (ba bb : Nat → Nat) : Prop := ∀ k, k < 21 → I 216 k = nI (ba k) ∧ ba k < 8 ∧ I 217 k = nI (bb k) ∧ bb k < 8
def pc8 (v : Nat) : Nat → Nat
  | 0 => 0
  | m + 1 => pc8 v m + (if v.testBit m = true then 1 else 0)
theorem pc8_8 (v : Nat) : pc8 v 8 = pcnt v := by
  show 0 + (if v.testBit 0 = true then 1 else 0) + _ + _ + _ + _ + _ + _ + _ = _
  rw [Nat.zero_add]
  rfl
theorem pc8_le (v : Nat) : ∀ m, pc8 v m ≤ m
  | 0 => Nat.le_refl 0
  | m + 1 => by
    have := pc8_le v m
    show pc8 v m + _ ≤ _
    split <;> omega
theorem cn_le (ba bb : Nat → Nat) (S : Nat → Bool) (V : Nat) : ∀ m, cn ba bb S V m ≤ m
  | 0 => Nat.le_refl 0
  | m + 1 => by
    have := cn_le ba bb S V m
    show cn ba bb S V m + _ ≤ _
    split <;> omega
theorem nI_if (n : Nat) (P : Prop) [Decidable P] : nI n + (if P then 1 else 0) = nI (n + (if P then 1 else 0)) := by
  split
  · exact nI_1 n
  · show nI n + nI 0 = _
    rw [nI_add]
set_option maxHeartbeats 4000000 in
set_option maxRecDepth 20000 in
theorem sp_indep (L : Nat) (I : Nat → Nat → Int32) (J : Nat → Nat → Int64) (w : Nat → Nat) (set : Int32) (S : Nat → Bool) (hS : ∀ k, k < 21 → bt set k = S k) (ba bb : Nat → Nat) (hB : BA21 I ba bb) : EV m_Mo_isIndependent [.ref 208, .int set] (hp L I J w) (some (.int (bI (idp ba bb S)))) (hp L I J w) := by
  obtain ⟨r, h', e, q⟩ : SP m_Mo_isIndependent [.ref 208, .int set] (hp L I J w) (fun r h' => r = some (.int (bI (idp ba bb S))) ∧ h' = hp L I J w) := by
    unfold SP
    iterate 4 (refine WP.st rfl ?_)
    refine WP.inv (fun v (o : Option Value × Option Value × Option Value) => (6, [some (.ref 208), some (.int set), some (.int (nI v)), o.1, o.2.1, o.2.2], [.int (nI 256), .int (nI v)], hp L I J w, 0, 0)) (fun v _ => ∀ V, V < v → cn ba bb S V 21 = 0 ∨ cn ba bb S V 21 + 3 ≤ 2 * pcnt V) 256 (none, none, none) (fun V hV => absurd hV (Nat.not_lt_zero V)) (fun v o hv hi kk => ?_) (fun o hi => ?_)
    · refine WP.icf rfl (nI_ge hv (by omega)) ?_
      iterate 6 (refine WP.st rfl ?_)
      refine WP.inv (fun p (_ : Unit) => (18, [some (.ref 208), some (.int set), some (.int (nI v)), some (.int (nI (pc8 v p))), some (.int (nI p)), o.2.2], [.int (nI 8), .int (nI p)], hp L I J w, 0, 0)) (fun _ _ => True) 8 () trivial (fun p _ hp _ k2 => ?_) (fun _ _ => ?_)
      · skip
        refine WP.icf rfl (nI_ge hp (by omega)) ?_
        iterate 6 (refine WP.st rfl ?_)
        rw [show ((nI v >>> (nI p &&& 31)) &&& Int32.ofInt 1 : Int32) = if v.testBit p = true then 1 else 0 from by rw [← bt_nI (show v < 2 ^ 31 by omega)]; exact sh_and (nI v) (by omega)]
        iterate 1 (refine WP.st rfl ?_)
        rw [nI_if]
        iterate 5 (refine WP.st rfl ?_)
        have k3 := k2 () trivial
        rw [nI_succ p] at k3
        exact k3
      · skip
        refine WP.ict rfl (nI_le (Nat.le_refl _) (by omega)) ?_
        rw [pc8_8]
        iterate 6 (refine WP.st rfl ?_)
        refine WP.inv (fun k (_ : Unit) => (46, [some (.ref 208), some (.int set), some (.int (nI v)), some (.int (nI (pcnt v))), some (.int (nI (cn ba bb S v k))), some (.int (nI k))], [.int (nI 21), .int (nI k)], hp L I J w, 0, 0)) (fun _ _ => True) 21 () trivial (fun k _ hk _ k2 => ?_) (fun _ _ => ?_)
        · obtain ⟨b1, b2, b3, b4⟩ := hB k hk
          have k3 := k2 () trivial
          rw [nI_succ k] at k3
          have hcn : cn ba bb S v (k + 1) = cn ba bb S v k + (if (S k && inB (ba k) (bb k) v) = true then 1 else 0) := rfl
          have yes : (S k && inB (ba k) (bb k) v) = true → WP m_Mo_isIndependent (96, [some (.ref 208), some (.int set), some (.int (nI v)), some (.int (nI (pcnt v))), some (.int (nI (cn ba bb S v k))), some (.int (nI k))], [.int 1, .int (nI (cn ba bb S v k))], hp L I J w, 0, 0) (fun r h' => r = some (.int (bI (idp ba bb S))) ∧ h' = hp L I J w) := fun hy => by
            rw [hcn, if_pos hy, nI_succ] at k3
            iterate 6 (refine WP.st rfl ?_)
            exact k3
          have no : ¬ (S k && inB (ba k) (bb k) v) = true → WP m_Mo_isIndependent (95, [some (.ref 208), some (.int set), some (.int (nI v)), some (.int (nI (pcnt v))), some (.int (nI (cn ba bb S v k))), some (.int (nI k))], [.int (nI (cn ba bb S v k))], hp L I J w, 0, 0) (fun r h' => r = some (.int (bI (idp ba bb S))) ∧ h' = hp L I J w) := fun hy => by
            rw [hcn, if_neg hy, Nat.add_zero] at k3
            iterate 2 (refine WP.st rfl ?_)
            rw [show (nI (cn ba bb S v k) + Int32.ofInt 0 : Int32) = nI (cn ba bb S v k) from nI_add _ 0]
            iterate 5 (refine WP.st rfl ?_)
            exact k3
          refine WP.icf rfl (nI_ge hk (by omega)) ?_
          iterate 7 (refine WP.st rfl ?_)
          rw [show ((set >>> (nI k &&& 31)) &&& Int32.ofInt 1 : Int32) = if S k = true then 1 else 0 from by rw [← hS k hk]; exact sh_and set (by omega)]
          cases h1 : S k with
          | false =>
            rw [h1] at no
            refine WP.ict rfl (show ¬ (if (false : Bool) = true then (1 : Int32) else 0) = 1 by decide) ?_
            exact no (by simp)
          | true =>
            rw [h1] at no yes
            refine WP.icf rfl (show ¬ ¬ (if (true : Bool) = true then (1 : Int32) else 0) = 1 by decide) ?_
            iterate 4 (refine WP.st rfl ?_)
            refine WP.iald (k := k) rfl (rfl) (Or.inl rfl) (show k < 21 by omega) (rfl) ?_
            rw [show hI (hp L I J w) 216 k = nI (ba k) from b1]
            iterate 4 (refine WP.st rfl ?_)
            rw [show ((nI v >>> (nI (ba k) &&& 31)) &&& Int32.ofInt 1 : Int32) = if v.testBit (ba k) = true then 1 else 0 from by rw [← bt_nI (show v < 2 ^ 31 by omega)]; exact sh_and (nI v) (by omega)]
            cases h2 : v.testBit (ba k) with
            | false =>
              refine WP.ict rfl (show ¬ (if (false : Bool) = true then (1 : Int32) else 0) = 1 by decide) ?_
              exact no (by unfold inB; rw [h2]; simp)
            | true =>
              refine WP.icf rfl (show ¬ ¬ (if (true : Bool) = true then (1 : Int32) else 0) = 1 by decide) ?_
              iterate 4 (refine WP.st rfl ?_)
              refine WP.iald (k := k) rfl (rfl) (Or.inl rfl) (show k < 21 by omega) (rfl) ?_
              rw [show hI (hp L I J w) 217 k = nI (bb k) from b3]
              iterate 4 (refine WP.st rfl ?_)
              rw [show ((nI v >>> (nI (bb k) &&& 31)) &&& Int32.ofInt 1 : Int32) = if v.testBit (bb k) = true then 1 else 0 from by rw [← bt_nI (show v < 2 ^ 31 by omega)]; exact sh_and (nI v) (by omega)]
              cases h3 : v.testBit (bb k) with
              | false =>
                refine WP.ict rfl (show ¬ (if (false : Bool) = true then (1 : Int32) else 0) = 1 by decide) ?_
                exact no (by unfold inB; rw [h2, h3]; simp)
              | true =>
                refine WP.icf rfl (show ¬ ¬ (if (true : Bool) = true then (1 : Int32) else 0) = 1 by decide) ?_
                iterate 2 (refine WP.st rfl ?_)
                exact yes (by unfold inB; rw [h2, h3]; rfl)
        · have cl := cn_le ba bb S v 21
          have pl := pcnt_le v
          have next : (cn ba bb S v 21 = 0 ∨ cn ba bb S v 21 + 3 ≤ 2 * pcnt v) → WP m_Mo_isIndependent (122, [some (.ref 208), some (.int set), some (.int (nI v)), some (.int (nI (pcnt v))), some (.int (nI (cn ba bb S v 21))), some (.int (nI 21))], [], hp L I J w, 0, 0) (fun r h' => r = some (.int (bI (idp ba bb S))) ∧ h' = hp L I J w) := fun hy => by
            iterate 4 (refine WP.st rfl ?_)
            have kk2 := kk (some (.int (nI (pcnt v))), some (.int (nI (cn ba bb S v 21))), some (.int (nI 21))) (fun V hV => by
              by_cases e : V = v
              · rw [e]; exact hy
              · exact hi V (by omega))
            rw [nI_succ v] at kk2
            exact kk2
          refine WP.ict rfl (nI_le (Nat.le_refl _) (by omega)) ?_
          iterate 1 (refine WP.st rfl ?_)
          by_cases e0 : cn ba bb S v 21 = 0
          · refine WP.ift rfl (show nI (cn ba bb S v 21) ≤ 0 by rw [e0]; decide) ?_
            exact next (Or.inl e0)
          · skip
            refine WP.iff rfl (nI_nle (by omega) (by omega)) ?_
            iterate 6 (refine WP.st rfl ?_)
            have ez : (Int32.ofInt 2 * nI (pcnt v) - Int32.ofInt 3 : Int32) = zI (2 * (pcnt v : Int) - 3) := by
              rw [nI_zI]
              show zI 2 * zI (pcnt v : Int) - zI 3 = _
              rw [zI_mul, zI_sub]
            by_cases e1 : cn ba bb S v 21 + 3 ≤ 2 * pcnt v
            · refine WP.ict rfl (show nI (cn ba bb S v 21) ≤ (Int32.ofInt 2 * nI (pcnt v) - Int32.ofInt 3 : Int32) by rw [ez, nI_zI]; exact (zI_le (by omega) (by omega) (by omega) (by omega)).mpr (by omega)) ?_
              exact next (Or.inr e1)
            · skip
              refine WP.icf rfl (show ¬ nI (cn ba bb S v 21) ≤ (Int32.ofInt 2 * nI (pcnt v) - Int32.ofInt 3 : Int32) by rw [ez, nI_zI]; exact fun z => by have := (zI_le (by omega) (by omega) (by omega) (by omega)).mp z; omega) ?_
              iterate 1 (refine WP.st rfl ?_)
              refine WP.ret rfl ⟨?_, rfl⟩
              rw [bI_f (fun z => by have := z v hv; omega)]
              rfl
    · skip
      refine WP.ict rfl (nI_le (Nat.le_refl _) (by omega)) ?_
      iterate 1 (refine WP.st rfl ?_)
      refine WP.ret rfl ⟨?_, rfl⟩
      rw [bI_t (P := idp ba bb S) hi]
      rfl
  obtain ⟨rfl, rfl⟩ := q
  exact e
/-- the reference's bars -/
def BR (I : Nat → Nat → Int32) (B : Nat) (ba bb : Nat → Nat) : Prop := I 208 10 = nI B ∧ B ≤ 20 ∧ (∀ k, k < B → ba k ≠ bb k) ∧ BA21 I ba bb
/-- counted -/
def BC (I : Nat → Nat → Int32) (B : Nat) (ba bb : Nat → Nat) (m : Nat) : Prop := (∀ k, k < 32 → bt (I 208 14) k = nwb ba bb m k) ∧ ∀ k, k < m → I 218 k = bI (mny ba bb k)
set_option maxHeartbeats 4000000 in
set_option maxRecDepth 20000 in
theorem sp_countBars (L : Nat) (I : Nat → Nat → Int32) (J : Nat → Nat → Int64) (w : Nat → Nat) (B : Nat) (ba bb : Nat → Nat) (hB : BR I B ba bb) : SP m_Mo_countBars [.ref 208] (hp L I J w) (fun v h => v = none ∧ ∃ I' : Nat → Nat → Int32, (∀ c, c ≠ 208 → c ≠ 218 → I' c = I c) ∧ (∀ k, k ≠ 14 → I' 208 k = I 208 k) ∧ BC I' B ba bb B ∧ h = hp L I' J w) := by
  obtain ⟨h1, h2, h3, h4⟩ := hB
  unfold SP
  iterate 8 (refine WP.st rfl ?_)
  refine WP.inv (fun k (I1 : Nat → Nat → Int32) => (12, [some (.ref 208), some (.int (nI k))], [.int (I1 208 10), .int (nI k)], hp L I1 J w, 0, 0)) (fun k I1 => (∀ c, c ≠ 208 → c ≠ 218 → I1 c = I c) ∧ (∀ q, q ≠ 14 → I1 208 q = I 208 q) ∧ BC I1 B ba bb k) B (mm_up I 208 14 0) ⟨fun c a _ => up_ne I _ a, fun q hq => up_nk I _ hq, fun k _ => by rw [mm_up_at, bt_0]; rfl, fun k hk => absurd hk (Nat.not_lt_zero k)⟩ (fun k I1 hk hv kk => ?_) (fun I1 hv => ?_)
  · obtain ⟨v1, v2, v3, v4⟩ := hv
    have b10 : I1 208 10 = nI B := (v2 10 (by decide)).trans h1
    have hB1 : BA21 I1 ba bb := by unfold BA21; rw [v1 216 (by decide) (by decide), v1 217 (by decide) (by decide)]; exact h4
    refine WP.icf rfl (show ¬ I1 208 10 ≤ nI k by rw [b10]; exact nI_ge hk (by omega)) ?_
    iterate 10 (refine WP.st rfl ?_)
    refine WP.calle rfl rfl (sp_indep L I1 J w (I1 208 14 ||| ((1 : Int32) <<< (nI k &&& 31))) (fun j => nwb ba bb k j || decide (j = k)) (fun j hj => by rw [bt_or1 _ (by omega) (by omega), v3 j (by omega)]) ba bb hB1) ?_
    have fin : ∀ x : Int32, x = bI (mny ba bb k) → WP m_Mo_countBars (40, [some (.ref 208), some (.int (nI k))], [.int x, .int (nI k), .ref 218], hp L I1 J w, 0, 0) (fun v h => v = none ∧ ∃ I' : Nat → Nat → Int32, (∀ c, c ≠ 208 → c ≠ 218 → I' c = I c) ∧ (∀ k, k ≠ 14 → I' 208 k = I 208 k) ∧ BC I' B ba bb B ∧ h = hp L I' J w) := by
      intro x hx
      have hx01 : x = 0 ∨ x = 1 := by
        rw [hx]
        by_cases m : mny ba bb k
        · exact Or.inr (bI_t m)
        · exact Or.inl (bI_f m)
      have e14 : mm_up I1 218 k x 208 14 = I1 208 14 := congrFun (up_ne I1 _ (by decide)) 14
      refine WP.bast (k := k) rfl (rfl) (rfl) (show k < 20 by omega) (rfl) (hx01) ?_
      iterate 4 (refine WP.st rfl ?_)
      refine WP.bald (k := k) rfl (rfl) (rfl) (show k < 20 by omega) (rfl) ?_
      rw [show hI (putI (hp L I1 J w) 218 k x) 218 k = x from mm_up_at I1 218 k x]
      by_cases m : mny ba bb k
      · rw [bI_t m] at hx
        refine WP.iff rfl (show ¬ x = 0 by rw [hx]; decide) ?_
        iterate 9 (refine WP.st rfl ?_)
        have kk2 := kk (mm_up (mm_up I1 218 k x) 208 14 (I1 208 14)) ⟨fun c a b => (up_ne _ _ a).trans ((up_ne I1 _ b).trans (v1 c a b)), fun q hq => (up_nk _ _ hq).trans ((congrFun (up_ne I1 _ (by decide)) q).trans (v2 q hq)), fun j hj => by rw [mm_up_at, nwb_f m]; exact v3 j hj, fun j hj => ?_⟩
        · rw [nI_succ k] at kk2
          exact kk2
        · rw [up_ne _ _ (by decide)]
          by_cases e : j = k
          · rw [e, bI_t m, ← hx]; exact mm_up_at I1 _ _ _
          · exact (up_nk I1 _ e).trans (v4 j (by omega))
      · rw [bI_f m] at hx
        refine WP.ift rfl (hx) ?_
        iterate 12 (refine WP.st rfl ?_)
        have kk2 := kk (mm_up (mm_up I1 218 k x) 208 14 (I1 208 14 ||| ((1 : Int32) <<< (nI k &&& 31)))) ⟨fun c a b => (up_ne _ _ a).trans ((up_ne I1 _ b).trans (v1 c a b)), fun q hq => (up_nk _ _ hq).trans ((congrFun (up_ne I1 _ (by decide)) q).trans (v2 q hq)), fun j hj => by rw [mm_up_at, nwb_t m, bt_or1 _ (by omega) hj, v3 j hj], fun j hj => ?_⟩
        · rw [nI_succ k] at kk2
          exact kk2
        · rw [up_ne _ _ (by decide)]
          by_cases e : j = k
          · rw [e, bI_f m, ← hx]; exact mm_up_at I1 _ _ _
          · exact (up_nk I1 _ e).trans (v4 j (by omega))
    by_cases m : idp ba bb (fun j => nwb ba bb k j || decide (j = k))
    · rw [bI_t m]
      refine WP.ift rfl (show ¬ (1 : Int32) = 0 by decide) ?_
      iterate 1 (refine WP.st rfl ?_)
      exact fin 0 (bI_f (fun z => z m)).symm
    · rw [bI_f m]
      refine WP.iff rfl (fun z => z rfl) ?_
      iterate 2 (refine WP.st rfl ?_)
      exact fin 1 (bI_t m).symm
  · obtain ⟨v1, v2, v3⟩ := hv
    have b10 : I1 208 10 = nI B := (v2 10 (by decide)).trans h1
    refine WP.ict rfl (show I1 208 10 ≤ nI B by rw [b10]; exact nI_le (Nat.le_refl _) (by omega)) ?_
    exact WP.ret rfl ⟨rfl, I1, v1, v2, v3, rfl⟩
/-! barOf, isKept -/
theorem sp_barOf (L : Nat) (I : Nat → Nat → Int32) (J : Nat → Nat → Int64) (w : Nat → Nat) (B : Nat) (ba bb : Nat → Nat) (hB : BR I B ba bb) (a b : Nat) (ha : a < 8) (hb : b < 8) : SP m_Mo_barOf [.ref 208, .int (nI a), .int (nI b)] (hp L I J w) (fun v h => h = hp L I J w ∧ ∃ x, v = some (.int x) ∧ ((∃ k, k < B ∧ x = nI k ∧ ((ba k = a ∧ bb k = b) ∨ (ba k = b ∧ bb k = a))) ∨ (x = -1 ∧ ∀ k, k < B → ¬ ((ba k = a ∧ bb k = b) ∨ (ba k = b ∧ bb k = a))))) := by
  obtain ⟨h1, h2, h3, h4⟩ := hB
  have nq : ∀ {x y : Nat}, x < 8 → y < 8 → (nI x = nI y ↔ x = y) := fun hx hy => nI_eq (by omega) (by omega)
  unfold SP
  iterate 5 (refine WP.st rfl ?_)
  refine WP.search (fun k => (7, [some (.ref 208), some (.int (nI a)), some (.int (nI b)), some (.int (nI k))], [.int (I 208 10), .int (nI k)], hp L I J w, 0, 0)) (fun k => (ba k = a ∧ bb k = b) ∨ (ba k = b ∧ bb k = a)) B (fun k hk hP _ => ?_) (fun k hk hP kk => ?_) (fun hP => ?_)
  · obtain ⟨b1, b2, b3, b4⟩ := h4 k (by omega)
    have fin : WP m_Mo_barOf (50, [some (.ref 208), some (.int (nI a)), some (.int (nI b)), some (.int (nI k))], [], hp L I J w, 0, 0) (fun v h => h = hp L I J w ∧ ∃ x, v = some (.int x) ∧ ((∃ k, k < B ∧ x = nI k ∧ ((ba k = a ∧ bb k = b) ∨ (ba k = b ∧ bb k = a))) ∨ (x = -1 ∧ ∀ k, k < B → ¬ ((ba k = a ∧ bb k = b) ∨ (ba k = b ∧ bb k = a))))) := by
      iterate 1 (refine WP.st rfl ?_)
      exact WP.ret rfl ⟨rfl, _, rfl, Or.inl ⟨k, hk, rfl, hP⟩⟩
    have second : ¬ (ba k = a ∧ bb k = b) → WP m_Mo_barOf (30, [some (.ref 208), some (.int (nI a)), some (.int (nI b)), some (.int (nI k))], [], hp L I J w, 0, 0) (fun v h => h = hp L I J w ∧ ∃ x, v = some (.int x) ∧ ((∃ k, k < B ∧ x = nI k ∧ ((ba k = a ∧ bb k = b) ∨ (ba k = b ∧ bb k = a))) ∨ (x = -1 ∧ ∀ k, k < B → ¬ ((ba k = a ∧ bb k = b) ∨ (ba k = b ∧ bb k = a))))) := fun hn => by
      obtain ⟨e1, e2⟩ := hP.resolve_left hn
      iterate 3 (refine WP.st rfl ?_)
      refine WP.iald (k := k) rfl (rfl) (Or.inl rfl) (show k < 21 by omega) (rfl) ?_
      rw [show hI (hp L I J w) 216 k = nI (ba k) from b1]
      iterate 1 (refine WP.st rfl ?_)
      refine WP.icf rfl (fun z => z ((nq b2 hb).mpr e1)) ?_
      iterate 3 (refine WP.st rfl ?_)
      refine WP.iald (k := k) rfl (rfl) (Or.inl rfl) (show k < 21 by omega) (rfl) ?_
      rw [show hI (hp L I J w) 217 k = nI (bb k) from b3]
      iterate 1 (refine WP.st rfl ?_)
      refine WP.icf rfl (fun z => z ((nq b4 ha).mpr e2)) ?_
      exact fin
    refine WP.icf rfl (show ¬ I 208 10 ≤ nI k by rw [h1]; exact nI_ge hk (by omega)) ?_
    iterate 3 (refine WP.st rfl ?_)
    refine WP.iald (k := k) rfl (rfl) (Or.inl rfl) (show k < 21 by omega) (rfl) ?_
    rw [show hI (hp L I J w) 216 k = nI (ba k) from b1]
    iterate 1 (refine WP.st rfl ?_)
    by_cases e1 : ba k = a
    · refine WP.icf rfl (fun z => z ((nq b2 ha).mpr e1)) ?_
      iterate 3 (refine WP.st rfl ?_)
      refine WP.iald (k := k) rfl (rfl) (Or.inl rfl) (show k < 21 by omega) (rfl) ?_
      rw [show hI (hp L I J w) 217 k = nI (bb k) from b3]
      iterate 1 (refine WP.st rfl ?_)
      by_cases e2 : bb k = b
      · refine WP.ict rfl ((nq b4 hb).mpr e2) ?_
        exact fin
      · skip
        refine WP.icf rfl (fun z => e2 ((nq b4 hb).mp z)) ?_
        exact second (fun z => e2 z.2)
    · skip
      refine WP.ict rfl (fun z => e1 ((nq b2 ha).mp z)) ?_
      exact second (fun z => e1 z.1)
  · obtain ⟨b1, b2, b3, b4⟩ := h4 k (by omega)
    rw [nI_succ k] at kk
    have fin : WP m_Mo_barOf (52, [some (.ref 208), some (.int (nI a)), some (.int (nI b)), some (.int (nI k))], [], hp L I J w, 0, 0) (fun v h => h = hp L I J w ∧ ∃ x, v = some (.int x) ∧ ((∃ k, k < B ∧ x = nI k ∧ ((ba k = a ∧ bb k = b) ∨ (ba k = b ∧ bb k = a))) ∨ (x = -1 ∧ ∀ k, k < B → ¬ ((ba k = a ∧ bb k = b) ∨ (ba k = b ∧ bb k = a))))) := by
      iterate 5 (refine WP.st rfl ?_)
      exact kk
    have second : WP m_Mo_barOf (30, [some (.ref 208), some (.int (nI a)), some (.int (nI b)), some (.int (nI k))], [], hp L I J w, 0, 0) (fun v h => h = hp L I J w ∧ ∃ x, v = some (.int x) ∧ ((∃ k, k < B ∧ x = nI k ∧ ((ba k = a ∧ bb k = b) ∨ (ba k = b ∧ bb k = a))) ∨ (x = -1 ∧ ∀ k, k < B → ¬ ((ba k = a ∧ bb k = b) ∨ (ba k = b ∧ bb k = a))))) := by
      iterate 3 (refine WP.st rfl ?_)
      refine WP.iald (k := k) rfl (rfl) (Or.inl rfl) (show k < 21 by omega) (rfl) ?_
      rw [show hI (hp L I J w) 216 k = nI (ba k) from b1]
      iterate 1 (refine WP.st rfl ?_)
      by_cases e1 : ba k = b
      · refine WP.icf rfl (fun z => z ((nq b2 hb).mpr e1)) ?_
        iterate 3 (refine WP.st rfl ?_)
        refine WP.iald (k := k) rfl (rfl) (Or.inl rfl) (show k < 21 by omega) (rfl) ?_
        rw [show hI (hp L I J w) 217 k = nI (bb k) from b3]
        iterate 1 (refine WP.st rfl ?_)
        refine WP.ict rfl (fun z => hP (Or.inr ⟨e1, (nq b4 ha).mp z⟩)) ?_
        exact fin
      · skip
        refine WP.ict rfl (fun z => e1 ((nq b2 hb).mp z)) ?_
        exact fin
    refine WP.icf rfl (show ¬ I 208 10 ≤ nI k by rw [h1]; exact nI_ge hk (by omega)) ?_
    iterate 3 (refine WP.st rfl ?_)
    refine WP.iald (k := k) rfl (rfl) (Or.inl rfl) (show k < 21 by omega) (rfl) ?_
    rw [show hI (hp L I J w) 216 k = nI (ba k) from b1]
    iterate 1 (refine WP.st rfl ?_)
    by_cases e1 : ba k = a
    · refine WP.icf rfl (fun z => z ((nq b2 ha).mpr e1)) ?_
      iterate 3 (refine WP.st rfl ?_)
      refine WP.iald (k := k) rfl (rfl) (Or.inl rfl) (show k < 21 by omega) (rfl) ?_
      rw [show hI (hp L I J w) 217 k = nI (bb k) from b3]
      iterate 1 (refine WP.st rfl ?_)
      refine WP.icf rfl (fun z => hP (Or.inl ⟨e1, (nq b4 hb).mp z⟩)) ?_
      exact second
    · skip
      refine WP.ict rfl (fun z => e1 ((nq b2 ha).mp z)) ?_
      exact second
  · skip
    refine WP.ict rfl (show I 208 10 ≤ nI B by rw [h1]; exact nI_le (Nat.le_refl _) (by omega)) ?_
    iterate 1 (refine WP.st rfl ?_)
    exact WP.ret rfl ⟨rfl, _, rfl, Or.inr ⟨rfl, hP⟩⟩
theorem kp_congr {ba bb ba' bb' : Nat → Nat} {n a b : Nat} (hn : n ≤ 20) (h : ∀ k, k < n → ba k = ba' k ∧ bb k = bb' k) : kp ba bb n a b ↔ kp ba' bb' n a b := by
  have e := nwb_congr (ba := ba) (bb := bb) (ba' := ba') (bb' := bb') n (by omega) h
  have c : ∀ V, cn ba bb (nwb ba bb n) V 21 = cn ba' bb' (nwb ba' bb' n) V 21 := fun V => by
    rw [← e]
    exact cn_congr 21 (fun k _ => ⟨rfl, fun hk => h k (by
      by_cases z : k < n
      · exact z
      · rw [nwb_ge ba bb n k (by omega)] at hk; cases hk)⟩)
  unfold kp tgt
  simp only [c]
theorem kp_sym {ba bb : Nat → Nat} {n a b : Nat} : kp ba bb n a b ↔ kp ba bb n b a := by
  unfold kp inB
  simp only [Bool.and_comm]
/-- the twentieth place of the bars -/
def u20 (f : Nat → Nat) (a : Nat) : Nat → Nat := fun k => if k = 20 then a else f k
set_option maxHeartbeats 4000000 in
set_option maxRecDepth 20000 in
theorem sp_isKept (L : Nat) (I : Nat → Nat → Int32) (J : Nat → Nat → Int64) (w : Nat → Nat) (B : Nat) (ba bb : Nat → Nat) (hB : BR I B ba bb) (hC : BC I B ba bb B) (a b : Nat) (ha : a < 8) (hb : b < 8) (hab : a ≠ b) : SP m_Mo_isKept [.ref 208, .int (nI a), .int (nI b)] (hp L I J w) (fun v h => v = some (.int (bI (kp ba bb B a b))) ∧ h = hp L (mm_up (mm_up I 216 20 (nI a)) 217 20 (nI b)) J w) := by
  obtain ⟨h1, h2, h3, h4⟩ := hB
  have hu : ∀ k, k < B → ba k = u20 ba a k ∧ bb k = u20 bb b k := fun k hk => by unfold u20; rw [if_neg (by omega), if_neg (by omega)]; exact ⟨rfl, rfl⟩
  have hB2 : BA21 (mm_up (mm_up I 216 20 (nI a)) 217 20 (nI b)) (u20 ba a) (u20 bb b) := fun k hk => by
    obtain ⟨b1, b2, b3, b4⟩ := h4 k hk
    unfold u20
    by_cases e : k = 20
    · subst e
      rw [if_pos rfl, if_pos rfl, up_ne _ _ (show (216 : Nat) ≠ 217 by decide)]
      exact ⟨mm_up_at I _ _ _, ha, mm_up_at _ _ _ _, hb⟩
    · rw [if_neg e, if_neg e, up_ne _ _ (show (216 : Nat) ≠ 217 by decide), up_nk I _ e, up_nk _ _ e, up_ne I _ (show (217 : Nat) ≠ 216 by decide)]
      exact ⟨b1, b2, b3, b4⟩
  have hR2 : BR (mm_up (mm_up I 216 20 (nI a)) 217 20 (nI b)) B (u20 ba a) (u20 bb b) := ⟨by rw [up_ne _ _ (by decide), up_ne I _ (by decide)]; exact h1, h2, fun k hk => by rw [← (hu k hk).1, ← (hu k hk).2]; exact h3 k hk, hB2⟩
  have hkp := kp_congr (a := a) (b := b) h2 hu
  have hnw := nwb_congr (ba := ba) (bb := bb) (ba' := u20 ba a) (bb' := u20 bb b) B (by omega) hu
  unfold SP
  iterate 4 (refine WP.st rfl ?_)
  refine WP.iast (k := 20) rfl (rfl) (rfl) (show 20 < 21 by omega) (rfl) ?_
  iterate 4 (refine WP.st rfl ?_)
  refine WP.iast (k := 20) rfl (rfl) (rfl) (show 20 < 21 by omega) (rfl) ?_
  iterate 3 (refine WP.st rfl ?_)
  rw [show putI (putI (hp L I J w) 216 20 (nI a)) 217 20 (nI b) = hp L (mm_up (mm_up I 216 20 (nI a)) 217 20 (nI b)) J w from rfl]
  refine WP.call rfl rfl (sp_barOf L (mm_up (mm_up I 216 20 (nI a)) 217 20 (nI b)) J w B (u20 ba a) (u20 bb b) hR2 a b ha hb) ?_
  rintro _ _ ⟨rfl, x, rfl, hx⟩
  rcases hx with ⟨k, k1, rfl, k3⟩ | ⟨rfl, k3⟩
  · have hk : kp ba bb B a b := by
      rw [← (hu k k1).1, ← (hu k k1).2] at k3
      obtain ⟨b1, b2, b3, b4⟩ := h4 k (by omega)
      have := kp_bar k1 h2 b2 b4 (h3 k k1)
      rcases k3 with ⟨e1, e2⟩ | ⟨e1, e2⟩
      · rw [e1, e2] at this; exact this
      · rw [e1, e2] at this; exact kp_sym.mp this
    refine WP.ift rfl (nI_pos' (by omega)) ?_
    iterate 2 (refine WP.st rfl ?_)
    exact WP.ret rfl ⟨by rw [bI_t hk]; rfl, rfl⟩
  · have e14 : mm_up (mm_up I 216 20 (nI a)) 217 20 (nI b) 208 14 = I 208 14 := by rw [up_ne _ _ (by decide), up_ne I _ (by decide)]
    have h20 : u20 ba a 20 = a ∧ u20 bb b 20 = b := ⟨if_pos rfl, if_pos rfl⟩
    have hid := kp_idp (ba := u20 ba a) (bb := u20 bb b) (n := B) (x := 20) (nwb_ge _ _ B 20 h2) (by omega) (by rw [h20.1]; exact ha) (by rw [h20.2]; exact hb) (by rw [h20.1, h20.2]; exact hab)
    rw [h20.1, h20.2, ← hkp] at hid
    refine WP.iff rfl (show ¬ (0 : Int32) ≤ -1 by decide) ?_
    iterate 5 (refine WP.st rfl ?_)
    refine WP.calle rfl rfl (sp_indep L (mm_up (mm_up I 216 20 (nI a)) 217 20 (nI b)) J w (mm_up (mm_up I 216 20 (nI a)) 217 20 (nI b) 208 14 ||| 1048576) (fun j => nwb (u20 ba a) (u20 bb b) B j || decide (j = 20)) (fun j hj => by rw [e14, show (1048576 : Int32) = (1 : Int32) <<< (nI 20 &&& 31) by decide, bt_or1 _ (by omega) (by omega), hC.1 j (by omega), hnw]) (u20 ba a) (u20 bb b) hB2) ?_
    by_cases m : kp ba bb B a b
    · rw [bI_f (hid.mpr m)]
      refine WP.iff rfl (fun z => z rfl) ?_
      iterate 2 (refine WP.st rfl ?_)
      exact WP.ret rfl ⟨by rw [bI_t m]; rfl, rfl⟩
    · rw [bI_t (Classical.not_not.mp (fun z => m (hid.mp z)))]
      refine WP.ift rfl (show ¬ (1 : Int32) = 0 by decide) ?_
      iterate 1 (refine WP.st rfl ?_)
      exact WP.ret rfl ⟨by rw [bI_f m]; rfl, rfl⟩
