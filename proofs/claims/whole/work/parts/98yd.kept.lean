/-- the reference behind countBars -/
def KI (I : Nat → Nat → Int32) (S : St) : Prop := (∀ k, k < 32 → bt (I 208 14) k = nwb (sBa S) (sBb S) (sB S) k) ∧ ∀ k, k < sB S → I 218 k = bI (mny (sBa S) (sBb S) k)
theorem KI_BC {I : Nat → Nat → Int32} {S : St} {ba bb : Nat → Nat} (h : KI I S) (hB : sB S ≤ 20) (hE : ∀ k, k < sB S → ba k = sBa S k ∧ bb k = sBb S k) : BC I (sB S) ba bb (sB S) := by
  refine ⟨fun k hk => ?_, fun k hk => ?_⟩
  · rw [h.1 k hk, nwb_congr (sB S) (by omega) hE]
  · rw [h.2 k hk]
    exact bI_c (mny_congr (m := k) (by omega) (fun j hj => hE j (by omega))).symm
theorem sp_mik (L : Nat) (I : Nat → Nat → Int32) (J : Nat → Nat → Int64) (w : Nat → Nat) (S : St) (h : RI I J S) (hk : KI I S) (a b : Nat) (ha : a < 8) (hb : b < 8) (hab : a ≠ b) : SP m_Mo_isKept [.ref 208, .int (nI a), .int (nI b)] (hp L I J w) (fun v h => v = some (.int (bI (kp (sBa S) (sBb S) (sB S) a b))) ∧ ∃ I' : Nat → Nat → Int32, FR 208 228 I J I' J ∧ RI I' J S ∧ KI I' S ∧ h = hp L I' J w) := by
  obtain ⟨ba, bb, hB, hE⟩ := h.2.2.2.2
  have b2 := hB.2.1
  refine WP.mono (sp_isKept L I J w (sB S) ba bb hB (KI_BC hk b2 hE) a b ha hb hab) ?_
  rintro _ _ ⟨rfl, rfl⟩
  refine ⟨by rw [bI_c (kp_congr b2 hE)], mm_up (mm_up I 216 20 (nI a)) 217 20 (nI b), fun c hc => ⟨(up_ne _ _ (by omega)).trans (up_ne I _ (by omega)), rfl⟩, ?_, ⟨?_, ?_⟩, rfl⟩
  · refine RI_br (B := sB S) (ba := sBa S) (bb := sBb S) h (fun c _ c2 c3 _ => (up_ne _ _ c3).trans (up_ne I _ c2)) (fun k _ _ => by rw [up_ne _ _ (by decide), up_ne I _ (by decide)]) ⟨u20 ba a, u20 bb b, ⟨by rw [up_ne _ _ (by decide), up_ne I _ (by decide)]; exact hB.1, b2, fun k hk' => ?_, fun k hk' => ?_⟩, fun k hk' => ?_⟩
    · have hk2 : k < sB S := hk'
      unfold u20
      rw [if_neg (by omega), if_neg (by omega)]
      exact hB.2.2.1 k hk2
    · obtain ⟨g1, g2, g3, g4⟩ := hB.2.2.2 k hk'
      unfold u20
      by_cases e : k = 20
      · subst e
        rw [if_pos rfl, if_pos rfl, up_ne _ _ (show (216 : Nat) ≠ 217 by decide)]
        exact ⟨mm_up_at I _ _ _, ha, mm_up_at _ _ _ _, hb⟩
      · rw [if_neg e, if_neg e, up_ne _ _ (show (216 : Nat) ≠ 217 by decide), up_nk I _ e, up_nk _ _ e, up_ne I _ (show (217 : Nat) ≠ 216 by decide)]
        exact ⟨g1, g2, g3, g4⟩
    · have hk2 : k < sB S := hk'
      unfold u20
      rw [if_neg (by omega), if_neg (by omega)]
      exact hE k hk2
  · rw [up_ne _ _ (by decide), up_ne I _ (by decide)]; exact hk.1
  · rw [up_ne _ _ (by decide), up_ne I _ (by decide)]; exact hk.2
theorem sp_mck (L : Nat) (I : Nat → Nat → Int32) (J : Nat → Nat → Int64) (w : Nat → Nat) (S : St) (h : RI I J S) : SP m_Mo_countBars [.ref 208] (hp L I J w) (fun v h => v = none ∧ ∃ I' : Nat → Nat → Int32, FR 208 228 I J I' J ∧ RI I' J S ∧ KI I' S ∧ h = hp L I' J w) := by
  refine WP.mono (sp_mcb L I J w S h) ?_
  rintro _ _ ⟨e, I1, f1, f2, f3, f4, rfl⟩
  exact ⟨e, I1, f1, f2, ⟨f3, f4⟩, rfl⟩
noncomputable def oKept (S : St) (x y : Int32) : Int32 × St := if rg x (sPt S) ∧ rg y (sPt S) ∧ x ≠ y then (bI (kp (sBa S) (sBb S) (sB S) x.toInt.toNat y.toInt.toNat), S) else (-2, S)
theorem ev_ckp (L : Nat) (I : Nat → Nat → Int32) (J : Nat → Nat → Int64) (w : Nat → Nat) (S : St) (h : CI I J w S) (x y : Int32) (hx : rg x (sPt S)) (hy : rg y (sPt S)) : EV m_Fm_keeps [.ref 141, .int x, .int y] (hp L I J w) (some (.int (bI (kp (sBa S) (sBb S) (sB S) x.toInt.toNat y.toInt.toNat)))) (hp L I J w) := by
  have p2 := h.1.2.1
  obtain ⟨ex, hx⟩ := rg2_nI hx
  obtain ⟨ey, hy⟩ := rg2_nI hy
  have e := ev_ckeeps L I J w (sB S) (sBa S) (sBb S) h.2.2.2.2 x.toInt.toNat y.toInt.toNat (by omega) (by omega)
  rw [← ex, ← ey] at e
  exact e
theorem c_kept (L : Nat) (I : Nat → Nat → Int32) (J : Nat → Nat → Int64) (w : Nat → Nat) (S : St) (h : CI I J w S) (x y : Int32) : CM L I J w m_DT_kept [.int x, .int y] (.int (oKept S x y).1) (oKept S x y).2 := by
  obtain ⟨p1, p2, p3⟩ := h.1
  unfold CM SP oKept
  iterate 3 (refine WP.st rfl ?_)
  refine WP.calle rfl rfl (ev_isPair L I J w (sPt S) p2 p1 x y) ?_
  refine WP.bn rfl (fun z => ?_) (fun z => ?_)
  · rw [if_pos z]
    iterate 4 (refine WP.st rfl ?_)
    refine WP.calle rfl rfl (ev_ckp L I J w S h x y z.1 z.2.1) ?_
    by_cases e : kp (sBa S) (sBb S) (sB S) x.toInt.toNat y.toInt.toNat
    · rw [bI_t e]
      refine WP.iff rfl (show ¬ (1 : Int32) = 0 by decide) ?_
      iterate 2 (refine WP.st rfl ?_)
      exact WP.ret rfl ⟨rfl, I, J, w, FR.refl _ _ _ _, h, rfl⟩
    · rw [bI_f e]
      refine WP.ift rfl (show (0 : Int32) = 0 from rfl) ?_
      iterate 1 (refine WP.st rfl ?_)
      exact WP.ret rfl ⟨rfl, I, J, w, FR.refl _ _ _ _, h, rfl⟩
  · rw [if_neg z]
    iterate 1 (refine WP.st rfl ?_)
    exact WP.ret rfl ⟨rfl, I, J, w, FR.refl _ _ _ _, h, rfl⟩
theorem m_kept (L : Nat) (I : Nat → Nat → Int32) (J : Nat → Nat → Int64) (w : Nat → Nat) (S : St) (h : RI I J S) (x y : Int32) : MM L I J w m_Mo_kept [.int x, .int y] (.int (oKept S x y).1) (oKept S x y).2 := by
  obtain ⟨p1, p2, p3⟩ := h.1
  unfold MM SP oKept
  iterate 3 (refine WP.st rfl ?_)
  refine WP.calle rfl rfl (ev_misPair L I J w (sPt S) p2 p1 x y) ?_
  refine WP.bn rfl (fun z => ?_) (fun z => ?_)
  · rw [if_pos z]
    obtain ⟨ex, hx⟩ := rg2_nI z.1
    obtain ⟨ey, hy⟩ := rg2_nI z.2.1
    have hxy : x.toInt.toNat ≠ y.toInt.toNat := fun e => z.2.2 (by rw [ex, ey, e])
    iterate 1 (refine WP.st rfl ?_)
    refine WP.call rfl rfl (sp_mck L I J w S h) ?_
    rintro _ _ ⟨rfl, I1, f1, f2, f3, rfl⟩
    have sk := sp_mik L I1 J w S f2 f3 x.toInt.toNat y.toInt.toNat (by omega) (by omega) hxy
    rw [← ex, ← ey] at sk
    iterate 3 (refine WP.st rfl ?_)
    refine WP.call rfl rfl (sk) ?_
    rintro _ _ ⟨rfl, I2, g1, g2, g3, rfl⟩
    by_cases e : kp (sBa S) (sBb S) (sB S) x.toInt.toNat y.toInt.toNat
    · rw [bI_t e]
      refine WP.iff rfl (show ¬ (1 : Int32) = 0 by decide) ?_
      iterate 2 (refine WP.st rfl ?_)
      exact WP.ret rfl ⟨rfl, I2, J, f1.trans g1, g2, rfl⟩
    · rw [bI_f e]
      refine WP.ift rfl (show (0 : Int32) = 0 from rfl) ?_
      iterate 1 (refine WP.st rfl ?_)
      exact WP.ret rfl ⟨rfl, I2, J, f1.trans g1, g2, rfl⟩
  · rw [if_neg z]
    iterate 1 (refine WP.st rfl ?_)
    exact WP.ret rfl ⟨rfl, I, J, FR.refl _ _ _ _, h, rfl⟩
/-! round -/
noncomputable def oRound (S : St) (k : Int32) : Int32 × St := if rg k (sB S) then (if bI (mny (sBa S) (sBb S) k.toInt.toNat) = 0 then -3 else ofB (fun j => j < sB S ∧ nwb (sBa S) (sBb S) (sB S) j = true ∧ idp (sBa S) (sBb S) (fun q => (nwb (sBa S) (sBb S) (sB S) q && decide (q ≠ j)) || decide (q = k.toInt.toNat))), S) else (-2, S)
theorem c_round (L : Nat) (I : Nat → Nat → Int32) (J : Nat → Nat → Int64) (w : Nat → Nat) (S : St) (h : CI I J w S) (k : Int32) : CM L I J w m_DT_round [.int k] (.int (oRound S k).1) (oRound S k).2 := by
  have cf := h.2.2.2.2
  obtain ⟨f1, f2, f3, f4⟩ := h.2.2.2.2
  unfold CM SP oRound
  iterate 2 (refine WP.st rfl ?_)
  refine WP.calle rfl rfl (ev_isBar L I J w (sB S) f2 f1 k) ?_
  refine WP.bn rfl (fun z => ?_) (fun z => ?_)
  · rw [if_pos z]
    obtain ⟨k, hk, rfl⟩ := rg_nI z
    rw [nI_toInt (by omega), Int.toNat_natCast]
    iterate 4 (refine WP.st rfl ?_)
    refine WP.bald (k := k) rfl (rfl) (rfl) (show k < 20 by omega) (rfl) ?_
    rw [show hI (hp L I J w) 142 k = bI (mny (sBa S) (sBb S) k) from (f3 k hk).2.2.2.2.2.1]
    by_cases e : mny (sBa S) (sBb S) k
    · rw [bI_t e, if_neg (by decide)]
      refine WP.ift rfl (show ¬ (1 : Int32) = 0 by decide) ?_
      iterate 3 (refine WP.st rfl ?_)
      refine WP.calle rfl rfl (ev_ringOf L I J w k (by omega) (sB S) f2 f1) ?_
      exact WP.ret rfl ⟨by rw [ofB_eq (cring cf hk e)], I, J, w, FR.refl _ _ _ _, h, rfl⟩
    · rw [bI_f e, if_pos rfl]
      refine WP.iff rfl (fun z => z rfl) ?_
      iterate 1 (refine WP.st rfl ?_)
      exact WP.ret rfl ⟨rfl, I, J, w, FR.refl _ _ _ _, h, rfl⟩
  · rw [if_neg z]
    iterate 1 (refine WP.st rfl ?_)
    exact WP.ret rfl ⟨rfl, I, J, w, FR.refl _ _ _ _, h, rfl⟩
theorem mrd_a (L : Nat) (I : Nat → Nat → Int32) (J : Nat → Nat → Int64) (w : Nat → Nat) (k : Int32) (B : Nat) (hB : B ≤ 20) (h : I 208 10 = nI B) (Q : Option Value → MH → Prop) (k0 : ¬ rg k B → WP m_Mo_round (16, [some (.ref 208), some (.int k), none, none], [], hp L I J w, 0, 0) Q) (k1 : rg k B → WP m_Mo_round (19, [some (.ref 208), some (.int k), none, none], [], hp L I J w, 0, 0) Q) : WP m_Mo_round (0, [some (.ref 208), some (.int k), none, none], [], hp L I J w, 0, 0) Q := by
  iterate 4 (refine WP.st rfl ?_)
  refine WP.get (v := .int (nI B)) rfl rfl (rfl) (congrArg Value.int h) ?_
  iterate 3 (refine WP.st rfl ?_)
  rw [m1_long (by omega)]
  refine WP.calle rfl rfl (ev_inR (hp L I J w) k 0 ((B : Int) - 1) (by decide) (by decide) (by omega) (by omega)) ?_
  rw [rg_in]
  exact WP.bn rfl k1 k0
theorem idp_congr {ba bb ba' bb' : Nat → Nat} {S : Nat → Bool} (h : ∀ k, k < 21 → S k = true → ba k = ba' k ∧ bb k = bb' k) : idp ba bb S ↔ idp ba' bb' S := by
  have e : ∀ V, cn ba bb S V 21 = cn ba' bb' S V 21 := fun V => cn_congr 21 (fun k hk => ⟨rfl, h k hk⟩)
  unfold idp
  constructor
  · intro g V hV; rw [← e V]; exact g V hV
  · intro g V hV; rw [e V]; exact g V hV
/-- one more bit -/
theorem bits_more {v : Int32} {P : Nat → Prop} {i : Nat} (hi : i < 32) (h : ∀ j, j < 32 → (bt v j = true ↔ j < i ∧ P j)) (hP : P i) : ∀ j, j < 32 → (bt (v ||| ((1 : Int32) <<< (nI i &&& 31))) j = true ↔ j < i + 1 ∧ P j) := fun j hj => by
  rw [bt_or1 v hi hj, Bool.or_eq_true, h j hj, decide_eq_true_iff]
  constructor
  · rintro (⟨a, b⟩ | rfl)
    · exact ⟨by omega, b⟩
    · exact ⟨by omega, hP⟩
  · rintro ⟨a, b⟩
    by_cases e : j = i
    · exact Or.inr e
    · exact Or.inl ⟨by omega, b⟩
theorem bits_same {v : Int32} {P : Nat → Prop} {i : Nat} (h : ∀ j, j < 32 → (bt v j = true ↔ j < i ∧ P j)) (hP : ¬ P i) : ∀ j, j < 32 → (bt v j = true ↔ j < i + 1 ∧ P j) := fun j hj => by
  rw [h j hj]
  constructor
  · rintro ⟨a, b⟩
    exact ⟨by omega, b⟩
  · rintro ⟨a, b⟩
    by_cases e : j = i
    · rw [e] at b; exact absurd b hP
    · exact ⟨by omega, b⟩
def rdP (S : St) (k : Nat) : Nat → Prop := fun j => nwb (sBa S) (sBb S) (sB S) j = true ∧ idp (sBa S) (sBb S) (fun q => (nwb (sBa S) (sBb S) (sB S) q && decide (q ≠ j)) || decide (q = k))
theorem mrd_b (L : Nat) (I : Nat → Nat → Int32) (J : Nat → Nat → Int64) (w : Nat → Nat) (S : St) (h : RI I J S) (hK : KI I S) (k : Nat) (hk : k < sB S) (Q : Option Value → MH → Prop) (kk : ∀ v, (∀ j, j < 32 → (bt v j = true ↔ j < sB S ∧ rdP S k j)) → WP m_Mo_round (89, [some (.ref 208), some (.int (nI k)), some (.int v), some (.int (nI (sB S)))], [], hp L I J w, 0, 0) Q) : WP m_Mo_round (35, [some (.ref 208), some (.int (nI k)), none, none], [], hp L I J w, 0, 0) Q := by
  obtain ⟨ba, bb, hB, hE⟩ := h.2.2.2.2
  have b2 := hB.2.1
  iterate 6 (refine WP.st rfl ?_)
  refine WP.get (v := .int (nI (sB S))) rfl rfl (rfl) (congrArg Value.int hB.1) ?_
  refine WP.inv (fun i (v : Int32) => (44, [some (.ref 208), some (.int (nI k)), some (.int v), some (.int (nI i))], [.int (nI (sB S)), .int (nI i)], hp L I J w, 0, 0)) (fun i v => ∀ j, j < 32 → (bt v j = true ↔ j < i ∧ rdP S k j)) (sB S) 0 (fun j _ => ?_) (fun i v hi hv k2 => ?_) (fun v hv => ?_)
  · rw [bt_0]; exact ⟨fun z => absurd z (by decide), fun z => absurd z.1 (by omega)⟩
  · skip
    refine WP.icf rfl (nI_ge hi (by omega)) ?_
    iterate 3 (refine WP.st rfl ?_)
    refine WP.bald (k := i) rfl (rfl) (rfl) (show i < 20 by omega) (rfl) ?_
    rw [show hI (hp L I J w) 218 i = bI (mny (sBa S) (sBb S) i) from hK.2 i hi]
    by_cases e : mny (sBa S) (sBb S) i
    · have k3 := k2 v (bits_same hv (fun z => (nwb_lt (sB S) i hi).mp z.1 e))
      rw [bI_t e]
      refine WP.ift rfl (show ¬ (1 : Int32) = 0 by decide) ?_
      rw [nI_succ i] at k3
      iterate 4 (refine WP.st rfl ?_)
      refine WP.get (v := .int (nI (sB S))) rfl rfl (rfl) (congrArg Value.int hB.1) ?_
      exact k3
    · rw [bI_f e]
      refine WP.iff rfl (fun z => z rfl) ?_
      iterate 13 (refine WP.st rfl ?_)
      have hs : ∀ q, q < 21 → bt ((I 208 14 &&& (((1 : Int32) <<< (nI i &&& 31)) ^^^ (-1))) ||| ((1 : Int32) <<< (nI k &&& 31))) q = ((nwb (sBa S) (sBb S) (sB S) q && decide (q ≠ i)) || decide (q = k)) := fun q hq => by
        rw [bt_or1 _ (by omega) (by omega), bt_and, bt_not _ (by omega), bt_sh (by omega) (by omega), hK.1 q (by omega), decide_not]
      refine WP.calle rfl rfl (sp_indep L I J w ((I 208 14 &&& (((1 : Int32) <<< (nI i &&& 31)) ^^^ (-1))) ||| ((1 : Int32) <<< (nI k &&& 31))) (fun q => (nwb (sBa S) (sBb S) (sB S) q && decide (q ≠ i)) || decide (q = k)) hs ba bb hB.2.2.2) ?_
      rw [bI_c (idp_congr (ba' := sBa S) (bb' := sBb S) (fun q hq hq2 => ?_))]
      · by_cases e2 : idp (sBa S) (sBb S) (fun q => (nwb (sBa S) (sBb S) (sB S) q && decide (q ≠ i)) || decide (q = k))
        · have k3 := k2 _ (bits_more (by omega) hv ⟨(nwb_lt (sB S) i hi).mpr e, e2⟩)
          rw [bI_t e2]
          refine WP.iff rfl (show ¬ (1 : Int32) = 0 by decide) ?_
          rw [nI_succ i] at k3
          iterate 10 (refine WP.st rfl ?_)
          refine WP.get (v := .int (nI (sB S))) rfl rfl (rfl) (congrArg Value.int hB.1) ?_
          exact k3
        · have k3 := k2 v (bits_same hv (fun z => e2 z.2))
          rw [bI_f e2]
          refine WP.ift rfl (show (0 : Int32) = 0 from rfl) ?_
          rw [nI_succ i] at k3
          iterate 4 (refine WP.st rfl ?_)
          refine WP.get (v := .int (nI (sB S))) rfl rfl (rfl) (congrArg Value.int hB.1) ?_
          exact k3
      · have hq3 : (nwb (sBa S) (sBb S) (sB S) q && decide (q ≠ i) || decide (q = k)) = true := hq2
        refine hE q ?_
        by_cases hqB : q < sB S
        · exact hqB
        · rw [nwb_ge _ _ (sB S) q (by omega), Bool.false_and, Bool.false_or, decide_eq_true_iff] at hq3
          omega
  · skip
    refine WP.ict rfl (nI_le (Nat.le_refl _) (by omega)) ?_
    exact kk v hv
theorem m_round (L : Nat) (I : Nat → Nat → Int32) (J : Nat → Nat → Int64) (w : Nat → Nat) (S : St) (h : RI I J S) (k : Int32) : MM L I J w m_Mo_round [.int k] (.int (oRound S k).1) (oRound S k).2 := by
  obtain ⟨ba, bb, hB, -⟩ := h.2.2.2.2
  have b2 := hB.2.1
  unfold MM SP oRound
  refine mrd_a L I J w k (sB S) b2 hB.1 _ (fun z => ?_) (fun z => ?_)
  · rw [if_neg z]
    iterate 1 (refine WP.st rfl ?_)
    exact WP.ret rfl ⟨rfl, I, J, FR.refl _ _ _ _, h, rfl⟩
  · rw [if_pos z]
    obtain ⟨k, hk, rfl⟩ := rg_nI z
    rw [nI_toInt (by omega), Int.toNat_natCast]
    iterate 1 (refine WP.st rfl ?_)
    refine WP.call rfl rfl (sp_mck L I J w S h) ?_
    rintro _ _ ⟨rfl, I1, f1, f2, f3, rfl⟩
    iterate 3 (refine WP.st rfl ?_)
    refine WP.bald (k := k) rfl (rfl) (rfl) (show k < 20 by omega) (rfl) ?_
    rw [show hI (hp L I1 J w) 218 k = bI (mny (sBa S) (sBb S) k) from f3.2 k hk]
    by_cases e : mny (sBa S) (sBb S) k
    · rw [bI_t e, if_neg (by decide)]
      refine WP.ift rfl (show ¬ (1 : Int32) = 0 by decide) ?_
      refine mrd_b L I1 J w S f2 f3 k hk _ (fun v hv => ?_)
      iterate 1 (refine WP.st rfl ?_)
      exact WP.ret rfl ⟨congrArg (fun z => some (Value.int z)) (ofB_eq hv).symm, I1, J, f1, f2, rfl⟩
    · rw [bI_f e, if_pos rfl]
      refine WP.iff rfl (fun z => z rfl) ?_
      iterate 1 (refine WP.st rfl ?_)
      exact WP.ret rfl ⟨rfl, I1, J, f1, f2, rfl⟩
