def pcP (S : St) (a b : Nat) : Nat → Prop := fun j => j ≠ a ∧ j ≠ b ∧ kp (sBa S) (sBb S) (sB S) j a ∧ kp (sBa S) (sBb S) (sB S) j b
noncomputable def oPiece (S : St) (x y : Int32) : Int32 × St := if rg x (sPt S) ∧ rg y (sPt S) ∧ x ≠ y then (if bI (kp (sBa S) (sBb S) (sB S) x.toInt.toNat y.toInt.toNat) = 0 then -3 else ofB (fun j => (j = x.toInt.toNat ∨ j = y.toInt.toNat) ∨ (j < sPt S ∧ pcP S x.toInt.toNat y.toInt.toNat j)), S) else (-2, S)
theorem bit2_more {v : Int32} {P R : Nat → Prop} {i : Nat} (hi : i < 32) (h : ∀ j, j < 32 → (bt v j = true ↔ R j ∨ (j < i ∧ P j))) (hP : P i) : ∀ j, j < 32 → (bt (v ||| ((1 : Int32) <<< (nI i &&& 31))) j = true ↔ R j ∨ (j < i + 1 ∧ P j)) := fun j hj => by
  rw [bt_or1 v hi hj, Bool.or_eq_true, h j hj, decide_eq_true_iff]
  constructor
  · rintro ((a | ⟨a, b⟩) | rfl)
    · exact Or.inl a
    · exact Or.inr ⟨by omega, b⟩
    · exact Or.inr ⟨by omega, hP⟩
  · rintro (a | ⟨a, b⟩)
    · exact Or.inl (Or.inl a)
    · by_cases e : j = i
      · exact Or.inr e
      · exact Or.inl (Or.inr ⟨by omega, b⟩)
theorem bit2_same {v : Int32} {P R : Nat → Prop} {i : Nat} (h : ∀ j, j < 32 → (bt v j = true ↔ R j ∨ (j < i ∧ P j))) (hP : ¬ P i) : ∀ j, j < 32 → (bt v j = true ↔ R j ∨ (j < i + 1 ∧ P j)) := fun j hj => by
  rw [h j hj]
  constructor
  · rintro (a | ⟨a, b⟩)
    · exact Or.inl a
    · exact Or.inr ⟨by omega, b⟩
  · rintro (a | ⟨a, b⟩)
    · exact Or.inl a
    · by_cases e : j = i
      · rw [e] at b; exact absurd b hP
      · exact Or.inr ⟨by omega, b⟩
theorem bit2_start {a b : Nat} {P : Nat → Prop} (ha : a < 32) (hb : b < 32) : ∀ j, j < 32 → (bt (fm_pair (nI a) (nI b)) j = true ↔ (j = a ∨ j = b) ∨ (j < 0 ∧ P j)) := fun j hj => by
  rw [bt_pair ha hb hj, Bool.or_eq_true, decide_eq_true_iff, decide_eq_true_iff]
  exact ⟨Or.inl, fun z => z.elim id (fun z => absurd z.1 (by omega))⟩
theorem cpc_b (L : Nat) (I : Nat → Nat → Int32) (J : Nat → Nat → Int64) (w : Nat → Nat) (S : St) (h : CI I J w S) (a b : Nat) (ha : a < sPt S) (hb : b < sPt S) (Q : Option Value → MH → Prop) (kk : ∀ v, (∀ j, j < 32 → (bt v j = true ↔ (j = a ∨ j = b) ∨ (j < sPt S ∧ pcP S a b j))) → WP m_DT_piece (98, [some (.ref 2), some (.int (nI a)), some (.int (nI b)), some (.int v), some (.int (nI (sPt S)))], [], hp L I J w, 0, 0) Q) : WP m_DT_piece (27, [some (.ref 2), some (.int (nI a)), some (.int (nI b)), none, none], [], hp L I J w, 0, 0) Q := by
  obtain ⟨p1, p2, p3⟩ := h.1
  have cf := h.2.2.2.2
  iterate 12 (refine WP.st rfl ?_)
  refine WP.get (v := .int (nI (sPt S))) rfl rfl (rfl) (congrArg Value.int p1) ?_
  refine WP.inv (fun i (v : Int32) => (44, [some (.ref 2), some (.int (nI a)), some (.int (nI b)), some (.int v), some (.int (nI i))], [.int (nI (sPt S)), .int (nI i)], hp L I J w, 0, 0)) (fun i v => ∀ j, j < 32 → (bt v j = true ↔ (j = a ∨ j = b) ∨ (j < i ∧ pcP S a b j))) (sPt S) (fm_pair (nI a) (nI b)) (bit2_start (by omega) (by omega)) (fun i v hi hv k2 => ?_) (fun v hv => ?_)
  · have no : ¬ pcP S a b i → WP m_DT_piece (92, [some (.ref 2), some (.int (nI a)), some (.int (nI b)), some (.int v), some (.int (nI i))], [], hp L I J w, 0, 0) Q := fun z => by
      have k3 := k2 v (bit2_same hv z)
      rw [nI_succ i] at k3
      iterate 4 (refine WP.st rfl ?_)
      refine WP.get (v := .int (nI (sPt S))) rfl rfl (rfl) (congrArg Value.int p1) ?_
      exact k3
    refine WP.icf rfl (nI_ge hi (by omega)) ?_
    iterate 2 (refine WP.st rfl ?_)
    by_cases e1 : i = a
    · refine WP.ict rfl (show nI i = nI a by rw [e1]) ?_
      exact no (fun z => z.1 e1)
    · skip
      refine WP.icf rfl (show ¬ nI i = nI a from fun z => e1 ((nI_eq (by omega) (by omega)).mp z)) ?_
      iterate 2 (refine WP.st rfl ?_)
      by_cases e2 : i = b
      · refine WP.ict rfl (show nI i = nI b by rw [e2]) ?_
        exact no (fun z => z.2.1 e2)
      · skip
        refine WP.icf rfl (show ¬ nI i = nI b from fun z => e2 ((nI_eq (by omega) (by omega)).mp z)) ?_
        iterate 4 (refine WP.st rfl ?_)
        refine WP.calle rfl rfl (ev_ckeeps L I J w (sB S) (sBa S) (sBb S) cf i a (by omega) (by omega)) ?_
        by_cases e3 : kp (sBa S) (sBb S) (sB S) i a
        · rw [bI_t e3]
          refine WP.iff rfl (show ¬ (1 : Int32) = 0 by decide) ?_
          iterate 4 (refine WP.st rfl ?_)
          refine WP.calle rfl rfl (ev_ckeeps L I J w (sB S) (sBa S) (sBb S) cf i b (by omega) (by omega)) ?_
          by_cases e4 : kp (sBa S) (sBb S) (sB S) i b
          · rw [bI_t e4]
            refine WP.iff rfl (show ¬ (1 : Int32) = 0 by decide) ?_
            have k3 := k2 _ (bit2_more (by omega) hv ⟨e1, e2, e3, e4⟩)
            rw [nI_succ i] at k3
            iterate 10 (refine WP.st rfl ?_)
            refine WP.get (v := .int (nI (sPt S))) rfl rfl (rfl) (congrArg Value.int p1) ?_
            exact k3
          · rw [bI_f e4]
            refine WP.ift rfl (show (0 : Int32) = 0 from rfl) ?_
            exact no (fun z => e4 z.2.2.2)
        · rw [bI_f e3]
          refine WP.ift rfl (show (0 : Int32) = 0 from rfl) ?_
          exact no (fun z => e3 z.2.2.1)
  · skip
    refine WP.ict rfl (nI_le (Nat.le_refl _) (by omega)) ?_
    exact kk v hv
theorem c_piece (L : Nat) (I : Nat → Nat → Int32) (J : Nat → Nat → Int64) (w : Nat → Nat) (S : St) (h : CI I J w S) (x y : Int32) : CM L I J w m_DT_piece [.int x, .int y] (.int (oPiece S x y).1) (oPiece S x y).2 := by
  obtain ⟨p1, p2, p3⟩ := h.1
  unfold CM SP oPiece
  iterate 3 (refine WP.st rfl ?_)
  refine WP.calle rfl rfl (ev_isPair L I J w (sPt S) p2 p1 x y) ?_
  refine WP.bn rfl (fun z => ?_) (fun z => ?_)
  · rw [if_pos z]
    iterate 4 (refine WP.st rfl ?_)
    refine WP.calle rfl rfl (ev_ckp L I J w S h x y z.1 z.2.1) ?_
    by_cases e : kp (sBa S) (sBb S) (sB S) x.toInt.toNat y.toInt.toNat
    · rw [bI_t e, if_neg (by decide)]
      refine WP.ift rfl (show ¬ (1 : Int32) = 0 by decide) ?_
      obtain ⟨a, ha, rfl⟩ := rg_nI z.1
      obtain ⟨b, hb, rfl⟩ := rg_nI z.2.1
      rw [nI_toInt (by omega), nI_toInt (by omega), Int.toNat_natCast, Int.toNat_natCast]
      refine cpc_b L I J w S h a b ha hb _ (fun v hv => ?_)
      iterate 1 (refine WP.st rfl ?_)
      exact WP.ret rfl ⟨congrArg (fun z => some (Value.int z)) (ofB_eq hv).symm, I, J, w, FR.refl _ _ _ _, h, rfl⟩
    · rw [bI_f e, if_pos rfl]
      refine WP.iff rfl (fun z => z rfl) ?_
      iterate 1 (refine WP.st rfl ?_)
      exact WP.ret rfl ⟨rfl, I, J, w, FR.refl _ _ _ _, h, rfl⟩
  · rw [if_neg z]
    iterate 1 (refine WP.st rfl ?_)
    exact WP.ret rfl ⟨rfl, I, J, w, FR.refl _ _ _ _, h, rfl⟩
theorem mpc_b (L : Nat) (I : Nat → Nat → Int32) (J : Nat → Nat → Int64) (w : Nat → Nat) (S : St) (h : RI I J S) (hK : KI I S) (a b : Nat) (ha : a < sPt S) (hb : b < sPt S) (Q : Option Value → MH → Prop) (kk : ∀ (v : Int32) (I' : Nat → Nat → Int32), FR 208 228 I J I' J → RI I' J S → (∀ j, j < 32 → (bt v j = true ↔ (j = a ∨ j = b) ∨ (j < sPt S ∧ pcP S a b j))) → WP m_Mo_piece (93, [some (.ref 208), some (.int (nI a)), some (.int (nI b)), some (.int v), some (.int (nI (sPt S)))], [], hp L I' J w, 0, 0) Q) : WP m_Mo_piece (28, [some (.ref 208), some (.int (nI a)), some (.int (nI b)), none, none], [], hp L I J w, 0, 0) Q := by
  have p2 := h.1.2.1
  iterate 12 (refine WP.st rfl ?_)
  refine WP.get (v := .int (nI (sPt S))) rfl rfl (rfl) (congrArg Value.int h.1.1) ?_
  refine WP.inv (fun i (s : Int32 × (Nat → Nat → Int32)) => (45, [some (.ref 208), some (.int (nI a)), some (.int (nI b)), some (.int s.1), some (.int (nI i))], [.int (nI (sPt S)), .int (nI i)], hp L s.2 J w, 0, 0)) (fun i s => (∀ j, j < 32 → (bt s.1 j = true ↔ (j = a ∨ j = b) ∨ (j < i ∧ pcP S a b j))) ∧ FR 208 228 I J s.2 J ∧ RI s.2 J S ∧ KI s.2 S) (sPt S) (fm_pair (nI a) (nI b), I) ⟨bit2_start (by omega) (by omega), FR.refl _ _ _ _, h, hK⟩ (fun i s hi hv k2 => ?_) (fun s hv => ?_)
  · obtain ⟨v, I1⟩ := s
    obtain ⟨hv, f1, f2, f3⟩ := hv
    have no : ∀ I2 : Nat → Nat → Int32, FR 208 228 I J I2 J → RI I2 J S → KI I2 S → ¬ pcP S a b i → WP m_Mo_piece (87, [some (.ref 208), some (.int (nI a)), some (.int (nI b)), some (.int v), some (.int (nI i))], [], hp L I2 J w, 0, 0) Q := fun I2 g1 g2 g3 z => by
      have k3 := k2 (v, I2) ⟨bit2_same hv z, g1, g2, g3⟩
      rw [nI_succ i] at k3
      iterate 4 (refine WP.st rfl ?_)
      refine WP.get (v := .int (nI (sPt S))) rfl rfl (rfl) (congrArg Value.int g2.1.1) ?_
      exact k3
    refine WP.icf rfl (nI_ge hi (by omega)) ?_
    iterate 2 (refine WP.st rfl ?_)
    by_cases e1 : i = a
    · refine WP.ict rfl (show nI i = nI a by rw [e1]) ?_
      exact no I1 f1 f2 f3 (fun z => z.1 e1)
    · skip
      refine WP.icf rfl (show ¬ nI i = nI a from fun z => e1 ((nI_eq (by omega) (by omega)).mp z)) ?_
      iterate 2 (refine WP.st rfl ?_)
      by_cases e2 : i = b
      · refine WP.ict rfl (show nI i = nI b by rw [e2]) ?_
        exact no I1 f1 f2 f3 (fun z => z.2.1 e2)
      · skip
        refine WP.icf rfl (show ¬ nI i = nI b from fun z => e2 ((nI_eq (by omega) (by omega)).mp z)) ?_
        iterate 3 (refine WP.st rfl ?_)
        refine WP.call rfl rfl (sp_mik L I1 J w S f2 f3 a i (by omega) (by omega) (fun z => e1 z.symm)) ?_
        rintro _ _ ⟨rfl, I2, g1, g2, g3, rfl⟩
        rw [bI_c (kp_sym (a := a) (b := i))]
        by_cases e3 : kp (sBa S) (sBb S) (sB S) i a
        · rw [bI_t e3]
          refine WP.iff rfl (show ¬ (1 : Int32) = 0 by decide) ?_
          iterate 3 (refine WP.st rfl ?_)
          refine WP.call rfl rfl (sp_mik L I2 J w S g2 g3 b i (by omega) (by omega) (fun z => e2 z.symm)) ?_
          rintro _ _ ⟨rfl, I3, l1, l2, l3, rfl⟩
          rw [bI_c (kp_sym (a := b) (b := i))]
          by_cases e4 : kp (sBa S) (sBb S) (sB S) i b
          · rw [bI_t e4]
            refine WP.iff rfl (show ¬ (1 : Int32) = 0 by decide) ?_
            have k3 := k2 (_, I3) ⟨bit2_more (by omega) hv ⟨e1, e2, e3, e4⟩, (f1.trans g1).trans l1, l2, l3⟩
            rw [nI_succ i] at k3
            iterate 10 (refine WP.st rfl ?_)
            refine WP.get (v := .int (nI (sPt S))) rfl rfl (rfl) (congrArg Value.int l2.1.1) ?_
            exact k3
          · rw [bI_f e4]
            refine WP.ift rfl (show (0 : Int32) = 0 from rfl) ?_
            exact no I3 ((f1.trans g1).trans l1) l2 l3 (fun z => e4 z.2.2.2)
        · rw [bI_f e3]
          refine WP.ift rfl (show (0 : Int32) = 0 from rfl) ?_
          exact no I2 (f1.trans g1) g2 g3 (fun z => e3 z.2.2.1)
  · skip
    refine WP.ict rfl (nI_le (Nat.le_refl _) (by omega)) ?_
    exact kk s.1 s.2 hv.2.1 hv.2.2.1 hv.1
theorem m_piece (L : Nat) (I : Nat → Nat → Int32) (J : Nat → Nat → Int64) (w : Nat → Nat) (S : St) (h : RI I J S) (x y : Int32) : MM L I J w m_Mo_piece [.int x, .int y] (.int (oPiece S x y).1) (oPiece S x y).2 := by
  obtain ⟨p1, p2, p3⟩ := h.1
  unfold MM SP oPiece
  iterate 3 (refine WP.st rfl ?_)
  refine WP.calle rfl rfl (ev_misPair L I J w (sPt S) p2 p1 x y) ?_
  refine WP.bn rfl (fun z => ?_) (fun z => ?_)
  · rw [if_pos z]
    have zxy := z.2.2
    obtain ⟨a, ha, rfl⟩ := rg_nI z.1
    obtain ⟨b, hb, rfl⟩ := rg_nI z.2.1
    rw [nI_toInt (by omega), nI_toInt (by omega), Int.toNat_natCast, Int.toNat_natCast]
    iterate 1 (refine WP.st rfl ?_)
    refine WP.call rfl rfl (sp_mck L I J w S h) ?_
    rintro _ _ ⟨rfl, I1, f1, f2, f3, rfl⟩
    iterate 3 (refine WP.st rfl ?_)
    refine WP.call rfl rfl (sp_mik L I1 J w S f2 f3 a b (by omega) (by omega) (fun e => zxy (by rw [e]))) ?_
    rintro _ _ ⟨rfl, I2, g1, g2, g3, rfl⟩
    by_cases e : kp (sBa S) (sBb S) (sB S) a b
    · rw [bI_t e, if_neg (by decide)]
      refine WP.ift rfl (show ¬ (1 : Int32) = 0 by decide) ?_
      refine mpc_b L I2 J w S g2 g3 a b ha hb _ (fun v I3 l1 l2 hv => ?_)
      iterate 1 (refine WP.st rfl ?_)
      exact WP.ret rfl ⟨congrArg (fun z => some (Value.int z)) (ofB_eq hv).symm, I3, J, (f1.trans g1).trans l1, l2, rfl⟩
    · rw [bI_f e, if_pos rfl]
      refine WP.iff rfl (fun z => z rfl) ?_
      iterate 1 (refine WP.st rfl ?_)
      exact WP.ret rfl ⟨rfl, I2, J, f1.trans g1, g2, rfl⟩
  · rw [if_neg z]
    iterate 1 (refine WP.st rfl ?_)
    exact WP.ret rfl ⟨rfl, I, J, FR.refl _ _ _ _, h, rfl⟩
