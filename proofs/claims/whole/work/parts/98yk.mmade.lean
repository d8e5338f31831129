theorem ind_wo {D r : Nat} {A : Nat → Nat → Int} {q : Nat} (h : ind D (r + 1) A) (hq : q ≤ r) : ind D r (wo A q) := fun c hc => by
  have key := h (fun i => if i < q then c i else if i = q then 0 else c (i - 1)) (fun k hk => by
    have e := sm_wo (fun i => (if i < q then c i else if i = q then 0 else c (i - 1)) * A i k) q r hq
    have e1 : sm (fun j => if j < q then (if j < q then c j else if j = q then 0 else c (j - 1)) * A j k else (if j + 1 < q then c (j + 1) else if j + 1 = q then 0 else c (j + 1 - 1)) * A (j + 1) k) r = sm (fun i => c i * wo A q i k) r := sm_congr r (fun i hi => by
      unfold wo
      by_cases z : i < q
      · rw [if_pos z, if_pos z, if_pos z]
      · rw [if_neg z, if_neg (by omega), if_neg (by omega), if_neg z, Nat.add_sub_cancel])
    have e2 : sm (fun j => if j = q then 0 else (if j < q then c j else if j = q then 0 else c (j - 1)) * A j k) (r + 1) = sm (fun i => (if i < q then c i else if i = q then 0 else c (i - 1)) * A i k) (r + 1) := sm_congr (r + 1) (fun i hi => by
      by_cases z : i = q
      · rw [if_pos z, if_neg (by omega), if_pos z, Int.zero_mul]
      · rw [if_neg z])
    exact e2.symm.trans (e.symm.trans (e1.trans (hc k hk))))
  intro i hi
  by_cases z : i < q
  · have := key i (by omega)
    rw [if_pos z] at this
    exact this
  · have := key (i + 1) (by omega)
    rw [if_neg (by omega), if_neg (by omega), Nat.add_sub_cancel] at this
    exact this
theorem rc_surj (Z : Nat → Bool) : ∀ M k, k < M → Z k = true → ∃ q, q < (rc Z M).1 ∧ (rc Z M).2 q = k
  | 0, k, h, _ => absurd h (Nat.not_lt_zero k)
  | M + 1, k, h, hk => by
    by_cases e : k = M
    · subst e
      rw [rc_t hk]
      exact ⟨(rc Z k).1, Nat.lt_succ_self _, if_pos rfl⟩
    · obtain ⟨q, q1, q2⟩ := rc_surj Z M k (by omega) hk
      cases hb : Z M with
      | false => rw [rc_f hb]; exact ⟨q, q1, q2⟩
      | true =>
        rw [rc_t hb]
        exact ⟨q, Nat.lt_succ_of_lt q1, (if_neg (by omega)).trans q2⟩
theorem nos_surj (T : Nat → Nat → Int) (of : Off) {t k : Nat} (ht : t ≤ 23) (h : sb T of t k = true) : ∃ q, q < rk T of t ∧ nos T of t q = k := by
  have hk : k < t := by
    unfold sb at h
    rw [decide_eq_true_iff] at h
    exact h.1
  obtain ⟨q, q1, q2⟩ := rc_surj (sb T of t) 23 k (by omega) h
  rw [rc_sb23 T of ht] at q1 q2
  exact ⟨q, q1, q2⟩
theorem sp_mmade (L : Nat) (I : Nat → Nat → Int32) (J : Nat → Nat → Int64) (w : Nat → Nat) (S : St) (h : RI I J S) (t : Nat) (ht : t < sTl S) (k q : Nat) (hq : q < rk (sT S) (sOf S) t) (hk : nos (sT S) (sOf S) t q = k) (set : Int32) (hset : ∀ j, j < 23 → bt set j = (sb (sT S) (sOf S) t j && decide (j ≠ k))) : SP m_Mo_against [.ref 208, .int set, .int (nI t)] (hp L I J w) (fun v h => (∃ x, v = some (.int (nI x)) ∧ x ≤ 2 ∧ (x = 0 ↔ ind 16 (rk (sT S) (sOf S) t) (wo (beh (am (sT S) (sOf S) t) (rk (sT S) (sOf S) t) (sT S t)) q))) ∧ ∃ K : Nat → Nat → Int64, (∀ c, c ≠ 220 → K c = J c) ∧ RI I K S ∧ h = hp L I K w) := by
  have q2 := h.2.1.2.1
  have hR := R2_RT h.2.1
  obtain ⟨π, hπ⟩ := h.2.2.1.1
  have e23 := rc_sb23 (sT S) (sOf S) (m := t) (by omega)
  obtain ⟨d1, d2⟩ := rc_del (S := sb (sT S) (sOf S) t) (i := q) (x := k) 23 (by rw [e23]; exact hq) (by rw [e23]; exact hk) (fun a b h1 h2 => by
    rw [e23] at h2 ⊢
    exact nos_inc (sT S) (sOf S) t a b h1 h2)
  rw [e23] at d1 d2
  have e1 : (nst (sT S) (sOf S) t).1 = rk (sT S) (sOf S) t := rfl
  have e2 : (nst (sT S) (sOf S) t).2 = nos (sT S) (sOf S) t := rfl
  rw [e1] at d1 d2
  rw [e2] at d2
  have am_i := am_ind (sT S) (sOf S) t
  have nl := nos_lt (sT S) (sOf S) t
  generalize hr : rk (sT S) (sOf S) t = r at *
  generalize hZ : (fun j => sb (sT S) (sOf S) t j && decide (j ≠ k)) = Z at *
  have rows : ∀ i, i < r - 1 → sT S ((rc Z 23).2 i) = wo (am (sT S) (sOf S) t) q i := fun i hi => by
    rw [d2 i hi]
    unfold wo am
    by_cases z : i < q
    · rw [if_pos z, if_pos z]
    · rw [if_neg z, if_neg z]
  have hb : ∀ i, i < r → beh (fun i => sT S ((rc Z 23).2 i)) (r - 1) (sT S t) i = wo (beh (am (sT S) (sOf S) t) r (sT S t)) q i := fun i hi => by
    unfold beh wo
    by_cases z : i < r - 1
    · rw [if_pos z]
      show sT S ((rc Z 23).2 i) = _
      rw [rows i z]
      unfold wo
      by_cases z2 : i < q
      · rw [if_pos z2, if_pos z2]; exact (if_pos (by omega)).symm
      · rw [if_neg z2, if_neg z2]; exact (if_pos (by omega)).symm
    · rw [if_neg z, if_neg (by omega)]; exact (if_neg (by omega)).symm
  have sw : srt (r + 1) (beh (am (sT S) (sOf S) t) r (sT S t)) := by
    rw [← hr]
    exact RT_srt hR (by omega) (hR.2.2 t ht).2.1
  have hZl : ∀ j, Z j = true → j < t := fun j hj => by
    rw [← hZ] at hj
    have := (Bool.and_eq_true _ _ ▸ hj).1
    unfold sb at this
    rw [decide_eq_true_iff] at this
    exact this.1
  have sa := sp_against L I J w set Z (fun j hj => by rw [hset j hj, ← hZ]) t (by omega) (fun j h1 h2 => by
    cases hj : Z j with
    | false => rfl
    | true => exact absurd (hZl j hj) (by omega)) π hπ (sT S) (fun j h1 h2 c hc => by
    have hjt : j ≤ t := by
      cases hj : Z j with
      | true => exact Nat.le_of_lt (hZl j hj)
      | false =>
        dsimp only at h2
        rw [hj, Bool.false_or, decide_eq_true_iff] at h2
        omega
    have := hR.2.2 j (by omega)
    exact ⟨this.1 c hc, ent20 this.2.1 hc⟩) (by
    rw [d1]
    have := ind_wo (r := r - 1) (q := q) (A := am (sT S) (sOf S) t) (by rw [show r - 1 + 1 = r by omega]; exact am_i) (by omega)
    exact ind_congr (fun i hi c _ => by rw [rows i hi]) this) (by
    rw [d1, show r - 1 + 1 = r by omega]
    intro i hi
    rw [hb i hi]
    exact srt_wo sw q i hi)
  rw [d1] at sa
  refine WP.mono sa ?_
  rintro _ _ ⟨e, K, f1, rfl⟩
  refine ⟨⟨_, e, kd_le _ _ _, ?_⟩, K, f1, RI_judge h (fun _ _ _ => rfl) (fun _ _ => rfl) f1, rfl⟩
  constructor
  · intro z
    have := kd_ind z
    rw [show r - 1 + 1 = r by omega] at this
    exact ind_congr (fun i hi c _ => by rw [hb i hi]) this
  · intro z
    refine kd_0 ?_
    rw [show r - 1 + 1 = r by omega]
    exact ind_congr (fun i hi c _ => by rw [hb i hi]) z
theorem bt_low : ∀ t, t < 20 → ∀ j, j < 32 → bt (((1 : Int32) <<< (nI t &&& 31)) - 1) j = decide (j < t) := by decide +kernel
theorem bt_ahead (T : Nat → Nat → Int) (of : Off) {N t : Nat} (ht : t < N) (hN : N ≤ 20) {v : Int32} (hv : ∀ k, k < 32 → bt v k = sb T of N k) : ∀ j, j < 32 → bt (v &&& (((1 : Int32) <<< (nI t &&& 31)) - 1)) j = sb T of t j := fun j hj => by
  rw [bt_and, hv j hj, bt_low t (by omega) j hj]
  unfold sb
  by_cases z : j < t
  · by_cases y : knd T of j = 0
    · rw [decide_eq_true (show j < N ∧ knd T of j = 0 from ⟨by omega, y⟩), decide_eq_true z, decide_eq_true (show j < t ∧ knd T of j = 0 from ⟨z, y⟩)]; rfl
    · rw [decide_eq_false (show ¬ (j < N ∧ knd T of j = 0) from fun k => y k.2), decide_eq_false (show ¬ (j < t ∧ knd T of j = 0) from fun k => y k.2)]; rfl
  · rw [decide_eq_false z, decide_eq_false (show ¬ (j < t ∧ knd T of j = 0) from fun k => z k.1), Bool.and_false]
theorem mmd_b (L : Nat) (I : Nat → Nat → Int32) (J : Nat → Nat → Int64) (w : Nat → Nat) (S : St) (h : RI I J S) (t : Nat) (ht : t < sTl S) (ah : Int32) (hah : ∀ j, j < 32 → bt ah j = sb (sT S) (sOf S) t j) (Q : Option Value → MH → Prop) (kk : ∀ (v : Int32) (K : Nat → Nat → Int64) (o5 : Option Value), (∀ c, c ≠ 220 → K c = J c) → RI I K S → (∀ j, j < 32 → (bt v j = true ↔ j < t ∧ mdo (sT S) (sOf S) t j)) → WP m_Mo_madeOf (106, [some (.ref 208), some (.int (nI t)), some (.int ah), some (.int v), some (.int (nI t)), o5], [], hp L I K w, 0, 0) Q) : WP m_Mo_madeOf (48, [some (.ref 208), some (.int (nI t)), some (.int ah), none, none, none], [], hp L I J w, 0, 0) Q := by
  have q2 := h.2.1.2.1
  iterate 6 (refine WP.st rfl ?_)
  refine WP.inv (fun i (s : Int32 × (Nat → Nat → Int64) × Option Value) => (56, [some (.ref 208), some (.int (nI t)), some (.int ah), some (.int s.1), some (.int (nI i)), s.2.2], [.int (nI t), .int (nI i)], hp L I s.2.1 w, 0, 0)) (fun i s => (∀ j, j < 32 → (bt s.1 j = true ↔ j < i ∧ mdo (sT S) (sOf S) t j)) ∧ (∀ c, c ≠ 220 → s.2.1 c = J c) ∧ RI I s.2.1 S) t (0, J, none) ⟨fun j _ => ?_, fun _ _ => rfl, h⟩ (fun i s hi hv k2 => ?_) (fun s hv => ?_)
  · dsimp only
    rw [bt_0]; exact ⟨fun z => absurd z (by decide), fun z => absurd z.1 (by omega)⟩
  · obtain ⟨v, K, o5⟩ := s
    obtain ⟨v1, v2, v3⟩ := hv
    dsimp only at v1 v2 v3 ⊢
    refine WP.icf rfl (nI_ge hi (by omega)) ?_
    iterate 5 (refine WP.st rfl ?_)
    rw [show ((ah >>> (nI i &&& 31)) &&& Int32.ofInt 1 : Int32) = _ from sh_and ah (k := i) (by omega), hah i (by omega)]
    cases hs : sb (sT S) (sOf S) t i with
    | false =>
      have k3 := k2 (v, K, o5) ⟨bits_same v1 (fun z => by
        obtain ⟨q, h1, h2, -⟩ := z
        have := nos_lt (sT S) (sOf S) t q h1
        have h4 : sb (sT S) (sOf S) t i = true := by
          have e23 := rc_sb23 (sT S) (sOf S) (m := t) (by omega)
          have := rc_lt (sb (sT S) (sOf S) t) 23 q (by rw [e23]; exact h1)
          rw [e23] at this
          rw [← h2]
          exact this.2
        rw [h4] at hs
        cases hs), v2, v3⟩
      rw [if_neg (by decide)]
      iterate 1 (refine WP.st rfl ?_)
      refine WP.ict rfl (show ¬ (0 : Int32) = Int32.ofInt 1 by decide) ?_
      rw [nI_succ i] at k3
      iterate 4 (refine WP.st rfl ?_)
      exact k3
    | true =>
      obtain ⟨q, h1, h2⟩ := nos_surj (sT S) (sOf S) (by omega) hs
      have qu : ∀ q', q' < rk (sT S) (sOf S) t → nos (sT S) (sOf S) t q' = i → q' = q := fun q' g1 g2 => by
        by_cases a : q' < q
        · have := nos_inc (sT S) (sOf S) t q' q a h1; omega
        · by_cases b : q < q'
          · have := nos_inc (sT S) (sOf S) t q q' b g1; omega
          · omega
      rw [if_pos rfl]
      iterate 1 (refine WP.st rfl ?_)
      refine WP.icf rfl (fun z => z rfl) ?_
      iterate 11 (refine WP.st rfl ?_)
      refine WP.call rfl rfl (sp_mmade L I K w S v3 t ht i q h1 h2 (ah &&& (((1 : Int32) <<< (nI i &&& 31)) ^^^ (-1))) (fun j hj => by rw [bt_and, bt_not _ (by omega), bt_sh (by omega) (by omega), hah j (by omega), decide_not])) ?_
      rintro _ _ ⟨⟨x, rfl, x2, x3⟩, K2, f1, f2, rfl⟩
      by_cases e : x = 0
      · have k3 := k2 (_, K2, some (.int (ah &&& (((1 : Int32) <<< (nI i &&& 31)) ^^^ (-1))))) ⟨bits_more (by omega) v1 ⟨q, h1, h2, x3.mp e⟩, fun c hc => (f1 c hc).trans (v2 c hc), f2⟩
        refine WP.iff rfl (show ¬ ¬ nI x = 0 by rw [e]; exact fun y => y rfl) ?_
        rw [nI_succ i] at k3
        iterate 11 (refine WP.st rfl ?_)
        exact k3
      · have k3 := k2 (v, K2, some (.int (ah &&& (((1 : Int32) <<< (nI i &&& 31)) ^^^ (-1))))) ⟨bits_same v1 (fun z => by
          obtain ⟨q', g1, g2, g3⟩ := z
          rw [qu q' g1 g2] at g3
          exact e (x3.mpr g3)), fun c hc => (f1 c hc).trans (v2 c hc), f2⟩
        refine WP.ift rfl (show ¬ nI x = 0 from nI_ne0 (by omega) (by omega)) ?_
        rw [nI_succ i] at k3
        iterate 6 (refine WP.st rfl ?_)
        exact k3
  · skip
    refine WP.ict rfl (nI_le (Nat.le_refl _) (by omega)) ?_
    exact kk s.1 s.2.1 s.2.2 hv.2.1 hv.2.2 hv.1
theorem m_madeOf (L : Nat) (I : Nat → Nat → Int32) (J : Nat → Nat → Int64) (w : Nat → Nat) (S : St) (h : RI I J S) (t : Int32) : MM L I J w m_Mo_madeOf [.int t] (.int (oMade S t).1) (oMade S t).2 := by
  have q1 := h.2.1.1
  have q2 := h.2.1.2.1
  unfold MM SP oMade
  iterate 2 (refine WP.st rfl ?_)
  refine WP.calle rfl rfl (ev_misTelling L I J w (sTl S) q2 q1 t) ?_
  refine WP.bn rfl (fun z => ?_) (fun z => ?_)
  · rw [if_pos z]
    obtain ⟨k, hk, rfl⟩ := rg_nI z
    rw [nI_toInt (by omega), Int.toNat_natCast]
    iterate 1 (refine WP.st rfl ?_)
    refine WP.call rfl rfl (sp_mj L I J w S h) ?_
    rintro _ _ ⟨rfl, I1, J1, f1, f2, f3, rfl⟩
    have kl := knd_le (sT S) (sOf S) k
    iterate 3 (refine WP.st rfl ?_)
    refine WP.iald (k := k) rfl (rfl) (Or.inl rfl) (show k < 20 by omega) (rfl) ?_
    rw [show hI (hp L I1 J1 w) 215 k = nI (knd (sT S) (sOf S) k) from f3.2 k hk]
    by_cases e0 : knd (sT S) (sOf S) k = 0
    · rw [if_neg (by omega)]
      refine WP.ift rfl (show nI (knd (sT S) (sOf S) k) = 0 by rw [e0]; rfl) ?_
      iterate 1 (refine WP.st rfl ?_)
      exact WP.ret rfl ⟨rfl, I1, J1, f1, f2, rfl⟩
    · skip
      refine WP.iff rfl (nI_ne0 (by omega) (by omega)) ?_
      iterate 3 (refine WP.st rfl ?_)
      refine WP.iald (k := k) rfl (rfl) (Or.inl rfl) (show k < 20 by omega) (rfl) ?_
      rw [show hI (hp L I1 J1 w) 215 k = nI (knd (sT S) (sOf S) k) from f3.2 k hk]
      iterate 1 (refine WP.st rfl ?_)
      by_cases e3 : knd (sT S) (sOf S) k = 3
      · rw [if_neg (by omega)]
        refine WP.icf rfl (show ¬ ¬ nI (knd (sT S) (sOf S) k) = nI 3 by rw [e3]; exact fun y => y rfl) ?_
        iterate 1 (refine WP.st rfl ?_)
        exact WP.ret rfl ⟨rfl, I1, J1, f1, f2, rfl⟩
      · rw [if_pos (by omega)]
        refine WP.ict rfl (show ¬ nI (knd (sT S) (sOf S) k) = nI 3 from fun y => e3 ((nI_eq (by omega) (by omega)).mp y)) ?_
        iterate 9 (refine WP.st rfl ?_)
        refine mmd_b L I1 J1 w S f2 k hk _ (bt_ahead (sT S) (sOf S) hk q2 f3.1) _ (fun v K o5 g1 g2 g3 => ?_)
        iterate 1 (refine WP.st rfl ?_)
        refine WP.ret rfl ⟨congrArg (fun z => some (Value.int z)) (ofB_eq (fun j hj => (g3 j hj).trans ⟨fun y => y.2, fun y => ⟨?_, y⟩⟩)).symm, I1, K, fun c hc => ⟨(f1 c hc).1, (g1 c (by omega)).trans (f1 c hc).2⟩, g2, rfl⟩
        obtain ⟨q, h1, h2, -⟩ := y
        have := nos_lt (sT S) (sOf S) k q h1
        omega
  · rw [if_neg z]
    iterate 1 (refine WP.st rfl ?_)
    exact WP.ret rfl ⟨rfl, I, J, FR.refl _ _ _ _, h, rfl⟩
