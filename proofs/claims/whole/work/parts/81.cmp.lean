/-! the reference: compare, less, limbs -/
def cmI (V W : Nat) : Int32 := if V < W then -1 else if W < V then 1 else 0
theorem dg_cmp {V W q : Nat} (he : V / 1073741824 ^ (q + 1) = W / 1073741824 ^ (q + 1)) : (dg V q < dg W q → V < W) ∧ (dg V q = dg W q → V / 1073741824 ^ q = W / 1073741824 ^ q) := by
  have d1 := dg_step V q
  have d2 := dg_step W q
  constructor
  · intro lt
    apply Classical.byContradiction
    intro hn
    have : W / 1073741824 ^ q ≤ V / 1073741824 ^ q := Nat.div_le_div_right (by omega)
    omega
  · intro e
    rw [d1, d2, he, e]
set_option maxHeartbeats 4000000 in
set_option maxRecDepth 20000 in
theorem ev_zcompare (L : Nat) (I : Nat → Nat → Int32) (J : Nat → Nat → Int64) (w : Nat → Nat) (a b V W : Nat) (ha : a < 8) (hb : b < 8) (hV : zv J a V) (hW : zv J b W) (lV : V < 1073741824 ^ 6) (lW : W < 1073741824 ^ 6) : EV m_Mo_compare [.ref 208, .int (nI a), .int (nI b)] (hp L I J w) (some (.int (cmI V W))) (hp L I J w) := by
  obtain ⟨r, h', e, q⟩ : SP m_Mo_compare [.ref 208, .int (nI a), .int (nI b)] (hp L I J w) (fun r h' => r = some (.int (cmI V W)) ∧ h' = hp L I J w) := by
    unfold SP
    iterate 5 (refine WP.st rfl ?_)
    -- once it differs
    have fin : ∀ (c : Int32) (q : Nat) (o : Option Value), c ≠ 0 → cmI V W = c → q < 6 → WP m_Mo_compare (7, [some (.ref 208), some (.int (nI a)), some (.int (nI b)), some (.int c), some (.int (nI q - 1)), o, none], [.int (nI q - 1)], hp L I J w, 0, 0) (fun r h' => r = some (.int (cmI V W)) ∧ h' = hp L I J w) := by
      intro c q o hc he hq
      by_cases e0 : q = 0
      · subst e0
        refine WP.ift rfl (show nI 0 - 1 < 0 by decide) ?_
        iterate 1 (refine WP.st rfl ?_)
        rw [he]
        exact WP.ret rfl ⟨rfl, rfl⟩
      · obtain ⟨m, rfl⟩ : ∃ m, q = m + 1 := ⟨q - 1, by omega⟩
        rw [nI_m1]
        refine WP.iff rfl (nI_pos (by omega)) ?_
        iterate 1 (refine WP.st rfl ?_)
        refine WP.ift rfl (hc) ?_
        iterate 1 (refine WP.st rfl ?_)
        rw [he]
        exact WP.ret rfl ⟨rfl, rfl⟩
    refine WP.down (fun q (o : Option Value) => (7, [some (.ref 208), some (.int (nI a)), some (.int (nI b)), some (.int 0), some (.int (nI q - 1)), o, none], [.int (nI q - 1)], hp L I J w, 0, 0)) (fun q o => V / 1073741824 ^ q = W / 1073741824 ^ q) 6 none (by rw [Nat.div_eq_of_lt lV, Nat.div_eq_of_lt lW]) (fun q o hq hv kk => ?_) (fun o hv => ?_)
    · have dl1 := dg_lt V q
      have dl2 := dg_lt W q
      have dc := dg_cmp hv
      have dc2 := dg_cmp hv.symm
      rw [nI_m1]
      refine WP.iff rfl (nI_pos (by omega)) ?_
      iterate 1 (refine WP.st rfl ?_)
      refine WP.iff rfl (fun z => z rfl) ?_
      iterate 7 (refine WP.st rfl ?_)
      refine WP.lald (k := 6 * a + q) rfl (ix6 a q) (Or.inl rfl) (show 6 * a + q < 48 by omega) (rfl) ?_
      rw [show hJ (hp L I J w) 227 (6 * a + q) = zJ (dg V q) from hV q hq]
      iterate 7 (refine WP.st rfl ?_)
      refine WP.lald (k := 6 * b + q) rfl (ix6 b q) (Or.inl rfl) (show 6 * b + q < 48 by omega) (rfl) ?_
      rw [show hJ (hp L I J w) 227 (6 * b + q) = zJ (dg W q) from hW q hq]
      iterate 1 (refine WP.st rfl ?_)
      rw [zJ_sub]
      iterate 4 (refine WP.st rfl ?_)
      by_cases g1 : dg W q < dg V q
      · have := dc2.1 g1
        have ec : cmI V W = 1 := by unfold cmI; rw [if_neg (by omega), if_pos this]
        refine WP.iff rfl (fun z => by have := (zJ_le (a := (dg V q : Int) - dg W q) (b := 0) (by omega) (by omega) (by omega) (by omega)).mp (lc_le.mp z); omega) ?_
        iterate 6 (refine WP.st rfl ?_)
        have f := fin 1 q (some (.long (zJ ((dg V q : Int) - dg W q)))) (by decide) ec hq
        rw [nI_sub1] at f
        exact f
      · skip
        refine WP.ift rfl (lc_le.mpr (show zJ ((dg V q : Int) - dg W q) ≤ zJ 0 from (zJ_le (by omega) (by omega) (by omega) (by omega)).mpr (by omega))) ?_
        iterate 3 (refine WP.st rfl ?_)
        by_cases g2 : dg V q < dg W q
        · have := dc.1 g2
          have ec : cmI V W = -1 := by unfold cmI; rw [if_pos this]
          refine WP.iff rfl (fun z => by have := (zJ_le (a := 0) (b := (dg V q : Int) - dg W q) (by omega) (by omega) (by omega) (by omega)).mp (lc_ge.mp z); omega) ?_
          iterate 6 (refine WP.st rfl ?_)
          have f := fin (-1) q (some (.long (zJ ((dg V q : Int) - dg W q)))) (by decide) ec hq
          rw [nI_sub1] at f
          exact f
        · skip
          refine WP.ift rfl (lc_ge.mpr (show zJ 0 ≤ zJ ((dg V q : Int) - dg W q) from (zJ_le (by omega) (by omega) (by omega) (by omega)).mpr (by omega))) ?_
          iterate 5 (refine WP.st rfl ?_)
          have k3 := kk (some (.long (zJ ((dg V q : Int) - dg W q)))) (dc.2 (by omega))
          rw [nI_sub1] at k3
          exact k3
    · have e : V = W := by simpa using hv
      refine WP.ift rfl (show nI 0 - 1 < 0 by decide) ?_
      iterate 1 (refine WP.st rfl ?_)
      refine WP.ret rfl ⟨?_, rfl⟩
      unfold cmI
      rw [if_neg (by omega), if_neg (by omega)]
  obtain ⟨rfl, rfl⟩ := q
  exact e
set_option maxHeartbeats 4000000 in
set_option maxRecDepth 20000 in
theorem ev_zless (L : Nat) (I : Nat → Nat → Int32) (J : Nat → Nat → Int64) (w : Nat → Nat) (a b V W : Nat) (ha : a < 8) (hb : b < 8) (hab : a ≠ b) (hV : zv J a V) (hW : zv J b W) (hWV : W ≤ V) : EV m_Mo_less [.ref 208, .int (nI a), .int (nI b)] (hp L I J w) none (hp L I (zs J a (V - W)) w) := by
  obtain ⟨r, h', e, q⟩ : SP m_Mo_less [.ref 208, .int (nI a), .int (nI b)] (hp L I J w) (fun r h' => r = none ∧ h' = hp L I (zs J a (V - W)) w) := by
    unfold SP
    iterate 6 (refine WP.st rfl ?_)
    have key := WP.inv (mid := m_Mo_less) (Q := fun r h' => r = none ∧ h' = hp L I (zs J a (V - W)) w) (fun i (σ : (Nat → Nat → Int64) × Option Value) => (9, [some (.ref 208), some (.int (nI a)), some (.int (nI b)), some (.long (zJ (- bw_ V W i))), none, some (.int (nI i)), σ.2, none], [.int (nI 6), .int (nI i)], hp L I σ.1 w, 0, 0)) (fun i σ => zi J σ.1 a (V - W) i) 6 (J, none) (zi_0 J a _) (fun i σ hi hv kk => ?_) (fun σ hv => ?_)
    · rw [show - bw_ V W 0 = 0 from by unfold bw_; simp [Nat.mod_one]] at key
      exact key
    · obtain ⟨K, o⟩ := σ
      dsimp only at hv ⊢
      have dl1 := dg_lt V i
      have dl2 := dg_lt W i
      have b1 := bw_lt V W i
      have b2 := bw_dig V W i hWV
      have b3 := bw_next V W i
      refine WP.icf rfl (nI_ge hi (by omega)) ?_
      iterate 7 (refine WP.st rfl ?_)
      refine WP.lald (k := 6 * a + i) rfl (ix6 a i) (Or.inl rfl) (show 6 * a + i < 48 by omega) (rfl) ?_
      rw [show hJ (hp L I K w) 227 (6 * a + i) = zJ (dg V i) from (hv.2.1 _ (by omega)).trans (hV i hi)]
      iterate 7 (refine WP.st rfl ?_)
      refine WP.lald (k := 6 * b + i) rfl (ix6 b i) (Or.inl rfl) (show 6 * b + i < 48 by omega) (rfl) ?_
      rw [show hJ (hp L I K w) 227 (6 * b + i) = zJ (dg W i) from (hv.2.1 _ (by omega)).trans (hW i hi)]
      iterate 1 (refine WP.st rfl ?_)
      rw [zJ_sub]
      iterate 2 (refine WP.st rfl ?_)
      rw [zJ_sub]
      iterate 4 (refine WP.st rfl ?_)
      have kk2 := kk (mm_up K 227 (6 * a + i) (zJ (dg (V - W) i)), some (.long (zJ ((dg V i : Int) - dg W i - - bw_ V W i)))) (zi_s hv)
      rw [nI_succ i] at kk2
      by_cases g : (dg V i : Int) - dg W i - - bw_ V W i < 0
      · have e1 : bw_ V W (i + 1) = -1 := by rw [← b3]; omega
        have e2 : (dg V i : Int) - dg W i - - bw_ V W i + 1 * 1073741824 = (dg (V - W) i : Int) := by rw [← b2]; omega
        refine WP.iff rfl (fun z => by have := (zJ_le (a := 0) (b := (dg V i : Int) - dg W i - - bw_ V W i) (by omega) (by omega) (by omega) (by omega)).mp (lc_ge.mp z); omega) ?_
        iterate 14 (refine WP.st rfl ?_)
        rw [show (Int64.ofNat ((1 : Fin 2) : Nat) * 1073741824 : Int64) = zJ (1 * 1073741824) from by decide]
        iterate 1 (refine WP.st rfl ?_)
        rw [zJ_add, e2]
        refine WP.last (k := 6 * a + i) rfl (ix6 a i) (rfl) (show 6 * a + i < 48 by omega) (rfl) ?_
        iterate 4 (refine WP.st rfl ?_)
        rw [e1] at kk2
        exact kk2
      · have e1 : bw_ V W (i + 1) = 0 := by rw [← b3]; omega
        have e2 : (dg V i : Int) - dg W i - - bw_ V W i + 0 = (dg (V - W) i : Int) := by rw [← b2]; omega
        refine WP.ift rfl (lc_ge.mpr (show zJ 0 ≤ zJ ((dg V i : Int) - dg W i - - bw_ V W i) from (zJ_le (by omega) (by omega) (by omega) (by omega)).mpr (by omega))) ?_
        iterate 13 (refine WP.st rfl ?_)
        rw [show (Int64.ofNat ((0 : Fin 2) : Nat) * 1073741824 : Int64) = zJ 0 from by decide]
        iterate 1 (refine WP.st rfl ?_)
        rw [zJ_add, e2]
        refine WP.last (k := 6 * a + i) rfl (ix6 a i) (rfl) (show 6 * a + i < 48 by omega) (rfl) ?_
        iterate 4 (refine WP.st rfl ?_)
        rw [e1] at kk2
        exact kk2
    · obtain ⟨K, o⟩ := σ
      dsimp only at hv ⊢
      refine WP.ict rfl (nI_le (Nat.le_refl _) (by omega)) ?_
      rw [zi_6 hv]
      exact WP.ret rfl ⟨rfl, rfl⟩
  obtain ⟨rfl, rfl⟩ := q
  exact e
theorem ev_limbs (L : Nat) (I : Nat → Nat → Int32) (J : Nat → Nat → Int64) (w : Nat → Nat) (a V : Nat) (ha : a < 8) (hV : zv J a V) : EV m_Mo_limbs [.ref 208, .int (nI a)] (hp L I J w) (some (.int (nI (us V 6)))) (hp L I J w) := by
  obtain ⟨r, h', e, q⟩ : SP m_Mo_limbs [.ref 208, .int (nI a)] (hp L I J w) (fun r h' => r = some (.int (nI (us V 6))) ∧ h' = hp L I J w) := by
    unfold SP
    iterate 3 (refine WP.st rfl ?_)
    refine WP.down (fun q (_ : Unit) => (4, [some (.ref 208), some (.int (nI a)), some (.int (nI q))], [.int (nI q)], hp L I J w, 0, 0)) (fun q _ => us V 6 = us V q) 6 () rfl (fun q _ hq hv kk => ?_) (fun _ hv => ?_)
    · have dl := dg_lt V q
      have us_s : us V (q + 1) = if dg V q = 0 then us V q else q + 1 := rfl
      refine WP.iff rfl (nI_nle (by omega) (by omega)) ?_
      iterate 9 (refine WP.st rfl ?_)
      refine WP.lald (k := 6 * a + q) rfl (by rw [ix6, show 6 * a + (q + 1) = 6 * a + q + 1 by omega]; exact nI_m1 _) (Or.inl rfl) (show 6 * a + q < 48 by omega) (rfl) ?_
      rw [show hJ (hp L I J w) 227 (6 * a + q) = zJ (dg V q) from hV q hq]
      iterate 2 (refine WP.st rfl ?_)
      by_cases z : dg V q = 0
      · rw [if_pos z] at us_s
        refine WP.iff rfl (fun y => lc_ne.mp y (by rw [z]; rfl)) ?_
        iterate 3 (refine WP.st rfl ?_)
        have kk2 := kk () (hv.trans us_s)
        rw [show (nI (q + 1) + Int32.ofInt (-1) : Int32) = nI q from pk_m1' q]
        exact kk2
      · rw [if_neg z] at us_s
        refine WP.ift rfl (lc_ne.mpr (fun y => z (by have := (zJ_eq (a := (dg V q : Int)) (b := 0) (by omega) (by omega) (by decide) (by decide)).mp y; omega))) ?_
        iterate 1 (refine WP.st rfl ?_)
        rw [hv, us_s]
        exact WP.ret rfl ⟨rfl, rfl⟩
    · skip
      refine WP.ift rfl (show nI 0 ≤ 0 by decide) ?_
      iterate 1 (refine WP.st rfl ?_)
      rw [hv]
      exact WP.ret rfl ⟨rfl, rfl⟩
  obtain ⟨rfl, rfl⟩ := q
  exact e
