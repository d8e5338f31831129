def stO (S : St) (of : Off) : St := (S.1, (sTl S, sT S, of, sTn S, sNm S, sFc S), S.2.2)
theorem CI_row {I I' : Nat → Nat → Int32} {J : Nat → Nat → Int64} {w : Nat → Nat} {S : St} (h : CI I J w S) {s N t n : Nat} {row fc : Nat → Int} {nm : Nat → Nat} (ht : (t = 20 ∧ s = 5) ∨ (t < 20 ∧ s = sumP t)) (h2 : ∀ k, k ≠ 3 → I' 2 k = I 2 k) (h23 : I' 2 3 = nI N) (hN : N ≤ 20) (hN1 : sTl S ≤ N) (hN2 : ∀ j, j < N → j = t ∨ j < sTl S) (hoff : ∀ c, c ≠ 2 → c ≠ 11 → c ≠ s → c ≠ s + 1 → c ≠ s + 2 → I' c = I c) (h12 : I' s 2 = I s 2) (hrow : tT I' s n nm fc row) (hj : JI I' J (upT (sT S) t row) (sOf S) N) : CI I' J w (stT S N t row n nm fc) := by
  obtain ⟨a1, ⟨b1, b2, b3, b4, b5, b6, b7⟩, a3, a4, a5⟩ := h
  have e : ∀ t, sumP t = 148 + 3 * t := fun _ => rfl
  have hs := e t
  have o : ∀ j, j < 20 → j ≠ t → I' (sumP j) = I (sumP j) ∧ I' (sumP j + 1) = I (sumP j + 1) ∧ I' (sumP j + 2) = I (sumP j + 2) := fun j hj hjt => by
    have := e j
    exact ⟨hoff _ (by omega) (by omega) (by omega) (by omega) (by omega), hoff _ (by omega) (by omega) (by omega) (by omega) (by omega), hoff _ (by omega) (by omega) (by omega) (by omega) (by omega)⟩
  refine ⟨⟨(h2 1 (by decide)).trans a1.1, a1.2.1, ?_⟩, ⟨h23, hN, fun j hj => ?_, fun j hj => ?_, fun j hj => b5 j (by show sTl S ≤ j; have : N ≤ j := hj; omega), hj, ?_⟩, a3, C4_ext (S := S) a4 (hoff 134 (by omega) (by omega) (by omega) (by omega) (by omega)) rfl rfl, CF_ext a5 (fun c g1 g2 _ => hoff c (by omega) (by omega) (by omega) (by omega) (by omega))⟩
  · unfold RO
    rw [hoff 3 (by omega) (by omega) (by omega) (by omega) (by omega)]
    exact a1.2.2
  · show tT I' (sumP j) (upT (sTn S) t n j) (upT (sNm S) t nm j) (upT (sFc S) t fc j) (upT (sT S) t row j)
    have hj' : j < N := hj
    by_cases z : j = t
    · subst z
      rw [upT_at, upT_at, upT_at, upT_at]
      have : s = sumP j := by omega
      rw [← this]; exact hrow
    · rw [upT_ne _ _ z, upT_ne _ _ z, upT_ne _ _ z, upT_ne _ _ z]
      have g := o j (by omega) z
      exact tT_ext (b3 j (by have := hN2 j hj'; omega)) g.1 g.2.1 g.2.2
  · show I' (sumP j) 2 = (if sOf S j = true then 1 else 0)
    by_cases z : j = t
    · have : s = sumP j := by rw [z]; omega
      rw [← this, h12, this]; exact b4 j hj
    · rw [(o j hj z).1]; exact b4 j hj
  · show tT I' 5 (upT (sTn S) t n 20) (upT (sNm S) t nm 20) (upT (sFc S) t fc 20) (upT (sT S) t row 20)
    by_cases z : 20 = t
    · rw [← z, upT_at, upT_at, upT_at, upT_at]
      have : s = 5 := by omega
      rw [← this]; exact hrow
    · rw [upT_ne _ _ z, upT_ne _ _ z, upT_ne _ _ z, upT_ne _ _ z]
      exact tT_ext b7 (hoff 5 (by omega) (by omega) (by omega) (by omega) (by omega)) (hoff 6 (by omega) (by omega) (by omega) (by omega) (by omega)) (hoff 7 (by omega) (by omega) (by omega) (by omega) (by omega))
theorem tT_z {I : Nat → Nat → Int32} {s : Nat} {x : Int32} (z : wi x 2000) (nm : Nat → Nat) (fc : Nat → Int) (h0 : I s 0 = x) (h1 : I s 1 = 0) : tT I s 0 nm fc (zrow x) := by
  refine ⟨?_, ?_, by omega, h1, fun k hk => absurd hk (Nat.not_lt_zero k), fun j k _ hk => absurd hk (Nat.not_lt_zero k), fun c hc _ => if_neg (by omega)⟩
  · rw [h0]; exact zI_of x
  · exact z
def oTelling (S : St) (x : Int32) : Int32 × St := if wi x 2000 then (if sTl S = 20 then (-4, S) else (nI (sTl S), stT S (sTl S + 1) (sTl S) (zrow x) 0 (sNm S (sTl S)) (sFc S (sTl S)))) else (-2, S)
def oQuestion (S : St) (x : Int32) : Int32 × St := if wi x 2000 then (1, stT S (sTl S) 20 (zrow x) 0 (sNm S 20) (sFc S 20)) else (-2, S)
theorem c_question (L : Nat) (I : Nat → Nat → Int32) (J : Nat → Nat → Int64) (w : Nat → Nat) (S : St) (h : CI I J w S) (x : Int32) : CM L I J w m_DT_question [.int x] (.int (oQuestion S x).1) (oQuestion S x).2 := by
  unfold CM SP oQuestion
  iterate 1 (refine WP.st rfl ?_)
  refine WP.calle rfl rfl (ev_total (hp L I J w) x) ?_
  refine WP.bn rfl (fun z => ?_) (fun z => ?_)
  · rw [if_pos z]
    iterate 3 (refine WP.st rfl ?_)
    refine WP.calle rfl rfl (ev_restart L I J w 5 isSum_asked x) ?_
    iterate 1 (refine WP.st rfl ?_)
    refine WP.ret rfl ⟨rfl, mm_up (mm_up I 5 0 x) 5 1 0, J, w, fun c hc => ⟨(up_ne _ _ (by omega)).trans (up_ne I _ (by omega)), rfl⟩, ?_, rfl⟩
    have o : ∀ c, c ≠ 5 → mm_up (mm_up I 5 0 x) 5 1 0 c = I c := fun c hc => (up_ne _ _ hc).trans (up_ne I _ hc)
    refine CI_row h (Or.inl ⟨rfl, rfl⟩) (fun k _ => by rw [o 2 (by decide)]) (by rw [o 2 (by decide)]; exact h.2.1.1) h.2.1.2.1 (Nat.le_refl _) (fun j hj => Or.inr hj) (fun c _ _ c3 _ _ => o c c3) (by rw [up_nk _ _ (by decide), up_nk I _ (by decide)]) (tT_z z _ _ (by rw [up_nk _ _ (by decide), mm_up_at]) (by rw [mm_up_at])) (JI_same h.2.1.2.2.2.2.2.1 (fun s hs => (upT_ne _ _ (by have := h.2.1.2.1; omega)).symm) (fun c g1 g2 => o c (by omega)))
  · rw [if_neg z]
    iterate 1 (refine WP.st rfl ?_)
    exact WP.ret rfl ⟨rfl, I, J, w, FR.refl _ _ _ _, h, rfl⟩
set_option maxHeartbeats 4000000 in
set_option maxRecDepth 20000 in
theorem c_telling (L : Nat) (I : Nat → Nat → Int32) (J : Nat → Nat → Int64) (w : Nat → Nat) (S : St) (h : CI I J w S) (x : Int32) : CM L I J w m_DT_telling [.int x] (.int (oTelling S x).1) (oTelling S x).2 := by
  have p1 := h.2.1.1
  have p2 := h.2.1.2.1
  unfold CM SP oTelling
  iterate 1 (refine WP.st rfl ?_)
  refine WP.calle rfl rfl (ev_total (hp L I J w) x) ?_
  refine WP.bn rfl (fun z => ?_) (fun z => ?_)
  · rw [if_pos z]
    iterate 3 (refine WP.st rfl ?_)
    by_cases e : sTl S = 20
    · rw [if_pos e]
      refine WP.icf rfl (show ¬ I 2 3 < nI 20 by rw [p1, e]; exact nI_nlt (Nat.le_refl _) (by omega)) ?_
      iterate 1 (refine WP.st rfl ?_)
      exact WP.ret rfl ⟨rfl, I, J, w, FR.refl _ _ _ _, h, rfl⟩
    · rw [if_neg e]
      refine WP.ict rfl (show I 2 3 < nI 20 by rw [p1]; exact nI_lt (by omega) (by omega)) ?_
      iterate 3 (refine WP.st rfl ?_)
      refine WP.get (v := .int (nI (sTl S))) rfl rfl (rfl) (congrArg Value.int p1) ?_
      refine WP.aald (k := sTl S) rfl (rfl) (Or.inl rfl) (show sTl S < 20 by omega) (rfl) (RR_sums w (sTl S) (by omega)) ?_
      iterate 1 (refine WP.st rfl ?_)
      refine WP.cve rfl rfl rfl rfl rfl ((isSum_all (sTl S) (by omega)).1) rfl rfl rfl (ev_restart L I J w (sumP (sTl S)) (isSum_all (sTl S) (by omega)) x) ?_
      have es : sumP (sTl S) = 148 + 3 * sTl S := rfl
      have o : ∀ c, c ≠ sumP (sTl S) → mm_up (mm_up I (sumP (sTl S)) 0 x) (sumP (sTl S)) 1 0 c = I c := fun c hc => (up_ne _ _ hc).trans (up_ne I _ hc)
      have p1' : mm_up (mm_up I (sumP (sTl S)) 0 x) (sumP (sTl S)) 1 0 2 3 = nI (sTl S) := by rw [o 2 (by omega)]; exact p1
      iterate 2 (refine WP.st rfl ?_)
      refine WP.get (v := .int (nI (sTl S))) rfl rfl (rfl) (congrArg Value.int p1') ?_
      iterate 3 (refine WP.st rfl ?_)
      have p1'' : mm_up (mm_up (mm_up I (sumP (sTl S)) 0 x) (sumP (sTl S)) 1 0) 2 3 (nI (sTl S) + 1) 2 3 = nI (sTl S + 1) := by rw [mm_up_at]; exact nI_1 _
      iterate 1 (refine WP.st rfl ?_)
      refine WP.get (v := .int (nI (sTl S + 1))) rfl rfl (rfl) (congrArg Value.int p1'') ?_
      iterate 2 (refine WP.st rfl ?_)
      have o2 : ∀ c, c ≠ 2 → c ≠ sumP (sTl S) → mm_up (mm_up (mm_up I (sumP (sTl S)) 0 x) (sumP (sTl S)) 1 0) 2 3 (nI (sTl S) + 1) c = I c := fun c c1 c2 => (up_ne _ _ c1).trans (o c c2)
      have o3 : ∀ k, mm_up (mm_up (mm_up I (sumP (sTl S)) 0 x) (sumP (sTl S)) 1 0) 2 3 (nI (sTl S) + 1) (sumP (sTl S)) k = mm_up (mm_up I (sumP (sTl S)) 0 x) (sumP (sTl S)) 1 0 (sumP (sTl S)) k := fun k => by rw [up_ne _ _ (by omega)]
      refine WP.ret rfl ⟨by rw [show (nI (sTl S + 1) - Int32.ofInt 1 : Int32) = nI (sTl S) from nI_m1 _], mm_up (mm_up (mm_up I (sumP (sTl S)) 0 x) (sumP (sTl S)) 1 0) 2 3 (nI (sTl S) + 1), J, w, fun c hc => ⟨o2 c (by omega) (by omega), rfl⟩, ?_, rfl⟩
      exact CI_row h (Or.inr ⟨by omega, rfl⟩) (fun k hk => by rw [up_nk _ _ hk, o 2 (by omega)]) p1'' (by omega) (by omega) (fun j hj => by omega) (fun c c1 _ c3 _ _ => o2 c c1 c3) (by rw [o3, up_nk _ _ (by decide), up_nk I _ (by decide)]) (tT_z z _ _ (by rw [o3, up_nk _ _ (by decide), mm_up_at]) (by rw [o3, mm_up_at])) (JI_more h.2.1.2.2.2.2.2.1 (fun s hs => (upT_ne _ _ (by omega)).symm) (fun c g1 g2 => o2 c (by omega) (by omega)))
  · rw [if_neg z]
    iterate 1 (refine WP.st rfl ?_)
    exact WP.ret rfl ⟨rfl, I, J, w, FR.refl _ _ _ _, h, rfl⟩
