def hasb (B : Nat) (ba bb : Nat → Nat) (a b : Nat) : Prop := ∃ k, k < B ∧ ((ba k = a ∧ bb k = b) ∨ (ba k = b ∧ bb k = a))
theorem pair_eq0 : ∀ p, p < 8 → ∀ q, q < 8 → ∀ a, a < 8 → ∀ b, b < 8 → (decide (p = q) || decide (a = b) || (decide (fm_pair (nI p) (nI q) = fm_pair (nI a) (nI b)) == decide ((p = a ∧ q = b) ∨ (p = b ∧ q = a)))) = true := by decide +kernel
theorem pair_eq (p : Nat) (hp : p < 8) (q : Nat) (hq : q < 8) (a : Nat) (ha : a < 8) (b : Nat) (hb : b < 8) (h1 : p ≠ q) (h2 : a ≠ b) : fm_pair (nI p) (nI q) = fm_pair (nI a) (nI b) ↔ (p = a ∧ q = b) ∨ (p = b ∧ q = a) := by
  have k := pair_eq0 p hp q hq a ha b hb
  rw [decide_eq_false h1, decide_eq_false h2, Bool.false_or, Bool.false_or, beq_iff_eq] at k
  exact decide_eq_decide.mp k
theorem nI_nneg {k : Nat} (hk : k < 2 ^ 31) : ¬ nI k < 0 := fun z => by
  have := (rg_test (nI k) (n := 0) (by omega)).1.mp z
  rw [nI_toInt hk] at this
  omega
noncomputable def oBar (S : St) (x y : Int32) : Int32 × St := if (rg x (sPt S) ∧ rg y (sPt S) ∧ x ≠ y) ∧ bI (hasb (sB S) (sBa S) (sBb S) x.toInt.toNat y.toInt.toNat) = 0 then (if sB S = 20 then (-4, S) else (nI (sB S), (S.1, S.2.1, S.2.2.1, (sB S + 1, upN (sBa S) (sB S) x.toInt.toNat, upN (sBb S) (sB S) y.toInt.toNat)))) else (-2, S)
theorem ev_chas (L : Nat) (I : Nat → Nat → Int32) (J : Nat → Nat → Int64) (w : Nat → Nat) (B : Nat) (ba bb : Nat → Nat) (h : CF I B ba bb) (a b : Nat) (ha : a < 8) (hb : b < 8) (hab : a ≠ b) : EV m_Fm_hasBar [.ref 141, .int (nI a), .int (nI b)] (hp L I J w) (some (.int (bI (hasb B ba bb a b)))) (hp L I J w) := by
  obtain ⟨h1, h2, h3, -⟩ := h
  refine ev_hasBar L I J w (nI a) (nI b) B h2 h1 _ (fun z => ?_) (fun z => ?_)
  · obtain ⟨i, hi, e⟩ := z
    obtain ⟨-, g2, -, g4, g5, -, g7⟩ := h3 i hi
    unfold fm_ends at e
    rw [g7] at e
    exact bI_t ⟨i, hi, (pair_eq _ g2 _ g4 _ ha _ hb g5 hab).mp e⟩
  · refine bI_f ?_
    rintro ⟨i, hi, e⟩
    obtain ⟨-, g2, -, g4, g5, -, g7⟩ := h3 i hi
    refine z i hi ?_
    unfold fm_ends
    rw [g7]
    exact (pair_eq _ g2 _ g4 _ ha _ hb g5 hab).mpr e
theorem CI_frame {I I' : Nat → Nat → Int32} {J : Nat → Nat → Int64} {w : Nat → Nat} {S : St} (h : CI I J w S) {B : Nat} {ba bb : Nat → Nat} (h1 : ∀ c, c < 141 ∨ 147 < c → I' c = I c) (h2 : CF I' B ba bb) : CI I' J w (S.1, S.2.1, S.2.2.1, (B, ba, bb)) := by
  obtain ⟨a1, a2, a3, a4, a5⟩ := h
  have b1 : C1 I' S := C1_ext a1 (h1 2 (by omega)) (h1 3 (by omega))
  have b2 : C2 I' J S := C2_ext a2 (by rw [h1 2 (by omega)]) (fun c g1 g2 => ⟨h1 c (by omega), rfl⟩) (fun c hc => h1 c (by omega))
  have b4 : C4 I' J S := C4_ext a4 (h1 134 (by omega)) rfl rfl
  exact ⟨b1, b2, a3, b4, h2⟩
theorem rg2_nI {x : Int32} {n : Nat} (h : rg x n) : x = nI x.toInt.toNat ∧ x.toInt.toNat < n := by
  obtain ⟨k, hk, e⟩ := rg_nI h
  have b := x_bd x
  have : x.toInt.toNat < n := by omega
  refine ⟨?_, this⟩
  rw [nI_zI, Int.toNat_of_nonneg h.1]
  exact zI_of x
theorem c_bar (L : Nat) (I : Nat → Nat → Int32) (J : Nat → Nat → Int64) (w : Nat → Nat) (S : St) (h : CI I J w S) (x y : Int32) : CM L I J w m_DT_bar [.int x, .int y] (.int (oBar S x y).1) (oBar S x y).2 := by
  obtain ⟨p1, p2, p3⟩ := h.1
  have cf := h.2.2.2.2
  have f1 := cf.1
  have f2 := cf.2.1
  have bad : ¬ ((rg x (sPt S) ∧ rg y (sPt S) ∧ x ≠ y) ∧ bI (hasb (sB S) (sBa S) (sBb S) x.toInt.toNat y.toInt.toNat) = 0) → WP m_DT_bar (21, [some (.ref 2), some (.int x), some (.int y)], [], hp L I J w, 0, 0) (fun v h => v = some (.int (oBar S x y).1) ∧ ∃ (I' : Nat → Nat → Int32) (J' : Nat → Nat → Int64) (w' : Nat → Nat), FR 1 207 I J I' J' ∧ CI I' J' w' (oBar S x y).2 ∧ h = hp L I' J' w') := fun z => by
    unfold oBar
    rw [if_neg z]
    iterate 1 (refine WP.st rfl ?_)
    exact WP.ret rfl ⟨rfl, I, J, w, FR.refl _ _ _ _, h, rfl⟩
  unfold CM SP
  iterate 3 (refine WP.st rfl ?_)
  refine WP.calle rfl rfl (ev_isPair L I J w (sPt S) p2 p1 x y) ?_
  refine WP.bz rfl (fun z => bad (fun k => z k.1)) (fun z => ?_)
  obtain ⟨ex, hx⟩ := rg2_nI z.1
  obtain ⟨ey, hy⟩ := rg2_nI z.2.1
  have hxy : x.toInt.toNat ≠ y.toInt.toNat := fun e => z.2.2 (by rw [ex, ey, e])
  iterate 4 (refine WP.st rfl ?_)
  have evh : EV m_Fm_hasBar [.ref 141, .int x, .int y] (hp L I J w) (some (.int (bI (hasb (sB S) (sBa S) (sBb S) x.toInt.toNat y.toInt.toNat)))) (hp L I J w) := by
    have e := ev_chas L I J w (sB S) (sBa S) (sBb S) cf x.toInt.toNat y.toInt.toNat (by omega) (by omega) hxy
    rw [← ex, ← ey] at e
    exact e
  refine WP.calle rfl rfl (evh) ?_
  refine WP.i0 rfl (fun z2 => ?_) (fun z2 => bad (fun k => z2 k.2))
  unfold oBar
  rw [if_pos ⟨z, z2⟩]
  iterate 2 (refine WP.st rfl ?_)
  refine WP.get (v := .int (nI (sB S))) rfl rfl (rfl) (congrArg Value.int f1) ?_
  iterate 1 (refine WP.st rfl ?_)
  by_cases e : sB S = 20
  · rw [if_pos e]
    refine WP.icf rfl (show ¬ nI (sB S) < nI 20 by rw [e]; exact nI_nlt (Nat.le_refl _) (by omega)) ?_
    iterate 1 (refine WP.st rfl ?_)
    exact WP.ret rfl ⟨rfl, I, J, w, FR.refl _ _ _ _, h, rfl⟩
  · rw [if_neg e]
    refine WP.ict rfl (show nI (sB S) < nI 20 from nI_lt (by omega) (by omega)) ?_
    iterate 4 (refine WP.st rfl ?_)
    have sa := sp_cadd L I J w (sB S) (sBa S) (sBb S) cf (by omega) x.toInt.toNat y.toInt.toNat (by omega) (by omega) hxy
    rw [← ex, ← ey] at sa
    refine WP.call rfl rfl (sa) ?_
    rintro _ _ ⟨rfl, I1, g1, g2, rfl⟩
    iterate 2 (refine WP.st rfl ?_)
    refine WP.get (v := .int (nI (sB S + 1))) rfl rfl (rfl) (congrArg Value.int g2.1) ?_
    iterate 2 (refine WP.st rfl ?_)
    exact WP.ret rfl ⟨by rw [show (nI (sB S + 1) - Int32.ofInt 1 : Int32) = nI (sB S) from nI_m1 _], I1, J, w, fun c hc => ⟨g1 c (by omega), rfl⟩, CI_frame h g1 g2, rfl⟩
/-! the reference -/
theorem RI_br {I I' : Nat → Nat → Int32} {J : Nat → Nat → Int64} {S : St} (h : RI I J S) {B : Nat} {ba bb : Nat → Nat} (h1 : ∀ c, c ≠ 208 → c ≠ 216 → c ≠ 217 → c ≠ 218 → I' c = I c) (h2 : ∀ k, k ≠ 10 → k ≠ 14 → I' 208 k = I 208 k) (h5 : R5 I' (S.1, S.2.1, S.2.2.1, (B, ba, bb))) : RI I' J (S.1, S.2.1, S.2.2.1, (B, ba, bb)) := by
  obtain ⟨a1, a2, a3, a4, -⟩ := h
  have b1 : R1 I' S := by
    unfold R1 RR8 at *
    rw [h2 0 (by decide) (by decide), h1 209 (by decide) (by decide) (by decide) (by decide)]
    exact a1
  have b2 : R2 I' S := by
    unfold R2 rR at *
    rw [h2 2 (by decide) (by decide), h1 210 (by decide) (by decide) (by decide) (by decide), h1 211 (by decide) (by decide) (by decide) (by decide), h1 212 (by decide) (by decide) (by decide) (by decide), h1 213 (by decide) (by decide) (by decide) (by decide), h1 214 (by decide) (by decide) (by decide) (by decide)]
    exact a2
  have b3 : R3 I' J := by
    unfold R3 PM at *
    rw [h1 219 (by decide) (by decide) (by decide) (by decide)]
    exact a3
  have b4 : R4 I' J S := by
    unfold R4 at *
    rw [h2 25 (by decide) (by decide)]
    exact a4
  exact ⟨b1, b2, b3, b4, h5⟩
theorem hasb_congr {B : Nat} {ba bb ba' bb' : Nat → Nat} {a b : Nat} (h : ∀ k, k < B → ba k = ba' k ∧ bb k = bb' k) : hasb B ba bb a b ↔ hasb B ba' bb' a b := by
  constructor
  · rintro ⟨k, hk, e⟩
    rw [(h k hk).1, (h k hk).2] at e
    exact ⟨k, hk, e⟩
  · rintro ⟨k, hk, e⟩
    rw [← (h k hk).1, ← (h k hk).2] at e
    exact ⟨k, hk, e⟩
theorem mba_a (L : Nat) (I : Nat → Nat → Int32) (J : Nat → Nat → Int64) (w : Nat → Nat) (P : Nat) (p2 : P ≤ 8) (p1 : I 208 0 = nI P) (x y : Int32) (Q : Option Value → MH → Prop) (k0 : ¬ (rg x P ∧ rg y P ∧ x ≠ y) → WP m_Mo_bar (30, [some (.ref 208), some (.int x), some (.int y)], [], hp L I J w, 0, 0) Q) (k1 : (rg x P ∧ rg y P ∧ x ≠ y) → WP m_Mo_bar (21, [some (.ref 208), some (.int x), some (.int y)], [], hp L I J w, 0, 0) Q) : WP m_Mo_bar (0, [some (.ref 208), some (.int x), some (.int y)], [], hp L I J w, 0, 0) Q := by
  iterate 2 (refine WP.st rfl ?_)
  refine WP.calle rfl rfl (ev_misPoint L I J w P p2 p1 x) ?_
  refine WP.bz rfl (fun z => k0 (fun k => z k.1)) (fun z => ?_)
  iterate 2 (refine WP.st rfl ?_)
  refine WP.calle rfl rfl (ev_misPoint L I J w P p2 p1 y) ?_
  refine WP.bz rfl (fun z2 => k0 (fun k => z2 k.2.1)) (fun z2 => ?_)
  iterate 2 (refine WP.st rfl ?_)
  by_cases e : x = y
  · refine WP.ict rfl (e) ?_
    exact k0 (fun k => k.2.2 e)
  · skip
    refine WP.icf rfl (e) ?_
    exact k1 ⟨z, z2, e⟩
theorem m_bar (L : Nat) (I : Nat → Nat → Int32) (J : Nat → Nat → Int64) (w : Nat → Nat) (S : St) (h : RI I J S) (x y : Int32) : MM L I J w m_Mo_bar [.int x, .int y] (.int (oBar S x y).1) (oBar S x y).2 := by
  obtain ⟨p1, p2, p3⟩ := h.1
  obtain ⟨ba, bb, hB, hE⟩ := h.2.2.2.2
  have b2 := hB.2.1
  have bad : ¬ ((rg x (sPt S) ∧ rg y (sPt S) ∧ x ≠ y) ∧ bI (hasb (sB S) (sBa S) (sBb S) x.toInt.toNat y.toInt.toNat) = 0) → WP m_Mo_bar (30, [some (.ref 208), some (.int x), some (.int y)], [], hp L I J w, 0, 0) (fun v h => v = some (.int (oBar S x y).1) ∧ ∃ (I' : Nat → Nat → Int32) (J' : Nat → Nat → Int64), FR 208 228 I J I' J' ∧ RI I' J' (oBar S x y).2 ∧ h = hp L I' J' w) := fun z => by
    unfold oBar
    rw [if_neg z]
    iterate 1 (refine WP.st rfl ?_)
    exact WP.ret rfl ⟨rfl, I, J, FR.refl _ _ _ _, h, rfl⟩
  unfold MM SP
  refine mba_a L I J w (sPt S) p2 p1 x y _ (fun z => bad (fun k => z k.1)) (fun z => ?_)
  obtain ⟨ex, hx⟩ := rg2_nI z.1
  obtain ⟨ey, hy⟩ := rg2_nI z.2.1
  have hxy : x.toInt.toNat ≠ y.toInt.toNat := fun e => z.2.2 (by rw [ex, ey, e])
  have sbo := sp_barOf L I J w (sB S) ba bb hB x.toInt.toNat y.toInt.toNat (by omega) (by omega)
  rw [← ex, ← ey] at sbo
  iterate 3 (refine WP.st rfl ?_)
  refine WP.call rfl rfl (sbo) ?_
  rintro _ _ ⟨rfl, v, rfl, hv⟩
  rcases hv with ⟨k, k1, rfl, k3⟩ | ⟨rfl, k3⟩
  · refine WP.iff rfl (nI_nneg (by omega)) ?_
    refine bad (fun k' => ?_)
    have := bI_0.mp k'.2
    exact this ((hasb_congr hE).mp ⟨k, k1, k3⟩)
  · skip
    refine WP.ift rfl (show (-1 : Int32) < 0 by decide) ?_
    have z2 : bI (hasb (sB S) (sBa S) (sBb S) x.toInt.toNat y.toInt.toNat) = 0 := bI_f (fun k => by
      obtain ⟨j, hj, e⟩ := (hasb_congr hE).mpr k
      exact k3 j hj e)
    unfold oBar
    rw [if_pos ⟨z, z2⟩]
    have b1 := hB.1
    iterate 1 (refine WP.st rfl ?_)
    refine WP.get (v := .int (nI (sB S))) rfl rfl (rfl) (congrArg Value.int b1) ?_
    iterate 1 (refine WP.st rfl ?_)
    by_cases e : sB S = 20
    · rw [if_pos e]
      refine WP.icf rfl (show ¬ ¬ nI (sB S) = nI 20 by rw [e]; exact fun k => k rfl) ?_
      iterate 1 (refine WP.st rfl ?_)
      exact WP.ret rfl ⟨rfl, I, J, FR.refl _ _ _ _, h, rfl⟩
    · rw [if_neg e]
      refine WP.ict rfl (show ¬ nI (sB S) = nI 20 from fun k => e ((nI_eq (by omega) (by omega)).mp k)) ?_
      iterate 3 (refine WP.st rfl ?_)
      refine WP.get (v := .int (nI (sB S))) rfl rfl (rfl) (congrArg Value.int b1) ?_
      iterate 1 (refine WP.st rfl ?_)
      refine WP.iast (k := sB S) rfl (rfl) (rfl) (show sB S < 21 by omega) (rfl) ?_
      have q1 : mm_up I 216 (sB S) x 208 10 = nI (sB S) := by rw [up_ne I _ (by decide)]; exact b1
      iterate 3 (refine WP.st rfl ?_)
      refine WP.get (v := .int (nI (sB S))) rfl rfl (rfl) (congrArg Value.int q1) ?_
      iterate 1 (refine WP.st rfl ?_)
      refine WP.iast (k := sB S) rfl (rfl) (rfl) (show sB S < 21 by omega) (rfl) ?_
      have q2 : mm_up (mm_up I 216 (sB S) x) 217 (sB S) y 208 10 = nI (sB S) := by rw [up_ne _ _ (by decide)]; exact q1
      iterate 2 (refine WP.st rfl ?_)
      refine WP.get (v := .int (nI (sB S))) rfl rfl (rfl) (congrArg Value.int q2) ?_
      iterate 3 (refine WP.st rfl ?_)
      have q3 : mm_up (mm_up (mm_up I 216 (sB S) x) 217 (sB S) y) 208 10 (nI (sB S) + 1) 208 10 = nI (sB S + 1) := by rw [mm_up_at]; exact nI_1 _
      iterate 1 (refine WP.st rfl ?_)
      refine WP.get (v := .int (nI (sB S + 1))) rfl rfl (rfl) (congrArg Value.int q3) ?_
      iterate 2 (refine WP.st rfl ?_)
      refine WP.ret rfl ⟨by rw [show (nI (sB S + 1) - Int32.ofInt 1 : Int32) = nI (sB S) from nI_m1 _], mm_up (mm_up (mm_up I 216 (sB S) x) 217 (sB S) y) 208 10 (nI (sB S) + 1), J, fun c hc => ⟨(up_ne _ _ (by omega)).trans ((up_ne _ _ (by omega)).trans (up_ne I _ (by omega))), rfl⟩, RI_br h (fun c c1 c2 c3 _ => (up_ne _ _ c1).trans ((up_ne _ _ c3).trans (up_ne I _ c2))) (fun k hk _ => (up_nk _ _ hk).trans (by rw [up_ne _ _ (by decide), up_ne I _ (by decide)])) ⟨upN ba (sB S) x.toInt.toNat, upN bb (sB S) y.toInt.toNat, ⟨q3, by show sB S + 1 ≤ 20; omega, fun k hk => ?_, fun k hk => ?_⟩, fun k hk => ?_⟩, rfl⟩
      · have hk' : k < sB S + 1 := hk
        unfold upN
        by_cases ek : k = sB S
        · rw [if_pos ek, if_pos ek]; exact hxy
        · rw [if_neg ek, if_neg ek]; exact hB.2.2.1 k (by omega)
      · obtain ⟨g1, g2, g3, g4⟩ := hB.2.2.2 k hk
        unfold upN
        rw [up_ne _ _ (show (216 : Nat) ≠ 208 by decide), up_ne _ _ (show (217 : Nat) ≠ 208 by decide), up_ne _ _ (show (216 : Nat) ≠ 217 by decide)]
        by_cases ek : k = sB S
        · rw [if_pos ek, if_pos ek, ek, mm_up_at, mm_up_at]
          exact ⟨ex, by omega, ey, by omega⟩
        · rw [if_neg ek, if_neg ek, up_nk I _ ek, up_nk _ _ ek, up_ne I _ (show (217 : Nat) ≠ 216 by decide)]
          exact ⟨g1, g2, g3, g4⟩
      · have hk' : k < sB S + 1 := hk
        show upN ba (sB S) x.toInt.toNat k = upN (sBa S) (sB S) x.toInt.toNat k ∧ upN bb (sB S) y.toInt.toNat k = upN (sBb S) (sB S) y.toInt.toNat k
        unfold upN
        by_cases ek : k = sB S
        · rw [if_pos ek, if_pos ek, if_pos ek, if_pos ek]; exact ⟨rfl, rfl⟩
        · rw [if_neg ek, if_neg ek, if_neg ek, if_neg ek]; exact hE k (by omega)
