theorem zm2000 : zJ (-2000) = (-2000 : Int64) := by decide
theorem zp2000 : zJ 2000 = (2000 : Int64) := by decide
theorem ev_in2000 (h : MH) (x : Int32) : EV m_Mo_in [.long x.toInt64, .long (-2000), .long 2000] h (some (.int (if wi x 2000 then 1 else 0))) h := ev_inC h x (-2000) 2000 zm2000 zp2000 (by decide)
theorem jx4 (t c : Nat) : (Int32.ofInt 4 * nI t + nI c : Int32) = nI (4 * t + c) := by rw [show (Int32.ofInt 4 * nI t : Int32) = nI (4 * t) from pk_mul 4 t]; exact nI_add _ _
def clI (I I' : Nat → Nat → Int32) (t i : Nat) : Prop := (∀ c, c ≠ 210 → I' c = I c) ∧ (∀ k, k < 17 * t ∨ 17 * t + 17 ≤ k → I' 210 k = I 210 k) ∧ ∀ c, c < i → I' 210 (17 * t + c) = 0
theorem sp_clearRow (L : Nat) (I : Nat → Nat → Int32) (J : Nat → Nat → Int64) (w : Nat → Nat) (t : Nat) (ht : t < 23) (x : Int32) : SP m_Mo_clearRow [.ref 208, .int (nI t), .int x] (hp L I J w) (fun v h => v = none ∧ ∃ I' : Nat → Nat → Int32, (∀ c, c ≠ 210 → I' c = I c) ∧ (∀ k, k < 17 * t ∨ 17 * t + 17 ≤ k → I' 210 k = I 210 k) ∧ (∀ c, c < 17 → I' 210 (17 * t + c) = zI (zrow x c)) ∧ h = hp L I' J w) := by
  unfold SP
  iterate 4 (refine WP.st rfl ?_)
  refine WP.inv (fun i (I1 : Nat → Nat → Int32) => (5, [some (.ref 208), some (.int (nI t)), some (.int x), some (.int (nI i))], [.int (nI 17), .int (nI i)], hp L I1 J w, 0, 0)) (fun i I1 => clI I I1 t i) 17 I ⟨fun _ _ => rfl, fun _ _ => rfl, fun c hc => absurd hc (Nat.not_lt_zero c)⟩ (fun i I1 hi hv kk => ?_) (fun I1 hv => ?_)
  · obtain ⟨v1, v2, v3⟩ := hv
    refine WP.icf rfl (nI_ge hi (by omega)) ?_
    iterate 8 (refine WP.st rfl ?_)
    refine WP.iast (k := 17 * t + i) rfl (ix17 _ _) (rfl) (show 17 * t + i < 391 by omega) (rfl) ?_
    iterate 4 (refine WP.st rfl ?_)
    have k2 := kk (mm_up I1 210 (17 * t + i) 0) ⟨fun c hc => (up_ne I1 _ hc).trans (v1 c hc), fun k hk => (up_nk I1 _ (by omega)).trans (v2 k hk), fun c hc => by
      by_cases z : c = i
      · rw [z, mm_up_at]
      · rw [up_nk I1 _ (by omega)]; exact v3 c (by omega)⟩
    rw [nI_succ i] at k2
    exact k2
  · obtain ⟨v1, v2, v3⟩ := hv
    refine WP.ict rfl (nI_le (Nat.le_refl _) (by omega)) ?_
    iterate 8 (refine WP.st rfl ?_)
    refine WP.iast (k := 17 * t + 16) rfl (ix17 _ 16) (rfl) (show 17 * t + 16 < 391 by omega) (rfl) ?_
    refine WP.ret rfl ⟨rfl, mm_up I1 210 (17 * t + 16) x, fun c hc => (up_ne I1 _ hc).trans (v1 c hc), fun k hk => (up_nk I1 _ (by omega)).trans (v2 k hk), fun c hc => ?_, rfl⟩
    unfold zrow
    by_cases z : c = 16
    · rw [if_pos z, z, mm_up_at]; exact zI_of x
    · rw [if_neg z, up_nk I1 _ (by omega)]; exact v3 c (by omega)
theorem RI_row {I I' : Nat → Nat → Int32} {J : Nat → Nat → Int64} {S : St} (h : RI I J S) {N t n : Nat} {row fc : Nat → Int} {nm : Nat → Nat} (ht : t ≤ 20) (h2 : ∀ k, k ≠ 2 → I' 208 k = I 208 k) (h22 : I' 208 2 = nI N) (hN : N ≤ 20) (hN1 : sTl S ≤ N) (hN2 : ∀ j, j < N → j = t ∨ j < sTl S) (hoff : ∀ c, 208 < c → c ≠ 210 → c ≠ 211 → c ≠ 212 → c ≠ 213 → I' c = I c) (h9 : ∀ j c, j ≠ t → c < 17 → I' 210 (17 * j + c) = I 210 (17 * j + c)) (h10 : ∀ j, j ≠ t → I' 211 j = I 211 j) (h11 : ∀ j k, j ≠ t → k < 4 → I' 212 (4 * j + k) = I 212 (4 * j + k) ∧ I' 213 (4 * j + k) = I 213 (4 * j + k)) (hrow : rR I' t n nm fc row) : RI I' J (stT S N t row n nm fc) := by
  obtain ⟨a1, ⟨b1, b2, b3, b4, b5, b6⟩, a3, a4, a5⟩ := h
  have g : ∀ j, j ≠ t → rR I j (sTn S j) (sNm S j) (sFc S j) (sT S j) → rR I' j (upT (sTn S) t n j) (upT (sNm S) t nm j) (upT (sFc S) t fc j) (upT (sT S) t row j) := fun j z ⟨q1, q2, q3, q4⟩ => by
    rw [upT_ne _ _ z, upT_ne _ _ z, upT_ne _ _ z, upT_ne _ _ z]
    exact ⟨fun c hc => (h9 j c z hc).trans (q1 c hc), (h10 j z).trans q2, fun k hk => by have := h11 j k z (by have := q4.2.1; omega); rw [this.1, this.2]; exact q3 k hk, q4⟩
  have g2 : rR I' t (upT (sTn S) t n t) (upT (sNm S) t nm t) (upT (sFc S) t fc t) (upT (sT S) t row t) := by rw [upT_at, upT_at, upT_at, upT_at]; exact hrow
  refine ⟨⟨(h2 0 (by decide)).trans a1.1, a1.2.1, ?_⟩, ⟨h22, hN, fun j hj => ?_, fun j hj => ?_, fun j hj => b5 j (by show sTl S ≤ j; have : N ≤ j := hj; omega), ?_⟩, ?_, ?_, ?_⟩
  · unfold RR8
    rw [hoff 209 (by omega) (by omega) (by omega) (by omega) (by omega)]
    exact a1.2.2
  · have hj' : j < N := hj
    by_cases z : j = t
    · rw [z]; exact g2
    · exact g j z (b3 j (by have := hN2 j hj'; omega))
  · rw [hoff 214 (by omega) (by omega) (by omega) (by omega) (by omega)]; exact b4 j hj
  · by_cases z : 20 = t
    · rw [z]; exact g2
    · exact g 20 z b6
  · unfold R3 PM at *
    rw [hoff 219 (by omega) (by omega) (by omega) (by omega) (by omega)]
    exact a3
  · unfold R4 at *
    rw [h2 25 (by decide)]
    exact a4
  · unfold R5 BR BA21 at *
    rw [h2 10 (by decide), hoff 216 (by omega) (by omega) (by omega) (by omega) (by omega), hoff 217 (by omega) (by omega) (by omega) (by omega) (by omega)]
    exact a5
theorem rR_z {I : Nat → Nat → Int32} {t : Nat} {x : Int32} (z : wi x 2000) (nm : Nat → Nat) (fc : Nat → Int) (h0 : ∀ c, c < 17 → I 210 (17 * t + c) = zI (zrow x c)) (h1 : I 211 t = 0) : rR I t 0 nm fc (zrow x) :=
  ⟨h0, h1, fun k hk => absurd hk (Nat.not_lt_zero k), z, by omega, fun k hk => absurd hk (Nat.not_lt_zero k), fun j k _ hk => absurd hk (Nat.not_lt_zero k), fun c hc _ => if_neg (by omega)⟩
