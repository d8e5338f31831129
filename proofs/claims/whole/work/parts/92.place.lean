/-! the reference: place -/
theorem rc_mono (S : Nat → Bool) (m : Nat) : ∀ d, (rc S m).1 ≤ (rc S (m + d)).1
  | 0 => Nat.le_refl _
  | d + 1 => by
    have := rc_mono S m d
    rw [show m + (d + 1) = m + d + 1 by omega]
    cases h : S (m + d) with
    | true => rw [rc_t h]; show _ ≤ (rc S (m + d)).1 + 1; omega
    | false => rw [rc_f h]; exact this
/-- which number is looked for: the j-th, or the strain -/
def aim (jv : Int32) (n : Nat) (A : Nat → Nat → Int) (ρ v : Nat → Int) (s : Int) : Prop := (∃ jn, jn < 16 ∧ jv = nI jn ∧ (∀ i, i < n → v i = A i jn) ∧ s = ρ jn) ∨ (jv = -1 ∧ (∀ i, i < n → v i = gp (A i) ρ) ∧ s = 0)
def psw (π : Nat → Nat) (q f : Nat) : Nat → Nat := fun i => if i = f then π q else if i = q then π f else π i
theorem psw_PM {I : Nat → Nat → Int32} {π : Nat → Nat} (h : PM I π) {q f : Nat} (hq : q < 7) (hf : f < 7) : PM (mm_up (mm_up I 219 q (nI (qn (π f)))) 219 f (nI (qn (π q)))) (psw π q f) := by
  refine ⟨fun i hi => ?_, fun i j hi hj e => ?_⟩
  · unfold psw
    by_cases e : i = f
    · rw [if_pos e, e]; exact ⟨mm_up_at _ _ _ _, (h.1 q hq).2⟩
    · rw [if_neg e, up_nk _ _ e]
      by_cases e2 : i = q
      · rw [if_pos e2, e2]; exact ⟨mm_up_at _ _ _ _, (h.1 f hf).2⟩
      · rw [if_neg e2, up_nk _ _ e2]; exact h.1 i hi
  · unfold psw at e
    have inj := h.2
    split at e
    · split at e
      · omega
      · split at e
        · have := inj q f hq hf e; omega
        · have := inj q j hq hj e; omega
    · split at e
      · split at e
        · have := inj f q hf hq e; omega
        · split at e
          · omega
          · have := inj f j hf hj e; omega
      · split at e
        · have := inj i q hi hq e; omega
        · split at e
          · have := inj i f hi hf e; omega
          · exact inj i j hi hj e
/-- the primes taken, and those passed over -/
def tk2 (K : Nat → Nat → Int64) (π : Nat → Nat) (D T : Int) (q f : Nat) : Prop := (∀ k, k < f → K 224 k = zJ (T % qn (π k)) ∧ K 225 k = zJ (D % qn (π k))) ∧ ∀ k, f ≤ k → k < q → (qn (π k) : Int) ∣ D
theorem few2 {I : Nat → Nat → Int32} {π : Nat → Nat} (hπ : PM I π) {K : Nat → Nat → Int64} {D T : Int} {f : Nat} (h : tk2 K π D T 7 f) (d0 : 0 < D) (d1 : D ≤ 37 ^ 16) : 5 ≤ f := by
  by_cases e : 5 ≤ f
  · exact e
  · exfalso
    have a0 := h.2 f (Nat.le_refl f) (by omega)
    have a1 := h.2 (f + 1) (by omega) (by omega)
    have a2 := h.2 (f + 2) (by omega) (by omega)
    have n01 : ¬ (qn (π (f + 1)) : Int) ∣ qn (π f) := qn_ne (hπ.1 (f + 1) (by omega)).2 (hπ.1 f (by omega)).2 (fun z => by have := hπ.2 (f + 1) f (by omega) (by omega) z; omega)
    have n02 : ¬ (qn (π (f + 2)) : Int) ∣ qn (π f) := qn_ne (hπ.1 (f + 2) (by omega)).2 (hπ.1 f (by omega)).2 (fun z => by have := hπ.2 (f + 2) f (by omega) (by omega) z; omega)
    have n12 : ¬ (qn (π (f + 2)) : Int) ∣ qn (π (f + 1)) := qn_ne (hπ.1 (f + 2) (by omega)).2 (hπ.1 (f + 1) (by omega)).2 (fun z => by have := hπ.2 (f + 2) (f + 1) (by omega) (by omega) z; omega)
    have b1 := cop_dvd (pm_gcd (qn_pm (π (f + 1))) n01) a0 a1
    have b2 := cop_dvd (pm_gcd (qn_pm (π (f + 2))) (fun z => by rcases (qn_pm (π (f + 2))).2 _ _ z with y | y; exact n02 y; exact n12 y)) b1 a2
    have b3 := Int.le_of_dvd d0 b2
    have g0 := (qn_lt (π f)).1
    have g1 := (qn_lt (π (f + 1))).1
    have g2 := (qn_lt (π (f + 2))).1
    have c1 : (1073741689 : Int) * 1073741689 ≤ qn (π f) * qn (π (f + 1)) := Int.mul_le_mul (by omega) (by omega) (by omega) (by omega)
    have c2 : (1073741689 : Int) * 1073741689 * 1073741689 ≤ qn (π f) * qn (π (f + 1)) * qn (π (f + 2)) := Int.mul_le_mul c1 (by omega) (by omega) (by omega)
    have c37 : (37 : Int) ^ 16 = 12337511914217166362274241 := by decide
    omega
set_option maxHeartbeats 4000000 in
set_option maxRecDepth 20000 in
theorem sp_place (L : Nat) (I : Nat → Nat → Int32) (J : Nat → Nat → Int64) (w : Nat → Nat) (set : Int32) (S : Nat → Bool) (hS : ∀ k, k < 23 → bt set k = S k) (n : Nat) (ri : Nat → Nat) (hrc : (rc S 23).1 = n) (hri : ∀ i, i < n → (rc S 23).2 i = ri i) (A : Nat → Nat → Int) (hn : n ≤ 16) (hA : ∀ i, i < n → (∀ c, c < 17 → I 210 (17 * ri i + c) = zI (A i c)) ∧ (dt 16 (A i) (A i) ≤ 36 ∧ -2000 ≤ A i 16 ∧ A i 16 ≤ 2000)) (hi : ind 16 n A) (ρ : Nat → Int) (hρ : RR8 I ρ) (hgb : ∀ i, i < n → -14000 ≤ gp (A i) ρ ∧ gp (A i) ρ ≤ 14000) (π : Nat → Nat) (hπ : PM I π) (M0 : Nat → Nat → Int) (hM : MG J M0) (jv : Int32) (v : Nat → Int) (s : Int) (hj : aim jv n A ρ v s) : SP m_Mo_place [.ref 208, .int set, .int jv] (hp L I J w) (fun r h => r = none ∧ ∃ (I' : Nat → Nat → Int32) (K : Nat → Nat → Int64) (π' : Nat → Nat) (M' : Nat → Nat → Int), (∀ c, c ≠ 208 → c ≠ 219 → c ≠ 223 → I' c = I c) ∧ (∀ k, k ≠ 20 → k ≠ 25 → I' 208 k = I 208 k) ∧ (∀ c, c < 221 ∨ 227 < c → K c = J c) ∧ PM I' π' ∧ MG K M' ∧ I' 208 25 = sg (det (n + 1) (bd n (gm 16 A) (fun i => gp (A i) ρ) v s)) ∧ zv K 0 (fa (det (n + 1) (bd n (gm 16 A) (fun i => gp (A i) ρ) v s)).natAbs (det n (gm 16 A)).natAbs) ∧ zv K 1 (fbl (det (n + 1) (bd n (gm 16 A) (fun i => gp (A i) ρ) v s)).natAbs (det n (gm 16 A)).natAbs) ∧ h = hp L I' K w) := by
  have hvb : ∀ i, i < n → -14000 ≤ v i ∧ v i ≤ 14000 := fun i h1 => by
    rcases hj with ⟨jn, j1, -, j3, -⟩ | ⟨-, j3, -⟩
    · rw [j3 i h1]
      have := ent6 (hA i h1).2.1 j1
      omega
    · rw [j3 i h1]; exact hgb i h1
  have hsb : -1000 ≤ s ∧ s ≤ 1000 := by
    rcases hj with ⟨jn, j1, -, -, j4⟩ | ⟨-, -, j4⟩
    · rw [j4]; exact (hρ jn j1).2
    · omega
  obtain ⟨d0, d1, t1, t2⟩ := frac_bounds hn (fun i h1 => (hA i h1).2.1) hi hgb hvb hsb
  have habove : ∀ (p : Int) (y : Nat → Int), (∀ i, i < n → p ∣ sm (fun j => gm 16 A i j * y j) n - (- gp (A i) ρ)) → p ∣ det n (gm 16 A) * (s - sm (fun j => v j * y j) n) - det (n + 1) (bd n (gm 16 A) (fun i => gp (A i) ρ) v s) := fun p y hy => above_ok (gm_sym 16 A) hy
  generalize hTT : det (n + 1) (bd n (gm 16 A) (fun i => gp (A i) ρ) v s) = T at *
  unfold SP
  iterate 7 (refine WP.st rfl ?_)
  refine WP.inv (fun row (I1 : Nat → Nat → Int32) => (10, [some (.ref 208), some (.int set), some (.int jv), some (.int (nI row)), none, none, none, none, none, none, none, none, none], [.int (nI 23), .int (nI row)], hp L I1 J w, 0, 0)) (fun row I1 => (∀ c, c ≠ 208 → c ≠ 223 → I1 c = I c) ∧ (∀ k, k ≠ 20 → I1 208 k = I 208 k) ∧ I1 208 20 = nI (rc S row).1 ∧ ∀ i, i < (rc S row).1 → I1 223 i = nI ((rc S row).2 i)) 23 (mm_up I 208 20 0) ⟨fun c h1 _ => up_ne I _ h1, fun k hk => up_nk I _ hk, mm_up_at I _ _ _, fun i h1 => absurd h1 (Nat.not_lt_zero i)⟩ (fun row I1 hrow hv kk => ?_) (fun I1 hv => ?_)
  · obtain ⟨v1, v2, v3, v4⟩ := hv
    refine WP.icf rfl (nI_ge hrow (by omega)) ?_
    iterate 6 (refine WP.st rfl ?_)
    rw [show ((set >>> (nI row &&& 31)) &&& Int32.ofInt 1 : Int32) = if bt set row = true then 1 else 0 from sh_and set (by omega), hS row hrow]
    cases hSr : S row with
    | false =>
      rw [show (if (false : Bool) = true then (1 : Int32) else 0) = 0 from rfl]
      refine WP.ict rfl (show ¬ (0 : Int32) = 1 by decide) ?_
      iterate 4 (refine WP.st rfl ?_)
      have kk2 := kk I1 ⟨v1, v2, by rw [rc_f hSr]; exact v3, by rw [rc_f hSr]; exact v4⟩
      rw [nI_succ row] at kk2
      exact kk2
    | true =>
      have hlt : (rc S row).1 < 16 := by
        have h1 := rc_mono S (row + 1) (23 - (row + 1))
        rw [show row + 1 + (23 - (row + 1)) = 23 by omega, rc_t hSr] at h1
        have h2 : (rc S row).1 + 1 ≤ (rc S 23).1 := h1
        omega
      rw [show (if (true : Bool) = true then (1 : Int32) else 0) = 1 from rfl]
      refine WP.icf rfl (fun z => z rfl) ?_
      iterate 5 (refine WP.st rfl ?_)
      refine WP.iast (k := (rc S row).1) rfl (v3) (rfl) (show (rc S row).1 < 16 from hlt) (rfl) ?_
      have e20 : mm_up I1 223 (rc S row).1 (nI row) 208 20 = nI (rc S row).1 := (congrFun (up_ne I1 _ (by decide)) 20).trans v3
      iterate 2 (refine WP.st rfl ?_)
      refine WP.get (v := .int (nI (rc S row).1)) rfl rfl (rfl) (congrArg Value.int e20) ?_
      iterate 7 (refine WP.st rfl ?_)
      have kk2 := kk (mm_up (mm_up I1 223 (rc S row).1 (nI row)) 208 20 (nI ((rc S row).1 + 1))) ⟨fun c h1 h2 => (up_ne _ _ h1).trans ((up_ne I1 _ h2).trans (v1 c h1 h2)), fun k hk => (up_nk _ _ hk).trans ((congrFun (up_ne I1 _ (by decide)) k).trans (v2 k hk)), by rw [rc_t hSr]; exact mm_up_at _ _ _ _, fun i h1 => ?_⟩
      · rw [nI_succ row, nI_succ (rc S row).1] at kk2
        exact kk2
      · rw [rc_t hSr] at h1 ⊢
        have h1' : i < (rc S row).1 + 1 := h1
        show mm_up (mm_up I1 223 (rc S row).1 (nI row)) 208 20 _ 223 i = nI (if i = (rc S row).1 then row else (rc S row).2 i)
        rw [up_ne _ _ (by decide)]
        by_cases e : i = (rc S row).1
        · rw [if_pos e, e]; exact mm_up_at I1 _ _ _
        · rw [if_neg e]; exact (up_nk I1 _ e).trans (v4 i (by omega))
  · obtain ⟨v1, v2, v3, v4⟩ := hv
    rw [hrc] at v3 v4
    have hRW1 : RW I1 n A := ⟨v3, hn, ri, fun i h1 => ⟨by rw [← hri i h1]; exact v4 i h1, by rw [← hri i h1]; exact (rc_lt S 23 i (by omega)).1, by rw [v1 210 (by decide) (by decide)]; exact (hA i h1).1, (hA i h1).2⟩⟩
    have hR81 : RR8 I1 ρ := by unfold RR8; rw [v1 209 (by decide) (by decide)]; exact hρ
    have hπ1 : PM I1 π := by unfold PM; rw [v1 219 (by decide) (by decide)]; exact hπ
    -- the numbers put together
    have fin : ∀ (I2 : Nat → Nat → Int32) (K : Nat → Nat → Int64) (π2 : Nat → Nat) (M2 : Nat → Nat → Int) (q : Nat) (o : Nat → Option Value), q ≤ 7 → (∀ c, c ≠ 208 → c ≠ 219 → c ≠ 223 → I2 c = I c) → (∀ k, k ≠ 20 → k ≠ 25 → I2 208 k = I 208 k) → (∀ c, c < 221 ∨ 227 < c → K c = J c) → PM I2 π2 → MG K M2 → tk2 K π2 (det n (gm 16 A)) T q 5 → WP m_Mo_place (249, [some (.ref 208), some (.int set), some (.int jv), some (.int (nI 5)), o 4, o 5, o 6, o 7, o 8, o 9, o 10, o 11, o 12], [], hp L I2 K w, 0, 0) (fun r h => r = none ∧ ∃ (I' : Nat → Nat → Int32) (K : Nat → Nat → Int64) (π' : Nat → Nat) (M' : Nat → Nat → Int), (∀ c, c ≠ 208 → c ≠ 219 → c ≠ 223 → I' c = I c) ∧ (∀ k, k ≠ 20 → k ≠ 25 → I' 208 k = I 208 k) ∧ (∀ c, c < 221 ∨ 227 < c → K c = J c) ∧ PM I' π' ∧ MG K M' ∧ I' 208 25 = sg T ∧ zv K 0 (fa T.natAbs (det n (gm 16 A)).natAbs) ∧ zv K 1 (fbl T.natAbs (det n (gm 16 A)).natAbs) ∧ h = hp L I' K w) := by
      intro I2 K π2 M2 q o hq a1 a2 a3 a4 a5 a6
      generalize det n (gm 16 A) = D at *
      have hP5 : PR5 I2 (fun i => qn (π2 i)) := ⟨fun i h1 => ⟨(a4.1 i (by omega)).1, qn_pm _, (qn_lt _).2⟩, fun i j h1 h2 => qn_ne (a4.1 j (by omega)).2 (a4.1 i (by omega)).2 (fun z => by have := a4.2 j i (by omega) (by omega) z; omega)⟩
      have lo : (1073741689 : Int) ^ 5 ≤ pr (fun i => ((qn (π2 i) : Nat) : Int)) 5 := by
        have e5 : pr (fun i => ((qn (π2 i) : Nat) : Int)) 5 = 1 * (qn (π2 0) : Int) * qn (π2 1) * qn (π2 2) * qn (π2 3) * qn (π2 4) := rfl
        rw [e5, show (1073741689 : Int) ^ 5 = 1 * 1073741689 * 1073741689 * 1073741689 * 1073741689 * 1073741689 by decide]
        have := (qn_lt (π2 0)).1
        have := (qn_lt (π2 1)).1
        have := (qn_lt (π2 2)).1
        have := (qn_lt (π2 3)).1
        have := (qn_lt (π2 4)).1
        have m1 : (1 : Int) * 1073741689 * 1073741689 ≤ 1 * (qn (π2 0) : Int) * qn (π2 1) := Int.mul_le_mul (by omega) (by omega) (by omega) (by omega)
        have m2 : (1 : Int) * 1073741689 * 1073741689 * 1073741689 ≤ 1 * (qn (π2 0) : Int) * qn (π2 1) * qn (π2 2) := Int.mul_le_mul m1 (by omega) (by omega) (by omega)
        have m3 : (1 : Int) * 1073741689 * 1073741689 * 1073741689 * 1073741689 ≤ 1 * (qn (π2 0) : Int) * qn (π2 1) * qn (π2 2) * qn (π2 3) := Int.mul_le_mul m2 (by omega) (by omega) (by omega)
        exact Int.mul_le_mul m3 (by omega) (by omega) (by omega)
      have c5 : (1073741689 : Int) ^ 5 = 1427246795477288340783865329249079146065087449 := by decide
      have c4 : (2147483549 : Int) ^ 4 = 21267644010764880705175866920184430801 := by decide
      have c37 : (37 : Int) ^ 16 = 12337511914217166362274241 := by decide
      iterate 5 (refine WP.st rfl ?_)
      refine WP.call rfl rfl (sp_put L I2 K w 224 0 (Or.inl rfl) (by omega) (fun i => qn (π2 i)) hP5 T (fun i h1 => (a6.1 i h1).1) (by omega)) ?_
      rintro _ _ ⟨rfl, K2, b1, b2, b3, rfl⟩
      iterate 5 (refine WP.st rfl ?_)
      have hP5' : PR5 (mm_up I2 208 25 (sg T)) (fun i => qn (π2 i)) := by unfold PR5; rw [up_ne I2 _ (by decide)]; exact hP5
      refine WP.call rfl rfl (sp_put L (mm_up I2 208 25 (sg T)) K2 w 225 1 (Or.inr rfl) (by omega) (fun i => qn (π2 i)) hP5' D (fun i h1 => by rw [b1 225 (by decide) (by decide)]; exact (a6.1 i h1).2) (by omega)) ?_
      rintro _ _ ⟨rfl, K3, e1, e2, e3, rfl⟩
      have sD : sg D = 1 := by unfold sg; rw [if_neg (by omega), if_neg (by omega)]
      rw [sD]
      iterate 6 (refine WP.st rfl ?_)
      rw [show (hI (hp L (mm_up I2 208 25 (sg T)) K3 w) 208 25 * 1 : Int32) = sg T from by rw [show hI (hp L (mm_up I2 208 25 (sg T)) K3 w) 208 25 = sg T from mm_up_at I2 208 25 _, Int32.mul_one]]
      iterate 2 (refine WP.st rfl ?_)
      rw [show putI (hp L (mm_up I2 208 25 (sg T)) K3 w) 208 25 (sg T) = hp L (mm_up (mm_up I2 208 25 (sg T)) 208 25 (sg T)) K3 w from rfl]
      refine WP.call rfl rfl (sp_reduce L (mm_up (mm_up I2 208 25 (sg T)) 208 25 (sg T)) K3 w T.natAbs D.natAbs (e2 0 _ (by omega) (by omega) b3) e3 (by omega) (by omega) (by omega)) ?_
      rintro _ _ ⟨rfl, K4, f1, f2, f3, rfl⟩
      refine WP.ret rfl ⟨rfl, _, K4, π2, M2, fun c h1 h2 h3 => (up_ne _ _ h1).trans ((up_ne I2 _ h1).trans (a1 c h1 h2 h3)), fun k h1 h2 => (up_nk _ _ h2).trans ((up_nk I2 _ h2).trans (a2 k h1 h2)), fun c hc => (f1 c (by omega)).trans ((e1 c (by omega) (by omega)).trans ((b1 c (by omega) (by omega)).trans (a3 c hc))), ?_, fun i h1 j h2 => ?_, mm_up_at _ _ _ _, f2, f3, rfl⟩
      · unfold PM; dsimp only; rw [up_ne _ _ (by decide), up_ne I2 _ (by decide)]; exact a4
      · rw [f1 221 (by decide), e1 221 (by decide) (by decide), b1 221 (by decide) (by decide)]
        exact a5 i h1 j h2
    refine WP.ict rfl (nI_le (Nat.le_refl _) (by omega)) ?_
    iterate 6 (refine WP.st rfl ?_)
    refine WP.inv (fun q (σ : (Nat → Nat → Int32) × (Nat → Nat → Int64) × Nat × (Nat → Option Value)) => (57, [some (.ref 208), some (.int set), some (.int jv), some (.int (nI σ.2.2.1)), some (.int (nI q)), σ.2.2.2 5, σ.2.2.2 6, σ.2.2.2 7, σ.2.2.2 8, σ.2.2.2 9, σ.2.2.2 10, σ.2.2.2 11, σ.2.2.2 12], [.int (nI 7), .int (nI q)], hp L σ.1 σ.2.1 w, 0, 0)) (fun q σ => (∀ c, c ≠ 219 → σ.1 c = I1 c) ∧ (∀ c, c < 221 ∨ 227 < c → σ.2.1 c = J c) ∧ σ.2.2.1 ≤ 5 ∧ σ.2.2.1 ≤ q ∧ ∃ (π2 : Nat → Nat) (M2 : Nat → Nat → Int), PM σ.1 π2 ∧ MG σ.2.1 M2 ∧ tk2 σ.2.1 π2 (det n (gm 16 A)) T q σ.2.2.1) 7 (I1, J, 0, fun _ => none) ⟨fun _ _ => rfl, fun _ _ => rfl, Nat.zero_le _, Nat.le_refl _, π, M0, hπ1, hM, fun k hk => absurd hk (Nat.not_lt_zero k), fun k _ hk => absurd hk (Nat.not_lt_zero k)⟩ (fun q σ hq hv kk => ?_) (fun σ hv => ?_)
    · obtain ⟨I2, K, f, o⟩ := σ
      obtain ⟨u1, u2, u3, u4, π2, M2, u5, u6, u7⟩ := hv
      dsimp only at u1 u2 u3 u4 u5 u6 u7 ⊢
      refine WP.icf rfl (nI_ge hq (by omega)) ?_
      iterate 2 (refine WP.st rfl ?_)
      by_cases e5 : f = 5
      · subst e5
        refine WP.ict rfl (nI_le (Nat.le_refl _) (by omega)) ?_
        exact fin I2 K π2 M2 q (fun k => if k = 4 then some (.int (nI q)) else o k) (by omega) (fun c h1 h2 h3 => (u1 c h2).trans (v1 c h1 h3)) (fun k h1 h2 => (congrFun (u1 208 (by decide)) k).trans (v2 k h1)) u2 u5 u6 u7
      · obtain ⟨pq, pq7⟩ := u5.1 q hq
        have hRW2 : RW I2 n A := by unfold RW; rw [u1 208 (by decide), u1 223 (by decide), u1 210 (by decide)]; exact hRW1
        have hR82 : RR8 I2 ρ := by unfold RR8; rw [u1 209 (by decide)]; exact hR81
        have ql := qn_lt (π2 q)
        have qp := qn_pm (π2 q)
        have hpf := (u5.1 f (by omega)).1
        generalize hpn : qn (π2 q) = pn at *
        have zp : (nI pn).toInt64 = zJ (pn : Int) := by rw [nI_zI]; exact zI_l (by omega) (by omega)
        have pz : ¬ zJ (pn : Int) = 0 := fun z => by have := (zJ_eq (a := (pn : Int)) (b := 0) (by omega) (by omega) (by omega) (by omega)).mp z; omega
        refine WP.icf rfl (show ¬ nI 5 ≤ nI f from nI_ge (by omega) (by omega)) ?_
        iterate 3 (refine WP.st rfl ?_)
        refine WP.iald (k := q) rfl (rfl) (Or.inl rfl) (show q < 7 by omega) (rfl) ?_
        rw [show hI (hp L I2 K w) 219 q = nI pn from pq]
        iterate 3 (refine WP.st rfl ?_)
        refine WP.call rfl rfl (sp_solve L I2 K w n pn A hRW2 ρ hR82 hgb qp ql.2 M2 u6) ?_
        rintro _ _ ⟨rfl, K2, M3, g1, g2, g3, rfl⟩
        have D0 := Int.emod_nonneg (det n (gm 16 A)) (show (pn : Int) ≠ 0 by omega)
        have D1 := Int.emod_lt_of_pos (det n (gm 16 A)) (show (0 : Int) < pn by omega)
        iterate 4 (refine WP.st rfl ?_)
        have u7' : tk2 K2 π2 (det n (gm 16 A)) T q f := ⟨fun k hk => by rw [g1 224 (by decide) (by decide), g1 225 (by decide) (by decide)]; exact u7.1 k hk, u7.2⟩
        have fr2 : ∀ c, c < 221 ∨ 227 < c → K2 c = J c := fun c hc => (g1 c (by omega) (by omega)).trans (u2 c hc)
        by_cases ez : det n (gm 16 A) % (pn : Int) = 0
        · refine WP.ift rfl (lc_eq.mpr (by rw [ez]; rfl)) ?_
          iterate 4 (refine WP.st rfl ?_)
          have kk2 := kk (I2, K2, f, fun k => if k = 5 then some (.int (nI pn)) else if k = 6 then some (.long (zJ (det n (gm 16 A) % (pn : Int)))) else if k = 7 then none else o k) ⟨u1, fr2, u3, by dsimp only; omega, π2, M3, u5, g2, u7'.1, fun k h1 h2 => by
            by_cases e : k = q
            · rw [e, hpn]; exact Int.dvd_of_emod_eq_zero ez
            · exact u7'.2 k h1 (by omega)⟩
          rw [nI_succ q] at kk2
          exact kk2
        · obtain ⟨y, y1, y2⟩ := g3 ez
          have hab := habove pn y y2
          generalize hDp : det n (gm 16 A) % (pn : Int) = Dp at *
          have hDd : (pn : Int) ∣ det n (gm 16 A) - Dp := by rw [← hDp]; exact Int.dvd_self_sub_emod
          -- the end: what stands above is found
          have last : ∀ (o' : Nat → Option Value), WP m_Mo_place (203, [some (.ref 208), some (.int set), some (.int jv), some (.int (nI f)), some (.int (nI q)), some (.int (nI pn)), some (.long (zJ Dp)), none, some (.long (zJ (Dp * (s - sm (fun j => v j * y j) n) % pn))), none, o' 10, o' 11, o' 12], [], hp L I2 K2 w, 0, 0) (fun r h => r = none ∧ ∃ (I' : Nat → Nat → Int32) (K : Nat → Nat → Int64) (π' : Nat → Nat) (M' : Nat → Nat → Int), (∀ c, c ≠ 208 → c ≠ 219 → c ≠ 223 → I' c = I c) ∧ (∀ k, k ≠ 20 → k ≠ 25 → I' 208 k = I 208 k) ∧ (∀ c, c < 221 ∨ 227 < c → K c = J c) ∧ PM I' π' ∧ MG K M' ∧ I' 208 25 = sg T ∧ zv K 0 (fa T.natAbs (det n (gm 16 A)).natAbs) ∧ zv K 1 (fbl T.natAbs (det n (gm 16 A)).natAbs) ∧ h = hp L I' K w) := by
            intro o'
            have eT : Dp * (s - sm (fun j => v j * y j) n) % (pn : Int) = T % pn := by
              apply emod_dvd
              obtain ⟨x1, h1⟩ := hab
              obtain ⟨x2, h2⟩ := hDd
              exact ⟨x1 - x2 * (s - sm (fun j => v j * y j) n), by grind⟩
            rw [eT]
            iterate 6 (refine WP.st rfl ?_)
            refine WP.iald (k := f) rfl (rfl) (Or.inl rfl) (show f < 7 by omega) (rfl) ?_
            rw [show hI (hp L I2 K2 w) 219 f = nI (qn (π2 f)) from hpf]
            refine WP.iast (k := q) rfl (rfl) (rfl) (show q < 7 by omega) (rfl) ?_
            iterate 4 (refine WP.st rfl ?_)
            refine WP.iast (k := f) rfl (rfl) (rfl) (show f < 7 by omega) (rfl) ?_
            iterate 4 (refine WP.st rfl ?_)
            refine WP.last (k := f) rfl (rfl) (rfl) (show f < 7 by omega) (rfl) ?_
            iterate 4 (refine WP.st rfl ?_)
            refine WP.last (k := f) rfl (rfl) (rfl) (show f < 7 by omega) (rfl) ?_
            iterate 5 (refine WP.st rfl ?_)
            have kk2 := kk (mm_up (mm_up I2 219 q (nI (qn (π2 f)))) 219 f (nI pn), mm_up (mm_up K2 224 f (zJ (T % pn))) 225 f (zJ Dp), f + 1, fun k => if k = 5 then some (.int (nI pn)) else if k = 6 then some (.long (zJ Dp)) else if k = 7 then none else if k = 8 then some (.long (zJ (T % pn))) else if k = 9 then none else o' k) ⟨fun c h1 => (up_ne _ _ h1).trans ((up_ne I2 _ h1).trans (u1 c h1)), fun c hc => (up_ne _ _ (by omega)).trans ((up_ne K2 _ (by omega)).trans (fr2 c hc)), by dsimp only; omega, by dsimp only; omega, psw π2 q f, M3, ?_, fun i h1 j h2 => ?_, ?_⟩
            · rw [nI_succ q, nI_succ f] at kk2
              exact kk2
            · have := psw_PM u5 hq (show f < 7 by omega)
              rw [hpn] at this
              exact this
            · dsimp only
              rw [up_ne _ _ (by decide), up_ne K2 _ (by decide)]
              exact g2 i h1 j h2
            · dsimp only
              refine ⟨fun k h1 => ?_, fun k h1 h2 => ?_⟩
              · unfold psw
                by_cases e : k = f
                · subst e
                  rw [if_pos rfl, hpn, hDp, up_ne _ _ (by decide)]
                  exact ⟨mm_up_at K2 _ _ _, mm_up_at _ _ _ _⟩
                · rw [if_neg e, if_neg (by omega), up_ne (mm_up K2 224 f (zJ (T % pn))) _ (show (224 : Nat) ≠ 225 by decide), up_nk K2 _ e, up_nk _ _ e, up_ne K2 _ (show (225 : Nat) ≠ 224 by decide)]
                  exact u7'.1 k (by omega)
              · unfold psw
                rw [if_neg (by omega)]
                by_cases e : k = q
                · rw [if_pos e]; exact u7'.2 f (Nat.le_refl f) (by omega)
                · rw [if_neg e]; exact u7'.2 k (by omega) (by omega)
          refine WP.iff rfl (fun x => ez ((zJ_eq (by omega) (by omega) (by decide) (by decide)).mp (lc_eq.mp x))) ?_
          iterate 1 (refine WP.st rfl ?_)
          -- the loop over the rows
          have loop : WP m_Mo_place (128, [some (.ref 208), some (.int set), some (.int jv), some (.int (nI f)), some (.int (nI q)), some (.int (nI pn)), some (.long (zJ Dp)), none, some (.long (zJ (Dp * (s - sm (fun j => v j * y j) 0) % pn))), none, some (.int (nI 0)), o 11, o 12], [.int (I2 208 20), .int (nI 0)], hp L I2 K2 w, 0, 0) (fun r h => r = none ∧ ∃ (I' : Nat → Nat → Int32) (K : Nat → Nat → Int64) (π' : Nat → Nat) (M' : Nat → Nat → Int), (∀ c, c ≠ 208 → c ≠ 219 → c ≠ 223 → I' c = I c) ∧ (∀ k, k ≠ 20 → k ≠ 25 → I' 208 k = I 208 k) ∧ (∀ c, c < 221 ∨ 227 < c → K c = J c) ∧ PM I' π' ∧ MG K M' ∧ I' 208 25 = sg T ∧ zv K 0 (fa T.natAbs (det n (gm 16 A)).natAbs) ∧ zv K 1 (fbl T.natAbs (det n (gm 16 A)).natAbs) ∧ h = hp L I' K w) := by
            refine WP.inv (fun i (o2 : Option Value × Option Value) => (128, [some (.ref 208), some (.int set), some (.int jv), some (.int (nI f)), some (.int (nI q)), some (.int (nI pn)), some (.long (zJ Dp)), none, some (.long (zJ (Dp * (s - sm (fun j => v j * y j) i) % pn))), none, some (.int (nI i)), o2.1, o2.2], [.int (I2 208 20), .int (nI i)], hp L I2 K2 w, 0, 0)) (fun _ _ => True) n (o 11, o 12) trivial (fun i o2 hi' _ k3 => ?_) (fun o2 _ => ?_)
            · have hmn2 : I2 208 20 = nI n := hRW2.1
              have vb := hvb i hi'
              have S0 := Int.emod_nonneg (y i * Dp) (show (pn : Int) ≠ 0 by omega)
              have S1 := Int.emod_lt_of_pos (y i * Dp) (show (0 : Int) < pn by omega)
              have V0 := Int.emod_nonneg (- v i) (show (pn : Int) ≠ 0 by omega)
              have V1 := Int.emod_lt_of_pos (- v i) (show (0 : Int) < pn by omega)
              have X0 := Int.emod_nonneg (Dp * (s - sm (fun j => v j * y j) i)) (show (pn : Int) ≠ 0 by omega)
              have X1 := Int.emod_lt_of_pos (Dp * (s - sm (fun j => v j * y j) i)) (show (0 : Int) < pn by omega)
              have P0 : 0 ≤ y i * Dp % pn * (- v i % pn) := Int.mul_nonneg S0 V0
              have P1 : y i * Dp % pn * (- v i % pn) ≤ (2 ^ 30 - 1) * (2 ^ 30 - 1) := Int.mul_le_mul (by omega) (by omega) (by omega) (by omega)
              have step : ∀ o3 : Option Value, WP m_Mo_place (176, [some (.ref 208), some (.int set), some (.int jv), some (.int (nI f)), some (.int (nI q)), some (.int (nI pn)), some (.long (zJ Dp)), none, some (.long (zJ (Dp * (s - sm (fun j => v j * y j) i) % pn))), none, some (.int (nI i)), o2.1, o3], [.long (zJ (- v i % pn))], hp L I2 K2 w, 0, 0) (fun r h => r = none ∧ ∃ (I' : Nat → Nat → Int32) (K : Nat → Nat → Int64) (π' : Nat → Nat) (M' : Nat → Nat → Int), (∀ c, c ≠ 208 → c ≠ 219 → c ≠ 223 → I' c = I c) ∧ (∀ k, k ≠ 20 → k ≠ 25 → I' 208 k = I 208 k) ∧ (∀ c, c < 221 ∨ 227 < c → K c = J c) ∧ PM I' π' ∧ MG K M' ∧ I' 208 25 = sg T ∧ zv K 0 (fa T.natAbs (det n (gm 16 A)).natAbs) ∧ zv K 1 (fbl T.natAbs (det n (gm 16 A)).natAbs) ∧ h = hp L I' K w) := by
                intro o3
                iterate 5 (refine WP.st rfl ?_)
                refine WP.lald (k := i) rfl (rfl) (Or.inl rfl) (show i < 16 by omega) (rfl) ?_
                rw [show hJ (hp L I2 K2 w) 222 i = zJ (y i * Dp % pn) from y1 i hi']
                iterate 2 (refine WP.st rfl ?_)
                rw [zJ_mul]
                iterate 1 (refine WP.st rfl ?_)
                rw [zJ_add]
                iterate 2 (refine WP.st rfl ?_)
                rw [zp]
                refine WP.lrem rfl (pz) ?_
                rw [zJ_remp (by omega) (by omega) (by omega) (by omega)]
                rw [show (Dp * (s - sm (fun j => v j * y j) i) % pn + y i * Dp % pn * (- v i % pn)) % (pn : Int) = Dp * (s - sm (fun j => v j * y j) (i + 1)) % pn from by
                  apply emod_dvd
                  obtain ⟨x1, h1⟩ := Int.dvd_self_sub_emod (x := Dp * (s - sm (fun j => v j * y j) i)) (m := (pn : Int))
                  obtain ⟨x2, h2⟩ := Int.dvd_self_sub_emod (x := y i * Dp) (m := (pn : Int))
                  obtain ⟨x3, h3⟩ := Int.dvd_self_sub_emod (x := - v i) (m := (pn : Int))
                  have e : sm (fun j => v j * y j) (i + 1) = sm (fun j => v j * y j) i + v i * y i := rfl
                  rw [e]
                  generalize Dp * (s - sm (fun j => v j * y j) i) % pn = G1 at *
                  generalize y i * Dp % pn = G2 at *
                  generalize - v i % pn = G3 at *
                  exact ⟨- x1 - x2 * G3 - y i * Dp * x3, by grind⟩]
                iterate 6 (refine WP.st rfl ?_)
                have k4 := k3 (some (.long (zJ (- v i % pn))), none) trivial
                rw [nI_succ i] at k4
                exact k4
              refine WP.icf rfl (show ¬ I2 208 20 ≤ nI i by rw [hmn2]; exact nI_ge hi' (by omega)) ?_
              iterate 1 (refine WP.st rfl ?_)
              rcases hj with ⟨jn, j1, rfl, j3, j4⟩ | ⟨rfl, j3, j4⟩
              · obtain ⟨-, -, ri2, hri2⟩ := hRW2
                obtain ⟨s1, s2, s3, s4⟩ := hri2 i hi'
                have be := ent6 s4.1 j1
                refine WP.ift rfl (nI_pos' (by omega)) ?_
                iterate 6 (refine WP.st rfl ?_)
                refine WP.iald (k := i) rfl (rfl) (Or.inl rfl) (show i < 16 by omega) (rfl) ?_
                rw [show hI (hp L I2 K2 w) 223 i = nI (ri2 i) from s1]
                iterate 3 (refine WP.st rfl ?_)
                refine WP.iald (k := 17 * ri2 i + jn) rfl (ix17 (ri2 i) jn) (Or.inl rfl) (show 17 * ri2 i + jn < 391 by omega) (rfl) ?_
                rw [show hI (hp L I2 K2 w) 210 (17 * ri2 i + jn) = zI (A i jn) from s3 jn (by omega)]
                iterate 1 (refine WP.st rfl ?_)
                rw [zI_neg, ← j3 i hi']
                iterate 1 (refine WP.st rfl ?_)
                rw [zI_l (by omega) (by omega)]
                iterate 2 (refine WP.st rfl ?_)
                rw [zp]
                refine WP.calle rfl rfl (ev_rest _ (- v i) pn (by omega) (by omega) (by omega) (by omega)) ?_
                exact step _
              · skip
                refine WP.iff rfl (show ¬ (0 : Int32) ≤ -1 by decide) ?_
                iterate 2 (refine WP.st rfl ?_)
                refine WP.calle rfl rfl (ev_off L I2 K2 w n A hRW2 ρ hR82 i hi') ?_
                rw [← j3 i hi']
                iterate 1 (refine WP.st rfl ?_)
                rw [zI_l (by omega) (by omega)]
                iterate 2 (refine WP.st rfl ?_)
                rw [zp]
                refine WP.calle rfl rfl (ev_rest _ (- v i) pn (by omega) (by omega) (by omega) (by omega)) ?_
                iterate 1 (refine WP.st rfl ?_)
                exact step _
            · have hmn2 : I2 208 20 = nI n := hRW2.1
              refine WP.ict rfl (show I2 208 20 ≤ nI n by rw [hmn2]; exact nI_le (Nat.le_refl _) (by omega)) ?_
              exact last (fun k => if k = 10 then some (.int (nI n)) else if k = 11 then o2.1 else o2.2)
          rcases hj with ⟨jn, j1, rfl, j3, j4⟩ | ⟨rfl, j3, j4⟩
          · have rb := hρ jn j1
            have R0 := Int.emod_nonneg (ρ jn) (show (pn : Int) ≠ 0 by omega)
            have R1 := Int.emod_lt_of_pos (ρ jn) (show (0 : Int) < pn by omega)
            have P0 : 0 ≤ ρ jn % pn * Dp := Int.mul_nonneg R0 D0
            have P1 : ρ jn % pn * Dp ≤ (2 ^ 30 - 1) * (2 ^ 30 - 1) := Int.mul_le_mul (by omega) (by omega) (by omega) (by omega)
            refine WP.ift rfl (nI_pos' (by omega)) ?_
            iterate 3 (refine WP.st rfl ?_)
            refine WP.iald (k := jn) rfl (rfl) (Or.inl rfl) (show jn < 16 by omega) (rfl) ?_
            rw [show hI (hp L I2 K2 w) 209 jn = zI (ρ jn) from (hR82 jn j1).1]
            iterate 1 (refine WP.st rfl ?_)
            rw [zI_l (by omega) (by omega)]
            iterate 2 (refine WP.st rfl ?_)
            rw [zp]
            refine WP.calle rfl rfl (ev_rest _ (ρ jn) pn (by omega) (by omega) (by omega) (by omega)) ?_
            iterate 2 (refine WP.st rfl ?_)
            rw [zJ_mul]
            iterate 2 (refine WP.st rfl ?_)
            rw [zp]
            refine WP.lrem rfl (pz) ?_
            rw [zJ_remp P0 (by omega) (by omega) (by omega), emod_mul_l]
            iterate 6 (refine WP.st rfl ?_)
            rw [show Dp * (s - sm (fun j => v j * y j) 0) = ρ jn * Dp from by rw [j4]; show Dp * (ρ jn - 0) = _; grind] at loop
            exact loop
          · skip
            refine WP.iff rfl (show ¬ (0 : Int32) ≤ -1 by decide) ?_
            iterate 8 (refine WP.st rfl ?_)
            rw [show Dp * (s - sm (fun j => v j * y j) 0) % (pn : Int) = 0 from by rw [j4]; show Dp * (0 - 0) % (pn : Int) = 0; simp] at loop
            exact loop
    · obtain ⟨I2, K, f, o⟩ := σ
      obtain ⟨u1, u2, u3, u4, π2, M2, u5, u6, u7⟩ := hv
      dsimp only at u1 u2 u3 u4 u5 u6 u7 ⊢
      have := few2 u5 u7 d0 d1
      obtain rfl : f = 5 := by omega
      refine WP.ict rfl (nI_le (Nat.le_refl _) (by omega)) ?_
      exact fin I2 K π2 M2 7 (fun k => if k = 4 then some (.int (nI 7)) else o k) (by omega) (fun c h1 h2 h3 => (u1 c h2).trans (v1 c h1 h3)) (fun k h1 h2 => (congrFun (u1 208 (by decide)) k).trans (v2 k h1)) u2 u5 u6 u7
