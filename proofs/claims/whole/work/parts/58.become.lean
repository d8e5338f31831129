/-! Fraction.become -/
theorem mm_up_at {α : Type} (f : Nat → Nat → α) (a k : Nat) (v : α) : mm_up f a k v a k = v := if_pos ⟨rfl, rfl⟩
theorem mm_up_off {α : Type} (f : Nat → Nat → α) {a k b j : Nat} (v : α) (h : ¬ (b = a ∧ j = k)) : mm_up f a k v b j = f b j := if_neg h
theorem dvd_of_mul_eq {a b q : Nat} (h : a = q * b) : b ∣ a := ⟨q, by rw [h, Nat.mul_comm]⟩
/-- the fraction becomes X by Y, in lowest terms -/
def fa (X Y : Nat) : Nat := X / Nat.gcd X Y
def fbl (X Y : Nat) : Nat := Y / Nat.gcd X Y
theorem gcd_half {A B : Nat} (ha : A % 2 = 0) (hb : B % 2 = 0) : Nat.gcd A B = 2 * Nat.gcd (A / 2) (B / 2) := by
  obtain ⟨a, rfl⟩ : ∃ a, A = 2 * a := ⟨A / 2, by omega⟩
  obtain ⟨b, rfl⟩ : ∃ b, B = 2 * b := ⟨B / 2, by omega⟩
  rw [Nat.gcd_mul_left]
  congr 2 <;> omega
/-- halving both: the quotients by the greatest divisor stay, one is odd at the end -/
theorem hb_ok : ∀ (d A B : Nat), 0 < A → A < 2 ^ d → (hb d A B).1 / Nat.gcd (hb d A B).1 (hb d A B).2 = A / Nat.gcd A B ∧ (hb d A B).2 / Nat.gcd (hb d A B).1 (hb d A B).2 = B / Nat.gcd A B ∧ ((hb d A B).1 % 2 = 1 ∨ (hb d A B).2 % 2 = 1) ∧ 0 < (hb d A B).1 ∧ (hb d A B).1 ≤ A ∧ (hb d A B).2 ≤ B ∧ (0 < B → 0 < (hb d A B).2)
  | 0, A, B, h0, h1 => by rw [Nat.pow_zero] at h1; omega
  | d + 1, A, B, h0, h1 => by
    by_cases q : A % 2 = 0 ∧ B % 2 = 0
    · have e : hb (d + 1) A B = hb d (A / 2) (B / 2) := if_pos q
      rw [e]
      obtain ⟨a1, a2, a3, a4, a5, a6, a7⟩ := hb_ok d (A / 2) (B / 2) (by omega) (by rw [Nat.pow_succ] at h1; omega)
      refine ⟨a1.trans ?_, a2.trans ?_, a3, a4, by omega, by omega, fun z => a7 (by omega)⟩
      · rw [gcd_half q.1 q.2, ← Nat.div_div_eq_div_mul]
      · rw [gcd_half q.1 q.2, ← Nat.div_div_eq_div_mul]
    · have e : hb (d + 1) A B = (A, B) := if_neg q
      rw [e]
      exact ⟨rfl, rfl, by show A % 2 = 1 ∨ B % 2 = 1; omega, h0, Nat.le_refl _, Nat.le_refl _, fun z => z⟩
theorem mo_s (d A : Nat) : mo (d + 1) A = if A % 2 = 0 then mo d (A / 2) else A := rfl
theorem cop2 {x : Nat} (hx : x % 2 = 1) : Nat.Coprime x 2 := by
  unfold Nat.Coprime
  rw [Nat.gcd_comm, Nat.gcd_rec, hx, Nat.gcd_one_left]
/-- what is odd has the same divisors in common with the odd part -/
theorem mo_ok : ∀ (d A : Nat), 0 < A → A < 2 ^ d → mo d A % 2 = 1 ∧ 0 < mo d A ∧ mo d A ≤ A ∧ (∀ x, x % 2 = 1 → Nat.gcd x (mo d A) = Nat.gcd x A)
  | 0, A, h0, h1 => by rw [Nat.pow_zero] at h1; omega
  | d + 1, A, h0, h1 => by
    rw [mo_s]
    by_cases q : A % 2 = 0
    · rw [if_pos q]
      obtain ⟨a1, a2, a3, a4⟩ := mo_ok d (A / 2) (by omega) (by rw [Nat.pow_succ] at h1; omega)
      refine ⟨a1, a2, by omega, fun x hx => (a4 x hx).trans ?_⟩
      obtain ⟨a, rfl⟩ : ∃ a, A = 2 * a := ⟨A / 2, by omega⟩
      rw [show 2 * a / 2 = a by omega]
      exact (Nat.Coprime.gcd_mul_left_cancel_right a (cop2 hx).symm).symm
    · rw [if_neg q]
      exact ⟨by omega, h0, Nat.le_refl _, fun _ _ => rfl⟩
theorem bg_s (d x y : Nat) : bg (d + 1) x y = if x = y then (x, y) else if y < x then bg d (mo 150 (x - y)) y else bg d x (mo 150 (y - x)) := rfl
theorem mo_half {d A : Nat} (h0 : 0 < A) (he : A % 2 = 0) (h1 : A < 2 ^ (d + 1)) : 2 * mo (d + 1) A ≤ A := by
  rw [mo_s, if_pos he]
  have := (mo_ok d (A / 2) (by omega) (by rw [Nat.pow_succ] at h1; omega)).2.2.1
  omega
theorem bg_ok : ∀ (d x y : Nat), x % 2 = 1 → y % 2 = 1 → x < 2 ^ 150 → y < 2 ^ 150 → x * y < 2 ^ d → (bg d x y).1 = Nat.gcd x y
  | 0, x, y, hx, hy, lx, ly, h => by
    have : 1 * 1 ≤ x * y := Nat.mul_le_mul (by omega) (by omega)
    rw [Nat.pow_zero] at h
    omega
  | d + 1, x, y, hx, hy, lx, ly, h => by
    rw [bg_s]
    by_cases e : x = y
    · rw [if_pos e, e, Nat.gcd_self]
    · rw [if_neg e]
      by_cases lt : y < x
      · rw [if_pos lt]
        obtain ⟨m1, m2, m3, m4⟩ := mo_ok 150 (x - y) (by omega) (by omega)
        have m5 : 2 * mo 150 (x - y) ≤ x - y := mo_half (d := 149) (A := x - y) (by omega) (by omega) (by omega)
        have hm : 2 * (mo 150 (x - y) * y) ≤ x * y := by
          rw [← Nat.mul_assoc]
          exact Nat.mul_le_mul (by omega) (Nat.le_refl _)
        rw [bg_ok d (mo 150 (x - y)) y m1 hy (by omega) ly (by rw [Nat.pow_succ] at h; omega)]
        rw [Nat.gcd_comm, m4 y hy, Nat.gcd_comm, Nat.gcd_sub_self_left (by omega)]
      · rw [if_neg lt]
        obtain ⟨m1, m2, m3, m4⟩ := mo_ok 150 (y - x) (by omega) (by omega)
        have m5 : 2 * mo 150 (y - x) ≤ y - x := mo_half (d := 149) (A := y - x) (by omega) (by omega) (by omega)
        have hm : 2 * (x * mo 150 (y - x)) ≤ x * y := by
          rw [Nat.mul_left_comm]
          exact Nat.mul_le_mul (Nat.le_refl _) (by omega)
        rw [bg_ok d x (mo 150 (y - x)) hx m1 lx (by omega) (by rw [Nat.pow_succ] at h; omega)]
        rw [m4 x hx, Nat.gcd_sub_self_right (by omega)]

theorem mo_odd {A : Nat} (h : A % 2 = 1) : mo 150 A = A := (mo_s 149 A).trans (if_neg (by omega))
theorem bg_all {A B : Nat} (hA : 0 < A) (hB : 0 < B) (lA : A < 2 ^ 150) (lB : B < 2 ^ 150) (ho : A % 2 = 1 ∨ B % 2 = 1) : (bg 300 (mo 150 A) (mo 150 B)).1 = Nat.gcd A B := by
  obtain ⟨a1, a2, a3, a4⟩ := mo_ok 150 A hA lA
  obtain ⟨b1, b2, b3, b4⟩ := mo_ok 150 B hB lB
  rw [bg_ok 300 _ _ a1 b1 (by omega) (by omega) ?_]
  · rw [b4 _ a1]
    rcases ho with h | h
    · rw [mo_odd h]
    · rw [Nat.gcd_comm, a4 _ h, Nat.gcd_comm]
  · have : mo 150 A * mo 150 B ≤ (2 ^ 150 - 1) * (2 ^ 150 - 1) := Nat.mul_le_mul (by omega) (by omega)
    omega
theorem gcd_odd {A B : Nat} (ho : A % 2 = 1 ∨ B % 2 = 1) : Nat.gcd A B % 2 = 1 := by
  by_cases h : Nat.gcd A B % 2 = 0
  · have h1 : 2 ∣ Nat.gcd A B := Nat.dvd_of_mod_eq_zero h
    have h2 := Nat.dvd_trans h1 (Nat.gcd_dvd_left A B)
    have h3 := Nat.dvd_trans h1 (Nat.gcd_dvd_right A B)
    omega
  · omega
set_option maxHeartbeats 4000000 in
set_option maxRecDepth 20000 in
theorem sp_become (L : Nat) (I : Nat → Nat → Int32) (J : Nat → Nat → Int64) (w : Nat → Nat) (p x y : Nat → Int) (T D : Int) (hP : ∀ i, i < 4 → J 131 i = zJ (p i) ∧ 2 ≤ p i ∧ p i < 2 ^ 31) (p8 : 8 ≤ p 3) (hX : ∀ i, i < 4 → J 132 i = zJ (x i) ∧ x i = T % p i) (hY : ∀ i, i < 4 → J 133 i = zJ (y i) ∧ y i = D % p i) (hc : ∀ i, i < 4 → Int.gcd (pr p i) (p i) = 1) (hT : 4 * T < pr p 4 ∧ 4 * (-T) < pr p 4) (hD : 0 < D ∧ 4 * D < pr p 4) (q44 : pr p 4 < 2 ^ 124) : SP m_Fr_become [.ref 134, .ref 132, .ref 133, .ref 131] (hp L I J w) (fun r h => r = none ∧ ∃ J' : Nat → Nat → Int64, (∀ c, c ≠ 135 → c ≠ 136 → c ≠ 137 → c ≠ 138 → c ≠ 140 → J' c = J c) ∧ (∀ i, i < 5 → J' 135 i = zJ (dg (fa T.natAbs D.natAbs) i)) ∧ (∀ i, i < 5 → J' 136 i = zJ (dg (fbl T.natAbs D.natAbs) i)) ∧ h = hp L (mm_up I 134 0 (sg T)) J' w) := by
  unfold SP
  iterate 7 (refine WP.st rfl ?_)
  refine WP.call rfl rfl (sp_join L I J w 132 135 (by decide) (by decide) (by decide) (by decide) isL_135 (by decide) (by decide) p x T hP p8 hX hc hT) ?_
  rintro _ _ ⟨rfl, d, rfl⟩
  have r1 : ∀ c k, c ≠ 135 → c ≠ 140 → lm (dr J d 4) 135 T.natAbs c k = J c k := fun c k h1 h2 => (lm_off _ _ k h1).trans (dr_off J d 4 h2 k)
  iterate 7 (refine WP.st rfl ?_)
  refine WP.call rfl rfl (sp_join L (mm_up I 134 0 (sg T)) (lm (dr J d 4) 135 T.natAbs) w 133 136 (by decide) (by decide) (by decide) (by decide) isL_136 (by decide) (by decide) p y D (fun i hi => ⟨(r1 131 i (by decide) (by decide)).trans (hP i hi).1, (hP i hi).2⟩) p8 (fun i hi => ⟨(r1 133 i (by decide) (by decide)).trans (hY i hi).1, (hY i hi).2⟩) hc ⟨hD.2, by omega⟩) ?_
  rintro _ _ ⟨rfl, e, rfl⟩
  generalize hT2 : lm (dr J d 4) 135 T.natAbs = J1 at r1 ⊢
  have s1 : ∀ i, i < 5 → lm (dr J1 e 4) 136 D.natAbs 135 i = zJ (dg T.natAbs i) := fun i hi => (lm_off (a := 136) (c := 135) _ _ i (by decide)).trans ((dr_off J1 e 4 (by decide) i).trans (by rw [← hT2]; exact lm_at _ 135 _ hi))
  have s2 : ∀ i, i < 5 → lm (dr J1 e 4) 136 D.natAbs 136 i = zJ (dg D.natAbs i) := fun i hi => lm_at _ 136 _ hi
  have s3 : ∀ c, c ≠ 135 → c ≠ 136 → c ≠ 140 → lm (dr J1 e 4) 136 D.natAbs c = J c := fun c h1 h2 h3 => funext fun k => (lm_off _ _ k h2).trans ((dr_off J1 e 4 h3 k).trans (r1 c k h1 h3))
  generalize lm (dr J1 e 4) 136 D.natAbs = J2 at s1 s2 s3 ⊢
  clear r1 hT2
  iterate 3 (refine WP.st rfl ?_)
  have eside : hI (hp L (mm_up I 134 0 (sg T)) J2 w) 134 0 = sg T := mm_up_at I 134 0 (sg T)
  by_cases hz : T = 0
  · subst hz
    refine WP.iff rfl (fun z => z eside) ?_
    iterate 2 (refine WP.st rfl ?_)
    refine WP.calle rfl rfl (ev_clear L (mm_up I 134 0 (sg 0)) J2 w 136 isL_136) ?_
    iterate 4 (refine WP.st rfl ?_)
    refine WP.last (k := 0) rfl (rfl) (rfl) (show 0 < 5 by omega) (rfl) ?_
    refine WP.ret rfl ⟨rfl, mm_up (lm J2 136 0) 136 0 (zJ 1), fun c h1 h2 h3 h4 h5 => ?_, fun i hi => ?_, fun i hi => ?_, rfl⟩
    · funext k
      exact (if_neg (fun z => h2 z.1)).trans ((lm_off _ _ k h2).trans (congrFun (s3 c h1 h2 h5) k))
    · refine (if_neg (fun z => absurd z.1 (by decide))).trans ((lm_off (a := 136) (c := 135) _ _ i (by decide)).trans ((s1 i hi).trans ?_))
      unfold fa
      simp
    · have : fbl (0 : Int).natAbs D.natAbs = 1 := by
        unfold fbl
        simp
        exact Nat.div_self (by omega)
      rw [this]
      by_cases h0 : i = 0
      · subst h0
        exact if_pos ⟨rfl, rfl⟩
      · refine (if_neg (fun z => h0 z.2)).trans ((lm_at J2 136 0 hi).trans ?_)
        rw [dg_0]
        have : dg 1 i = 0 := by
          unfold dg
          rw [Nat.div_eq_of_lt (Nat.one_lt_pow h0 (by omega))]
        rw [this]
  · have hA : 0 < T.natAbs := by omega
    have hB : 0 < D.natAbs := by omega
    have lA : T.natAbs < 2 ^ 150 := by omega
    have lB : D.natAbs < 2 ^ 150 := by omega
    generalize T.natAbs = A at *
    generalize D.natAbs = B at *
    obtain ⟨b1, b2, b3, b4, b5, b6, b7⟩ := hb_ok 150 A B hA lA
    have b7 := b7 hB
    refine WP.ift rfl (fun z => hz (by have z2 := eside.symm.trans z; unfold sg at z2; by_cases c : T = 0; exact c; rw [if_neg c] at z2; split at z2 <;> exact absurd z2 (by decide))) ?_
    iterate 1 (refine WP.st rfl ?_)
    have eJ : J2 = lm (lm J2 135 A) 136 B := by
      rw [lm_self J2 135 A s1, lm_self J2 136 B s2]
    rw [eJ]
    refine WP.calle rfl rfl (ev_halveBoth L (mm_up I 134 0 (sg T)) J2 w A B (by omega) (by omega)) ?_
    generalize (hb 150 A B).1 = A1 at *
    generalize (hb 150 A B).2 = B1 at *
    have t1 : ∀ i, i < 5 → lm (lm J2 135 A1) 136 B1 135 i = zJ (dg A1 i) := fun i hi => (lm_off (a := 136) (c := 135) _ _ i (by decide)).trans (lm_at _ 135 _ hi)
    have t2 : ∀ i, i < 5 → lm (lm J2 135 A1) 136 B1 136 i = zJ (dg B1 i) := fun i hi => lm_at _ 136 _ hi
    have t3 : ∀ c, c ≠ 135 → c ≠ 136 → c ≠ 140 → lm (lm J2 135 A1) 136 B1 c = J c := fun c h1 h2 h3 => funext fun k => (lm_off _ _ k h2).trans ((lm_off _ _ k h1).trans (congrFun (s3 c h1 h2 h3) k))
    generalize lm (lm J2 135 A1) 136 B1 = J3 at t1 t2 t3 ⊢
    iterate 1 (refine WP.st rfl ?_)
    refine WP.calle rfl rfl (ev_findDivisor L (mm_up I 134 0 (sg T)) J3 w A1 B1 (by omega) (by omega) t1 t2) ?_
    have hg := bg_all b4 b7 (by omega) (by omega) b3
    have go := gcd_odd b3
    generalize (bg 300 (mo 150 A1) (mo 150 B1)).2 = y2
    rw [hg]
    have u1 : ∀ i, i < 5 → lm (lm J3 137 (Nat.gcd A1 B1)) 138 y2 135 i = zJ (dg (A1 / Nat.gcd A1 B1 * Nat.gcd A1 B1) i) := fun i hi => by
      rw [Nat.div_mul_cancel (Nat.gcd_dvd_left A1 B1)]
      exact (lm_off (a := 138) (c := 135) _ _ i (by decide)).trans ((lm_off (a := 137) (c := 135) _ _ i (by decide)).trans (t1 i hi))
    have u2 : ∀ i, i < 5 → lm (lm J3 137 (Nat.gcd A1 B1)) 138 y2 136 i = zJ (dg (B1 / Nat.gcd A1 B1 * Nat.gcd A1 B1) i) := fun i hi => by
      rw [Nat.div_mul_cancel (Nat.gcd_dvd_right A1 B1)]
      exact (lm_off (a := 138) (c := 136) _ _ i (by decide)).trans ((lm_off (a := 137) (c := 136) _ _ i (by decide)).trans (t2 i hi))
    have u3 : ∀ i, i < 5 → lm (lm J3 137 (Nat.gcd A1 B1)) 138 y2 137 i = zJ (dg (Nat.gcd A1 B1) i) := fun i hi => (lm_off (a := 138) (c := 137) _ _ i (by decide)).trans (lm_at _ 137 _ hi)
    have u4 : ∀ c, c ≠ 135 → c ≠ 136 → c ≠ 137 → c ≠ 138 → c ≠ 140 → lm (lm J3 137 (Nat.gcd A1 B1)) 138 y2 c = J c := fun c h1 h2 h3 h4 h5 => funext fun k => (lm_off _ _ k h4).trans ((lm_off _ _ k h3).trans (congrFun (t3 c h1 h2 h5) k))
    generalize lm (lm J3 137 (Nat.gcd A1 B1)) 138 y2 = J4 at u1 u2 u3 u4 ⊢
    iterate 4 (refine WP.st rfl ?_)
    refine WP.calle rfl rfl (ev_divideByOdd L (mm_up I 134 0 (sg T)) J4 w 135 137 (A1 / Nat.gcd A1 B1) (Nat.gcd A1 B1) (by decide) isL_135 isL_137 u1 u3 go) ?_
    iterate 4 (refine WP.st rfl ?_)
    refine WP.calle rfl rfl (ev_divideByOdd L (mm_up I 134 0 (sg T)) (lm J4 135 (A1 / Nat.gcd A1 B1)) w 136 137 (B1 / Nat.gcd A1 B1) (Nat.gcd A1 B1) (by decide) isL_136 isL_137 (fun i hi => (lm_off (a := 135) (c := 136) _ _ i (by decide)).trans (u2 i hi)) (fun i hi => (lm_off (a := 135) (c := 137) _ _ i (by decide)).trans (u3 i hi)) go) ?_
    refine WP.ret rfl ⟨rfl, lm (lm J4 135 (A1 / Nat.gcd A1 B1)) 136 (B1 / Nat.gcd A1 B1), fun c h1 h2 h3 h4 h5 => ?_, fun i hi => ?_, fun i hi => ?_, rfl⟩
    · funext k
      exact (lm_off _ _ k h2).trans ((lm_off _ _ k h1).trans (congrFun (u4 c h1 h2 h3 h4 h5) k))
    · refine (lm_off (a := 136) (c := 135) _ _ i (by decide)).trans ((lm_at _ 135 _ hi).trans ?_)
      rw [b1]
      rfl
    · refine (lm_at _ 136 _ hi).trans ?_
      rw [b2]
      rfl
