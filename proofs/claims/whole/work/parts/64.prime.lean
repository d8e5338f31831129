/-! primes -/
/-- none of lo, lo + 2, .. divides n (2 ^ k of them) -/
def tdc (n : Nat) : Nat → Nat → Bool
  | 0, lo => !(Nat.beq (n % lo) 0)
  | k + 1, lo => tdc n k lo && tdc n k (lo + 2 * 2 ^ k)
theorem tdc_ok (n : Nat) : ∀ (k lo : Nat), tdc n k lo = true → ∀ i, i < 2 ^ k → n % (lo + 2 * i) ≠ 0
  | 0, lo, h, i, hi => by
    have : i = 0 := by rw [Nat.pow_zero] at hi; omega
    subst this
    intro z
    have h' : (!(Nat.beq (n % lo) 0)) = true := h
    rw [Nat.mul_zero, Nat.add_zero] at z
    rw [z] at h'
    exact absurd h' (by decide)
  | k + 1, lo, h, i, hi => by
    have h' : (tdc n k lo && tdc n k (lo + 2 * 2 ^ k)) = true := h
    rw [Bool.and_eq_true] at h'
    by_cases c : i < 2 ^ k
    · exact tdc_ok n k lo h'.1 i c
    · rw [Nat.pow_succ] at hi
      have := tdc_ok n k (lo + 2 * 2 ^ k) h'.2 (i - 2 ^ k) (by omega)
      rw [show lo + 2 * 2 ^ k + 2 * (i - 2 ^ k) = lo + 2 * i by omega] at this
      exact this
theorem pm_of {n : Nat} (h1 : 1 < n) (h2 : n % 2 = 1) (h3 : tdc n 15 3 = true) (h4 : n < 65536 * 65536) : pm (n : Int) := by
  have small : ∀ d, d ∣ n → d < 65537 → d = 1 := by
    intro d hd hl
    by_cases c : d = 1
    · exact c
    · exfalso
      have d0 : d ≠ 0 := fun z => by subst z; rw [Nat.zero_dvd] at hd; omega
      by_cases o : d % 2 = 0
      · have : 2 ∣ n := Nat.dvd_trans (Nat.dvd_of_mod_eq_zero o) hd
        omega
      · have h := tdc_ok n 15 3 h3 ((d - 3) / 2) (show (d - 3) / 2 < 32768 by omega)
        rw [show 3 + 2 * ((d - 3) / 2) = d by omega] at h
        exact h (Nat.mod_eq_zero_of_dvd hd)
  have dv : ∀ d, d ∣ n → d = 1 ∨ d = n := by
    intro d hd
    obtain ⟨e, he⟩ := hd
    by_cases c : d < 65537
    · exact Or.inl (small d ⟨e, he⟩ c)
    · by_cases c2 : e < 65537
      · have := small e ⟨d, by rw [he, Nat.mul_comm]⟩ c2
        subst this
        exact Or.inr (by omega)
      · have : 65537 * 65537 ≤ d * e := Nat.mul_le_mul (by omega) (by omega)
        omega
  refine ⟨by omega, fun a b h => ?_⟩
  have h' : n ∣ a.natAbs * b.natAbs := by
    have := Int.natAbs_dvd_natAbs.mpr h
    rw [Int.natAbs_mul] at this
    exact this
  rcases dv (Nat.gcd n a.natAbs) (Nat.gcd_dvd_left _ _) with g | g
  · right
    have := Nat.Coprime.dvd_of_dvd_mul_left (k := n) (m := a.natAbs) (n := b.natAbs) g h'
    exact Int.natAbs_dvd_natAbs.mp this
  · left
    have : n ∣ a.natAbs := by have := Nat.gcd_dvd_right n a.natAbs; rw [g] at this; exact this
    exact Int.natAbs_dvd_natAbs.mp this
set_option maxRecDepth 100000 in
theorem pm_c0 : pm 2147483647 := pm_of (n := 2147483647) (by decide) (by decide) (by decide +kernel) (by decide)
set_option maxRecDepth 100000 in
theorem pm_c1 : pm 2147483629 := pm_of (n := 2147483629) (by decide) (by decide) (by decide +kernel) (by decide)
set_option maxRecDepth 100000 in
theorem pm_c2 : pm 2147483587 := pm_of (n := 2147483587) (by decide) (by decide) (by decide +kernel) (by decide)
set_option maxRecDepth 100000 in
theorem pm_c3 : pm 2147483579 := pm_of (n := 2147483579) (by decide) (by decide) (by decide +kernel) (by decide)
set_option maxRecDepth 100000 in
theorem pm_c4 : pm 2147483563 := pm_of (n := 2147483563) (by decide) (by decide) (by decide +kernel) (by decide)
set_option maxRecDepth 100000 in
theorem pm_c5 : pm 2147483549 := pm_of (n := 2147483549) (by decide) (by decide) (by decide +kernel) (by decide)
set_option maxRecDepth 100000 in
theorem pm_r0 : pm 1073741789 := pm_of (n := 1073741789) (by decide) (by decide) (by decide +kernel) (by decide)
set_option maxRecDepth 100000 in
theorem pm_r1 : pm 1073741783 := pm_of (n := 1073741783) (by decide) (by decide) (by decide +kernel) (by decide)
set_option maxRecDepth 100000 in
theorem pm_r2 : pm 1073741741 := pm_of (n := 1073741741) (by decide) (by decide) (by decide +kernel) (by decide)
set_option maxRecDepth 100000 in
theorem pm_r3 : pm 1073741723 := pm_of (n := 1073741723) (by decide) (by decide) (by decide +kernel) (by decide)
set_option maxRecDepth 100000 in
theorem pm_r4 : pm 1073741719 := pm_of (n := 1073741719) (by decide) (by decide) (by decide +kernel) (by decide)
set_option maxRecDepth 100000 in
theorem pm_r5 : pm 1073741717 := pm_of (n := 1073741717) (by decide) (by decide) (by decide +kernel) (by decide)
set_option maxRecDepth 100000 in
theorem pm_r6 : pm 1073741689 := pm_of (n := 1073741689) (by decide) (by decide) (by decide +kernel) (by decide)
/-- the class's primes and the reference's -/
def pc (i : Nat) : Int := match i with
  | 0 => 2147483647
  | 1 => 2147483629
  | 2 => 2147483587
  | 3 => 2147483579
  | 4 => 2147483563
  | _ => 2147483549
def qr (i : Nat) : Int := match i with
  | 0 => 1073741789
  | 1 => 1073741783
  | 2 => 1073741741
  | 3 => 1073741723
  | 4 => 1073741719
  | 5 => 1073741717
  | _ => 1073741689
theorem pc_pm (i : Nat) : pm (pc i) := match i with
  | 0 => pm_c0
  | 1 => pm_c1
  | 2 => pm_c2
  | 3 => pm_c3
  | 4 => pm_c4
  | _ + 5 => pm_c5
theorem qr_pm (i : Nat) : pm (qr i) := match i with
  | 0 => pm_r0
  | 1 => pm_r1
  | 2 => pm_r2
  | 3 => pm_r3
  | 4 => pm_r4
  | 5 => pm_r5
  | _ + 6 => pm_r6
theorem pc_ge (i : Nat) : 2147483549 ≤ pc i ∧ pc i < 2 ^ 31 := by unfold pc; split <;> decide
theorem qr_ge (i : Nat) : 1073741689 ≤ qr i ∧ qr i < 2 ^ 30 := by unfold qr; split <;> decide
theorem pc_ne : ∀ i, i < 6 → ∀ j, j < 6 → i ≠ j → ¬ pc i ∣ pc j := by decide
theorem qr_ne : ∀ i, i < 7 → ∀ j, j < 7 → i ≠ j → ¬ qr i ∣ qr j := by decide
theorem pm_gcd {p a : Int} (hp : pm p) (h : ¬ p ∣ a) : Int.gcd a p = 1 := by
  have p1 := hp.1
  have hg1 : ((Int.gcd a p : Nat) : Int) ∣ p := Int.gcd_dvd_right ..
  have hg2 : ((Int.gcd a p : Nat) : Int) ∣ a := Int.gcd_dvd_left ..
  generalize Int.gcd a p = g at *
  obtain ⟨e, he⟩ := hg1
  have : p ∣ (g : Int) * e := by rw [← he]; exact Int.dvd_refl p
  rcases hp.2 _ _ this with h1 | h1
  · exact absurd (Int.dvd_trans h1 hg2) h
  · obtain ⟨f, hf⟩ := h1
    rw [hf] at he
    have e2 : (g : Int) * f = 1 := by
      have : p * ((g : Int) * f) = p * 1 := by grind
      exact Int.eq_of_mul_eq_mul_left (by omega) this
    have := Int.eq_one_of_dvd_one (by omega) ⟨f, e2.symm⟩
    omega
