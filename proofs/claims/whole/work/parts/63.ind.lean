/-! rows free of one another: over the whole numbers, and by the remainders of a prime -/
theorem sm_cast (f : Nat → Int) : ∀ n, ((sm f n : Int) : Rat) = sm (fun i => ((f i : Int) : Rat)) n
  | 0 => rfl
  | n + 1 => by
    show ((sm f n + f n : Int) : Rat) = sm _ n + ((f n : Int) : Rat)
    rw [Rat.intCast_add, sm_cast f n]
theorem sn_cast : ∀ n, ((sn n : Int) : Rat) = sn n
  | 0 => rfl
  | n + 1 => by
    show ((- sn n : Int) : Rat) = - sn n
    rw [Rat.intCast_neg, sn_cast n]
theorem det_cast : ∀ (n : Nat) (M : Nat → Nat → Int), ((det n M : Int) : Rat) = det n (fun i j => ((M i j : Int) : Rat))
  | 0, _ => rfl
  | n + 1, M => by
    show ((sm _ (n + 1) : Int) : Rat) = sm _ (n + 1)
    rw [sm_cast]
    refine sm_congr (n + 1) (fun i _ => ?_)
    rw [Rat.intCast_mul, Rat.intCast_mul, sn_cast, det_cast n (dl M i)]
    rfl
def cR (A : Nat → Nat → Int) : Nat → Nat → Rat := fun i c => ((A i c : Int) : Rat)
theorem dt_cast (D : Nat) (u v : Nat → Int) : ((dt D u v : Int) : Rat) = dt D (fun c => ((u c : Int) : Rat)) (fun c => ((v c : Int) : Rat)) := by
  unfold dt
  rw [sm_cast]
  exact sm_congr D (fun c _ => Rat.intCast_mul _ _)
theorem gd_cast (D n : Nat) (A : Nat → Nat → Int) : ((gd D n A : Int) : Rat) = gd D n (cR A) := by
  unfold gd
  rw [det_cast]
  exact det_congr n (fun i j _ _ => dt_cast D _ _)
theorem bf_cast (D n : Nat) (A : Nat → Nat → Int) (u v : Nat → Int) : ((bf n (gm D A) u v : Int) : Rat) = bf n (gm D (cR A)) (fun c => ((u c : Int) : Rat)) (fun c => ((v c : Int) : Rat)) := by
  unfold bf
  rw [det_cast]
  refine det_congr (n + 1) (fun i j _ _ => ?_)
  unfold bd
  by_cases h1 : i < n
  · by_cases h2 : j < n
    · simp only [h1, h2, if_true]; exact dt_cast D _ _
    · simp only [h1, h2, if_true, if_false]
  · by_cases h2 : j < n
    · simp only [h1, h2, if_true, if_false]; exact Rat.intCast_neg _
    · simp only [h1, h2, if_false]; rfl
def ind (D n : Nat) (A : Nat → Nat → Int) : Prop := ∀ c : Nat → Int, (∀ k, k < D → sm (fun i => c i * A i k) n = 0) → ∀ i, i < n → c i = 0
def imd (p : Int) (D n : Nat) (A : Nat → Nat → Int) : Prop := ∀ c : Nat → Int, (∀ k, k < D → p ∣ sm (fun i => c i * A i k) n) → ∀ i, i < n → p ∣ c i
/-- a prime -/
def pm (p : Int) : Prop := 1 < p ∧ ∀ a b : Int, p ∣ a * b → p ∣ a ∨ p ∣ b
theorem rat_den (x : Rat) : x * ((x.den : Int) : Rat) = ((x.num : Int) : Rat) := by
  have h := Rat.num_divInt_den x
  have hd : (x.den : Int) ≠ 0 := by have := x.den_nz; omega
  rw [Rat.divInt_eq_div] at h
  have h2 : ((x.den : Int) : Rat) ≠ 0 := fun z => hd (Rat.intCast_inj.mp z)
  have h3 := Rat.div_mul_cancel (a := ((x.num : Int) : Rat)) h2
  rw [h] at h3
  exact h3
/-- one number that makes whole numbers of all -/
theorem clr (t : Nat → Rat) : ∀ n, ∃ d : Int, d ≠ 0 ∧ ∀ j, j < n → ((d : Int) : Rat) * t j = (((((d : Int) : Rat) * t j).num : Int) : Rat)
  | 0 => ⟨1, by decide, fun j hj => absurd hj (Nat.not_lt_zero j)⟩
  | n + 1 => by
    obtain ⟨d, d0, hd⟩ := clr t n
    refine ⟨d * (t n).den, Int.mul_ne_zero d0 (by have := (t n).den_nz; omega), fun j hj => ?_⟩
    have key : ∃ z : Int, (((d * (t n).den : Int) : Int) : Rat) * t j = (z : Rat) := by
      by_cases e : j = n
      · subst e
        refine ⟨d * (t j).num, ?_⟩
        rw [Rat.intCast_mul, Rat.intCast_mul, ← rat_den (t j)]
        grind
      · refine ⟨(t n).den * (((d : Int) : Rat) * t j).num, ?_⟩
        rw [Rat.intCast_mul, Rat.intCast_mul, ← hd j (by omega)]
        grind
    obtain ⟨z, hz⟩ := key
    rw [hz, Rat.num_intCast]
theorem ind_gd {D n : Nat} {A : Nat → Nat → Int} (h : ind D n A) : 0 < gd D n A := by
  have h0 := (gd_had D n (cR A)).1
  rw [← gd_cast, Rat.intCast_nonneg] at h0
  by_cases hz : gd D n A = 0
  · exfalso
    have hz2 : gd D n (cR A) = 0 := by rw [← gd_cast, hz]; rfl
    obtain ⟨i, hi, t, ht⟩ := gd_dep D n (cR A) hz2
    obtain ⟨d, d0, hd⟩ := clr t i
    have := h (fun j => if j < i then (((d : Int) : Rat) * t j).num else if j = i then -d else 0) (fun k hk => ?_) i hi
    · rw [if_neg (by omega), if_pos rfl] at this
      omega
    · rw [← Rat.intCast_inj, sm_cast]
      have e1 : sm (fun j => (((if j < i then (((d : Int) : Rat) * t j).num else if j = i then -d else 0) * A j k : Int) : Rat)) n = sm (fun j => (((if j < i then (((d : Int) : Rat) * t j).num else if j = i then -d else 0) * A j k : Int) : Rat)) (i + 1) := by
        have key : ∀ m, sm (fun j => (((if j < i then (((d : Int) : Rat) * t j).num else if j = i then -d else 0) * A j k : Int) : Rat)) (i + 1 + m) = sm (fun j => (((if j < i then (((d : Int) : Rat) * t j).num else if j = i then -d else 0) * A j k : Int) : Rat)) (i + 1) := by
          intro m
          induction m with
          | zero => rfl
          | succ m ih =>
            show sm _ (i + 1 + m) + (((if i + 1 + m < i then (((d : Int) : Rat) * t (i + 1 + m)).num else if i + 1 + m = i then -d else 0) * A (i + 1 + m) k : Int) : Rat) = _
            rw [ih, if_neg (by omega), if_neg (by omega), Int.zero_mul]
            exact Rat.add_zero _
        have z := key (n - (i + 1))
        rw [show i + 1 + (n - (i + 1)) = n by omega] at z
        exact z
      rw [e1]
      show sm _ i + (((if i < i then (((d : Int) : Rat) * t i).num else if i = i then -d else 0) * A i k : Int) : Rat) = _
      rw [if_neg (show ¬ i < i by omega), if_pos (show i = i from rfl)]
      have e2 := ht k hk
      rw [sm_congr (g := fun j => ((d : Int) : Rat) * (t j * cR A j k)) i (fun j hj => by rw [if_pos hj, Rat.intCast_mul, ← hd j hj]; unfold cR; grind), sm_mul, ← e2, Rat.intCast_mul, Rat.intCast_neg]
      unfold cR
      show _ = ((0 : Int) : Rat)
      rw [Rat.intCast_zero]
      grind
  · omega
theorem sm_split {K : Type} [Lean.Grind.CommRing K] (f : Nat → K) (k : Nat) : ∀ n, k < n → sm f n = f k + sm (fun i => if i = k then 0 else f i) n
  | 0, h => absurd h (Nat.not_lt_zero k)
  | n + 1, h => by
    show sm f n + f n = f k + (sm (fun i => if i = k then 0 else f i) n + (if n = k then 0 else f n))
    by_cases e : n = k
    · subst e
      rw [if_pos rfl, sm_congr (g := f) n (fun i hi => if_neg (by omega))]
      grind
    · rw [if_neg e, sm_split f k n (by omega)]
      grind
/-- a sum of the rows put in the place of the k-th -/
theorem gd_comb (D n : Nat) (A : Nat → Nat → Int) (c : Nat → Int) (k : Nat) (hk : k < n) : gd D n (rs A k (fun j => sm (fun i => c i * A i j) n)) = c k * c k * gd D n A := by
  have h1 := gd_scale D n A k (A k) (c k) hk
  rw [rs_self] at h1
  rw [← h1, ← gd_ops D n (rs A k (fun j => c k * A k j)) k (fun j => if j = k then 0 else c j) hk n (Nat.le_refl n) (fun j _ e => if_pos e)]
  refine gd_congr (fun i j hi hj => ?_)
  by_cases e : i = k
  · rw [e, rs_at, rs_at]
    rw [rs_at, sm_split _ k n hk]
    congr 1
    refine sm_congr n (fun i _ => ?_)
    by_cases e2 : i = k
    · rw [if_pos e2, if_pos e2, Int.zero_mul]
    · rw [if_neg e2, if_neg e2, rs_off _ _ e2]
  · rw [rs_off _ _ e, rs_off _ _ e, rs_off _ _ e]
theorem pm_sq {p a b : Int} (hp : pm p) (ha : ¬ p ∣ a) (h : p * p ∣ a * a * b) : p * p ∣ b := by
  have p0 : p ≠ 0 := by have := hp.1; omega
  have n2 : ¬ p ∣ a * a := fun z => by rcases hp.2 a a z with z | z <;> exact ha z
  have h1 : p ∣ a * a * b := Int.dvd_trans (Int.dvd_mul_right p p) h
  rcases hp.2 _ _ h1 with z | ⟨b1, rfl⟩
  · exact absurd z n2
  · obtain ⟨z, hz⟩ := h
    have h2 : p ∣ a * a * b1 := ⟨z, Int.eq_of_mul_eq_mul_left p0 (by grind)⟩
    rcases hp.2 _ _ h2 with z | ⟨b2, rfl⟩
    · exact absurd z n2
    · exact ⟨b2, by grind⟩
/-- rows that a prime can't tell apart: its square divides their determinant -/
theorem imd_sq {p : Int} {D n : Nat} {A : Nat → Nat → Int} (hp : pm p) (h : ¬ imd p D n A) : p * p ∣ gd D n A := by
  unfold imd at h
  rw [Classical.not_forall] at h
  obtain ⟨c, h⟩ := h
  rw [Classical.not_imp] at h
  obtain ⟨hc, h⟩ := h
  rw [Classical.not_forall] at h
  obtain ⟨k, h⟩ := h
  rw [Classical.not_imp] at h
  obtain ⟨hk, h⟩ := h
  refine pm_sq hp h ?_
  rw [← gd_comb D n A c k hk]
  have h1 := gd_scale D n A k (fun j => sm (fun i => c i * A i j) n / p) p hk
  have h2 : gd D n (rs A k (fun j => sm (fun i => c i * A i j) n)) = gd D n (rs A k (fun j => p * (sm (fun i => c i * A i j) n / p))) := gd_congr (fun i j hi hj => by
    unfold rs
    split
    · exact (Int.mul_ediv_cancel' (hc j hj)).symm
    · rfl)
  rw [h2, h1]
  exact Int.dvd_mul_right _ _
theorem imd_two {p q : Int} {D n : Nat} {A : Nat → Nat → Int} (hp : pm p) (hq : pm q) (hpq : ¬ p ∣ q) (hi : ind D n A) (hb : gd D n A < p * p * (q * q)) : imd p D n A ∨ imd q D n A := by
  by_cases h1 : imd p D n A
  · exact Or.inl h1
  · by_cases h2 : imd q D n A
    · exact Or.inr h2
    · exfalso
      have g0 := ind_gd hi
      obtain ⟨a, ha⟩ := imd_sq hq h2
      have h3 := imd_sq hp h1
      rw [ha] at h3
      obtain ⟨b, hb2⟩ := pm_sq hp hpq h3
      rw [hb2] at ha
      have q1 := hq.1
      have p1 := hp.1
      have e : gd D n A = p * p * (q * q) * b := by rw [ha]; grind
      have pos : 0 < p * p * (q * q) := Int.mul_pos (Int.mul_pos (by omega) (by omega)) (Int.mul_pos (by omega) (by omega))
      have b1 : 1 ≤ b := by
        by_cases hb0 : b ≤ 0
        · have := Int.mul_nonneg (Int.le_of_lt pos) (show 0 ≤ -b by omega)
          grind
        · omega
      have := Int.mul_le_mul_of_nonneg_left b1 (Int.le_of_lt pos)
      rw [Int.mul_one] at this
      omega
/-- short rows: the factors of a telling -/
def srt (n : Nat) (A : Nat → Nat → Int) : Prop := ∀ i, i < n → dt 16 (A i) (A i) ≤ 36 ∧ -2000 ≤ A i 16 ∧ A i 16 ≤ 2000
theorem srt_R {n : Nat} {A : Nat → Nat → Int} (h : srt n A) : ∀ i, i < n → dt 16 (cR A i) (cR A i) ≤ 36 := fun i hi => by
  have h1 := (h i hi).1
  rw [← Rat.intCast_le_intCast, dt_cast] at h1
  exact h1
theorem gd_16 {n : Nat} {A : Nat → Nat → Int} (h : srt n A) : gd 16 n A ≤ 37 ^ n := by
  have h1 := gd_37 (srt_R h)
  rw [← gd_cast] at h1
  rw [← Rat.intCast_le_intCast, Rat.intCast_pow]
  exact h1
theorem bf_int {n : Nat} {A : Nat → Nat → Int} (h : srt n A) {u v : Nat → Int} {U V : Int} (hu : ∀ i, i < n → -U ≤ u i ∧ u i ≤ U) (hv : ∀ i, i < n → -V ≤ v i ∧ v i ≤ V) : -(n * (V * (n * (U * 37 ^ n)))) ≤ bf n (gm 16 A) u v ∧ bf n (gm 16 A) u v ≤ n * (V * (n * (U * 37 ^ n))) := by
  have cw : ∀ x B : Int, -B ≤ x ∧ x ≤ B → wn (x : Rat) (B : Rat) := fun x B hx => by
    obtain ⟨a, b⟩ := hx
    rw [← Rat.intCast_le_intCast] at a b
    rw [Rat.intCast_neg] at a
    exact ⟨a, b⟩
  obtain ⟨a, b⟩ := bf_bound (srt_R h) (u := fun c => ((u c : Int) : Rat)) (v := fun c => ((v c : Int) : Rat)) (fun i hi => cw _ _ (hu i hi)) (fun i hi => cw _ _ (hv i hi))
  rw [← bf_cast] at a b
  have e : ((n * (V * (n * (U * 37 ^ n))) : Int) : Rat) = n * (V * (n * (U * 37 ^ n))) := by
    rw [Rat.intCast_mul, Rat.intCast_mul, Rat.intCast_mul, Rat.intCast_mul, Rat.intCast_pow]
    rfl
  rw [← e] at a b
  rw [← Rat.intCast_neg, Rat.intCast_le_intCast] at a
  rw [Rat.intCast_le_intCast] at b
  exact ⟨a, b⟩
theorem gd_17 {n : Nat} {A : Nat → Nat → Int} (h : srt n A) : gd 17 n A ≤ 37 ^ n + n * (2000 * (n * (2000 * 37 ^ n))) := by
  have e : gd 17 n A = gd 17 n (ax 16 A (fun i => A i 16)) := gd_congr (fun i c _ hc => by
    unfold ax
    split
    · rfl
    · rw [show c = 16 by omega])
  rw [e, gd_ax]
  have h1 := gd_16 h
  have h2 := (bf_int h (u := fun i => A i 16) (v := fun i => A i 16) (U := 2000) (V := 2000) (fun i hi => (h i hi).2) (fun i hi => (h i hi).2)).2
  omega
theorem pow_37 {n : Nat} (hn : n ≤ 17) : (37 : Int) ^ n ≤ 37 ^ 17 := by
  have : (37 : Nat) ^ n ≤ 37 ^ 17 := Nat.pow_le_pow_right (by omega) hn
  exact_mod_cast this
/-- of two primes at least one sees what is free -/
theorem see {p q : Int} {D n : Nat} {A : Nat → Nat → Int} (hD : D = 16 ∨ D = 17) (hp : pm p) (hq : pm q) (hpq : ¬ p ∣ q) (p1 : 1073741689 ≤ p) (q1 : 1073741689 ≤ q) (hn : n ≤ 17) (h : srt n A) (hi : ind D n A) : imd p D n A ∨ imd q D n A := by
  refine imd_two hp hq hpq hi ?_
  have a := pow_37 hn
  have a0 : (0 : Int) ≤ 37 ^ n := Int.pow_nonneg (by decide)
  have b : 1073741689 * 1073741689 * (1073741689 * 1073741689) ≤ p * p * (q * q) := Int.mul_le_mul (Int.mul_le_mul p1 p1 (by omega) (by omega)) (Int.mul_le_mul q1 q1 (by omega) (by omega)) (by omega) (Int.mul_nonneg (by omega) (by omega))
  have g16 := gd_16 h
  have g17 := gd_17 h
  generalize (37 : Int) ^ n = z at *
  refine Int.lt_of_lt_of_le ?_ b
  have z2 : (n : Int) * (2000 * (n * (2000 * z))) ≤ 17 * (2000 * (17 * (2000 * 37 ^ 17))) := by
    have e1 : (n : Int) * (2000 * z) ≤ 17 * (2000 * 37 ^ 17) := Int.mul_le_mul (by omega) (by omega) (by omega) (by omega)
    have e0 : 0 ≤ (n : Int) * (2000 * z) := Int.mul_nonneg (by omega) (by omega)
    exact Int.mul_le_mul (by omega) (by omega) (by omega) (by omega)
  rcases hD with rfl | rfl
  · omega
  · omega
