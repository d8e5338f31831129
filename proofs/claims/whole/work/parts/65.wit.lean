/-! what a witness keeps, as whole numbers -/
/-- a combination of a's rows, by the makings in x from 17 on -/
abbrev mk (x : Nat → Int) (a : Nat → Nat → Int) (c : Nat) : Int := sm (fun j => x (17 + j) * a j c) 16
def wv (p : Int) (r : Nat) (a R : Nat → Nat → Int) (l : Nat → Nat) : Prop := (∀ i, i < r → l i < 16) ∧ (∀ i, i < r → ∀ c, c < 33 → 0 ≤ R i c ∧ R i c < p) ∧ (∀ i, i < r → R i (l i) = 1) ∧ (∀ i j, i < j → j < r → R j (l i) = 0) ∧ (∀ i, i < r → ∀ c, c < 17 → p ∣ mk (R i) a c - R i c) ∧ (∀ i, i < r → ¬ p ∣ R i (17 + i)) ∧ (∀ i, i < r → ∀ j, i < j → j < 16 → R i (17 + j) = 0)
def lv (p : Int) (r i : Nat) (a : Nat → Nat → Int) (l : Nat → Nat) (t x : Nat → Int) : Prop := (∀ c, c < 33 → 0 ≤ x c ∧ x c < p) ∧ (∀ k, k < i → x (l k) = 0) ∧ (∀ c, c < 17 → p ∣ t c + mk x a c - x c) ∧ (∀ j, i ≤ j → j < 16 → x (17 + j) = 0)
theorem sm_cut {K : Type} [Lean.Grind.CommRing K] {f : Nat → K} {m : Nat} : ∀ n, m ≤ n → (∀ j, m ≤ j → j < n → f j = 0) → sm f n = sm f m
  | 0, h, _ => by rw [show m = 0 by omega]
  | n + 1, h, h0 => by
    by_cases e : m = n + 1
    · rw [e]
    · show sm f n + f n = _
      rw [sm_cut n (by omega) (fun j h1 h2 => h0 j h1 (by omega)), h0 n (by omega) (by omega)]
      grind
theorem sm_dm {p : Int} {f g : Nat → Int} : ∀ n, (∀ i, i < n → p ∣ f i - g i) → p ∣ sm f n - sm g n
  | 0, _ => Int.dvd_zero p
  | n + 1, h => by
    have h1 := sm_dm n (fun i hi => h i (by omega))
    have h2 := h n (by omega)
    have := Int.dvd_add h1 h2
    rw [show sm f n - sm g n + (f n - g n) = sm f (n + 1) - sm g (n + 1) by show _ = sm f n + f n - (sm g n + g n); omega] at this
    exact this
theorem wv_le {p : Int} {r r' : Nat} {a R : Nat → Nat → Int} {l : Nat → Nat} (h : wv p r a R l) (hr : r' ≤ r) : wv p r' a R l :=
  ⟨fun i hi => h.1 i (by omega), fun i hi => h.2.1 i (by omega), fun i hi => h.2.2.1 i (by omega), fun i j hi hj => h.2.2.2.1 i j hi (by omega), fun i hi => h.2.2.2.2.1 i (by omega), fun i hi => h.2.2.2.2.2.1 i (by omega), fun i hi => h.2.2.2.2.2.2 i (by omega)⟩
/-- a combination of the rows that is 0 at all leads is none -/
theorem wv_S {p : Int} (hp : pm p) {a R : Nat → Nat → Int} {l : Nat → Nat} : ∀ (r : Nat), r ≤ 16 → wv p r a R l → ∀ (y d : Nat → Int), (∀ c, c < 16 → p ∣ y c - sm (fun j => d j * a j c) r) → (∀ i, i < r → p ∣ y (l i)) → ∀ j, j < r → p ∣ d j
  | 0, _, _, _, _, _, _, j, hj => absurd hj (Nat.not_lt_zero j)
  | r + 1, hr, h, y, d, h1, h2, j, hj => by
    obtain ⟨a1, a2, a3, a4, a5, a6, a7⟩ := h
    have ih := wv_S hp r (by omega) (wv_le (r' := r) ⟨a1, a2, a3, a4, a5, a6, a7⟩ (by omega)) (fun c => R r (17 + r) * y c - d r * R r c) (fun j => R r (17 + r) * d j - d r * R r (17 + j)) (fun c hc => by
      obtain ⟨z1, hz1⟩ := h1 c hc
      obtain ⟨z2, hz2⟩ := a5 r (by omega) c (by omega)
      have e1 : mk (R r) a c = sm (fun j => R r (17 + j) * a j c) r + R r (17 + r) * a r c := by
        unfold mk
        rw [sm_cut (m := r + 1) 16 (by omega) (fun j h1 h2 => by rw [a7 r (by omega) j (by omega) h2]; exact Int.zero_mul _)]
        rfl
      have e2 : sm (fun j => d j * a j c) (r + 1) = sm (fun j => d j * a j c) r + d r * a r c := rfl
      have e3 : sm (fun j => (R r (17 + r) * d j - d r * R r (17 + j)) * a j c) r = R r (17 + r) * sm (fun j => d j * a j c) r + (- d r) * sm (fun j => R r (17 + j) * a j c) r := by
        rw [← sm_mul, ← sm_lin]
        exact sm_congr r (fun j _ => by grind)
      rw [e3]
      refine ⟨R r (17 + r) * z1 + d r * z2, ?_⟩
      rw [e1] at hz2
      rw [e2] at hz1
      grind) (fun i hi => by
      obtain ⟨z, hz⟩ := h2 i (by omega)
      rw [a4 i r hi (by omega), hz]
      exact ⟨R r (17 + r) * z, by grind⟩)
    have hdr : p ∣ d r := by
      have hl := a1 r (by omega)
      obtain ⟨z1, hz1⟩ := h1 (l r) hl
      obtain ⟨z2, hz2⟩ := a5 r (by omega) (l r) (by omega)
      obtain ⟨z3, hz3⟩ := h2 r (by omega)
      have e1 : mk (R r) a (l r) = sm (fun j => R r (17 + j) * a j (l r)) r + R r (17 + r) * a r (l r) := by
        unfold mk
        rw [sm_cut (m := r + 1) 16 (by omega) (fun j h1 h2 => by rw [a7 r (by omega) j (by omega) h2]; exact Int.zero_mul _)]
        rfl
      have e2 : sm (fun j => d j * a j (l r)) (r + 1) = sm (fun j => d j * a j (l r)) r + d r * a r (l r) := rfl
      have e3 : sm (fun j => (R r (17 + r) * d j - d r * R r (17 + j)) * a j (l r)) r = R r (17 + r) * sm (fun j => d j * a j (l r)) r + (- d r) * sm (fun j => R r (17 + j) * a j (l r)) r := by
        rw [← sm_mul, ← sm_lin]
        exact sm_congr r (fun j _ => by grind)
      obtain ⟨z4, hz4⟩ := sm_dvd (p := p) (f := fun j => (R r (17 + r) * d j - d r * R r (17 + j)) * a j (l r)) r (fun j hj => Int.dvd_mul_of_dvd_left (ih j hj))
      rw [e3] at hz4
      rw [e1, a3 r (by omega)] at hz2
      rw [e2] at hz1
      exact ⟨R r (17 + r) * z3 - R r (17 + r) * z1 - d r * z2 - z4, by grind⟩
    by_cases e : j = r
    · rw [e]; exact hdr
    · obtain ⟨z1, hz1⟩ := ih j (by omega)
      obtain ⟨z2, hz2⟩ := hdr
      have : p ∣ R r (17 + r) * d j := ⟨z1 + z2 * R r (17 + j), by grind⟩
      rcases hp.2 _ _ this with h3 | h3
      · exact absurd h3 (a6 r (by omega))
      · exact h3
theorem wv_imd {p : Int} (hp : pm p) {r : Nat} {a R : Nat → Nat → Int} {l : Nat → Nat} (hr : r ≤ 16) (h : wv p r a R l) : imd p 16 r a := fun c hc => wv_S hp r hr h (fun _ => 0) c (fun k hk => by
    obtain ⟨z, hz⟩ := hc k hk
    exact ⟨-z, by grind⟩) (fun _ _ => Int.dvd_zero p)
/-- a row behind r others -/
abbrev beh (a : Nat → Nat → Int) (r : Nat) (t : Nat → Int) : Nat → Nat → Int := fun i => if i < r then a i else t
theorem sm_beh (a : Nat → Nat → Int) (r : Nat) (t c : Nat → Int) (k : Nat) : sm (fun i => c i * beh a r t i k) (r + 1) = sm (fun i => c i * a i k) r + c r * t k := by
  show sm _ r + c r * beh a r t r k = _
  unfold beh
  rw [if_neg (by omega), sm_congr r (fun i hi => by rw [if_pos hi])]
theorem lv_cut {p : Int} {r : Nat} {a : Nat → Nat → Int} {l : Nat → Nat} {t x : Nat → Int} (hr : r ≤ 16) (h : lv p r r a l t x) (c : Nat) : mk x a c = sm (fun j => x (17 + j) * a j c) r := sm_cut 16 hr (fun j h1 h2 => by rw [h.2.2.2 j h1 h2]; exact Int.zero_mul _)
/-- what a relation of the rows with one more says of the makings -/
theorem lv_rel {p : Int} (hp : pm p) {r : Nat} {a R : Nat → Nat → Int} {l : Nat → Nat} {t x c : Nat → Int} (hr : r ≤ 16) (hw : wv p r a R l) (h : lv p r r a l t x) (hc : ∀ k, k < 16 → p ∣ sm (fun i => c i * beh a r t i k) (r + 1)) : ∀ j, j < r → p ∣ c r * x (17 + j) - c j := by
  refine wv_S hp r hr hw (fun k => c r * x k) (fun j => c r * x (17 + j) - c j) (fun k hk => ?_) (fun i hi => ?_)
  · obtain ⟨z1, hz1⟩ := hc k hk
    obtain ⟨z2, hz2⟩ := h.2.2.1 k (by omega)
    rw [lv_cut hr h] at hz2
    rw [sm_beh] at hz1
    have e : sm (fun j => (c r * x (17 + j) - c j) * a j k) r = c r * sm (fun j => x (17 + j) * a j k) r + (-1) * sm (fun i => c i * a i k) r := by
      rw [← sm_mul, ← sm_lin]
      exact sm_congr r (fun j _ => by grind)
    rw [e]
    exact ⟨z1 - c r * z2, by grind⟩
  · rw [h.2.1 i hi]
    exact ⟨0, by grind⟩
theorem nz_dvd {p x : Int} (h0 : 0 ≤ x) (h1 : x < p) (h : p ∣ x) : x = 0 := (Int.emod_eq_of_lt h0 h1).symm.trans (Int.emod_eq_zero_of_dvd h)
theorem lv_new {p : Int} (hp : pm p) {r : Nat} {a R : Nat → Nat → Int} {l : Nat → Nat} {t x : Nat → Int} (hr : r ≤ 16) (hw : wv p r a R l) (h : lv p r r a l t x) {k : Nat} (hk : k < 16) (hx : x k ≠ 0) : imd p 16 (r + 1) (beh a r t) := by
  intro c hc
  have h1 := lv_rel hp hr hw h hc
  have h2 : p ∣ c r := by
    obtain ⟨z1, hz1⟩ := hc k hk
    obtain ⟨z2, hz2⟩ := h.2.2.1 k (by omega)
    rw [lv_cut hr h] at hz2
    rw [sm_beh] at hz1
    obtain ⟨z3, hz3⟩ := sm_dvd (p := p) (f := fun j => (c r * x (17 + j) - c j) * a j k) r (fun j hj => Int.dvd_mul_of_dvd_left (h1 j hj))
    have e : sm (fun j => (c r * x (17 + j) - c j) * a j k) r = c r * sm (fun j => x (17 + j) * a j k) r + (-1) * sm (fun i => c i * a i k) r := by
      rw [← sm_mul, ← sm_lin]
      exact sm_congr r (fun j _ => by grind)
    rw [e] at hz3
    have : p ∣ c r * x k := ⟨z3 + z1 - c r * z2, by grind⟩
    rcases hp.2 _ _ this with h3 | h3
    · exact h3
    · exact absurd (nz_dvd (h.1 k (by omega)).1 (h.1 k (by omega)).2 h3) hx
  intro i hi
  by_cases e : i = r
  · rw [e]; exact h2
  · obtain ⟨z1, hz1⟩ := h1 i (by omega)
    obtain ⟨z2, hz2⟩ := h2
    exact ⟨z2 * x (17 + i) - z1, by grind⟩
theorem lv_dep {p : Int} (hp : pm p) {r D : Nat} {a : Nat → Nat → Int} {l : Nat → Nat} {t x : Nat → Int} (hr : r ≤ 16) (hD : D ≤ 17) (h : lv p r r a l t x) (hx : ∀ k, k < D → x k = 0) : ¬ imd p D (r + 1) (beh a r t) := by
  intro hi
  have h1 := hi (fun i => if i < r then x (17 + i) else 1) (fun k hk => by
    rw [sm_beh, if_neg (by omega)]
    obtain ⟨z, hz⟩ := h.2.2.1 k (by omega)
    rw [lv_cut hr h, hx k hk] at hz
    rw [sm_congr (g := fun j => x (17 + j) * a j k) r (fun i hi => by rw [if_pos hi])]
    exact ⟨z, by grind⟩) r (by omega)
  rw [if_neg (by omega)] at h1
  have := Int.eq_one_of_dvd_one (by have := hp.1; omega) h1
  have := hp.1
  omega
theorem lv_16 {p : Int} (hp : pm p) {r : Nat} {a R : Nat → Nat → Int} {l : Nat → Nat} {t x : Nat → Int} (hr : r ≤ 16) (hw : wv p r a R l) (h : lv p r r a l t x) (h16 : x 16 ≠ 0) : imd p 17 (r + 1) (beh a r t) := by
  intro c hc
  have h1 := lv_rel hp hr hw h (fun k hk => hc k (by omega))
  have h2 : p ∣ c r := by
    obtain ⟨z1, hz1⟩ := hc 16 (by omega)
    obtain ⟨z2, hz2⟩ := h.2.2.1 16 (by omega)
    rw [lv_cut hr h] at hz2
    rw [sm_beh] at hz1
    obtain ⟨z3, hz3⟩ := sm_dvd (p := p) (f := fun j => (c r * x (17 + j) - c j) * a j 16) r (fun j hj => Int.dvd_mul_of_dvd_left (h1 j hj))
    have e : sm (fun j => (c r * x (17 + j) - c j) * a j 16) r = c r * sm (fun j => x (17 + j) * a j 16) r + (-1) * sm (fun i => c i * a i 16) r := by
      rw [← sm_mul, ← sm_lin]
      exact sm_congr r (fun j _ => by grind)
    rw [e] at hz3
    have : p ∣ c r * x 16 := ⟨z3 + z1 - c r * z2, by grind⟩
    rcases hp.2 _ _ this with h3 | h3
    · exact h3
    · exact absurd (nz_dvd (h.1 16 (by omega)).1 (h.1 16 (by omega)).2 h3) h16
  intro i hi
  by_cases e : i = r
  · rw [e]; exact h2
  · obtain ⟨z1, hz1⟩ := h1 i (by omega)
    obtain ⟨z2, hz2⟩ := h2
    exact ⟨z2 * x (17 + i) - z1, by grind⟩
/-- without the i-th -/
abbrev wo (A : Nat → Nat → Int) (i : Nat) : Nat → Nat → Int := fun k => if k < i then A k else A (k + 1)
theorem sm_wo (f : Nat → Int) (i : Nat) : ∀ n, i ≤ n → sm (fun k => if k < i then f k else f (k + 1)) n = sm (fun k => if k = i then 0 else f k) (n + 1)
  | 0, h => by
    rw [show i = 0 by omega]
    show (0 : Int) = 0 + (if 0 = 0 then 0 else f 0)
    rw [if_pos rfl]; rfl
  | n + 1, h => by
    by_cases e : i = n + 1
    · subst e
      show sm _ (n + 1) = sm _ (n + 1) + (if n + 1 = n + 1 then 0 else _)
      rw [if_pos rfl, Int.add_zero]
      exact sm_congr _ (fun k hk => by rw [if_pos hk, if_neg (by omega)])
    · show sm _ n + (if n < i then f n else f (n + 1)) = sm _ (n + 1) + (if n + 1 = i then 0 else f (n + 1))
      rw [sm_wo f i n (by omega), if_neg (by omega), if_neg (by omega)]
theorem lv_see {p : Int} (hp : pm p) {r : Nat} {a R : Nat → Nat → Int} {l : Nat → Nat} {t x : Nat → Int} (hr : r ≤ 16) (hw : wv p r a R l) (h : lv p r r a l t x) {i : Nat} (hi : i < r) (hx : x (17 + i) ≠ 0) : imd p 16 r (wo (beh a r t) i) := by
  intro c hc
  have h1 := lv_rel hp hr hw h (c := fun k => if k < i then c k else if k = i then 0 else c (k - 1)) (fun k hk => by
    have e : sm (fun j => (if j < i then c j else if j = i then 0 else c (j - 1)) * beh a r t j k) (r + 1) = sm (fun j => c j * wo (beh a r t) i j k) r := by
      have e2 := sm_wo (fun j => (if j < i then c j else c (j - 1)) * beh a r t j k) i r (by omega)
      rw [sm_congr (g := fun j => if j < i then (if j < i then c j else c (j - 1)) * beh a r t j k else (if j + 1 < i then c (j + 1) else c (j + 1 - 1)) * beh a r t (j + 1) k) r (fun j hj => ?_), e2]
      · refine sm_congr (r + 1) (fun j hj => ?_)
        by_cases z : j = i
        · rw [if_pos z, if_neg (by omega), if_pos z, Int.zero_mul]
        · rw [if_neg z, if_neg z]
      · unfold wo
        by_cases z : j < i
        · rw [if_pos z, if_pos z, if_pos z]
        · rw [if_neg z, if_neg z, if_neg (by omega)]
          rfl
    rw [e]
    exact hc k hk)
  have h2 : p ∣ c (r - 1) := by
    have h3 := h1 i hi
    rw [if_neg (show ¬ r < i by omega), if_neg (show ¬ r = i by omega), if_neg (show ¬ i < i by omega), if_pos rfl, Int.sub_zero] at h3
    rcases hp.2 _ _ h3 with h4 | h4
    · exact h4
    · exact absurd (nz_dvd (h.1 (17 + i) (by omega)).1 (h.1 (17 + i) (by omega)).2 h4) hx
  obtain ⟨z2, hz2⟩ := h2
  intro k hk
  by_cases e : k = r - 1
  · rw [e, hz2]; exact Int.dvd_mul_right _ _
  · by_cases e2 : k < i
    · have h3 := h1 k (by omega)
      rw [if_neg (show ¬ r < i by omega), if_neg (show ¬ r = i by omega), if_pos e2] at h3
      obtain ⟨z1, hz1⟩ := h3
      exact ⟨z2 * x (17 + k) - z1, by grind⟩
    · have h3 := h1 (k + 1) (by omega)
      rw [if_neg (show ¬ r < i by omega), if_neg (show ¬ r = i by omega), if_neg (by omega), if_neg (by omega), show k + 1 - 1 = k by omega] at h3
      obtain ⟨z1, hz1⟩ := h3
      exact ⟨z2 * x (17 + (k + 1)) - z1, by grind⟩
theorem lv_uns {p : Int} (hp : pm p) {r : Nat} {a : Nat → Nat → Int} {l : Nat → Nat} {t x : Nat → Int} (hr : r ≤ 16) (h : lv p r r a l t x) (h0 : ∀ k, k < 16 → x k = 0) {i : Nat} (hi : i < r) (hx : x (17 + i) = 0) : ¬ imd p 16 r (wo (beh a r t) i) := by
  intro hm
  have h1 := hm (fun k => if k < i then x (17 + k) else if k + 1 < r then x (17 + (k + 1)) else 1) (fun k hk => by
    have e2 := sm_wo (fun j => (if j < r then x (17 + j) else 1) * beh a r t j k) i r (by omega)
    have e : sm (fun j => (if j < i then x (17 + j) else if j + 1 < r then x (17 + (j + 1)) else 1) * wo (beh a r t) i j k) r = sm (fun j => (if j < r then x (17 + j) else 1) * beh a r t j k) (r + 1) := by
      rw [sm_congr (g := fun j => if j < i then (if j < r then x (17 + j) else 1) * beh a r t j k else (if j + 1 < r then x (17 + (j + 1)) else 1) * beh a r t (j + 1) k) r (fun j hj => ?_), e2]
      · refine sm_congr (r + 1) (fun j hj => ?_)
        by_cases z : j = i
        · rw [if_pos z, z, if_pos hi, hx, Int.zero_mul]
        · rw [if_neg z]
      · unfold wo
        by_cases z : j < i
        · rw [if_pos z, if_pos z, if_pos z, if_pos (by omega)]
        · rw [if_neg z, if_neg z, if_neg z]
    rw [e, sm_beh, if_neg (by omega)]
    obtain ⟨z, hz⟩ := h.2.2.1 k (by omega)
    rw [lv_cut hr h, h0 k hk] at hz
    rw [sm_congr (g := fun j => x (17 + j) * a j k) r (fun i hi => by rw [if_pos hi])]
    exact ⟨z, by grind⟩) (r - 1) (by omega)
  rw [if_neg (by omega), if_neg (by omega)] at h1
  have := Int.eq_one_of_dvd_one (by have := hp.1; omega) h1
  have := hp.1
  omega
/-- what a prime sees as free is free -/
theorem imd_ind {p : Int} (hp : pm p) {D n : Nat} {A : Nat → Nat → Int} (h : imd p D n A) : ind D n A := by
  have key : ∀ (m : Nat) (c : Nat → Int), (∀ k, k < D → sm (fun i => c i * A i k) n = 0) → ∀ i, i < n → p ^ m ∣ c i := by
    intro m
    induction m with
    | zero => exact fun c _ i _ => by rw [Int.pow_zero]; exact Int.one_dvd _
    | succ m ih =>
      intro c hc i hi
      have h1 := h c (fun k hk => by rw [hc k hk]; exact Int.dvd_zero p)
      have h2 := ih (fun i => c i / p) (fun k hk => by
        have e : p * sm (fun i => c i / p * A i k) n = 0 := by
          rw [← hc k hk, ← sm_mul]
          exact sm_congr n (fun i hi => by rw [← Int.mul_assoc, Int.mul_ediv_cancel' (h1 i hi)])
        rcases Int.mul_eq_zero.mp e with z | z
        · have := hp.1; omega
        · exact z) i hi
      rw [Int.pow_succ, ← Int.mul_ediv_cancel' (h1 i hi), Int.mul_comm]
      exact Int.mul_dvd_mul_left p h2
  intro c hc i hi
  have h1 := key (c i).natAbs c hc i hi
  by_cases hz : c i = 0
  · exact hz
  · exfalso
    have h2 := Int.le_of_dvd (a := p ^ (c i).natAbs) (b := ((c i).natAbs : Int)) (by omega) (by
      rcases Int.natAbs_eq (c i) with e | e
      · rw [← e]; exact h1
      · rw [show ((c i).natAbs : Int) = - c i by omega]; exact Int.dvd_neg.mpr h1)
    have h3 : (c i).natAbs < 2 ^ (c i).natAbs := Nat.lt_two_pow_self
    have h4 : ((2 : Int)) ^ (c i).natAbs ≤ p ^ (c i).natAbs := by
      have p1 := hp.1
      obtain ⟨q, rfl⟩ : ∃ q : Nat, p = q := ⟨p.toNat, by omega⟩
      have := Nat.pow_le_pow_left (show 2 ≤ q by omega) (c i).natAbs
      exact_mod_cast this
    have h5 : (((c i).natAbs : Nat) : Int) < (2 : Int) ^ (c i).natAbs := by exact_mod_cast h3
    omega
theorem imd_le {p : Int} {D n m : Nat} {A : Nat → Nat → Int} (h : imd p D n A) (hm : m ≤ n) : imd p D m A := by
  intro c hc i hi
  have := h (fun i => if i < m then c i else 0) (fun k hk => by
    rw [sm_cut (m := m) n hm (fun j h1 h2 => by rw [if_neg (by omega)]; exact Int.zero_mul _), sm_congr (g := fun i => c i * A i k) m (fun i hi => by rw [if_pos hi])]
    exact hc k hk) i (by omega)
  rw [if_pos hi] at this
  exact this
theorem imd_congr {p : Int} {D n : Nat} {A B : Nat → Nat → Int} (h : ∀ i, i < n → ∀ c, c < D → A i c = B i c) (hA : imd p D n A) : imd p D n B := fun c hc => hA c (fun k hk => by rw [sm_congr (g := fun i => c i * B i k) n (fun i hi => by rw [h i hi k hk])]; exact hc k hk)
theorem ind_congr {D n : Nat} {A B : Nat → Nat → Int} (h : ∀ i, i < n → ∀ c, c < D → A i c = B i c) (hA : ind D n A) : ind D n B := fun c hc => hA c (fun k hk => by rw [sm_congr (g := fun i => c i * B i k) n (fun i hi => by rw [h i hi k hk])]; exact hc k hk)
