/-! Fermat -/
def ch : Nat → Nat → Int
  | _, 0 => 1
  | 0, _ + 1 => 0
  | n + 1, k + 1 => ch n k + ch n (k + 1)
theorem ch_0 : ∀ n, ch n 0 = 1
  | 0 => rfl
  | _ + 1 => rfl
theorem ch_big : ∀ n k, n < k → ch n k = 0
  | _, 0, h => absurd h (Nat.not_lt_zero _)
  | 0, _ + 1, _ => rfl
  | n + 1, k + 1, h => by
    show ch n k + ch n (k + 1) = 0
    rw [ch_big n k (by omega), ch_big n (k + 1) (by omega)]
    rfl
theorem ch_self : ∀ n, ch n n = 1
  | 0 => rfl
  | n + 1 => by
    show ch n n + ch n (n + 1) = 1
    rw [ch_self n, ch_big n (n + 1) (by omega)]
    rfl
theorem ch_abs : ∀ n k : Nat, ((k : Int) + 1) * ch (n + 1) (k + 1) = (n + 1) * ch n k
  | 0, 0 => rfl
  | 0, k + 1 => by
    show _ * (ch 0 (k + 1) + ch 0 (k + 2)) = _
    show _ * ((0 : Int) + 0) = _ * 0
    grind
  | n + 1, 0 => by
    have h := ch_abs n 0
    show _ * (ch (n + 1) 0 + ch (n + 1) 1) = _ * ch (n + 1) 0
    rw [ch_0] at h ⊢
    grind
  | n + 1, k + 1 => by
    have h1 := ch_abs n (k + 1)
    have h2 := ch_abs n k
    show _ * (ch (n + 1) (k + 1) + ch (n + 1) (k + 2)) = _ * ch (n + 1) (k + 1)
    have h3 : ch (n + 1) (k + 1) = ch n k + ch n (k + 1) := rfl
    push_cast at *
    grind
theorem binom (a : Int) : ∀ n, (a + 1) ^ n = sm (fun k => ch n k * a ^ k) (n + 1)
  | 0 => by simp [sm, ch]
  | n + 1 => by
    rw [Int.pow_succ, binom a n]
    have e1 : sm (fun k => ch (n + 1) k * a ^ k) (n + 1 + 1) = 1 + sm (fun k => ch n k * a ^ (k + 1) + ch n (k + 1) * a ^ (k + 1)) (n + 1) := by
      rw [sm_head, ch_0, Int.pow_zero, Int.mul_one]
      congr 1
      refine sm_congr _ (fun k _ => ?_)
      show (ch n k + ch n (k + 1)) * a ^ (k + 1) = _
      grind
    rw [e1, sm_add]
    have e2 : sm (fun k => ch n k * a ^ (k + 1)) (n + 1) = a * sm (fun k => ch n k * a ^ k) (n + 1) := by
      rw [← sm_mul]
      exact sm_congr _ (fun k _ => by rw [Int.pow_succ]; grind)
    have e3 : 1 + sm (fun k => ch n (k + 1) * a ^ (k + 1)) (n + 1) = sm (fun k => ch n k * a ^ k) (n + 1) := by
      have h := sm_head (fun k => ch n k * a ^ k) (n + 1)
      have h2 : sm (fun k => ch n k * a ^ k) (n + 1 + 1) = sm (fun k => ch n k * a ^ k) (n + 1) + ch n (n + 1) * a ^ (n + 1) := rfl
      rw [h2, ch_big n (n + 1) (by omega), ch_0] at h
      rw [Int.zero_mul, Int.pow_zero] at h
      omega
    rw [e2]
    grind
theorem sm_dvd {p : Int} {f : Nat → Int} : ∀ n, (∀ i, i < n → p ∣ f i) → p ∣ sm f n
  | 0, _ => Int.dvd_zero p
  | n + 1, h => Int.dvd_add (sm_dvd n (fun i hi => h i (by omega))) (h n (by omega))
theorem frm1 {p : Nat} (hp : pm (p : Int)) (a : Int) : (p : Int) ∣ (a + 1) ^ p - (a ^ p + 1) := by
  have p1 := hp.1
  obtain ⟨m, rfl⟩ : ∃ m, p = m + 2 := ⟨p - 2, by omega⟩
  rw [binom a (m + 2)]
  have e : sm (fun k => ch (m + 2) k * a ^ k) (m + 2 + 1) = 1 + sm (fun k => ch (m + 2) (k + 1) * a ^ (k + 1)) (m + 1) + a ^ (m + 2) := by
    show sm (fun k => ch (m + 2) k * a ^ k) (m + 1 + 1) + ch (m + 2) (m + 2) * a ^ (m + 2) = _
    rw [sm_head, ch_self, ch_0]
    grind
  rw [e]
  have d : ((m + 2 : Nat) : Int) ∣ sm (fun k => ch (m + 2) (k + 1) * a ^ (k + 1)) (m + 1) := sm_dvd _ (fun k hk => by
    have h := ch_abs (m + 1) k
    have h2 : ((m + 2 : Nat) : Int) ∣ ((k : Int) + 1) * ch (m + 2) (k + 1) := ⟨ch (m + 1) k, by rw [h]; push_cast; grind⟩
    rcases hp.2 _ _ h2 with h3 | h3
    · have := Int.le_of_dvd (by omega) h3
      omega
    · exact Int.dvd_mul_of_dvd_left h3)
  generalize sm (fun k => ch (m + 2) (k + 1) * a ^ (k + 1)) (m + 1) = s at *
  obtain ⟨z, hz⟩ := d
  exact ⟨z, by rw [← hz]; grind⟩
theorem frm2 {p : Nat} (hp : pm (p : Int)) : ∀ a : Nat, (p : Int) ∣ (a : Int) ^ p - a
  | 0 => by
    have p1 := hp.1
    obtain ⟨m, rfl⟩ : ∃ m, p = m + 1 := ⟨p - 1, by omega⟩
    rw [Int.pow_succ]
    show _ ∣ _ * (0 : Int) - 0
    rw [Int.mul_zero]
    exact Int.dvd_zero _
  | a + 1 => by
    obtain ⟨x, hx⟩ := frm2 hp a
    obtain ⟨y, hy⟩ := frm1 hp (a : Int)
    refine ⟨x + y, ?_⟩
    push_cast
    grind
/-- Fermat: the inverse by a power -/
theorem frm {p : Nat} (hp : pm (p : Int)) {a : Nat} (h : ¬ (p : Int) ∣ (a : Int)) : (p : Int) ∣ (a : Int) * (a : Int) ^ (p - 2) - 1 := by
  have p1 := hp.1
  have h2 := frm2 hp a
  obtain ⟨m, rfl⟩ : ∃ m, p = m + 2 := ⟨p - 2, by omega⟩
  rw [show m + 2 - 2 = m by omega]
  have e : (a : Int) ^ (m + 2) - a = a * (a * a ^ m - 1) := by
    rw [Int.pow_succ, Int.pow_succ]
    grind
  rw [e] at h2
  rcases hp.2 _ _ h2 with h3 | h3
  · exact absurd h3 h
  · exact h3
