/-! the reference: rank, against, judge -/
def qn (i : Nat) : Nat := match i with
  | 0 => 1073741789
  | 1 => 1073741783
  | 2 => 1073741741
  | 3 => 1073741723
  | 4 => 1073741719
  | 5 => 1073741717
  | _ => 1073741689
theorem qn_c : ∀ i : Nat, (qn i : Int) = qr i
  | 0 => rfl
  | 1 => rfl
  | 2 => rfl
  | 3 => rfl
  | 4 => rfl
  | 5 => rfl
  | _ + 6 => rfl
theorem qn_pm (i : Nat) : pm (qn i : Int) := by rw [qn_c]; exact qr_pm i
theorem qn_lt (i : Nat) : 1073741689 ≤ qn i ∧ qn i < 2 ^ 30 := by unfold qn; split <;> decide
theorem qn_ne {i j : Nat} (hi : i < 7) (hj : j < 7) (h : i ≠ j) : ¬ (qn i : Int) ∣ (qn j : Int) := by rw [qn_c, qn_c]; exact qr_ne i hi j hj h
/-- the primes, in some order -/
def PM (I : Nat → Nat → Int32) (π : Nat → Nat) : Prop := (∀ i, i < 7 → I 219 i = nI (qn (π i)) ∧ π i < 7) ∧ ∀ i j, i < 7 → j < 7 → π i = π j → i = j
theorem zc_srt {n : Nat} {A : Nat → Nat → Int} (b : Bool) (h : srt n A) : srt n (fun i => zc b (fun _ => A i) 0) := fun i hi => by
  obtain ⟨a, c, d⟩ := h i hi
  have e : ∀ k, k < 16 → zc b (fun _ => A i) 0 k = A i k := fun k hk => by unfold zc; rw [if_neg (by omega)]
  refine ⟨?_, ?_, ?_⟩
  · rw [dt_congr (u' := A i) (v' := A i) e e]; exact a
  · show -2000 ≤ (if 16 = 16 ∧ b = false then 0 else A i 16)
    split
    · decide
    · exact c
  · show (if 16 = 16 ∧ b = false then 0 else A i 16) ≤ 2000
    split
    · decide
    · exact d
theorem ind_z {n : Nat} {A B : Nat → Nat → Int} (hz : ∀ i, i < n → B i 16 = 0) (he : ∀ i, i < n → ∀ c, c < 16 → B i c = A i c) : ind 17 n B ↔ ind 16 n A := by
  constructor
  · intro h c hc
    refine h c (fun k hk => ?_)
    by_cases e : k = 16
    · subst e
      exact sm_0 n (fun i hi => by rw [hz i hi, Int.mul_zero])
    · rw [sm_congr (g := fun i => c i * A i k) n (fun i hi => by rw [he i hi k (by omega)])]
      exact hc k (by omega)
  · intro h c hc
    refine h c (fun k hk => ?_)
    rw [sm_congr (g := fun i => c i * B i k) n (fun i hi => by rw [he i hi k hk])]
    exact hc k (by omega)
theorem sp_rank (L : Nat) (I : Nat → Nat → Int32) (J : Nat → Nat → Int64) (w : Nat → Nat) (set : Int32) (S : Nat → Bool) (hS : ∀ k, k < 23 → bt set k = S k) (b : Bool) (π : Nat → Nat) (hπ : PM I π) (C : Nat → Nat → Int) (hC : CO I S C) (n17 : (rc S 23).1 ≤ 17) (hsr : srt (rc S 23).1 (fun i => C ((rc S 23).2 i))) : SP m_Mo_rank [.ref 208, .int set, .int (if b = true then 1 else 0)] (hp L I J w) (fun v h => ∃ (ρ : Nat) (K : Nat → Nat → Int64), v = some (.int (nI ρ)) ∧ ρ ≤ (rc S 23).1 ∧ (ρ = (rc S 23).1 ↔ ind 17 (rc S 23).1 (fun i => zc b C ((rc S 23).2 i))) ∧ (∀ c, c ≠ 220 → K c = J c) ∧ h = hp L I K w) := by
  obtain ⟨h0, π0⟩ := hπ.1 0 (by omega)
  obtain ⟨h1, π1⟩ := hπ.1 1 (by omega)
  have hne : π 0 ≠ π 1 := fun z => by have := hπ.2 0 1 (by omega) (by omega) z; omega
  have hz : srt (rc S 23).1 (fun i => zc b C ((rc S 23).2 i)) := zc_srt b hsr
  have hsee : (imd (qn (π 0)) 17 (rc S 23).1 (fun i => zc b C ((rc S 23).2 i)) ∨ imd (qn (π 1)) 17 (rc S 23).1 (fun i => zc b C ((rc S 23).2 i))) ↔ ind 17 (rc S 23).1 (fun i => zc b C ((rc S 23).2 i)) := by
    constructor
    · rintro (h | h)
      · exact imd_ind (qn_pm _) h
      · exact imd_ind (qn_pm _) h
    · intro h
      exact see (Or.inr rfl) (qn_pm _) (qn_pm _) (qn_ne π0 π1 hne) (by have := qn_lt (π 0); omega) (by have := qn_lt (π 1); omega) n17 hz h
  unfold SP
  iterate 6 (refine WP.st rfl ?_)
  refine WP.iald (k := 0) rfl (rfl) (Or.inl rfl) (show 0 < 7 by omega) (rfl) ?_
  rw [show hI (hp L I J w) 219 0 = nI (qn (π 0)) from h0]
  refine WP.call rfl rfl (sp_rankBy L I J w set S hS b (qn (π 0)) (qn_pm _) (qn_lt _).2 C hC) ?_
  rintro _ _ ⟨ρ0, K0, rfl, r1, r2, r3, rfl⟩
  iterate 7 (refine WP.st rfl ?_)
  refine WP.iald (k := 1) rfl (rfl) (Or.inl rfl) (show 1 < 7 by omega) (rfl) ?_
  rw [show hI (hp L I K0 w) 219 1 = nI (qn (π 1)) from h1]
  refine WP.call rfl rfl (sp_rankBy L I K0 w set S hS b (qn (π 1)) (qn_pm _) (qn_lt _).2 C hC) ?_
  rintro _ _ ⟨ρ1, K1, rfl, s1, s2, s3, rfl⟩
  iterate 3 (refine WP.st rfl ?_)
  by_cases hle : ρ0 ≤ ρ1
  · refine WP.ict rfl (nI_le hle (by omega)) ?_
    iterate 1 (refine WP.st rfl ?_)
    refine WP.ret rfl ⟨ρ1, K1, rfl, s1, ?_, fun c hc => (s3 c hc).trans (r3 c hc), rfl⟩
    rw [← hsee, ← r2, ← s2]
    omega
  · skip
    refine WP.icf rfl (nI_ge (by omega) (by omega)) ?_
    iterate 2 (refine WP.st rfl ?_)
    refine WP.ret rfl ⟨ρ0, K1, rfl, r1, ?_, fun c hc => (s3 c hc).trans (r3 c hc), rfl⟩
    rw [← hsee, ← r2, ← s2]
    omega
set_option maxHeartbeats 4000000 in
set_option maxRecDepth 20000 in
theorem sp_against (L : Nat) (I : Nat → Nat → Int32) (J : Nat → Nat → Int64) (w : Nat → Nat) (set : Int32) (S : Nat → Bool) (hS : ∀ k, k < 23 → bt set k = S k) (x : Nat) (hx : x < 23) (hx0 : ∀ k, x ≤ k → k < 23 → S k = false) (π : Nat → Nat) (hπ : PM I π) (C : Nat → Nat → Int) (hC : CO I (fun k => S k || decide (k = x)) C) (hi : ind 16 (rc S 23).1 (fun i => C ((rc S 23).2 i))) (hsr : srt ((rc S 23).1 + 1) (beh (fun i => C ((rc S 23).2 i)) (rc S 23).1 (C x))) : SP m_Mo_against [.ref 208, .int set, .int (nI x)] (hp L I J w) (fun v h => v = some (.int (nI (kd (fun i => C ((rc S 23).2 i)) (rc S 23).1 (C x)))) ∧ ∃ K : Nat → Nat → Int64, (∀ c, c ≠ 220 → K c = J c) ∧ h = hp L I K w) := by
  have n16 := ind_dim 16 _ _ hi
  have hadd := rc_add (S := S) (x := x) (M := 23) hx hx0
  have hS2 : ∀ k, k < 23 → bt (set ||| ((1 : Int32) <<< (nI x &&& 31))) k = (S k || decide (k = x)) := fun k hk => by rw [bt_or1 set (by omega) (by omega), hS k hk]
  have hCS : CO I S C := fun r h1 h2 => hC r h1 (by simp [h2])
  generalize hn : (rc S 23).1 = n at *
  generalize ha : (fun i => C ((rc S 23).2 i)) = a at *
  have n2 : (rc (fun k => S k || decide (k = x)) 23).1 = n + 1 := by rw [hadd]
  have e2 : ∀ i, i < n + 1 → C ((rc (fun k => S k || decide (k = x)) 23).2 i) = beh a n (C x) i := fun i hi => by
    rw [hadd]
    dsimp only
    unfold beh
    by_cases e : i < n
    · rw [if_neg (by omega), if_pos e, ← ha]
    · rw [if_pos (by omega), if_neg e]
  have hs1 : srt n a := srt_a hsr
  have hs2 : srt (n + 1) (fun i => C ((rc (fun k => S k || decide (k = x)) 23).2 i)) := fun i hi => by
    dsimp only
    rw [e2 i hi]
    exact hsr i hi
  have zcol : ∀ (S' : Nat → Bool) (m i : Nat), zc false C ((rc S' m).2 i) 16 = 0 := fun _ _ _ => if_pos ⟨rfl, rfl⟩
  have zel : ∀ (b : Bool) (r c : Nat), c < 16 → zc b C r c = C r c := fun b r c hc => if_neg (by omega)
  unfold SP
  iterate 9 (refine WP.st rfl ?_)
  refine WP.call rfl rfl (sp_rank L I J w set S hS false π hπ C hCS (by omega) (by rw [hn, ha]; exact hs1)) ?_
  rintro _ _ ⟨ρ, K, rfl, r1, r2, r3, rfl⟩
  rw [hn] at r1 r2
  have hρ : ρ = n := r2.mpr ((ind_z (A := a) (fun i _ => zcol S 23 i) (fun i _ c hc => by rw [zel _ _ _ hc, ← ha])).mpr hi)
  subst hρ
  iterate 4 (refine WP.st rfl ?_)
  refine WP.call rfl rfl (sp_rank L I K w (set ||| ((1 : Int32) <<< (nI x &&& 31))) (fun k => S k || decide (k = x)) hS2 false π hπ C hC (by omega) (by rw [n2]; exact hs2)) ?_
  rintro _ _ ⟨ρ2, K2, rfl, s1, s2, s3, rfl⟩
  rw [n2] at s1 s2
  have s2' : ρ2 = ρ + 1 ↔ ind 16 (ρ + 1) (beh a ρ (C x)) := s2.trans (ind_z (fun i _ => zcol _ 23 i) (fun i hi c hc => by rw [zel _ _ _ hc, e2 i hi]))
  iterate 1 (refine WP.st rfl ?_)
  by_cases h1 : ind 16 (ρ + 1) (beh a ρ (C x))
  · have := s2'.mpr h1
    subst this
    refine WP.icf rfl (show ¬ nI (ρ + 1) ≤ nI ρ from nI_ge (by omega) (by omega)) ?_
    iterate 1 (refine WP.st rfl ?_)
    exact WP.ret rfl ⟨by rw [kd_0 h1]; rfl, K2, fun c hc => (s3 c hc).trans (r3 c hc), rfl⟩
  · have h3 : ρ2 ≠ ρ + 1 := fun z => h1 (s2'.mp z)
    refine WP.ict rfl (nI_le (by omega) (by omega)) ?_
    iterate 3 (refine WP.st rfl ?_)
    refine WP.call rfl rfl (sp_rank L I K2 w (set ||| ((1 : Int32) <<< (nI x &&& 31))) (fun k => S k || decide (k = x)) hS2 true π hπ C hC (by omega) (by rw [n2]; exact hs2)) ?_
    rintro _ _ ⟨ρ3, K3, rfl, t1, t2, t3, rfl⟩
    rw [n2] at t1 t2
    have t2' : ρ3 = ρ + 1 ↔ ind 17 (ρ + 1) (beh a ρ (C x)) := t2.trans ⟨ind_congr (fun i hi c hc => by show zc true C _ c = _; unfold zc; rw [if_neg (fun z => by cases z.2), e2 i hi]), ind_congr (fun i hi c hc => by show _ = zc true C _ c; unfold zc; rw [if_neg (fun z => by cases z.2), e2 i hi])⟩
    iterate 1 (refine WP.st rfl ?_)
    by_cases h2 : ind 17 (ρ + 1) (beh a ρ (C x))
    · have := t2'.mpr h2
      subst this
      refine WP.icf rfl (show ¬ nI (ρ + 1) ≤ nI ρ from nI_ge (by omega) (by omega)) ?_
      iterate 2 (refine WP.st rfl ?_)
      exact WP.ret rfl ⟨by rw [kd_2 h1 h2]; rfl, K3, fun c hc => (t3 c hc).trans ((s3 c hc).trans (r3 c hc)), rfl⟩
    · have h4 : ρ3 ≠ ρ + 1 := fun z => h2 (t2'.mp z)
      refine WP.ict rfl (nI_le (by omega) (by omega)) ?_
      iterate 1 (refine WP.st rfl ?_)
      exact WP.ret rfl ⟨by rw [kd_1 h1 h2]; rfl, K3, fun c hc => (t3 c hc).trans ((s3 c hc).trans (r3 c hc)), rfl⟩
/-! judge -/
/-- the new ones of the first m, as a set -/
noncomputable def sb (T : Nat → Nat → Int) (of : Off) (m : Nat) : Nat → Bool := fun k => decide (k < m ∧ knd T of k = 0)
theorem rc_sb (T : Nat → Nat → Int) (of : Off) (m : Nat) : ∀ j, j ≤ m → rc (sb T of m) j = nst T of j
  | 0, _ => rfl
  | j + 1, hj => by
    have ih := rc_sb T of m j (by omega)
    by_cases e : knd T of j = 0
    · rw [rc_t (show sb T of m j = true from decide_eq_true ⟨by omega, e⟩), nst_new e, ih]
      rfl
    · rw [rc_f (show sb T of m j = false from decide_eq_false (fun z => e z.2)), nst_old e, ih]
theorem rc_sb23 (T : Nat → Nat → Int) (of : Off) {m : Nat} (hm : m ≤ 23) : rc (sb T of m) 23 = nst T of m := by
  obtain ⟨d, hd⟩ : ∃ d, 23 = m + d := ⟨23 - m, by omega⟩
  rw [hd, rc_pad (S := sb T of m) d (fun k a b => decide_eq_false (fun z => by omega))]
  exact rc_sb T of m m (Nat.le_refl m)
theorem sb_s0 {T : Nat → Nat → Int} {of : Off} {m : Nat} (h : knd T of m = 0) (k : Nat) : sb T of (m + 1) k = (sb T of m k || decide (k = m)) := by
  unfold sb
  rw [← Bool.decide_or]
  apply decide_eq_decide.mpr
  constructor
  · rintro ⟨a, b⟩
    by_cases e : k = m
    · exact Or.inr e
    · exact Or.inl ⟨by omega, b⟩
  · rintro (⟨a, b⟩ | e)
    · exact ⟨by omega, b⟩
    · subst e; exact ⟨by omega, h⟩
theorem sb_s1 {T : Nat → Nat → Int} {of : Off} {m : Nat} (h : knd T of m ≠ 0) (k : Nat) : sb T of (m + 1) k = sb T of m k := by
  unfold sb
  apply decide_eq_decide.mpr
  constructor
  · rintro ⟨a, b⟩
    by_cases e : k = m
    · subst e; exact absurd b h
    · exact ⟨by omega, b⟩
  · rintro ⟨a, b⟩
    exact ⟨by omega, b⟩
/-- the reference's tellings -/
def RT (I : Nat → Nat → Int32) (T : Nat → Nat → Int) (of : Off) (N : Nat) : Prop := I 208 2 = nI N ∧ N ≤ 20 ∧ (∀ t, t < N → (∀ c, c < 17 → I 210 (17 * t + c) = zI (T t c)) ∧ (dt 16 (T t) (T t) ≤ 36 ∧ -2000 ≤ T t 16 ∧ T t 16 ≤ 2000) ∧ I 214 t = (if of t = true then 1 else 0))
theorem ent20 {u : Nat → Int} (h : dt 16 u u ≤ 36 ∧ -2000 ≤ u 16 ∧ u 16 ≤ 2000) {c : Nat} (hc : c < 17) : -2 ^ 20 < u c ∧ u c < 2 ^ 20 := by
  by_cases e : c = 16
  · subst e; omega
  · have := ent6 h.1 (show c < 16 by omega)
    omega
theorem RT_CO {I : Nat → Nat → Int32} {T : Nat → Nat → Int} {of : Off} {N m : Nat} (h : RT I T of N) (hm : m ≤ N) : CO I (sb T of m) T := fun r _ h2 c hc => by
  have := of_decide_eq_true h2
  obtain ⟨a, b, -⟩ := h.2.2 r (by omega)
  exact ⟨a c hc, ent20 b hc⟩
theorem RT_srt {I : Nat → Nat → Int32} {T : Nat → Nat → Int} {of : Off} {N m : Nat} (h : RT I T of N) (hm : m ≤ N) {t : Nat → Int} (ht : dt 16 t t ≤ 36 ∧ -2000 ≤ t 16 ∧ t 16 ≤ 2000) : srt (rk T of m + 1) (beh (am T of m) (rk T of m) t) := by
  intro i hi
  unfold beh
  by_cases e : i < rk T of m
  · simp only [e, if_true]
    exact (h.2.2 _ (by have := nos_lt T of m i e; omega)).2.1
  · simp only [e, if_false]
    exact ht
/-- weighing a row x behind the new ones of the first m -/
theorem sp_ag (L : Nat) (I : Nat → Nat → Int32) (J : Nat → Nat → Int64) (w : Nat → Nat) (T : Nat → Nat → Int) (of : Off) (N m : Nat) (hR : RT I T of N) (hm : m ≤ N) (ns : Int32) (hns : ∀ k, k < 23 → bt ns k = sb T of m k) (x : Nat) (hx : x < 23) (hmx : m ≤ x) (t : Nat → Int) (hC : ∀ c, c < 17 → I 210 (17 * x + c) = zI (t c)) (ht : dt 16 t t ≤ 36 ∧ -2000 ≤ t 16 ∧ t 16 ≤ 2000) (π : Nat → Nat) (hπ : PM I π) : SP m_Mo_against [.ref 208, .int ns, .int (nI x)] (hp L I J w) (fun v h => v = some (.int (nI (kd (am T of m) (rk T of m) t))) ∧ ∃ K : Nat → Nat → Int64, (∀ c, c ≠ 220 → K c = J c) ∧ h = hp L I K w) := by
  have h23 := rc_sb23 T of (show m ≤ 23 by have := hR.2.1; omega)
  have lt := nos_lt T of m
  have eb : beh (fun i => (fun r => if r = x then t else T r) ((rc (sb T of m) 23).2 i)) (rc (sb T of m) 23).1 t = beh (am T of m) (rk T of m) t := by
    rw [h23]
    funext i
    unfold beh
    by_cases e : i < (nst T of m).1
    · have := lt i e
      unfold nos at this
      rw [if_pos e]
      show (if (nst T of m).2 i = x then t else T ((nst T of m).2 i)) = if i < (nst T of m).1 then _ else _
      rw [if_pos e, if_neg (by omega)]
      rfl
    · rw [if_neg e]
      exact (if_neg e).symm
  have ek : kd (fun i => (fun r => if r = x then t else T r) ((rc (sb T of m) 23).2 i)) (rc (sb T of m) 23).1 t = kd (am T of m) (rk T of m) t := by
    unfold kd
    rw [eb, h23]
    rfl
  have ex : (fun r => if r = x then t else T r) x = t := if_pos rfl
  have := sp_against L I J w ns (sb T of m) hns x hx (fun k a b => decide_eq_false (fun z => by omega)) π hπ (fun r => if r = x then t else T r) (fun r h1 h2 c hc => by
    dsimp only
    by_cases e : r = x
    · rw [if_pos e, e]
      exact ⟨hC c hc, ent20 ht hc⟩
    · rw [if_neg e]
      simp [e] at h2
      exact RT_CO hR hm r h1 h2 c hc) (by
    rw [h23]
    refine ind_congr (fun i hi c _ => ?_) (am_ind T of m)
    have := lt i hi
    unfold nos at this
    rw [if_neg (by omega)]
    rfl) (by
    dsimp only at eb
    rw [if_pos rfl, eb, h23]
    exact RT_srt hR hm ht)
  dsimp only at ek
  rw [if_pos rfl, ek] at this
  exact this
/-- the sorts of the first m, in the reference -/
def JR (I : Nat → Nat → Int32) (T : Nat → Nat → Int) (of : Off) (m : Nat) : Prop := (∀ k, k < 32 → bt (I 208 9) k = sb T of m k) ∧ ∀ t, t < m → I 215 t = nI (knd T of t)
set_option maxHeartbeats 4000000 in
set_option maxRecDepth 20000 in
theorem sp_mjudge (L : Nat) (I : Nat → Nat → Int32) (J : Nat → Nat → Int64) (w : Nat → Nat) (T : Nat → Nat → Int) (of : Off) (N : Nat) (hR : RT I T of N) (π : Nat → Nat) (hπ : PM I π) : SP m_Mo_judge [.ref 208] (hp L I J w) (fun v h => v = none ∧ ∃ (I' : Nat → Nat → Int32) (K : Nat → Nat → Int64), (∀ c, c ≠ 208 → c ≠ 215 → I' c = I c) ∧ (∀ k, k ≠ 9 → I' 208 k = I 208 k) ∧ (∀ c, c ≠ 220 → K c = J c) ∧ JR I' T of N ∧ h = hp L I' K w) := by
  obtain ⟨hN, hN20, hT⟩ := hR
  unfold SP
  iterate 8 (refine WP.st rfl ?_)
  refine WP.inv (fun t (σ : (Nat → Nat → Int32) × (Nat → Nat → Int64)) => (12, [some (.ref 208), some (.int (nI t))], [.int (σ.1 208 2), .int (nI t)], hp L σ.1 σ.2 w, 0, 0)) (fun t σ => (∀ c, c ≠ 208 → c ≠ 215 → σ.1 c = I c) ∧ (∀ k, k ≠ 9 → σ.1 208 k = I 208 k) ∧ (∀ c, c ≠ 220 → σ.2 c = J c) ∧ JR σ.1 T of t) N (mm_up I 208 9 0, J) ⟨fun c h1 _ => up_ne I _ h1, fun k hk => up_nk I _ hk, fun _ _ => rfl, fun k hk => ?_, fun t ht => absurd ht (Nat.not_lt_zero t)⟩ (fun t σ ht hv kk => ?_) (fun σ hv => ?_)
  · show bt (mm_up I 208 9 0 208 9) k = _
    rw [mm_up_at, bt_0]
    exact (decide_eq_false (fun z => absurd z.1 (Nat.not_lt_zero k))).symm
  · obtain ⟨I1, J1⟩ := σ
    obtain ⟨v1, v2, v3, v4, v5⟩ := hv
    dsimp only at v1 v2 v3 v4 v5 ⊢
    obtain ⟨t1, t2, t3⟩ := hT t ht
    have n2 : I1 208 2 = nI N := (v2 2 (by decide)).trans hN
    have o213 : I1 214 t = if of t = true then 1 else 0 := by rw [v1 214 (by decide) (by decide)]; exact t3
    have R1 : RT I1 T of N := ⟨n2, hN20, fun q hq => by rw [v1 210 (by decide) (by decide), v1 214 (by decide) (by decide)]; exact hT q hq⟩
    have π1 : PM I1 π := by
      unfold PM
      rw [v1 219 (by decide) (by decide)]
      exact hπ
    -- once the sort is known
    have fin : ∀ K : Nat → Nat → Int64, (∀ c, c ≠ 220 → K c = J c) → WP m_Mo_judge (42, [some (.ref 208), some (.int (nI t))], [.int (nI (knd T of t)), .int (nI t), .ref 215], hp L I1 K w, 0, 0) (fun v h => v = none ∧ ∃ (I' : Nat → Nat → Int32) (K : Nat → Nat → Int64), (∀ c, c ≠ 208 → c ≠ 215 → I' c = I c) ∧ (∀ k, k ≠ 9 → I' 208 k = I 208 k) ∧ (∀ c, c ≠ 220 → K c = J c) ∧ JR I' T of N ∧ h = hp L I' K w) := by
      intro K hK
      have kl := knd_le T of t
      refine WP.iast (k := t) rfl (rfl) (rfl) (show t < 20 by omega) (rfl) ?_
      iterate 4 (refine WP.st rfl ?_)
      refine WP.iald (k := t) rfl (rfl) (Or.inl rfl) (show t < 20 by omega) (rfl) ?_
      rw [show hI (putI (hp L I1 K w) 215 t (nI (knd T of t))) 215 t = nI (knd T of t) from mm_up_at I1 215 t _]
      have s9 : mm_up I1 215 t (nI (knd T of t)) 208 9 = I1 208 9 := congrFun (up_ne I1 _ (by decide)) 9
      by_cases hz : knd T of t = 0
      · refine WP.iff rfl (show ¬ ¬ nI (knd T of t) = 0 by rw [hz]; exact fun z => z rfl) ?_
        iterate 13 (refine WP.st rfl ?_)
        have kk2 := kk (mm_up (mm_up I1 215 t (nI (knd T of t))) 208 9 (I1 208 9 ||| ((1 : Int32) <<< (nI t &&& 31))), K) ⟨fun c h1 h2 => (up_ne _ _ h1).trans ((up_ne I1 _ h2).trans (v1 c h1 h2)), fun k hk => (up_nk _ _ hk).trans ((congrFun (up_ne I1 _ (by decide)) k).trans (v2 k hk)), hK, fun k hk => ?_, fun q hq => ?_⟩
        · rw [nI_succ t] at kk2
          exact kk2
        · dsimp only
          rw [mm_up_at, bt_or1 _ (by omega) hk, v4 k hk, sb_s0 hz]
        · dsimp only
          rw [up_ne _ _ (by decide)]
          by_cases e : q = t
          · rw [e]; exact mm_up_at I1 _ _ _
          · exact (up_nk I1 _ e).trans (v5 q (by omega))
      · skip
        refine WP.ift rfl (nI_ne0 (by omega) (by omega)) ?_
        iterate 8 (refine WP.st rfl ?_)
        have kk2 := kk (mm_up (mm_up I1 215 t (nI (knd T of t))) 208 9 (I1 208 9), K) ⟨fun c h1 h2 => (up_ne _ _ h1).trans ((up_ne I1 _ h2).trans (v1 c h1 h2)), fun k hk => (up_nk _ _ hk).trans ((congrFun (up_ne I1 _ (by decide)) k).trans (v2 k hk)), hK, fun k hk => ?_, fun q hq => ?_⟩
        · rw [nI_succ t] at kk2
          exact kk2
        · dsimp only
          rw [mm_up_at, v4 k hk, sb_s1 hz]
        · dsimp only
          rw [up_ne _ _ (by decide)]
          by_cases e : q = t
          · rw [e]; exact mm_up_at I1 _ _ _
          · exact (up_nk I1 _ e).trans (v5 q (by omega))
    refine WP.icf rfl (show ¬ I1 208 2 ≤ nI t by rw [n2]; exact nI_ge ht (by omega)) ?_
    iterate 6 (refine WP.st rfl ?_)
    refine WP.bald (k := t) rfl (rfl) (rfl) (show t < 20 by omega) (rfl) ?_
    rw [show hI (hp L I1 J1 w) 214 t = if of t = true then 1 else 0 from o213]
    by_cases ho : of t = true
    · rw [if_pos ho]
      refine WP.iff rfl (show ¬ (1 : Int32) = 0 by decide) ?_
      iterate 2 (refine WP.st rfl ?_)
      have := fin J1 v3
      rw [show knd T of t = 3 from if_pos ho] at this
      exact this
    · rw [if_neg ho]
      refine WP.ift rfl (rfl) ?_
      iterate 4 (refine WP.st rfl ?_)
      refine WP.call rfl rfl (sp_ag L I1 J1 w T of N t R1 (by omega) (I1 208 9) (fun k hk => v4 k (by omega)) t (by omega) (Nat.le_refl t) (T t) (by rw [v1 210 (by decide) (by decide)]; exact t1) t2 π π1) ?_
      rintro _ _ ⟨rfl, K, g1, rfl⟩
      have := fin K (fun c hc => (g1 c hc).trans (v3 c hc))
      rw [show knd T of t = kd (am T of t) (rk T of t) (T t) from if_neg ho] at this
      exact this
  · obtain ⟨I1, J1⟩ := σ
    obtain ⟨v1, v2, v3, v4, v5⟩ := hv
    dsimp only at v1 v2 v3 v4 v5 ⊢
    refine WP.ict rfl (show I1 208 2 ≤ nI N by rw [v2 2 (by decide), hN]; exact nI_le (Nat.le_refl _) (by omega)) ?_
    exact WP.ret rfl ⟨rfl, I1, J1, v1, v2, v3, ⟨v4, v5⟩, rfl⟩
