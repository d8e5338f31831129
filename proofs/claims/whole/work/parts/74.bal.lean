/-! Balance: its rows and its table -/
theorem fa_i {L : Nat} (w : Nat → Nat) {i : Nat} (hi : i < 16) : RR w 77 i = some (78 + i) ∧ KK (78 + i) = 9 ∧ LL L (78 + i) = 16 := by
  have e : i = 0 ∨ i = 1 ∨ i = 2 ∨ i = 3 ∨ i = 4 ∨ i = 5 ∨ i = 6 ∨ i = 7 ∨ i = 8 ∨ i = 9 ∨ i = 10 ∨ i = 11 ∨ i = 12 ∨ i = 13 ∨ i = 14 ∨ i = 15 := by omega
  rcases e with rfl | rfl | rfl | rfl | rfl | rfl | rfl | rfl | rfl | rfl | rfl | rfl | rfl | rfl | rfl | rfl <;> exact ⟨rfl, rfl, rfl⟩
theorem tb_i {L : Nat} (w : Nat → Nat) {i : Nat} (hi : i < 17) : RR w 95 i = some (96 + i) ∧ KK (96 + i) = 10 ∧ LL L (96 + i) = 17 := by
  have e : i = 0 ∨ i = 1 ∨ i = 2 ∨ i = 3 ∨ i = 4 ∨ i = 5 ∨ i = 6 ∨ i = 7 ∨ i = 8 ∨ i = 9 ∨ i = 10 ∨ i = 11 ∨ i = 12 ∨ i = 13 ∨ i = 14 ∨ i = 15 ∨ i = 16 := by omega
  rcases e with rfl | rfl | rfl | rfl | rfl | rfl | rfl | rfl | rfl | rfl | rfl | rfl | rfl | rfl | rfl | rfl | rfl <;> exact ⟨rfl, rfl, rfl⟩
def gp (t ρ : Nat → Int) : Int := t 16 - sm (fun c => t c * ρ c) 16
theorem sm_terms {I : Nat → Nat → Int32} {s n : Nat} {nm : Nat → Nat} {fc t : Nat → Int} (h : tT I s n nm fc t) (ρ : Nat → Int) : sm (fun c => t c * ρ c) 16 = sm (fun k => fc k * ρ (nm k)) n := by
  obtain ⟨-, -, -, -, t5, t6, t7⟩ := h
  have e1 : ∀ c, c < 16 → t c * ρ c = sm (fun k => if nm k = c then fc k * ρ (nm k) else 0) n := by
    intro c hc
    by_cases e : ∃ k, k < n ∧ nm k = c
    · obtain ⟨k, hk, hkc⟩ := e
      rw [sm_one (k := k) n hk (fun i hi hik => if_neg (fun z => ?_)), if_pos hkc]
      · rw [← (t5 k hk).2.2.2.2.2.2, hkc]
      · rcases Nat.lt_or_gt_of_ne hik with h1 | h1
        · exact t6 i k h1 hk (by rw [z, hkc])
        · exact t6 k i h1 hi (by rw [z, hkc])
    · rw [t7 c hc (fun k hk z => e ⟨k, hk, z⟩), Int.zero_mul, sm_0 n (fun k hk => if_neg (fun z => e ⟨k, hk, z⟩))]
  rw [sm_congr 16 e1, sm_swap (fun c k => if nm k = c then fc k * ρ (nm k) else 0) n 16]
  exact sm_congr n (fun k hk => by rw [sm_one (k := nm k) 16 (t5 k hk).2.1 (fun c _ hc => if_neg (Ne.symm hc)), if_pos rfl])
theorem sm_wnI {f : Nat → Int} {B : Int} : ∀ n : Nat, (∀ i, i < n → -B ≤ f i ∧ f i ≤ B) → -(n * B) ≤ sm f n ∧ sm f n ≤ n * B
  | 0, _ => by show -(((0 : Nat) : Int) * B) ≤ 0 ∧ (0 : Int) ≤ ((0 : Nat) : Int) * B; simp
  | n + 1, h => by
    obtain ⟨a, b⟩ := sm_wnI n (fun i hi => h i (by omega))
    obtain ⟨c, d⟩ := h n (by omega)
    show -(((n + 1 : Nat) : Int) * B) ≤ sm f n + f n ∧ sm f n + f n ≤ ((n + 1 : Nat) : Int) * B
    rw [Int.natCast_add, Int.add_mul]
    omega
theorem gp_bound {I : Nat → Nat → Int32} {s : Nat} {t ρ : Nat → Int} (h : isT I s t) (hρ : ∀ c, c < 16 → -1000 ≤ ρ c ∧ ρ c ≤ 1000) : -14000 ≤ gp t ρ ∧ gp t ρ ≤ 14000 := by
  obtain ⟨n, nm, fc, h⟩ := h
  unfold gp
  rw [sm_terms h ρ]
  obtain ⟨-, t2, t3, -, t5, -⟩ := h
  have := sm_wnI (f := fun k => fc k * ρ (nm k)) (B := 3000) n (fun k hk => by
    obtain ⟨-, u2, -, -, u5, u6, -⟩ := t5 k hk
    obtain ⟨r1, r2⟩ := hρ (nm k) u2
    have : fc k = -3 ∨ fc k = -2 ∨ fc k = -1 ∨ fc k = 0 ∨ fc k = 1 ∨ fc k = 2 ∨ fc k = 3 := by omega
    rcases this with z | z | z | z | z | z | z <;> rw [z] <;> omega)
  omega
theorem dt_ent {u : Nat → Int} {c : Nat} : ∀ D, c < D → u c * u c ≤ dt D u u
  | 0, h => absurd h (Nat.not_lt_zero c)
  | D + 1, h => by
    have nn : ∀ D, 0 ≤ dt D u u := fun D => by
      have := sm_mono (f := fun _ => 0) (g := fun c => u c * u c) D (fun i _ => by
        rcases Int.le_total 0 (u i) with z | z
        · exact Int.mul_nonneg z z
        · have := Int.mul_nonneg (show 0 ≤ -u i by omega) (show 0 ≤ -u i by omega)
          rw [Int.neg_mul_neg] at this
          exact this)
      rw [sm_0 D (fun _ _ => rfl)] at this
      exact this
    show _ ≤ dt D u u + u D * u D
    by_cases e : c = D
    · rw [e]
      have := nn D
      omega
    · have h1 := dt_ent (u := u) D (show c < D by omega)
      have h2 := nn (D + 1)
      have h3 : 0 ≤ u D * u D := by
        rcases Int.le_total 0 (u D) with z | z
        · exact Int.mul_nonneg z z
        · have := Int.mul_nonneg (show 0 ≤ -u D by omega) (show 0 ≤ -u D by omega)
          rw [Int.neg_mul_neg] at this
          exact this
      omega
theorem ent6 {u : Nat → Int} (h : dt 16 u u ≤ 36) {c : Nat} (hc : c < 16) : -6 ≤ u c ∧ u c ≤ 6 := by
  have h1 := dt_ent (u := u) 16 hc
  constructor
  · by_cases z : -6 ≤ u c
    · exact z
    · have := Int.mul_le_mul (show 7 ≤ -u c by omega) (show 7 ≤ -u c by omega) (by omega) (by omega)
      rw [Int.neg_mul_neg] at this
      omega
  · by_cases z : u c ≤ 6
    · exact z
    · have := Int.mul_le_mul (show 7 ≤ u c by omega) (show 7 ≤ u c by omega) (by omega) (by omega)
      omega
theorem dt_small {u v : Nat → Int} (h : dt 16 u u ≤ 36) (h2 : dt 16 v v ≤ 36) : -576 ≤ dt 16 u v ∧ dt 16 u v ≤ 576 := by
  have := sm_wnI (f := fun c => u c * v c) (B := 36) 16 (fun c hc => by
    obtain ⟨a, b⟩ := ent6 h hc
    obtain ⟨d, e⟩ := ent6 h2 hc
    have m1 := Int.mul_nonneg (show 0 ≤ 6 - u c by omega) (show 0 ≤ 6 - v c by omega)
    have m2 := Int.mul_nonneg (show 0 ≤ 6 + u c by omega) (show 0 ≤ 6 + v c by omega)
    have m3 := Int.mul_nonneg (show 0 ≤ 6 - u c by omega) (show 0 ≤ 6 + v c by omega)
    have m4 := Int.mul_nonneg (show 0 ≤ 6 + u c by omega) (show 0 ≤ 6 - v c by omega)
    constructor <;> grind)
  unfold dt
  omega
/-- the rows of balance, and what is wanting to each -/
def BA (I : Nat → Nat → Int32) (A : Nat → Nat → Int) (g : Nat → Int) (n : Nat) : Prop := I 76 2 = nI n ∧ n ≤ 16 ∧ (∀ i, i < n → (∀ c, c < 16 → I (78 + i) c = zI (A i c)) ∧ I 94 i = zI (g i)) ∧ (∀ i, i < n → dt 16 (A i) (A i) ≤ 36 ∧ -14000 ≤ g i ∧ g i ≤ 14000)
/-- the rough numbers -/
def RO (I : Nat → Nat → Int32) (ρ : Nat → Int) : Prop := ∀ c, c < 16 → I 3 c = zI (ρ c) ∧ -1000 ≤ ρ c ∧ ρ c ≤ 1000
abbrev offB (s : Nat) : Prop := (5 ≤ s ∧ s + 2 < 11) ∨ 133 < s
set_option maxHeartbeats 4000000 in
set_option maxRecDepth 20000 in
theorem sp_badd (L : Nat) (I : Nat → Nat → Int32) (J : Nat → Nat → Int64) (w : Nat → Nat) (s : Nat) (hs : isSum s) (ho : offB s) (t : Nat → Int) (hT : isT I s t) (ρ : Nat → Int) (hρ : RO I ρ) (A : Nat → Nat → Int) (g : Nat → Int) (n : Nat) (hn : n < 16) (hB : BA I A g n) : SP m_Ba_add [.ref 76, .ref s, .ref 3] (hp L I J w) (fun v h => v = none ∧ ∃ I' : Nat → Nat → Int32, FR 76 133 I J I' J ∧ BA I' (beh A n t) (fun i => if i < n then g i else gp t ρ) (n + 1) ∧ h = hp L I' J w) := by
  have gb := gp_bound hT (fun c hc => (hρ c hc).2)
  have hsr := isT_srt hT
  obtain ⟨m, nm, fc, hT⟩ := hT
  have hst := sm_terms hT ρ
  obtain ⟨t1, t2, t3, t4, t5, t6, t7⟩ := hT
  obtain ⟨b1, b2, b3, b4⟩ := hB
  have fi := fa_i (L := L) w hn
  unfold SP
  iterate 3 (refine WP.st rfl ?_)
  refine WP.ict rfl (show I 76 2 < nI 16 by rw [b1]; exact nI_lt hn (by omega)) ?_
  iterate 4 (refine WP.st rfl ?_)
  refine WP.aald (k := n) rfl (b1) (Or.inr (Or.inr (Or.inl rfl))) (show n < 16 from hn) (rfl) (fi.1) ?_
  iterate 5 (refine WP.st rfl ?_)
  have lk : Nat.ble (LL L (78 + n)) 2560 = true := by rw [fi.2.2]; rfl
  refine WP.inv (fun i (K : Nat → Nat → Int32) => (27, [some (.ref 76), some (.ref s), some (.ref 3), some (.ref (78 + n)), some (.int (nI i)), none, none], [.int (nI 16), .int (nI i)], hp L K J w, 0, 0)) (fun i K => (∀ c, c ≠ 78 + n → K c = I c) ∧ ∀ k, k < i → K (78 + n) k = zI 0) 16 I ⟨fun _ _ => rfl, fun k hk => absurd hk (Nat.not_lt_zero k)⟩ (fun i K hi hv kk => ?_) (fun K hv => ?_)
  · refine WP.icf rfl (nI_ge hi (by omega)) ?_
    iterate 3 (refine WP.st rfl ?_)
    refine WP.iast (k := i) rfl (rfl) (fi.2.1) (show i < LL L (78 + n) by rw [fi.2.2]; exact hi) (lk) ?_
    iterate 4 (refine WP.st rfl ?_)
    have kk2 := kk (mm_up K (78 + n) i (zI 0)) ⟨fun c hc => (up_ne K _ hc).trans (hv.1 c hc), fun k hk => by
      by_cases e : k = i
      · rw [e]; exact mm_up_at K _ _ _
      · exact (up_nk K _ e).trans (hv.2 k (by omega))⟩
    rw [nI_succ i] at kk2
    exact kk2
  · obtain ⟨v1, v2⟩ := hv
    have ks : K s = I s := v1 s (by omega)
    have ks1 : K (s + 1) = I (s + 1) := v1 (s + 1) (by omega)
    have ks2 : K (s + 2) = I (s + 2) := v1 (s + 2) (by omega)
    refine WP.ict rfl (nI_le (Nat.le_refl _) (by omega)) ?_
    iterate 1 (refine WP.st rfl ?_)
    refine WP.get (v := .int (zI (t 16))) rfl rfl (hs.1) (congrArg Value.int ((congrFun ks 0).trans t1)) ?_
    iterate 5 (refine WP.st rfl ?_)
    refine WP.get (v := .int (nI m)) rfl rfl (hs.1) (congrArg Value.int ((congrFun ks 1).trans t4)) ?_
    rw [show zI (t 16) = zI (t 16 - sm (fun k => fc k * ρ (nm k)) 0) from congrArg zI (Int.sub_zero _).symm]
    refine WP.inv (fun i (σ : (Nat → Nat → Int32) × Option Value) => (56, [some (.ref 76), some (.ref s), some (.ref 3), some (.ref (78 + n)), some (.int (zI (t 16 - sm (fun k => fc k * ρ (nm k)) i))), some (.int (nI i)), σ.2], [.int (nI m), .int (nI i)], hp L σ.1 J w, 0, 0)) (fun i σ => (∀ c, c ≠ 78 + n → σ.1 c = I c) ∧ (∀ c, c < 16 → (∀ k, k < i → nm k = c → σ.1 (78 + n) c = zI (fc k)) ∧ ((∀ k, k < i → nm k ≠ c) → σ.1 (78 + n) c = zI 0))) m (K, none) ⟨v1, fun c hc => ⟨fun k hk => absurd hk (Nat.not_lt_zero k), fun _ => v2 c hc⟩⟩ (fun i σ hi hv kk => ?_) (fun σ hv => ?_)
    · obtain ⟨M, o6⟩ := σ
      obtain ⟨u1, u2, u3, u4, u5, u6, u7⟩ := t5 i hi
      obtain ⟨f1, f2⟩ := hv
      dsimp only at f1 f2 ⊢
      have ms : M s = I s := f1 s (by omega)
      have ms1 : M (s + 1) = I (s + 1) := f1 (s + 1) (by omega)
      have ms2 : M (s + 2) = I (s + 2) := f1 (s + 2) (by omega)
      refine WP.icf rfl (nI_ge hi (by omega)) ?_
      iterate 1 (refine WP.st rfl ?_)
      refine WP.get (v := .ref (s + 1)) rfl rfl (hs.1) (congrArg mm_rv (sum_num w hs)) ?_
      iterate 1 (refine WP.st rfl ?_)
      refine WP.iald (k := i) rfl (rfl) (Or.inl hs.2.1) (show i < LL L (s + 1) by rw [sum_l1 hs]; omega) (show Nat.ble (LL L (s + 1)) 2560 = true by rw [sum_l1 hs]; rfl) ?_
      rw [show hI (hp L M J w) (s + 1) i = nI (nm i) from (congrFun ms1 i).trans u1]
      iterate 4 (refine WP.st rfl ?_)
      refine WP.get (v := .ref (s + 2)) rfl rfl (hs.1) (congrArg mm_rv (sum_fac w hs)) ?_
      iterate 1 (refine WP.st rfl ?_)
      refine WP.iald (k := i) rfl (rfl) (Or.inl hs.2.2.1) (show i < LL L (s + 2) by rw [sum_l2 hs]; omega) (show Nat.ble (LL L (s + 2)) 2560 = true by rw [sum_l2 hs]; rfl) ?_
      rw [show hI (hp L M J w) (s + 2) i = zI (fc i) from (congrFun ms2 i).trans u3]
      refine WP.iast (k := nm i) rfl (rfl) (fi.2.1) (show nm i < LL L (78 + n) by rw [fi.2.2]; exact u2) (lk) ?_
      iterate 2 (refine WP.st rfl ?_)
      refine WP.get (v := .ref (s + 2)) rfl rfl (hs.1) (congrArg mm_rv (sum_fac w hs)) ?_
      iterate 1 (refine WP.st rfl ?_)
      refine WP.iald (k := i) rfl (rfl) (Or.inl hs.2.2.1) (show i < LL L (s + 2) by rw [sum_l2 hs]; omega) (show Nat.ble (LL L (s + 2)) 2560 = true by rw [sum_l2 hs]; rfl) ?_
      rw [show hI (putI (hp L M J w) (78 + n) (nm i) (zI (fc i))) (s + 2) i = zI (fc i) from (congrFun (up_ne M _ (by omega)) i).trans ((congrFun ms2 i).trans u3)]
      iterate 2 (refine WP.st rfl ?_)
      refine WP.iald (k := nm i) rfl (rfl) (Or.inl rfl) (show nm i < 16 from u2) (rfl) ?_
      rw [show hI (putI (hp L M J w) (78 + n) (nm i) (zI (fc i))) 3 (nm i) = zI (ρ (nm i)) from (congrFun (up_ne M _ (by omega)) (nm i)).trans ((congrFun (f1 3 (by omega)) (nm i)).trans (hρ (nm i) u2).1)]
      iterate 1 (refine WP.st rfl ?_)
      rw [zI_mul]
      iterate 1 (refine WP.st rfl ?_)
      rw [zI_sub]
      iterate 5 (refine WP.st rfl ?_)
      refine WP.get (v := .int (nI m)) rfl rfl (hs.1) (congrArg Value.int ((congrFun (up_ne M (zI (fc i)) (show s ≠ 78 + n by omega)) 1).trans ((congrFun ms 1).trans t4))) ?_
      have kk2 := kk (mm_up M (78 + n) (nm i) (zI (fc i)), some (.int (nI (nm i)))) ⟨fun c hc => (up_ne M _ hc).trans (f1 c hc), fun c hc => ?_⟩
      · rw [nI_succ i] at kk2
        rw [show t 16 - sm (fun k => fc k * ρ (nm k)) i - fc i * ρ (nm i) = t 16 - sm (fun k => fc k * ρ (nm k)) (i + 1) by show _ = t 16 - (sm (fun k => fc k * ρ (nm k)) i + fc i * ρ (nm i)); omega]
        exact kk2
      · dsimp only
        by_cases e : c = nm i
        · subst e
          refine ⟨fun k hk hkc => ?_, fun hno => absurd rfl (hno i (by omega))⟩
          by_cases e2 : k = i
          · rw [e2]; exact mm_up_at M _ _ _
          · exact absurd hkc (t6 k i (by omega) hi)
        · refine ⟨fun k hk hkc => ?_, fun hno => ?_⟩
          · have : k ≠ i := fun z => by subst z; exact e hkc.symm
            exact (up_nk M _ e).trans ((f2 c hc).1 k (by omega) hkc)
          · exact (up_nk M _ e).trans ((f2 c hc).2 (fun k hk => hno k (by omega)))
    · obtain ⟨M, o6⟩ := σ
      obtain ⟨f1, f2⟩ := hv
      dsimp only at f1 f2 ⊢
      have m76 : M 76 2 = nI n := (congrFun (f1 76 (by omega)) 2).trans b1
      refine WP.ict rfl (nI_le (Nat.le_refl _) (by omega)) ?_
      iterate 5 (refine WP.st rfl ?_)
      refine WP.iast (k := n) rfl (m76) (rfl) (show n < 16 from hn) (rfl) ?_
      iterate 6 (refine WP.st rfl ?_)
      rw [show hI (putI (hp L M J w) 94 n (zI (t 16 - sm (fun k => fc k * ρ (nm k)) m))) 76 2 = nI n from (show mm_up M 94 n (zI (t 16 - sm (fun k => fc k * ρ (nm k)) m)) 76 2 = nI n from (congrFun (up_ne M _ (by decide)) 2).trans m76)]
      have fin : ∀ (i : Nat) (c : Nat), i < n → mm_up (mm_up M 94 n (zI (t 16 - sm (fun k => fc k * ρ (nm k)) m))) 76 2 (nI (n + 1)) (78 + i) c = I (78 + i) c := fun i c hi => by
        rw [up_ne _ _ (by omega), up_ne M _ (by omega), f1 (78 + i) (by omega)]
      refine WP.ret rfl ⟨rfl, mm_up (mm_up M 94 n (zI (t 16 - sm (fun k => fc k * ρ (nm k)) m))) 76 2 (nI (n + 1)), fun c hc => ⟨(up_ne _ _ (by omega)).trans ((up_ne M _ (by omega)).trans (f1 c (by omega))), rfl⟩, ⟨mm_up_at _ 76 2 _, by omega, fun i hi => ?_, fun i hi => ?_⟩, ?_⟩
      · unfold beh
        by_cases e : i < n
        · simp only [e, if_true]
          refine ⟨fun c hc => (fin i c e).trans ((b3 i e).1 c hc), ?_⟩
          rw [up_ne _ _ (by decide), up_nk M _ (by omega), f1 94 (by omega)]
          exact (b3 i e).2
        · obtain rfl : i = n := by omega
          simp only [e, if_false]
          refine ⟨fun c hc => ?_, ?_⟩
          · rw [up_ne _ _ (by omega), up_ne M _ (by omega)]
            by_cases ex : ∃ k, k < m ∧ nm k = c
            · obtain ⟨k, hk, hkc⟩ := ex
              have := (t5 k hk).2.2.2.2.2.2
              rw [hkc] at this
              rw [this]
              exact (f2 c hc).1 k hk hkc
            · have hno : ∀ k, k < m → nm k ≠ c := fun k hk z => ex ⟨k, hk, z⟩
              rw [t7 c hc hno]
              exact (f2 c hc).2 hno
          · rw [up_ne _ _ (by decide), mm_up_at]
            unfold gp
            rw [hst]
      · unfold beh
        by_cases e : i < n
        · simp only [e, if_true]; exact b4 i e
        · simp only [e, if_false]; exact ⟨hsr.1, gb⟩
      · rw [nI_succ n]
        rfl
theorem ev_dot (L : Nat) (I : Nat → Nat → Int32) (J : Nat → Nat → Int64) (w : Nat → Nat) (a b : Nat) (ka : KK a = 9) (kb : KK b = 9) (la : LL L a = 16) (lb : LL L b = 16) (u v : Nat → Int) (hu : ∀ c, c < 16 → I a c = zI (u c)) (hv : ∀ c, c < 16 → I b c = zI (v c)) : EV m_Ba_dot [.ref a, .ref b] (hp L I J w) (some (.int (zI (dt 16 u v)))) (hp L I J w) := by
  have ba : Nat.ble (LL L a) 2560 = true := by rw [la]; rfl
  have bb : Nat.ble (LL L b) 2560 = true := by rw [lb]; rfl
  obtain ⟨r, h, e, q⟩ : SP m_Ba_dot [.ref a, .ref b] (hp L I J w) (fun r h => r = some (.int (zI (dt 16 u v))) ∧ h = hp L I J w) := by
    unfold SP
    iterate 6 (refine WP.st rfl ?_)
    refine WP.inv (fun i (_ : Unit) => (7, [some (.ref a), some (.ref b), some (.int (zI (dt i u v))), some (.int (nI i))], [.int (nI 16), .int (nI i)], hp L I J w, 0, 0)) (fun _ _ => True) 16 () trivial (fun i _ hi _ kk => ?_) (fun _ _ => ?_)
    · refine WP.icf rfl (nI_ge hi (by omega)) ?_
      iterate 3 (refine WP.st rfl ?_)
      refine WP.iald (k := i) rfl (rfl) (Or.inl ka) (show i < LL L a by rw [la]; exact hi) (ba) ?_
      rw [show hI (hp L I J w) a i = zI (u i) from hu i hi]
      iterate 2 (refine WP.st rfl ?_)
      refine WP.iald (k := i) rfl (rfl) (Or.inl kb) (show i < LL L b by rw [lb]; exact hi) (bb) ?_
      rw [show hI (hp L I J w) b i = zI (v i) from hv i hi]
      iterate 1 (refine WP.st rfl ?_)
      rw [zI_mul]
      iterate 1 (refine WP.st rfl ?_)
      rw [zI_add]
      iterate 5 (refine WP.st rfl ?_)
      have kk2 := kk () trivial
      rw [nI_succ i] at kk2
      exact kk2
    · skip
      refine WP.ict rfl (nI_le (Nat.le_refl _) (by omega)) ?_
      iterate 1 (refine WP.st rfl ?_)
      exact WP.ret rfl ⟨rfl, rfl⟩
  obtain ⟨rfl, rfl⟩ := q
  exact e
