/-! bars: sets of points, by counting -/
theorem bt_nI {s : Nat} (hs : s < 2 ^ 31) (k : Nat) : bt (nI s) k = s.testBit k := by
  unfold bt
  have : (nI s).toBitVec = BitVec.ofNat 32 s := rfl
  rw [this, BitVec.getLsbD_ofNat]
  by_cases h : k < 32
  · simp [h]
  · simp only [h, decide_false, Bool.false_and]
    symm
    apply Nat.testBit_lt_two_pow
    exact Nat.lt_of_lt_of_le hs (Nat.pow_le_pow_right (by decide) (by omega))
theorem bt_and (x y : Int32) (k : Nat) : bt (x &&& y) k = (bt x k && bt y k) := by
  unfold bt
  rw [Int32.toBitVec_and, BitVec.getLsbD_and]
theorem bt_or (x y : Int32) (k : Nat) : bt (x ||| y) k = (bt x k || bt y k) := by
  unfold bt
  rw [Int32.toBitVec_or, BitVec.getLsbD_or]
theorem bt_m1 : ∀ k, k < 32 → bt (-1) k = true := by decide
theorem bt_not (x : Int32) {k : Nat} (hk : k < 32) : bt (x ^^^ (-1)) k = !bt x k := by
  have e : bt (x ^^^ (-1)) k = (bt x k ^^ bt (-1) k) := by
    unfold bt
    rw [Int32.toBitVec_xor, BitVec.getLsbD_xor]
  rw [e, bt_m1 k hk, Bool.xor_true]
theorem bt_sh {n k : Nat} (hn : n < 32) (hk : k < 32) : bt ((1 : Int32) <<< (nI n &&& 31)) k = decide (k = n) := by
  have := bt_or1 0 hn hk
  rw [bt_or, bt_0] at this
  simpa using this
theorem bt_z {x : Int32} : x = 0 ↔ ∀ k, k < 32 → bt x k = false := by
  constructor
  · intro e k _
    rw [e]; exact bt_0 k
  · intro h
    exact bt_ext (fun k hk => by rw [h k hk, bt_0])
theorem bt_pair {a b k : Nat} (ha : a < 32) (hb : b < 32) (hk : k < 32) : bt (fm_pair (nI a) (nI b)) k = (decide (k = a) || decide (k = b)) := by
  unfold fm_pair
  rw [bt_or, bt_sh ha hk, bt_sh hb hk]
/-- both ends in a set of points -/
def inB (a b V : Nat) : Bool := V.testBit a && V.testBit b
theorem pair_in {a b : Nat} (ha : a < 8) (hb : b < 8) {x : Int32} {V : Nat} (hx : ∀ k, k < 8 → bt x k = V.testBit k) : (fm_pair (nI a) (nI b) &&& (x ^^^ (-1)) = 0) ↔ inB a b V = true := by
  rw [bt_z]
  unfold inB
  rw [Bool.and_eq_true]
  constructor
  · intro h
    have h1 := h a (by omega)
    have h2 := h b (by omega)
    rw [bt_and, bt_pair (by omega) (by omega) (by omega), bt_not x (by omega), hx a ha] at h1
    rw [bt_and, bt_pair (by omega) (by omega) (by omega), bt_not x (by omega), hx b hb] at h2
    simp at h1 h2
    exact ⟨h1, h2⟩
  · rintro ⟨h1, h2⟩ k hk
    rw [bt_and, bt_pair (by omega) (by omega) hk, bt_not x hk]
    by_cases e1 : k = a
    · subst e1; rw [hx k ha, h1]; simp
    · by_cases e2 : k = b
      · subst e2; rw [hx k hb, h2]; simp
      · simp [e1, e2]
/-- how many bars of S lie inside V -/
def cn (ba bb : Nat → Nat) (S : Nat → Bool) (V : Nat) : Nat → Nat
  | 0 => 0
  | m + 1 => cn ba bb S V m + (if (S m && inB (ba m) (bb m) V) = true then 1 else 0)
theorem cn_congr {ba bb ba' bb' : Nat → Nat} {S S' : Nat → Bool} {V : Nat} : ∀ m, (∀ k, k < m → S k = S' k ∧ (S k = true → ba k = ba' k ∧ bb k = bb' k)) → cn ba bb S V m = cn ba' bb' S' V m
  | 0, _ => rfl
  | m + 1, h => by
    obtain ⟨h1, h2⟩ := h m (by omega)
    show cn ba bb S V m + _ = cn ba' bb' S' V m + _
    rw [cn_congr m (fun k hk => h k (by omega))]
    congr 1
    cases hS : S m with
    | false => rw [← h1, hS]; rfl
    | true =>
      obtain ⟨e1, e2⟩ := h2 hS
      rw [← h1, hS, e1, e2]
theorem cn_mono {ba bb : Nat → Nat} {S S' : Nat → Bool} {V : Nat} : ∀ m, (∀ k, k < m → S k = true → S' k = true) → cn ba bb S V m ≤ cn ba bb S' V m
  | 0, _ => Nat.le_refl 0
  | m + 1, h => by
    have ih := cn_mono (ba := ba) (bb := bb) (V := V) m (fun k hk => h k (by omega))
    show cn ba bb S V m + _ ≤ cn ba bb S' V m + _
    cases hS : S m with
    | false => simp; omega
    | true => rw [h m (by omega) hS]; omega
theorem cn_add {ba bb : Nat → Nat} {S : Nat → Bool} {V x : Nat} (hx : S x = false) : ∀ m, cn ba bb (fun k => S k || decide (k = x)) V m = cn ba bb S V m + (if x < m ∧ inB (ba x) (bb x) V = true then 1 else 0)
  | 0 => by show 0 = 0 + _; rw [if_neg (fun z => absurd z.1 (Nat.not_lt_zero x))]
  | m + 1 => by
    show cn ba bb (fun k => S k || decide (k = x)) V m + (if ((S m || decide (m = x)) && inB (ba m) (bb m) V) = true then 1 else 0) = cn ba bb S V m + (if (S m && inB (ba m) (bb m) V) = true then 1 else 0) + _
    rw [cn_add hx m]
    by_cases e : m = x
    · subst e
      rw [hx, if_neg (fun z => absurd z.1 (Nat.lt_irrefl m))]
      by_cases e2 : inB (ba m) (bb m) V = true
      · simp [e2]
      · simp [e2]
    · by_cases e3 : x < m
      · simp [e, e3, show x < m + 1 by omega]; omega
      · simp [e, e3, show ¬ x < m + 1 by omega]
theorem cn_del {ba bb : Nat → Nat} {S : Nat → Bool} {V x : Nat} (hx : S x = true) : ∀ m, cn ba bb (fun k => S k && decide (k ≠ x)) V m + (if x < m ∧ inB (ba x) (bb x) V = true then 1 else 0) = cn ba bb S V m
  | 0 => by show 0 + _ = 0; rw [if_neg (fun z => absurd z.1 (Nat.not_lt_zero x))]
  | m + 1 => by
    show cn ba bb (fun k => S k && decide (k ≠ x)) V m + (if ((S m && decide (m ≠ x)) && inB (ba m) (bb m) V) = true then 1 else 0) + _ = cn ba bb S V m + (if (S m && inB (ba m) (bb m) V) = true then 1 else 0)
    rw [← cn_del hx m]
    by_cases e : m = x
    · subst e
      rw [hx, if_neg (show ¬ (m < m ∧ inB (ba m) (bb m) V = true) from fun z => absurd z.1 (Nat.lt_irrefl m))]
      by_cases e2 : inB (ba m) (bb m) V = true
      · simp [e2]
      · simp [e2]
    · by_cases e3 : x < m
      · simp [e, e3, show x < m + 1 by omega]; omega
      · simp [e, e3, show ¬ x < m + 1 by omega]
theorem cn_cut {ba bb : Nat → Nat} {S : Nat → Bool} {V m : Nat} : ∀ d, (∀ k, m ≤ k → k < m + d → S k = false) → cn ba bb S V (m + d) = cn ba bb S V m
  | 0, _ => rfl
  | d + 1, h => by
    show cn ba bb S V (m + d) + (if (S (m + d) && inB (ba (m + d)) (bb (m + d)) V) = true then 1 else 0) = _
    rw [h (m + d) (by omega) (by omega), cn_cut d (fun k a b => h k a (by omega))]
    rfl
/-- the bars of S leave one another free -/
def idp (ba bb : Nat → Nat) (S : Nat → Bool) : Prop := ∀ V, V < 256 → cn ba bb S V 21 = 0 ∨ cn ba bb S V 21 + 3 ≤ 2 * pcnt V
/-- the new ones of the first m bars -/
noncomputable def nwb (ba bb : Nat → Nat) : Nat → Nat → Bool
  | 0 => fun _ => false
  | m + 1 => fun k => nwb ba bb m k || (decide (k = m) && @decide (idp ba bb (fun k => nwb ba bb m k || decide (k = m))) (Classical.propDecidable _))
/-- the m-th is one too many -/
def mny (ba bb : Nat → Nat) (m : Nat) : Prop := ¬ idp ba bb (fun k => nwb ba bb m k || decide (k = m))
theorem nwb_ge (ba bb : Nat → Nat) : ∀ m k, m ≤ k → nwb ba bb m k = false
  | 0, _, _ => rfl
  | m + 1, k, h => by
    show (nwb ba bb m k || (decide (k = m) && _)) = false
    rw [nwb_ge ba bb m k (by omega), decide_eq_false (show ¬ k = m by omega)]
    rfl
theorem nwb_t {ba bb : Nat → Nat} {m : Nat} (h : ¬ mny ba bb m) : nwb ba bb (m + 1) = fun k => nwb ba bb m k || decide (k = m) := by
  funext k
  show (nwb ba bb m k || (decide (k = m) && @decide _ (Classical.propDecidable _))) = _
  rw [@decide_eq_true _ (Classical.propDecidable _) (Classical.not_not.mp h), Bool.and_true]
theorem nwb_f {ba bb : Nat → Nat} {m : Nat} (h : mny ba bb m) : nwb ba bb (m + 1) = nwb ba bb m := by
  funext k
  show (nwb ba bb m k || (decide (k = m) && @decide _ (Classical.propDecidable _))) = _
  rw [@decide_eq_false _ (Classical.propDecidable _) h, Bool.and_false, Bool.or_false]
theorem nwb_idp (ba bb : Nat → Nat) : ∀ m, idp ba bb (nwb ba bb m)
  | 0 => fun V _ => Or.inl (by
    have := cn_cut (ba := ba) (bb := bb) (S := fun _ => false) (V := V) (m := 0) 21 (fun _ _ _ => rfl)
    exact this)
  | m + 1 => by
    by_cases h : mny ba bb m
    · rw [nwb_f h]; exact nwb_idp ba bb m
    · rw [nwb_t h]; exact Classical.not_not.mp h
theorem nwb_lt {ba bb : Nat → Nat} : ∀ m k, k < m → (nwb ba bb m k = true ↔ ¬ mny ba bb k)
  | 0, k, h => absurd h (Nat.not_lt_zero k)
  | m + 1, k, hk => by
    by_cases e : k = m
    · subst e
      by_cases h : mny ba bb k
      · rw [nwb_f h, nwb_ge ba bb k k (Nat.le_refl k)]
        exact ⟨fun z => (by cases z), fun z => absurd h z⟩
      · rw [nwb_t h]
        simp [h]
    · have : nwb ba bb (m + 1) k = nwb ba bb m k := by
        show (nwb ba bb m k || (decide (k = m) && _)) = _
        rw [decide_eq_false e, Bool.false_and, Bool.or_false]
      rw [this]
      exact nwb_lt m k (by omega)
theorem nwb_up {ba bb : Nat → Nat} : ∀ d m k, nwb ba bb m k = true → nwb ba bb (m + d) k = true
  | 0, _, _, h => h
  | d + 1, m, k, h => by
    show (nwb ba bb (m + d) k || _) = true
    rw [nwb_up d m k h]
    rfl
/-- as many new bars inside as may be -/
def tgt (ba bb : Nat → Nat) (n s : Nat) : Prop := 2 ≤ pcnt s ∧ 2 * pcnt s ≤ cn ba bb (nwb ba bb n) s 21 + 3
/-- the distance of two points is kept -/
def kp (ba bb : Nat → Nat) (n a b : Nat) : Prop := ∃ s, s < 256 ∧ tgt ba bb n s ∧ inB a b s = true
theorem pcnt_in : ∀ s, s < 256 → ∀ a, a < 8 → ∀ b, b < 8 → a ≠ b → inB a b s = true → 2 ≤ pcnt s := by decide +kernel
theorem pcnt_two : ∀ a, a < 8 → ∀ b, b < 8 → a ≠ b → pcnt (2 ^ a + 2 ^ b) = 2 ∧ inB a b (2 ^ a + 2 ^ b) = true ∧ 2 ^ a + 2 ^ b < 256 := by decide +kernel
/-- one bar more is one too many just if its points lie in a tight set -/
theorem kp_idp {ba bb : Nat → Nat} {n x : Nat} (hx : nwb ba bb n x = false) (hx2 : x < 21) (ha : ba x < 8) (hb : bb x < 8) (hab : ba x ≠ bb x) : ¬ idp ba bb (fun k => nwb ba bb n k || decide (k = x)) ↔ kp ba bb n (ba x) (bb x) := by
  have h0 := nwb_idp ba bb n
  constructor
  · intro h
    unfold idp at h
    rw [Classical.not_forall] at h
    obtain ⟨V, h⟩ := h
    rw [Classical.not_imp] at h
    obtain ⟨hV, h⟩ := h
    rw [cn_add hx] at h
    have h1 := h0 V hV
    by_cases e : inB (ba x) (bb x) V = true
    · rw [if_pos ⟨hx2, e⟩] at h
      refine ⟨V, hV, ⟨pcnt_in V hV _ ha _ hb hab e, by omega⟩, e⟩
    · rw [if_neg (fun z => e z.2), Nat.add_zero] at h
      exact absurd h1 h
  · rintro ⟨s, hs, ⟨t1, t2⟩, e⟩ h
    have := h s hs
    rw [cn_add hx, if_pos ⟨hx2, e⟩] at this
    omega
theorem tgt_up {ba bb : Nat → Nat} {m s : Nat} (d : Nat) (h : tgt ba bb m s) : tgt ba bb (m + d) s := by
  refine ⟨h.1, ?_⟩
  have := cn_mono (ba := ba) (bb := bb) (V := s) (S := nwb ba bb m) (S' := nwb ba bb (m + d)) 21 (fun k _ hk => nwb_up d m k hk)
  have := h.2
  omega
/-- the ends of a bar are kept -/
theorem kp_bar {ba bb : Nat → Nat} {n k : Nat} (hk : k < n) (hn : n ≤ 20) (ha : ba k < 8) (hb : bb k < 8) (hab : ba k ≠ bb k) : kp ba bb n (ba k) (bb k) := by
  obtain ⟨d, rfl⟩ : ∃ d, n = k + 1 + d := ⟨n - k - 1, by omega⟩
  by_cases h : mny ba bb k
  · obtain ⟨s, s1, s2, s3⟩ := (kp_idp (nwb_ge ba bb k k (Nat.le_refl k)) (by omega) ha hb hab).mp h
    exact ⟨s, s1, by have := tgt_up (1 + d) s2; rw [show k + (1 + d) = k + 1 + d by omega] at this; exact this, s3⟩
  · obtain ⟨p1, p2, p3⟩ := pcnt_two _ ha _ hb hab
    refine ⟨2 ^ ba k + 2 ^ bb k, p3, ⟨by omega, ?_⟩, p2⟩
    have hn : nwb ba bb (k + 1 + d) k = true := (nwb_lt _ k (by omega)).mpr h
    have := cn_del (ba := ba) (bb := bb) (V := 2 ^ ba k + 2 ^ bb k) hn 21
    rw [if_pos ⟨by omega, p2⟩] at this
    omega
theorem nwb_congr {ba bb ba' bb' : Nat → Nat} : ∀ m, m ≤ 21 → (∀ k, k < m → ba k = ba' k ∧ bb k = bb' k) → nwb ba bb m = nwb ba' bb' m
  | 0, _, _ => rfl
  | m + 1, hm, h => by
    have ih := nwb_congr m (by omega) (fun k hk => h k (by omega))
    have e : idp ba bb (fun k => nwb ba bb m k || decide (k = m)) ↔ idp ba' bb' (fun k => nwb ba' bb' m k || decide (k = m)) := by
      rw [← ih]
      have c : ∀ V, cn ba bb (fun k => nwb ba bb m k || decide (k = m)) V 21 = cn ba' bb' (fun k => nwb ba bb m k || decide (k = m)) V 21 := fun V => cn_congr 21 (fun k _ => ⟨rfl, fun hk => by
        by_cases e : k < m + 1
        · exact h k e
        · rw [nwb_ge ba bb m k (by omega), decide_eq_false (show ¬ k = m by omega)] at hk
          cases hk⟩)
      unfold idp
      constructor
      · intro z V hV; rw [← c]; exact z V hV
      · intro z V hV; rw [c]; exact z V hV
    funext k
    show (nwb ba bb m k || (decide (k = m) && @decide _ (Classical.propDecidable _))) = (nwb ba' bb' m k || (decide (k = m) && @decide _ (Classical.propDecidable _)))
    rw [ih] at e ⊢
    congr 2
    by_cases z : idp ba bb (fun k => nwb ba' bb' m k || decide (k = m))
    · rw [@decide_eq_true _ (Classical.propDecidable _) z, @decide_eq_true _ (Classical.propDecidable _) (e.mp z)]
    · rw [@decide_eq_false _ (Classical.propDecidable _) z, @decide_eq_false _ (Classical.propDecidable _) (fun y => z (e.mpr y))]
/-- without the k-th new bar there is room for the x-th -/
theorem ring_idp {ba bb : Nat → Nat} {n k x : Nat} (hk : nwb ba bb n k = true) (hk2 : k < 21) (hx : nwb ba bb n x = false) (hx2 : x < 21) (ha : ba x < 8) (hb : bb x < 8) (hab : ba x ≠ bb x) : idp ba bb (fun j => (nwb ba bb n j && decide (j ≠ k)) || decide (j = x)) ↔ ∀ s, s < 256 → tgt ba bb n s → inB (ba x) (bb x) s = true → inB (ba k) (bb k) s = true := by
  have h0 := nwb_idp ba bb n
  have hxf : (nwb ba bb n x && decide (x ≠ k)) = false := by rw [hx]; rfl
  constructor
  · intro h s hs ht hin
    have h1 := h s hs
    rw [cn_add (S := fun j => nwb ba bb n j && decide (j ≠ k)) hxf, if_pos ⟨hx2, hin⟩] at h1
    have h2 := cn_del (ba := ba) (bb := bb) (V := s) hk 21
    by_cases e : inB (ba k) (bb k) s = true
    · exact e
    · rw [if_neg (fun z => e z.2)] at h2
      have := ht.2
      omega
  · intro h V hV
    rw [cn_add (S := fun j => nwb ba bb n j && decide (j ≠ k)) hxf]
    have h2 := cn_del (ba := ba) (bb := bb) (V := V) hk 21
    have h1 := h0 V hV
    by_cases e : inB (ba x) (bb x) V = true
    · rw [if_pos ⟨hx2, e⟩]
      have p2 := pcnt_in V hV _ ha _ hb hab e
      by_cases t : 2 * pcnt V ≤ cn ba bb (nwb ba bb n) V 21 + 3
      · rw [if_pos ⟨hk2, h V hV ⟨p2, t⟩ e⟩] at h2
        omega
      · right
        split at h2 <;> omega
    · rw [if_neg (fun z => e z.2), Nat.add_zero]
      split at h2 <;> omega
