/-! the class's frame, in the same words -/
/-- how many of the first m bars are new -/
noncomputable def nnw (ba bb : Nat → Nat) : Nat → Nat
  | 0 => 0
  | m + 1 => nnw ba bb m + @ite _ (mny ba bb m) (Classical.propDecidable _) 0 1
theorem nnw_t {ba bb : Nat → Nat} {m : Nat} (h : mny ba bb m) : nnw ba bb (m + 1) = nnw ba bb m := by
  have e : @ite Nat (mny ba bb m) (Classical.propDecidable _) 0 1 = 0 := @if_pos _ (Classical.propDecidable _) h _ _ _
  show nnw ba bb m + @ite Nat (mny ba bb m) (Classical.propDecidable _) 0 1 = _
  rw [e, Nat.add_zero]
theorem nnw_f {ba bb : Nat → Nat} {m : Nat} (h : ¬ mny ba bb m) : nnw ba bb (m + 1) = nnw ba bb m + 1 := by
  have e : @ite Nat (mny ba bb m) (Classical.propDecidable _) 0 1 = 1 := @if_neg _ (Classical.propDecidable _) h _ _ _
  show nnw ba bb m + @ite Nat (mny ba bb m) (Classical.propDecidable _) 0 1 = _
  rw [e]
theorem nnw_le (ba bb : Nat → Nat) : ∀ m, nnw ba bb m ≤ m
  | 0 => Nat.le_refl 0
  | m + 1 => by
    have := nnw_le ba bb m
    by_cases h : mny ba bb m
    · rw [nnw_t h]; omega
    · rw [nnw_f h]; omega
def CF (I : Nat → Nat → Int32) (B : Nat) (ba bb : Nat → Nat) : Prop := I 141 1 = nI B ∧ B ≤ 20 ∧ (∀ k, k < B → I 144 k = nI (ba k) ∧ ba k < 8 ∧ I 145 k = nI (bb k) ∧ bb k < 8 ∧ ba k ≠ bb k ∧ I 142 k = bI (mny ba bb k) ∧ I 146 k = fm_pair (nI (ba k)) (nI (bb k))) ∧ I 141 2 = nI (nnw ba bb B) ∧ ∀ s, s < 256 → I 147 s = bI (tgt ba bb B s)
theorem bI_0 {P : Prop} : bI P = 0 ↔ ¬ P := by
  by_cases h : P
  · rw [bI_t h]; exact ⟨fun z => absurd z (by decide), fun z => absurd h z⟩
  · rw [bI_f h]; exact ⟨fun _ => h, fun _ => rfl⟩
theorem in_eq {I : Nat → Nat → Int32} {k a b : Nat} (h1 : I 146 k = fm_pair (nI a) (nI b)) (ha : a < 8) (hb : b < 8) {x : Int32} {V : Nat} (hx : ∀ j, j < 8 → bt x j = V.testBit j) : fm_inside I k x = inB a b V := by
  unfold fm_inside fm_ends
  rw [h1]
  have := pair_in ha hb hx
  cases h : inB a b V with
  | true => exact decide_eq_true (this.mpr h)
  | false => exact decide_eq_false (fun z => by rw [this.mp z] at h; cases h)
theorem cnt_cn {I : Nat → Nat → Int32} {n s : Nat} {ba bb : Nat → Nat} {S : Nat → Bool} (hs : s < 256) (h : ∀ k, k < n → I 146 k = fm_pair (nI (ba k)) (nI (bb k)) ∧ ba k < 8 ∧ bb k < 8 ∧ (I 142 k = 0 ↔ S k = true)) : ∀ d i, i + d ≤ n → cn ba bb S s i + fm_cnt I (nI s) i d = cn ba bb S s (i + d)
  | 0, i, _ => Nat.add_zero _
  | d + 1, i, hi => by
    obtain ⟨a1, a2, a4, a5⟩ := h i (by omega)
    have ih := cnt_cn hs h d (i + 1) (by omega)
    show cn ba bb S s i + ((if I 142 i = 0 ∧ fm_inside I i (nI s) = true then 1 else 0) + fm_cnt I (nI s) (i + 1) d) = _
    rw [show i + (d + 1) = i + 1 + d by omega, ← ih]
    have e : cn ba bb S s (i + 1) = cn ba bb S s i + (if (S i && inB (ba i) (bb i) s) = true then 1 else 0) := rfl
    rw [e, in_eq a1 a2 a4 (V := s) (fun j hj => bt_nI (by omega) j)]
    have e2 : (if I 142 i = 0 ∧ inB (ba i) (bb i) s = true then 1 else 0) = (if (S i && inB (ba i) (bb i) s) = true then 1 else 0) := by
      by_cases z : I 142 i = 0 ∧ inB (ba i) (bb i) s = true
      · rw [if_pos z, if_pos (by rw [a5.mp z.1, z.2]; rfl)]
      · rw [if_neg z, if_neg (fun y => z (by rw [Bool.and_eq_true] at y; exact ⟨a5.mpr y.1, y.2⟩))]
    rw [e2]
    omega
theorem cf_cnt {I : Nat → Nat → Int32} {B : Nat} {ba bb : Nat → Nat} (h : ∀ k, k < B → I 144 k = nI (ba k) ∧ ba k < 8 ∧ I 145 k = nI (bb k) ∧ bb k < 8 ∧ ba k ≠ bb k ∧ I 142 k = bI (mny ba bb k) ∧ I 146 k = fm_pair (nI (ba k)) (nI (bb k))) (hB : B ≤ 20) {s : Nat} (hs : s < 256) : fm_cnt I (nI s) 0 B = cn ba bb (nwb ba bb B) s 21 := by
  have := cnt_cn (S := nwb ba bb B) hs (fun k hk => by
    obtain ⟨a1, a2, a3, a4, -, a6, a7⟩ := h k hk
    exact ⟨a7, a2, a4, by rw [a6, bI_0]; exact (nwb_lt B k hk).symm⟩) B 0 (by omega)
  rw [Nat.zero_add] at this
  have e0 : cn ba bb (nwb ba bb B) s 0 = 0 := rfl
  rw [e0, Nat.zero_add] at this
  rw [this]
  obtain ⟨d, hd⟩ : ∃ d, 21 = B + d := ⟨21 - B, by omega⟩
  rw [hd, cn_cut d (fun k a _ => nwb_ge ba bb B k a)]
theorem ev_ckeeps (L : Nat) (I : Nat → Nat → Int32) (J : Nat → Nat → Int64) (w : Nat → Nat) (B : Nat) (ba bb : Nat → Nat) (h : CF I B ba bb) (a b : Nat) (ha : a < 8) (hb : b < 8) : EV m_Fm_keeps [.ref 141, .int (nI a), .int (nI b)] (hp L I J w) (some (.int (bI (kp ba bb B a b)))) (hp L I J w) := by
  have key : ∀ s, s < 256 → ((¬ I 147 s = 0 ∧ fm_pair (nI a) (nI b) &&& (nI s ^^^ (-1)) = 0) ↔ tgt ba bb B s ∧ inB a b s = true) := fun s hs => by
    rw [h.2.2.2.2 s hs, bI_0, Classical.not_not, pair_in ha hb (V := s) (fun j hj => bt_nI (by omega) j)]
  refine ev_keeps L I J w (nI a) (nI b) _ (fun ⟨s, s1, s2⟩ => bI_t ⟨s, s1, (key s s1).mp s2⟩) (fun hn => bI_f (fun ⟨s, s1, s2⟩ => hn s s1 ((key s s1).mpr s2)))
theorem mny_congr {ba bb ba' bb' : Nat → Nat} {m : Nat} (hm : m < 21) (h : ∀ k, k ≤ m → ba k = ba' k ∧ bb k = bb' k) : mny ba bb m ↔ mny ba' bb' m := by
  have e := nwb_congr (ba := ba) (bb := bb) (ba' := ba') (bb' := bb') m (by omega) (fun k hk => h k (by omega))
  have c : ∀ V, cn ba bb (fun k => nwb ba bb m k || decide (k = m)) V 21 = cn ba' bb' (fun k => nwb ba' bb' m k || decide (k = m)) V 21 := fun V => by
    rw [← e]
    exact cn_congr 21 (fun k _ => ⟨rfl, fun hk => h k (by
      by_cases z : k ≤ m
      · exact z
      · rw [nwb_ge ba bb m k (by omega), decide_eq_false (show ¬ k = m by omega)] at hk; cases hk)⟩)
  unfold mny idp
  simp only [c]
theorem nnw_congr {ba bb ba' bb' : Nat → Nat} : ∀ m, m ≤ 21 → (∀ k, k < m → ba k = ba' k ∧ bb k = bb' k) → nnw ba bb m = nnw ba' bb' m
  | 0, _, _ => rfl
  | m + 1, hm, h => by
    have ih := nnw_congr m (by omega) (fun k hk => h k (by omega))
    have e := mny_congr (ba := ba) (bb := bb) (ba' := ba') (bb' := bb') (m := m) (by omega) (fun k hk => h k (by omega))
    by_cases z : mny ba bb m
    · rw [nnw_t z, nnw_t (e.mp z), ih]
    · rw [nnw_f z, nnw_f (fun y => z (e.mpr y)), ih]
theorem tgt_congr {ba bb ba' bb' : Nat → Nat} {n s : Nat} (hn : n ≤ 20) (h : ∀ k, k < n → ba k = ba' k ∧ bb k = bb' k) : tgt ba bb n s ↔ tgt ba' bb' n s := by
  have e := nwb_congr (ba := ba) (bb := bb) (ba' := ba') (bb' := bb') n (by omega) h
  have c : cn ba bb (nwb ba bb n) s 21 = cn ba' bb' (nwb ba' bb' n) s 21 := by
    rw [← e]
    exact cn_congr 21 (fun k _ => ⟨rfl, fun hk => h k (by
      by_cases z : k < n
      · exact z
      · rw [nwb_ge ba bb n k (by omega)] at hk; cases hk)⟩)
  unfold tgt
  rw [c]
def upN (f : Nat → Nat) (n a : Nat) : Nat → Nat := fun k => if k = n then a else f k
set_option maxHeartbeats 4000000 in
set_option maxRecDepth 20000 in
theorem sp_cadd (L : Nat) (I : Nat → Nat → Int32) (J : Nat → Nat → Int64) (w : Nat → Nat) (B : Nat) (ba bb : Nat → Nat) (h : CF I B ba bb) (hB : B < 20) (a b : Nat) (ha : a < 8) (hb : b < 8) (hab : a ≠ b) : SP m_Fm_add [.ref 141, .int (nI a), .int (nI b)] (hp L I J w) (fun v h => v = none ∧ ∃ I' : Nat → Nat → Int32, (∀ c, c < 141 ∨ 147 < c → I' c = I c) ∧ CF I' (B + 1) (upN ba B a) (upN bb B b) ∧ h = hp L I' J w) := by
  obtain ⟨h1, h2, h3, h4, h5⟩ := h
  have hu : ∀ k, k < B → ba k = upN ba B a k ∧ bb k = upN bb B b k := fun k hk => by unfold upN; rw [if_neg (by omega), if_neg (by omega)]; exact ⟨rfl, rfl⟩
  have huB : upN ba B a B = a ∧ upN bb B b B = b := ⟨if_pos rfl, if_pos rfl⟩
  have hm : mny (upN ba B a) (upN bb B b) B ↔ kp ba bb B a b := by
    have := kp_idp (ba := upN ba B a) (bb := upN bb B b) (n := B) (x := B) (nwb_ge _ _ B B (Nat.le_refl B)) (by omega) (by rw [huB.1]; exact ha) (by rw [huB.2]; exact hb) (by rw [huB.1, huB.2]; exact hab)
    rw [huB.1, huB.2, ← kp_congr h2 hu] at this
    exact this
  have key : ∀ s, s < 256 → ((¬ I 147 s = 0 ∧ fm_pair (nI a) (nI b) &&& (nI s ^^^ (-1)) = 0) ↔ tgt ba bb B s ∧ inB a b s = true) := fun s hs => by
    rw [h5 s hs, bI_0, Classical.not_not, pair_in ha hb (V := s) (fun j hj => bt_nI (by omega) j)]
  have rows : ∀ (I' : Nat → Nat → Int32) (r : Int32), r = bI (mny (upN ba B a) (upN bb B b) B) → (∀ k, I' 144 k = if k = B then nI a else I 144 k) → (∀ k, I' 145 k = if k = B then nI b else I 145 k) → (∀ k, I' 142 k = if k = B then r else I 142 k) → (∀ k, I' 146 k = if k = B then fm_pair (nI a) (nI b) else I 146 k) → ∀ k, k < B + 1 → I' 144 k = nI (upN ba B a k) ∧ upN ba B a k < 8 ∧ I' 145 k = nI (upN bb B b k) ∧ upN bb B b k < 8 ∧ upN ba B a k ≠ upN bb B b k ∧ I' 142 k = bI (mny (upN ba B a) (upN bb B b) k) ∧ I' 146 k = fm_pair (nI (upN ba B a k)) (nI (upN bb B b k)) := by
    intro I' r hr e1 e2 e3 e4 k hk
    rw [e1 k, e2 k, e3 k, e4 k]
    by_cases e : k = B
    · subst e
      rw [if_pos rfl, if_pos rfl, if_pos rfl, if_pos rfl, huB.1, huB.2]
      exact ⟨rfl, ha, rfl, hb, hab, hr, rfl⟩
    · rw [if_neg e, if_neg e, if_neg e, if_neg e, ← (hu k (by omega)).1, ← (hu k (by omega)).2]
      obtain ⟨a1, a2, a3, a4, a5, a6, a7⟩ := h3 k (by omega)
      exact ⟨a1, a2, a3, a4, a5, a6.trans (bI_c (mny_congr (by omega) (fun j hj => hu j (by omega)))), a7⟩
  have put1 : ∀ (r : Int32) (c k : Nat), fm_put I B (nI a) (nI b) r c k = if c = 141 ∧ k = 1 then nI (B + 1) else if c = 142 ∧ k = B then r else if c = 146 ∧ k = B then fm_pair (nI a) (nI b) else if c = 145 ∧ k = B then nI b else if c = 144 ∧ k = B then nI a else I c k := fun r c k => rfl
  by_cases hk : kp ba bb B a b
  · have hM := hm.mpr hk
    obtain ⟨s, s1, s2, s3⟩ := hk
    refine SP.of (ev_add1 L I J w (nI a) (nI b) B hB h1 ⟨s, s1, (key s s1).mpr ⟨s2, s3⟩⟩) ⟨rfl, _, fun c hc => ?_, ⟨?_, by omega, rows _ 1 (bI_t hM).symm (fun k => ?_) (fun k => ?_) (fun k => ?_) (fun k => ?_), ?_, fun t ht => ?_⟩, rfl⟩
    · funext k; rw [put1, if_neg (by omega), if_neg (by omega), if_neg (by omega), if_neg (by omega), if_neg (by omega)]
    · rw [put1, if_pos ⟨rfl, rfl⟩]
    · rw [put1, if_neg (by omega), if_neg (by omega), if_neg (by omega), if_neg (by omega)]; simp
    · rw [put1, if_neg (by omega), if_neg (by omega), if_neg (by omega)]; simp
    · rw [put1, if_neg (by omega)]; simp
    · rw [put1, if_neg (by omega), if_neg (by omega)]; simp
    · rw [put1, if_neg (by omega), if_neg (by omega), if_neg (by omega), if_neg (by omega), if_neg (by omega), nnw_t hM, ← nnw_congr B (by omega) hu]
      exact h4
    · rw [put1, if_neg (by omega), if_neg (by omega), if_neg (by omega), if_neg (by omega), if_neg (by omega), h5 t ht]
      apply bI_c
      rw [tgt_congr h2 hu]
      unfold tgt
      rw [nwb_f hM]
  · have hM : ¬ mny (upN ba B a) (upN bb B b) B := fun z => hk (hm.mp z)
    have new1 : ∀ (c k : Nat), fm_new (fm_put I B (nI a) (nI b) 0) c k = if c = 141 ∧ k = 2 then nI (nnw ba bb B) + 1 else if c = 141 ∧ k = 1 then nI (B + 1) else if c = 142 ∧ k = B then 0 else if c = 146 ∧ k = B then fm_pair (nI a) (nI b) else if c = 145 ∧ k = B then nI b else if c = 144 ∧ k = B then nI a else I c k := fun c k => by rw [← h4]; rfl
    have row1 : ∀ (g : Nat → Int32) (c k : Nat), c ≠ 147 → mm_row (fm_new (fm_put I B (nI a) (nI b) 0)) 147 g c k = fm_new (fm_put I B (nI a) (nI b) 0) c k := fun g c k hc => mm_row_off _ g k hc
    have R0 := rows (fm_new (fm_put I B (nI a) (nI b) 0)) 0 (bI_f hM).symm (fun k => by rw [new1, if_neg (by omega), if_neg (by omega), if_neg (by omega), if_neg (by omega), if_neg (by omega)]; simp) (fun k => by rw [new1, if_neg (by omega), if_neg (by omega), if_neg (by omega), if_neg (by omega)]; simp) (fun k => by rw [new1, if_neg (by omega), if_neg (by omega)]; simp) (fun k => by rw [new1, if_neg (by omega), if_neg (by omega), if_neg (by omega)]; simp)
    refine SP.of (ev_add0 L I J w (nI a) (nI b) B hB h1 (fun s s1 s2 => hk ⟨s, s1, (key s s1).mp s2⟩)) ⟨rfl, _, fun c hc => ?_, ⟨?_, by omega, fun k hk2 => ?_, ?_, fun t ht => ?_⟩, rfl⟩
    · funext k; rw [row1 _ _ _ (by omega), new1, if_neg (by omega), if_neg (by omega), if_neg (by omega), if_neg (by omega), if_neg (by omega), if_neg (by omega)]
    · rw [row1 _ _ _ (by decide), new1, if_neg (by omega), if_pos ⟨rfl, rfl⟩]
    · rw [row1 _ _ _ (by decide), row1 _ _ _ (by decide), row1 _ _ _ (by decide), row1 _ _ _ (by decide)]
      exact R0 k hk2
    · rw [row1 _ _ _ (by decide), new1, if_pos ⟨rfl, rfl⟩, nnw_f hM, ← nnw_congr B (by omega) hu]
      exact (nI_succ _).symm
    · rw [mm_row_at, if_pos ht]
      unfold fm_tt
      rw [cf_cnt (ba := upN ba B a) (bb := upN bb B b) R0 (by omega) ht]
      by_cases z : tgt (upN ba B a) (upN bb B b) (B + 1) t
      · rw [bI_t z]; exact if_pos z
      · rw [bI_f z]; exact if_neg z
/-! ringOf -/
theorem bt_lt8 {x : Int32} {V : Nat} (hx : x = nI V) (hV : V < 256) (k : Nat) : bt x k = V.testBit k := by rw [hx]; exact bt_nI (by omega) k
theorem common_bits {I : Nat → Nat → Int32} {B : Nat} {ba bb : Nat → Nat} (h : CF I B ba bb) {k : Nat} (hk : k < B) : ∀ m, m ≤ 256 → ∀ j, j < 32 → (bt (fm_common I k m) j = true ↔ j < 8 ∧ ∀ s, s < m → tgt ba bb B s → inB (ba k) (bb k) s = true → s.testBit j = true)
  | 0, _, j, hj => by
    have : ∀ j, j < 32 → bt (255 : Int32) j = decide (j < 8) := by decide
    show bt (255 : Int32) j = true ↔ _
    rw [this j hj, decide_eq_true_eq]
    exact ⟨fun z => ⟨z, fun s hs => absurd hs (Nat.not_lt_zero s)⟩, fun z => z.1⟩
  | m + 1, hm, j, hj => by
    obtain ⟨a1, a2, a3, a4, -, -, a7⟩ := h.2.2.1 k hk
    have ih := common_bits h hk m (by omega) j hj
    have t := h.2.2.2.2 m (by omega)
    have ei := in_eq a7 a2 a4 (x := nI m) (V := m) (fun j hj => bt_nI (by omega) j)
    show bt (if ¬ I 147 m = 0 ∧ fm_inside I k (nI m) = true then fm_common I k m &&& nI m else fm_common I k m) j = true ↔ _
    have hc : (¬ I 147 m = 0 ∧ fm_inside I k (nI m) = true) ↔ (tgt ba bb B m ∧ inB (ba k) (bb k) m = true) := by rw [ei, t, bI_0, Classical.not_not]
    by_cases z : tgt ba bb B m ∧ inB (ba k) (bb k) m = true
    · rw [if_pos (hc.mpr z), bt_and, Bool.and_eq_true, ih, bt_nI (by omega)]
      constructor
      · rintro ⟨⟨b1, b2⟩, b3⟩
        exact ⟨b1, fun s hs h1 h2 => by by_cases e : s = m; rw [e]; exact b3; exact b2 s (by omega) h1 h2⟩
      · rintro ⟨b1, b2⟩
        exact ⟨⟨b1, fun s hs => b2 s (by omega)⟩, b2 m (by omega) z.1 z.2⟩
    · rw [if_neg (fun y => z (hc.mp y)), ih]
      constructor
      · rintro ⟨b1, b2⟩
        exact ⟨b1, fun s hs h1 h2 => by
          by_cases e : s = m
          · subst e; exact absurd ⟨h1, h2⟩ z
          · exact b2 s (by omega) h1 h2⟩
      · rintro ⟨b1, b2⟩
        exact ⟨b1, fun s hs => b2 s (by omega)⟩
theorem ring_bits {I : Nat → Nat → Int32} {B : Nat} {ba bb : Nat → Nat} (h : CF I B ba bb) (c : Int32) : ∀ m, m ≤ B → ∀ j, j < 32 → (bt (fm_ring I c m) j = true ↔ j < m ∧ ¬ mny ba bb j ∧ bt c (ba j) = true ∧ bt c (bb j) = true)
  | 0, _, j, hj => by
    show bt 0 j = true ↔ _
    rw [bt_0]
    exact ⟨fun z => (by cases z), fun z => absurd z.1 (Nat.not_lt_zero j)⟩
  | m + 1, hm, j, hj => by
    obtain ⟨a1, a2, a3, a4, -, a6, a7⟩ := h.2.2.1 m (by omega)
    have hB := h.2.1
    have ih := ring_bits h c m (by omega) j hj
    have ei : fm_inside I m c = true ↔ bt c (ba m) = true ∧ bt c (bb m) = true := by
      unfold fm_inside fm_ends
      rw [a7, decide_eq_true_eq, bt_z]
      constructor
      · intro z
        have z1 := z (ba m) (by omega)
        have z2 := z (bb m) (by omega)
        rw [bt_and, bt_pair (by omega) (by omega) (by omega), bt_not c (by omega)] at z1 z2
        simp at z1 z2
        exact ⟨z1, z2⟩
      · rintro ⟨z1, z2⟩ q hq
        rw [bt_and, bt_pair (by omega) (by omega) hq, bt_not c hq]
        by_cases e1 : q = ba m
        · subst e1; rw [z1]; simp
        · by_cases e2 : q = bb m
          · subst e2; rw [z2]; simp
          · simp [e1, e2]
    show bt (if I 142 m = 0 ∧ fm_inside I m c = true then fm_ring I c m ||| (1 <<< (nI m &&& 31)) else fm_ring I c m) j = true ↔ _
    have hc : (I 142 m = 0 ∧ fm_inside I m c = true) ↔ (¬ mny ba bb m ∧ bt c (ba m) = true ∧ bt c (bb m) = true) := by rw [a6, bI_0, ei]
    by_cases z : ¬ mny ba bb m ∧ bt c (ba m) = true ∧ bt c (bb m) = true
    · rw [if_pos (hc.mpr z), bt_or1 _ (by omega) hj, Bool.or_eq_true, decide_eq_true_eq, ih]
      constructor
      · rintro (⟨b1, b2⟩ | b1)
        · exact ⟨by omega, b2⟩
        · subst b1; exact ⟨by omega, z⟩
      · rintro ⟨b1, b2⟩
        by_cases e : j = m
        · exact Or.inr e
        · exact Or.inl ⟨by omega, b2⟩
    · rw [if_neg (fun y => z (hc.mp y)), ih]
      constructor
      · rintro ⟨b1, b2⟩
        exact ⟨by omega, b2⟩
      · rintro ⟨b1, b2⟩
        by_cases e : j = m
        · subst e; exact absurd b2 z
        · exact ⟨by omega, b2⟩
/-- the bars that a bar too many goes round with -/
theorem cring {I : Nat → Nat → Int32} {B : Nat} {ba bb : Nat → Nat} (h : CF I B ba bb) {k : Nat} (hk : k < B) (hm : mny ba bb k) (j : Nat) (hj : j < 32) : bt (fm_ring I (fm_common I k 256) B) j = true ↔ j < B ∧ nwb ba bb B j = true ∧ idp ba bb (fun q => (nwb ba bb B q && decide (q ≠ j)) || decide (q = k)) := by
  rw [ring_bits h _ B (Nat.le_refl B) j hj]
  have hB := h.2.1
  constructor
  · rintro ⟨j1, j2, j3, j4⟩
    have hn := (nwb_lt (ba := ba) (bb := bb) B j j1).mpr j2
    obtain ⟨a1, a2, a3, a4, a5, -⟩ := h.2.2.1 k hk
    obtain ⟨b1, b2, b3, b4, b5, -⟩ := h.2.2.1 j j1
    have kn : nwb ba bb B k = false := by
      cases e : nwb ba bb B k with
      | false => rfl
      | true => exact absurd hm ((nwb_lt B k hk).mp e)
    refine ⟨j1, hn, (ring_idp hn (by omega) kn (by omega) a2 a4 a5).mpr (fun s hs h1 h2 => ?_)⟩
    have c1 := ((common_bits h hk 256 (Nat.le_refl _) (ba j) (by omega)).mp j3).2 s hs h1 h2
    have c2 := ((common_bits h hk 256 (Nat.le_refl _) (bb j) (by omega)).mp j4).2 s hs h1 h2
    unfold inB
    rw [c1, c2]; rfl
  · rintro ⟨j1, j2, j3⟩
    obtain ⟨a1, a2, a3, a4, a5, -⟩ := h.2.2.1 k hk
    obtain ⟨b1, b2, b3, b4, b5, -⟩ := h.2.2.1 j j1
    have kn : nwb ba bb B k = false := by
      cases e : nwb ba bb B k with
      | false => rfl
      | true => exact absurd hm ((nwb_lt B k hk).mp e)
    have hr := (ring_idp j2 (by omega) kn (by omega) a2 a4 a5).mp j3
    refine ⟨j1, (nwb_lt B j j1).mp j2, (common_bits h hk 256 (Nat.le_refl _) (ba j) (by omega)).mpr ⟨b2, fun s hs h1 h2 => ?_⟩, (common_bits h hk 256 (Nat.le_refl _) (bb j) (by omega)).mpr ⟨b4, fun s hs h1 h2 => ?_⟩⟩
    · have := hr s hs h1 h2
      unfold inB at this
      rw [Bool.and_eq_true] at this
      exact this.1
    · have := hr s hs h1 h2
      unfold inB at this
      rw [Bool.and_eq_true] at this
      exact this.2
