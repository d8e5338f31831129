/-! the class's build, in the same words -/
theorem at_dcn {I : Nat → Nat → Int32} {B : Nat} {ba bb : Nat → Nat} (h : CF I B ba bb) {p V : Nat} (hp : p < 8) (hV : V < 256) : ∀ m, m ≤ B → fm_at I (nI p) (nI V) m = dcn ba bb (nwb ba bb B) V p m
  | 0, _ => rfl
  | m + 1, hm => by
    obtain ⟨a1, a2, a3, a4, -, a6, a7⟩ := h.2.2.1 m (by omega)
    have ih := at_dcn h hp hV m (by omega)
    have ei := in_eq a7 a2 a4 (x := nI V) (V := V) (fun j hj => bt_nI (by omega) j)
    have ee : ¬ fm_ends I m &&& (1 <<< (nI p &&& 31)) = 0 ↔ (decide (ba m = p) || decide (bb m = p)) = true := by
      unfold fm_ends
      rw [a7, bt_z, Classical.not_forall]
      constructor
      · rintro ⟨q, hq⟩
        rw [Classical.not_imp] at hq
        obtain ⟨q1, q2⟩ := hq
        rw [bt_and, bt_pair (by omega) (by omega) q1, bt_sh (by omega) q1] at q2
        simp at q2 ⊢
        omega
      · intro z
        refine ⟨p, fun y => ?_⟩
        have := y (by omega)
        rw [bt_and, bt_pair (by omega) (by omega) (by omega), bt_sh (by omega) (by omega)] at this
        simp at this z
        omega
    have hc : (I 142 m = 0 ∧ fm_inside I m (nI V) = true ∧ ¬ fm_ends I m &&& (1 <<< (nI p &&& 31)) = 0) ↔ (nwb ba bb B m && inB (ba m) (bb m) V && (decide (ba m = p) || decide (bb m = p))) = true := by
      rw [ee, ei, a6, bI_0, ← nwb_lt B m (by omega), Bool.and_eq_true, Bool.and_eq_true, and_assoc]
    show (if I 142 m = 0 ∧ fm_inside I m (nI V) = true ∧ ¬ fm_ends I m &&& (1 <<< (nI p &&& 31)) = 0 then fm_at I (nI p) (nI V) m + 1 else fm_at I (nI p) (nI V) m) = dcn ba bb (nwb ba bb B) V p m + (if (nwb ba bb B m && inB (ba m) (bb m) V && (decide (ba m = p) || decide (bb m = p))) = true then 1 else 0)
    rw [ih]
    by_cases z : (nwb ba bb B m && inB (ba m) (bb m) V && (decide (ba m = p) || decide (bb m = p))) = true
    · rw [if_pos (hc.mpr z), if_pos z]
    · rw [if_neg (fun y => z (hc.mp y)), if_neg z, Nat.add_zero]
theorem bit_and {V p : Nat} (hV : V < 256) (hp : p < 8) : ¬ (nI V &&& ((1 : Int32) <<< (nI p &&& 31)) = 0) ↔ V.testBit p = true := by
  rw [bt_z, Classical.not_forall]
  constructor
  · rintro ⟨q, hq⟩
    rw [Classical.not_imp] at hq
    obtain ⟨q1, q2⟩ := hq
    rw [bt_and, bt_nI (by omega), bt_sh (by omega) q1] at q2
    simp at q2
    rw [← q2.2]; exact q2.1
  · intro z
    refine ⟨p, fun y => ?_⟩
    have := y (by omega)
    rw [bt_and, bt_nI (by omega), bt_sh (by omega) (by omega), z] at this
    simp at this
/-- the point that goes, as an int -/
def goI (o : Option Nat) : Int32 := match o with
  | none => -1
  | some p => nI p
theorem gd_gop {I : Nat → Nat → Int32} {B : Nat} {ba bb : Nat → Nat} (h : CF I B ba bb) {V : Nat} (hV : V < 256) : ∀ m, m ≤ 8 → fm_gd I (nI V) B m = goI (gop ba bb (nwb ba bb B) B V m)
  | 0, _ => rfl
  | m + 1, hm => by
    show (if ¬ nI V &&& (1 <<< (nI m &&& 31)) = 0 ∧ fm_at I (nI m) (nI V) B ≤ 2 then nI m else fm_gd I (nI V) B m) = goI (if V.testBit m = true ∧ dcn ba bb (nwb ba bb B) V m B ≤ 2 then some m else gop ba bb (nwb ba bb B) B V m)
    have hc : (¬ nI V &&& ((1 : Int32) <<< (nI m &&& 31)) = 0 ∧ fm_at I (nI m) (nI V) B ≤ 2) ↔ (V.testBit m = true ∧ dcn ba bb (nwb ba bb B) V m B ≤ 2) := by
      rw [bit_and hV (by omega), at_dcn h (by omega) hV B (Nat.le_refl B)]
    by_cases z : V.testBit m = true ∧ dcn ba bb (nwb ba bb B) V m B ≤ 2
    · rw [if_pos (hc.mpr z), if_pos z]; rfl
    · rw [if_neg (fun y => z (hc.mp y)), if_neg z, gd_gop h hV m (by omega)]
theorem nI_n1 {n : Nat} (hn : n < 2 ^ 31) : nI n ≠ -1 := fun z => by
  have := congrArg Int32.toInt z
  rw [nI_zI, zI_int (by omega) (by omega)] at this
  have e : (-1 : Int32).toInt = -1 := rfl
  omega
theorem b1_blx {I : Nat → Nat → Int32} {B P : Nat} {ba bb : Nat → Nat} (h : CF I B ba bb) (hP : P ≤ 8) : ∀ (d V m : Nat) (gf : Nat → Nat) (g : Nat → Int32), V < 256 → m ≤ P → pcnt V = P - m → (∀ k, P ≤ k → k < 8 → V.testBit k = false) → (∀ j, P - m ≤ j → j < P → g j = nI (gf (P - 1 - j))) → (fm_b1 I B d (nI V) (P - m) g).1 = nI (blx ba bb (nwb ba bb B) B P d V m gf).1 ∧ (fm_b1 I B d (nI V) (P - m) g).2.1 = P - (blx ba bb (nwb ba bb B) B P d V m gf).2.1 ∧ (blx ba bb (nwb ba bb B) B P d V m gf).2.1 ≤ P ∧ (blx ba bb (nwb ba bb B) B P d V m gf).1 < 256 ∧ pcnt (blx ba bb (nwb ba bb B) B P d V m gf).1 = P - (blx ba bb (nwb ba bb B) B P d V m gf).2.1 ∧ (∀ k, P ≤ k → k < 8 → (blx ba bb (nwb ba bb B) B P d V m gf).1.testBit k = false) ∧ (∀ j, P - (blx ba bb (nwb ba bb B) B P d V m gf).2.1 ≤ j → j < P → (fm_b1 I B d (nI V) (P - m) g).2.2 j = nI ((blx ba bb (nwb ba bb B) B P d V m gf).2.2 (P - 1 - j)))
  | 0, V, m, gf, g, hV, hm, hc, hVP, hg => ⟨rfl, rfl, hm, hV, hc, hVP, hg⟩
  | d + 1, V, m, gf, g, hV, hm, hc, hVP, hg => by
    have eb : fm_b1 I B (d + 1) (nI V) (P - m) g = if P - m ≤ 2 ∨ fm_gd I (nI V) B 8 = -1 then (nI V, P - m, g) else fm_b1 I B d (nI V &&& ((1 <<< (fm_gd I (nI V) B 8 &&& 31)) ^^^ (-1))) (P - m - 1) (fun j => if j = P - m - 1 then fm_gd I (nI V) B 8 else g j) := rfl
    have ex : blx ba bb (nwb ba bb B) B P (d + 1) V m gf = if 2 < P - m then (match gop ba bb (nwb ba bb B) B V 8 with
      | none => (V, m, gf)
      | some p => blx ba bb (nwb ba bb B) B P d (V - 2 ^ p) (m + 1) (fun j => if j = m then p else gf j)) else (V, m, gf) := rfl
    rw [gd_gop h hV 8 (Nat.le_refl 8)] at eb
    by_cases h2 : 2 < P - m
    · rw [if_pos h2] at ex
      cases hg2 : gop ba bb (nwb ba bb B) B V 8 with
      | none =>
        rw [hg2] at eb ex
        rw [if_pos (show P - m ≤ 2 ∨ goI none = -1 from Or.inr rfl)] at eb
        dsimp only at ex
        rw [eb, ex]
        exact ⟨rfl, rfl, hm, hV, hc, hVP, hg⟩
      | some p =>
        rw [hg2] at eb ex
        obtain ⟨p8, pb⟩ := gop_some 8 p hg2
        obtain ⟨s1, s2, s3⟩ := sub_bit V hV p p8 pb
        rw [if_neg (by rintro (z | z); omega; exact nI_n1 (by omega) z)] at eb
        have ec : (nI V &&& ((1 <<< (goI (some p) &&& 31)) ^^^ (-1))) = nI (V - 2 ^ p) := nI_clear hV p8 pb
        rw [ec, show P - m - 1 = P - (m + 1) by omega] at eb
        dsimp only at ex
        rw [eb, ex]
        exact b1_blx h hP d (V - 2 ^ p) (m + 1) (fun j => if j = m then p else gf j) (fun j => if j = P - (m + 1) then goI (some p) else g j) s3 (by omega) (by omega) (fun k h1 h2 => by rw [s1 k h2, hVP k h1 h2]; rfl) (fun j j1 j2 => by
          by_cases e : j = P - (m + 1)
          · rw [if_pos e, if_pos (by omega)]; rfl
          · rw [if_neg e, if_neg (by omega)]; exact hg j (by omega) j2)
    · rw [if_neg h2] at ex
      rw [if_pos (Or.inl (by omega))] at eb
      rw [eb, ex]
      exact ⟨rfl, rfl, hm, hV, hc, hVP, hg⟩
theorem b2_rc {V : Nat} (hV : V < 256) (g : Nat → Int32) : ∀ m, m ≤ 8 → (fm_b2 (nI V) g m).1 = (rc (fun k => V.testBit k) m).1 ∧ ∀ j, (fm_b2 (nI V) g m).2 j = if j < (rc (fun k => V.testBit k) m).1 then nI ((rc (fun k => V.testBit k) m).2 j) else g j
  | 0, _ => ⟨rfl, fun j => (if_neg (Nat.not_lt_zero j)).symm⟩
  | m + 1, hm => by
    obtain ⟨i1, i2⟩ := b2_rc hV g m (by omega)
    have e : fm_b2 (nI V) g (m + 1) = if nI V &&& (1 <<< (nI m &&& 31)) = 0 then fm_b2 (nI V) g m else ((fm_b2 (nI V) g m).1 + 1, fun j => if j = (fm_b2 (nI V) g m).1 then nI m else (fm_b2 (nI V) g m).2 j) := rfl
    cases hb : V.testBit m with
    | false =>
      rw [rc_f (S := fun k => V.testBit k) hb, e, if_pos (Classical.not_not.mp (fun z => by rw [(bit_and hV (by omega)).mp z] at hb; cases hb))]
      exact ⟨i1, i2⟩
    | true =>
      rw [rc_t (S := fun k => V.testBit k) hb, e, if_neg ((bit_and hV (by omega)).mpr hb)]
      refine ⟨by rw [i1], fun j => ?_⟩
      dsimp only
      rw [i1, i2 j]
      by_cases e1 : j = (rc (fun k => V.testBit k) m).1
      · rw [if_pos e1, if_pos (by omega), if_pos e1]
      · rw [if_neg e1, if_neg e1]
        by_cases e2 : j < (rc (fun k => V.testBit k) m).1
        · rw [if_pos e2, if_pos (by omega)]
        · rw [if_neg e2, if_neg (by omega)]
theorem rc_pc8 (V : Nat) : ∀ m, (rc (fun k => V.testBit k) m).1 = pc8 V m
  | 0 => rfl
  | m + 1 => by
    have ih := rc_pc8 V m
    show _ = pc8 V m + (if V.testBit m = true then 1 else 0)
    cases hb : V.testBit m with
    | false => rw [rc_f (S := fun k => V.testBit k) hb, ih]; rfl
    | true => rw [rc_t (S := fun k => V.testBit k) hb]; show (rc _ m).1 + 1 = _; rw [ih]; rfl
/-- the i-th in the order of building -/
noncomputable def ordf (ba bb : Nat → Nat) (B P i : Nat) : Nat := if i < (rc (fun k => (blt ba bb B P).1.testBit k) 8).1 then (rc (fun k => (blt ba bb B P).1.testBit k) 8).2 i else (blt ba bb B P).2.2 (P - 1 - i)
/-- what is known of build -/
theorem blt_ok {I : Nat → Nat → Int32} {B P : Nat} {ba bb : Nat → Nat} (h : CF I B ba bb) (hP : P ≤ 8) : (blt ba bb B P).2.1 ≤ P ∧ (blt ba bb B P).1 < 256 ∧ pcnt (blt ba bb B P).1 = P - (blt ba bb B P).2.1 ∧ (∀ k, P ≤ k → k < 8 → (blt ba bb B P).1.testBit k = false) ∧ (rc (fun k => (blt ba bb B P).1.testBit k) 8).1 = P - (blt ba bb B P).2.1 := by
  obtain ⟨q1, q2, q3, q4⟩ := pow_bits P hP
  obtain ⟨-, -, c, d, e, f, -⟩ := b1_blx h hP 8 (2 ^ P - 1) 0 (fun _ => 0) (fun _ => 0) q2 (by omega) (by omega) (fun k h1 h2 => by rw [q4 k h2]; exact decide_eq_false (by omega)) (fun j h1 h2 => absurd h2 (by omega))
  exact ⟨c, d, e, f, by rw [rc_pc8, pc8_8]; exact e⟩
theorem sp_cbuild (L : Nat) (I : Nat → Nat → Int32) (J : Nat → Nat → Int64) (w : Nat → Nat) (B P : Nat) (ba bb : Nat → Nat) (h : CF I B ba bb) (hP : P ≤ 8) : SP m_Fm_build [.ref 141, .int (nI P)] (hp L I J w) (fun v h' => v = some (.int (nI (blt ba bb B P).1)) ∧ ∃ g : Nat → Int32, (∀ i, i < P → g i = nI (ordf ba bb B P i)) ∧ h' = hp L (mm_row I 143 g) J w) := by
  obtain ⟨q1, q2, q3, q4⟩ := pow_bits P hP
  obtain ⟨a1, a2, a3, a4, a5, a6, a7⟩ := b1_blx h hP 8 (2 ^ P - 1) 0 (fun _ => 0) (I 143) q2 (by omega) (by omega) (fun k h1 h2 => by rw [q4 k h2]; exact decide_eq_false (by omega)) (fun j h1 h2 => absurd h2 (by omega))
  have hr := (blt_ok h hP).2.2.2.2
  have hb := ev_build L I J w B h.2.1 h.1 P hP (nI (2 ^ P - 1)) q1
  rw [Nat.sub_zero] at a1 a7
  rw [a1] at hb
  refine SP.of hb ⟨rfl, _, fun i hi => ?_, rfl⟩
  have b2 := (b2_rc (V := (blx ba bb (nwb ba bb B) B P 8 (2 ^ P - 1) 0 (fun _ => 0)).1) a4 (fm_b1 I B 8 (nI (2 ^ P - 1)) P (I 143)).2.2 8 (Nat.le_refl 8)).2 i
  rw [b2]
  unfold ordf
  unfold blt at hr ⊢
  by_cases e : i < (rc (fun k => (blx ba bb (nwb ba bb B) B P 8 (2 ^ P - 1) 0 (fun _ => 0)).1.testBit k) 8).1
  · rw [if_pos e, if_pos e]
  · rw [if_neg e, if_neg e]
    exact a7 i (by omega) hi
