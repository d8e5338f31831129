/-! Judge: what the three witnesses say -/
noncomputable def bI (P : Prop) : Int32 := @ite _ P (Classical.propDecidable P) 1 0
theorem bI_t {P : Prop} (h : P) : bI P = 1 := by unfold bI; exact if_pos h
theorem bI_f {P : Prop} (h : ¬ P) : bI P = 0 := by unfold bI; exact if_neg h
theorem bI_c {P Q : Prop} (h : P ↔ Q) : bI P = bI Q := by rw [propext h]
theorem bI_or1 (P : Prop) : bI P ||| 1 = 1 := by
  by_cases h : P
  · rw [bI_t h]; decide
  · rw [bI_f h]; decide
theorem bI_or0 (P : Prop) : bI P ||| 0 = bI P := by
  by_cases h : P
  · rw [bI_t h]; decide
  · rw [bI_f h]; decide
theorem ex_s {P : Nat → Prop} (i : Nat) : (∃ j, j < i + 1 ∧ P j) ↔ (∃ j, j < i ∧ P j) ∨ P i := by
  constructor
  · rintro ⟨j, h1, h2⟩
    by_cases e : j = i
    · subst e; exact Or.inr h2
    · exact Or.inl ⟨j, by omega, h2⟩
  · rintro (⟨j, h1, h2⟩ | h)
    · exact ⟨j, by omega, h2⟩
    · exact ⟨i, by omega, h⟩
theorem bI_s1 {P : Nat → Prop} {i : Nat} (h : P i) : bI (∃ j, j < i + 1 ∧ P j) = bI (∃ j, j < i ∧ P j) ||| 1 := by rw [bI_or1]; exact bI_t ⟨i, by omega, h⟩
theorem bI_sn {P : Nat → Prop} {i : Nat} (h : ¬ P i) : bI (∃ j, j < i + 1 ∧ P j) = bI (∃ j, j < i ∧ P j) := by rw [bI_c (ex_s i)]; exact bI_c ⟨fun z => z.elim id (fun z => absurd z h), Or.inl⟩
theorem bI_s0 {P : Nat → Prop} {i : Nat} (h : ¬ P i) : bI (∃ j, j < i + 1 ∧ P j) = bI (∃ j, j < i ∧ P j) ||| 0 := by rw [bI_or0]; exact bI_sn h
/-- the i-th witness sees a new one; it sees a quarrel; it sees the k-th as a part -/
def sN (a : Nat → Nat → Int) (r : Nat) (t : Nat → Int) (j : Nat) : Prop := imd (pc j) 16 (r + 1) (beh a r t)
def sQ (a : Nat → Nat → Int) (r : Nat) (t : Nat → Int) (j : Nat) : Prop := imd (pc j) 16 r a ∧ ¬ imd (pc j) 16 (r + 1) (beh a r t) ∧ imd (pc j) 17 (r + 1) (beh a r t)
def sP (a : Nat → Nat → Int) (r : Nat) (t : Nat → Int) (k j : Nat) : Prop := imd (pc j) 16 r a ∧ imd (pc j) 16 r (wo (beh a r t) k)
theorem imd_beh {p : Int} {D r : Nat} {a : Nat → Nat → Int} {t : Nat → Int} (h : imd p D (r + 1) (beh a r t)) : imd p D r a := imd_congr (fun i hi c _ => by unfold beh; rw [if_pos hi]) (imd_le h (Nat.le_succ r))
theorem three {P Q : Nat → Prop} (hP : ∀ i, i < 3 → ∀ j, j < 3 → i ≠ j → P i ∨ P j) (hQ : ∀ i, i < 3 → ∀ j, j < 3 → i ≠ j → Q i ∨ Q j) : ∃ j, j < 3 ∧ P j ∧ Q j := by
  have p01 := hP 0 (by omega) 1 (by omega) (by omega)
  have p02 := hP 0 (by omega) 2 (by omega) (by omega)
  have p12 := hP 1 (by omega) 2 (by omega) (by omega)
  have q01 := hQ 0 (by omega) 1 (by omega) (by omega)
  have q02 := hQ 0 (by omega) 2 (by omega) (by omega)
  have q12 := hQ 1 (by omega) 2 (by omega) (by omega)
  by_cases h0 : P 0 ∧ Q 0
  · exact ⟨0, by omega, h0⟩
  · by_cases h1 : P 1 ∧ Q 1
    · exact ⟨1, by omega, h1⟩
    · refine ⟨2, by omega, ?_⟩
      grind
theorem pc_see {i j D n : Nat} {A : Nat → Nat → Int} (hi : i < 6) (hj : j < 6) (hij : i ≠ j) (hD : D = 16 ∨ D = 17) (hn : n ≤ 17) (h : srt n A) (hA : ind D n A) : imd (pc i) D n A ∨ imd (pc j) D n A := see hD (pc_pm i) (pc_pm j) (pc_ne i hi j hj hij) (by have := pc_ge i; omega) (by have := pc_ge j; omega) hn h hA
theorem srt_le {n m : Nat} {A : Nat → Nat → Int} (h : srt n A) (hm : m ≤ n) : srt m A := fun i hi => h i (by omega)
theorem srt_a {r : Nat} {a : Nat → Nat → Int} {t : Nat → Int} (h : srt (r + 1) (beh a r t)) : srt r a := fun i hi => by
  have := h i (by omega)
  unfold beh at this
  rw [if_pos hi] at this
  exact this
theorem srt_wo {r : Nat} {A : Nat → Nat → Int} (h : srt (r + 1) A) (k : Nat) : srt r (wo A k) := fun i hi => by
  unfold wo
  by_cases e : i < k
  · simp only [e, if_true]; exact h i (by omega)
  · simp only [e, if_false]; exact h (i + 1) (by omega)
theorem jN {a : Nat → Nat → Int} {r : Nat} {t : Nat → Int} (hr : r ≤ 16) (h : srt (r + 1) (beh a r t)) : (∃ j, j < 3 ∧ sN a r t j) ↔ ind 16 (r + 1) (beh a r t) := by
  constructor
  · rintro ⟨j, _, h1⟩
    exact imd_ind (pc_pm j) h1
  · intro h1
    obtain ⟨j, a1, a2, _⟩ := three (P := sN a r t) (Q := sN a r t) (fun i hi j hj hij => pc_see (by omega) (by omega) hij (Or.inl rfl) (by omega) h h1) (fun i hi j hj hij => pc_see (by omega) (by omega) hij (Or.inl rfl) (by omega) h h1)
    exact ⟨j, a1, a2⟩
theorem jQ {a : Nat → Nat → Int} {r : Nat} {t : Nat → Int} (hr : r ≤ 16) (ha : ind 16 r a) (h : srt (r + 1) (beh a r t)) (hn : ¬ ind 16 (r + 1) (beh a r t)) : (∃ j, j < 3 ∧ sQ a r t j) ↔ ind 17 (r + 1) (beh a r t) := by
  constructor
  · rintro ⟨j, _, h1⟩
    exact imd_ind (pc_pm j) h1.2.2
  · intro h1
    obtain ⟨j, a1, a2, a3⟩ := three (P := fun j => imd (pc j) 16 r a) (Q := fun j => imd (pc j) 17 (r + 1) (beh a r t)) (fun i hi j hj hij => pc_see (by omega) (by omega) hij (Or.inl rfl) (by omega) (srt_a h) ha) (fun i hi j hj hij => pc_see (by omega) (by omega) hij (Or.inr rfl) (by omega) h h1)
    exact ⟨j, a1, a2, fun z => hn (imd_ind (pc_pm j) z), a3⟩
theorem jP {a : Nat → Nat → Int} {r : Nat} {t : Nat → Int} (hr : r ≤ 16) (ha : ind 16 r a) (h : srt (r + 1) (beh a r t)) (k : Nat) : (∃ j, j < 3 ∧ sP a r t k j) ↔ ind 16 r (wo (beh a r t) k) := by
  constructor
  · rintro ⟨j, _, h1⟩
    exact imd_ind (pc_pm j) h1.2
  · intro h1
    exact three (P := fun j => imd (pc j) 16 r a) (Q := fun j => imd (pc j) 16 r (wo (beh a r t) k)) (fun i hi j hj hij => pc_see (by omega) (by omega) hij (Or.inl rfl) (by omega) (srt_a h) ha) (fun i hi j hj hij => pc_see (by omega) (by omega) hij (Or.inl rfl) (by omega) (srt_wo h k) h1)
/-- the sort of t behind a's first r -/
noncomputable def kd (a : Nat → Nat → Int) (r : Nat) (t : Nat → Int) : Nat := @ite _ (ind 16 (r + 1) (beh a r t)) (Classical.propDecidable _) 0 (@ite _ (ind 17 (r + 1) (beh a r t)) (Classical.propDecidable _) 2 1)
theorem kd_0 {a : Nat → Nat → Int} {r : Nat} {t : Nat → Int} (h : ind 16 (r + 1) (beh a r t)) : kd a r t = 0 := by unfold kd; exact if_pos h
theorem kd_2 {a : Nat → Nat → Int} {r : Nat} {t : Nat → Int} (h : ¬ ind 16 (r + 1) (beh a r t)) (h2 : ind 17 (r + 1) (beh a r t)) : kd a r t = 2 := by unfold kd; exact (if_neg h).trans (if_pos h2)
theorem kd_1 {a : Nat → Nat → Int} {r : Nat} {t : Nat → Int} (h : ¬ ind 16 (r + 1) (beh a r t)) (h2 : ¬ ind 17 (r + 1) (beh a r t)) : kd a r t = 1 := by unfold kd; exact (if_neg h).trans (if_neg h2)
theorem kd_le (a : Nat → Nat → Int) (r : Nat) (t : Nat → Int) : kd a r t ≤ 2 := by
  by_cases h : ind 16 (r + 1) (beh a r t)
  · rw [kd_0 h]; omega
  · by_cases h2 : ind 17 (r + 1) (beh a r t)
    · rw [kd_2 h h2]; omega
    · rw [kd_1 h h2]; omega
abbrev ww (i : Nat) : Nat := 16 + 20 * i
theorem ww_is {i : Nat} (h : i < 3) : isW (ww i) := by unfold isW ww; omega
theorem RR_wit (w : Nat → Nat) {i : Nat} (h : i < 3) : RR w 12 i = some (ww i) := by
  have : i = 0 ∨ i = 1 ∨ i = 2 := by omega
  rcases this with rfl | rfl | rfl <;> rfl
/-- the witnesses, behind r rows of a -/
def JW (I : Nat → Nat → Int32) (J : Nat → Nat → Int64) (a : Nat → Nat → Int) (r : Nat) : Prop := ∀ i, i < 3 → WF I J (ww i) (pc i) a r
/-- and they have looked at t -/
def JL (I : Nat → Nat → Int32) (J : Nat → Nat → Int64) (a : Nat → Nat → Int) (r : Nat) (t : Nat → Int) (xs : Nat → Nat → Int) : Prop := ∀ i, i < 3 → LK I J (ww i) (pc i) a r t (xs i)
theorem tT_ext {I I' : Nat → Nat → Int32} {s n : Nat} {nm : Nat → Nat} {fc t : Nat → Int} (h : tT I s n nm fc t) (h0 : I' s = I s) (h1 : I' (s + 1) = I (s + 1)) (h2 : I' (s + 2) = I (s + 2)) : tT I' s n nm fc t := by
  unfold tT at *
  rw [h0, h1, h2]
  exact h
theorem isT_ext {I I' : Nat → Nat → Int32} {s : Nat} {t : Nat → Int} (h : isT I s t) (h0 : I' s = I s) (h1 : I' (s + 1) = I (s + 1)) (h2 : I' (s + 2) = I (s + 2)) : isT I' s t := by
  obtain ⟨n, nm, fc, h⟩ := h
  exact ⟨n, nm, fc, tT_ext h h0 h1 h2⟩
theorem blind_no {I : Nat → Nat → Int32} {J : Nat → Nat → Int64} {b : Nat} {p : Int} {a : Nat → Nat → Int} {r bl : Nat} (h : WB I J b p a r bl) : ¬ imd p 16 r a := fun z => h.2.2.2 (imd_le z h.2.1)
/-- sums lie off the judge's places -/
abbrev offJ (s : Nat) : Prop := s + 2 < 11 ∨ 75 < s
theorem FR_T {I I' : Nat → Nat → Int32} {J J' : Nat → Nat → Int64} {s lo hi : Nat} {t : Nat → Int} (h : isT I s t) (hf : FR lo hi I J I' J') (ho : s + 2 < lo ∨ hi < s) : isT I' s t := isT_ext h (hf s (by omega)).1 (hf (s + 1) (by omega)).1 (hf (s + 2) (by omega)).1
/-- the value that a look answers -/
theorem look_v {p : Int} (hp : pm p) {r : Nat} {a R : Nat → Nat → Int} {l : Nat → Nat} {t x : Nat → Int} {ld v : Int32} (hr : r ≤ 16) (hw : wv p r a R l) (h : lv p r r a l t x) (ho : LO x ld v) : (v = 0 ↔ imd p 16 (r + 1) (beh a r t)) ∧ (v = 2 ↔ imd p 16 r a ∧ ¬ imd p 16 (r + 1) (beh a r t) ∧ imd p 17 (r + 1) (beh a r t)) := by
  rcases ho with ⟨k, k1, k2, -, rfl⟩ | ⟨k1, -, rfl⟩
  · have h1 := lv_new hp hr hw h k1 k2
    exact ⟨⟨fun _ => h1, fun _ => rfl⟩, ⟨fun z => absurd z (by decide), fun z => absurd h1 z.2.1⟩⟩
  · have h1 := lv_dep hp hr (by omega) h k1
    by_cases z : x 16 = 0
    · rw [if_pos z]
      have h2 := lv_dep hp hr (D := 17) (by omega) h (fun k hk => by by_cases e : k = 16; rw [e]; exact z; exact k1 k (by omega))
      exact ⟨⟨fun y => absurd y (by decide), fun y => absurd y h1⟩, ⟨fun y => absurd y (by decide), fun y => absurd y.2.2 h2⟩⟩
    · rw [if_neg z]
      exact ⟨⟨fun y => absurd y (by decide), fun y => absurd y h1⟩, ⟨fun _ => ⟨wv_imd hp hr hw, h1, lv_16 hp hr hw h z⟩, fun _ => rfl⟩⟩
set_option maxHeartbeats 4000000 in
set_option maxRecDepth 20000 in
theorem sp_weigh (L : Nat) (I : Nat → Nat → Int32) (J : Nat → Nat → Int64) (w : Nat → Nat) (s : Nat) (hs : isSum s) (ho : offJ s) (t : Nat → Int) (hT : isT I s t) (r : Nat) (hr : r ≤ 16) (a : Nat → Nat → Int) (hW : JW I J a r) (ha : ind 16 r a) (hS : srt (r + 1) (beh a r t)) : SP m_Ju_weigh [.ref 11, .ref s] (hp L I J w) (fun v h => v = some (.int (nI (kd a r t))) ∧ ∃ (I' : Nat → Nat → Int32) (J' : Nat → Nat → Int64) (xs : Nat → Nat → Int), FR 16 75 I J I' J' ∧ JL I' J' a r t xs ∧ h = hp L I' J' w) := by
  unfold SP
  iterate 14 (refine WP.st rfl ?_)
  have key := WP.inv (mid := m_Ju_weigh) (Q := fun v h => v = some (.int (nI (kd a r t))) ∧ ∃ (I' : Nat → Nat → Int32) (J' : Nat → Nat → Int64) (xs : Nat → Nat → Int), FR 16 75 I J I' J' ∧ JL I' J' a r t xs ∧ h = hp L I' J' w) (fun i (σ : (Nat → Nat → Int32) × (Nat → Nat → Int64) × Option Value × Option Value) => (22, [some (.ref 11), some (.ref s), some (.int (bI (∃ j, j < i ∧ sQ a r t j))), some (.int (bI (∃ j, j < i ∧ sN a r t j))), some (.ref 12), some (.int (nI 3)), some (.int (nI i)), σ.2.2.1, σ.2.2.2], [.int (nI 3), .int (nI i)], hp L σ.1 σ.2.1 w, 0, 0)) (fun i σ => FR 16 75 I J σ.1 σ.2.1 ∧ (∀ j, i ≤ j → j < 3 → WF σ.1 σ.2.1 (ww j) (pc j) a r) ∧ ∃ xs : Nat → Nat → Int, ∀ j, j < i → LK σ.1 σ.2.1 (ww j) (pc j) a r t (xs j)) 3 (I, J, none, none) ⟨FR.refl _ _ _ _, fun j _ hj => hW j hj, fun _ _ => 0, fun j hj => absurd hj (Nat.not_lt_zero j)⟩ (fun i σ hi hv kk => ?_) (fun σ hv => ?_)
  · rw [bI_f (fun ⟨j, hj, _⟩ => absurd hj (Nat.not_lt_zero j)), bI_f (fun ⟨j, hj, _⟩ => absurd hj (Nat.not_lt_zero j))] at key
    exact key
  · obtain ⟨I1, J1, o7, o8⟩ := σ
    obtain ⟨f1, f2, xs, f3⟩ := hv
    dsimp only at f1 f2 f3 ⊢
    have hw := ww_is hi
    have wi : ∀ j, ww j = 16 + 20 * j := fun _ => rfl
    have p3 := (pc_ge i).2
    refine WP.icf rfl (nI_ge hi (by omega)) ?_
    iterate 2 (refine WP.st rfl ?_)
    refine WP.aald (k := i) rfl (rfl) (Or.inr (Or.inl rfl)) (show i < 3 from hi) (rfl) (RR_wit w hi) ?_
    iterate 2 (refine WP.st rfl ?_)
    refine WP.cve rfl rfl rfl rfl rfl ((isW_K hw).1) rfl rfl rfl (ev_isBlind L I1 J1 w (ww i) hw) ?_
    obtain ⟨w1, w2, w3⟩ := f2 i (Nat.le_refl i) hi
    rcases w3 with ⟨bl, hB⟩ | ⟨w3, R, l, w4, w5⟩
    · rw [if_pos (show I1 (ww i) 4 < I1 (ww i) 3 by rw [hB.1, w2]; exact nI_lt hB.2.1 (by omega))]
      refine WP.ift rfl (show ¬ (1 : Int32) = 0 by decide) ?_
      iterate 4 (refine WP.st rfl ?_)
      have nb := blind_no hB
      have kk2 := kk (I1, J1, some (.ref (ww i)), o8) ⟨f1, fun j h1 h2 => f2 j (by omega) h2, xs, fun j hj => by
        by_cases e : j = i
        · subst e; exact ⟨w1, w2, Or.inl ⟨bl, hB⟩⟩
        · exact f3 j (by omega)⟩
      rw [nI_succ i, bI_sn (P := sQ a r t) (fun z => nb z.1), bI_sn (P := sN a r t) (fun z => nb (imd_beh z))] at kk2
      exact kk2
    · skip
      rw [if_neg (show ¬ I1 (ww i) 4 < I1 (ww i) 3 by rw [w3, w2]; exact nI_nlt (by omega) (by omega))]
      refine WP.iff rfl (fun z => z rfl) ?_
      iterate 2 (refine WP.st rfl ?_)
      refine WP.cv rfl rfl rfl rfl rfl ((isW_K hw).1) rfl rfl rfl (sp_look L I1 J1 w (ww i) s hw hs t (FR_T hT f1 (by omega)) (pc i) (pc_pm i) w1 p3 r hr w2 a R l w4 w5) ?_
      rintro _ _ ⟨v, ld, J2, x, rfl, g1, g2, g3, g4, rfl⟩
      have hvv := look_v (pc_pm i) hr w4 g3 g4
      have inv2 : FR 16 75 I J (mm_up I1 (ww i) 6 ld) J2 ∧ (∀ j, i + 1 ≤ j → j < 3 → WF (mm_up I1 (ww i) 6 ld) J2 (ww j) (pc j) a r) ∧ ∃ xs : Nat → Nat → Int, ∀ j, j < i + 1 → LK (mm_up I1 (ww i) 6 ld) J2 (ww j) (pc j) a r t (xs j) := by
        refine ⟨fun c hc => ⟨(up_ne I1 _ (by have := wi i; omega)).trans (f1 c hc).1, (g1 c (by have := wi i; omega)).trans (f1 c hc).2⟩, fun j h1 h2 => WF_ext (f2 j (by omega) h2) (fun c h3 h4 => up_ne I1 _ (by have := wi i; have := wi j; omega)) (fun c h3 h4 => g1 c (by have := wi i; have := wi j; omega)) hr, fun j => if j = i then x else xs j, fun j hj => ?_⟩
        dsimp only
        by_cases e : j = i
        · subst e
          rw [if_pos rfl]
          refine ⟨by rw [g1 (ww j) (by omega)]; exact w1, (up_nk I1 _ (by decide)).trans w2, Or.inr ⟨(up_nk I1 _ (by decide)).trans w3, R, l, w4, ⟨fun i hi c hc => ?_, fun i hi => ?_⟩, g3, g2, ?_⟩⟩
          · rw [g1 (ww j + 2 + i) (by omega)]; exact w5.1 i hi c hc
          · rw [up_ne I1 _ (by omega)]; exact w5.2 i hi
          · rcases g4 with ⟨k, k1, k2, k3, -⟩ | ⟨k1, k3, -⟩
            · exact Or.inl ⟨k, k1, k2, (mm_up_at I1 _ 6 ld).trans k3⟩
            · exact Or.inr ⟨k1, (mm_up_at I1 _ 6 ld).trans k3⟩
        · rw [if_neg e]
          exact LK_ext (f3 j (by omega)) (fun c h3 h4 => up_ne I1 _ (by have := wi i; have := wi j; omega)) (fun c h3 h4 => g1 c (by have := wi i; have := wi j; omega)) hr
      have kk2 := kk (mm_up I1 (ww i) 6 ld, J2, some (.ref (ww i)), some (.int v)) inv2
      rw [nI_succ i] at kk2
      iterate 3 (refine WP.st rfl ?_)
      by_cases z : v = 0
      · have hN : sN a r t i := hvv.1.mp z
        have hQ : ¬ sQ a r t i := fun y => y.2.1 hN
        refine WP.iff rfl (fun y => y z) ?_
        iterate 7 (refine WP.st rfl ?_)
        refine WP.ict rfl (show ¬ v = 2 by rw [z]; decide) ?_
        iterate 7 (refine WP.st rfl ?_)
        rw [bI_s1 (P := sN a r t) hN, bI_s0 (P := sQ a r t) hQ] at kk2
        exact kk2
      · have hN : ¬ sN a r t i := fun y => z (hvv.1.mpr y)
        refine WP.ift rfl (z) ?_
        iterate 6 (refine WP.st rfl ?_)
        by_cases z2 : v = 2
        · have hQ : sQ a r t i := hvv.2.mp z2
          refine WP.icf rfl (fun y => y z2) ?_
          iterate 8 (refine WP.st rfl ?_)
          rw [bI_s0 (P := sN a r t) hN, bI_s1 (P := sQ a r t) hQ] at kk2
          exact kk2
        · have hQ : ¬ sQ a r t i := fun y => z2 (hvv.2.mpr y)
          refine WP.ict rfl (z2) ?_
          iterate 7 (refine WP.st rfl ?_)
          rw [bI_s0 (P := sN a r t) hN, bI_s0 (P := sQ a r t) hQ] at kk2
          exact kk2
  · obtain ⟨I1, J1, o7, o8⟩ := σ
    obtain ⟨f1, f2, xs, f3⟩ := hv
    dsimp only at f1 f2 f3 ⊢
    refine WP.ict rfl (nI_le (Nat.le_refl _) (by omega)) ?_
    iterate 1 (refine WP.st rfl ?_)
    by_cases hn : ind 16 (r + 1) (beh a r t)
    · refine WP.iff rfl (show ¬ bI (∃ j, j < 3 ∧ sN a r t j) = 0 by rw [bI_t ((jN hr hS).mpr hn)]; decide) ?_
      iterate 1 (refine WP.st rfl ?_)
      exact WP.ret rfl ⟨by rw [kd_0 hn]; rfl, I1, J1, xs, f1, f3, rfl⟩
    · skip
      refine WP.ift rfl (bI_f (fun z => hn ((jN hr hS).mp z))) ?_
      iterate 1 (refine WP.st rfl ?_)
      by_cases hq : ind 17 (r + 1) (beh a r t)
      · refine WP.iff rfl (show ¬ bI (∃ j, j < 3 ∧ sQ a r t j) = 0 by rw [bI_t ((jQ hr ha hS hn).mpr hq)]; decide) ?_
        iterate 2 (refine WP.st rfl ?_)
        exact WP.ret rfl ⟨by rw [kd_2 hn hq]; rfl, I1, J1, xs, f1, f3, rfl⟩
      · skip
        refine WP.ift rfl (bI_f (fun z => hq ((jQ hr ha hS hn).mp z))) ?_
        iterate 1 (refine WP.st rfl ?_)
        exact WP.ret rfl ⟨by rw [kd_1 hn hq]; rfl, I1, J1, xs, f1, f3, rfl⟩
