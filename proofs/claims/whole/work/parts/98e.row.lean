/-! a row put in its place -/
def upT {α : Type} (f : Nat → α) (t : Nat) (v : α) : Nat → α := fun k => if k = t then v else f k
theorem upT_at {α : Type} (f : Nat → α) (t : Nat) (v : α) : upT f t v t = v := if_pos rfl
theorem upT_ne {α : Type} (f : Nat → α) {t k : Nat} (v : α) (h : k ≠ t) : upT f t v k = f k := if_neg h
def stT (S : St) (N t : Nat) (row : Nat → Int) (n : Nat) (nm : Nat → Nat) (fc : Nat → Int) : St := (S.1, (N, upT (sT S) t row, sOf S, upT (sTn S) t n, upT (sNm S) t nm, upT (sFc S) t fc), S.2.2)
def zrow (x : Int32) : Nat → Int := fun c => if c = 16 then x.toInt else 0
theorem ptOK_congr {I : Nat → Nat → Int32} {T T' : Nat → Nat → Int} {of of' : Off} {t : Nat} (he : ∀ s, s < t + 1 → T s = T' s ∧ of s = of' s) (h : ptOK I T of t) : ptOK I T' of' t := by
  have e := nst_congr t (fun s hs => he s (by omega))
  have er : rk T' of' t = rk T of t := by unfold rk; rw [e]
  have en : nos T' of' t = nos T of t := by unfold nos; rw [e]
  have ek := knd_congr he
  have eb : beh (am T' of' t) (rk T of t) (T' t) = beh (am T of t) (rk T of t) (T t) := by
    funext i
    unfold beh
    by_cases z : i < rk T of t
    · rw [if_pos z, if_pos z]
      unfold am
      rw [en]
      exact (he _ (by have := nos_lt T of t i z; omega)).1.symm
    · rw [if_neg z, if_neg z]; exact (he t (by omega)).1.symm
  unfold ptOK at *
  rw [← ek, er, en, eb]
  exact h
theorem rk_le {T : Nat → Nat → Int} {of : Off} {m' : Nat} : ∀ m, m' ≤ m → rk T of m' ≤ rk T of m
  | 0, h => by rw [Nat.le_zero.mp h]; exact Nat.le_refl _
  | m + 1, h => by
    by_cases e : m' = m + 1
    · rw [e]; exact Nat.le_refl _
    · exact Nat.le_trans (rk_le m (by omega)) (rk_mono T of m)
theorem nos_pre {T : Nat → Nat → Int} {of : Off} {m' : Nat} : ∀ m, m' ≤ m → ∀ q, q < rk T of m' → nos T of m q = nos T of m' q
  | 0, h, _, _ => by rw [Nat.le_zero.mp h]
  | m + 1, h, q, hq => by
    by_cases e : m' = m + 1
    · rw [e]
    · rw [← nos_pre m (by omega) q hq]
      by_cases z : knd T of m = 0
      · rw [nos_new z, if_neg (by have := rk_le (T := T) (of := of) (m' := m') m (by omega); omega)]
      · rw [nos_old z]
theorem JI_cut {I I' : Nat → Nat → Int32} {J : Nat → Nat → Int64} {T T' : Nat → Nat → Int} {of of' : Off} {N N' t : Nat} (h : JI I J T of N) (hN : t < N') (he : ∀ s, s < t → T s = T' s ∧ of s = of' s) (h1 : ∀ m, I 11 5 = nI m → m ≤ N → I' 11 5 = nI (min m t)) (h4 : I' 11 4 = I 11 4) (hI : ∀ c, 12 ≤ c → c ≤ 75 → I' c = I c) : JI I' J T' of' N' := by
  obtain ⟨m, a1, a2, a3, a, r, a4, a5, a6, a7, a8, a9⟩ := h
  have hm : min m t ≤ m := Nat.min_le_left _ _
  have hm2 : min m t ≤ t := Nat.min_le_right _ _
  have e := nst_congr (min m t) (fun s hs => he s (by omega))
  have er : rk T' of' (min m t) = rk T of (min m t) := by unfold rk; rw [e]
  have en : nos T' of' (min m t) = nos T of (min m t) := by unfold nos; rw [e]
  have hr := rk_le (T := T) (of := of) m hm
  refine ⟨min m t, by omega, h1 m a2 a1, ⟨fun s hs => ?_, fun q hq => ?_⟩, a, r, a4, by rw [er]; omega, fun k => by omega, fun i hi => WF_ext (a7 i hi) (fun c g1 g2 => hI c (by have : ww i = 16 + 20 * i := rfl; omega) (by have : ww i = 16 + 20 * i := rfl; omega)) (fun c g1 g2 => rfl) a4, h4.trans a8, fun q hq => ?_⟩
  · have hh : ∀ s', s' < s + 1 → T s' = T' s' ∧ of s' = of' s' := fun s' h' => he s' (by omega)
    rw [hI 13 (by omega) (by omega), ← knd_congr hh]
    have := a3.1 s (by omega)
    refine ⟨this.1, ptOK_congr hh ?_⟩
    unfold ptOK
    rw [hI 14 (by omega) (by omega)]
    exact this.2
  · rw [er] at hq
    rw [hI 15 (by omega) (by omega), en, ← nos_pre m hm q hq]
    exact a3.2 q (by omega)
  · rw [er] at hq
    rw [a9 q (by omega)]
    unfold am
    rw [en, nos_pre m hm q hq]
    exact (he _ (by have := nos_lt T of (min m t) q hq; omega)).1
/-- one more telling, none judged anew -/
theorem JI_more {I I' : Nat → Nat → Int32} {J : Nat → Nat → Int64} {T T' : Nat → Nat → Int} {of : Off} {N : Nat} (h : JI I J T of N) (he : ∀ s, s < N → T s = T' s) (hI : ∀ c, 11 ≤ c → c ≤ 75 → I' c = I c) : JI I' J T' of (N + 1) :=
  JI_cut (t := N) h (by omega) (fun s hs => ⟨he s hs, rfl⟩) (fun m e1 e2 => by rw [hI 11 (by omega) (by omega), e1, Nat.min_eq_left e2]) (by rw [hI 11 (by omega) (by omega)]) (fun c g1 g2 => hI c (by omega) g2)
theorem JI_same {I I' : Nat → Nat → Int32} {J : Nat → Nat → Int64} {T T' : Nat → Nat → Int} {of : Off} {N : Nat} (h : JI I J T of N) (he : ∀ s, s < N → T s = T' s) (hI : ∀ c, 11 ≤ c → c ≤ 75 → I' c = I c) : JI I' J T' of N := by
  obtain ⟨m, a1, a2, a3, a, r, a4, a5, a6, a7, a8, a9⟩ := JI_ext h hI (fun c _ _ => rfl)
  have hh : ∀ s, s < m → T s = T' s ∧ of s = of s := fun s hs => ⟨he s (by omega), rfl⟩
  have e := nst_congr m hh
  have er : rk T' of m = rk T of m := by unfold rk; rw [e]
  have en : nos T' of m = nos T of m := by unfold nos; rw [e]
  refine ⟨m, a1, a2, ⟨fun s hs => ?_, fun q hq => ?_⟩, a, r, a4, by rw [er]; exact a5, fun k => by rw [er]; exact a6 k, a7, a8, fun q hq => ?_⟩
  · have h2 : ∀ s', s' < s + 1 → T s' = T' s' ∧ of s' = of s' := fun s' h' => hh s' (by omega)
    rw [← knd_congr h2]
    exact ⟨(a3.1 s hs).1, ptOK_congr h2 (a3.1 s hs).2⟩
  · rw [er] at hq
    rw [en]
    exact a3.2 q hq
  · rw [er] at hq
    rw [a9 q hq]
    unfold am
    rw [en]
    exact he _ (by have := nos_lt T of m q hq; omega)
