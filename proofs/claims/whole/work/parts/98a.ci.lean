/-! the state that both sides show -/
/-- points: how many, the rough numbers; tellings: how many, rows, off, terms (the twentieth is the question); the fraction: sign, above, below; bars: how many, their ends -/
abbrev St : Type := (Nat × (Nat → Int)) × (Nat × (Nat → Nat → Int) × Off × (Nat → Nat) × (Nat → Nat → Nat) × (Nat → Nat → Int)) × (Int32 × Nat × Nat) × (Nat × (Nat → Nat) × (Nat → Nat))
abbrev sPt (S : St) : Nat := S.1.1
abbrev sRo (S : St) : Nat → Int := S.1.2
abbrev sTl (S : St) : Nat := S.2.1.1
abbrev sT (S : St) : Nat → Nat → Int := S.2.1.2.1
abbrev sOf (S : St) : Off := S.2.1.2.2.1
abbrev sTn (S : St) : Nat → Nat := S.2.1.2.2.2.1
abbrev sNm (S : St) : Nat → Nat → Nat := S.2.1.2.2.2.2.1
abbrev sFc (S : St) : Nat → Nat → Int := S.2.1.2.2.2.2.2
abbrev sSg (S : St) : Int32 := S.2.2.1.1
abbrev sFA (S : St) : Nat := S.2.2.1.2.1
abbrev sFB (S : St) : Nat := S.2.2.1.2.2
abbrev sB (S : St) : Nat := S.2.2.2.1
abbrev sBa (S : St) : Nat → Nat := S.2.2.2.2.1
abbrev sBb (S : St) : Nat → Nat := S.2.2.2.2.2
/-- a row with its terms, as numbers alone -/
def rowOK (n : Nat) (nm : Nat → Nat) (fc t : Nat → Int) : Prop := (-2000 ≤ t 16 ∧ t 16 ≤ 2000) ∧ n ≤ 4 ∧ (∀ k, k < n → nm k < 16 ∧ fc k ≠ 0 ∧ -3 ≤ fc k ∧ fc k ≤ 3 ∧ t (nm k) = fc k) ∧ (∀ j k, j < k → k < n → nm j ≠ nm k) ∧ (∀ c, c < 16 → (∀ k, k < n → nm k ≠ c) → t c = 0)
theorem tT_row {I : Nat → Nat → Int32} {s n : Nat} {nm : Nat → Nat} {fc t : Nat → Int} (h : tT I s n nm fc t) : rowOK n nm fc t := by
  obtain ⟨t1, t2, t3, t4, t5, t6, t7⟩ := h
  exact ⟨t2, t3, fun k hk => ⟨(t5 k hk).2.1, (t5 k hk).2.2.2⟩, t6, t7⟩
/-- the class, at a state -/
def C1 (I : Nat → Nat → Int32) (S : St) : Prop := I 2 1 = nI (sPt S) ∧ sPt S ≤ 8 ∧ RO I (sRo S)
def C2 (I : Nat → Nat → Int32) (J : Nat → Nat → Int64) (S : St) : Prop := I 2 3 = nI (sTl S) ∧ sTl S ≤ 20 ∧ (∀ t, t < sTl S → tT I (sumP t) (sTn S t) (sNm S t) (sFc S t) (sT S t)) ∧ (∀ t, t < 20 → I (sumP t) 2 = (if sOf S t = true then 1 else 0)) ∧ (∀ t, sTl S ≤ t → sOf S t = false) ∧ JI I J (sT S) (sOf S) (sTl S) ∧ tT I 5 (sTn S 20) (sNm S 20) (sFc S 20) (sT S 20)
def C3 (J : Nat → Nat → Int64) (w : Nat → Nat) : Prop := isP w ∧ ∀ i, i < 6 → J 1 i = zJ (pc i)
def C4 (I : Nat → Nat → Int32) (J : Nat → Nat → Int64) (S : St) : Prop := I 134 0 = sSg S ∧ (∀ i, i < 5 → J 135 i = zJ (dg (sFA S) i)) ∧ (∀ i, i < 5 → J 136 i = zJ (dg (sFB S) i)) ∧ sFA S < 2 ^ 150 ∧ sFB S < 2 ^ 150
def CI (I : Nat → Nat → Int32) (J : Nat → Nat → Int64) (w : Nat → Nat) (S : St) : Prop := C1 I S ∧ C2 I J S ∧ C3 J w ∧ C4 I J S ∧ CF I (sB S) (sBa S) (sBb S)
theorem CT_of {I : Nat → Nat → Int32} {J : Nat → Nat → Int64} {S : St} (h : C2 I J S) : CT I (sT S) (sOf S) (sTl S) := fun t ht => ⟨⟨_, _, _, h.2.2.1 t ht⟩, h.2.2.2.1 t (by have := h.2.1; omega)⟩
theorem JI_ext {I I' : Nat → Nat → Int32} {J J' : Nat → Nat → Int64} {T : Nat → Nat → Int} {of : Off} {N : Nat} (h : JI I J T of N) (hI : ∀ c, 11 ≤ c → c ≤ 75 → I' c = I c) (hJ : ∀ c, 11 ≤ c → c ≤ 75 → J' c = J c) : JI I' J' T of N := by
  obtain ⟨m, a1, a2, a3, a, r, a4, a5, a6, a7, a8, a9⟩ := h
  refine ⟨m, a1, by rw [hI 11 (by omega) (by omega)]; exact a2, ?_, a, r, a4, a5, a6, fun i hi => WF_ext (a7 i hi) (fun c h1 h2 => hI c (by have : ww i = 16 + 20 * i := rfl; omega) (by have : ww i = 16 + 20 * i := rfl; omega)) (fun c h1 h2 => hJ c (by have : ww i = 16 + 20 * i := rfl; omega) (by have : ww i = 16 + 20 * i := rfl; omega)) a4, by rw [hI 11 (by omega) (by omega)]; exact a8, a9⟩
  unfold JV ptOK
  rw [hI 13 (by omega) (by omega), hI 14 (by omega) (by omega), hI 15 (by omega) (by omega)]
  exact a3
theorem C1_ext {I I' : Nat → Nat → Int32} {S : St} (h : C1 I S) (h2 : I' 2 = I 2) (h3 : I' 3 = I 3) : C1 I' S := by
  unfold C1 RO at *
  rw [h2, h3]
  exact h
theorem C2_ext {I I' : Nat → Nat → Int32} {J J' : Nat → Nat → Int64} {S : St} (h : C2 I J S) (h2 : I' 2 3 = I 2 3) (hj : ∀ c, 11 ≤ c → c ≤ 75 → I' c = I c ∧ J' c = J c) (hs : ∀ c, (5 ≤ c ∧ c ≤ 7) ∨ (148 ≤ c ∧ c ≤ 207) → I' c = I c) : C2 I' J' S := by
  obtain ⟨a1, a2, a3, a4, a5, a6, a7⟩ := h
  refine ⟨h2.trans a1, a2, fun t ht => ?_, fun t ht => ?_, a5, JI_ext a6 (fun c h1 h2 => (hj c h1 h2).1) (fun c h1 h2 => (hj c h1 h2).2), tT_ext a7 (hs 5 (by omega)) (hs 6 (by omega)) (hs 7 (by omega))⟩
  · have e : sumP t = 148 + 3 * t := rfl
    exact tT_ext (a3 t ht) (hs _ (by omega)) (hs _ (by omega)) (hs _ (by omega))
  · have e : sumP t = 148 + 3 * t := rfl
    rw [hs _ (by omega)]; exact a4 t ht
theorem C4_ext {I I' : Nat → Nat → Int32} {J J' : Nat → Nat → Int64} {S : St} (h : C4 I J S) (h1 : I' 134 = I 134) (h2 : J' 135 = J 135) (h3 : J' 136 = J 136) : C4 I' J' S := by
  unfold C4 at *
  rw [h1, h2, h3]
  exact h
theorem CF_ext {I I' : Nat → Nat → Int32} {B : Nat} {ba bb : Nat → Nat} (h : CF I B ba bb) (h1 : ∀ c, 141 ≤ c → c ≤ 147 → c ≠ 143 → I' c = I c) : CF I' B ba bb := by
  unfold CF at *
  rw [h1 141 (by omega) (by omega) (by omega), h1 142 (by omega) (by omega) (by omega), h1 144 (by omega) (by omega) (by omega), h1 145 (by omega) (by omega) (by omega), h1 146 (by omega) (by omega) (by omega), h1 147 (by omega) (by omega) (by omega)]
  exact h
/-- what lies off the class's places leaves it as it is -/
theorem CI_off {I I' : Nat → Nat → Int32} {J J' : Nat → Nat → Int64} {w : Nat → Nat} {S : St} (h : CI I J w S) (hf : FR 208 228 I J I' J') : CI I' J' w S := by
  have g : ∀ c, c < 208 → I' c = I c ∧ J' c = J c := fun c hc => hf c (Or.inl hc)
  obtain ⟨a1, a2, a3, a4, a5⟩ := h
  refine ⟨C1_ext a1 (g 2 (by omega)).1 (g 3 (by omega)).1, C2_ext a2 (by rw [(g 2 (by omega)).1]) (fun c h1 h2 => g c (by omega)) (fun c hc => (g c (by omega)).1), ⟨a3.1, by rw [(g 1 (by omega)).2]; exact a3.2⟩, C4_ext a4 (g 134 (by omega)).1 (g 135 (by omega)).2 (g 136 (by omega)).2, CF_ext a5 (fun c h1 h2 _ => (g c (by omega)).1)⟩
/-- a change of the judge's places alone -/
theorem CI_judge {I I' : Nat → Nat → Int32} {J J' : Nat → Nat → Int64} {w : Nat → Nat} {S : St} (h : CI I J w S) (hf : FR 11 75 I J I' J') (hj : JI I' J' (sT S) (sOf S) (sTl S)) : CI I' J' w S := by
  have g : ∀ c, c < 11 ∨ 75 < c → I' c = I c ∧ J' c = J c := fun c hc => hf c hc
  obtain ⟨a1, ⟨b1, b2, b3, b4, b5, b6, b7⟩, a3, a4, a5⟩ := h
  refine ⟨C1_ext a1 (g 2 (by omega)).1 (g 3 (by omega)).1, ⟨by rw [(g 2 (by omega)).1]; exact b1, b2, fun t ht => ?_, fun t ht => ?_, b5, hj, tT_ext b7 (g 5 (by omega)).1 (g 6 (by omega)).1 (g 7 (by omega)).1⟩, ⟨a3.1, by rw [(g 1 (by omega)).2]; exact a3.2⟩, C4_ext a4 (g 134 (by omega)).1 (g 135 (by omega)).2 (g 136 (by omega)).2, CF_ext a5 (fun c h1 h2 _ => (g c (by omega)).1)⟩
  · have e : sumP t = 148 + 3 * t := rfl
    exact tT_ext (b3 t ht) (g _ (by omega)).1 (g _ (by omega)).1 (g _ (by omega)).1
  · have e : sumP t = 148 + 3 * t := rfl
    rw [(g _ (by omega)).1]; exact b4 t ht
/-! the reference, at a state -/
def R1 (I : Nat → Nat → Int32) (S : St) : Prop := I 208 0 = nI (sPt S) ∧ sPt S ≤ 8 ∧ RR8 I (sRo S)
/-- one row of the reference, with its terms -/
def rR (I : Nat → Nat → Int32) (t n : Nat) (nm : Nat → Nat) (fc r : Nat → Int) : Prop := (∀ c, c < 17 → I 210 (17 * t + c) = zI (r c)) ∧ I 211 t = nI n ∧ (∀ k, k < n → I 212 (4 * t + k) = nI (nm k) ∧ I 213 (4 * t + k) = zI (fc k)) ∧ rowOK n nm fc r
def R2 (I : Nat → Nat → Int32) (S : St) : Prop := I 208 2 = nI (sTl S) ∧ sTl S ≤ 20 ∧ (∀ t, t < sTl S → rR I t (sTn S t) (sNm S t) (sFc S t) (sT S t)) ∧ (∀ t, t < 20 → I 214 t = (if sOf S t = true then 1 else 0)) ∧ (∀ t, sTl S ≤ t → sOf S t = false) ∧ rR I 20 (sTn S 20) (sNm S 20) (sFc S 20) (sT S 20)
def R3 (I : Nat → Nat → Int32) (J : Nat → Nat → Int64) : Prop := (∃ π, PM I π) ∧ ∃ M, MG J M
def R4 (I : Nat → Nat → Int32) (J : Nat → Nat → Int64) (S : St) : Prop := I 208 25 = sSg S ∧ zv J 0 (sFA S) ∧ zv J 1 (sFB S) ∧ sFA S < 2 ^ 150 ∧ sFB S < 2 ^ 150
def R5 (I : Nat → Nat → Int32) (S : St) : Prop := ∃ ba bb, BR I (sB S) ba bb ∧ ∀ k, k < sB S → ba k = sBa S k ∧ bb k = sBb S k
def RI (I : Nat → Nat → Int32) (J : Nat → Nat → Int64) (S : St) : Prop := R1 I S ∧ R2 I S ∧ R3 I J ∧ R4 I J S ∧ R5 I S
theorem RI_eq {I I' : Nat → Nat → Int32} {J J' : Nat → Nat → Int64} {S : St} (h : RI I J S) (hI : ∀ c, 208 ≤ c → c ≤ 228 → I' c = I c) (hJ : ∀ c, 208 ≤ c → c ≤ 228 → J' c = J c) : RI I' J' S := by
  unfold RI R1 R2 R3 R4 R5 RR8 rR PM MG zv BR BA21 at *
  rw [hI 208 (by omega) (by omega), hI 209 (by omega) (by omega), hI 210 (by omega) (by omega), hI 211 (by omega) (by omega), hI 212 (by omega) (by omega), hI 213 (by omega) (by omega), hI 214 (by omega) (by omega), hI 216 (by omega) (by omega), hI 217 (by omega) (by omega), hI 219 (by omega) (by omega), hJ 221 (by omega) (by omega), hJ 227 (by omega) (by omega)]
  exact h
theorem RI_off {I I' : Nat → Nat → Int32} {J J' : Nat → Nat → Int64} {S : St} (h : RI I J S) (hf : FR 1 207 I J I' J') : RI I' J' S := RI_eq h (fun c h1 h2 => (hf c (by omega)).1) (fun c h1 h2 => (hf c (by omega)).2)
theorem rowOK_srt {n : Nat} {nm : Nat → Nat} {fc t : Nat → Int} (h : rowOK n nm fc t) : dt 16 t t ≤ 36 ∧ -2000 ≤ t 16 ∧ t 16 ≤ 2000 := by
  obtain ⟨t2, t3, t5, t6, t7⟩ := h
  exact isT_srt (I := fun c k => if c = 0 then (if k = 0 then zI (t 16) else nI n) else if c = 1 then nI (nm k) else zI (fc k)) (s := 0) ⟨n, nm, fc, rfl, t2, t3, rfl, fun k hk => ⟨rfl, (t5 k hk).1, rfl, (t5 k hk).2⟩, t6, t7⟩
theorem R2_RT {I : Nat → Nat → Int32} {S : St} (h : R2 I S) : RT I (sT S) (sOf S) (sTl S) := ⟨h.1, h.2.1, fun t ht => ⟨(h.2.2.1 t ht).1, rowOK_srt (h.2.2.1 t ht).2.2.2, h.2.2.2.1 t (by have := h.2.1; omega)⟩⟩
