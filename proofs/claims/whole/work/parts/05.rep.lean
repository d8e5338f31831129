/-! WHAT THE MINI-MACHINE'S STATE SAYS OF THE MACHINE'S -/
def mm_ad (base b t k : Nat) : Nat := if k = 0 then b else if k = 1 then t else base + (k - 2)
def mm_tv (ad : Nat → Nat) (v : Value) : Value := match v with
  | .ref k => .ref (ad k)
  | v => v
theorem mm_tv_cat (ad : Nat → Nat) (v : Value) : (mm_tv ad v).category = v.category := by cases v <;> rfl
theorem mm_tv_cats (ad : Nat → Nat) (r : List Value) : ((r.map (mm_tv ad)).map fun v => v.category).sum = mm_cat r := by
  induction r with
  | nil => rfl
  | cons v r ih => simp only [List.map_cons, List.sum_cons, mm_cat, mm_tv_cat] at *; rw [ih]
def mm_lv (ad : Nat → Nat) (L : ML) : List (Nat × Value) := (List.range L.length).filterMap (fun k => (L.getD k none).map (fun v => (k, mm_tv ad v)))
theorem mm_lv_mem {ad : Nat → Nat} {L : ML} {q : Nat × Value} : q ∈ mm_lv ad L ↔ ∃ v, L[q.1]? = some (some v) ∧ q.2 = mm_tv ad v := by
  obtain ⟨k, w⟩ := q
  simp only [mm_lv, List.mem_filterMap, List.mem_range, Option.map_eq_some_iff, Prod.mk.injEq]
  constructor
  · rintro ⟨j, hj, v, hv, rfl, rfl⟩
    refine ⟨v, ?_, rfl⟩
    rw [List.getD_eq_getElem?_getD, List.getElem?_eq_getElem hj] at hv
    rw [List.getElem?_eq_getElem hj]
    simpa using hv
  · rintro ⟨v, hv, rfl⟩
    obtain ⟨hk, hv'⟩ := List.getElem?_eq_some_iff.mp hv
    exact ⟨k, hk, v, by rw [List.getD_eq_getElem?_getD, hv]; rfl, rfl, rfl⟩
/-- the locals -/
def mm_Lr (ad : Nat → Nat) (L : ML) (ls : Array Slot) : Prop := lv_has ls L.length (mm_lv ad L)
theorem mm_Lr.at {ad : Nat → Nat} {L : ML} {ls : Array Slot} (h : mm_Lr ad L ls) {k : Nat} {v : Value} (hv : L.getD k none = some v) : ls[k]? = some (.val (mm_tv ad v)) := by
  refine h.2.2 (k, mm_tv ad v) (mm_lv_mem.mpr ⟨v, ?_, rfl⟩)
  show L[k]? = _
  rw [List.getD_eq_getElem?_getD] at hv
  cases hk : L[k]? with
  | none => rw [hk] at hv; cases hv
  | some w => rw [hk] at hv; simp at hv; rw [hv]
theorem mm_st1_len (L : ML) (i : Nat) (v : Value) : (mm_st1 L i v).length = L.length := by
  unfold mm_st1
  split
  · simp
  · split
    · rename_i w _
      cases Nat.beq w.category 2 <;> simp
    · simp
theorem mm_st1_get {L : ML} {i k : Nat} {v w : Value} (h : (mm_st1 L i v)[k]? = some (some w)) : (k = i ∧ w = v) ∨ (k ≠ i ∧ L[k]? = some (some w) ∧ ¬ (k + 1 = i ∧ w.category = 2)) := by
  unfold mm_st1 at h
  split at h
  · rw [List.getElem?_set] at h
    by_cases hk : 0 = k
    · subst hk
      split at h <;> simp_all
    · rw [if_neg hk] at h
      exact Or.inr ⟨fun e => hk e.symm, h, fun e => by omega⟩
  · rename_i j
    by_cases hk : k = j + 1
    · refine Or.inl ⟨hk, ?_⟩
      subst hk
      split at h
      · rename_i w' _
        cases hw : Nat.beq w'.category 2 <;> rw [hw] at h <;> simp only [cond_true, cond_false] at h <;> rw [List.getElem?_set] at h <;> simp at h <;> exact h.2.symm
      · rw [List.getElem?_set] at h; simp at h; exact h.2.symm
    · refine Or.inr ⟨hk, ?_⟩
      split at h
      · rename_i w' hw'
        cases hw : Nat.beq w'.category 2 <;> rw [hw] at h <;> simp only [cond_true, cond_false] at h <;> rw [List.getElem?_set] at h <;> rw [if_neg (fun e => hk e.symm)] at h
        · refine ⟨h, fun e => ?_⟩
          obtain ⟨e1, e2⟩ := e
          have : k = j := by omega
          subst this
          rw [hw'] at h
          simp at h
          subst h
          rw [e2] at hw
          cases hw
        · rw [List.getElem?_set] at h
          by_cases hkj : j = k
          · subst hkj
            rw [if_pos rfl] at h
            split at h <;> simp at h
          · rw [if_neg hkj] at h
            exact ⟨h, fun e => hkj (by omega)⟩
      · rename_i hn
        rw [List.getElem?_set, if_neg (fun e => hk e.symm)] at h
        refine ⟨h, fun e => ?_⟩
        have : k = j := by omega
        subst this
        exact hn _ h
theorem mm_st2_len (L : ML) (i : Nat) (v : Value) : (mm_st2 L i v).length = L.length := by
  unfold mm_st2
  rw [List.length_set, mm_st1_len]
theorem mm_st2_get {L : ML} {i k : Nat} {v w : Value} (h : (mm_st2 L i v)[k]? = some (some w)) : (k = i ∧ w = v) ∨ (k ≠ i ∧ k ≠ i + 1 ∧ L[k]? = some (some w) ∧ ¬ (k + 1 = i ∧ w.category = 2)) := by
  unfold mm_st2 at h
  rw [List.getElem?_set] at h
  by_cases hk : i + 1 = k
  · rw [if_pos hk] at h
    split at h <;> simp at h
  · rw [if_neg hk] at h
    rcases mm_st1_get h with h1 | ⟨h1, h2, h3⟩
    · exact Or.inl h1
    · exact Or.inr ⟨h1, fun e => hk e.symm, h2, h3⟩
theorem mm_Lr.s1 {ad : Nat → Nat} {L : ML} {ls' : Array Slot} {i : Nat} {v : Value} (h : lv_has ls' L.length ((i, mm_tv ad v) :: (mm_lv ad L).filter (fun q => !(q.1 == i) && !(q.1 + 1 == i && q.2.category == 2)))) : mm_Lr ad (mm_st1 L i v) ls' := by
  refine ⟨by rw [mm_st1_len]; exact h.1, h.2.1, fun q hq => h.2.2 q ?_⟩
  obtain ⟨w, hw, he⟩ := mm_lv_mem.mp hq
  rcases mm_st1_get hw with ⟨h1, h2⟩ | ⟨h1, h2, h3⟩
  · obtain ⟨a, c⟩ := q
    simp only at h1 h2 he
    subst h1 h2 he
    exact List.mem_cons_self
  · refine List.mem_cons_of_mem _ (List.mem_filter.mpr ⟨mm_lv_mem.mpr ⟨w, h2, he⟩, ?_⟩)
    rw [he, mm_tv_cat]
    simp only [Bool.and_eq_true, Bool.not_eq_true', beq_eq_false_iff_ne, ne_eq, Bool.and_eq_false_iff]
    refine ⟨h1, ?_⟩
    by_cases e1 : q.1 + 1 = i
    · exact Or.inr (fun e2 => h3 ⟨e1, e2⟩)
    · exact Or.inl e1
theorem mm_Lr.s2 {ad : Nat → Nat} {L : ML} {ls' : Array Slot} {i : Nat} {v : Value} (h : lv_has ls' L.length ((i, mm_tv ad v) :: (mm_lv ad L).filter (fun q => !(q.1 == i) && (!(q.1 == i + 1) && !(q.1 + 1 == i && q.2.category == 2))))) : mm_Lr ad (mm_st2 L i v) ls' := by
  refine ⟨by rw [mm_st2_len]; exact h.1, h.2.1, fun q hq => h.2.2 q ?_⟩
  obtain ⟨w, hw, he⟩ := mm_lv_mem.mp hq
  rcases mm_st2_get hw with ⟨h1, h2⟩ | ⟨h1, h1', h2, h3⟩
  · obtain ⟨a, c⟩ := q
    simp only at h1 h2 he
    subst h1 h2 he
    exact List.mem_cons_self
  · refine List.mem_cons_of_mem _ (List.mem_filter.mpr ⟨mm_lv_mem.mpr ⟨w, h2, he⟩, ?_⟩)
    rw [he, mm_tv_cat]
    simp only [Bool.and_eq_true, Bool.not_eq_true', beq_eq_false_iff_ne, ne_eq, Bool.and_eq_false_iff]
    refine ⟨h1, h1', ?_⟩
    by_cases e1 : q.1 + 1 = i
    · exact Or.inr (fun e2 => h3 ⟨e1, e2⟩)
    · exact Or.inl e1
