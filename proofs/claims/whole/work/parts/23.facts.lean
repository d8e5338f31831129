/-! the checks, as facts -/
theorem mm_lk_mem {α : Type} : ∀ {l : List (Nat × α)} {i : Nat} {a : α}, mm_lk l i = some a → (i, a) ∈ l
  | [], _, _, h => by cases h
  | (j, x) :: r, i, a, h => by
    rw [mm_lk] at h
    by_cases e : j = i
    · subst e
      rw [show Nat.beq j j = true from Nat.beq_refl j] at h
      cases h
      exact List.mem_cons_self
    · have : Nat.beq j i = false := by
        cases hb : Nat.beq j i with
        | false => rfl
        | true => exact absurd (Nat.eq_of_beq_eq_true hb) e
      rw [this] at h
      exact List.mem_cons_of_mem _ (mm_lk_mem h)
theorem mm_own16 {α : Type} {l : List (List α)} (hl : l.length = 16) {own : Nat} {e : α} (h : e ∈ l.getD own []) : own ∈ List.range 16 := by
  rw [List.mem_range]
  apply Classical.byContradiction
  intro hn
  rw [List.getD_eq_getElem?_getD, List.getElem?_eq_none (by omega)] at h
  cases h
theorem mm_in_ws {w : Jvm.Cond} (h : w ∈ tables_1) (hg : goodWord w = true) : w ∈ mm_ws := List.mem_filter.mpr ⟨List.mem_append_right _ h, hg⟩
theorem mm_ws_good : ∀ w ∈ mm_ws, (w.onTables && w.keeps) = true ∨ ∃ ty, w = .arrayClass ty := fun w h => good_of_word (List.mem_filter.mp h).2
theorem fx_ty {ci k : Nat} (hci : ci ≤ 8) (hk : k < mm_cN ci) : ck_t1 ci k = true := by
  have h1 := List.all_eq_true.mp ck_ty ci (List.mem_range.mpr (by omega))
  exact List.all_eq_true.mp h1 k (List.mem_range.mpr hk)
/-- a class of objects: its name, its fields -/
theorem fx_cls {ci : Nat} (hci : ci ≤ 8) : ∃ T, mm_C[ci]? = some (mm_on ci, T, mm_cN ci) ∧ (∀ w ∈ u_ws (mm_on ci) T (mm_cN ci), w ∈ mm_ws) ∧ (∀ a, a < mm_cN ci → ∀ b, b < mm_cN ci → a ≠ b → (T a).2.1 ≠ (T b).2.1) ∧
    ∀ k, k < mm_cN ci → (T k).1 = mm_on ci ∧ (T k).2.2.2 = mm_isF ci k ∧ ((mm_ty ci k = 0 ∧ parseFieldDescriptor (T k).2.2.1 = some .int) ∨ (mm_ty ci k = 1 ∧ parseFieldDescriptor (T k).2.2.1 = some .boolean) ∨ (mm_ty ci k = 2 ∧ parseFieldDescriptor (T k).2.2.1 = some .long) ∨ (mm_ty ci k = 3 ∧ ∃ ty, parseFieldDescriptor (T k).2.2.1 = some ty ∧ ((∃ C, ty = .object C) ∨ ∃ e, ty = .array e))) := by
  obtain ⟨C, T, hC⟩ := mm_cN_le ci hci
  have hpos : 0 < mm_cN ci := by
    have : ci = 0 ∨ ci = 1 ∨ ci = 2 ∨ ci = 3 ∨ ci = 4 ∨ ci = 5 ∨ ci = 6 ∨ ci = 7 ∨ ci = 8 := by omega
    rcases this with rfl | rfl | rfl | rfl | rfl | rfl | rfl | rfl | rfl <;> decide
  have key : ∀ k, k < mm_cN ci → (((((mm_cN ci).beq (mm_cN ci) = true ∧ (T k).1 = C) ∧ (T k).2.2.2 = mm_isF ci k) ∧ C = mm_on ci) ∧ u_lay C T k ∈ tables_1) ∧ ((mm_ty ci k = 0 ∧ parseFieldDescriptor (T k).2.2.1 = some .int) ∨ (mm_ty ci k = 1 ∧ parseFieldDescriptor (T k).2.2.1 = some .boolean) ∨ (mm_ty ci k = 2 ∧ parseFieldDescriptor (T k).2.2.1 = some .long) ∨ (mm_ty ci k = 3 ∧ ∃ ty, parseFieldDescriptor (T k).2.2.1 = some ty ∧ ((∃ C, ty = .object C) ∨ ∃ e, ty = .array e))) := by
    intro k hk
    have h := fx_ty hci hk
    unfold ck_t1 at h
    rw [hC] at h
    simp only [Bool.and_eq_true, decide_eq_true_eq] at h
    refine ⟨h.1, ?_⟩
    have h2 := h.2
    split at h2
    · rename_i e1 e2; exact Or.inl ⟨e1, e2⟩
    · rename_i e1 e2; exact Or.inr (Or.inl ⟨e1, e2⟩)
    · rename_i e1 e2; exact Or.inr (Or.inr (Or.inl ⟨e1, e2⟩))
    · rename_i x1 x2 n e1 e2; exact Or.inr (Or.inr (Or.inr ⟨e1, _, e2, Or.inl ⟨_, rfl⟩⟩))
    · rename_i x1 x2 n e1 e2; exact Or.inr (Or.inr (Or.inr ⟨e1, _, e2, Or.inr ⟨_, rfl⟩⟩))
    · cases h2
  have hCe : C = mm_on ci := (key 0 hpos).1.1.2
  subst hCe
  refine ⟨T, hC, fun w hw => ?_, ?_, fun k hk => ⟨(key k hk).1.1.1.1.2, (key k hk).1.1.1.2, (key k hk).2⟩⟩
  · obtain ⟨k, hk, rfl⟩ := List.mem_map.mp hw
    refine mm_in_ws (key k (List.mem_range.mp hk)).1.2 ?_
    unfold u_lay
    split <;> rfl
  · have h1 := List.all_eq_true.mp ck_nm ci (List.mem_range.mpr (by omega))
    rw [hC] at h1
    intro a ha b hb hab
    have h2 := List.all_eq_true.mp (List.all_eq_true.mp h1 a (List.mem_range.mpr ha)) b (List.mem_range.mpr hb)
    simp only [Bool.or_eq_true, beq_iff_eq, decide_eq_true_eq] at h2
    exact h2.resolve_left hab
theorem fx_fld {own idx ci f : Nat} (hf : mm_fld own idx = some (ci, f)) : ci ≤ 8 ∧ f < mm_cN ci ∧ ∀ T, mm_C[ci]? = some (mm_on ci, T, mm_cN ci) → Jvm.Cond.fieldLink (mm_on own) idx (T f).1 (T f).2.1 (T f).2.2.1 ∈ mm_ws := by
  have hm := mm_lk_mem hf
  have ho := mm_own16 (l := mm_fl) rfl hm
  have h1 : ck_f1 own (idx, ci, f) = true := List.all_eq_true.mp (List.all_eq_true.mp ck_fl own ho) _ hm
  unfold ck_f1 at h1
  dsimp only at h1
  split at h1
  · rename_i C T N hC
    simp only [Bool.and_eq_true, decide_eq_true_eq] at h1
    obtain ⟨⟨h2, h3⟩, h4⟩ := h1
    have hci : ci ≤ 8 := Nat.le_of_ble_eq_true h2
    obtain ⟨T', hT', -⟩ := fx_cls hci
    rw [hC] at hT'
    cases hT'
    refine ⟨hci, Nat.le_of_ble_eq_true h3, fun T2 h5 => ?_⟩
    rw [hC] at h5
    cases h5
    exact mm_in_ws h4 rfl
  · cases h1
theorem fx_cI {own idx : Nat} {v : Int32} (h : mm_cI own idx = some v) : Jvm.Cond.constant (mm_on own) idx v ∈ mm_ws := by
  have hm := mm_lk_mem h
  have ho := mm_own16 (l := mm_cs) rfl hm
  have h1 := List.all_eq_true.mp (List.all_eq_true.mp ck_c1 own ho) _ hm
  exact mm_in_ws (of_decide_eq_true h1) rfl
theorem fx_cJ {own idx : Nat} {v : Int64} (h : mm_cJ own idx = some v) : Jvm.Cond.constantLong (mm_on own) idx v ∈ mm_ws := by
  have hm := mm_lk_mem h
  have ho := mm_own16 (l := mm_cl) rfl hm
  have h1 := List.all_eq_true.mp (List.all_eq_true.mp ck_c2 own ho) _ hm
  exact mm_in_ws (of_decide_eq_true h1) rfl
/-- what is fetched is what is decoded -/
theorem fx_fet {mid pc : Nat} {i : Instr} {len tgt : Nat} (h : mm_fet mid pc = some (i, len, tgt)) : mid < 178 ∧ decode (mm_bb mid) pc = .ok (i, len) ∧ mm_ln i len = true ∧ mm_tg i pc tgt = true ∧ ck_i1 mid (pc, i, len, tgt) = true := by
  have hm := mm_lk_mem h
  have hmid : mid < 178 := by
    apply Classical.byContradiction
    intro hn
    rw [List.getD_eq_getElem?_getD, List.getElem?_eq_none (by show mm_kd.length ≤ mid; have : mm_kd.length = 178 := rfl; omega)] at hm
    cases hm
  have h1 := List.all_eq_true.mp (kc_all mid hmid) _ hm
  have h2 := List.all_eq_true.mp (List.all_eq_true.mp ck_is mid (List.mem_range.mpr hmid)) _ hm
  simp only [mm_ok1, Bool.and_eq_true, decide_eq_true_eq] at h1
  exact ⟨hmid, h1.1.1, h1.1.2, h1.2, h2⟩
theorem ck_mall {own : Nat} : ∀ e ∈ mm_ml.getD own [], ∃ q, ck_m1 own e q = true := by
  intro e he
  have ho := List.mem_range.mp (mm_own16 (l := mm_ml) rfl he)
  have : own = 0 ∨ own = 1 ∨ own = 2 ∨ own = 3 ∨ own = 4 ∨ own = 5 ∨ own = 6 ∨ own = 7 ∨ own = 8 ∨ own = 9 ∨ own = 10 ∨ own = 11 ∨ own = 12 ∨ own = 13 ∨ own = 14 ∨ own = 15 := by omega
  rcases this with rfl | rfl | rfl | rfl | rfl | rfl | rfl | rfl | rfl | rfl | rfl | rfl | rfl | rfl | rfl | rfl
  · exact ck_m2_mem 0 _ _ ck_ml0 e he
  · exact ck_m2_mem 1 _ _ ck_ml1 e he
  · exact ck_m2_mem 2 _ _ ck_ml2 e he
  · exact ck_m2_mem 3 _ _ ck_ml3 e he
  · exact ck_m2_mem 4 _ _ ck_ml4 e he
  · exact ck_m2_mem 5 _ _ ck_ml5 e he
  · exact ck_m2_mem 6 _ _ ck_ml6 e he
  · exact ck_m2_mem 7 _ _ ck_ml7 e he
  · exact ck_m2_mem 8 _ _ ck_ml8 e he
  · exact ck_m2_mem 9 _ _ ck_ml9 e he
  · exact ck_m2_mem 10 _ _ ck_ml10 e he
  · exact ck_m2_mem 11 _ _ ck_ml11 e he
  · exact ck_m2_mem 12 _ _ ck_ml12 e he
  · exact ck_m2_mem 13 _ _ ck_ml13 e he
  · exact ck_m2_mem 14 _ _ ck_ml14 e he
  · exact ck_m2_mem 15 _ _ ck_ml15 e he
theorem fx_mth {own idx m2 : Nat} (h : mm_mth own idx = some m2) : ∃ q, ck_m1 own (idx, m2) q = true := ck_mall _ (mm_lk_mem h)
