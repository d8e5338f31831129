/-! ONE STEP OF THE MINI-MACHINE IS ONE OF THE MACHINE -/
def mm_isN : Jvm.Cond → Bool
  | .methodLinkNest .. => true
  | .fieldLinkNest .. => true
  | _ => false
/-- the machine's part, with the words that are not carried along by themselves -/
def mm_X2 (D : va_G) (cy : Nat → ClassId) (base b t Ls : Nat) (xs : Nat → Int32) (ps : Nat → Int64) (U : State) : Prop :=
  mm_X D cy base b t Ls xs ps U ∧ (∀ ty, Jvm.Cond.arrayOver ty ∈ tables_1 → (Jvm.Cond.arrayOver ty).before #[] U = true) ∧ ∀ w, w ∈ tables_1 → mm_isN w = true → va_Nw w U
theorem mm_ao_args {ty : FieldType} {a a' : Array Value} {U : State} (h : (Jvm.Cond.arrayOver ty).before a U = true) : (Jvm.Cond.arrayOver ty).before a' U = true := h
theorem mm_ao_moved {ty : FieldType} {a : Array Value} {s U : State} (hvm : s.vm.Alike U.vm) (h : (Jvm.Cond.arrayOver ty).before a s = true) : (Jvm.Cond.arrayOver ty).before a U = true := by
  have e := Cond.arrayOver_setVmC (args := a) (s := s) (vm' := U.vm) hvm ty
  rw [h] at e
  exact e
theorem mm_X2.moved {D : va_G} {cy : Nat → ClassId} {base b t Ls : Nat} {xs : Nat → Int32} {ps : Nat → Int64} {s U : State} {locs : List Loc} (h : mm_X2 D cy base b t Ls xs ps s) (hW : s.WarmedH U.vm) (hS : va_S (mm_A base) s.heap U.heap locs) : mm_X2 D cy base b t Ls xs ps U := by
  obtain ⟨h1, h2, h3⟩ := h
  refine ⟨h1.moved hW.alike hS, fun ty hty => mm_ao_moved hW.alike (h2 ty hty), fun w hw hn => ?_⟩
  have h4 := h3 w hw hn
  cases w <;> first | exact va_Nw.warmM hW h4 | exact va_Nw.warmF hW h4 | (exact absurd hn (by simp [mm_isN]))
theorem mm_X2.same {D : va_G} {cy : Nat → ClassId} {base b t Ls : Nat} {xs : Nat → Int32} {ps : Nat → Int64} {s U : State} (h : mm_X2 D cy base b t Ls xs ps s) (hv : s.vm = U.vm) (hh : s.heap = U.heap) : mm_X2 D cy base b t Ls xs ps U := by
  obtain ⟨h1, h2, h3⟩ := h
  have hal : s.vm.Alike U.vm := by rw [hv]; exact Vm.Alike.refl _
  refine ⟨h1.moved (locs := []) hal (by rw [← hh]; exact va_S.rf), fun ty hty => mm_ao_moved hal (h2 ty hty), fun w hw hn => ?_⟩
  have h4 := h3 w hw hn
  cases w <;> first | exact va_Nw.same rfl hv h4 | (exact absurd hn (by simp [mm_isN]))
/-- the method's part -/
def mm_B (mid : Nat) (p : Program) (R : Room) (s : State) (m : MethodId) (args : Array Value) (meth : Method) (c : Code) : Prop :=
  (p.tables.exec = Jvm.exec ∧ c.code = mm_bb mid ∧ c.maxLocals = mi_l (mm_of mid) ∧ s.vm.findClass (mm_on (mi_c (mm_of mid))) = some m.cls ∧ ∀ w ∈ mm_ws, w.before args s = true) ∧ (mm_ini mid = true → meth.name = "<init>") ∧ (R.frames = mi_f (mm_of mid) ∧ R.locals = mi_w (mm_of mid) ∧ R.cells = mi_mc (mm_of mid) ∧ R.slots = mi_ms (mm_of mid))
theorem mm_nx_inj {pc : Nat} {L : ML} {st : List Value} {h : MH} {cu su : Nat} {x : MS} (e : mm_nx pc L st h cu su = some (.inl x)) : x = (pc, L, st, h, cu, su) := by
  unfold mm_nx at e
  cases e
  rfl
theorem mm_fv_putI {h : MH} {a ci f : Nat} {x : Int32} (hty : mm_ty ci f = 0 ∨ mm_ty ci f = 1) (j : Nat) : mm_fv (putI h a f x) a ci j = if j = f then .int x else mm_fv h a ci j := by
  by_cases hj : j = f
  · subst hj
    rw [if_pos rfl]
    unfold mm_fv
    have e : mm_up (hI h) a j x a j = x := if_pos ⟨rfl, rfl⟩
    rcases hty with q | q <;> rw [q] <;> exact congrArg Value.int e
  · rw [if_neg hj]
    unfold mm_fv
    have e : mm_up (hI h) a f x a j = hI h a j := if_neg (fun z => hj z.2)
    split <;> first | rfl | exact congrArg Value.int e
theorem mm_fv_putJ {h : MH} {a ci f : Nat} {x : Int64} (hty : mm_ty ci f = 2) (j : Nat) : mm_fv (putJ h a f x) a ci j = if j = f then .long x else mm_fv h a ci j := by
  by_cases hj : j = f
  · subst hj
    rw [if_pos rfl]
    unfold mm_fv
    have e : mm_up (hJ h) a j x a j = x := if_pos ⟨rfl, rfl⟩
    rw [hty]
    exact congrArg Value.long e
  · rw [if_neg hj]
    unfold mm_fv
    have e : mm_up (hJ h) a f x a j = hJ h a j := if_neg (fun z => hj z.2)
    split <;> first | rfl | exact congrArg Value.long e
theorem mm_fv_putR {h : MH} {a ci f x : Nat} (hty : mm_ty ci f = 3) (j : Nat) : mm_fv (putR h a f (some x)) a ci j = if j = f then .ref x else mm_fv h a ci j := by
  by_cases hj : j = f
  · subst hj
    rw [if_pos rfl]
    unfold mm_fv
    have e : mm_up (hR h) a j (some x) a j = some x := if_pos ⟨rfl, rfl⟩
    rw [hty]
    exact congrArg mm_rv e
  · rw [if_neg hj]
    unfold mm_fv
    have e : mm_up (hR h) a f (some x) a j = hR h a j := if_neg (fun z => hj z.2)
    split <;> first | rfl | exact congrArg mm_rv e
theorem mm_ne0 {a : Nat} (h : 2 ≤ a) : 0 ≠ a ∧ 1 ≠ a := by omega
theorem mm_only0 {D : va_G} {cy : Nat → ClassId} {base b t Ls : Nat} {xs : Nat → Int32} {ps : Nat → Int64} {h : MH} {H : Heap} (hH : mm_H D cy base b t Ls xs ps h H) {a : Nat} (ha : hK h a = 20) : a = 0 := by
  obtain ⟨-, ⟨k0, k1, k2, k3⟩, -, -⟩ := hH
  apply Classical.byContradiction
  intro hn
  by_cases h1 : a = 1
  · subst h1; omega
  · by_cases h2 : a < hN h
    · have := k3 a (by omega) h2; omega
    · have := k2 a (by omega); omega
theorem mm_only1 {D : va_G} {cy : Nat → ClassId} {base b t Ls : Nat} {xs : Nat → Int32} {ps : Nat → Int64} {h : MH} {H : Heap} (hH : mm_H D cy base b t Ls xs ps h H) {a : Nat} (ha : hK h a = 21) : a = 1 := by
  obtain ⟨-, ⟨k0, k1, k2, k3⟩, -, -⟩ := hH
  apply Classical.byContradiction
  intro hn
  by_cases h1 : a = 0
  · subst h1; omega
  · by_cases h2 : a < hN h
    · have := k3 a (by omega) h2; omega
    · have := k2 a (by omega); omega
section STEP
variable {p : Program} {l : Launch} {e : Env} {R : Room} {s : State} {m : MethodId} {args : Array Value} {below : List Frame} {meth : Method} {c : Code} {Q : State → Prop}
variable {D : va_G} {cy : Nat → ClassId} {base b t Ls : Nat} {xs : Nat → Int32} {ps : Nat → Int64}
/-- from this mini-state the machine comes to Q -/
def mm_at (mid : Nat) (p : Program) (l : Launch) (e : Env) (R : Room) (s : State) (m : MethodId) (args : Array Value) (below : List Frame) (meth : Method) (c : Code) (Q : State → Prop) (D : va_G) (cy : Nat → ClassId) (base b t Ls : Nat) (xs : Nat → Int32) (ps : Nat → Int64) (x : MS) : Prop :=
  ∀ (H : Heap) (locs : List Loc) (ls : Array Slot), x.2.1.length = mi_l (mm_of mid) → mm_H D cy base b t Ls xs ps x.2.2.2.1 H → va_S (mm_A base) s.heap H locs → mm_Lr (mm_ad base b t) x.2.1 ls → W p l e R s m args below meth c H locs x.2.2.2.2.1 x.2.2.2.2.2 Q (F0 m x.1 ls (x.2.2.1.map (mm_tv (mm_ad base b t))))
theorem mm_at.go {mid pc : Nat} {L : ML} {st : List Value} {h : MH} {cu su : Nat} (k : mm_at mid p l e R s m args below meth c Q D cy base b t Ls xs ps (pc, L, st, h, cu, su)) {H : Heap} {locs : List Loc} {ls : Array Slot} (h1 : L.length = mi_l (mm_of mid)) (h2 : mm_H D cy base b t Ls xs ps h H) (h3 : va_S (mm_A base) s.heap H locs) (h4 : mm_Lr (mm_ad base b t) L ls) : W p l e R s m args below meth c H locs cu su Q (F0 m pc ls (st.map (mm_tv (mm_ad base b t)))) := k H locs ls h1 h2 h3 h4
theorem mm_m1_900 {own idx : Nat} {q : Nat × Nat} (h : ck_m1 own (idx, 900) q = true) : Jvm.Cond.methodLink (mm_on own) idx Lib.objectInit ∈ mm_ws := by
  have h2 := ((Bool.and_eq_true _ _).mp h).2
  exact mm_in_ws (List.mem_of_getElem? (of_decide_eq_true (show decide (tables_1[q.2]? = some (Jvm.Cond.methodLink (mm_on own) idx Lib.objectInit)) = true from h2))) rfl
theorem mm_m1_901 {own idx : Nat} {q : Nat × Nat} (h : ck_m1 own (idx, 901) q = true) : Jvm.Cond.methodLink (mm_on own) idx arraycopyName ∈ mm_ws := by
  have h2 := ((Bool.and_eq_true _ _).mp h).2
  exact mm_in_ws (List.mem_of_getElem? (of_decide_eq_true (show decide (tables_1[q.2]? = some (Jvm.Cond.methodLink (mm_on own) idx arraycopyName)) = true from h2))) rfl
theorem mm_m1_902 {own idx : Nat} {q : Nat × Nat} (h : ck_m1 own (idx, 902) q = true) : Jvm.Cond.methodLink (mm_on own) idx Lib.Math.min.name ∈ mm_ws := by
  have h2 := ((Bool.and_eq_true _ _).mp h).2
  exact mm_in_ws (List.mem_of_getElem? (of_decide_eq_true (show decide (tables_1[q.2]? = some (Jvm.Cond.methodLink (mm_on own) idx Lib.Math.min.name)) = true from h2))) rfl
set_option maxHeartbeats 2000000 in
/-- the calls that are done at once: Object.<init>, arraycopy, Math.min -/
theorem mm_step_inv {mid : Nat} {pc k9 len tgt : Nat} {i : Instr} {virt : Bool} {L : ML} {st : List Value} {h : MH} {cu su : Nat} {x' : MS} {H : Heap} {locs : List Loc} {ls : Array Slot} (hx : p.tables.exec = Jvm.exec) (hb : c.code = mm_bb mid) (hml : c.maxLocals = mi_l (mm_of mid)) (hown : s.vm.findClass (mm_on (mi_c (mm_of mid))) = some m.cls) (hts : ∀ w ∈ mm_ws, w.before args s = true) (hR1 : R.frames = mi_f (mm_of mid)) (hR2 : R.locals = mi_w (mm_of mid)) (hR3 : R.cells = mi_mc (mm_of mid)) (hR4 : R.slots = mi_ms (mm_of mid)) (hVK : va_K D mm_C (mm_tys cy) s)
    (hlen : L.length = mi_l (mm_of mid)) (hH : mm_H D cy base b t Ls xs ps h H) (hS : va_S (mm_A base) s.heap H locs) (hL : mm_Lr (mm_ad base b t) L ls)
    (hi : (i = .invokevirtual k9 ∧ decode (mm_bb mid) pc = .ok (.invokevirtual k9, len) ∧ virt = true) ∨ (i = .invokespecial k9 ∧ decode (mm_bb mid) pc = .ok (.invokespecial k9, len) ∧ virt = true) ∨ (i = .invokestatic k9 ∧ decode (mm_bb mid) pc = .ok (.invokestatic k9, len) ∧ virt = false)) (hln : mm_ln i len = true) (hck : ck_i1 mid (pc, i, len, tgt) = true)
    (h1 : mm_inv mid (mi_c (mm_of mid)) k9 pc virt L st h cu su = some (.inl x')) (k : mm_at mid p l e R s m args below meth c Q D cy base b t Ls xs ps x') (hcu : cu ≤ mi_mc (mm_of mid) ∧ su ≤ mi_ms (mm_of mid)) : W p l e R s m args below meth c H locs cu su Q (F0 m pc ls (st.map (mm_tv (mm_ad base b t)))) := by
  unfold mm_inv at h1
  split at h1
  · cases h1
  · rename_i hm
    obtain ⟨q, hq⟩ := fx_mth hm
    split at h1
    case h_2 => cases h1
    rename_i a r
    split at h1
    case isFalse => cases h1
    rename_i hc
    obtain rfl := mm_nx_inj h1
    rcases hi with ⟨rfl, hd, -⟩ | ⟨rfl, hd, -⟩ | ⟨rfl, hd, hv⟩
    · simp [ck_i1, hm] at hck
    · obtain rfl : len = 3 := by simpa [mm_ln] using hln
      have e1 := Nat.le_of_ble_eq_true hc.2.1
      have e2 := Nat.le_of_ble_eq_true hc.2.2
      exact W.objInit hx hb hown (hts _ (mm_m1_900 hq)) (hts _ (mm_in_ws ck_o1.1 rfl)) (hts _ (mm_in_ws ck_mn.2.2.2 rfl)) rfl (by rw [hml, ← hlen]; exact hL.1) rfl hd (by rw [hR1]; exact e1) (by rw [hR2, mm_tv_cats]; show 2 * 0 + mm_cat r + 12 ≤ _; omega) (k.go hlen hH hS hL)
    · rw [hv] at hc; exact absurd hc.1 (by decide)
  · rename_i hm
    obtain ⟨q, hq⟩ := fx_mth hm
    split at h1
    case h_2 => cases h1
    rename_i n dp a sp v r
    split at h1
    case isFalse => cases h1
    rename_i hc
    obtain rfl := mm_nx_inj h1
    obtain ⟨c1, c2, c3, rfl, rfl, c6, c7, c8, c9, c10⟩ := hc
    rcases hi with ⟨rfl, hd, hv⟩ | ⟨rfl, hd, hv⟩ | ⟨rfl, hd, hv⟩
    · rw [hv] at c1; cases c1
    · rw [hv] at c1; cases c1
    · obtain rfl : len = 3 := by simpa [mm_ln] using hln
      have e1 := Nat.le_of_ble_eq_true c9
      have e2 := Nat.le_of_ble_eq_true c10
      exact ms_copy hx hb (by rw [hml, ← hlen]; exact hL.1.symm) hown (hts _ (mm_m1_901 hq)) (hts _ (mm_in_ws ck_o1.2.1 rfl)) (hts _ (mm_in_ws ck_o1.2.2.1 rfl)) (hts _ (mm_in_ws ck_o1.2.2.2.1 rfl)) hVK hH hS c2 c3 c6 c7 c8 (by rw [hR1]; exact e1) (by rw [hR2, mm_tv_cats]; exact e2) hd (fun H1 locs1 hH1 hS1 => k.go hlen hH1 hS1 hL)
  · rename_i hm
    obtain ⟨q, hq⟩ := fx_mth hm
    split at h1
    case h_2 => cases h1
    rename_i y x r
    split at h1
    case isFalse => cases h1
    rename_i hc
    obtain rfl := mm_nx_inj h1
    obtain ⟨c1, c9, c10⟩ := hc
    rcases hi with ⟨rfl, hd, hv⟩ | ⟨rfl, hd, hv⟩ | ⟨rfl, hd, hv⟩
    · rw [hv] at c1; cases c1
    · rw [hv] at c1; cases c1
    · obtain rfl : len = 3 := by simpa [mm_ln] using hln
      have e1 := Nat.le_of_ble_eq_true c9
      have e2 := Nat.le_of_ble_eq_true c10
      exact va_mmin hx hb (by rw [hml, ← hlen]; exact hL.1.symm) hown (hts _ (mm_m1_902 hq)) (hts _ (mm_in_ws ck_mn.1 rfl)) (hts _ (mm_in_ws ck_mn.2.1 rfl)) (hts _ (mm_in_ws ck_mn.2.2.1 rfl)) (by rw [hR1]; exact e1) (by rw [hR2, mm_tv_cats]; exact e2) (by rw [hR3]; exact hcu.1) (by rw [hR4]; exact hcu.2) hd (k.go hlen hH hS hL)
  · rename_i m2 _ _ _ hm
    cases hb2 : Nat.beq (mi_s (mm_of m2)) 1 <;> rw [hb2] at h1 <;> simp only [cond_true, cond_false] at h1
    · split at h1
      · split at h1 <;> cases h1
      · cases h1
    · split at h1 <;> cases h1
set_option maxHeartbeats 4000000 in
theorem mm_step {mid : Nat} (B : mm_B mid p R s m args meth c) (G : mm_X2 D cy base b t Ls xs ps s) {pc : Nat} {L : ML} {st : List Value} {h : MH} {cu su : Nat} {x' : MS} (h1 : mm_one mid pc L st h cu su = some (.inl x')) (hcu : cu ≤ mi_mc (mm_of mid) ∧ su ≤ mi_ms (mm_of mid)) (k : mm_at mid p l e R s m args below meth c Q D cy base b t Ls xs ps x') : mm_at mid p l e R s m args below meth c Q D cy base b t Ls xs ps (pc, L, st, h, cu, su) := by
  obtain ⟨⟨hx, hb, hml, hown, hts⟩, hinit, hR1, hR2, hR3, hR4⟩ := B
  obtain ⟨GX, GA, GN⟩ := G
  have hVK := GX.2.1
  unfold mm_one at h1
  split at h1
  case h_2 => cases h1
  rename_i i len tgt hf
  obtain ⟨hmid, hd, hln, htg, hck⟩ := fx_fet hf
  intro H locs ls hlen hH hS hL
  dsimp only at hlen hH hL ⊢
  cases i with
  | iload_n k9 =>
    unfold mm_stp at h1; dsimp only at h1
    split at h1
    case h_2 => cases h1
    rename_i x hxx
    obtain rfl := mm_nx_inj h1
    obtain rfl : len = 1 := by simpa [mm_ln] using hln
    exact lv_iload_n hx hb hd rfl (hL.at hxx) (k.go hlen hH hS hL)
  | iload k9 =>
    unfold mm_stp at h1; dsimp only at h1
    split at h1
    case h_2 => cases h1
    rename_i x hxx
    obtain rfl := mm_nx_inj h1
    obtain rfl : len = 2 := by simpa [mm_ln] using hln
    exact lv_iload hx hb hd (hL.at hxx) (k.go hlen hH hS hL)
  | lload_n k9 =>
    unfold mm_stp at h1; dsimp only at h1
    split at h1
    case h_2 => cases h1
    rename_i x hxx
    obtain rfl := mm_nx_inj h1
    obtain rfl : len = 1 := by simpa [mm_ln] using hln
    exact lv_lload_n hx hb hd rfl (hL.at hxx) (k.go hlen hH hS hL)
  | lload k9 =>
    unfold mm_stp at h1; dsimp only at h1
    split at h1
    case h_2 => cases h1
    rename_i x hxx
    obtain rfl := mm_nx_inj h1
    obtain rfl : len = 2 := by simpa [mm_ln] using hln
    exact lv_lload hx hb hd (hL.at hxx) (k.go hlen hH hS hL)
  | aload_n k9 =>
    unfold mm_stp at h1; dsimp only at h1
    split at h1
    case h_2 => cases h1
    rename_i x hxx
    obtain rfl := mm_nx_inj h1
    obtain rfl : len = 1 := by simpa [mm_ln] using hln
    exact lv_aload_n hx hb hd rfl (hL.at hxx) (k.go hlen hH hS hL)
  | aload k9 =>
    unfold mm_stp at h1; dsimp only at h1
    split at h1
    case h_2 => cases h1
    rename_i x hxx
    obtain rfl := mm_nx_inj h1
    obtain rfl : len = 2 := by simpa [mm_ln] using hln
    exact lv_aload hx hb hd (hL.at hxx) (k.go hlen hH hS hL)
  | istore_n k9 =>
    unfold mm_stp at h1; dsimp only at h1
    split at h1
    case h_2 => cases h1
    rename_i x r
    split at h1
    case isFalse => cases h1
    rename_i hk9
    obtain rfl := mm_nx_inj h1
    obtain rfl : len = 1 := by simpa [mm_ln] using hln
    refine lv_istore_n (x := x) hx hb hd rfl hL hk9 rfl fun ls1 hl1 => ?_
    exact k.go (by rw [mm_st1_len]; exact hlen) hH hS (mm_Lr.s1 (v := .int x) hl1)
  | istore k9 =>
    unfold mm_stp at h1; dsimp only at h1
    split at h1
    case h_2 => cases h1
    rename_i x r
    split at h1
    case isFalse => cases h1
    rename_i hk9
    obtain rfl := mm_nx_inj h1
    obtain rfl : len = 2 := by simpa [mm_ln] using hln
    refine lv_istore (x := x) hx hb hd hL hk9 rfl fun ls1 hl1 => ?_
    exact k.go (by rw [mm_st1_len]; exact hlen) hH hS (mm_Lr.s1 (v := .int x) hl1)
  | astore_n k9 =>
    unfold mm_stp at h1; dsimp only at h1
    split at h1
    case h_2 => cases h1
    rename_i x r
    split at h1
    case isFalse => cases h1
    rename_i hk9
    obtain rfl := mm_nx_inj h1
    obtain rfl : len = 1 := by simpa [mm_ln] using hln
    refine lv_astore_n (x := mm_ad base b t x) hx hb hd rfl hL hk9 rfl fun ls1 hl1 => ?_
    exact k.go (by rw [mm_st1_len]; exact hlen) hH hS (mm_Lr.s1 (v := .ref x) hl1)
  | astore k9 =>
    unfold mm_stp at h1; dsimp only at h1
    split at h1
    case h_2 => cases h1
    rename_i x r
    split at h1
    case isFalse => cases h1
    rename_i hk9
    obtain rfl := mm_nx_inj h1
    obtain rfl : len = 2 := by simpa [mm_ln] using hln
    refine lv_astore (x := mm_ad base b t x) hx hb hd hL hk9 rfl fun ls1 hl1 => ?_
    exact k.go (by rw [mm_st1_len]; exact hlen) hH hS (mm_Lr.s1 (v := .ref x) hl1)
  | lstore_n k9 =>
    unfold mm_stp at h1; dsimp only at h1
    split at h1
    case h_2 => cases h1
    rename_i x r
    split at h1
    case isFalse => cases h1
    rename_i hk9
    obtain rfl := mm_nx_inj h1
    obtain rfl : len = 1 := by simpa [mm_ln] using hln
    refine lv_lstore_n (x := x) hx hb hd rfl hL hk9 rfl fun ls1 hl1 => ?_
    exact k.go (by rw [mm_st2_len]; exact hlen) hH hS (mm_Lr.s2 (v := .long x) hl1)
  | lstore k9 =>
    unfold mm_stp at h1; dsimp only at h1
    split at h1
    case h_2 => cases h1
    rename_i x r
    split at h1
    case isFalse => cases h1
    rename_i hk9
    obtain rfl := mm_nx_inj h1
    obtain rfl : len = 2 := by simpa [mm_ln] using hln
    refine lv_lstore (x := x) hx hb hd hL hk9 rfl fun ls1 hl1 => ?_
    exact k.go (by rw [mm_st2_len]; exact hlen) hH hS (mm_Lr.s2 (v := .long x) hl1)
  | iinc k9 n9 =>
    unfold mm_stp at h1; dsimp only at h1
    split at h1
    case h_2 => cases h1
    rename_i x hxx
    split at h1
    case isFalse => cases h1
    rename_i hk9
    obtain rfl := mm_nx_inj h1
    obtain rfl : len = 3 := by simpa [mm_ln] using hln
    have hm9 : (k9, Value.int x) ∈ mm_lv (mm_ad base b t) L := mm_lv_mem.mpr ⟨.int x, by rw [List.getD_eq_getElem?_getD, List.getElem?_eq_getElem hk9] at hxx; rw [List.getElem?_eq_getElem hk9]; exact congrArg some hxx, rfl⟩
    obtain ⟨j9, hj9⟩ := List.getElem?_of_mem hm9
    refine lv_iinc hx hb hd hL hj9 rfl hk9 rfl fun ls1 hl1 => ?_
    exact k.go (by rw [mm_st1_len]; exact hlen) hH hS (mm_Lr.s1 (v := .int (x + Int32.ofInt n9)) hl1)
  | iconst n9 =>
    unfold mm_stp at h1; dsimp only at h1
    obtain rfl := mm_nx_inj h1
    obtain rfl : len = 1 := by simpa [mm_ln] using hln
    exact lv_iconst hx hb hd rfl (k.go hlen hH hS hL)
  | bipush n9 =>
    unfold mm_stp at h1; dsimp only at h1
    obtain rfl := mm_nx_inj h1
    obtain rfl : len = 2 := by simpa [mm_ln] using hln
    exact lv_bipush hx hb hd rfl (k.go hlen hH hS hL)
  | sipush n9 =>
    unfold mm_stp at h1; dsimp only at h1
    obtain rfl := mm_nx_inj h1
    obtain rfl : len = 3 := by simpa [mm_ln] using hln
    exact lv_sipush hx hb hd rfl (k.go hlen hH hS hL)
  | lconst n9 =>
    unfold mm_stp at h1; dsimp only at h1
    obtain rfl := mm_nx_inj h1
    obtain rfl : len = 1 := by simpa [mm_ln] using hln
    exact lv_lconst hx hb hd rfl (k.go hlen hH hS hL)
  | ldc k9 =>
    unfold mm_stp at h1; dsimp only at h1
    split at h1
    case h_2 => cases h1
    rename_i v hv
    obtain rfl := mm_nx_inj h1
    obtain rfl : len = 2 := by simpa [mm_ln] using hln
    exact lv_ldc hx hb hown (hts _ (fx_cI hv)) hd (k.go hlen hH hS hL)
  | ldc2_w k9 =>
    unfold mm_stp at h1; dsimp only at h1
    split at h1
    case h_2 => cases h1
    rename_i v hv
    obtain rfl := mm_nx_inj h1
    obtain rfl : len = 3 := by simpa [mm_ln] using hln
    exact lv_ldc2 hx hb hown (hts _ (fx_cJ hv)) hd (k.go hlen hH hS hL)
  | ldc_w k9 =>
    unfold mm_stp at h1; dsimp only at h1
    split at h1
    case h_2 => cases h1
    rename_i v hv
    obtain rfl := mm_nx_inj h1
    obtain rfl : len = 3 := by simpa [mm_ln] using hln
    exact lv_ldcw hx hb hown (hts _ (fx_cI hv)) hd (k.go hlen hH hS hL)
  | dup =>
    unfold mm_stp at h1; dsimp only at h1
    split at h1
    case h_2 => cases h1
    rename_i v r
    split at h1
    case isFalse => cases h1
    rename_i hv
    obtain rfl := mm_nx_inj h1
    obtain rfl : len = 1 := by simpa [mm_ln] using hln
    exact lv_dup hx hb hd (by rw [mm_tv_cat]; exact hv) (k.go hlen hH hS hL)
  | dup2 =>
    unfold mm_stp at h1; dsimp only at h1
    split at h1
    case h_2 => cases h1
    rename_i v w r
    split at h1
    case isFalse => cases h1
    rename_i hv
    obtain rfl := mm_nx_inj h1
    obtain rfl : len = 1 := by simpa [mm_ln] using hln
    exact lv_dup2_11 hx hb hd (by rw [mm_tv_cat]; exact hv.1) (by rw [mm_tv_cat]; exact hv.2) (k.go hlen hH hS hL)
  | pop =>
    unfold mm_stp at h1; dsimp only at h1
    split at h1
    case h_2 => cases h1
    rename_i v r
    split at h1
    case isFalse => cases h1
    rename_i hv
    obtain rfl := mm_nx_inj h1
    obtain rfl : len = 1 := by simpa [mm_ln] using hln
    exact lv_pop hx hb hd (by rw [mm_tv_cat]; exact hv) (k.go hlen hH hS hL)
  | ineg =>
    unfold mm_stp at h1; dsimp only at h1
    split at h1
    case h_2 => cases h1
    obtain rfl := mm_nx_inj h1
    obtain rfl : len = 1 := by simpa [mm_ln] using hln
    exact lv_ineg hx hb hd (k.go hlen hH hS hL)
  | i2l =>
    unfold mm_stp at h1; dsimp only at h1
    split at h1
    case h_2 => cases h1
    obtain rfl := mm_nx_inj h1
    obtain rfl : len = 1 := by simpa [mm_ln] using hln
    exact lv_i2l hx hb hd rfl (k.go hlen hH hS hL)
  | l2i =>
    unfold mm_stp at h1; dsimp only at h1
    split at h1
    case h_2 => cases h1
    obtain rfl := mm_nx_inj h1
    obtain rfl : len = 1 := by simpa [mm_ln] using hln
    exact lv_l2i hx hb hd rfl (k.go hlen hH hS hL)
  | lcmp =>
    unfold mm_stp at h1; dsimp only at h1
    split at h1
    case h_2 => cases h1
    obtain rfl := mm_nx_inj h1
    obtain rfl : len = 1 := by simpa [mm_ln] using hln
    exact W.lcmp hx hb hd (k.go hlen hH hS hL)
  | lshl =>
    unfold mm_stp at h1; dsimp only at h1
    split at h1
    case h_2 => cases h1
    obtain rfl := mm_nx_inj h1
    obtain rfl : len = 1 := by simpa [mm_ln] using hln
    exact lv_lshl hx hb hd rfl (k.go hlen hH hS hL)
  | lshr =>
    unfold mm_stp at h1; dsimp only at h1
    split at h1
    case h_2 => cases h1
    obtain rfl := mm_nx_inj h1
    obtain rfl : len = 1 := by simpa [mm_ln] using hln
    exact lv_lshr hx hb hd rfl (k.go hlen hH hS hL)
  | goto off =>
    unfold mm_stp at h1; dsimp only at h1
    obtain rfl := mm_nx_inj h1
    obtain rfl : len = 3 := by simpa [mm_ln] using hln
    exact lv_goto hx hb hd (by simpa [mm_tg] using htg) (k.go hlen hH hS hL)
  | ifCond cnd off =>
    unfold mm_stp at h1; dsimp only at h1
    split at h1
    case h_2 => cases h1
    obtain rfl : len = 3 := by simpa [mm_ln] using hln
    have htg9 := of_decide_eq_true (show decide _ = true from htg)
    cases cnd with
    | eq =>
      refine lv_if_eq hx hb hd htg9 (fun q => ?_) (fun q => ?_)
      · rw [if_pos (show mm_ic ClassFile.Cond.eq _ _ = true from decide_eq_true q)] at h1; obtain rfl := mm_nx_inj h1; exact k.go hlen hH hS hL
      · rw [if_neg (fun z : mm_ic ClassFile.Cond.eq _ _ = true => q (of_decide_eq_true z))] at h1; obtain rfl := mm_nx_inj h1; exact k.go hlen hH hS hL
    | ne =>
      refine lv_if_ne hx hb hd htg9 (fun q => ?_) (fun q => ?_)
      · rw [if_pos (show mm_ic ClassFile.Cond.ne _ _ = true from decide_eq_true q)] at h1; obtain rfl := mm_nx_inj h1; exact k.go hlen hH hS hL
      · rw [if_neg (fun z : mm_ic ClassFile.Cond.ne _ _ = true => (of_decide_eq_true z) q)] at h1; obtain rfl := mm_nx_inj h1; exact k.go hlen hH hS hL
    | lt =>
      refine lv_if_lt hx hb hd htg9 (fun q => ?_) (fun q => ?_)
      · rw [if_pos (show mm_ic ClassFile.Cond.lt _ _ = true from decide_eq_true q)] at h1; obtain rfl := mm_nx_inj h1; exact k.go hlen hH hS hL
      · rw [if_neg (fun z : mm_ic ClassFile.Cond.lt _ _ = true => q (of_decide_eq_true z))] at h1; obtain rfl := mm_nx_inj h1; exact k.go hlen hH hS hL
    | ge =>
      refine lv_if_ge hx hb hd htg9 (fun q => ?_) (fun q => ?_)
      · rw [if_pos (show mm_ic ClassFile.Cond.ge _ _ = true from decide_eq_true q)] at h1; obtain rfl := mm_nx_inj h1; exact k.go hlen hH hS hL
      · rw [if_neg (fun z : mm_ic ClassFile.Cond.ge _ _ = true => q (of_decide_eq_true z))] at h1; obtain rfl := mm_nx_inj h1; exact k.go hlen hH hS hL
    | gt =>
      refine lv_if_gt hx hb hd htg9 (fun q => ?_) (fun q => ?_)
      · rw [if_pos (show mm_ic ClassFile.Cond.gt _ _ = true from decide_eq_true q)] at h1; obtain rfl := mm_nx_inj h1; exact k.go hlen hH hS hL
      · rw [if_neg (fun z : mm_ic ClassFile.Cond.gt _ _ = true => q (of_decide_eq_true z))] at h1; obtain rfl := mm_nx_inj h1; exact k.go hlen hH hS hL
    | le =>
      refine lv_if_le hx hb hd htg9 (fun q => ?_) (fun q => ?_)
      · rw [if_pos (show mm_ic ClassFile.Cond.le _ _ = true from decide_eq_true q)] at h1; obtain rfl := mm_nx_inj h1; exact k.go hlen hH hS hL
      · rw [if_neg (fun z : mm_ic ClassFile.Cond.le _ _ = true => q (of_decide_eq_true z))] at h1; obtain rfl := mm_nx_inj h1; exact k.go hlen hH hS hL
  | if_icmp cnd off =>
    unfold mm_stp at h1; dsimp only at h1
    split at h1
    case h_2 => cases h1
    obtain rfl : len = 3 := by simpa [mm_ln] using hln
    have htg9 := of_decide_eq_true (show decide _ = true from htg)
    cases cnd with
    | eq =>
      refine lv_icmp_eq hx hb hd htg9 (fun q => ?_) (fun q => ?_)
      · rw [if_pos (show mm_ic ClassFile.Cond.eq _ _ = true from decide_eq_true q)] at h1; obtain rfl := mm_nx_inj h1; exact k.go hlen hH hS hL
      · rw [if_neg (fun z : mm_ic ClassFile.Cond.eq _ _ = true => q (of_decide_eq_true z))] at h1; obtain rfl := mm_nx_inj h1; exact k.go hlen hH hS hL
    | ne =>
      refine lv_icmp_ne hx hb hd htg9 (fun q => ?_) (fun q => ?_)
      · rw [if_pos (show mm_ic ClassFile.Cond.ne _ _ = true from decide_eq_true q)] at h1; obtain rfl := mm_nx_inj h1; exact k.go hlen hH hS hL
      · rw [if_neg (fun z : mm_ic ClassFile.Cond.ne _ _ = true => (of_decide_eq_true z) q)] at h1; obtain rfl := mm_nx_inj h1; exact k.go hlen hH hS hL
    | lt =>
      refine lv_icmp_lt hx hb hd htg9 (fun q => ?_) (fun q => ?_)
      · rw [if_pos (show mm_ic ClassFile.Cond.lt _ _ = true from decide_eq_true q)] at h1; obtain rfl := mm_nx_inj h1; exact k.go hlen hH hS hL
      · rw [if_neg (fun z : mm_ic ClassFile.Cond.lt _ _ = true => q (of_decide_eq_true z))] at h1; obtain rfl := mm_nx_inj h1; exact k.go hlen hH hS hL
    | ge =>
      refine lv_icmp_ge hx hb hd htg9 (fun q => ?_) (fun q => ?_)
      · rw [if_pos (show mm_ic ClassFile.Cond.ge _ _ = true from decide_eq_true q)] at h1; obtain rfl := mm_nx_inj h1; exact k.go hlen hH hS hL
      · rw [if_neg (fun z : mm_ic ClassFile.Cond.ge _ _ = true => q (of_decide_eq_true z))] at h1; obtain rfl := mm_nx_inj h1; exact k.go hlen hH hS hL
    | gt =>
      refine lv_icmp_gt hx hb hd htg9 (fun q => ?_) (fun q => ?_)
      · rw [if_pos (show mm_ic ClassFile.Cond.gt _ _ = true from decide_eq_true q)] at h1; obtain rfl := mm_nx_inj h1; exact k.go hlen hH hS hL
      · rw [if_neg (fun z : mm_ic ClassFile.Cond.gt _ _ = true => q (of_decide_eq_true z))] at h1; obtain rfl := mm_nx_inj h1; exact k.go hlen hH hS hL
    | le =>
      refine lv_icmp_le hx hb hd htg9 (fun q => ?_) (fun q => ?_)
      · rw [if_pos (show mm_ic ClassFile.Cond.le _ _ = true from decide_eq_true q)] at h1; obtain rfl := mm_nx_inj h1; exact k.go hlen hH hS hL
      · rw [if_neg (fun z : mm_ic ClassFile.Cond.le _ _ = true => q (of_decide_eq_true z))] at h1; obtain rfl := mm_nx_inj h1; exact k.go hlen hH hS hL
  | tableswitch dflt lo hi offs =>
    unfold mm_stp at h1; dsimp only at h1
    split at h1
    case h_2 => cases h1
    rename_i x r
    split at h1
    · rename_i hq
      split at h1
      case isFalse => cases h1
      rename_i h0
      obtain rfl := mm_nx_inj h1
      exact lv_tableOut hx hb hd hq (by omega) (k.go hlen hH hS hL)
    · rename_i hq
      split at h1
      case h_2 => cases h1
      rename_i off ho
      split at h1
      case isFalse => cases h1
      rename_i h0
      obtain rfl := mm_nx_inj h1
      exact lv_tableIn hx hb hd (fun z => hq (Or.inl z)) (fun z => hq (Or.inr z)) ho (by omega) (k.go hlen hH hS hL)
  | getfield k9 =>
    unfold mm_stp at h1; dsimp only at h1
    split at h1
    case h_2 => cases h1
    rename_i ci f a r hfd
    split at h1
    case isFalse => cases h1
    rename_i hk9
    obtain rfl := mm_nx_inj h1
    obtain rfl : len = 3 := by simpa [mm_ln] using hln
    exact ms_get hx hb hts hown hVK hH hfd hk9 hd (k.go hlen hH hS hL)
  | putfield k9 =>
    unfold mm_stp at h1; dsimp only at h1
    split at h1
    case h_2 => cases h1
    rename_i ci f v a r hfd
    split at h1
    case isFalse => cases h1
    rename_i hk9
    obtain rfl : len = 3 := by simpa [mm_ln] using hln
    have hci8 := (fx_fld hfd).1
    have ha2 : 2 ≤ a := (hH.mem (a := a) (by rw [hk9.1]; omega)).1
    have hfin9 : mm_isF ci f = true → meth.name = "<init>" ∧ mi_c (mm_of mid) = ci := fun z => ⟨hinit (hk9.2 z).1, (hk9.2 z).2⟩
    split at h1
    case h_5 => cases h1
    · rename_i x hty
      obtain rfl := mm_nx_inj h1
      refine ms_put (v := .int x) (h' := putI h a f x) hx hb hts hown hVK hH hS hfd hk9.1 hfin9 (fun ty hq => ?_) rfl rfl rfl (mm_up_ne (mm_ne0 ha2).1) rfl (fun k hk => mm_ce_putI hk) (fun j => mm_fv_putI (Or.inl hty) j) hd (fun H1 locs1 hH1 hS1 => k.go hlen hH1 hS1 hL)
      rcases hq with ⟨-, rfl⟩ | ⟨q, -⟩ | ⟨q, -⟩ | ⟨q, -⟩
      · exact ⟨rfl, rfl⟩
      all_goals (rw [hty] at q; cases q)
    · rename_i x hty
      split at h1
      case isFalse => cases h1
      rename_i hx01
      obtain rfl := mm_nx_inj h1
      refine ms_put (v := .int x) (h' := putI h a f x) hx hb hts hown hVK hH hS hfd hk9.1 hfin9 (fun ty hq => ?_) rfl rfl rfl (mm_up_ne (mm_ne0 ha2).1) rfl (fun k hk => mm_ce_putI hk) (fun j => mm_fv_putI (Or.inr hty) j) hd (fun H1 locs1 hH1 hS1 => k.go hlen hH1 hS1 hL)
      rcases hq with ⟨q, -⟩ | ⟨-, rfl⟩ | ⟨q, -⟩ | ⟨q, -⟩
      · rw [hty] at q; cases q
      · rcases hx01 with rfl | rfl <;> exact ⟨rfl, rfl⟩
      all_goals (rw [hty] at q; cases q)
    · rename_i x hty
      obtain rfl := mm_nx_inj h1
      refine ms_put (v := .long x) (h' := putJ h a f x) hx hb hts hown hVK hH hS hfd hk9.1 hfin9 (fun ty hq => ?_) rfl rfl rfl rfl (mm_up_ne (mm_ne0 ha2).2) (fun k hk => mm_ce_putJ hk) (fun j => mm_fv_putJ hty j) hd (fun H1 locs1 hH1 hS1 => k.go hlen hH1 hS1 hL)
      rcases hq with ⟨q, -⟩ | ⟨q, -⟩ | ⟨-, rfl⟩ | ⟨q, -⟩
      · rw [hty] at q; cases q
      · rw [hty] at q; cases q
      · exact ⟨rfl, rfl⟩
      · rw [hty] at q; cases q
    · rename_i x hty
      obtain rfl := mm_nx_inj h1
      refine ms_put (v := .ref x) (h' := putR h a f (some x)) hx hb hts hown hVK hH hS hfd hk9.1 hfin9 (fun ty hq => ?_) rfl rfl rfl rfl rfl (fun k hk => mm_ce_putR hk) (fun j => mm_fv_putR hty j) hd (fun H1 locs1 hH1 hS1 => k.go hlen hH1 hS1 hL)
      rcases hq with ⟨q, -⟩ | ⟨q, -⟩ | ⟨q, -⟩ | ⟨-, q⟩
      · rw [hty] at q; cases q
      · rw [hty] at q; cases q
      · rw [hty] at q; cases q
      · rcases q with ⟨C, rfl⟩ | ⟨e9, rfl⟩ <;> exact ⟨rfl, rfl⟩
  | getstatic k9 =>
    unfold mm_stp at h1; dsimp only at h1
    obtain rfl := mm_nx_inj h1
    obtain rfl : len = 3 := by simpa [mm_ln] using hln
    have hZ := GX.2.2.2.1
    simp only [ck_i1, Bool.or_eq_true, decide_eq_true_eq] at hck
    rcases hck with hc9 | hc9
    · exact va_getsN hx hb hZ hS hown (va_Nw.use rfl (GN _ hc9 rfl)) (fun _ z => z) hd (k.go hlen hH hS hL)
    · exact va_gets hx hb hZ hS hown (hts _ (mm_in_ws hc9 rfl)) (fun _ z => z) hd (k.go hlen hH hS hL)
  | iaload =>
    unfold mm_stp at h1; dsimp only at h1
    split at h1
    case h_2 => cases h1
    rename_i x a r
    split at h1
    case isFalse => cases h1
    rename_i hk9
    obtain rfl := mm_nx_inj h1
    obtain rfl : len = 1 := by simpa [mm_ln] using hln
    rcases hk9 with ⟨hk9 | hk9, hi9⟩
    · exact ms_iald hx hb hVK hH hk9 hi9 hd (k.go hlen hH hS hL)
    · obtain rfl : a = 0 := mm_only0 hH hk9
      exact ms_sld hx hb GX hH hS hi9 hd (k.go hlen hH hS hL)
  | laload =>
    unfold mm_stp at h1; dsimp only at h1
    split at h1
    case h_2 => cases h1
    rename_i x a r
    split at h1
    case isFalse => cases h1
    rename_i hk9
    obtain rfl := mm_nx_inj h1
    obtain rfl : len = 1 := by simpa [mm_ln] using hln
    rcases hk9 with ⟨hk9 | hk9, hi9⟩
    · exact ms_lald hx hb hVK hH hk9 hi9 hd (k.go hlen hH hS hL)
    · obtain rfl : a = 1 := mm_only1 hH hk9
      exact ms_tl hx hb GX hH hS hi9 hd (k.go hlen hH hS hL)
  | baload =>
    unfold mm_stp at h1; dsimp only at h1
    split at h1
    case h_2 => cases h1
    rename_i x a r
    split at h1
    case isFalse => cases h1
    rename_i hk9
    obtain rfl := mm_nx_inj h1
    obtain rfl : len = 1 := by simpa [mm_ln] using hln
    exact ms_zald hx hb hVK hH hk9.1 hk9.2 hd (k.go hlen hH hS hL)
  | aaload =>
    unfold mm_stp at h1; dsimp only at h1
    split at h1
    case h_2 => cases h1
    rename_i x a r
    split at h1
    case isFalse => cases h1
    rename_i hk9
    obtain rfl := mm_nx_inj h1
    obtain rfl : len = 1 := by simpa [mm_ln] using hln
    exact ms_aald hx hb hVK hH hk9.1 hk9.2 hd (k.go hlen hH hS hL)
  | arraylength =>
    unfold mm_stp at h1; dsimp only at h1
    split at h1
    case h_2 => cases h1
    rename_i a r
    split at h1
    case isFalse => cases h1
    rename_i hk9
    obtain rfl := mm_nx_inj h1
    obtain rfl : len = 1 := by simpa [mm_ln] using hln
    rcases hk9 with hk9 | hk9 | hk9
    · exact ms_alen hx hb hVK hH hk9 hd (k.go hlen hH hS hL)
    · obtain rfl : a = 0 := mm_only0 hH hk9
      exact ms_slen hx hb GX hH hS hd (k.go hlen hH hS hL)
    · obtain rfl : a = 1 := mm_only1 hH hk9
      exact ms_tlen hx hb GX hH hS hd (k.go hlen hH hS hL)
  | iastore =>
    unfold mm_stp at h1; dsimp only at h1
    split at h1
    case h_2 => cases h1
    rename_i v x a r
    split at h1
    case isFalse => cases h1
    rename_i hk9
    obtain rfl := mm_nx_inj h1
    obtain rfl : len = 1 := by simpa [mm_ln] using hln
    exact ms_iast hx hb hVK hH hS hk9.1 hk9.2 hd (fun H1 locs1 hH1 hS1 => k.go hlen hH1 hS1 hL)
  | lastore =>
    unfold mm_stp at h1; dsimp only at h1
    split at h1
    case h_2 => cases h1
    rename_i v x a r
    split at h1
    case isFalse => cases h1
    rename_i hk9
    obtain rfl := mm_nx_inj h1
    obtain rfl : len = 1 := by simpa [mm_ln] using hln
    exact ms_last hx hb hVK hH hS hk9.1 hk9.2 hd (fun H1 locs1 hH1 hS1 => k.go hlen hH1 hS1 hL)
  | bastore =>
    unfold mm_stp at h1; dsimp only at h1
    split at h1
    case h_2 => cases h1
    rename_i v x a r
    split at h1
    case isFalse => cases h1
    rename_i hk9
    obtain rfl := mm_nx_inj h1
    obtain rfl : len = 1 := by simpa [mm_ln] using hln
    exact ms_zast hx hb hVK hH hS hk9.1 hk9.2.1 hk9.2.2 hd (fun H1 locs1 hH1 hS1 => k.go hlen hH1 hS1 hL)
  | aastore =>
    unfold mm_stp at h1; dsimp only at h1
    split at h1
    case h_2 => cases h1
    rename_i v x a r
    split at h1
    case isFalse => cases h1
    rename_i hk9
    obtain rfl := mm_nx_inj h1
    obtain rfl : len = 1 := by simpa [mm_ln] using hln
    exact ms_aast hx hb hVK (GA _ ck_a1.2.2.2.2.2.2) hH hS hk9.1 hk9.2 hd (fun H1 locs1 hH1 hS1 => k.go hlen hH1 hS1 hL)
  | new k9 =>
    unfold mm_stp at h1; dsimp only at h1
    split at h1
    case h_2 => cases h1
    rename_i ci hnw
    split at h1
    case isFalse => cases h1
    rename_i hk9
    obtain rfl := mm_nx_inj h1
    obtain rfl : len = 3 := by simpa [mm_ln] using hln
    simp only [ck_i1, hnw, Bool.and_eq_true, decide_eq_true_eq] at hck
    exact ms_new hx hb hk9.1 hts hown hck.2 hVK hH hS (by rw [hR3]; exact hk9.2.1) (by rw [hR4]; exact hk9.2.2) hd (fun H1 hH1 hS1 => k.go hlen hH1 hS1 hL)
  | newarray t9 =>
    unfold mm_stp at h1; dsimp only at h1
    split at h1
    case h_2 => cases h1
    rename_i n r
    split at h1
    case isFalse => cases h1
    rename_i hk9
    obtain rfl : len = 2 := by simpa [mm_ln] using hln
    split at h1
    case h_4 => cases h1
    · obtain rfl := mm_nx_inj h1; exact ms_newa hx hb (Or.inl ⟨rfl, rfl⟩) hts hVK hH hS hk9.1 hk9.2.1 (by rw [hR3]; exact hk9.2.2.1) (by rw [hR4]; exact hk9.2.2.2) hd (fun H1 hH1 hS1 => k.go hlen hH1 hS1 hL)
    · obtain rfl := mm_nx_inj h1; exact ms_newa hx hb (Or.inr (Or.inl ⟨rfl, rfl⟩)) hts hVK hH hS hk9.1 hk9.2.1 (by rw [hR3]; exact hk9.2.2.1) (by rw [hR4]; exact hk9.2.2.2) hd (fun H1 hH1 hS1 => k.go hlen hH1 hS1 hL)
    · obtain rfl := mm_nx_inj h1; exact ms_newa hx hb (Or.inr (Or.inr ⟨rfl, rfl⟩)) hts hVK hH hS hk9.1 hk9.2.1 (by rw [hR3]; exact hk9.2.2.1) (by rw [hR4]; exact hk9.2.2.2) hd (fun H1 hH1 hS1 => k.go hlen hH1 hS1 hL)
  | anewarray k9 =>
    unfold mm_stp at h1; dsimp only at h1
    split at h1
    case h_2 => cases h1
    rename_i ci n r hnw
    split at h1
    case isFalse => cases h1
    rename_i hk9
    obtain rfl := mm_nx_inj h1
    obtain rfl : len = 3 := by simpa [mm_ln] using hln
    simp only [ck_i1, hnw, Bool.and_eq_true, decide_eq_true_eq] at hck
    exact ms_anew hx hb hk9.2.2.2.2 hts hown hck.2 (mm_ao_args (GA _ (by rcases hk9.2.2.2.2 with rfl | rfl; exact ck_a1.2.2.2.1; exact ck_a1.2.2.2.2.1))) hVK hH hS hk9.1 hk9.2.1 (by rw [hR3]; exact hk9.2.2.1) (by rw [hR4]; exact hk9.2.2.2.1) hd (fun H1 hH1 hS1 => k.go hlen hH1 hS1 hL)
  | multianewarray k9 d9 =>
    unfold mm_stp at h1; dsimp only at h1
    split at h1
    case h_2 => cases h1
    rename_i ci m9 n9 r hnw
    split at h1
    case isFalse => cases h1
    rename_i hk9
    obtain rfl := mm_nx_inj h1
    obtain rfl : len = 4 := by simpa [mm_ln] using hln
    obtain ⟨rfl, z1, z2, z3, z4, z5, z6, z7⟩ := hk9
    simp only [ck_i1, hnw] at hck
    rcases z7 with rfl | rfl
    · exact ms_mult hx hb (Or.inl ⟨rfl, rfl, rfl⟩) hts hown (of_decide_eq_true hck) (mm_ao_args (GA _ ck_a1.2.2.2.2.2.1)) hVK hH hS z1 z2 z3 z4 (by rw [hR3]; exact z5) (by rw [hR4]; exact z6) hd (fun H1 hH1 hS1 => k.go hlen hH1 hS1 hL)
    · exact ms_mult hx hb (Or.inr ⟨rfl, rfl, rfl⟩) hts hown (of_decide_eq_true hck) (mm_ao_args (GA _ ck_a1.2.2.2.2.2.2)) hVK hH hS z1 z2 z3 z4 (by rw [hR3]; exact z5) (by rw [hR4]; exact z6) hd (fun H1 hH1 hS1 => k.go hlen hH1 hS1 hL)
  | ireturn =>
    unfold mm_stp at h1; dsimp only at h1
    split at h1
    case h_2 => cases h1
    split at h1 <;> cases h1
  | lreturn =>
    unfold mm_stp at h1; dsimp only at h1
    split at h1
    case h_2 => cases h1
    split at h1 <;> cases h1
  | return_ =>
    unfold mm_stp at h1; dsimp only at h1
    split at h1
    case h_2 => cases h1
    split at h1 <;> cases h1
  | invokevirtual k9 =>
    unfold mm_stp at h1; dsimp only at h1
    exact mm_step_inv hx hb hml hown hts hR1 hR2 hR3 hR4 hVK hlen hH hS hL (Or.inl ⟨rfl, hd, rfl⟩) hln hck h1 k hcu
  | invokespecial k9 =>
    unfold mm_stp at h1; dsimp only at h1
    exact mm_step_inv hx hb hml hown hts hR1 hR2 hR3 hR4 hVK hlen hH hS hL (Or.inr (Or.inl ⟨rfl, hd, rfl⟩)) hln hck h1 k hcu
  | invokestatic k9 =>
    unfold mm_stp at h1; dsimp only at h1
    exact mm_step_inv hx hb hml hown hts hR1 hR2 hR3 hR4 hVK hlen hH hS hL (Or.inr (Or.inr ⟨rfl, hd, rfl⟩)) hln hck h1 k hcu
  | iadd =>
    unfold mm_stp at h1; dsimp only at h1
    split at h1
    case h_3 => cases h1
    case h_2 => simp [mm_l2] at h1
    simp only [mm_i2] at h1
    obtain rfl := mm_nx_inj h1
    obtain rfl : len = 1 := by simpa [mm_ln] using hln
    exact lv_iadd hx hb hd (k.go hlen hH hS hL)
  | isub =>
    unfold mm_stp at h1; dsimp only at h1
    split at h1
    case h_3 => cases h1
    case h_2 => simp [mm_l2] at h1
    simp only [mm_i2] at h1
    obtain rfl := mm_nx_inj h1
    obtain rfl : len = 1 := by simpa [mm_ln] using hln
    exact lv_isub hx hb hd (k.go hlen hH hS hL)
  | imul =>
    unfold mm_stp at h1; dsimp only at h1
    split at h1
    case h_3 => cases h1
    case h_2 => simp [mm_l2] at h1
    simp only [mm_i2] at h1
    obtain rfl := mm_nx_inj h1
    obtain rfl : len = 1 := by simpa [mm_ln] using hln
    exact lv_imul hx hb hd (k.go hlen hH hS hL)
  | iand =>
    unfold mm_stp at h1; dsimp only at h1
    split at h1
    case h_3 => cases h1
    case h_2 => simp [mm_l2] at h1
    simp only [mm_i2] at h1
    obtain rfl := mm_nx_inj h1
    obtain rfl : len = 1 := by simpa [mm_ln] using hln
    exact lv_iand hx hb hd (k.go hlen hH hS hL)
  | ior =>
    unfold mm_stp at h1; dsimp only at h1
    split at h1
    case h_3 => cases h1
    case h_2 => simp [mm_l2] at h1
    simp only [mm_i2] at h1
    obtain rfl := mm_nx_inj h1
    obtain rfl : len = 1 := by simpa [mm_ln] using hln
    exact lv_ior hx hb hd (k.go hlen hH hS hL)
  | ixor =>
    unfold mm_stp at h1; dsimp only at h1
    split at h1
    case h_3 => cases h1
    case h_2 => simp [mm_l2] at h1
    simp only [mm_i2] at h1
    obtain rfl := mm_nx_inj h1
    obtain rfl : len = 1 := by simpa [mm_ln] using hln
    exact lv_ixor hx hb hd (k.go hlen hH hS hL)
  | ishl =>
    unfold mm_stp at h1; dsimp only at h1
    split at h1
    case h_3 => cases h1
    case h_2 => simp [mm_l2] at h1
    simp only [mm_i2] at h1
    obtain rfl := mm_nx_inj h1
    obtain rfl : len = 1 := by simpa [mm_ln] using hln
    exact lv_ishl hx hb hd (k.go hlen hH hS hL)
  | ishr =>
    unfold mm_stp at h1; dsimp only at h1
    split at h1
    case h_3 => cases h1
    case h_2 => simp [mm_l2] at h1
    simp only [mm_i2] at h1
    obtain rfl := mm_nx_inj h1
    obtain rfl : len = 1 := by simpa [mm_ln] using hln
    exact lv_ishr hx hb hd (k.go hlen hH hS hL)
  | iushr =>
    unfold mm_stp at h1; dsimp only at h1
    split at h1
    case h_3 => cases h1
    case h_2 => simp [mm_l2] at h1
    simp only [mm_i2] at h1
    obtain rfl := mm_nx_inj h1
    obtain rfl : len = 1 := by simpa [mm_ln] using hln
    exact lv_iushr hx hb hd rfl (k.go hlen hH hS hL)
  | idiv =>
    unfold mm_stp at h1; dsimp only at h1
    split at h1
    case h_3 => cases h1
    case h_2 => simp [mm_l2] at h1
    rename_i y x r
    simp only [mm_i2] at h1
    by_cases hy : y = 0
    · rw [if_pos hy] at h1; cases h1
    · rw [if_neg hy] at h1
      obtain rfl := mm_nx_inj h1
      obtain rfl : len = 1 := by simpa [mm_ln] using hln
      exact lv_idiv hx hb hd hy (k.go hlen hH hS hL)
  | irem =>
    unfold mm_stp at h1; dsimp only at h1
    split at h1
    case h_3 => cases h1
    case h_2 => simp [mm_l2] at h1
    rename_i y x r
    simp only [mm_i2] at h1
    by_cases hy : y = 0
    · rw [if_pos hy] at h1; cases h1
    · rw [if_neg hy] at h1
      obtain rfl := mm_nx_inj h1
      obtain rfl : len = 1 := by simpa [mm_ln] using hln
      exact lv_irem hx hb hd hy (k.go hlen hH hS hL)
  | ladd =>
    unfold mm_stp at h1; dsimp only at h1
    split at h1
    case h_3 => cases h1
    case h_1 => simp [mm_i2] at h1
    simp only [mm_l2] at h1
    obtain rfl := mm_nx_inj h1
    obtain rfl : len = 1 := by simpa [mm_ln] using hln
    exact lv_ladd hx hb hd (k.go hlen hH hS hL)
  | lsub =>
    unfold mm_stp at h1; dsimp only at h1
    split at h1
    case h_3 => cases h1
    case h_1 => simp [mm_i2] at h1
    simp only [mm_l2] at h1
    obtain rfl := mm_nx_inj h1
    obtain rfl : len = 1 := by simpa [mm_ln] using hln
    exact lv_lsub hx hb hd (k.go hlen hH hS hL)
  | lmul =>
    unfold mm_stp at h1; dsimp only at h1
    split at h1
    case h_3 => cases h1
    case h_1 => simp [mm_i2] at h1
    simp only [mm_l2] at h1
    obtain rfl := mm_nx_inj h1
    obtain rfl : len = 1 := by simpa [mm_ln] using hln
    exact lv_lmul hx hb hd (k.go hlen hH hS hL)
  | land =>
    unfold mm_stp at h1; dsimp only at h1
    split at h1
    case h_3 => cases h1
    case h_1 => simp [mm_i2] at h1
    simp only [mm_l2] at h1
    obtain rfl := mm_nx_inj h1
    obtain rfl : len = 1 := by simpa [mm_ln] using hln
    exact lv_land hx hb hd (k.go hlen hH hS hL)
  | lor =>
    unfold mm_stp at h1; dsimp only at h1
    split at h1
    case h_3 => cases h1
    case h_1 => simp [mm_i2] at h1
    simp only [mm_l2] at h1
    obtain rfl := mm_nx_inj h1
    obtain rfl : len = 1 := by simpa [mm_ln] using hln
    exact lv_lor hx hb hd (k.go hlen hH hS hL)
  | ldiv =>
    unfold mm_stp at h1; dsimp only at h1
    split at h1
    case h_3 => cases h1
    case h_1 => simp [mm_i2] at h1
    rename_i y x r
    simp only [mm_l2] at h1
    by_cases hy : y = 0
    · rw [if_pos hy] at h1; cases h1
    · rw [if_neg hy] at h1
      obtain rfl := mm_nx_inj h1
      obtain rfl : len = 1 := by simpa [mm_ln] using hln
      exact lv_ldiv hx hb hd hy (k.go hlen hH hS hL)
  | lrem =>
    unfold mm_stp at h1; dsimp only at h1
    split at h1
    case h_3 => cases h1
    case h_1 => simp [mm_i2] at h1
    rename_i y x r
    simp only [mm_l2] at h1
    by_cases hy : y = 0
    · rw [if_pos hy] at h1; cases h1
    · rw [if_neg hy] at h1
      obtain rfl := mm_nx_inj h1
      obtain rfl : len = 1 := by simpa [mm_ln] using hln
      exact lv_lrem hx hb hd hy (k.go hlen hH hS hL)
  | _ =>
    unfold mm_stp at h1; dsimp only at h1
    split at h1
    · simp [mm_i2] at h1
    · simp [mm_l2] at h1
    · cases h1
end STEP
