def R_law : String := "DrawnToldLaw"
def lw_P (b : Addr) (xs : List Int32) (args : Array Value) (s : State) : Prop := args = #[.ref b] ∧ s.IntsAt b xs ∧ xs.length ≤ 2560 ∧ (Jvm.Cond.and given_1 narrow_1).before args s = true
def lw_Q (_ : Array Value) (s : State) (o : Outcome) (t : State) : Prop := o = .returned (some (.int 1)) ∧ Framed s o t [] 600000 7302249
def lw_Z (below : List Frame) (a : Array Value) (s : State) : State → Prop := fun t => ∃ o, t.status = .running ∧ Ended t below o ∧ lw_Q a s o t
/-- the law's own end, with 1 on the stack, nothing written that was there before, its room as the claim has it -/
theorem lw_ret {p : Program} {l : Launch} {e : Env} {s : State} {m : MethodId} {below : List Frame} {meth : Method} {c : Code} {b : Nat} (hx : p.tables.exec = Jvm.exec) (hb : c.code = code) (hr : meth.sig.returnType = ret) (hlocks : meth.locks = false) {pc : Nat} {H : Heap} {ls : Array Slot} (hdg : decode code pc = .ok (.ireturn, 1)) : W p l e room_1 s m #[Value.ref b] below meth c H [] 600000 7302249 (lw_Z below #[Value.ref b] s) (F0 m pc ls [.int 1]) := by
  intro T hT X
  obtain ⟨fs, hret, hrun, hended, hW, hframe⟩ := X.leave (v := some (.int 1)) (hlocks := hlocks) (fun h => by rw [hr] at h; cases h)
  have hmeth' : T.vm.method? m = some meth := X.method'
  refine ⟨T.setFrames fs, ?_, .returned (some (.int 1)), hrun, hended, rfl, ⟨_, rfl⟩, hW, hframe⟩
  jvm_step X.here [X.here.top, hx, hb, hdg, hmeth', hr, ret, narrow_b1]
  (try refine ⟨rfl, ?_⟩); (try refine ⟨rfl, ?_⟩)
  first | (intro acts; rw [hret _ acts rfl rfl rfl]) | rw [hret _ _ rfl rfl rfl]
  exact Steps.refl _
/-- what holds at the law's entry: the machine, the code, the tables' words (any of lw_tbl by 'hts w (by decide +kernel)'), the script of L ints xs at the cell b, what the Statement gives of the start (any of its parts by flat_of_before) -/
def lw_At (p : Program) (s : State) (m : MethodId) (meth : Method) (c : Code) (b L : Nat) (xs : Nat → Int32) : Prop :=
  p.tables.exec = Jvm.exec ∧ c.code = code ∧ meth.sig.returnType = ret ∧ c.maxLocals = 4 ∧ s.vm.findClass R_law = some m.cls ∧ (∀ w ∈ lw_tbl, w.before #[Value.ref b] s = true) ∧ va_X b L xs s s.heap ∧ b < s.heap.size ∧ meth.locks = false ∧ (Jvm.Cond.and given_1 narrow_1).before #[Value.ref b] s = true
/-! THE LAW'S START OUT OF A RUN OF THE MINI-MACHINE -/
def mm_ps (j : Nat) : Int64 := match j with
  | 0 => 2147483647
  | 1 => 2147483629
  | 2 => 2147483587
  | 3 => 2147483579
  | 4 => 2147483563
  | _ => 2147483549
/-- the heap at the law's start -/
def mm_h0 (L : Nat) (xs : Nat → Int32) : MH := (fun a j => if a = 0 then xs j else 0, fun a j => if a = 1 then mm_ps j else 0, fun _ _ => none, fun a => if a = 0 then 20 else if a = 1 then 21 else 99, fun a => if a = 0 then L else if a = 1 then 6 else 0, 2)
/-- on every script the mini-machine's law answers 1 -/
def mm_law : Prop := ∀ (L : Nat) (xs : Nat → Int32), L ≤ 2560 → ∃ (n : Nat) (h' : MH), mm_ex n m_La_law (0, mm_ent m_La_law [.ref 0], [], mm_h0 L xs, 0, 0) = some (some (.int 1), h')
theorem mm_arr0 {s : State} {args : Array Value} {ty : FieldType} (h : (Jvm.Cond.arrayClass ty).before args s = true) (hno : ∀ C, ty ≠ .object C) : ∃ cA : ClassId, ArrOfT s cA ty ∧ va_RA s cA ty := by
  obtain ⟨cB, kB, comp, hcB, hkB, hkind⟩ := Cond.arrayClass_spec h
  refine ⟨cB, fun n z => ⟨(fun k h => by cases h), kB, hkB, comp, hkind⟩, ?_⟩
  cases ty with
  | object C => exact absurd rfl (hno C)
  | _ => exact hcB
theorem mm_arr1 {s : State} {args : Array Value} {C : String} (h : (Jvm.Cond.arrayOver (.object C)).before args s = true) : ∃ cA : ClassId, ArrOfT s cA (.object C) ∧ va_RA s cA (.object C) := by
  obtain ⟨comp, c', k, f1, f2, f3, f4, f5⟩ := Cond.arrayOver_spec h
  exact ⟨c', fun n z => ⟨(fun k h => by cases h), k, f3, comp, f4⟩, k, comp, f3, f4, f1, f5⟩
theorem mm_arr2 {s : State} {args : Array Value} {ty : FieldType} (h : (Jvm.Cond.arrayOver (.array ty)).before args s = true) : ∃ cA : ClassId, ArrOfT s cA (.array ty) ∧ va_RA s cA (.array ty) := by
  obtain ⟨comp, c', k, f1, f3, f4, f5⟩ := Cond.arrayOver_specA h
  exact ⟨c', fun n z => ⟨(fun k h => by cases h), k, f3, comp, f4⟩, f5⟩
theorem mm_known {s : State} {args : Array Value} (hts0 : ∀ w ∈ lw_tbl, w.before args s = true) : ∃ (D : va_G) (cy : Nat → ClassId), va_K D mm_C (mm_tys cy) s := by
  have hts : ∀ w ∈ tables_1, w.before args s = true := fun w hw => hts0 w (List.mem_append_right _ hw)
  have hcl : ∀ ci : Nat, ∃ (cC : ClassId) (iS : Nat → Nat), ∀ q : vw_C, mm_C[ci]? = some q → u_Kn s q.1 q.2.1 q.2.2 cC iS := by
    intro ci
    by_cases h : ci ≤ 8
    · obtain ⟨T, hT, hin, -⟩ := fx_cls h
      have hck := List.all_eq_true.mp ck_n1 ci (List.mem_range.mpr (by omega))
      simp only [Bool.and_eq_true, decide_eq_true_eq] at hck
      obtain ⟨cC, iS, hk⟩ := u_known (ws := mm_ws) (C := mm_on ci) (T := T) (N := mm_cN ci) (fun w hw => hts0 w (List.mem_filter.mp hw).1) hin (hts _ hck.1)
      exact ⟨cC, iS, fun q hq => by rw [hT] at hq; cases hq; exact hk⟩
    · exact ⟨0, fun _ => 0, fun q hq => by rw [List.getElem?_eq_none (by show mm_C.length ≤ ci; have : mm_C.length = 9 := rfl; omega)] at hq; cases hq⟩
  obtain ⟨c9, a9⟩ := mm_arr0 (hts _ ck_a1.1) (fun C h => by cases h)
  obtain ⟨c10, a10⟩ := mm_arr0 (hts _ ck_a1.2.1) (fun C h => by cases h)
  obtain ⟨c11, a11⟩ := mm_arr0 (hts _ ck_a1.2.2.1) (fun C h => by cases h)
  obtain ⟨c12, a12⟩ := mm_arr1 (hts _ ck_a1.2.2.2.1)
  obtain ⟨c13, a13⟩ := mm_arr1 (hts _ ck_a1.2.2.2.2.1)
  obtain ⟨c14, a14⟩ := mm_arr2 (hts _ ck_a1.2.2.2.2.2.1)
  obtain ⟨c15, a15⟩ := mm_arr2 (hts _ ck_a1.2.2.2.2.2.2)
  refine ⟨(fun ci => (hcl ci).choose, fun ci => (hcl ci).choose_spec.choose), fun k => match k with
    | 9 => c9
    | 10 => c10
    | 11 => c11
    | 12 => c12
    | 13 => c13
    | 14 => c14
    | _ => c15, fun c q hq => (hcl c).choose_spec.choose_spec q hq, fun k q hk => ?_⟩
  have hk7 : k < 7 := (List.getElem?_eq_some_iff.mp hk).1
  have : k = 0 ∨ k = 1 ∨ k = 2 ∨ k = 3 ∨ k = 4 ∨ k = 5 ∨ k = 6 := by omega
  rcases this with rfl | rfl | rfl | rfl | rfl | rfl | rfl <;> cases hk
  · exact a9
  · exact a10
  · exact a11
  · exact a12
  · exact a13
  · exact a14
  · exact a15
theorem mm_eq_long {args : Array Value} {s : State} {tm : Term} {v : Int64} (h : (Jvm.Cond.eq tm (.long v)).before args s = true) : tm.eval args s none [] s = some (.long v) := by
  have h2 : (Term.long v).eval args s none [] s = some (.long v) := rfl
  simp only [Cond.before, Cond.holds, Cond.value, h2, beq_iff_eq] at h
  split at h <;> simp_all
theorem mm_eq_int {args : Array Value} {s : State} {tm : Term} {v : Int32} (h : (Jvm.Cond.eq tm (.int v)).before args s = true) : tm.eval args s none [] s = some (.int v) := by
  have h2 : (Term.int v).eval args s none [] s = some (.int v) := rfl
  simp only [Cond.before, Cond.holds, Cond.value, h2, beq_iff_eq] at h
  split at h <;> simp_all
/-- the law's walk -/
theorem mm_start {p : Program} {e : Env} {s : State} {m : MethodId} {below : List Frame} {meth : Method} {c : Code} (l : Launch) {b L : Nat} {xs : Nat → Int32} (hL : L ≤ 2560) (hlaw : mm_law) (C0 : lw_At p s m meth c b L xs) : W p l e room_1 s m #[Value.ref b] below meth c s.heap [] 0 0 (lw_Z below #[Value.ref b] s) (entryFrame m ([Value.ref b] : List Value).toArray 4) := by
  obtain ⟨hx, hb, hr, hml, hown, hts, hX, hbl, hlocks, hgv⟩ := C0
  have ht1 : ∀ w ∈ tables_1, w.before #[Value.ref b] s = true := fun w hw => hts w (List.mem_append_right _ hw)
  obtain ⟨D, cy, hVK⟩ := mm_known hts
  have hA : ∀ a : Nat, a < s.heap.size → ¬ mm_A s.heap.size a := fun a ha hq => by unfold mm_A at hq; omega
  have hfl := flat_of_before _ hgv
  have hel : ∀ j : Nat, j < 6 → (Term.elem (.static "DrawnTold" "PRIMES" "[J") (.int (Int32.ofNat j))).eval #[Value.ref b] s none [] s = some (.long (mm_ps j)) := by
    intro j hj
    have : j = 0 ∨ j = 1 ∨ j = 2 ∨ j = 3 ∨ j = 4 ∨ j = 5 := by omega
    rcases this with rfl | rfl | rfl | rfl | rfl | rfl
    · exact mm_eq_long (hfl _ (by decide +kernel))
    · exact mm_eq_long (hfl _ (by decide +kernel))
    · exact mm_eq_long (hfl _ (by decide +kernel))
    · exact mm_eq_long (hfl _ (by decide +kernel))
    · exact mm_eq_long (hfl _ (by decide +kernel))
    · exact mm_eq_long (hfl _ (by decide +kernel))
  obtain ⟨t, htv, hT⟩ := va_Tof (ty := .long) (N := 6) (f := fun j => .long (mm_ps j)) (A := mm_A s.heap.size) (tm := .static "DrawnTold" "PRIMES" "[J") (by decide) (hfl _ (by decide +kernel)) (mm_eq_int (hfl (Jvm.Cond.eq (.length (.static "DrawnTold" "PRIMES" "[J")) (.int 6)) (by decide +kernel))) hel hA
  have hZ : va_Z "DrawnTold" "PRIMES" "[J" (.ref t) (mm_A s.heap.size) s s.heap := va_Zref (ht1 _ ck_o1.2.2.2.2.1) (ht1 _ ck_o1.2.2.2.2.2) htv hA
  have G : mm_X2 D cy s.heap.size b t L xs mm_ps s := ⟨⟨⟨hbl, Nat.le_refl _⟩, hVK, hX, hZ, hT⟩, fun ty hty => ht1 _ hty, fun w hw hn => by
    have h4 := ht1 w hw
    cases w <;> first | exact va_Nw.of rfl h4 | (exact absurd hn (by simp [mm_isN]))⟩
  have B : mm_B 177 p room_1 s m #[Value.ref b] meth c := ⟨⟨hx, hb, hml, hown, fun w hw => hts w (List.mem_filter.mp hw).1⟩, (fun h => by cases h), rfl, rfl, rfl, rfl⟩
  obtain ⟨n, h', hrun⟩ := hlaw L xs hL
  have hH : mm_H D cy s.heap.size b t L xs mm_ps (mm_h0 L xs) s.heap := by
    refine ⟨⟨Nat.le_refl 2, rfl⟩, ⟨rfl, rfl, fun a ha => ?_, fun a h2 ha => ?_⟩, ⟨rfl, rfl, rfl, rfl⟩, fun k q hq => by cases hq⟩
    · have ha' : 2 ≤ a := ha
      show (if a = 0 then 20 else if a = 1 then 21 else 99) = 99
      rw [if_neg (by omega), if_neg (by omega)]
    · have ha' : a < 2 := ha
      omega
  rw [lg_entry_eq]
  have hl := lv_entry (([.ref 0] : List Value).map (mm_tv (mm_ad s.heap.size b t))) (n := 4) (Nat.le_of_ble_eq_true rfl)
  have e0 : ([Value.ref b] : List Value) = ([.ref 0] : List Value).map (mm_tv (mm_ad s.heap.size b t)) := rfl
  rw [e0]
  generalize (lg_sl (([.ref 0] : List Value).map (mm_tv (mm_ad s.heap.size b t))) ++ List.replicate (4 - (lg_sl (([.ref 0] : List Value).map (mm_tv (mm_ad s.heap.size b t)))).length) Slot.unset).toArray = ls at hl ⊢
  refine mm_sound l n 177 p e room_1 s m _ below meth c _ (0, mm_ent m_La_law [.ref 0], [], mm_h0 L xs, 0, 0) (some (.int 1)) h' B G hrun (Nat.zero_le _) (Nat.zero_le _) ?_ s.heap [] ls rfl hH va_S.rf (mm_ent_Lr (mid := 177) (Nat.le_of_ble_eq_true rfl) hl)
  intro pc L1 st g cu su h1 hcu hsu H locs ls hlen1 hH1 hS1 hL1
  unfold mm_one at h1
  split at h1
  case h_2 => cases h1
  rename_i i len tgt hf
  obtain ⟨-, hd, hln, -, -⟩ := fx_fet hf
  dsimp only at hlen1 hH1 hL1 ⊢
  refine va_forget (fun q hq => hS1.2.2 q hq) ?_
  refine W.widen (k := 600000) (n := 7302249) hcu hsu ?_
  rcases mm_stp_out h1 with rfl | rfl | rfl | ⟨k, rfl, h2⟩ | ⟨k, rfl, h2⟩ | ⟨k, rfl, h2⟩
  · unfold mm_stp at h1
    dsimp only at h1
    split at h1
    case h_2 => cases h1
    split at h1
    case isFalse => cases h1
    cases h1
    obtain rfl : len = 1 := by simpa [mm_ln] using hln
    exact lw_ret hx hb hr hlocks hd
  · exfalso; unfold mm_stp at h1; dsimp only at h1; repeat' (first | (cases h1; done) | (split at h1))
  · exfalso; unfold mm_stp at h1; dsimp only at h1; repeat' (first | (cases h1; done) | (split at h1))
  · exact absurd h2 mm_inv_no
  · exact absurd h2 mm_inv_no
  · exact absurd h2 mm_inv_no
