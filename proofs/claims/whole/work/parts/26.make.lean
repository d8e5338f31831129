/-! WHAT IS MADE -/
theorem mm_wl_P {D : va_G} {cy : Nat → ClassId} {base b t : Nat} {h : MH} {H : Heap} : va_P D mm_C (mm_wl cy base b t h) H ↔ ∀ k, 2 ≤ k → k < hN h → va_at D mm_C (base + (k - 2), mm_ce cy (mm_ad base b t) h k) H := by
  constructor
  · intro hP k h2 hk
    have := hP (k - 2) _ (mm_wl_at (by omega))
    rw [show k - 2 + 2 = k by omega] at this
    exact this
  · intro hA k q hq
    obtain ⟨hi, -⟩ := List.getElem?_eq_some_iff.mp hq
    rw [mm_wl_len] at hi
    rw [mm_wl_at hi] at hq
    cases hq
    have := hA (k + 2) (by omega) (by omega)
    rw [show k + 2 - 2 = k by omega] at this
    exact this
theorem mm_at_kept {D : va_G} {cl : List vw_C} {q : Nat × va_E} {H H1 : Heap} (h : va_at D cl q H) (hq : H1[q.1]? = H[q.1]?) : va_at D cl q H1 := va_at.kept h hq
theorem mm_ce_mk {cy : Nat → ClassId} {ad : Nat → Nat} {h : MH} {kind len k : Nat} (hk : k ≠ hN h) : mm_ce cy ad (mm_mk h kind len) k = mm_ce cy ad h k := by
  have e1 : mm_row (hI h) (hN h) (fun _ => 0) k = hI h k := mm_row_ne hk
  have e2 : mm_row (hJ h) (hN h) (fun _ => 0) k = hJ h k := mm_row_ne hk
  have e3 : mm_row (hR h) (hN h) (fun _ => none) k = hR h k := mm_row_ne hk
  have e4 : mm_u1 (hK h) (hN h) kind k = hK h k := if_neg hk
  have e5 : mm_u1 (hL h) (hN h) len k = hL h k := if_neg hk
  have e6 : ∀ ci j, mm_fv (mm_mk h kind len) k ci j = mm_fv h k ci j := by
    intro ci j
    unfold mm_fv mm_mk
    simp only [hI, hJ, hR] at *
    rw [e1, e2, e3]
  unfold mm_ce
  simp only [e6]
  unfold mm_mk
  simp only [hI, hJ, hR, hK, hL] at *
  rw [e1, e2, e3, e4, e5]
/-- a world with one cell more -/
theorem mm_H.grow {D : va_G} {cy : Nat → ClassId} {base b t Ls : Nat} {xs : Nat → Int32} {ps : Nat → Int64} {h : MH} {H H1 : Heap} (hH : mm_H D cy base b t Ls xs ps h H) {kind len : Nat} (hk : kind ≤ 15) (z : H1.size = H.size + 1) (oq : ∀ q : Nat, q < H.size → H1[q]? = H[q]?)
    (he : va_at D mm_C (H.size, mm_ce cy (mm_ad base b t) (mm_mk h kind len) (hN h)) H1) : mm_H D cy base b t Ls xs ps (mm_mk h kind len) H1 := by
  obtain ⟨⟨g1, g2⟩, ⟨g3, g4, g5, g6⟩, ⟨g7, g8, g9, g10⟩, hP⟩ := hH
  have n0 : (0 : Nat) ≠ hN h := by omega
  have n1 : (1 : Nat) ≠ hN h := by omega
  refine ⟨⟨?_, ?_⟩, ⟨?_, ?_, ?_, ?_⟩, ⟨?_, ?_, ?_, ?_⟩, ?_⟩
  · show 2 ≤ hN h + 1; omega
  · show H1.size = base + (hN h + 1 - 2); omega
  · show mm_u1 (hK h) (hN h) kind 0 = 20; rw [show mm_u1 (hK h) (hN h) kind 0 = hK h 0 from if_neg n0]; exact g3
  · show mm_u1 (hK h) (hN h) kind 1 = 21; rw [show mm_u1 (hK h) (hN h) kind 1 = hK h 1 from if_neg n1]; exact g4
  · intro a ha
    have ha' : hN h + 1 ≤ a := ha
    show mm_u1 (hK h) (hN h) kind a = 99
    rw [show mm_u1 (hK h) (hN h) kind a = hK h a from if_neg (by omega)]
    exact g5 a (by omega)
  · intro a h2 ha
    have ha' : a < hN h + 1 := ha
    show mm_u1 (hK h) (hN h) kind a ≤ 15
    by_cases e : a = hN h
    · rw [show mm_u1 (hK h) (hN h) kind a = kind from if_pos e]; exact hk
    · rw [show mm_u1 (hK h) (hN h) kind a = hK h a from if_neg e]; exact g6 a h2 (by omega)
  · show mm_u1 (hL h) (hN h) len 0 = Ls; rw [show mm_u1 (hL h) (hN h) len 0 = hL h 0 from if_neg n0]; exact g7
  · show mm_row (hI h) (hN h) (fun _ => 0) 0 = xs; rw [mm_row_ne n0]; exact g8
  · show mm_u1 (hL h) (hN h) len 1 = 6; rw [show mm_u1 (hL h) (hN h) len 1 = hL h 1 from if_neg n1]; exact g9
  · show mm_row (hJ h) (hN h) (fun _ => 0) 1 = ps; rw [mm_row_ne n1]; exact g10
  · rw [mm_wl_P] at hP ⊢
    intro k h2 hk'
    have hk2 : k < hN h + 1 := hk'
    by_cases e : k = hN h
    · subst e
      rw [← g2]
      exact he
    · rw [mm_ce_mk e]
      refine mm_at_kept (hP k h2 (by omega)) (oq _ ?_)
      show base + (k - 2) < H.size
      omega
theorem mm_fv_mk {h : MH} {kind len ci k : Nat} (hci : ci ≤ 8) : mm_fv (mm_mk h kind len) (hN h) ci k = (match mm_ty ci k with
  | 0 => .int 0
  | 1 => .int 0
  | 2 => .long 0
  | _ => .null) := by
  unfold mm_fv mm_mk
  have e1 : ∀ j, mm_row (hI h) (hN h) (fun _ => 0) (hN h) j = 0 := fun j => if_pos rfl
  have e2 : ∀ j, mm_row (hJ h) (hN h) (fun _ => 0) (hN h) j = 0 := fun j => if_pos rfl
  have e3 : ∀ j, mm_row (hR h) (hN h) (fun _ => none) (hN h) j = none := fun j => if_pos rfl
  simp only [hI, hJ, hR, e1, e2, e3] at *
  split <;> simp_all [mm_rv]
section MMM
variable {p : Program} {l : Launch} {e : Env} {R : Room} {s : State} {m : MethodId} {args : Array Value} {below : List Frame} {meth : Method} {c : Code} {H : Heap} {locs : List Loc} {cells slots : Nat} {Q : State → Prop}
variable {cc : ByteArray} {pc : Nat} {ls : Array Slot} {rest : List Value} {D : va_G} {cy : Nat → ClassId} {base b t Ls : Nat} {xs : Nat → Int32} {ps : Nat → Int64} {h : MH}
theorem mm_adN (hH : mm_H D cy base b t Ls xs ps h H) : mm_ad base b t (hN h) = H.size := by
  obtain ⟨⟨g1, g2⟩, -⟩ := hH
  unfold mm_ad
  rw [if_neg (by omega), if_neg (by omega), g2]
theorem mm_S_grow {A : Nat → Prop} {H0 H1 : Heap} {k : Nat} (hS : va_S A H0 H locs) (z : H1.size = H.size + k) (oq : ∀ q : Nat, q < H.size → H1[q]? = H[q]?) : va_S A H0 H1 locs :=
  ⟨by have := hS.1; omega, fun q h1 h2 => (oq q (Nat.lt_of_lt_of_le h1 hS.1)).trans (hS.2.1 q h1 h2), hS.2.2⟩
theorem ms_new (hx : p.tables.exec = Jvm.exec) (hb : c.code = cc) {own idx ci : Nat} (hci : ci ≤ 8) (hts : ∀ w ∈ mm_ws, w.before args s = true) (hown : s.vm.findClass (mm_on own) = some m.cls) (hcl : Jvm.Cond.classLink (mm_on own) idx (mm_on ci) ∈ tables_1) (hVK : va_K D mm_C (mm_tys cy) s) (hH : mm_H D cy base b t Ls xs ps h H) (hS : va_S (mm_A base) s.heap H locs) (hcells : cells + 1 ≤ R.cells) (hslots : slots + mm_cN ci ≤ R.slots) (hd : decode cc pc = .ok (.new idx, 3))
    (kk : ∀ H1, mm_H D cy base b t Ls xs ps (mm_mk h ci 0) H1 → va_S (mm_A base) s.heap H1 locs → W p l e R s m args below meth c H1 locs (cells + 1) (slots + mm_cN ci) Q (F0 m (pc + 3) ls (.ref (mm_ad base b t (hN h)) :: rest))) : W p l e R s m args below meth c H locs cells slots Q (F0 m pc ls rest) := by
  obtain ⟨T, hT, hin, -, hkk⟩ := fx_cls hci
  have hKn := hVK.1 ci _ hT
  have hck := List.all_eq_true.mp ck_n1 ci (List.mem_range.mpr (by omega))
  simp only [Bool.and_eq_true, decide_eq_true_eq] at hck
  rw [mm_adN hH] at kk
  have hty : ∀ k, k < mm_cN ci → parseFieldDescriptor (T k).2.2.1 = some ((parseFieldDescriptor (T k).2.2.1).getD .int) := by
    intro k hk
    rcases (hkk k hk).2.2 with ⟨-, q⟩ | ⟨-, q⟩ | ⟨-, q⟩ | ⟨-, ty, q, -⟩ <;> rw [q] <;> rfl
  refine W.newcK hx hb hown (hts _ (mm_in_ws hcl rfl)) (hts _ (mm_in_ws hck.1 rfl)) (hts _ (mm_in_ws hck.2 rfl)) rfl hd hcells hslots hKn.2.1 rfl fun H1 kC hkC e1 z1 o1 => ?_
  refine kk H1 (hH.grow (by omega) z1 o1 ?_) (mm_S_grow hS z1 o1)
  have e9 : hK (mm_mk h ci 0) (hN h) = ci := if_pos rfl
  rw [mm_ce_ob (by rw [e9]; exact hci), e9]
  refine ⟨_, hT, (u_born (fun k => (parseFieldDescriptor (T k).2.2.1).getD .int) hts hin hKn hkC e1 hty).to fun j hj => ?_⟩
  show _ = List.getD _ j _
  rw [List.getD_eq_getElem?_getD, List.getElem?_map, List.getElem?_range hj]
  show defaultValue _ = mm_tv _ (mm_fv (mm_mk h ci 0) (hN h) ci j)
  rw [mm_fv_mk hci]
  rcases (hkk j hj).2.2 with ⟨q1, q⟩ | ⟨q1, q⟩ | ⟨q1, q⟩ | ⟨q1, ty, q, q2⟩ <;> rw [q, q1]
  · rfl
  · rfl
  · rfl
  · rcases q2 with ⟨C, rfl⟩ | ⟨x, rfl⟩ <;> rfl
theorem ms_newa (hx : p.tables.exec = Jvm.exec) (hb : c.code = cc) {at9 : ArrayType} {kind : Nat} (hk : (at9 = .int ∧ kind = 9) ∨ (at9 = .long ∧ kind = 10) ∨ (at9 = .boolean ∧ kind = 11)) (hts : ∀ w ∈ mm_ws, w.before args s = true) (hVK : va_K D mm_C (mm_tys cy) s) (hH : mm_H D cy base b t Ls xs ps h H) (hS : va_S (mm_A base) s.heap H locs) {n : Int32} (hn : ¬ n < 0) (hn2 : n.toNatClampNeg ≤ 1000) (hcells : cells + 1 ≤ R.cells) (hslots : slots + n.toNatClampNeg ≤ R.slots) (hd : decode cc pc = .ok (.newarray at9, 2))
    (kk : ∀ H1, mm_H D cy base b t Ls xs ps (mm_mk h kind n.toNatClampNeg) H1 → va_S (mm_A base) s.heap H1 locs → W p l e R s m args below meth c H1 locs (cells + 1) (slots + n.toNatClampNeg) Q (F0 m (pc + 2) ls (.ref (mm_ad base b t (hN h)) :: rest))) : W p l e R s m args below meth c H locs cells slots Q (F0 m pc ls (.int n :: rest)) := by
  rw [mm_adN hH] at kk
  have e9 : hK (mm_mk h kind n.toNatClampNeg) (hN h) = kind := if_pos rfl
  have e8 : hL (mm_mk h kind n.toNatClampNeg) (hN h) = n.toNatClampNeg := if_pos rfl
  have e7 : hI (mm_mk h kind n.toNatClampNeg) (hN h) = fun _ => 0 := mm_row_eq
  have e6 : hJ (mm_mk h kind n.toNatClampNeg) (hN h) = fun _ => 0 := mm_row_eq
  rcases hk with ⟨rfl, rfl⟩ | ⟨rfl, rfl⟩ | ⟨rfl, rfl⟩
  · refine va_newaK (atype := .int) hx hb (hts _ (mm_in_ws ck_a1.1 rfl)) rfl hd rfl hn rfl (by show _ * 4 ≤ _; omega) hcells hslots rfl fun H1 cA e1 z1 o1 _ hf => ?_
    have hcy : cy 9 = cA := Option.some.inj ((show s.vm.findClass "[I" = some (cy 9) from (hVK.2 0 _ rfl).2).symm.trans hf)
    refine kk H1 (hH.grow (by omega) z1 o1 ?_) (mm_S_grow hS z1 o1)
    rw [mm_ce_i (Or.inl e9), e9, e8, e7, hcy]
    exact e1
  · refine va_newaK (atype := .long) hx hb (hts _ (mm_in_ws ck_a1.2.1 rfl)) rfl hd rfl hn rfl (by show _ * 8 ≤ _; omega) hcells hslots rfl fun H1 cA e1 z1 o1 _ hf => ?_
    have hcy : cy 10 = cA := Option.some.inj ((show s.vm.findClass "[J" = some (cy 10) from (hVK.2 1 _ rfl).2).symm.trans hf)
    refine kk H1 (hH.grow (by omega) z1 o1 ?_) (mm_S_grow hS z1 o1)
    rw [mm_ce_l e9, e9, e8, e6, hcy]
    exact e1
  · refine va_newaK (atype := .boolean) hx hb (hts _ (mm_in_ws ck_a1.2.2.1 rfl)) rfl hd rfl hn rfl (by show _ * 1 ≤ _; omega) hcells hslots rfl fun H1 cA e1 z1 o1 _ hf => ?_
    have hcy : cy 11 = cA := Option.some.inj ((show s.vm.findClass "[Z" = some (cy 11) from (hVK.2 2 _ rfl).2).symm.trans hf)
    refine kk H1 (hH.grow (by omega) z1 o1 ?_) (mm_S_grow hS z1 o1)
    rw [mm_ce_i (Or.inr e9), e9, e8, e7, hcy]
    exact e1
theorem ms_anew (hx : p.tables.exec = Jvm.exec) (hb : c.code = cc) {own idx ci : Nat} (hci : ci = 5 ∨ ci = 6) (hts : ∀ w ∈ mm_ws, w.before args s = true) (hown : s.vm.findClass (mm_on own) = some m.cls) (hcl : Jvm.Cond.classLink (mm_on own) idx (mm_on ci) ∈ tables_1) (hov : (Cond.arrayOver (.object (mm_on ci))).before args s = true) (hVK : va_K D mm_C (mm_tys cy) s) (hH : mm_H D cy base b t Ls xs ps h H) (hS : va_S (mm_A base) s.heap H locs) {n : Int32} (hn : ¬ n < 0) (hn2 : n.toNatClampNeg ≤ 1000) (hcells : cells + 1 ≤ R.cells) (hslots : slots + n.toNatClampNeg ≤ R.slots) (hd : decode cc pc = .ok (.anewarray idx, 3))
    (kk : ∀ H1, mm_H D cy base b t Ls xs ps (mm_mk h (ci + 7) n.toNatClampNeg) H1 → va_S (mm_A base) s.heap H1 locs → W p l e R s m args below meth c H1 locs (cells + 1) (slots + n.toNatClampNeg) Q (F0 m (pc + 3) ls (.ref (mm_ad base b t (hN h)) :: rest))) : W p l e R s m args below meth c H locs cells slots Q (F0 m pc ls (.int n :: rest)) := by
  rw [mm_adN hH] at kk
  have e9 : hK (mm_mk h (ci + 7) n.toNatClampNeg) (hN h) = ci + 7 := if_pos rfl
  have e8 : hL (mm_mk h (ci + 7) n.toNatClampNeg) (hN h) = n.toNatClampNeg := if_pos rfl
  have e7 : hR (mm_mk h (ci + 7) n.toNatClampNeg) (hN h) = fun _ => none := mm_row_eq
  refine W.anew hx hb hown (hts _ (mm_in_ws hcl rfl)) hov rfl hd rfl hn (by omega) hcells hslots fun cA kA comp f1 f2 f3 f4 => ?_
  have z1 : (H.push ({ cls := cA, slots := Array.replicate n.toNatClampNeg .null, vm := .none } : Cell)).size = H.size + 1 := Array.size_push _
  have o1 : ∀ q : Nat, q < H.size → (H.push ({ cls := cA, slots := Array.replicate n.toNatClampNeg .null, vm := .none } : Cell))[q]? = H[q]? := fun q hq => by rw [Array.getElem?_push, if_neg (Nat.ne_of_lt hq)]
  refine kk _ (hH.grow (by omega) z1 o1 ?_) (mm_S_grow hS z1 o1)
  rw [mm_ce_q (by omega), e9, e8, e7]
  have hcy : cy (ci + 7) = cA := by
    rcases hci with rfl | rfl
    · obtain ⟨kA', comp', -, -, -, q⟩ := (hVK.2 3 _ rfl).2
      exact Option.some.inj (q.symm.trans f1)
    · obtain ⟨kA', comp', -, -, -, q⟩ := (hVK.2 4 _ rfl).2
      exact Option.some.inj (q.symm.trans f1)
  rw [hcy]
  show (H.push _)[H.size]? = some (arrV cA _ (fun j => va_rf (Option.map _ none)))
  rw [Array.getElem?_push_size, arrV_new]
  rfl
end MMM
