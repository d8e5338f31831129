/-! putfield, arrays of arrays, the script, PRIMES -/
theorem vr_outer (c : ClassId) (N h0 : Nat) : ∀ i : Nat, Jvm.Free.Multi.outerC c N h0 i = arrV c N (fun j => va_rf (if j < i then some (h0 + 1 + j) else none))
  | 0 => by
    show ({ cls := c, slots := Array.replicate N .null, vm := .none } : Cell) = _
    rw [arrV_new]
    refine congrArg (arrV c N) (funext fun j => ?_)
    simp [va_rf]
  | i + 1 => by
    show (Jvm.Free.Multi.outerC c N h0 i).setSlot i (.ref (h0 + 1 + i)) = _
    rw [vr_outer c N h0 i, arrV_store]
    refine congrArg (arrV c N) (funext fun j => ?_)
    by_cases e : j = i
    · subst e
      simp [updV, va_rf]
    · by_cases h : j < i
      · simp [updV, e, h, Nat.lt_succ_of_lt h]
      · simp [updV, e, h, show ¬ j < i + 1 by omega]
section MMP
variable {p : Program} {l : Launch} {e : Env} {R : Room} {s : State} {m : MethodId} {args : Array Value} {below : List Frame} {meth : Method} {c : Code} {H : Heap} {locs : List Loc} {cells slots : Nat} {Q : State → Prop}
variable {cc : ByteArray} {pc : Nat} {ls : Array Slot} {rest : List Value} {D : va_G} {cy : Nat → ClassId} {base b t Ls : Nat} {xs : Nat → Int32} {ps : Nat → Int64} {h : MH}
theorem ms_put (hx : p.tables.exec = Jvm.exec) (hb : c.code = cc) {own idx ci f a : Nat} {v : Value} {h' : MH} (hts : ∀ w ∈ mm_ws, w.before args s = true) (hown : s.vm.findClass (mm_on own) = some m.cls) (hVK : va_K D mm_C (mm_tys cy) s) (hH : mm_H D cy base b t Ls xs ps h H) (hS : va_S (mm_A base) s.heap H locs) (hf : mm_fld own idx = some (ci, f)) (hk : hK h a = ci) (hfin : mm_isF ci f = true → meth.name = "<init>" ∧ own = ci)
    (hv : ∀ ty, ((mm_ty ci f = 0 ∧ ty = .int) ∨ (mm_ty ci f = 1 ∧ ty = .boolean) ∨ (mm_ty ci f = 2 ∧ ty = .long) ∨ (mm_ty ci f = 3 ∧ ((∃ C, ty = .object C) ∨ ∃ e, ty = .array e))) → narrow ty (mm_tv (mm_ad base b t) v) = mm_tv (mm_ad base b t) v ∧ fits ty (mm_tv (mm_ad base b t) v) = true)
    (e1 : hN h' = hN h) (e2 : hK h' = hK h) (e3 : hL h' = hL h) (e4 : hI h' 0 = hI h 0) (e5 : hJ h' 1 = hJ h 1) (ho : ∀ k, k ≠ a → mm_ce cy (mm_ad base b t) h' k = mm_ce cy (mm_ad base b t) h k) (hfv : ∀ k, mm_fv h' a ci k = if k = f then v else mm_fv h a ci k) (hd : decode cc pc = .ok (.putfield idx, 3))
    (kk : ∀ H1 locs1, mm_H D cy base b t Ls xs ps h' H1 → va_S (mm_A base) s.heap H1 locs1 → W p l e R s m args below meth c H1 locs1 cells slots Q (F0 m (pc + 3) ls rest)) : W p l e R s m args below meth c H locs cells slots Q (F0 m pc ls (mm_tv (mm_ad base b t) v :: .ref (mm_ad base b t a) :: rest)) := by
  obtain ⟨h1, h2, h3⟩ := fx_fld hf
  obtain ⟨T, hT, hin, hnm, hkk⟩ := fx_cls h1
  obtain ⟨k1, k2, k3⟩ := hkk f h2
  have h3' := h3 T hT
  subst hk
  obtain ⟨ha2, han, hae, hget⟩ := hH.mem (Nat.le_trans h1 (by omega))
  rw [mm_ce_ob h1] at hget
  have hty : ∀ k, k < mm_cN (hK h a) → parseFieldDescriptor (T k).2.2.1 = some ((parseFieldDescriptor (T k).2.2.1).getD .int) := by
    intro k hk
    rcases (hkk k hk).2.2 with ⟨-, q⟩ | ⟨-, q⟩ | ⟨-, q⟩ | ⟨-, ty, q, -⟩ <;> rw [q] <;> rfl
  have hap := va_apart (own := mm_on own) hts hin _ hty hnm hVK hT
  obtain ⟨r, hr, cell, q1, q2, q3, q4⟩ := hH.2.2.2 _ _ hget
  have hr2 : r = (mm_on (hK h a), T, mm_cN (hK h a)) := Option.some.inj (hr.symm.trans hT)
  subst hr2
  obtain ⟨hSl, hfc, kC, hkC, hkind⟩ := hVK.1 _ _ hT
  obtain ⟨cf, kf, fi, fd, hi, hsl⟩ := hSl f h2
  have hlay := hts _ (hin _ (u_in_lay h2))
  have hst := (u_facts hfc hkC (u_lays hts hin h2) hi).1
  have hvv : ∃ ty, parseFieldDescriptor (T f).2.2.1 = some ty ∧ narrow ty (mm_tv (mm_ad base b t) v) = mm_tv (mm_ad base b t) v ∧ fits ty (mm_tv (mm_ad base b t) v) = true := by
    rcases k3 with ⟨c1, c2⟩ | ⟨c1, c2⟩ | ⟨c1, c2⟩ | ⟨c1, ty, c2, c3⟩
    · exact ⟨_, c2, hv _ (Or.inl ⟨c1, rfl⟩)⟩
    · exact ⟨_, c2, hv _ (Or.inr (Or.inl ⟨c1, rfl⟩))⟩
    · exact ⟨_, c2, hv _ (Or.inr (Or.inr (Or.inl ⟨c1, rfl⟩)))⟩
    · exact ⟨_, c2, hv _ (Or.inr (Or.inr (Or.inr ⟨c1, c3⟩)))⟩
  obtain ⟨ty, hd1, hn1, hfit1⟩ := hvv
  have fin : ∀ (H1 : Heap) (locs1 : List Loc), H1[mm_ad base b t a]? = some (cell.setSlot fd.slot (mm_tv (mm_ad base b t) v)) → H1.size = H.size → (∀ q : Nat, q ≠ mm_ad base b t a → H1[q]? = H[q]?) → W p l e R s m args below meth c H1 (locs ++ [⟨mm_ad base b t a, fd.slot⟩]) cells slots Q (F0 m (pc + 3) ls rest) := by
    intro H1 locs1 c1 z oq
    refine kk H1 _ (hH.upd (h' := h') (a := a) (by omega) e1 e2 e3 e4 e5 ho z oq ?_) (hS.put z oq (mm_Aof hae))
    rw [mm_ce_ob (h := h') (by rw [e2]; exact h1), e2]
    refine ⟨_, hT, t_OB.to (V := updV (fun j => mm_tv (mm_ad base b t) (mm_fv h a (hK h a) j)) f (mm_tv (mm_ad base b t) v)) ⟨_, c1, q2, q3, ?_⟩ fun j hj => ?_⟩
    · rw [hsl]
      refine t_set (fun k hk => ?_) hap h2 _
      rw [q4 k hk]
      show some (List.getD _ k _) = _
      rw [List.getD_eq_getElem?_getD, List.getElem?_map, List.getElem?_range hk]
      rfl
    · show _ = List.getD _ j _
      rw [List.getD_eq_getElem?_getD, List.getElem?_map, List.getElem?_range hj]
      show _ = mm_tv _ (mm_fv h' a (hK h a) j)
      rw [hfv]
      unfold updV
      by_cases hj2 : j = f
      · simp [hj2]
      · simp [hj2]
  by_cases hF : (T f).2.2.2 = true
  · unfold u_lay at hlay
    rw [if_pos hF] at hlay
    obtain ⟨hin2, hown2⟩ := hfin (by rw [← k2]; exact hF)
    have hcf : m.cls = cf := by
      obtain ⟨_, _, c', _, _, _, -, -, hf', -, -, -, hown3, -⟩ := Cond.laysFinal_spec hlay
      have x1 : c' = cf := by have := hi.symm.trans hf'; simp at this; exact this.1.symm
      rw [k1, ← hown2] at hown3
      rw [← x1]; exact Option.some.inj (hown.symm.trans hown3)
    have h6 := u_fits hfc hkC hkind (Or.inr hlay) hi hd1 hn1 hfit1
    refine W.putFinK hx hb hown (hts _ h3') hi hst hcf hin2 (by rw [q2]; exact h6) q1 q3 (by rw [hsl]; exact k2_hasslot (q4 f h2)) rfl rfl hd fun H' x1 x2 x3 => ?_
    exact fin H' [] x1 x2 x3
  · unfold u_lay at hlay
    rw [if_neg hF] at hlay
    have h6 := u_store hfc hkC hkind hlay hi hd1 hn1 hfit1
    refine W.putK hx hb (f := fd) ⟨hown, hts _ h3', ⟨_, _, _, hi⟩, hst⟩ (by rw [q2]; exact h6) q1 q3 (by rw [hsl]; exact k2_hasslot (q4 f h2)) rfl rfl hd fun H' x1 x2 x3 => ?_
    exact fin H' [] x1 x2 x3
theorem ms_sld (hx : p.tables.exec = Jvm.exec) (hb : c.code = cc) {x : Int32} (hG : mm_X D cy base b t Ls xs ps s) (hH : mm_H D cy base b t Ls xs ps h H) (hS : va_S (mm_A base) s.heap H locs) (hi : mm_in x (hL h 0) = true) (hd : decode cc pc = .ok (.iaload, 1))
    (kk : W p l e R s m args below meth c H locs cells slots Q (F0 m (pc + 1) ls (.int (hI h 0 x.toNatClampNeg) :: rest))) : W p l e R s m args below meth c H locs cells slots Q (F0 m pc ls (.int x :: .ref (mm_ad base b t 0) :: rest)) := by
  obtain ⟨⟨g1, g2⟩, g3, g4, -⟩ := hG
  obtain ⟨-, -, ⟨h1, h2, -⟩, -⟩ := hH
  rw [h1] at hi
  rw [h2] at kk
  have hb1 : b < s.heap.size := by omega
  have hb2 : ¬ mm_A base b := fun q => by unfold mm_A at q; omega
  exact va_sld (b := b) hx hb g4 hb1 hb2 hS (mm_in_iff.mp hi) hd kk
theorem ms_slen (hx : p.tables.exec = Jvm.exec) (hb : c.code = cc) (hG : mm_X D cy base b t Ls xs ps s) (hH : mm_H D cy base b t Ls xs ps h H) (hS : va_S (mm_A base) s.heap H locs) (hd : decode cc pc = .ok (.arraylength, 1))
    (kk : W p l e R s m args below meth c H locs cells slots Q (F0 m (pc + 1) ls (.int (Int32.ofNat (hL h 0)) :: rest))) : W p l e R s m args below meth c H locs cells slots Q (F0 m pc ls (.ref (mm_ad base b t 0) :: rest)) := by
  obtain ⟨⟨g1, g2⟩, g3, g4, -⟩ := hG
  obtain ⟨-, -, ⟨h1, h2, -⟩, -⟩ := hH
  rw [h1] at kk
  have hb1 : b < s.heap.size := by omega
  have hb2 : ¬ mm_A base b := fun q => by unfold mm_A at q; omega
  exact va_slen (b := b) hx hb g4 hb1 hb2 hS hd kk
theorem ms_tl (hx : p.tables.exec = Jvm.exec) (hb : c.code = cc) {x : Int32} (hG : mm_X D cy base b t Ls xs ps s) (hH : mm_H D cy base b t Ls xs ps h H) (hS : va_S (mm_A base) s.heap H locs) (hi : mm_in x (hL h 1) = true) (hd : decode cc pc = .ok (.laload, 1))
    (kk : W p l e R s m args below meth c H locs cells slots Q (F0 m (pc + 1) ls (.long (hJ h 1 x.toNatClampNeg) :: rest))) : W p l e R s m args below meth c H locs cells slots Q (F0 m pc ls (.int x :: .ref (mm_ad base b t 1) :: rest)) := by
  obtain ⟨-, -, -, -, g6⟩ := hG
  obtain ⟨-, -, ⟨-, -, h3, h4⟩, -⟩ := hH
  rw [h3] at hi
  rw [h4] at kk
  exact va_tl hx hb g6 hS (mm_in_iff.mp hi) rfl hd kk
theorem ms_tlen (hx : p.tables.exec = Jvm.exec) (hb : c.code = cc) (hG : mm_X D cy base b t Ls xs ps s) (hH : mm_H D cy base b t Ls xs ps h H) (hS : va_S (mm_A base) s.heap H locs) (hd : decode cc pc = .ok (.arraylength, 1))
    (kk : W p l e R s m args below meth c H locs cells slots Q (F0 m (pc + 1) ls (.int (Int32.ofNat (hL h 1)) :: rest))) : W p l e R s m args below meth c H locs cells slots Q (F0 m pc ls (.ref (mm_ad base b t 1) :: rest)) := by
  obtain ⟨-, -, -, -, g6⟩ := hG
  obtain ⟨-, -, ⟨-, -, h3, h4⟩, -⟩ := hH
  rw [h3] at kk
  exact va_tlen hx hb g6 hS rfl hd kk
/-- worlds grow by rows of one kind -/
theorem mm_mks_N (h : MH) (kind len : Nat) : ∀ n, hN (mm_mks h kind len n) = hN h + n
  | 0 => rfl
  | n + 1 => by show hN (mm_mks h kind len n) + 1 = _; rw [mm_mks_N h kind len n]; rfl
theorem mm_mks_ce {cy : Nat → ClassId} {ad : Nat → Nat} (h : MH) (kind len k : Nat) (hk : k < hN h) : ∀ n, mm_ce cy ad (mm_mks h kind len n) k = mm_ce cy ad h k
  | 0 => rfl
  | n + 1 => by show mm_ce cy ad (mm_mk (mm_mks h kind len n) kind len) k = _; rw [mm_ce_mk (by rw [mm_mks_N]; omega), mm_mks_ce h kind len k hk n]
theorem mm_mks_in (h : MH) (kind len : Nat) : ∀ (n j : Nat), j < n → hI (mm_mks h kind len n) (hN h + j) = (fun _ => 0) ∧ hJ (mm_mks h kind len n) (hN h + j) = (fun _ => 0) ∧ hK (mm_mks h kind len n) (hN h + j) = kind ∧ hL (mm_mks h kind len n) (hN h + j) = len
  | n + 1, j, hj => by
    show hI (mm_mk (mm_mks h kind len n) kind len) (hN h + j) = (fun _ => 0) ∧ hJ (mm_mk (mm_mks h kind len n) kind len) (hN h + j) = (fun _ => 0) ∧ hK (mm_mk (mm_mks h kind len n) kind len) (hN h + j) = kind ∧ hL (mm_mk (mm_mks h kind len n) kind len) (hN h + j) = len
    have hN' := mm_mks_N h kind len n
    by_cases e : j = n
    · subst e
      refine ⟨?_, ?_, ?_, ?_⟩
      · show mm_row (hI _) (hN (mm_mks h kind len j)) _ _ = _; rw [hN', mm_row_eq]
      · show mm_row (hJ _) (hN (mm_mks h kind len j)) _ _ = _; rw [hN', mm_row_eq]
      · show mm_u1 (hK _) (hN (mm_mks h kind len j)) kind _ = _; rw [hN']; exact if_pos rfl
      · show mm_u1 (hL _) (hN (mm_mks h kind len j)) len _ = _; rw [hN']; exact if_pos rfl
    · obtain ⟨i1, i2, i3, i4⟩ := mm_mks_in h kind len n j (by omega)
      refine ⟨?_, ?_, ?_, ?_⟩
      · show mm_row (hI _) (hN (mm_mks h kind len n)) _ _ = _; rw [hN', mm_row_ne (by omega), i1]
      · show mm_row (hJ _) (hN (mm_mks h kind len n)) _ _ = _; rw [hN', mm_row_ne (by omega), i2]
      · show mm_u1 (hK _) (hN (mm_mks h kind len n)) kind _ = _; rw [hN', show mm_u1 (hK (mm_mks h kind len n)) (hN h + n) kind (hN h + j) = hK (mm_mks h kind len n) (hN h + j) from if_neg (by omega), i3]
      · show mm_u1 (hL _) (hN (mm_mks h kind len n)) len _ = _; rw [hN', show mm_u1 (hL (mm_mks h kind len n)) (hN h + n) len (hN h + j) = hL (mm_mks h kind len n) (hN h + j) from if_neg (by omega), i4]
theorem mm_mks_old (h : MH) (kind len : Nat) : ∀ (n k : Nat), k < hN h ∨ hN h + n ≤ k → hI (mm_mks h kind len n) k = hI h k ∧ hJ (mm_mks h kind len n) k = hJ h k ∧ hR (mm_mks h kind len n) k = hR h k ∧ hK (mm_mks h kind len n) k = hK h k ∧ hL (mm_mks h kind len n) k = hL h k
  | 0, k, _ => ⟨rfl, rfl, rfl, rfl, rfl⟩
  | n + 1, k, hk => by
    obtain ⟨i1, i2, i3, i4, i5⟩ := mm_mks_old h kind len n k (by omega)
    have hN' := mm_mks_N h kind len n
    have hne : k ≠ hN (mm_mks h kind len n) := by omega
    refine ⟨?_, ?_, ?_, ?_, ?_⟩
    · show mm_row (hI _) _ _ k = _; rw [mm_row_ne hne, i1]
    · show mm_row (hJ _) _ _ k = _; rw [mm_row_ne hne, i2]
    · show mm_row (hR _) _ _ k = _; rw [mm_row_ne hne, i3]
    · show mm_u1 (hK _) _ _ k = _; rw [show mm_u1 (hK (mm_mks h kind len n)) (hN (mm_mks h kind len n)) kind k = _ from if_neg hne, i4]
    · show mm_u1 (hL _) _ _ k = _; rw [show mm_u1 (hL (mm_mks h kind len n)) (hN (mm_mks h kind len n)) len k = _ from if_neg hne, i5]
/-- new T[n][m] -/
theorem ms_mult (hx : p.tables.exec = Jvm.exec) (hb : c.code = cc) {own idx ci : Nat} {ty : FieldType} {nm : String} (hci : (ci = 14 ∧ ty = .int ∧ nm = "[[I") ∨ (ci = 15 ∧ ty = .long ∧ nm = "[[J")) (hts : ∀ w ∈ mm_ws, w.before args s = true) (hown : s.vm.findClass (mm_on own) = some m.cls) (hcl : Jvm.Cond.classLink (mm_on own) idx nm ∈ tables_1) (hov : (Cond.arrayOver (.array ty)).before args s = true) (hVK : va_K D mm_C (mm_tys cy) s) (hH : mm_H D cy base b t Ls xs ps h H) (hS : va_S (mm_A base) s.heap H locs) {n k : Int32} (hn : ¬ n < 0) (hk : ¬ k < 0) (hn2 : n.toNatClampNeg ≤ 1000) (hk2 : k.toNatClampNeg ≤ 1000)
    (hcells : cells + (1 + n.toNatClampNeg) ≤ R.cells) (hslots : slots + (n.toNatClampNeg + n.toNatClampNeg * k.toNatClampNeg) ≤ R.slots) (hd : decode cc pc = .ok (.multianewarray idx 2, 4))
    (kk : ∀ H1, mm_H D cy base b t Ls xs ps ((fun g : MH => (hI g, hJ g, mm_row (hR g) (hN h) (fun j => if j < n.toNatClampNeg then some (hN h + 1 + j) else none), hK g, hL g, hN g)) (mm_mks (mm_mk h ci n.toNatClampNeg) (ci - 5) k.toNatClampNeg n.toNatClampNeg)) H1 → va_S (mm_A base) s.heap H1 locs → W p l e R s m args below meth c H1 locs (cells + 1 + n.toNatClampNeg) (slots + n.toNatClampNeg + n.toNatClampNeg * k.toNatClampNeg) Q (F0 m (pc + 4) ls (.ref (mm_ad base b t (hN h)) :: rest))) : W p l e R s m args below meth c H locs cells slots Q (F0 m pc ls (.int k :: .int n :: rest)) := by
  rw [mm_adN hH] at kk
  generalize hNN : n.toNatClampNeg = N at *
  generalize hKK : k.toNatClampNeg = K at *
  have hnm : nm = "[" ++ (FieldType.array ty).toString := by rcases hci with ⟨-, rfl, rfl⟩ | ⟨-, rfl, rfl⟩ <;> rfl
  have hac : (Cond.arrayClass ty).before args s = true := by
    rcases hci with ⟨-, rfl, -⟩ | ⟨-, rfl, -⟩
    · exact hts _ (mm_in_ws ck_a1.1 rfl)
    · exact hts _ (mm_in_ws ck_a1.2.1 rfl)
  have hcb : componentBytes ty ≤ 8 := by rcases hci with ⟨-, rfl, -⟩ | ⟨-, rfl, -⟩ <;> decide
  have hkb : K * componentBytes ty ≤ 536870912 := Nat.le_trans (Nat.mul_le_mul hk2 hcb) (by omega)
  subst hnm
  intro T hT X
  obtain ⟨vm₁, cA, comp, -, fA, fC, hO, -, X', step⟩ := X.multianewarray2F hx hown (hts _ (mm_in_ws hcl rfl)) hov hac (g := F0 m pc ls (.int k :: .int n :: rest)) rfl (by rw [hb]; exact hd) rfl hn hk (by rw [hNN]; omega) (by rw [hKK]; exact hkb) (by rw [hKK]; omega) (by rcases hci with ⟨-, rfl, -⟩ | ⟨-, rfl, -⟩ <;> rfl) (by rcases hci with ⟨-, rfl, -⟩ | ⟨-, rfl, -⟩ <;> rfl) (by rw [hNN]; exact hcells) (by rw [hNN, hKK]; exact hslots)
  rw [hNN, hKK] at X' step
  generalize hF : Jvm.Free.Multi.fill (T.setVm vm₁) cA comp N K (defaultValue ty) N = F at X' step
  have hTh : (T.setVm vm₁).heap = H := hT
  obtain ⟨f1, f2, -, -⟩ := Jvm.Free.Multi.fill_facts (T.setVm vm₁) cA comp N K (defaultValue ty) N
  rw [hF, hTh] at f1 f2
  have hold : ∀ x : Nat, x < H.size → F.heap[x]? = H[x]? := fun x hx => by
    have := Jvm.Free.Multi.fill_old (T.setVm vm₁) cA comp N K (defaultValue ty) (a := x) (by rw [hTh]; exact hx) N
    rw [hF, hTh] at this
    exact this
  have hrow : ∀ j : Nat, j < N → F.heap[H.size + 1 + j]? = some (Jvm.Free.Multi.innerC comp K (defaultValue ty)) := fun j hj => by
    have := Jvm.Free.Multi.fill_inner (T.setVm vm₁) cA comp N K (defaultValue ty) N j hj
    rw [hF, hTh] at this
    exact this
  have hcA : cy ci = cA ∧ cy (ci - 5) = comp := by
    rcases hci with ⟨rfl, rfl, -⟩ | ⟨rfl, rfl, -⟩
    · exact ⟨Option.some.inj ((show s.vm.findClass "[[I" = some (cy 14) from (hVK.2 5 _ rfl).2).symm.trans fA), Option.some.inj ((show s.vm.findClass "[I" = some (cy 9) from (hVK.2 0 _ rfl).2).symm.trans fC)⟩
    · exact ⟨Option.some.inj ((show s.vm.findClass "[[J" = some (cy 15) from (hVK.2 6 _ rfl).2).symm.trans fA), Option.some.inj ((show s.vm.findClass "[J" = some (cy 10) from (hVK.2 1 _ rfl).2).symm.trans fC)⟩
  have hci2 : ci = 14 ∨ ci = 15 := by rcases hci with ⟨h, -, -⟩ | ⟨h, -, -⟩ <;> omega
  have hHH := hH
  obtain ⟨⟨g1, g2⟩, ⟨g3, g4, g5, g6⟩, ⟨g7, g8, g9, g10⟩, hP⟩ := hH
  have m1 : hN (mm_mk h ci N) = hN h + 1 := rfl
  have key : mm_H D cy base b t Ls xs ps ((fun g : MH => (hI g, hJ g, mm_row (hR g) (hN h) (fun j => if j < N then some (hN h + 1 + j) else none), hK g, hL g, hN g)) (mm_mks (mm_mk h ci N) (ci - 5) K N)) F.heap := by
    have o := fun k hk => mm_mks_old (mm_mk h ci N) (ci - 5) K N k hk
    have i9 := fun j hj => mm_mks_in (mm_mk h ci N) (ci - 5) K N j hj
    rw [m1] at o i9
    have nN := mm_mks_N (mm_mk h ci N) (ci - 5) K N
    rw [m1] at nN
    have q0 := o 0 (by omega)
    have q1 := o 1 (by omega)
    have e0 : (0 : Nat) ≠ hN h := by omega
    have e1 : (1 : Nat) ≠ hN h := by omega
    refine ⟨⟨?_, ?_⟩, ⟨?_, ?_, ?_, ?_⟩, ⟨?_, ?_, ?_, ?_⟩, ?_⟩
    · show 2 ≤ hN (mm_mks (mm_mk h ci N) (ci - 5) K N); omega
    · show F.heap.size = base + (hN (mm_mks (mm_mk h ci N) (ci - 5) K N) - 2); omega
    · show hK (mm_mks (mm_mk h ci N) (ci - 5) K N) 0 = 20; rw [q0.2.2.2.1, show hK (mm_mk h ci N) 0 = hK h 0 from if_neg e0]; exact g3
    · show hK (mm_mks (mm_mk h ci N) (ci - 5) K N) 1 = 21; rw [q1.2.2.2.1, show hK (mm_mk h ci N) 1 = hK h 1 from if_neg e1]; exact g4
    · intro a ha
      have ha' : hN (mm_mks (mm_mk h ci N) (ci - 5) K N) ≤ a := ha
      show hK (mm_mks (mm_mk h ci N) (ci - 5) K N) a = 99
      rw [(o a (by omega)).2.2.2.1, show hK (mm_mk h ci N) a = hK h a from if_neg (by omega)]
      exact g5 a (by omega)
    · intro a h2 ha
      have ha' : a < hN (mm_mks (mm_mk h ci N) (ci - 5) K N) := ha
      show hK (mm_mks (mm_mk h ci N) (ci - 5) K N) a ≤ 15
      by_cases hh : a < hN h + 1
      · rw [(o a (Or.inl hh)).2.2.2.1]
        by_cases he : a = hN h
        · rw [show hK (mm_mk h ci N) a = ci from if_pos he]; omega
        · rw [show hK (mm_mk h ci N) a = hK h a from if_neg he]; exact g6 a h2 (by omega)
      · obtain ⟨j, rfl⟩ : ∃ j, a = hN h + 1 + j := ⟨a - (hN h + 1), by omega⟩
        rw [(i9 j (by omega)).2.2.1]; omega
    · show hL (mm_mks (mm_mk h ci N) (ci - 5) K N) 0 = Ls; rw [q0.2.2.2.2, show hL (mm_mk h ci N) 0 = hL h 0 from if_neg e0]; exact g7
    · show hI (mm_mks (mm_mk h ci N) (ci - 5) K N) 0 = xs; rw [q0.1, show hI (mm_mk h ci N) 0 = hI h 0 from mm_row_ne e0]; exact g8
    · show hL (mm_mks (mm_mk h ci N) (ci - 5) K N) 1 = 6; rw [q1.2.2.2.2, show hL (mm_mk h ci N) 1 = hL h 1 from if_neg e1]; exact g9
    · show hJ (mm_mks (mm_mk h ci N) (ci - 5) K N) 1 = ps; rw [q1.2.1, show hJ (mm_mk h ci N) 1 = hJ h 1 from mm_row_ne e1]; exact g10
    · rw [mm_wl_P] at hP ⊢
      intro a h2 ha
      have ha' : a < hN (mm_mks (mm_mk h ci N) (ci - 5) K N) := ha
      have hce : ∀ a, a ≠ hN h → mm_ce cy (mm_ad base b t) ((fun g : MH => (hI g, hJ g, mm_row (hR g) (hN h) (fun j => if j < N then some (hN h + 1 + j) else none), hK g, hL g, hN g)) (mm_mks (mm_mk h ci N) (ci - 5) K N)) a = mm_ce cy (mm_ad base b t) (mm_mks (mm_mk h ci N) (ci - 5) K N) a := by
        intro a hne
        unfold mm_ce mm_fv
        simp only [hI, hJ, hR, hK, hL]
        rw [mm_row_ne hne]
      by_cases he : a = hN h
      · subst he
        have oa := o (hN h) (by omega)
        have hka : hK (mm_mks (mm_mk h ci N) (ci - 5) K N) (hN h) = ci := by rw [oa.2.2.2.1]; exact if_pos rfl
        have hla : hL (mm_mks (mm_mk h ci N) (ci - 5) K N) (hN h) = N := by rw [oa.2.2.2.2]; exact if_pos rfl
        rw [mm_ce_q (by show 12 ≤ hK (mm_mks (mm_mk h ci N) (ci - 5) K N) (hN h); rw [hka]; omega)]
        show F.heap[base + (hN h - 2)]? = some (arrV (cy (hK (mm_mks (mm_mk h ci N) (ci - 5) K N) (hN h))) (hL (mm_mks (mm_mk h ci N) (ci - 5) K N) (hN h)) (fun j => va_rf (Option.map (mm_ad base b t) (mm_row (hR (mm_mks (mm_mk h ci N) (ci - 5) K N)) (hN h) (fun j => if j < N then some (hN h + 1 + j) else none) (hN h) j))))
        rw [hka, hla, mm_row_eq, hcA.1, ← g2, f2]
        rw [vr_outer]
        congr 2
        funext j
        by_cases hj : j < N
        · rw [if_pos hj, if_pos hj]
          show Value.ref (H.size + 1 + j) = Value.ref (mm_ad base b t (hN h + 1 + j))
          have hq : mm_ad base b t (hN h + 1 + j) = H.size + 1 + j := by
            unfold mm_ad
            rw [if_neg (by omega), if_neg (by omega)]
            omega
          rw [hq]
        · rw [if_neg hj, if_neg hj]
          rfl
      · rw [hce a he]
        by_cases hh : a < hN h
        · rw [mm_mks_ce _ _ _ _ (by rw [m1]; omega), mm_ce_mk he]
          refine mm_at_kept (hP a h2 hh) (hold _ ?_)
          show base + (a - 2) < H.size
          omega
        · obtain ⟨j, rfl⟩ : ∃ j, a = hN h + 1 + j := ⟨a - (hN h + 1), by omega⟩
          obtain ⟨i1, i2, i3, i4⟩ := i9 j (by omega)
          have hr := hrow j (by omega)
          rw [show base + (hN h + 1 + j - 2) = H.size + 1 + j by omega]
          rcases hci with ⟨rfl, rfl, -⟩ | ⟨rfl, rfl, -⟩
          · rw [mm_ce_i (by rw [i3]; omega), i1, i3, i4, hcA.2]
            show F.heap[H.size + 1 + j]? = some (arrV comp K (fun _ => .int 0))
            rw [hr, ← arrV_new]
            rfl
          · rw [mm_ce_l (by rw [i3]), i2, i3, i4, hcA.2]
            show F.heap[H.size + 1 + j]? = some (arrV comp K (fun _ => .long 0))
            rw [hr, ← arrV_new]
            rfl
  obtain ⟨t9, a1, b1⟩ := kk F.heap key ⟨by have := hS.1; omega, fun q h1 h2 => (hold q (Nat.lt_of_lt_of_le h1 hS.1)).trans (hS.2.1 q h1 h2), hS.2.2⟩ F rfl X'
  refine ⟨t9, step t9 ?_, b1⟩
  rw [hT]
  exact a1
end MMP
