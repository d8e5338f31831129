/-! WRITES -/
theorem mm_asg (vm : Vm) (c : ClassId) : vm.assignable c c = true := by
  show Vm.assignableAux vm (255 + 1) c c = true
  rw [Vm.assignableAux, beq_self_eq_true, Bool.true_or]
section MMS
variable {p : Program} {l : Launch} {e : Env} {R : Room} {s : State} {m : MethodId} {args : Array Value} {below : List Frame} {meth : Method} {c : Code} {H : Heap} {locs : List Loc} {cells slots : Nat} {Q : State → Prop}
variable {cc : ByteArray} {pc : Nat} {ls : Array Slot} {rest : List Value} {D : va_G} {cy : Nat → ClassId} {base b t Ls : Nat} {xs : Nat → Int32} {ps : Nat → Int64} {h : MH}
theorem mm_Aof {base b t a : Nat} (h : mm_ad base b t a = base + (a - 2)) : mm_A base (mm_ad base b t a) := by rw [h]; exact Nat.le_add_right _ _
theorem ms_iast (hx : p.tables.exec = Jvm.exec) (hb : c.code = cc) {a : Nat} {x v : Int32} (hVK : va_K D mm_C (mm_tys cy) s) (hH : mm_H D cy base b t Ls xs ps h H) (hS : va_S (mm_A base) s.heap H locs) (hk : hK h a = 9) (hi : mm_in x (hL h a) = true) (hd : decode cc pc = .ok (.iastore, 1))
    (kk : ∀ H1 locs1, mm_H D cy base b t Ls xs ps (putI h a x.toNatClampNeg v) H1 → va_S (mm_A base) s.heap H1 locs1 → W p l e R s m args below meth c H1 locs1 cells slots Q (F0 m (pc + 1) ls rest)) : W p l e R s m args below meth c H locs cells slots Q (F0 m pc ls (.int v :: .int x :: .ref (mm_ad base b t a) :: rest)) := by
  obtain ⟨ha2, han, hae, hget⟩ := hH.mem (a := a) (by omega)
  rw [mm_ce_i (Or.inl hk), hk] at hget
  have hin := mm_in_iff.mp hi
  have hcell : H[mm_ad base b t a]? = some (arrV (cy 9) (hL h a) (fun j => .int (hI h a j))) := hH.2.2.2 _ _ hget
  refine W.iast hx hb hcell ((hVK.2 0 _ rfl).1 _ _) (fun q => by cases q) (by rw [arrV_size]; exact hin) rfl rfl hd fun H1 e1 z oq => ?_
  refine kk H1 _ (hH.upd (h' := putI h a x.toNatClampNeg v) (a := a) (by omega) rfl rfl rfl (mm_up_ne (by omega)) rfl (fun k hk => mm_ce_putI hk) z oq ?_) (hS.put z oq (mm_Aof hae))
  rw [mm_ce_i (h := putI h a x.toNatClampNeg v) (Or.inl hk)]
  show H1[_]? = some (arrV (cy (hK h a)) (hL h a) (fun j => .int (mm_up (hI h) a x.toNatClampNeg v a j)))
  rw [e1, arrV_store, mm_up_eq, hk]
  congr 2
  funext j
  by_cases hj : j = x.toNatClampNeg <;> simp [updV, hj, va_rf]
theorem ms_zast (hx : p.tables.exec = Jvm.exec) (hb : c.code = cc) {a : Nat} {x v : Int32} (hVK : va_K D mm_C (mm_tys cy) s) (hH : mm_H D cy base b t Ls xs ps h H) (hS : va_S (mm_A base) s.heap H locs) (hk : hK h a = 11) (hi : mm_in x (hL h a) = true) (hv : v = 0 ∨ v = 1) (hd : decode cc pc = .ok (.bastore, 1))
    (kk : ∀ H1 locs1, mm_H D cy base b t Ls xs ps (putI h a x.toNatClampNeg v) H1 → va_S (mm_A base) s.heap H1 locs1 → W p l e R s m args below meth c H1 locs1 cells slots Q (F0 m (pc + 1) ls rest)) : W p l e R s m args below meth c H locs cells slots Q (F0 m pc ls (.int v :: .int x :: .ref (mm_ad base b t a) :: rest)) := by
  obtain ⟨ha2, han, hae, hget⟩ := hH.mem (a := a) (by omega)
  rw [mm_ce_i (Or.inr hk), hk] at hget
  have hin := mm_in_iff.mp hi
  have hn : narrow .boolean (.int v) = .int v := by rcases hv with rfl | rfl <;> rfl
  have hcell : H[mm_ad base b t a]? = some (arrV (cy 11) (hL h a) (fun j => .int (hI h a j))) := hH.2.2.2 _ _ hget
  refine W.zast hx hb hcell ((hVK.2 2 _ rfl).1 _ _) (fun q => by cases q) (by rw [arrV_size]; exact hin) rfl rfl hd fun H1 e1 z oq => ?_
  rw [hn] at e1
  refine kk H1 _ (hH.upd (h' := putI h a x.toNatClampNeg v) (a := a) (by omega) rfl rfl rfl (mm_up_ne (by omega)) rfl (fun k hk => mm_ce_putI hk) z oq ?_) (hS.put z oq (mm_Aof hae))
  rw [mm_ce_i (h := putI h a x.toNatClampNeg v) (Or.inr hk)]
  show H1[_]? = some (arrV (cy (hK h a)) (hL h a) (fun j => .int (mm_up (hI h) a x.toNatClampNeg v a j)))
  rw [e1, arrV_store, mm_up_eq, hk]
  congr 2
  funext j
  by_cases hj : j = x.toNatClampNeg <;> simp [updV, hj, va_rf]
theorem ms_last (hx : p.tables.exec = Jvm.exec) (hb : c.code = cc) {a : Nat} {x : Int32} {v : Int64} (hVK : va_K D mm_C (mm_tys cy) s) (hH : mm_H D cy base b t Ls xs ps h H) (hS : va_S (mm_A base) s.heap H locs) (hk : hK h a = 10) (hi : mm_in x (hL h a) = true) (hd : decode cc pc = .ok (.lastore, 1))
    (kk : ∀ H1 locs1, mm_H D cy base b t Ls xs ps (putJ h a x.toNatClampNeg v) H1 → va_S (mm_A base) s.heap H1 locs1 → W p l e R s m args below meth c H1 locs1 cells slots Q (F0 m (pc + 1) ls rest)) : W p l e R s m args below meth c H locs cells slots Q (F0 m pc ls (.long v :: .int x :: .ref (mm_ad base b t a) :: rest)) := by
  obtain ⟨ha2, han, hae, hget⟩ := hH.mem (a := a) (by omega)
  rw [mm_ce_l hk, hk] at hget
  have hin := mm_in_iff.mp hi
  have hcell : H[mm_ad base b t a]? = some (arrV (cy 10) (hL h a) (fun j => .long (hJ h a j))) := hH.2.2.2 _ _ hget
  refine W.last hx hb hcell ((hVK.2 1 _ rfl).1 _ _) (fun q => by cases q) (by rw [arrV_size]; exact hin) rfl rfl hd fun H1 e1 z oq => ?_
  refine kk H1 _ (hH.upd (h' := putJ h a x.toNatClampNeg v) (a := a) (by omega) rfl rfl rfl rfl (mm_up_ne (by omega)) (fun k hk => mm_ce_putJ hk) z oq ?_) (hS.put z oq (mm_Aof hae))
  rw [mm_ce_l (h := putJ h a x.toNatClampNeg v) hk]
  show H1[_]? = some (arrV (cy (hK h a)) (hL h a) (fun j => .long (mm_up (hJ h) a x.toNatClampNeg v a j)))
  rw [e1, arrV_store, mm_up_eq, hk]
  congr 2
  funext j
  by_cases hj : j = x.toNatClampNeg <;> simp [updV, hj, va_rf]
/-- a reference into a row of references -/
theorem ms_aast (hx : p.tables.exec = Jvm.exec) (hb : c.code = cc) {a v : Nat} {x : Int32} (hVK : va_K D mm_C (mm_tys cy) s) (hao : (Cond.arrayOver (.array .long)).before args s = true) (hH : mm_H D cy base b t Ls xs ps h H) (hS : va_S (mm_A base) s.heap H locs) (hk : (hK h a = 12 ∧ hK h v = 5) ∨ (hK h a = 13 ∧ hK h v = 6) ∨ (hK h a = 15 ∧ hK h v = 10)) (hi : mm_in x (hL h a) = true) (hd : decode cc pc = .ok (.aastore, 1))
    (kk : ∀ H1 locs1, mm_H D cy base b t Ls xs ps (putR h a x.toNatClampNeg (some v)) H1 → va_S (mm_A base) s.heap H1 locs1 → W p l e R s m args below meth c H1 locs1 cells slots Q (F0 m (pc + 1) ls rest)) : W p l e R s m args below meth c H locs cells slots Q (F0 m pc ls (.ref (mm_ad base b t v) :: .int x :: .ref (mm_ad base b t a) :: rest)) := by
  have ka : 12 ≤ hK h a ∧ hK h a ≤ 15 := by omega
  obtain ⟨ha2, han, hae, hget⟩ := hH.mem (a := a) (by omega)
  obtain ⟨hv2, hvn, hve, hgv⟩ := hH.mem (a := v) (by omega)
  rw [mm_ce_q (by omega)] at hget
  have hin := mm_in_iff.mp hi
  have hlt : x.toNatClampNeg < hL h a := Nat.not_le.mp fun q => hin (Or.inr q)
  have hcell : H[mm_ad base b t a]? = some (arrV (cy (hK h a)) (hL h a) (fun j => va_rf ((hR h a j).map (mm_ad base b t)))) := hH.2.2.2 _ _ hget
  have key : ∃ (kA : Class) (comp : ClassId) (ty : FieldType) (kc : Class) (cv : Cell), s.vm.classes[cy (hK h a)]? = some kA ∧ kA.kind = .array comp ty ∧ ty.isReference = true ∧ s.vm.classes[comp]? = some kc ∧ H[mm_ad base b t v]? = some cv ∧ (∀ q, cv.vm ≠ .statics q) ∧ cv.cls = comp := by
    rcases hk with ⟨k1, k2⟩ | ⟨k1, k2⟩ | ⟨k1, k2⟩
    · rw [mm_ce_ob (by omega), k2] at hgv
      obtain ⟨r, hr, cellV, g1, g2, g3, -⟩ := hH.2.2.2 _ _ hgv
      obtain ⟨T, hT, -⟩ := fx_cls (ci := 5) (by omega)
      have hcls := (hVK.1 5 _ hT).2
      obtain ⟨kA, comp, q1, q2, q3, -⟩ := (hVK.2 3 _ rfl).2
      have hcomp : comp = D.1 5 := Option.some.inj (q3.symm.trans hcls.1)
      subst hcomp
      obtain ⟨kC, hkC, -⟩ := hcls.2
      exact ⟨kA, _, _, kC, cellV, by rw [k1]; exact q1, q2, rfl, hkC, g1, (fun q h => by rw [g3] at h; cases h), g2⟩
    · rw [mm_ce_ob (by omega), k2] at hgv
      obtain ⟨r, hr, cellV, g1, g2, g3, -⟩ := hH.2.2.2 _ _ hgv
      obtain ⟨T, hT, -⟩ := fx_cls (ci := 6) (by omega)
      have hcls := (hVK.1 6 _ hT).2
      obtain ⟨kA, comp, q1, q2, q3, -⟩ := (hVK.2 4 _ rfl).2
      have hcomp : comp = D.1 6 := Option.some.inj (q3.symm.trans hcls.1)
      subst hcomp
      obtain ⟨kC, hkC, -⟩ := hcls.2
      exact ⟨kA, _, _, kC, cellV, by rw [k1]; exact q1, q2, rfl, hkC, g1, (fun q h => by rw [g3] at h; cases h), g2⟩
    · rw [mm_ce_l k2, k2] at hgv
      obtain ⟨comp, c', k, f1, f3, f4, f5⟩ := Cond.arrayOver_specA hao
      have e1 : cy 15 = c' := Option.some.inj ((show s.vm.findClass "[[J" = some (cy 15) from (hVK.2 6 _ rfl).2).symm.trans f5)
      have e2 : cy 10 = comp := Option.some.inj ((show s.vm.findClass "[J" = some (cy 10) from (hVK.2 1 _ rfl).2).symm.trans f1)
      obtain ⟨-, kc, hkc, -⟩ := (hVK.2 1 _ rfl).1 0 (fun _ => .null)
      exact ⟨k, comp, _, kc, _, by rw [k1, e1]; exact f3, f4, rfl, by rw [← e2]; exact hkc, hH.2.2.2 _ _ hgv, (fun q h => by cases h), e2⟩
  obtain ⟨kA, comp, ty, kc, cv, q1, q2, q3, q4, q5, q6, q7⟩ := key
  refine W.aast hx hb hcell (fun q h => by cases h) (fun h => by cases h) q1 q2 q3 q4 ⟨fun q => hin (Or.inl q), by rw [arrV_size]; exact hlt⟩ q5 q6 (by rw [q7]; exact q4) (by rw [q7]; exact mm_asg _ _) rfl rfl hd fun H1 e1 z oq => ?_
  refine kk H1 _ (hH.upd (h' := putR h a x.toNatClampNeg (some v)) (a := a) (by omega) rfl rfl rfl rfl rfl (fun k hk => mm_ce_putR hk) z oq ?_) (hS.put z oq (mm_Aof hae))
  rw [mm_ce_q (h := putR h a x.toNatClampNeg (some v)) ka.1]
  show H1[_]? = some (arrV (cy (hK h a)) (hL h a) (fun j => va_rf ((mm_up (hR h) a x.toNatClampNeg (some v) a j).map (mm_ad base b t))))
  rw [e1, arrV_store, mm_up_eq]
  congr 2
  funext j
  by_cases hj : j = x.toNatClampNeg <;> simp [updV, hj, va_rf]
/-- System.arraycopy of longs, from the start of one row to the start of another -/
theorem ms_copy (hx : p.tables.exec = Jvm.exec) (hb : c.code = cc) (hml : c.maxLocals = ls.size) {own idx a v : Nat} {n : Int32} (hown : s.vm.findClass (mm_on own) = some m.cls) (hlink : (Cond.methodLink (mm_on own) idx arraycopyName).before args s = true) (hnat : (Cond.native arraycopyName).before args s = true) (hstat : (Cond.static arraycopyName).before args s = true) (hini : (Cond.initialized "java/lang/System").before args s = true)
    (hVK : va_K D mm_C (mm_tys cy) s) (hH : mm_H D cy base b t Ls xs ps h H) (hS : va_S (mm_A base) s.heap H locs) (ka : hK h a = 10) (kv : hK h v = 10) (h3 : ¬ n < 0) (h4 : n.toNatClampNeg ≤ hL h a) (h5 : n.toNatClampNeg ≤ hL h v) (hframes : 1 ≤ R.frames) (hlocals : (rest.map fun v => v.category).sum + 45 ≤ R.locals) (hd : decode cc pc = .ok (.invokestatic idx, 3))
    (kk : ∀ H1 locs1, mm_H D cy base b t Ls xs ps (rowJ h a (fun j => if j < n.toNatClampNeg then hJ h v j else hJ h a j)) H1 → va_S (mm_A base) s.heap H1 locs1 → W p l e R s m args below meth c H1 locs1 cells slots Q (F0 m (pc + 3) ls rest)) : W p l e R s m args below meth c H locs cells slots Q (F0 m pc ls (.int n :: .int 0 :: .ref (mm_ad base b t a) :: .int 0 :: .ref (mm_ad base b t v) :: rest)) := by
  have hnn : n.toInt = (n.toNatClampNeg : Int) := by
    have hz0 : (0 : Int) ≤ n.toInt := by
      have h9 : ¬ n.toInt < (0 : Int32).toInt := fun q => h3 (Int32.lt_iff_toInt_lt.mpr q)
      have : (0 : Int32).toInt = 0 := rfl
      omega
    show n.toInt = (n.toInt.toNat : Int)
    omega
  obtain ⟨ha2, han, hae, hget⟩ := hH.mem (a := a) (by omega)
  obtain ⟨hv2, hvn, hve, hgv⟩ := hH.mem (a := v) (by omega)
  rw [mm_ce_l ka, ka] at hget
  rw [mm_ce_l kv, kv] at hgv
  have hca : H[mm_ad base b t a]? = some (arrV (cy 10) (hL h a) (fun j => .long (hJ h a j))) := hH.2.2.2 _ _ hget
  have hcv : H[mm_ad base b t v]? = some (arrV (cy 10) (hL h v) (fun j => .long (hJ h v j))) := hH.2.2.2 _ _ hgv
  obtain ⟨-, k0, hk0, cm0, hkk0⟩ := (hVK.2 1 _ rfl).1 0 (fun _ => .null)
  have e8 : nativeFrameWords "java/lang/System" "arraycopy" 5 + 11 ≤ 45 := by decide +kernel
  intro T hT X
  obtain ⟨vm', X', step⟩ := X.arraycopy hx hown hlink hnat hstat hini (src := mm_ad base b t v) (dst := mm_ad base b t a) (cs := arrV (cy 10) (hL h v) (fun j => .long (hJ h v j))) (cd := arrV (cy 10) (hL h a) (fun j => .long (hJ h a j))) (srcPos := 0) (destPos := 0) (n := n) (by rw [hT]; exact hcv) (by rw [hT]; exact hca)
    (fun _ h => by cases h) (fun _ h => by cases h) (fun h => by cases h) (fun h => by cases h) hk0 hk0 hkk0 hkk0 (by rfl) (by decide) (by decide) h3
    (by rw [hnn, arrV_size]; show ¬ (0 : Int) + _ > _; omega)
    (by rw [hnn, arrV_size]; show ¬ (0 : Int) + _ > _; omega)
    (fun vm₁ _ i hi => by
      have e9 : (arrV (cy 10) (hL h v) (fun j => .long (hJ h v j))).slots.getD ((0 : Int32).toNatClampNeg + i) .null = .long (hJ h v ((0 : Int32).toNatClampNeg + i)) := by
        rw [Array.getD_eq_getD_getElem?, arrV_read _ _ (by show (0 : Int32).toNatClampNeg + i < _; have : (0 : Int32).toNatClampNeg = 0 := rfl; omega)]
        rfl
      rw [e9]
      exact ⟨rfl, trivial⟩)
    (g := F0 m pc ls (.int n :: .int 0 :: .ref (mm_ad base b t a) :: .int 0 :: .ref (mm_ad base b t v) :: rest)) rfl (by rw [hml]) (rest := rest) rfl (by rw [hb]; exact hd) hframes (by show 2 * 0 + _ + _ ≤ _; omega)
  have e1 : copied (arrV (cy 10) (hL h v) (fun j => .long (hJ h v j))) (arrV (cy 10) (hL h a) (fun j => .long (hJ h a j))) 0 0 n = arrV (cy 10) (hL h a) (fun j => .long (va_cpy (hJ h v) (hJ h a) 0 0 n.toNatClampNeg j)) := va_copied (fun z => .long z) (cy 10) (cy 10) (sp := 0) (dp := 0) (hJ h v) (hJ h a) (by omega)
  rw [e1] at X' step
  have hlt : mm_ad base b t a < H.size := (Array.getElem?_eq_some_iff.mp hca).1
  have hheap : ((T.setVm vm').setCell (mm_ad base b t a) (arrV (cy 10) (hL h a) (fun j => .long (va_cpy (hJ h v) (hJ h a) 0 0 n.toNatClampNeg j)))).heap = H.setIfInBounds (mm_ad base b t a) (arrV (cy 10) (hL h a) (fun j => .long (va_cpy (hJ h v) (hJ h a) 0 0 n.toNatClampNeg j))) := by rw [← hT]; rfl
  have oq : ∀ q : Nat, q ≠ mm_ad base b t a → (H.setIfInBounds (mm_ad base b t a) (arrV (cy 10) (hL h a) (fun j => .long (va_cpy (hJ h v) (hJ h a) 0 0 n.toNatClampNeg j))))[q]? = H[q]? := fun q hq => by simp [Array.getElem?_setIfInBounds, Ne.symm hq]
  have z : (H.setIfInBounds (mm_ad base b t a) (arrV (cy 10) (hL h a) (fun j => .long (va_cpy (hJ h v) (hJ h a) 0 0 n.toNatClampNeg j)))).size = H.size := by simp
  obtain ⟨t9, a1, b1⟩ := kk _ _ (hH.upd (h' := rowJ h a (fun j => if j < n.toNatClampNeg then hJ h v j else hJ h a j)) (a := a) (by omega) rfl rfl rfl rfl (mm_row_ne (by omega)) (fun k hk => mm_ce_rowJ hk) z oq (by
      rw [mm_ce_l (h := rowJ h a (fun j => if j < n.toNatClampNeg then hJ h v j else hJ h a j)) ka]
      show (H.setIfInBounds _ _)[_]? = some (arrV (cy (hK h a)) (hL h a) (fun j => .long (mm_row (hJ h) a (fun j => if j < n.toNatClampNeg then hJ h v j else hJ h a j) a j)))
      rw [mm_row_eq, ka]
      simp only [Array.getElem?_setIfInBounds, hlt, if_true]
      congr 2
      funext j
      unfold va_cpy
      simp)) ⟨by rw [z]; exact hS.1, fun q g1 g2 => by
      rw [oq q (fun e => g2 (by rw [e]; exact mm_Aof hae))]
      exact hS.2.1 q g1 g2, fun q hq => by
      rcases List.mem_append.mp hq with h | h
      · exact hS.2.2 q h
      · obtain ⟨z, -, hz⟩ := List.mem_map.mp h
        rw [← hz]
        exact mm_Aof hae⟩ _ hheap X'
  exact ⟨t9, step t9 a1, b1⟩
end MMS
