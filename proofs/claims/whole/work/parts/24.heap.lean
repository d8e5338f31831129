/-! THE HEAP'S INSTRUCTIONS -/
theorem mm_ce_ob {cy : Nat → ClassId} {ad : Nat → Nat} {h : MH} {a : Nat} (hk : hK h a ≤ 8) : mm_ce cy ad h a = .inr (hK h a, (List.range (mm_cN (hK h a))).map (fun f => mm_tv ad (mm_fv h a (hK h a) f))) := by unfold mm_ce; rw [if_pos hk]
theorem mm_ce_i {cy : Nat → ClassId} {ad : Nat → Nat} {h : MH} {a : Nat} (hk : hK h a = 9 ∨ hK h a = 11) : mm_ce cy ad h a = .inl (cy (hK h a), hL h a, .inl (hI h a)) := by
  unfold mm_ce; rw [if_neg (by omega), if_pos hk]
theorem mm_ce_l {cy : Nat → ClassId} {ad : Nat → Nat} {h : MH} {a : Nat} (hk : hK h a = 10) : mm_ce cy ad h a = .inl (cy (hK h a), hL h a, .inr (.inl (hJ h a))) := by
  unfold mm_ce; rw [if_neg (by omega), if_neg (by omega), if_pos hk]
theorem mm_ce_q {cy : Nat → ClassId} {ad : Nat → Nat} {h : MH} {a : Nat} (hk : 12 ≤ hK h a) : mm_ce cy ad h a = .inl (cy (hK h a), hL h a, .inr (.inr (.inr (.inr (fun j => (hR h a j).map ad))))) := by
  unfold mm_ce; rw [if_neg (by omega), if_neg (by omega), if_neg (by omega)]
theorem mm_in_iff {x : Int32} {n : Nat} : mm_in x n = true ↔ ¬ (x < 0 ∨ n ≤ x.toNatClampNeg) := by
  unfold mm_in
  rw [Bool.and_eq_true, Bool.not_eq_true', decide_eq_false_iff_not]
  constructor
  · rintro ⟨h1, h2⟩ (h3 | h3)
    · exact h1 h3
    · have := Nat.le_of_ble_eq_true h2; omega
  · intro h
    exact ⟨fun h1 => h (Or.inl h1), Nat.ble_eq_true_of_le (Nat.lt_of_not_le fun h1 => h (Or.inr h1))⟩
/-- the world behind one write -/
theorem mm_H.upd {D : va_G} {cy : Nat → ClassId} {base b t Ls : Nat} {xs : Nat → Int32} {ps : Nat → Int64} {h h' : MH} {H H1 : Heap} (hH : mm_H D cy base b t Ls xs ps h H) {a : Nat} (ha : hK h a ≤ 15) (e1 : hN h' = hN h) (e2 : hK h' = hK h) (e3 : hL h' = hL h) (e4 : hI h' 0 = hI h 0) (e5 : hJ h' 1 = hJ h 1)
    (ho : ∀ k, k ≠ a → mm_ce cy (mm_ad base b t) h' k = mm_ce cy (mm_ad base b t) h k) (z : H1.size = H.size) (oq : ∀ q : Nat, q ≠ mm_ad base b t a → H1[q]? = H[q]?) (he : va_at D mm_C (mm_ad base b t a, mm_ce cy (mm_ad base b t) h' a) H1) : mm_H D cy base b t Ls xs ps h' H1 := by
  obtain ⟨ha2, han, hae, hget⟩ := hH.mem ha
  obtain ⟨⟨g1, g2⟩, ⟨g3, g4, g5, g6⟩, ⟨g7, g8, g9, g10⟩, hP⟩ := hH
  refine ⟨⟨by rw [e1]; exact g1, by rw [e1, z]; exact g2⟩, ⟨by rw [e2]; exact g3, by rw [e2]; exact g4, by rw [e1, e2]; exact g5, by rw [e1, e2]; exact g6⟩, ⟨by rw [e3]; exact g7, by rw [e4]; exact g8, by rw [e3]; exact g9, by rw [e5]; exact g10⟩, ?_⟩
  have h2 := hP.set (mm_wl_D) hget he oq
  rw [hae, mm_wl_set (h' := h') e1 (by rw [show a - 2 + 2 = a by omega]) (fun k hk => ho k (by omega))] at h2
  exact h2
theorem mm_up_ne {α : Type} {f : Nat → Nat → α} {a k c : Nat} {v : α} (h : c ≠ a) : mm_up f a k v c = f c := funext fun j => if_neg fun e => h e.1
theorem mm_up_eq {α : Type} {f : Nat → Nat → α} {a k : Nat} {v : α} : mm_up f a k v a = fun j => if j = k then v else f a j := by
  funext j
  unfold mm_up
  by_cases h : j = k
  · rw [if_pos ⟨rfl, h⟩, if_pos h]
  · rw [if_neg (fun e => h e.2), if_neg h]
theorem mm_row_ne {α : Type} {f : Nat → Nat → α} {a c : Nat} {g : Nat → α} (h : c ≠ a) : mm_row f a g c = f c := funext fun j => if_neg h
theorem mm_row_eq {α : Type} {f : Nat → Nat → α} {a : Nat} {g : Nat → α} : mm_row f a g a = g := funext fun j => if_pos rfl
section MMH
variable {p : Program} {l : Launch} {e : Env} {R : Room} {s : State} {m : MethodId} {args : Array Value} {below : List Frame} {meth : Method} {c : Code} {H : Heap} {locs : List Loc} {cells slots : Nat} {Q : State → Prop}
variable {cc : ByteArray} {pc : Nat} {ls : Array Slot} {rest : List Value} {D : va_G} {cy : Nat → ClassId} {base b t Ls : Nat} {xs : Nat → Int32} {ps : Nat → Int64} {h : MH}
theorem ms_get (hx : p.tables.exec = Jvm.exec) (hb : c.code = cc) {own idx ci f a : Nat} (hts : ∀ w ∈ mm_ws, w.before args s = true) (hown : s.vm.findClass (mm_on own) = some m.cls) (hVK : va_K D mm_C (mm_tys cy) s) (hH : mm_H D cy base b t Ls xs ps h H) (hf : mm_fld own idx = some (ci, f)) (hk : hK h a = ci) (hd : decode cc pc = .ok (.getfield idx, 3))
    (kk : W p l e R s m args below meth c H locs cells slots Q (F0 m (pc + 3) ls (mm_tv (mm_ad base b t) (mm_fv h a ci f) :: rest))) : W p l e R s m args below meth c H locs cells slots Q (F0 m pc ls (.ref (mm_ad base b t a) :: rest)) := by
  obtain ⟨h1, h2, h3⟩ := fx_fld hf
  obtain ⟨T, hT, hin, -, hkk⟩ := fx_cls h1
  subst hk
  obtain ⟨ha2, han, hae, hget⟩ := hH.mem (Nat.le_trans h1 (by omega))
  rw [mm_ce_ob h1] at hget
  refine va_get (D := D) (cl := mm_C) (tys := mm_tys cy) (C := mm_on (hK h a)) (T := T) (N := mm_cN (hK h a)) hx hb hts hin hown hVK hH.2.2.2 (a - 2) hget hT f h2 (hts _ (h3 T hT)) (fun _ h9 => h9) ?_ hd kk
  rw [List.getElem?_map, List.getElem?_range h2]
  rfl
theorem ms_iald (hx : p.tables.exec = Jvm.exec) (hb : c.code = cc) {a : Nat} {x : Int32} (hVK : va_K D mm_C (mm_tys cy) s) (hH : mm_H D cy base b t Ls xs ps h H) (hk : hK h a = 9) (hi : mm_in x (hL h a) = true) (hd : decode cc pc = .ok (.iaload, 1))
    (kk : W p l e R s m args below meth c H locs cells slots Q (F0 m (pc + 1) ls (.int (hI h a x.toNatClampNeg) :: rest))) : W p l e R s m args below meth c H locs cells slots Q (F0 m pc ls (.int x :: .ref (mm_ad base b t a) :: rest)) := by
  obtain ⟨ha2, han, hae, hget⟩ := hH.mem (a := a) (by omega)
  rw [mm_ce_i (Or.inl hk), hk] at hget
  exact va_iald hx hb hVK hH.2.2.2 (a - 2) 0 hget rfl (mm_in_iff.mp hi) hd kk
theorem ms_zald (hx : p.tables.exec = Jvm.exec) (hb : c.code = cc) {a : Nat} {x : Int32} (hVK : va_K D mm_C (mm_tys cy) s) (hH : mm_H D cy base b t Ls xs ps h H) (hk : hK h a = 11) (hi : mm_in x (hL h a) = true) (hd : decode cc pc = .ok (.baload, 1))
    (kk : W p l e R s m args below meth c H locs cells slots Q (F0 m (pc + 1) ls (.int (hI h a x.toNatClampNeg) :: rest))) : W p l e R s m args below meth c H locs cells slots Q (F0 m pc ls (.int x :: .ref (mm_ad base b t a) :: rest)) := by
  obtain ⟨ha2, han, hae, hget⟩ := hH.mem (a := a) (by omega)
  rw [mm_ce_i (Or.inr hk), hk] at hget
  exact va_zald hx hb hVK hH.2.2.2 (a - 2) 2 hget rfl (mm_in_iff.mp hi) hd kk
theorem ms_lald (hx : p.tables.exec = Jvm.exec) (hb : c.code = cc) {a : Nat} {x : Int32} (hVK : va_K D mm_C (mm_tys cy) s) (hH : mm_H D cy base b t Ls xs ps h H) (hk : hK h a = 10) (hi : mm_in x (hL h a) = true) (hd : decode cc pc = .ok (.laload, 1))
    (kk : W p l e R s m args below meth c H locs cells slots Q (F0 m (pc + 1) ls (.long (hJ h a x.toNatClampNeg) :: rest))) : W p l e R s m args below meth c H locs cells slots Q (F0 m pc ls (.int x :: .ref (mm_ad base b t a) :: rest)) := by
  obtain ⟨ha2, han, hae, hget⟩ := hH.mem (a := a) (by omega)
  rw [mm_ce_l hk, hk] at hget
  exact va_lald hx hb hVK hH.2.2.2 (a - 2) 1 hget rfl (mm_in_iff.mp hi) hd kk
theorem ms_aald (hx : p.tables.exec = Jvm.exec) (hb : c.code = cc) {a : Nat} {x : Int32} (hVK : va_K D mm_C (mm_tys cy) s) (hH : mm_H D cy base b t Ls xs ps h H) (hk : hK h a = 12 ∨ hK h a = 13 ∨ hK h a = 14 ∨ hK h a = 15) (hi : mm_in x (hL h a) = true) (hd : decode cc pc = .ok (.aaload, 1))
    (kk : W p l e R s m args below meth c H locs cells slots Q (F0 m (pc + 1) ls (mm_tv (mm_ad base b t) (mm_rv (hR h a x.toNatClampNeg)) :: rest))) : W p l e R s m args below meth c H locs cells slots Q (F0 m pc ls (.int x :: .ref (mm_ad base b t a) :: rest)) := by
  obtain ⟨ha2, han, hae, hget⟩ := hH.mem (a := a) (by omega)
  rw [mm_ce_q (by omega)] at hget
  rw [mm_tv_rv] at kk
  have hin := mm_in_iff.mp hi
  have hlt : x.toNatClampNeg < hL h a := Nat.not_le.mp fun q => hin (Or.inr q)
  have hcell : H[mm_ad base b t a]? = some (arrV (cy (hK h a)) (hL h a) (fun j => va_rf ((hR h a j).map (mm_ad base b t)))) := hH.2.2.2 _ _ hget
  have key : ∃ ty : FieldType, ty.isReference = true ∧ s.isArrayOf (arrV (cy (hK h a)) (hL h a) (fun j => va_rf ((hR h a j).map (mm_ad base b t)))) ty := by
    rcases hk with hk | hk | hk | hk <;> rw [hk]
    · exact ⟨.object "DrawnTold$Sum", rfl, (hVK.2 3 _ rfl).1 _ _⟩
    · exact ⟨.object "DrawnTold$Witness", rfl, (hVK.2 4 _ rfl).1 _ _⟩
    · exact ⟨.array .int, rfl, (hVK.2 5 _ rfl).1 _ _⟩
    · exact ⟨.array .long, rfl, (hVK.2 6 _ rfl).1 _ _⟩
  obtain ⟨ty, hty, harr⟩ := key
  exact W.aald (v := va_rf ((hR h a x.toNatClampNeg).map (mm_ad base b t))) hx hb hcell harr hty (fun q => by cases q) (by rw [arrV_size]; exact hin) (by rw [arrV_read _ _ hlt]) rfl rfl hd kk
theorem ms_alen (hx : p.tables.exec = Jvm.exec) (hb : c.code = cc) {a : Nat} (hVK : va_K D mm_C (mm_tys cy) s) (hH : mm_H D cy base b t Ls xs ps h H) (hk : 9 ≤ hK h a ∧ hK h a ≤ 15) (hd : decode cc pc = .ok (.arraylength, 1))
    (kk : W p l e R s m args below meth c H locs cells slots Q (F0 m (pc + 1) ls (.int (Int32.ofNat (hL h a)) :: rest))) : W p l e R s m args below meth c H locs cells slots Q (F0 m pc ls (.ref (mm_ad base b t a) :: rest)) := by
  obtain ⟨ha2, han, hae, hget⟩ := hH.mem (a := a) (by omega)
  have h7 : hK h a = 9 ∨ hK h a = 10 ∨ hK h a = 11 ∨ hK h a = 12 ∨ hK h a = 13 ∨ hK h a = 14 ∨ hK h a = 15 := by omega
  rcases h7 with h7 | h7 | h7 | h7 | h7 | h7 | h7
  · rw [mm_ce_i (Or.inl h7), h7] at hget; exact va_alen hx hb hVK hH.2.2.2 (a - 2) 0 hget rfl rfl hd kk
  · rw [mm_ce_l h7, h7] at hget; exact va_alen hx hb hVK hH.2.2.2 (a - 2) 1 hget rfl rfl hd kk
  · rw [mm_ce_i (Or.inr h7), h7] at hget; exact va_alen hx hb hVK hH.2.2.2 (a - 2) 2 hget rfl rfl hd kk
  · rw [mm_ce_q (by omega), h7] at hget; exact va_alen hx hb hVK hH.2.2.2 (a - 2) 3 hget rfl rfl hd kk
  · rw [mm_ce_q (by omega), h7] at hget; exact va_alen hx hb hVK hH.2.2.2 (a - 2) 4 hget rfl rfl hd kk
  · rw [mm_ce_q (by omega), h7] at hget; exact va_alen hx hb hVK hH.2.2.2 (a - 2) 5 hget rfl rfl hd kk
  · rw [mm_ce_q (by omega), h7] at hget; exact va_alen hx hb hVK hH.2.2.2 (a - 2) 6 hget rfl rfl hd kk
end MMH
