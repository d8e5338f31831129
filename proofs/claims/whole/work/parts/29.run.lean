/-! A RUN OF THE MINI-MACHINE IS A RUN OF THE MACHINE -/
def mm_rm (mid : Nat) : Room := { frames := mi_f (mm_of mid), cells := mi_mc (mm_of mid), slots := mi_ms (mm_of mid), locals := mi_w (mm_of mid) }
def mm_Pc (D : va_G) (cy : Nat → ClassId) (base b t Ls : Nat) (xs : Nat → Int32) (ps : Nat → Int64) (h : MH) (av : List Value) : Array Value → State → Prop := fun v U => v = (av.map (mm_tv (mm_ad base b t))).toArray ∧ mm_X2 D cy base b t Ls xs ps U ∧ mm_H D cy base b t Ls xs ps h U.heap
def mm_Qc (D : va_G) (cy : Nat → ClassId) (base b t Ls : Nat) (xs : Nat → Int32) (ps : Nat → Int64) (r : Option Value) (h : MH) : Array Value → State → Outcome → State → Prop := fun _ st oc u => oc = .returned (r.map (mm_tv (mm_ad base b t))) ∧ mm_H D cy base b t Ls xs ps h u.heap ∧ va_F (mm_A base) st u
theorem mm_slots_len (ad : Nat → Nat) : ∀ av : List Value, (lg_sl (av.map (mm_tv ad))).length = (mm_slots av).length
  | [] => rfl
  | v :: r => by
    have ih := mm_slots_len ad r
    show ((if (mm_tv ad v).category = 2 then [Slot.val (mm_tv ad v), Slot.second] else [Slot.val (mm_tv ad v)]) ++ lg_sl (r.map (mm_tv ad))).length = (bif Nat.beq v.category 2 then some v :: none :: mm_slots r else some v :: mm_slots r).length
    rw [mm_tv_cat]
    by_cases hc : v.category = 2
    · rw [if_pos hc, hc]
      simp [ih]
    · rw [if_neg hc, show Nat.beq v.category 2 = false by cases hb : Nat.beq v.category 2 with
        | false => rfl
        | true => exact absurd (Nat.eq_of_beq_eq_true hb) hc]
      simp [ih]
theorem mm_slots_get (ad : Nat → Nat) : ∀ (av : List Value) (i k : Nat) (v : Value), (mm_slots av)[k]? = some (some v) → (i + k, mm_tv ad v) ∈ lv_args i (av.map (mm_tv ad))
  | [], i, k, v, h => by simp [mm_slots] at h
  | w :: r, i, k, v, h => by
    show (i + k, mm_tv ad v) ∈ (i, mm_tv ad w) :: lv_args (if (mm_tv ad w).category = 2 then i + 2 else i + 1) (r.map (mm_tv ad))
    rw [mm_tv_cat]
    have h' : (bif Nat.beq w.category 2 then some w :: none :: mm_slots r else some w :: mm_slots r)[k]? = some (some v) := h
    by_cases hc : w.category = 2
    · rw [if_pos hc]
      rw [hc] at h'
      have h2 : (some w :: none :: mm_slots r)[k]? = some (some v) := h'
      match k, h2 with
      | 0, h2 => simp at h2; subst h2; exact List.mem_cons_self
      | 1, h2 => simp at h2
      | k + 2, h2 =>
        have h3 : (mm_slots r)[k]? = some (some v) := by simpa using h2
        have := mm_slots_get ad r (i + 2) k v h3
        rw [show i + (k + 2) = i + 2 + k by omega]
        exact List.mem_cons_of_mem _ this
    · rw [if_neg hc]
      rw [show Nat.beq w.category 2 = false by cases hb : Nat.beq w.category 2 with
        | false => rfl
        | true => exact absurd (Nat.eq_of_beq_eq_true hb) hc] at h'
      have h2 : (some w :: mm_slots r)[k]? = some (some v) := h'
      match k, h2 with
      | 0, h2 => simp at h2; subst h2; exact List.mem_cons_self
      | k + 1, h2 =>
        have h3 : (mm_slots r)[k]? = some (some v) := by simpa using h2
        have := mm_slots_get ad r (i + 1) k v h3
        rw [show i + (k + 1) = i + 1 + k by omega]
        exact List.mem_cons_of_mem _ this
theorem mm_ent_len {mid : Nat} {av : List Value} (h : (mm_slots av).length ≤ mi_l (mm_of mid)) : (mm_ent mid av).length = mi_l (mm_of mid) := by
  unfold mm_ent
  rw [List.length_append, List.length_replicate]
  omega
theorem mm_ent_Lr {mid : Nat} {av : List Value} {ad : Nat → Nat} (h : (mm_slots av).length ≤ mi_l (mm_of mid)) {ls : Array Slot} (hl : lv_has ls (mi_l (mm_of mid)) (lv_args 0 (av.map (mm_tv ad)))) : mm_Lr ad (mm_ent mid av) ls := by
  refine ⟨by rw [mm_ent_len h]; exact hl.1, hl.2.1, fun q hq => hl.2.2 q ?_⟩
  obtain ⟨v, hv, he⟩ := mm_lv_mem.mp hq
  unfold mm_ent at hv
  obtain ⟨k, w⟩ := q
  simp only at hv he
  subst he
  by_cases hk : k < (mm_slots av).length
  · rw [List.getElem?_append_left hk] at hv
    have := mm_slots_get ad av 0 k v hv
    rw [Nat.zero_add] at this
    exact this
  · rw [List.getElem?_append_right (by omega), List.getElem?_replicate] at hv
    split at hv <;> simp at hv
theorem mm_nx_no {pc : Nat} {L : ML} {st : List Value} {h : MH} {cu su : Nat} {x : MR ⊕ MC} : mm_nx pc L st h cu su ≠ some (.inr x) := fun z => by
  unfold mm_nx at z
  cases z
theorem mm_inv_no {mid own idx pc : Nat} {virt : Bool} {L : ML} {st : List Value} {h : MH} {cu su : Nat} {x : MR} : mm_inv mid own idx pc virt L st h cu su ≠ some (.inr (.inl x)) := fun z => by
  unfold mm_inv at z
  split at z
  · cases z
  · split at z
    · split at z
      · exact mm_nx_no z
      · cases z
    · cases z
  · split at z
    · split at z
      · exact mm_nx_no z
      · cases z
    · cases z
  · split at z
    · split at z
      · exact mm_nx_no z
      · cases z
    · cases z
  · rename_i m2 _ _ _ _
    cases hb2 : Nat.beq (mi_s (mm_of m2)) 1 <;> rw [hb2] at z <;> simp only [cond_true, cond_false] at z
    · split at z
      · split at z <;> cases z
      · cases z
    · split at z <;> cases z
set_option maxHeartbeats 4000000 in
/-- what does not go on by itself is a return or a call -/
theorem mm_stp_out {mid : Nat} {i : Instr} {len tgt pc : Nat} {L : ML} {st : List Value} {h : MH} {cu su : Nat} {z : MR ⊕ MC} (h1 : mm_stp mid i len tgt pc L st h cu su = some (.inr z)) : i = .ireturn ∨ i = .lreturn ∨ i = .return_ ∨ (∃ k, i = .invokevirtual k ∧ mm_inv mid (mi_c (mm_of mid)) k pc true L st h cu su = some (.inr z)) ∨ (∃ k, i = .invokespecial k ∧ mm_inv mid (mi_c (mm_of mid)) k pc true L st h cu su = some (.inr z)) ∨ (∃ k, i = .invokestatic k ∧ mm_inv mid (mi_c (mm_of mid)) k pc false L st h cu su = some (.inr z)) := by
  cases i with
  | ireturn => exact Or.inl rfl
  | lreturn => exact Or.inr (Or.inl rfl)
  | return_ => exact Or.inr (Or.inr (Or.inl rfl))
  | invokevirtual k => exact Or.inr (Or.inr (Or.inr (Or.inl ⟨k, rfl, h1⟩)))
  | invokespecial k => exact Or.inr (Or.inr (Or.inr (Or.inr (Or.inl ⟨k, rfl, h1⟩))))
  | invokestatic k => exact Or.inr (Or.inr (Or.inr (Or.inr (Or.inr ⟨k, rfl, h1⟩))))
  | _ =>
    exfalso
    unfold mm_stp at h1
    dsimp only at h1
    repeat' (first | (exact mm_nx_no h1) | (cases h1; done) | (split at h1))
section RUN
variable {D : va_G} {cy : Nat → ClassId} {base b t Ls : Nat} {xs : Nat → Int32} {ps : Nat → Int64}
/-- what the machine owes at a return -/
def mm_ret (mid : Nat) (p : Program) (l : Launch) (e : Env) (R : Room) (s : State) (m : MethodId) (args : Array Value) (below : List Frame) (meth : Method) (c : Code) (Q : State → Prop) (D : va_G) (cy : Nat → ClassId) (base b t Ls : Nat) (xs : Nat → Int32) (ps : Nat → Int64) (r : Option Value) (h' : MH) : Prop :=
  ∀ (pc : Nat) (L : ML) (st : List Value) (h : MH) (cu su : Nat), mm_one mid pc L st h cu su = some (.inr (.inl (r, h'))) → cu ≤ mi_mc (mm_of mid) → su ≤ mi_ms (mm_of mid) → mm_at mid p l e R s m args below meth c Q D cy base b t Ls xs ps (pc, L, st, h, cu, su)
/-- the soundness of runs of n steps -/
def mm_snd (D : va_G) (cy : Nat → ClassId) (base b t Ls : Nat) (xs : Nat → Int32) (ps : Nat → Int64) (l : Launch) (n : Nat) : Prop :=
  ∀ (mid : Nat) (p : Program) (e : Env) (R : Room) (s : State) (m : MethodId) (args : Array Value) (below : List Frame) (meth : Method) (c : Code) (Q : State → Prop) (x : MS) (r : Option Value) (h' : MH), mm_B mid p R s m args meth c → mm_X2 D cy base b t Ls xs ps s → mm_ex n mid x = some (r, h') → x.2.2.2.2.1 ≤ mi_mc (mm_of mid) → x.2.2.2.2.2 ≤ mi_ms (mm_of mid) → mm_ret mid p l e R s m args below meth c Q D cy base b t Ls xs ps r h' → mm_at mid p l e R s m args below meth c Q D cy base b t Ls xs ps x
theorem mm_ini_s : ∀ mid, mid < 177 → mm_ini mid = true → mi_s (mm_of mid) = 0 := by
  have h : ((List.range 177).all fun mid => !(mm_ini mid) || decide (mi_s (mm_of mid) = 0)) = true := by decide +kernel
  intro mid hm hi
  have := List.all_eq_true.mp h mid (List.mem_range.mpr hm)
  simpa [hi] using this
theorem mm_cw_good {mid : Nat} (h : mid < 177) : mm_cw mid ∈ mm_ws := mm_in_ws (kw_in mid (by omega) (by omega)) rfl
theorem mm_good {mid : Nat} (h : mid < 177) : GoodIn mm_ws (mm_cw mid :: mm_ws) := by
  intro w hw
  rcases List.mem_cons.mp hw with rfl | hw
  · exact ⟨mm_cw_good h, mm_ws_good _ (mm_cw_good h)⟩
  · exact ⟨hw, mm_ws_good _ hw⟩
theorem mm_blind {h : MH} {av : List Value} : FrameBlind (mm_Pc D cy base b t Ls xs ps h av) := fun a U g mk q => by
  obtain ⟨q1, q2, q3⟩ := q
  exact ⟨q1, q2.same rfl rfl, q3⟩
/-- a method's contract out of its runs -/
theorem mm_met {l : Launch} {n : Nat} (hs : mm_snd D cy base b t Ls xs ps l n) {mid : Nat} (hmid : mid < 177) {av : List Value} {h h' : MH} {r : Option Value} (hrun : mm_ex n mid (0, mm_ent mid av, [], h, 0, 0) = some (r, h')) (hlen : (mm_slots av).length ≤ mi_l (mm_of mid)) : Met l (mm_yy mid) (mm_cw mid :: mm_ws) (mm_rm mid) (mm_Pc D cy base b t Ls xs ps h av) (mm_Qc D cy base b t Ls xs ps r h') (mi_mc (mm_of mid)) (mi_ms (mm_of mid)) (mm_A base) := by
  obtain ⟨q, hq⟩ := ck_ys mid hmid
  simp only [ck_y1, Bool.and_eq_true, decide_eq_true_eq] at hq
  obtain ⟨⟨⟨⟨⟨y1, y2⟩, y3⟩, y4⟩, y5⟩, y6⟩ := hq
  refine Met.ofW (cc := mm_bb mid) (maxL := mi_l (mm_of mid)) (ret := mm_rt (mi_r (mm_of mid))) y5 rfl ?_
  intro p e s m args below meth c s₁ B hml hv
  obtain ⟨rfl, hX, hH⟩ := hv
  have hts := atoms_spec (ws := mm_cw mid :: mm_ws) B.pre
  have hown : s.vm.findClass (mm_on (mi_c (mm_of mid))) = some m.cls := by rw [← y4]; exact findClass_of_methodNamed B.named
  have hinit : mm_ini mid = true → meth.name = "<init>" := by
    intro hi
    rw [(name_of_methodNamed B.named B.method).1]
    split at y6
    · rename_i hst
      have : mi_s (mm_of mid) = 0 := mm_ini_s mid hmid hi
      omega
    · simp only [hi, if_true, Bool.and_eq_true, decide_eq_true_eq] at y6
      exact y6.2.1
  rw [lg_entry_eq]
  have hl := lv_entry (av.map (mm_tv (mm_ad base b t))) (n := mi_l (mm_of mid)) (by rw [mm_slots_len]; exact hlen)
  generalize (lg_sl (av.map (mm_tv (mm_ad base b t))) ++ List.replicate (mi_l (mm_of mid) - (lg_sl (av.map (mm_tv (mm_ad base b t)))).length) Slot.unset).toArray = ls at hl ⊢
  refine hs mid p e (headSpec (mm_cw mid :: mm_ws) (mm_rm mid)).room s m _ below meth c _ (0, mm_ent mid av, [], h, 0, 0) r h' ⟨⟨B.exec, B.bytes, hml, hown, fun w hw => hts w (List.mem_cons_of_mem _ hw)⟩, hinit, rfl, rfl, rfl, rfl⟩ hX hrun (Nat.zero_le _) (Nat.zero_le _) ?_ s.heap [] ls (mm_ent_len hlen) hH va_S.rf (mm_ent_Lr hlen hl)
  intro pc L st g cu su h1 hcu hsu H locs ls hlen1 hH1 hS1 hL1
  unfold mm_one at h1
  split at h1
  case h_2 => cases h1
  rename_i i len tgt hf
  obtain ⟨-, hd, hln, -, -⟩ := fx_fet hf
  dsimp only at hlen1 hH1 hL1 ⊢
  refine W.widen (k := mi_mc (mm_of mid)) (n := mi_ms (mm_of mid)) hcu hsu ?_
  have hlocks := B.notSynchronized
  rcases mm_stp_out h1 with rfl | rfl | rfl | ⟨k, rfl, h2⟩ | ⟨k, rfl, h2⟩ | ⟨k, rfl, h2⟩
  · unfold mm_stp at h1
    dsimp only at h1
    split at h1
    case h_2 => cases h1
    split at h1
    case isFalse => cases h1
    rename_i x hc
    cases h1
    obtain rfl : len = 1 := by simpa [mm_ln] using hln
    rcases hc with hc | ⟨hc, hx01⟩
    · have hr := B.returns
      rw [hc] at hr
      exact W.iret B.exec B.bytes hr (fun u hu hW => ⟨rfl, by rw [hu]; exact hH1, hS1.F hu⟩) hS1.2.2 hd
    · have hr := B.returns
      rw [hc] at hr
      exact W.zret B.exec B.bytes hr (by rcases hx01 with rfl | rfl <;> rfl) (fun u hu hW => ⟨rfl, by rw [hu]; exact hH1, hS1.F hu⟩) hS1.2.2 hd
  · unfold mm_stp at h1
    dsimp only at h1
    split at h1
    case h_2 => cases h1
    split at h1
    case isFalse => cases h1
    rename_i x hc
    cases h1
    obtain rfl : len = 1 := by simpa [mm_ln] using hln
    have hr := B.returns
    rw [hc] at hr
    exact W.lret B.exec B.bytes hr (fun u hu hW => ⟨rfl, by rw [hu]; exact hH1, hS1.F hu⟩) hS1.2.2 hd
  · unfold mm_stp at h1
    dsimp only at h1
    split at h1
    case h_2 => cases h1
    split at h1
    case isFalse => cases h1
    rename_i hc
    cases h1
    obtain rfl : len = 1 := by simpa [mm_ln] using hln
    have hr := B.returns
    rw [hc] at hr
    exact W.vret B.exec B.bytes hr (fun u hu hW => ⟨rfl, by rw [hu]; exact hH1, hS1.F hu⟩) hS1.2.2 hd
  · exact absurd h2 mm_inv_no
  · exact absurd h2 mm_inv_no
  · exact absurd h2 mm_inv_no
end RUN
