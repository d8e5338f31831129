/-! CALLS -/
theorem mm_initd : ∀ mid, mid < 177 → Jvm.Cond.initialized (mm_on (mi_c (mm_of mid))) ∈ mm_ws := by
  have h : ((List.range 177).all fun mid => Nat.blt (mi_c (mm_of mid)) 15) = true := by decide +kernel
  intro mid hm
  have h1 := Nat.le_of_ble_eq_true (List.all_eq_true.mp h mid (List.mem_range.mpr hm))
  have h2 : mm_on (mi_c (mm_of mid)) ∈ mm_cn.take 15 := by
    have h3 : mi_c (mm_of mid) < (mm_cn.take 15).length := h1
    have h4 : (mm_cn.take 15)[mi_c (mm_of mid)]? = some (mm_on (mi_c (mm_of mid))) := by
      rw [List.getElem?_take_of_lt h1]
      unfold mm_on
      rw [List.getD_eq_getElem?_getD]
      have h5 : mi_c (mm_of mid) < mm_cn.length := Nat.lt_of_lt_of_le h1 (by decide)
      rw [List.getElem?_eq_getElem h5]
      rfl
    exact List.mem_of_getElem? h4
  exact mm_in_ws (of_decide_eq_true (List.all_eq_true.mp ck_ini _ h2)) rfl
/-- of a method that is called: what its descriptor and the tables say -/
theorem mm_yfacts {mid : Nat} (hmid : mid < 177) : ((mm_yy mid).cls ≠ "java/lang/invoke/MethodHandle" ∧ (mm_yy mid).cls ≠ "java/lang/invoke/VarHandle" ∧ (parseMethodDescriptor (mm_yy mid).desc).map (fun d => d.parameters.length) = some (mi_n (mm_of mid))) ∧ (mm_yy mid).cls = mm_on (mi_c (mm_of mid)) ∧ (mi_s (mm_of mid) = 1 → Jvm.Cond.static (mm_yy mid) ∈ mm_ws) ∧ (mi_s (mm_of mid) ≠ 1 → Jvm.Cond.instanceMethod (mm_yy mid) ∈ mm_ws ∧ (mm_ini mid = true → (mm_yy mid).name = "<init>" ∧ mi_r (mm_of mid) = 0) ∧ (mm_ini mid = false → Jvm.Cond.selects (mm_yy mid).cls (mm_yy mid) (mm_yy mid) ∈ mm_ws)) := by
  obtain ⟨q, hq⟩ := ck_ys mid hmid
  simp only [ck_y1, Bool.and_eq_true, decide_eq_true_eq] at hq
  obtain ⟨⟨⟨⟨⟨y1, y2⟩, y3⟩, y4⟩, y5⟩, y6⟩ := hq
  refine ⟨⟨y1, y2, y3⟩, y4, fun hs => ?_, fun hs => ?_⟩
  · rw [if_pos hs] at y6
    exact mm_in_ws (List.mem_of_getElem? (of_decide_eq_true y6)) rfl
  · rw [if_neg hs] at y6
    simp only [Bool.and_eq_true, decide_eq_true_eq] at y6
    refine ⟨mm_in_ws (List.mem_of_getElem? y6.1) rfl, fun hi => ?_, fun hi => ?_⟩
    · have y7 := y6.2
      rw [if_pos hi] at y7
      simpa using y7
    · have y7 := y6.2
      rw [if_neg (by rw [hi]; decide)] at y7
      exact List.mem_filter.mpr ⟨List.mem_of_getElem? (of_decide_eq_true y7), rfl⟩
theorem mm_m1_gen {own idx m2 : Nat} {q : Nat × Nat} (h : ck_m1 own (idx, m2) q = true) (hm : m2 < 177) : Jvm.Cond.methodLink (mm_on own) idx (mm_yy m2) ∈ mm_ws ∨ (mm_ini m2 = true ∧ Jvm.Cond.methodLinkNest (mm_on own) idx (mm_yy m2) "DrawnTold" ∈ tables_1) := by
  unfold ck_m1 at h
  rw [Bool.and_eq_true] at h
  have h2 := h.2
  rw [if_neg (by show ¬ m2 = 900; omega), if_neg (by show ¬ m2 = 901; omega), if_neg (by show ¬ m2 = 902; omega)] at h2
  simp only [Bool.and_eq_true, Bool.or_eq_true, decide_eq_true_eq] at h2
  rcases h2.1 with h3 | ⟨h3, h4⟩
  · exact Or.inl (mm_in_ws (List.mem_of_getElem? h3) rfl)
  · exact Or.inr ⟨h3, List.mem_of_getElem? h4⟩
theorem mm_inv_call {mid own idx pc m2 : Nat} {virt : Bool} {L : ML} {st : List Value} {h : MH} {cu su : Nat} {av : List Value} {x' : MS} (z : mm_inv mid own idx pc virt L st h cu su = some (.inr (.inr (m2, av, x')))) : mm_mth own idx = some m2 ∧ ((mi_s (mm_of m2) = 1 ∧ virt = false ∧ mi_n (mm_of m2) ≤ st.length ∧ mm_fit (mm_of mid) (mm_of m2) cu su (st.drop (mi_n (mm_of m2))) = true ∧ av = (st.take (mi_n (mm_of m2))).reverse ∧ x' = (pc + 3, L, st.drop (mi_n (mm_of m2)), h, cu + mi_mc (mm_of m2), su + mi_ms (mm_of m2))) ∨
    (mi_s (mm_of m2) ≠ 1 ∧ virt = true ∧ ∃ b r, st.drop (mi_n (mm_of m2)) = .ref b :: r ∧ hK h b = mi_c (mm_of m2) ∧ mm_fit (mm_of mid) (mm_of m2) cu su r = true ∧ av = .ref b :: (st.take (mi_n (mm_of m2))).reverse ∧ x' = (pc + 3, L, r, h, cu + mi_mc (mm_of m2), su + mi_ms (mm_of m2)))) := by
  unfold mm_inv at z
  split at z
  · cases z
  · split at z
    · split at z
      · exact absurd z mm_nx_no
      · cases z
    · cases z
  · split at z
    · split at z
      · exact absurd z mm_nx_no
      · cases z
    · cases z
  · split at z
    · split at z
      · exact absurd z mm_nx_no
      · cases z
    · cases z
  · rename_i m3 _ _ _ hm
    cases hb2 : Nat.beq (mi_s (mm_of m3)) 1 <;> rw [hb2] at z <;> simp only [cond_true, cond_false] at z
    · split at z
      · rename_i b r hdr
        split at z
        · rename_i hc
          cases z
          refine ⟨hm, Or.inr ⟨fun e => ?_, hc.1, b, r, hdr, hc.2.1, hc.2.2, rfl, rfl⟩⟩
          rw [e] at hb2
          cases hb2
        · cases z
      · cases z
    · split at z
      · rename_i hc
        cases z
        exact ⟨hm, Or.inl ⟨Nat.eq_of_beq_eq_true hb2, hc.1, hc.2.1, hc.2.2, rfl, rfl⟩⟩
      · cases z
section CALL
variable {D : va_G} {cy : Nat → ClassId} {base b t Ls : Nat} {xs : Nat → Int32} {ps : Nat → Int64}
variable {p : Program} {l : Launch} {e : Env} {R : Room} {s : State} {m : MethodId} {args : Array Value} {below : List Frame} {meth : Method} {c : Code} {Q : State → Prop}
theorem mm_ofRun {H : Heap} {locs : List Loc} {cu su mc ms pc : Nat} {ls : Array Slot} {st0 rest : List Value} {v : Option Value} {h2 : MH} {av : Array Value} (hr : va_Run p l e R s m args below meth c H locs cu su mc ms (F0 m pc ls st0) rest (mm_Qc D cy base b t Ls xs ps v h2 av) (mm_A base)) (hS : va_S (mm_A base) s.heap H locs)
    (kk : ∀ (H1 : Heap) (locs1 : List Loc), mm_H D cy base b t Ls xs ps h2 H1 → va_S (mm_A base) s.heap H1 locs1 → W p l e R s m args below meth c H1 locs1 (cu + mc) (su + ms) Q (F0 m (pc + 3) ls ((v.toList.map (mm_tv (mm_ad base b t))) ++ rest))) : W p l e R s m args below meth c H locs cu su Q (F0 m pc ls st0) := by
  intro T hT X
  obtain ⟨v1, st₀, t1, T', L, e0, X', hL, e1, e2, ⟨hv, hH', hF⟩, st⟩ := hr T hT X
  have hv1 : v1 = v.map (mm_tv (mm_ad base b t)) := by injection hv
  subst hv1
  rw [← e1] at hH'
  obtain ⟨hz, hk⟩ := hF
  rw [e0] at hz hk
  obtain ⟨t2, a1, b1⟩ := kk T'.heap (locs ++ L) hH' ⟨Nat.le_trans hS.1 (by rw [e1]; exact hz), fun q h1 h2 => by rw [e1, hk q (Nat.lt_of_lt_of_le h1 hS.1) h2]; exact hS.2.1 q h1 h2, fun q hq => by
      rcases List.mem_append.mp hq with h | h
      · exact hS.2.2 q h
      · exact hL q h⟩ T' rfl X'
  refine ⟨t2, st t2 ?_, b1⟩
  have ev : (Option.map (mm_tv (mm_ad base b t)) v).toList = v.toList.map (mm_tv (mm_ad base b t)) := by cases v <;> rfl
  rw [ev]
  exact a1
theorem mm_fit_use {q q2 : MI} {cu su : Nat} {r : List Value} (h : mm_fit q q2 cu su r = true) : mi_f q2 + 1 ≤ mi_f q ∧ 8 + (mi_l q2 + 11) + mi_w q2 ≤ mi_w q ∧ mm_cat r ≤ 8 ∧ cu + mi_mc q2 ≤ mi_mc q ∧ su + mi_ms q2 ≤ mi_ms q := by
  simp only [mm_fit, Bool.and_eq_true] at h
  obtain ⟨⟨⟨⟨h1, h2⟩, h3⟩, h4⟩, h5⟩ := h
  exact ⟨Nat.le_of_ble_eq_true h1, Nat.le_of_ble_eq_true h2, Nat.le_of_ble_eq_true h3, Nat.le_of_ble_eq_true h4, Nat.le_of_ble_eq_true h5⟩
theorem mm_inst8 : ∀ mid, mid < 177 → mi_s (mm_of mid) ≠ 1 → mi_c (mm_of mid) ≤ 8 := by
  have h : ((List.range 177).all fun mid => Nat.beq (mi_s (mm_of mid)) 1 || Nat.ble (mi_c (mm_of mid)) 8) = true := by decide +kernel
  intro mid hm hi
  have h1 := List.all_eq_true.mp h mid (List.mem_range.mpr hm)
  rw [Bool.or_eq_true] at h1
  rcases h1 with h1 | h1
  · exact absurd (Nat.eq_of_beq_eq_true h1) hi
  · exact Nat.le_of_ble_eq_true h1
theorem mm_ex900 {n : Nat} {x : MS} {r : MR} : mm_ex n 900 x ≠ some r := by
  intro h
  cases n with
  | zero => cases h
  | succ n => cases h
theorem mm_cu_inv {mid own idx pc : Nat} {virt : Bool} {L : ML} {st : List Value} {h : MH} {cu su : Nat} {x' : MS} (z : mm_inv mid own idx pc virt L st h cu su = some (.inl x')) : x'.2.2.2.2.1 = cu ∧ x'.2.2.2.2.2 = su := by
  unfold mm_inv at z
  split at z
  · cases z
  · split at z
    · split at z
      · obtain rfl := mm_nx_inj z; exact ⟨rfl, rfl⟩
      · cases z
    · cases z
  · split at z
    · split at z
      · obtain rfl := mm_nx_inj z; exact ⟨rfl, rfl⟩
      · cases z
    · cases z
  · split at z
    · split at z
      · obtain rfl := mm_nx_inj z; exact ⟨rfl, rfl⟩
      · cases z
    · cases z
  · rename_i m2 _ _ _ _
    cases hb2 : Nat.beq (mi_s (mm_of m2)) 1 <;> rw [hb2] at z <;> simp only [cond_true, cond_false] at z
    · split at z
      · split at z <;> cases z
      · cases z
    · split at z <;> cases z
set_option maxHeartbeats 4000000 in
theorem mm_cu_step {mid pc : Nat} {L : ML} {st : List Value} {h : MH} {cu su : Nat} {x' : MS} (h1 : mm_one mid pc L st h cu su = some (.inl x')) (hcu : cu ≤ mi_mc (mm_of mid)) (hsu : su ≤ mi_ms (mm_of mid)) : x'.2.2.2.2.1 ≤ mi_mc (mm_of mid) ∧ x'.2.2.2.2.2 ≤ mi_ms (mm_of mid) := by
  unfold mm_one at h1
  split at h1
  case h_2 => cases h1
  rename_i i len tgt hf
  cases i with
  | invokevirtual k => obtain ⟨e1, e2⟩ := mm_cu_inv h1; rw [e1, e2]; exact ⟨hcu, hsu⟩
  | invokespecial k => obtain ⟨e1, e2⟩ := mm_cu_inv h1; rw [e1, e2]; exact ⟨hcu, hsu⟩
  | invokestatic k => obtain ⟨e1, e2⟩ := mm_cu_inv h1; rw [e1, e2]; exact ⟨hcu, hsu⟩
  | new k =>
    unfold mm_stp at h1
    dsimp only at h1
    split at h1
    case h_2 => cases h1
    split at h1
    case isFalse => cases h1
    rename_i hc
    obtain rfl := mm_nx_inj h1
    exact ⟨hc.2.1, hc.2.2⟩
  | newarray tt =>
    unfold mm_stp at h1
    dsimp only at h1
    split at h1
    case h_2 => cases h1
    split at h1
    case isFalse => cases h1
    rename_i hc
    split at h1
    case h_4 => cases h1
    all_goals (obtain rfl := mm_nx_inj h1; exact ⟨hc.2.2.1, hc.2.2.2⟩)
  | anewarray k =>
    unfold mm_stp at h1
    dsimp only at h1
    split at h1
    case h_2 => cases h1
    split at h1
    case isFalse => cases h1
    rename_i hc
    obtain rfl := mm_nx_inj h1
    exact ⟨hc.2.2.1, hc.2.2.2.1⟩
  | multianewarray k d =>
    unfold mm_stp at h1
    dsimp only at h1
    split at h1
    case h_2 => cases h1
    split at h1
    case isFalse => cases h1
    rename_i hc
    obtain rfl := mm_nx_inj h1
    obtain ⟨-, -, -, -, -, z5, z6, -⟩ := hc
    exact ⟨Nat.le_trans (Nat.le_of_eq (Nat.add_assoc _ _ _)) z5, Nat.le_trans (Nat.le_of_eq (Nat.add_assoc _ _ _)) z6⟩
  | _ =>
    unfold mm_stp at h1
    dsimp only at h1
    repeat' (first | (obtain rfl := mm_nx_inj h1; exact ⟨hcu, hsu⟩) | (cases h1; done) | (split at h1))
theorem mm_cu_call {mid pc : Nat} {L : ML} {st : List Value} {h : MH} {cu su m2 : Nat} {av : List Value} {x' : MS} (h1 : mm_one mid pc L st h cu su = some (.inr (.inr (m2, av, x')))) : x'.2.2.2.2.1 ≤ mi_mc (mm_of mid) ∧ x'.2.2.2.2.2 ≤ mi_ms (mm_of mid) := by
  unfold mm_one at h1
  split at h1
  case h_2 => cases h1
  rename_i i len tgt hf
  have fin : ∀ {k : Nat} {virt : Bool}, mm_inv mid (mi_c (mm_of mid)) k pc virt L st h cu su = some (.inr (.inr (m2, av, x'))) → x'.2.2.2.2.1 ≤ mi_mc (mm_of mid) ∧ x'.2.2.2.2.2 ≤ mi_ms (mm_of mid) := by
    intro k virt hi
    rcases (mm_inv_call hi).2 with ⟨-, -, -, hfit, -, rfl⟩ | ⟨-, -, rb, r, -, -, hfit, -, rfl⟩
    · obtain ⟨-, -, -, f4, f5⟩ := mm_fit_use hfit; exact ⟨f4, f5⟩
    · obtain ⟨-, -, -, f4, f5⟩ := mm_fit_use hfit; exact ⟨f4, f5⟩
  rcases mm_stp_out h1 with rfl | rfl | rfl | ⟨k9, rfl, hi⟩ | ⟨k9, rfl, hi⟩ | ⟨k9, rfl, hi⟩
  · exfalso; unfold mm_stp at h1; dsimp only at h1; repeat' (first | (cases h1; done) | (split at h1))
  · exfalso; unfold mm_stp at h1; dsimp only at h1; repeat' (first | (cases h1; done) | (split at h1))
  · exfalso; unfold mm_stp at h1; dsimp only at h1; repeat' (first | (cases h1; done) | (split at h1))
  · exact fin hi
  · exact fin hi
  · exact fin hi
set_option maxHeartbeats 4000000 in
theorem mm_call {n : Nat} (hs : mm_snd D cy base b t Ls xs ps l n) {mid : Nat} (B : mm_B mid p R s m args meth c) (G : mm_X2 D cy base b t Ls xs ps s) {pc : Nat} {L : ML} {st : List Value} {h : MH} {cu su m2 : Nat} {av : List Value} {x' : MS} (h1 : mm_one mid pc L st h cu su = some (.inr (.inr (m2, av, x')))) (hsl : (mm_slots av).length ≤ mi_l (mm_of m2)) {v : Option Value} {h2 : MH} (hrun : mm_ex n m2 (0, mm_ent m2 av, [], x'.2.2.2.1, 0, 0) = some (v, h2))
    (k : mm_at mid p l e R s m args below meth c Q D cy base b t Ls xs ps (x'.1, x'.2.1, v.toList ++ x'.2.2.1, h2, x'.2.2.2.2.1, x'.2.2.2.2.2)) : mm_at mid p l e R s m args below meth c Q D cy base b t Ls xs ps (pc, L, st, h, cu, su) := by
  obtain ⟨⟨hx, hb, hml, hown, hts⟩, hinit, hR1, hR2, hR3, hR4⟩ := B
  unfold mm_one at h1
  split at h1
  case h_2 => cases h1
  rename_i i len tgt hf
  obtain ⟨hmid, hd, hln, htg, hck⟩ := fx_fet hf
  intro H locs ls hlen hH hS hL
  dsimp only at hlen hH hL ⊢
  have hsize : (F0 m pc ls (st.map (mm_tv (mm_ad base b t)))).locals.size = mi_l (mm_of mid) := by rw [← hlen]; exact hL.1
  have hS0 : CallFix p m c (mm_bb mid) (mi_l (mm_of mid)) s args mm_ws (mm_on (mi_c (mm_of mid))) := ⟨hx, hb, hml, hown, hts⟩
  have pre : ∀ U : State, U.heap = H → s.WarmedH U.vm → mm_Pc D cy base b t Ls xs ps h av (av.map (mm_tv (mm_ad base b t))).toArray U := fun U hU hW => ⟨rfl, G.moved hW (locs := locs) (by rw [hU]; exact hS), by rw [hU]; exact hH⟩
  rcases mm_stp_out h1 with rfl | rfl | rfl | ⟨k9, rfl, hi⟩ | ⟨k9, rfl, hi⟩ | ⟨k9, rfl, hi⟩
  · exfalso; unfold mm_stp at h1; dsimp only at h1; repeat' (first | (cases h1; done) | (split at h1))
  · exfalso; unfold mm_stp at h1; dsimp only at h1; repeat' (first | (cases h1; done) | (split at h1))
  · exfalso; unfold mm_stp at h1; dsimp only at h1; repeat' (first | (cases h1; done) | (split at h1))
  · obtain ⟨hm, hcc⟩ := mm_inv_call hi
    simp only [ck_i1, hm, Bool.and_eq_true, decide_eq_true_eq] at hck
    have hm2 : m2 < 177 := Nat.le_of_ble_eq_true hck.1.1
    have hni : mm_ini m2 = false := by simpa using hck.1.2
    obtain ⟨q, hq⟩ := fx_mth hm
    rcases hcc with ⟨h9, -⟩ | ⟨hs9, -, rb, r, hdr, hkb, hfit, rfl, rfl⟩
    · omega
    obtain ⟨f1, f2, f3, f4, f5⟩ := mm_fit_use hfit
    obtain ⟨yd, yc, -, yi⟩ := mm_yfacts hm2
    obtain ⟨yi1, -, yi3⟩ := yi hs9
    have hml2 : Jvm.Cond.methodLink (mm_on (mi_c (mm_of mid))) k9 (mm_yy m2) ∈ mm_ws := by
      rcases mm_m1_gen hq hm2 with h9 | ⟨h9, -⟩
      · exact h9
      · rw [hni] at h9; cases h9
    obtain rfl : len = 3 := by simpa [mm_ln] using hln
    have hst : st = st.take (mi_n (mm_of m2)) ++ .ref rb :: r := by rw [← hdr, List.take_append_drop]
    have hnl : (st.take (mi_n (mm_of m2))).length = mi_n (mm_of m2) := by
      rw [List.length_take]
      have : (st.drop (mi_n (mm_of m2))).length = r.length + 1 := by rw [hdr]; rfl
      rw [List.length_drop] at this
      omega
    have hM := mm_met hs hm2 hrun hsl
    have hcls8 : mi_c (mm_of m2) ≤ 8 := mm_inst8 m2 hm2 hs9
    have hrecv : ∃ cellB : Cell, H[mm_ad base b t rb]? = some cellB ∧ cellB.vm.isStatics = false ∧ s.vm.findClass (mm_yy m2).cls = some cellB.cls := by
      obtain ⟨-, -, -, hget⟩ := hH.mem (a := rb) (by omega)
      rw [mm_ce_ob (by omega)] at hget
      obtain ⟨T, hT, -⟩ := fx_cls (ci := hK h rb) (by omega)
      have := va_recv G.1.2.1 hH.2.2.2 hT hget
      rw [yc, ← hkb]
      exact this
    refine mm_ofRun (rest := r.map (mm_tv (mm_ad base b t))) (va_runV (y := mm_yy m2) (n := mi_n (mm_of m2)) (C := (mm_yy m2).cls) (b := mm_ad base b t rb) (As := (st.take (mi_n (mm_of m2))).reverse.map (mm_tv (mm_ad base b t))) hS0 hM ⟨callB_of (mi_n (mm_of m2)) hts (mm_good hm2) rfl rfl rfl (by rw [yc]; exact hts _ (mm_initd m2 hm2)) (hts _ hml2) yd ⟨by rw [hR1]; exact f1, by rw [hR2]; exact f2⟩, hts _ yi1, hts _ (yi3 hni)⟩ ⟨mm_blind, hrecv, pre⟩ rfl (by rw [List.length_map, List.length_reverse, hnl]) hsize ?_ (by rw [mm_tv_cats]; show 2 * 0 + mm_cat r ≤ 8; omega) hd ⟨by rw [hR3]; exact f4, by rw [hR4]; exact f5⟩) hS (fun H1 locs1 hH1 hS1 => ?_)
    · show st.map (mm_tv (mm_ad base b t)) = _
      rw [← List.map_reverse, List.reverse_reverse]
      conv => lhs; rw [hst]
      rw [List.map_append]
      rfl
    · have := k H1 locs1 ls hlen hH1 hS1 hL
      rw [← List.map_append]
      exact this
  · obtain ⟨hm, hcc⟩ := mm_inv_call hi
    simp only [ck_i1, hm, Bool.and_eq_true, Bool.or_eq_true, decide_eq_true_eq] at hck
    obtain ⟨q, hq⟩ := fx_mth hm
    rcases hcc with ⟨h9, h10, -⟩ | ⟨hs9, -, rb, r, hdr, hkb, hfit, rfl, rfl⟩
    · cases h10
    rcases hck with hck | hck
    · have : m2 = 900 := Nat.eq_of_beq_eq_true hck
      subst this
      have hz : mi_mc (mm_of 900) = 0 := rfl
      exfalso
      exact mm_ex900 (show mm_ex n 900 _ = some _ from hrun)
    have hm2 : m2 < 177 := Nat.le_of_ble_eq_true hck.1.1
    have hni : mm_ini m2 = true := hck.1.2
    obtain ⟨f1, f2, f3, f4, f5⟩ := mm_fit_use hfit
    obtain ⟨yd, yc, -, yi⟩ := mm_yfacts hm2
    obtain ⟨yi1, yi2, -⟩ := yi hs9
    obtain ⟨yn, yr⟩ := yi2 hni
    obtain rfl : len = 3 := by simpa [mm_ln] using hln
    have hst : st = st.take (mi_n (mm_of m2)) ++ .ref rb :: r := by rw [← hdr, List.take_append_drop]
    have hnl : (st.take (mi_n (mm_of m2))).length = mi_n (mm_of m2) := by
      rw [List.length_take]
      have : (st.drop (mi_n (mm_of m2))).length = r.length + 1 := by rw [hdr]; rfl
      rw [List.length_drop] at this
      omega
    have hM := mm_met hs hm2 hrun hsl
    have hcw : mm_cw m2 = .code (mm_yy m2) (mm_bb m2) (mi_l (mm_of m2)) none := by unfold mm_cw; rw [yr]; rfl
    have hstk : st.map (mm_tv (mm_ad base b t)) = ((st.take (mi_n (mm_of m2))).reverse.map (mm_tv (mm_ad base b t))).reverse ++ .ref (mm_ad base b t rb) :: r.map (mm_tv (mm_ad base b t)) := by
      rw [← List.map_reverse, List.reverse_reverse]
      conv => lhs; rw [hst]
      rw [List.map_append]
      rfl
    have hk9 : ∀ H1 locs1, mm_H D cy base b t Ls xs ps h2 H1 → va_S (mm_A base) s.heap H1 locs1 → W p l e R s m args below meth c H1 locs1 (cu + mi_mc (mm_of m2)) (su + mi_ms (mm_of m2)) Q (F0 m (pc + 3) ls ((v.toList.map (mm_tv (mm_ad base b t))) ++ r.map (mm_tv (mm_ad base b t)))) := fun H1 locs1 hH1 hS1 => by
      have := k H1 locs1 ls hlen hH1 hS1 hL
      rw [← List.map_append]
      exact this
    rcases mm_m1_gen hq hm2 with h9 | ⟨-, h9⟩
    · exact mm_ofRun (rest := r.map (mm_tv (mm_ad base b t))) (va_runI (y := mm_yy m2) (n := mi_n (mm_of m2)) (b := mm_ad base b t rb) (As := (st.take (mi_n (mm_of m2))).reverse.map (mm_tv (mm_ad base b t))) hS0 hM (cwI (mi_n (mm_of m2)) hts (mm_good hm2) (by rw [hcw]) rfl rfl (by rw [yc]; exact hts _ (mm_initd m2 hm2)) (hts _ h9) (hts _ yi1) yn yd ⟨by rw [hR1]; exact f1, by rw [hR2]; exact f2⟩) ⟨mm_blind, pre⟩ rfl (by rw [List.length_map, List.length_reverse, hnl]) hsize hstk (by rw [mm_tv_cats]; show 2 * 0 + mm_cat r ≤ 8; omega) hd ⟨by rw [hR3]; exact f4, by rw [hR4]; exact f5⟩) hS hk9
    · exact mm_ofRun (rest := r.map (mm_tv (mm_ad base b t))) (va_runIN (y := mm_yy m2) (n := mi_n (mm_of m2)) (b := mm_ad base b t rb) (As := (st.take (mi_n (mm_of m2))).reverse.map (mm_tv (mm_ad base b t))) hS0 hM ⟨va_cnB (mi_n (mm_of m2)) hts (mm_good hm2) (by rw [hcw]) rfl rfl (G.2.2 _ h9 rfl) (by rw [yc]; exact hts _ (mm_initd m2 hm2)) yd ⟨by rw [hR1]; exact f1, by rw [hR2]; exact f2⟩, yn, hts _ yi1⟩ ⟨mm_blind, pre⟩ rfl (by rw [List.length_map, List.length_reverse, hnl]) hsize hstk (by rw [mm_tv_cats]; show 2 * 0 + mm_cat r ≤ 8; omega) hd ⟨by rw [hR3]; exact f4, by rw [hR4]; exact f5⟩) hS hk9
  · obtain ⟨hm, hcc⟩ := mm_inv_call hi
    simp only [ck_i1, hm, Bool.and_eq_true, Bool.or_eq_true, decide_eq_true_eq] at hck
    obtain ⟨q, hq⟩ := fx_mth hm
    rcases hcc with ⟨hs9, -, hnn, hfit, rfl, rfl⟩ | ⟨h9, h10, -⟩
    · have hm2 : m2 < 177 := by
        rcases hck with (hck | hck) | hck
        · have : m2 = 901 := Nat.eq_of_beq_eq_true hck
          subst this
          cases hs9
        · have : m2 = 902 := Nat.eq_of_beq_eq_true hck
          subst this
          cases hs9
        · exact Nat.le_of_ble_eq_true hck.1
      obtain ⟨f1, f2, f3, f4, f5⟩ := mm_fit_use hfit
      obtain ⟨yd, yc, ys, -⟩ := mm_yfacts hm2
      have hni : mm_ini m2 = false := by
        cases hn : mm_ini m2 with
        | false => rfl
        | true => have := mm_ini_s m2 hm2 hn; omega
      have hml2 : Jvm.Cond.methodLink (mm_on (mi_c (mm_of mid))) k9 (mm_yy m2) ∈ mm_ws := by
        rcases mm_m1_gen hq hm2 with h9 | ⟨h9, -⟩
        · exact h9
        · rw [hni] at h9; cases h9
      obtain rfl : len = 3 := by simpa [mm_ln] using hln
      have hM := mm_met hs hm2 hrun hsl
      refine mm_ofRun (rest := (st.drop (mi_n (mm_of m2))).map (mm_tv (mm_ad base b t))) (va_runS (y := mm_yy m2) (n := mi_n (mm_of m2)) (As := (st.take (mi_n (mm_of m2))).reverse.map (mm_tv (mm_ad base b t))) hS0 hM ⟨callB_of (mi_n (mm_of m2)) hts (mm_good hm2) rfl rfl rfl (by rw [yc]; exact hts _ (mm_initd m2 hm2)) (hts _ hml2) yd ⟨by rw [hR1]; exact f1, by rw [hR2]; exact f2⟩, hts _ (ys hs9)⟩ ⟨mm_blind, pre⟩ rfl (by simp; omega) hsize ?_ (by rw [mm_tv_cats]; show 2 * 0 + mm_cat _ ≤ 8; omega) hd ⟨by rw [hR3]; exact f4, by rw [hR4]; exact f5⟩) hS (fun H1 locs1 hH1 hS1 => ?_)
      · show st.map (mm_tv (mm_ad base b t)) = _
        rw [← List.map_reverse, List.reverse_reverse, ← List.map_append, List.take_append_drop]
      · have := k H1 locs1 ls hlen hH1 hS1 hL
        rw [← List.map_append]
        exact this
    · cases h10
/-- runs are sound -/
theorem mm_sound (l : Launch) : ∀ n, mm_snd D cy base b t Ls xs ps l n
  | 0 => by
    intro mid p e R s m args below meth c Q x r h' B G hx
    cases hx
  | n + 1 => by
    intro mid p e R s m args below meth c Q x r h' B G hx hcu hsu hret
    obtain ⟨pc, L, st, h, cu, su⟩ := x
    rw [mm_ex] at hx
    dsimp only at hx hcu hsu
    split at hx
    · cases hx
    · rename_i x' h1
      have hc := mm_cu_step h1 hcu hsu
      exact mm_step B G h1 ⟨hcu, hsu⟩ (mm_sound l n mid p e R s m args below meth c Q x' r h' B G hx hc.1 hc.2 hret)
    · rename_i r1 h1
      cases hx
      exact hret pc L st h cu su h1 hcu hsu
    · rename_i m2 av x' h1
      cases hb : Nat.ble (mm_slots av).length (mi_l (mm_of m2)) with
      | false => rw [hb] at hx; cases hx
      | true =>
        rw [hb] at hx
        simp only [cond_true] at hx
        split at hx
        · cases hx
        · rename_i v h2 hrun
          have hc := mm_cu_call h1
          exact mm_call (mm_sound l n) B G h1 (Nat.le_of_ble_eq_true hb) hrun (mm_sound l n mid p e R s m args below meth c Q _ r h' B G hx hc.1 hc.2 hret)
end CALL
