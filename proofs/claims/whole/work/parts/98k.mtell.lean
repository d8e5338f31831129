theorem mq_a (L : Nat) (I : Nat → Nat → Int32) (J : Nat → Nat → Int64) (w : Nat → Nat) (x : Int32) (Q : Option Value → MH → Prop) (k0 : ¬ wi x 2000 → WP m_Mo_question (14, [some (.ref 208), some (.int x)], [], hp L I J w, 0, 0) Q) (k1 : wi x 2000 → WP m_Mo_question (17, [some (.ref 208), some (.int x)], [], hp L I J w, 0, 0) Q) : WP m_Mo_question (0, [some (.ref 208), some (.int x)], [], hp L I J w, 0, 0) Q := by
  iterate 4 (refine WP.st rfl ?_)
  refine WP.calle rfl rfl (ev_in2000 (hp L I J w) x) ?_
  exact WP.bn rfl k1 k0
theorem mq_b (L : Nat) (I : Nat → Nat → Int32) (J : Nat → Nat → Int64) (w : Nat → Nat) (x : Int32) {Q : Option Value → MH → Prop} (k : Q (some (.int (-2))) (hp L I J w)) : WP m_Mo_question (14, [some (.ref 208), some (.int x)], [], hp L I J w, 0, 0) Q := by
  iterate 1 (refine WP.st rfl ?_)
  exact WP.ret rfl k
theorem mq_c (L : Nat) (I : Nat → Nat → Int32) (J : Nat → Nat → Int64) (w : Nat → Nat) (S : St) (h : RI I J S) (x : Int32) (z : wi x 2000) : WP m_Mo_question (17, [some (.ref 208), some (.int x)], [], hp L I J w, 0, 0) (fun v h => v = some (.int 1) ∧ ∃ (I' : Nat → Nat → Int32) (J' : Nat → Nat → Int64), FR 208 228 I J I' J' ∧ RI I' J' (stT S (sTl S) 20 (zrow x) 0 (sNm S 20) (sFc S 20)) ∧ h = hp L I' J' w) := by
  iterate 3 (refine WP.st rfl ?_)
  refine WP.call rfl rfl (sp_clearRow L I J w 20 (by omega) x) ?_
  rintro _ _ ⟨rfl, I1, f1, f2, f3, rfl⟩
  iterate 4 (refine WP.st rfl ?_)
  refine WP.iast (k := 20) rfl (rfl) (rfl) (show 20 < 21 by omega) (rfl) ?_
  iterate 1 (refine WP.st rfl ?_)
  have o : ∀ c, c ≠ 210 → c ≠ 211 → mm_up I1 211 20 0 c = I c := fun c c1 c2 => (up_ne I1 _ c2).trans (f1 c c1)
  have o9 : mm_up I1 211 20 0 210 = I1 210 := up_ne I1 _ (by decide)
  refine WP.ret rfl ⟨rfl, mm_up I1 211 20 0, J, fun c hc => ⟨o c (by omega) (by omega), rfl⟩, ?_, rfl⟩
  exact RI_row h (Nat.le_refl _) (fun k _ => by rw [o 208 (by decide) (by decide)]) (by rw [o 208 (by decide) (by decide)]; exact h.2.1.1) h.2.1.2.1 (Nat.le_refl _) (fun j hj => Or.inr hj) (fun c _ c2 c3 _ _ => o c c2 c3) (fun j c hj hc => by rw [o9]; exact f2 _ (by omega)) (fun j hj => by rw [up_nk I1 _ hj, f1 211 (by decide)]) (fun j k _ _ => by rw [o 212 (by decide) (by decide), o 213 (by decide) (by decide)]; exact ⟨rfl, rfl⟩) (rR_z z _ _ (fun c hc => by rw [o9]; exact f3 c hc) (by rw [mm_up_at]))
theorem m_question (L : Nat) (I : Nat → Nat → Int32) (J : Nat → Nat → Int64) (w : Nat → Nat) (S : St) (h : RI I J S) (x : Int32) : MM L I J w m_Mo_question [.int x] (.int (oQuestion S x).1) (oQuestion S x).2 := by
  unfold MM SP oQuestion
  refine mq_a L I J w x _ (fun z => ?_) (fun z => ?_)
  · rw [if_neg z]; exact mq_b L I J w x ⟨rfl, I, J, FR.refl _ _ _ _, h, rfl⟩
  · rw [if_pos z]; exact mq_c L I J w S h x z
theorem mt_a (L : Nat) (I : Nat → Nat → Int32) (J : Nat → Nat → Int64) (w : Nat → Nat) (x : Int32) (Q : Option Value → MH → Prop) (k0 : ¬ wi x 2000 → WP m_Mo_telling (14, [some (.ref 208), some (.int x)], [], hp L I J w, 0, 0) Q) (k1 : wi x 2000 → WP m_Mo_telling (17, [some (.ref 208), some (.int x)], [], hp L I J w, 0, 0) Q) : WP m_Mo_telling (0, [some (.ref 208), some (.int x)], [], hp L I J w, 0, 0) Q := by
  iterate 4 (refine WP.st rfl ?_)
  refine WP.calle rfl rfl (ev_in2000 (hp L I J w) x) ?_
  exact WP.bn rfl k1 k0
theorem mt_b (L : Nat) (I : Nat → Nat → Int32) (J : Nat → Nat → Int64) (w : Nat → Nat) (x : Int32) {Q : Option Value → MH → Prop} (k : Q (some (.int (-2))) (hp L I J w)) : WP m_Mo_telling (14, [some (.ref 208), some (.int x)], [], hp L I J w, 0, 0) Q := by
  iterate 1 (refine WP.st rfl ?_)
  exact WP.ret rfl k
theorem mt_c (L : Nat) (I : Nat → Nat → Int32) (J : Nat → Nat → Int64) (w : Nat → Nat) (S : St) (h : RI I J S) (x : Int32) (z : wi x 2000) : WP m_Mo_telling (17, [some (.ref 208), some (.int x)], [], hp L I J w, 0, 0) (fun v h => v = some (.int (if sTl S = 20 then ((-4 : Int32), S) else (nI (sTl S), stT S (sTl S + 1) (sTl S) (zrow x) 0 (sNm S (sTl S)) (sFc S (sTl S)))).1) ∧ ∃ (I' : Nat → Nat → Int32) (J' : Nat → Nat → Int64), FR 208 228 I J I' J' ∧ RI I' J' (if sTl S = 20 then ((-4 : Int32), S) else (nI (sTl S), stT S (sTl S + 1) (sTl S) (zrow x) 0 (sNm S (sTl S)) (sFc S (sTl S)))).2 ∧ h = hp L I' J' w) := by
  have p1 := h.2.1.1
  have p2 := h.2.1.2.1
  iterate 1 (refine WP.st rfl ?_)
  refine WP.get (v := .int (nI (sTl S))) rfl rfl (rfl) (congrArg Value.int p1) ?_
  iterate 1 (refine WP.st rfl ?_)
  by_cases e : sTl S = 20
  · rw [if_pos e]
    refine WP.icf rfl (show ¬ ¬ nI (sTl S) = nI 20 by rw [e]; exact fun k => k rfl) ?_
    iterate 1 (refine WP.st rfl ?_)
    exact WP.ret rfl ⟨rfl, I, J, FR.refl _ _ _ _, h, rfl⟩
  · rw [if_neg e]
    refine WP.ict rfl (show ¬ nI (sTl S) = nI 20 from fun k => e ((nI_eq (by omega) (by omega)).mp k)) ?_
    iterate 2 (refine WP.st rfl ?_)
    refine WP.get (v := .int (nI (sTl S))) rfl rfl (rfl) (congrArg Value.int p1) ?_
    iterate 1 (refine WP.st rfl ?_)
    refine WP.call rfl rfl (sp_clearRow L I J w (sTl S) (by omega) x) ?_
    rintro _ _ ⟨rfl, I1, f1, f2, f3, rfl⟩
    have q1 : I1 208 2 = nI (sTl S) := by rw [f1 208 (by decide)]; exact p1
    iterate 3 (refine WP.st rfl ?_)
    refine WP.get (v := .int (nI (sTl S))) rfl rfl (rfl) (congrArg Value.int q1) ?_
    iterate 1 (refine WP.st rfl ?_)
    refine WP.iast (k := sTl S) rfl (rfl) (rfl) (show sTl S < 21 by omega) (rfl) ?_
    have o : ∀ c, c ≠ 210 → c ≠ 211 → mm_up I1 211 (sTl S) 0 c = I c := fun c c1 c2 => (up_ne I1 _ c2).trans (f1 c c1)
    have o9 : mm_up I1 211 (sTl S) 0 210 = I1 210 := up_ne I1 _ (by decide)
    have q2 : mm_up I1 211 (sTl S) 0 208 2 = nI (sTl S) := by rw [o 208 (by decide) (by decide)]; exact p1
    iterate 2 (refine WP.st rfl ?_)
    refine WP.get (v := .int (nI (sTl S))) rfl rfl (rfl) (congrArg Value.int q2) ?_
    iterate 3 (refine WP.st rfl ?_)
    have q3 : mm_up (mm_up I1 211 (sTl S) 0) 208 2 (nI (sTl S) + 1) 208 2 = nI (sTl S + 1) := by rw [mm_up_at]; exact nI_1 _
    iterate 1 (refine WP.st rfl ?_)
    refine WP.get (v := .int (nI (sTl S + 1))) rfl rfl (rfl) (congrArg Value.int q3) ?_
    iterate 2 (refine WP.st rfl ?_)
    have o2 : ∀ c, c ≠ 208 → c ≠ 210 → c ≠ 211 → mm_up (mm_up I1 211 (sTl S) 0) 208 2 (nI (sTl S) + 1) c = I c := fun c c0 c1 c2 => (up_ne _ _ c0).trans (o c c1 c2)
    have u9 : mm_up (mm_up I1 211 (sTl S) 0) 208 2 (nI (sTl S) + 1) 210 = I1 210 := (up_ne _ _ (by decide)).trans o9
    have u10 : mm_up (mm_up I1 211 (sTl S) 0) 208 2 (nI (sTl S) + 1) 211 = mm_up I1 211 (sTl S) 0 211 := up_ne _ _ (by decide)
    refine WP.ret rfl ⟨by rw [show (nI (sTl S + 1) - Int32.ofInt 1 : Int32) = nI (sTl S) from nI_m1 _], mm_up (mm_up I1 211 (sTl S) 0) 208 2 (nI (sTl S) + 1), J, fun c hc => ⟨o2 c (by omega) (by omega) (by omega), rfl⟩, ?_, rfl⟩
    exact RI_row h (by omega) (fun k hk => by rw [up_nk _ _ hk, o 208 (by decide) (by decide)]) q3 (by omega) (by omega) (fun j hj => by omega) (fun c c1 c2 c3 _ _ => o2 c (by omega) c2 c3) (fun j c hj hc => by rw [u9]; exact f2 _ (by omega)) (fun j hj => by rw [u10, up_nk I1 _ hj, f1 211 (by decide)]) (fun j k _ _ => by rw [o2 212 (by decide) (by decide) (by decide), o2 213 (by decide) (by decide) (by decide)]; exact ⟨rfl, rfl⟩) (rR_z z _ _ (fun c hc => by rw [u9]; exact f3 c hc) (by rw [u10, mm_up_at]))
theorem m_telling (L : Nat) (I : Nat → Nat → Int32) (J : Nat → Nat → Int64) (w : Nat → Nat) (S : St) (h : RI I J S) (x : Int32) : MM L I J w m_Mo_telling [.int x] (.int (oTelling S x).1) (oTelling S x).2 := by
  unfold MM SP oTelling
  refine mt_a L I J w x _ (fun z => ?_) (fun z => ?_)
  · rw [if_neg z]; exact mt_b L I J w x ⟨rfl, I, J, FR.refl _ _ _ _, h, rfl⟩
  · rw [if_pos z]; exact mt_c L I J w S h x z
