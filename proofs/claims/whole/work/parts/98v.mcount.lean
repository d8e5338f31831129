theorem mn_a (L : Nat) (I : Nat → Nat → Int32) (J : Nat → Nat → Int64) (w : Nat → Nat) (x : Int32) (Q : Option Value → MH → Prop) (k0 : ¬ rg x 4 → WP m_Mo_count (12, [some (.ref 208), some (.int x), none, none], [], hp L I J w, 0, 0) Q) (k1 : rg x 4 → WP m_Mo_count (15, [some (.ref 208), some (.int x), none, none], [], hp L I J w, 0, 0) Q) : WP m_Mo_count (0, [some (.ref 208), some (.int x), none, none], [], hp L I J w, 0, 0) Q := by
  iterate 4 (refine WP.st rfl ?_)
  refine WP.calle rfl rfl (ev_in03 (hp L I J w) x) ?_
  exact WP.bn rfl k1 k0
theorem mn_b (L : Nat) (I : Nat → Nat → Int32) (J : Nat → Nat → Int64) (w : Nat → Nat) (S : St) (h : RI I J S) (x : Int32) (Q : Option Value → MH → Prop) (k : WP m_Mo_count (50, [some (.ref 208), some (.int x), some (.int (nI (hm (fun t => bo01 (sOf S t)) 1 (sTl S)))), some (.int (nI (sTl S)))], [], hp L I J w, 0, 0) Q) : WP m_Mo_count (15, [some (.ref 208), some (.int x), none, none], [], hp L I J w, 0, 0) Q := by
  have q2 := h.2.1.2.1
  iterate 6 (refine WP.st rfl ?_)
  refine WP.get (v := .int (nI (sTl S))) rfl rfl (rfl) (congrArg Value.int h.2.1.1) ?_
  refine WP.inv (fun i (_ : Unit) => (24, [some (.ref 208), some (.int x), some (.int (nI (hm (fun t => bo01 (sOf S t)) 1 i))), some (.int (nI i))], [.int (nI (sTl S)), .int (nI i)], hp L I J w, 0, 0)) (fun _ _ => True) (sTl S) () trivial (fun i _ hi _ kk => ?_) (fun _ _ => ?_)
  · have k2 := kk () trivial
    refine WP.icf rfl (nI_ge hi (by omega)) ?_
    iterate 4 (refine WP.st rfl ?_)
    refine WP.bald (k := i) rfl (rfl) (rfl) (show i < 20 by omega) (rfl) ?_
    rw [show hI (hp L I J w) 214 i = bo01 (sOf S i) from h.2.1.2.2.2.1 i (by omega)]
    by_cases z : sOf S i = true
    · rw [show hm (fun t => bo01 (sOf S t)) 1 (i + 1) = hm (fun t => bo01 (sOf S t)) 1 i + 1 from if_pos (show bo01 (sOf S i) = 1 from if_pos z), nI_succ i, nI_succ (hm _ 1 i)] at k2
      refine WP.iff rfl (show ¬ bo01 (sOf S i) = 0 by rw [show bo01 (sOf S i) = 1 from if_pos z]; decide) ?_
      iterate 8 (refine WP.st rfl ?_)
      refine WP.get (v := .int (nI (sTl S))) rfl rfl (rfl) (congrArg Value.int h.2.1.1) ?_
      exact k2
    · rw [show hm (fun t => bo01 (sOf S t)) 1 (i + 1) = hm (fun t => bo01 (sOf S t)) 1 i from if_neg (show ¬ bo01 (sOf S i) = 1 by rw [show bo01 (sOf S i) = 0 from if_neg z]; decide), nI_succ i] at k2
      refine WP.ift rfl (show bo01 (sOf S i) = 0 from if_neg z) ?_
      iterate 1 (refine WP.st rfl ?_)
      rw [show (nI (hm (fun t => bo01 (sOf S t)) 1 i)) = nI (hm (fun t => bo01 (sOf S t)) 1 i) + Int32.ofInt 0 from (Int32.add_zero _).symm] at k2
      iterate 6 (refine WP.st rfl ?_)
      refine WP.get (v := .int (nI (sTl S))) rfl rfl (rfl) (congrArg Value.int h.2.1.1) ?_
      exact k2
  · skip
    refine WP.ict rfl (nI_le (Nat.le_refl _) (by omega)) ?_
    exact k
theorem m_count (L : Nat) (I : Nat → Nat → Int32) (J : Nat → Nat → Int64) (w : Nat → Nat) (S : St) (h : RI I J S) (x : Int32) : MM L I J w m_Mo_count [.int x] (.int (oCount S x).1) (oCount S x).2 := by
  have q0 := x_lt x (m := 0) (by omega) (by omega)
  have xe : ∀ k : Nat, k < 4 → (x = nI k ↔ x.toInt = (k : Int)) := fun k hk => ⟨fun e => by rw [e]; exact nI_toInt (by omega), fun e => by rw [zI_of x, e, nI_zI]⟩
  obtain ⟨ba, bb, hB, -⟩ := h.2.2.2.2
  unfold MM SP oCount
  refine mn_a L I J w x _ (fun z => ?_) (fun z => mn_b L I J w S h x _ ?_)
  · rw [if_neg (fun e => z ⟨by omega, by omega⟩), if_neg (fun e => z ⟨by omega, by omega⟩), if_neg (fun e => z ⟨by omega, by omega⟩), if_neg (fun e => z ⟨by omega, by omega⟩)]
    iterate 1 (refine WP.st rfl ?_)
    exact WP.ret rfl ⟨rfl, I, J, FR.refl _ _ _ _, h, rfl⟩
  · have z1 := z.1
    have z2 := z.2
    iterate 1 (refine WP.st rfl ?_)
    by_cases e0 : x.toInt = 0
    · rw [if_pos e0]
      refine WP.iff rfl (show ¬ ¬ x = 0 from fun y => y ((xe 0 (by omega)).mpr e0)) ?_
      iterate 1 (refine WP.st rfl ?_)
      refine WP.get (v := .int (nI (sPt S))) rfl rfl (rfl) (congrArg Value.int h.1.1) ?_
      iterate 1 (refine WP.st rfl ?_)
      exact WP.ret rfl ⟨rfl, I, J, FR.refl _ _ _ _, h, rfl⟩
    · rw [if_neg e0]
      refine WP.ift rfl (show ¬ x = 0 from fun y => e0 ((xe 0 (by omega)).mp y)) ?_
      iterate 2 (refine WP.st rfl ?_)
      by_cases e1 : x.toInt = 1
      · rw [if_pos e1]
        refine WP.icf rfl (show ¬ ¬ x = nI 1 from fun y => y ((xe 1 (by omega)).mpr e1)) ?_
        iterate 1 (refine WP.st rfl ?_)
        refine WP.get (v := .int (nI (sTl S))) rfl rfl (rfl) (congrArg Value.int h.2.1.1) ?_
        iterate 1 (refine WP.st rfl ?_)
        exact WP.ret rfl ⟨rfl, I, J, FR.refl _ _ _ _, h, rfl⟩
      · rw [if_neg e1]
        refine WP.ict rfl (show ¬ x = nI 1 from fun y => e1 ((xe 1 (by omega)).mp y)) ?_
        iterate 2 (refine WP.st rfl ?_)
        by_cases e2 : x.toInt = 2
        · rw [if_pos e2]
          refine WP.icf rfl (show ¬ ¬ x = nI 2 from fun y => y ((xe 2 (by omega)).mpr e2)) ?_
          iterate 2 (refine WP.st rfl ?_)
          exact WP.ret rfl ⟨rfl, I, J, FR.refl _ _ _ _, h, rfl⟩
        · rw [if_neg e2, if_pos (show x.toInt = 3 by omega)]
          refine WP.ict rfl (show ¬ x = nI 2 from fun y => e2 ((xe 2 (by omega)).mp y)) ?_
          iterate 1 (refine WP.st rfl ?_)
          refine WP.get (v := .int (nI (sB S))) rfl rfl (rfl) (congrArg Value.int hB.1) ?_
          exact WP.ret rfl ⟨rfl, I, J, FR.refl _ _ _ _, h, rfl⟩
