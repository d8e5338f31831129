theorem ev_mhowMany (L : Nat) (I : Nat → Nat → Int32) (J : Nat → Nat → Int64) (w : Nat → Nat) (v : Int32) (N : Nat) (hN : N ≤ 20) (h : I 208 2 = nI N) : EV m_Mo_howMany [.ref 208, .int v] (hp L I J w) (some (.int (nI (hm (I 215) v N)))) (hp L I J w) := by
  obtain ⟨r, h', e, q⟩ : SP m_Mo_howMany [.ref 208, .int v] (hp L I J w) (fun r h' => r = some (.int (nI (hm (I 215) v N))) ∧ h' = hp L I J w) := by
    unfold SP
    iterate 6 (refine WP.st rfl ?_)
    refine WP.get (v := .int (nI N)) rfl rfl (rfl) (congrArg Value.int h) ?_
    refine WP.inv (fun i (_ : Unit) => (9, [some (.ref 208), some (.int v), some (.int (nI (hm (I 215) v i))), some (.int (nI i))], [.int (nI N), .int (nI i)], hp L I J w, 0, 0)) (fun _ _ => True) N () trivial (fun i _ hi _ kk => ?_) (fun _ _ => ?_)
    · have k2 := kk () trivial
      refine WP.icf rfl (nI_ge hi (by omega)) ?_
      iterate 3 (refine WP.st rfl ?_)
      refine WP.iald (k := i) rfl (rfl) (Or.inl rfl) (show i < 20 by omega) (rfl) ?_
      iterate 1 (refine WP.st rfl ?_)
      by_cases z : I 215 i = v
      · rw [show hm (I 215) v (i + 1) = hm (I 215) v i + 1 from if_pos z, nI_succ i, nI_succ (hm (I 215) v i)] at k2
        refine WP.icf rfl (show ¬ ¬ I 215 i = v from fun k => k z) ?_
        iterate 9 (refine WP.st rfl ?_)
        refine WP.get (v := .int (nI N)) rfl rfl (rfl) (congrArg Value.int h) ?_
        exact k2
      · rw [show hm (I 215) v (i + 1) = hm (I 215) v i from if_neg z, nI_succ i] at k2
        refine WP.ict rfl (show ¬ I 215 i = v from z) ?_
        iterate 6 (refine WP.st rfl ?_)
        refine WP.get (v := .int (nI N)) rfl rfl (rfl) (congrArg Value.int h) ?_
        exact k2
    · skip
      refine WP.ict rfl (nI_le (Nat.le_refl _) (by omega)) ?_
      iterate 1 (refine WP.st rfl ?_)
      exact WP.ret rfl ⟨rfl, rfl⟩
  obtain ⟨rfl, rfl⟩ := q
  exact e
theorem ev_in03 (h : MH) (x : Int32) : EV m_Mo_in [.long x.toInt64, .long (Int64.ofNat 0), .long 3] h (some (.int (if rg x 4 then 1 else 0))) h := by
  have := ev_inC h x (A := Int64.ofNat 0) (B := 3) 0 (((4 : Nat) : Int) - 1) rfl (by decide) (by decide)
  rw [rg_in] at this
  exact this
theorem ml_a (L : Nat) (I : Nat → Nat → Int32) (J : Nat → Nat → Int64) (w : Nat → Nat) (x : Int32) (Q : Option Value → MH → Prop) (k0 : ¬ rg x 4 → WP m_Mo_tellings (12, [some (.ref 208), some (.int x)], [], hp L I J w, 0, 0) Q) (k1 : rg x 4 → WP m_Mo_tellings (15, [some (.ref 208), some (.int x)], [], hp L I J w, 0, 0) Q) : WP m_Mo_tellings (0, [some (.ref 208), some (.int x)], [], hp L I J w, 0, 0) Q := by
  iterate 4 (refine WP.st rfl ?_)
  refine WP.calle rfl rfl (ev_in03 (hp L I J w) x) ?_
  exact WP.bn rfl k1 k0
theorem m_tellings (L : Nat) (I : Nat → Nat → Int32) (J : Nat → Nat → Int64) (w : Nat → Nat) (S : St) (h : RI I J S) (x : Int32) : MM L I J w m_Mo_tellings [.int x] (.int (oTellings S x).1) (oTellings S x).2 := by
  have q2 := h.2.1.2.1
  have c := x_lt x (m := 3) (by omega) (by omega)
  unfold MM SP oTellings
  refine ml_a L I J w x _ (fun z => ?_) (fun z => ?_)
  · rw [if_neg z]
    iterate 1 (refine WP.st rfl ?_)
    exact WP.ret rfl ⟨rfl, I, J, FR.refl _ _ _ _, h, rfl⟩
  · rw [if_pos z]
    have z1 := z.1
    have z2 := z.2
    iterate 1 (refine WP.st rfl ?_)
    refine WP.call rfl rfl (sp_mj L I J w S h) ?_
    rintro _ _ ⟨rfl, I1, J1, f1, f2, f3, rfl⟩
    iterate 2 (refine WP.st rfl ?_)
    by_cases e : x = 3
    · rw [if_pos e]
      refine WP.ict rfl (show zI 3 ≤ x from c.2.2.2.mpr (by rw [e]; decide)) ?_
      iterate 2 (refine WP.st rfl ?_)
      refine WP.get (v := .int (nI (sPt S))) rfl rfl (rfl) (congrArg Value.int f2.1.1) ?_
      iterate 3 (refine WP.st rfl ?_)
      refine WP.calle rfl rfl (ev_mhowMany L I1 J1 w 0 (sTl S) q2 f2.2.1.1) ?_
      rw [hm_rk (T := sT S) (of := sOf S) (sTl S) f3.2]
      iterate 1 (refine WP.st rfl ?_)
      exact WP.ret rfl ⟨by rw [ix2], I1, J1, f1, f2, rfl⟩
    · rw [if_neg e]
      refine WP.icf rfl (show ¬ zI 3 ≤ x from fun k => e (by have := c.2.2.2.mp k; rw [zI_of x, show x.toInt = 3 by omega]; rfl)) ?_
      iterate 2 (refine WP.st rfl ?_)
      refine WP.calle rfl rfl (ev_mhowMany L I1 J1 w x (sTl S) q2 f2.2.1.1) ?_
      rw [hm_congr x (sTl S) f3.2]
      iterate 1 (refine WP.st rfl ?_)
      exact WP.ret rfl ⟨rfl, I1, J1, f1, f2, rfl⟩
