theorem hm_congr {f g : Nat → Int32} (v : Int32) : ∀ n, (∀ t, t < n → f t = g t) → hm f v n = hm g v n
  | 0, _ => rfl
  | n + 1, h => by
    show (if f n = v then hm f v n + 1 else hm f v n) = (if g n = v then hm g v n + 1 else hm g v n)
    rw [hm_congr v n (fun t ht => h t (by omega)), h n (by omega)]
noncomputable def oTellings (S : St) (x : Int32) : Int32 × St := (if rg x 4 then (if x = 3 then nI (2 * sPt S) - nI (rk (sT S) (sOf S) (sTl S)) else nI (hm (fun t => nI (knd (sT S) (sOf S) t)) x (sTl S))) else -2, S)
theorem c_tellings (L : Nat) (I : Nat → Nat → Int32) (J : Nat → Nat → Int64) (w : Nat → Nat) (S : St) (h : CI I J w S) (x : Int32) : CM L I J w m_DT_tellings [.int x] (.int (oTellings S x).1) (oTellings S x).2 := by
  have q1 := h.2.1.1
  have q2 := h.2.1.2.1
  have c := x_lt x (m := 3) (by omega) (by omega)
  have c0 := x_lt x (m := 0) (by omega) (by omega)
  unfold CM SP oTellings
  iterate 1 (refine WP.st rfl ?_)
  by_cases z : x.toInt < 0
  · rw [if_neg (fun k => by have := k.1; omega)]
    refine WP.ift rfl (c0.1.mpr z) ?_
    iterate 1 (refine WP.st rfl ?_)
    exact WP.ret rfl ⟨rfl, I, J, w, FR.refl _ _ _ _, h, rfl⟩
  · skip
    refine WP.iff rfl (show ¬ x < 0 from fun k => z (c0.1.mp k)) ?_
    iterate 2 (refine WP.st rfl ?_)
    by_cases z2 : x.toInt ≤ 3
    · rw [if_pos (show rg x 4 from ⟨by omega, by omega⟩)]
      refine WP.ict rfl (show x ≤ zI 3 from c.2.2.1.mpr z2) ?_
      iterate 5 (refine WP.st rfl ?_)
      refine WP.get (v := .int (nI (sTl S))) rfl rfl (rfl) (congrArg Value.int q1) ?_
      refine WP.call rfl rfl (sp_cj L I J w S h) ?_
      rintro _ _ ⟨rfl, I1, J1, f1, f2, f3, f4, rfl⟩
      have fr : FR 1 207 I J I1 J1 := FR_wide f1 (by omega) (by omega)
      iterate 2 (refine WP.st rfl ?_)
      by_cases e : x = 3
      · rw [if_pos e]
        refine WP.icf rfl (show ¬ ¬ x = 3 from fun k => k e) ?_
        iterate 2 (refine WP.st rfl ?_)
        refine WP.get (v := .int (nI (sPt S))) rfl rfl (rfl) (congrArg Value.int f2.1.1) ?_
        iterate 3 (refine WP.st rfl ?_)
        refine WP.get (v := .int (nI (rk (sT S) (sOf S) (sTl S)))) rfl rfl (rfl) (congrArg Value.int f3.2.1) ?_
        iterate 1 (refine WP.st rfl ?_)
        exact WP.ret rfl ⟨by rw [ix2], I1, J1, w, fr, f2, rfl⟩
      · rw [if_neg e]
        refine WP.ict rfl (show ¬ x = 3 from e) ?_
        iterate 3 (refine WP.st rfl ?_)
        refine WP.calle rfl rfl (ev_howMany L I1 J1 w x (sTl S) q2 f4) ?_
        rw [hm_congr x (sTl S) (fun t ht => (f3.2.2.1 t ht).1)]
        exact WP.ret rfl ⟨rfl, I1, J1, w, fr, f2, rfl⟩
    · rw [if_neg (fun k => by have := k.2; omega)]
      refine WP.icf rfl (show ¬ x ≤ zI 3 from fun k => z2 (c.2.2.1.mp k)) ?_
      iterate 1 (refine WP.st rfl ?_)
      exact WP.ret rfl ⟨rfl, I, J, w, FR.refl _ _ _ _, h, rfl⟩
