section CR2
variable {mid pc : Nat} {L : ML} {sk : List Value} {h h0 : MH} {l : List Op} {cu su : Nat} {Q : Option Value → MH → Prop}
theorem WP.pfIg {a ci f idx v : Nat} {x : Int32} (hf : mm_fet mid pc = some (.putfield idx, 3, 0)) (hfl : mm_fld (mi_c (mm_of mid)) idx = some (ci, f)) (hk : hK (hg h0 l) a = ci) (hfin : mm_isF ci f = false) (ht : mm_ty ci f = 0) (hx : x = nI v) (k : WP mid (pc + 3, L, sk, hg h0 ((2, a, f, v) :: l), cu, su) Q) : WP mid (pc, L, .int x :: .ref a :: sk, hg h0 l, cu, su) Q := by
  subst hx
  exact WP.pfI hf hfl hk hfin ht k
theorem WP.pfJg {a ci f idx v : Nat} {x : Int64} (hf : mm_fet mid pc = some (.putfield idx, 3, 0)) (hfl : mm_fld (mi_c (mm_of mid)) idx = some (ci, f)) (hk : hK (hg h0 l) a = ci) (hini : mm_ini mid = true ∧ mi_c (mm_of mid) = ci) (ht : mm_ty ci f = 2) (hx : x = zJ v) (k : WP mid (pc + 3, L, sk, hg h0 ((3, a, f, v) :: l), cu, su) Q) : WP mid (pc, L, .long x :: .ref a :: sk, hg h0 l, cu, su) Q := by
  subst hx
  exact WP.pfJ hf hfl hk hini ht k
theorem WP.aasg {x : Int32} {a v k : Nat} (hf : mm_fet mid pc = some (.aastore, 1, 0)) (hx : x = nI k) (hk : (hK (hg h0 l) a = 12 ∧ hK (hg h0 l) v = 5) ∨ (hK (hg h0 l) a = 13 ∧ hK (hg h0 l) v = 6) ∨ (hK (hg h0 l) a = 15 ∧ hK (hg h0 l) v = 10)) (hb : k < hL (hg h0 l) a) (hl : Nat.ble (hL (hg h0 l) a) 2560 = true) (kk : WP mid (pc + 1, L, sk, hg h0 ((1, a, k, v) :: l), cu, su) Q) : WP mid (pc, L, .ref v :: .int x :: .ref a :: sk, hg h0 l, cu, su) Q := WP.aast hf hx hk hb hl kk
theorem WP.lasg {x : Int32} {y : Int64} {a k v : Nat} (hf : mm_fet mid pc = some (.lastore, 1, 0)) (hx : x = nI k) (hk : hK (hg h0 l) a = 10) (hb : k < hL (hg h0 l) a) (hl : Nat.ble (hL (hg h0 l) a) 2560 = true) (hy : y = zJ v) (kk : WP mid (pc + 1, L, sk, hg h0 ((3, a, k, v) :: l), cu, su) Q) : WP mid (pc, L, .long y :: .int x :: .ref a :: sk, hg h0 l, cu, su) Q := by
  subst hy
  exact WP.last hf hx hk hb hl kk
theorem WP.iasg {x y : Int32} {a k v : Nat} (hf : mm_fet mid pc = some (.iastore, 1, 0)) (hx : x = nI k) (hk : hK (hg h0 l) a = 9) (hb : k < hL (hg h0 l) a) (hl : Nat.ble (hL (hg h0 l) a) 2560 = true) (hy : y = nI v) (kk : WP mid (pc + 1, L, sk, hg h0 ((2, a, k, v) :: l), cu, su) Q) : WP mid (pc, L, .int y :: .int x :: .ref a :: sk, hg h0 l, cu, su) Q := by
  subst hy
  exact WP.iast hf hx hk hb hl kk
theorem WP.lalg {x : Int32} {y : Int64} {a k : Nat} (hf : mm_fet mid pc = some (.laload, 1, 0)) (hx : x = nI k) (hk : hK h a = 10 ∨ hK h a = 21) (hb : k < hL h a) (hl : Nat.ble (hL h a) 2560 = true) (hy : hJ h a k = y) (kk : WP mid (pc + 1, L, .long y :: sk, h, cu, su) Q) : WP mid (pc, L, .int x :: .ref a :: sk, h, cu, su) Q := by
  subst hy
  exact WP.lald hf hx hk hb hl kk
end CR2
/-- read off: kinds, lengths, references -/
theorem hK_z {h : MH} {n : Nat} (hn : hN h = n) (l : List Op) (a : Nat) {k : Nat} (e : kz (hK h) n l a = k) : hK (hg h l) a = k := (hg_z (j := 0) hn (fk := hK h) (fl' := hL h) (fi := hI h) (fj := hJ h) (fr := hR h) rfl rfl rfl rfl rfl l).1.trans e
theorem hL_z {h : MH} {n : Nat} (hn : hN h = n) (l : List Op) (a : Nat) {k : Nat} (e : lz (hL h) n l a = k) : hL (hg h l) a = k := (hg_z (j := 0) hn (fk := hK h) (fl' := hL h) (fi := hI h) (fj := hJ h) (fr := hR h) rfl rfl rfl rfl rfl l).2.1.trans e
theorem hR_z {h : MH} {n : Nat} (hn : hN h = n) (l : List Op) (a j : Nat) {k : Option Nat} (e : qz (hR h) n l a j = k) : hR (hg h l) a j = k := (hg_z hn (fk := hK h) (fl' := hL h) (fi := hI h) (fj := hJ h) (fr := hR h) rfl rfl rfl rfl rfl l).2.2.2.2.trans e
theorem hJ_z {h : MH} {n : Nat} (hn : hN h = n) (l : List Op) (a j : Nat) {k : Int64} (e : jz (hJ h) n l a j = k) : hJ (hg h l) a j = k := (hg_z hn (fk := hK h) (fl' := hL h) (fi := hI h) (fj := hJ h) (fr := hR h) rfl rfl rfl rfl rfl l).2.2.2.1.trans e
def wiL (s : Nat) (p : Nat) : List Op := ((3, s, 0, p) :: ((1, s, 5, s + 19) :: ((0, 10, 33, 0) :: ((2, s, 4, 16) :: ((1, s, 2, s + 18) :: ((0, 9, 16, 0) :: ((1, s, 1, s + 1) :: ((5, s + 1, 16, s + 1 + 1) :: ((4, 10, 33, 16) :: ((0, 15, 16, 0) :: []))))))))))
theorem wi_init {h : MH} {s : Nat} {p : Nat} (hn : hN h = s + 1) (hk : hK h s = 6) : SP m_Wi_init [.ref s, .long (zJ p)] h (fun v h' => v = none ∧ h' = hg h (wiL s p)) := by
  have hs : s < hN h := by omega
  unfold SP
  change WP m_Wi_init (0, mm_ent m_Wi_init [.ref s, .long (zJ p)], [], hg h [], 0, 0) _
  iterate 5 (refine WP.st rfl ?_)
  refine WP.mna (kd := 15) (n := 16) (m := 33) (q := s + 1) (cu' := 17) (su' := 544) rfl (by rw [hg_N, hn]; rfl) ?_
  refine WP.pfRg rfl rfl ((hg_K hs _).1.trans hk) (by decide) rfl ?_
  iterate 2 (refine WP.st rfl ?_)
  refine WP.nar (kd := 9) (n := 16) (q := s + 18) (cu' := 18) (su' := 560) rfl (by rw [hg_N, hn]; rfl) ?_
  refine WP.pfRg rfl rfl ((hg_K hs _).1.trans hk) (by decide) rfl ?_
  iterate 2 (refine WP.st rfl ?_)
  refine WP.pfIg (v := 16) rfl rfl ((hg_K hs _).1.trans hk) rfl rfl rfl ?_
  iterate 2 (refine WP.st rfl ?_)
  refine WP.nar (kd := 10) (n := 33) (q := s + 19) (cu' := 19) (su' := 593) rfl (by rw [hg_N, hn]; rfl) ?_
  refine WP.pfRg rfl rfl ((hg_K hs _).1.trans hk) (by decide) rfl ?_
  iterate 2 (refine WP.st rfl ?_)
  refine WP.pfJg (v := p) rfl rfl ((hg_K hs _).1.trans hk) (by decide) rfl rfl ?_
  exact WP.ret rfl ⟨rfl, rfl⟩
def baL : List Op := ((1, 76, 7, 133) :: ((0, 10, 4, 0) :: ((1, 76, 6, 132) :: ((0, 10, 4, 0) :: ((1, 76, 5, 131) :: ((0, 10, 4, 0) :: ((1, 76, 4, 113) :: ((5, 113, 17, 114) :: ((4, 10, 17, 17) :: ((0, 15, 17, 0) :: ((1, 76, 3, 95) :: ((5, 95, 17, 96) :: ((4, 10, 17, 17) :: ((0, 15, 17, 0) :: ((1, 76, 1, 94) :: ((0, 9, 16, 0) :: ((1, 76, 0, 77) :: ((5, 77, 16, 78) :: ((4, 9, 16, 16) :: ((0, 14, 16, 0) :: []))))))))))))))))))))
theorem ba_init {h : MH} (hn : hN h = 77) (hk : hK h 76 = 0) : SP m_Ba_init [.ref 76] h (fun v h' => v = none ∧ h' = hg h baL) := by
  have hs : 76 < hN h := by omega
  unfold SP
  change WP m_Ba_init (0, mm_ent m_Ba_init [.ref 76], [], hg h [], 0, 0) _
  iterate 5 (refine WP.st rfl ?_)
  refine WP.mna (kd := 14) (n := 16) (m := 16) (q := 77) (cu' := 17) (su' := 272) rfl (by rw [hg_N, hn]; rfl) ?_
  refine WP.pfRg rfl rfl ((hg_K hs _).1.trans hk) (by decide) rfl ?_
  iterate 2 (refine WP.st rfl ?_)
  refine WP.nar (kd := 9) (n := 16) (q := 94) (cu' := 18) (su' := 288) rfl (by rw [hg_N, hn]; rfl) ?_
  refine WP.pfRg rfl rfl ((hg_K hs _).1.trans hk) (by decide) rfl ?_
  iterate 3 (refine WP.st rfl ?_)
  refine WP.mna (kd := 15) (n := 17) (m := 17) (q := 95) (cu' := 36) (su' := 594) rfl (by rw [hg_N, hn]; rfl) ?_
  refine WP.pfRg rfl rfl ((hg_K hs _).1.trans hk) (by decide) rfl ?_
  iterate 3 (refine WP.st rfl ?_)
  refine WP.mna (kd := 15) (n := 17) (m := 17) (q := 113) (cu' := 54) (su' := 900) rfl (by rw [hg_N, hn]; rfl) ?_
  refine WP.pfRg rfl rfl ((hg_K hs _).1.trans hk) (by decide) rfl ?_
  iterate 2 (refine WP.st rfl ?_)
  refine WP.nar (kd := 10) (n := 4) (q := 131) (cu' := 55) (su' := 904) rfl (by rw [hg_N, hn]; rfl) ?_
  refine WP.pfRg rfl rfl ((hg_K hs _).1.trans hk) (by decide) rfl ?_
  iterate 2 (refine WP.st rfl ?_)
  refine WP.nar (kd := 10) (n := 4) (q := 132) (cu' := 56) (su' := 908) rfl (by rw [hg_N, hn]; rfl) ?_
  refine WP.pfRg rfl rfl ((hg_K hs _).1.trans hk) (by decide) rfl ?_
  iterate 2 (refine WP.st rfl ?_)
  refine WP.nar (kd := 10) (n := 4) (q := 133) (cu' := 57) (su' := 912) rfl (by rw [hg_N, hn]; rfl) ?_
  refine WP.pfRg rfl rfl ((hg_K hs _).1.trans hk) (by decide) rfl ?_
  exact WP.ret rfl ⟨rfl, rfl⟩
def joL : List Op := ((1, 139, 0, 140) :: ((0, 10, 4, 0) :: []))
theorem jo_init {h : MH} (hn : hN h = 140) (hk : hK h 139 = 3) : SP m_Jo_init [.ref 139] h (fun v h' => v = none ∧ h' = hg h joL) := by
  have hs : 139 < hN h := by omega
  unfold SP
  change WP m_Jo_init (0, mm_ent m_Jo_init [.ref 139], [], hg h [], 0, 0) _
  iterate 4 (refine WP.st rfl ?_)
  refine WP.nar (kd := 10) (n := 4) (q := 140) (cu' := 1) (su' := 4) rfl (by rw [hg_N, hn]; rfl) ?_
  refine WP.pfRg rfl rfl ((hg_K hs _).1.trans hk) (by decide) rfl ?_
  exact WP.ret rfl ⟨rfl, rfl⟩
def frL : List Op := ((3, 136, 0, 1) :: ((1, 134, 5, 139) :: (joL ++ ((0, 3, 0, 0) :: ((1, 134, 4, 138) :: ((0, 10, 5, 0) :: ((1, 134, 3, 137) :: ((0, 10, 5, 0) :: ((1, 134, 2, 136) :: ((0, 10, 5, 0) :: ((1, 134, 1, 135) :: ((0, 10, 5, 0) :: []))))))))))))
theorem fr_init {h : MH} (hn : hN h = 135) (hk : hK h 134 = 1) : SP m_Fr_init [.ref 134] h (fun v h' => v = none ∧ h' = hg h frL) := by
  have hs : 134 < hN h := by omega
  unfold SP
  change WP m_Fr_init (0, mm_ent m_Fr_init [.ref 134], [], hg h [], 0, 0) _
  iterate 4 (refine WP.st rfl ?_)
  refine WP.nar (kd := 10) (n := 5) (q := 135) (cu' := 1) (su' := 5) rfl (by rw [hg_N, hn]; rfl) ?_
  refine WP.pfRg rfl rfl ((hg_K hs _).1.trans hk) (by decide) rfl ?_
  iterate 2 (refine WP.st rfl ?_)
  refine WP.nar (kd := 10) (n := 5) (q := 136) (cu' := 2) (su' := 10) rfl (by rw [hg_N, hn]; rfl) ?_
  refine WP.pfRg rfl rfl ((hg_K hs _).1.trans hk) (by decide) rfl ?_
  iterate 2 (refine WP.st rfl ?_)
  refine WP.nar (kd := 10) (n := 5) (q := 137) (cu' := 3) (su' := 15) rfl (by rw [hg_N, hn]; rfl) ?_
  refine WP.pfRg rfl rfl ((hg_K hs _).1.trans hk) (by decide) rfl ?_
  iterate 2 (refine WP.st rfl ?_)
  refine WP.nar (kd := 10) (n := 5) (q := 138) (cu' := 4) (su' := 20) rfl (by rw [hg_N, hn]; rfl) ?_
  refine WP.pfRg rfl rfl ((hg_K hs _).1.trans hk) (by decide) rfl ?_
  iterate 1 (refine WP.st rfl ?_)
  refine WP.nwg (ci := 3) (q := 139) (cu' := 5) (su' := 21) rfl (by rw [hg_N, hn]; rfl) ?_
  iterate 1 (refine WP.st rfl ?_)
  refine WP.cs rfl rfl rfl rfl rfl ((hg_new (by rw [hg_N, hn]; rfl) 3 0).1) rfl rfl rfl (jo_init (by rw [hg_N, hn]; rfl) ((hg_new (by rw [hg_N, hn]; rfl) 3 0).1)) ?_
  rintro _ _ ⟨rfl, rfl⟩
  rw [← hg_app]
  refine WP.pfRg rfl rfl ((hg_K hs _).1.trans hk) (by decide) rfl ?_
  iterate 1 (refine WP.st rfl ?_)
  refine WP.get (v := .ref 136) rfl rfl ((hg_K hs _).1.trans hk) (congrArg mm_rv (hR_z hn _ 134 2 (k := some 136) rfl)) ?_
  iterate 2 (refine WP.st rfl ?_)
  refine WP.lasg (k := 0) (v := 1) rfl rfl (hK_z hn _ 136 rfl) (show 0 < hL _ 136 by rw [hL_z hn _ 136 (k := 5) rfl]; decide) (by rw [hL_z hn _ 136 (k := 5) rfl]; rfl) rfl ?_
  exact WP.ret rfl ⟨rfl, rfl⟩
def fmL : List Op := ((1, 141, 7, 147) :: ((0, 11, 256, 0) :: ((1, 141, 6, 146) :: ((0, 9, 20, 0) :: ((1, 141, 5, 145) :: ((0, 9, 20, 0) :: ((1, 141, 4, 144) :: ((0, 9, 20, 0) :: ((1, 141, 3, 143) :: ((0, 9, 8, 0) :: ((1, 141, 0, 142) :: ((0, 11, 20, 0) :: []))))))))))))
theorem fm_init {h : MH} (hn : hN h = 142) (hk : hK h 141 = 2) : SP m_Fm_init [.ref 141] h (fun v h' => v = none ∧ h' = hg h fmL) := by
  have hs : 141 < hN h := by omega
  unfold SP
  change WP m_Fm_init (0, mm_ent m_Fm_init [.ref 141], [], hg h [], 0, 0) _
  iterate 4 (refine WP.st rfl ?_)
  refine WP.nar (kd := 11) (n := 20) (q := 142) (cu' := 1) (su' := 20) rfl (by rw [hg_N, hn]; rfl) ?_
  refine WP.pfRg rfl rfl ((hg_K hs _).1.trans hk) (by decide) rfl ?_
  iterate 2 (refine WP.st rfl ?_)
  refine WP.nar (kd := 9) (n := 8) (q := 143) (cu' := 2) (su' := 28) rfl (by rw [hg_N, hn]; rfl) ?_
  refine WP.pfRg rfl rfl ((hg_K hs _).1.trans hk) (by decide) rfl ?_
  iterate 2 (refine WP.st rfl ?_)
  refine WP.nar (kd := 9) (n := 20) (q := 144) (cu' := 3) (su' := 48) rfl (by rw [hg_N, hn]; rfl) ?_
  refine WP.pfRg rfl rfl ((hg_K hs _).1.trans hk) (by decide) rfl ?_
  iterate 2 (refine WP.st rfl ?_)
  refine WP.nar (kd := 9) (n := 20) (q := 145) (cu' := 4) (su' := 68) rfl (by rw [hg_N, hn]; rfl) ?_
  refine WP.pfRg rfl rfl ((hg_K hs _).1.trans hk) (by decide) rfl ?_
  iterate 2 (refine WP.st rfl ?_)
  refine WP.nar (kd := 9) (n := 20) (q := 146) (cu' := 5) (su' := 88) rfl (by rw [hg_N, hn]; rfl) ?_
  refine WP.pfRg rfl rfl ((hg_K hs _).1.trans hk) (by decide) rfl ?_
  iterate 2 (refine WP.st rfl ?_)
  refine WP.nar (kd := 11) (n := 256) (q := 147) (cu' := 6) (su' := 344) rfl (by rw [hg_N, hn]; rfl) ?_
  refine WP.pfRg rfl rfl ((hg_K hs _).1.trans hk) (by decide) rfl ?_
  exact WP.ret rfl ⟨rfl, rfl⟩
def juL : List Op := ((1, 12, 2, 56) :: (wiL 56 2147483587 ++ ((0, 6, 0, 0) :: ((1, 12, 1, 36) :: (wiL 36 2147483629 ++ ((0, 6, 0, 0) :: ((1, 12, 0, 16) :: (wiL 16 2147483647 ++ ((0, 6, 0, 0) :: ((1, 11, 3, 15) :: ((0, 9, 16, 0) :: ((1, 11, 2, 14) :: ((0, 9, 20, 0) :: ((1, 11, 1, 13) :: ((0, 9, 20, 0) :: ((1, 11, 0, 12) :: ((0, 13, 3, 0) :: [])))))))))))))))))
theorem ju_init {h : MH} (h1 : 1 < hN h) (hk1 : hK h 1 = 21) (hl1 : hL h 1 = 6) (hp1 : ∀ i, i < 6 → hJ h 1 i = mm_ps i) (hn : hN h = 12) (hk : hK h 11 = 4) : SP m_Ju_init [.ref 11] h (fun v h' => v = none ∧ h' = hg h juL) := by
  have hs : 11 < hN h := by omega
  unfold SP
  change WP m_Ju_init (0, mm_ent m_Ju_init [.ref 11], [], hg h [], 0, 0) _
  iterate 4 (refine WP.st rfl ?_)
  refine WP.anr (kd := 13) (n := 3) (q := 12) (cu' := 1) (su' := 3) rfl (by rw [hg_N, hn]; rfl) ?_
  refine WP.pfRg rfl rfl ((hg_K hs _).1.trans hk) (by decide) rfl ?_
  iterate 2 (refine WP.st rfl ?_)
  refine WP.nar (kd := 9) (n := 20) (q := 13) (cu' := 2) (su' := 23) rfl (by rw [hg_N, hn]; rfl) ?_
  refine WP.pfRg rfl rfl ((hg_K hs _).1.trans hk) (by decide) rfl ?_
  iterate 2 (refine WP.st rfl ?_)
  refine WP.nar (kd := 9) (n := 20) (q := 14) (cu' := 3) (su' := 43) rfl (by rw [hg_N, hn]; rfl) ?_
  refine WP.pfRg rfl rfl ((hg_K hs _).1.trans hk) (by decide) rfl ?_
  iterate 2 (refine WP.st rfl ?_)
  refine WP.nar (kd := 9) (n := 16) (q := 15) (cu' := 4) (su' := 59) rfl (by rw [hg_N, hn]; rfl) ?_
  refine WP.pfRg rfl rfl ((hg_K hs _).1.trans hk) (by decide) rfl ?_
  iterate 2 (refine WP.st rfl ?_)
  iterate 2 (refine WP.st rfl ?_)
  refine WP.icf rfl (show ¬ (3 : Int32) ≤ (0 : Int32) by decide) ?_
  iterate 1 (refine WP.st rfl ?_)
  refine WP.get (v := .ref 12) rfl rfl ((hg_K hs _).1.trans hk) (congrArg mm_rv (hR_z hn _ 11 0 (k := some 12) rfl)) ?_
  iterate 1 (refine WP.st rfl ?_)
  refine WP.nwg (ci := 6) (q := 16) (cu' := 5) (su' := 66) rfl (by rw [hg_N, hn]; rfl) ?_
  iterate 3 (refine WP.st rfl ?_)
  refine WP.lalg (k := 0) (y := zJ 2147483647) rfl (by decide) (Or.inr ((hg_K h1 _).1.trans hk1)) (by rw [(hg_K h1 _).2, hl1]; decide) (by rw [(hg_K h1 _).2, hl1]; rfl) (hJ_z hn _ 1 0 (hp1 0 (by decide))) ?_
  refine WP.cs rfl rfl rfl rfl rfl ((hg_new (by rw [hg_N, hn]; rfl) 6 0).1) rfl rfl rfl (wi_init (p := 2147483647) (by rw [hg_N, hn]; rfl) ((hg_new (by rw [hg_N, hn]; rfl) 6 0).1)) ?_
  rintro _ _ ⟨rfl, rfl⟩
  rw [← hg_app]
  refine WP.aasg (k := 0) rfl (by decide) (Or.inr (Or.inl ⟨hK_z hn _ 12 rfl, hK_z hn _ 16 rfl⟩)) (show 0 < hL _ 12 by rw [hL_z hn _ 12 (k := 3) rfl]; decide) (by rw [hL_z hn _ 12 (k := 3) rfl]; rfl) ?_
  iterate 2 (refine WP.st rfl ?_)
  iterate 2 (refine WP.st rfl ?_)
  refine WP.icf rfl (show ¬ (3 : Int32) ≤ (1 : Int32) by decide) ?_
  iterate 1 (refine WP.st rfl ?_)
  refine WP.get (v := .ref 12) rfl rfl ((hg_K hs _).1.trans hk) (congrArg mm_rv (hR_z hn _ 11 0 (k := some 12) rfl)) ?_
  iterate 1 (refine WP.st rfl ?_)
  refine WP.nwg (ci := 6) (q := 36) (cu' := 25) (su' := 666) rfl (by rw [hg_N, hn]; rfl) ?_
  iterate 3 (refine WP.st rfl ?_)
  refine WP.lalg (k := 1) (y := zJ 2147483629) rfl (by decide) (Or.inr ((hg_K h1 _).1.trans hk1)) (by rw [(hg_K h1 _).2, hl1]; decide) (by rw [(hg_K h1 _).2, hl1]; rfl) (hJ_z hn _ 1 1 (hp1 1 (by decide))) ?_
  refine WP.cs rfl rfl rfl rfl rfl ((hg_new (by rw [hg_N, hn]; rfl) 6 0).1) rfl rfl rfl (wi_init (p := 2147483629) (by rw [hg_N, hn]; rfl) ((hg_new (by rw [hg_N, hn]; rfl) 6 0).1)) ?_
  rintro _ _ ⟨rfl, rfl⟩
  rw [← hg_app]
  refine WP.aasg (k := 1) rfl (by decide) (Or.inr (Or.inl ⟨hK_z hn _ 12 rfl, hK_z hn _ 36 rfl⟩)) (show 1 < hL _ 12 by rw [hL_z hn _ 12 (k := 3) rfl]; decide) (by rw [hL_z hn _ 12 (k := 3) rfl]; rfl) ?_
  iterate 2 (refine WP.st rfl ?_)
  iterate 2 (refine WP.st rfl ?_)
  refine WP.icf rfl (show ¬ (3 : Int32) ≤ (2 : Int32) by decide) ?_
  iterate 1 (refine WP.st rfl ?_)
  refine WP.get (v := .ref 12) rfl rfl ((hg_K hs _).1.trans hk) (congrArg mm_rv (hR_z hn _ 11 0 (k := some 12) rfl)) ?_
  iterate 1 (refine WP.st rfl ?_)
  refine WP.nwg (ci := 6) (q := 56) (cu' := 45) (su' := 1266) rfl (by rw [hg_N, hn]; rfl) ?_
  iterate 3 (refine WP.st rfl ?_)
  refine WP.lalg (k := 2) (y := zJ 2147483587) rfl (by decide) (Or.inr ((hg_K h1 _).1.trans hk1)) (by rw [(hg_K h1 _).2, hl1]; decide) (by rw [(hg_K h1 _).2, hl1]; rfl) (hJ_z hn _ 1 2 (hp1 2 (by decide))) ?_
  refine WP.cs rfl rfl rfl rfl rfl ((hg_new (by rw [hg_N, hn]; rfl) 6 0).1) rfl rfl rfl (wi_init (p := 2147483587) (by rw [hg_N, hn]; rfl) ((hg_new (by rw [hg_N, hn]; rfl) 6 0).1)) ?_
  rintro _ _ ⟨rfl, rfl⟩
  rw [← hg_app]
  refine WP.aasg (k := 2) rfl (by decide) (Or.inr (Or.inl ⟨hK_z hn _ 12 rfl, hK_z hn _ 56 rfl⟩)) (show 2 < hL _ 12 by rw [hL_z hn _ 12 (k := 3) rfl]; decide) (by rw [hL_z hn _ 12 (k := 3) rfl]; rfl) ?_
  iterate 2 (refine WP.st rfl ?_)
  iterate 2 (refine WP.st rfl ?_)
  refine WP.ict rfl (show (3 : Int32) ≤ (3 : Int32) by decide) ?_
  exact WP.ret rfl ⟨rfl, rfl⟩
