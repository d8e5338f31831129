/-! runs, by what they end in -/
def WP (mid : Nat) (x : MS) (Q : Option Value → MH → Prop) : Prop := ∃ r h, RN mid x (r, h) ∧ Q r h
def SP (mid : Nat) (av : List Value) (h : MH) (Q : Option Value → MH → Prop) : Prop := WP mid (0, mm_ent mid av, [], h, 0, 0) Q
theorem WP.up {mid : Nat} {x x' : MS} {Q : Option Value → MH → Prop} (f : ∀ R, RN mid x' R → RN mid x R) (k : WP mid x' Q) : WP mid x Q := by
  obtain ⟨r, h, a, b⟩ := k
  exact ⟨r, h, f _ a, b⟩
theorem WP.mono {mid : Nat} {x : MS} {Q Q' : Option Value → MH → Prop} (k : WP mid x Q) (f : ∀ r h, Q r h → Q' r h) : WP mid x Q' := by
  obtain ⟨r, h, a, b⟩ := k
  exact ⟨r, h, a, f _ _ b⟩
theorem SP.mono {mid : Nat} {av : List Value} {h : MH} {Q Q' : Option Value → MH → Prop} (k : SP mid av h Q) (f : ∀ r h, Q r h → Q' r h) : SP mid av h Q' := WP.mono k f
theorem SP.of {mid : Nat} {av : List Value} {h : MH} {r : Option Value} {h' : MH} {Q : Option Value → MH → Prop} (e : EV mid av h r h') (q : Q r h') : SP mid av h Q := ⟨r, h', e, q⟩
theorem SP.ev {mid : Nat} {av : List Value} {h : MH} {Q : Option Value → MH → Prop} (k : SP mid av h Q) : ∃ r h', EV mid av h r h' ∧ Q r h' := k
section WRULES
variable {mid pc : Nat} {L : ML} {sk : List Value} {h : MH} {cu su : Nat} {Q : Option Value → MH → Prop}
theorem WP.st {x' : MS} (e : mm_one mid pc L sk h cu su = some (.inl x')) (k : WP mid x' Q) : WP mid (pc, L, sk, h, cu, su) Q := WP.up (fun _ z => RN.st e z) k
theorem WP.ret {r : Option Value} {h' : MH} (e : mm_one mid pc L sk h cu su = some (.inr (.inl (r, h')))) (q : Q r h') : WP mid (pc, L, sk, h, cu, su) Q := ⟨r, h', RN.ret e, q⟩
theorem WP.calle {m2 : Nat} {av : List Value} {x' : MS} {v : Option Value} {h2 : MH} (e : mm_one mid pc L sk h cu su = some (.inr (.inr (m2, av, x')))) (hb : Nat.ble (mm_slots av).length (mi_l (mm_of m2)) = true) (hev : EV m2 av x'.2.2.2.1 v h2) (k : WP mid (x'.1, x'.2.1, v.toList ++ x'.2.2.1, h2, x'.2.2.2.2.1, x'.2.2.2.2.2) Q) : WP mid (pc, L, sk, h, cu, su) Q := WP.up (fun _ z => RN.call e hb hev z) k
theorem WP.call {m2 : Nat} {av : List Value} {x' : MS} {Q2 : Option Value → MH → Prop} (e : mm_one mid pc L sk h cu su = some (.inr (.inr (m2, av, x')))) (hb : Nat.ble (mm_slots av).length (mi_l (mm_of m2)) = true) (hs : SP m2 av x'.2.2.2.1 Q2) (k : ∀ v h2, Q2 v h2 → WP mid (x'.1, x'.2.1, v.toList ++ x'.2.2.1, h2, x'.2.2.2.2.1, x'.2.2.2.2.2) Q) : WP mid (pc, L, sk, h, cu, su) Q := by
  obtain ⟨v, h2, a, b⟩ := hs
  exact WP.calle e hb a (k v h2 b)
theorem WP.ict {c : ClassFile.Cond} {off : Int} {tgt : Nat} {x y : Int32} (hf : mm_fet mid pc = some (.if_icmp c off, 3, tgt)) (hc : icP c x y) (k : WP mid (tgt, L, sk, h, cu, su) Q) : WP mid (pc, L, .int y :: .int x :: sk, h, cu, su) Q := WP.up (fun _ z => RN.ict hf hc z) k
theorem WP.icf {c : ClassFile.Cond} {off : Int} {tgt : Nat} {x y : Int32} (hf : mm_fet mid pc = some (.if_icmp c off, 3, tgt)) (hc : ¬ icP c x y) (k : WP mid (pc + 3, L, sk, h, cu, su) Q) : WP mid (pc, L, .int y :: .int x :: sk, h, cu, su) Q := WP.up (fun _ z => RN.icf hf hc z) k
theorem WP.ift {c : ClassFile.Cond} {off : Int} {tgt : Nat} {x : Int32} (hf : mm_fet mid pc = some (.ifCond c off, 3, tgt)) (hc : icP c x 0) (k : WP mid (tgt, L, sk, h, cu, su) Q) : WP mid (pc, L, .int x :: sk, h, cu, su) Q := WP.up (fun _ z => RN.ift hf hc z) k
theorem WP.iff {c : ClassFile.Cond} {off : Int} {tgt : Nat} {x : Int32} (hf : mm_fet mid pc = some (.ifCond c off, 3, tgt)) (hc : ¬ icP c x 0) (k : WP mid (pc + 3, L, sk, h, cu, su) Q) : WP mid (pc, L, .int x :: sk, h, cu, su) Q := WP.up (fun _ z => RN.iff hf hc z) k
theorem WP.ic {c : ClassFile.Cond} {off : Int} {tgt : Nat} {x y : Int32} (hf : mm_fet mid pc = some (.if_icmp c off, 3, tgt)) (k1 : icP c x y → WP mid (tgt, L, sk, h, cu, su) Q) (k2 : ¬ icP c x y → WP mid (pc + 3, L, sk, h, cu, su) Q) : WP mid (pc, L, .int y :: .int x :: sk, h, cu, su) Q := by
  by_cases hc : icP c x y
  · exact WP.ict hf hc (k1 hc)
  · exact WP.icf hf hc (k2 hc)
theorem WP.i0 {c : ClassFile.Cond} {off : Int} {tgt : Nat} {x : Int32} (hf : mm_fet mid pc = some (.ifCond c off, 3, tgt)) (k1 : icP c x 0 → WP mid (tgt, L, sk, h, cu, su) Q) (k2 : ¬ icP c x 0 → WP mid (pc + 3, L, sk, h, cu, su) Q) : WP mid (pc, L, .int x :: sk, h, cu, su) Q := by
  by_cases hc : icP c x 0
  · exact WP.ift hf hc (k1 hc)
  · exact WP.iff hf hc (k2 hc)
theorem WP.iald {x : Int32} {a k : Nat} (hf : mm_fet mid pc = some (.iaload, 1, 0)) (hx : x = nI k) (hk : hK h a = 9 ∨ hK h a = 20) (hb : k < hL h a) (hl : Nat.ble (hL h a) 2560 = true) (kk : WP mid (pc + 1, L, .int (hI h a k) :: sk, h, cu, su) Q) : WP mid (pc, L, .int x :: .ref a :: sk, h, cu, su) Q := WP.up (fun _ z => RN.iald hf hx hk hb hl z) kk
theorem WP.lald {x : Int32} {a k : Nat} (hf : mm_fet mid pc = some (.laload, 1, 0)) (hx : x = nI k) (hk : hK h a = 10 ∨ hK h a = 21) (hb : k < hL h a) (hl : Nat.ble (hL h a) 2560 = true) (kk : WP mid (pc + 1, L, .long (hJ h a k) :: sk, h, cu, su) Q) : WP mid (pc, L, .int x :: .ref a :: sk, h, cu, su) Q := WP.up (fun _ z => RN.lald hf hx hk hb hl z) kk
theorem WP.bald {x : Int32} {a k : Nat} (hf : mm_fet mid pc = some (.baload, 1, 0)) (hx : x = nI k) (hk : hK h a = 11) (hb : k < hL h a) (hl : Nat.ble (hL h a) 2560 = true) (kk : WP mid (pc + 1, L, .int (hI h a k) :: sk, h, cu, su) Q) : WP mid (pc, L, .int x :: .ref a :: sk, h, cu, su) Q := WP.up (fun _ z => RN.bald hf hx hk hb hl z) kk
theorem WP.aald {x : Int32} {a k q : Nat} (hf : mm_fet mid pc = some (.aaload, 1, 0)) (hx : x = nI k) (hk : hK h a = 12 ∨ hK h a = 13 ∨ hK h a = 14 ∨ hK h a = 15) (hb : k < hL h a) (hl : Nat.ble (hL h a) 2560 = true) (hq : hR h a k = some q) (kk : WP mid (pc + 1, L, .ref q :: sk, h, cu, su) Q) : WP mid (pc, L, .int x :: .ref a :: sk, h, cu, su) Q := WP.up (fun _ z => RN.aald hf hx hk hb hl hq z) kk
theorem WP.iast {x v : Int32} {a k : Nat} (hf : mm_fet mid pc = some (.iastore, 1, 0)) (hx : x = nI k) (hk : hK h a = 9) (hb : k < hL h a) (hl : Nat.ble (hL h a) 2560 = true) (kk : WP mid (pc + 1, L, sk, putI h a k v, cu, su) Q) : WP mid (pc, L, .int v :: .int x :: .ref a :: sk, h, cu, su) Q := WP.up (fun _ z => RN.iast hf hx hk hb hl z) kk
theorem WP.last {x : Int32} {v : Int64} {a k : Nat} (hf : mm_fet mid pc = some (.lastore, 1, 0)) (hx : x = nI k) (hk : hK h a = 10) (hb : k < hL h a) (hl : Nat.ble (hL h a) 2560 = true) (kk : WP mid (pc + 1, L, sk, putJ h a k v, cu, su) Q) : WP mid (pc, L, .long v :: .int x :: .ref a :: sk, h, cu, su) Q := WP.up (fun _ z => RN.last hf hx hk hb hl z) kk
theorem WP.bast {x v : Int32} {a k : Nat} (hf : mm_fet mid pc = some (.bastore, 1, 0)) (hx : x = nI k) (hk : hK h a = 11) (hb : k < hL h a) (hl : Nat.ble (hL h a) 2560 = true) (hv : v = 0 ∨ v = 1) (kk : WP mid (pc + 1, L, sk, putI h a k v, cu, su) Q) : WP mid (pc, L, .int v :: .int x :: .ref a :: sk, h, cu, su) Q := WP.up (fun _ z => RN.bast hf hx hk hb hl hv z) kk
theorem WP.aast {x : Int32} {a v k : Nat} (hf : mm_fet mid pc = some (.aastore, 1, 0)) (hx : x = nI k) (hk : (hK h a = 12 ∧ hK h v = 5) ∨ (hK h a = 13 ∧ hK h v = 6) ∨ (hK h a = 15 ∧ hK h v = 10)) (hb : k < hL h a) (hl : Nat.ble (hL h a) 2560 = true) (kk : WP mid (pc + 1, L, sk, putR h a k (some v), cu, su) Q) : WP mid (pc, L, .ref v :: .int x :: .ref a :: sk, h, cu, su) Q := WP.up (fun _ z => RN.aast hf hx hk hb hl z) kk
theorem WP.lrem {x y : Int64} (hf : mm_fet mid pc = some (.lrem, 1, 0)) (hy : ¬ y = 0) (k : WP mid (pc + 1, L, .long (x - x / y * y) :: sk, h, cu, su) Q) : WP mid (pc, L, .long y :: .long x :: sk, h, cu, su) Q := WP.up (fun _ z => RN.lrem hf hy z) k
theorem WP.ldiv {x y : Int64} (hf : mm_fet mid pc = some (.ldiv, 1, 0)) (hy : ¬ y = 0) (k : WP mid (pc + 1, L, .long (x / y) :: sk, h, cu, su) Q) : WP mid (pc, L, .long y :: .long x :: sk, h, cu, su) Q := WP.up (fun _ z => RN.ldiv hf hy z) k
theorem WP.irem {x y : Int32} (hf : mm_fet mid pc = some (.irem, 1, 0)) (hy : ¬ y = 0) (k : WP mid (pc + 1, L, .int (x - x / y * y) :: sk, h, cu, su) Q) : WP mid (pc, L, .int y :: .int x :: sk, h, cu, su) Q := WP.up (fun _ z => RN.irem hf hy z) k
theorem WP.idiv {x y : Int32} (hf : mm_fet mid pc = some (.idiv, 1, 0)) (hy : ¬ y = 0) (k : WP mid (pc + 1, L, .int (x / y) :: sk, h, cu, su) Q) : WP mid (pc, L, .int y :: .int x :: sk, h, cu, su) Q := WP.up (fun _ z => RN.idiv hf hy z) k
theorem WP.get {a ci f idx : Nat} {v : Value} (hf : mm_fet mid pc = some (.getfield idx, 3, 0)) (hfl : mm_fld (mi_c (mm_of mid)) idx = some (ci, f)) (hk : hK h a = ci) (hv : mm_fv h a ci f = v) (k : WP mid (pc + 3, L, v :: sk, h, cu, su) Q) : WP mid (pc, L, .ref a :: sk, h, cu, su) Q := WP.up (fun _ z => RN.get hf hfl hk hv z) k
theorem WP.pfI {a ci f idx : Nat} {x : Int32} (hf : mm_fet mid pc = some (.putfield idx, 3, 0)) (hfl : mm_fld (mi_c (mm_of mid)) idx = some (ci, f)) (hk : hK h a = ci) (hfin : mm_isF ci f = false) (ht : mm_ty ci f = 0) (k : WP mid (pc + 3, L, sk, putI h a f x, cu, su) Q) : WP mid (pc, L, .int x :: .ref a :: sk, h, cu, su) Q := WP.up (fun _ z => RN.pfI hf hfl hk hfin ht z) k
theorem WP.pfZ {a ci f idx : Nat} {x : Int32} (hf : mm_fet mid pc = some (.putfield idx, 3, 0)) (hfl : mm_fld (mi_c (mm_of mid)) idx = some (ci, f)) (hk : hK h a = ci) (hfin : mm_isF ci f = false) (ht : mm_ty ci f = 1) (hx : x = 0 ∨ x = 1) (k : WP mid (pc + 3, L, sk, putI h a f x, cu, su) Q) : WP mid (pc, L, .int x :: .ref a :: sk, h, cu, su) Q := WP.up (fun _ z => RN.pfZ hf hfl hk hfin ht hx z) k
theorem WP.alen {a n : Nat} (hf : mm_fet mid pc = some (.arraylength, 1, 0)) (hk : (9 ≤ hK h a ∧ hK h a ≤ 15) ∨ hK h a = 20 ∨ hK h a = 21) (hn : hL h a = n) (k : WP mid (pc + 1, L, .int (nI n) :: sk, h, cu, su) Q) : WP mid (pc, L, .ref a :: sk, h, cu, su) Q := WP.up (fun _ z => RN.alen hf hk hn z) k
end WRULES
/-- a loop by what holds behind i rounds -/
theorem WP.inv {σ : Type} {mid : Nat} {Q : Option Value → MH → Prop} (S : Nat → σ → MS) (Inv : Nat → σ → Prop) (n : Nat) (s0 : σ) (h0 : Inv 0 s0) (hs : ∀ i s, i < n → Inv i s → (∀ s', Inv (i + 1) s' → WP mid (S (i + 1) s') Q) → WP mid (S i s) Q) (hn : ∀ s, Inv n s → WP mid (S n s) Q) : WP mid (S 0 s0) Q := by
  have key : ∀ d i s, i + d = n → Inv i s → WP mid (S i s) Q := by
    intro d
    induction d with
    | zero => intro i s hi hI'; obtain rfl : i = n := by omega
              exact hn s hI'
    | succ d ih => exact fun i s hi hI' => hs i s (by omega) hI' (fun s' h' => ih (i + 1) s' (by omega) h')
  exact key n 0 s0 (by omega) h0
/-- a loop downwards: round i is the one with i left -/
theorem WP.down {σ : Type} {mid : Nat} {Q : Option Value → MH → Prop} (S : Nat → σ → MS) (Inv : Nat → σ → Prop) (n : Nat) (s0 : σ) (h0 : Inv n s0) (hs : ∀ i s, i < n → Inv (i + 1) s → (∀ s', Inv i s' → WP mid (S i s') Q) → WP mid (S (i + 1) s) Q) (hn : ∀ s, Inv 0 s → WP mid (S 0 s) Q) : WP mid (S n s0) Q := by
  have key : ∀ i s, i ≤ n → Inv i s → WP mid (S i s) Q := by
    intro i
    induction i with
    | zero => intro s _ hI'; exact hn s hI'
    | succ i ih => exact fun s hi hI' => hs i s (by omega) hI' (fun s' h' => ih s' (by omega) h')
  exact key n s0 (Nat.le_refl _) h0
