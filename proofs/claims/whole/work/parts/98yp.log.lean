/-! what the constructors make, as a list of deeds, the newest first -/
abbrev Op : Type := Nat × Nat × Nat × Nat
def hop (h : MH) (o : Op) : MH := match o with
  | (0, k, l, _) => mm_mk h k l
  | (1, a, k, q) => putR h a k (some q)
  | (2, a, k, v) => putI h a k (nI v)
  | (3, a, k, v) => putJ h a k (zJ v)
  | (4, k, l, n) => mm_mks h k l n
  | (_, a, n, b) => (hI h, hJ h, mm_row (hR h) a (fun j => if j < n then some (b + j) else none), hK h, hL h, hN h)
def hg (h : MH) : List Op → MH
  | [] => h
  | o :: l => hop (hg h l) o
theorem hg_app (h : MH) (l2 : List Op) : ∀ l1, hg h (l1 ++ l2) = hg (hg h l2) l1
  | [] => rfl
  | o :: l1 => by
    show hop (hg h (l1 ++ l2)) o = hop (hg (hg h l2) l1) o
    rw [hg_app h l2 l1]
def cnt (o : Op) : Nat := match o with
  | (0, _, _, _) => 1
  | (4, _, _, n) => n
  | _ => 0
theorem mks_N (h : MH) (k l : Nat) : ∀ n, hN (mm_mks h k l n) = hN h + n
  | 0 => rfl
  | n + 1 => by
    show hN (mm_mks h k l n) + 1 = _
    rw [mks_N h k l n]; omega
theorem hop_N (h : MH) (o : Op) : hN (hop h o) = hN h + cnt o := by
  obtain ⟨c, a, b, d⟩ := o
  match c with
  | 0 => rfl
  | 1 => rfl
  | 2 => rfl
  | 3 => rfl
  | 4 => exact mks_N h a b d
  | c + 5 => rfl
theorem mk_K {h : MH} {k l s : Nat} (hs : s < hN h) : hK (mm_mk h k l) s = hK h s ∧ hL (mm_mk h k l) s = hL h s := ⟨if_neg (by omega), if_neg (by omega)⟩
theorem mks_K {h : MH} {k l s : Nat} (hs : s < hN h) : ∀ n, hK (mm_mks h k l n) s = hK h s ∧ hL (mm_mks h k l n) s = hL h s
  | 0 => ⟨rfl, rfl⟩
  | n + 1 => by
    have := mks_K (k := k) (l := l) hs n
    have e := mk_K (h := mm_mks h k l n) (k := k) (l := l) (s := s) (by rw [mks_N]; omega)
    exact ⟨e.1.trans this.1, e.2.trans this.2⟩
theorem hop_K {h : MH} {s : Nat} (hs : s < hN h) (o : Op) : hK (hop h o) s = hK h s ∧ hL (hop h o) s = hL h s := by
  obtain ⟨c, a, b, d⟩ := o
  match c with
  | 0 => exact mk_K hs
  | 1 => exact ⟨rfl, rfl⟩
  | 2 => exact ⟨rfl, rfl⟩
  | 3 => exact ⟨rfl, rfl⟩
  | 4 => exact mks_K hs d
  | c + 5 => exact ⟨rfl, rfl⟩
def cna : List Op → Nat
  | [] => 0
  | o :: l => cna l + cnt o
theorem hg_N (h : MH) : ∀ l, hN (hg h l) = hN h + cna l
  | [] => rfl
  | o :: l => by
    show hN (hop (hg h l) o) = hN h + (cna l + cnt o)
    rw [hop_N, hg_N h l]; omega
theorem hg_K {h : MH} {s : Nat} (hs : s < hN h) : ∀ l, hK (hg h l) s = hK h s ∧ hL (hg h l) s = hL h s
  | [] => ⟨rfl, rfl⟩
  | o :: l => by
    have i := hg_K hs l
    have e := hop_K (h := hg h l) (s := s) (by rw [hg_N]; omega) o
    exact ⟨e.1.trans i.1, e.2.trans i.2⟩
/-- the last place made -/
theorem hg_new {h : MH} {s : Nat} (hs : hN h = s) (k l : Nat) : hK (mm_mk h k l) s = k ∧ hL (mm_mk h k l) s = l := ⟨if_pos hs.symm, if_pos hs.symm⟩
section CR0
variable {mid pc : Nat} {L : ML} {sk : List Value} {h : MH} {cu su : Nat} {Q : Option Value → MH → Prop}
theorem WP.pfR {a ci f idx q : Nat} (hf : mm_fet mid pc = some (.putfield idx, 3, 0)) (hfl : mm_fld (mi_c (mm_of mid)) idx = some (ci, f)) (hk : hK h a = ci) (hini : mm_ini mid = true ∧ mi_c (mm_of mid) = ci) (ht : mm_ty ci f = 3) (k : WP mid (pc + 3, L, sk, putR h a f (some q), cu, su) Q) : WP mid (pc, L, .ref q :: .ref a :: sk, h, cu, su) Q := by
  refine WP.st ?_ k
  rw [mm_one_of hf]
  unfold mm_stp
  dsimp only
  rw [hfl]
  try dsimp only
  rw [if_pos ⟨hk, fun _ => hini⟩, ht]
  rfl
theorem WP.pfJ {a ci f idx : Nat} {x : Int64} (hf : mm_fet mid pc = some (.putfield idx, 3, 0)) (hfl : mm_fld (mi_c (mm_of mid)) idx = some (ci, f)) (hk : hK h a = ci) (hini : mm_ini mid = true ∧ mi_c (mm_of mid) = ci) (ht : mm_ty ci f = 2) (k : WP mid (pc + 3, L, sk, putJ h a f x, cu, su) Q) : WP mid (pc, L, .long x :: .ref a :: sk, h, cu, su) Q := by
  refine WP.st ?_ k
  rw [mm_one_of hf]
  unfold mm_stp
  dsimp only
  rw [hfl]
  try dsimp only
  rw [if_pos ⟨hk, fun _ => hini⟩, ht]
  rfl
end CR0
section CR1
variable {mid pc : Nat} {L : ML} {sk : List Value} {h h0 : MH} {l : List Op} {cu su : Nat} {Q : Option Value → MH → Prop}
theorem WP.nar {x : Int32} {kd n q cu' su' : Nat} (e : mm_one mid pc L (.int x :: sk) (hg h0 l) cu su = some (.inl (pc + 2, L, .ref (hN (hg h0 l)) :: sk, mm_mk (hg h0 l) kd n, cu', su'))) (hq : hN (hg h0 l) = q) (k : WP mid (pc + 2, L, .ref q :: sk, hg h0 ((0, kd, n, 0) :: l), cu', su') Q) : WP mid (pc, L, .int x :: sk, hg h0 l, cu, su) Q := by
  rw [hq] at e
  exact WP.st e k
theorem WP.anr {x : Int32} {kd n q cu' su' : Nat} (e : mm_one mid pc L (.int x :: sk) (hg h0 l) cu su = some (.inl (pc + 3, L, .ref (hN (hg h0 l)) :: sk, mm_mk (hg h0 l) kd n, cu', su'))) (hq : hN (hg h0 l) = q) (k : WP mid (pc + 3, L, .ref q :: sk, hg h0 ((0, kd, n, 0) :: l), cu', su') Q) : WP mid (pc, L, .int x :: sk, hg h0 l, cu, su) Q := by
  rw [hq] at e
  exact WP.st e k
theorem WP.nwg {ci q cu' su' : Nat} (e : mm_one mid pc L sk (hg h0 l) cu su = some (.inl (pc + 3, L, .ref (hN (hg h0 l)) :: sk, mm_mk (hg h0 l) ci 0, cu', su'))) (hq : hN (hg h0 l) = q) (k : WP mid (pc + 3, L, .ref q :: sk, hg h0 ((0, ci, 0, 0) :: l), cu', su') Q) : WP mid (pc, L, sk, hg h0 l, cu, su) Q := by
  rw [hq] at e
  exact WP.st e k
theorem WP.mna {x y : Int32} {kd n m q cu' su' : Nat} (e : mm_one mid pc L (.int y :: .int x :: sk) (hg h0 l) cu su = some (.inl (pc + 4, L, .ref (hN (hg h0 l)) :: sk, hop (hop (hop (hg h0 l) (0, kd, n, 0)) (4, kd - 5, m, n)) (5, hN (hg h0 l), n, hN (hg h0 l) + 1), cu', su'))) (hq : hN (hg h0 l) = q) (k : WP mid (pc + 4, L, .ref q :: sk, hg h0 ((5, q, n, q + 1) :: (4, kd - 5, m, n) :: (0, kd, n, 0) :: l), cu', su') Q) : WP mid (pc, L, .int y :: .int x :: sk, hg h0 l, cu, su) Q := by
  rw [hq] at e
  exact WP.st e k
theorem WP.pfRg {a ci f idx q : Nat} (hf : mm_fet mid pc = some (.putfield idx, 3, 0)) (hfl : mm_fld (mi_c (mm_of mid)) idx = some (ci, f)) (hk : hK (hg h0 l) a = ci) (hini : mm_ini mid = true ∧ mi_c (mm_of mid) = ci) (ht : mm_ty ci f = 3) (k : WP mid (pc + 3, L, sk, hg h0 ((1, a, f, q) :: l), cu, su) Q) : WP mid (pc, L, .ref q :: .ref a :: sk, hg h0 l, cu, su) Q := WP.pfR hf hfl hk hini ht k
theorem one_cs {idx m2 b : Nat} {r av : List Value} (hf : mm_fet mid pc = some (.invokespecial idx, 3, 0)) (hm : mm_mth (mi_c (mm_of mid)) idx = some m2) (h9 : Nat.blt m2 900 = true) (hs0 : Nat.beq (mi_s (mm_of m2)) 1 = false) (hd : sk.drop (mi_n (mm_of m2)) = .ref b :: r) (hk : hK h b = mi_c (mm_of m2)) (hft : mm_fit (mm_of mid) (mm_of m2) cu su r = true) (hav : .ref b :: (sk.take (mi_n (mm_of m2))).reverse = av) : mm_one mid pc L sk h cu su = some (.inr (.inr (m2, av, (pc + 3, L, r, h, cu + mi_mc (mm_of m2), su + mi_ms (mm_of m2))))) := by
  rw [mm_one_of hf]
  show mm_inv mid (mi_c (mm_of mid)) idx pc true L sk h cu su = _
  unfold mm_inv
  rw [hm]
  have h9' : m2 < 900 := Nat.lt_of_succ_le (Nat.le_of_ble_eq_true h9)
  split
  · rename_i e; cases e
  · rename_i e; cases e; omega
  · rename_i e; cases e; omega
  · rename_i e; cases e; omega
  · rename_i m3 _ _ _ e
    cases e
    rw [hs0, hd]
    dsimp only
    rw [cond_false, if_pos ⟨rfl, hk, hft⟩, hav]
theorem WP.cs {idx m2 b : Nat} {r av : List Value} {Q2 : Option Value → MH → Prop} (hf : mm_fet mid pc = some (.invokespecial idx, 3, 0)) (hm : mm_mth (mi_c (mm_of mid)) idx = some m2) (h9 : Nat.blt m2 900 = true) (hs0 : Nat.beq (mi_s (mm_of m2)) 1 = false) (hd : sk.drop (mi_n (mm_of m2)) = .ref b :: r) (hk : hK h b = mi_c (mm_of m2)) (hft : mm_fit (mm_of mid) (mm_of m2) cu su r = true) (hav : .ref b :: (sk.take (mi_n (mm_of m2))).reverse = av) (hb : Nat.ble (mm_slots av).length (mi_l (mm_of m2)) = true) (hs : SP m2 av h Q2) (k : ∀ v h2, Q2 v h2 → WP mid (pc + 3, L, v.toList ++ r, h2, cu + mi_mc (mm_of m2), su + mi_ms (mm_of m2)) Q) : WP mid (pc, L, sk, h, cu, su) Q := WP.call (one_cs hf hm h9 hs0 hd hk hft hav) hb hs k
end CR1
/-! the heap, read off the list -/
abbrev inr (a b n : Nat) : Prop := b ≤ a ∧ a < b + n
def kz (f : Nat → Nat) (n : Nat) : List Op → Nat → Nat
  | [], a => f a
  | (0, k, _, _) :: l, a => if a = n + cna l then k else kz f n l a
  | (4, k, _, m) :: l, a => if inr a (n + cna l) m then k else kz f n l a
  | _ :: l, a => kz f n l a
def lz (f : Nat → Nat) (n : Nat) : List Op → Nat → Nat
  | [], a => f a
  | (0, _, k, _) :: l, a => if a = n + cna l then k else lz f n l a
  | (4, _, k, m) :: l, a => if inr a (n + cna l) m then k else lz f n l a
  | _ :: l, a => lz f n l a
def iz (f : Nat → Nat → Int32) (n : Nat) : List Op → Nat → Nat → Int32
  | [], a, j => f a j
  | (0, _, _, _) :: l, a, j => if a = n + cna l then 0 else iz f n l a j
  | (4, _, _, m) :: l, a, j => if inr a (n + cna l) m then 0 else iz f n l a j
  | (2, b, k, v) :: l, a, j => if a = b ∧ j = k then nI v else iz f n l a j
  | _ :: l, a, j => iz f n l a j
def jz (f : Nat → Nat → Int64) (n : Nat) : List Op → Nat → Nat → Int64
  | [], a, j => f a j
  | (0, _, _, _) :: l, a, j => if a = n + cna l then 0 else jz f n l a j
  | (4, _, _, m) :: l, a, j => if inr a (n + cna l) m then 0 else jz f n l a j
  | (3, b, k, v) :: l, a, j => if a = b ∧ j = k then zJ v else jz f n l a j
  | _ :: l, a, j => jz f n l a j
def qz (f : Nat → Nat → Option Nat) (n : Nat) : List Op → Nat → Nat → Option Nat
  | [], a, j => f a j
  | (0, _, _, _) :: l, a, j => if a = n + cna l then none else qz f n l a j
  | (1, b, k, q) :: l, a, j => if a = b ∧ j = k then some q else qz f n l a j
  | (2, _, _, _) :: l, a, j => qz f n l a j
  | (3, _, _, _) :: l, a, j => qz f n l a j
  | (4, _, _, m) :: l, a, j => if inr a (n + cna l) m then none else qz f n l a j
  | (_, b, m, c) :: l, a, j => if a = b then (if j < m then some (c + j) else none) else qz f n l a j
theorem mks_z (h : MH) (k l a j : Nat) : ∀ n, hK (mm_mks h k l n) a = (if inr a (hN h) n then k else hK h a) ∧ hL (mm_mks h k l n) a = (if inr a (hN h) n then l else hL h a) ∧ hI (mm_mks h k l n) a j = (if inr a (hN h) n then 0 else hI h a j) ∧ hJ (mm_mks h k l n) a j = (if inr a (hN h) n then 0 else hJ h a j) ∧ hR (mm_mks h k l n) a j = (if inr a (hN h) n then none else hR h a j)
  | 0 => by
    have e : ¬ inr a (hN h) 0 := by omega
    rw [if_neg e, if_neg e, if_neg e, if_neg e, if_neg e]
    exact ⟨rfl, rfl, rfl, rfl, rfl⟩
  | n + 1 => by
    obtain ⟨i1, i2, i3, i4, i5⟩ := mks_z h k l a j n
    have en := mks_N h k l n
    by_cases e : a = hN h + n
    · have e1 : inr a (hN h) (n + 1) := by omega
      rw [if_pos e1, if_pos e1, if_pos e1, if_pos e1, if_pos e1]
      have e2 : a = hN (mm_mks h k l n) := by omega
      exact ⟨if_pos e2, if_pos e2, if_pos e2, if_pos e2, if_pos e2⟩
    · have e2 : ¬ a = hN (mm_mks h k l n) := by omega
      have e3 : inr a (hN h) (n + 1) ↔ inr a (hN h) n := by omega
      have e4 : inr a (hN h) (n + 1) = inr a (hN h) n := propext e3
      simp only [e4]
      exact ⟨(if_neg e2).trans i1, (if_neg e2).trans i2, (if_neg e2).trans i3, (if_neg e2).trans i4, (if_neg e2).trans i5⟩
theorem hg_z {h : MH} {n : Nat} (hn : hN h = n) {a j : Nat} {fk fl' : Nat → Nat} {fi : Nat → Nat → Int32} {fj : Nat → Nat → Int64} {fr : Nat → Nat → Option Nat} (hk : hK h a = fk a) (hl : hL h a = fl' a) (hi : hI h a j = fi a j) (hj : hJ h a j = fj a j) (hr : hR h a j = fr a j) : ∀ l, hK (hg h l) a = kz fk n l a ∧ hL (hg h l) a = lz fl' n l a ∧ hI (hg h l) a j = iz fi n l a j ∧ hJ (hg h l) a j = jz fj n l a j ∧ hR (hg h l) a j = qz fr n l a j
  | [] => ⟨hk, hl, hi, hj, hr⟩
  | (c, x, y, d) :: l => by
    obtain ⟨i1, i2, i3, i4, i5⟩ := hg_z hn hk hl hi hj hr l
    have en : hN (hg h l) = n + cna l := by rw [hg_N, hn]
    match c with
    | 0 =>
      show (if a = hN (hg h l) then x else hK (hg h l) a) = (if a = n + cna l then x else kz fk n l a) ∧ (if a = hN (hg h l) then y else hL (hg h l) a) = (if a = n + cna l then y else lz fl' n l a) ∧ (if a = hN (hg h l) then 0 else hI (hg h l) a j) = (if a = n + cna l then 0 else iz fi n l a j) ∧ (if a = hN (hg h l) then 0 else hJ (hg h l) a j) = (if a = n + cna l then 0 else jz fj n l a j) ∧ (if a = hN (hg h l) then none else hR (hg h l) a j) = (if a = n + cna l then none else qz fr n l a j)
      rw [en, i1, i2, i3, i4, i5]
      exact ⟨rfl, rfl, rfl, rfl, rfl⟩
    | 1 =>
      refine ⟨i1, i2, i3, i4, ?_⟩
      show (if a = x ∧ j = y then some d else hR (hg h l) a j) = (if a = x ∧ j = y then some d else qz fr n l a j)
      rw [i5]
    | 2 =>
      refine ⟨i1, i2, ?_, i4, i5⟩
      show (if a = x ∧ j = y then nI d else hI (hg h l) a j) = (if a = x ∧ j = y then nI d else iz fi n l a j)
      rw [i3]
    | 3 =>
      refine ⟨i1, i2, i3, ?_, i5⟩
      show (if a = x ∧ j = y then zJ d else hJ (hg h l) a j) = (if a = x ∧ j = y then zJ d else jz fj n l a j)
      rw [i4]
    | 4 =>
      obtain ⟨m1, m2, m3, m4, m5⟩ := mks_z (hg h l) x y a j d
      rw [en, i1] at m1
      rw [en, i2] at m2
      rw [en, i3] at m3
      rw [en, i4] at m4
      rw [en, i5] at m5
      exact ⟨m1, m2, m3, m4, m5⟩
    | c + 5 =>
      refine ⟨i1, i2, i3, i4, ?_⟩
      show (if a = x then (if j < y then some (d + j) else none) else hR (hg h l) a j) = (if a = x then (if j < y then some (d + j) else none) else qz fr n l a j)
      rw [i5]
def suL (s : Nat) : List Op := [(1, s, 4, s + 2), (0, 9, 4, 0), (1, s, 3, s + 1), (0, 9, 4, 0)]
theorem su_init {h : MH} {s : Nat} (hn : hN h = s + 1) (hk : hK h s = 5) : SP m_Su_init [.ref s] h (fun v h' => v = none ∧ h' = hg h (suL s)) := by
  have hs : s < hN h := by omega
  unfold SP
  change WP m_Su_init (0, mm_ent m_Su_init [.ref s], [], hg h [], 0, 0) _
  iterate 4 (refine WP.st rfl ?_)
  refine WP.nar (kd := 9) (n := 4) (q := s + 1) (cu' := 1) (su' := 4) rfl (by rw [hg_N, hn]; rfl) ?_
  refine WP.pfRg rfl rfl ((hg_K hs _).1.trans hk) (by decide) rfl ?_
  iterate 2 (refine WP.st rfl ?_)
  refine WP.nar (kd := 9) (n := 4) (q := s + 2) (cu' := 2) (su' := 8) rfl (by rw [hg_N, hn]; rfl) ?_
  refine WP.pfRg rfl rfl ((hg_K hs _).1.trans hk) (by decide) rfl ?_
  exact WP.ret rfl ⟨rfl, rfl⟩
