/-! Witness: look, adopt, shrinkTo, sees -/
theorem WP.search {mid : Nat} {Q : Option Value → MH → Prop} (S : Nat → MS) (P : Nat → Prop) (n : Nat) (hx : ∀ i, i < n → P i → (∀ j, j < i → ¬ P j) → WP mid (S i) Q) (hs : ∀ i, i < n → ¬ P i → WP mid (S (i + 1)) Q → WP mid (S i) Q) (k : (∀ j, j < n → ¬ P j) → WP mid (S n) Q) : WP mid (S 0) Q := by
  have key : ∀ d i, i + d = n → (∀ j, j < i → ¬ P j) → WP mid (S i) Q := by
    intro d
    induction d with
    | zero =>
      intro i hi hp
      obtain rfl : i = n := by omega
      exact k hp
    | succ d ih =>
      intro i hi hp
      by_cases hP : P i
      · exact hx i (by omega) hP hp
      · refine hs i (by omega) hP (ih (i + 1) (by omega) (fun j hj => ?_))
        by_cases e : j = i
        · rw [e]; exact hP
        · exact hp j (by omega)
  exact key n 0 (by omega) (fun j hj => absurd hj (Nat.not_lt_zero j))
/-- outside lo .. hi nothing has changed -/
def FR (lo hi : Nat) (I : Nat → Nat → Int32) (J : Nat → Nat → Int64) (I' : Nat → Nat → Int32) (J' : Nat → Nat → Int64) : Prop := ∀ c, c < lo ∨ hi < c → I' c = I c ∧ J' c = J c
theorem FR.refl (lo hi : Nat) (I : Nat → Nat → Int32) (J : Nat → Nat → Int64) : FR lo hi I J I J := fun _ _ => ⟨rfl, rfl⟩
theorem FR.trans {lo hi : Nat} {I I' I'' : Nat → Nat → Int32} {J J' J'' : Nat → Nat → Int64} (h1 : FR lo hi I J I' J') (h2 : FR lo hi I' J' I'' J'') : FR lo hi I J I'' J'' := fun c hc => ⟨(h2 c hc).1.trans (h1 c hc).1, (h2 c hc).2.trans (h1 c hc).2⟩
theorem FR.mono {lo hi lo' hi' : Nat} {I I' : Nat → Nat → Int32} {J J' : Nat → Nat → Int64} (h : FR lo hi I J I' J') (h1 : lo' ≤ lo) (h2 : hi ≤ hi') : FR lo' hi' I J I' J' := fun c hc => h c (by omega)
theorem up_ne {α : Type} (f : Nat → Nat → α) {a k c : Nat} (v : α) (h : c ≠ a) : mm_up f a k v c = f c := funext fun _ => if_neg (fun z => h z.1)
theorem up_nk {α : Type} (f : Nat → Nat → α) {a k j : Nat} (v : α) (h : j ≠ k) : mm_up f a k v a j = f a j := if_neg (fun z => h z.2)
set_option maxHeartbeats 4000000 in
set_option maxRecDepth 20000 in
theorem sp_findLead (L : Nat) (I : Nat → Nat → Int32) (J : Nat → Nat → Int64) (w : Nat → Nat) (b : Nat) (hb : isW b) (x : Nat → Int) (p : Int) (p3 : p < 2 ^ 31) (hx : ∀ c, c < 33 → J (b + 19) c = zJ (x c) ∧ 0 ≤ x c ∧ x c < p) : SP m_Wi_findLead [.ref b] (hp L I J w) (fun r h => h = hp L I J w ∧ ∃ v, r = some (.int v) ∧ ((∃ k, k < 16 ∧ x k ≠ 0 ∧ v = nI k) ∨ ((∀ k, k < 16 → x k = 0) ∧ v = -1))) := by
  unfold SP
  iterate 4 (refine WP.st rfl ?_)
  have l19 : Nat.ble (LL L (b + 19)) 2560 = true := by rw [(isW_L hb).2.2]; rfl
  refine WP.search (fun i => (5, [some (.ref b), some (.int (nI i))], [.int (nI 16), .int (nI i)], hp L I J w, 0, 0)) (fun i => x i ≠ 0) 16 (fun i hi hP hn => ?_) (fun i hi hP kk => ?_) (fun hn => ?_)
  · refine WP.icf rfl (nI_ge hi (by omega)) ?_
    iterate 1 (refine WP.st rfl ?_)
    refine WP.get (v := .ref (b + 19)) rfl rfl ((isW_K hb).1) (congrArg mm_rv (isW_R w hb).2.2) ?_
    iterate 1 (refine WP.st rfl ?_)
    refine WP.lald (k := i) rfl (rfl) (Or.inl (isW_K hb).2.2.2) (show i < LL L (b + 19) by rw [(isW_L hb).2.2]; omega) (l19) ?_
    rw [show hJ (hp L I J w) (b + 19) i = zJ (x i) from (hx i (by omega)).1]
    iterate 2 (refine WP.st rfl ?_)
    refine WP.iff rfl (fun z => hP ((zJ_eq (by have := hx i (by omega); omega) (by have := hx i (by omega); omega) (by decide) (by decide)).mp (lc_eq.mp z))) ?_
    iterate 1 (refine WP.st rfl ?_)
    exact WP.ret rfl ⟨rfl, _, rfl, Or.inl ⟨i, hi, hP, rfl⟩⟩
  · skip
    refine WP.icf rfl (nI_ge hi (by omega)) ?_
    iterate 1 (refine WP.st rfl ?_)
    refine WP.get (v := .ref (b + 19)) rfl rfl ((isW_K hb).1) (congrArg mm_rv (isW_R w hb).2.2) ?_
    iterate 1 (refine WP.st rfl ?_)
    refine WP.lald (k := i) rfl (rfl) (Or.inl (isW_K hb).2.2.2) (show i < LL L (b + 19) by rw [(isW_L hb).2.2]; omega) (l19) ?_
    rw [show hJ (hp L I J w) (b + 19) i = zJ (x i) from (hx i (by omega)).1]
    iterate 2 (refine WP.st rfl ?_)
    refine WP.ift rfl (lc_eq.mpr (by rw [Classical.not_not.mp hP]; rfl)) ?_
    iterate 4 (refine WP.st rfl ?_)
    rw [nI_succ] at kk
    exact kk
  · skip
    refine WP.ict rfl (nI_le (Nat.le_refl _) (by omega)) ?_
    iterate 1 (refine WP.st rfl ?_)
    exact WP.ret rfl ⟨rfl, _, rfl, Or.inr ⟨fun k hk => Classical.not_not.mp (hn k hk), rfl⟩⟩
theorem lv_0 {p : Int} (hp : pm p) (r : Nat) (a : Nat → Nat → Int) (l : Nat → Nat) (t : Nat → Int) : lv p r 0 a l t (ld p t) := by
  have p1 := hp.1
  refine ⟨fun c _ => ?_, fun k hk => absurd hk (Nat.not_lt_zero k), fun c hc => ?_, fun j _ hj => if_neg (by omega)⟩
  · unfold ld
    split
    · exact ⟨Int.emod_nonneg _ (by omega), Int.emod_lt_of_pos _ (by omega)⟩
    · omega
  · have e : mk (ld p t) a c = 0 := sm_0 16 (fun j hj => by
      unfold ld
      rw [if_neg (by omega), Int.zero_mul])
    rw [e]
    unfold ld
    rw [if_pos hc, Int.add_zero]
    exact Int.dvd_self_sub_emod
/-- one more row taken off -/
def ls (p : Int) (R : Nat → Nat → Int) (i : Nat) (f : Int) (x : Nat → Int) : Nat → Int := fun c => if c < 17 + i + 1 then (x c + (p - f) * R i c) % p else x c
theorem mk_lin (x y : Nat → Int) (f : Int) (a : Nat → Nat → Int) (c : Nat) : sm (fun j => (x (17 + j) + f * y (17 + j)) * a j c) 16 = mk x a c + f * mk y a c := by
  unfold mk
  rw [← sm_lin]
  exact sm_congr 16 (fun j _ => by grind)
theorem lv_s {p : Int} (hp : pm p) {r i : Nat} {a R : Nat → Nat → Int} {l : Nat → Nat} {t x : Nat → Int} (hr : r ≤ 16) (hi : i < r) (hw : wv p r a R l) (h : lv p r i a l t x) : lv p r (i + 1) a l t (ls p R i (x (l i)) x) := by
  have p1 := hp.1
  obtain ⟨a1, a2, a3, a4, a5, a6, a7⟩ := hw
  obtain ⟨h1, h2, h3, h4⟩ := h
  have cg : ∀ c, c < 33 → p ∣ x c + (p - x (l i)) * R i c - ls p R i (x (l i)) x c := by
    intro c hc
    unfold ls
    split
    · exact Int.dvd_self_sub_emod
    · rw [show c = 17 + (c - 17) by omega, a7 i hi (c - 17) (by omega) (by omega)]
      exact ⟨0, by grind⟩
  refine ⟨fun c hc => ?_, fun k hk => ?_, fun c hc => ?_, fun j h5 h6 => ?_⟩
  · unfold ls
    split
    · exact ⟨Int.emod_nonneg _ (by omega), Int.emod_lt_of_pos _ (by omega)⟩
    · exact h1 c hc
  · unfold ls
    have lk := a1 k (by omega)
    rw [if_pos (by omega)]
    by_cases e : k = i
    · rw [e, a3 i hi]
      rw [show x (l i) + (p - x (l i)) * 1 = p by omega]
      exact Int.emod_self
    · rw [h2 k (by omega), a4 k i (by omega) hi, Int.mul_zero]
      rfl
  · obtain ⟨z1, hz1⟩ := h3 c hc
    obtain ⟨z2, hz2⟩ := a5 i hi c hc
    obtain ⟨z3, hz3⟩ := cg c (by omega)
    obtain ⟨z4, hz4⟩ := sm_dm (p := p) (f := fun j => (x (17 + j) + (p - x (l i)) * R i (17 + j)) * a j c) (g := fun j => ls p R i (x (l i)) x (17 + j) * a j c) 16 (fun j hj => by
      obtain ⟨z, hz⟩ := cg (17 + j) (by omega)
      exact ⟨z * a j c, by grind⟩)
    rw [mk_lin] at hz4
    exact ⟨z1 + (p - x (l i)) * z2 + z3 - z4, by unfold mk at *; grind⟩
  · unfold ls
    rw [if_neg (by omega)]
    exact h4 j (by omega) h6
theorem lv_s0 {p : Int} {r i : Nat} {a : Nat → Nat → Int} {l : Nat → Nat} {t x : Nat → Int} (h : lv p r i a l t x) (h0 : x (l i) = 0) : lv p r (i + 1) a l t x :=
  ⟨h.1, fun k hk => by by_cases e : k = i; rw [e]; exact h0; exact h.2.1 k (by omega), h.2.2.1, fun j h1 h2 => h.2.2.2 j (by omega) h2⟩
/-- a witness's rows in the heap -/
def WR (I : Nat → Nat → Int32) (J : Nat → Nat → Int64) (b g : Nat) (R : Nat → Nat → Int) (l : Nat → Nat) : Prop := (∀ i, i < g → ∀ c, c < 33 → J (b + 2 + i) c = zJ (R i c)) ∧ (∀ i, i < g → I (b + 18) i = nI (l i))
/-- what a look finds -/
def LO (x : Nat → Int) (ld v : Int32) : Prop := (∃ k, k < 16 ∧ x k ≠ 0 ∧ ld = nI k ∧ v = 0) ∨ ((∀ k, k < 16 → x k = 0) ∧ ld = -1 ∧ v = if x 16 = 0 then 1 else 2)
set_option maxHeartbeats 4000000 in
set_option maxRecDepth 20000 in
theorem sp_look (L : Nat) (I : Nat → Nat → Int32) (J : Nat → Nat → Int64) (w : Nat → Nat) (b s : Nat) (hb : isW b) (hs : isSum s) (t : Nat → Int) (hT : isT I s t) (p : Int) (hpp : pm p) (hpr : J b 0 = zJ p) (p3 : p < 2 ^ 31) (r : Nat) (hr : r ≤ 16) (hrk : I b 3 = nI r) (a R : Nat → Nat → Int) (l : Nat → Nat) (hw : wv p r a R l) (hR : WR I J b r R l) : SP m_Wi_look [.ref b, .ref s] (hp L I J w) (fun r' h => ∃ (v ld : Int32) (J' : Nat → Nat → Int64) (x : Nat → Int), r' = some (.int v) ∧ (∀ c, c ≠ b + 19 → J' c = J c) ∧ (∀ c, c < 33 → J' (b + 19) c = zJ (x c)) ∧ lv p r r a l t x ∧ LO x ld v ∧ h = hp L (mm_up I b 6 ld) J' w) := by
  have p2 := hpp.1
  have l19 : Nat.ble (LL L (b + 19)) 2560 = true := by rw [(isW_L hb).2.2]; rfl
  have l18 : Nat.ble (LL L (b + 18)) 2560 = true := by rw [(isW_L hb).2.1]; rfl
  have l1 : Nat.ble (LL L (b + 1)) 2560 = true := by rw [(isW_L hb).1]; rfl
  unfold SP
  iterate 2 (refine WP.st rfl ?_)
  refine WP.cv rfl rfl rfl rfl rfl ((isW_K hb).1) rfl rfl rfl (sp_load L I J w b s hb hs t hT p hpr (by omega) p3) ?_
  rintro _ _ ⟨rfl, J1, j1, j2, rfl⟩
  iterate 4 (refine WP.st rfl ?_)
  refine WP.get (v := .int (I b 3)) rfl rfl ((isW_K hb).1) (rfl) ?_
  refine WP.inv (fun i (σ : (Nat → Nat → Int64) × Option Value) => (12, [some (.ref b), some (.ref s), some (.int (nI i)), σ.2, none], [.int (I b 3), .int (nI i)], hp L I σ.1 w, 0, 0)) (fun i σ => (∀ c, c ≠ b + 19 → σ.1 c = J c) ∧ ∃ x, lv p r i a l t x ∧ ∀ c, c < 33 → σ.1 (b + 19) c = zJ (x c)) r (J1, none) ⟨j1, ld p t, lv_0 hpp r a l t, j2⟩ (fun i σ hi hv kk => ?_) (fun σ hv => ?_)
  · obtain ⟨K, o⟩ := σ
    obtain ⟨f1, x, f2, f3⟩ := hv
    dsimp only at f1 f3 ⊢
    have li := hw.1 i hi
    have hxl := f2.1 (l i) (by omega)
    refine WP.icf rfl (show ¬ I b 3 ≤ nI i by rw [hrk]; exact nI_ge hi (by omega)) ?_
    iterate 1 (refine WP.st rfl ?_)
    refine WP.get (v := .ref (b + 19)) rfl rfl ((isW_K hb).1) (congrArg mm_rv (isW_R w hb).2.2) ?_
    iterate 1 (refine WP.st rfl ?_)
    refine WP.get (v := .ref (b + 18)) rfl rfl ((isW_K hb).1) (congrArg mm_rv (isW_R w hb).2.1) ?_
    iterate 1 (refine WP.st rfl ?_)
    refine WP.iald (k := i) rfl (rfl) (Or.inl (isW_K hb).2.2.1) (show i < LL L (b + 18) by rw [(isW_L hb).2.1]; omega) (l18) ?_
    rw [show hI (hp L I K w) (b + 18) i = nI (l i) from hR.2 i hi]
    refine WP.lald (k := l i) rfl (rfl) (Or.inl (isW_K hb).2.2.2) (show l i < LL L (b + 19) by rw [(isW_L hb).2.2]; omega) (l19) ?_
    rw [show hJ (hp L I K w) (b + 19) (l i) = zJ (x (l i)) from f3 (l i) (by omega)]
    iterate 4 (refine WP.st rfl ?_)
    by_cases z : x (l i) = 0
    · refine WP.ift rfl (lc_eq.mpr (by rw [z]; rfl)) ?_
      iterate 4 (refine WP.st rfl ?_)
      refine WP.get (v := .int (I b 3)) rfl rfl ((isW_K hb).1) (rfl) ?_
      have kk2 := kk (K, some (.long (zJ (x (l i))))) ⟨f1, x, lv_s0 f2 z, f3⟩
      rw [nI_succ] at kk2
      exact kk2
    · skip
      refine WP.iff rfl (fun y => z ((zJ_eq (by omega) (by omega) (by decide) (by decide)).mp (lc_eq.mp y))) ?_
      have hKp : K b 0 = zJ p := by rw [f1 b (by omega)]; exact hpr
      iterate 1 (refine WP.st rfl ?_)
      refine WP.get (v := .ref (b + 19)) rfl rfl ((isW_K hb).1) (congrArg mm_rv (isW_R w hb).2.2) ?_
      iterate 1 (refine WP.st rfl ?_)
      refine WP.get (v := .ref (b + 1)) rfl rfl ((isW_K hb).1) (congrArg mm_rv (isW_R w hb).1) ?_
      iterate 1 (refine WP.st rfl ?_)
      refine WP.aald (k := i) rfl (rfl) (Or.inr (Or.inr (Or.inr (isW_K hb).2.1))) (show i < LL L (b + 1) by rw [(isW_L hb).1]; omega) (l1) ((isW_i (L := L) w hb (show i < 16 by omega)).1) ?_
      iterate 1 (refine WP.st rfl ?_)
      refine WP.get (v := .long (zJ p)) rfl rfl ((isW_K hb).1) (congrArg Value.long hKp) ?_
      iterate 2 (refine WP.st rfl ?_)
      rw [zJ_sub]
      iterate 1 (refine WP.st rfl ?_)
      refine WP.get (v := .long (zJ p)) rfl rfl ((isW_K hb).1) (congrArg Value.long hKp) ?_
      iterate 6 (refine WP.st rfl ?_)
      rw [show ((Int8.ofInt 17).toInt32 + nI i + Int32.ofInt 1 : Int32) = nI (17 + i + 1) from by rw [show ((Int8.ofInt 17).toInt32 : Int32) = nI 17 from rfl, nI_add]; exact nI_add (17 + i) 1]
      refine WP.calle rfl rfl (ev_addTimes L I K w (b + 19) (b + 2 + i) 33 33 (by omega) (isW_K hb).2.2.2 (isW_i (L := L) w hb (show i < 16 by omega)).2.1 (isW_L hb).2.2 (isW_i (L := L) w hb (show i < 16 by omega)).2.2 (by omega) (by omega) 0 (17 + i + 1) (by omega) (by omega) (by omega) x (R i) (p - x (l i)) p (by omega) p3 (by omega) (by omega) (fun c hc => ⟨f3 c (by omega), f2.1 c (by omega)⟩) (fun c hc => ⟨by rw [f1 (b + 2 + i) (by omega)]; exact hR.1 i hi c (by omega), hw.2.1 i hi c (by omega)⟩)) ?_
      iterate 4 (refine WP.st rfl ?_)
      refine WP.get (v := .int (I b 3)) rfl rfl ((isW_K hb).1) (rfl) ?_
      have kk2 := kk (mm_row K (b + 19) (fun c => if 0 ≤ c ∧ c < 17 + i + 1 then zJ ((x c + (p - x (l i)) * R i c) % p) else K (b + 19) c), some (.long (zJ (x (l i))))) ⟨fun c hc => by funext k; dsimp only; exact (mm_row_off K _ k hc).trans (congrFun (f1 c hc) k), ls p R i (x (l i)) x, lv_s hpp hr hi hw f2, fun c hc => by
        dsimp only
        refine (mm_row_at K _ _ c).trans ?_
        unfold ls
        by_cases q : c < 17 + i + 1
        · rw [if_pos ⟨Nat.zero_le c, q⟩, if_pos q]
        · rw [if_neg (fun z => q z.2), if_neg q]
          exact f3 c hc⟩
      rw [nI_succ] at kk2
      exact kk2
  · obtain ⟨K, o⟩ := σ
    obtain ⟨f1, x, f2, f3⟩ := hv
    dsimp only at f1 f3 ⊢
    refine WP.ict rfl (show I b 3 ≤ nI r by rw [hrk]; exact nI_le (Nat.le_refl _) (by omega)) ?_
    iterate 2 (refine WP.st rfl ?_)
    refine WP.cv rfl rfl rfl rfl rfl ((isW_K hb).1) rfl rfl rfl (sp_findLead L I K w b hb x p p3 (fun c hc => ⟨f3 c hc, f2.1 c hc⟩)) ?_
    rintro _ _ ⟨rfl, v, rfl, hv⟩
    refine WP.pfI rfl rfl ((isW_K hb).1) rfl rfl ?_
    iterate 1 (refine WP.st rfl ?_)
    refine WP.get (v := .int v) rfl rfl ((isW_K hb).1) (congrArg Value.int (mm_up_at I b 6 v)) ?_
    iterate 1 (refine WP.st rfl ?_)
    rcases hv with ⟨k, k1, k2, rfl⟩ | ⟨k1, rfl⟩
    · refine WP.icf rfl (show ¬ nI k = -1 from fun z => by have := congrArg Int32.toInt z; rw [nI_zI, zI_int (by omega) (by omega)] at this; have e : (-1 : Int32).toInt = -1 := rfl; omega) ?_
      iterate 1 (refine WP.st rfl ?_)
      exact WP.ret rfl ⟨_, _, K, x, rfl, f1, f3, f2, Or.inl ⟨k, k1, k2, rfl, rfl⟩, rfl⟩
    · skip
      refine WP.ict rfl (rfl) ?_
      iterate 1 (refine WP.st rfl ?_)
      refine WP.get (v := .ref (b + 19)) rfl rfl ((isW_K hb).1) (congrArg mm_rv (isW_R w hb).2.2) ?_
      iterate 1 (refine WP.st rfl ?_)
      refine WP.lald (k := 16) rfl (rfl) (Or.inl (isW_K hb).2.2.2) (show 16 < LL L (b + 19) by rw [(isW_L hb).2.2]; decide) (l19) ?_
      rw [show hJ (hp L (mm_up I b 6 (-1)) K w) (b + 19) 16 = zJ (x 16) from f3 16 (by omega)]
      have h16 := f2.1 16 (by omega)
      iterate 2 (refine WP.st rfl ?_)
      by_cases z : x 16 = 0
      · refine WP.iff rfl (fun y => lc_ne.mp y (by rw [z]; rfl)) ?_
        iterate 2 (refine WP.st rfl ?_)
        exact WP.ret rfl ⟨_, _, K, x, rfl, f1, f3, f2, Or.inr ⟨k1, rfl, by rw [if_pos z]; rfl⟩, rfl⟩
      · skip
        refine WP.ift rfl (lc_ne.mpr (fun y => z ((zJ_eq (by omega) (by omega) (by decide) (by decide)).mp y))) ?_
        iterate 1 (refine WP.st rfl ?_)
        exact WP.ret rfl ⟨_, _, K, x, rfl, f1, f3, f2, Or.inr ⟨k1, rfl, by rw [if_neg z]; rfl⟩, rfl⟩
