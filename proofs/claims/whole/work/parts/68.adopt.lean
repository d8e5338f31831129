/-! Witness: adopt, shrinkTo, sees -/
theorem wv_ext {p : Int} {r : Nat} {a a' R : Nat → Nat → Int} {l : Nat → Nat} (hr : r ≤ 16) (h : wv p r a R l) (he : ∀ j, j < r → a j = a' j) : wv p r a' R l := by
  obtain ⟨a1, a2, a3, a4, a5, a6, a7⟩ := h
  refine ⟨a1, a2, a3, a4, fun i hi c hc => ?_, a6, a7⟩
  have e : mk (R i) a' c = mk (R i) a c := sm_congr 16 (fun j hj => by
    by_cases z : j < r
    · rw [he j z]
    · rw [a7 i hi j (by omega) hj, Int.zero_mul, Int.zero_mul])
  rw [e]
  exact a5 i hi c hc
def kr (p : Int) (r : Nat) (x : Nat → Int) (u : Int) : Nat → Int := fun c => ((if c = 17 + r then 1 else x c) * u) % p
theorem wv_keep {p : Int} (hp : pm p) {r k : Nat} {a R : Nat → Nat → Int} {l : Nat → Nat} {t x : Nat → Int} {u z : Int} (hr : r < 16) (hw : wv p r a R l) (h : lv p r r a l t x) (hk : k < 16) (hx : x k ≠ 0) (hu : u * x k = 1 + z * p) : wv p (r + 1) (beh a r t) (fun i => if i < r then R i else kr p r x u) (fun i => if i < r then l i else k) := by
  have p1 := hp.1
  obtain ⟨a1, a2, a3, a4, a5, a6, a7⟩ := wv_ext (a' := beh a r t) (by omega) hw (fun j hj => (if_pos hj).symm)
  obtain ⟨h1, h2, h3, h4⟩ := h
  refine ⟨fun i hi => ?_, fun i hi c hc => ?_, fun i hi => ?_, fun i j hij hj => ?_, fun i hi c hc => ?_, fun i hi => ?_, fun i hi j h5 h6 => ?_⟩
  all_goals (try dsimp only)
  · by_cases e : i < r
    · rw [if_pos e]; exact a1 i e
    · rw [if_neg e]; exact hk
  · by_cases e : i < r
    · rw [if_pos e]; exact a2 i e c hc
    · rw [if_neg e]
      exact ⟨Int.emod_nonneg _ (by omega), Int.emod_lt_of_pos _ (by omega)⟩
  · by_cases e : i < r
    · rw [if_pos e, if_pos e]; exact a3 i e
    · rw [if_neg e, if_neg e]
      unfold kr
      rw [if_neg (by omega), Int.mul_comm, hu, Int.add_mul_emod_self_right]
      exact Int.emod_eq_of_lt (by omega) (by omega)
  · by_cases e : j < r
    · rw [if_pos e, if_pos (show i < r by omega)]; exact a4 i j hij e
    · rw [if_neg e, if_pos (show i < r by omega)]
      unfold kr
      have := a1 i (by omega)
      rw [if_neg (by omega), h2 i (by omega), Int.zero_mul]
      rfl
  · by_cases e : i < r
    · rw [if_pos e]; exact a5 i e c hc
    · rw [if_neg e]
      obtain ⟨z1, hz1⟩ := h3 c hc
      have cg : ∀ c, p ∣ (if c = 17 + r then 1 else x c) * u - kr p r x u c := fun c => Int.dvd_self_sub_emod
      obtain ⟨z2, hz2⟩ := cg c
      rw [if_neg (by omega)] at hz2
      obtain ⟨z3, hz3⟩ := sm_dm (p := p) (f := fun j => ((if 17 + j = 17 + r then 1 else x (17 + j)) * u) * beh a r t j c) (g := fun j => kr p r x u (17 + j) * beh a r t j c) 16 (fun j hj => by
        obtain ⟨y, hy⟩ := cg (17 + j)
        exact ⟨y * beh a r t j c, by rw [← Int.sub_mul, hy]; grind⟩)
      have e1 : sm (fun j => ((if 17 + j = 17 + r then 1 else x (17 + j)) * u) * beh a r t j c) 16 = u * (mk x a c + t c) := by
        rw [sm_cut (m := r + 1) 16 (by omega) (fun j h5 h6 => by rw [if_neg (by omega), h4 j (by omega) h6, Int.zero_mul, Int.zero_mul])]
        show sm _ r + ((if 17 + r = 17 + r then 1 else x (17 + r)) * u) * beh a r t r c = _
        rw [if_pos rfl]
        rw [show mk x a c = sm (fun j => x (17 + j) * a j c) r from sm_cut 16 (by omega) (fun j h5 h6 => by rw [h4 j h5 h6]; exact Int.zero_mul _)]
        rw [sm_congr (g := fun j => u * (x (17 + j) * a j c)) r (fun j hj => by rw [if_neg (by omega)]; unfold beh; rw [if_pos hj]; grind), sm_mul]
        unfold beh
        rw [if_neg (show ¬ r < r by omega)]
        grind
      rw [e1] at hz3
      refine ⟨u * z1 + z2 - z3, ?_⟩
      show sm (fun j => kr p r x u (17 + j) * beh a r t j c) 16 - kr p r x u c = _
      grind
  · by_cases e : i < r
    · rw [if_pos e]; exact a6 i e
    · rw [if_neg e]
      obtain rfl : i = r := by omega
      unfold kr
      rw [if_pos rfl, Int.one_mul]
      intro hd
      have hd2 : p ∣ u := by
        obtain ⟨y, hy⟩ := hd
        have := Int.mul_ediv_add_emod u p
        exact ⟨u / p + y, by rw [hy] at this; grind⟩
      obtain ⟨y, hy⟩ := hd2
      have : p ∣ 1 := ⟨y * x k - z, by rw [hy] at hu; grind⟩
      have := Int.eq_one_of_dvd_one (by omega) this
      omega
  · by_cases e : i < r
    · rw [if_pos e]; exact a7 i e j h5 h6
    · rw [if_neg e]
      obtain rfl : i = r := by omega
      unfold kr
      rw [if_neg (by omega), h4 j (by omega) h6, Int.zero_mul]
      rfl
set_option maxHeartbeats 4000000 in
set_option maxRecDepth 20000 in
theorem sp_keepRow (L : Nat) (I : Nat → Nat → Int32) (J : Nat → Nat → Int64) (w : Nat → Nat) (b : Nat) (hb : isW b) (p : Int) (hpp : pm p) (hpr : J b 0 = zJ p) (p3 : p < 2 ^ 31) (r k : Nat) (hr : r < 16) (hrk : I b 3 = nI r) (hk : k < 16) (hld : I b 6 = nI k) (x : Nat → Int) (hx : ∀ c, c < 33 → J (b + 19) c = zJ (x c) ∧ 0 ≤ x c ∧ x c < p) (hxk : x k ≠ 0) : SP m_Wi_keepRow [.ref b] (hp L I J w) (fun r' h => r' = none ∧ ∃ (u z : Int) (J' : Nat → Nat → Int64), u * x k = 1 + z * p ∧ (∀ c, c ≠ b + 19 → c ≠ b + 2 + r → J' c = J c) ∧ (∀ c, c < 33 → J' (b + 2 + r) c = zJ (kr p r x u c)) ∧ h = hp L (mm_up I (b + 18) r (nI k)) J' w) := by
  have p2 := hpp.1
  have l19 : Nat.ble (LL L (b + 19)) 2560 = true := by rw [(isW_L hb).2.2]; rfl
  have l18 : Nat.ble (LL L (b + 18)) 2560 = true := by rw [(isW_L hb).2.1]; rfl
  have l1 : Nat.ble (LL L (b + 1)) 2560 = true := by rw [(isW_L hb).1]; rfl
  have li := isW_i (L := L) w hb (show r < 16 by omega)
  unfold SP
  iterate 1 (refine WP.st rfl ?_)
  refine WP.get (v := .ref (b + 19)) rfl rfl ((isW_K hb).1) (congrArg mm_rv (isW_R w hb).2.2) ?_
  iterate 2 (refine WP.st rfl ?_)
  refine WP.get (v := .int (nI r)) rfl rfl ((isW_K hb).1) (congrArg Value.int hrk) ?_
  iterate 2 (refine WP.st rfl ?_)
  refine WP.last (k := 17 + r) rfl (by rw [show ((Int8.ofInt 17).toInt32 : Int32) = nI 17 from rfl, nI_add]) ((isW_K hb).2.2.2) (show 17 + r < LL L (b + 19) by rw [(isW_L hb).2.2]; omega) (l19) ?_
  iterate 1 (refine WP.st rfl ?_)
  refine WP.get (v := .ref (b + 19)) rfl rfl ((isW_K hb).1) (congrArg mm_rv (isW_R w hb).2.2) ?_
  iterate 1 (refine WP.st rfl ?_)
  refine WP.get (v := .int (nI k)) rfl rfl ((isW_K hb).1) (congrArg Value.int hld) ?_
  refine WP.lald (k := k) rfl (rfl) (Or.inl (isW_K hb).2.2.2) (show k < LL L (b + 19) by rw [(isW_L hb).2.2]; omega) (l19) ?_
  have hy : ∀ c, c < 33 → mm_up J (b + 19) (17 + r) (zJ 1) (b + 19) c = zJ (if c = 17 + r then 1 else x c) := fun c hc => by
    by_cases e : c = 17 + r
    · rw [e, if_pos rfl]; exact mm_up_at J _ _ _
    · rw [if_neg e]; exact (up_nk J _ e).trans (hx c hc).1
  have hfr : ∀ c, c ≠ b + 19 → mm_up J (b + 19) (17 + r) (zJ 1) c = J c := fun c hc => up_ne J _ hc
  rw [show hJ (putJ (hp L I J w) (b + 19) (17 + r) (Int64.ofNat ((1 : Fin 2) : Nat))) (b + 19) k = zJ (x k) from (hy k (by omega)).trans (by rw [if_neg (by omega)])]
  rw [show putJ (hp L I J w) (b + 19) (17 + r) (Int64.ofNat ((1 : Fin 2) : Nat)) = hp L I (mm_up J (b + 19) (17 + r) (zJ 1)) w from rfl]
  generalize mm_up J (b + 19) (17 + r) (zJ 1) = J1 at hy hfr ⊢
  have hp1 : J1 b 0 = zJ p := by rw [hfr b (by omega)]; exact hpr
  obtain ⟨u, u0, u1, ⟨z, hz⟩, hev⟩ := ev_inv (hp L I J1 w) (x k) p (by have := hx k (by omega); omega) (by have := hx k (by omega); omega) p3 (pm_gcd hpp (fun hd => hxk (nz_dvd (hx k (by omega)).2.1 (hx k (by omega)).2.2 hd)))
  iterate 1 (refine WP.st rfl ?_)
  refine WP.get (v := .long (zJ p)) rfl rfl ((isW_K hb).1) (congrArg Value.long hp1) ?_
  refine WP.calle rfl rfl (hev) ?_
  iterate 5 (refine WP.st rfl ?_)
  refine WP.inv (fun i (K : Nat → Nat → Int64) => (35, [some (.ref b), some (.long (zJ u)), none, some (.int (nI i))], [.int (nI 33), .int (nI i)], hp L I K w, 0, 0)) (fun i K => (∀ c, c ≠ b + 2 + r → K c = J1 c) ∧ ∀ c, c < i → K (b + 2 + r) c = zJ (kr p r x u c)) 33 J1 ⟨fun _ _ => rfl, fun c hc => absurd hc (Nat.not_lt_zero c)⟩ (fun i K hi hv kk => ?_) (fun K hv => ?_)
  · have hp2 : K b 0 = zJ p := by rw [hv.1 b (by omega)]; exact hp1
    have hyi : K (b + 19) i = zJ (if i = 17 + r then 1 else x i) := by rw [hv.1 (b + 19) (by omega)]; exact hy i hi
    have hb0 : 0 ≤ (if i = 17 + r then 1 else x i) ∧ (if i = 17 + r then 1 else x i) < p := by
      split
      · omega
      · exact (hx i hi).2
    have U0 : 0 ≤ (if i = 17 + r then 1 else x i) * u := Int.mul_nonneg hb0.1 u0
    have U1 : (if i = 17 + r then 1 else x i) * u ≤ (2 ^ 31 - 2) * (2 ^ 31 - 1) := Int.mul_le_mul (by omega) (by omega) (by omega) (by omega)
    refine WP.icf rfl (nI_ge hi (by omega)) ?_
    iterate 1 (refine WP.st rfl ?_)
    refine WP.get (v := .ref (b + 1)) rfl rfl ((isW_K hb).1) (congrArg mm_rv (isW_R w hb).1) ?_
    iterate 1 (refine WP.st rfl ?_)
    refine WP.get (v := .int (nI r)) rfl rfl ((isW_K hb).1) (congrArg Value.int hrk) ?_
    refine WP.aald (k := r) rfl (rfl) (Or.inr (Or.inr (Or.inr (isW_K hb).2.1))) (show r < LL L (b + 1) by rw [(isW_L hb).1]; omega) (l1) (li.1) ?_
    iterate 2 (refine WP.st rfl ?_)
    refine WP.get (v := .ref (b + 19)) rfl rfl ((isW_K hb).1) (congrArg mm_rv (isW_R w hb).2.2) ?_
    iterate 1 (refine WP.st rfl ?_)
    refine WP.lald (k := i) rfl (rfl) (Or.inl (isW_K hb).2.2.2) (show i < LL L (b + 19) by rw [(isW_L hb).2.2]; omega) (l19) ?_
    rw [show hJ (hp L I K w) (b + 19) i = zJ (if i = 17 + r then 1 else x i) from hyi]
    iterate 2 (refine WP.st rfl ?_)
    rw [zJ_mul]
    iterate 1 (refine WP.st rfl ?_)
    refine WP.get (v := .long (zJ p)) rfl rfl ((isW_K hb).1) (congrArg Value.long hp2) ?_
    refine WP.calle rfl rfl (ev_rem _ ((if i = 17 + r then 1 else x i) * u) p (by omega) (by omega) (by omega) (by omega)) ?_
    refine WP.last (k := i) rfl (rfl) (li.2.1) (show i < LL L (b + 2 + r) by rw [li.2.2]; omega) (show Nat.ble (LL L (b + 2 + r)) 2560 = true by rw [li.2.2]; rfl) ?_
    iterate 4 (refine WP.st rfl ?_)
    have kk2 := kk (mm_up K (b + 2 + r) i (zJ (kr p r x u i))) ⟨fun c hc => (up_ne K _ hc).trans (hv.1 c hc), fun c hc => by
      by_cases e : c = i
      · rw [e]; exact mm_up_at K _ _ _
      · exact (up_nk K _ e).trans (hv.2 c (by omega))⟩
    rw [nI_succ] at kk2
    exact kk2
  · skip
    refine WP.ict rfl (nI_le (Nat.le_refl _) (by omega)) ?_
    iterate 1 (refine WP.st rfl ?_)
    refine WP.get (v := .ref (b + 18)) rfl rfl ((isW_K hb).1) (congrArg mm_rv (isW_R w hb).2.1) ?_
    iterate 1 (refine WP.st rfl ?_)
    refine WP.get (v := .int (nI r)) rfl rfl ((isW_K hb).1) (congrArg Value.int hrk) ?_
    iterate 1 (refine WP.st rfl ?_)
    refine WP.get (v := .int (nI k)) rfl rfl ((isW_K hb).1) (congrArg Value.int hld) ?_
    refine WP.iast (k := r) rfl (rfl) ((isW_K hb).2.2.1) (show r < LL L (b + 18) by rw [(isW_L hb).2.1]; omega) (l18) ?_
    exact WP.ret rfl ⟨rfl, u, z, K, hz, fun c h1 h2 => (hv.1 c h2).trans (hfr c h1), hv.2, rfl⟩
/-- blind at bl -/
def WB (I : Nat → Nat → Int32) (J : Nat → Nat → Int64) (b : Nat) (p : Int) (a : Nat → Nat → Int) (r bl : Nat) : Prop := I b 4 = nI bl ∧ bl < r ∧ (∃ R l, wv p bl a R l ∧ WR I J b bl R l) ∧ ¬ imd p 16 (bl + 1) a
/-- a witness that has taken in r rows -/
def WF (I : Nat → Nat → Int32) (J : Nat → Nat → Int64) (b : Nat) (p : Int) (a : Nat → Nat → Int) (r : Nat) : Prop := J b 0 = zJ p ∧ I b 3 = nI r ∧ ((∃ bl, WB I J b p a r bl) ∨ (I b 4 = nI 16 ∧ ∃ R l, wv p r a R l ∧ WR I J b r R l))
/-- not blind, and it has looked at t -/
def WL (I : Nat → Nat → Int32) (J : Nat → Nat → Int64) (b : Nat) (p : Int) (a : Nat → Nat → Int) (r : Nat) (t x : Nat → Int) : Prop := I b 4 = nI 16 ∧ ∃ R l, wv p r a R l ∧ WR I J b r R l ∧ lv p r r a l t x ∧ (∀ c, c < 33 → J (b + 19) c = zJ (x c)) ∧ ((∃ k, k < 16 ∧ x k ≠ 0 ∧ I b 6 = nI k) ∨ ((∀ k, k < 16 → x k = 0) ∧ I b 6 = -1))
def LK (I : Nat → Nat → Int32) (J : Nat → Nat → Int64) (b : Nat) (p : Int) (a : Nat → Nat → Int) (r : Nat) (t x : Nat → Int) : Prop := J b 0 = zJ p ∧ I b 3 = nI r ∧ ((∃ bl, WB I J b p a r bl) ∨ WL I J b p a r t x)
theorem WR_le {I : Nat → Nat → Int32} {J : Nat → Nat → Int64} {b g g' : Nat} {R : Nat → Nat → Int} {l : Nat → Nat} (h : WR I J b g R l) (hg : g' ≤ g) : WR I J b g' R l := ⟨fun i hi => h.1 i (by omega), fun i hi => h.2 i (by omega)⟩
/-- the parts of the heap that a witness is -/
theorem WF_ext {I I' : Nat → Nat → Int32} {J J' : Nat → Nat → Int64} {b : Nat} {p : Int} {a : Nat → Nat → Int} {r : Nat} (h : WF I J b p a r) (hI : ∀ c, b ≤ c → c ≤ b + 19 → I' c = I c) (hJ : ∀ c, b ≤ c → c ≤ b + 18 → J' c = J c) (hr : r ≤ 16) : WF I' J' b p a r := by
  have wr : ∀ g R l, g ≤ 16 → WR I J b g R l → WR I' J' b g R l := fun g R l hg q => ⟨fun i hi c hc => by rw [hJ (b + 2 + i) (by omega) (by omega)]; exact q.1 i hi c hc, fun i hi => by rw [hI (b + 18) (by omega) (by omega)]; exact q.2 i hi⟩
  obtain ⟨h1, h2, h3⟩ := h
  refine ⟨by rw [hJ b (by omega) (by omega)]; exact h1, by rw [hI b (by omega) (by omega)]; exact h2, ?_⟩
  rcases h3 with ⟨bl, b1, b2, ⟨R, l, q1, q2⟩, b4⟩ | ⟨b1, R, l, q1, q2⟩
  · exact Or.inl ⟨bl, by rw [hI b (by omega) (by omega)]; exact b1, b2, ⟨R, l, q1, wr bl R l (by omega) q2⟩, b4⟩
  · exact Or.inr ⟨by rw [hI b (by omega) (by omega)]; exact b1, R, l, q1, wr r R l hr q2⟩
theorem LK_ext {I I' : Nat → Nat → Int32} {J J' : Nat → Nat → Int64} {b : Nat} {p : Int} {a : Nat → Nat → Int} {r : Nat} {t x : Nat → Int} (h : LK I J b p a r t x) (hI : ∀ c, b ≤ c → c ≤ b + 19 → I' c = I c) (hJ : ∀ c, b ≤ c → c ≤ b + 19 → J' c = J c) (hr : r ≤ 16) : LK I' J' b p a r t x := by
  have wr : ∀ g R l, g ≤ 16 → WR I J b g R l → WR I' J' b g R l := fun g R l hg q => ⟨fun i hi c hc => by rw [hJ (b + 2 + i) (by omega) (by omega)]; exact q.1 i hi c hc, fun i hi => by rw [hI (b + 18) (by omega) (by omega)]; exact q.2 i hi⟩
  have eb := hI b (by omega) (by omega)
  obtain ⟨h1, h2, h3⟩ := h
  refine ⟨by rw [hJ b (by omega) (by omega)]; exact h1, by rw [eb]; exact h2, ?_⟩
  rcases h3 with ⟨bl, b1, b2, ⟨R, l, q1, q2⟩, b4⟩ | ⟨b1, R, l, q1, q2, q3, q4, q5⟩
  · exact Or.inl ⟨bl, by rw [eb]; exact b1, b2, ⟨R, l, q1, wr bl R l (by omega) q2⟩, b4⟩
  · exact Or.inr ⟨by rw [eb]; exact b1, R, l, q1, wr r R l hr q2, q3, fun c hc => by rw [hJ (b + 19) (by omega) (by omega)]; exact q4 c hc, by rw [eb]; exact q5⟩
set_option maxHeartbeats 4000000 in
set_option maxRecDepth 20000 in
theorem sp_adopt (L : Nat) (I : Nat → Nat → Int32) (J : Nat → Nat → Int64) (w : Nat → Nat) (b : Nat) (hb : isW b) (p : Int) (hpp : pm p) (p3 : p < 2 ^ 31) (r : Nat) (hr : r < 16) (a : Nat → Nat → Int) (t x : Nat → Int) (h : LK I J b p a r t x) : SP m_Wi_adopt [.ref b] (hp L I J w) (fun r' h => r' = none ∧ ∃ (I' : Nat → Nat → Int32) (J' : Nat → Nat → Int64), FR b (b + 19) I J I' J' ∧ WF I' J' b p (beh a r t) (r + 1) ∧ h = hp L I' J' w) := by
  obtain ⟨h1, h2, h3⟩ := h
  have ag : ∀ g, g ≤ r → ∀ j, j < g → a j = beh a r t j := fun g hg j hj => (if_pos (by omega)).symm
  have frI : ∀ (f : Nat → Nat → Int32) (k : Nat) (v : Int32), FR b (b + 19) f J (mm_up f b k v) J := fun f k v c hc => ⟨up_ne f v (by omega), rfl⟩
  unfold SP
  iterate 1 (refine WP.st rfl ?_)
  refine WP.get (v := .int (I b 3)) rfl rfl ((isW_K hb).1) (rfl) ?_
  iterate 1 (refine WP.st rfl ?_)
  refine WP.ict rfl (show I b 3 < nI 16 by rw [h2]; exact nI_lt hr (by omega)) ?_
  iterate 1 (refine WP.st rfl ?_)
  refine WP.cve rfl rfl rfl rfl rfl ((isW_K hb).1) rfl rfl rfl (ev_isBlind L I J w b hb) ?_
  rcases h3 with ⟨bl, b1, b2, ⟨R, l, q1, q2⟩, b4⟩ | ⟨b1, R, l, q1, q2, q3, q4, q5⟩
  · rw [if_pos (show I b 4 < I b 3 by rw [b1, h2]; exact nI_lt b2 (by omega))]
    refine WP.ift rfl (show ¬ (1 : Int32) = 0 by decide) ?_
    iterate 2 (refine WP.st rfl ?_)
    refine WP.get (v := .int (I b 3)) rfl rfl ((isW_K hb).1) (rfl) ?_
    iterate 2 (refine WP.st rfl ?_)
    refine WP.pfI rfl rfl ((isW_K hb).1) rfl rfl ?_
    refine WP.ret rfl ⟨rfl, _, J, frI I 3 _, ⟨h1, (mm_up_at I b 3 _).trans (by rw [h2]; exact (nI_succ r).symm), Or.inl ⟨bl, (up_nk I _ (by decide)).trans b1, by omega, ⟨R, l, wv_ext (by omega) q1 (ag bl (by omega)), ?_⟩, fun z => b4 (imd_congr (fun i hi c _ => by rw [ag (bl + 1) (by omega) i hi]) z)⟩⟩, rfl⟩
    exact ⟨q2.1, fun i hi => by rw [up_ne I _ (by omega)]; exact q2.2 i hi⟩
  · skip
    rw [if_neg (show ¬ I b 4 < I b 3 by rw [b1, h2]; exact nI_nlt (by omega) (by omega))]
    refine WP.iff rfl (fun z => z rfl) ?_
    iterate 1 (refine WP.st rfl ?_)
    refine WP.get (v := .int (I b 6)) rfl rfl ((isW_K hb).1) (rfl) ?_
    iterate 1 (refine WP.st rfl ?_)
    rcases q5 with ⟨k, k1, k2, k3⟩ | ⟨k1, k3⟩
    · refine WP.ict rfl (show ¬ I b 6 = -1 by rw [k3]; exact fun z => by have := congrArg Int32.toInt z; rw [nI_zI, zI_int (by omega) (by omega)] at this; have e : (-1 : Int32).toInt = -1 := rfl; omega) ?_
      iterate 1 (refine WP.st rfl ?_)
      refine WP.cv rfl rfl rfl rfl rfl ((isW_K hb).1) rfl rfl rfl (sp_keepRow L I J w b hb p hpp h1 p3 r k hr h2 k1 k3 x (fun c hc => ⟨q4 c hc, q3.1 c hc⟩) k2) ?_
      rintro _ _ ⟨rfl, u, z, K, hu, f1, f2, rfl⟩
      iterate 2 (refine WP.st rfl ?_)
      refine WP.get (v := .int (nI r)) rfl rfl ((isW_K hb).1) (congrArg Value.int ((congrFun (up_ne I (nI k) (show b ≠ b + 18 by omega)) 3).trans h2)) ?_
      iterate 2 (refine WP.st rfl ?_)
      refine WP.pfI rfl rfl ((isW_K hb).1) rfl rfl ?_
      refine WP.ret rfl ⟨rfl, _, K, fun c hc => ⟨(up_ne _ _ (by omega)).trans (up_ne I _ (by omega)), f1 c (by omega) (by omega)⟩, ⟨by rw [f1 b (by omega) (by omega)]; exact h1, (mm_up_at _ b 3 _).trans (nI_succ r).symm, Or.inr ⟨(up_nk _ _ (by decide)).trans ((congrFun (up_ne I _ (by omega)) 4).trans b1), _, _, wv_keep hpp hr q1 q3 k1 k2 hu, fun i hi c hc => ?_, fun i hi => ?_⟩⟩, rfl⟩
      · dsimp only
        by_cases e : i < r
        · rw [if_pos e, f1 (b + 2 + i) (by omega) (by omega)]
          exact q2.1 i e c hc
        · rw [if_neg e, show i = r by omega]
          exact f2 c hc
      · dsimp only
        rw [up_ne _ _ (show b + 18 ≠ b by omega)]
        by_cases e : i < r
        · rw [if_pos e]
          exact (up_nk I _ (by omega)).trans (q2.2 i e)
        · rw [if_neg e, show i = r by omega]
          exact mm_up_at I _ _ _
    · skip
      refine WP.icf rfl (fun z => z k3) ?_
      iterate 2 (refine WP.st rfl ?_)
      refine WP.get (v := .int (I b 3)) rfl rfl ((isW_K hb).1) (rfl) ?_
      refine WP.pfI rfl rfl ((isW_K hb).1) rfl rfl ?_
      iterate 3 (refine WP.st rfl ?_)
      refine WP.get (v := .int (nI r)) rfl rfl ((isW_K hb).1) (congrArg Value.int ((up_nk I (I b 3) (show 3 ≠ 4 by decide)).trans h2)) ?_
      iterate 2 (refine WP.st rfl ?_)
      refine WP.pfI rfl rfl ((isW_K hb).1) rfl rfl ?_
      refine WP.ret rfl ⟨rfl, _, J, fun c hc => ⟨(up_ne _ _ (by omega)).trans (up_ne I _ (by omega)), rfl⟩, ⟨h1, (mm_up_at _ b 3 _).trans (nI_succ r).symm, Or.inl ⟨r, (up_nk _ _ (by decide)).trans ((mm_up_at I b 4 _).trans h2), by omega, ⟨R, l, wv_ext (by omega) q1 (ag r (by omega)), q2.1, fun i hi => ?_⟩, lv_dep hpp (by omega) (by omega) q3 k1⟩⟩, rfl⟩
      dsimp only
      rw [up_ne _ _ (show b + 18 ≠ b by omega), up_ne I _ (show b + 18 ≠ b by omega)]
      exact q2.2 i hi
set_option maxHeartbeats 4000000 in
set_option maxRecDepth 20000 in
theorem sp_wshrink (L : Nat) (I : Nat → Nat → Int32) (J : Nat → Nat → Int64) (w : Nat → Nat) (b : Nat) (hb : isW b) (p : Int) (r r' : Nat) (hr : r ≤ 16) (hr' : r' ≤ r) (a : Nat → Nat → Int) (h : WF I J b p a r) : SP m_Wi_shrinkTo [.ref b, .int (nI r')] (hp L I J w) (fun v h => v = none ∧ ∃ I' : Nat → Nat → Int32, FR b (b + 19) I J I' J ∧ WF I' J b p a r' ∧ h = hp L I' J w) := by
  obtain ⟨h1, h2, h3⟩ := h
  unfold SP
  iterate 2 (refine WP.st rfl ?_)
  refine WP.pfI rfl rfl ((isW_K hb).1) rfl rfl ?_
  iterate 1 (refine WP.st rfl ?_)
  refine WP.get (v := .int (I b 4)) rfl rfl ((isW_K hb).1) (congrArg Value.int (up_nk I (nI r') (show 4 ≠ 3 by decide))) ?_
  iterate 1 (refine WP.st rfl ?_)
  refine WP.get (v := .int (nI r')) rfl rfl ((isW_K hb).1) (congrArg Value.int (mm_up_at I b 3 (nI r'))) ?_
  have fr1 : FR b (b + 19) I J (mm_up I b 3 (nI r')) J := fun c hc => ⟨up_ne I _ (by omega), rfl⟩
  have wr : ∀ g R l, WR I J b g R l → WR (mm_up I b 3 (nI r')) J b g R l := fun g R l q => ⟨q.1, fun i hi => by rw [up_ne I _ (show b + 18 ≠ b by omega)]; exact q.2 i hi⟩
  have wr2 : ∀ g R l, WR I J b g R l → WR (mm_up (mm_up I b 3 (nI r')) b 4 (nI 16)) J b g R l := fun g R l q => ⟨q.1, fun i hi => by rw [up_ne _ _ (show b + 18 ≠ b by omega), up_ne I _ (show b + 18 ≠ b by omega)]; exact q.2 i hi⟩
  have fr2 : FR b (b + 19) I J (mm_up (mm_up I b 3 (nI r')) b 4 (nI 16)) J := fun c hc => ⟨(up_ne _ _ (by omega)).trans (up_ne I _ (by omega)), rfl⟩
  rcases h3 with ⟨bl, b1, b2, ⟨R, l, q1, q2⟩, b4⟩ | ⟨b1, R, l, q1, q2⟩
  · by_cases e : bl < r'
    · refine WP.ict rfl (show I b 4 < nI r' by rw [b1]; exact nI_lt e (by omega)) ?_
      exact WP.ret rfl ⟨rfl, _, fr1, ⟨h1, mm_up_at I b 3 _, Or.inl ⟨bl, (up_nk I _ (by decide)).trans b1, e, ⟨R, l, q1, wr bl R l q2⟩, b4⟩⟩, rfl⟩
    · skip
      refine WP.icf rfl (show ¬ I b 4 < nI r' by rw [b1]; exact nI_nlt (by omega) (by omega)) ?_
      iterate 2 (refine WP.st rfl ?_)
      refine WP.pfI rfl rfl ((isW_K hb).1) rfl rfl ?_
      exact WP.ret rfl ⟨rfl, _, fr2, ⟨h1, (up_nk _ _ (by decide)).trans (mm_up_at I b 3 _), Or.inr ⟨mm_up_at _ b 4 _, R, l, wv_le q1 (by omega), wr2 r' R l (WR_le q2 (by omega))⟩⟩, rfl⟩
  · skip
    refine WP.icf rfl (show ¬ I b 4 < nI r' by rw [b1]; exact nI_nlt (by omega) (by omega)) ?_
    iterate 2 (refine WP.st rfl ?_)
    refine WP.pfI rfl rfl ((isW_K hb).1) rfl rfl ?_
    exact WP.ret rfl ⟨rfl, _, fr2, ⟨h1, (up_nk _ _ (by decide)).trans (mm_up_at I b 3 _), Or.inr ⟨mm_up_at _ b 4 _, R, l, wv_le q1 hr', wr2 r' R l (WR_le q2 hr')⟩⟩, rfl⟩
theorem ev_sees (L : Nat) (I : Nat → Nat → Int32) (J : Nat → Nat → Int64) (w : Nat → Nat) (b : Nat) (hb : isW b) (i : Nat) (hi : i < 16) (x : Int) (hx : J (b + 19) (17 + i) = zJ x) (x0 : 0 ≤ x) (x1 : x < 2 ^ 31) : EV m_Wi_sees [.ref b, .int (nI i)] (hp L I J w) (some (.int (if x = 0 then 0 else 1))) (hp L I J w) := by
  obtain ⟨r, h, e, q⟩ : SP m_Wi_sees [.ref b, .int (nI i)] (hp L I J w) (fun r h => r = some (.int (if x = 0 then 0 else 1)) ∧ h = hp L I J w) := by
    unfold SP
    iterate 1 (refine WP.st rfl ?_)
    refine WP.get (v := .ref (b + 19)) rfl rfl ((isW_K hb).1) (congrArg mm_rv (isW_R w hb).2.2) ?_
    iterate 3 (refine WP.st rfl ?_)
    refine WP.lald (k := 17 + i) rfl (by rw [show ((Int8.ofInt 17).toInt32 : Int32) = nI 17 from rfl, nI_add]) (Or.inl (isW_K hb).2.2.2) (show 17 + i < LL L (b + 19) by rw [(isW_L hb).2.2]; omega) (show Nat.ble (LL L (b + 19)) 2560 = true by rw [(isW_L hb).2.2]; rfl) ?_
    rw [show hJ (hp L I J w) (b + 19) (17 + i) = zJ x from hx]
    iterate 2 (refine WP.st rfl ?_)
    by_cases z : x = 0
    · refine WP.ift rfl (lc_eq.mpr (by rw [z]; rfl)) ?_
      iterate 1 (refine WP.st rfl ?_)
      rw [if_pos z]
      exact WP.ret rfl ⟨rfl, rfl⟩
    · skip
      refine WP.iff rfl (fun y => z ((zJ_eq (by omega) (by omega) (by decide) (by decide)).mp (lc_eq.mp y))) ?_
      iterate 2 (refine WP.st rfl ?_)
      rw [if_neg z]
      exact WP.ret rfl ⟨rfl, rfl⟩
  obtain ⟨rfl, rfl⟩ := q
  exact e
