/-! bits -/
def bt (v : Int32) (k : Nat) : Bool := v.toBitVec.getLsbD k
theorem bt_ext {v u : Int32} (h : ∀ k, k < 32 → bt v k = bt u k) : v = u := by
  apply Int32.toBitVec_inj.mp
  apply BitVec.eq_of_getLsbD_eq
  intro i hi
  exact h i hi
theorem sh_two : ∀ n, n < 32 → ((1 : Int32) <<< (nI n &&& 31)).toBitVec = BitVec.twoPow 32 n := by decide
theorem bt_or1 (v : Int32) {n k : Nat} (hn : n < 32) (hk : k < 32) : bt (v ||| ((1 : Int32) <<< (nI n &&& 31))) k = (bt v k || decide (k = n)) := by
  unfold bt
  rw [Int32.toBitVec_or, BitVec.getLsbD_or, sh_two n hn, BitVec.getLsbD_twoPow]
  congr 1
  by_cases e : k = n
  · simp [e, hn]
  · simp [e, Ne.symm e]
theorem bt_0 (k : Nat) : bt 0 k = false := by
  unfold bt
  exact BitVec.getLsbD_zero
/-! Judge: partsSeen, adopt, shrinkTo, howMany -/
theorem wl_sees {I : Nat → Nat → Int32} {J : Nat → Nat → Int64} {b : Nat} {p : Int} (hp : pm p) {a : Nat → Nat → Int} {r : Nat} {t x : Nat → Int} (hr : r ≤ 16) (h : WL I J b p a r t x) (hn : ¬ imd p 16 (r + 1) (beh a r t)) {q : Nat} (hq : q < r) : (x (17 + q) ≠ 0 ↔ imd p 16 r a ∧ imd p 16 r (wo (beh a r t) q)) ∧ (J (b + 19) (17 + q) = zJ (x (17 + q)) ∧ 0 ≤ x (17 + q) ∧ x (17 + q) < p) := by
  obtain ⟨-, R, l, q1, -, q3, q4, q5⟩ := h
  have h0 : ∀ k, k < 16 → x k = 0 := by
    rcases q5 with ⟨k, k1, k2, -⟩ | ⟨k1, -⟩
    · exact absurd (lv_new hp hr q1 q3 k1 k2) hn
    · exact k1
  refine ⟨⟨fun z => ⟨wv_imd hp hr q1, lv_see hp hr q1 q3 hq z⟩, fun z y => lv_uns hp hr q3 h0 hq y z.2⟩, q4 _ (by omega), q3.1 _ (by omega)⟩
set_option maxHeartbeats 4000000 in
set_option maxRecDepth 20000 in
theorem sp_parts (L : Nat) (I : Nat → Nat → Int32) (J : Nat → Nat → Int64) (w : Nat → Nat) (r : Nat) (hr : r ≤ 16) (a : Nat → Nat → Int) (t : Nat → Int) (xs : Nat → Nat → Int) (hL : JL I J a r t xs) (hn : ¬ ind 16 (r + 1) (beh a r t)) (hrk : I 11 4 = nI r) (no : Nat → Nat) (hno : ∀ q, q < r → I 15 q = nI (no q) ∧ no q < 20) : SP m_Ju_partsSeen [.ref 11] (hp L I J w) (fun v h => h = hp L I J w ∧ ∃ b, v = some (.int b) ∧ ∀ k, k < 32 → (bt b k = true ↔ ∃ q, q < r ∧ no q = k ∧ ∃ j, j < 3 ∧ sP a r t q j)) := by
  unfold SP
  iterate 12 (refine WP.st rfl ?_)
  refine WP.inv (fun i (σ : Int32 × Option Value × Option Value) => (16, [some (.ref 11), some (.int σ.1), some (.ref 12), some (.int (nI 3)), some (.int (nI i)), σ.2.1, σ.2.2], [.int (nI 3), .int (nI i)], hp L I J w, 0, 0)) (fun i σ => ∀ k, k < 32 → (bt σ.1 k = true ↔ ∃ q, q < r ∧ no q = k ∧ ∃ j, j < i ∧ sP a r t q j)) 3 (0, none, none) (fun k hk => ⟨fun z => (by rw [bt_0] at z; cases z), fun ⟨_, _, _, j, hj, _⟩ => absurd hj (Nat.not_lt_zero j)⟩) (fun i σ hi hv kk => ?_) (fun σ hv => ?_)
  · obtain ⟨b, o5, o6⟩ := σ
    dsimp only at hv ⊢
    have hw := ww_is hi
    have wi : ∀ j, ww j = 16 + 20 * j := fun _ => rfl
    have p3 := (pc_ge i).2
    obtain ⟨w1, w2, w3⟩ := hL i hi
    refine WP.icf rfl (nI_ge hi (by omega)) ?_
    iterate 2 (refine WP.st rfl ?_)
    refine WP.aald (k := i) rfl (rfl) (Or.inr (Or.inl rfl)) (show i < 3 from hi) (rfl) (RR_wit w hi) ?_
    iterate 6 (refine WP.st rfl ?_)
    -- what is left when the witness has spoken
    have fin : ∀ b' (o : Option Value), (∀ k, k < 32 → (bt b' k = true ↔ ∃ q, q < r ∧ no q = k ∧ ∃ j, j < i + 1 ∧ sP a r t q j)) → WP m_Ju_partsSeen (73, [some (.ref 11), some (.int b'), some (.ref 12), some (.int (nI 3)), some (.int (nI i)), some (.ref (ww i)), o], [], hp L I J w, 0, 0) (fun v h => h = hp L I J w ∧ ∃ b, v = some (.int b) ∧ ∀ k, k < 32 → (bt b k = true ↔ ∃ q, q < r ∧ no q = k ∧ ∃ j, j < 3 ∧ sP a r t q j)) := by
      intro b' o h
      iterate 4 (refine WP.st rfl ?_)
      have kk2 := kk (b', some (.ref (ww i)), o) h
      rw [nI_succ i] at kk2
      exact kk2
    rcases w3 with ⟨bl, hB⟩ | hWL
    · have nb := blind_no hB
      have same : ∀ k, k < 32 → (bt b k = true ↔ ∃ q, q < r ∧ no q = k ∧ ∃ j, j < i + 1 ∧ sP a r t q j) := fun k hk => (hv k hk).trans ⟨fun ⟨q, h1, h2, j, h3, h4⟩ => ⟨q, h1, h2, j, by omega, h4⟩, fun ⟨q, h1, h2, j, h3, h4⟩ => ⟨q, h1, h2, j, by
        by_cases e : j = i
        · subst e; exact absurd h4.1 nb
        · omega, h4⟩⟩
      refine WP.icf rfl (show ¬ I 11 4 ≤ nI 0 by rw [hrk]; exact nI_ge (by have := hB.2.1; omega) (by omega)) ?_
      iterate 1 (refine WP.st rfl ?_)
      refine WP.cve rfl rfl rfl rfl rfl ((isW_K hw).1) rfl rfl rfl (ev_isBlind L I J w (ww i) hw) ?_
      rw [if_pos (show I (ww i) 4 < I (ww i) 3 by rw [hB.1, w2]; exact nI_lt hB.2.1 (by omega))]
      refine WP.ift rfl (show ¬ (1 : Int32) = 0 by decide) ?_
      exact fin b _ same
    · have himd : imd (pc i) 16 r a := by
        obtain ⟨-, R, l, q1, -⟩ := hWL
        exact wv_imd (pc_pm i) hr q1
      have hni : ¬ imd (pc i) 16 (r + 1) (beh a r t) := fun z => hn (imd_ind (pc_pm i) z)
      refine WP.inv (fun m (b' : Int32) => (34, [some (.ref 11), some (.int b'), some (.ref 12), some (.int (nI 3)), some (.int (nI i)), some (.ref (ww i)), some (.int (nI m))], [.int (I 11 4), .int (nI m)], hp L I J w, 0, 0)) (fun m b' => ∀ k, k < 32 → (bt b' k = true ↔ ∃ q, q < r ∧ no q = k ∧ ∃ j, (j < i ∨ (j = i ∧ q < m)) ∧ sP a r t q j)) r b (fun k hk => (hv k hk).trans ⟨fun ⟨q, h1, h2, j, h3, h4⟩ => ⟨q, h1, h2, j, Or.inl h3, h4⟩, fun ⟨q, h1, h2, j, h3, h4⟩ => ⟨q, h1, h2, j, by omega, h4⟩⟩) (fun m b' hm hv2 k2 => ?_) (fun b' hv2 => ?_)
      · obtain ⟨s1, s2, s3, s4⟩ := wl_sees (pc_pm i) hr hWL hni hm
        obtain ⟨n1, n2⟩ := hno m hm
        refine WP.icf rfl (show ¬ I 11 4 ≤ nI m by rw [hrk]; exact nI_ge hm (by omega)) ?_
        iterate 1 (refine WP.st rfl ?_)
        refine WP.cve rfl rfl rfl rfl rfl ((isW_K hw).1) rfl rfl rfl (ev_isBlind L I J w (ww i) hw) ?_
        rw [if_neg (show ¬ I (ww i) 4 < I (ww i) 3 by rw [hWL.1, w2]; exact nI_nlt (by omega) (by omega))]
        refine WP.iff rfl (fun z => z rfl) ?_
        iterate 2 (refine WP.st rfl ?_)
        refine WP.cve rfl rfl rfl rfl rfl ((isW_K hw).1) rfl rfl rfl (ev_sees L I J w (ww i) hw m (by omega) (xs i (17 + m)) s2 s3 (by omega)) ?_
        by_cases z : xs i (17 + m) = 0
        · rw [if_pos z]
          refine WP.ift rfl (rfl) ?_
          iterate 5 (refine WP.st rfl ?_)
          have k3 := k2 b' (fun k hk => (hv2 k hk).trans ⟨fun ⟨q, h1, h2, j, h3, h4⟩ => ⟨q, h1, h2, j, by omega, h4⟩, fun ⟨q, h1, h2, j, h3, h4⟩ => ⟨q, h1, h2, j, by
            by_cases e : j = i ∧ q = m
            · obtain ⟨rfl, rfl⟩ := e
              exact absurd z (s1.mpr h4)
            · omega, h4⟩⟩)
          rw [nI_succ m] at k3
          exact k3
        · skip
          rw [if_neg z]
          refine WP.iff rfl (show ¬ (1 : Int32) = 0 by decide) ?_
          iterate 5 (refine WP.st rfl ?_)
          refine WP.iald (k := m) rfl (rfl) (Or.inl rfl) (show m < 16 by omega) (rfl) ?_
          rw [show hI (hp L I J w) 15 m = nI (no m) from n1]
          iterate 8 (refine WP.st rfl ?_)
          have k3 := k2 (b' ||| ((1 : Int32) <<< (nI (no m) &&& 31))) (fun k hk => by
            rw [bt_or1 b' (by omega) hk, Bool.or_eq_true, decide_eq_true_eq, hv2 k hk]
            constructor
            · rintro (⟨q, h1, h2, j, h3, h4⟩ | rfl)
              · exact ⟨q, h1, h2, j, by omega, h4⟩
              · exact ⟨m, hm, rfl, i, Or.inr ⟨rfl, by omega⟩, s1.mp z⟩
            · rintro ⟨q, h1, h2, j, h3, h4⟩
              by_cases e : q = m
              · right; rw [← h2, e]
              · left; exact ⟨q, h1, h2, j, by omega, h4⟩)
          rw [nI_succ m] at k3
          exact k3
      · skip
        refine WP.ict rfl (show I 11 4 ≤ nI r by rw [hrk]; exact nI_le (Nat.le_refl _) (by omega)) ?_
        exact fin b' _ (fun k hk => (hv2 k hk).trans ⟨fun ⟨q, h1, h2, j, h3, h4⟩ => ⟨q, h1, h2, j, by omega, h4⟩, fun ⟨q, h1, h2, j, h3, h4⟩ => ⟨q, h1, h2, j, by omega, h4⟩⟩)
  · skip
    refine WP.ict rfl (nI_le (Nat.le_refl _) (by omega)) ?_
    iterate 1 (refine WP.st rfl ?_)
    exact WP.ret rfl ⟨rfl, _, rfl, hv⟩
theorem WF_a {I : Nat → Nat → Int32} {J : Nat → Nat → Int64} {b : Nat} {p : Int} {a a' : Nat → Nat → Int} {r : Nat} (hr : r ≤ 16) (h : WF I J b p a r) (he : ∀ q, q < r → a q = a' q) : WF I J b p a' r := by
  obtain ⟨h1, h2, h3⟩ := h
  refine ⟨h1, h2, ?_⟩
  rcases h3 with ⟨bl, b1, b2, ⟨R, l, q1, q2⟩, b4⟩ | ⟨b1, R, l, q1, q2⟩
  · exact Or.inl ⟨bl, b1, b2, ⟨R, l, wv_ext (by omega) q1 (fun j hj => he j (by omega)), q2⟩, fun z => b4 (imd_congr (fun i hi c _ => by rw [he i (by omega)]) z)⟩
  · exact Or.inr ⟨b1, R, l, wv_ext hr q1 he, q2⟩
set_option maxHeartbeats 4000000 in
set_option maxRecDepth 20000 in
theorem sp_jadopt (L : Nat) (I : Nat → Nat → Int32) (J : Nat → Nat → Int64) (w : Nat → Nat) (r : Nat) (hr : r < 16) (a : Nat → Nat → Int) (t : Nat → Int) (xs : Nat → Nat → Int) (hL : JL I J a r t xs) (hrk : I 11 4 = nI r) : SP m_Ju_adopt [.ref 11] (hp L I J w) (fun v h => v = none ∧ ∃ (I' : Nat → Nat → Int32) (J' : Nat → Nat → Int64), FR 16 75 I J I' J' ∧ JW I' J' (beh a r t) (r + 1) ∧ h = hp L (mm_up I' 11 4 (nI (r + 1))) J' w) := by
  unfold SP
  iterate 3 (refine WP.st rfl ?_)
  refine WP.ict rfl (show I 11 4 < nI 16 by rw [hrk]; exact nI_lt hr (by omega)) ?_
  iterate 10 (refine WP.st rfl ?_)
  refine WP.inv (fun i (σ : (Nat → Nat → Int32) × (Nat → Nat → Int64) × Option Value) => (22, [some (.ref 11), some (.ref 12), some (.int (nI 3)), some (.int (nI i)), σ.2.2], [.int (nI 3), .int (nI i)], hp L σ.1 σ.2.1 w, 0, 0)) (fun i σ => FR 16 75 I J σ.1 σ.2.1 ∧ (∀ j, i ≤ j → j < 3 → LK σ.1 σ.2.1 (ww j) (pc j) a r t (xs j)) ∧ (∀ j, j < i → WF σ.1 σ.2.1 (ww j) (pc j) (beh a r t) (r + 1))) 3 (I, J, none) ⟨FR.refl _ _ _ _, fun j _ hj => hL j hj, fun j hj => absurd hj (Nat.not_lt_zero j)⟩ (fun i σ hi hv kk => ?_) (fun σ hv => ?_)
  · obtain ⟨I1, J1, o4⟩ := σ
    obtain ⟨f1, f2, f3⟩ := hv
    dsimp only at f1 f2 f3 ⊢
    have hw := ww_is hi
    have wi : ∀ j, ww j = 16 + 20 * j := fun _ => rfl
    refine WP.icf rfl (nI_ge hi (by omega)) ?_
    iterate 2 (refine WP.st rfl ?_)
    refine WP.aald (k := i) rfl (rfl) (Or.inr (Or.inl rfl)) (show i < 3 from hi) (rfl) (RR_wit w hi) ?_
    iterate 2 (refine WP.st rfl ?_)
    refine WP.cv rfl rfl rfl rfl rfl ((isW_K hw).1) rfl rfl rfl (sp_adopt L I1 J1 w (ww i) hw (pc i) (pc_pm i) (pc_ge i).2 r hr a t (xs i) (f2 i (Nat.le_refl i) hi)) ?_
    rintro _ _ ⟨rfl, I2, J2, g1, g2, rfl⟩
    iterate 4 (refine WP.st rfl ?_)
    have kk2 := kk (I2, J2, some (.ref (ww i))) ⟨f1.trans (g1.mono (by have := wi i; omega) (by have := wi i; omega)), fun j h1 h2 => LK_ext (f2 j (by omega) h2) (fun c h3 h4 => (g1 c (by have := wi i; have := wi j; omega)).1) (fun c h3 h4 => (g1 c (by have := wi i; have := wi j; omega)).2) (by omega), fun j hj => by
      by_cases e : j = i
      · subst e; exact g2
      · exact WF_ext (f3 j (by omega)) (fun c h3 h4 => (g1 c (by have := wi i; have := wi j; omega)).1) (fun c h3 h4 => (g1 c (by have := wi i; have := wi j; omega)).2) (by omega)⟩
    rw [nI_succ i] at kk2
    exact kk2
  · obtain ⟨I1, J1, o4⟩ := σ
    obtain ⟨f1, f2, f3⟩ := hv
    dsimp only at f1 f2 f3 ⊢
    have e11 : I1 11 4 = nI r := by rw [(f1 11 (by omega)).1]; exact hrk
    refine WP.ict rfl (nI_le (Nat.le_refl _) (by omega)) ?_
    iterate 6 (refine WP.st rfl ?_)
    refine WP.ret rfl ⟨rfl, I1, J1, f1, f3, ?_⟩
    rw [nI_succ r, ← e11]
    rfl
theorem JW_up {I : Nat → Nat → Int32} {J : Nat → Nat → Int64} {a : Nat → Nat → Int} {r : Nat} (h : JW I J a r) (hr : r ≤ 16) (k : Nat) (v : Int32) : JW (mm_up I 11 k v) J a r := fun i hi => WF_ext (h i hi) (fun c h1 h2 => up_ne I v (by have : ww i = 16 + 20 * i := rfl; omega)) (fun _ _ _ => rfl) hr
set_option maxHeartbeats 4000000 in
set_option maxRecDepth 20000 in
theorem sp_jshrink (L : Nat) (I : Nat → Nat → Int32) (J : Nat → Nat → Int64) (w : Nat → Nat) (r r' : Nat) (hr : r ≤ 16) (hr' : r' ≤ r) (a : Nat → Nat → Int) (hW : JW I J a r) : SP m_Ju_shrinkTo [.ref 11, .int (nI r')] (hp L I J w) (fun v h => v = none ∧ ∃ I' : Nat → Nat → Int32, FR 16 75 (mm_up I 11 4 (nI r')) J I' J ∧ JW I' J a r' ∧ h = hp L I' J w) := by
  unfold SP
  iterate 13 (refine WP.st rfl ?_)
  have hW1 := JW_up hW hr 4 (nI r')
  generalize hI1 : mm_up I 11 4 (nI r') = I0 at hW1 ⊢
  rw [show putI (hp L I J w) 11 4 (nI r') = hp L I0 J w from by rw [← hI1]]
  refine WP.inv (fun i (σ : (Nat → Nat → Int32) × Option Value) => (19, [some (.ref 11), some (.int (nI r')), some (.ref 12), some (.int (nI 3)), some (.int (nI i)), σ.2], [.int (nI 3), .int (nI i)], hp L σ.1 J w, 0, 0)) (fun i σ => FR 16 75 I0 J σ.1 J ∧ (∀ j, i ≤ j → j < 3 → WF σ.1 J (ww j) (pc j) a r) ∧ (∀ j, j < i → WF σ.1 J (ww j) (pc j) a r')) 3 (I0, none) ⟨FR.refl _ _ _ _, fun j _ hj => hW1 j hj, fun j hj => absurd hj (Nat.not_lt_zero j)⟩ (fun i σ hi hv kk => ?_) (fun σ hv => ?_)
  · obtain ⟨I1, o5⟩ := σ
    obtain ⟨f1, f2, f3⟩ := hv
    dsimp only at f1 f2 f3 ⊢
    have hw := ww_is hi
    have wi : ∀ j, ww j = 16 + 20 * j := fun _ => rfl
    refine WP.icf rfl (nI_ge hi (by omega)) ?_
    iterate 2 (refine WP.st rfl ?_)
    refine WP.aald (k := i) rfl (rfl) (Or.inr (Or.inl rfl)) (show i < 3 from hi) (rfl) (RR_wit w hi) ?_
    iterate 3 (refine WP.st rfl ?_)
    refine WP.cv rfl rfl rfl rfl rfl ((isW_K hw).1) rfl rfl rfl (sp_wshrink L I1 J w (ww i) hw (pc i) r r' hr hr' a (f2 i (Nat.le_refl i) hi)) ?_
    rintro _ _ ⟨rfl, I2, g1, g2, rfl⟩
    iterate 4 (refine WP.st rfl ?_)
    have kk2 := kk (I2, some (.ref (ww i))) ⟨f1.trans (g1.mono (by have := wi i; omega) (by have := wi i; omega)), fun j h1 h2 => WF_ext (f2 j (by omega) h2) (fun c h3 h4 => (g1 c (by have := wi i; have := wi j; omega)).1) (fun c h3 h4 => rfl) hr, fun j hj => by
      by_cases e : j = i
      · subst e; exact g2
      · exact WF_ext (f3 j (by omega)) (fun c h3 h4 => (g1 c (by have := wi i; have := wi j; omega)).1) (fun c h3 h4 => rfl) (by omega)⟩
    rw [nI_succ i] at kk2
    exact kk2
  · obtain ⟨I1, o5⟩ := σ
    obtain ⟨f1, f2, f3⟩ := hv
    dsimp only at f1 f2 f3 ⊢
    refine WP.ict rfl (nI_le (Nat.le_refl _) (by omega)) ?_
    exact WP.ret rfl ⟨rfl, I1, f1, f3, rfl⟩
/-- how many of the first n of a row are v -/
def hm (f : Nat → Int32) (v : Int32) : Nat → Nat
  | 0 => 0
  | n + 1 => if f n = v then hm f v n + 1 else hm f v n
theorem hm_le (f : Nat → Int32) (v : Int32) : ∀ n, hm f v n ≤ n
  | 0 => Nat.le_refl 0
  | n + 1 => by
    have := hm_le f v n
    show (if f n = v then hm f v n + 1 else hm f v n) ≤ _
    split <;> omega
theorem ev_howMany (L : Nat) (I : Nat → Nat → Int32) (J : Nat → Nat → Int64) (w : Nat → Nat) (v : Int32) (m : Nat) (hmm : m ≤ 20) (hj : I 11 5 = nI m) : EV m_Ju_howMany [.ref 11, .int v] (hp L I J w) (some (.int (nI (hm (I 13) v m)))) (hp L I J w) := by
  obtain ⟨r, h, e, q⟩ : SP m_Ju_howMany [.ref 11, .int v] (hp L I J w) (fun r h => r = some (.int (nI (hm (I 13) v m))) ∧ h = hp L I J w) := by
    unfold SP
    iterate 7 (refine WP.st rfl ?_)
    refine WP.inv (fun i (_ : Unit) => (9, [some (.ref 11), some (.int v), some (.int (nI (hm (I 13) v i))), some (.int (nI i))], [.int (I 11 5), .int (nI i)], hp L I J w, 0, 0)) (fun _ _ => True) m () trivial (fun i _ hi _ kk => ?_) (fun _ _ => ?_)
    · have kk2 := kk () trivial
      refine WP.icf rfl (show ¬ I 11 5 ≤ nI i by rw [hj]; exact nI_ge hi (by omega)) ?_
      iterate 3 (refine WP.st rfl ?_)
      refine WP.iald (k := i) rfl (rfl) (Or.inl rfl) (show i < 20 by omega) (rfl) ?_
      iterate 1 (refine WP.st rfl ?_)
      by_cases z : I 13 i = v
      · refine WP.icf rfl (fun y => y z) ?_
        rw [show hm (I 13) v (i + 1) = hm (I 13) v i + 1 from if_pos z, nI_succ, nI_succ i] at kk2
        iterate 6 (refine WP.st rfl ?_)
        exact kk2
      · skip
        refine WP.ict rfl (z) ?_
        rw [show hm (I 13) v (i + 1) = hm (I 13) v i from if_neg z, nI_succ i] at kk2
        iterate 5 (refine WP.st rfl ?_)
        exact kk2
    · skip
      refine WP.ict rfl (show I 11 5 ≤ nI m by rw [hj]; exact nI_le (Nat.le_refl _) (by omega)) ?_
      iterate 1 (refine WP.st rfl ?_)
      exact WP.ret rfl ⟨rfl, rfl⟩
  obtain ⟨rfl, rfl⟩ := q
  exact e
