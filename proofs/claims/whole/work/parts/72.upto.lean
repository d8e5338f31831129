/-! Judge: judgeOne, judgeUpTo -/
theorem sm_mono {f g : Nat → Int} : ∀ n, (∀ i, i < n → f i ≤ g i) → sm f n ≤ sm g n
  | 0, _ => Int.le_refl _
  | n + 1, h => by
    have := sm_mono n (fun i hi => h i (by omega))
    have := h n (by omega)
    show sm f n + f n ≤ sm g n + g n
    omega
theorem sm_const (c : Int) : ∀ n : Nat, sm (fun _ => c) n = n * c
  | 0 => by show (0 : Int) = (0 : Nat) * c; grind
  | n + 1 => by
    show sm (fun _ => c) n + c = ((n + 1 : Nat) : Int) * c
    rw [sm_const c n]
    push_cast
    grind
theorem isT_srt {I : Nat → Nat → Int32} {s : Nat} {t : Nat → Int} (h : isT I s t) : dt 16 t t ≤ 36 ∧ -2000 ≤ t 16 ∧ t 16 ≤ 2000 := by
  obtain ⟨n, nm, fc, t1, t2, t3, t4, t5, t6, t7⟩ := h
  refine ⟨?_, t2.1, t2.2⟩
  have h1 : ∀ c, c < 16 → t c * t c ≤ sm (fun k => if nm k = c then 9 else 0) n := by
    intro c hc
    by_cases e : ∃ k, k < n ∧ nm k = c
    · obtain ⟨k, hk, hkc⟩ := e
      obtain ⟨-, -, -, -, u5, u6, u7⟩ := t5 k hk
      rw [hkc] at u7
      have h9 : t c * t c ≤ 9 := by
        rw [u7]
        have : fc k = -3 ∨ fc k = -2 ∨ fc k = -1 ∨ fc k = 0 ∨ fc k = 1 ∨ fc k = 2 ∨ fc k = 3 := by omega
        rcases this with z | z | z | z | z | z | z <;> rw [z] <;> decide
      refine Int.le_trans h9 ?_
      rw [sm_split _ k n hk, if_pos hkc]
      have : 0 ≤ sm (fun i => if i = k then (0 : Int) else if nm i = c then 9 else 0) n := by
        have := sm_mono (f := fun _ => 0) (g := fun i => if i = k then (0 : Int) else if nm i = c then 9 else 0) n (fun i _ => by
          split
          · omega
          · split <;> omega)
        rw [sm_0 n (fun _ _ => rfl)] at this
        exact this
      omega
    · rw [t7 c hc (fun k hk z => e ⟨k, hk, z⟩)]
      have := sm_mono (f := fun _ => 0) (g := fun i => if nm i = c then (9 : Int) else 0) n (fun i _ => by split <;> omega)
      rw [sm_0 n (fun _ _ => rfl)] at this
      omega
  have h2 : dt 16 t t ≤ sm (fun c => sm (fun k => if nm k = c then (9 : Int) else 0) n) 16 := sm_mono 16 h1
  rw [sm_swap (fun c k => if nm k = c then (9 : Int) else 0) n 16] at h2
  have h3 : sm (fun k => sm (fun c => if nm k = c then (9 : Int) else 0) 16) n ≤ sm (fun _ => 9) n := sm_mono n (fun k hk => by
    rw [sm_one (k := nm k) 16 (t5 k hk).2.1 (fun c _ hc => if_neg (Ne.symm hc)), if_pos rfl]
    exact Int.le_refl _)
  rw [sm_const] at h3
  omega
/-- the class's tellings -/
def CT (I : Nat → Nat → Int32) (T : Nat → Nat → Int) (of : Off) (N : Nat) : Prop := ∀ t, t < N → isT I (sumP t) (T t) ∧ I (sumP t) 2 = (if of t = true then 1 else 0)
def ptOK (I : Nat → Nat → Int32) (T : Nat → Nat → Int) (of : Off) (t : Nat) : Prop := (knd T of t = 1 ∨ knd T of t = 2) → ∀ k, k < 32 → (bt (I 14 t) k = true ↔ ∃ q, q < rk T of t ∧ nos T of t q = k ∧ ind 16 (rk T of t) (wo (beh (am T of t) (rk T of t) (T t)) q))
/-- the first m are judged, and the witnesses have taken in just their new ones -/
def JV (I : Nat → Nat → Int32) (T : Nat → Nat → Int) (of : Off) (m : Nat) : Prop := (∀ t, t < m → I 13 t = nI (knd T of t) ∧ ptOK I T of t) ∧ (∀ q, q < rk T of m → I 15 q = nI (nos T of m q))
def JX (I : Nat → Nat → Int32) (J : Nat → Nat → Int64) (T : Nat → Nat → Int) (of : Off) (m : Nat) : Prop := JW I J (am T of m) (rk T of m) ∧ I 11 4 = nI (rk T of m) ∧ JV I T of m
theorem CT_FR {I I' : Nat → Nat → Int32} {J J' : Nat → Nat → Int64} {T : Nat → Nat → Int} {of : Off} {N lo hi : Nat} (h : CT I T of N) (hf : FR lo hi I J I' J') (hh : hi < 148) : CT I' T of N := fun t ht => ⟨FR_T (h t ht).1 hf (Or.inr (by unfold sumP; omega)), by rw [(hf (sumP t) (Or.inr (by unfold sumP; omega))).1]; exact (h t ht).2⟩
theorem srt_T {I : Nat → Nat → Int32} {T : Nat → Nat → Int} {of : Off} {N m : Nat} (h : CT I T of N) (hm : m ≤ N) {t : Nat → Int} {s : Nat} (ht : isT I s t) : srt (rk T of m + 1) (beh (am T of m) (rk T of m) t) := by
  intro i hi
  unfold beh
  by_cases e : i < rk T of m
  · simp only [e, if_true]
    exact isT_srt (h _ (by have := nos_lt T of m i e; omega)).1
  · simp only [e, if_false]
    exact isT_srt ht
theorem WF_up {I : Nat → Nat → Int32} {J : Nat → Nat → Int64} {b c k : Nat} {v : Int32} {p : Int} {a : Nat → Nat → Int} {r : Nat} (h : WF I J b p a r) (hc : c < b ∨ b + 19 < c) (hr : r ≤ 16) : WF (mm_up I c k v) J b p a r := WF_ext h (fun d h1 h2 => up_ne I v (by omega)) (fun _ _ _ => rfl) hr
theorem JW_upc {I : Nat → Nat → Int32} {J : Nat → Nat → Int64} {c k : Nat} {v : Int32} {a : Nat → Nat → Int} {r : Nat} (h : JW I J a r) (hc : c < 16 ∨ 75 < c) (hr : r ≤ 16) : JW (mm_up I c k v) J a r := fun i hi => WF_up (h i hi) (by have : ww i = 16 + 20 * i := rfl; omega) hr
theorem JL_upc {I : Nat → Nat → Int32} {J : Nat → Nat → Int64} {c k : Nat} {v : Int32} {a : Nat → Nat → Int} {r : Nat} {t : Nat → Int} {xs : Nat → Nat → Int} (h : JL I J a r t xs) (hc : c < 16 ∨ 75 < c) (hr : r ≤ 16) : JL (mm_up I c k v) J a r t xs := fun i hi => LK_ext (h i hi) (fun d h1 h2 => up_ne I v (by have : ww i = 16 + 20 * i := rfl; omega)) (fun _ _ _ => rfl) hr
theorem LK_WF {I : Nat → Nat → Int32} {J : Nat → Nat → Int64} {b : Nat} {p : Int} {a : Nat → Nat → Int} {r : Nat} {t x : Nat → Int} (h : LK I J b p a r t x) : WF I J b p a r := by
  obtain ⟨h1, h2, h3⟩ := h
  refine ⟨h1, h2, ?_⟩
  rcases h3 with h | ⟨b1, R, l, q1, q2, -⟩
  · exact Or.inl h
  · exact Or.inr ⟨b1, R, l, q1, q2⟩
set_option maxHeartbeats 4000000 in
set_option maxRecDepth 20000 in
theorem sp_judgeOne (L : Nat) (I : Nat → Nat → Int32) (J : Nat → Nat → Int64) (w : Nat → Nat) (T : Nat → Nat → Int) (of : Off) (N m : Nat) (hm : m < N) (hN : N ≤ 20) (hT : CT I T of N) (hX : JX I J T of m) : SP m_Ju_judgeOne [.ref 11, .ref (sumP m), .int (nI m)] (hp L I J w) (fun v h => v = none ∧ ∃ (I' : Nat → Nat → Int32) (J' : Nat → Nat → Int64), FR 11 75 I J I' J' ∧ I' 11 5 = I 11 5 ∧ JX I' J' T of (m + 1) ∧ h = hp L I' J' w) := by
  obtain ⟨x1, x2, x3, x4⟩ := hX
  have hs := isSum_all m (by omega)
  have sp : sumP m = 148 + 3 * m := rfl
  have hr := rk_16 T of m
  unfold SP
  iterate 4 (refine WP.st rfl ?_)
  refine WP.iast (k := m) rfl (rfl) (rfl) (show m < 20 by omega) (rfl) ?_
  iterate 1 (refine WP.st rfl ?_)
  refine WP.get (v := .int (I (sumP m) 2)) rfl rfl (hs.1) (congrArg Value.int (congrFun (up_ne I (0 : Int32) (show sumP m ≠ 14 by omega)) 2)) ?_
  -- verdicts, parts and new ones of the earlier stay
  have keep : ∀ I' : Nat → Nat → Int32, (∀ t, t < m → I' 13 t = I 13 t ∧ I' 14 t = I 14 t) → ∀ t, t < m → I' 13 t = nI (knd T of t) ∧ ptOK I' T of t := fun I' h t ht => ⟨(h t ht).1.trans (x3 t ht).1, by
    have := (x3 t ht).2
    unfold ptOK at this ⊢
    rw [(h t ht).2]
    exact this⟩
  by_cases ho : of m = true
  · have hk : knd T of m = 3 := if_pos ho
    have hoff : I (sumP m) 2 = 1 := by rw [(hT m hm).2, if_pos ho]
    refine WP.iff rfl (show ¬ I (sumP m) 2 = 0 by rw [hoff]; decide) ?_
    iterate 4 (refine WP.st rfl ?_)
    refine WP.iast (k := m) rfl (rfl) (rfl) (show m < 20 by omega) (rfl) ?_
    refine WP.ret rfl ⟨rfl, mm_up (mm_up I 14 m 0) 13 m 3, J, fun c hc => ⟨(up_ne _ _ (by omega)).trans (up_ne I _ (by omega)), rfl⟩, by rw [up_ne _ _ (by decide), up_ne I _ (by decide)], ⟨?_, ?_, ?_, ?_⟩, rfl⟩
    · unfold am
      rw [rk_old (by omega), nos_old (by omega)]
      exact JW_upc (JW_upc x1 (by omega) hr) (by omega) hr
    · rw [rk_old (by omega), up_ne _ _ (by decide), up_ne I _ (by decide)]
      exact x2
    · intro t ht
      by_cases e : t = m
      · subst e
        refine ⟨(mm_up_at _ 13 t 3).trans (by rw [hk]; rfl), fun z => by omega⟩
      · exact keep _ (fun t ht => ⟨(up_nk _ _ (by omega)).trans (congrFun (up_ne I _ (by decide)) t), (congrFun (up_ne _ _ (by decide)) t).trans (up_nk I _ (by omega))⟩) t (by omega)
    · intro q hq
      rw [rk_old (by omega)] at hq
      rw [nos_old (by omega), up_ne _ _ (by decide), up_ne I _ (by decide)]
      exact x4 q hq
  · have hk : knd T of m = kd (am T of m) (rk T of m) (T m) := if_neg ho
    have hoff : I (sumP m) 2 = 0 := by rw [(hT m hm).2, if_neg ho]
    have hT1 : isT (mm_up I 14 m 0) (sumP m) (T m) := isT_ext (hT m hm).1 (up_ne I _ (by omega)) (up_ne I _ (by omega)) (up_ne I _ (by omega))
    refine WP.ift rfl (hoff) ?_
    iterate 5 (refine WP.st rfl ?_)
    rw [show putI (hp L I J w) 14 m (Int32.ofInt 0) = hp L (mm_up I 14 m 0) J w from rfl]
    refine WP.call rfl rfl (sp_weigh L (mm_up I 14 m 0) J w (sumP m) hs (Or.inr (by omega)) (T m) hT1 (rk T of m) hr (am T of m) (JW_upc x1 (by omega) hr) (am_ind T of m) (srt_T hT (by omega) (hT m hm).1)) ?_
    rintro _ _ ⟨rfl, I1, J1, xs, f1, f2, rfl⟩
    rw [← hk]
    have kl := knd_le T of m
    have i11 : I1 11 = I 11 := ((f1 11 (by omega)).1).trans (up_ne I _ (by decide))
    have i13 : I1 13 = I 13 := ((f1 13 (by omega)).1).trans (up_ne I _ (by decide))
    have i14 : I1 14 = mm_up I 14 m 0 14 := (f1 14 (by omega)).1
    have i15 : I1 15 = I 15 := ((f1 15 (by omega)).1).trans (up_ne I _ (by decide))
    have ir : ∀ c, c < 11 ∨ 75 < c → I1 c = I c ∧ J1 c = J c := fun c hc => ⟨((f1 c (by omega)).1).trans (up_ne I _ (by omega)), (f1 c (by omega)).2⟩
    refine WP.iast (k := m) rfl (rfl) (rfl) (show m < 20 by omega) (rfl) ?_
    iterate 3 (refine WP.st rfl ?_)
    refine WP.iald (k := m) rfl (rfl) (Or.inl rfl) (show m < 20 by omega) (rfl) ?_
    have e13 : mm_up I1 13 m (nI (knd T of m)) 13 m = nI (knd T of m) := mm_up_at I1 13 m _
    rw [show hI (putI (hp L I1 J1 w) 13 m (nI (knd T of m))) 13 m = nI (knd T of m) from e13]
    by_cases hz : knd T of m = 0
    · refine WP.ift rfl (show nI (knd T of m) = 0 by rw [hz]; rfl) ?_
      iterate 3 (refine WP.st rfl ?_)
      have hr2 : rk T of m < 16 := by
        have := rk_16 T of (m + 1)
        rw [rk_new hz] at this
        omega
      refine WP.icf rfl (show ¬ nI 16 ≤ mm_up I1 13 m (nI (knd T of m)) 11 4 by rw [up_ne I1 _ (by decide), i11, x2]; exact nI_ge hr2 (by omega)) ?_
      iterate 5 (refine WP.st rfl ?_)
      refine WP.iast (k := rk T of m) rfl (by show mm_up I1 13 m (nI (knd T of m)) 11 4 = _; rw [up_ne I1 _ (by decide), i11]; exact x2) (rfl) (show rk T of m < 16 from hr2) (rfl) ?_
      iterate 1 (refine WP.st rfl ?_)
      rw [show putI (putI (hp L I1 J1 w) 13 m (nI (knd T of m))) 15 (rk T of m) (nI m) = hp L (mm_up (mm_up I1 13 m (nI (knd T of m))) 15 (rk T of m) (nI m)) J1 w from rfl]
      refine WP.call rfl rfl (sp_jadopt L (mm_up (mm_up I1 13 m (nI (knd T of m))) 15 (rk T of m) (nI m)) J1 w (rk T of m) hr2 (am T of m) (T m) xs (JL_upc (JL_upc f2 (by omega) hr) (by omega) hr) (by rw [up_ne _ _ (by decide), up_ne I1 _ (by decide), i11]; exact x2)) ?_
      rintro _ _ ⟨rfl, I2, J2, g1, g2, rfl⟩
      have j13 : I2 13 = mm_up I1 13 m (nI (knd T of m)) 13 := ((g1 13 (by omega)).1).trans (up_ne _ _ (by decide))
      have j14 : I2 14 = mm_up I 14 m 0 14 := ((g1 14 (by omega)).1).trans ((up_ne _ _ (by decide)).trans ((up_ne I1 _ (by decide)).trans i14))
      have j15 : ∀ q, I2 15 q = if q = rk T of m then nI m else I 15 q := fun q => by
        rw [(g1 15 (by omega)).1]
        by_cases e : q = rk T of m
        · rw [if_pos e, e]; exact mm_up_at _ 15 _ _
        · rw [if_neg e]; exact (up_nk _ _ e).trans (by rw [up_ne I1 _ (by decide), i15])
      refine WP.ret rfl ⟨rfl, mm_up I2 11 4 (nI (rk T of m + 1)), J2, fun c hc => ⟨(up_ne I2 _ (by omega)).trans (((g1 c (by omega)).1).trans ((up_ne _ _ (by omega)).trans ((up_ne I1 _ (by omega)).trans (ir c hc).1))), ((g1 c (by omega)).2).trans (ir c hc).2⟩, ?_, ⟨?_, ?_, ?_, ?_⟩, rfl⟩
      · rw [up_nk I2 _ (by decide), (g1 11 (by omega)).1, up_ne _ _ (by decide), up_ne I1 _ (by decide), i11]
      · rw [rk_new hz]
        refine JW_upc (fun i hi => WF_a (by omega) (g2 i hi) (fun q hq => ?_)) (by omega) (by omega)
        unfold beh am
        rw [nos_new hz]
        by_cases e : q < rk T of m
        · rw [if_pos e, if_neg (by omega)]
        · rw [if_neg e, if_pos (by omega)]
      · rw [rk_new hz]
        exact mm_up_at I2 11 4 _
      · intro t ht
        by_cases e : t = m
        · subst e
          refine ⟨by rw [up_ne I2 _ (by decide), j13]; exact mm_up_at I1 13 t _, fun z => by omega⟩
        · exact keep _ (fun t ht => ⟨by rw [up_ne I2 _ (by decide), j13, up_nk I1 _ (by omega), i13], by rw [up_ne I2 _ (by decide), j14, up_nk I _ (by omega)]⟩) t (by omega)
      · intro q hq
        rw [rk_new hz] at hq
        rw [up_ne I2 _ (by decide), j15 q, nos_new hz]
        by_cases e : q = rk T of m
        · rw [if_pos e, if_pos e]
        · rw [if_neg e, if_neg e]
          exact x4 q (by omega)
    · have hnz : ¬ ind 16 (rk T of m + 1) (beh (am T of m) (rk T of m) (T m)) := fun z => hz (by rw [hk, kd_0 z])
      refine WP.iff rfl (show ¬ nI (knd T of m) = 0 from nI_ne0 (by omega) (by omega)) ?_
      iterate 4 (refine WP.st rfl ?_)
      rw [show putI (hp L I1 J1 w) 13 m (nI (knd T of m)) = hp L (mm_up I1 13 m (nI (knd T of m))) J1 w from rfl]
      refine WP.call rfl rfl (sp_parts L (mm_up I1 13 m (nI (knd T of m))) J1 w (rk T of m) hr (am T of m) (T m) xs (JL_upc f2 (by omega) hr) hnz (by rw [up_ne I1 _ (by decide), i11]; exact x2) (nos T of m) (fun q hq => ⟨by rw [up_ne I1 _ (by decide), i15]; exact x4 q hq, by have := nos_lt T of m q hq; omega⟩)) ?_
      rintro _ _ ⟨rfl, b, rfl, hb⟩
      refine WP.iast (k := m) rfl (rfl) (rfl) (show m < 20 by omega) (rfl) ?_
      iterate 1 (refine WP.st rfl ?_)
      refine WP.ret rfl ⟨rfl, mm_up (mm_up I1 13 m (nI (knd T of m))) 14 m b, J1, fun c hc => ⟨(up_ne _ _ (by omega)).trans ((up_ne I1 _ (by omega)).trans (ir c hc).1), (ir c hc).2⟩, ?_, ⟨?_, ?_, ?_, ?_⟩, rfl⟩
      · rw [up_ne _ _ (by decide), up_ne I1 _ (by decide), i11]
      · unfold am
        rw [rk_old hz, nos_old hz]
        exact JW_upc (JW_upc (fun i hi => LK_WF (f2 i hi)) (by omega) hr) (by omega) hr
      · rw [rk_old hz, up_ne _ _ (by decide), up_ne I1 _ (by decide), i11]
        exact x2
      · intro t ht
        by_cases e : t = m
        · subst e
          refine ⟨by rw [up_ne _ _ (by decide)]; exact mm_up_at I1 13 t _, fun _ k hk2 => ?_⟩
          rw [mm_up_at, hb k hk2]
          constructor
          · rintro ⟨q, h1, h2, h3⟩
            exact ⟨q, h1, h2, (jP hr (am_ind T of t) (srt_T hT (by omega) (hT t hm).1) q).mp h3⟩
          · rintro ⟨q, h1, h2, h3⟩
            exact ⟨q, h1, h2, (jP hr (am_ind T of t) (srt_T hT (by omega) (hT t hm).1) q).mpr h3⟩
        · exact keep _ (fun t ht => ⟨by rw [up_ne _ _ (by decide), up_nk I1 _ (by omega), i13], by rw [up_nk _ _ (by omega), up_ne I1 _ (by decide), i14, up_nk I _ (by omega)]⟩) t (by omega)
      · intro q hq
        rw [rk_old hz] at hq
        rw [nos_old hz, up_ne _ _ (by decide), up_ne I1 _ (by decide), i15]
        exact x4 q hq
/-- judged up to some m; the witnesses may have taken in more -/
def JI (I : Nat → Nat → Int32) (J : Nat → Nat → Int64) (T : Nat → Nat → Int) (of : Off) (N : Nat) : Prop := ∃ m, m ≤ N ∧ I 11 5 = nI m ∧ JV I T of m ∧ ∃ a r, r ≤ 16 ∧ rk T of m ≤ r ∧ (m = N → r = rk T of m) ∧ JW I J a r ∧ I 11 4 = nI r ∧ ∀ q, q < rk T of m → a q = am T of m q
theorem hm_rk {f : Nat → Int32} {T : Nat → Nat → Int} {of : Off} : ∀ m, (∀ t, t < m → f t = nI (knd T of t)) → hm f 0 m = rk T of m
  | 0, _ => rfl
  | m + 1, h => by
    show (if f m = 0 then hm f 0 m + 1 else hm f 0 m) = _
    rw [hm_rk m (fun t ht => h t (by omega)), h m (by omega)]
    by_cases e : knd T of m = 0
    · rw [rk_new e, if_pos (by rw [e]; rfl)]
    · rw [rk_old e, if_neg (nI_ne0 (by omega) (by have := knd_le T of m; omega))]
set_option maxHeartbeats 4000000 in
set_option maxRecDepth 20000 in
theorem sp_judgeUpTo (L : Nat) (I : Nat → Nat → Int32) (J : Nat → Nat → Int64) (w : Nat → Nat) (T : Nat → Nat → Int) (of : Off) (N : Nat) (hN : N ≤ 20) (hT : CT I T of N) (hJI : JI I J T of N) : SP m_Ju_judgeUpTo [.ref 11, .ref 4, .int (nI N)] (hp L I J w) (fun v h => v = none ∧ ∃ (I' : Nat → Nat → Int32) (J' : Nat → Nat → Int64), FR 11 75 I J I' J' ∧ JX I' J' T of N ∧ I' 11 5 = nI N ∧ h = hp L I' J' w) := by
  obtain ⟨m, hmN, h5, hV, a, r, r16, hrk, hre, hW, h4, hag⟩ := hJI
  unfold SP
  iterate 3 (refine WP.st rfl ?_)
  by_cases e : m = N
  · subst e
    refine WP.icf rfl (show ¬ I 11 5 < nI m by rw [h5]; exact nI_nlt (Nat.le_refl _) (by omega)) ?_
    have hr := hre rfl
    subst hr
    exact WP.ret rfl ⟨rfl, I, J, FR.refl _ _ _ _, ⟨fun i hi => WF_a r16 (hW i hi) hag, h4, hV⟩, h5, rfl⟩
  · skip
    refine WP.ict rfl (show I 11 5 < nI N by rw [h5]; exact nI_lt (by omega) (by omega)) ?_
    iterate 3 (refine WP.st rfl ?_)
    refine WP.calle rfl rfl (ev_howMany L I J w 0 m (by omega) h5) ?_
    rw [hm_rk (T := T) (of := of) m (fun t ht => (hV.1 t ht).1)]
    refine WP.call rfl rfl (sp_jshrink L I J w r (rk T of m) r16 hrk a hW) ?_
    rintro _ _ ⟨rfl, I1, f1, f2, rfl⟩
    have g11 : I1 11 = mm_up I 11 4 (nI (rk T of m)) 11 := (f1 11 (by omega)).1
    have g5 : I1 11 5 = nI m := by rw [g11, up_nk I _ (by decide)]; exact h5
    iterate 1 (refine WP.st rfl ?_)
    refine WP.get (v := .int (nI m)) rfl rfl (rfl) (congrArg Value.int g5) ?_
    iterate 3 (refine WP.st rfl ?_)
    have ge : ∀ c, c < 11 ∨ (11 < c ∧ c < 16) ∨ 75 < c → I1 c = I c := fun c hc => ((f1 c (by omega)).1).trans (up_ne I _ (by omega))
    have inv0 : JX I1 J T of m := by
      refine ⟨fun i hi => WF_a (by omega) (f2 i hi) hag, by rw [g11]; exact mm_up_at I 11 4 _, ?_⟩
      unfold JV ptOK
      rw [ge 13 (by omega), ge 14 (by omega), ge 15 (by omega)]
      exact hV
    have key := WP.inv (mid := m_Ju_judgeUpTo) (Q := fun v h => v = none ∧ ∃ (I' : Nat → Nat → Int32) (J' : Nat → Nat → Int64), FR 11 75 I J I' J' ∧ JX I' J' T of N ∧ I' 11 5 = nI N ∧ h = hp L I' J' w) (fun i (σ : (Nat → Nat → Int32) × (Nat → Nat → Int64)) => (25, [some (.ref 11), some (.ref 4), some (.int (nI N)), some (.int (nI (m + i)))], [.int (nI N), .int (nI (m + i))], hp L σ.1 σ.2 w, 0, 0)) (fun i σ => FR 11 75 I J σ.1 σ.2 ∧ JX σ.1 σ.2 T of (m + i)) (N - m) (I1, J) ⟨fun c hc => ⟨ge c (by omega), rfl⟩, inv0⟩ (fun i σ hi hv kk => ?_) (fun σ hv => ?_)
    · exact key
    · obtain ⟨I2, J2⟩ := σ
      obtain ⟨v1, v2⟩ := hv
      dsimp only at v1 v2 ⊢
      refine WP.icf rfl (nI_ge (by omega) (by omega)) ?_
      iterate 3 (refine WP.st rfl ?_)
      refine WP.icf rfl (show ¬ nI 20 ≤ nI (m + i) from nI_ge (by omega) (by omega)) ?_
      iterate 3 (refine WP.st rfl ?_)
      refine WP.aald (k := m + i) rfl (rfl) (Or.inl rfl) (show m + i < 20 by omega) (rfl) (RR_sums w (m + i) (by omega)) ?_
      iterate 1 (refine WP.st rfl ?_)
      refine WP.call rfl rfl (sp_judgeOne L I2 J2 w T of N (m + i) (by omega) hN (CT_FR hT v1 (by omega)) v2) ?_
      rintro _ _ ⟨rfl, I3, J3, w1, w2, w3, rfl⟩
      iterate 4 (refine WP.st rfl ?_)
      have kk2 := kk (I3, J3) ⟨v1.trans w1, w3⟩
      rw [show m + (i + 1) = m + i + 1 by omega, nI_succ (m + i)] at kk2
      exact kk2
    · obtain ⟨I2, J2⟩ := σ
      obtain ⟨v1, v2⟩ := hv
      dsimp only at v1 v2 ⊢
      rw [show m + (N - m) = N by omega] at v2 ⊢
      refine WP.ict rfl (nI_le (Nat.le_refl _) (by omega)) ?_
      iterate 3 (refine WP.st rfl ?_)
      refine WP.ret rfl ⟨rfl, mm_up I2 11 5 (nI N), J2, fun c hc => ⟨(up_ne I2 _ (by omega)).trans (v1 c hc).1, (v1 c hc).2⟩, ⟨JW_upc v2.1 (by omega) (rk_16 T of N), (up_nk I2 _ (by decide)).trans v2.2.1, ?_⟩, mm_up_at I2 11 5 _, rfl⟩
      unfold JV ptOK
      rw [up_ne I2 _ (by decide), up_ne I2 _ (by decide), up_ne I2 _ (by decide)]
      exact v2.2.2
theorem JX_JI {I : Nat → Nat → Int32} {J : Nat → Nat → Int64} {T : Nat → Nat → Int} {of : Off} {N : Nat} (h : JX I J T of N) (h5 : I 11 5 = nI N) : JI I J T of N := ⟨N, Nat.le_refl N, h5, h.2.2, am T of N, rk T of N, rk_16 T of N, Nat.le_refl _, fun _ => rfl, h.1, h.2.1, fun _ _ => rfl⟩
