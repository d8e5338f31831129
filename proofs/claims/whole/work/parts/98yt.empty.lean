/-! the empty state, on both sides -/
def S0 : St := ((0, fun _ => 0), (0, fun _ _ => 0, fun _ => false, fun _ => 0, fun _ _ => 0, fun _ _ => 0), (0, 0, 1), (0, fun _ => 0, fun _ => 0))
theorem zI_z : zI 0 = 0 := by decide
theorem zJ_z : zJ 0 = 0 := by decide
theorem dg_z (i : Nat) : dg 0 i = 0 := by unfold dg; rw [Nat.zero_div, Nat.zero_mod]
theorem dg_1 (i : Nat) : zJ (dg 1 i) = if i = 0 then zJ 1 else 0 := by
  unfold dg
  by_cases e : i = 0
  · subst e; rfl
  · rw [if_neg e, Nat.div_eq_of_lt (Nat.one_lt_pow e (by decide))]
    rfl
theorem rowOK_0 : rowOK 0 (fun _ => 0) (fun _ => 0) (fun _ => 0) := ⟨by decide, by decide, fun k hk => absurd hk (Nat.not_lt_zero k), fun j k _ hk => absurd hk (Nat.not_lt_zero k), fun c _ _ => rfl⟩
theorem tgt_0 (ba bb : Nat → Nat) (s : Nat) : ¬ tgt ba bb 0 s := by
  intro h
  have e : ∀ m, cn ba bb (nwb ba bb 0) s m = 0 := fun m => by
    induction m with
    | zero => rfl
    | succ m ih =>
      show cn ba bb (nwb ba bb 0) s m + (if (false && inB (ba m) (bb m) s) = true then 1 else 0) = 0
      rw [ih]; rfl
  have h2 := h.2
  rw [e 21] at h2
  have h1 := h.1
  omega
theorem CI_0 {I : Nat → Nat → Int32} {J : Nat → Nat → Int64} (z : Z0 I J) : CI I J w0 S0 := by
  obtain ⟨zi, zj, z1, z2, z3, z4, z5⟩ := z
  refine ⟨⟨zi 2 (by decide) (by decide) rfl 1, by decide, fun c hc => ⟨(zi 3 (by decide) (by decide) rfl c).trans zI_z.symm, (show (-1000 : Int) ≤ 0 by decide), (show (0 : Int) ≤ 1000 by decide)⟩⟩, ⟨zi 2 (by decide) (by decide) rfl 3, by decide, fun t ht => absurd ht (Nat.not_lt_zero t), fun t ht => ?_, fun t ht => rfl, ?_, ?_⟩, ⟨⟨fun k hk => ?_, fun j k hj hk e => ?_⟩, z5⟩, ⟨zi 134 (by decide) (by decide) rfl 0, fun i hi => ?_, fun i hi => ?_, by decide, by decide⟩, ?_⟩
  · have e : sumP t = 148 + 3 * t := rfl
    refine (zi (sumP t) (by omega) (by omega) ?_ 2).trans rfl
    have : ∀ t, t < 20 → ckI (sumP t) = false := by decide
    exact this t ht
  · refine ⟨0, by decide, zi 11 (by decide) (by decide) rfl 5, ⟨fun t ht => absurd ht (Nat.not_lt_zero t), fun q hq => absurd hq (Nat.not_lt_zero q)⟩, fun _ _ => 0, 0, by decide, Nat.le_refl _, fun _ => rfl, fun i hi => ?_, zi 11 (by decide) (by decide) rfl 4, fun q hq => absurd hq (Nat.not_lt_zero q)⟩
    obtain ⟨g1, g2, g3⟩ := z2 i hi
    refine ⟨g3, g1, Or.inr ⟨g2, fun _ _ => 0, fun _ => 0, ?_, ?_⟩⟩
    · exact ⟨fun i hi => absurd hi (Nat.not_lt_zero i), fun i hi => absurd hi (Nat.not_lt_zero i), fun i hi => absurd hi (Nat.not_lt_zero i), fun i j _ hj => absurd hj (Nat.not_lt_zero j), fun i hi => absurd hi (Nat.not_lt_zero i), fun i hi => absurd hi (Nat.not_lt_zero i), fun i hi => absurd hi (Nat.not_lt_zero i)⟩
    · exact ⟨fun i hi => absurd hi (Nat.not_lt_zero i), fun i hi => absurd hi (Nat.not_lt_zero i)⟩
  · exact ⟨(zi 5 (by decide) (by decide) rfl 0).trans zI_z.symm, by decide, by decide, zi 5 (by decide) (by decide) rfl 1, fun k hk => absurd hk (Nat.not_lt_zero k), fun j k _ hk => absurd hk (Nat.not_lt_zero k), fun c _ _ => rfl⟩
  · show 114 ≤ 114 + k ∧ 114 + k ≤ 130
    omega
  · have e' : 114 + j = 114 + k := e
    omega
  · rw [zj 135 (by decide) (by decide) rfl i]
    show (0 : Int64) = zJ (dg 0 i)
    rw [dg_z]; rfl
  · rw [z4 i]
    exact (dg_1 i).symm
  · refine ⟨zi 141 (by decide) (by decide) rfl 1, by decide, fun k hk => absurd hk (Nat.not_lt_zero k), zi 141 (by decide) (by decide) rfl 2, fun s hs => ?_⟩
    rw [zi 147 (by decide) (by decide) rfl s]
    exact (bI_f (tgt_0 _ _ s)).symm
theorem RI_0 {I : Nat → Nat → Int32} {J : Nat → Nat → Int64} (z : Z0 I J) : RI I J S0 := by
  obtain ⟨zi, zj, z1, z2, z3, z4, z5⟩ := z
  refine ⟨⟨zi 208 (by decide) (by decide) rfl 0, by decide, fun c hc => ⟨(zi 209 (by decide) (by decide) rfl c).trans zI_z.symm, (show (-1000 : Int) ≤ 0 by decide), (show (0 : Int) ≤ 1000 by decide)⟩⟩, ⟨zi 208 (by decide) (by decide) rfl 2, by decide, fun t ht => absurd ht (Nat.not_lt_zero t), fun t ht => zi 214 (by decide) (by decide) rfl t, fun t ht => rfl, ?_⟩, ⟨⟨fun i => i, fun i hi => ⟨z1 i hi, hi⟩, fun i j _ _ e => e⟩, fun _ _ => 0, fun i hi j hj => ⟨(zj 221 (by decide) (by decide) rfl _).trans zJ_z.symm, (show (0 : Int) ≤ 0 by decide), (show (0 : Int) < 2 ^ 30 by decide)⟩⟩, ⟨zi 208 (by decide) (by decide) rfl 25, fun i hi => ?_, fun i hi => ?_, by decide, by decide⟩, ?_⟩
  · exact ⟨fun c hc => (zi 210 (by decide) (by decide) rfl _).trans zI_z.symm, zi 211 (by decide) (by decide) rfl 20, fun k hk => absurd hk (Nat.not_lt_zero k), rowOK_0⟩
  · rw [z3, if_neg (by omega)]
    show (0 : Int64) = zJ (dg 0 i)
    rw [dg_z]; rfl
  · rw [z3]
    show _ = zJ (dg 1 i)
    rw [dg_1]
    by_cases e : i = 0
    · rw [if_pos e, if_pos (by omega)]
    · rw [if_neg e, if_neg (by omega)]
  · exact ⟨fun _ => 0, fun _ => 0, ⟨zi 208 (by decide) (by decide) rfl 10, by decide, fun k hk => absurd hk (Nat.not_lt_zero k), fun k hk => ⟨zi 216 (by decide) (by decide) rfl k, (show 0 < 8 by decide), zi 217 (by decide) (by decide) rfl k, (show 0 < 8 by decide)⟩⟩, fun k hk => absurd hk (Nat.not_lt_zero k)⟩
