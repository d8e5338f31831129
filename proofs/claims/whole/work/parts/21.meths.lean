def ck_y1 (mid : Nat) (q : Nat × Nat) : Bool := decide ((mm_yy mid).cls ≠ "java/lang/invoke/MethodHandle") && decide ((mm_yy mid).cls ≠ "java/lang/invoke/VarHandle") && decide ((parseMethodDescriptor (mm_yy mid).desc).map (fun d => d.parameters.length) = some (mi_n (mm_of mid))) && decide ((mm_yy mid).cls = mm_on (mi_c (mm_of mid))) && plainName (mm_yy mid).cls
  && (if mi_s (mm_of mid) = 1 then decide (tables_1[q.1]? = some (Jvm.Cond.static (mm_yy mid))) else decide (tables_1[q.1]? = some (Jvm.Cond.instanceMethod (mm_yy mid))) && (if mm_ini mid = true then decide ((mm_yy mid).name = "<init>") && decide (mi_r (mm_of mid) = 0) else decide (lw_tbl[q.2]? = some (Jvm.Cond.selects (mm_yy mid).cls (mm_yy mid) (mm_yy mid)))))
def ck_y2 (k : Nat) : List (Nat × Nat) → Bool
  | [] => true
  | q :: p => ck_y1 k q && ck_y2 (k + 1) p
theorem ck_y2_mem : ∀ (l : List (Nat × Nat)) (k : Nat), ck_y2 k l = true → ∀ j, j < l.length → ∃ q, ck_y1 (k + j) q = true
  | [], _, _, j, h => absurd h (Nat.not_lt_zero j)
  | q :: p, k, hc, j, h => by
    rw [ck_y2, Bool.and_eq_true] at hc
    cases j with
    | zero => exact ⟨q, hc.1⟩
    | succ j =>
      rw [show k + (j + 1) = k + 1 + j by omega]
      exact ck_y2_mem p (k + 1) hc.2 j (by simpa using h)
def kp_y0 : List (Nat × Nat) := [(122, 0), (417, 481), (421, 485), (429, 493), (545, 609), (434, 12), (437, 0), (440, 504), (446, 13), (450, 14), (455, 15), (459, 16), (463, 17), (364, 0), (396, 0), (368, 0), (156, 0), (468, 532), (495, 19), (502, 20), (693, 757), (194, 0), (584, 0), (581, 23), (610, 26), (576, 640), (587, 651), (596, 24), (606, 25), (591, 655)]
theorem ck_ys0 : ck_y2 0 kp_y0 = true := by decide +kernel
def kp_y1 : List (Nat × Nat) := [(629, 693), (650, 714), (655, 28), (659, 29), (687, 751), (162, 0), (472, 536), (477, 18), (60, 0), (313, 377), (328, 392), (345, 5), (332, 396), (348, 412), (376, 8), (383, 447), (336, 400), (483, 0), (490, 0), (512, 0), (486, 0), (515, 0), (498, 0), (508, 0), (518, 0), (521, 0), (27, 0), (285, 349), (305, 369), (309, 373)]
theorem ck_ys1 : ck_y2 30 kp_y1 = true := by decide +kernel
def kp_y2 : List (Nat × Nat) := [(682, 746), (69, 0), (352, 416), (356, 420), (361, 6), (372, 7), (387, 451), (393, 9), (340, 404), (379, 443), (18, 0), (256, 320), (270, 334), (278, 342), (289, 353), (320, 384), (324, 388), (399, 463), (403, 467), (408, 472), (525, 589), (529, 593), (533, 597), (537, 601), (541, 605), (549, 613), (559, 623), (564, 628), (568, 632), (613, 677)]
theorem ck_ys2 : ck_y2 60 kp_y2 = true := by decide +kernel
def kp_y3 : List (Nat × Nat) := [(621, 685), (625, 689), (633, 697), (638, 702), (642, 706), (646, 710), (662, 726), (667, 731), (675, 739), (263, 0), (260, 0), (282, 0), (275, 1), (573, 22), (302, 4), (294, 2), (618, 27), (267, 0), (298, 3), (672, 30), (414, 10), (554, 21), (426, 11), (701, 0), (806, 0), (800, 864), (814, 31), (809, 873), (824, 32), (817, 881)]
theorem ck_ys3 : ck_y2 90 kp_y3 = true := by decide +kernel
def kp_y4 : List (Nat × Nat) := [(832, 33), (836, 34), (827, 891), (841, 905), (872, 0), (865, 0), (862, 38), (869, 39), (858, 37), (854, 36), (850, 35), (845, 909), (875, 939), (884, 40), (879, 943), (896, 42), (904, 44), (900, 43), (892, 41), (912, 46), (921, 48), (916, 47), (929, 50), (925, 49), (933, 51), (908, 45), (941, 53), (937, 52), (887, 951), (945, 1009)]
theorem ck_ys4 : ck_y2 120 kp_y4 = true := by decide +kernel
def kp_y5 : List (Nat × Nat) := [(949, 1013), (953, 1017), (957, 1021), (961, 1025), (965, 1029), (969, 1033), (973, 1037), (982, 54), (977, 1041), (994, 56), (990, 55), (985, 1049), (997, 1061), (1001, 1065), (1014, 58), (1010, 57), (1005, 1069), (1018, 1082), (1022, 1086), (1035, 60), (1031, 59), (1026, 1090), (1038, 1102), (1042, 1106), (1054, 61), (1059, 62), (1046, 1110), (599, 0)]
theorem ck_ys5 : ck_y2 150 kp_y5 = true := by decide +kernel
theorem ck_ys : ∀ mid, mid < 178 → ∃ q, ck_y1 mid q = true := by
  intro mid h
  by_cases h0 : mid < 30
  · obtain ⟨j, rfl⟩ : ∃ j, mid = 0 + j := ⟨mid - 0, by omega⟩
    exact ck_y2_mem kp_y0 0 ck_ys0 j (Nat.lt_of_lt_of_eq (show j < 30 by omega) rfl)
  by_cases h1 : mid < 60
  · obtain ⟨j, rfl⟩ : ∃ j, mid = 30 + j := ⟨mid - 30, by omega⟩
    exact ck_y2_mem kp_y1 30 ck_ys1 j (Nat.lt_of_lt_of_eq (show j < 30 by omega) rfl)
  by_cases h2 : mid < 90
  · obtain ⟨j, rfl⟩ : ∃ j, mid = 60 + j := ⟨mid - 60, by omega⟩
    exact ck_y2_mem kp_y2 60 ck_ys2 j (Nat.lt_of_lt_of_eq (show j < 30 by omega) rfl)
  by_cases h3 : mid < 120
  · obtain ⟨j, rfl⟩ : ∃ j, mid = 90 + j := ⟨mid - 90, by omega⟩
    exact ck_y2_mem kp_y3 90 ck_ys3 j (Nat.lt_of_lt_of_eq (show j < 30 by omega) rfl)
  by_cases h4 : mid < 150
  · obtain ⟨j, rfl⟩ : ∃ j, mid = 120 + j := ⟨mid - 120, by omega⟩
    exact ck_y2_mem kp_y4 120 ck_ys4 j (Nat.lt_of_lt_of_eq (show j < 30 by omega) rfl)
  by_cases h5 : mid < 178
  · obtain ⟨j, rfl⟩ : ∃ j, mid = 150 + j := ⟨mid - 150, by omega⟩
    exact ck_y2_mem kp_y5 150 ck_ys5 j (Nat.lt_of_lt_of_eq (show j < 28 by omega) rfl)
  omega
theorem ck_ini : (mm_cn.take 15).all (fun c => decide (Jvm.Cond.initialized c ∈ tables_1)) = true := by decide +kernel
