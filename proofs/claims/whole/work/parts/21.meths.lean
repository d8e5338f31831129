def ck_y1 (mid : Nat) (q : Nat × Nat) : Bool := decide ((mm_yy mid).cls ≠ "java/lang/invoke/MethodHandle") && decide ((mm_yy mid).cls ≠ "java/lang/invoke/VarHandle") && decide ((parseMethodDescriptor (mm_yy mid).desc).map (fun d => d.parameters.length) = some (mi_n (mm_of mid))) && decide ((mm_yy mid).cls = mm_on (mi_c (mm_of mid))) && plainName (mm_yy mid).cls
  && (if mi_s (mm_of mid) = 1 then decide (tables_1[q.1]? = some (Jvm.Cond.static (mm_yy mid))) else decide (tables_1[q.1]? = some (Jvm.Cond.instanceMethod (mm_yy mid))) && (if mm_ini mid = true then decide ((mm_yy mid).name = "<init>") && decide (mi_r (mm_of mid) = 0) else decide (lw_tbl[q.2]? = some (Jvm.Cond.selects (mm_yy mid).cls (mm_yy mid) (mm_yy mid)))))
def ck_y2 (k : Nat) : List (Nat × Nat) → Bool
  | [] => true
  | q :: p => ck_y1 k q && ck_y2 (k + 1) p
theorem ck_y2_mem : ∀ (l : List (Nat × Nat)) (k : Nat), ck_y2 k l = true → ∀ j, j < l.length → ∃ q, ck_y1 (k + j) q = true
  | [], _, _, j, h => absurd h (Nat.not_lt_zero j)
  | q :: p, k, hc, j, h => by
    rw [ck_y2, Bool.and_eq_true] at hc
    cases j with
    | zero => exact ⟨q, hc.1⟩
    | succ j =>
      rw [show k + (j + 1) = k + 1 + j by omega]
      exact ck_y2_mem p (k + 1) hc.2 j (by simpa using h)
def kp_y0 : List (Nat × Nat) := [(122, 0), (420, 483), (424, 487), (432, 495), (548, 611), (437, 12), (440, 0), (443, 506), (449, 13), (453, 14), (458, 15), (462, 16), (466, 17), (367, 0), (399, 0), (371, 0), (156, 0), (471, 534), (498, 19), (505, 20), (692, 755), (194, 0), (583, 0), (609, 25), (579, 642), (586, 649), (595, 23), (605, 24), (590, 653), (628, 691)]
theorem ck_ys0 : ck_y2 0 kp_y0 = true := by decide +kernel
def kp_y1 : List (Nat × Nat) := [(649, 712), (654, 27), (658, 28), (686, 749), (162, 0), (475, 538), (480, 18), (60, 0), (316, 379), (331, 394), (348, 5), (335, 398), (351, 414), (379, 8), (386, 449), (339, 402), (486, 0), (493, 0), (515, 0), (489, 0), (518, 0), (501, 0), (511, 0), (521, 0), (524, 0), (27, 0), (288, 351), (308, 371), (312, 375), (681, 744)]
theorem ck_ys1 : ck_y2 30 kp_y1 = true := by decide +kernel
def kp_y2 : List (Nat × Nat) := [(69, 0), (355, 418), (359, 422), (364, 6), (375, 7), (390, 453), (396, 9), (343, 406), (382, 445), (18, 0), (259, 322), (273, 336), (281, 344), (292, 355), (323, 386), (327, 390), (402, 465), (406, 469), (411, 474), (528, 591), (532, 595), (536, 599), (540, 603), (544, 607), (552, 615), (562, 625), (567, 630), (571, 634), (612, 675), (620, 683)]
theorem ck_ys2 : ck_y2 60 kp_y2 = true := by decide +kernel
def kp_y3 : List (Nat × Nat) := [(624, 687), (632, 695), (637, 700), (641, 704), (645, 708), (661, 724), (666, 729), (674, 737), (266, 0), (263, 0), (285, 0), (278, 1), (576, 22), (305, 4), (297, 2), (617, 26), (270, 0), (301, 3), (671, 29), (417, 10), (557, 21), (429, 11), (700, 0), (805, 0), (799, 862), (813, 30), (808, 871), (823, 31), (816, 879), (831, 32)]
theorem ck_ys3 : ck_y2 90 kp_y3 = true := by decide +kernel
def kp_y4 : List (Nat × Nat) := [(835, 33), (826, 889), (840, 903), (871, 0), (864, 0), (861, 37), (868, 38), (857, 36), (853, 35), (849, 34), (844, 907), (874, 937), (883, 39), (878, 941), (895, 41), (903, 43), (899, 42), (891, 40), (911, 45), (920, 47), (915, 46), (928, 49), (924, 48), (932, 50), (907, 44), (940, 52), (936, 51), (886, 949), (944, 1007), (948, 1011)]
theorem ck_ys4 : ck_y2 120 kp_y4 = true := by decide +kernel
def kp_y5 : List (Nat × Nat) := [(952, 1015), (956, 1019), (960, 1023), (964, 1027), (968, 1031), (972, 1035), (981, 53), (976, 1039), (993, 55), (989, 54), (984, 1047), (996, 1059), (1000, 1063), (1013, 57), (1009, 56), (1004, 1067), (1017, 1080), (1021, 1084), (1034, 59), (1030, 58), (1025, 1088), (1037, 1100), (1041, 1104), (1053, 60), (1058, 61), (1045, 1108), (598, 0)]
theorem ck_ys5 : ck_y2 150 kp_y5 = true := by decide +kernel
theorem ck_ys : ∀ mid, mid < 177 → ∃ q, ck_y1 mid q = true := by
  intro mid h
  by_cases h0 : mid < 30
  · obtain ⟨j, rfl⟩ : ∃ j, mid = 0 + j := ⟨mid - 0, by omega⟩
    exact ck_y2_mem kp_y0 0 ck_ys0 j (Nat.lt_of_lt_of_eq (show j < 30 by omega) rfl)
  by_cases h1 : mid < 60
  · obtain ⟨j, rfl⟩ : ∃ j, mid = 30 + j := ⟨mid - 30, by omega⟩
    exact ck_y2_mem kp_y1 30 ck_ys1 j (Nat.lt_of_lt_of_eq (show j < 30 by omega) rfl)
  by_cases h2 : mid < 90
  · obtain ⟨j, rfl⟩ : ∃ j, mid = 60 + j := ⟨mid - 60, by omega⟩
    exact ck_y2_mem kp_y2 60 ck_ys2 j (Nat.lt_of_lt_of_eq (show j < 30 by omega) rfl)
  by_cases h3 : mid < 120
  · obtain ⟨j, rfl⟩ : ∃ j, mid = 90 + j := ⟨mid - 90, by omega⟩
    exact ck_y2_mem kp_y3 90 ck_ys3 j (Nat.lt_of_lt_of_eq (show j < 30 by omega) rfl)
  by_cases h4 : mid < 150
  · obtain ⟨j, rfl⟩ : ∃ j, mid = 120 + j := ⟨mid - 120, by omega⟩
    exact ck_y2_mem kp_y4 120 ck_ys4 j (Nat.lt_of_lt_of_eq (show j < 30 by omega) rfl)
  by_cases h5 : mid < 177
  · obtain ⟨j, rfl⟩ : ∃ j, mid = 150 + j := ⟨mid - 150, by omega⟩
    exact ck_y2_mem kp_y5 150 ck_ys5 j (Nat.lt_of_lt_of_eq (show j < 27 by omega) rfl)
  omega
theorem ck_ini : (mm_cn.take 15).all (fun c => decide (Jvm.Cond.initialized c ∈ tables_1)) = true := by decide +kernel
