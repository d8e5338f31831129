/-! the code words of the methods, by their places; what each method decodes to -/
def mm_yy (mid : Nat) : MethodName := mm_y.getD mid ⟨"", "", ""⟩
def mm_bb (mid : Nat) : ByteArray := mm_b.getD mid code
def mm_rt (r : Nat) : Option FieldType := match r with
  | 0 => none
  | 1 => some .int
  | 2 => some .boolean
  | _ => some .long
def mm_cw (mid : Nat) : Jvm.Cond := .code (mm_yy mid) (mm_bb mid) (mi_l (mm_of mid)) (mm_rt (mi_r (mm_of mid)))
set_option maxRecDepth 200000 in
theorem kw_0 : ([0, 1, 2, 3, 4, 5, 6, 7, 8, 9, 10, 11, 12, 13, 14, 15, 16, 17, 18, 19] : List Nat).map mm_cw = ([123, 422, 426, 434, 550, 438, 441, 445, 450, 454, 459, 463, 467, 368, 400, 372, 157, 473, 499, 506] : List Nat).filterMap (fun i => tables_1[i]?) := by rfl
set_option maxRecDepth 200000 in
theorem kw_1 : ([20, 21, 22, 23, 24, 25, 26, 27, 28, 29, 30, 31, 32, 33, 34, 35, 36, 37, 38, 39] : List Nat).map mm_cw = ([694, 195, 584, 610, 581, 588, 596, 606, 592, 630, 651, 655, 659, 688, 163, 477, 481, 61, 318, 333] : List Nat).filterMap (fun i => tables_1[i]?) := by rfl
set_option maxRecDepth 200000 in
theorem kw_2 : ([40, 41, 42, 43, 44, 45, 46, 47, 48, 49, 50, 51, 52, 53, 54, 55, 56, 57, 58, 59] : List Nat).map mm_cw = ([349, 337, 353, 380, 388, 341, 487, 494, 516, 490, 519, 502, 512, 522, 525, 28, 290, 310, 314, 683] : List Nat).filterMap (fun i => tables_1[i]?) := by rfl
set_option maxRecDepth 200000 in
theorem kw_3 : ([60, 61, 62, 63, 64, 65, 66, 67, 68, 69, 70, 71, 72, 73, 74, 75, 76, 77, 78, 79] : List Nat).map mm_cw = ([70, 357, 361, 365, 376, 392, 397, 345, 384, 19, 261, 275, 283, 294, 325, 329, 404, 408, 413, 530] : List Nat).filterMap (fun i => tables_1[i]?) := by rfl
set_option maxRecDepth 200000 in
theorem kw_4 : ([80, 81, 82, 83, 84, 85, 86, 87, 88, 89, 90, 91, 92, 93, 94, 95, 96, 97, 98, 99] : List Nat).map mm_cw = ([534, 538, 542, 546, 554, 564, 569, 573, 614, 622, 626, 634, 639, 643, 647, 663, 668, 676, 267, 264] : List Nat).filterMap (fun i => tables_1[i]?) := by rfl
set_option maxRecDepth 200000 in
theorem kw_5 : ([100, 101, 102, 103, 104, 105, 106, 107, 108, 109, 110, 111, 112, 113, 114, 115, 116, 117, 118, 119] : List Nat).map mm_cw = ([286, 279, 577, 306, 298, 618, 271, 302, 672, 418, 558, 430, 701, 806, 801, 814, 810, 824, 818, 832] : List Nat).filterMap (fun i => tables_1[i]?) := by rfl
set_option maxRecDepth 200000 in
theorem kw_6 : ([120, 121, 122, 123, 124, 125, 126, 127, 128, 129, 130, 131, 132, 133, 134, 135, 136, 137, 138, 139] : List Nat).map mm_cw = ([836, 828, 842, 872, 865, 862, 869, 858, 854, 850, 846, 876, 884, 880, 896, 904, 900, 892, 912, 921] : List Nat).filterMap (fun i => tables_1[i]?) := by rfl
set_option maxRecDepth 200000 in
theorem kw_7 : ([140, 141, 142, 143, 144, 145, 146, 147, 148, 149, 150, 151, 152, 153, 154, 155, 156, 157, 158, 159] : List Nat).map mm_cw = ([916, 929, 925, 933, 908, 941, 937, 888, 946, 950, 954, 958, 962, 966, 970, 974, 982, 978, 994, 990] : List Nat).filterMap (fun i => tables_1[i]?) := by rfl
set_option maxRecDepth 200000 in
theorem kw_8 : ([160, 161, 162, 163, 164, 165, 166, 167, 168, 169, 170, 171, 172, 173, 174, 175, 176] : List Nat).map mm_cw = ([986, 998, 1002, 1014, 1010, 1006, 1019, 1023, 1035, 1031, 1027, 1039, 1043, 1054, 1059, 1047, 599] : List Nat).filterMap (fun i => tables_1[i]?) := by rfl
theorem kw_in : ∀ mid, mid < 178 → mid ≠ 177 → mm_cw mid ∈ tables_1 := by
  intro mid h hne
  have key : ∀ (l ps : List Nat), l.map mm_cw = ps.filterMap (fun i => tables_1[i]?) → mid ∈ l → mm_cw mid ∈ tables_1 := by
    intro l ps e hm
    have h1 : mm_cw mid ∈ l.map mm_cw := List.mem_map_of_mem hm
    rw [e] at h1
    obtain ⟨i, -, hi⟩ := List.mem_filterMap.mp h1
    exact List.mem_of_getElem? hi
  by_cases h0 : mid < 20
  · exact key _ _ kw_0 (by simp only [List.mem_cons, List.not_mem_nil, or_false]; omega)
  by_cases h1 : mid < 40
  · exact key _ _ kw_1 (by simp only [List.mem_cons, List.not_mem_nil, or_false]; omega)
  by_cases h2 : mid < 60
  · exact key _ _ kw_2 (by simp only [List.mem_cons, List.not_mem_nil, or_false]; omega)
  by_cases h3 : mid < 80
  · exact key _ _ kw_3 (by simp only [List.mem_cons, List.not_mem_nil, or_false]; omega)
  by_cases h4 : mid < 100
  · exact key _ _ kw_4 (by simp only [List.mem_cons, List.not_mem_nil, or_false]; omega)
  by_cases h5 : mid < 120
  · exact key _ _ kw_5 (by simp only [List.mem_cons, List.not_mem_nil, or_false]; omega)
  by_cases h6 : mid < 140
  · exact key _ _ kw_6 (by simp only [List.mem_cons, List.not_mem_nil, or_false]; omega)
  by_cases h7 : mid < 160
  · exact key _ _ kw_7 (by simp only [List.mem_cons, List.not_mem_nil, or_false]; omega)
  by_cases h8 : mid < 178
  · exact key _ _ kw_8 (by simp only [List.mem_cons, List.not_mem_nil, or_false]; omega)
  omega
