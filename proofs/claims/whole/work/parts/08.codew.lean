/-! the code words of the methods, by their places; what each method decodes to -/
def mm_yy (mid : Nat) : MethodName := mm_y.getD mid ⟨"", "", ""⟩
def mm_bb (mid : Nat) : ByteArray := mm_b.getD mid code
def mm_rt (r : Nat) : Option FieldType := match r with
  | 0 => none
  | 1 => some .int
  | 2 => some .boolean
  | _ => some .long
def mm_cw (mid : Nat) : Jvm.Cond := .code (mm_yy mid) (mm_bb mid) (mi_l (mm_of mid)) (mm_rt (mi_r (mm_of mid)))
set_option maxRecDepth 200000 in
theorem kw_0 : ([0, 1, 2, 3, 4, 5, 6, 7, 8, 9, 10, 11, 12, 13, 14, 15, 16, 17, 18, 19] : List Nat).map mm_cw = ([123, 419, 423, 431, 547, 435, 438, 442, 447, 451, 456, 460, 464, 365, 397, 369, 157, 470, 496, 503] : List Nat).filterMap (fun i => tables_1[i]?) := by rfl
set_option maxRecDepth 200000 in
theorem kw_1 : ([20, 21, 22, 23, 24, 25, 26, 27, 28, 29, 30, 31, 32, 33, 34, 35, 36, 37, 38, 39] : List Nat).map mm_cw = ([695, 195, 585, 582, 611, 578, 589, 597, 607, 593, 631, 652, 656, 660, 689, 163, 474, 478, 61, 315] : List Nat).filterMap (fun i => tables_1[i]?) := by rfl
set_option maxRecDepth 200000 in
theorem kw_2 : ([40, 41, 42, 43, 44, 45, 46, 47, 48, 49, 50, 51, 52, 53, 54, 55, 56, 57, 58, 59] : List Nat).map mm_cw = ([330, 346, 334, 350, 377, 385, 338, 484, 491, 513, 487, 516, 499, 509, 519, 522, 28, 287, 307, 311] : List Nat).filterMap (fun i => tables_1[i]?) := by rfl
set_option maxRecDepth 200000 in
theorem kw_3 : ([60, 61, 62, 63, 64, 65, 66, 67, 68, 69, 70, 71, 72, 73, 74, 75, 76, 77, 78, 79] : List Nat).map mm_cw = ([684, 70, 354, 358, 362, 373, 389, 394, 342, 381, 19, 258, 272, 280, 291, 322, 326, 401, 405, 410] : List Nat).filterMap (fun i => tables_1[i]?) := by rfl
set_option maxRecDepth 200000 in
theorem kw_4 : ([80, 81, 82, 83, 84, 85, 86, 87, 88, 89, 90, 91, 92, 93, 94, 95, 96, 97, 98, 99] : List Nat).map mm_cw = ([527, 531, 535, 539, 543, 551, 561, 566, 570, 615, 623, 627, 635, 640, 644, 648, 664, 669, 677, 264] : List Nat).filterMap (fun i => tables_1[i]?) := by rfl
set_option maxRecDepth 200000 in
theorem kw_5 : ([100, 101, 102, 103, 104, 105, 106, 107, 108, 109, 110, 111, 112, 113, 114, 115, 116, 117, 118, 119] : List Nat).map mm_cw = ([261, 283, 276, 574, 303, 295, 619, 268, 299, 673, 415, 555, 427, 702, 807, 802, 815, 811, 825, 819] : List Nat).filterMap (fun i => tables_1[i]?) := by rfl
set_option maxRecDepth 200000 in
theorem kw_6 : ([120, 121, 122, 123, 124, 125, 126, 127, 128, 129, 130, 131, 132, 133, 134, 135, 136, 137, 138, 139] : List Nat).map mm_cw = ([833, 837, 829, 843, 873, 866, 863, 870, 859, 855, 851, 847, 877, 885, 881, 897, 905, 901, 893, 913] : List Nat).filterMap (fun i => tables_1[i]?) := by rfl
set_option maxRecDepth 200000 in
theorem kw_7 : ([140, 141, 142, 143, 144, 145, 146, 147, 148, 149, 150, 151, 152, 153, 154, 155, 156, 157, 158, 159] : List Nat).map mm_cw = ([922, 917, 930, 926, 934, 909, 942, 938, 889, 947, 951, 955, 959, 963, 967, 971, 975, 983, 979, 995] : List Nat).filterMap (fun i => tables_1[i]?) := by rfl
set_option maxRecDepth 200000 in
theorem kw_8 : ([160, 161, 162, 163, 164, 165, 166, 167, 168, 169, 170, 171, 172, 173, 174, 175, 176, 177] : List Nat).map mm_cw = ([991, 987, 999, 1003, 1015, 1011, 1007, 1020, 1024, 1036, 1032, 1028, 1040, 1044, 1055, 1060, 1048, 600] : List Nat).filterMap (fun i => tables_1[i]?) := by rfl
theorem kw_in : ∀ mid, mid < 179 → mid ≠ 178 → mm_cw mid ∈ tables_1 := by
  intro mid h hne
  have key : ∀ (l ps : List Nat), l.map mm_cw = ps.filterMap (fun i => tables_1[i]?) → mid ∈ l → mm_cw mid ∈ tables_1 := by
    intro l ps e hm
    have h1 : mm_cw mid ∈ l.map mm_cw := List.mem_map_of_mem hm
    rw [e] at h1
    obtain ⟨i, -, hi⟩ := List.mem_filterMap.mp h1
    exact List.mem_of_getElem? hi
  by_cases h0 : mid < 20
  · exact key _ _ kw_0 (by simp only [List.mem_cons, List.not_mem_nil, or_false]; omega)
  by_cases h1 : mid < 40
  · exact key _ _ kw_1 (by simp only [List.mem_cons, List.not_mem_nil, or_false]; omega)
  by_cases h2 : mid < 60
  · exact key _ _ kw_2 (by simp only [List.mem_cons, List.not_mem_nil, or_false]; omega)
  by_cases h3 : mid < 80
  · exact key _ _ kw_3 (by simp only [List.mem_cons, List.not_mem_nil, or_false]; omega)
  by_cases h4 : mid < 100
  · exact key _ _ kw_4 (by simp only [List.mem_cons, List.not_mem_nil, or_false]; omega)
  by_cases h5 : mid < 120
  · exact key _ _ kw_5 (by simp only [List.mem_cons, List.not_mem_nil, or_false]; omega)
  by_cases h6 : mid < 140
  · exact key _ _ kw_6 (by simp only [List.mem_cons, List.not_mem_nil, or_false]; omega)
  by_cases h7 : mid < 160
  · exact key _ _ kw_7 (by simp only [List.mem_cons, List.not_mem_nil, or_false]; omega)
  by_cases h8 : mid < 179
  · exact key _ _ kw_8 (by simp only [List.mem_cons, List.not_mem_nil, or_false]; omega)
  omega
