/-! what the tables say of calls: the words by their places -/
def kp_m0 : List (Nat × Nat) := [(3, 124), (55, 432), (59, 436), (66, 444), (70, 452), (76, 467), (82, 448), (86, 453), (90, 457), (94, 461), (98, 465), (101, 466)]
def kp_m1 : List (Nat × Nat) := [(1, 158), (26, 161), (31, 471), (39, 492), (43, 493), (46, 500), (49, 517), (53, 497), (56, 504), (62, 507), (65, 511), (69, 514), (72, 696)]
def kp_m2 : List (Nat × Nat) := [(3, 196), (28, 583), (32, 579), (40, 590), (47, 594), (50, 598), (55, 604), (58, 608), (61, 653), (64, 657)]
def kp_m3 : List (Nat × Nat) := [(1, 164), (13, 475), (19, 482), (25, 485), (29, 489), (33, 479), (39, 480)]
def kp_m4 : List (Nat × Nat) := [(3, 62), (31, 68), (38, 316), (44, 331), (48, 335), (52, 343), (62, 347), (66, 374), (73, 382), (76, 351), (80, 355), (83, 378), (87, 386), (88, 339)]
def kp_m5 : List (Nat × Nat) := [(3, 29)]
def kp_m6 : List (Nat × Nat) := [(5, 71), (35, 359), (39, 367), (45, 370), (63, 363), (70, 390), (74, 391), (77, 395)]
def kp_m7 : List (Nat × Nat) := [(3, 20), (19, 26), (29, 59), (36, 121), (43, 155), (50, 193), (55, 259), (63, 265), (67, 273), (71, 281), (77, 284), (81, 292), (84, 296), (88, 312), (95, 327), (108, 406), (112, 300), (115, 308), (119, 411), (123, 412), (126, 424), (129, 544), (132, 439), (136, 552), (139, 557), (149, 562), (158, 571), (161, 575), (167, 586), (170, 616), (180, 628), (183, 636), (186, 649), (192, 665), (197, 670), (205, 680), (208, 681), (212, 686), (213, 691), (216, 692), (217, 262), (220, 304), (224, 416), (227, 420), (230, 556), (233, 428)]
def kp_m8 : List (Nat × Nat) := [(1, 703), (83, 805), (91, 812), (102, 822), (110, 830), (113, 834), (117, 864), (121, 867), (125, 871), (129, 860), (133, 856), (140, 852), (144, 848), (147, 882), (154, 898), (157, 902), (160, 894), (164, 906), (171, 935), (176, 910), (180, 914), (184, 919), (187, 923), (190, 927), (193, 931), (198, 939), (202, 890), (208, 980), (214, 992), (217, 988), (221, 1008), (225, 1012), (231, 1033), (234, 1029), (244, 1052), (248, 1049), (253, 1051), (256, 1057), (259, 1061)]
def kp_m9 : List (Nat × Nat) := []
def kp_m10 : List (Nat × Nat) := [(11, 510), (15, 520)]
def kp_m11 : List (Nat × Nat) := [(9, 17), (12, 700), (13, 255), (17, 799), (18, 269), (22, 808), (23, 277), (27, 816), (28, 288), (31, 826), (32, 319), (36, 840), (37, 323), (40, 844), (41, 398), (44, 874), (45, 402), (48, 878), (49, 407), (52, 886), (53, 524), (56, 944), (57, 528), (60, 948), (61, 532), (65, 952), (66, 536), (69, 956), (70, 540), (73, 960), (74, 548), (78, 964), (79, 558), (82, 968), (83, 563), (86, 972), (87, 567), (90, 976), (91, 612), (94, 984), (95, 620), (98, 996), (99, 624), (102, 1000), (103, 632), (106, 1004), (107, 637), (110, 1017), (111, 641), (114, 1021), (115, 645), (118, 1025), (119, 661), (122, 1037), (123, 666), (126, 1041), (127, 674), (131, 1045)]
def kp_m12 : List (Nat × Nat) := []
def kp_m13 : List (Nat × Nat) := []
def kp_m14 : List (Nat × Nat) := []
def kp_m15 : List (Nat × Nat) := []
def ck_m1 (own : Nat) (e : Nat × Nat) (q : Nat × Nat) : Bool := Nat.beq e.1 q.1 && (if e.2 = 900 then decide (tables_1[q.2]? = some (Jvm.Cond.methodLink (mm_on own) e.1 Lib.objectInit))
  else if e.2 = 901 then decide (tables_1[q.2]? = some (Jvm.Cond.methodLink (mm_on own) e.1 arraycopyName))
  else if e.2 = 902 then decide (tables_1[q.2]? = some (Jvm.Cond.methodLink (mm_on own) e.1 Lib.Math.min.name))
  else (decide (tables_1[q.2]? = some (Jvm.Cond.methodLink (mm_on own) e.1 (mm_yy e.2))) || (mm_ini e.2 && decide (tables_1[q.2]? = some (Jvm.Cond.methodLinkNest (mm_on own) e.1 (mm_yy e.2) "DrawnTold")))) && Nat.blt e.2 178)
def ck_m2 (own : Nat) : List (Nat × Nat) → List (Nat × Nat) → Bool
  | [], [] => true
  | e :: r, q :: p => ck_m1 own e q && ck_m2 own r p
  | _, _ => false
theorem ck_m2_mem (own : Nat) : ∀ (l p : List (Nat × Nat)), ck_m2 own l p = true → ∀ e ∈ l, ∃ q, ck_m1 own e q = true
  | [], [], _, e, h => absurd h List.not_mem_nil
  | e0 :: r, q :: p, hc, e, h => by
    rw [ck_m2, Bool.and_eq_true] at hc
    rcases List.mem_cons.mp h with rfl | h
    · exact ⟨q, hc.1⟩
    · exact ck_m2_mem own r p hc.2 e h
  | [], _ :: _, hc, _, _ => by cases hc
  | _ :: _, [], hc, _, _ => by cases hc
theorem ck_ml0 : ck_m2 0 (mm_ml.getD 0 []) kp_m0 = true := by decide +kernel
theorem ck_ml1 : ck_m2 1 (mm_ml.getD 1 []) kp_m1 = true := by decide +kernel
theorem ck_ml2 : ck_m2 2 (mm_ml.getD 2 []) kp_m2 = true := by decide +kernel
theorem ck_ml3 : ck_m2 3 (mm_ml.getD 3 []) kp_m3 = true := by decide +kernel
theorem ck_ml4 : ck_m2 4 (mm_ml.getD 4 []) kp_m4 = true := by decide +kernel
theorem ck_ml5 : ck_m2 5 (mm_ml.getD 5 []) kp_m5 = true := by decide +kernel
theorem ck_ml6 : ck_m2 6 (mm_ml.getD 6 []) kp_m6 = true := by decide +kernel
theorem ck_ml7 : ck_m2 7 (mm_ml.getD 7 []) kp_m7 = true := by decide +kernel
theorem ck_ml8 : ck_m2 8 (mm_ml.getD 8 []) kp_m8 = true := by decide +kernel
theorem ck_ml9 : ck_m2 9 (mm_ml.getD 9 []) kp_m9 = true := by decide +kernel
theorem ck_ml10 : ck_m2 10 (mm_ml.getD 10 []) kp_m10 = true := by decide +kernel
theorem ck_ml11 : ck_m2 11 (mm_ml.getD 11 []) kp_m11 = true := by decide +kernel
theorem ck_ml12 : ck_m2 12 (mm_ml.getD 12 []) kp_m12 = true := by decide +kernel
theorem ck_ml13 : ck_m2 13 (mm_ml.getD 13 []) kp_m13 = true := by decide +kernel
theorem ck_ml14 : ck_m2 14 (mm_ml.getD 14 []) kp_m14 = true := by decide +kernel
theorem ck_ml15 : ck_m2 15 (mm_ml.getD 15 []) kp_m15 = true := by decide +kernel
