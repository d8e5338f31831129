/-! what the tables say of calls: the words by their places -/
def kp_m0 : List (Nat × Nat) := [(3, 124), (55, 435), (59, 439), (66, 447), (70, 455), (76, 470), (82, 451), (86, 456), (90, 460), (94, 464), (98, 468), (101, 469)]
def kp_m1 : List (Nat × Nat) := [(1, 158), (26, 161), (31, 474), (39, 495), (43, 496), (46, 503), (49, 520), (53, 500), (56, 507), (62, 510), (65, 514), (69, 517), (72, 695)]
def kp_m2 : List (Nat × Nat) := [(3, 196), (35, 582), (39, 589), (46, 593), (49, 597), (55, 603), (58, 607), (61, 652), (64, 656)]
def kp_m3 : List (Nat × Nat) := [(1, 164), (13, 478), (19, 485), (25, 488), (29, 492), (33, 482), (39, 483)]
def kp_m4 : List (Nat × Nat) := [(3, 62), (31, 68), (38, 319), (44, 334), (48, 338), (52, 346), (62, 350), (66, 377), (73, 385), (76, 354), (80, 358), (83, 381), (87, 389), (88, 342)]
def kp_m5 : List (Nat × Nat) := [(3, 29)]
def kp_m6 : List (Nat × Nat) := [(5, 71), (35, 362), (39, 370), (45, 373), (63, 366), (70, 393), (74, 394), (77, 398)]
def kp_m7 : List (Nat × Nat) := [(3, 20), (19, 26), (29, 59), (36, 121), (43, 155), (50, 193), (55, 262), (63, 268), (67, 276), (71, 284), (77, 287), (81, 295), (84, 299), (88, 315), (95, 330), (108, 409), (112, 303), (115, 311), (119, 414), (123, 415), (126, 427), (129, 547), (132, 442), (136, 555), (139, 560), (149, 565), (158, 574), (161, 578), (167, 585), (170, 615), (180, 627), (183, 635), (186, 648), (192, 664), (197, 669), (205, 679), (208, 680), (212, 685), (213, 690), (216, 691), (217, 265), (220, 307), (224, 419), (227, 423), (230, 559), (233, 431)]
def kp_m8 : List (Nat × Nat) := [(1, 702), (83, 804), (91, 811), (102, 821), (110, 829), (113, 833), (117, 863), (121, 866), (125, 870), (129, 859), (133, 855), (140, 851), (144, 847), (147, 881), (154, 897), (157, 901), (160, 893), (164, 905), (171, 934), (176, 909), (180, 913), (184, 918), (187, 922), (190, 926), (193, 930), (198, 938), (202, 889), (208, 979), (214, 991), (217, 987), (221, 1007), (225, 1011), (231, 1032), (234, 1028), (244, 1051), (248, 1048), (253, 1050), (256, 1056), (259, 1060)]
def kp_m9 : List (Nat × Nat) := []
def kp_m10 : List (Nat × Nat) := [(11, 513), (15, 523)]
def kp_m11 : List (Nat × Nat) := [(9, 17), (12, 699), (13, 258), (17, 798), (18, 272), (22, 807), (23, 280), (27, 815), (28, 291), (31, 825), (32, 322), (36, 839), (37, 326), (40, 843), (41, 401), (44, 873), (45, 405), (48, 877), (49, 410), (52, 885), (53, 527), (56, 943), (57, 531), (60, 947), (61, 535), (65, 951), (66, 539), (69, 955), (70, 543), (73, 959), (74, 551), (78, 963), (79, 561), (82, 967), (83, 566), (86, 971), (87, 570), (90, 975), (91, 611), (94, 983), (95, 619), (98, 995), (99, 623), (102, 999), (103, 631), (106, 1003), (107, 636), (110, 1016), (111, 640), (114, 1020), (115, 644), (118, 1024), (119, 660), (122, 1036), (123, 665), (126, 1040), (127, 673), (131, 1044)]
def kp_m12 : List (Nat × Nat) := []
def kp_m13 : List (Nat × Nat) := []
def kp_m14 : List (Nat × Nat) := []
def kp_m15 : List (Nat × Nat) := []
def ck_m1 (own : Nat) (e : Nat × Nat) (q : Nat × Nat) : Bool := Nat.beq e.1 q.1 && (if e.2 = 900 then decide (tables_1[q.2]? = some (Jvm.Cond.methodLink (mm_on own) e.1 Lib.objectInit))
  else if e.2 = 901 then decide (tables_1[q.2]? = some (Jvm.Cond.methodLink (mm_on own) e.1 arraycopyName))
  else if e.2 = 902 then decide (tables_1[q.2]? = some (Jvm.Cond.methodLink (mm_on own) e.1 Lib.Math.min.name))
  else (decide (tables_1[q.2]? = some (Jvm.Cond.methodLink (mm_on own) e.1 (mm_yy e.2))) || (mm_ini e.2 && decide (tables_1[q.2]? = some (Jvm.Cond.methodLinkNest (mm_on own) e.1 (mm_yy e.2) "DrawnTold")))) && Nat.blt e.2 177)
def ck_m2 (own : Nat) : List (Nat × Nat) → List (Nat × Nat) → Bool
  | [], [] => true
  | e :: r, q :: p => ck_m1 own e q && ck_m2 own r p
  | _, _ => false
theorem ck_m2_mem (own : Nat) : ∀ (l p : List (Nat × Nat)), ck_m2 own l p = true → ∀ e ∈ l, ∃ q, ck_m1 own e q = true
  | [], [], _, e, h => absurd h List.not_mem_nil
  | e0 :: r, q :: p, hc, e, h => by
    rw [ck_m2, Bool.and_eq_true] at hc
    rcases List.mem_cons.mp h with rfl | h
    · exact ⟨q, hc.1⟩
    · exact ck_m2_mem own r p hc.2 e h
  | [], _ :: _, hc, _, _ => by cases hc
  | _ :: _, [], hc, _, _ => by cases hc
theorem ck_ml0 : ck_m2 0 (mm_ml.getD 0 []) kp_m0 = true := by decide +kernel
theorem ck_ml1 : ck_m2 1 (mm_ml.getD 1 []) kp_m1 = true := by decide +kernel
theorem ck_ml2 : ck_m2 2 (mm_ml.getD 2 []) kp_m2 = true := by decide +kernel
theorem ck_ml3 : ck_m2 3 (mm_ml.getD 3 []) kp_m3 = true := by decide +kernel
theorem ck_ml4 : ck_m2 4 (mm_ml.getD 4 []) kp_m4 = true := by decide +kernel
theorem ck_ml5 : ck_m2 5 (mm_ml.getD 5 []) kp_m5 = true := by decide +kernel
theorem ck_ml6 : ck_m2 6 (mm_ml.getD 6 []) kp_m6 = true := by decide +kernel
theorem ck_ml7 : ck_m2 7 (mm_ml.getD 7 []) kp_m7 = true := by decide +kernel
theorem ck_ml8 : ck_m2 8 (mm_ml.getD 8 []) kp_m8 = true := by decide +kernel
theorem ck_ml9 : ck_m2 9 (mm_ml.getD 9 []) kp_m9 = true := by decide +kernel
theorem ck_ml10 : ck_m2 10 (mm_ml.getD 10 []) kp_m10 = true := by decide +kernel
theorem ck_ml11 : ck_m2 11 (mm_ml.getD 11 []) kp_m11 = true := by decide +kernel
theorem ck_ml12 : ck_m2 12 (mm_ml.getD 12 []) kp_m12 = true := by decide +kernel
theorem ck_ml13 : ck_m2 13 (mm_ml.getD 13 []) kp_m13 = true := by decide +kernel
theorem ck_ml14 : ck_m2 14 (mm_ml.getD 14 []) kp_m14 = true := by decide +kernel
theorem ck_ml15 : ck_m2 15 (mm_ml.getD 15 []) kp_m15 = true := by decide +kernel
