section
/-- a private method of a class that the tables say can be made, by its rows of tables_1 -/
def lw_okq (q : MethodName × Nat) : Prop := (q.1.cls ≠ "java/lang/invoke/MethodHandle" ∧ q.1.cls ≠ "java/lang/invoke/VarHandle") ∧ Cond.instantiable q.1.cls q.2 ∈ tables_1 ∧ Cond.privateMethod q.1 ∈ tables_1 ∧ Cond.instanceMethod q.1 ∈ tables_1
theorem lw_p0 : lw_okq (⟨"DrawnTold", "putRough", "(III)V"⟩, 10) := ⟨⟨by decide +kernel, by decide +kernel⟩, List.mem_of_getElem? (i := 16) (by decide +kernel), List.mem_of_getElem? (i := 266) (by decide +kernel), List.mem_of_getElem? (i := 267) (by decide +kernel)⟩
theorem lw_p1 : lw_okq (⟨"DrawnTold", "isPoint", "(I)Z"⟩, 10) := ⟨⟨by decide +kernel, by decide +kernel⟩, List.mem_of_getElem? (i := 16) (by decide +kernel), List.mem_of_getElem? (i := 274) (by decide +kernel), List.mem_of_getElem? (i := 275) (by decide +kernel)⟩
theorem lw_p2 : lw_okq (⟨"DrawnTold", "isTelling", "(I)Z"⟩, 10) := ⟨⟨by decide +kernel, by decide +kernel⟩, List.mem_of_getElem? (i := 16) (by decide +kernel), List.mem_of_getElem? (i := 293) (by decide +kernel), List.mem_of_getElem? (i := 294) (by decide +kernel)⟩
theorem lw_p3 : lw_okq (⟨"DrawnTold", "putTerm", "(LDrawnTold$Sum;II)I"⟩, 10) := ⟨⟨by decide +kernel, by decide +kernel⟩, List.mem_of_getElem? (i := 16) (by decide +kernel), List.mem_of_getElem? (i := 297) (by decide +kernel), List.mem_of_getElem? (i := 298) (by decide +kernel)⟩
theorem lw_p4 : lw_okq (⟨"DrawnTold", "isNumber", "(I)Z"⟩, 10) := ⟨⟨by decide +kernel, by decide +kernel⟩, List.mem_of_getElem? (i := 16) (by decide +kernel), List.mem_of_getElem? (i := 301) (by decide +kernel), List.mem_of_getElem? (i := 302) (by decide +kernel)⟩
theorem lw_p5 : lw_okq (⟨"DrawnTold$Judge", "judgeOne", "(LDrawnTold$Sum;I)V"⟩, 6) := ⟨⟨by decide +kernel, by decide +kernel⟩, List.mem_of_getElem? (i := 58) (by decide +kernel), List.mem_of_getElem? (i := 344) (by decide +kernel), List.mem_of_getElem? (i := 345) (by decide +kernel)⟩
theorem lw_p6 : lw_okq (⟨"DrawnTold$Witness", "load", "(LDrawnTold$Sum;)V"⟩, 7) := ⟨⟨by decide +kernel, by decide +kernel⟩, List.mem_of_getElem? (i := 65) (by decide +kernel), List.mem_of_getElem? (i := 360) (by decide +kernel), List.mem_of_getElem? (i := 361) (by decide +kernel)⟩
theorem lw_p7 : lw_okq (⟨"DrawnTold$Witness", "findLead", "()I"⟩, 7) := ⟨⟨by decide +kernel, by decide +kernel⟩, List.mem_of_getElem? (i := 65) (by decide +kernel), List.mem_of_getElem? (i := 371) (by decide +kernel), List.mem_of_getElem? (i := 372) (by decide +kernel)⟩
theorem lw_p8 : lw_okq (⟨"DrawnTold$Judge", "partsSeen", "()I"⟩, 6) := ⟨⟨by decide +kernel, by decide +kernel⟩, List.mem_of_getElem? (i := 58) (by decide +kernel), List.mem_of_getElem? (i := 375) (by decide +kernel), List.mem_of_getElem? (i := 376) (by decide +kernel)⟩
theorem lw_p9 : lw_okq (⟨"DrawnTold$Witness", "keepRow", "()V"⟩, 7) := ⟨⟨by decide +kernel, by decide +kernel⟩, List.mem_of_getElem? (i := 65) (by decide +kernel), List.mem_of_getElem? (i := 392) (by decide +kernel), List.mem_of_getElem? (i := 393) (by decide +kernel)⟩
theorem lw_p10 : lw_okq (⟨"DrawnTold", "gatherHeld", "()V"⟩, 10) := ⟨⟨by decide +kernel, by decide +kernel⟩, List.mem_of_getElem? (i := 16) (by decide +kernel), List.mem_of_getElem? (i := 413) (by decide +kernel), List.mem_of_getElem? (i := 414) (by decide +kernel)⟩
theorem lw_p11 : lw_okq (⟨"DrawnTold", "findNearest", "(I)V"⟩, 10) := ⟨⟨by decide +kernel, by decide +kernel⟩, List.mem_of_getElem? (i := 16) (by decide +kernel), List.mem_of_getElem? (i := 425) (by decide +kernel), List.mem_of_getElem? (i := 426) (by decide +kernel)⟩
theorem lw_p12 : lw_okq (⟨"DrawnTold$Balance", "fillTable", "(I)V"⟩, 8) := ⟨⟨by decide +kernel, by decide +kernel⟩, List.mem_of_getElem? (i := 120) (by decide +kernel), List.mem_of_getElem? (i := 433) (by decide +kernel), List.mem_of_getElem? (i := 434) (by decide +kernel)⟩
theorem lw_p13 : lw_okq (⟨"DrawnTold$Balance", "clearTable", "(J)J"⟩, 8) := ⟨⟨by decide +kernel, by decide +kernel⟩, List.mem_of_getElem? (i := 120) (by decide +kernel), List.mem_of_getElem? (i := 445) (by decide +kernel), List.mem_of_getElem? (i := 446) (by decide +kernel)⟩
theorem lw_p14 : lw_okq (⟨"DrawnTold$Balance", "fillWork", "(J)V"⟩, 8) := ⟨⟨by decide +kernel, by decide +kernel⟩, List.mem_of_getElem? (i := 120) (by decide +kernel), List.mem_of_getElem? (i := 449) (by decide +kernel), List.mem_of_getElem? (i := 450) (by decide +kernel)⟩
theorem lw_p15 : lw_okq (⟨"DrawnTold$Balance", "findRow", "(I)I"⟩, 8) := ⟨⟨by decide +kernel, by decide +kernel⟩, List.mem_of_getElem? (i := 120) (by decide +kernel), List.mem_of_getElem? (i := 454) (by decide +kernel), List.mem_of_getElem? (i := 455) (by decide +kernel)⟩
def lw_privs_1 : List (MethodName × Nat) := [(⟨"DrawnTold", "putRough", "(III)V"⟩, 10), (⟨"DrawnTold", "isPoint", "(I)Z"⟩, 10), (⟨"DrawnTold", "isTelling", "(I)Z"⟩, 10), (⟨"DrawnTold", "putTerm", "(LDrawnTold$Sum;II)I"⟩, 10), (⟨"DrawnTold", "isNumber", "(I)Z"⟩, 10), (⟨"DrawnTold$Judge", "judgeOne", "(LDrawnTold$Sum;I)V"⟩, 6), (⟨"DrawnTold$Witness", "load", "(LDrawnTold$Sum;)V"⟩, 7), (⟨"DrawnTold$Witness", "findLead", "()I"⟩, 7), (⟨"DrawnTold$Judge", "partsSeen", "()I"⟩, 6), (⟨"DrawnTold$Witness", "keepRow", "()V"⟩, 7), (⟨"DrawnTold", "gatherHeld", "()V"⟩, 10), (⟨"DrawnTold", "findNearest", "(I)V"⟩, 10), (⟨"DrawnTold$Balance", "fillTable", "(I)V"⟩, 8), (⟨"DrawnTold$Balance", "clearTable", "(J)J"⟩, 8), (⟨"DrawnTold$Balance", "fillWork", "(J)V"⟩, 8), (⟨"DrawnTold$Balance", "findRow", "(I)I"⟩, 8)]
theorem lw_r1 : ∀ q ∈ lw_privs_1, lw_okq q := List.forall_mem_cons.mpr ⟨lw_p0, List.forall_mem_cons.mpr ⟨lw_p1, List.forall_mem_cons.mpr ⟨lw_p2, List.forall_mem_cons.mpr ⟨lw_p3, List.forall_mem_cons.mpr ⟨lw_p4, List.forall_mem_cons.mpr ⟨lw_p5, List.forall_mem_cons.mpr ⟨lw_p6, List.forall_mem_cons.mpr ⟨lw_p7, List.forall_mem_cons.mpr ⟨lw_p8, List.forall_mem_cons.mpr ⟨lw_p9, List.forall_mem_cons.mpr ⟨lw_p10, List.forall_mem_cons.mpr ⟨lw_p11, List.forall_mem_cons.mpr ⟨lw_p12, List.forall_mem_cons.mpr ⟨lw_p13, List.forall_mem_cons.mpr ⟨lw_p14, List.forall_mem_cons.mpr ⟨lw_p15, fun _ h => absurd h List.not_mem_nil⟩⟩⟩⟩⟩⟩⟩⟩⟩⟩⟩⟩⟩⟩⟩⟩
theorem lw_p16 : lw_okq (⟨"DrawnTold$Balance", "swapRows", "(II)V"⟩, 8) := ⟨⟨by decide +kernel, by decide +kernel⟩, List.mem_of_getElem? (i := 120) (by decide +kernel), List.mem_of_getElem? (i := 458) (by decide +kernel), List.mem_of_getElem? (i := 459) (by decide +kernel)⟩
theorem lw_p17 : lw_okq (⟨"DrawnTold$Balance", "clearBelow", "(IJ)V"⟩, 8) := ⟨⟨by decide +kernel, by decide +kernel⟩, List.mem_of_getElem? (i := 120) (by decide +kernel), List.mem_of_getElem? (i := 462) (by decide +kernel), List.mem_of_getElem? (i := 463) (by decide +kernel)⟩
theorem lw_p18 : lw_okq (⟨"DrawnTold$Joiner", "findDigits", "([J[JI)V"⟩, 1) := ⟨⟨by decide +kernel, by decide +kernel⟩, List.mem_of_getElem? (i := 160) (by decide +kernel), List.mem_of_getElem? (i := 476) (by decide +kernel), List.mem_of_getElem? (i := 477) (by decide +kernel)⟩
theorem lw_p19 : lw_okq (⟨"DrawnTold$Fraction", "halveBoth", "()V"⟩, 6) := ⟨⟨by decide +kernel, by decide +kernel⟩, List.mem_of_getElem? (i := 154) (by decide +kernel), List.mem_of_getElem? (i := 494) (by decide +kernel), List.mem_of_getElem? (i := 495) (by decide +kernel)⟩
theorem lw_p20 : lw_okq (⟨"DrawnTold$Fraction", "findDivisor", "()V"⟩, 6) := ⟨⟨by decide +kernel, by decide +kernel⟩, List.mem_of_getElem? (i := 154) (by decide +kernel), List.mem_of_getElem? (i := 501) (by decide +kernel), List.mem_of_getElem? (i := 502) (by decide +kernel)⟩
theorem lw_p21 : lw_okq (⟨"DrawnTold", "tellByHand", "(II)V"⟩, 10) := ⟨⟨by decide +kernel, by decide +kernel⟩, List.mem_of_getElem? (i := 16) (by decide +kernel), List.mem_of_getElem? (i := 553) (by decide +kernel), List.mem_of_getElem? (i := 554) (by decide +kernel)⟩
theorem lw_p22 : lw_okq (⟨"DrawnTold", "isPair", "(II)Z"⟩, 10) := ⟨⟨by decide +kernel, by decide +kernel⟩, List.mem_of_getElem? (i := 16) (by decide +kernel), List.mem_of_getElem? (i := 572) (by decide +kernel), List.mem_of_getElem? (i := 573) (by decide +kernel)⟩
theorem lw_p23 : lw_okq (⟨"DrawnTold$Frame", "endsOf", "(I)I"⟩, 7) := ⟨⟨by decide +kernel, by decide +kernel⟩, List.mem_of_getElem? (i := 192) (by decide +kernel), List.mem_of_getElem? (i := 580) (by decide +kernel), List.mem_of_getElem? (i := 581) (by decide +kernel)⟩
theorem lw_p24 : lw_okq (⟨"DrawnTold$Frame", "findTightSets", "()V"⟩, 7) := ⟨⟨by decide +kernel, by decide +kernel⟩, List.mem_of_getElem? (i := 192) (by decide +kernel), List.mem_of_getElem? (i := 595) (by decide +kernel), List.mem_of_getElem? (i := 596) (by decide +kernel)⟩
theorem lw_p25 : lw_okq (⟨"DrawnTold$Frame", "newInside", "(I)I"⟩, 7) := ⟨⟨by decide +kernel, by decide +kernel⟩, List.mem_of_getElem? (i := 192) (by decide +kernel), List.mem_of_getElem? (i := 605) (by decide +kernel), List.mem_of_getElem? (i := 606) (by decide +kernel)⟩
theorem lw_p26 : lw_okq (⟨"DrawnTold$Frame", "isInside", "(II)Z"⟩, 7) := ⟨⟨by decide +kernel, by decide +kernel⟩, List.mem_of_getElem? (i := 192) (by decide +kernel), List.mem_of_getElem? (i := 609) (by decide +kernel), List.mem_of_getElem? (i := 610) (by decide +kernel)⟩
theorem lw_p27 : lw_okq (⟨"DrawnTold", "isBar", "(I)Z"⟩, 10) := ⟨⟨by decide +kernel, by decide +kernel⟩, List.mem_of_getElem? (i := 16) (by decide +kernel), List.mem_of_getElem? (i := 617) (by decide +kernel), List.mem_of_getElem? (i := 618) (by decide +kernel)⟩
theorem lw_p28 : lw_okq (⟨"DrawnTold$Frame", "findGoing", "(I)I"⟩, 7) := ⟨⟨by decide +kernel, by decide +kernel⟩, List.mem_of_getElem? (i := 192) (by decide +kernel), List.mem_of_getElem? (i := 654) (by decide +kernel), List.mem_of_getElem? (i := 655) (by decide +kernel)⟩
theorem lw_p29 : lw_okq (⟨"DrawnTold$Frame", "newAt", "(II)I"⟩, 7) := ⟨⟨by decide +kernel, by decide +kernel⟩, List.mem_of_getElem? (i := 192) (by decide +kernel), List.mem_of_getElem? (i := 658) (by decide +kernel), List.mem_of_getElem? (i := 659) (by decide +kernel)⟩
theorem lw_p30 : lw_okq (⟨"DrawnTold", "howManyOff", "()I"⟩, 10) := ⟨⟨by decide +kernel, by decide +kernel⟩, List.mem_of_getElem? (i := 16) (by decide +kernel), List.mem_of_getElem? (i := 671) (by decide +kernel), List.mem_of_getElem? (i := 672) (by decide +kernel)⟩
theorem lw_p31 : lw_okq (⟨"DrawnToldModel", "isPoint", "(I)Z"⟩, 29) := ⟨⟨by decide +kernel, by decide +kernel⟩, List.mem_of_getElem? (i := 699) (by decide +kernel), List.mem_of_getElem? (i := 813) (by decide +kernel), List.mem_of_getElem? (i := 814) (by decide +kernel)⟩
def lw_privs_2 : List (MethodName × Nat) := [(⟨"DrawnTold$Balance", "swapRows", "(II)V"⟩, 8), (⟨"DrawnTold$Balance", "clearBelow", "(IJ)V"⟩, 8), (⟨"DrawnTold$Joiner", "findDigits", "([J[JI)V"⟩, 1), (⟨"DrawnTold$Fraction", "halveBoth", "()V"⟩, 6), (⟨"DrawnTold$Fraction", "findDivisor", "()V"⟩, 6), (⟨"DrawnTold", "tellByHand", "(II)V"⟩, 10), (⟨"DrawnTold", "isPair", "(II)Z"⟩, 10), (⟨"DrawnTold$Frame", "endsOf", "(I)I"⟩, 7), (⟨"DrawnTold$Frame", "findTightSets", "()V"⟩, 7), (⟨"DrawnTold$Frame", "newInside", "(I)I"⟩, 7), (⟨"DrawnTold$Frame", "isInside", "(II)Z"⟩, 7), (⟨"DrawnTold", "isBar", "(I)Z"⟩, 10), (⟨"DrawnTold$Frame", "findGoing", "(I)I"⟩, 7), (⟨"DrawnTold$Frame", "newAt", "(II)I"⟩, 7), (⟨"DrawnTold", "howManyOff", "()I"⟩, 10), (⟨"DrawnToldModel", "isPoint", "(I)Z"⟩, 29)]
theorem lw_r2 : ∀ q ∈ lw_privs_2, lw_okq q := List.forall_mem_cons.mpr ⟨lw_p16, List.forall_mem_cons.mpr ⟨lw_p17, List.forall_mem_cons.mpr ⟨lw_p18, List.forall_mem_cons.mpr ⟨lw_p19, List.forall_mem_cons.mpr ⟨lw_p20, List.forall_mem_cons.mpr ⟨lw_p21, List.forall_mem_cons.mpr ⟨lw_p22, List.forall_mem_cons.mpr ⟨lw_p23, List.forall_mem_cons.mpr ⟨lw_p24, List.forall_mem_cons.mpr ⟨lw_p25, List.forall_mem_cons.mpr ⟨lw_p26, List.forall_mem_cons.mpr ⟨lw_p27, List.forall_mem_cons.mpr ⟨lw_p28, List.forall_mem_cons.mpr ⟨lw_p29, List.forall_mem_cons.mpr ⟨lw_p30, List.forall_mem_cons.mpr ⟨lw_p31, fun _ h => absurd h List.not_mem_nil⟩⟩⟩⟩⟩⟩⟩⟩⟩⟩⟩⟩⟩⟩⟩⟩
theorem lw_p32 : lw_okq (⟨"DrawnToldModel", "clearRow", "(II)V"⟩, 29) := ⟨⟨by decide +kernel, by decide +kernel⟩, List.mem_of_getElem? (i := 699) (by decide +kernel), List.mem_of_getElem? (i := 823) (by decide +kernel), List.mem_of_getElem? (i := 824) (by decide +kernel)⟩
theorem lw_p33 : lw_okq (⟨"DrawnToldModel", "isTelling", "(I)Z"⟩, 29) := ⟨⟨by decide +kernel, by decide +kernel⟩, List.mem_of_getElem? (i := 699) (by decide +kernel), List.mem_of_getElem? (i := 831) (by decide +kernel), List.mem_of_getElem? (i := 832) (by decide +kernel)⟩
theorem lw_p34 : lw_okq (⟨"DrawnToldModel", "termOf", "(III)I"⟩, 29) := ⟨⟨by decide +kernel, by decide +kernel⟩, List.mem_of_getElem? (i := 699) (by decide +kernel), List.mem_of_getElem? (i := 835) (by decide +kernel), List.mem_of_getElem? (i := 836) (by decide +kernel)⟩
theorem lw_p35 : lw_okq (⟨"DrawnToldModel", "judge", "()V"⟩, 29) := ⟨⟨by decide +kernel, by decide +kernel⟩, List.mem_of_getElem? (i := 699) (by decide +kernel), List.mem_of_getElem? (i := 849) (by decide +kernel), List.mem_of_getElem? (i := 850) (by decide +kernel)⟩
theorem lw_p36 : lw_okq (⟨"DrawnToldModel", "against", "(II)I"⟩, 29) := ⟨⟨by decide +kernel, by decide +kernel⟩, List.mem_of_getElem? (i := 699) (by decide +kernel), List.mem_of_getElem? (i := 853) (by decide +kernel), List.mem_of_getElem? (i := 854) (by decide +kernel)⟩
theorem lw_p37 : lw_okq (⟨"DrawnToldModel", "rank", "(IZ)I"⟩, 29) := ⟨⟨by decide +kernel, by decide +kernel⟩, List.mem_of_getElem? (i := 699) (by decide +kernel), List.mem_of_getElem? (i := 857) (by decide +kernel), List.mem_of_getElem? (i := 858) (by decide +kernel)⟩
theorem lw_p38 : lw_okq (⟨"DrawnToldModel", "rankBy", "(IZI)I"⟩, 29) := ⟨⟨by decide +kernel, by decide +kernel⟩, List.mem_of_getElem? (i := 699) (by decide +kernel), List.mem_of_getElem? (i := 861) (by decide +kernel), List.mem_of_getElem? (i := 862) (by decide +kernel)⟩
theorem lw_p39 : lw_okq (⟨"DrawnToldModel", "bringDown", "(IIIII)V"⟩, 29) := ⟨⟨by decide +kernel, by decide +kernel⟩, List.mem_of_getElem? (i := 699) (by decide +kernel), List.mem_of_getElem? (i := 868) (by decide +kernel), List.mem_of_getElem? (i := 869) (by decide +kernel)⟩
theorem lw_p40 : lw_okq (⟨"DrawnToldModel", "howMany", "(I)I"⟩, 29) := ⟨⟨by decide +kernel, by decide +kernel⟩, List.mem_of_getElem? (i := 699) (by decide +kernel), List.mem_of_getElem? (i := 883) (by decide +kernel), List.mem_of_getElem? (i := 884) (by decide +kernel)⟩
theorem lw_p41 : lw_okq (⟨"DrawnToldModel", "place", "(II)V"⟩, 29) := ⟨⟨by decide +kernel, by decide +kernel⟩, List.mem_of_getElem? (i := 699) (by decide +kernel), List.mem_of_getElem? (i := 891) (by decide +kernel), List.mem_of_getElem? (i := 892) (by decide +kernel)⟩
theorem lw_p42 : lw_okq (⟨"DrawnToldModel", "solve", "(I)J"⟩, 29) := ⟨⟨by decide +kernel, by decide +kernel⟩, List.mem_of_getElem? (i := 699) (by decide +kernel), List.mem_of_getElem? (i := 895) (by decide +kernel), List.mem_of_getElem? (i := 896) (by decide +kernel)⟩
theorem lw_p43 : lw_okq (⟨"DrawnToldModel", "off", "(I)I"⟩, 29) := ⟨⟨by decide +kernel, by decide +kernel⟩, List.mem_of_getElem? (i := 699) (by decide +kernel), List.mem_of_getElem? (i := 899) (by decide +kernel), List.mem_of_getElem? (i := 900) (by decide +kernel)⟩
theorem lw_p44 : lw_okq (⟨"DrawnToldModel", "clearOut", "(II)V"⟩, 29) := ⟨⟨by decide +kernel, by decide +kernel⟩, List.mem_of_getElem? (i := 699) (by decide +kernel), List.mem_of_getElem? (i := 903) (by decide +kernel), List.mem_of_getElem? (i := 904) (by decide +kernel)⟩
theorem lw_p45 : lw_okq (⟨"DrawnToldModel", "putTogether", "([JI)I"⟩, 29) := ⟨⟨by decide +kernel, by decide +kernel⟩, List.mem_of_getElem? (i := 699) (by decide +kernel), List.mem_of_getElem? (i := 907) (by decide +kernel), List.mem_of_getElem? (i := 908) (by decide +kernel)⟩
theorem lw_p46 : lw_okq (⟨"DrawnToldModel", "zero", "(I)V"⟩, 29) := ⟨⟨by decide +kernel, by decide +kernel⟩, List.mem_of_getElem? (i := 699) (by decide +kernel), List.mem_of_getElem? (i := 911) (by decide +kernel), List.mem_of_getElem? (i := 912) (by decide +kernel)⟩
theorem lw_p47 : lw_okq (⟨"DrawnToldModel", "timesAnd", "(IJJ)V"⟩, 29) := ⟨⟨by decide +kernel, by decide +kernel⟩, List.mem_of_getElem? (i := 699) (by decide +kernel), List.mem_of_getElem? (i := 915) (by decide +kernel), List.mem_of_getElem? (i := 916) (by decide +kernel)⟩
def lw_privs_3 : List (MethodName × Nat) := [(⟨"DrawnToldModel", "clearRow", "(II)V"⟩, 29), (⟨"DrawnToldModel", "isTelling", "(I)Z"⟩, 29), (⟨"DrawnToldModel", "termOf", "(III)I"⟩, 29), (⟨"DrawnToldModel", "judge", "()V"⟩, 29), (⟨"DrawnToldModel", "against", "(II)I"⟩, 29), (⟨"DrawnToldModel", "rank", "(IZ)I"⟩, 29), (⟨"DrawnToldModel", "rankBy", "(IZI)I"⟩, 29), (⟨"DrawnToldModel", "bringDown", "(IIIII)V"⟩, 29), (⟨"DrawnToldModel", "howMany", "(I)I"⟩, 29), (⟨"DrawnToldModel", "place", "(II)V"⟩, 29), (⟨"DrawnToldModel", "solve", "(I)J"⟩, 29), (⟨"DrawnToldModel", "off", "(I)I"⟩, 29), (⟨"DrawnToldModel", "clearOut", "(II)V"⟩, 29), (⟨"DrawnToldModel", "putTogether", "([JI)I"⟩, 29), (⟨"DrawnToldModel", "zero", "(I)V"⟩, 29), (⟨"DrawnToldModel", "timesAnd", "(IJJ)V"⟩, 29)]
theorem lw_r3 : ∀ q ∈ lw_privs_3, lw_okq q := List.forall_mem_cons.mpr ⟨lw_p32, List.forall_mem_cons.mpr ⟨lw_p33, List.forall_mem_cons.mpr ⟨lw_p34, List.forall_mem_cons.mpr ⟨lw_p35, List.forall_mem_cons.mpr ⟨lw_p36, List.forall_mem_cons.mpr ⟨lw_p37, List.forall_mem_cons.mpr ⟨lw_p38, List.forall_mem_cons.mpr ⟨lw_p39, List.forall_mem_cons.mpr ⟨lw_p40, List.forall_mem_cons.mpr ⟨lw_p41, List.forall_mem_cons.mpr ⟨lw_p42, List.forall_mem_cons.mpr ⟨lw_p43, List.forall_mem_cons.mpr ⟨lw_p44, List.forall_mem_cons.mpr ⟨lw_p45, List.forall_mem_cons.mpr ⟨lw_p46, List.forall_mem_cons.mpr ⟨lw_p47, fun _ h => absurd h List.not_mem_nil⟩⟩⟩⟩⟩⟩⟩⟩⟩⟩⟩⟩⟩⟩⟩⟩
theorem lw_p48 : lw_okq (⟨"DrawnToldModel", "copy", "(II)V"⟩, 29) := ⟨⟨by decide +kernel, by decide +kernel⟩, List.mem_of_getElem? (i := 699) (by decide +kernel), List.mem_of_getElem? (i := 920) (by decide +kernel), List.mem_of_getElem? (i := 921) (by decide +kernel)⟩
theorem lw_p49 : lw_okq (⟨"DrawnToldModel", "less", "(II)V"⟩, 29) := ⟨⟨by decide +kernel, by decide +kernel⟩, List.mem_of_getElem? (i := 699) (by decide +kernel), List.mem_of_getElem? (i := 924) (by decide +kernel), List.mem_of_getElem? (i := 925) (by decide +kernel)⟩
theorem lw_p50 : lw_okq (⟨"DrawnToldModel", "compare", "(II)I"⟩, 29) := ⟨⟨by decide +kernel, by decide +kernel⟩, List.mem_of_getElem? (i := 699) (by decide +kernel), List.mem_of_getElem? (i := 928) (by decide +kernel), List.mem_of_getElem? (i := 929) (by decide +kernel)⟩
theorem lw_p51 : lw_okq (⟨"DrawnToldModel", "limbs", "(I)I"⟩, 29) := ⟨⟨by decide +kernel, by decide +kernel⟩, List.mem_of_getElem? (i := 699) (by decide +kernel), List.mem_of_getElem? (i := 932) (by decide +kernel), List.mem_of_getElem? (i := 933) (by decide +kernel)⟩
theorem lw_p52 : lw_okq (⟨"DrawnToldModel", "reduce", "()V"⟩, 29) := ⟨⟨by decide +kernel, by decide +kernel⟩, List.mem_of_getElem? (i := 699) (by decide +kernel), List.mem_of_getElem? (i := 936) (by decide +kernel), List.mem_of_getElem? (i := 937) (by decide +kernel)⟩
theorem lw_p53 : lw_okq (⟨"DrawnToldModel", "divide", "(III)V"⟩, 29) := ⟨⟨by decide +kernel, by decide +kernel⟩, List.mem_of_getElem? (i := 699) (by decide +kernel), List.mem_of_getElem? (i := 940) (by decide +kernel), List.mem_of_getElem? (i := 941) (by decide +kernel)⟩
theorem lw_p54 : lw_okq (⟨"DrawnToldModel", "barOf", "(II)I"⟩, 29) := ⟨⟨by decide +kernel, by decide +kernel⟩, List.mem_of_getElem? (i := 699) (by decide +kernel), List.mem_of_getElem? (i := 981) (by decide +kernel), List.mem_of_getElem? (i := 982) (by decide +kernel)⟩
theorem lw_p55 : lw_okq (⟨"DrawnToldModel", "countBars", "()V"⟩, 29) := ⟨⟨by decide +kernel, by decide +kernel⟩, List.mem_of_getElem? (i := 699) (by decide +kernel), List.mem_of_getElem? (i := 989) (by decide +kernel), List.mem_of_getElem? (i := 990) (by decide +kernel)⟩
theorem lw_p56 : lw_okq (⟨"DrawnToldModel", "isIndependent", "(I)Z"⟩, 29) := ⟨⟨by decide +kernel, by decide +kernel⟩, List.mem_of_getElem? (i := 699) (by decide +kernel), List.mem_of_getElem? (i := 993) (by decide +kernel), List.mem_of_getElem? (i := 994) (by decide +kernel)⟩
theorem lw_p57 : lw_okq (⟨"DrawnToldModel", "isPair", "(II)Z"⟩, 29) := ⟨⟨by decide +kernel, by decide +kernel⟩, List.mem_of_getElem? (i := 699) (by decide +kernel), List.mem_of_getElem? (i := 1009) (by decide +kernel), List.mem_of_getElem? (i := 1010) (by decide +kernel)⟩
theorem lw_p58 : lw_okq (⟨"DrawnToldModel", "isKept", "(II)Z"⟩, 29) := ⟨⟨by decide +kernel, by decide +kernel⟩, List.mem_of_getElem? (i := 699) (by decide +kernel), List.mem_of_getElem? (i := 1013) (by decide +kernel), List.mem_of_getElem? (i := 1014) (by decide +kernel)⟩
theorem lw_p59 : lw_okq (⟨"DrawnToldModel", "build", "()I"⟩, 29) := ⟨⟨by decide +kernel, by decide +kernel⟩, List.mem_of_getElem? (i := 699) (by decide +kernel), List.mem_of_getElem? (i := 1030) (by decide +kernel), List.mem_of_getElem? (i := 1031) (by decide +kernel)⟩
theorem lw_p60 : lw_okq (⟨"DrawnToldModel", "barsAt", "(II)I"⟩, 29) := ⟨⟨by decide +kernel, by decide +kernel⟩, List.mem_of_getElem? (i := 699) (by decide +kernel), List.mem_of_getElem? (i := 1034) (by decide +kernel), List.mem_of_getElem? (i := 1035) (by decide +kernel)⟩
theorem lw_p61 : lw_okq (⟨"DrawnToldModel", "add", "(J)V"⟩, 29) := ⟨⟨by decide +kernel, by decide +kernel⟩, List.mem_of_getElem? (i := 699) (by decide +kernel), List.mem_of_getElem? (i := 1053) (by decide +kernel), List.mem_of_getElem? (i := 1054) (by decide +kernel)⟩
theorem lw_p62 : lw_okq (⟨"DrawnToldModel", "addTerms", "(I)V"⟩, 29) := ⟨⟨by decide +kernel, by decide +kernel⟩, List.mem_of_getElem? (i := 699) (by decide +kernel), List.mem_of_getElem? (i := 1058) (by decide +kernel), List.mem_of_getElem? (i := 1059) (by decide +kernel)⟩
def lw_privs_4 : List (MethodName × Nat) := [(⟨"DrawnToldModel", "copy", "(II)V"⟩, 29), (⟨"DrawnToldModel", "less", "(II)V"⟩, 29), (⟨"DrawnToldModel", "compare", "(II)I"⟩, 29), (⟨"DrawnToldModel", "limbs", "(I)I"⟩, 29), (⟨"DrawnToldModel", "reduce", "()V"⟩, 29), (⟨"DrawnToldModel", "divide", "(III)V"⟩, 29), (⟨"DrawnToldModel", "barOf", "(II)I"⟩, 29), (⟨"DrawnToldModel", "countBars", "()V"⟩, 29), (⟨"DrawnToldModel", "isIndependent", "(I)Z"⟩, 29), (⟨"DrawnToldModel", "isPair", "(II)Z"⟩, 29), (⟨"DrawnToldModel", "isKept", "(II)Z"⟩, 29), (⟨"DrawnToldModel", "build", "()I"⟩, 29), (⟨"DrawnToldModel", "barsAt", "(II)I"⟩, 29), (⟨"DrawnToldModel", "add", "(J)V"⟩, 29), (⟨"DrawnToldModel", "addTerms", "(I)V"⟩, 29)]
theorem lw_r4 : ∀ q ∈ lw_privs_4, lw_okq q := List.forall_mem_cons.mpr ⟨lw_p48, List.forall_mem_cons.mpr ⟨lw_p49, List.forall_mem_cons.mpr ⟨lw_p50, List.forall_mem_cons.mpr ⟨lw_p51, List.forall_mem_cons.mpr ⟨lw_p52, List.forall_mem_cons.mpr ⟨lw_p53, List.forall_mem_cons.mpr ⟨lw_p54, List.forall_mem_cons.mpr ⟨lw_p55, List.forall_mem_cons.mpr ⟨lw_p56, List.forall_mem_cons.mpr ⟨lw_p57, List.forall_mem_cons.mpr ⟨lw_p58, List.forall_mem_cons.mpr ⟨lw_p59, List.forall_mem_cons.mpr ⟨lw_p60, List.forall_mem_cons.mpr ⟨lw_p61, List.forall_mem_cons.mpr ⟨lw_p62, fun _ h => absurd h List.not_mem_nil⟩⟩⟩⟩⟩⟩⟩⟩⟩⟩⟩⟩⟩⟩⟩
def lw_privs : List (MethodName × Nat) := lw_privs_1 ++ (lw_privs_2 ++ (lw_privs_3 ++ (lw_privs_4)))
def lw_tbl : List Cond := k2_sels lw_privs ++ tables_1
theorem lw_privs_ok : ∀ q ∈ lw_privs, lw_okq q := by
  show ∀ q ∈ lw_privs_1 ++ (lw_privs_2 ++ (lw_privs_3 ++ (lw_privs_4))), lw_okq q
  exact List.forall_mem_append.mpr ⟨lw_r1, List.forall_mem_append.mpr ⟨lw_r2, List.forall_mem_append.mpr ⟨lw_r3, lw_r4⟩⟩⟩
end
section
/-! the program as data: printed by wip/whole/gentab.py out of the claim -/
def ct_Ba : u_T := fun k => match k with
  | 0 => ("DrawnTold$Balance", "factors", "[[I", true)
  | 1 => ("DrawnTold$Balance", "gaps", "[I", true)
  | 2 => ("DrawnTold$Balance", "size", "I", false)
  | 3 => ("DrawnTold$Balance", "table", "[[J", true)
  | 4 => ("DrawnTold$Balance", "work", "[[J", true)
  | 5 => ("DrawnTold$Balance", "primes", "[J", true)
  | 6 => ("DrawnTold$Balance", "aboves", "[J", true)
  | _ => ("DrawnTold$Balance", "belows", "[J", true)
def ct_Fr : u_T := fun k => match k with
  | 0 => ("DrawnTold$Fraction", "side", "I", false)
  | 1 => ("DrawnTold$Fraction", "above", "[J", true)
  | 2 => ("DrawnTold$Fraction", "below", "[J", true)
  | 3 => ("DrawnTold$Fraction", "one", "[J", true)
  | 4 => ("DrawnTold$Fraction", "other", "[J", true)
  | _ => ("DrawnTold$Fraction", "joiner", "LDrawnTold$Joiner;", true)
def ct_Fm : u_T := fun k => match k with
  | 0 => ("DrawnTold$Frame", "extra", "[Z", true)
  | 1 => ("DrawnTold$Frame", "size", "I", false)
  | 2 => ("DrawnTold$Frame", "newCount", "I", false)
  | 3 => ("DrawnTold$Frame", "built", "[I", true)
  | 4 => ("DrawnTold$Frame", "firsts", "[I", true)
  | 5 => ("DrawnTold$Frame", "seconds", "[I", true)
  | _ => ("DrawnTold$Frame", "tight", "[Z", true)
def ct_Jo : u_T := fun k => match k with
  | _ => ("DrawnTold$Joiner", "digits", "[J", true)
def ct_Ju : u_T := fun k => match k with
  | 0 => ("DrawnTold$Judge", "witnesses", "[LDrawnTold$Witness;", true)
  | 1 => ("DrawnTold$Judge", "verdicts", "[I", true)
  | 2 => ("DrawnTold$Judge", "parts", "[I", true)
  | 3 => ("DrawnTold$Judge", "newOnes", "[I", true)
  | 4 => ("DrawnTold$Judge", "rank", "I", false)
  | _ => ("DrawnTold$Judge", "judged", "I", false)
def ct_Su : u_T := fun k => match k with
  | 0 => ("DrawnTold$Sum", "total", "I", false)
  | 1 => ("DrawnTold$Sum", "size", "I", false)
  | 2 => ("DrawnTold$Sum", "off", "Z", false)
  | 3 => ("DrawnTold$Sum", "numbers", "[I", true)
  | _ => ("DrawnTold$Sum", "factors", "[I", true)
def ct_Wi : u_T := fun k => match k with
  | 0 => ("DrawnTold$Witness", "prime", "J", true)
  | 1 => ("DrawnTold$Witness", "rows", "[[J", true)
  | 2 => ("DrawnTold$Witness", "leads", "[I", true)
  | 3 => ("DrawnTold$Witness", "rank", "I", false)
  | 4 => ("DrawnTold$Witness", "blindAt", "I", false)
  | 5 => ("DrawnTold$Witness", "row", "[J", true)
  | _ => ("DrawnTold$Witness", "lead", "I", false)
def ct_DT : u_T := fun k => match k with
  | 0 => ("DrawnTold", "roughs", "[I", true)
  | 1 => ("DrawnTold", "pointCount", "I", false)
  | 2 => ("DrawnTold", "sums", "[LDrawnTold$Sum;", true)
  | 3 => ("DrawnTold", "sumCount", "I", false)
  | 4 => ("DrawnTold", "asked", "LDrawnTold$Sum;", true)
  | 5 => ("DrawnTold", "probe", "LDrawnTold$Sum;", true)
  | 6 => ("DrawnTold", "judge", "LDrawnTold$Judge;", true)
  | 7 => ("DrawnTold", "balance", "LDrawnTold$Balance;", true)
  | 8 => ("DrawnTold", "fraction", "LDrawnTold$Fraction;", true)
  | _ => ("DrawnTold", "frame", "LDrawnTold$Frame;", true)
def ct_Mo : u_T := fun k => match k with
  | 0 => ("DrawnToldModel", "points", "I", false)
  | 1 => ("DrawnToldModel", "rough", "[I", true)
  | 2 => ("DrawnToldModel", "tellings", "I", false)
  | 3 => ("DrawnToldModel", "coef", "[I", true)
  | 4 => ("DrawnToldModel", "terms", "[I", true)
  | 5 => ("DrawnToldModel", "number", "[I", true)
  | 6 => ("DrawnToldModel", "times", "[I", true)
  | 7 => ("DrawnToldModel", "isOff", "[Z", true)
  | 8 => ("DrawnToldModel", "kinds", "[I", true)
  | 9 => ("DrawnToldModel", "newSet", "I", false)
  | 10 => ("DrawnToldModel", "bars", "I", false)
  | 11 => ("DrawnToldModel", "barA", "[I", true)
  | 12 => ("DrawnToldModel", "barB", "[I", true)
  | 13 => ("DrawnToldModel", "isMany", "[Z", true)
  | 14 => ("DrawnToldModel", "newBars", "I", false)
  | 15 => ("DrawnToldModel", "prime", "[I", true)
  | 16 => ("DrawnToldModel", "work", "[J", true)
  | 17 => ("DrawnToldModel", "gram", "[J", true)
  | 18 => ("DrawnToldModel", "share", "[J", true)
  | 19 => ("DrawnToldModel", "rows", "[I", true)
  | 20 => ("DrawnToldModel", "many", "I", false)
  | 21 => ("DrawnToldModel", "restAbove", "[J", true)
  | 22 => ("DrawnToldModel", "restBelow", "[J", true)
  | 23 => ("DrawnToldModel", "mixed", "[J", true)
  | 24 => ("DrawnToldModel", "z", "[J", true)
  | 25 => ("DrawnToldModel", "sign", "I", false)
  | 26 => ("DrawnToldModel", "gone", "[I", true)
  | 27 => ("DrawnToldModel", "goneMany", "I", false)
  | _ => ("DrawnToldModel", "h", "J", false)
def mm_cn : List String := ["DrawnTold$Balance", "DrawnTold$Fraction", "DrawnTold$Frame", "DrawnTold$Joiner", "DrawnTold$Judge", "DrawnTold$Sum", "DrawnTold$Witness", "DrawnTold", "DrawnToldModel", "DrawnTold$Clock", "DrawnTold$Limbs", "DrawnToldLaw", "java/lang/Integer", "java/lang/Math", "java/lang/System", "java/lang/Object"]
def mm_C : List vw_C := [("DrawnTold$Balance", ct_Ba, 8), ("DrawnTold$Fraction", ct_Fr, 6), ("DrawnTold$Frame", ct_Fm, 7), ("DrawnTold$Joiner", ct_Jo, 1), ("DrawnTold$Judge", ct_Ju, 6), ("DrawnTold$Sum", ct_Su, 5), ("DrawnTold$Witness", ct_Wi, 7), ("DrawnTold", ct_DT, 10), ("DrawnToldModel", ct_Mo, 29)]
/-- the kinds of the fields: 0 int, 1 boolean, 2 long, 3 a reference -/
def mm_ft : List (List Nat) := [[3, 3, 0, 3, 3, 3, 3, 3], [0, 3, 3, 3, 3, 3], [3, 0, 0, 3, 3, 3, 3], [3], [3, 3, 3, 3, 0, 0], [0, 0, 1, 3, 3], [2, 3, 3, 0, 0, 3, 0], [3, 0, 3, 0, 3, 3, 3, 3, 3, 3], [0, 3, 0, 3, 3, 3, 3, 3, 3, 0, 0, 3, 3, 3, 0, 3, 3, 3, 3, 3, 0, 3, 3, 3, 3, 0, 3, 0, 2]]
def mm_fin : List (List Bool) := [[true, true, false, true, true, true, true, true], [false, true, true, true, true, true], [true, false, false, true, true, true, true], [true], [true, true, true, true, false, false], [false, false, false, true, true], [true, true, true, false, false, true, false], [true, false, true, false, true, true, true, true, true, true], [false, true, false, true, true, true, true, true, true, false, false, true, true, true, false, true, true, true, true, true, false, true, true, true, true, false, true, false, false]]
/-- getfield, putfield: by class and entry: the class of the object, the field -/
def mm_fl : List (List (Nat × Nat × Nat)) := [[(11, 0, 0), (16, 0, 1), (22, 0, 3), (25, 0, 4), (30, 0, 5), (34, 0, 6), (37, 0, 7), (40, 0, 2), (44, 5, 0), (49, 5, 1), (50, 5, 3), (53, 5, 4)], [(9, 1, 1), (15, 1, 2), (18, 1, 3), (21, 1, 4), (27, 1, 5), (35, 1, 0)], [(9, 2, 0), (15, 2, 3), (19, 2, 4), (22, 2, 5), (25, 2, 6), (36, 2, 1), (44, 2, 2)], [(9, 3, 0)], [(13, 4, 0), (17, 4, 1), (21, 4, 2), (24, 4, 3), (34, 4, 5), (56, 5, 2), (70, 4, 4)], [(9, 5, 3), (15, 5, 4), (18, 5, 0), (22, 5, 1)], [(13, 6, 1), (16, 6, 2), (20, 6, 4), (24, 6, 5), (28, 6, 0), (32, 6, 3), (49, 6, 6), (52, 5, 1), (57, 5, 3), (60, 5, 4), (67, 5, 0)], [(9, 7, 0), (15, 7, 2), (20, 7, 4), (24, 7, 5), (30, 7, 6), (37, 7, 7), (44, 7, 8), (51, 7, 9), (59, 7, 1), (74, 7, 3), (91, 5, 2), (99, 4, 1), (102, 4, 2), (105, 4, 4), (142, 1, 0), (145, 1, 1), (155, 1, 2), (164, 2, 1), (173, 2, 0), (177, 2, 2), (189, 2, 3), (223, 5, 1)], [(7, 8, 1), (13, 8, 3), (16, 8, 4), (19, 8, 5), (22, 8, 6), (25, 8, 7), (29, 8, 8), (32, 8, 11), (35, 8, 12), (38, 8, 13), (48, 8, 15), (51, 8, 16), (55, 8, 17), (58, 8, 18), (61, 8, 19), (64, 8, 21), (67, 8, 22), (70, 8, 23), (73, 8, 24), (76, 8, 26), (87, 8, 0), (99, 8, 2), (137, 8, 9), (151, 8, 20), (168, 8, 25), (205, 8, 10), (211, 8, 14), (228, 8, 27), (240, 8, 28)], [], [], [], [], [], [], []]
def mm_cs : List (List (Nat × Int32)) := [[], [], [], [], [], [], [], [], [(41, 1073741789), (42, 1073741783), (43, 1073741741), (44, 1073741723), (45, 1073741719), (46, 1073741717), (47, 1073741689), (220, 1048576)], [], [], [], [(265, 1431655765), (266, 858993459), (267, 252645135)], [], [], []]
def mm_cl : List (List (Nat × Int64)) := [[], [(76, 31)], [(67, 31)], [(17, 2)], [], [(25, 31)], [], [(201, 409), (203, 31)], [(79, -1000), (81, 1000), (95, -2000), (97, 2000), (106, -3), (108, 3), (174, 1073741824), (196, 2), (238, 31), (251, 409)], [(7, 2)], [(9, 1073741823), (19, 2)], [], [], [], [], []]
/-- calls: by class and entry: the method (900: Object.<init>, 901: arraycopy) -/
def mm_ml : List (List (Nat × Nat)) := [[(3, 900), (55, 5), (59, 6), (66, 8), (70, 13), (76, 17), (82, 9), (86, 10), (90, 11), (94, 12), (98, 14), (101, 15)], [(1, 900), (26, 35), (31, 36), (39, 47), (43, 18), (46, 19), (49, 54), (53, 52), (56, 901), (62, 53), (65, 49), (69, 51), (72, 48)], [(3, 900), (28, 22), (32, 23), (40, 29), (47, 27), (50, 177), (55, 28), (58, 24), (61, 32), (64, 33)], [(1, 900), (13, 37), (19, 47), (25, 50), (29, 48), (33, 13), (39, 14)], [(3, 900), (31, 61), (38, 902), (44, 42), (48, 46), (52, 41), (62, 43), (66, 44), (73, 45), (76, 62), (80, 63), (83, 69), (87, 66), (88, 68)], [(3, 900)], [(5, 900), (35, 64), (39, 15), (45, 65), (63, 13), (70, 62), (74, 67), (77, 14)], [(3, 900), (19, 56), (29, 38), (36, 0), (43, 16), (50, 21), (55, 100), (63, 107), (67, 102), (71, 101), (77, 57), (81, 105), (84, 108), (88, 39), (95, 40), (108, 42), (112, 104), (115, 59), (119, 43), (123, 110), (126, 112), (129, 4), (132, 7), (136, 111), (139, 46), (149, 48), (158, 103), (161, 25), (167, 26), (170, 106), (180, 30), (183, 29), (186, 31), (192, 177), (197, 109), (205, 97), (208, 60), (212, 34), (213, 96), (216, 20), (217, 99), (220, 58), (224, 1), (227, 2), (230, 45), (233, 3)], [(1, 900), (83, 114), (91, 116), (102, 118), (110, 120), (113, 121), (117, 125), (121, 127), (125, 124), (129, 126), (133, 128), (140, 129), (144, 130), (147, 133), (154, 137), (157, 136), (160, 135), (164, 145), (171, 147), (176, 139), (180, 141), (184, 140), (187, 143), (190, 142), (193, 144), (198, 146), (202, 138), (208, 157), (214, 159), (217, 160), (221, 165), (225, 164), (231, 169), (234, 170), (244, 174), (248, 172), (253, 173), (256, 175), (259, 155)], [], [(11, 52), (15, 55)], [(9, 70), (12, 113), (13, 71), (17, 115), (18, 72), (22, 117), (23, 73), (27, 119), (28, 74), (31, 122), (32, 75), (36, 123), (37, 76), (40, 131), (41, 77), (44, 132), (45, 78), (48, 134), (49, 79), (52, 148), (53, 80), (56, 149), (57, 81), (60, 150), (61, 82), (65, 151), (66, 83), (69, 152), (70, 84), (73, 153), (74, 85), (78, 154), (79, 86), (82, 155), (83, 87), (86, 156), (87, 88), (90, 158), (91, 89), (94, 161), (95, 90), (98, 162), (99, 91), (102, 163), (103, 92), (106, 166), (107, 93), (110, 167), (111, 94), (114, 168), (115, 95), (118, 171), (119, 96), (122, 172), (123, 97), (126, 173), (127, 98), (131, 176)], [], [], [], []]
/-- new, anewarray, multianewarray: by class and entry: the class, or the kind of the array of arrays -/
def mm_nl : List (List (Nat × Nat)) := [[(9, 14), (20, 15)], [(24, 3)], [], [], [(11, 6)], [], [(11, 15)], [(13, 5), (27, 4), (34, 0), (41, 1), (48, 2)], [], [], [], [(7, 7), (10, 8)], [], [], [], []]
abbrev m_Ba_init : Nat := 0
abbrev m_Ba_clear : Nat := 1
abbrev m_Ba_add : Nat := 2
abbrev m_Ba_aimAt : Nat := 3
abbrev m_Ba_aimAtStrain : Nat := 4
abbrev m_Ba_fillTable : Nat := 5
abbrev m_Ba_dot : Nat := 6
abbrev m_Ba_settle : Nat := 7
abbrev m_Ba_clearTable : Nat := 8
abbrev m_Ba_fillWork : Nat := 9
abbrev m_Ba_findRow : Nat := 10
abbrev m_Ba_swapRows : Nat := 11
abbrev m_Ba_clearBelow : Nat := 12
abbrev m_Ck_remainder : Nat := 13
abbrev m_Ck_inverse : Nat := 14
abbrev m_Ck_addTimes : Nat := 15
abbrev m_Fr_init : Nat := 16
abbrev m_Fr_become : Nat := 17
abbrev m_Fr_halveBoth : Nat := 18
abbrev m_Fr_findDivisor : Nat := 19
abbrev m_Fr_digestOnto : Nat := 20
abbrev m_Fm_init : Nat := 21
abbrev m_Fm_pairOf : Nat := 22
abbrev m_Fm_endsOf : Nat := 23
abbrev m_Fm_isInside : Nat := 24
abbrev m_Fm_hasBar : Nat := 25
abbrev m_Fm_add : Nat := 26
abbrev m_Fm_findTightSets : Nat := 27
abbrev m_Fm_newInside : Nat := 28
abbrev m_Fm_keeps : Nat := 29
abbrev m_Fm_ringOf : Nat := 30
abbrev m_Fm_build : Nat := 31
abbrev m_Fm_findGoing : Nat := 32
abbrev m_Fm_newAt : Nat := 33
abbrev m_Fm_digestOnto : Nat := 34
abbrev m_Jo_init : Nat := 35
abbrev m_Jo_join : Nat := 36
abbrev m_Jo_findDigits : Nat := 37
abbrev m_Ju_init : Nat := 38
abbrev m_Ju_forgetFrom : Nat := 39
abbrev m_Ju_judgeUpTo : Nat := 40
abbrev m_Ju_judgeOne : Nat := 41
abbrev m_Ju_howMany : Nat := 42
abbrev m_Ju_weigh : Nat := 43
abbrev m_Ju_partsSeen : Nat := 44
abbrev m_Ju_adopt : Nat := 45
abbrev m_Ju_shrinkTo : Nat := 46
abbrev m_Li_clear : Nat := 47
abbrev m_Li_used : Nat := 48
abbrev m_Li_compare : Nat := 49
abbrev m_Li_timesAndAdd : Nat := 50
abbrev m_Li_subtract : Nat := 51
abbrev m_Li_halve : Nat := 52
abbrev m_Li_makeOdd : Nat := 53
abbrev m_Li_divideByOdd : Nat := 54
abbrev m_Li_inverseOfOdd : Nat := 55
abbrev m_Su_init : Nat := 56
abbrev m_Su_restart : Nat := 57
abbrev m_Su_timesOf : Nat := 58
abbrev m_Su_put : Nat := 59
abbrev m_Su_digestOnto : Nat := 60
abbrev m_Wi_init : Nat := 61
abbrev m_Wi_isBlind : Nat := 62
abbrev m_Wi_look : Nat := 63
abbrev m_Wi_load : Nat := 64
abbrev m_Wi_findLead : Nat := 65
abbrev m_Wi_adopt : Nat := 66
abbrev m_Wi_keepRow : Nat := 67
abbrev m_Wi_shrinkTo : Nat := 68
abbrev m_Wi_sees : Nat := 69
abbrev m_DT_init : Nat := 70
abbrev m_DT_point : Nat := 71
abbrev m_DT_rough : Nat := 72
abbrev m_DT_telling : Nat := 73
abbrev m_DT_term : Nat := 74
abbrev m_DT_takeOff : Nat := 75
abbrev m_DT_sort : Nat := 76
abbrev m_DT_madeOf : Nat := 77
abbrev m_DT_tellings : Nat := 78
abbrev m_DT_fixed : Nat := 79
abbrev m_DT_question : Nat := 80
abbrev m_DT_ask : Nat := 81
abbrev m_DT_holds : Nat := 82
abbrev m_DT_nearest : Nat := 83
abbrev m_DT_strain : Nat := 84
abbrev m_DT_drag : Nat := 85
abbrev m_DT_sign : Nat := 86
abbrev m_DT_limb : Nat := 87
abbrev m_DT_bar : Nat := 88
abbrev m_DT_sortOf : Nat := 89
abbrev m_DT_bars : Nat := 90
abbrev m_DT_round : Nat := 91
abbrev m_DT_kept : Nat := 92
abbrev m_DT_piece : Nat := 93
abbrev m_DT_fixes : Nat := 94
abbrev m_DT_order : Nat := 95
abbrev m_DT_whole : Nat := 96
abbrev m_DT_count : Nat := 97
abbrev m_DT_digest : Nat := 98
abbrev m_DT_isWithin : Nat := 99
abbrev m_DT_isPlace : Nat := 100
abbrev m_DT_isTotal : Nat := 101
abbrev m_DT_isPoint : Nat := 102
abbrev m_DT_isPair : Nat := 103
abbrev m_DT_isNumber : Nat := 104
abbrev m_DT_isTelling : Nat := 105
abbrev m_DT_isBar : Nat := 106
abbrev m_DT_putRough : Nat := 107
abbrev m_DT_putTerm : Nat := 108
abbrev m_DT_howManyOff : Nat := 109
abbrev m_DT_gatherHeld : Nat := 110
abbrev m_DT_tellByHand : Nat := 111
abbrev m_DT_findNearest : Nat := 112
abbrev m_Mo_init : Nat := 113
abbrev m_Mo_in : Nat := 114
abbrev m_Mo_point : Nat := 115
abbrev m_Mo_isPoint : Nat := 116
abbrev m_Mo_rough : Nat := 117
abbrev m_Mo_clearRow : Nat := 118
abbrev m_Mo_telling : Nat := 119
abbrev m_Mo_isTelling : Nat := 120
abbrev m_Mo_termOf : Nat := 121
abbrev m_Mo_term : Nat := 122
abbrev m_Mo_takeOff : Nat := 123
abbrev m_Mo_power : Nat := 124
abbrev m_Mo_rest : Nat := 125
abbrev m_Mo_rankBy : Nat := 126
abbrev m_Mo_bringDown : Nat := 127
abbrev m_Mo_rank : Nat := 128
abbrev m_Mo_against : Nat := 129
abbrev m_Mo_judge : Nat := 130
abbrev m_Mo_sort : Nat := 131
abbrev m_Mo_madeOf : Nat := 132
abbrev m_Mo_howMany : Nat := 133
abbrev m_Mo_tellings : Nat := 134
abbrev m_Mo_solve : Nat := 135
abbrev m_Mo_clearOut : Nat := 136
abbrev m_Mo_off : Nat := 137
abbrev m_Mo_place : Nat := 138
abbrev m_Mo_zero : Nat := 139
abbrev m_Mo_copy : Nat := 140
abbrev m_Mo_timesAnd : Nat := 141
abbrev m_Mo_compare : Nat := 142
abbrev m_Mo_less : Nat := 143
abbrev m_Mo_limbs : Nat := 144
abbrev m_Mo_putTogether : Nat := 145
abbrev m_Mo_divide : Nat := 146
abbrev m_Mo_reduce : Nat := 147
abbrev m_Mo_fixed : Nat := 148
abbrev m_Mo_question : Nat := 149
abbrev m_Mo_ask : Nat := 150
abbrev m_Mo_holds : Nat := 151
abbrev m_Mo_nearest : Nat := 152
abbrev m_Mo_strain : Nat := 153
abbrev m_Mo_drag : Nat := 154
abbrev m_Mo_sign : Nat := 155
abbrev m_Mo_limb : Nat := 156
abbrev m_Mo_barOf : Nat := 157
abbrev m_Mo_bar : Nat := 158
abbrev m_Mo_isIndependent : Nat := 159
abbrev m_Mo_countBars : Nat := 160
abbrev m_Mo_sortOf : Nat := 161
abbrev m_Mo_bars : Nat := 162
abbrev m_Mo_round : Nat := 163
abbrev m_Mo_isKept : Nat := 164
abbrev m_Mo_isPair : Nat := 165
abbrev m_Mo_kept : Nat := 166
abbrev m_Mo_piece : Nat := 167
abbrev m_Mo_fixes : Nat := 168
abbrev m_Mo_barsAt : Nat := 169
abbrev m_Mo_build : Nat := 170
abbrev m_Mo_order : Nat := 171
abbrev m_Mo_whole : Nat := 172
abbrev m_Mo_count : Nat := 173
abbrev m_Mo_add : Nat := 174
abbrev m_Mo_addTerms : Nat := 175
abbrev m_Mo_digest : Nat := 176
abbrev m_In_bitCount : Nat := 177
abbrev m_La_law : Nat := 178
/-- of a method: its class, its parameters, static or not, its return (0 void, 1 int, 2 boolean, 3 long), its locals, its room (frames, locals), the cells and slots that it may make -/
def mm_inf0 : List (Nat × Nat × Nat × Nat × Nat × Nat × Nat × Nat × Nat) := [(0, 0, 0, 0, 1, 1, 20, 57, 912), (0, 0, 0, 0, 1, 0, 0, 0, 0), (0, 2, 0, 0, 7, 0, 0, 0, 0), (0, 2, 0, 0, 4, 2, 47, 0, 0), (0, 0, 0, 0, 2, 2, 47, 0, 0), (0, 1, 0, 0, 5, 1, 23, 0, 0), (0, 2, 1, 1, 4, 0, 0, 0, 0), (0, 1, 0, 0, 8, 4, 118, 0, 0), (0, 1, 0, 3, 7, 2, 68, 0, 0), (0, 1, 0, 0, 5, 1, 25, 0, 0), (0, 1, 0, 1, 3, 0, 0, 0, 0), (0, 2, 0, 0, 4, 0, 0, 0, 0), (0, 2, 0, 0, 11, 1, 38, 0, 0), (9, 2, 1, 3, 6, 0, 0, 0, 0), (9, 2, 1, 3, 19, 0, 0, 0, 0), (9, 6, 1, 0, 9, 0, 0, 0, 0), (1, 0, 0, 0, 1, 2, 40, 6, 25), (1, 3, 0, 0, 4, 3, 95, 0, 0), (1, 0, 0, 0, 2, 1, 21, 0, 0), (1, 0, 0, 0, 4, 2, 45, 0, 0), (1, 1, 0, 3, 8, 1, 21, 0, 0), (2, 0, 0, 0, 1, 1, 20, 5, 324), (2, 2, 1, 1, 2, 0, 0, 0, 0), (2, 1, 0, 1, 2, 1, 21, 0, 0), (2, 2, 0, 2, 3, 2, 42, 0, 0), (2, 2, 0, 2, 4, 2, 42, 0, 0), (2, 2, 0, 0, 3, 5, 109, 0, 0), (2, 0, 0, 0, 3, 4, 87, 0, 0), (2, 1, 0, 1, 4, 3, 64, 0, 0), (2, 2, 0, 2, 5, 1, 21, 0, 0)]
def mm_inf1 : List (Nat × Nat × Nat × Nat × Nat × Nat × Nat × Nat × Nat) := [(2, 1, 0, 1, 5, 3, 64, 0, 0), (2, 1, 0, 1, 6, 5, 110, 0, 0), (2, 1, 0, 1, 3, 4, 88, 0, 0), (2, 2, 0, 1, 5, 3, 64, 0, 0), (2, 1, 0, 3, 6, 0, 0, 0, 0), (3, 0, 0, 0, 1, 1, 20, 1, 4), (3, 3, 0, 1, 6, 2, 70, 0, 0), (3, 3, 0, 0, 13, 1, 38, 0, 0), (4, 0, 0, 0, 2, 2, 42, 64, 1859), (4, 1, 0, 0, 2, 1, 21, 0, 0), (4, 2, 0, 0, 4, 5, 127, 0, 0), (4, 2, 0, 0, 3, 4, 105, 0, 0), (4, 1, 0, 1, 4, 0, 0, 0, 0), (4, 1, 0, 1, 9, 3, 71, 0, 0), (4, 0, 0, 1, 7, 1, 21, 0, 0), (4, 0, 0, 0, 5, 3, 81, 0, 0), (4, 1, 0, 0, 6, 1, 21, 0, 0), (10, 1, 1, 0, 2, 0, 0, 0, 0), (10, 1, 1, 1, 2, 0, 0, 0, 0), (10, 2, 1, 1, 3, 0, 0, 0, 0), (10, 3, 1, 0, 8, 0, 0, 0, 0), (10, 2, 1, 0, 5, 0, 0, 0, 0), (10, 1, 1, 0, 2, 0, 0, 0, 0), (10, 1, 1, 0, 2, 1, 21, 0, 0), (10, 2, 1, 0, 10, 1, 24, 0, 0), (10, 1, 1, 3, 5, 0, 0, 0, 0), (5, 0, 0, 0, 1, 1, 20, 2, 8), (5, 1, 0, 0, 2, 0, 0, 0, 0), (5, 1, 0, 1, 3, 0, 0, 0, 0), (5, 2, 0, 0, 3, 0, 0, 0, 0)]
def mm_inf2 : List (Nat × Nat × Nat × Nat × Nat × Nat × Nat × Nat × Nat) := [(5, 1, 0, 3, 6, 0, 0, 0, 0), (6, 1, 0, 0, 3, 1, 20, 19, 593), (6, 0, 0, 2, 1, 0, 0, 0, 0), (6, 1, 0, 1, 5, 2, 47, 0, 0), (6, 1, 0, 0, 3, 1, 25, 0, 0), (6, 0, 0, 1, 2, 0, 0, 0, 0), (6, 0, 0, 0, 1, 2, 61, 0, 0), (6, 0, 0, 0, 4, 1, 38, 0, 0), (6, 1, 0, 0, 2, 0, 0, 0, 0), (6, 1, 0, 2, 2, 0, 0, 0, 0), (7, 0, 0, 0, 2, 3, 63, 204, 3469), (7, 2, 0, 1, 3, 2, 42, 0, 0), (7, 3, 0, 1, 4, 2, 42, 0, 0), (7, 1, 0, 1, 2, 2, 41, 0, 0), (7, 3, 0, 1, 5, 2, 45, 0, 0), (7, 2, 0, 1, 3, 2, 42, 0, 0), (7, 1, 0, 1, 2, 6, 150, 0, 0), (7, 1, 0, 1, 3, 6, 150, 0, 0), (7, 1, 0, 1, 2, 6, 150, 0, 0), (7, 1, 0, 1, 2, 6, 166, 0, 0), (7, 1, 0, 1, 2, 2, 41, 0, 0), (7, 2, 0, 1, 3, 2, 45, 0, 0), (7, 0, 0, 1, 2, 6, 150, 0, 0), (7, 1, 0, 1, 2, 6, 166, 0, 0), (7, 0, 0, 1, 1, 6, 150, 0, 0), (7, 4, 0, 1, 6, 6, 166, 0, 0), (7, 1, 0, 1, 2, 1, 21, 0, 0), (7, 2, 0, 1, 4, 1, 21, 0, 0), (7, 2, 0, 1, 3, 6, 131, 0, 0), (7, 1, 0, 1, 2, 1, 21, 0, 0)]
def mm_inf3 : List (Nat × Nat × Nat × Nat × Nat × Nat × Nat × Nat × Nat) := [(7, 1, 0, 1, 2, 0, 0, 0, 0), (7, 1, 0, 1, 2, 4, 88, 0, 0), (7, 2, 0, 1, 3, 2, 45, 0, 0), (7, 2, 0, 1, 5, 2, 45, 0, 0), (7, 1, 0, 1, 5, 2, 45, 0, 0), (7, 1, 0, 1, 2, 6, 135, 0, 0), (7, 0, 0, 1, 2, 6, 135, 0, 0), (7, 1, 0, 1, 2, 1, 22, 0, 0), (7, 0, 0, 3, 4, 7, 156, 0, 0), (7, 2, 1, 2, 2, 0, 0, 0, 0), (7, 2, 1, 2, 2, 1, 21, 0, 0), (7, 1, 1, 2, 1, 1, 21, 0, 0), (7, 1, 0, 2, 2, 0, 0, 0, 0), (7, 2, 0, 2, 3, 1, 21, 0, 0), (7, 1, 0, 2, 2, 0, 0, 0, 0), (7, 1, 0, 2, 2, 0, 0, 0, 0), (7, 1, 0, 2, 2, 0, 0, 0, 0), (7, 3, 0, 0, 4, 0, 0, 0, 0), (7, 3, 0, 1, 4, 1, 22, 0, 0), (7, 0, 0, 1, 3, 0, 0, 0, 0), (7, 0, 0, 0, 2, 1, 26, 0, 0), (7, 2, 0, 0, 3, 4, 105, 0, 0), (7, 1, 0, 0, 2, 5, 145, 0, 0), (8, 0, 0, 0, 1, 1, 20, 20, 1475), (8, 3, 1, 2, 6, 0, 0, 0, 0), (8, 2, 0, 1, 3, 1, 25, 0, 0), (8, 1, 0, 2, 2, 1, 25, 0, 0), (8, 3, 0, 1, 4, 2, 46, 0, 0), (8, 2, 0, 0, 4, 0, 0, 0, 0), (8, 1, 0, 1, 2, 1, 25, 0, 0)]
def mm_inf4 : List (Nat × Nat × Nat × Nat × Nat × Nat × Nat × Nat × Nat) := [(8, 1, 0, 2, 2, 1, 25, 0, 0), (8, 3, 0, 1, 4, 1, 25, 0, 0), (8, 3, 0, 1, 4, 2, 48, 0, 0), (8, 2, 0, 1, 3, 2, 46, 0, 0), (8, 3, 1, 3, 10, 0, 0, 0, 0), (8, 2, 1, 3, 6, 0, 0, 0, 0), (8, 3, 0, 1, 8, 2, 60, 0, 0), (8, 5, 0, 0, 12, 1, 29, 0, 0), (8, 2, 0, 1, 5, 3, 87, 0, 0), (8, 2, 0, 1, 5, 4, 111, 0, 0), (8, 0, 0, 0, 2, 5, 135, 0, 0), (8, 1, 0, 1, 2, 6, 156, 0, 0), (8, 1, 0, 1, 6, 6, 156, 0, 0), (8, 1, 0, 1, 4, 0, 0, 0, 0), (8, 1, 0, 1, 2, 6, 156, 0, 0), (8, 1, 0, 3, 9, 2, 57, 0, 0), (8, 2, 0, 0, 9, 1, 29, 0, 0), (8, 1, 0, 1, 4, 0, 0, 0, 0), (8, 2, 0, 0, 13, 3, 85, 0, 0), (8, 1, 0, 0, 3, 0, 0, 0, 0), (8, 2, 0, 0, 4, 0, 0, 0, 0), (8, 3, 0, 0, 11, 0, 0, 0, 0), (8, 2, 0, 1, 7, 0, 0, 0, 0), (8, 2, 0, 0, 8, 0, 0, 0, 0), (8, 1, 0, 1, 3, 0, 0, 0, 0), (8, 2, 0, 1, 11, 1, 30, 0, 0), (8, 3, 0, 0, 7, 1, 30, 0, 0), (8, 0, 0, 0, 1, 2, 56, 0, 0), (8, 1, 0, 1, 2, 6, 156, 0, 0), (8, 1, 0, 1, 2, 1, 25, 0, 0)]
def mm_inf5 : List (Nat × Nat × Nat × Nat × Nat × Nat × Nat × Nat × Nat) := [(8, 2, 0, 1, 3, 2, 48, 0, 0), (8, 0, 0, 1, 2, 6, 156, 0, 0), (8, 1, 0, 1, 2, 6, 156, 0, 0), (8, 0, 0, 1, 1, 6, 156, 0, 0), (8, 4, 0, 1, 7, 6, 156, 0, 0), (8, 1, 0, 1, 2, 1, 25, 0, 0), (8, 2, 0, 1, 3, 1, 25, 0, 0), (8, 2, 0, 1, 4, 0, 0, 0, 0), (8, 2, 0, 1, 3, 2, 46, 0, 0), (8, 1, 0, 2, 6, 0, 0, 0, 0), (8, 0, 0, 0, 2, 1, 25, 0, 0), (8, 1, 0, 1, 2, 2, 46, 0, 0), (8, 1, 0, 1, 4, 2, 46, 0, 0), (8, 1, 0, 1, 4, 2, 46, 0, 0), (8, 2, 0, 2, 3, 1, 25, 0, 0), (8, 2, 0, 2, 3, 2, 46, 0, 0), (8, 2, 0, 1, 3, 3, 68, 0, 0), (8, 2, 0, 1, 5, 3, 68, 0, 0), (8, 1, 0, 1, 5, 2, 47, 0, 0), (8, 2, 0, 1, 6, 0, 0, 0, 0), (8, 0, 0, 1, 6, 2, 46, 0, 0), (8, 1, 0, 1, 5, 3, 71, 0, 0), (8, 0, 0, 1, 2, 3, 71, 0, 0), (8, 1, 0, 1, 4, 1, 25, 0, 0), (8, 1, 0, 0, 3, 0, 0, 0, 0), (8, 1, 0, 0, 3, 1, 22, 0, 0), (8, 0, 0, 3, 4, 6, 156, 0, 0), (12, 1, 1, 1, 1, 0, 0, 0, 0), (11, 1, 1, 2, 4, 10, 382, 600000, 7302250)]
def mm_inf : List (Nat × Nat × Nat × Nat × Nat × Nat × Nat × Nat × Nat) := mm_inf0 ++ mm_inf1 ++ mm_inf2 ++ mm_inf3 ++ mm_inf4 ++ mm_inf5
def mm_y0 : List MethodName := [⟨"DrawnTold$Balance", "<init>", "()V"⟩, ⟨"DrawnTold$Balance", "clear", "()V"⟩, ⟨"DrawnTold$Balance", "add", "(LDrawnTold$Sum;[I)V"⟩, ⟨"DrawnTold$Balance", "aimAt", "(II)V"⟩, ⟨"DrawnTold$Balance", "aimAtStrain", "()V"⟩, ⟨"DrawnTold$Balance", "fillTable", "(I)V"⟩, ⟨"DrawnTold$Balance", "dot", "([I[I)I"⟩, ⟨"DrawnTold$Balance", "settle", "(LDrawnTold$Fraction;)V"⟩, ⟨"DrawnTold$Balance", "clearTable", "(J)J"⟩, ⟨"DrawnTold$Balance", "fillWork", "(J)V"⟩, ⟨"DrawnTold$Balance", "findRow", "(I)I"⟩, ⟨"DrawnTold$Balance", "swapRows", "(II)V"⟩, ⟨"DrawnTold$Balance", "clearBelow", "(IJ)V"⟩, ⟨"DrawnTold$Clock", "remainder", "(JJ)J"⟩, ⟨"DrawnTold$Clock", "inverse", "(JJ)J"⟩, ⟨"DrawnTold$Clock", "addTimes", "([J[JJJII)V"⟩, ⟨"DrawnTold$Fraction", "<init>", "()V"⟩, ⟨"DrawnTold$Fraction", "become", "([J[J[J)V"⟩, ⟨"DrawnTold$Fraction", "halveBoth", "()V"⟩, ⟨"DrawnTold$Fraction", "findDivisor", "()V"⟩, ⟨"DrawnTold$Fraction", "digestOnto", "(J)J"⟩, ⟨"DrawnTold$Frame", "<init>", "()V"⟩, ⟨"DrawnTold$Frame", "pairOf", "(II)I"⟩, ⟨"DrawnTold$Frame", "endsOf", "(I)I"⟩, ⟨"DrawnTold$Frame", "isInside", "(II)Z"⟩, ⟨"DrawnTold$Frame", "hasBar", "(II)Z"⟩, ⟨"DrawnTold$Frame", "add", "(II)V"⟩, ⟨"DrawnTold$Frame", "findTightSets", "()V"⟩, ⟨"DrawnTold$Frame", "newInside", "(I)I"⟩, ⟨"DrawnTold$Frame", "keeps", "(II)Z"⟩]
def mm_b0 : List ByteArray := [prog_2_method_1_code, prog_2_method_2_code, prog_2_method_3_code, prog_2_method_4_code, prog_2_method_5_code, prog_2_method_6_code, prog_2_method_7_code, prog_2_method_8_code, prog_2_method_9_code, prog_2_method_10_code, prog_2_method_11_code, prog_2_method_12_code, prog_2_method_13_code, prog_3_method_2_code, prog_3_method_3_code, prog_3_method_4_code, prog_4_method_1_code, prog_4_method_2_code, prog_4_method_3_code, prog_4_method_4_code, prog_4_method_5_code, prog_5_method_1_code, prog_5_method_2_code, prog_5_method_3_code, prog_5_method_4_code, prog_5_method_5_code, prog_5_method_6_code, prog_5_method_7_code, prog_5_method_8_code, prog_5_method_9_code]
def mm_y1 : List MethodName := [⟨"DrawnTold$Frame", "ringOf", "(I)I"⟩, ⟨"DrawnTold$Frame", "build", "(I)I"⟩, ⟨"DrawnTold$Frame", "findGoing", "(I)I"⟩, ⟨"DrawnTold$Frame", "newAt", "(II)I"⟩, ⟨"DrawnTold$Frame", "digestOnto", "(J)J"⟩, ⟨"DrawnTold$Joiner", "<init>", "()V"⟩, ⟨"DrawnTold$Joiner", "join", "([J[J[J)I"⟩, ⟨"DrawnTold$Joiner", "findDigits", "([J[JI)V"⟩, ⟨"DrawnTold$Judge", "<init>", "()V"⟩, ⟨"DrawnTold$Judge", "forgetFrom", "(I)V"⟩, ⟨"DrawnTold$Judge", "judgeUpTo", "([LDrawnTold$Sum;I)V"⟩, ⟨"DrawnTold$Judge", "judgeOne", "(LDrawnTold$Sum;I)V"⟩, ⟨"DrawnTold$Judge", "howMany", "(I)I"⟩, ⟨"DrawnTold$Judge", "weigh", "(LDrawnTold$Sum;)I"⟩, ⟨"DrawnTold$Judge", "partsSeen", "()I"⟩, ⟨"DrawnTold$Judge", "adopt", "()V"⟩, ⟨"DrawnTold$Judge", "shrinkTo", "(I)V"⟩, ⟨"DrawnTold$Limbs", "clear", "([J)V"⟩, ⟨"DrawnTold$Limbs", "used", "([J)I"⟩, ⟨"DrawnTold$Limbs", "compare", "([J[J)I"⟩, ⟨"DrawnTold$Limbs", "timesAndAdd", "([JJJ)V"⟩, ⟨"DrawnTold$Limbs", "subtract", "([J[J)V"⟩, ⟨"DrawnTold$Limbs", "halve", "([J)V"⟩, ⟨"DrawnTold$Limbs", "makeOdd", "([J)V"⟩, ⟨"DrawnTold$Limbs", "divideByOdd", "([J[J)V"⟩, ⟨"DrawnTold$Limbs", "inverseOfOdd", "(J)J"⟩, ⟨"DrawnTold$Sum", "<init>", "()V"⟩, ⟨"DrawnTold$Sum", "restart", "(I)V"⟩, ⟨"DrawnTold$Sum", "timesOf", "(I)I"⟩, ⟨"DrawnTold$Sum", "put", "(II)V"⟩]
def mm_b1 : List ByteArray := [prog_5_method_10_code, prog_5_method_11_code, prog_5_method_12_code, prog_5_method_13_code, prog_5_method_14_code, prog_6_method_1_code, prog_6_method_2_code, prog_6_method_3_code, prog_7_method_1_code, prog_7_method_2_code, prog_7_method_3_code, prog_7_method_4_code, prog_7_method_5_code, prog_7_method_6_code, prog_7_method_7_code, prog_7_method_8_code, prog_7_method_9_code, prog_8_method_2_code, prog_8_method_3_code, prog_8_method_4_code, prog_8_method_5_code, prog_8_method_6_code, prog_8_method_7_code, prog_8_method_8_code, prog_8_method_9_code, prog_8_method_10_code, prog_9_method_1_code, prog_9_method_2_code, prog_9_method_3_code, prog_9_method_4_code]
def mm_y2 : List MethodName := [⟨"DrawnTold$Sum", "digestOnto", "(J)J"⟩, ⟨"DrawnTold$Witness", "<init>", "(J)V"⟩, ⟨"DrawnTold$Witness", "isBlind", "()Z"⟩, ⟨"DrawnTold$Witness", "look", "(LDrawnTold$Sum;)I"⟩, ⟨"DrawnTold$Witness", "load", "(LDrawnTold$Sum;)V"⟩, ⟨"DrawnTold$Witness", "findLead", "()I"⟩, ⟨"DrawnTold$Witness", "adopt", "()V"⟩, ⟨"DrawnTold$Witness", "keepRow", "()V"⟩, ⟨"DrawnTold$Witness", "shrinkTo", "(I)V"⟩, ⟨"DrawnTold$Witness", "sees", "(I)Z"⟩, ⟨"DrawnTold", "<init>", "()V"⟩, ⟨"DrawnTold", "point", "(II)I"⟩, ⟨"DrawnTold", "rough", "(III)I"⟩, ⟨"DrawnTold", "telling", "(I)I"⟩, ⟨"DrawnTold", "term", "(III)I"⟩, ⟨"DrawnTold", "takeOff", "(IZ)I"⟩, ⟨"DrawnTold", "sort", "(I)I"⟩, ⟨"DrawnTold", "madeOf", "(I)I"⟩, ⟨"DrawnTold", "tellings", "(I)I"⟩, ⟨"DrawnTold", "fixed", "(I)I"⟩, ⟨"DrawnTold", "question", "(I)I"⟩, ⟨"DrawnTold", "ask", "(II)I"⟩, ⟨"DrawnTold", "holds", "()I"⟩, ⟨"DrawnTold", "nearest", "(I)I"⟩, ⟨"DrawnTold", "strain", "()I"⟩, ⟨"DrawnTold", "drag", "(IIII)I"⟩, ⟨"DrawnTold", "sign", "(I)I"⟩, ⟨"DrawnTold", "limb", "(II)I"⟩, ⟨"DrawnTold", "bar", "(II)I"⟩, ⟨"DrawnTold", "sortOf", "(I)I"⟩]
def mm_b2 : List ByteArray := [prog_9_method_5_code, prog_10_method_1_code, prog_10_method_2_code, prog_10_method_3_code, prog_10_method_4_code, prog_10_method_5_code, prog_10_method_6_code, prog_10_method_7_code, prog_10_method_8_code, prog_10_method_9_code, prog_1_method_1_code, prog_1_method_2_code, prog_1_method_3_code, prog_1_method_4_code, prog_1_method_5_code, prog_1_method_6_code, prog_1_method_7_code, prog_1_method_8_code, prog_1_method_9_code, prog_1_method_10_code, prog_1_method_11_code, prog_1_method_12_code, prog_1_method_13_code, prog_1_method_14_code, prog_1_method_15_code, prog_1_method_16_code, prog_1_method_17_code, prog_1_method_18_code, prog_1_method_19_code, prog_1_method_20_code]
def mm_y3 : List MethodName := [⟨"DrawnTold", "bars", "(I)I"⟩, ⟨"DrawnTold", "round", "(I)I"⟩, ⟨"DrawnTold", "kept", "(II)I"⟩, ⟨"DrawnTold", "piece", "(II)I"⟩, ⟨"DrawnTold", "fixes", "(I)I"⟩, ⟨"DrawnTold", "order", "(I)I"⟩, ⟨"DrawnTold", "whole", "()I"⟩, ⟨"DrawnTold", "count", "(I)I"⟩, ⟨"DrawnTold", "digest", "()J"⟩, ⟨"DrawnTold", "isWithin", "(II)Z"⟩, ⟨"DrawnTold", "isPlace", "(II)Z"⟩, ⟨"DrawnTold", "isTotal", "(I)Z"⟩, ⟨"DrawnTold", "isPoint", "(I)Z"⟩, ⟨"DrawnTold", "isPair", "(II)Z"⟩, ⟨"DrawnTold", "isNumber", "(I)Z"⟩, ⟨"DrawnTold", "isTelling", "(I)Z"⟩, ⟨"DrawnTold", "isBar", "(I)Z"⟩, ⟨"DrawnTold", "putRough", "(III)V"⟩, ⟨"DrawnTold", "putTerm", "(LDrawnTold$Sum;II)I"⟩, ⟨"DrawnTold", "howManyOff", "()I"⟩, ⟨"DrawnTold", "gatherHeld", "()V"⟩, ⟨"DrawnTold", "tellByHand", "(II)V"⟩, ⟨"DrawnTold", "findNearest", "(I)V"⟩, ⟨"DrawnToldModel", "<init>", "()V"⟩, ⟨"DrawnToldModel", "in", "(JJJ)Z"⟩, ⟨"DrawnToldModel", "point", "(II)I"⟩, ⟨"DrawnToldModel", "isPoint", "(I)Z"⟩, ⟨"DrawnToldModel", "rough", "(III)I"⟩, ⟨"DrawnToldModel", "clearRow", "(II)V"⟩, ⟨"DrawnToldModel", "telling", "(I)I"⟩]
def mm_b3 : List ByteArray := [prog_1_method_21_code, prog_1_method_22_code, prog_1_method_23_code, prog_1_method_24_code, prog_1_method_25_code, prog_1_method_26_code, prog_1_method_27_code, prog_1_method_28_code, prog_1_method_29_code, prog_1_method_30_code, prog_1_method_31_code, prog_1_method_32_code, prog_1_method_33_code, prog_1_method_34_code, prog_1_method_35_code, prog_1_method_36_code, prog_1_method_37_code, prog_1_method_38_code, prog_1_method_39_code, prog_1_method_40_code, prog_1_method_41_code, prog_1_method_42_code, prog_1_method_43_code, prog_12_method_1_code, prog_12_method_2_code, prog_12_method_3_code, prog_12_method_4_code, prog_12_method_5_code, prog_12_method_6_code, prog_12_method_7_code]
def mm_y4 : List MethodName := [⟨"DrawnToldModel", "isTelling", "(I)Z"⟩, ⟨"DrawnToldModel", "termOf", "(III)I"⟩, ⟨"DrawnToldModel", "term", "(III)I"⟩, ⟨"DrawnToldModel", "takeOff", "(IZ)I"⟩, ⟨"DrawnToldModel", "power", "(JIJ)J"⟩, ⟨"DrawnToldModel", "rest", "(JJ)J"⟩, ⟨"DrawnToldModel", "rankBy", "(IZI)I"⟩, ⟨"DrawnToldModel", "bringDown", "(IIIII)V"⟩, ⟨"DrawnToldModel", "rank", "(IZ)I"⟩, ⟨"DrawnToldModel", "against", "(II)I"⟩, ⟨"DrawnToldModel", "judge", "()V"⟩, ⟨"DrawnToldModel", "sort", "(I)I"⟩, ⟨"DrawnToldModel", "madeOf", "(I)I"⟩, ⟨"DrawnToldModel", "howMany", "(I)I"⟩, ⟨"DrawnToldModel", "tellings", "(I)I"⟩, ⟨"DrawnToldModel", "solve", "(I)J"⟩, ⟨"DrawnToldModel", "clearOut", "(II)V"⟩, ⟨"DrawnToldModel", "off", "(I)I"⟩, ⟨"DrawnToldModel", "place", "(II)V"⟩, ⟨"DrawnToldModel", "zero", "(I)V"⟩, ⟨"DrawnToldModel", "copy", "(II)V"⟩, ⟨"DrawnToldModel", "timesAnd", "(IJJ)V"⟩, ⟨"DrawnToldModel", "compare", "(II)I"⟩, ⟨"DrawnToldModel", "less", "(II)V"⟩, ⟨"DrawnToldModel", "limbs", "(I)I"⟩, ⟨"DrawnToldModel", "putTogether", "([JI)I"⟩, ⟨"DrawnToldModel", "divide", "(III)V"⟩, ⟨"DrawnToldModel", "reduce", "()V"⟩, ⟨"DrawnToldModel", "fixed", "(I)I"⟩, ⟨"DrawnToldModel", "question", "(I)I"⟩]
def mm_b4 : List ByteArray := [prog_12_method_8_code, prog_12_method_9_code, prog_12_method_10_code, prog_12_method_11_code, prog_12_method_12_code, prog_12_method_13_code, prog_12_method_14_code, prog_12_method_15_code, prog_12_method_16_code, prog_12_method_17_code, prog_12_method_18_code, prog_12_method_19_code, prog_12_method_20_code, prog_12_method_21_code, prog_12_method_22_code, prog_12_method_23_code, prog_12_method_24_code, prog_12_method_25_code, prog_12_method_26_code, prog_12_method_27_code, prog_12_method_28_code, prog_12_method_29_code, prog_12_method_30_code, prog_12_method_31_code, prog_12_method_32_code, prog_12_method_33_code, prog_12_method_34_code, prog_12_method_35_code, prog_12_method_36_code, prog_12_method_37_code]
def mm_y5 : List MethodName := [⟨"DrawnToldModel", "ask", "(II)I"⟩, ⟨"DrawnToldModel", "holds", "()I"⟩, ⟨"DrawnToldModel", "nearest", "(I)I"⟩, ⟨"DrawnToldModel", "strain", "()I"⟩, ⟨"DrawnToldModel", "drag", "(IIII)I"⟩, ⟨"DrawnToldModel", "sign", "(I)I"⟩, ⟨"DrawnToldModel", "limb", "(II)I"⟩, ⟨"DrawnToldModel", "barOf", "(II)I"⟩, ⟨"DrawnToldModel", "bar", "(II)I"⟩, ⟨"DrawnToldModel", "isIndependent", "(I)Z"⟩, ⟨"DrawnToldModel", "countBars", "()V"⟩, ⟨"DrawnToldModel", "sortOf", "(I)I"⟩, ⟨"DrawnToldModel", "bars", "(I)I"⟩, ⟨"DrawnToldModel", "round", "(I)I"⟩, ⟨"DrawnToldModel", "isKept", "(II)Z"⟩, ⟨"DrawnToldModel", "isPair", "(II)Z"⟩, ⟨"DrawnToldModel", "kept", "(II)I"⟩, ⟨"DrawnToldModel", "piece", "(II)I"⟩, ⟨"DrawnToldModel", "fixes", "(I)I"⟩, ⟨"DrawnToldModel", "barsAt", "(II)I"⟩, ⟨"DrawnToldModel", "build", "()I"⟩, ⟨"DrawnToldModel", "order", "(I)I"⟩, ⟨"DrawnToldModel", "whole", "()I"⟩, ⟨"DrawnToldModel", "count", "(I)I"⟩, ⟨"DrawnToldModel", "add", "(J)V"⟩, ⟨"DrawnToldModel", "addTerms", "(I)V"⟩, ⟨"DrawnToldModel", "digest", "()J"⟩, ⟨"java/lang/Integer", "bitCount", "(I)I"⟩, ⟨"DrawnToldLaw", "law", "([I)Z"⟩]
def mm_b5 : List ByteArray := [prog_12_method_38_code, prog_12_method_39_code, prog_12_method_40_code, prog_12_method_41_code, prog_12_method_42_code, prog_12_method_43_code, prog_12_method_44_code, prog_12_method_45_code, prog_12_method_46_code, prog_12_method_47_code, prog_12_method_48_code, prog_12_method_49_code, prog_12_method_50_code, prog_12_method_51_code, prog_12_method_52_code, prog_12_method_53_code, prog_12_method_54_code, prog_12_method_55_code, prog_12_method_56_code, prog_12_method_57_code, prog_12_method_58_code, prog_12_method_59_code, prog_12_method_60_code, prog_12_method_61_code, prog_12_method_62_code, prog_12_method_63_code, prog_12_method_64_code, prog_13_method_49_code, code]
def mm_y : List MethodName := mm_y0 ++ mm_y1 ++ mm_y2 ++ mm_y3 ++ mm_y4 ++ mm_y5
def mm_b : List ByteArray := mm_b0 ++ mm_b1 ++ mm_b2 ++ mm_b3 ++ mm_b4 ++ mm_b5
end
section
/-! the code of the methods: place, instruction, its length, the place that it may go to -/
def kd_Ba_init : List (Nat × Instr × Nat × Nat) := [(0, .aload_n 0, 1, 0), (1, .invokespecial 3, 3, 0), (4, .aload_n 0, 1, 0), (5, .bipush 16, 2, 0), (7, .bipush 16, 2, 0), (9, .multianewarray 9 2, 4, 0), (13, .putfield 11, 3, 0), (16, .aload_n 0, 1, 0), (17, .bipush 16, 2, 0), (19, .newarray .int, 2, 0), (21, .putfield 16, 3, 0), (24, .aload_n 0, 1, 0), (25, .bipush 17, 2, 0), (27, .bipush 17, 2, 0), (29, .multianewarray 20 2, 4, 0), (33, .putfield 22, 3, 0), (36, .aload_n 0, 1, 0), (37, .bipush 17, 2, 0), (39, .bipush 17, 2, 0), (41, .multianewarray 20 2, 4, 0), (45, .putfield 25, 3, 0), (48, .aload_n 0, 1, 0), (49, .iconst 4, 1, 0), (50, .newarray .long, 2, 0), (52, .putfield 30, 3, 0), (55, .aload_n 0, 1, 0), (56, .iconst 4, 1, 0), (57, .newarray .long, 2, 0), (59, .putfield 34, 3, 0), (62, .aload_n 0, 1, 0), (63, .iconst 4, 1, 0), (64, .newarray .long, 2, 0), (66, .putfield 37, 3, 0), (69, .return_, 1, 0)]
def kd_Ba_clear : List (Nat × Instr × Nat × Nat) := [(0, .aload_n 0, 1, 0), (1, .iconst 0, 1, 0), (2, .putfield 40, 3, 0), (5, .return_, 1, 0)]
def kd_Ba_add : List (Nat × Instr × Nat × Nat) := [(0, .aload_n 0, 1, 0), (1, .getfield 40, 3, 0), (4, .bipush 16, 2, 0), (6, .if_icmp .lt 4, 3, 10), (9, .return_, 1, 0), (10, .aload_n 0, 1, 0), (11, .getfield 11, 3, 0), (14, .aload_n 0, 1, 0), (15, .getfield 40, 3, 0), (18, .aaload, 1, 0), (19, .astore_n 3, 1, 0), (20, .iconst 0, 1, 0), (21, .istore 4, 2, 0), (23, .iload 4, 2, 0), (25, .bipush 16, 2, 0), (27, .if_icmp .ge 14, 3, 41), (30, .aload_n 3, 1, 0), (31, .iload 4, 2, 0), (33, .iconst 0, 1, 0), (34, .iastore, 1, 0), (35, .iinc 4 1, 3, 0), (38, .goto (-15), 3, 23), (41, .aload_n 1, 1, 0), (42, .getfield 44, 3, 0), (45, .istore 4, 2, 0), (47, .iconst 0, 1, 0), (48, .istore 5, 2, 0), (50, .iload 5, 2, 0), (52, .aload_n 1, 1, 0), (53, .getfield 49, 3, 0), (56, .if_icmp .ge 46, 3, 102), (59, .aload_n 1, 1, 0), (60, .getfield 50, 3, 0), (63, .iload 5, 2, 0), (65, .iaload, 1, 0), (66, .istore 6, 2, 0), (68, .aload_n 3, 1, 0), (69, .iload 6, 2, 0), (71, .aload_n 1, 1, 0), (72, .getfield 53, 3, 0), (75, .iload 5, 2, 0), (77, .iaload, 1, 0), (78, .iastore, 1, 0), (79, .iload 4, 2, 0), (81, .aload_n 1, 1, 0), (82, .getfield 53, 3, 0), (85, .iload 5, 2, 0), (87, .iaload, 1, 0), (88, .aload_n 2, 1, 0), (89, .iload 6, 2, 0), (91, .iaload, 1, 0), (92, .imul, 1, 0), (93, .isub, 1, 0), (94, .istore 4, 2, 0), (96, .iinc 5 1, 3, 0), (99, .goto (-49), 3, 50), (102, .aload_n 0, 1, 0), (103, .getfield 16, 3, 0), (106, .aload_n 0, 1, 0), (107, .getfield 40, 3, 0), (110, .iload 4, 2, 0), (112, .iastore, 1, 0), (113, .aload_n 0, 1, 0), (114, .dup, 1, 0), (115, .getfield 40, 3, 0), (118, .iconst 1, 1, 0), (119, .iadd, 1, 0), (120, .putfield 40, 3, 0), (123, .return_, 1, 0)]
def kd_Ba_aimAt : List (Nat × Instr × Nat × Nat) := [(0, .aload_n 0, 1, 0), (1, .iload_n 2, 1, 0), (2, .invokevirtual 55, 3, 0), (5, .iconst 0, 1, 0), (6, .istore_n 3, 1, 0), (7, .iload_n 3, 1, 0), (8, .aload_n 0, 1, 0), (9, .getfield 40, 3, 0), (12, .if_icmp .ge 30, 3, 42), (15, .aload_n 0, 1, 0), (16, .getfield 22, 3, 0), (19, .aload_n 0, 1, 0), (20, .getfield 40, 3, 0), (23, .aaload, 1, 0), (24, .iload_n 3, 1, 0), (25, .aload_n 0, 1, 0), (26, .getfield 11, 3, 0), (29, .iload_n 3, 1, 0), (30, .aaload, 1, 0), (31, .iload_n 1, 1, 0), (32, .iaload, 1, 0), (33, .ineg, 1, 0), (34, .i2l, 1, 0), (35, .lastore, 1, 0), (36, .iinc 3 1, 3, 0), (39, .goto (-32), 3, 7), (42, .return_, 1, 0)]
def kd_Ba_aimAtStrain : List (Nat × Instr × Nat × Nat) := [(0, .aload_n 0, 1, 0), (1, .iconst 0, 1, 0), (2, .invokevirtual 55, 3, 0), (5, .iconst 0, 1, 0), (6, .istore_n 1, 1, 0), (7, .iload_n 1, 1, 0), (8, .aload_n 0, 1, 0), (9, .getfield 40, 3, 0), (12, .if_icmp .ge 28, 3, 40), (15, .aload_n 0, 1, 0), (16, .getfield 22, 3, 0), (19, .aload_n 0, 1, 0), (20, .getfield 40, 3, 0), (23, .aaload, 1, 0), (24, .iload_n 1, 1, 0), (25, .aload_n 0, 1, 0), (26, .getfield 16, 3, 0), (29, .iload_n 1, 1, 0), (30, .iaload, 1, 0), (31, .ineg, 1, 0), (32, .i2l, 1, 0), (33, .lastore, 1, 0), (34, .iinc 1 1, 3, 0), (37, .goto (-30), 3, 7), (40, .return_, 1, 0)]
def kd_Ba_fillTable : List (Nat × Instr × Nat × Nat) := [(0, .iconst 0, 1, 0), (1, .istore_n 2, 1, 0), (2, .iload_n 2, 1, 0), (3, .aload_n 0, 1, 0), (4, .getfield 40, 3, 0), (7, .if_icmp .ge 79, 3, 86), (10, .iconst 0, 1, 0), (11, .istore_n 3, 1, 0), (12, .iload_n 3, 1, 0), (13, .iload_n 2, 1, 0), (14, .if_icmp .gt 48, 3, 62), (17, .aload_n 0, 1, 0), (18, .getfield 11, 3, 0), (21, .iload_n 2, 1, 0), (22, .aaload, 1, 0), (23, .aload_n 0, 1, 0), (24, .getfield 11, 3, 0), (27, .iload_n 3, 1, 0), (28, .aaload, 1, 0), (29, .invokestatic 59, 3, 0), (32, .istore 4, 2, 0), (34, .aload_n 0, 1, 0), (35, .getfield 22, 3, 0), (38, .iload_n 2, 1, 0), (39, .aaload, 1, 0), (40, .iload_n 3, 1, 0), (41, .iload 4, 2, 0), (43, .i2l, 1, 0), (44, .lastore, 1, 0), (45, .aload_n 0, 1, 0), (46, .getfield 22, 3, 0), (49, .iload_n 3, 1, 0), (50, .aaload, 1, 0), (51, .iload_n 2, 1, 0), (52, .iload 4, 2, 0), (54, .i2l, 1, 0), (55, .lastore, 1, 0), (56, .iinc 3 1, 3, 0), (59, .goto (-47), 3, 12), (62, .aload_n 0, 1, 0), (63, .getfield 22, 3, 0), (66, .iload_n 2, 1, 0), (67, .aaload, 1, 0), (68, .aload_n 0, 1, 0), (69, .getfield 40, 3, 0), (72, .aload_n 0, 1, 0), (73, .getfield 16, 3, 0), (76, .iload_n 2, 1, 0), (77, .iaload, 1, 0), (78, .i2l, 1, 0), (79, .lastore, 1, 0), (80, .iinc 2 1, 3, 0), (83, .goto (-81), 3, 2), (86, .aload_n 0, 1, 0), (87, .getfield 22, 3, 0), (90, .aload_n 0, 1, 0), (91, .getfield 40, 3, 0), (94, .aaload, 1, 0), (95, .aload_n 0, 1, 0), (96, .getfield 40, 3, 0), (99, .iload_n 1, 1, 0), (100, .i2l, 1, 0), (101, .lastore, 1, 0), (102, .return_, 1, 0)]
def kd_Ba_dot : List (Nat × Instr × Nat × Nat) := [(0, .iconst 0, 1, 0), (1, .istore_n 2, 1, 0), (2, .iconst 0, 1, 0), (3, .istore_n 3, 1, 0), (4, .iload_n 3, 1, 0), (5, .bipush 16, 2, 0), (7, .if_icmp .ge 19, 3, 26), (10, .iload_n 2, 1, 0), (11, .aload_n 0, 1, 0), (12, .iload_n 3, 1, 0), (13, .iaload, 1, 0), (14, .aload_n 1, 1, 0), (15, .iload_n 3, 1, 0), (16, .iaload, 1, 0), (17, .imul, 1, 0), (18, .iadd, 1, 0), (19, .istore_n 2, 1, 0), (20, .iinc 3 1, 3, 0), (23, .goto (-19), 3, 4), (26, .iload_n 2, 1, 0), (27, .ireturn, 1, 0)]
def kd_Ba_settle : List (Nat × Instr × Nat × Nat) := [(0, .iconst 0, 1, 0), (1, .istore_n 2, 1, 0), (2, .iconst 0, 1, 0), (3, .istore_n 3, 1, 0), (4, .iload_n 3, 1, 0), (5, .getstatic 63, 3, 0), (8, .arraylength, 1, 0), (9, .if_icmp .ge 83, 3, 92), (12, .iload_n 2, 1, 0), (13, .iconst 4, 1, 0), (14, .if_icmp .ge 78, 3, 92), (17, .getstatic 63, 3, 0), (20, .iload_n 3, 1, 0), (21, .laload, 1, 0), (22, .lstore 4, 2, 0), (24, .aload_n 0, 1, 0), (25, .lload 4, 2, 0), (27, .invokevirtual 66, 3, 0), (30, .lstore 6, 2, 0), (32, .lload 6, 2, 0), (34, .lconst 0, 1, 0), (35, .lcmp, 1, 0), (36, .ifCond .eq 50, 3, 86), (39, .aload_n 0, 1, 0), (40, .getfield 30, 3, 0), (43, .iload_n 2, 1, 0), (44, .lload 4, 2, 0), (46, .lastore, 1, 0), (47, .aload_n 0, 1, 0), (48, .getfield 37, 3, 0), (51, .iload_n 2, 1, 0), (52, .lload 6, 2, 0), (54, .lastore, 1, 0), (55, .aload_n 0, 1, 0), (56, .getfield 34, 3, 0), (59, .iload_n 2, 1, 0), (60, .lload 6, 2, 0), (62, .aload_n 0, 1, 0), (63, .getfield 25, 3, 0), (66, .aload_n 0, 1, 0), (67, .getfield 40, 3, 0), (70, .aaload, 1, 0), (71, .aload_n 0, 1, 0), (72, .getfield 40, 3, 0), (75, .laload, 1, 0), (76, .lmul, 1, 0), (77, .lload 4, 2, 0), (79, .invokestatic 70, 3, 0), (82, .lastore, 1, 0), (83, .iinc 2 1, 3, 0), (86, .iinc 3 1, 3, 0), (89, .goto (-85), 3, 4), (92, .aload_n 1, 1, 0), (93, .aload_n 0, 1, 0), (94, .getfield 34, 3, 0), (97, .aload_n 0, 1, 0), (98, .getfield 37, 3, 0), (101, .aload_n 0, 1, 0), (102, .getfield 30, 3, 0), (105, .invokevirtual 76, 3, 0), (108, .return_, 1, 0)]
def kd_Ba_clearTable : List (Nat × Instr × Nat × Nat) := [(0, .aload_n 0, 1, 0), (1, .lload_n 1, 1, 0), (2, .invokevirtual 82, 3, 0), (5, .lconst 1, 1, 0), (6, .lstore_n 3, 1, 0), (7, .iconst 0, 1, 0), (8, .istore 5, 2, 0), (10, .iload 5, 2, 0), (12, .aload_n 0, 1, 0), (13, .getfield 40, 3, 0), (16, .if_icmp .ge 68, 3, 84), (19, .aload_n 0, 1, 0), (20, .iload 5, 2, 0), (22, .invokevirtual 86, 3, 0), (25, .istore 6, 2, 0), (27, .iload 6, 2, 0), (29, .iconst (-1), 1, 0), (30, .if_icmp .ne 5, 3, 35), (33, .lconst 0, 1, 0), (34, .lreturn, 1, 0), (35, .iload 6, 2, 0), (37, .iload 5, 2, 0), (39, .if_icmp .eq 15, 3, 54), (42, .aload_n 0, 1, 0), (43, .iload 6, 2, 0), (45, .iload 5, 2, 0), (47, .invokevirtual 90, 3, 0), (50, .lload_n 1, 1, 0), (51, .lload_n 3, 1, 0), (52, .lsub, 1, 0), (53, .lstore_n 3, 1, 0), (54, .lload_n 3, 1, 0), (55, .aload_n 0, 1, 0), (56, .getfield 25, 3, 0), (59, .iload 5, 2, 0), (61, .aaload, 1, 0), (62, .iload 5, 2, 0), (64, .laload, 1, 0), (65, .lmul, 1, 0), (66, .lload_n 1, 1, 0), (67, .invokestatic 70, 3, 0), (70, .lstore_n 3, 1, 0), (71, .aload_n 0, 1, 0), (72, .iload 5, 2, 0), (74, .lload_n 1, 1, 0), (75, .invokevirtual 94, 3, 0), (78, .iinc 5 1, 3, 0), (81, .goto (-71), 3, 10), (84, .lload_n 3, 1, 0), (85, .lreturn, 1, 0)]
def kd_Ba_fillWork : List (Nat × Instr × Nat × Nat) := [(0, .iconst 0, 1, 0), (1, .istore_n 3, 1, 0), (2, .iload_n 3, 1, 0), (3, .aload_n 0, 1, 0), (4, .getfield 40, 3, 0), (7, .if_icmp .gt 49, 3, 56), (10, .iconst 0, 1, 0), (11, .istore 4, 2, 0), (13, .iload 4, 2, 0), (15, .aload_n 0, 1, 0), (16, .getfield 40, 3, 0), (19, .if_icmp .gt 31, 3, 50), (22, .aload_n 0, 1, 0), (23, .getfield 25, 3, 0), (26, .iload_n 3, 1, 0), (27, .aaload, 1, 0), (28, .iload 4, 2, 0), (30, .aload_n 0, 1, 0), (31, .getfield 22, 3, 0), (34, .iload_n 3, 1, 0), (35, .aaload, 1, 0), (36, .iload 4, 2, 0), (38, .laload, 1, 0), (39, .lload_n 1, 1, 0), (40, .invokestatic 70, 3, 0), (43, .lastore, 1, 0), (44, .iinc 4 1, 3, 0), (47, .goto (-34), 3, 13), (50, .iinc 3 1, 3, 0), (53, .goto (-51), 3, 2), (56, .return_, 1, 0)]
def kd_Ba_findRow : List (Nat × Instr × Nat × Nat) := [(0, .iload_n 1, 1, 0), (1, .istore_n 2, 1, 0), (2, .iload_n 2, 1, 0), (3, .aload_n 0, 1, 0), (4, .getfield 40, 3, 0), (7, .if_icmp .ge 24, 3, 31), (10, .aload_n 0, 1, 0), (11, .getfield 25, 3, 0), (14, .iload_n 2, 1, 0), (15, .aaload, 1, 0), (16, .iload_n 1, 1, 0), (17, .laload, 1, 0), (18, .lconst 0, 1, 0), (19, .lcmp, 1, 0), (20, .ifCond .eq 5, 3, 25), (23, .iload_n 2, 1, 0), (24, .ireturn, 1, 0), (25, .iinc 2 1, 3, 0), (28, .goto (-26), 3, 2), (31, .iconst (-1), 1, 0), (32, .ireturn, 1, 0)]
def kd_Ba_swapRows : List (Nat × Instr × Nat × Nat) := [(0, .aload_n 0, 1, 0), (1, .getfield 25, 3, 0), (4, .iload_n 1, 1, 0), (5, .aaload, 1, 0), (6, .astore_n 3, 1, 0), (7, .aload_n 0, 1, 0), (8, .getfield 25, 3, 0), (11, .iload_n 1, 1, 0), (12, .aload_n 0, 1, 0), (13, .getfield 25, 3, 0), (16, .iload_n 2, 1, 0), (17, .aaload, 1, 0), (18, .aastore, 1, 0), (19, .aload_n 0, 1, 0), (20, .getfield 25, 3, 0), (23, .iload_n 2, 1, 0), (24, .aload_n 3, 1, 0), (25, .aastore, 1, 0), (26, .return_, 1, 0)]
def kd_Ba_clearBelow : List (Nat × Instr × Nat × Nat) := [(0, .aload_n 0, 1, 0), (1, .getfield 25, 3, 0), (4, .iload_n 1, 1, 0), (5, .aaload, 1, 0), (6, .iload_n 1, 1, 0), (7, .laload, 1, 0), (8, .lload_n 2, 1, 0), (9, .invokestatic 98, 3, 0), (12, .lstore 4, 2, 0), (14, .iload_n 1, 1, 0), (15, .iconst 1, 1, 0), (16, .iadd, 1, 0), (17, .istore 6, 2, 0), (19, .iload 6, 2, 0), (21, .aload_n 0, 1, 0), (22, .getfield 40, 3, 0), (25, .if_icmp .gt 66, 3, 91), (28, .aload_n 0, 1, 0), (29, .getfield 25, 3, 0), (32, .iload 6, 2, 0), (34, .aaload, 1, 0), (35, .iload_n 1, 1, 0), (36, .laload, 1, 0), (37, .lstore 7, 2, 0), (39, .lload 7, 2, 0), (41, .lconst 0, 1, 0), (42, .lcmp, 1, 0), (43, .ifCond .eq 42, 3, 85), (46, .lload_n 2, 1, 0), (47, .lload 7, 2, 0), (49, .lsub, 1, 0), (50, .lload 4, 2, 0), (52, .lmul, 1, 0), (53, .lload_n 2, 1, 0), (54, .invokestatic 70, 3, 0), (57, .lstore 9, 2, 0), (59, .aload_n 0, 1, 0), (60, .getfield 25, 3, 0), (63, .iload 6, 2, 0), (65, .aaload, 1, 0), (66, .aload_n 0, 1, 0), (67, .getfield 25, 3, 0), (70, .iload_n 1, 1, 0), (71, .aaload, 1, 0), (72, .lload 9, 2, 0), (74, .lload_n 2, 1, 0), (75, .iload_n 1, 1, 0), (76, .aload_n 0, 1, 0), (77, .getfield 40, 3, 0), (80, .iconst 1, 1, 0), (81, .iadd, 1, 0), (82, .invokestatic 101, 3, 0), (85, .iinc 6 1, 3, 0), (88, .goto (-69), 3, 19), (91, .return_, 1, 0)]
def kd_Ck_remainder : List (Nat × Instr × Nat × Nat) := [(0, .lload_n 2, 1, 0), (1, .ldc2_w 7, 3, 0), (4, .lcmp, 1, 0), (5, .ifCond .ge 5, 3, 10), (8, .lconst 0, 1, 0), (9, .lreturn, 1, 0), (10, .lload_n 0, 1, 0), (11, .lload_n 2, 1, 0), (12, .lrem, 1, 0), (13, .lstore 4, 2, 0), (15, .lload 4, 2, 0), (17, .lconst 0, 1, 0), (18, .lcmp, 1, 0), (19, .ifCond .ge 10, 3, 29), (22, .lload 4, 2, 0), (24, .lload_n 2, 1, 0), (25, .ladd, 1, 0), (26, .goto 5, 3, 31), (29, .lload 4, 2, 0), (31, .lreturn, 1, 0)]
def kd_Ck_inverse : List (Nat × Instr × Nat × Nat) := [(0, .lload_n 2, 1, 0), (1, .lstore 4, 2, 0), (3, .lload_n 0, 1, 0), (4, .lstore 6, 2, 0), (6, .lconst 0, 1, 0), (7, .lstore 8, 2, 0), (9, .lconst 1, 1, 0), (10, .lstore 10, 2, 0), (12, .iconst 0, 1, 0), (13, .istore 12, 2, 0), (15, .iload 12, 2, 0), (17, .bipush 64, 2, 0), (19, .if_icmp .ge 59, 3, 78), (22, .lload 6, 2, 0), (24, .lconst 0, 1, 0), (25, .lcmp, 1, 0), (26, .ifCond .le 52, 3, 78), (29, .lload 4, 2, 0), (31, .lload 6, 2, 0), (33, .ldiv, 1, 0), (34, .lstore 13, 2, 0), (36, .lload 4, 2, 0), (38, .lload 13, 2, 0), (40, .lload 6, 2, 0), (42, .lmul, 1, 0), (43, .lsub, 1, 0), (44, .lstore 15, 2, 0), (46, .lload 8, 2, 0), (48, .lload 13, 2, 0), (50, .lload 10, 2, 0), (52, .lmul, 1, 0), (53, .lsub, 1, 0), (54, .lstore 17, 2, 0), (56, .lload 6, 2, 0), (58, .lstore 4, 2, 0), (60, .lload 15, 2, 0), (62, .lstore 6, 2, 0), (64, .lload 10, 2, 0), (66, .lstore 8, 2, 0), (68, .lload 17, 2, 0), (70, .lstore 10, 2, 0), (72, .iinc 12 1, 3, 0), (75, .goto (-60), 3, 15), (78, .lload 8, 2, 0), (80, .lconst 0, 1, 0), (81, .lcmp, 1, 0), (82, .ifCond .ge 10, 3, 92), (85, .lload 8, 2, 0), (87, .lload_n 2, 1, 0), (88, .ladd, 1, 0), (89, .goto 5, 3, 94), (92, .lload 8, 2, 0), (94, .lreturn, 1, 0)]
def kd_Ck_addTimes : List (Nat × Instr × Nat × Nat) := [(0, .lload 4, 2, 0), (2, .ldc2_w 7, 3, 0), (5, .lcmp, 1, 0), (6, .ifCond .lt 22, 3, 28), (9, .iload 6, 2, 0), (11, .ifCond .lt 17, 3, 28), (14, .iload 7, 2, 0), (16, .aload_n 0, 1, 0), (17, .arraylength, 1, 0), (18, .if_icmp .gt 10, 3, 28), (21, .iload 7, 2, 0), (23, .aload_n 1, 1, 0), (24, .arraylength, 1, 0), (25, .if_icmp .le 4, 3, 29), (28, .return_, 1, 0), (29, .iload 6, 2, 0), (31, .istore 8, 2, 0), (33, .iload 8, 2, 0), (35, .iload 7, 2, 0), (37, .if_icmp .ge 27, 3, 64), (40, .aload_n 0, 1, 0), (41, .iload 8, 2, 0), (43, .aload_n 0, 1, 0), (44, .iload 8, 2, 0), (46, .laload, 1, 0), (47, .lload_n 2, 1, 0), (48, .aload_n 1, 1, 0), (49, .iload 8, 2, 0), (51, .laload, 1, 0), (52, .lmul, 1, 0), (53, .ladd, 1, 0), (54, .lload 4, 2, 0), (56, .lrem, 1, 0), (57, .lastore, 1, 0), (58, .iinc 8 1, 3, 0), (61, .goto (-28), 3, 33), (64, .return_, 1, 0)]
def kd_Fr_init : List (Nat × Instr × Nat × Nat) := [(0, .aload_n 0, 1, 0), (1, .invokespecial 1, 3, 0), (4, .aload_n 0, 1, 0), (5, .iconst 5, 1, 0), (6, .newarray .long, 2, 0), (8, .putfield 9, 3, 0), (11, .aload_n 0, 1, 0), (12, .iconst 5, 1, 0), (13, .newarray .long, 2, 0), (15, .putfield 15, 3, 0), (18, .aload_n 0, 1, 0), (19, .iconst 5, 1, 0), (20, .newarray .long, 2, 0), (22, .putfield 18, 3, 0), (25, .aload_n 0, 1, 0), (26, .iconst 5, 1, 0), (27, .newarray .long, 2, 0), (29, .putfield 21, 3, 0), (32, .aload_n 0, 1, 0), (33, .new 24, 3, 0), (36, .dup, 1, 0), (37, .invokespecial 26, 3, 0), (40, .putfield 27, 3, 0), (43, .aload_n 0, 1, 0), (44, .getfield 15, 3, 0), (47, .iconst 0, 1, 0), (48, .lconst 1, 1, 0), (49, .lastore, 1, 0), (50, .return_, 1, 0)]
def kd_Fr_become : List (Nat × Instr × Nat × Nat) := [(0, .aload_n 0, 1, 0), (1, .aload_n 0, 1, 0), (2, .getfield 27, 3, 0), (5, .aload_n 1, 1, 0), (6, .aload_n 3, 1, 0), (7, .aload_n 0, 1, 0), (8, .getfield 9, 3, 0), (11, .invokevirtual 31, 3, 0), (14, .putfield 35, 3, 0), (17, .aload_n 0, 1, 0), (18, .getfield 27, 3, 0), (21, .aload_n 2, 1, 0), (22, .aload_n 3, 1, 0), (23, .aload_n 0, 1, 0), (24, .getfield 15, 3, 0), (27, .invokevirtual 31, 3, 0), (30, .pop, 1, 0), (31, .aload_n 0, 1, 0), (32, .getfield 35, 3, 0), (35, .ifCond .ne 18, 3, 53), (38, .aload_n 0, 1, 0), (39, .getfield 15, 3, 0), (42, .invokestatic 39, 3, 0), (45, .aload_n 0, 1, 0), (46, .getfield 15, 3, 0), (49, .iconst 0, 1, 0), (50, .lconst 1, 1, 0), (51, .lastore, 1, 0), (52, .return_, 1, 0), (53, .aload_n 0, 1, 0), (54, .invokevirtual 43, 3, 0), (57, .aload_n 0, 1, 0), (58, .invokevirtual 46, 3, 0), (61, .aload_n 0, 1, 0), (62, .getfield 9, 3, 0), (65, .aload_n 0, 1, 0), (66, .getfield 18, 3, 0), (69, .invokestatic 49, 3, 0), (72, .aload_n 0, 1, 0), (73, .getfield 15, 3, 0), (76, .aload_n 0, 1, 0), (77, .getfield 18, 3, 0), (80, .invokestatic 49, 3, 0), (83, .return_, 1, 0)]
def kd_Fr_halveBoth : List (Nat × Instr × Nat × Nat) := [(0, .iconst 0, 1, 0), (1, .istore_n 1, 1, 0), (2, .iload_n 1, 1, 0), (3, .sipush 150, 3, 0), (6, .if_icmp .ge 43, 3, 49), (9, .aload_n 0, 1, 0), (10, .getfield 9, 3, 0), (13, .iconst 0, 1, 0), (14, .laload, 1, 0), (15, .aload_n 0, 1, 0), (16, .getfield 15, 3, 0), (19, .iconst 0, 1, 0), (20, .laload, 1, 0), (21, .lor, 1, 0), (22, .lconst 1, 1, 0), (23, .land, 1, 0), (24, .lconst 0, 1, 0), (25, .lcmp, 1, 0), (26, .ifCond .ne 23, 3, 49), (29, .aload_n 0, 1, 0), (30, .getfield 9, 3, 0), (33, .invokestatic 53, 3, 0), (36, .aload_n 0, 1, 0), (37, .getfield 15, 3, 0), (40, .invokestatic 53, 3, 0), (43, .iinc 1 1, 3, 0), (46, .goto (-44), 3, 2), (49, .return_, 1, 0)]
def kd_Fr_findDivisor : List (Nat × Instr × Nat × Nat) := [(0, .aload_n 0, 1, 0), (1, .getfield 9, 3, 0), (4, .iconst 0, 1, 0), (5, .aload_n 0, 1, 0), (6, .getfield 18, 3, 0), (9, .iconst 0, 1, 0), (10, .iconst 5, 1, 0), (11, .invokestatic 56, 3, 0), (14, .aload_n 0, 1, 0), (15, .getfield 15, 3, 0), (18, .iconst 0, 1, 0), (19, .aload_n 0, 1, 0), (20, .getfield 21, 3, 0), (23, .iconst 0, 1, 0), (24, .iconst 5, 1, 0), (25, .invokestatic 56, 3, 0), (28, .aload_n 0, 1, 0), (29, .getfield 18, 3, 0), (32, .invokestatic 62, 3, 0), (35, .aload_n 0, 1, 0), (36, .getfield 21, 3, 0), (39, .invokestatic 62, 3, 0), (42, .iconst 0, 1, 0), (43, .istore_n 1, 1, 0), (44, .iload_n 1, 1, 0), (45, .sipush 300, 3, 0), (48, .if_icmp .ge 65, 3, 113), (51, .aload_n 0, 1, 0), (52, .getfield 18, 3, 0), (55, .aload_n 0, 1, 0), (56, .getfield 21, 3, 0), (59, .invokestatic 65, 3, 0), (62, .istore_n 2, 1, 0), (63, .iload_n 2, 1, 0), (64, .ifCond .ne 4, 3, 68), (67, .return_, 1, 0), (68, .iload_n 2, 1, 0), (69, .ifCond .le 10, 3, 79), (72, .aload_n 0, 1, 0), (73, .getfield 18, 3, 0), (76, .goto 7, 3, 83), (79, .aload_n 0, 1, 0), (80, .getfield 21, 3, 0), (83, .astore_n 3, 1, 0), (84, .aload_n 3, 1, 0), (85, .iload_n 2, 1, 0), (86, .ifCond .le 10, 3, 96), (89, .aload_n 0, 1, 0), (90, .getfield 21, 3, 0), (93, .goto 7, 3, 100), (96, .aload_n 0, 1, 0), (97, .getfield 18, 3, 0), (100, .invokestatic 69, 3, 0), (103, .aload_n 3, 1, 0), (104, .invokestatic 62, 3, 0), (107, .iinc 1 1, 3, 0), (110, .goto (-66), 3, 44), (113, .return_, 1, 0)]
def kd_Fr_digestOnto : List (Nat × Instr × Nat × Nat) := [(0, .aload_n 0, 1, 0), (1, .getfield 9, 3, 0), (4, .invokestatic 72, 3, 0), (7, .istore_n 3, 1, 0), (8, .aload_n 0, 1, 0), (9, .getfield 15, 3, 0), (12, .invokestatic 72, 3, 0), (15, .istore 4, 2, 0), (17, .ldc2_w 76, 3, 0), (20, .ldc2_w 76, 3, 0), (23, .ldc2_w 76, 3, 0), (26, .lload_n 1, 1, 0), (27, .lmul, 1, 0), (28, .aload_n 0, 1, 0), (29, .getfield 35, 3, 0), (32, .i2l, 1, 0), (33, .ladd, 1, 0), (34, .lmul, 1, 0), (35, .iload_n 3, 1, 0), (36, .i2l, 1, 0), (37, .ladd, 1, 0), (38, .lmul, 1, 0), (39, .iload 4, 2, 0), (41, .i2l, 1, 0), (42, .ladd, 1, 0), (43, .lstore 5, 2, 0), (45, .iconst 0, 1, 0), (46, .istore 7, 2, 0), (48, .iload 7, 2, 0), (50, .iload_n 3, 1, 0), (51, .if_icmp .ge 25, 3, 76), (54, .ldc2_w 76, 3, 0), (57, .lload 5, 2, 0), (59, .lmul, 1, 0), (60, .aload_n 0, 1, 0), (61, .getfield 9, 3, 0), (64, .iload 7, 2, 0), (66, .laload, 1, 0), (67, .ladd, 1, 0), (68, .lstore 5, 2, 0), (70, .iinc 7 1, 3, 0), (73, .goto (-25), 3, 48), (76, .iconst 0, 1, 0), (77, .istore 7, 2, 0), (79, .iload 7, 2, 0), (81, .iload 4, 2, 0), (83, .if_icmp .ge 25, 3, 108), (86, .ldc2_w 76, 3, 0), (89, .lload 5, 2, 0), (91, .lmul, 1, 0), (92, .aload_n 0, 1, 0), (93, .getfield 15, 3, 0), (96, .iload 7, 2, 0), (98, .laload, 1, 0), (99, .ladd, 1, 0), (100, .lstore 5, 2, 0), (102, .iinc 7 1, 3, 0), (105, .goto (-26), 3, 79), (108, .lload 5, 2, 0), (110, .lreturn, 1, 0)]
def kd_Fm_init : List (Nat × Instr × Nat × Nat) := [(0, .aload_n 0, 1, 0), (1, .invokespecial 3, 3, 0), (4, .aload_n 0, 1, 0), (5, .bipush 20, 2, 0), (7, .newarray .boolean, 2, 0), (9, .putfield 9, 3, 0), (12, .aload_n 0, 1, 0), (13, .bipush 8, 2, 0), (15, .newarray .int, 2, 0), (17, .putfield 15, 3, 0), (20, .aload_n 0, 1, 0), (21, .bipush 20, 2, 0), (23, .newarray .int, 2, 0), (25, .putfield 19, 3, 0), (28, .aload_n 0, 1, 0), (29, .bipush 20, 2, 0), (31, .newarray .int, 2, 0), (33, .putfield 22, 3, 0), (36, .aload_n 0, 1, 0), (37, .sipush 256, 3, 0), (40, .newarray .boolean, 2, 0), (42, .putfield 25, 3, 0), (45, .return_, 1, 0)]
def kd_Fm_pairOf : List (Nat × Instr × Nat × Nat) := [(0, .iconst 1, 1, 0), (1, .iload_n 0, 1, 0), (2, .ishl, 1, 0), (3, .iconst 1, 1, 0), (4, .iload_n 1, 1, 0), (5, .ishl, 1, 0), (6, .ior, 1, 0), (7, .ireturn, 1, 0)]
def kd_Fm_endsOf : List (Nat × Instr × Nat × Nat) := [(0, .aload_n 0, 1, 0), (1, .getfield 19, 3, 0), (4, .iload_n 1, 1, 0), (5, .iaload, 1, 0), (6, .aload_n 0, 1, 0), (7, .getfield 22, 3, 0), (10, .iload_n 1, 1, 0), (11, .iaload, 1, 0), (12, .invokestatic 28, 3, 0), (15, .ireturn, 1, 0)]
def kd_Fm_isInside : List (Nat × Instr × Nat × Nat) := [(0, .aload_n 0, 1, 0), (1, .iload_n 1, 1, 0), (2, .invokevirtual 32, 3, 0), (5, .iload_n 2, 1, 0), (6, .iconst (-1), 1, 0), (7, .ixor, 1, 0), (8, .iand, 1, 0), (9, .ifCond .ne 7, 3, 16), (12, .iconst 1, 1, 0), (13, .goto 4, 3, 17), (16, .iconst 0, 1, 0), (17, .ireturn, 1, 0)]
def kd_Fm_hasBar : List (Nat × Instr × Nat × Nat) := [(0, .iconst 0, 1, 0), (1, .istore_n 3, 1, 0), (2, .iload_n 3, 1, 0), (3, .aload_n 0, 1, 0), (4, .getfield 36, 3, 0), (7, .if_icmp .ge 24, 3, 31), (10, .aload_n 0, 1, 0), (11, .iload_n 3, 1, 0), (12, .invokevirtual 32, 3, 0), (15, .iload_n 1, 1, 0), (16, .iload_n 2, 1, 0), (17, .invokestatic 28, 3, 0), (20, .if_icmp .ne 5, 3, 25), (23, .iconst 1, 1, 0), (24, .ireturn, 1, 0), (25, .iinc 3 1, 3, 0), (28, .goto (-26), 3, 2), (31, .iconst 0, 1, 0), (32, .ireturn, 1, 0)]
def kd_Fm_add : List (Nat × Instr × Nat × Nat) := [(0, .aload_n 0, 1, 0), (1, .getfield 36, 3, 0), (4, .bipush 20, 2, 0), (6, .if_icmp .lt 4, 3, 10), (9, .return_, 1, 0), (10, .aload_n 0, 1, 0), (11, .getfield 19, 3, 0), (14, .aload_n 0, 1, 0), (15, .getfield 36, 3, 0), (18, .iload_n 1, 1, 0), (19, .iastore, 1, 0), (20, .aload_n 0, 1, 0), (21, .getfield 22, 3, 0), (24, .aload_n 0, 1, 0), (25, .getfield 36, 3, 0), (28, .iload_n 2, 1, 0), (29, .iastore, 1, 0), (30, .aload_n 0, 1, 0), (31, .getfield 9, 3, 0), (34, .aload_n 0, 1, 0), (35, .getfield 36, 3, 0), (38, .aload_n 0, 1, 0), (39, .iload_n 1, 1, 0), (40, .iload_n 2, 1, 0), (41, .invokevirtual 40, 3, 0), (44, .bastore, 1, 0), (45, .aload_n 0, 1, 0), (46, .dup, 1, 0), (47, .getfield 36, 3, 0), (50, .iconst 1, 1, 0), (51, .iadd, 1, 0), (52, .putfield 36, 3, 0), (55, .aload_n 0, 1, 0), (56, .getfield 9, 3, 0), (59, .aload_n 0, 1, 0), (60, .getfield 36, 3, 0), (63, .iconst 1, 1, 0), (64, .isub, 1, 0), (65, .baload, 1, 0), (66, .ifCond .ne 17, 3, 83), (69, .aload_n 0, 1, 0), (70, .dup, 1, 0), (71, .getfield 44, 3, 0), (74, .iconst 1, 1, 0), (75, .iadd, 1, 0), (76, .putfield 44, 3, 0), (79, .aload_n 0, 1, 0), (80, .invokevirtual 47, 3, 0), (83, .return_, 1, 0)]
def kd_Fm_findTightSets : List (Nat × Instr × Nat × Nat) := [(0, .iconst 0, 1, 0), (1, .istore_n 1, 1, 0), (2, .iload_n 1, 1, 0), (3, .sipush 256, 3, 0), (6, .if_icmp .ge 43, 3, 49), (9, .iload_n 1, 1, 0), (10, .invokestatic 50, 3, 0), (13, .istore_n 2, 1, 0), (14, .aload_n 0, 1, 0), (15, .getfield 25, 3, 0), (18, .iload_n 1, 1, 0), (19, .iload_n 2, 1, 0), (20, .iconst 2, 1, 0), (21, .if_icmp .lt 20, 3, 41), (24, .aload_n 0, 1, 0), (25, .iload_n 1, 1, 0), (26, .invokevirtual 55, 3, 0), (29, .iconst 2, 1, 0), (30, .iload_n 2, 1, 0), (31, .imul, 1, 0), (32, .iconst 3, 1, 0), (33, .isub, 1, 0), (34, .if_icmp .lt 7, 3, 41), (37, .iconst 1, 1, 0), (38, .goto 4, 3, 42), (41, .iconst 0, 1, 0), (42, .bastore, 1, 0), (43, .iinc 1 1, 3, 0), (46, .goto (-44), 3, 2), (49, .return_, 1, 0)]
def kd_Fm_newInside : List (Nat × Instr × Nat × Nat) := [(0, .iconst 0, 1, 0), (1, .istore_n 2, 1, 0), (2, .iconst 0, 1, 0), (3, .istore_n 3, 1, 0), (4, .iload_n 3, 1, 0), (5, .aload_n 0, 1, 0), (6, .getfield 36, 3, 0), (9, .if_icmp .ge 30, 3, 39), (12, .aload_n 0, 1, 0), (13, .getfield 9, 3, 0), (16, .iload_n 3, 1, 0), (17, .baload, 1, 0), (18, .ifCond .ne 15, 3, 33), (21, .aload_n 0, 1, 0), (22, .iload_n 3, 1, 0), (23, .iload_n 1, 1, 0), (24, .invokevirtual 58, 3, 0), (27, .ifCond .eq 6, 3, 33), (30, .iinc 2 1, 3, 0), (33, .iinc 3 1, 3, 0), (36, .goto (-32), 3, 4), (39, .iload_n 2, 1, 0), (40, .ireturn, 1, 0)]
def kd_Fm_keeps : List (Nat × Instr × Nat × Nat) := [(0, .iload_n 1, 1, 0), (1, .iload_n 2, 1, 0), (2, .invokestatic 28, 3, 0), (5, .istore_n 3, 1, 0), (6, .iconst 0, 1, 0), (7, .istore 4, 2, 0), (9, .iload 4, 2, 0), (11, .sipush 256, 3, 0), (14, .if_icmp .ge 30, 3, 44), (17, .aload_n 0, 1, 0), (18, .getfield 25, 3, 0), (21, .iload 4, 2, 0), (23, .baload, 1, 0), (24, .ifCond .eq 14, 3, 38), (27, .iload_n 3, 1, 0), (28, .iload 4, 2, 0), (30, .iconst (-1), 1, 0), (31, .ixor, 1, 0), (32, .iand, 1, 0), (33, .ifCond .ne 5, 3, 38), (36, .iconst 1, 1, 0), (37, .ireturn, 1, 0), (38, .iinc 4 1, 3, 0), (41, .goto (-32), 3, 9), (44, .iconst 0, 1, 0), (45, .ireturn, 1, 0)]
def kd_Fm_ringOf : List (Nat × Instr × Nat × Nat) := [(0, .sipush 255, 3, 0), (3, .istore_n 2, 1, 0), (4, .iconst 0, 1, 0), (5, .istore_n 3, 1, 0), (6, .iload_n 3, 1, 0), (7, .sipush 256, 3, 0), (10, .if_icmp .ge 31, 3, 41), (13, .aload_n 0, 1, 0), (14, .getfield 25, 3, 0), (17, .iload_n 3, 1, 0), (18, .baload, 1, 0), (19, .ifCond .eq 16, 3, 35), (22, .aload_n 0, 1, 0), (23, .iload_n 1, 1, 0), (24, .iload_n 3, 1, 0), (25, .invokevirtual 58, 3, 0), (28, .ifCond .eq 7, 3, 35), (31, .iload_n 2, 1, 0), (32, .iload_n 3, 1, 0), (33, .iand, 1, 0), (34, .istore_n 2, 1, 0), (35, .iinc 3 1, 3, 0), (38, .goto (-32), 3, 6), (41, .iconst 0, 1, 0), (42, .istore_n 3, 1, 0), (43, .iconst 0, 1, 0), (44, .istore 4, 2, 0), (46, .iload 4, 2, 0), (48, .aload_n 0, 1, 0), (49, .getfield 36, 3, 0), (52, .if_icmp .ge 36, 3, 88), (55, .aload_n 0, 1, 0), (56, .getfield 9, 3, 0), (59, .iload 4, 2, 0), (61, .baload, 1, 0), (62, .ifCond .ne 20, 3, 82), (65, .aload_n 0, 1, 0), (66, .iload 4, 2, 0), (68, .iload_n 2, 1, 0), (69, .invokevirtual 58, 3, 0), (72, .ifCond .eq 10, 3, 82), (75, .iload_n 3, 1, 0), (76, .iconst 1, 1, 0), (77, .iload 4, 2, 0), (79, .ishl, 1, 0), (80, .ior, 1, 0), (81, .istore_n 3, 1, 0), (82, .iinc 4 1, 3, 0), (85, .goto (-39), 3, 46), (88, .iload_n 3, 1, 0), (89, .ireturn, 1, 0)]
def kd_Fm_build : List (Nat × Instr × Nat × Nat) := [(0, .iconst 1, 1, 0), (1, .iload_n 1, 1, 0), (2, .ishl, 1, 0), (3, .iconst 1, 1, 0), (4, .isub, 1, 0), (5, .istore_n 2, 1, 0), (6, .iload_n 1, 1, 0), (7, .istore_n 3, 1, 0), (8, .iconst 0, 1, 0), (9, .istore 4, 2, 0), (11, .iload 4, 2, 0), (13, .bipush 8, 2, 0), (15, .if_icmp .ge 50, 3, 65), (18, .iload_n 3, 1, 0), (19, .iconst 2, 1, 0), (20, .if_icmp .le 45, 3, 65), (23, .aload_n 0, 1, 0), (24, .iload_n 2, 1, 0), (25, .invokevirtual 61, 3, 0), (28, .istore 5, 2, 0), (30, .iload 5, 2, 0), (32, .iconst (-1), 1, 0), (33, .if_icmp .ne 6, 3, 39), (36, .goto 29, 3, 65), (39, .iload_n 2, 1, 0), (40, .iconst 1, 1, 0), (41, .iload 5, 2, 0), (43, .ishl, 1, 0), (44, .iconst (-1), 1, 0), (45, .ixor, 1, 0), (46, .iand, 1, 0), (47, .istore_n 2, 1, 0), (48, .iinc 3 (-1), 3, 0), (51, .aload_n 0, 1, 0), (52, .getfield 15, 3, 0), (55, .iload_n 3, 1, 0), (56, .iload 5, 2, 0), (58, .iastore, 1, 0), (59, .iinc 4 1, 3, 0), (62, .goto (-51), 3, 11), (65, .iconst 0, 1, 0), (66, .istore 4, 2, 0), (68, .iconst 0, 1, 0), (69, .istore 5, 2, 0), (71, .iload 5, 2, 0), (73, .bipush 8, 2, 0), (75, .if_icmp .ge 30, 3, 105), (78, .iload_n 2, 1, 0), (79, .iconst 1, 1, 0), (80, .iload 5, 2, 0), (82, .ishl, 1, 0), (83, .iand, 1, 0), (84, .ifCond .eq 15, 3, 99), (87, .aload_n 0, 1, 0), (88, .getfield 15, 3, 0), (91, .iload 4, 2, 0), (93, .iload 5, 2, 0), (95, .iastore, 1, 0), (96, .iinc 4 1, 3, 0), (99, .iinc 5 1, 3, 0), (102, .goto (-31), 3, 71), (105, .iload_n 2, 1, 0), (106, .ireturn, 1, 0)]
def kd_Fm_findGoing : List (Nat × Instr × Nat × Nat) := [(0, .bipush 7, 2, 0), (2, .istore_n 2, 1, 0), (3, .iload_n 2, 1, 0), (4, .ifCond .lt 29, 3, 33), (7, .iload_n 1, 1, 0), (8, .iconst 1, 1, 0), (9, .iload_n 2, 1, 0), (10, .ishl, 1, 0), (11, .iand, 1, 0), (12, .ifCond .eq 15, 3, 27), (15, .aload_n 0, 1, 0), (16, .iload_n 2, 1, 0), (17, .iload_n 1, 1, 0), (18, .invokevirtual 64, 3, 0), (21, .iconst 2, 1, 0), (22, .if_icmp .gt 5, 3, 27), (25, .iload_n 2, 1, 0), (26, .ireturn, 1, 0), (27, .iinc 2 (-1), 3, 0), (30, .goto (-27), 3, 3), (33, .iconst (-1), 1, 0), (34, .ireturn, 1, 0)]
def kd_Fm_newAt : List (Nat × Instr × Nat × Nat) := [(0, .iconst 0, 1, 0), (1, .istore_n 3, 1, 0), (2, .iconst 0, 1, 0), (3, .istore 4, 2, 0), (5, .iload 4, 2, 0), (7, .aload_n 0, 1, 0), (8, .getfield 36, 3, 0), (11, .if_icmp .ge 45, 3, 56), (14, .aload_n 0, 1, 0), (15, .getfield 9, 3, 0), (18, .iload 4, 2, 0), (20, .baload, 1, 0), (21, .ifCond .ne 29, 3, 50), (24, .aload_n 0, 1, 0), (25, .iload 4, 2, 0), (27, .iload_n 2, 1, 0), (28, .invokevirtual 58, 3, 0), (31, .ifCond .eq 19, 3, 50), (34, .aload_n 0, 1, 0), (35, .iload 4, 2, 0), (37, .invokevirtual 32, 3, 0), (40, .iconst 1, 1, 0), (41, .iload_n 1, 1, 0), (42, .ishl, 1, 0), (43, .iand, 1, 0), (44, .ifCond .eq 6, 3, 50), (47, .iinc 3 1, 3, 0), (50, .iinc 4 1, 3, 0), (53, .goto (-48), 3, 5), (56, .iload_n 3, 1, 0), (57, .ireturn, 1, 0)]
def kd_Fm_digestOnto : List (Nat × Instr × Nat × Nat) := [(0, .lload_n 1, 1, 0), (1, .lstore_n 3, 1, 0), (2, .iconst 0, 1, 0), (3, .istore 5, 2, 0), (5, .iload 5, 2, 0), (7, .aload_n 0, 1, 0), (8, .getfield 36, 3, 0), (11, .if_icmp .ge 60, 3, 71), (14, .ldc2_w 67, 3, 0), (17, .ldc2_w 67, 3, 0), (20, .lload_n 3, 1, 0), (21, .lmul, 1, 0), (22, .aload_n 0, 1, 0), (23, .getfield 19, 3, 0), (26, .iload 5, 2, 0), (28, .iaload, 1, 0), (29, .i2l, 1, 0), (30, .ladd, 1, 0), (31, .lmul, 1, 0), (32, .aload_n 0, 1, 0), (33, .getfield 22, 3, 0), (36, .iload 5, 2, 0), (38, .iaload, 1, 0), (39, .i2l, 1, 0), (40, .ladd, 1, 0), (41, .lstore_n 3, 1, 0), (42, .ldc2_w 67, 3, 0), (45, .lload_n 3, 1, 0), (46, .lmul, 1, 0), (47, .aload_n 0, 1, 0), (48, .getfield 9, 3, 0), (51, .iload 5, 2, 0), (53, .baload, 1, 0), (54, .ifCond .eq 7, 3, 61), (57, .iconst 1, 1, 0), (58, .goto 4, 3, 62), (61, .iconst 0, 1, 0), (62, .i2l, 1, 0), (63, .ladd, 1, 0), (64, .lstore_n 3, 1, 0), (65, .iinc 5 1, 3, 0), (68, .goto (-63), 3, 5), (71, .lload_n 3, 1, 0), (72, .lreturn, 1, 0)]
def kd_Jo_init : List (Nat × Instr × Nat × Nat) := [(0, .aload_n 0, 1, 0), (1, .invokespecial 1, 3, 0), (4, .aload_n 0, 1, 0), (5, .iconst 4, 1, 0), (6, .newarray .long, 2, 0), (8, .putfield 9, 3, 0), (11, .return_, 1, 0)]
def kd_Jo_join : List (Nat × Instr × Nat × Nat) := [(0, .aload_n 0, 1, 0), (1, .aload_n 1, 1, 0), (2, .aload_n 2, 1, 0), (3, .iconst 1, 1, 0), (4, .invokevirtual 13, 3, 0), (7, .aload_n 0, 1, 0), (8, .getfield 9, 3, 0), (11, .iconst 3, 1, 0), (12, .laload, 1, 0), (13, .aload_n 2, 1, 0), (14, .iconst 3, 1, 0), (15, .laload, 1, 0), (16, .ldc2_w 17, 3, 0), (19, .ldiv, 1, 0), (20, .lcmp, 1, 0), (21, .ifCond .le 7, 3, 28), (24, .iconst 1, 1, 0), (25, .goto 4, 3, 29), (28, .iconst 0, 1, 0), (29, .istore 4, 2, 0), (31, .iload 4, 2, 0), (33, .ifCond .eq 10, 3, 43), (36, .aload_n 0, 1, 0), (37, .aload_n 1, 1, 0), (38, .aload_n 2, 1, 0), (39, .iconst (-1), 1, 0), (40, .invokevirtual 13, 3, 0), (43, .aload_n 3, 1, 0), (44, .invokestatic 19, 3, 0), (47, .iconst 3, 1, 0), (48, .istore 5, 2, 0), (50, .iload 5, 2, 0), (52, .ifCond .lt 24, 3, 76), (55, .aload_n 3, 1, 0), (56, .aload_n 2, 1, 0), (57, .iload 5, 2, 0), (59, .laload, 1, 0), (60, .aload_n 0, 1, 0), (61, .getfield 9, 3, 0), (64, .iload 5, 2, 0), (66, .laload, 1, 0), (67, .invokestatic 25, 3, 0), (70, .iinc 5 (-1), 3, 0), (73, .goto (-23), 3, 50), (76, .aload_n 3, 1, 0), (77, .invokestatic 29, 3, 0), (80, .ifCond .ne 5, 3, 85), (83, .iconst 0, 1, 0), (84, .ireturn, 1, 0), (85, .iload 4, 2, 0), (87, .ifCond .eq 7, 3, 94), (90, .iconst (-1), 1, 0), (91, .goto 4, 3, 95), (94, .iconst 1, 1, 0), (95, .ireturn, 1, 0)]
def kd_Jo_findDigits : List (Nat × Instr × Nat × Nat) := [(0, .iconst 0, 1, 0), (1, .istore 4, 2, 0), (3, .iload 4, 2, 0), (5, .iconst 4, 1, 0), (6, .if_icmp .ge 113, 3, 119), (9, .aload_n 2, 1, 0), (10, .iload 4, 2, 0), (12, .laload, 1, 0), (13, .lstore 5, 2, 0), (15, .lconst 0, 1, 0), (16, .lstore 7, 2, 0), (18, .lconst 1, 1, 0), (19, .lstore 9, 2, 0), (21, .iload 4, 2, 0), (23, .iconst 1, 1, 0), (24, .isub, 1, 0), (25, .istore 11, 2, 0), (27, .iload 11, 2, 0), (29, .ifCond .lt 45, 3, 74), (32, .lload 7, 2, 0), (34, .aload_n 2, 1, 0), (35, .iload 11, 2, 0), (37, .laload, 1, 0), (38, .lmul, 1, 0), (39, .aload_n 0, 1, 0), (40, .getfield 9, 3, 0), (43, .iload 11, 2, 0), (45, .laload, 1, 0), (46, .ladd, 1, 0), (47, .lload 5, 2, 0), (49, .invokestatic 33, 3, 0), (52, .lstore 7, 2, 0), (54, .lload 9, 2, 0), (56, .aload_n 2, 1, 0), (57, .iload 11, 2, 0), (59, .laload, 1, 0), (60, .lmul, 1, 0), (61, .lload 5, 2, 0), (63, .invokestatic 33, 3, 0), (66, .lstore 9, 2, 0), (68, .iinc 11 (-1), 3, 0), (71, .goto (-44), 3, 27), (74, .iload_n 3, 1, 0), (75, .i2l, 1, 0), (76, .aload_n 1, 1, 0), (77, .iload 4, 2, 0), (79, .laload, 1, 0), (80, .lmul, 1, 0), (81, .lload 7, 2, 0), (83, .lsub, 1, 0), (84, .lload 5, 2, 0), (86, .invokestatic 33, 3, 0), (89, .lstore 11, 2, 0), (91, .aload_n 0, 1, 0), (92, .getfield 9, 3, 0), (95, .iload 4, 2, 0), (97, .lload 11, 2, 0), (99, .lload 9, 2, 0), (101, .lload 5, 2, 0), (103, .invokestatic 39, 3, 0), (106, .lmul, 1, 0), (107, .lload 5, 2, 0), (109, .invokestatic 33, 3, 0), (112, .lastore, 1, 0), (113, .iinc 4 1, 3, 0), (116, .goto (-113), 3, 3), (119, .return_, 1, 0)]
def kd_Ju_init : List (Nat × Instr × Nat × Nat) := [(0, .aload_n 0, 1, 0), (1, .invokespecial 3, 3, 0), (4, .aload_n 0, 1, 0), (5, .iconst 3, 1, 0), (6, .anewarray 11, 3, 0), (9, .putfield 13, 3, 0), (12, .aload_n 0, 1, 0), (13, .bipush 20, 2, 0), (15, .newarray .int, 2, 0), (17, .putfield 17, 3, 0), (20, .aload_n 0, 1, 0), (21, .bipush 20, 2, 0), (23, .newarray .int, 2, 0), (25, .putfield 21, 3, 0), (28, .aload_n 0, 1, 0), (29, .bipush 16, 2, 0), (31, .newarray .int, 2, 0), (33, .putfield 24, 3, 0), (36, .iconst 0, 1, 0), (37, .istore_n 1, 1, 0), (38, .iload_n 1, 1, 0), (39, .iconst 3, 1, 0), (40, .if_icmp .ge 27, 3, 67), (43, .aload_n 0, 1, 0), (44, .getfield 13, 3, 0), (47, .iload_n 1, 1, 0), (48, .new 11, 3, 0), (51, .dup, 1, 0), (52, .getstatic 27, 3, 0), (55, .iload_n 1, 1, 0), (56, .laload, 1, 0), (57, .invokespecial 31, 3, 0), (60, .aastore, 1, 0), (61, .iinc 1 1, 3, 0), (64, .goto (-26), 3, 38), (67, .return_, 1, 0)]
def kd_Ju_forgetFrom : List (Nat × Instr × Nat × Nat) := [(0, .aload_n 0, 1, 0), (1, .aload_n 0, 1, 0), (2, .getfield 34, 3, 0), (5, .iload_n 1, 1, 0), (6, .invokestatic 38, 3, 0), (9, .putfield 34, 3, 0), (12, .return_, 1, 0)]
def kd_Ju_judgeUpTo : List (Nat × Instr × Nat × Nat) := [(0, .aload_n 0, 1, 0), (1, .getfield 34, 3, 0), (4, .iload_n 2, 1, 0), (5, .if_icmp .lt 4, 3, 9), (8, .return_, 1, 0), (9, .aload_n 0, 1, 0), (10, .aload_n 0, 1, 0), (11, .iconst 0, 1, 0), (12, .invokevirtual 44, 3, 0), (15, .invokevirtual 48, 3, 0), (18, .aload_n 0, 1, 0), (19, .getfield 34, 3, 0), (22, .istore_n 3, 1, 0), (23, .iload_n 3, 1, 0), (24, .iload_n 2, 1, 0), (25, .if_icmp .ge 23, 3, 48), (28, .iload_n 3, 1, 0), (29, .aload_n 1, 1, 0), (30, .arraylength, 1, 0), (31, .if_icmp .ge 17, 3, 48), (34, .aload_n 0, 1, 0), (35, .aload_n 1, 1, 0), (36, .iload_n 3, 1, 0), (37, .aaload, 1, 0), (38, .iload_n 3, 1, 0), (39, .invokevirtual 52, 3, 0), (42, .iinc 3 1, 3, 0), (45, .goto (-22), 3, 23), (48, .aload_n 0, 1, 0), (49, .iload_n 2, 1, 0), (50, .putfield 34, 3, 0), (53, .return_, 1, 0)]
def kd_Ju_judgeOne : List (Nat × Instr × Nat × Nat) := [(0, .aload_n 0, 1, 0), (1, .getfield 21, 3, 0), (4, .iload_n 2, 1, 0), (5, .iconst 0, 1, 0), (6, .iastore, 1, 0), (7, .aload_n 1, 1, 0), (8, .getfield 56, 3, 0), (11, .ifCond .eq 11, 3, 22), (14, .aload_n 0, 1, 0), (15, .getfield 17, 3, 0), (18, .iload_n 2, 1, 0), (19, .iconst 3, 1, 0), (20, .iastore, 1, 0), (21, .return_, 1, 0), (22, .aload_n 0, 1, 0), (23, .getfield 17, 3, 0), (26, .iload_n 2, 1, 0), (27, .aload_n 0, 1, 0), (28, .aload_n 1, 1, 0), (29, .invokevirtual 62, 3, 0), (32, .iastore, 1, 0), (33, .aload_n 0, 1, 0), (34, .getfield 17, 3, 0), (37, .iload_n 2, 1, 0), (38, .iaload, 1, 0), (39, .ifCond .eq 16, 3, 55), (42, .aload_n 0, 1, 0), (43, .getfield 21, 3, 0), (46, .iload_n 2, 1, 0), (47, .aload_n 0, 1, 0), (48, .invokevirtual 66, 3, 0), (51, .iastore, 1, 0), (52, .goto 26, 3, 78), (55, .aload_n 0, 1, 0), (56, .getfield 70, 3, 0), (59, .bipush 16, 2, 0), (61, .if_icmp .ge 17, 3, 78), (64, .aload_n 0, 1, 0), (65, .getfield 24, 3, 0), (68, .aload_n 0, 1, 0), (69, .getfield 70, 3, 0), (72, .iload_n 2, 1, 0), (73, .iastore, 1, 0), (74, .aload_n 0, 1, 0), (75, .invokevirtual 73, 3, 0), (78, .return_, 1, 0)]
def kd_Ju_howMany : List (Nat × Instr × Nat × Nat) := [(0, .iconst 0, 1, 0), (1, .istore_n 2, 1, 0), (2, .iconst 0, 1, 0), (3, .istore_n 3, 1, 0), (4, .iload_n 3, 1, 0), (5, .aload_n 0, 1, 0), (6, .getfield 34, 3, 0), (9, .if_icmp .ge 22, 3, 31), (12, .aload_n 0, 1, 0), (13, .getfield 17, 3, 0), (16, .iload_n 3, 1, 0), (17, .iaload, 1, 0), (18, .iload_n 1, 1, 0), (19, .if_icmp .ne 6, 3, 25), (22, .iinc 2 1, 3, 0), (25, .iinc 3 1, 3, 0), (28, .goto (-24), 3, 4), (31, .iload_n 2, 1, 0), (32, .ireturn, 1, 0)]
def kd_Ju_weigh : List (Nat × Instr × Nat × Nat) := [(0, .iconst 0, 1, 0), (1, .istore_n 2, 1, 0), (2, .iconst 0, 1, 0), (3, .istore_n 3, 1, 0), (4, .aload_n 0, 1, 0), (5, .getfield 13, 3, 0), (8, .astore 4, 2, 0), (10, .aload 4, 2, 0), (12, .arraylength, 1, 0), (13, .istore 5, 2, 0), (15, .iconst 0, 1, 0), (16, .istore 6, 2, 0), (18, .iload 6, 2, 0), (20, .iload 5, 2, 0), (22, .if_icmp .ge 59, 3, 81), (25, .aload 4, 2, 0), (27, .iload 6, 2, 0), (29, .aaload, 1, 0), (30, .astore 7, 2, 0), (32, .aload 7, 2, 0), (34, .invokevirtual 76, 3, 0), (37, .ifCond .ne 38, 3, 75), (40, .aload 7, 2, 0), (42, .aload_n 1, 1, 0), (43, .invokevirtual 80, 3, 0), (46, .istore 8, 2, 0), (48, .iload_n 3, 1, 0), (49, .iload 8, 2, 0), (51, .ifCond .ne 7, 3, 58), (54, .iconst 1, 1, 0), (55, .goto 4, 3, 59), (58, .iconst 0, 1, 0), (59, .ior, 1, 0), (60, .istore_n 3, 1, 0), (61, .iload_n 2, 1, 0), (62, .iload 8, 2, 0), (64, .iconst 2, 1, 0), (65, .if_icmp .ne 7, 3, 72), (68, .iconst 1, 1, 0), (69, .goto 4, 3, 73), (72, .iconst 0, 1, 0), (73, .ior, 1, 0), (74, .istore_n 2, 1, 0), (75, .iinc 6 1, 3, 0), (78, .goto (-60), 3, 18), (81, .iload_n 3, 1, 0), (82, .ifCond .eq 5, 3, 87), (85, .iconst 0, 1, 0), (86, .ireturn, 1, 0), (87, .iload_n 2, 1, 0), (88, .ifCond .eq 7, 3, 95), (91, .iconst 2, 1, 0), (92, .goto 4, 3, 96), (95, .iconst 1, 1, 0), (96, .ireturn, 1, 0)]
def kd_Ju_partsSeen : List (Nat × Instr × Nat × Nat) := [(0, .iconst 0, 1, 0), (1, .istore_n 1, 1, 0), (2, .aload_n 0, 1, 0), (3, .getfield 13, 3, 0), (6, .astore_n 2, 1, 0), (7, .aload_n 2, 1, 0), (8, .arraylength, 1, 0), (9, .istore_n 3, 1, 0), (10, .iconst 0, 1, 0), (11, .istore 4, 2, 0), (13, .iload 4, 2, 0), (15, .iload_n 3, 1, 0), (16, .if_icmp .ge 63, 3, 79), (19, .aload_n 2, 1, 0), (20, .iload 4, 2, 0), (22, .aaload, 1, 0), (23, .astore 5, 2, 0), (25, .iconst 0, 1, 0), (26, .istore 6, 2, 0), (28, .iload 6, 2, 0), (30, .aload_n 0, 1, 0), (31, .getfield 70, 3, 0), (34, .if_icmp .ge 39, 3, 73), (37, .aload 5, 2, 0), (39, .invokevirtual 76, 3, 0), (42, .ifCond .ne 31, 3, 73), (45, .aload 5, 2, 0), (47, .iload 6, 2, 0), (49, .invokevirtual 83, 3, 0), (52, .ifCond .eq 15, 3, 67), (55, .iload_n 1, 1, 0), (56, .iconst 1, 1, 0), (57, .aload_n 0, 1, 0), (58, .getfield 24, 3, 0), (61, .iload 6, 2, 0), (63, .iaload, 1, 0), (64, .ishl, 1, 0), (65, .ior, 1, 0), (66, .istore_n 1, 1, 0), (67, .iinc 6 1, 3, 0), (70, .goto (-42), 3, 28), (73, .iinc 4 1, 3, 0), (76, .goto (-63), 3, 13), (79, .iload_n 1, 1, 0), (80, .ireturn, 1, 0)]
def kd_Ju_adopt : List (Nat × Instr × Nat × Nat) := [(0, .aload_n 0, 1, 0), (1, .getfield 70, 3, 0), (4, .bipush 16, 2, 0), (6, .if_icmp .lt 4, 3, 10), (9, .return_, 1, 0), (10, .aload_n 0, 1, 0), (11, .getfield 13, 3, 0), (14, .astore_n 1, 1, 0), (15, .aload_n 1, 1, 0), (16, .arraylength, 1, 0), (17, .istore_n 2, 1, 0), (18, .iconst 0, 1, 0), (19, .istore_n 3, 1, 0), (20, .iload_n 3, 1, 0), (21, .iload_n 2, 1, 0), (22, .if_icmp .ge 19, 3, 41), (25, .aload_n 1, 1, 0), (26, .iload_n 3, 1, 0), (27, .aaload, 1, 0), (28, .astore 4, 2, 0), (30, .aload 4, 2, 0), (32, .invokevirtual 87, 3, 0), (35, .iinc 3 1, 3, 0), (38, .goto (-18), 3, 20), (41, .aload_n 0, 1, 0), (42, .dup, 1, 0), (43, .getfield 70, 3, 0), (46, .iconst 1, 1, 0), (47, .iadd, 1, 0), (48, .putfield 70, 3, 0), (51, .return_, 1, 0)]
def kd_Ju_shrinkTo : List (Nat × Instr × Nat × Nat) := [(0, .aload_n 0, 1, 0), (1, .iload_n 1, 1, 0), (2, .putfield 70, 3, 0), (5, .aload_n 0, 1, 0), (6, .getfield 13, 3, 0), (9, .astore_n 2, 1, 0), (10, .aload_n 2, 1, 0), (11, .arraylength, 1, 0), (12, .istore_n 3, 1, 0), (13, .iconst 0, 1, 0), (14, .istore 4, 2, 0), (16, .iload 4, 2, 0), (18, .iload_n 3, 1, 0), (19, .if_icmp .ge 21, 3, 40), (22, .aload_n 2, 1, 0), (23, .iload 4, 2, 0), (25, .aaload, 1, 0), (26, .astore 5, 2, 0), (28, .aload 5, 2, 0), (30, .iload_n 1, 1, 0), (31, .invokevirtual 88, 3, 0), (34, .iinc 4 1, 3, 0), (37, .goto (-21), 3, 16), (40, .return_, 1, 0)]
def kd_Li_clear : List (Nat × Instr × Nat × Nat) := [(0, .iconst 0, 1, 0), (1, .istore_n 1, 1, 0), (2, .iload_n 1, 1, 0), (3, .iconst 5, 1, 0), (4, .if_icmp .ge 13, 3, 17), (7, .aload_n 0, 1, 0), (8, .iload_n 1, 1, 0), (9, .lconst 0, 1, 0), (10, .lastore, 1, 0), (11, .iinc 1 1, 3, 0), (14, .goto (-12), 3, 2), (17, .return_, 1, 0)]
def kd_Li_used : List (Nat × Instr × Nat × Nat) := [(0, .iconst 5, 1, 0), (1, .istore_n 1, 1, 0), (2, .iload_n 1, 1, 0), (3, .ifCond .le 21, 3, 24), (6, .aload_n 0, 1, 0), (7, .iload_n 1, 1, 0), (8, .iconst 1, 1, 0), (9, .isub, 1, 0), (10, .laload, 1, 0), (11, .lconst 0, 1, 0), (12, .lcmp, 1, 0), (13, .ifCond .eq 5, 3, 18), (16, .iload_n 1, 1, 0), (17, .ireturn, 1, 0), (18, .iinc 1 (-1), 3, 0), (21, .goto (-19), 3, 2), (24, .iconst 0, 1, 0), (25, .ireturn, 1, 0)]
def kd_Li_compare : List (Nat × Instr × Nat × Nat) := [(0, .iconst 4, 1, 0), (1, .istore_n 2, 1, 0), (2, .iload_n 2, 1, 0), (3, .ifCond .lt 35, 3, 38), (6, .aload_n 0, 1, 0), (7, .iload_n 2, 1, 0), (8, .laload, 1, 0), (9, .aload_n 1, 1, 0), (10, .iload_n 2, 1, 0), (11, .laload, 1, 0), (12, .lcmp, 1, 0), (13, .ifCond .eq 19, 3, 32), (16, .aload_n 0, 1, 0), (17, .iload_n 2, 1, 0), (18, .laload, 1, 0), (19, .aload_n 1, 1, 0), (20, .iload_n 2, 1, 0), (21, .laload, 1, 0), (22, .lcmp, 1, 0), (23, .ifCond .ge 7, 3, 30), (26, .iconst (-1), 1, 0), (27, .goto 4, 3, 31), (30, .iconst 1, 1, 0), (31, .ireturn, 1, 0), (32, .iinc 2 (-1), 3, 0), (35, .goto (-33), 3, 2), (38, .iconst 0, 1, 0), (39, .ireturn, 1, 0)]
def kd_Li_timesAndAdd : List (Nat × Instr × Nat × Nat) := [(0, .lload_n 3, 1, 0), (1, .lstore 5, 2, 0), (3, .iconst 0, 1, 0), (4, .istore 7, 2, 0), (6, .iload 7, 2, 0), (8, .iconst 5, 1, 0), (9, .if_icmp .ge 37, 3, 46), (12, .lload 5, 2, 0), (14, .aload_n 0, 1, 0), (15, .iload 7, 2, 0), (17, .laload, 1, 0), (18, .lload_n 1, 1, 0), (19, .lmul, 1, 0), (20, .ladd, 1, 0), (21, .lstore 5, 2, 0), (23, .aload_n 0, 1, 0), (24, .iload 7, 2, 0), (26, .lload 5, 2, 0), (28, .ldc2_w 9, 3, 0), (31, .land, 1, 0), (32, .lastore, 1, 0), (33, .lload 5, 2, 0), (35, .bipush 30, 2, 0), (37, .lshr, 1, 0), (38, .lstore 5, 2, 0), (40, .iinc 7 1, 3, 0), (43, .goto (-37), 3, 6), (46, .return_, 1, 0)]
def kd_Li_subtract : List (Nat × Instr × Nat × Nat) := [(0, .lconst 0, 1, 0), (1, .lstore_n 2, 1, 0), (2, .iconst 0, 1, 0), (3, .istore 4, 2, 0), (5, .iload 4, 2, 0), (7, .iconst 5, 1, 0), (8, .if_icmp .ge 35, 3, 43), (11, .lload_n 2, 1, 0), (12, .aload_n 0, 1, 0), (13, .iload 4, 2, 0), (15, .laload, 1, 0), (16, .aload_n 1, 1, 0), (17, .iload 4, 2, 0), (19, .laload, 1, 0), (20, .lsub, 1, 0), (21, .ladd, 1, 0), (22, .lstore_n 2, 1, 0), (23, .aload_n 0, 1, 0), (24, .iload 4, 2, 0), (26, .lload_n 2, 1, 0), (27, .ldc2_w 9, 3, 0), (30, .land, 1, 0), (31, .lastore, 1, 0), (32, .lload_n 2, 1, 0), (33, .bipush 30, 2, 0), (35, .lshr, 1, 0), (36, .lstore_n 2, 1, 0), (37, .iinc 4 1, 3, 0), (40, .goto (-35), 3, 5), (43, .return_, 1, 0)]
def kd_Li_halve : List (Nat × Instr × Nat × Nat) := [(0, .iconst 0, 1, 0), (1, .istore_n 1, 1, 0), (2, .iload_n 1, 1, 0), (3, .iconst 4, 1, 0), (4, .if_icmp .ge 28, 3, 32), (7, .aload_n 0, 1, 0), (8, .iload_n 1, 1, 0), (9, .aload_n 0, 1, 0), (10, .iload_n 1, 1, 0), (11, .laload, 1, 0), (12, .iconst 1, 1, 0), (13, .lshr, 1, 0), (14, .aload_n 0, 1, 0), (15, .iload_n 1, 1, 0), (16, .iconst 1, 1, 0), (17, .iadd, 1, 0), (18, .laload, 1, 0), (19, .lconst 1, 1, 0), (20, .land, 1, 0), (21, .bipush 29, 2, 0), (23, .lshl, 1, 0), (24, .lor, 1, 0), (25, .lastore, 1, 0), (26, .iinc 1 1, 3, 0), (29, .goto (-27), 3, 2), (32, .aload_n 0, 1, 0), (33, .iconst 4, 1, 0), (34, .dup2, 1, 0), (35, .laload, 1, 0), (36, .iconst 1, 1, 0), (37, .lshr, 1, 0), (38, .lastore, 1, 0), (39, .return_, 1, 0)]
def kd_Li_makeOdd : List (Nat × Instr × Nat × Nat) := [(0, .iconst 0, 1, 0), (1, .istore_n 1, 1, 0), (2, .iload_n 1, 1, 0), (3, .sipush 150, 3, 0), (6, .if_icmp .ge 23, 3, 29), (9, .aload_n 0, 1, 0), (10, .iconst 0, 1, 0), (11, .laload, 1, 0), (12, .lconst 1, 1, 0), (13, .land, 1, 0), (14, .lconst 0, 1, 0), (15, .lcmp, 1, 0), (16, .ifCond .ne 13, 3, 29), (19, .aload_n 0, 1, 0), (20, .invokestatic 11, 3, 0), (23, .iinc 1 1, 3, 0), (26, .goto (-24), 3, 2), (29, .return_, 1, 0)]
def kd_Li_divideByOdd : List (Nat × Instr × Nat × Nat) := [(0, .aload_n 1, 1, 0), (1, .iconst 0, 1, 0), (2, .laload, 1, 0), (3, .invokestatic 15, 3, 0), (6, .lstore_n 2, 1, 0), (7, .iconst 0, 1, 0), (8, .istore 4, 2, 0), (10, .iload 4, 2, 0), (12, .iconst 5, 1, 0), (13, .if_icmp .ge 88, 3, 101), (16, .aload_n 0, 1, 0), (17, .iload 4, 2, 0), (19, .laload, 1, 0), (20, .lload_n 2, 1, 0), (21, .lmul, 1, 0), (22, .ldc2_w 9, 3, 0), (25, .land, 1, 0), (26, .lstore 5, 2, 0), (28, .lconst 0, 1, 0), (29, .lstore 7, 2, 0), (31, .iconst 0, 1, 0), (32, .istore 9, 2, 0), (34, .iload 4, 2, 0), (36, .iload 9, 2, 0), (38, .iadd, 1, 0), (39, .iconst 5, 1, 0), (40, .if_icmp .ge 49, 3, 89), (43, .lload 7, 2, 0), (45, .aload_n 0, 1, 0), (46, .iload 4, 2, 0), (48, .iload 9, 2, 0), (50, .iadd, 1, 0), (51, .laload, 1, 0), (52, .lload 5, 2, 0), (54, .aload_n 1, 1, 0), (55, .iload 9, 2, 0), (57, .laload, 1, 0), (58, .lmul, 1, 0), (59, .lsub, 1, 0), (60, .ladd, 1, 0), (61, .lstore 7, 2, 0), (63, .aload_n 0, 1, 0), (64, .iload 4, 2, 0), (66, .iload 9, 2, 0), (68, .iadd, 1, 0), (69, .lload 7, 2, 0), (71, .ldc2_w 9, 3, 0), (74, .land, 1, 0), (75, .lastore, 1, 0), (76, .lload 7, 2, 0), (78, .bipush 30, 2, 0), (80, .lshr, 1, 0), (81, .lstore 7, 2, 0), (83, .iinc 9 1, 3, 0), (86, .goto (-52), 3, 34), (89, .aload_n 0, 1, 0), (90, .iload 4, 2, 0), (92, .lload 5, 2, 0), (94, .lastore, 1, 0), (95, .iinc 4 1, 3, 0), (98, .goto (-88), 3, 10), (101, .return_, 1, 0)]
def kd_Li_inverseOfOdd : List (Nat × Instr × Nat × Nat) := [(0, .lload_n 0, 1, 0), (1, .lstore_n 2, 1, 0), (2, .iconst 0, 1, 0), (3, .istore 4, 2, 0), (5, .iload 4, 2, 0), (7, .iconst 4, 1, 0), (8, .if_icmp .ge 27, 3, 35), (11, .lload_n 2, 1, 0), (12, .ldc2_w 19, 3, 0), (15, .lload_n 0, 1, 0), (16, .lload_n 2, 1, 0), (17, .lmul, 1, 0), (18, .lsub, 1, 0), (19, .ldc2_w 9, 3, 0), (22, .land, 1, 0), (23, .lmul, 1, 0), (24, .ldc2_w 9, 3, 0), (27, .land, 1, 0), (28, .lstore_n 2, 1, 0), (29, .iinc 4 1, 3, 0), (32, .goto (-27), 3, 5), (35, .lload_n 2, 1, 0), (36, .lreturn, 1, 0)]
def kd_Su_init : List (Nat × Instr × Nat × Nat) := [(0, .aload_n 0, 1, 0), (1, .invokespecial 3, 3, 0), (4, .aload_n 0, 1, 0), (5, .iconst 4, 1, 0), (6, .newarray .int, 2, 0), (8, .putfield 9, 3, 0), (11, .aload_n 0, 1, 0), (12, .iconst 4, 1, 0), (13, .newarray .int, 2, 0), (15, .putfield 15, 3, 0), (18, .return_, 1, 0)]
def kd_Su_restart : List (Nat × Instr × Nat × Nat) := [(0, .aload_n 0, 1, 0), (1, .iload_n 1, 1, 0), (2, .putfield 18, 3, 0), (5, .aload_n 0, 1, 0), (6, .iconst 0, 1, 0), (7, .putfield 22, 3, 0), (10, .return_, 1, 0)]
def kd_Su_timesOf : List (Nat × Instr × Nat × Nat) := [(0, .iconst 0, 1, 0), (1, .istore_n 2, 1, 0), (2, .iload_n 2, 1, 0), (3, .aload_n 0, 1, 0), (4, .getfield 22, 3, 0), (7, .if_icmp .ge 26, 3, 33), (10, .aload_n 0, 1, 0), (11, .getfield 9, 3, 0), (14, .iload_n 2, 1, 0), (15, .iaload, 1, 0), (16, .iload_n 1, 1, 0), (17, .if_icmp .ne 10, 3, 27), (20, .aload_n 0, 1, 0), (21, .getfield 15, 3, 0), (24, .iload_n 2, 1, 0), (25, .iaload, 1, 0), (26, .ireturn, 1, 0), (27, .iinc 2 1, 3, 0), (30, .goto (-28), 3, 2), (33, .iconst 0, 1, 0), (34, .ireturn, 1, 0)]
def kd_Su_put : List (Nat × Instr × Nat × Nat) := [(0, .aload_n 0, 1, 0), (1, .getfield 22, 3, 0), (4, .iconst 4, 1, 0), (5, .if_icmp .ge 33, 3, 38), (8, .aload_n 0, 1, 0), (9, .getfield 9, 3, 0), (12, .aload_n 0, 1, 0), (13, .getfield 22, 3, 0), (16, .iload_n 1, 1, 0), (17, .iastore, 1, 0), (18, .aload_n 0, 1, 0), (19, .getfield 15, 3, 0), (22, .aload_n 0, 1, 0), (23, .getfield 22, 3, 0), (26, .iload_n 2, 1, 0), (27, .iastore, 1, 0), (28, .aload_n 0, 1, 0), (29, .dup, 1, 0), (30, .getfield 22, 3, 0), (33, .iconst 1, 1, 0), (34, .iadd, 1, 0), (35, .putfield 22, 3, 0), (38, .return_, 1, 0)]
def kd_Su_digestOnto : List (Nat × Instr × Nat × Nat) := [(0, .ldc2_w 25, 3, 0), (3, .ldc2_w 25, 3, 0), (6, .lload_n 1, 1, 0), (7, .lmul, 1, 0), (8, .aload_n 0, 1, 0), (9, .getfield 18, 3, 0), (12, .i2l, 1, 0), (13, .ladd, 1, 0), (14, .lmul, 1, 0), (15, .aload_n 0, 1, 0), (16, .getfield 22, 3, 0), (19, .i2l, 1, 0), (20, .ladd, 1, 0), (21, .lstore_n 3, 1, 0), (22, .iconst 0, 1, 0), (23, .istore 5, 2, 0), (25, .iload 5, 2, 0), (27, .aload_n 0, 1, 0), (28, .getfield 22, 3, 0), (31, .if_icmp .ge 37, 3, 68), (34, .ldc2_w 25, 3, 0), (37, .ldc2_w 25, 3, 0), (40, .lload_n 3, 1, 0), (41, .lmul, 1, 0), (42, .aload_n 0, 1, 0), (43, .getfield 9, 3, 0), (46, .iload 5, 2, 0), (48, .iaload, 1, 0), (49, .i2l, 1, 0), (50, .ladd, 1, 0), (51, .lmul, 1, 0), (52, .aload_n 0, 1, 0), (53, .getfield 15, 3, 0), (56, .iload 5, 2, 0), (58, .iaload, 1, 0), (59, .i2l, 1, 0), (60, .ladd, 1, 0), (61, .lstore_n 3, 1, 0), (62, .iinc 5 1, 3, 0), (65, .goto (-40), 3, 25), (68, .lload_n 3, 1, 0), (69, .lreturn, 1, 0)]
def kd_Wi_init : List (Nat × Instr × Nat × Nat) := [(0, .aload_n 0, 1, 0), (1, .invokespecial 5, 3, 0), (4, .aload_n 0, 1, 0), (5, .bipush 16, 2, 0), (7, .bipush 33, 2, 0), (9, .multianewarray 11 2, 4, 0), (13, .putfield 13, 3, 0), (16, .aload_n 0, 1, 0), (17, .bipush 16, 2, 0), (19, .newarray .int, 2, 0), (21, .putfield 16, 3, 0), (24, .aload_n 0, 1, 0), (25, .bipush 16, 2, 0), (27, .putfield 20, 3, 0), (30, .aload_n 0, 1, 0), (31, .bipush 33, 2, 0), (33, .newarray .long, 2, 0), (35, .putfield 24, 3, 0), (38, .aload_n 0, 1, 0), (39, .lload_n 1, 1, 0), (40, .putfield 28, 3, 0), (43, .return_, 1, 0)]
def kd_Wi_isBlind : List (Nat × Instr × Nat × Nat) := [(0, .aload_n 0, 1, 0), (1, .getfield 20, 3, 0), (4, .aload_n 0, 1, 0), (5, .getfield 32, 3, 0), (8, .if_icmp .ge 7, 3, 15), (11, .iconst 1, 1, 0), (12, .goto 4, 3, 16), (15, .iconst 0, 1, 0), (16, .ireturn, 1, 0)]
def kd_Wi_look : List (Nat × Instr × Nat × Nat) := [(0, .aload_n 0, 1, 0), (1, .aload_n 1, 1, 0), (2, .invokevirtual 35, 3, 0), (5, .iconst 0, 1, 0), (6, .istore_n 2, 1, 0), (7, .iload_n 2, 1, 0), (8, .aload_n 0, 1, 0), (9, .getfield 32, 3, 0), (12, .if_icmp .ge 57, 3, 69), (15, .aload_n 0, 1, 0), (16, .getfield 24, 3, 0), (19, .aload_n 0, 1, 0), (20, .getfield 16, 3, 0), (23, .iload_n 2, 1, 0), (24, .iaload, 1, 0), (25, .laload, 1, 0), (26, .lstore_n 3, 1, 0), (27, .lload_n 3, 1, 0), (28, .lconst 0, 1, 0), (29, .lcmp, 1, 0), (30, .ifCond .eq 33, 3, 63), (33, .aload_n 0, 1, 0), (34, .getfield 24, 3, 0), (37, .aload_n 0, 1, 0), (38, .getfield 13, 3, 0), (41, .iload_n 2, 1, 0), (42, .aaload, 1, 0), (43, .aload_n 0, 1, 0), (44, .getfield 28, 3, 0), (47, .lload_n 3, 1, 0), (48, .lsub, 1, 0), (49, .aload_n 0, 1, 0), (50, .getfield 28, 3, 0), (53, .iconst 0, 1, 0), (54, .bipush 17, 2, 0), (56, .iload_n 2, 1, 0), (57, .iadd, 1, 0), (58, .iconst 1, 1, 0), (59, .iadd, 1, 0), (60, .invokestatic 39, 3, 0), (63, .iinc 2 1, 3, 0), (66, .goto (-59), 3, 7), (69, .aload_n 0, 1, 0), (70, .aload_n 0, 1, 0), (71, .invokevirtual 45, 3, 0), (74, .putfield 49, 3, 0), (77, .aload_n 0, 1, 0), (78, .getfield 49, 3, 0), (81, .iconst (-1), 1, 0), (82, .if_icmp .eq 5, 3, 87), (85, .iconst 0, 1, 0), (86, .ireturn, 1, 0), (87, .aload_n 0, 1, 0), (88, .getfield 24, 3, 0), (91, .bipush 16, 2, 0), (93, .laload, 1, 0), (94, .lconst 0, 1, 0), (95, .lcmp, 1, 0), (96, .ifCond .ne 7, 3, 103), (99, .iconst 1, 1, 0), (100, .goto 4, 3, 104), (103, .iconst 2, 1, 0), (104, .ireturn, 1, 0)]
def kd_Wi_load : List (Nat × Instr × Nat × Nat) := [(0, .iconst 0, 1, 0), (1, .istore_n 2, 1, 0), (2, .iload_n 2, 1, 0), (3, .bipush 33, 2, 0), (5, .if_icmp .ge 16, 3, 21), (8, .aload_n 0, 1, 0), (9, .getfield 24, 3, 0), (12, .iload_n 2, 1, 0), (13, .lconst 0, 1, 0), (14, .lastore, 1, 0), (15, .iinc 2 1, 3, 0), (18, .goto (-16), 3, 2), (21, .iconst 0, 1, 0), (22, .istore_n 2, 1, 0), (23, .iload_n 2, 1, 0), (24, .aload_n 1, 1, 0), (25, .getfield 52, 3, 0), (28, .if_icmp .ge 34, 3, 62), (31, .aload_n 0, 1, 0), (32, .getfield 24, 3, 0), (35, .aload_n 1, 1, 0), (36, .getfield 57, 3, 0), (39, .iload_n 2, 1, 0), (40, .iaload, 1, 0), (41, .aload_n 1, 1, 0), (42, .getfield 60, 3, 0), (45, .iload_n 2, 1, 0), (46, .iaload, 1, 0), (47, .i2l, 1, 0), (48, .aload_n 0, 1, 0), (49, .getfield 28, 3, 0), (52, .invokestatic 63, 3, 0), (55, .lastore, 1, 0), (56, .iinc 2 1, 3, 0), (59, .goto (-36), 3, 23), (62, .aload_n 0, 1, 0), (63, .getfield 24, 3, 0), (66, .bipush 16, 2, 0), (68, .aload_n 1, 1, 0), (69, .getfield 67, 3, 0), (72, .i2l, 1, 0), (73, .aload_n 0, 1, 0), (74, .getfield 28, 3, 0), (77, .invokestatic 63, 3, 0), (80, .lastore, 1, 0), (81, .return_, 1, 0)]
def kd_Wi_findLead : List (Nat × Instr × Nat × Nat) := [(0, .iconst 0, 1, 0), (1, .istore_n 1, 1, 0), (2, .iload_n 1, 1, 0), (3, .bipush 16, 2, 0), (5, .if_icmp .ge 22, 3, 27), (8, .aload_n 0, 1, 0), (9, .getfield 24, 3, 0), (12, .iload_n 1, 1, 0), (13, .laload, 1, 0), (14, .lconst 0, 1, 0), (15, .lcmp, 1, 0), (16, .ifCond .eq 5, 3, 21), (19, .iload_n 1, 1, 0), (20, .ireturn, 1, 0), (21, .iinc 1 1, 3, 0), (24, .goto (-22), 3, 2), (27, .iconst (-1), 1, 0), (28, .ireturn, 1, 0)]
def kd_Wi_adopt : List (Nat × Instr × Nat × Nat) := [(0, .aload_n 0, 1, 0), (1, .getfield 32, 3, 0), (4, .bipush 16, 2, 0), (6, .if_icmp .lt 4, 3, 10), (9, .return_, 1, 0), (10, .aload_n 0, 1, 0), (11, .invokevirtual 70, 3, 0), (14, .ifCond .ne 26, 3, 40), (17, .aload_n 0, 1, 0), (18, .getfield 49, 3, 0), (21, .iconst (-1), 1, 0), (22, .if_icmp .ne 14, 3, 36), (25, .aload_n 0, 1, 0), (26, .aload_n 0, 1, 0), (27, .getfield 32, 3, 0), (30, .putfield 20, 3, 0), (33, .goto 7, 3, 40), (36, .aload_n 0, 1, 0), (37, .invokevirtual 74, 3, 0), (40, .aload_n 0, 1, 0), (41, .dup, 1, 0), (42, .getfield 32, 3, 0), (45, .iconst 1, 1, 0), (46, .iadd, 1, 0), (47, .putfield 32, 3, 0), (50, .return_, 1, 0)]
def kd_Wi_keepRow : List (Nat × Instr × Nat × Nat) := [(0, .aload_n 0, 1, 0), (1, .getfield 24, 3, 0), (4, .bipush 17, 2, 0), (6, .aload_n 0, 1, 0), (7, .getfield 32, 3, 0), (10, .iadd, 1, 0), (11, .lconst 1, 1, 0), (12, .lastore, 1, 0), (13, .aload_n 0, 1, 0), (14, .getfield 24, 3, 0), (17, .aload_n 0, 1, 0), (18, .getfield 49, 3, 0), (21, .laload, 1, 0), (22, .aload_n 0, 1, 0), (23, .getfield 28, 3, 0), (26, .invokestatic 77, 3, 0), (29, .lstore_n 1, 1, 0), (30, .iconst 0, 1, 0), (31, .istore_n 3, 1, 0), (32, .iload_n 3, 1, 0), (33, .bipush 33, 2, 0), (35, .if_icmp .ge 35, 3, 70), (38, .aload_n 0, 1, 0), (39, .getfield 13, 3, 0), (42, .aload_n 0, 1, 0), (43, .getfield 32, 3, 0), (46, .aaload, 1, 0), (47, .iload_n 3, 1, 0), (48, .aload_n 0, 1, 0), (49, .getfield 24, 3, 0), (52, .iload_n 3, 1, 0), (53, .laload, 1, 0), (54, .lload_n 1, 1, 0), (55, .lmul, 1, 0), (56, .aload_n 0, 1, 0), (57, .getfield 28, 3, 0), (60, .invokestatic 63, 3, 0), (63, .lastore, 1, 0), (64, .iinc 3 1, 3, 0), (67, .goto (-35), 3, 32), (70, .aload_n 0, 1, 0), (71, .getfield 16, 3, 0), (74, .aload_n 0, 1, 0), (75, .getfield 32, 3, 0), (78, .aload_n 0, 1, 0), (79, .getfield 49, 3, 0), (82, .iastore, 1, 0), (83, .return_, 1, 0)]
def kd_Wi_shrinkTo : List (Nat × Instr × Nat × Nat) := [(0, .aload_n 0, 1, 0), (1, .iload_n 1, 1, 0), (2, .putfield 32, 3, 0), (5, .aload_n 0, 1, 0), (6, .getfield 20, 3, 0), (9, .aload_n 0, 1, 0), (10, .getfield 32, 3, 0), (13, .if_icmp .lt 9, 3, 22), (16, .aload_n 0, 1, 0), (17, .bipush 16, 2, 0), (19, .putfield 20, 3, 0), (22, .return_, 1, 0)]
def kd_Wi_sees : List (Nat × Instr × Nat × Nat) := [(0, .aload_n 0, 1, 0), (1, .getfield 24, 3, 0), (4, .bipush 17, 2, 0), (6, .iload_n 1, 1, 0), (7, .iadd, 1, 0), (8, .laload, 1, 0), (9, .lconst 0, 1, 0), (10, .lcmp, 1, 0), (11, .ifCond .eq 7, 3, 18), (14, .iconst 1, 1, 0), (15, .goto 4, 3, 19), (18, .iconst 0, 1, 0), (19, .ireturn, 1, 0)]
def kd_DT_init : List (Nat × Instr × Nat × Nat) := [(0, .aload_n 0, 1, 0), (1, .invokespecial 3, 3, 0), (4, .aload_n 0, 1, 0), (5, .bipush 16, 2, 0), (7, .newarray .int, 2, 0), (9, .putfield 9, 3, 0), (12, .aload_n 0, 1, 0), (13, .bipush 20, 2, 0), (15, .anewarray 13, 3, 0), (18, .putfield 15, 3, 0), (21, .aload_n 0, 1, 0), (22, .new 13, 3, 0), (25, .dup, 1, 0), (26, .invokespecial 19, 3, 0), (29, .putfield 20, 3, 0), (32, .aload_n 0, 1, 0), (33, .new 13, 3, 0), (36, .dup, 1, 0), (37, .invokespecial 19, 3, 0), (40, .putfield 24, 3, 0), (43, .aload_n 0, 1, 0), (44, .new 27, 3, 0), (47, .dup, 1, 0), (48, .invokespecial 29, 3, 0), (51, .putfield 30, 3, 0), (54, .aload_n 0, 1, 0), (55, .new 34, 3, 0), (58, .dup, 1, 0), (59, .invokespecial 36, 3, 0), (62, .putfield 37, 3, 0), (65, .aload_n 0, 1, 0), (66, .new 41, 3, 0), (69, .dup, 1, 0), (70, .invokespecial 43, 3, 0), (73, .putfield 44, 3, 0), (76, .aload_n 0, 1, 0), (77, .new 48, 3, 0), (80, .dup, 1, 0), (81, .invokespecial 50, 3, 0), (84, .putfield 51, 3, 0), (87, .iconst 0, 1, 0), (88, .istore_n 1, 1, 0), (89, .iload_n 1, 1, 0), (90, .bipush 20, 2, 0), (92, .if_icmp .ge 22, 3, 114), (95, .aload_n 0, 1, 0), (96, .getfield 15, 3, 0), (99, .iload_n 1, 1, 0), (100, .new 13, 3, 0), (103, .dup, 1, 0), (104, .invokespecial 19, 3, 0), (107, .aastore, 1, 0), (108, .iinc 1 1, 3, 0), (111, .goto (-22), 3, 89), (114, .return_, 1, 0)]
def kd_DT_point : List (Nat × Instr × Nat × Nat) := [(0, .iload_n 1, 1, 0), (1, .iload_n 2, 1, 0), (2, .invokestatic 55, 3, 0), (5, .ifCond .ne 6, 3, 11), (8, .bipush (-2), 2, 0), (10, .ireturn, 1, 0), (11, .aload_n 0, 1, 0), (12, .getfield 59, 3, 0), (15, .bipush 8, 2, 0), (17, .if_icmp .lt 6, 3, 23), (20, .bipush (-4), 2, 0), (22, .ireturn, 1, 0), (23, .aload_n 0, 1, 0), (24, .aload_n 0, 1, 0), (25, .getfield 59, 3, 0), (28, .iload_n 1, 1, 0), (29, .iload_n 2, 1, 0), (30, .invokevirtual 63, 3, 0), (33, .aload_n 0, 1, 0), (34, .dup, 1, 0), (35, .getfield 59, 3, 0), (38, .iconst 1, 1, 0), (39, .iadd, 1, 0), (40, .putfield 59, 3, 0), (43, .aload_n 0, 1, 0), (44, .getfield 59, 3, 0), (47, .iconst 1, 1, 0), (48, .isub, 1, 0), (49, .ireturn, 1, 0)]
def kd_DT_rough : List (Nat × Instr × Nat × Nat) := [(0, .aload_n 0, 1, 0), (1, .iload_n 1, 1, 0), (2, .invokevirtual 67, 3, 0), (5, .ifCond .eq 11, 3, 16), (8, .iload_n 2, 1, 0), (9, .iload_n 3, 1, 0), (10, .invokestatic 55, 3, 0), (13, .ifCond .ne 6, 3, 19), (16, .bipush (-2), 2, 0), (18, .ireturn, 1, 0), (19, .aload_n 0, 1, 0), (20, .iload_n 1, 1, 0), (21, .iload_n 2, 1, 0), (22, .iload_n 3, 1, 0), (23, .invokevirtual 63, 3, 0), (26, .iconst 1, 1, 0), (27, .ireturn, 1, 0)]
def kd_DT_telling : List (Nat × Instr × Nat × Nat) := [(0, .iload_n 1, 1, 0), (1, .invokestatic 71, 3, 0), (4, .ifCond .ne 6, 3, 10), (7, .bipush (-2), 2, 0), (9, .ireturn, 1, 0), (10, .aload_n 0, 1, 0), (11, .getfield 74, 3, 0), (14, .bipush 20, 2, 0), (16, .if_icmp .lt 6, 3, 22), (19, .bipush (-4), 2, 0), (21, .ireturn, 1, 0), (22, .aload_n 0, 1, 0), (23, .getfield 15, 3, 0), (26, .aload_n 0, 1, 0), (27, .getfield 74, 3, 0), (30, .aaload, 1, 0), (31, .iload_n 1, 1, 0), (32, .invokevirtual 77, 3, 0), (35, .aload_n 0, 1, 0), (36, .dup, 1, 0), (37, .getfield 74, 3, 0), (40, .iconst 1, 1, 0), (41, .iadd, 1, 0), (42, .putfield 74, 3, 0), (45, .aload_n 0, 1, 0), (46, .getfield 74, 3, 0), (49, .iconst 1, 1, 0), (50, .isub, 1, 0), (51, .ireturn, 1, 0)]
def kd_DT_term : List (Nat × Instr × Nat × Nat) := [(0, .aload_n 0, 1, 0), (1, .iload_n 1, 1, 0), (2, .invokevirtual 81, 3, 0), (5, .ifCond .ne 6, 3, 11), (8, .bipush (-2), 2, 0), (10, .ireturn, 1, 0), (11, .aload_n 0, 1, 0), (12, .aload_n 0, 1, 0), (13, .getfield 15, 3, 0), (16, .iload_n 1, 1, 0), (17, .aaload, 1, 0), (18, .iload_n 2, 1, 0), (19, .iload_n 3, 1, 0), (20, .invokevirtual 84, 3, 0), (23, .istore 4, 2, 0), (25, .iload 4, 2, 0), (27, .ifCond .le 11, 3, 38), (30, .aload_n 0, 1, 0), (31, .getfield 30, 3, 0), (34, .iload_n 1, 1, 0), (35, .invokevirtual 88, 3, 0), (38, .iload 4, 2, 0), (40, .ireturn, 1, 0)]
def kd_DT_takeOff : List (Nat × Instr × Nat × Nat) := [(0, .aload_n 0, 1, 0), (1, .iload_n 1, 1, 0), (2, .invokevirtual 81, 3, 0), (5, .ifCond .ne 6, 3, 11), (8, .bipush (-2), 2, 0), (10, .ireturn, 1, 0), (11, .aload_n 0, 1, 0), (12, .getfield 15, 3, 0), (15, .iload_n 1, 1, 0), (16, .aaload, 1, 0), (17, .getfield 91, 3, 0), (20, .iload_n 2, 1, 0), (21, .if_icmp .ne 6, 3, 27), (24, .bipush (-3), 2, 0), (26, .ireturn, 1, 0), (27, .aload_n 0, 1, 0), (28, .getfield 15, 3, 0), (31, .iload_n 1, 1, 0), (32, .aaload, 1, 0), (33, .iload_n 2, 1, 0), (34, .putfield 91, 3, 0), (37, .aload_n 0, 1, 0), (38, .getfield 30, 3, 0), (41, .iload_n 1, 1, 0), (42, .invokevirtual 88, 3, 0), (45, .iconst 1, 1, 0), (46, .ireturn, 1, 0)]
def kd_DT_sort : List (Nat × Instr × Nat × Nat) := [(0, .aload_n 0, 1, 0), (1, .iload_n 1, 1, 0), (2, .invokevirtual 81, 3, 0), (5, .ifCond .ne 6, 3, 11), (8, .bipush (-2), 2, 0), (10, .ireturn, 1, 0), (11, .aload_n 0, 1, 0), (12, .getfield 30, 3, 0), (15, .aload_n 0, 1, 0), (16, .getfield 15, 3, 0), (19, .aload_n 0, 1, 0), (20, .getfield 74, 3, 0), (23, .invokevirtual 95, 3, 0), (26, .aload_n 0, 1, 0), (27, .getfield 30, 3, 0), (30, .getfield 99, 3, 0), (33, .iload_n 1, 1, 0), (34, .iaload, 1, 0), (35, .ireturn, 1, 0)]
def kd_DT_madeOf : List (Nat × Instr × Nat × Nat) := [(0, .aload_n 0, 1, 0), (1, .iload_n 1, 1, 0), (2, .invokevirtual 81, 3, 0), (5, .ifCond .ne 6, 3, 11), (8, .bipush (-2), 2, 0), (10, .ireturn, 1, 0), (11, .aload_n 0, 1, 0), (12, .getfield 30, 3, 0), (15, .aload_n 0, 1, 0), (16, .getfield 15, 3, 0), (19, .aload_n 0, 1, 0), (20, .getfield 74, 3, 0), (23, .invokevirtual 95, 3, 0), (26, .aload_n 0, 1, 0), (27, .getfield 30, 3, 0), (30, .getfield 99, 3, 0), (33, .iload_n 1, 1, 0), (34, .iaload, 1, 0), (35, .istore_n 2, 1, 0), (36, .iload_n 2, 1, 0), (37, .iconst 1, 1, 0), (38, .if_icmp .eq 11, 3, 49), (41, .iload_n 2, 1, 0), (42, .iconst 2, 1, 0), (43, .if_icmp .eq 6, 3, 49), (46, .bipush (-3), 2, 0), (48, .ireturn, 1, 0), (49, .aload_n 0, 1, 0), (50, .getfield 30, 3, 0), (53, .getfield 102, 3, 0), (56, .iload_n 1, 1, 0), (57, .iaload, 1, 0), (58, .ireturn, 1, 0)]
def kd_DT_tellings : List (Nat × Instr × Nat × Nat) := [(0, .iload_n 1, 1, 0), (1, .ifCond .lt 8, 3, 9), (4, .iload_n 1, 1, 0), (5, .iconst 3, 1, 0), (6, .if_icmp .le 6, 3, 12), (9, .bipush (-2), 2, 0), (11, .ireturn, 1, 0), (12, .aload_n 0, 1, 0), (13, .getfield 30, 3, 0), (16, .aload_n 0, 1, 0), (17, .getfield 15, 3, 0), (20, .aload_n 0, 1, 0), (21, .getfield 74, 3, 0), (24, .invokevirtual 95, 3, 0), (27, .iload_n 1, 1, 0), (28, .iconst 3, 1, 0), (29, .if_icmp .ne 18, 3, 47), (32, .iconst 2, 1, 0), (33, .aload_n 0, 1, 0), (34, .getfield 59, 3, 0), (37, .imul, 1, 0), (38, .aload_n 0, 1, 0), (39, .getfield 30, 3, 0), (42, .getfield 105, 3, 0), (45, .isub, 1, 0), (46, .ireturn, 1, 0), (47, .aload_n 0, 1, 0), (48, .getfield 30, 3, 0), (51, .iload_n 1, 1, 0), (52, .invokevirtual 108, 3, 0), (55, .ireturn, 1, 0)]
def kd_DT_fixed : List (Nat × Instr × Nat × Nat) := [(0, .aload_n 0, 1, 0), (1, .iload_n 1, 1, 0), (2, .invokevirtual 112, 3, 0), (5, .ifCond .ne 6, 3, 11), (8, .bipush (-2), 2, 0), (10, .ireturn, 1, 0), (11, .aload_n 0, 1, 0), (12, .getfield 30, 3, 0), (15, .aload_n 0, 1, 0), (16, .getfield 15, 3, 0), (19, .aload_n 0, 1, 0), (20, .getfield 74, 3, 0), (23, .invokevirtual 95, 3, 0), (26, .aload_n 0, 1, 0), (27, .getfield 24, 3, 0), (30, .iconst 0, 1, 0), (31, .invokevirtual 77, 3, 0), (34, .aload_n 0, 1, 0), (35, .getfield 24, 3, 0), (38, .iload_n 1, 1, 0), (39, .iconst 1, 1, 0), (40, .invokevirtual 115, 3, 0), (43, .aload_n 0, 1, 0), (44, .getfield 30, 3, 0), (47, .aload_n 0, 1, 0), (48, .getfield 24, 3, 0), (51, .invokevirtual 119, 3, 0), (54, .ifCond .ne 5, 3, 59), (57, .iconst 0, 1, 0), (58, .ireturn, 1, 0), (59, .aload_n 0, 1, 0), (60, .invokevirtual 123, 3, 0), (63, .aload_n 0, 1, 0), (64, .iload_n 1, 1, 0), (65, .invokevirtual 126, 3, 0), (68, .iconst 1, 1, 0), (69, .ireturn, 1, 0)]
def kd_DT_question : List (Nat × Instr × Nat × Nat) := [(0, .iload_n 1, 1, 0), (1, .invokestatic 71, 3, 0), (4, .ifCond .ne 6, 3, 10), (7, .bipush (-2), 2, 0), (9, .ireturn, 1, 0), (10, .aload_n 0, 1, 0), (11, .getfield 20, 3, 0), (14, .iload_n 1, 1, 0), (15, .invokevirtual 77, 3, 0), (18, .iconst 1, 1, 0), (19, .ireturn, 1, 0)]
def kd_DT_ask : List (Nat × Instr × Nat × Nat) := [(0, .aload_n 0, 1, 0), (1, .aload_n 0, 1, 0), (2, .getfield 20, 3, 0), (5, .iload_n 1, 1, 0), (6, .iload_n 2, 1, 0), (7, .invokevirtual 84, 3, 0), (10, .ireturn, 1, 0)]
def kd_DT_holds : List (Nat × Instr × Nat × Nat) := [(0, .aload_n 0, 1, 0), (1, .getfield 30, 3, 0), (4, .aload_n 0, 1, 0), (5, .getfield 15, 3, 0), (8, .aload_n 0, 1, 0), (9, .getfield 74, 3, 0), (12, .invokevirtual 95, 3, 0), (15, .aload_n 0, 1, 0), (16, .getfield 30, 3, 0), (19, .aload_n 0, 1, 0), (20, .getfield 20, 3, 0), (23, .invokevirtual 119, 3, 0), (26, .istore_n 1, 1, 0), (27, .iload_n 1, 1, 0), (28, .ifCond .ne 5, 3, 33), (31, .iconst 2, 1, 0), (32, .ireturn, 1, 0), (33, .iload_n 1, 1, 0), (34, .iconst 1, 1, 0), (35, .if_icmp .ne 7, 3, 42), (38, .iconst 1, 1, 0), (39, .goto 4, 3, 43), (42, .iconst 0, 1, 0), (43, .ireturn, 1, 0)]
def kd_DT_nearest : List (Nat × Instr × Nat × Nat) := [(0, .aload_n 0, 1, 0), (1, .iload_n 1, 1, 0), (2, .invokevirtual 112, 3, 0), (5, .ifCond .ne 6, 3, 11), (8, .bipush (-2), 2, 0), (10, .ireturn, 1, 0), (11, .aload_n 0, 1, 0), (12, .getfield 30, 3, 0), (15, .aload_n 0, 1, 0), (16, .getfield 15, 3, 0), (19, .aload_n 0, 1, 0), (20, .getfield 74, 3, 0), (23, .invokevirtual 95, 3, 0), (26, .aload_n 0, 1, 0), (27, .invokevirtual 123, 3, 0), (30, .aload_n 0, 1, 0), (31, .iload_n 1, 1, 0), (32, .invokevirtual 126, 3, 0), (35, .iconst 1, 1, 0), (36, .ireturn, 1, 0)]
def kd_DT_strain : List (Nat × Instr × Nat × Nat) := [(0, .aload_n 0, 1, 0), (1, .getfield 30, 3, 0), (4, .aload_n 0, 1, 0), (5, .getfield 15, 3, 0), (8, .aload_n 0, 1, 0), (9, .getfield 74, 3, 0), (12, .invokevirtual 95, 3, 0), (15, .aload_n 0, 1, 0), (16, .invokevirtual 123, 3, 0), (19, .aload_n 0, 1, 0), (20, .getfield 37, 3, 0), (23, .invokevirtual 129, 3, 0), (26, .aload_n 0, 1, 0), (27, .getfield 37, 3, 0), (30, .aload_n 0, 1, 0), (31, .getfield 44, 3, 0), (34, .invokevirtual 132, 3, 0), (37, .iconst 1, 1, 0), (38, .ireturn, 1, 0)]
def kd_DT_drag : List (Nat × Instr × Nat × Nat) := [(0, .aload_n 0, 1, 0), (1, .iload_n 1, 1, 0), (2, .invokevirtual 67, 3, 0), (5, .ifCond .eq 20, 3, 25), (8, .iload_n 2, 1, 0), (9, .iload_n 3, 1, 0), (10, .invokestatic 55, 3, 0), (13, .ifCond .eq 12, 3, 25), (16, .aload_n 0, 1, 0), (17, .iload 4, 2, 0), (19, .invokevirtual 112, 3, 0), (22, .ifCond .ne 6, 3, 28), (25, .bipush (-2), 2, 0), (27, .ireturn, 1, 0), (28, .aload_n 0, 1, 0), (29, .getfield 30, 3, 0), (32, .aload_n 0, 1, 0), (33, .getfield 15, 3, 0), (36, .aload_n 0, 1, 0), (37, .getfield 74, 3, 0), (40, .invokevirtual 95, 3, 0), (43, .aload_n 0, 1, 0), (44, .getfield 30, 3, 0), (47, .getfield 105, 3, 0), (50, .istore 5, 2, 0), (52, .aload_n 0, 1, 0), (53, .invokevirtual 123, 3, 0), (56, .aload_n 0, 1, 0), (57, .iconst 2, 1, 0), (58, .iload_n 1, 1, 0), (59, .imul, 1, 0), (60, .iload_n 2, 1, 0), (61, .invokevirtual 136, 3, 0), (64, .aload_n 0, 1, 0), (65, .iconst 2, 1, 0), (66, .iload_n 1, 1, 0), (67, .imul, 1, 0), (68, .iconst 1, 1, 0), (69, .iadd, 1, 0), (70, .iload_n 3, 1, 0), (71, .invokevirtual 136, 3, 0), (74, .aload_n 0, 1, 0), (75, .getfield 30, 3, 0), (78, .iload 5, 2, 0), (80, .invokevirtual 139, 3, 0), (83, .aload_n 0, 1, 0), (84, .iload 4, 2, 0), (86, .invokevirtual 126, 3, 0), (89, .iconst 1, 1, 0), (90, .ireturn, 1, 0)]
def kd_DT_sign : List (Nat × Instr × Nat × Nat) := [(0, .iload_n 1, 1, 0), (1, .tableswitch 57 0 2 #[27, 35, 46], 27, 0), (28, .aload_n 0, 1, 0), (29, .getfield 44, 3, 0), (32, .getfield 142, 3, 0), (35, .ireturn, 1, 0), (36, .aload_n 0, 1, 0), (37, .getfield 44, 3, 0), (40, .getfield 145, 3, 0), (43, .invokestatic 149, 3, 0), (46, .ireturn, 1, 0), (47, .aload_n 0, 1, 0), (48, .getfield 44, 3, 0), (51, .getfield 155, 3, 0), (54, .invokestatic 149, 3, 0), (57, .ireturn, 1, 0), (58, .bipush (-10), 2, 0), (60, .ireturn, 1, 0)]
def kd_DT_limb : List (Nat × Instr × Nat × Nat) := [(0, .iload_n 1, 1, 0), (1, .ifCond .lt 12, 3, 13), (4, .iload_n 1, 1, 0), (5, .iconst 1, 1, 0), (6, .if_icmp .gt 7, 3, 13), (9, .iload_n 2, 1, 0), (10, .ifCond .ge 6, 3, 16), (13, .bipush (-2), 2, 0), (15, .ireturn, 1, 0), (16, .iload_n 1, 1, 0), (17, .ifCond .ne 13, 3, 30), (20, .aload_n 0, 1, 0), (21, .getfield 44, 3, 0), (24, .getfield 145, 3, 0), (27, .goto 10, 3, 37), (30, .aload_n 0, 1, 0), (31, .getfield 44, 3, 0), (34, .getfield 155, 3, 0), (37, .astore_n 3, 1, 0), (38, .iload_n 2, 1, 0), (39, .aload_n 3, 1, 0), (40, .invokestatic 149, 3, 0), (43, .if_icmp .ge 9, 3, 52), (46, .iload_n 2, 1, 0), (47, .aload_n 3, 1, 0), (48, .arraylength, 1, 0), (49, .if_icmp .lt 5, 3, 54), (52, .iconst (-1), 1, 0), (53, .ireturn, 1, 0), (54, .aload_n 3, 1, 0), (55, .iload_n 2, 1, 0), (56, .laload, 1, 0), (57, .l2i, 1, 0), (58, .ireturn, 1, 0)]
def kd_DT_bar : List (Nat × Instr × Nat × Nat) := [(0, .aload_n 0, 1, 0), (1, .iload_n 1, 1, 0), (2, .iload_n 2, 1, 0), (3, .invokevirtual 158, 3, 0), (6, .ifCond .eq 15, 3, 21), (9, .aload_n 0, 1, 0), (10, .getfield 51, 3, 0), (13, .iload_n 1, 1, 0), (14, .iload_n 2, 1, 0), (15, .invokevirtual 161, 3, 0), (18, .ifCond .eq 6, 3, 24), (21, .bipush (-2), 2, 0), (23, .ireturn, 1, 0), (24, .aload_n 0, 1, 0), (25, .getfield 51, 3, 0), (28, .getfield 164, 3, 0), (31, .bipush 20, 2, 0), (33, .if_icmp .lt 6, 3, 39), (36, .bipush (-4), 2, 0), (38, .ireturn, 1, 0), (39, .aload_n 0, 1, 0), (40, .getfield 51, 3, 0), (43, .iload_n 1, 1, 0), (44, .iload_n 2, 1, 0), (45, .invokevirtual 167, 3, 0), (48, .aload_n 0, 1, 0), (49, .getfield 51, 3, 0), (52, .getfield 164, 3, 0), (55, .iconst 1, 1, 0), (56, .isub, 1, 0), (57, .ireturn, 1, 0)]
def kd_DT_sortOf : List (Nat × Instr × Nat × Nat) := [(0, .aload_n 0, 1, 0), (1, .iload_n 1, 1, 0), (2, .invokevirtual 170, 3, 0), (5, .ifCond .ne 6, 3, 11), (8, .bipush (-2), 2, 0), (10, .ireturn, 1, 0), (11, .aload_n 0, 1, 0), (12, .getfield 51, 3, 0), (15, .getfield 173, 3, 0), (18, .iload_n 1, 1, 0), (19, .baload, 1, 0), (20, .ifCond .eq 7, 3, 27), (23, .iconst 1, 1, 0), (24, .goto 4, 3, 28), (27, .iconst 0, 1, 0), (28, .ireturn, 1, 0)]
def kd_DT_bars : List (Nat × Instr × Nat × Nat) := [(0, .iload_n 1, 1, 0), (1, .tableswitch 80 0 2 #[27, 35, 51], 27, 0), (28, .aload_n 0, 1, 0), (29, .getfield 51, 3, 0), (32, .getfield 177, 3, 0), (35, .ireturn, 1, 0), (36, .aload_n 0, 1, 0), (37, .getfield 51, 3, 0), (40, .getfield 164, 3, 0), (43, .aload_n 0, 1, 0), (44, .getfield 51, 3, 0), (47, .getfield 177, 3, 0), (50, .isub, 1, 0), (51, .ireturn, 1, 0), (52, .aload_n 0, 1, 0), (53, .getfield 59, 3, 0), (56, .iconst 2, 1, 0), (57, .if_icmp .ge 7, 3, 64), (60, .iconst 0, 1, 0), (61, .goto 19, 3, 80), (64, .iconst 2, 1, 0), (65, .aload_n 0, 1, 0), (66, .getfield 59, 3, 0), (69, .imul, 1, 0), (70, .iconst 3, 1, 0), (71, .isub, 1, 0), (72, .aload_n 0, 1, 0), (73, .getfield 51, 3, 0), (76, .getfield 177, 3, 0), (79, .isub, 1, 0), (80, .ireturn, 1, 0), (81, .bipush (-2), 2, 0), (83, .ireturn, 1, 0)]
def kd_DT_round : List (Nat × Instr × Nat × Nat) := [(0, .aload_n 0, 1, 0), (1, .iload_n 1, 1, 0), (2, .invokevirtual 170, 3, 0), (5, .ifCond .ne 6, 3, 11), (8, .bipush (-2), 2, 0), (10, .ireturn, 1, 0), (11, .aload_n 0, 1, 0), (12, .getfield 51, 3, 0), (15, .getfield 173, 3, 0), (18, .iload_n 1, 1, 0), (19, .baload, 1, 0), (20, .ifCond .ne 6, 3, 26), (23, .bipush (-3), 2, 0), (25, .ireturn, 1, 0), (26, .aload_n 0, 1, 0), (27, .getfield 51, 3, 0), (30, .iload_n 1, 1, 0), (31, .invokevirtual 180, 3, 0), (34, .ireturn, 1, 0)]
def kd_DT_kept : List (Nat × Instr × Nat × Nat) := [(0, .aload_n 0, 1, 0), (1, .iload_n 1, 1, 0), (2, .iload_n 2, 1, 0), (3, .invokevirtual 158, 3, 0), (6, .ifCond .ne 6, 3, 12), (9, .bipush (-2), 2, 0), (11, .ireturn, 1, 0), (12, .aload_n 0, 1, 0), (13, .getfield 51, 3, 0), (16, .iload_n 1, 1, 0), (17, .iload_n 2, 1, 0), (18, .invokevirtual 183, 3, 0), (21, .ifCond .eq 7, 3, 28), (24, .iconst 1, 1, 0), (25, .goto 4, 3, 29), (28, .iconst 0, 1, 0), (29, .ireturn, 1, 0)]
def kd_DT_piece : List (Nat × Instr × Nat × Nat) := [(0, .aload_n 0, 1, 0), (1, .iload_n 1, 1, 0), (2, .iload_n 2, 1, 0), (3, .invokevirtual 158, 3, 0), (6, .ifCond .ne 6, 3, 12), (9, .bipush (-2), 2, 0), (11, .ireturn, 1, 0), (12, .aload_n 0, 1, 0), (13, .getfield 51, 3, 0), (16, .iload_n 1, 1, 0), (17, .iload_n 2, 1, 0), (18, .invokevirtual 183, 3, 0), (21, .ifCond .ne 6, 3, 27), (24, .bipush (-3), 2, 0), (26, .ireturn, 1, 0), (27, .iconst 1, 1, 0), (28, .iload_n 1, 1, 0), (29, .ishl, 1, 0), (30, .iconst 1, 1, 0), (31, .iload_n 2, 1, 0), (32, .ishl, 1, 0), (33, .ior, 1, 0), (34, .istore_n 3, 1, 0), (35, .iconst 0, 1, 0), (36, .istore 4, 2, 0), (38, .iload 4, 2, 0), (40, .aload_n 0, 1, 0), (41, .getfield 59, 3, 0), (44, .if_icmp .ge 54, 3, 98), (47, .iload 4, 2, 0), (49, .iload_n 1, 1, 0), (50, .if_icmp .eq 42, 3, 92), (53, .iload 4, 2, 0), (55, .iload_n 2, 1, 0), (56, .if_icmp .eq 36, 3, 92), (59, .aload_n 0, 1, 0), (60, .getfield 51, 3, 0), (63, .iload 4, 2, 0), (65, .iload_n 1, 1, 0), (66, .invokevirtual 183, 3, 0), (69, .ifCond .eq 23, 3, 92), (72, .aload_n 0, 1, 0), (73, .getfield 51, 3, 0), (76, .iload 4, 2, 0), (78, .iload_n 2, 1, 0), (79, .invokevirtual 183, 3, 0), (82, .ifCond .eq 10, 3, 92), (85, .iload_n 3, 1, 0), (86, .iconst 1, 1, 0), (87, .iload 4, 2, 0), (89, .ishl, 1, 0), (90, .ior, 1, 0), (91, .istore_n 3, 1, 0), (92, .iinc 4 1, 3, 0), (95, .goto (-57), 3, 38), (98, .iload_n 3, 1, 0), (99, .ireturn, 1, 0)]
def kd_DT_fixes : List (Nat × Instr × Nat × Nat) := [(0, .iload_n 1, 1, 0), (1, .iconst (-1), 1, 0), (2, .if_icmp .ge 6, 3, 8), (5, .bipush (-10), 2, 0), (7, .ireturn, 1, 0), (8, .iconst 0, 1, 0), (9, .istore_n 2, 1, 0), (10, .iconst 0, 1, 0), (11, .istore_n 3, 1, 0), (12, .iload_n 3, 1, 0), (13, .aload_n 0, 1, 0), (14, .getfield 59, 3, 0), (17, .if_icmp .ge 58, 3, 75), (20, .iload_n 3, 1, 0), (21, .iconst 1, 1, 0), (22, .iadd, 1, 0), (23, .istore 4, 2, 0), (25, .iload 4, 2, 0), (27, .aload_n 0, 1, 0), (28, .getfield 59, 3, 0), (31, .if_icmp .ge 38, 3, 69), (34, .aload_n 0, 1, 0), (35, .getfield 51, 3, 0), (38, .iload_n 3, 1, 0), (39, .iload 4, 2, 0), (41, .invokevirtual 183, 3, 0), (44, .ifCond .ne 19, 3, 63), (47, .iload_n 2, 1, 0), (48, .iload_n 1, 1, 0), (49, .if_icmp .ne 11, 3, 60), (52, .bipush 10, 2, 0), (54, .iload_n 3, 1, 0), (55, .imul, 1, 0), (56, .iload 4, 2, 0), (58, .iadd, 1, 0), (59, .ireturn, 1, 0), (60, .iinc 2 1, 3, 0), (63, .iinc 4 1, 3, 0), (66, .goto (-41), 3, 25), (69, .iinc 3 1, 3, 0), (72, .goto (-60), 3, 12), (75, .iload_n 1, 1, 0), (76, .iconst (-1), 1, 0), (77, .if_icmp .ne 7, 3, 84), (80, .iload_n 2, 1, 0), (81, .goto 5, 3, 86), (84, .bipush (-5), 2, 0), (86, .ireturn, 1, 0)]
def kd_DT_order : List (Nat × Instr × Nat × Nat) := [(0, .iload_n 1, 1, 0), (1, .ifCond .ge 6, 3, 7), (4, .bipush (-2), 2, 0), (6, .ireturn, 1, 0), (7, .iload_n 1, 1, 0), (8, .aload_n 0, 1, 0), (9, .getfield 59, 3, 0), (12, .if_icmp .ge 9, 3, 21), (15, .iload_n 1, 1, 0), (16, .bipush 8, 2, 0), (18, .if_icmp .lt 5, 3, 23), (21, .iconst (-1), 1, 0), (22, .ireturn, 1, 0), (23, .aload_n 0, 1, 0), (24, .getfield 51, 3, 0), (27, .aload_n 0, 1, 0), (28, .getfield 59, 3, 0), (31, .invokevirtual 186, 3, 0), (34, .pop, 1, 0), (35, .aload_n 0, 1, 0), (36, .getfield 51, 3, 0), (39, .getfield 189, 3, 0), (42, .iload_n 1, 1, 0), (43, .iaload, 1, 0), (44, .ireturn, 1, 0)]
def kd_DT_whole : List (Nat × Instr × Nat × Nat) := [(0, .aload_n 0, 1, 0), (1, .getfield 51, 3, 0), (4, .aload_n 0, 1, 0), (5, .getfield 59, 3, 0), (8, .invokevirtual 186, 3, 0), (11, .istore_n 1, 1, 0), (12, .iload_n 1, 1, 0), (13, .invokestatic 192, 3, 0), (16, .iconst 2, 1, 0), (17, .if_icmp .le 7, 3, 24), (20, .iload_n 1, 1, 0), (21, .goto 4, 3, 25), (24, .iconst 0, 1, 0), (25, .ireturn, 1, 0)]
def kd_DT_count : List (Nat × Instr × Nat × Nat) := [(0, .iload_n 1, 1, 0), (1, .tableswitch 54 0 3 #[31, 36, 41, 46], 31, 0), (32, .aload_n 0, 1, 0), (33, .getfield 59, 3, 0), (36, .ireturn, 1, 0), (37, .aload_n 0, 1, 0), (38, .getfield 74, 3, 0), (41, .ireturn, 1, 0), (42, .aload_n 0, 1, 0), (43, .invokevirtual 197, 3, 0), (46, .ireturn, 1, 0), (47, .aload_n 0, 1, 0), (48, .getfield 51, 3, 0), (51, .getfield 164, 3, 0), (54, .ireturn, 1, 0), (55, .bipush (-2), 2, 0), (57, .ireturn, 1, 0)]
def kd_DT_digest : List (Nat × Instr × Nat × Nat) := [(0, .aload_n 0, 1, 0), (1, .getfield 30, 3, 0), (4, .aload_n 0, 1, 0), (5, .getfield 15, 3, 0), (8, .aload_n 0, 1, 0), (9, .getfield 74, 3, 0), (12, .invokevirtual 95, 3, 0), (15, .ldc2_w 201, 3, 0), (18, .lstore_n 1, 1, 0), (19, .iconst 0, 1, 0), (20, .istore_n 3, 1, 0), (21, .iload_n 3, 1, 0), (22, .iconst 4, 1, 0), (23, .if_icmp .ge 22, 3, 45), (26, .ldc2_w 203, 3, 0), (29, .lload_n 1, 1, 0), (30, .lmul, 1, 0), (31, .aload_n 0, 1, 0), (32, .iload_n 3, 1, 0), (33, .invokevirtual 205, 3, 0), (36, .i2l, 1, 0), (37, .ladd, 1, 0), (38, .lstore_n 1, 1, 0), (39, .iinc 3 1, 3, 0), (42, .goto (-21), 3, 21), (45, .iconst 0, 1, 0), (46, .istore_n 3, 1, 0), (47, .iload_n 3, 1, 0), (48, .iconst 2, 1, 0), (49, .aload_n 0, 1, 0), (50, .getfield 59, 3, 0), (53, .imul, 1, 0), (54, .if_icmp .ge 23, 3, 77), (57, .ldc2_w 203, 3, 0), (60, .lload_n 1, 1, 0), (61, .lmul, 1, 0), (62, .aload_n 0, 1, 0), (63, .getfield 9, 3, 0), (66, .iload_n 3, 1, 0), (67, .iaload, 1, 0), (68, .i2l, 1, 0), (69, .ladd, 1, 0), (70, .lstore_n 1, 1, 0), (71, .iinc 3 1, 3, 0), (74, .goto (-27), 3, 47), (77, .iconst 0, 1, 0), (78, .istore_n 3, 1, 0), (79, .iload_n 3, 1, 0), (80, .aload_n 0, 1, 0), (81, .getfield 74, 3, 0), (84, .if_icmp .ge 35, 3, 119), (87, .ldc2_w 203, 3, 0), (90, .aload_n 0, 1, 0), (91, .getfield 15, 3, 0), (94, .iload_n 3, 1, 0), (95, .aaload, 1, 0), (96, .lload_n 1, 1, 0), (97, .invokevirtual 208, 3, 0), (100, .lmul, 1, 0), (101, .aload_n 0, 1, 0), (102, .getfield 30, 3, 0), (105, .getfield 99, 3, 0), (108, .iload_n 3, 1, 0), (109, .iaload, 1, 0), (110, .i2l, 1, 0), (111, .ladd, 1, 0), (112, .lstore_n 1, 1, 0), (113, .iinc 3 1, 3, 0), (116, .goto (-37), 3, 79), (119, .aload_n 0, 1, 0), (120, .getfield 51, 3, 0), (123, .aload_n 0, 1, 0), (124, .getfield 20, 3, 0), (127, .lload_n 1, 1, 0), (128, .invokevirtual 208, 3, 0), (131, .invokevirtual 212, 3, 0), (134, .lstore_n 1, 1, 0), (135, .ldc2_w 203, 3, 0), (138, .lload_n 1, 1, 0), (139, .lmul, 1, 0), (140, .aload_n 0, 1, 0), (141, .invokevirtual 213, 3, 0), (144, .i2l, 1, 0), (145, .ladd, 1, 0), (146, .lstore_n 1, 1, 0), (147, .aload_n 0, 1, 0), (148, .getfield 44, 3, 0), (151, .lload_n 1, 1, 0), (152, .invokevirtual 216, 3, 0), (155, .lreturn, 1, 0)]
def kd_DT_isWithin : List (Nat × Instr × Nat × Nat) := [(0, .iload_n 0, 1, 0), (1, .iload_n 1, 1, 0), (2, .ineg, 1, 0), (3, .if_icmp .lt 12, 3, 15), (6, .iload_n 0, 1, 0), (7, .iload_n 1, 1, 0), (8, .if_icmp .gt 7, 3, 15), (11, .iconst 1, 1, 0), (12, .goto 4, 3, 16), (15, .iconst 0, 1, 0), (16, .ireturn, 1, 0)]
def kd_DT_isPlace : List (Nat × Instr × Nat × Nat) := [(0, .iload_n 0, 1, 0), (1, .sipush 1000, 3, 0), (4, .invokestatic 217, 3, 0), (7, .ifCond .eq 17, 3, 24), (10, .iload_n 1, 1, 0), (11, .sipush 1000, 3, 0), (14, .invokestatic 217, 3, 0), (17, .ifCond .eq 7, 3, 24), (20, .iconst 1, 1, 0), (21, .goto 4, 3, 25), (24, .iconst 0, 1, 0), (25, .ireturn, 1, 0)]
def kd_DT_isTotal : List (Nat × Instr × Nat × Nat) := [(0, .iload_n 0, 1, 0), (1, .sipush 2000, 3, 0), (4, .invokestatic 217, 3, 0), (7, .ireturn, 1, 0)]
def kd_DT_isPoint : List (Nat × Instr × Nat × Nat) := [(0, .iload_n 1, 1, 0), (1, .ifCond .lt 15, 3, 16), (4, .iload_n 1, 1, 0), (5, .aload_n 0, 1, 0), (6, .getfield 59, 3, 0), (9, .if_icmp .ge 7, 3, 16), (12, .iconst 1, 1, 0), (13, .goto 4, 3, 17), (16, .iconst 0, 1, 0), (17, .ireturn, 1, 0)]
def kd_DT_isPair : List (Nat × Instr × Nat × Nat) := [(0, .aload_n 0, 1, 0), (1, .iload_n 1, 1, 0), (2, .invokevirtual 67, 3, 0), (5, .ifCond .eq 20, 3, 25), (8, .aload_n 0, 1, 0), (9, .iload_n 2, 1, 0), (10, .invokevirtual 67, 3, 0), (13, .ifCond .eq 12, 3, 25), (16, .iload_n 1, 1, 0), (17, .iload_n 2, 1, 0), (18, .if_icmp .eq 7, 3, 25), (21, .iconst 1, 1, 0), (22, .goto 4, 3, 26), (25, .iconst 0, 1, 0), (26, .ireturn, 1, 0)]
def kd_DT_isNumber : List (Nat × Instr × Nat × Nat) := [(0, .iload_n 1, 1, 0), (1, .ifCond .lt 17, 3, 18), (4, .iload_n 1, 1, 0), (5, .iconst 2, 1, 0), (6, .aload_n 0, 1, 0), (7, .getfield 59, 3, 0), (10, .imul, 1, 0), (11, .if_icmp .ge 7, 3, 18), (14, .iconst 1, 1, 0), (15, .goto 4, 3, 19), (18, .iconst 0, 1, 0), (19, .ireturn, 1, 0)]
def kd_DT_isTelling : List (Nat × Instr × Nat × Nat) := [(0, .iload_n 1, 1, 0), (1, .ifCond .lt 15, 3, 16), (4, .iload_n 1, 1, 0), (5, .aload_n 0, 1, 0), (6, .getfield 74, 3, 0), (9, .if_icmp .ge 7, 3, 16), (12, .iconst 1, 1, 0), (13, .goto 4, 3, 17), (16, .iconst 0, 1, 0), (17, .ireturn, 1, 0)]
def kd_DT_isBar : List (Nat × Instr × Nat × Nat) := [(0, .iload_n 1, 1, 0), (1, .ifCond .lt 18, 3, 19), (4, .iload_n 1, 1, 0), (5, .aload_n 0, 1, 0), (6, .getfield 51, 3, 0), (9, .getfield 164, 3, 0), (12, .if_icmp .ge 7, 3, 19), (15, .iconst 1, 1, 0), (16, .goto 4, 3, 20), (19, .iconst 0, 1, 0), (20, .ireturn, 1, 0)]
def kd_DT_putRough : List (Nat × Instr × Nat × Nat) := [(0, .aload_n 0, 1, 0), (1, .getfield 9, 3, 0), (4, .iconst 2, 1, 0), (5, .iload_n 1, 1, 0), (6, .imul, 1, 0), (7, .iload_n 2, 1, 0), (8, .iastore, 1, 0), (9, .aload_n 0, 1, 0), (10, .getfield 9, 3, 0), (13, .iconst 2, 1, 0), (14, .iload_n 1, 1, 0), (15, .imul, 1, 0), (16, .iconst 1, 1, 0), (17, .iadd, 1, 0), (18, .iload_n 3, 1, 0), (19, .iastore, 1, 0), (20, .return_, 1, 0)]
def kd_DT_putTerm : List (Nat × Instr × Nat × Nat) := [(0, .aload_n 0, 1, 0), (1, .iload_n 2, 1, 0), (2, .invokevirtual 112, 3, 0), (5, .ifCond .eq 23, 3, 28), (8, .iload_n 3, 1, 0), (9, .ifCond .eq 19, 3, 28), (12, .iload_n 3, 1, 0), (13, .iconst 3, 1, 0), (14, .invokestatic 217, 3, 0), (17, .ifCond .eq 11, 3, 28), (20, .aload_n 1, 1, 0), (21, .iload_n 2, 1, 0), (22, .invokevirtual 220, 3, 0), (25, .ifCond .eq 6, 3, 31), (28, .bipush (-2), 2, 0), (30, .ireturn, 1, 0), (31, .aload_n 1, 1, 0), (32, .getfield 223, 3, 0), (35, .iconst 4, 1, 0), (36, .if_icmp .lt 6, 3, 42), (39, .bipush (-4), 2, 0), (41, .ireturn, 1, 0), (42, .aload_n 1, 1, 0), (43, .iload_n 2, 1, 0), (44, .iload_n 3, 1, 0), (45, .invokevirtual 115, 3, 0), (48, .aload_n 1, 1, 0), (49, .getfield 223, 3, 0), (52, .ireturn, 1, 0)]
def kd_DT_howManyOff : List (Nat × Instr × Nat × Nat) := [(0, .iconst 0, 1, 0), (1, .istore_n 1, 1, 0), (2, .iconst 0, 1, 0), (3, .istore_n 2, 1, 0), (4, .iload_n 2, 1, 0), (5, .aload_n 0, 1, 0), (6, .getfield 74, 3, 0), (9, .if_icmp .ge 24, 3, 33), (12, .aload_n 0, 1, 0), (13, .getfield 15, 3, 0), (16, .iload_n 2, 1, 0), (17, .aaload, 1, 0), (18, .getfield 91, 3, 0), (21, .ifCond .eq 6, 3, 27), (24, .iinc 1 1, 3, 0), (27, .iinc 2 1, 3, 0), (30, .goto (-26), 3, 4), (33, .iload_n 1, 1, 0), (34, .ireturn, 1, 0)]
def kd_DT_gatherHeld : List (Nat × Instr × Nat × Nat) := [(0, .aload_n 0, 1, 0), (1, .getfield 37, 3, 0), (4, .invokevirtual 224, 3, 0), (7, .iconst 0, 1, 0), (8, .istore_n 1, 1, 0), (9, .iload_n 1, 1, 0), (10, .aload_n 0, 1, 0), (11, .getfield 74, 3, 0), (14, .if_icmp .ge 38, 3, 52), (17, .aload_n 0, 1, 0), (18, .getfield 30, 3, 0), (21, .getfield 99, 3, 0), (24, .iload_n 1, 1, 0), (25, .iaload, 1, 0), (26, .ifCond .ne 20, 3, 46), (29, .aload_n 0, 1, 0), (30, .getfield 37, 3, 0), (33, .aload_n 0, 1, 0), (34, .getfield 15, 3, 0), (37, .iload_n 1, 1, 0), (38, .aaload, 1, 0), (39, .aload_n 0, 1, 0), (40, .getfield 9, 3, 0), (43, .invokevirtual 227, 3, 0), (46, .iinc 1 1, 3, 0), (49, .goto (-40), 3, 9), (52, .return_, 1, 0)]
def kd_DT_tellByHand : List (Nat × Instr × Nat × Nat) := [(0, .aload_n 0, 1, 0), (1, .getfield 24, 3, 0), (4, .iload_n 2, 1, 0), (5, .invokevirtual 77, 3, 0), (8, .aload_n 0, 1, 0), (9, .getfield 24, 3, 0), (12, .iload_n 1, 1, 0), (13, .iconst 1, 1, 0), (14, .invokevirtual 115, 3, 0), (17, .aload_n 0, 1, 0), (18, .getfield 30, 3, 0), (21, .aload_n 0, 1, 0), (22, .getfield 24, 3, 0), (25, .invokevirtual 119, 3, 0), (28, .ifCond .ne 25, 3, 53), (31, .aload_n 0, 1, 0), (32, .getfield 30, 3, 0), (35, .invokevirtual 230, 3, 0), (38, .aload_n 0, 1, 0), (39, .getfield 37, 3, 0), (42, .aload_n 0, 1, 0), (43, .getfield 24, 3, 0), (46, .aload_n 0, 1, 0), (47, .getfield 9, 3, 0), (50, .invokevirtual 227, 3, 0), (53, .return_, 1, 0)]
def kd_DT_findNearest : List (Nat × Instr × Nat × Nat) := [(0, .aload_n 0, 1, 0), (1, .getfield 37, 3, 0), (4, .iload_n 1, 1, 0), (5, .aload_n 0, 1, 0), (6, .getfield 9, 3, 0), (9, .iload_n 1, 1, 0), (10, .iaload, 1, 0), (11, .invokevirtual 233, 3, 0), (14, .aload_n 0, 1, 0), (15, .getfield 37, 3, 0), (18, .aload_n 0, 1, 0), (19, .getfield 44, 3, 0), (22, .invokevirtual 132, 3, 0), (25, .return_, 1, 0)]
def kd_Mo_init : List (Nat × Instr × Nat × Nat) := [(0, .aload_n 0, 1, 0), (1, .invokespecial 1, 3, 0), (4, .aload_n 0, 1, 0), (5, .bipush 16, 2, 0), (7, .newarray .int, 2, 0), (9, .putfield 7, 3, 0), (12, .aload_n 0, 1, 0), (13, .sipush 391, 3, 0), (16, .newarray .int, 2, 0), (18, .putfield 13, 3, 0), (21, .aload_n 0, 1, 0), (22, .bipush 21, 2, 0), (24, .newarray .int, 2, 0), (26, .putfield 16, 3, 0), (29, .aload_n 0, 1, 0), (30, .bipush 84, 2, 0), (32, .newarray .int, 2, 0), (34, .putfield 19, 3, 0), (37, .aload_n 0, 1, 0), (38, .bipush 84, 2, 0), (40, .newarray .int, 2, 0), (42, .putfield 22, 3, 0), (45, .aload_n 0, 1, 0), (46, .bipush 20, 2, 0), (48, .newarray .boolean, 2, 0), (50, .putfield 25, 3, 0), (53, .aload_n 0, 1, 0), (54, .bipush 20, 2, 0), (56, .newarray .int, 2, 0), (58, .putfield 29, 3, 0), (61, .aload_n 0, 1, 0), (62, .bipush 21, 2, 0), (64, .newarray .int, 2, 0), (66, .putfield 32, 3, 0), (69, .aload_n 0, 1, 0), (70, .bipush 21, 2, 0), (72, .newarray .int, 2, 0), (74, .putfield 35, 3, 0), (77, .aload_n 0, 1, 0), (78, .bipush 20, 2, 0), (80, .newarray .boolean, 2, 0), (82, .putfield 38, 3, 0), (85, .aload_n 0, 1, 0), (86, .bipush 7, 2, 0), (88, .newarray .int, 2, 0), (90, .dup, 1, 0), (91, .iconst 0, 1, 0), (92, .ldc 41, 2, 0), (94, .iastore, 1, 0), (95, .dup, 1, 0), (96, .iconst 1, 1, 0), (97, .ldc 42, 2, 0), (99, .iastore, 1, 0), (100, .dup, 1, 0), (101, .iconst 2, 1, 0), (102, .ldc 43, 2, 0), (104, .iastore, 1, 0), (105, .dup, 1, 0), (106, .iconst 3, 1, 0), (107, .ldc 44, 2, 0), (109, .iastore, 1, 0), (110, .dup, 1, 0), (111, .iconst 4, 1, 0), (112, .ldc 45, 2, 0), (114, .iastore, 1, 0), (115, .dup, 1, 0), (116, .iconst 5, 1, 0), (117, .ldc 46, 2, 0), (119, .iastore, 1, 0), (120, .dup, 1, 0), (121, .bipush 6, 2, 0), (123, .ldc 47, 2, 0), (125, .iastore, 1, 0), (126, .putfield 48, 3, 0), (129, .aload_n 0, 1, 0), (130, .sipush 391, 3, 0), (133, .newarray .long, 2, 0), (135, .putfield 51, 3, 0), (138, .aload_n 0, 1, 0), (139, .sipush 272, 3, 0), (142, .newarray .long, 2, 0), (144, .putfield 55, 3, 0), (147, .aload_n 0, 1, 0), (148, .bipush 16, 2, 0), (150, .newarray .long, 2, 0), (152, .putfield 58, 3, 0), (155, .aload_n 0, 1, 0), (156, .bipush 16, 2, 0), (158, .newarray .int, 2, 0), (160, .putfield 61, 3, 0), (163, .aload_n 0, 1, 0), (164, .bipush 7, 2, 0), (166, .newarray .long, 2, 0), (168, .putfield 64, 3, 0), (171, .aload_n 0, 1, 0), (172, .bipush 7, 2, 0), (174, .newarray .long, 2, 0), (176, .putfield 67, 3, 0), (179, .aload_n 0, 1, 0), (180, .iconst 5, 1, 0), (181, .newarray .long, 2, 0), (183, .putfield 70, 3, 0), (186, .aload_n 0, 1, 0), (187, .bipush 48, 2, 0), (189, .newarray .long, 2, 0), (191, .putfield 73, 3, 0), (194, .aload_n 0, 1, 0), (195, .bipush 8, 2, 0), (197, .newarray .int, 2, 0), (199, .putfield 76, 3, 0), (202, .aload_n 0, 1, 0), (203, .getfield 73, 3, 0), (206, .bipush 6, 2, 0), (208, .lconst 1, 1, 0), (209, .lastore, 1, 0), (210, .return_, 1, 0)]
def kd_Mo_in : List (Nat × Instr × Nat × Nat) := [(0, .lload_n 0, 1, 0), (1, .lload_n 2, 1, 0), (2, .lcmp, 1, 0), (3, .ifCond .lt 14, 3, 17), (6, .lload_n 0, 1, 0), (7, .lload 4, 2, 0), (9, .lcmp, 1, 0), (10, .ifCond .gt 7, 3, 17), (13, .iconst 1, 1, 0), (14, .goto 4, 3, 18), (17, .iconst 0, 1, 0), (18, .ireturn, 1, 0)]
def kd_Mo_point : List (Nat × Instr × Nat × Nat) := [(0, .iload_n 1, 1, 0), (1, .i2l, 1, 0), (2, .ldc2_w 79, 3, 0), (5, .ldc2_w 81, 3, 0), (8, .invokestatic 83, 3, 0), (11, .ifCond .eq 17, 3, 28), (14, .iload_n 2, 1, 0), (15, .i2l, 1, 0), (16, .ldc2_w 79, 3, 0), (19, .ldc2_w 81, 3, 0), (22, .invokestatic 83, 3, 0), (25, .ifCond .ne 6, 3, 31), (28, .bipush (-2), 2, 0), (30, .ireturn, 1, 0), (31, .aload_n 0, 1, 0), (32, .getfield 87, 3, 0), (35, .bipush 8, 2, 0), (37, .if_icmp .ne 6, 3, 43), (40, .bipush (-4), 2, 0), (42, .ireturn, 1, 0), (43, .aload_n 0, 1, 0), (44, .getfield 7, 3, 0), (47, .iconst 2, 1, 0), (48, .aload_n 0, 1, 0), (49, .getfield 87, 3, 0), (52, .imul, 1, 0), (53, .iload_n 1, 1, 0), (54, .iastore, 1, 0), (55, .aload_n 0, 1, 0), (56, .getfield 7, 3, 0), (59, .iconst 2, 1, 0), (60, .aload_n 0, 1, 0), (61, .getfield 87, 3, 0), (64, .imul, 1, 0), (65, .iconst 1, 1, 0), (66, .iadd, 1, 0), (67, .iload_n 2, 1, 0), (68, .iastore, 1, 0), (69, .aload_n 0, 1, 0), (70, .dup, 1, 0), (71, .getfield 87, 3, 0), (74, .iconst 1, 1, 0), (75, .iadd, 1, 0), (76, .putfield 87, 3, 0), (79, .aload_n 0, 1, 0), (80, .getfield 87, 3, 0), (83, .iconst 1, 1, 0), (84, .isub, 1, 0), (85, .ireturn, 1, 0)]
def kd_Mo_isPoint : List (Nat × Instr × Nat × Nat) := [(0, .iload_n 1, 1, 0), (1, .i2l, 1, 0), (2, .lconst 0, 1, 0), (3, .aload_n 0, 1, 0), (4, .getfield 87, 3, 0), (7, .iconst 1, 1, 0), (8, .isub, 1, 0), (9, .i2l, 1, 0), (10, .invokestatic 83, 3, 0), (13, .ireturn, 1, 0)]
def kd_Mo_rough : List (Nat × Instr × Nat × Nat) := [(0, .aload_n 0, 1, 0), (1, .iload_n 1, 1, 0), (2, .invokevirtual 91, 3, 0), (5, .ifCond .eq 31, 3, 36), (8, .iload_n 2, 1, 0), (9, .i2l, 1, 0), (10, .ldc2_w 79, 3, 0), (13, .ldc2_w 81, 3, 0), (16, .invokestatic 83, 3, 0), (19, .ifCond .eq 17, 3, 36), (22, .iload_n 3, 1, 0), (23, .i2l, 1, 0), (24, .ldc2_w 79, 3, 0), (27, .ldc2_w 81, 3, 0), (30, .invokestatic 83, 3, 0), (33, .ifCond .ne 6, 3, 39), (36, .bipush (-2), 2, 0), (38, .ireturn, 1, 0), (39, .aload_n 0, 1, 0), (40, .getfield 7, 3, 0), (43, .iconst 2, 1, 0), (44, .iload_n 1, 1, 0), (45, .imul, 1, 0), (46, .iload_n 2, 1, 0), (47, .iastore, 1, 0), (48, .aload_n 0, 1, 0), (49, .getfield 7, 3, 0), (52, .iconst 2, 1, 0), (53, .iload_n 1, 1, 0), (54, .imul, 1, 0), (55, .iconst 1, 1, 0), (56, .iadd, 1, 0), (57, .iload_n 3, 1, 0), (58, .iastore, 1, 0), (59, .iconst 1, 1, 0), (60, .ireturn, 1, 0)]
def kd_Mo_clearRow : List (Nat × Instr × Nat × Nat) := [(0, .iconst 0, 1, 0), (1, .istore_n 3, 1, 0), (2, .iload_n 3, 1, 0), (3, .bipush 17, 2, 0), (5, .if_icmp .ge 21, 3, 26), (8, .aload_n 0, 1, 0), (9, .getfield 13, 3, 0), (12, .bipush 17, 2, 0), (14, .iload_n 1, 1, 0), (15, .imul, 1, 0), (16, .iload_n 3, 1, 0), (17, .iadd, 1, 0), (18, .iconst 0, 1, 0), (19, .iastore, 1, 0), (20, .iinc 3 1, 3, 0), (23, .goto (-21), 3, 2), (26, .aload_n 0, 1, 0), (27, .getfield 13, 3, 0), (30, .bipush 17, 2, 0), (32, .iload_n 1, 1, 0), (33, .imul, 1, 0), (34, .bipush 16, 2, 0), (36, .iadd, 1, 0), (37, .iload_n 2, 1, 0), (38, .iastore, 1, 0), (39, .return_, 1, 0)]
def kd_Mo_telling : List (Nat × Instr × Nat × Nat) := [(0, .iload_n 1, 1, 0), (1, .i2l, 1, 0), (2, .ldc2_w 95, 3, 0), (5, .ldc2_w 97, 3, 0), (8, .invokestatic 83, 3, 0), (11, .ifCond .ne 6, 3, 17), (14, .bipush (-2), 2, 0), (16, .ireturn, 1, 0), (17, .aload_n 0, 1, 0), (18, .getfield 99, 3, 0), (21, .bipush 20, 2, 0), (23, .if_icmp .ne 6, 3, 29), (26, .bipush (-4), 2, 0), (28, .ireturn, 1, 0), (29, .aload_n 0, 1, 0), (30, .aload_n 0, 1, 0), (31, .getfield 99, 3, 0), (34, .iload_n 1, 1, 0), (35, .invokevirtual 102, 3, 0), (38, .aload_n 0, 1, 0), (39, .getfield 16, 3, 0), (42, .aload_n 0, 1, 0), (43, .getfield 99, 3, 0), (46, .iconst 0, 1, 0), (47, .iastore, 1, 0), (48, .aload_n 0, 1, 0), (49, .dup, 1, 0), (50, .getfield 99, 3, 0), (53, .iconst 1, 1, 0), (54, .iadd, 1, 0), (55, .putfield 99, 3, 0), (58, .aload_n 0, 1, 0), (59, .getfield 99, 3, 0), (62, .iconst 1, 1, 0), (63, .isub, 1, 0), (64, .ireturn, 1, 0)]
def kd_Mo_isTelling : List (Nat × Instr × Nat × Nat) := [(0, .iload_n 1, 1, 0), (1, .i2l, 1, 0), (2, .lconst 0, 1, 0), (3, .aload_n 0, 1, 0), (4, .getfield 99, 3, 0), (7, .iconst 1, 1, 0), (8, .isub, 1, 0), (9, .i2l, 1, 0), (10, .invokestatic 83, 3, 0), (13, .ireturn, 1, 0)]
def kd_Mo_termOf : List (Nat × Instr × Nat × Nat) := [(0, .iload_n 2, 1, 0), (1, .i2l, 1, 0), (2, .lconst 0, 1, 0), (3, .iconst 2, 1, 0), (4, .aload_n 0, 1, 0), (5, .getfield 87, 3, 0), (8, .imul, 1, 0), (9, .iconst 1, 1, 0), (10, .isub, 1, 0), (11, .i2l, 1, 0), (12, .invokestatic 83, 3, 0), (15, .ifCond .eq 35, 3, 50), (18, .iload_n 3, 1, 0), (19, .i2l, 1, 0), (20, .ldc2_w 106, 3, 0), (23, .ldc2_w 108, 3, 0), (26, .invokestatic 83, 3, 0), (29, .ifCond .eq 21, 3, 50), (32, .iload_n 3, 1, 0), (33, .ifCond .eq 17, 3, 50), (36, .aload_n 0, 1, 0), (37, .getfield 13, 3, 0), (40, .bipush 17, 2, 0), (42, .iload_n 1, 1, 0), (43, .imul, 1, 0), (44, .iload_n 2, 1, 0), (45, .iadd, 1, 0), (46, .iaload, 1, 0), (47, .ifCond .eq 6, 3, 53), (50, .bipush (-2), 2, 0), (52, .ireturn, 1, 0), (53, .aload_n 0, 1, 0), (54, .getfield 16, 3, 0), (57, .iload_n 1, 1, 0), (58, .iaload, 1, 0), (59, .iconst 4, 1, 0), (60, .if_icmp .ne 6, 3, 66), (63, .bipush (-4), 2, 0), (65, .ireturn, 1, 0), (66, .aload_n 0, 1, 0), (67, .getfield 19, 3, 0), (70, .iconst 4, 1, 0), (71, .iload_n 1, 1, 0), (72, .imul, 1, 0), (73, .aload_n 0, 1, 0), (74, .getfield 16, 3, 0), (77, .iload_n 1, 1, 0), (78, .iaload, 1, 0), (79, .iadd, 1, 0), (80, .iload_n 2, 1, 0), (81, .iastore, 1, 0), (82, .aload_n 0, 1, 0), (83, .getfield 22, 3, 0), (86, .iconst 4, 1, 0), (87, .iload_n 1, 1, 0), (88, .imul, 1, 0), (89, .aload_n 0, 1, 0), (90, .getfield 16, 3, 0), (93, .iload_n 1, 1, 0), (94, .iaload, 1, 0), (95, .iadd, 1, 0), (96, .iload_n 3, 1, 0), (97, .iastore, 1, 0), (98, .aload_n 0, 1, 0), (99, .getfield 13, 3, 0), (102, .bipush 17, 2, 0), (104, .iload_n 1, 1, 0), (105, .imul, 1, 0), (106, .iload_n 2, 1, 0), (107, .iadd, 1, 0), (108, .iload_n 3, 1, 0), (109, .iastore, 1, 0), (110, .aload_n 0, 1, 0), (111, .getfield 16, 3, 0), (114, .iload_n 1, 1, 0), (115, .dup2, 1, 0), (116, .iaload, 1, 0), (117, .iconst 1, 1, 0), (118, .iadd, 1, 0), (119, .iastore, 1, 0), (120, .aload_n 0, 1, 0), (121, .getfield 16, 3, 0), (124, .iload_n 1, 1, 0), (125, .iaload, 1, 0), (126, .ireturn, 1, 0)]
def kd_Mo_term : List (Nat × Instr × Nat × Nat) := [(0, .aload_n 0, 1, 0), (1, .iload_n 1, 1, 0), (2, .invokevirtual 110, 3, 0), (5, .ifCond .eq 13, 3, 18), (8, .aload_n 0, 1, 0), (9, .iload_n 1, 1, 0), (10, .iload_n 2, 1, 0), (11, .iload_n 3, 1, 0), (12, .invokevirtual 113, 3, 0), (15, .goto 5, 3, 20), (18, .bipush (-2), 2, 0), (20, .ireturn, 1, 0)]
def kd_Mo_takeOff : List (Nat × Instr × Nat × Nat) := [(0, .aload_n 0, 1, 0), (1, .iload_n 1, 1, 0), (2, .invokevirtual 110, 3, 0), (5, .ifCond .ne 6, 3, 11), (8, .bipush (-2), 2, 0), (10, .ireturn, 1, 0), (11, .aload_n 0, 1, 0), (12, .getfield 25, 3, 0), (15, .iload_n 1, 1, 0), (16, .baload, 1, 0), (17, .iload_n 2, 1, 0), (18, .if_icmp .ne 6, 3, 24), (21, .bipush (-3), 2, 0), (23, .ireturn, 1, 0), (24, .aload_n 0, 1, 0), (25, .getfield 25, 3, 0), (28, .iload_n 1, 1, 0), (29, .iload_n 2, 1, 0), (30, .bastore, 1, 0), (31, .iconst 1, 1, 0), (32, .ireturn, 1, 0)]
def kd_Mo_power : List (Nat × Instr × Nat × Nat) := [(0, .lconst 1, 1, 0), (1, .lstore 5, 2, 0), (3, .lload_n 0, 1, 0), (4, .lstore 7, 2, 0), (6, .iload_n 2, 1, 0), (7, .istore 9, 2, 0), (9, .iload 9, 2, 0), (11, .ifCond .le 38, 3, 49), (14, .iload 9, 2, 0), (16, .iconst 2, 1, 0), (17, .irem, 1, 0), (18, .iconst 1, 1, 0), (19, .if_icmp .ne 12, 3, 31), (22, .lload 5, 2, 0), (24, .lload 7, 2, 0), (26, .lmul, 1, 0), (27, .lload_n 3, 1, 0), (28, .lrem, 1, 0), (29, .lstore 5, 2, 0), (31, .lload 7, 2, 0), (33, .lload 7, 2, 0), (35, .lmul, 1, 0), (36, .lload_n 3, 1, 0), (37, .lrem, 1, 0), (38, .lstore 7, 2, 0), (40, .iload 9, 2, 0), (42, .iconst 2, 1, 0), (43, .idiv, 1, 0), (44, .istore 9, 2, 0), (46, .goto (-37), 3, 9), (49, .lload 5, 2, 0), (51, .lreturn, 1, 0)]
def kd_Mo_rest : List (Nat × Instr × Nat × Nat) := [(0, .lload_n 0, 1, 0), (1, .lload_n 2, 1, 0), (2, .lrem, 1, 0), (3, .lstore 4, 2, 0), (5, .lload 4, 2, 0), (7, .lconst 0, 1, 0), (8, .lcmp, 1, 0), (9, .ifCond .ge 10, 3, 19), (12, .lload 4, 2, 0), (14, .lload_n 2, 1, 0), (15, .ladd, 1, 0), (16, .goto 5, 3, 21), (19, .lload 4, 2, 0), (21, .lreturn, 1, 0)]
def kd_Mo_rankBy : List (Nat × Instr × Nat × Nat) := [(0, .iconst 0, 1, 0), (1, .istore 4, 2, 0), (3, .iconst 0, 1, 0), (4, .istore 5, 2, 0), (6, .iload 5, 2, 0), (8, .bipush 23, 2, 0), (10, .if_icmp .ge 85, 3, 95), (13, .iload_n 1, 1, 0), (14, .iload 5, 2, 0), (16, .ishr, 1, 0), (17, .iconst 1, 1, 0), (18, .iand, 1, 0), (19, .iconst 1, 1, 0), (20, .if_icmp .ne 69, 3, 89), (23, .iconst 0, 1, 0), (24, .istore 6, 2, 0), (26, .iload 6, 2, 0), (28, .bipush 17, 2, 0), (30, .if_icmp .ge 56, 3, 86), (33, .aload_n 0, 1, 0), (34, .getfield 51, 3, 0), (37, .bipush 17, 2, 0), (39, .iload 4, 2, 0), (41, .imul, 1, 0), (42, .iload 6, 2, 0), (44, .iadd, 1, 0), (45, .iload 6, 2, 0), (47, .bipush 16, 2, 0), (49, .if_icmp .ne 11, 3, 60), (52, .iload_n 2, 1, 0), (53, .ifCond .ne 7, 3, 60), (56, .lconst 0, 1, 0), (57, .goto 22, 3, 79), (60, .aload_n 0, 1, 0), (61, .getfield 13, 3, 0), (64, .bipush 17, 2, 0), (66, .iload 5, 2, 0), (68, .imul, 1, 0), (69, .iload 6, 2, 0), (71, .iadd, 1, 0), (72, .iaload, 1, 0), (73, .i2l, 1, 0), (74, .iload_n 3, 1, 0), (75, .i2l, 1, 0), (76, .invokestatic 117, 3, 0), (79, .lastore, 1, 0), (80, .iinc 6 1, 3, 0), (83, .goto (-57), 3, 26), (86, .iinc 4 1, 3, 0), (89, .iinc 5 1, 3, 0), (92, .goto (-86), 3, 6), (95, .iconst 0, 1, 0), (96, .istore 5, 2, 0), (98, .iconst 0, 1, 0), (99, .istore 6, 2, 0), (101, .iload 6, 2, 0), (103, .bipush 17, 2, 0), (105, .if_icmp .ge 67, 3, 172), (108, .iload 5, 2, 0), (110, .istore 7, 2, 0), (112, .iload 7, 2, 0), (114, .iload 4, 2, 0), (116, .if_icmp .ge 27, 3, 143), (119, .aload_n 0, 1, 0), (120, .getfield 51, 3, 0), (123, .bipush 17, 2, 0), (125, .iload 7, 2, 0), (127, .imul, 1, 0), (128, .iload 6, 2, 0), (130, .iadd, 1, 0), (131, .laload, 1, 0), (132, .lconst 0, 1, 0), (133, .lcmp, 1, 0), (134, .ifCond .ne 9, 3, 143), (137, .iinc 7 1, 3, 0), (140, .goto (-28), 3, 112), (143, .iload 7, 2, 0), (145, .iload 4, 2, 0), (147, .if_icmp .ge 19, 3, 166), (150, .aload_n 0, 1, 0), (151, .iload 5, 2, 0), (153, .iload 7, 2, 0), (155, .iload 4, 2, 0), (157, .iload 6, 2, 0), (159, .iload_n 3, 1, 0), (160, .invokevirtual 121, 3, 0), (163, .iinc 5 1, 3, 0), (166, .iinc 6 1, 3, 0), (169, .goto (-68), 3, 101), (172, .iload 5, 2, 0), (174, .ireturn, 1, 0)]
def kd_Mo_bringDown : List (Nat × Instr × Nat × Nat) := [(0, .iconst 0, 1, 0), (1, .istore 6, 2, 0), (3, .iload 6, 2, 0), (5, .bipush 17, 2, 0), (7, .if_icmp .ge 61, 3, 68), (10, .aload_n 0, 1, 0), (11, .getfield 51, 3, 0), (14, .bipush 17, 2, 0), (16, .iload_n 2, 1, 0), (17, .imul, 1, 0), (18, .iload 6, 2, 0), (20, .iadd, 1, 0), (21, .laload, 1, 0), (22, .lstore 7, 2, 0), (24, .aload_n 0, 1, 0), (25, .getfield 51, 3, 0), (28, .bipush 17, 2, 0), (30, .iload_n 2, 1, 0), (31, .imul, 1, 0), (32, .iload 6, 2, 0), (34, .iadd, 1, 0), (35, .aload_n 0, 1, 0), (36, .getfield 51, 3, 0), (39, .bipush 17, 2, 0), (41, .iload_n 1, 1, 0), (42, .imul, 1, 0), (43, .iload 6, 2, 0), (45, .iadd, 1, 0), (46, .laload, 1, 0), (47, .lastore, 1, 0), (48, .aload_n 0, 1, 0), (49, .getfield 51, 3, 0), (52, .bipush 17, 2, 0), (54, .iload_n 1, 1, 0), (55, .imul, 1, 0), (56, .iload 6, 2, 0), (58, .iadd, 1, 0), (59, .lload 7, 2, 0), (61, .lastore, 1, 0), (62, .iinc 6 1, 3, 0), (65, .goto (-62), 3, 3), (68, .aload_n 0, 1, 0), (69, .getfield 51, 3, 0), (72, .bipush 17, 2, 0), (74, .iload_n 1, 1, 0), (75, .imul, 1, 0), (76, .iload 4, 2, 0), (78, .iadd, 1, 0), (79, .laload, 1, 0), (80, .iload 5, 2, 0), (82, .iconst 2, 1, 0), (83, .isub, 1, 0), (84, .iload 5, 2, 0), (86, .i2l, 1, 0), (87, .invokestatic 125, 3, 0), (90, .lstore 6, 2, 0), (92, .iload_n 1, 1, 0), (93, .iconst 1, 1, 0), (94, .iadd, 1, 0), (95, .istore 8, 2, 0), (97, .iload 8, 2, 0), (99, .iload_n 3, 1, 0), (100, .if_icmp .ge 107, 3, 207), (103, .aload_n 0, 1, 0), (104, .getfield 51, 3, 0), (107, .bipush 17, 2, 0), (109, .iload 8, 2, 0), (111, .imul, 1, 0), (112, .iload 4, 2, 0), (114, .iadd, 1, 0), (115, .laload, 1, 0), (116, .lload 6, 2, 0), (118, .lmul, 1, 0), (119, .iload 5, 2, 0), (121, .i2l, 1, 0), (122, .lrem, 1, 0), (123, .lstore 9, 2, 0), (125, .iload 4, 2, 0), (127, .istore 11, 2, 0), (129, .iload 11, 2, 0), (131, .bipush 17, 2, 0), (133, .if_icmp .ge 68, 3, 201), (136, .lload 9, 2, 0), (138, .lconst 0, 1, 0), (139, .lcmp, 1, 0), (140, .ifCond .eq 61, 3, 201), (143, .aload_n 0, 1, 0), (144, .getfield 51, 3, 0), (147, .bipush 17, 2, 0), (149, .iload 8, 2, 0), (151, .imul, 1, 0), (152, .iload 11, 2, 0), (154, .iadd, 1, 0), (155, .aload_n 0, 1, 0), (156, .getfield 51, 3, 0), (159, .bipush 17, 2, 0), (161, .iload 8, 2, 0), (163, .imul, 1, 0), (164, .iload 11, 2, 0), (166, .iadd, 1, 0), (167, .laload, 1, 0), (168, .lload 9, 2, 0), (170, .aload_n 0, 1, 0), (171, .getfield 51, 3, 0), (174, .bipush 17, 2, 0), (176, .iload_n 1, 1, 0), (177, .imul, 1, 0), (178, .iload 11, 2, 0), (180, .iadd, 1, 0), (181, .laload, 1, 0), (182, .lmul, 1, 0), (183, .iload 5, 2, 0), (185, .i2l, 1, 0), (186, .lrem, 1, 0), (187, .lsub, 1, 0), (188, .iload 5, 2, 0), (190, .i2l, 1, 0), (191, .invokestatic 117, 3, 0), (194, .lastore, 1, 0), (195, .iinc 11 1, 3, 0), (198, .goto (-69), 3, 129), (201, .iinc 8 1, 3, 0), (204, .goto (-107), 3, 97), (207, .return_, 1, 0)]
def kd_Mo_rank : List (Nat × Instr × Nat × Nat) := [(0, .aload_n 0, 1, 0), (1, .iload_n 1, 1, 0), (2, .iload_n 2, 1, 0), (3, .aload_n 0, 1, 0), (4, .getfield 48, 3, 0), (7, .iconst 0, 1, 0), (8, .iaload, 1, 0), (9, .invokevirtual 129, 3, 0), (12, .istore_n 3, 1, 0), (13, .aload_n 0, 1, 0), (14, .iload_n 1, 1, 0), (15, .iload_n 2, 1, 0), (16, .aload_n 0, 1, 0), (17, .getfield 48, 3, 0), (20, .iconst 1, 1, 0), (21, .iaload, 1, 0), (22, .invokevirtual 129, 3, 0), (25, .istore 4, 2, 0), (27, .iload_n 3, 1, 0), (28, .iload 4, 2, 0), (30, .if_icmp .le 7, 3, 37), (33, .iload_n 3, 1, 0), (34, .goto 5, 3, 39), (37, .iload 4, 2, 0), (39, .ireturn, 1, 0)]
def kd_Mo_against : List (Nat × Instr × Nat × Nat) := [(0, .iload_n 1, 1, 0), (1, .iconst 1, 1, 0), (2, .iload_n 2, 1, 0), (3, .ishl, 1, 0), (4, .ior, 1, 0), (5, .istore_n 3, 1, 0), (6, .aload_n 0, 1, 0), (7, .iload_n 1, 1, 0), (8, .iconst 0, 1, 0), (9, .invokevirtual 133, 3, 0), (12, .istore 4, 2, 0), (14, .aload_n 0, 1, 0), (15, .iload_n 3, 1, 0), (16, .iconst 0, 1, 0), (17, .invokevirtual 133, 3, 0), (20, .iload 4, 2, 0), (22, .if_icmp .le 5, 3, 27), (25, .iconst 0, 1, 0), (26, .ireturn, 1, 0), (27, .aload_n 0, 1, 0), (28, .iload_n 3, 1, 0), (29, .iconst 1, 1, 0), (30, .invokevirtual 133, 3, 0), (33, .iload 4, 2, 0), (35, .if_icmp .le 7, 3, 42), (38, .iconst 2, 1, 0), (39, .goto 4, 3, 43), (42, .iconst 1, 1, 0), (43, .ireturn, 1, 0)]
def kd_Mo_judge : List (Nat × Instr × Nat × Nat) := [(0, .aload_n 0, 1, 0), (1, .iconst 0, 1, 0), (2, .putfield 137, 3, 0), (5, .iconst 0, 1, 0), (6, .istore_n 1, 1, 0), (7, .iload_n 1, 1, 0), (8, .aload_n 0, 1, 0), (9, .getfield 99, 3, 0), (12, .if_icmp .ge 65, 3, 77), (15, .aload_n 0, 1, 0), (16, .getfield 29, 3, 0), (19, .iload_n 1, 1, 0), (20, .aload_n 0, 1, 0), (21, .getfield 25, 3, 0), (24, .iload_n 1, 1, 0), (25, .baload, 1, 0), (26, .ifCond .eq 7, 3, 33), (29, .iconst 3, 1, 0), (30, .goto 12, 3, 42), (33, .aload_n 0, 1, 0), (34, .aload_n 0, 1, 0), (35, .getfield 137, 3, 0), (38, .iload_n 1, 1, 0), (39, .invokevirtual 140, 3, 0), (42, .iastore, 1, 0), (43, .aload_n 0, 1, 0), (44, .aload_n 0, 1, 0), (45, .getfield 29, 3, 0), (48, .iload_n 1, 1, 0), (49, .iaload, 1, 0), (50, .ifCond .ne 14, 3, 64), (53, .aload_n 0, 1, 0), (54, .getfield 137, 3, 0), (57, .iconst 1, 1, 0), (58, .iload_n 1, 1, 0), (59, .ishl, 1, 0), (60, .ior, 1, 0), (61, .goto 7, 3, 68), (64, .aload_n 0, 1, 0), (65, .getfield 137, 3, 0), (68, .putfield 137, 3, 0), (71, .iinc 1 1, 3, 0), (74, .goto (-67), 3, 7), (77, .return_, 1, 0)]
def kd_Mo_sort : List (Nat × Instr × Nat × Nat) := [(0, .aload_n 0, 1, 0), (1, .iload_n 1, 1, 0), (2, .invokevirtual 110, 3, 0), (5, .ifCond .ne 6, 3, 11), (8, .bipush (-2), 2, 0), (10, .ireturn, 1, 0), (11, .aload_n 0, 1, 0), (12, .invokevirtual 144, 3, 0), (15, .aload_n 0, 1, 0), (16, .getfield 29, 3, 0), (19, .iload_n 1, 1, 0), (20, .iaload, 1, 0), (21, .ireturn, 1, 0)]
def kd_Mo_madeOf : List (Nat × Instr × Nat × Nat) := [(0, .aload_n 0, 1, 0), (1, .iload_n 1, 1, 0), (2, .invokevirtual 110, 3, 0), (5, .ifCond .ne 6, 3, 11), (8, .bipush (-2), 2, 0), (10, .ireturn, 1, 0), (11, .aload_n 0, 1, 0), (12, .invokevirtual 144, 3, 0), (15, .aload_n 0, 1, 0), (16, .getfield 29, 3, 0), (19, .iload_n 1, 1, 0), (20, .iaload, 1, 0), (21, .ifCond .eq 13, 3, 34), (24, .aload_n 0, 1, 0), (25, .getfield 29, 3, 0), (28, .iload_n 1, 1, 0), (29, .iaload, 1, 0), (30, .iconst 3, 1, 0), (31, .if_icmp .ne 6, 3, 37), (34, .bipush (-3), 2, 0), (36, .ireturn, 1, 0), (37, .aload_n 0, 1, 0), (38, .getfield 137, 3, 0), (41, .iconst 1, 1, 0), (42, .iload_n 1, 1, 0), (43, .ishl, 1, 0), (44, .iconst 1, 1, 0), (45, .isub, 1, 0), (46, .iand, 1, 0), (47, .istore_n 2, 1, 0), (48, .iconst 0, 1, 0), (49, .istore_n 3, 1, 0), (50, .iconst 0, 1, 0), (51, .istore 4, 2, 0), (53, .iload 4, 2, 0), (55, .iload_n 1, 1, 0), (56, .if_icmp .ge 50, 3, 106), (59, .iload_n 2, 1, 0), (60, .iload 4, 2, 0), (62, .ishr, 1, 0), (63, .iconst 1, 1, 0), (64, .iand, 1, 0), (65, .iconst 1, 1, 0), (66, .if_icmp .ne 34, 3, 100), (69, .iload_n 2, 1, 0), (70, .iconst 1, 1, 0), (71, .iload 4, 2, 0), (73, .ishl, 1, 0), (74, .iconst (-1), 1, 0), (75, .ixor, 1, 0), (76, .iand, 1, 0), (77, .istore 5, 2, 0), (79, .aload_n 0, 1, 0), (80, .iload 5, 2, 0), (82, .iload_n 1, 1, 0), (83, .invokevirtual 140, 3, 0), (86, .ifCond .ne 12, 3, 98), (89, .iload_n 3, 1, 0), (90, .iconst 1, 1, 0), (91, .iload 4, 2, 0), (93, .ishl, 1, 0), (94, .ior, 1, 0), (95, .goto 4, 3, 99), (98, .iload_n 3, 1, 0), (99, .istore_n 3, 1, 0), (100, .iinc 4 1, 3, 0), (103, .goto (-50), 3, 53), (106, .iload_n 3, 1, 0), (107, .ireturn, 1, 0)]
def kd_Mo_howMany : List (Nat × Instr × Nat × Nat) := [(0, .iconst 0, 1, 0), (1, .istore_n 2, 1, 0), (2, .iconst 0, 1, 0), (3, .istore_n 3, 1, 0), (4, .iload_n 3, 1, 0), (5, .aload_n 0, 1, 0), (6, .getfield 99, 3, 0), (9, .if_icmp .ge 27, 3, 36), (12, .aload_n 0, 1, 0), (13, .getfield 29, 3, 0), (16, .iload_n 3, 1, 0), (17, .iaload, 1, 0), (18, .iload_n 1, 1, 0), (19, .if_icmp .ne 9, 3, 28), (22, .iload_n 2, 1, 0), (23, .iconst 1, 1, 0), (24, .iadd, 1, 0), (25, .goto 4, 3, 29), (28, .iload_n 2, 1, 0), (29, .istore_n 2, 1, 0), (30, .iinc 3 1, 3, 0), (33, .goto (-29), 3, 4), (36, .iload_n 2, 1, 0), (37, .ireturn, 1, 0)]
def kd_Mo_tellings : List (Nat × Instr × Nat × Nat) := [(0, .iload_n 1, 1, 0), (1, .i2l, 1, 0), (2, .lconst 0, 1, 0), (3, .ldc2_w 108, 3, 0), (6, .invokestatic 83, 3, 0), (9, .ifCond .ne 6, 3, 15), (12, .bipush (-2), 2, 0), (14, .ireturn, 1, 0), (15, .aload_n 0, 1, 0), (16, .invokevirtual 144, 3, 0), (19, .iload_n 1, 1, 0), (20, .iconst 3, 1, 0), (21, .if_icmp .ge 11, 3, 32), (24, .aload_n 0, 1, 0), (25, .iload_n 1, 1, 0), (26, .invokevirtual 147, 3, 0), (29, .goto 15, 3, 44), (32, .iconst 2, 1, 0), (33, .aload_n 0, 1, 0), (34, .getfield 87, 3, 0), (37, .imul, 1, 0), (38, .aload_n 0, 1, 0), (39, .iconst 0, 1, 0), (40, .invokevirtual 147, 3, 0), (43, .isub, 1, 0), (44, .ireturn, 1, 0)]
def kd_Mo_solve : List (Nat × Instr × Nat × Nat) := [(0, .iconst 0, 1, 0), (1, .istore_n 2, 1, 0), (2, .iload_n 2, 1, 0), (3, .aload_n 0, 1, 0), (4, .getfield 151, 3, 0), (7, .if_icmp .ge 127, 3, 134), (10, .iconst 0, 1, 0), (11, .istore_n 3, 1, 0), (12, .iload_n 3, 1, 0), (13, .aload_n 0, 1, 0), (14, .getfield 151, 3, 0), (17, .if_icmp .ge 88, 3, 105), (20, .lconst 0, 1, 0), (21, .lstore 4, 2, 0), (23, .iconst 0, 1, 0), (24, .istore 6, 2, 0), (26, .iload 6, 2, 0), (28, .bipush 16, 2, 0), (30, .if_icmp .ge 51, 3, 81), (33, .lload 4, 2, 0), (35, .aload_n 0, 1, 0), (36, .getfield 13, 3, 0), (39, .bipush 17, 2, 0), (41, .aload_n 0, 1, 0), (42, .getfield 61, 3, 0), (45, .iload_n 2, 1, 0), (46, .iaload, 1, 0), (47, .imul, 1, 0), (48, .iload 6, 2, 0), (50, .iadd, 1, 0), (51, .iaload, 1, 0), (52, .i2l, 1, 0), (53, .aload_n 0, 1, 0), (54, .getfield 13, 3, 0), (57, .bipush 17, 2, 0), (59, .aload_n 0, 1, 0), (60, .getfield 61, 3, 0), (63, .iload_n 3, 1, 0), (64, .iaload, 1, 0), (65, .imul, 1, 0), (66, .iload 6, 2, 0), (68, .iadd, 1, 0), (69, .iaload, 1, 0), (70, .i2l, 1, 0), (71, .lmul, 1, 0), (72, .ladd, 1, 0), (73, .lstore 4, 2, 0), (75, .iinc 6 1, 3, 0), (78, .goto (-52), 3, 26), (81, .aload_n 0, 1, 0), (82, .getfield 55, 3, 0), (85, .bipush 17, 2, 0), (87, .iload_n 2, 1, 0), (88, .imul, 1, 0), (89, .iload_n 3, 1, 0), (90, .iadd, 1, 0), (91, .lload 4, 2, 0), (93, .iload_n 1, 1, 0), (94, .i2l, 1, 0), (95, .invokestatic 117, 3, 0), (98, .lastore, 1, 0), (99, .iinc 3 1, 3, 0), (102, .goto (-90), 3, 12), (105, .aload_n 0, 1, 0), (106, .getfield 55, 3, 0), (109, .bipush 17, 2, 0), (111, .iload_n 2, 1, 0), (112, .imul, 1, 0), (113, .bipush 16, 2, 0), (115, .iadd, 1, 0), (116, .aload_n 0, 1, 0), (117, .iload_n 2, 1, 0), (118, .invokevirtual 154, 3, 0), (121, .i2l, 1, 0), (122, .iload_n 1, 1, 0), (123, .i2l, 1, 0), (124, .invokestatic 117, 3, 0), (127, .lastore, 1, 0), (128, .iinc 2 1, 3, 0), (131, .goto (-129), 3, 2), (134, .lconst 1, 1, 0), (135, .lstore_n 2, 1, 0), (136, .iconst 0, 1, 0), (137, .istore 4, 2, 0), (139, .iload 4, 2, 0), (141, .aload_n 0, 1, 0), (142, .getfield 151, 3, 0), (145, .if_icmp .ge 178, 3, 323), (148, .iload 4, 2, 0), (150, .istore 5, 2, 0), (152, .iload 5, 2, 0), (154, .aload_n 0, 1, 0), (155, .getfield 151, 3, 0), (158, .if_icmp .ge 27, 3, 185), (161, .aload_n 0, 1, 0), (162, .getfield 55, 3, 0), (165, .bipush 17, 2, 0), (167, .iload 5, 2, 0), (169, .imul, 1, 0), (170, .iload 4, 2, 0), (172, .iadd, 1, 0), (173, .laload, 1, 0), (174, .lconst 0, 1, 0), (175, .lcmp, 1, 0), (176, .ifCond .ne 9, 3, 185), (179, .iinc 5 1, 3, 0), (182, .goto (-30), 3, 152), (185, .iload 5, 2, 0), (187, .aload_n 0, 1, 0), (188, .getfield 151, 3, 0), (191, .if_icmp .ne 5, 3, 196), (194, .lconst 0, 1, 0), (195, .lreturn, 1, 0), (196, .iconst 0, 1, 0), (197, .istore 6, 2, 0), (199, .iload 6, 2, 0), (201, .bipush 17, 2, 0), (203, .if_icmp .ge 72, 3, 275), (206, .iload 5, 2, 0), (208, .iload 4, 2, 0), (210, .if_icmp .eq 65, 3, 275), (213, .aload_n 0, 1, 0), (214, .getfield 55, 3, 0), (217, .bipush 17, 2, 0), (219, .iload 5, 2, 0), (221, .imul, 1, 0), (222, .iload 6, 2, 0), (224, .iadd, 1, 0), (225, .laload, 1, 0), (226, .lstore 7, 2, 0), (228, .aload_n 0, 1, 0), (229, .getfield 55, 3, 0), (232, .bipush 17, 2, 0), (234, .iload 5, 2, 0), (236, .imul, 1, 0), (237, .iload 6, 2, 0), (239, .iadd, 1, 0), (240, .aload_n 0, 1, 0), (241, .getfield 55, 3, 0), (244, .bipush 17, 2, 0), (246, .iload 4, 2, 0), (248, .imul, 1, 0), (249, .iload 6, 2, 0), (251, .iadd, 1, 0), (252, .laload, 1, 0), (253, .lastore, 1, 0), (254, .aload_n 0, 1, 0), (255, .getfield 55, 3, 0), (258, .bipush 17, 2, 0), (260, .iload 4, 2, 0), (262, .imul, 1, 0), (263, .iload 6, 2, 0), (265, .iadd, 1, 0), (266, .lload 7, 2, 0), (268, .lastore, 1, 0), (269, .iinc 6 1, 3, 0), (272, .goto (-73), 3, 199), (275, .iload 5, 2, 0), (277, .iload 4, 2, 0), (279, .if_icmp .ne 7, 3, 286), (282, .lload_n 2, 1, 0), (283, .goto 7, 3, 290), (286, .iload_n 1, 1, 0), (287, .i2l, 1, 0), (288, .lload_n 2, 1, 0), (289, .lsub, 1, 0), (290, .lstore_n 2, 1, 0), (291, .lload_n 2, 1, 0), (292, .aload_n 0, 1, 0), (293, .getfield 55, 3, 0), (296, .bipush 17, 2, 0), (298, .iload 4, 2, 0), (300, .imul, 1, 0), (301, .iload 4, 2, 0), (303, .iadd, 1, 0), (304, .laload, 1, 0), (305, .lmul, 1, 0), (306, .iload_n 1, 1, 0), (307, .i2l, 1, 0), (308, .lrem, 1, 0), (309, .lstore_n 2, 1, 0), (310, .aload_n 0, 1, 0), (311, .iload 4, 2, 0), (313, .iload_n 1, 1, 0), (314, .invokevirtual 157, 3, 0), (317, .iinc 4 1, 3, 0), (320, .goto (-181), 3, 139), (323, .iconst 0, 1, 0), (324, .istore 4, 2, 0), (326, .iload 4, 2, 0), (328, .aload_n 0, 1, 0), (329, .getfield 151, 3, 0), (332, .if_icmp .ge 34, 3, 366), (335, .aload_n 0, 1, 0), (336, .getfield 58, 3, 0), (339, .iload 4, 2, 0), (341, .aload_n 0, 1, 0), (342, .getfield 55, 3, 0), (345, .bipush 17, 2, 0), (347, .iload 4, 2, 0), (349, .imul, 1, 0), (350, .bipush 16, 2, 0), (352, .iadd, 1, 0), (353, .laload, 1, 0), (354, .lload_n 2, 1, 0), (355, .lmul, 1, 0), (356, .iload_n 1, 1, 0), (357, .i2l, 1, 0), (358, .lrem, 1, 0), (359, .lastore, 1, 0), (360, .iinc 4 1, 3, 0), (363, .goto (-37), 3, 326), (366, .lload_n 2, 1, 0), (367, .lreturn, 1, 0)]
def kd_Mo_clearOut : List (Nat × Instr × Nat × Nat) := [(0, .aload_n 0, 1, 0), (1, .getfield 55, 3, 0), (4, .bipush 17, 2, 0), (6, .iload_n 1, 1, 0), (7, .imul, 1, 0), (8, .iload_n 1, 1, 0), (9, .iadd, 1, 0), (10, .laload, 1, 0), (11, .iload_n 2, 1, 0), (12, .iconst 2, 1, 0), (13, .isub, 1, 0), (14, .iload_n 2, 1, 0), (15, .i2l, 1, 0), (16, .invokestatic 125, 3, 0), (19, .lstore_n 3, 1, 0), (20, .iconst 0, 1, 0), (21, .istore 5, 2, 0), (23, .iload 5, 2, 0), (25, .bipush 17, 2, 0), (27, .if_icmp .ge 38, 3, 65), (30, .aload_n 0, 1, 0), (31, .getfield 55, 3, 0), (34, .bipush 17, 2, 0), (36, .iload_n 1, 1, 0), (37, .imul, 1, 0), (38, .iload 5, 2, 0), (40, .iadd, 1, 0), (41, .aload_n 0, 1, 0), (42, .getfield 55, 3, 0), (45, .bipush 17, 2, 0), (47, .iload_n 1, 1, 0), (48, .imul, 1, 0), (49, .iload 5, 2, 0), (51, .iadd, 1, 0), (52, .laload, 1, 0), (53, .lload_n 3, 1, 0), (54, .lmul, 1, 0), (55, .iload_n 2, 1, 0), (56, .i2l, 1, 0), (57, .lrem, 1, 0), (58, .lastore, 1, 0), (59, .iinc 5 1, 3, 0), (62, .goto (-39), 3, 23), (65, .iconst 0, 1, 0), (66, .istore 5, 2, 0), (68, .iload 5, 2, 0), (70, .aload_n 0, 1, 0), (71, .getfield 151, 3, 0), (74, .if_icmp .ge 106, 3, 180), (77, .iload 5, 2, 0), (79, .iload_n 1, 1, 0), (80, .if_icmp .ne 7, 3, 87), (83, .lconst 0, 1, 0), (84, .goto 15, 3, 99), (87, .aload_n 0, 1, 0), (88, .getfield 55, 3, 0), (91, .bipush 17, 2, 0), (93, .iload 5, 2, 0), (95, .imul, 1, 0), (96, .iload_n 1, 1, 0), (97, .iadd, 1, 0), (98, .laload, 1, 0), (99, .lstore 6, 2, 0), (101, .iconst 0, 1, 0), (102, .istore 8, 2, 0), (104, .iload 8, 2, 0), (106, .bipush 17, 2, 0), (108, .if_icmp .ge 66, 3, 174), (111, .lload 6, 2, 0), (113, .lconst 0, 1, 0), (114, .lcmp, 1, 0), (115, .ifCond .eq 59, 3, 174), (118, .aload_n 0, 1, 0), (119, .getfield 55, 3, 0), (122, .bipush 17, 2, 0), (124, .iload 5, 2, 0), (126, .imul, 1, 0), (127, .iload 8, 2, 0), (129, .iadd, 1, 0), (130, .aload_n 0, 1, 0), (131, .getfield 55, 3, 0), (134, .bipush 17, 2, 0), (136, .iload 5, 2, 0), (138, .imul, 1, 0), (139, .iload 8, 2, 0), (141, .iadd, 1, 0), (142, .laload, 1, 0), (143, .lload 6, 2, 0), (145, .aload_n 0, 1, 0), (146, .getfield 55, 3, 0), (149, .bipush 17, 2, 0), (151, .iload_n 1, 1, 0), (152, .imul, 1, 0), (153, .iload 8, 2, 0), (155, .iadd, 1, 0), (156, .laload, 1, 0), (157, .lmul, 1, 0), (158, .iload_n 2, 1, 0), (159, .i2l, 1, 0), (160, .lrem, 1, 0), (161, .lsub, 1, 0), (162, .iload_n 2, 1, 0), (163, .i2l, 1, 0), (164, .invokestatic 117, 3, 0), (167, .lastore, 1, 0), (168, .iinc 8 1, 3, 0), (171, .goto (-67), 3, 104), (174, .iinc 5 1, 3, 0), (177, .goto (-109), 3, 68), (180, .return_, 1, 0)]
def kd_Mo_off : List (Nat × Instr × Nat × Nat) := [(0, .aload_n 0, 1, 0), (1, .getfield 13, 3, 0), (4, .bipush 17, 2, 0), (6, .aload_n 0, 1, 0), (7, .getfield 61, 3, 0), (10, .iload_n 1, 1, 0), (11, .iaload, 1, 0), (12, .imul, 1, 0), (13, .bipush 16, 2, 0), (15, .iadd, 1, 0), (16, .iaload, 1, 0), (17, .ineg, 1, 0), (18, .istore_n 2, 1, 0), (19, .iconst 0, 1, 0), (20, .istore_n 3, 1, 0), (21, .iload_n 3, 1, 0), (22, .bipush 16, 2, 0), (24, .if_icmp .ge 35, 3, 59), (27, .iload_n 2, 1, 0), (28, .aload_n 0, 1, 0), (29, .getfield 13, 3, 0), (32, .bipush 17, 2, 0), (34, .aload_n 0, 1, 0), (35, .getfield 61, 3, 0), (38, .iload_n 1, 1, 0), (39, .iaload, 1, 0), (40, .imul, 1, 0), (41, .iload_n 3, 1, 0), (42, .iadd, 1, 0), (43, .iaload, 1, 0), (44, .aload_n 0, 1, 0), (45, .getfield 7, 3, 0), (48, .iload_n 3, 1, 0), (49, .iaload, 1, 0), (50, .imul, 1, 0), (51, .iadd, 1, 0), (52, .istore_n 2, 1, 0), (53, .iinc 3 1, 3, 0), (56, .goto (-35), 3, 21), (59, .iload_n 2, 1, 0), (60, .ireturn, 1, 0)]
def kd_Mo_place : List (Nat × Instr × Nat × Nat) := [(0, .aload_n 0, 1, 0), (1, .iconst 0, 1, 0), (2, .putfield 151, 3, 0), (5, .iconst 0, 1, 0), (6, .istore_n 3, 1, 0), (7, .iload_n 3, 1, 0), (8, .bipush 23, 2, 0), (10, .if_icmp .ge 38, 3, 48), (13, .iload_n 1, 1, 0), (14, .iload_n 3, 1, 0), (15, .ishr, 1, 0), (16, .iconst 1, 1, 0), (17, .iand, 1, 0), (18, .iconst 1, 1, 0), (19, .if_icmp .ne 23, 3, 42), (22, .aload_n 0, 1, 0), (23, .getfield 61, 3, 0), (26, .aload_n 0, 1, 0), (27, .getfield 151, 3, 0), (30, .iload_n 3, 1, 0), (31, .iastore, 1, 0), (32, .aload_n 0, 1, 0), (33, .dup, 1, 0), (34, .getfield 151, 3, 0), (37, .iconst 1, 1, 0), (38, .iadd, 1, 0), (39, .putfield 151, 3, 0), (42, .iinc 3 1, 3, 0), (45, .goto (-38), 3, 7), (48, .iconst 0, 1, 0), (49, .istore_n 3, 1, 0), (50, .iconst 0, 1, 0), (51, .istore 4, 2, 0), (53, .iload 4, 2, 0), (55, .bipush 7, 2, 0), (57, .if_icmp .ge 192, 3, 249), (60, .iload_n 3, 1, 0), (61, .iconst 5, 1, 0), (62, .if_icmp .ge 187, 3, 249), (65, .aload_n 0, 1, 0), (66, .getfield 48, 3, 0), (69, .iload 4, 2, 0), (71, .iaload, 1, 0), (72, .istore 5, 2, 0), (74, .aload_n 0, 1, 0), (75, .iload 5, 2, 0), (77, .invokevirtual 160, 3, 0), (80, .lstore 6, 2, 0), (82, .lload 6, 2, 0), (84, .lconst 0, 1, 0), (85, .lcmp, 1, 0), (86, .ifCond .eq 157, 3, 243), (89, .iload_n 2, 1, 0), (90, .ifCond .ge 7, 3, 97), (93, .lconst 0, 1, 0), (94, .goto 23, 3, 117), (97, .aload_n 0, 1, 0), (98, .getfield 7, 3, 0), (101, .iload_n 2, 1, 0), (102, .iaload, 1, 0), (103, .i2l, 1, 0), (104, .iload 5, 2, 0), (106, .i2l, 1, 0), (107, .invokestatic 117, 3, 0), (110, .lload 6, 2, 0), (112, .lmul, 1, 0), (113, .iload 5, 2, 0), (115, .i2l, 1, 0), (116, .lrem, 1, 0), (117, .lstore 8, 2, 0), (119, .iconst 0, 1, 0), (120, .istore 10, 2, 0), (122, .iload 10, 2, 0), (124, .aload_n 0, 1, 0), (125, .getfield 151, 3, 0), (128, .if_icmp .ge 75, 3, 203), (131, .iload_n 2, 1, 0), (132, .ifCond .ge 19, 3, 151), (135, .aload_n 0, 1, 0), (136, .iload 10, 2, 0), (138, .invokevirtual 154, 3, 0), (141, .i2l, 1, 0), (142, .iload 5, 2, 0), (144, .i2l, 1, 0), (145, .invokestatic 117, 3, 0), (148, .goto 28, 3, 176), (151, .aload_n 0, 1, 0), (152, .getfield 13, 3, 0), (155, .bipush 17, 2, 0), (157, .aload_n 0, 1, 0), (158, .getfield 61, 3, 0), (161, .iload 10, 2, 0), (163, .iaload, 1, 0), (164, .imul, 1, 0), (165, .iload_n 2, 1, 0), (166, .iadd, 1, 0), (167, .iaload, 1, 0), (168, .ineg, 1, 0), (169, .i2l, 1, 0), (170, .iload 5, 2, 0), (172, .i2l, 1, 0), (173, .invokestatic 117, 3, 0), (176, .lstore 11, 2, 0), (178, .lload 8, 2, 0), (180, .aload_n 0, 1, 0), (181, .getfield 58, 3, 0), (184, .iload 10, 2, 0), (186, .laload, 1, 0), (187, .lload 11, 2, 0), (189, .lmul, 1, 0), (190, .ladd, 1, 0), (191, .iload 5, 2, 0), (193, .i2l, 1, 0), (194, .lrem, 1, 0), (195, .lstore 8, 2, 0), (197, .iinc 10 1, 3, 0), (200, .goto (-78), 3, 122), (203, .aload_n 0, 1, 0), (204, .getfield 48, 3, 0), (207, .iload 4, 2, 0), (209, .aload_n 0, 1, 0), (210, .getfield 48, 3, 0), (213, .iload_n 3, 1, 0), (214, .iaload, 1, 0), (215, .iastore, 1, 0), (216, .aload_n 0, 1, 0), (217, .getfield 48, 3, 0), (220, .iload_n 3, 1, 0), (221, .iload 5, 2, 0), (223, .iastore, 1, 0), (224, .aload_n 0, 1, 0), (225, .getfield 64, 3, 0), (228, .iload_n 3, 1, 0), (229, .lload 8, 2, 0), (231, .lastore, 1, 0), (232, .aload_n 0, 1, 0), (233, .getfield 67, 3, 0), (236, .iload_n 3, 1, 0), (237, .lload 6, 2, 0), (239, .lastore, 1, 0), (240, .iinc 3 1, 3, 0), (243, .iinc 4 1, 3, 0), (246, .goto (-193), 3, 53), (249, .aload_n 0, 1, 0), (250, .aload_n 0, 1, 0), (251, .aload_n 0, 1, 0), (252, .getfield 64, 3, 0), (255, .iconst 0, 1, 0), (256, .invokevirtual 164, 3, 0), (259, .putfield 168, 3, 0), (262, .aload_n 0, 1, 0), (263, .aload_n 0, 1, 0), (264, .getfield 67, 3, 0), (267, .iconst 1, 1, 0), (268, .invokevirtual 164, 3, 0), (271, .istore 4, 2, 0), (273, .aload_n 0, 1, 0), (274, .aload_n 0, 1, 0), (275, .getfield 168, 3, 0), (278, .iload 4, 2, 0), (280, .imul, 1, 0), (281, .putfield 168, 3, 0), (284, .aload_n 0, 1, 0), (285, .invokevirtual 171, 3, 0), (288, .return_, 1, 0)]
def kd_Mo_zero : List (Nat × Instr × Nat × Nat) := [(0, .iconst 0, 1, 0), (1, .istore_n 2, 1, 0), (2, .iload_n 2, 1, 0), (3, .bipush 6, 2, 0), (5, .if_icmp .ge 21, 3, 26), (8, .aload_n 0, 1, 0), (9, .getfield 73, 3, 0), (12, .bipush 6, 2, 0), (14, .iload_n 1, 1, 0), (15, .imul, 1, 0), (16, .iload_n 2, 1, 0), (17, .iadd, 1, 0), (18, .lconst 0, 1, 0), (19, .lastore, 1, 0), (20, .iinc 2 1, 3, 0), (23, .goto (-21), 3, 2), (26, .return_, 1, 0)]
def kd_Mo_copy : List (Nat × Instr × Nat × Nat) := [(0, .iconst 0, 1, 0), (1, .istore_n 3, 1, 0), (2, .iload_n 3, 1, 0), (3, .bipush 6, 2, 0), (5, .if_icmp .ge 31, 3, 36), (8, .aload_n 0, 1, 0), (9, .getfield 73, 3, 0), (12, .bipush 6, 2, 0), (14, .iload_n 1, 1, 0), (15, .imul, 1, 0), (16, .iload_n 3, 1, 0), (17, .iadd, 1, 0), (18, .aload_n 0, 1, 0), (19, .getfield 73, 3, 0), (22, .bipush 6, 2, 0), (24, .iload_n 2, 1, 0), (25, .imul, 1, 0), (26, .iload_n 3, 1, 0), (27, .iadd, 1, 0), (28, .laload, 1, 0), (29, .lastore, 1, 0), (30, .iinc 3 1, 3, 0), (33, .goto (-31), 3, 2), (36, .return_, 1, 0)]
def kd_Mo_timesAnd : List (Nat × Instr × Nat × Nat) := [(0, .lload 4, 2, 0), (2, .lstore 6, 2, 0), (4, .iconst 0, 1, 0), (5, .istore 8, 2, 0), (7, .iload 8, 2, 0), (9, .bipush 6, 2, 0), (11, .if_icmp .ge 54, 3, 65), (14, .aload_n 0, 1, 0), (15, .getfield 73, 3, 0), (18, .bipush 6, 2, 0), (20, .iload_n 1, 1, 0), (21, .imul, 1, 0), (22, .iload 8, 2, 0), (24, .iadd, 1, 0), (25, .laload, 1, 0), (26, .lload_n 2, 1, 0), (27, .lmul, 1, 0), (28, .lload 6, 2, 0), (30, .ladd, 1, 0), (31, .lstore 9, 2, 0), (33, .aload_n 0, 1, 0), (34, .getfield 73, 3, 0), (37, .bipush 6, 2, 0), (39, .iload_n 1, 1, 0), (40, .imul, 1, 0), (41, .iload 8, 2, 0), (43, .iadd, 1, 0), (44, .lload 9, 2, 0), (46, .ldc2_w 174, 3, 0), (49, .lrem, 1, 0), (50, .lastore, 1, 0), (51, .lload 9, 2, 0), (53, .ldc2_w 174, 3, 0), (56, .ldiv, 1, 0), (57, .lstore 6, 2, 0), (59, .iinc 8 1, 3, 0), (62, .goto (-55), 3, 7), (65, .return_, 1, 0)]
def kd_Mo_compare : List (Nat × Instr × Nat × Nat) := [(0, .iconst 0, 1, 0), (1, .istore_n 3, 1, 0), (2, .iconst 5, 1, 0), (3, .istore 4, 2, 0), (5, .iload 4, 2, 0), (7, .ifCond .lt 64, 3, 71), (10, .iload_n 3, 1, 0), (11, .ifCond .ne 60, 3, 71), (14, .aload_n 0, 1, 0), (15, .getfield 73, 3, 0), (18, .bipush 6, 2, 0), (20, .iload_n 1, 1, 0), (21, .imul, 1, 0), (22, .iload 4, 2, 0), (24, .iadd, 1, 0), (25, .laload, 1, 0), (26, .aload_n 0, 1, 0), (27, .getfield 73, 3, 0), (30, .bipush 6, 2, 0), (32, .iload_n 2, 1, 0), (33, .imul, 1, 0), (34, .iload 4, 2, 0), (36, .iadd, 1, 0), (37, .laload, 1, 0), (38, .lsub, 1, 0), (39, .lstore 5, 2, 0), (41, .lload 5, 2, 0), (43, .lconst 0, 1, 0), (44, .lcmp, 1, 0), (45, .ifCond .le 7, 3, 52), (48, .iconst 1, 1, 0), (49, .goto 15, 3, 64), (52, .lload 5, 2, 0), (54, .lconst 0, 1, 0), (55, .lcmp, 1, 0), (56, .ifCond .ge 7, 3, 63), (59, .iconst (-1), 1, 0), (60, .goto 4, 3, 64), (63, .iconst 0, 1, 0), (64, .istore_n 3, 1, 0), (65, .iinc 4 (-1), 3, 0), (68, .goto (-63), 3, 5), (71, .iload_n 3, 1, 0), (72, .ireturn, 1, 0)]
def kd_Mo_less : List (Nat × Instr × Nat × Nat) := [(0, .lconst 0, 1, 0), (1, .lstore_n 3, 1, 0), (2, .iconst 0, 1, 0), (3, .istore 5, 2, 0), (5, .iload 5, 2, 0), (7, .bipush 6, 2, 0), (9, .if_icmp .ge 71, 3, 80), (12, .aload_n 0, 1, 0), (13, .getfield 73, 3, 0), (16, .bipush 6, 2, 0), (18, .iload_n 1, 1, 0), (19, .imul, 1, 0), (20, .iload 5, 2, 0), (22, .iadd, 1, 0), (23, .laload, 1, 0), (24, .aload_n 0, 1, 0), (25, .getfield 73, 3, 0), (28, .bipush 6, 2, 0), (30, .iload_n 2, 1, 0), (31, .imul, 1, 0), (32, .iload 5, 2, 0), (34, .iadd, 1, 0), (35, .laload, 1, 0), (36, .lsub, 1, 0), (37, .lload_n 3, 1, 0), (38, .lsub, 1, 0), (39, .lstore 6, 2, 0), (41, .lload 6, 2, 0), (43, .lconst 0, 1, 0), (44, .lcmp, 1, 0), (45, .ifCond .ge 7, 3, 52), (48, .lconst 1, 1, 0), (49, .goto 4, 3, 53), (52, .lconst 0, 1, 0), (53, .lstore_n 3, 1, 0), (54, .aload_n 0, 1, 0), (55, .getfield 73, 3, 0), (58, .bipush 6, 2, 0), (60, .iload_n 1, 1, 0), (61, .imul, 1, 0), (62, .iload 5, 2, 0), (64, .iadd, 1, 0), (65, .lload 6, 2, 0), (67, .lload_n 3, 1, 0), (68, .ldc2_w 174, 3, 0), (71, .lmul, 1, 0), (72, .ladd, 1, 0), (73, .lastore, 1, 0), (74, .iinc 5 1, 3, 0), (77, .goto (-72), 3, 5), (80, .return_, 1, 0)]
def kd_Mo_limbs : List (Nat × Instr × Nat × Nat) := [(0, .bipush 6, 2, 0), (2, .istore_n 2, 1, 0), (3, .iload_n 2, 1, 0), (4, .ifCond .le 27, 3, 31), (7, .aload_n 0, 1, 0), (8, .getfield 73, 3, 0), (11, .bipush 6, 2, 0), (13, .iload_n 1, 1, 0), (14, .imul, 1, 0), (15, .iload_n 2, 1, 0), (16, .iadd, 1, 0), (17, .iconst 1, 1, 0), (18, .isub, 1, 0), (19, .laload, 1, 0), (20, .lconst 0, 1, 0), (21, .lcmp, 1, 0), (22, .ifCond .ne 9, 3, 31), (25, .iinc 2 (-1), 3, 0), (28, .goto (-25), 3, 3), (31, .iload_n 2, 1, 0), (32, .ireturn, 1, 0)]
def kd_Mo_putTogether : List (Nat × Instr × Nat × Nat) := [(0, .iconst 0, 1, 0), (1, .istore_n 3, 1, 0), (2, .iload_n 3, 1, 0), (3, .iconst 5, 1, 0), (4, .if_icmp .ge 107, 3, 111), (7, .aload_n 0, 1, 0), (8, .getfield 48, 3, 0), (11, .iload_n 3, 1, 0), (12, .iaload, 1, 0), (13, .i2l, 1, 0), (14, .lstore 4, 2, 0), (16, .aload_n 1, 1, 0), (17, .iload_n 3, 1, 0), (18, .laload, 1, 0), (19, .lstore 6, 2, 0), (21, .lconst 1, 1, 0), (22, .lstore 8, 2, 0), (24, .iconst 0, 1, 0), (25, .istore 10, 2, 0), (27, .iload 10, 2, 0), (29, .iload_n 3, 1, 0), (30, .if_icmp .ge 48, 3, 78), (33, .lload 6, 2, 0), (35, .aload_n 0, 1, 0), (36, .getfield 70, 3, 0), (39, .iload 10, 2, 0), (41, .laload, 1, 0), (42, .lload 8, 2, 0), (44, .lmul, 1, 0), (45, .lload 4, 2, 0), (47, .lrem, 1, 0), (48, .lsub, 1, 0), (49, .lload 4, 2, 0), (51, .invokestatic 117, 3, 0), (54, .lstore 6, 2, 0), (56, .lload 8, 2, 0), (58, .aload_n 0, 1, 0), (59, .getfield 48, 3, 0), (62, .iload 10, 2, 0), (64, .iaload, 1, 0), (65, .i2l, 1, 0), (66, .lmul, 1, 0), (67, .lload 4, 2, 0), (69, .lrem, 1, 0), (70, .lstore 8, 2, 0), (72, .iinc 10 1, 3, 0), (75, .goto (-48), 3, 27), (78, .aload_n 0, 1, 0), (79, .getfield 70, 3, 0), (82, .iload_n 3, 1, 0), (83, .lload 6, 2, 0), (85, .lload 8, 2, 0), (87, .aload_n 0, 1, 0), (88, .getfield 48, 3, 0), (91, .iload_n 3, 1, 0), (92, .iaload, 1, 0), (93, .iconst 2, 1, 0), (94, .isub, 1, 0), (95, .lload 4, 2, 0), (97, .invokestatic 125, 3, 0), (100, .lmul, 1, 0), (101, .lload 4, 2, 0), (103, .lrem, 1, 0), (104, .lastore, 1, 0), (105, .iinc 3 1, 3, 0), (108, .goto (-106), 3, 2), (111, .aload_n 0, 1, 0), (112, .iload_n 2, 1, 0), (113, .invokevirtual 176, 3, 0), (116, .aload_n 0, 1, 0), (117, .iconst 2, 1, 0), (118, .invokevirtual 176, 3, 0), (121, .aload_n 0, 1, 0), (122, .getfield 73, 3, 0), (125, .bipush 12, 2, 0), (127, .lconst 1, 1, 0), (128, .lastore, 1, 0), (129, .iconst 4, 1, 0), (130, .istore_n 3, 1, 0), (131, .iload_n 3, 1, 0), (132, .ifCond .lt 40, 3, 172), (135, .aload_n 0, 1, 0), (136, .iload_n 2, 1, 0), (137, .aload_n 0, 1, 0), (138, .getfield 48, 3, 0), (141, .iload_n 3, 1, 0), (142, .iaload, 1, 0), (143, .i2l, 1, 0), (144, .aload_n 0, 1, 0), (145, .getfield 70, 3, 0), (148, .iload_n 3, 1, 0), (149, .laload, 1, 0), (150, .invokevirtual 180, 3, 0), (153, .aload_n 0, 1, 0), (154, .iconst 2, 1, 0), (155, .aload_n 0, 1, 0), (156, .getfield 48, 3, 0), (159, .iload_n 3, 1, 0), (160, .iaload, 1, 0), (161, .i2l, 1, 0), (162, .lconst 0, 1, 0), (163, .invokevirtual 180, 3, 0), (166, .iinc 3 (-1), 3, 0), (169, .goto (-38), 3, 131), (172, .aload_n 0, 1, 0), (173, .iconst 3, 1, 0), (174, .iconst 2, 1, 0), (175, .invokevirtual 184, 3, 0), (178, .aload_n 0, 1, 0), (179, .iconst 3, 1, 0), (180, .iload_n 2, 1, 0), (181, .invokevirtual 187, 3, 0), (184, .aload_n 0, 1, 0), (185, .iconst 3, 1, 0), (186, .iload_n 2, 1, 0), (187, .invokevirtual 190, 3, 0), (190, .ifCond .ge 11, 3, 201), (193, .aload_n 0, 1, 0), (194, .iload_n 2, 1, 0), (195, .iconst 3, 1, 0), (196, .invokevirtual 184, 3, 0), (199, .iconst (-1), 1, 0), (200, .ireturn, 1, 0), (201, .aload_n 0, 1, 0), (202, .iload_n 2, 1, 0), (203, .invokevirtual 193, 3, 0), (206, .ifCond .ne 7, 3, 213), (209, .iconst 0, 1, 0), (210, .goto 4, 3, 214), (213, .iconst 1, 1, 0), (214, .ireturn, 1, 0)]
def kd_Mo_divide : List (Nat × Instr × Nat × Nat) := [(0, .aload_n 0, 1, 0), (1, .iload_n 3, 1, 0), (2, .invokevirtual 176, 3, 0), (5, .aload_n 0, 1, 0), (6, .bipush 7, 2, 0), (8, .invokevirtual 176, 3, 0), (11, .sipush 179, 3, 0), (14, .istore 4, 2, 0), (16, .iload 4, 2, 0), (18, .ifCond .lt 87, 3, 105), (21, .aload_n 0, 1, 0), (22, .getfield 73, 3, 0), (25, .bipush 6, 2, 0), (27, .iload_n 1, 1, 0), (28, .imul, 1, 0), (29, .iload 4, 2, 0), (31, .bipush 30, 2, 0), (33, .idiv, 1, 0), (34, .iadd, 1, 0), (35, .laload, 1, 0), (36, .iload 4, 2, 0), (38, .bipush 30, 2, 0), (40, .irem, 1, 0), (41, .lshr, 1, 0), (42, .lconst 1, 1, 0), (43, .land, 1, 0), (44, .lstore 5, 2, 0), (46, .aload_n 0, 1, 0), (47, .bipush 7, 2, 0), (49, .ldc2_w 196, 3, 0), (52, .lload 5, 2, 0), (54, .invokevirtual 180, 3, 0), (57, .aload_n 0, 1, 0), (58, .bipush 7, 2, 0), (60, .iload_n 2, 1, 0), (61, .invokevirtual 190, 3, 0), (64, .ifCond .lt 35, 3, 99), (67, .aload_n 0, 1, 0), (68, .bipush 7, 2, 0), (70, .iload_n 2, 1, 0), (71, .invokevirtual 187, 3, 0), (74, .aload_n 0, 1, 0), (75, .getfield 73, 3, 0), (78, .bipush 6, 2, 0), (80, .iload_n 3, 1, 0), (81, .imul, 1, 0), (82, .iload 4, 2, 0), (84, .bipush 30, 2, 0), (86, .idiv, 1, 0), (87, .iadd, 1, 0), (88, .dup2, 1, 0), (89, .laload, 1, 0), (90, .lconst 1, 1, 0), (91, .iload 4, 2, 0), (93, .bipush 30, 2, 0), (95, .irem, 1, 0), (96, .lshl, 1, 0), (97, .ladd, 1, 0), (98, .lastore, 1, 0), (99, .iinc 4 (-1), 3, 0), (102, .goto (-86), 3, 16), (105, .aload_n 0, 1, 0), (106, .iload_n 1, 1, 0), (107, .bipush 7, 2, 0), (109, .invokevirtual 184, 3, 0), (112, .return_, 1, 0)]
def kd_Mo_reduce : List (Nat × Instr × Nat × Nat) := [(0, .aload_n 0, 1, 0), (1, .iconst 2, 1, 0), (2, .iconst 0, 1, 0), (3, .invokevirtual 184, 3, 0), (6, .aload_n 0, 1, 0), (7, .iconst 3, 1, 0), (8, .iconst 1, 1, 0), (9, .invokevirtual 184, 3, 0), (12, .aload_n 0, 1, 0), (13, .iconst 3, 1, 0), (14, .invokevirtual 193, 3, 0), (17, .ifCond .le 31, 3, 48), (20, .aload_n 0, 1, 0), (21, .iconst 2, 1, 0), (22, .iconst 3, 1, 0), (23, .iconst 4, 1, 0), (24, .invokevirtual 198, 3, 0), (27, .aload_n 0, 1, 0), (28, .iconst 5, 1, 0), (29, .iconst 2, 1, 0), (30, .invokevirtual 184, 3, 0), (33, .aload_n 0, 1, 0), (34, .iconst 2, 1, 0), (35, .iconst 3, 1, 0), (36, .invokevirtual 184, 3, 0), (39, .aload_n 0, 1, 0), (40, .iconst 3, 1, 0), (41, .iconst 5, 1, 0), (42, .invokevirtual 184, 3, 0), (45, .goto (-33), 3, 12), (48, .aload_n 0, 1, 0), (49, .bipush 6, 2, 0), (51, .iconst 2, 1, 0), (52, .invokevirtual 184, 3, 0), (55, .aload_n 0, 1, 0), (56, .iconst 5, 1, 0), (57, .iconst 0, 1, 0), (58, .invokevirtual 184, 3, 0), (61, .aload_n 0, 1, 0), (62, .iconst 5, 1, 0), (63, .bipush 6, 2, 0), (65, .iconst 0, 1, 0), (66, .invokevirtual 198, 3, 0), (69, .aload_n 0, 1, 0), (70, .iconst 5, 1, 0), (71, .iconst 1, 1, 0), (72, .invokevirtual 184, 3, 0), (75, .aload_n 0, 1, 0), (76, .iconst 5, 1, 0), (77, .bipush 6, 2, 0), (79, .iconst 1, 1, 0), (80, .invokevirtual 198, 3, 0), (83, .return_, 1, 0)]
def kd_Mo_fixed : List (Nat × Instr × Nat × Nat) := [(0, .iload_n 1, 1, 0), (1, .i2l, 1, 0), (2, .lconst 0, 1, 0), (3, .iconst 2, 1, 0), (4, .aload_n 0, 1, 0), (5, .getfield 87, 3, 0), (8, .imul, 1, 0), (9, .iconst 1, 1, 0), (10, .isub, 1, 0), (11, .i2l, 1, 0), (12, .invokestatic 83, 3, 0), (15, .ifCond .ne 6, 3, 21), (18, .bipush (-2), 2, 0), (20, .ireturn, 1, 0), (21, .aload_n 0, 1, 0), (22, .invokevirtual 144, 3, 0), (25, .aload_n 0, 1, 0), (26, .bipush 21, 2, 0), (28, .iconst 0, 1, 0), (29, .invokevirtual 102, 3, 0), (32, .aload_n 0, 1, 0), (33, .getfield 13, 3, 0), (36, .sipush 357, 3, 0), (39, .iload_n 1, 1, 0), (40, .iadd, 1, 0), (41, .iconst 1, 1, 0), (42, .iastore, 1, 0), (43, .aload_n 0, 1, 0), (44, .aload_n 0, 1, 0), (45, .getfield 137, 3, 0), (48, .bipush 21, 2, 0), (50, .invokevirtual 140, 3, 0), (53, .ifCond .ne 5, 3, 58), (56, .iconst 0, 1, 0), (57, .ireturn, 1, 0), (58, .aload_n 0, 1, 0), (59, .aload_n 0, 1, 0), (60, .getfield 137, 3, 0), (63, .iload_n 1, 1, 0), (64, .invokevirtual 202, 3, 0), (67, .iconst 1, 1, 0), (68, .ireturn, 1, 0)]
def kd_Mo_question : List (Nat × Instr × Nat × Nat) := [(0, .iload_n 1, 1, 0), (1, .i2l, 1, 0), (2, .ldc2_w 95, 3, 0), (5, .ldc2_w 97, 3, 0), (8, .invokestatic 83, 3, 0), (11, .ifCond .ne 6, 3, 17), (14, .bipush (-2), 2, 0), (16, .ireturn, 1, 0), (17, .aload_n 0, 1, 0), (18, .bipush 20, 2, 0), (20, .iload_n 1, 1, 0), (21, .invokevirtual 102, 3, 0), (24, .aload_n 0, 1, 0), (25, .getfield 16, 3, 0), (28, .bipush 20, 2, 0), (30, .iconst 0, 1, 0), (31, .iastore, 1, 0), (32, .iconst 1, 1, 0), (33, .ireturn, 1, 0)]
def kd_Mo_ask : List (Nat × Instr × Nat × Nat) := [(0, .aload_n 0, 1, 0), (1, .bipush 20, 2, 0), (3, .iload_n 1, 1, 0), (4, .iload_n 2, 1, 0), (5, .invokevirtual 113, 3, 0), (8, .ireturn, 1, 0)]
def kd_Mo_holds : List (Nat × Instr × Nat × Nat) := [(0, .aload_n 0, 1, 0), (1, .invokevirtual 144, 3, 0), (4, .aload_n 0, 1, 0), (5, .aload_n 0, 1, 0), (6, .getfield 137, 3, 0), (9, .bipush 20, 2, 0), (11, .invokevirtual 140, 3, 0), (14, .istore_n 1, 1, 0), (15, .iload_n 1, 1, 0), (16, .ifCond .ne 7, 3, 23), (19, .iconst 2, 1, 0), (20, .goto 13, 3, 33), (23, .iload_n 1, 1, 0), (24, .iconst 1, 1, 0), (25, .if_icmp .ne 7, 3, 32), (28, .iconst 1, 1, 0), (29, .goto 4, 3, 33), (32, .iconst 0, 1, 0), (33, .ireturn, 1, 0)]
def kd_Mo_nearest : List (Nat × Instr × Nat × Nat) := [(0, .iload_n 1, 1, 0), (1, .i2l, 1, 0), (2, .lconst 0, 1, 0), (3, .iconst 2, 1, 0), (4, .aload_n 0, 1, 0), (5, .getfield 87, 3, 0), (8, .imul, 1, 0), (9, .iconst 1, 1, 0), (10, .isub, 1, 0), (11, .i2l, 1, 0), (12, .invokestatic 83, 3, 0), (15, .ifCond .ne 6, 3, 21), (18, .bipush (-2), 2, 0), (20, .ireturn, 1, 0), (21, .aload_n 0, 1, 0), (22, .invokevirtual 144, 3, 0), (25, .aload_n 0, 1, 0), (26, .aload_n 0, 1, 0), (27, .getfield 137, 3, 0), (30, .iload_n 1, 1, 0), (31, .invokevirtual 202, 3, 0), (34, .iconst 1, 1, 0), (35, .ireturn, 1, 0)]
def kd_Mo_strain : List (Nat × Instr × Nat × Nat) := [(0, .aload_n 0, 1, 0), (1, .invokevirtual 144, 3, 0), (4, .aload_n 0, 1, 0), (5, .aload_n 0, 1, 0), (6, .getfield 137, 3, 0), (9, .iconst (-1), 1, 0), (10, .invokevirtual 202, 3, 0), (13, .iconst 1, 1, 0), (14, .ireturn, 1, 0)]
def kd_Mo_drag : List (Nat × Instr × Nat × Nat) := [(0, .aload_n 0, 1, 0), (1, .iload_n 1, 1, 0), (2, .invokevirtual 91, 3, 0), (5, .ifCond .eq 50, 3, 55), (8, .iload_n 2, 1, 0), (9, .i2l, 1, 0), (10, .ldc2_w 79, 3, 0), (13, .ldc2_w 81, 3, 0), (16, .invokestatic 83, 3, 0), (19, .ifCond .eq 36, 3, 55), (22, .iload_n 3, 1, 0), (23, .i2l, 1, 0), (24, .ldc2_w 79, 3, 0), (27, .ldc2_w 81, 3, 0), (30, .invokestatic 83, 3, 0), (33, .ifCond .eq 22, 3, 55), (36, .iload 4, 2, 0), (38, .i2l, 1, 0), (39, .lconst 0, 1, 0), (40, .iconst 2, 1, 0), (41, .aload_n 0, 1, 0), (42, .getfield 87, 3, 0), (45, .imul, 1, 0), (46, .iconst 1, 1, 0), (47, .isub, 1, 0), (48, .i2l, 1, 0), (49, .invokestatic 83, 3, 0), (52, .ifCond .ne 6, 3, 58), (55, .bipush (-2), 2, 0), (57, .ireturn, 1, 0), (58, .aload_n 0, 1, 0), (59, .invokevirtual 144, 3, 0), (62, .aload_n 0, 1, 0), (63, .getfield 137, 3, 0), (66, .istore 5, 2, 0), (68, .iconst 0, 1, 0), (69, .istore 6, 2, 0), (71, .iload 6, 2, 0), (73, .iconst 2, 1, 0), (74, .if_icmp .ge 80, 3, 154), (77, .aload_n 0, 1, 0), (78, .bipush 21, 2, 0), (80, .iload 6, 2, 0), (82, .iadd, 1, 0), (83, .iload 6, 2, 0), (85, .ifCond .ne 7, 3, 92), (88, .iload_n 2, 1, 0), (89, .goto 4, 3, 93), (92, .iload_n 3, 1, 0), (93, .invokevirtual 102, 3, 0), (96, .aload_n 0, 1, 0), (97, .getfield 13, 3, 0), (100, .bipush 17, 2, 0), (102, .bipush 21, 2, 0), (104, .iload 6, 2, 0), (106, .iadd, 1, 0), (107, .imul, 1, 0), (108, .iconst 2, 1, 0), (109, .iload_n 1, 1, 0), (110, .imul, 1, 0), (111, .iadd, 1, 0), (112, .iload 6, 2, 0), (114, .iadd, 1, 0), (115, .iconst 1, 1, 0), (116, .iastore, 1, 0), (117, .aload_n 0, 1, 0), (118, .iload 5, 2, 0), (120, .bipush 21, 2, 0), (122, .iload 6, 2, 0), (124, .iadd, 1, 0), (125, .invokevirtual 140, 3, 0), (128, .ifCond .ne 16, 3, 144), (131, .iload 5, 2, 0), (133, .iconst 1, 1, 0), (134, .bipush 21, 2, 0), (136, .iload 6, 2, 0), (138, .iadd, 1, 0), (139, .ishl, 1, 0), (140, .ior, 1, 0), (141, .goto 5, 3, 146), (144, .iload 5, 2, 0), (146, .istore 5, 2, 0), (148, .iinc 6 1, 3, 0), (151, .goto (-80), 3, 71), (154, .aload_n 0, 1, 0), (155, .iload 5, 2, 0), (157, .iload 4, 2, 0), (159, .invokevirtual 202, 3, 0), (162, .iconst 1, 1, 0), (163, .ireturn, 1, 0)]
def kd_Mo_sign : List (Nat × Instr × Nat × Nat) := [(0, .iload_n 1, 1, 0), (1, .i2l, 1, 0), (2, .lconst 0, 1, 0), (3, .ldc2_w 196, 3, 0), (6, .invokestatic 83, 3, 0), (9, .ifCond .ne 6, 3, 15), (12, .bipush (-10), 2, 0), (14, .ireturn, 1, 0), (15, .iload_n 1, 1, 0), (16, .ifCond .ne 10, 3, 26), (19, .aload_n 0, 1, 0), (20, .getfield 168, 3, 0), (23, .goto 10, 3, 33), (26, .aload_n 0, 1, 0), (27, .iload_n 1, 1, 0), (28, .iconst 1, 1, 0), (29, .isub, 1, 0), (30, .invokevirtual 193, 3, 0), (33, .ireturn, 1, 0)]
def kd_Mo_limb : List (Nat × Instr × Nat × Nat) := [(0, .iload_n 1, 1, 0), (1, .i2l, 1, 0), (2, .lconst 0, 1, 0), (3, .lconst 1, 1, 0), (4, .invokestatic 83, 3, 0), (7, .ifCond .eq 7, 3, 14), (10, .iload_n 2, 1, 0), (11, .ifCond .ge 6, 3, 17), (14, .bipush (-2), 2, 0), (16, .ireturn, 1, 0), (17, .iload_n 2, 1, 0), (18, .aload_n 0, 1, 0), (19, .iload_n 1, 1, 0), (20, .invokevirtual 193, 3, 0), (23, .if_icmp .ge 18, 3, 41), (26, .aload_n 0, 1, 0), (27, .getfield 73, 3, 0), (30, .bipush 6, 2, 0), (32, .iload_n 1, 1, 0), (33, .imul, 1, 0), (34, .iload_n 2, 1, 0), (35, .iadd, 1, 0), (36, .laload, 1, 0), (37, .l2i, 1, 0), (38, .goto 4, 3, 42), (41, .iconst (-1), 1, 0), (42, .ireturn, 1, 0)]
def kd_Mo_barOf : List (Nat × Instr × Nat × Nat) := [(0, .iconst 0, 1, 0), (1, .istore_n 3, 1, 0), (2, .iload_n 3, 1, 0), (3, .aload_n 0, 1, 0), (4, .getfield 205, 3, 0), (7, .if_icmp .ge 51, 3, 58), (10, .aload_n 0, 1, 0), (11, .getfield 32, 3, 0), (14, .iload_n 3, 1, 0), (15, .iaload, 1, 0), (16, .iload_n 1, 1, 0), (17, .if_icmp .ne 13, 3, 30), (20, .aload_n 0, 1, 0), (21, .getfield 35, 3, 0), (24, .iload_n 3, 1, 0), (25, .iaload, 1, 0), (26, .iload_n 2, 1, 0), (27, .if_icmp .eq 23, 3, 50), (30, .aload_n 0, 1, 0), (31, .getfield 32, 3, 0), (34, .iload_n 3, 1, 0), (35, .iaload, 1, 0), (36, .iload_n 2, 1, 0), (37, .if_icmp .ne 15, 3, 52), (40, .aload_n 0, 1, 0), (41, .getfield 35, 3, 0), (44, .iload_n 3, 1, 0), (45, .iaload, 1, 0), (46, .iload_n 1, 1, 0), (47, .if_icmp .ne 5, 3, 52), (50, .iload_n 3, 1, 0), (51, .ireturn, 1, 0), (52, .iinc 3 1, 3, 0), (55, .goto (-53), 3, 2), (58, .iconst (-1), 1, 0), (59, .ireturn, 1, 0)]
def kd_Mo_bar : List (Nat × Instr × Nat × Nat) := [(0, .aload_n 0, 1, 0), (1, .iload_n 1, 1, 0), (2, .invokevirtual 91, 3, 0), (5, .ifCond .eq 25, 3, 30), (8, .aload_n 0, 1, 0), (9, .iload_n 2, 1, 0), (10, .invokevirtual 91, 3, 0), (13, .ifCond .eq 17, 3, 30), (16, .iload_n 1, 1, 0), (17, .iload_n 2, 1, 0), (18, .if_icmp .eq 12, 3, 30), (21, .aload_n 0, 1, 0), (22, .iload_n 1, 1, 0), (23, .iload_n 2, 1, 0), (24, .invokevirtual 208, 3, 0), (27, .ifCond .lt 6, 3, 33), (30, .bipush (-2), 2, 0), (32, .ireturn, 1, 0), (33, .aload_n 0, 1, 0), (34, .getfield 205, 3, 0), (37, .bipush 20, 2, 0), (39, .if_icmp .ne 6, 3, 45), (42, .bipush (-4), 2, 0), (44, .ireturn, 1, 0), (45, .aload_n 0, 1, 0), (46, .getfield 32, 3, 0), (49, .aload_n 0, 1, 0), (50, .getfield 205, 3, 0), (53, .iload_n 1, 1, 0), (54, .iastore, 1, 0), (55, .aload_n 0, 1, 0), (56, .getfield 35, 3, 0), (59, .aload_n 0, 1, 0), (60, .getfield 205, 3, 0), (63, .iload_n 2, 1, 0), (64, .iastore, 1, 0), (65, .aload_n 0, 1, 0), (66, .dup, 1, 0), (67, .getfield 205, 3, 0), (70, .iconst 1, 1, 0), (71, .iadd, 1, 0), (72, .putfield 205, 3, 0), (75, .aload_n 0, 1, 0), (76, .getfield 205, 3, 0), (79, .iconst 1, 1, 0), (80, .isub, 1, 0), (81, .ireturn, 1, 0)]
def kd_Mo_isIndependent : List (Nat × Instr × Nat × Nat) := [(0, .iconst 0, 1, 0), (1, .istore_n 2, 1, 0), (2, .iload_n 2, 1, 0), (3, .sipush 256, 3, 0), (6, .if_icmp .ge 122, 3, 128), (9, .iconst 0, 1, 0), (10, .istore_n 3, 1, 0), (11, .iconst 0, 1, 0), (12, .istore 4, 2, 0), (14, .iload 4, 2, 0), (16, .bipush 8, 2, 0), (18, .if_icmp .ge 18, 3, 36), (21, .iload_n 3, 1, 0), (22, .iload_n 2, 1, 0), (23, .iload 4, 2, 0), (25, .ishr, 1, 0), (26, .iconst 1, 1, 0), (27, .iand, 1, 0), (28, .iadd, 1, 0), (29, .istore_n 3, 1, 0), (30, .iinc 4 1, 3, 0), (33, .goto (-19), 3, 14), (36, .iconst 0, 1, 0), (37, .istore 4, 2, 0), (39, .iconst 0, 1, 0), (40, .istore 5, 2, 0), (42, .iload 5, 2, 0), (44, .bipush 21, 2, 0), (46, .if_icmp .ge 59, 3, 105), (49, .iload 4, 2, 0), (51, .iload_n 1, 1, 0), (52, .iload 5, 2, 0), (54, .ishr, 1, 0), (55, .iconst 1, 1, 0), (56, .iand, 1, 0), (57, .iconst 1, 1, 0), (58, .if_icmp .ne 37, 3, 95), (61, .iload_n 2, 1, 0), (62, .aload_n 0, 1, 0), (63, .getfield 32, 3, 0), (66, .iload 5, 2, 0), (68, .iaload, 1, 0), (69, .ishr, 1, 0), (70, .iconst 1, 1, 0), (71, .iand, 1, 0), (72, .iconst 1, 1, 0), (73, .if_icmp .ne 22, 3, 95), (76, .iload_n 2, 1, 0), (77, .aload_n 0, 1, 0), (78, .getfield 35, 3, 0), (81, .iload 5, 2, 0), (83, .iaload, 1, 0), (84, .ishr, 1, 0), (85, .iconst 1, 1, 0), (86, .iand, 1, 0), (87, .iconst 1, 1, 0), (88, .if_icmp .ne 7, 3, 95), (91, .iconst 1, 1, 0), (92, .goto 4, 3, 96), (95, .iconst 0, 1, 0), (96, .iadd, 1, 0), (97, .istore 4, 2, 0), (99, .iinc 5 1, 3, 0), (102, .goto (-60), 3, 42), (105, .iload 4, 2, 0), (107, .ifCond .le 15, 3, 122), (110, .iload 4, 2, 0), (112, .iconst 2, 1, 0), (113, .iload_n 3, 1, 0), (114, .imul, 1, 0), (115, .iconst 3, 1, 0), (116, .isub, 1, 0), (117, .if_icmp .le 5, 3, 122), (120, .iconst 0, 1, 0), (121, .ireturn, 1, 0), (122, .iinc 2 1, 3, 0), (125, .goto (-123), 3, 2), (128, .iconst 1, 1, 0), (129, .ireturn, 1, 0)]
def kd_Mo_countBars : List (Nat × Instr × Nat × Nat) := [(0, .aload_n 0, 1, 0), (1, .iconst 0, 1, 0), (2, .putfield 211, 3, 0), (5, .iconst 0, 1, 0), (6, .istore_n 1, 1, 0), (7, .iload_n 1, 1, 0), (8, .aload_n 0, 1, 0), (9, .getfield 205, 3, 0), (12, .if_icmp .ge 63, 3, 75), (15, .aload_n 0, 1, 0), (16, .getfield 38, 3, 0), (19, .iload_n 1, 1, 0), (20, .aload_n 0, 1, 0), (21, .aload_n 0, 1, 0), (22, .getfield 211, 3, 0), (25, .iconst 1, 1, 0), (26, .iload_n 1, 1, 0), (27, .ishl, 1, 0), (28, .ior, 1, 0), (29, .invokevirtual 214, 3, 0), (32, .ifCond .ne 7, 3, 39), (35, .iconst 1, 1, 0), (36, .goto 4, 3, 40), (39, .iconst 0, 1, 0), (40, .bastore, 1, 0), (41, .aload_n 0, 1, 0), (42, .aload_n 0, 1, 0), (43, .getfield 38, 3, 0), (46, .iload_n 1, 1, 0), (47, .baload, 1, 0), (48, .ifCond .eq 10, 3, 58), (51, .aload_n 0, 1, 0), (52, .getfield 211, 3, 0), (55, .goto 11, 3, 66), (58, .aload_n 0, 1, 0), (59, .getfield 211, 3, 0), (62, .iconst 1, 1, 0), (63, .iload_n 1, 1, 0), (64, .ishl, 1, 0), (65, .ior, 1, 0), (66, .putfield 211, 3, 0), (69, .iinc 1 1, 3, 0), (72, .goto (-65), 3, 7), (75, .return_, 1, 0)]
def kd_Mo_sortOf : List (Nat × Instr × Nat × Nat) := [(0, .iload_n 1, 1, 0), (1, .i2l, 1, 0), (2, .lconst 0, 1, 0), (3, .aload_n 0, 1, 0), (4, .getfield 205, 3, 0), (7, .iconst 1, 1, 0), (8, .isub, 1, 0), (9, .i2l, 1, 0), (10, .invokestatic 83, 3, 0), (13, .ifCond .ne 6, 3, 19), (16, .bipush (-2), 2, 0), (18, .ireturn, 1, 0), (19, .aload_n 0, 1, 0), (20, .invokevirtual 217, 3, 0), (23, .aload_n 0, 1, 0), (24, .getfield 38, 3, 0), (27, .iload_n 1, 1, 0), (28, .baload, 1, 0), (29, .ifCond .eq 7, 3, 36), (32, .iconst 1, 1, 0), (33, .goto 4, 3, 37), (36, .iconst 0, 1, 0), (37, .ireturn, 1, 0)]
def kd_Mo_bars : List (Nat × Instr × Nat × Nat) := [(0, .iload_n 1, 1, 0), (1, .i2l, 1, 0), (2, .lconst 0, 1, 0), (3, .ldc2_w 196, 3, 0), (6, .invokestatic 83, 3, 0), (9, .ifCond .ne 6, 3, 15), (12, .bipush (-2), 2, 0), (14, .ireturn, 1, 0), (15, .aload_n 0, 1, 0), (16, .invokevirtual 217, 3, 0), (19, .iconst 0, 1, 0), (20, .istore_n 2, 1, 0), (21, .iconst 0, 1, 0), (22, .istore_n 3, 1, 0), (23, .iload_n 3, 1, 0), (24, .aload_n 0, 1, 0), (25, .getfield 205, 3, 0), (28, .if_icmp .ge 26, 3, 54), (31, .iload_n 2, 1, 0), (32, .aload_n 0, 1, 0), (33, .getfield 38, 3, 0), (36, .iload_n 3, 1, 0), (37, .baload, 1, 0), (38, .ifCond .eq 7, 3, 45), (41, .iconst 0, 1, 0), (42, .goto 4, 3, 46), (45, .iconst 1, 1, 0), (46, .iadd, 1, 0), (47, .istore_n 2, 1, 0), (48, .iinc 3 1, 3, 0), (51, .goto (-28), 3, 23), (54, .iload_n 1, 1, 0), (55, .ifCond .ne 7, 3, 62), (58, .iload_n 2, 1, 0), (59, .goto 39, 3, 98), (62, .iload_n 1, 1, 0), (63, .iconst 1, 1, 0), (64, .if_icmp .ne 12, 3, 76), (67, .aload_n 0, 1, 0), (68, .getfield 205, 3, 0), (71, .iload_n 2, 1, 0), (72, .isub, 1, 0), (73, .goto 25, 3, 98), (76, .aload_n 0, 1, 0), (77, .getfield 87, 3, 0), (80, .iconst 2, 1, 0), (81, .if_icmp .ge 7, 3, 88), (84, .iconst 0, 1, 0), (85, .goto 13, 3, 98), (88, .iconst 2, 1, 0), (89, .aload_n 0, 1, 0), (90, .getfield 87, 3, 0), (93, .imul, 1, 0), (94, .iconst 3, 1, 0), (95, .isub, 1, 0), (96, .iload_n 2, 1, 0), (97, .isub, 1, 0), (98, .ireturn, 1, 0)]
def kd_Mo_round : List (Nat × Instr × Nat × Nat) := [(0, .iload_n 1, 1, 0), (1, .i2l, 1, 0), (2, .lconst 0, 1, 0), (3, .aload_n 0, 1, 0), (4, .getfield 205, 3, 0), (7, .iconst 1, 1, 0), (8, .isub, 1, 0), (9, .i2l, 1, 0), (10, .invokestatic 83, 3, 0), (13, .ifCond .ne 6, 3, 19), (16, .bipush (-2), 2, 0), (18, .ireturn, 1, 0), (19, .aload_n 0, 1, 0), (20, .invokevirtual 217, 3, 0), (23, .aload_n 0, 1, 0), (24, .getfield 38, 3, 0), (27, .iload_n 1, 1, 0), (28, .baload, 1, 0), (29, .ifCond .ne 6, 3, 35), (32, .bipush (-3), 2, 0), (34, .ireturn, 1, 0), (35, .iconst 0, 1, 0), (36, .istore_n 2, 1, 0), (37, .iconst 0, 1, 0), (38, .istore_n 3, 1, 0), (39, .iload_n 3, 1, 0), (40, .aload_n 0, 1, 0), (41, .getfield 205, 3, 0), (44, .if_icmp .ge 45, 3, 89), (47, .aload_n 0, 1, 0), (48, .getfield 38, 3, 0), (51, .iload_n 3, 1, 0), (52, .baload, 1, 0), (53, .ifCond .ne 30, 3, 83), (56, .aload_n 0, 1, 0), (57, .aload_n 0, 1, 0), (58, .getfield 211, 3, 0), (61, .iconst 1, 1, 0), (62, .iload_n 3, 1, 0), (63, .ishl, 1, 0), (64, .iconst (-1), 1, 0), (65, .ixor, 1, 0), (66, .iand, 1, 0), (67, .iconst 1, 1, 0), (68, .iload_n 1, 1, 0), (69, .ishl, 1, 0), (70, .ior, 1, 0), (71, .invokevirtual 214, 3, 0), (74, .ifCond .eq 9, 3, 83), (77, .iload_n 2, 1, 0), (78, .iconst 1, 1, 0), (79, .iload_n 3, 1, 0), (80, .ishl, 1, 0), (81, .ior, 1, 0), (82, .istore_n 2, 1, 0), (83, .iinc 3 1, 3, 0), (86, .goto (-47), 3, 39), (89, .iload_n 2, 1, 0), (90, .ireturn, 1, 0)]
def kd_Mo_isKept : List (Nat × Instr × Nat × Nat) := [(0, .aload_n 0, 1, 0), (1, .getfield 32, 3, 0), (4, .bipush 20, 2, 0), (6, .iload_n 1, 1, 0), (7, .iastore, 1, 0), (8, .aload_n 0, 1, 0), (9, .getfield 35, 3, 0), (12, .bipush 20, 2, 0), (14, .iload_n 2, 1, 0), (15, .iastore, 1, 0), (16, .aload_n 0, 1, 0), (17, .iload_n 1, 1, 0), (18, .iload_n 2, 1, 0), (19, .invokevirtual 208, 3, 0), (22, .ifCond .ge 17, 3, 39), (25, .aload_n 0, 1, 0), (26, .aload_n 0, 1, 0), (27, .getfield 211, 3, 0), (30, .ldc 220, 2, 0), (32, .ior, 1, 0), (33, .invokevirtual 214, 3, 0), (36, .ifCond .ne 7, 3, 43), (39, .iconst 1, 1, 0), (40, .goto 4, 3, 44), (43, .iconst 0, 1, 0), (44, .ireturn, 1, 0)]
def kd_Mo_isPair : List (Nat × Instr × Nat × Nat) := [(0, .aload_n 0, 1, 0), (1, .iload_n 1, 1, 0), (2, .invokevirtual 91, 3, 0), (5, .ifCond .eq 20, 3, 25), (8, .aload_n 0, 1, 0), (9, .iload_n 2, 1, 0), (10, .invokevirtual 91, 3, 0), (13, .ifCond .eq 12, 3, 25), (16, .iload_n 1, 1, 0), (17, .iload_n 2, 1, 0), (18, .if_icmp .eq 7, 3, 25), (21, .iconst 1, 1, 0), (22, .goto 4, 3, 26), (25, .iconst 0, 1, 0), (26, .ireturn, 1, 0)]
def kd_Mo_kept : List (Nat × Instr × Nat × Nat) := [(0, .aload_n 0, 1, 0), (1, .iload_n 1, 1, 0), (2, .iload_n 2, 1, 0), (3, .invokevirtual 221, 3, 0), (6, .ifCond .ne 6, 3, 12), (9, .bipush (-2), 2, 0), (11, .ireturn, 1, 0), (12, .aload_n 0, 1, 0), (13, .invokevirtual 217, 3, 0), (16, .aload_n 0, 1, 0), (17, .iload_n 1, 1, 0), (18, .iload_n 2, 1, 0), (19, .invokevirtual 225, 3, 0), (22, .ifCond .eq 7, 3, 29), (25, .iconst 1, 1, 0), (26, .goto 4, 3, 30), (29, .iconst 0, 1, 0), (30, .ireturn, 1, 0)]
def kd_Mo_piece : List (Nat × Instr × Nat × Nat) := [(0, .aload_n 0, 1, 0), (1, .iload_n 1, 1, 0), (2, .iload_n 2, 1, 0), (3, .invokevirtual 221, 3, 0), (6, .ifCond .ne 6, 3, 12), (9, .bipush (-2), 2, 0), (11, .ireturn, 1, 0), (12, .aload_n 0, 1, 0), (13, .invokevirtual 217, 3, 0), (16, .aload_n 0, 1, 0), (17, .iload_n 1, 1, 0), (18, .iload_n 2, 1, 0), (19, .invokevirtual 225, 3, 0), (22, .ifCond .ne 6, 3, 28), (25, .bipush (-3), 2, 0), (27, .ireturn, 1, 0), (28, .iconst 1, 1, 0), (29, .iload_n 1, 1, 0), (30, .ishl, 1, 0), (31, .iconst 1, 1, 0), (32, .iload_n 2, 1, 0), (33, .ishl, 1, 0), (34, .ior, 1, 0), (35, .istore_n 3, 1, 0), (36, .iconst 0, 1, 0), (37, .istore 4, 2, 0), (39, .iload 4, 2, 0), (41, .aload_n 0, 1, 0), (42, .getfield 87, 3, 0), (45, .if_icmp .ge 48, 3, 93), (48, .iload 4, 2, 0), (50, .iload_n 1, 1, 0), (51, .if_icmp .eq 36, 3, 87), (54, .iload 4, 2, 0), (56, .iload_n 2, 1, 0), (57, .if_icmp .eq 30, 3, 87), (60, .aload_n 0, 1, 0), (61, .iload_n 1, 1, 0), (62, .iload 4, 2, 0), (64, .invokevirtual 225, 3, 0), (67, .ifCond .eq 20, 3, 87), (70, .aload_n 0, 1, 0), (71, .iload_n 2, 1, 0), (72, .iload 4, 2, 0), (74, .invokevirtual 225, 3, 0), (77, .ifCond .eq 10, 3, 87), (80, .iload_n 3, 1, 0), (81, .iconst 1, 1, 0), (82, .iload 4, 2, 0), (84, .ishl, 1, 0), (85, .ior, 1, 0), (86, .istore_n 3, 1, 0), (87, .iinc 4 1, 3, 0), (90, .goto (-51), 3, 39), (93, .iload_n 3, 1, 0), (94, .ireturn, 1, 0)]
def kd_Mo_fixes : List (Nat × Instr × Nat × Nat) := [(0, .iload_n 1, 1, 0), (1, .iconst (-1), 1, 0), (2, .if_icmp .ge 6, 3, 8), (5, .bipush (-10), 2, 0), (7, .ireturn, 1, 0), (8, .aload_n 0, 1, 0), (9, .invokevirtual 217, 3, 0), (12, .iconst 0, 1, 0), (13, .istore_n 2, 1, 0), (14, .iconst 0, 1, 0), (15, .istore_n 3, 1, 0), (16, .iload_n 3, 1, 0), (17, .aload_n 0, 1, 0), (18, .getfield 87, 3, 0), (21, .if_icmp .ge 55, 3, 76), (24, .iload_n 3, 1, 0), (25, .iconst 1, 1, 0), (26, .iadd, 1, 0), (27, .istore 4, 2, 0), (29, .iload 4, 2, 0), (31, .aload_n 0, 1, 0), (32, .getfield 87, 3, 0), (35, .if_icmp .ge 35, 3, 70), (38, .aload_n 0, 1, 0), (39, .iload_n 3, 1, 0), (40, .iload 4, 2, 0), (42, .invokevirtual 225, 3, 0), (45, .ifCond .ne 19, 3, 64), (48, .iload_n 2, 1, 0), (49, .iload_n 1, 1, 0), (50, .if_icmp .ne 11, 3, 61), (53, .bipush 10, 2, 0), (55, .iload_n 3, 1, 0), (56, .imul, 1, 0), (57, .iload 4, 2, 0), (59, .iadd, 1, 0), (60, .ireturn, 1, 0), (61, .iinc 2 1, 3, 0), (64, .iinc 4 1, 3, 0), (67, .goto (-38), 3, 29), (70, .iinc 3 1, 3, 0), (73, .goto (-57), 3, 16), (76, .iload_n 1, 1, 0), (77, .iconst (-1), 1, 0), (78, .if_icmp .ne 7, 3, 85), (81, .iload_n 2, 1, 0), (82, .goto 5, 3, 87), (85, .bipush (-5), 2, 0), (87, .ireturn, 1, 0)]
def kd_Mo_barsAt : List (Nat × Instr × Nat × Nat) := [(0, .iconst 0, 1, 0), (1, .istore_n 3, 1, 0), (2, .iconst 0, 1, 0), (3, .istore 4, 2, 0), (5, .iload 4, 2, 0), (7, .aload_n 0, 1, 0), (8, .getfield 205, 3, 0), (11, .if_icmp .ge 87, 3, 98), (14, .aload_n 0, 1, 0), (15, .getfield 32, 3, 0), (18, .iload 4, 2, 0), (20, .iaload, 1, 0), (21, .iload_n 1, 1, 0), (22, .if_icmp .ne 13, 3, 35), (25, .aload_n 0, 1, 0), (26, .getfield 35, 3, 0), (29, .iload 4, 2, 0), (31, .iaload, 1, 0), (32, .goto 25, 3, 57), (35, .aload_n 0, 1, 0), (36, .getfield 35, 3, 0), (39, .iload 4, 2, 0), (41, .iaload, 1, 0), (42, .iload_n 1, 1, 0), (43, .if_icmp .ne 13, 3, 56), (46, .aload_n 0, 1, 0), (47, .getfield 32, 3, 0), (50, .iload 4, 2, 0), (52, .iaload, 1, 0), (53, .goto 4, 3, 57), (56, .iconst (-1), 1, 0), (57, .istore 5, 2, 0), (59, .iload_n 3, 1, 0), (60, .iload 5, 2, 0), (62, .ifCond .lt 27, 3, 89), (65, .aload_n 0, 1, 0), (66, .getfield 38, 3, 0), (69, .iload 4, 2, 0), (71, .baload, 1, 0), (72, .ifCond .ne 17, 3, 89), (75, .iload_n 2, 1, 0), (76, .iload 5, 2, 0), (78, .ishr, 1, 0), (79, .iconst 1, 1, 0), (80, .iand, 1, 0), (81, .iconst 1, 1, 0), (82, .if_icmp .ne 7, 3, 89), (85, .iconst 1, 1, 0), (86, .goto 4, 3, 90), (89, .iconst 0, 1, 0), (90, .iadd, 1, 0), (91, .istore_n 3, 1, 0), (92, .iinc 4 1, 3, 0), (95, .goto (-90), 3, 5), (98, .iload_n 3, 1, 0), (99, .ireturn, 1, 0)]
def kd_Mo_build : List (Nat × Instr × Nat × Nat) := [(0, .aload_n 0, 1, 0), (1, .invokevirtual 217, 3, 0), (4, .iconst 1, 1, 0), (5, .aload_n 0, 1, 0), (6, .getfield 87, 3, 0), (9, .ishl, 1, 0), (10, .iconst 1, 1, 0), (11, .isub, 1, 0), (12, .istore_n 1, 1, 0), (13, .aload_n 0, 1, 0), (14, .getfield 87, 3, 0), (17, .istore_n 2, 1, 0), (18, .aload_n 0, 1, 0), (19, .iconst 0, 1, 0), (20, .putfield 228, 3, 0), (23, .iload_n 2, 1, 0), (24, .iconst 2, 1, 0), (25, .if_icmp .le 7, 3, 32), (28, .iconst 1, 1, 0), (29, .goto 4, 3, 33), (32, .iconst 0, 1, 0), (33, .istore_n 3, 1, 0), (34, .iload_n 3, 1, 0), (35, .ifCond .eq 111, 3, 146), (38, .iconst (-1), 1, 0), (39, .istore 4, 2, 0), (41, .iconst 0, 1, 0), (42, .istore 5, 2, 0), (44, .iload 5, 2, 0), (46, .aload_n 0, 1, 0), (47, .getfield 87, 3, 0), (50, .if_icmp .ge 39, 3, 89), (53, .iload_n 1, 1, 0), (54, .iload 5, 2, 0), (56, .ishr, 1, 0), (57, .iconst 1, 1, 0), (58, .iand, 1, 0), (59, .iconst 1, 1, 0), (60, .if_icmp .ne 19, 3, 79), (63, .aload_n 0, 1, 0), (64, .iload 5, 2, 0), (66, .iload_n 1, 1, 0), (67, .invokevirtual 231, 3, 0), (70, .iconst 2, 1, 0), (71, .if_icmp .gt 8, 3, 79), (74, .iload 5, 2, 0), (76, .goto 5, 3, 81), (79, .iload 4, 2, 0), (81, .istore 4, 2, 0), (83, .iinc 5 1, 3, 0), (86, .goto (-42), 3, 44), (89, .iload 4, 2, 0), (91, .ifCond .lt 36, 3, 127), (94, .iload_n 1, 1, 0), (95, .iconst 1, 1, 0), (96, .iload 4, 2, 0), (98, .ishl, 1, 0), (99, .iconst (-1), 1, 0), (100, .ixor, 1, 0), (101, .iand, 1, 0), (102, .istore_n 1, 1, 0), (103, .aload_n 0, 1, 0), (104, .getfield 76, 3, 0), (107, .aload_n 0, 1, 0), (108, .getfield 228, 3, 0), (111, .iload 4, 2, 0), (113, .iastore, 1, 0), (114, .aload_n 0, 1, 0), (115, .dup, 1, 0), (116, .getfield 228, 3, 0), (119, .iconst 1, 1, 0), (120, .iadd, 1, 0), (121, .putfield 228, 3, 0), (124, .iinc 2 (-1), 3, 0), (127, .iload 4, 2, 0), (129, .ifCond .lt 12, 3, 141), (132, .iload_n 2, 1, 0), (133, .iconst 2, 1, 0), (134, .if_icmp .le 7, 3, 141), (137, .iconst 1, 1, 0), (138, .goto 4, 3, 142), (141, .iconst 0, 1, 0), (142, .istore_n 3, 1, 0), (143, .goto (-109), 3, 34), (146, .iload_n 1, 1, 0), (147, .ireturn, 1, 0)]
def kd_Mo_order : List (Nat × Instr × Nat × Nat) := [(0, .iload_n 1, 1, 0), (1, .ifCond .ge 6, 3, 7), (4, .bipush (-2), 2, 0), (6, .ireturn, 1, 0), (7, .aload_n 0, 1, 0), (8, .invokevirtual 234, 3, 0), (11, .istore_n 2, 1, 0), (12, .iconst 0, 1, 0), (13, .istore_n 3, 1, 0), (14, .iconst 0, 1, 0), (15, .istore 4, 2, 0), (17, .iload 4, 2, 0), (19, .aload_n 0, 1, 0), (20, .getfield 87, 3, 0), (23, .if_icmp .ge 30, 3, 53), (26, .iload_n 2, 1, 0), (27, .iload 4, 2, 0), (29, .ishr, 1, 0), (30, .iconst 1, 1, 0), (31, .iand, 1, 0), (32, .iconst 1, 1, 0), (33, .if_icmp .ne 14, 3, 47), (36, .iload_n 3, 1, 0), (37, .iload_n 1, 1, 0), (38, .if_icmp .ne 6, 3, 44), (41, .iload 4, 2, 0), (43, .ireturn, 1, 0), (44, .iinc 3 1, 3, 0), (47, .iinc 4 1, 3, 0), (50, .goto (-33), 3, 17), (53, .aload_n 0, 1, 0), (54, .getfield 228, 3, 0), (57, .iconst 1, 1, 0), (58, .isub, 1, 0), (59, .iload_n 1, 1, 0), (60, .iload_n 3, 1, 0), (61, .isub, 1, 0), (62, .isub, 1, 0), (63, .istore 4, 2, 0), (65, .iload 4, 2, 0), (67, .ifCond .lt 13, 3, 80), (70, .aload_n 0, 1, 0), (71, .getfield 76, 3, 0), (74, .iload 4, 2, 0), (76, .iaload, 1, 0), (77, .goto 4, 3, 81), (80, .iconst (-1), 1, 0), (81, .ireturn, 1, 0)]
def kd_Mo_whole : List (Nat × Instr × Nat × Nat) := [(0, .aload_n 0, 1, 0), (1, .invokevirtual 234, 3, 0), (4, .istore_n 1, 1, 0), (5, .aload_n 0, 1, 0), (6, .getfield 87, 3, 0), (9, .aload_n 0, 1, 0), (10, .getfield 228, 3, 0), (13, .isub, 1, 0), (14, .iconst 2, 1, 0), (15, .if_icmp .le 7, 3, 22), (18, .iload_n 1, 1, 0), (19, .goto 4, 3, 23), (22, .iconst 0, 1, 0), (23, .ireturn, 1, 0)]
def kd_Mo_count : List (Nat × Instr × Nat × Nat) := [(0, .iload_n 1, 1, 0), (1, .i2l, 1, 0), (2, .lconst 0, 1, 0), (3, .ldc2_w 108, 3, 0), (6, .invokestatic 83, 3, 0), (9, .ifCond .ne 6, 3, 15), (12, .bipush (-2), 2, 0), (14, .ireturn, 1, 0), (15, .iconst 0, 1, 0), (16, .istore_n 2, 1, 0), (17, .iconst 0, 1, 0), (18, .istore_n 3, 1, 0), (19, .iload_n 3, 1, 0), (20, .aload_n 0, 1, 0), (21, .getfield 99, 3, 0), (24, .if_icmp .ge 26, 3, 50), (27, .iload_n 2, 1, 0), (28, .aload_n 0, 1, 0), (29, .getfield 25, 3, 0), (32, .iload_n 3, 1, 0), (33, .baload, 1, 0), (34, .ifCond .eq 7, 3, 41), (37, .iconst 1, 1, 0), (38, .goto 4, 3, 42), (41, .iconst 0, 1, 0), (42, .iadd, 1, 0), (43, .istore_n 2, 1, 0), (44, .iinc 3 1, 3, 0), (47, .goto (-28), 3, 19), (50, .iload_n 1, 1, 0), (51, .ifCond .ne 10, 3, 61), (54, .aload_n 0, 1, 0), (55, .getfield 87, 3, 0), (58, .goto 28, 3, 86), (61, .iload_n 1, 1, 0), (62, .iconst 1, 1, 0), (63, .if_icmp .ne 10, 3, 73), (66, .aload_n 0, 1, 0), (67, .getfield 99, 3, 0), (70, .goto 16, 3, 86), (73, .iload_n 1, 1, 0), (74, .iconst 2, 1, 0), (75, .if_icmp .ne 7, 3, 82), (78, .iload_n 2, 1, 0), (79, .goto 7, 3, 86), (82, .aload_n 0, 1, 0), (83, .getfield 205, 3, 0), (86, .ireturn, 1, 0)]
def kd_Mo_add : List (Nat × Instr × Nat × Nat) := [(0, .aload_n 0, 1, 0), (1, .ldc2_w 238, 3, 0), (4, .aload_n 0, 1, 0), (5, .getfield 240, 3, 0), (8, .lmul, 1, 0), (9, .lload_n 1, 1, 0), (10, .ladd, 1, 0), (11, .putfield 240, 3, 0), (14, .return_, 1, 0)]
def kd_Mo_addTerms : List (Nat × Instr × Nat × Nat) := [(0, .aload_n 0, 1, 0), (1, .aload_n 0, 1, 0), (2, .getfield 13, 3, 0), (5, .bipush 17, 2, 0), (7, .iload_n 1, 1, 0), (8, .imul, 1, 0), (9, .bipush 16, 2, 0), (11, .iadd, 1, 0), (12, .iaload, 1, 0), (13, .i2l, 1, 0), (14, .invokevirtual 244, 3, 0), (17, .aload_n 0, 1, 0), (18, .aload_n 0, 1, 0), (19, .getfield 16, 3, 0), (22, .iload_n 1, 1, 0), (23, .iaload, 1, 0), (24, .i2l, 1, 0), (25, .invokevirtual 244, 3, 0), (28, .iconst 0, 1, 0), (29, .istore_n 2, 1, 0), (30, .iload_n 2, 1, 0), (31, .aload_n 0, 1, 0), (32, .getfield 16, 3, 0), (35, .iload_n 1, 1, 0), (36, .iaload, 1, 0), (37, .if_icmp .ge 39, 3, 76), (40, .aload_n 0, 1, 0), (41, .aload_n 0, 1, 0), (42, .getfield 19, 3, 0), (45, .iconst 4, 1, 0), (46, .iload_n 1, 1, 0), (47, .imul, 1, 0), (48, .iload_n 2, 1, 0), (49, .iadd, 1, 0), (50, .iaload, 1, 0), (51, .i2l, 1, 0), (52, .invokevirtual 244, 3, 0), (55, .aload_n 0, 1, 0), (56, .aload_n 0, 1, 0), (57, .getfield 22, 3, 0), (60, .iconst 4, 1, 0), (61, .iload_n 1, 1, 0), (62, .imul, 1, 0), (63, .iload_n 2, 1, 0), (64, .iadd, 1, 0), (65, .iaload, 1, 0), (66, .i2l, 1, 0), (67, .invokevirtual 244, 3, 0), (70, .iinc 2 1, 3, 0), (73, .goto (-43), 3, 30), (76, .return_, 1, 0)]
def kd_Mo_digest : List (Nat × Instr × Nat × Nat) := [(0, .aload_n 0, 1, 0), (1, .invokevirtual 144, 3, 0), (4, .aload_n 0, 1, 0), (5, .invokevirtual 248, 3, 0), (8, .istore_n 1, 1, 0), (9, .aload_n 0, 1, 0), (10, .ldc2_w 251, 3, 0), (13, .putfield 240, 3, 0), (16, .iconst 0, 1, 0), (17, .istore_n 2, 1, 0), (18, .iload_n 2, 1, 0), (19, .iconst 4, 1, 0), (20, .if_icmp .ge 19, 3, 39), (23, .aload_n 0, 1, 0), (24, .aload_n 0, 1, 0), (25, .iload_n 2, 1, 0), (26, .invokevirtual 253, 3, 0), (29, .i2l, 1, 0), (30, .invokevirtual 244, 3, 0), (33, .iinc 2 1, 3, 0), (36, .goto (-18), 3, 18), (39, .iconst 0, 1, 0), (40, .istore_n 2, 1, 0), (41, .iload_n 2, 1, 0), (42, .iconst 2, 1, 0), (43, .aload_n 0, 1, 0), (44, .getfield 87, 3, 0), (47, .imul, 1, 0), (48, .if_icmp .ge 20, 3, 68), (51, .aload_n 0, 1, 0), (52, .aload_n 0, 1, 0), (53, .getfield 7, 3, 0), (56, .iload_n 2, 1, 0), (57, .iaload, 1, 0), (58, .i2l, 1, 0), (59, .invokevirtual 244, 3, 0), (62, .iinc 2 1, 3, 0), (65, .goto (-24), 3, 41), (68, .iconst 0, 1, 0), (69, .istore_n 2, 1, 0), (70, .iload_n 2, 1, 0), (71, .aload_n 0, 1, 0), (72, .getfield 99, 3, 0), (75, .if_icmp .ge 25, 3, 100), (78, .aload_n 0, 1, 0), (79, .iload_n 2, 1, 0), (80, .invokevirtual 256, 3, 0), (83, .aload_n 0, 1, 0), (84, .aload_n 0, 1, 0), (85, .getfield 29, 3, 0), (88, .iload_n 2, 1, 0), (89, .iaload, 1, 0), (90, .i2l, 1, 0), (91, .invokevirtual 244, 3, 0), (94, .iinc 2 1, 3, 0), (97, .goto (-27), 3, 70), (100, .aload_n 0, 1, 0), (101, .bipush 20, 2, 0), (103, .invokevirtual 256, 3, 0), (106, .iconst 0, 1, 0), (107, .istore_n 2, 1, 0), (108, .iload_n 2, 1, 0), (109, .aload_n 0, 1, 0), (110, .getfield 205, 3, 0), (113, .if_icmp .ge 49, 3, 162), (116, .aload_n 0, 1, 0), (117, .aload_n 0, 1, 0), (118, .getfield 32, 3, 0), (121, .iload_n 2, 1, 0), (122, .iaload, 1, 0), (123, .i2l, 1, 0), (124, .invokevirtual 244, 3, 0), (127, .aload_n 0, 1, 0), (128, .aload_n 0, 1, 0), (129, .getfield 35, 3, 0), (132, .iload_n 2, 1, 0), (133, .iaload, 1, 0), (134, .i2l, 1, 0), (135, .invokevirtual 244, 3, 0), (138, .aload_n 0, 1, 0), (139, .aload_n 0, 1, 0), (140, .getfield 38, 3, 0), (143, .iload_n 2, 1, 0), (144, .baload, 1, 0), (145, .ifCond .eq 7, 3, 152), (148, .lconst 1, 1, 0), (149, .goto 4, 3, 153), (152, .lconst 0, 1, 0), (153, .invokevirtual 244, 3, 0), (156, .iinc 2 1, 3, 0), (159, .goto (-51), 3, 108), (162, .aload_n 0, 1, 0), (163, .iload_n 1, 1, 0), (164, .i2l, 1, 0), (165, .invokevirtual 244, 3, 0), (168, .iconst 0, 1, 0), (169, .istore_n 2, 1, 0), (170, .iload_n 2, 1, 0), (171, .iconst 3, 1, 0), (172, .if_icmp .ge 19, 3, 191), (175, .aload_n 0, 1, 0), (176, .aload_n 0, 1, 0), (177, .iload_n 2, 1, 0), (178, .invokevirtual 259, 3, 0), (181, .i2l, 1, 0), (182, .invokevirtual 244, 3, 0), (185, .iinc 2 1, 3, 0), (188, .goto (-18), 3, 170), (191, .iconst 0, 1, 0), (192, .istore_n 2, 1, 0), (193, .iload_n 2, 1, 0), (194, .iconst 2, 1, 0), (195, .if_icmp .ge 41, 3, 236), (198, .iconst 0, 1, 0), (199, .istore_n 3, 1, 0), (200, .iload_n 3, 1, 0), (201, .aload_n 0, 1, 0), (202, .iload_n 2, 1, 0), (203, .invokevirtual 193, 3, 0), (206, .if_icmp .ge 24, 3, 230), (209, .aload_n 0, 1, 0), (210, .aload_n 0, 1, 0), (211, .getfield 73, 3, 0), (214, .bipush 6, 2, 0), (216, .iload_n 2, 1, 0), (217, .imul, 1, 0), (218, .iload_n 3, 1, 0), (219, .iadd, 1, 0), (220, .laload, 1, 0), (221, .invokevirtual 244, 3, 0), (224, .iinc 3 1, 3, 0), (227, .goto (-27), 3, 200), (230, .iinc 2 1, 3, 0), (233, .goto (-40), 3, 193), (236, .aload_n 0, 1, 0), (237, .getfield 240, 3, 0), (240, .lreturn, 1, 0)]
def kd_In_bitCount : List (Nat × Instr × Nat × Nat) := [(0, .iload_n 0, 1, 0), (1, .iload_n 0, 1, 0), (2, .iconst 1, 1, 0), (3, .iushr, 1, 0), (4, .ldc_w 265, 3, 0), (7, .iand, 1, 0), (8, .isub, 1, 0), (9, .istore_n 0, 1, 0), (10, .iload_n 0, 1, 0), (11, .ldc_w 266, 3, 0), (14, .iand, 1, 0), (15, .iload_n 0, 1, 0), (16, .iconst 2, 1, 0), (17, .iushr, 1, 0), (18, .ldc_w 266, 3, 0), (21, .iand, 1, 0), (22, .iadd, 1, 0), (23, .istore_n 0, 1, 0), (24, .iload_n 0, 1, 0), (25, .iload_n 0, 1, 0), (26, .iconst 4, 1, 0), (27, .iushr, 1, 0), (28, .iadd, 1, 0), (29, .ldc_w 267, 3, 0), (32, .iand, 1, 0), (33, .istore_n 0, 1, 0), (34, .iload_n 0, 1, 0), (35, .iload_n 0, 1, 0), (36, .bipush 8, 2, 0), (38, .iushr, 1, 0), (39, .iadd, 1, 0), (40, .istore_n 0, 1, 0), (41, .iload_n 0, 1, 0), (42, .iload_n 0, 1, 0), (43, .bipush 16, 2, 0), (45, .iushr, 1, 0), (46, .iadd, 1, 0), (47, .istore_n 0, 1, 0), (48, .iload_n 0, 1, 0), (49, .bipush 63, 2, 0), (51, .iand, 1, 0), (52, .ireturn, 1, 0)]
def kd_La_law : List (Nat × Instr × Nat × Nat) := [(0, .new 7, 3, 0), (3, .dup, 1, 0), (4, .invokespecial 9, 3, 0), (7, .astore_n 1, 1, 0), (8, .new 10, 3, 0), (11, .dup, 1, 0), (12, .invokespecial 12, 3, 0), (15, .astore_n 2, 1, 0), (16, .iconst 0, 1, 0), (17, .istore_n 3, 1, 0), (18, .iload_n 3, 1, 0), (19, .aload_n 0, 1, 0), (20, .arraylength, 1, 0), (21, .iconst 5, 1, 0), (22, .isub, 1, 0), (23, .if_icmp .gt 904, 3, 927), (26, .aload_n 0, 1, 0), (27, .iload_n 3, 1, 0), (28, .iaload, 1, 0), (29, .bipush 31, 2, 0), (31, .iand, 1, 0), (32, .tableswitch 889 0 27 #[128, 161, 204, 227, 270, 319, 342, 365, 388, 411, 434, 467, 480, 503, 516, 569, 592, 625, 658, 681, 704, 727, 760, 793, 816, 839, 852, 875], 128, 0), (160, .aload_n 1, 1, 0), (161, .aload_n 0, 1, 0), (162, .iload_n 3, 1, 0), (163, .iconst 1, 1, 0), (164, .iadd, 1, 0), (165, .iaload, 1, 0), (166, .aload_n 0, 1, 0), (167, .iload_n 3, 1, 0), (168, .iconst 2, 1, 0), (169, .iadd, 1, 0), (170, .iaload, 1, 0), (171, .invokevirtual 13, 3, 0), (174, .aload_n 2, 1, 0), (175, .aload_n 0, 1, 0), (176, .iload_n 3, 1, 0), (177, .iconst 1, 1, 0), (178, .iadd, 1, 0), (179, .iaload, 1, 0), (180, .aload_n 0, 1, 0), (181, .iload_n 3, 1, 0), (182, .iconst 2, 1, 0), (183, .iadd, 1, 0), (184, .iaload, 1, 0), (185, .invokevirtual 17, 3, 0), (188, .if_icmp .eq 733, 3, 921), (191, .iconst 0, 1, 0), (192, .ireturn, 1, 0), (193, .aload_n 1, 1, 0), (194, .aload_n 0, 1, 0), (195, .iload_n 3, 1, 0), (196, .iconst 1, 1, 0), (197, .iadd, 1, 0), (198, .iaload, 1, 0), (199, .aload_n 0, 1, 0), (200, .iload_n 3, 1, 0), (201, .iconst 2, 1, 0), (202, .iadd, 1, 0), (203, .iaload, 1, 0), (204, .aload_n 0, 1, 0), (205, .iload_n 3, 1, 0), (206, .iconst 3, 1, 0), (207, .iadd, 1, 0), (208, .iaload, 1, 0), (209, .invokevirtual 18, 3, 0), (212, .aload_n 2, 1, 0), (213, .aload_n 0, 1, 0), (214, .iload_n 3, 1, 0), (215, .iconst 1, 1, 0), (216, .iadd, 1, 0), (217, .iaload, 1, 0), (218, .aload_n 0, 1, 0), (219, .iload_n 3, 1, 0), (220, .iconst 2, 1, 0), (221, .iadd, 1, 0), (222, .iaload, 1, 0), (223, .aload_n 0, 1, 0), (224, .iload_n 3, 1, 0), (225, .iconst 3, 1, 0), (226, .iadd, 1, 0), (227, .iaload, 1, 0), (228, .invokevirtual 22, 3, 0), (231, .if_icmp .eq 690, 3, 921), (234, .iconst 0, 1, 0), (235, .ireturn, 1, 0), (236, .aload_n 1, 1, 0), (237, .aload_n 0, 1, 0), (238, .iload_n 3, 1, 0), (239, .iconst 1, 1, 0), (240, .iadd, 1, 0), (241, .iaload, 1, 0), (242, .invokevirtual 23, 3, 0), (245, .aload_n 2, 1, 0), (246, .aload_n 0, 1, 0), (247, .iload_n 3, 1, 0), (248, .iconst 1, 1, 0), (249, .iadd, 1, 0), (250, .iaload, 1, 0), (251, .invokevirtual 27, 3, 0), (254, .if_icmp .eq 667, 3, 921), (257, .iconst 0, 1, 0), (258, .ireturn, 1, 0), (259, .aload_n 1, 1, 0), (260, .aload_n 0, 1, 0), (261, .iload_n 3, 1, 0), (262, .iconst 1, 1, 0), (263, .iadd, 1, 0), (264, .iaload, 1, 0), (265, .aload_n 0, 1, 0), (266, .iload_n 3, 1, 0), (267, .iconst 2, 1, 0), (268, .iadd, 1, 0), (269, .iaload, 1, 0), (270, .aload_n 0, 1, 0), (271, .iload_n 3, 1, 0), (272, .iconst 3, 1, 0), (273, .iadd, 1, 0), (274, .iaload, 1, 0), (275, .invokevirtual 28, 3, 0), (278, .aload_n 2, 1, 0), (279, .aload_n 0, 1, 0), (280, .iload_n 3, 1, 0), (281, .iconst 1, 1, 0), (282, .iadd, 1, 0), (283, .iaload, 1, 0), (284, .aload_n 0, 1, 0), (285, .iload_n 3, 1, 0), (286, .iconst 2, 1, 0), (287, .iadd, 1, 0), (288, .iaload, 1, 0), (289, .aload_n 0, 1, 0), (290, .iload_n 3, 1, 0), (291, .iconst 3, 1, 0), (292, .iadd, 1, 0), (293, .iaload, 1, 0), (294, .invokevirtual 31, 3, 0), (297, .if_icmp .eq 624, 3, 921), (300, .iconst 0, 1, 0), (301, .ireturn, 1, 0), (302, .aload_n 1, 1, 0), (303, .aload_n 0, 1, 0), (304, .iload_n 3, 1, 0), (305, .iconst 1, 1, 0), (306, .iadd, 1, 0), (307, .iaload, 1, 0), (308, .aload_n 0, 1, 0), (309, .iload_n 3, 1, 0), (310, .iconst 2, 1, 0), (311, .iadd, 1, 0), (312, .iaload, 1, 0), (313, .ifCond .eq 7, 3, 320), (316, .iconst 1, 1, 0), (317, .goto 4, 3, 321), (320, .iconst 0, 1, 0), (321, .invokevirtual 32, 3, 0), (324, .aload_n 2, 1, 0), (325, .aload_n 0, 1, 0), (326, .iload_n 3, 1, 0), (327, .iconst 1, 1, 0), (328, .iadd, 1, 0), (329, .iaload, 1, 0), (330, .aload_n 0, 1, 0), (331, .iload_n 3, 1, 0), (332, .iconst 2, 1, 0), (333, .iadd, 1, 0), (334, .iaload, 1, 0), (335, .ifCond .eq 7, 3, 342), (338, .iconst 1, 1, 0), (339, .goto 4, 3, 343), (342, .iconst 0, 1, 0), (343, .invokevirtual 36, 3, 0), (346, .if_icmp .eq 575, 3, 921), (349, .iconst 0, 1, 0), (350, .ireturn, 1, 0), (351, .aload_n 1, 1, 0), (352, .aload_n 0, 1, 0), (353, .iload_n 3, 1, 0), (354, .iconst 1, 1, 0), (355, .iadd, 1, 0), (356, .iaload, 1, 0), (357, .invokevirtual 37, 3, 0), (360, .aload_n 2, 1, 0), (361, .aload_n 0, 1, 0), (362, .iload_n 3, 1, 0), (363, .iconst 1, 1, 0), (364, .iadd, 1, 0), (365, .iaload, 1, 0), (366, .invokevirtual 40, 3, 0), (369, .if_icmp .eq 552, 3, 921), (372, .iconst 0, 1, 0), (373, .ireturn, 1, 0), (374, .aload_n 1, 1, 0), (375, .aload_n 0, 1, 0), (376, .iload_n 3, 1, 0), (377, .iconst 1, 1, 0), (378, .iadd, 1, 0), (379, .iaload, 1, 0), (380, .invokevirtual 41, 3, 0), (383, .aload_n 2, 1, 0), (384, .aload_n 0, 1, 0), (385, .iload_n 3, 1, 0), (386, .iconst 1, 1, 0), (387, .iadd, 1, 0), (388, .iaload, 1, 0), (389, .invokevirtual 44, 3, 0), (392, .if_icmp .eq 529, 3, 921), (395, .iconst 0, 1, 0), (396, .ireturn, 1, 0), (397, .aload_n 1, 1, 0), (398, .aload_n 0, 1, 0), (399, .iload_n 3, 1, 0), (400, .iconst 1, 1, 0), (401, .iadd, 1, 0), (402, .iaload, 1, 0), (403, .invokevirtual 45, 3, 0), (406, .aload_n 2, 1, 0), (407, .aload_n 0, 1, 0), (408, .iload_n 3, 1, 0), (409, .iconst 1, 1, 0), (410, .iadd, 1, 0), (411, .iaload, 1, 0), (412, .invokevirtual 48, 3, 0), (415, .if_icmp .eq 506, 3, 921), (418, .iconst 0, 1, 0), (419, .ireturn, 1, 0), (420, .aload_n 1, 1, 0), (421, .aload_n 0, 1, 0), (422, .iload_n 3, 1, 0), (423, .iconst 1, 1, 0), (424, .iadd, 1, 0), (425, .iaload, 1, 0), (426, .invokevirtual 49, 3, 0), (429, .aload_n 2, 1, 0), (430, .aload_n 0, 1, 0), (431, .iload_n 3, 1, 0), (432, .iconst 1, 1, 0), (433, .iadd, 1, 0), (434, .iaload, 1, 0), (435, .invokevirtual 52, 3, 0), (438, .if_icmp .eq 483, 3, 921), (441, .iconst 0, 1, 0), (442, .ireturn, 1, 0), (443, .aload_n 1, 1, 0), (444, .aload_n 0, 1, 0), (445, .iload_n 3, 1, 0), (446, .iconst 1, 1, 0), (447, .iadd, 1, 0), (448, .iaload, 1, 0), (449, .invokevirtual 53, 3, 0), (452, .aload_n 2, 1, 0), (453, .aload_n 0, 1, 0), (454, .iload_n 3, 1, 0), (455, .iconst 1, 1, 0), (456, .iadd, 1, 0), (457, .iaload, 1, 0), (458, .invokevirtual 56, 3, 0), (461, .if_icmp .eq 460, 3, 921), (464, .iconst 0, 1, 0), (465, .ireturn, 1, 0), (466, .aload_n 1, 1, 0), (467, .aload_n 0, 1, 0), (468, .iload_n 3, 1, 0), (469, .iconst 1, 1, 0), (470, .iadd, 1, 0), (471, .iaload, 1, 0), (472, .aload_n 0, 1, 0), (473, .iload_n 3, 1, 0), (474, .iconst 2, 1, 0), (475, .iadd, 1, 0), (476, .iaload, 1, 0), (477, .invokevirtual 57, 3, 0), (480, .aload_n 2, 1, 0), (481, .aload_n 0, 1, 0), (482, .iload_n 3, 1, 0), (483, .iconst 1, 1, 0), (484, .iadd, 1, 0), (485, .iaload, 1, 0), (486, .aload_n 0, 1, 0), (487, .iload_n 3, 1, 0), (488, .iconst 2, 1, 0), (489, .iadd, 1, 0), (490, .iaload, 1, 0), (491, .invokevirtual 60, 3, 0), (494, .if_icmp .eq 427, 3, 921), (497, .iconst 0, 1, 0), (498, .ireturn, 1, 0), (499, .aload_n 1, 1, 0), (500, .invokevirtual 61, 3, 0), (503, .aload_n 2, 1, 0), (504, .invokevirtual 65, 3, 0), (507, .if_icmp .eq 414, 3, 921), (510, .iconst 0, 1, 0), (511, .ireturn, 1, 0), (512, .aload_n 1, 1, 0), (513, .aload_n 0, 1, 0), (514, .iload_n 3, 1, 0), (515, .iconst 1, 1, 0), (516, .iadd, 1, 0), (517, .iaload, 1, 0), (518, .invokevirtual 66, 3, 0), (521, .aload_n 2, 1, 0), (522, .aload_n 0, 1, 0), (523, .iload_n 3, 1, 0), (524, .iconst 1, 1, 0), (525, .iadd, 1, 0), (526, .iaload, 1, 0), (527, .invokevirtual 69, 3, 0), (530, .if_icmp .eq 391, 3, 921), (533, .iconst 0, 1, 0), (534, .ireturn, 1, 0), (535, .aload_n 1, 1, 0), (536, .invokevirtual 70, 3, 0), (539, .aload_n 2, 1, 0), (540, .invokevirtual 73, 3, 0), (543, .if_icmp .eq 378, 3, 921), (546, .iconst 0, 1, 0), (547, .ireturn, 1, 0), (548, .aload_n 1, 1, 0), (549, .aload_n 0, 1, 0), (550, .iload_n 3, 1, 0), (551, .iconst 1, 1, 0), (552, .iadd, 1, 0), (553, .iaload, 1, 0), (554, .aload_n 0, 1, 0), (555, .iload_n 3, 1, 0), (556, .iconst 2, 1, 0), (557, .iadd, 1, 0), (558, .iaload, 1, 0), (559, .aload_n 0, 1, 0), (560, .iload_n 3, 1, 0), (561, .iconst 3, 1, 0), (562, .iadd, 1, 0), (563, .iaload, 1, 0), (564, .aload_n 0, 1, 0), (565, .iload_n 3, 1, 0), (566, .iconst 4, 1, 0), (567, .iadd, 1, 0), (568, .iaload, 1, 0), (569, .invokevirtual 74, 3, 0), (572, .aload_n 2, 1, 0), (573, .aload_n 0, 1, 0), (574, .iload_n 3, 1, 0), (575, .iconst 1, 1, 0), (576, .iadd, 1, 0), (577, .iaload, 1, 0), (578, .aload_n 0, 1, 0), (579, .iload_n 3, 1, 0), (580, .iconst 2, 1, 0), (581, .iadd, 1, 0), (582, .iaload, 1, 0), (583, .aload_n 0, 1, 0), (584, .iload_n 3, 1, 0), (585, .iconst 3, 1, 0), (586, .iadd, 1, 0), (587, .iaload, 1, 0), (588, .aload_n 0, 1, 0), (589, .iload_n 3, 1, 0), (590, .iconst 4, 1, 0), (591, .iadd, 1, 0), (592, .iaload, 1, 0), (593, .invokevirtual 78, 3, 0), (596, .if_icmp .eq 325, 3, 921), (599, .iconst 0, 1, 0), (600, .ireturn, 1, 0), (601, .aload_n 1, 1, 0), (602, .aload_n 0, 1, 0), (603, .iload_n 3, 1, 0), (604, .iconst 1, 1, 0), (605, .iadd, 1, 0), (606, .iaload, 1, 0), (607, .invokevirtual 79, 3, 0), (610, .aload_n 2, 1, 0), (611, .aload_n 0, 1, 0), (612, .iload_n 3, 1, 0), (613, .iconst 1, 1, 0), (614, .iadd, 1, 0), (615, .iaload, 1, 0), (616, .invokevirtual 82, 3, 0), (619, .if_icmp .eq 302, 3, 921), (622, .iconst 0, 1, 0), (623, .ireturn, 1, 0), (624, .aload_n 1, 1, 0), (625, .aload_n 0, 1, 0), (626, .iload_n 3, 1, 0), (627, .iconst 1, 1, 0), (628, .iadd, 1, 0), (629, .iaload, 1, 0), (630, .aload_n 0, 1, 0), (631, .iload_n 3, 1, 0), (632, .iconst 2, 1, 0), (633, .iadd, 1, 0), (634, .iaload, 1, 0), (635, .invokevirtual 83, 3, 0), (638, .aload_n 2, 1, 0), (639, .aload_n 0, 1, 0), (640, .iload_n 3, 1, 0), (641, .iconst 1, 1, 0), (642, .iadd, 1, 0), (643, .iaload, 1, 0), (644, .aload_n 0, 1, 0), (645, .iload_n 3, 1, 0), (646, .iconst 2, 1, 0), (647, .iadd, 1, 0), (648, .iaload, 1, 0), (649, .invokevirtual 86, 3, 0), (652, .if_icmp .eq 269, 3, 921), (655, .iconst 0, 1, 0), (656, .ireturn, 1, 0), (657, .aload_n 1, 1, 0), (658, .aload_n 0, 1, 0), (659, .iload_n 3, 1, 0), (660, .iconst 1, 1, 0), (661, .iadd, 1, 0), (662, .iaload, 1, 0), (663, .aload_n 0, 1, 0), (664, .iload_n 3, 1, 0), (665, .iconst 2, 1, 0), (666, .iadd, 1, 0), (667, .iaload, 1, 0), (668, .invokevirtual 87, 3, 0), (671, .aload_n 2, 1, 0), (672, .aload_n 0, 1, 0), (673, .iload_n 3, 1, 0), (674, .iconst 1, 1, 0), (675, .iadd, 1, 0), (676, .iaload, 1, 0), (677, .aload_n 0, 1, 0), (678, .iload_n 3, 1, 0), (679, .iconst 2, 1, 0), (680, .iadd, 1, 0), (681, .iaload, 1, 0), (682, .invokevirtual 90, 3, 0), (685, .if_icmp .eq 236, 3, 921), (688, .iconst 0, 1, 0), (689, .ireturn, 1, 0), (690, .aload_n 1, 1, 0), (691, .aload_n 0, 1, 0), (692, .iload_n 3, 1, 0), (693, .iconst 1, 1, 0), (694, .iadd, 1, 0), (695, .iaload, 1, 0), (696, .invokevirtual 91, 3, 0), (699, .aload_n 2, 1, 0), (700, .aload_n 0, 1, 0), (701, .iload_n 3, 1, 0), (702, .iconst 1, 1, 0), (703, .iadd, 1, 0), (704, .iaload, 1, 0), (705, .invokevirtual 94, 3, 0), (708, .if_icmp .eq 213, 3, 921), (711, .iconst 0, 1, 0), (712, .ireturn, 1, 0), (713, .aload_n 1, 1, 0), (714, .aload_n 0, 1, 0), (715, .iload_n 3, 1, 0), (716, .iconst 1, 1, 0), (717, .iadd, 1, 0), (718, .iaload, 1, 0), (719, .invokevirtual 95, 3, 0), (722, .aload_n 2, 1, 0), (723, .aload_n 0, 1, 0), (724, .iload_n 3, 1, 0), (725, .iconst 1, 1, 0), (726, .iadd, 1, 0), (727, .iaload, 1, 0), (728, .invokevirtual 98, 3, 0), (731, .if_icmp .eq 190, 3, 921), (734, .iconst 0, 1, 0), (735, .ireturn, 1, 0), (736, .aload_n 1, 1, 0), (737, .aload_n 0, 1, 0), (738, .iload_n 3, 1, 0), (739, .iconst 1, 1, 0), (740, .iadd, 1, 0), (741, .iaload, 1, 0), (742, .invokevirtual 99, 3, 0), (745, .aload_n 2, 1, 0), (746, .aload_n 0, 1, 0), (747, .iload_n 3, 1, 0), (748, .iconst 1, 1, 0), (749, .iadd, 1, 0), (750, .iaload, 1, 0), (751, .invokevirtual 102, 3, 0), (754, .if_icmp .eq 167, 3, 921), (757, .iconst 0, 1, 0), (758, .ireturn, 1, 0), (759, .aload_n 1, 1, 0), (760, .aload_n 0, 1, 0), (761, .iload_n 3, 1, 0), (762, .iconst 1, 1, 0), (763, .iadd, 1, 0), (764, .iaload, 1, 0), (765, .aload_n 0, 1, 0), (766, .iload_n 3, 1, 0), (767, .iconst 2, 1, 0), (768, .iadd, 1, 0), (769, .iaload, 1, 0), (770, .invokevirtual 103, 3, 0), (773, .aload_n 2, 1, 0), (774, .aload_n 0, 1, 0), (775, .iload_n 3, 1, 0), (776, .iconst 1, 1, 0), (777, .iadd, 1, 0), (778, .iaload, 1, 0), (779, .aload_n 0, 1, 0), (780, .iload_n 3, 1, 0), (781, .iconst 2, 1, 0), (782, .iadd, 1, 0), (783, .iaload, 1, 0), (784, .invokevirtual 106, 3, 0), (787, .if_icmp .eq 134, 3, 921), (790, .iconst 0, 1, 0), (791, .ireturn, 1, 0), (792, .aload_n 1, 1, 0), (793, .aload_n 0, 1, 0), (794, .iload_n 3, 1, 0), (795, .iconst 1, 1, 0), (796, .iadd, 1, 0), (797, .iaload, 1, 0), (798, .aload_n 0, 1, 0), (799, .iload_n 3, 1, 0), (800, .iconst 2, 1, 0), (801, .iadd, 1, 0), (802, .iaload, 1, 0), (803, .invokevirtual 107, 3, 0), (806, .aload_n 2, 1, 0), (807, .aload_n 0, 1, 0), (808, .iload_n 3, 1, 0), (809, .iconst 1, 1, 0), (810, .iadd, 1, 0), (811, .iaload, 1, 0), (812, .aload_n 0, 1, 0), (813, .iload_n 3, 1, 0), (814, .iconst 2, 1, 0), (815, .iadd, 1, 0), (816, .iaload, 1, 0), (817, .invokevirtual 110, 3, 0), (820, .if_icmp .eq 101, 3, 921), (823, .iconst 0, 1, 0), (824, .ireturn, 1, 0), (825, .aload_n 1, 1, 0), (826, .aload_n 0, 1, 0), (827, .iload_n 3, 1, 0), (828, .iconst 1, 1, 0), (829, .iadd, 1, 0), (830, .iaload, 1, 0), (831, .invokevirtual 111, 3, 0), (834, .aload_n 2, 1, 0), (835, .aload_n 0, 1, 0), (836, .iload_n 3, 1, 0), (837, .iconst 1, 1, 0), (838, .iadd, 1, 0), (839, .iaload, 1, 0), (840, .invokevirtual 114, 3, 0), (843, .if_icmp .eq 78, 3, 921), (846, .iconst 0, 1, 0), (847, .ireturn, 1, 0), (848, .aload_n 1, 1, 0), (849, .aload_n 0, 1, 0), (850, .iload_n 3, 1, 0), (851, .iconst 1, 1, 0), (852, .iadd, 1, 0), (853, .iaload, 1, 0), (854, .invokevirtual 115, 3, 0), (857, .aload_n 2, 1, 0), (858, .aload_n 0, 1, 0), (859, .iload_n 3, 1, 0), (860, .iconst 1, 1, 0), (861, .iadd, 1, 0), (862, .iaload, 1, 0), (863, .invokevirtual 118, 3, 0), (866, .if_icmp .eq 55, 3, 921), (869, .iconst 0, 1, 0), (870, .ireturn, 1, 0), (871, .aload_n 1, 1, 0), (872, .invokevirtual 119, 3, 0), (875, .aload_n 2, 1, 0), (876, .invokevirtual 122, 3, 0), (879, .if_icmp .eq 42, 3, 921), (882, .iconst 0, 1, 0), (883, .ireturn, 1, 0), (884, .aload_n 1, 1, 0), (885, .aload_n 0, 1, 0), (886, .iload_n 3, 1, 0), (887, .iconst 1, 1, 0), (888, .iadd, 1, 0), (889, .iaload, 1, 0), (890, .invokevirtual 123, 3, 0), (893, .aload_n 2, 1, 0), (894, .aload_n 0, 1, 0), (895, .iload_n 3, 1, 0), (896, .iconst 1, 1, 0), (897, .iadd, 1, 0), (898, .iaload, 1, 0), (899, .invokevirtual 126, 3, 0), (902, .if_icmp .eq 19, 3, 921), (905, .iconst 0, 1, 0), (906, .ireturn, 1, 0), (907, .aload_n 1, 1, 0), (908, .invokevirtual 127, 3, 0), (911, .aload_n 2, 1, 0), (912, .invokevirtual 131, 3, 0), (915, .lcmp, 1, 0), (916, .ifCond .eq 5, 3, 921), (919, .iconst 0, 1, 0), (920, .ireturn, 1, 0), (921, .iinc 3 5, 3, 0), (924, .goto (-906), 3, 18), (927, .iconst 1, 1, 0), (928, .ireturn, 1, 0)]
def mm_kd : List (List (Nat × Instr × Nat × Nat)) := [kd_Ba_init, kd_Ba_clear, kd_Ba_add, kd_Ba_aimAt, kd_Ba_aimAtStrain, kd_Ba_fillTable, kd_Ba_dot, kd_Ba_settle, kd_Ba_clearTable, kd_Ba_fillWork, kd_Ba_findRow, kd_Ba_swapRows, kd_Ba_clearBelow, kd_Ck_remainder, kd_Ck_inverse, kd_Ck_addTimes, kd_Fr_init, kd_Fr_become, kd_Fr_halveBoth, kd_Fr_findDivisor, kd_Fr_digestOnto, kd_Fm_init, kd_Fm_pairOf, kd_Fm_endsOf, kd_Fm_isInside, kd_Fm_hasBar, kd_Fm_add, kd_Fm_findTightSets, kd_Fm_newInside, kd_Fm_keeps, kd_Fm_ringOf, kd_Fm_build, kd_Fm_findGoing, kd_Fm_newAt, kd_Fm_digestOnto, kd_Jo_init, kd_Jo_join, kd_Jo_findDigits, kd_Ju_init, kd_Ju_forgetFrom, kd_Ju_judgeUpTo, kd_Ju_judgeOne, kd_Ju_howMany, kd_Ju_weigh, kd_Ju_partsSeen, kd_Ju_adopt, kd_Ju_shrinkTo, kd_Li_clear, kd_Li_used, kd_Li_compare, kd_Li_timesAndAdd, kd_Li_subtract, kd_Li_halve, kd_Li_makeOdd, kd_Li_divideByOdd, kd_Li_inverseOfOdd, kd_Su_init, kd_Su_restart, kd_Su_timesOf, kd_Su_put, kd_Su_digestOnto, kd_Wi_init, kd_Wi_isBlind, kd_Wi_look, kd_Wi_load, kd_Wi_findLead, kd_Wi_adopt, kd_Wi_keepRow, kd_Wi_shrinkTo, kd_Wi_sees, kd_DT_init, kd_DT_point, kd_DT_rough, kd_DT_telling, kd_DT_term, kd_DT_takeOff, kd_DT_sort, kd_DT_madeOf, kd_DT_tellings, kd_DT_fixed, kd_DT_question, kd_DT_ask, kd_DT_holds, kd_DT_nearest, kd_DT_strain, kd_DT_drag, kd_DT_sign, kd_DT_limb, kd_DT_bar, kd_DT_sortOf, kd_DT_bars, kd_DT_round, kd_DT_kept, kd_DT_piece, kd_DT_fixes, kd_DT_order, kd_DT_whole, kd_DT_count, kd_DT_digest, kd_DT_isWithin, kd_DT_isPlace, kd_DT_isTotal, kd_DT_isPoint, kd_DT_isPair, kd_DT_isNumber, kd_DT_isTelling, kd_DT_isBar, kd_DT_putRough, kd_DT_putTerm, kd_DT_howManyOff, kd_DT_gatherHeld, kd_DT_tellByHand, kd_DT_findNearest, kd_Mo_init, kd_Mo_in, kd_Mo_point, kd_Mo_isPoint, kd_Mo_rough, kd_Mo_clearRow, kd_Mo_telling, kd_Mo_isTelling, kd_Mo_termOf, kd_Mo_term, kd_Mo_takeOff, kd_Mo_power, kd_Mo_rest, kd_Mo_rankBy, kd_Mo_bringDown, kd_Mo_rank, kd_Mo_against, kd_Mo_judge, kd_Mo_sort, kd_Mo_madeOf, kd_Mo_howMany, kd_Mo_tellings, kd_Mo_solve, kd_Mo_clearOut, kd_Mo_off, kd_Mo_place, kd_Mo_zero, kd_Mo_copy, kd_Mo_timesAnd, kd_Mo_compare, kd_Mo_less, kd_Mo_limbs, kd_Mo_putTogether, kd_Mo_divide, kd_Mo_reduce, kd_Mo_fixed, kd_Mo_question, kd_Mo_ask, kd_Mo_holds, kd_Mo_nearest, kd_Mo_strain, kd_Mo_drag, kd_Mo_sign, kd_Mo_limb, kd_Mo_barOf, kd_Mo_bar, kd_Mo_isIndependent, kd_Mo_countBars, kd_Mo_sortOf, kd_Mo_bars, kd_Mo_round, kd_Mo_isKept, kd_Mo_isPair, kd_Mo_kept, kd_Mo_piece, kd_Mo_fixes, kd_Mo_barsAt, kd_Mo_build, kd_Mo_order, kd_Mo_whole, kd_Mo_count, kd_Mo_add, kd_Mo_addTerms, kd_Mo_digest, kd_In_bitCount, kd_La_law]
end
section
/-! THE MINI-MACHINE: the program over places (0: the script, 1: PRIMES, from 2 on: what is made, as it comes) -/
/-- the heap: ints (fields and rows), longs, references, the kind of a place (0 .. 8 an object's class; 9 int[], 10 long[], 11 boolean[], 12 Sum[], 13 Witness[], 14 int[][], 15 long[][]; 20 the script, 21 PRIMES; 99 none), the length of a row, how many places there are -/
abbrev MH : Type := (Nat → Nat → Int32) × (Nat → Nat → Int64) × (Nat → Nat → Option Nat) × (Nat → Nat) × (Nat → Nat) × Nat
abbrev hI (h : MH) : Nat → Nat → Int32 := h.1
abbrev hJ (h : MH) : Nat → Nat → Int64 := h.2.1
abbrev hR (h : MH) : Nat → Nat → Option Nat := h.2.2.1
abbrev hK (h : MH) : Nat → Nat := h.2.2.2.1
abbrev hL (h : MH) : Nat → Nat := h.2.2.2.2.1
abbrev hN (h : MH) : Nat := h.2.2.2.2.2
def mm_up {α : Type} (f : Nat → Nat → α) (a k : Nat) (v : α) : Nat → Nat → α := fun b j => if b = a ∧ j = k then v else f b j
def mm_row {α : Type} (f : Nat → Nat → α) (a : Nat) (g : Nat → α) : Nat → Nat → α := fun b j => if b = a then g j else f b j
def mm_u1 {α : Type} (f : Nat → α) (a : Nat) (v : α) : Nat → α := fun b => if b = a then v else f b
abbrev putI (h : MH) (a k : Nat) (v : Int32) : MH := (mm_up (hI h) a k v, hJ h, hR h, hK h, hL h, hN h)
abbrev putJ (h : MH) (a k : Nat) (v : Int64) : MH := (hI h, mm_up (hJ h) a k v, hR h, hK h, hL h, hN h)
abbrev putR (h : MH) (a k : Nat) (v : Option Nat) : MH := (hI h, hJ h, mm_up (hR h) a k v, hK h, hL h, hN h)
abbrev rowJ (h : MH) (a : Nat) (g : Nat → Int64) : MH := (hI h, mm_row (hJ h) a g, hR h, hK h, hL h, hN h)
/-- a new place: all 0, all null -/
def mm_mk (h : MH) (kind len : Nat) : MH := (mm_row (hI h) (hN h) (fun _ => 0), mm_row (hJ h) (hN h) (fun _ => 0), mm_row (hR h) (hN h) (fun _ => none), mm_u1 (hK h) (hN h) kind, mm_u1 (hL h) (hN h) len, hN h + 1)
/-- n new places, one behind the other -/
def mm_mks (h : MH) (kind len : Nat) : Nat → MH
  | 0 => h
  | n + 1 => mm_mk (mm_mks h kind len n) kind len
abbrev ML : Type := List (Option Value)
def mm_rv (r : Option Nat) : Value := match r with
  | none => .null
  | some q => .ref q
def mm_st1 (L : ML) (i : Nat) (v : Value) : ML := match i with
  | 0 => L.set 0 (some v)
  | j + 1 => match L[j]? with
    | some (some w) => bif Nat.beq w.category 2 then (L.set j none).set (j + 1) (some v) else L.set (j + 1) (some v)
    | _ => L.set (j + 1) (some v)
def mm_st2 (L : ML) (i : Nat) (v : Value) : ML := (mm_st1 L i v).set (i + 1) none
def mm_lk {α : Type} (l : List (Nat × α)) (i : Nat) : Option α := match l with
  | [] => none
  | (j, a) :: r => bif Nat.beq j i then some a else mm_lk r i
abbrev MI : Type := Nat × Nat × Nat × Nat × Nat × Nat × Nat × Nat × Nat
def mm_of (mid : Nat) : MI := mm_inf.getD mid (0, 0, 0, 0, 0, 0, 0, 0, 0)
abbrev mi_c (q : MI) : Nat := q.1
abbrev mi_n (q : MI) : Nat := q.2.1
abbrev mi_s (q : MI) : Nat := q.2.2.1
abbrev mi_r (q : MI) : Nat := q.2.2.2.1
abbrev mi_l (q : MI) : Nat := q.2.2.2.2.1
abbrev mi_f (q : MI) : Nat := q.2.2.2.2.2.1
abbrev mi_w (q : MI) : Nat := q.2.2.2.2.2.2.1
abbrev mi_mc (q : MI) : Nat := q.2.2.2.2.2.2.2.1
abbrev mi_ms (q : MI) : Nat := q.2.2.2.2.2.2.2.2
def mm_fld (own idx : Nat) : Option (Nat × Nat) := mm_lk (mm_fl.getD own []) idx
def mm_mth (own idx : Nat) : Option Nat := mm_lk (mm_ml.getD own []) idx
def mm_new (own idx : Nat) : Option Nat := mm_lk (mm_nl.getD own []) idx
def mm_cI (own idx : Nat) : Option Int32 := mm_lk (mm_cs.getD own []) idx
def mm_cJ (own idx : Nat) : Option Int64 := mm_lk (mm_cl.getD own []) idx
def mm_ty (ci k : Nat) : Nat := (mm_ft.getD ci []).getD k 9
def mm_isF (ci k : Nat) : Bool := (mm_fin.getD ci []).getD k true
def mm_cN (ci : Nat) : Nat := (mm_ft.getD ci []).length
def mm_fet (mid pc : Nat) : Option (Instr × Nat × Nat) := mm_lk (mm_kd.getD mid []) pc
/-- the methods that are constructors -/
def mm_ini (mid : Nat) : Bool := Nat.blt 0 (mi_mc (mm_of mid)) && Nat.blt (mi_mc (mm_of mid)) 600000
abbrev MS : Type := Nat × ML × List Value × MH × Nat × Nat
abbrev MR : Type := Option Value × MH
abbrev MC : Type := Nat × List Value × MS
abbrev MO : Type := Option (MS ⊕ MR ⊕ MC)
def mm_nx (pc : Nat) (L : ML) (st : List Value) (h : MH) (cu su : Nat) : MO := some (.inl (pc, L, st, h, cu, su))
def mm_in (x : Int32) (n : Nat) : Bool := !(decide (x < 0)) && Nat.blt x.toNatClampNeg n
/-- a field's value -/
def mm_fv (h : MH) (a ci k : Nat) : Value := match mm_ty ci k with
  | 0 => .int (hI h a k)
  | 1 => .int (hI h a k)
  | 2 => .long (hJ h a k)
  | _ => mm_rv (hR h a k)
def mm_i2 (i : Instr) (x y : Int32) : Option Int32 := match i with
  | .iadd => some (x + y)
  | .isub => some (x - y)
  | .imul => some (x * y)
  | .iand => some (x &&& y)
  | .ior => some (x ||| y)
  | .ixor => some (x ^^^ y)
  | .ishl => some (x <<< (y &&& 31))
  | .ishr => some (x >>> (y &&& 31))
  | .iushr => some (x.toUInt32 >>> (y.toUInt32 &&& Int32.toUInt32 31)).toInt32
  | .idiv => if y = 0 then none else some (x / y)
  | .irem => if y = 0 then none else some (x - x / y * y)
  | _ => none
def mm_l2 (i : Instr) (x y : Int64) : Option Int64 := match i with
  | .ladd => some (x + y)
  | .lsub => some (x - y)
  | .lmul => some (x * y)
  | .land => some (x &&& y)
  | .lor => some (x ||| y)
  | .ldiv => if y = 0 then none else some (x / y)
  | .lrem => if y = 0 then none else some (x - x / y * y)
  | _ => none
def mm_ic (c : ClassFile.Cond) (x y : Int32) : Bool := match c with
  | .eq => decide (x = y)
  | .ne => decide (¬ x = y)
  | .lt => decide (x < y)
  | .ge => decide (y ≤ x)
  | .gt => decide (y < x)
  | .le => decide (x ≤ y)
def mm_cat (st : List Value) : Nat := (st.map fun v => v.category).sum
/-- a call of mid2 from mid fits mid's room -/
def mm_fit (q q2 : MI) (cu su : Nat) (r : List Value) : Bool := Nat.ble (mi_f q2 + 1) (mi_f q) && Nat.ble (8 + (mi_l q2 + 11) + mi_w q2) (mi_w q) && Nat.ble (mm_cat r) 8 && Nat.ble (cu + mi_mc q2) (mi_mc q) && Nat.ble (su + mi_ms q2) (mi_ms q)
def mm_inv (mid own idx pc : Nat) (virt : Bool) (L : ML) (st : List Value) (h : MH) (cu su : Nat) : MO := match mm_mth own idx with
  | none => none
  | some 900 => match st with
    | .ref _ :: r => if virt = true ∧ Nat.ble 1 (mi_f (mm_of mid)) = true ∧ Nat.ble (mm_cat r + 12) (mi_w (mm_of mid)) = true then mm_nx (pc + 3) L r h cu su else none
    | _ => none
  | some 901 => match st with
    | .int n :: .int dp :: .ref a :: .int sp :: .ref b :: r => if virt = false ∧ hK h a = 10 ∧ hK h b = 10 ∧ sp = 0 ∧ dp = 0 ∧ ¬ n < 0 ∧ n.toNatClampNeg ≤ hL h a ∧ n.toNatClampNeg ≤ hL h b ∧ Nat.ble 1 (mi_f (mm_of mid)) = true ∧ Nat.ble (mm_cat r + 45) (mi_w (mm_of mid)) = true then mm_nx (pc + 3) L r (rowJ h a (fun j => if j < n.toNatClampNeg then hJ h b j else hJ h a j)) cu su else none
    | _ => none
  | some 902 => match st with
    | .int y :: .int x :: r => if virt = false ∧ Nat.ble 1 (mi_f (mm_of mid)) = true ∧ Nat.ble (mm_cat r + 13) (mi_w (mm_of mid)) = true then mm_nx (pc + 3) L (.int (if y < x then y else x) :: r) h cu su else none
    | _ => none
  | some m2 => bif Nat.beq (mi_s (mm_of m2)) 1
    then (if virt = false ∧ mi_n (mm_of m2) ≤ st.length ∧ mm_fit (mm_of mid) (mm_of m2) cu su (st.drop (mi_n (mm_of m2))) = true then some (.inr (.inr (m2, (st.take (mi_n (mm_of m2))).reverse, (pc + 3, L, st.drop (mi_n (mm_of m2)), h, cu + mi_mc (mm_of m2), su + mi_ms (mm_of m2))))) else none)
    else (match st.drop (mi_n (mm_of m2)) with
      | .ref b :: r => if virt = true ∧ hK h b = mi_c (mm_of m2) ∧ mm_fit (mm_of mid) (mm_of m2) cu su r = true then some (.inr (.inr (m2, .ref b :: (st.take (mi_n (mm_of m2))).reverse, (pc + 3, L, r, h, cu + mi_mc (mm_of m2), su + mi_ms (mm_of m2))))) else none
      | _ => none)
/-- one instruction -/
def mm_stp (mid : Nat) (i : Instr) (len tgt pc : Nat) (L : ML) (st : List Value) (h : MH) (cu su : Nat) : MO := match i with
  | .iload_n k => match L.getD k none with
    | some (.int x) => mm_nx (pc + 1) L (.int x :: st) h cu su
    | _ => none
  | .iload k => match L.getD k none with
    | some (.int x) => mm_nx (pc + 2) L (.int x :: st) h cu su
    | _ => none
  | .lload_n k => match L.getD k none with
    | some (.long x) => mm_nx (pc + 1) L (.long x :: st) h cu su
    | _ => none
  | .lload k => match L.getD k none with
    | some (.long x) => mm_nx (pc + 2) L (.long x :: st) h cu su
    | _ => none
  | .aload_n k => match L.getD k none with
    | some (.ref x) => mm_nx (pc + 1) L (.ref x :: st) h cu su
    | _ => none
  | .aload k => match L.getD k none with
    | some (.ref x) => mm_nx (pc + 2) L (.ref x :: st) h cu su
    | _ => none
  | .istore_n k => match st with
    | .int x :: r => if k.val < L.length then mm_nx (pc + 1) (mm_st1 L k (.int x)) r h cu su else none
    | _ => none
  | .istore k => match st with
    | .int x :: r => if k < L.length then mm_nx (pc + 2) (mm_st1 L k (.int x)) r h cu su else none
    | _ => none
  | .astore_n k => match st with
    | .ref x :: r => if k.val < L.length then mm_nx (pc + 1) (mm_st1 L k (.ref x)) r h cu su else none
    | _ => none
  | .astore k => match st with
    | .ref x :: r => if k < L.length then mm_nx (pc + 2) (mm_st1 L k (.ref x)) r h cu su else none
    | _ => none
  | .lstore_n k => match st with
    | .long x :: r => if k.val + 1 < L.length then mm_nx (pc + 1) (mm_st2 L k (.long x)) r h cu su else none
    | _ => none
  | .lstore k => match st with
    | .long x :: r => if k + 1 < L.length then mm_nx (pc + 2) (mm_st2 L k (.long x)) r h cu su else none
    | _ => none
  | .iinc k n => match L.getD k none with
    | some (.int x) => if k < L.length then mm_nx (pc + 3) (mm_st1 L k (.int (x + Int32.ofInt n))) st h cu su else none
    | _ => none
  | .iconst n => mm_nx (pc + 1) L (.int (Int32.ofInt n) :: st) h cu su
  | .bipush n => mm_nx (pc + 2) L (.int (Int8.ofInt n).toInt32 :: st) h cu su
  | .sipush n => mm_nx (pc + 3) L (.int (Int16.ofInt n).toInt32 :: st) h cu su
  | .lconst n => mm_nx (pc + 1) L (.long (Int64.ofNat n.val) :: st) h cu su
  | .ldc k => match mm_cI (mi_c (mm_of mid)) k with
    | some v => mm_nx (pc + 2) L (.int v :: st) h cu su
    | none => none
  | .ldc_w k => match mm_cI (mi_c (mm_of mid)) k with
    | some v => mm_nx (pc + 3) L (.int v :: st) h cu su
    | none => none
  | .ldc2_w k => match mm_cJ (mi_c (mm_of mid)) k with
    | some v => mm_nx (pc + 3) L (.long v :: st) h cu su
    | none => none
  | .dup => match st with
    | v :: r => if v.category = 1 then mm_nx (pc + 1) L (v :: v :: r) h cu su else none
    | _ => none
  | .dup2 => match st with
    | v :: w :: r => if v.category = 1 ∧ w.category = 1 then mm_nx (pc + 1) L (v :: w :: v :: w :: r) h cu su else none
    | _ => none
  | .pop => match st with
    | v :: r => if v.category = 1 then mm_nx (pc + 1) L r h cu su else none
    | _ => none
  | .ineg => match st with
    | .int x :: r => mm_nx (pc + 1) L (.int (-x) :: r) h cu su
    | _ => none
  | .i2l => match st with
    | .int x :: r => mm_nx (pc + 1) L (.long x.toInt64 :: r) h cu su
    | _ => none
  | .l2i => match st with
    | .long x :: r => mm_nx (pc + 1) L (.int x.toInt32 :: r) h cu su
    | _ => none
  | .lcmp => match st with
    | .long y :: .long x :: r => mm_nx (pc + 1) L (.int (lg_cmp x y) :: r) h cu su
    | _ => none
  | .lshl => match st with
    | .int y :: .long x :: r => mm_nx (pc + 1) L (.long (x <<< (y.toInt64 &&& 63)) :: r) h cu su
    | _ => none
  | .lshr => match st with
    | .int y :: .long x :: r => mm_nx (pc + 1) L (.long (x >>> (y.toInt64 &&& 63)) :: r) h cu su
    | _ => none
  | .goto _ => mm_nx tgt L st h cu su
  | .ifCond c _ => match st with
    | .int x :: r => if mm_ic c x 0 = true then mm_nx tgt L r h cu su else mm_nx (pc + 3) L r h cu su
    | _ => none
  | .if_icmp c _ => match st with
    | .int y :: .int x :: r => if mm_ic c x y = true then mm_nx tgt L r h cu su else mm_nx (pc + 3) L r h cu su
    | _ => none
  | .tableswitch dflt lo hi offs => match st with
    | .int x :: r => if x.toInt < lo ∨ hi < x.toInt then (if 0 ≤ (pc : Int) + dflt then mm_nx ((pc : Int) + dflt).toNat L r h cu su else none)
      else match offs[(x.toInt - lo).toNat]? with
        | some off => if 0 ≤ (pc : Int) + off then mm_nx ((pc : Int) + off).toNat L r h cu su else none
        | none => none
    | _ => none
  | .getfield k => match mm_fld (mi_c (mm_of mid)) k, st with
    | some (ci, f), .ref a :: r => if hK h a = ci then mm_nx (pc + 3) L (mm_fv h a ci f :: r) h cu su else none
    | _, _ => none
  | .putfield k => match mm_fld (mi_c (mm_of mid)) k, st with
    | some (ci, f), v :: .ref a :: r => if hK h a = ci ∧ (mm_isF ci f = true → mm_ini mid = true ∧ mi_c (mm_of mid) = ci) then (match mm_ty ci f, v with
        | 0, .int x => mm_nx (pc + 3) L r (putI h a f x) cu su
        | 1, .int x => if x = 0 ∨ x = 1 then mm_nx (pc + 3) L r (putI h a f x) cu su else none
        | 2, .long x => mm_nx (pc + 3) L r (putJ h a f x) cu su
        | 3, .ref q => mm_nx (pc + 3) L r (putR h a f (some q)) cu su
        | _, _ => none) else none
    | _, _ => none
  | .getstatic _ => mm_nx (pc + 3) L (.ref 1 :: st) h cu su
  | .iaload => match st with
    | .int x :: .ref a :: r => if (hK h a = 9 ∨ hK h a = 20) ∧ mm_in x (hL h a) = true then mm_nx (pc + 1) L (.int (hI h a x.toNatClampNeg) :: r) h cu su else none
    | _ => none
  | .laload => match st with
    | .int x :: .ref a :: r => if (hK h a = 10 ∨ hK h a = 21) ∧ mm_in x (hL h a) = true then mm_nx (pc + 1) L (.long (hJ h a x.toNatClampNeg) :: r) h cu su else none
    | _ => none
  | .baload => match st with
    | .int x :: .ref a :: r => if hK h a = 11 ∧ mm_in x (hL h a) = true then mm_nx (pc + 1) L (.int (hI h a x.toNatClampNeg) :: r) h cu su else none
    | _ => none
  | .aaload => match st with
    | .int x :: .ref a :: r => if (hK h a = 12 ∨ hK h a = 13 ∨ hK h a = 14 ∨ hK h a = 15) ∧ mm_in x (hL h a) = true then mm_nx (pc + 1) L (mm_rv (hR h a x.toNatClampNeg) :: r) h cu su else none
    | _ => none
  | .arraylength => match st with
    | .ref a :: r => if (9 ≤ hK h a ∧ hK h a ≤ 15) ∨ hK h a = 20 ∨ hK h a = 21 then mm_nx (pc + 1) L (.int (Int32.ofNat (hL h a)) :: r) h cu su else none
    | _ => none
  | .iastore => match st with
    | .int v :: .int x :: .ref a :: r => if hK h a = 9 ∧ mm_in x (hL h a) = true then mm_nx (pc + 1) L r (putI h a x.toNatClampNeg v) cu su else none
    | _ => none
  | .lastore => match st with
    | .long v :: .int x :: .ref a :: r => if hK h a = 10 ∧ mm_in x (hL h a) = true then mm_nx (pc + 1) L r (putJ h a x.toNatClampNeg v) cu su else none
    | _ => none
  | .bastore => match st with
    | .int v :: .int x :: .ref a :: r => if hK h a = 11 ∧ mm_in x (hL h a) = true ∧ (v = 0 ∨ v = 1) then mm_nx (pc + 1) L r (putI h a x.toNatClampNeg v) cu su else none
    | _ => none
  | .aastore => match st with
    | .ref v :: .int x :: .ref a :: r => if ((hK h a = 12 ∧ hK h v = 5) ∨ (hK h a = 13 ∧ hK h v = 6) ∨ (hK h a = 15 ∧ hK h v = 10)) ∧ mm_in x (hL h a) = true then mm_nx (pc + 1) L r (putR h a x.toNatClampNeg (some v)) cu su else none
    | _ => none
  | .new k => match mm_new (mi_c (mm_of mid)) k with
    | some ci => if ci ≤ 8 ∧ cu + 1 ≤ mi_mc (mm_of mid) ∧ su + mm_cN ci ≤ mi_ms (mm_of mid) then mm_nx (pc + 3) L (.ref (hN h) :: st) (mm_mk h ci 0) (cu + 1) (su + mm_cN ci) else none
    | none => none
  | .newarray t => match st with
    | .int n :: r => if ¬ n < 0 ∧ n.toNatClampNeg ≤ 1000 ∧ cu + 1 ≤ mi_mc (mm_of mid) ∧ su + n.toNatClampNeg ≤ mi_ms (mm_of mid) then (match t with
        | .int => mm_nx (pc + 2) L (.ref (hN h) :: r) (mm_mk h 9 n.toNatClampNeg) (cu + 1) (su + n.toNatClampNeg)
        | .long => mm_nx (pc + 2) L (.ref (hN h) :: r) (mm_mk h 10 n.toNatClampNeg) (cu + 1) (su + n.toNatClampNeg)
        | .boolean => mm_nx (pc + 2) L (.ref (hN h) :: r) (mm_mk h 11 n.toNatClampNeg) (cu + 1) (su + n.toNatClampNeg)
        | _ => none) else none
    | _ => none
  | .anewarray k => match mm_new (mi_c (mm_of mid)) k, st with
    | some ci, .int n :: r => if ¬ n < 0 ∧ n.toNatClampNeg ≤ 1000 ∧ cu + 1 ≤ mi_mc (mm_of mid) ∧ su + n.toNatClampNeg ≤ mi_ms (mm_of mid) ∧ (ci = 5 ∨ ci = 6) then mm_nx (pc + 3) L (.ref (hN h) :: r) (mm_mk h (ci + 7) n.toNatClampNeg) (cu + 1) (su + n.toNatClampNeg) else none
    | _, _ => none
  | .multianewarray k d => match mm_new (mi_c (mm_of mid)) k, st with
    | some ci, .int m :: .int n :: r => if d = 2 ∧ ¬ n < 0 ∧ ¬ m < 0 ∧ n.toNatClampNeg ≤ 1000 ∧ m.toNatClampNeg ≤ 1000 ∧ cu + (1 + n.toNatClampNeg) ≤ mi_mc (mm_of mid) ∧ su + (n.toNatClampNeg + n.toNatClampNeg * m.toNatClampNeg) ≤ mi_ms (mm_of mid) ∧ (ci = 14 ∨ ci = 15) then
        mm_nx (pc + 4) L (.ref (hN h) :: r) ((fun g : MH => (hI g, hJ g, mm_row (hR g) (hN h) (fun j => if j < n.toNatClampNeg then some (hN h + 1 + j) else none), hK g, hL g, hN g)) (mm_mks (mm_mk h ci n.toNatClampNeg) (ci - 5) m.toNatClampNeg n.toNatClampNeg)) (cu + 1 + n.toNatClampNeg) (su + n.toNatClampNeg + n.toNatClampNeg * m.toNatClampNeg) else none
    | _, _ => none
  | .invokevirtual k => mm_inv mid (mi_c (mm_of mid)) k pc true L st h cu su
  | .invokespecial k => mm_inv mid (mi_c (mm_of mid)) k pc true L st h cu su
  | .invokestatic k => mm_inv mid (mi_c (mm_of mid)) k pc false L st h cu su
  | .ireturn => match st with
    | [.int x] => if mi_r (mm_of mid) = 1 ∨ (mi_r (mm_of mid) = 2 ∧ (x = 0 ∨ x = 1)) then some (.inr (.inl (some (.int x), h))) else none
    | _ => none
  | .lreturn => match st with
    | [.long x] => if mi_r (mm_of mid) = 3 then some (.inr (.inl (some (.long x), h))) else none
    | _ => none
  | .return_ => match st with
    | [] => if mi_r (mm_of mid) = 0 then some (.inr (.inl (none, h))) else none
    | _ => none
  | j => match st with
    | .int y :: .int x :: r => match mm_i2 j x y with
      | some z => mm_nx (pc + 1) L (.int z :: r) h cu su
      | none => none
    | .long y :: .long x :: r => match mm_l2 j x y with
      | some z => mm_nx (pc + 1) L (.long z :: r) h cu su
      | none => none
    | _ => none
def mm_one (mid pc : Nat) (L : ML) (st : List Value) (h : MH) (cu su : Nat) : MO := match mm_fet mid pc with
  | some (i, len, tgt) => mm_stp mid i len tgt pc L st h cu su
  | none => none
end
section
/-! WHAT THE MINI-MACHINE'S STATE SAYS OF THE MACHINE'S -/
def mm_ad (base b t k : Nat) : Nat := if k = 0 then b else if k = 1 then t else base + (k - 2)
def mm_tv (ad : Nat → Nat) (v : Value) : Value := match v with
  | .ref k => .ref (ad k)
  | v => v
theorem mm_tv_cat (ad : Nat → Nat) (v : Value) : (mm_tv ad v).category = v.category := by cases v <;> rfl
theorem mm_tv_cats (ad : Nat → Nat) (r : List Value) : ((r.map (mm_tv ad)).map fun v => v.category).sum = mm_cat r := by
  induction r with
  | nil => rfl
  | cons v r ih => simp only [List.map_cons, List.sum_cons, mm_cat, mm_tv_cat] at *; rw [ih]
def mm_lv (ad : Nat → Nat) (L : ML) : List (Nat × Value) := (List.range L.length).filterMap (fun k => (L.getD k none).map (fun v => (k, mm_tv ad v)))
theorem mm_lv_mem {ad : Nat → Nat} {L : ML} {q : Nat × Value} : q ∈ mm_lv ad L ↔ ∃ v, L[q.1]? = some (some v) ∧ q.2 = mm_tv ad v := by
  obtain ⟨k, w⟩ := q
  simp only [mm_lv, List.mem_filterMap, List.mem_range, Option.map_eq_some_iff, Prod.mk.injEq]
  constructor
  · rintro ⟨j, hj, v, hv, rfl, rfl⟩
    refine ⟨v, ?_, rfl⟩
    rw [List.getD_eq_getElem?_getD, List.getElem?_eq_getElem hj] at hv
    rw [List.getElem?_eq_getElem hj]
    simpa using hv
  · rintro ⟨v, hv, rfl⟩
    obtain ⟨hk, hv'⟩ := List.getElem?_eq_some_iff.mp hv
    exact ⟨k, hk, v, by rw [List.getD_eq_getElem?_getD, hv]; rfl, rfl, rfl⟩
/-- the locals -/
def mm_Lr (ad : Nat → Nat) (L : ML) (ls : Array Slot) : Prop := lv_has ls L.length (mm_lv ad L)
theorem mm_Lr.at {ad : Nat → Nat} {L : ML} {ls : Array Slot} (h : mm_Lr ad L ls) {k : Nat} {v : Value} (hv : L.getD k none = some v) : ls[k]? = some (.val (mm_tv ad v)) := by
  refine h.2.2 (k, mm_tv ad v) (mm_lv_mem.mpr ⟨v, ?_, rfl⟩)
  show L[k]? = _
  rw [List.getD_eq_getElem?_getD] at hv
  cases hk : L[k]? with
  | none => rw [hk] at hv; cases hv
  | some w => rw [hk] at hv; simp at hv; rw [hv]
theorem mm_st1_len (L : ML) (i : Nat) (v : Value) : (mm_st1 L i v).length = L.length := by
  unfold mm_st1
  split
  · simp
  · split
    · rename_i w _
      cases Nat.beq w.category 2 <;> simp
    · simp
theorem mm_st1_get {L : ML} {i k : Nat} {v w : Value} (h : (mm_st1 L i v)[k]? = some (some w)) : (k = i ∧ w = v) ∨ (k ≠ i ∧ L[k]? = some (some w) ∧ ¬ (k + 1 = i ∧ w.category = 2)) := by
  unfold mm_st1 at h
  split at h
  · rw [List.getElem?_set] at h
    by_cases hk : 0 = k
    · subst hk
      split at h <;> simp_all
    · rw [if_neg hk] at h
      exact Or.inr ⟨fun e => hk e.symm, h, fun e => by omega⟩
  · rename_i j
    by_cases hk : k = j + 1
    · refine Or.inl ⟨hk, ?_⟩
      subst hk
      split at h
      · rename_i w' _
        cases hw : Nat.beq w'.category 2 <;> rw [hw] at h <;> simp only [cond_true, cond_false] at h <;> rw [List.getElem?_set] at h <;> simp at h <;> exact h.2.symm
      · rw [List.getElem?_set] at h; simp at h; exact h.2.symm
    · refine Or.inr ⟨hk, ?_⟩
      split at h
      · rename_i w' hw'
        cases hw : Nat.beq w'.category 2 <;> rw [hw] at h <;> simp only [cond_true, cond_false] at h <;> rw [List.getElem?_set] at h <;> rw [if_neg (fun e => hk e.symm)] at h
        · refine ⟨h, fun e => ?_⟩
          obtain ⟨e1, e2⟩ := e
          have : k = j := by omega
          subst this
          rw [hw'] at h
          simp at h
          subst h
          rw [e2] at hw
          cases hw
        · rw [List.getElem?_set] at h
          by_cases hkj : j = k
          · subst hkj
            rw [if_pos rfl] at h
            split at h <;> simp at h
          · rw [if_neg hkj] at h
            exact ⟨h, fun e => hkj (by omega)⟩
      · rename_i hn
        rw [List.getElem?_set, if_neg (fun e => hk e.symm)] at h
        refine ⟨h, fun e => ?_⟩
        have : k = j := by omega
        subst this
        exact hn _ h
theorem mm_st2_len (L : ML) (i : Nat) (v : Value) : (mm_st2 L i v).length = L.length := by
  unfold mm_st2
  rw [List.length_set, mm_st1_len]
theorem mm_st2_get {L : ML} {i k : Nat} {v w : Value} (h : (mm_st2 L i v)[k]? = some (some w)) : (k = i ∧ w = v) ∨ (k ≠ i ∧ k ≠ i + 1 ∧ L[k]? = some (some w) ∧ ¬ (k + 1 = i ∧ w.category = 2)) := by
  unfold mm_st2 at h
  rw [List.getElem?_set] at h
  by_cases hk : i + 1 = k
  · rw [if_pos hk] at h
    split at h <;> simp at h
  · rw [if_neg hk] at h
    rcases mm_st1_get h with h1 | ⟨h1, h2, h3⟩
    · exact Or.inl h1
    · exact Or.inr ⟨h1, fun e => hk e.symm, h2, h3⟩
theorem mm_Lr.s1 {ad : Nat → Nat} {L : ML} {ls' : Array Slot} {i : Nat} {v : Value} (h : lv_has ls' L.length ((i, mm_tv ad v) :: (mm_lv ad L).filter (fun q => !(q.1 == i) && !(q.1 + 1 == i && q.2.category == 2)))) : mm_Lr ad (mm_st1 L i v) ls' := by
  refine ⟨by rw [mm_st1_len]; exact h.1, h.2.1, fun q hq => h.2.2 q ?_⟩
  obtain ⟨w, hw, he⟩ := mm_lv_mem.mp hq
  rcases mm_st1_get hw with ⟨h1, h2⟩ | ⟨h1, h2, h3⟩
  · obtain ⟨a, c⟩ := q
    simp only at h1 h2 he
    subst h1 h2 he
    exact List.mem_cons_self
  · refine List.mem_cons_of_mem _ (List.mem_filter.mpr ⟨mm_lv_mem.mpr ⟨w, h2, he⟩, ?_⟩)
    rw [he, mm_tv_cat]
    simp only [Bool.and_eq_true, Bool.not_eq_true', beq_eq_false_iff_ne, ne_eq, Bool.and_eq_false_iff]
    refine ⟨h1, ?_⟩
    by_cases e1 : q.1 + 1 = i
    · exact Or.inr (fun e2 => h3 ⟨e1, e2⟩)
    · exact Or.inl e1
theorem mm_Lr.s2 {ad : Nat → Nat} {L : ML} {ls' : Array Slot} {i : Nat} {v : Value} (h : lv_has ls' L.length ((i, mm_tv ad v) :: (mm_lv ad L).filter (fun q => !(q.1 == i) && (!(q.1 == i + 1) && !(q.1 + 1 == i && q.2.category == 2))))) : mm_Lr ad (mm_st2 L i v) ls' := by
  refine ⟨by rw [mm_st2_len]; exact h.1, h.2.1, fun q hq => h.2.2 q ?_⟩
  obtain ⟨w, hw, he⟩ := mm_lv_mem.mp hq
  rcases mm_st2_get hw with ⟨h1, h2⟩ | ⟨h1, h1', h2, h3⟩
  · obtain ⟨a, c⟩ := q
    simp only at h1 h2 he
    subst h1 h2 he
    exact List.mem_cons_self
  · refine List.mem_cons_of_mem _ (List.mem_filter.mpr ⟨mm_lv_mem.mpr ⟨w, h2, he⟩, ?_⟩)
    rw [he, mm_tv_cat]
    simp only [Bool.and_eq_true, Bool.not_eq_true', beq_eq_false_iff_ne, ne_eq, Bool.and_eq_false_iff]
    refine ⟨h1, h1', ?_⟩
    by_cases e1 : q.1 + 1 = i
    · exact Or.inr (fun e2 => h3 ⟨e1, e2⟩)
    · exact Or.inl e1
end
section
/-! THE WORLD OF A MINI-HEAP -/
def mm_A (base : Nat) : Nat → Prop := fun q => base ≤ q
def mm_tys (cy : Nat → ClassId) : List (ClassId × FieldType) := [(cy 9, .int), (cy 10, .long), (cy 11, .boolean), (cy 12, .object "DrawnTold$Sum"), (cy 13, .object "DrawnTold$Witness"), (cy 14, .array .int), (cy 15, .array .long)]
def mm_ce (cy : Nat → ClassId) (ad : Nat → Nat) (h : MH) (k : Nat) : va_E :=
  if hK h k ≤ 8 then .inr (hK h k, (List.range (mm_cN (hK h k))).map (fun f => mm_tv ad (mm_fv h k (hK h k) f)))
  else if hK h k = 9 ∨ hK h k = 11 then .inl (cy (hK h k), hL h k, .inl (hI h k))
  else if hK h k = 10 then .inl (cy (hK h k), hL h k, .inr (.inl (hJ h k)))
  else .inl (cy (hK h k), hL h k, .inr (.inr (.inr (.inr (fun j => (hR h k j).map ad)))))
def mm_wl (cy : Nat → ClassId) (base b t : Nat) (h : MH) : va_W := (List.range (hN h - 2)).map (fun j => (base + j, mm_ce cy (mm_ad base b t) h (j + 2)))
theorem mm_wl_at {cy : Nat → ClassId} {base b t : Nat} {h : MH} {j : Nat} (hj : j < hN h - 2) : (mm_wl cy base b t h)[j]? = some (base + j, mm_ce cy (mm_ad base b t) h (j + 2)) := by
  unfold mm_wl
  rw [List.getElem?_map, List.getElem?_range hj]
  rfl
theorem mm_wl_len {cy : Nat → ClassId} {base b t : Nat} {h : MH} : (mm_wl cy base b t h).length = hN h - 2 := by
  unfold mm_wl
  simp
theorem mm_wl_D {cy : Nat → ClassId} {base b t : Nat} {h : MH} : va_D (mm_A base) (mm_wl cy base b t h) := by
  have key : ∀ (i : Nat) (p : Nat × va_E), (mm_wl cy base b t h)[i]? = some p → p.1 = base + i := by
    intro i p hp
    obtain ⟨hi, -⟩ := List.getElem?_eq_some_iff.mp hp
    rw [mm_wl_len] at hi
    rw [mm_wl_at hi] at hp
    cases hp
    rfl
  refine ⟨fun i j p q hp hq e => ?_, fun k q hk => ?_⟩
  · rw [key i p hp, key j q hq] at e
    omega
  · rw [key k q hk]
    exact Nat.le_add_right _ _
/-- a world with one cell another -/
theorem mm_wl_set {cy : Nat → ClassId} {base b t : Nat} {h h' : MH} {j : Nat} {e : va_E} (hn : hN h' = hN h) (he : mm_ce cy (mm_ad base b t) h' (j + 2) = e) (ho : ∀ k, k ≠ j + 2 → mm_ce cy (mm_ad base b t) h' k = mm_ce cy (mm_ad base b t) h k) : (mm_wl cy base b t h).set j (base + j, e) = mm_wl cy base b t h' := by
  apply List.ext_getElem?
  intro i
  rw [List.getElem?_set]
  by_cases hij : j = i
  · subst hij
    rw [if_pos rfl]
    by_cases hl : j < (mm_wl cy base b t h).length
    · rw [if_pos hl, mm_wl_at (by rw [mm_wl_len] at hl; rw [hn]; exact hl), he]
    · rw [if_neg hl]
      symm
      rw [List.getElem?_eq_none_iff, mm_wl_len, hn]
      rw [mm_wl_len] at hl
      omega
  · rw [if_neg hij]
    by_cases hl : i < hN h - 2
    · rw [mm_wl_at hl, mm_wl_at (by rw [hn]; exact hl), ho (i + 2) (by omega)]
    · rw [List.getElem?_eq_none (by rw [mm_wl_len]; omega), List.getElem?_eq_none (by rw [mm_wl_len, hn]; omega)]
/-- the heap's part -/
def mm_H (D : va_G) (cy : Nat → ClassId) (base b t Ls : Nat) (xs : Nat → Int32) (ps : Nat → Int64) (h : MH) (H : Heap) : Prop :=
  (2 ≤ hN h ∧ H.size = base + (hN h - 2)) ∧ (hK h 0 = 20 ∧ hK h 1 = 21 ∧ (∀ a, hN h ≤ a → hK h a = 99) ∧ ∀ a, 2 ≤ a → a < hN h → hK h a ≤ 15) ∧ (hL h 0 = Ls ∧ hI h 0 = xs ∧ hL h 1 = 6 ∧ hJ h 1 = ps) ∧ va_P D mm_C (mm_wl cy base b t h) H
/-- the machine's part: classes, the script, PRIMES -/
def mm_X (D : va_G) (cy : Nat → ClassId) (base b t Ls : Nat) (xs : Nat → Int32) (ps : Nat → Int64) (U : State) : Prop :=
  (b < base ∧ base ≤ U.heap.size) ∧ va_K D mm_C (mm_tys cy) U ∧ va_X b Ls xs U U.heap ∧ va_Z "DrawnTold" "PRIMES" "[J" (.ref t) (mm_A base) U U.heap ∧ va_T .long t 6 (fun j => .long (ps j)) (mm_A base) U U.heap
theorem mm_X.moved {D : va_G} {cy : Nat → ClassId} {base b t Ls : Nat} {xs : Nat → Int32} {ps : Nat → Int64} {s U : State} {locs : List Loc} (h : mm_X D cy base b t Ls xs ps s) (hvm : s.vm.Alike U.vm) (hS : va_S (mm_A base) s.heap U.heap locs) : mm_X D cy base b t Ls xs ps U := by
  obtain ⟨⟨h1, h2⟩, h3, h4, h5, h6⟩ := h
  have hk : ∀ a : Nat, a < s.heap.size → ¬ mm_A base a → U.heap[a]? = s.heap[a]? := fun a ha hna => hS.2.1 a ha hna
  refine ⟨⟨h1, Nat.le_trans h2 hS.1⟩, va_K.moved hvm h3, (va_X.moved hvm h4).kept (hk b (by omega) (fun e => by unfold mm_A at e; omega)), (va_Z.moved hvm h5).kept hk, (va_T.moved hvm h6).kept hk⟩
/-- a known place of a kind is one of those that were made -/
theorem mm_H.mem {D : va_G} {cy : Nat → ClassId} {base b t Ls : Nat} {xs : Nat → Int32} {ps : Nat → Int64} {h : MH} {H : Heap} (hh : mm_H D cy base b t Ls xs ps h H) {a : Nat} (ha : hK h a ≤ 15) : 2 ≤ a ∧ a < hN h ∧ mm_ad base b t a = base + (a - 2) ∧ (mm_wl cy base b t h)[a - 2]? = some (mm_ad base b t a, mm_ce cy (mm_ad base b t) h a) := by
  obtain ⟨-, ⟨k0, k1, k2, -⟩, -, -⟩ := hh
  have h0 : a ≠ 0 := fun e => by subst e; omega
  have h1 : a ≠ 1 := fun e => by subst e; omega
  have h2 : a < hN h := Nat.lt_of_not_le (fun e => by have := k2 a e; omega)
  have e : mm_ad base b t a = base + (a - 2) := by unfold mm_ad; rw [if_neg h0, if_neg h1]
  refine ⟨by omega, h2, e, ?_⟩
  rw [mm_wl_at (by omega), e, show a - 2 + 2 = a by omega]
theorem mm_cN_le : ∀ ci, ci ≤ 8 → ∃ C T, mm_C[ci]? = some (C, T, mm_cN ci) := by
  intro ci h
  have : ci = 0 ∨ ci = 1 ∨ ci = 2 ∨ ci = 3 ∨ ci = 4 ∨ ci = 5 ∨ ci = 6 ∨ ci = 7 ∨ ci = 8 := by omega
  rcases this with rfl | rfl | rfl | rfl | rfl | rfl | rfl | rfl | rfl <;> exact ⟨_, _, rfl⟩
/-- writing an int -/
theorem mm_ce_putI {cy : Nat → ClassId} {ad : Nat → Nat} {h : MH} {a f : Nat} {x : Int32} {k : Nat} (hk : k ≠ a) : mm_ce cy ad (putI h a f x) k = mm_ce cy ad h k := by
  have e1 : ∀ j, mm_up (hI h) a f x k j = hI h k j := fun j => if_neg (fun e => hk e.1)
  have e2 : mm_up (hI h) a f x k = hI h k := funext e1
  have e3 : ∀ j, mm_fv (putI h a f x) k (hK h k) j = mm_fv h k (hK h k) j := by
    intro j
    unfold mm_fv
    split <;> first | rfl | exact congrArg Value.int (e1 j)
  unfold mm_ce
  show (if hK h k ≤ 8 then _ else if hK h k = 9 ∨ hK h k = 11 then Sum.inl (cy (hK h k), hL h k, Sum.inl (mm_up (hI h) a f x k)) else _) = _
  rw [e2]
  simp only [e3]
theorem mm_ce_putJ {cy : Nat → ClassId} {ad : Nat → Nat} {h : MH} {a f : Nat} {x : Int64} {k : Nat} (hk : k ≠ a) : mm_ce cy ad (putJ h a f x) k = mm_ce cy ad h k := by
  have e1 : ∀ j, mm_up (hJ h) a f x k j = hJ h k j := fun j => if_neg (fun e => hk e.1)
  have e2 : mm_up (hJ h) a f x k = hJ h k := funext e1
  have e3 : ∀ j, mm_fv (putJ h a f x) k (hK h k) j = mm_fv h k (hK h k) j := by
    intro j
    unfold mm_fv
    split <;> first | rfl | exact congrArg Value.long (e1 j)
  unfold mm_ce
  show (if hK h k ≤ 8 then _ else if hK h k = 9 ∨ hK h k = 11 then _ else if hK h k = 10 then Sum.inl (cy (hK h k), hL h k, Sum.inr (Sum.inl (mm_up (hJ h) a f x k))) else _) = _
  rw [e2]
  simp only [e3]
theorem mm_ce_putR {cy : Nat → ClassId} {ad : Nat → Nat} {h : MH} {a f : Nat} {x : Option Nat} {k : Nat} (hk : k ≠ a) : mm_ce cy ad (putR h a f x) k = mm_ce cy ad h k := by
  have e1 : ∀ j, mm_up (hR h) a f x k j = hR h k j := fun j => if_neg (fun e => hk e.1)
  have e3 : ∀ j, mm_fv (putR h a f x) k (hK h k) j = mm_fv h k (hK h k) j := by
    intro j
    unfold mm_fv
    split <;> first | rfl | exact congrArg mm_rv (e1 j)
  unfold mm_ce
  show (if hK h k ≤ 8 then _ else if hK h k = 9 ∨ hK h k = 11 then _ else if hK h k = 10 then _ else Sum.inl (cy (hK h k), hL h k, Sum.inr (Sum.inr (Sum.inr (Sum.inr (fun j => (mm_up (hR h) a f x k j).map ad)))))) = _
  simp only [e1, e3]
theorem mm_ce_rowJ {cy : Nat → ClassId} {ad : Nat → Nat} {h : MH} {a : Nat} {g : Nat → Int64} {k : Nat} (hk : k ≠ a) : mm_ce cy ad (rowJ h a g) k = mm_ce cy ad h k := by
  have e1 : ∀ j, mm_row (hJ h) a g k j = hJ h k j := fun j => if_neg hk
  have e2 : mm_row (hJ h) a g k = hJ h k := funext e1
  have e3 : ∀ j, mm_fv (rowJ h a g) k (hK h k) j = mm_fv h k (hK h k) j := by
    intro j
    unfold mm_fv
    split <;> first | rfl | exact congrArg Value.long (e1 j)
  unfold mm_ce
  show (if hK h k ≤ 8 then _ else if hK h k = 9 ∨ hK h k = 11 then _ else if hK h k = 10 then Sum.inl (cy (hK h k), hL h k, Sum.inr (Sum.inl (mm_row (hJ h) a g k))) else _) = _
  rw [e2]
  simp only [e3]
theorem mm_tv_rv (ad : Nat → Nat) (r : Option Nat) : mm_tv ad (mm_rv r) = va_rf (r.map ad) := by cases r <;> rfl
end
section
/-! THE TABLES ARE THE STATEMENT'S -/
def mm_on (own : Nat) : String := mm_cn.getD own ""
def ck_f1 (own : Nat) (e : Nat × Nat × Nat) : Bool := match mm_C[e.2.1]? with
  | some (C, T, N) => Nat.ble e.2.1 8 && Nat.blt e.2.2 N && decide (Jvm.Cond.fieldLink (mm_on own) e.1 (T e.2.2).1 (T e.2.2).2.1 (T e.2.2).2.2.1 ∈ tables_1)
  | none => false
theorem ck_fl : ((List.range 16).all fun own => (mm_fl.getD own []).all (ck_f1 own)) = true := by decide +kernel
def ck_t1 (ci k : Nat) : Bool := match mm_C[ci]? with
  | some (C, T, N) => Nat.beq N (mm_cN ci) && decide ((T k).1 = C) && decide ((T k).2.2.2 = mm_isF ci k) && decide (C = mm_on ci) && decide (u_lay C T k ∈ tables_1) && (match mm_ty ci k, parseFieldDescriptor (T k).2.2.1 with
    | 0, some .int => true
    | 1, some .boolean => true
    | 2, some .long => true
    | 3, some (.object _) => true
    | 3, some (.array _) => true
    | _, _ => false)
  | none => false
theorem ck_ty : ((List.range 9).all fun ci => (List.range (mm_cN ci)).all (ck_t1 ci)) = true := by decide +kernel
theorem ck_c1 : ((List.range 16).all fun own => (mm_cs.getD own []).all fun e => decide (Jvm.Cond.constant (mm_on own) e.1 e.2 ∈ tables_1)) = true := by decide +kernel
theorem ck_c2 : ((List.range 16).all fun own => (mm_cl.getD own []).all fun e => decide (Jvm.Cond.constantLong (mm_on own) e.1 e.2 ∈ tables_1)) = true := by decide +kernel
end
section
/-! the code words of the methods, by their places; what each method decodes to -/
def mm_yy (mid : Nat) : MethodName := mm_y.getD mid ⟨"", "", ""⟩
def mm_bb (mid : Nat) : ByteArray := mm_b.getD mid code
def mm_rt (r : Nat) : Option FieldType := match r with
  | 0 => none
  | 1 => some .int
  | 2 => some .boolean
  | _ => some .long
def mm_cw (mid : Nat) : Jvm.Cond := .code (mm_yy mid) (mm_bb mid) (mi_l (mm_of mid)) (mm_rt (mi_r (mm_of mid)))
set_option maxRecDepth 200000 in
theorem kw_0 : ([0, 1, 2, 3, 4, 5, 6, 7, 8, 9, 10, 11, 12, 13, 14, 15, 16, 17, 18, 19] : List Nat).map mm_cw = ([123, 419, 423, 431, 547, 435, 438, 442, 447, 451, 456, 460, 464, 365, 397, 369, 157, 470, 496, 503] : List Nat).filterMap (fun i => tables_1[i]?) := by rfl
set_option maxRecDepth 200000 in
theorem kw_1 : ([20, 21, 22, 23, 24, 25, 26, 27, 28, 29, 30, 31, 32, 33, 34, 35, 36, 37, 38, 39] : List Nat).map mm_cw = ([695, 195, 585, 582, 611, 578, 589, 597, 607, 593, 631, 652, 656, 660, 689, 163, 474, 478, 61, 315] : List Nat).filterMap (fun i => tables_1[i]?) := by rfl
set_option maxRecDepth 200000 in
theorem kw_2 : ([40, 41, 42, 43, 44, 45, 46, 47, 48, 49, 50, 51, 52, 53, 54, 55, 56, 57, 58, 59] : List Nat).map mm_cw = ([330, 346, 334, 350, 377, 385, 338, 484, 491, 513, 487, 516, 499, 509, 519, 522, 28, 287, 307, 311] : List Nat).filterMap (fun i => tables_1[i]?) := by rfl
set_option maxRecDepth 200000 in
theorem kw_3 : ([60, 61, 62, 63, 64, 65, 66, 67, 68, 69, 70, 71, 72, 73, 74, 75, 76, 77, 78, 79] : List Nat).map mm_cw = ([684, 70, 354, 358, 362, 373, 389, 394, 342, 381, 19, 258, 272, 280, 291, 322, 326, 401, 405, 410] : List Nat).filterMap (fun i => tables_1[i]?) := by rfl
set_option maxRecDepth 200000 in
theorem kw_4 : ([80, 81, 82, 83, 84, 85, 86, 87, 88, 89, 90, 91, 92, 93, 94, 95, 96, 97, 98, 99] : List Nat).map mm_cw = ([527, 531, 535, 539, 543, 551, 561, 566, 570, 615, 623, 627, 635, 640, 644, 648, 664, 669, 677, 264] : List Nat).filterMap (fun i => tables_1[i]?) := by rfl
set_option maxRecDepth 200000 in
theorem kw_5 : ([100, 101, 102, 103, 104, 105, 106, 107, 108, 109, 110, 111, 112, 113, 114, 115, 116, 117, 118, 119] : List Nat).map mm_cw = ([261, 283, 276, 574, 303, 295, 619, 268, 299, 673, 415, 555, 427, 702, 807, 802, 815, 811, 825, 819] : List Nat).filterMap (fun i => tables_1[i]?) := by rfl
set_option maxRecDepth 200000 in
theorem kw_6 : ([120, 121, 122, 123, 124, 125, 126, 127, 128, 129, 130, 131, 132, 133, 134, 135, 136, 137, 138, 139] : List Nat).map mm_cw = ([833, 837, 829, 843, 873, 866, 863, 870, 859, 855, 851, 847, 877, 885, 881, 897, 905, 901, 893, 913] : List Nat).filterMap (fun i => tables_1[i]?) := by rfl
set_option maxRecDepth 200000 in
theorem kw_7 : ([140, 141, 142, 143, 144, 145, 146, 147, 148, 149, 150, 151, 152, 153, 154, 155, 156, 157, 158, 159] : List Nat).map mm_cw = ([922, 917, 930, 926, 934, 909, 942, 938, 889, 947, 951, 955, 959, 963, 967, 971, 975, 983, 979, 995] : List Nat).filterMap (fun i => tables_1[i]?) := by rfl
set_option maxRecDepth 200000 in
theorem kw_8 : ([160, 161, 162, 163, 164, 165, 166, 167, 168, 169, 170, 171, 172, 173, 174, 175, 176, 177] : List Nat).map mm_cw = ([991, 987, 999, 1003, 1015, 1011, 1007, 1020, 1024, 1036, 1032, 1028, 1040, 1044, 1055, 1060, 1048, 600] : List Nat).filterMap (fun i => tables_1[i]?) := by rfl
theorem kw_in : ∀ mid, mid < 179 → mid ≠ 178 → mm_cw mid ∈ tables_1 := by
  intro mid h hne
  have key : ∀ (l ps : List Nat), l.map mm_cw = ps.filterMap (fun i => tables_1[i]?) → mid ∈ l → mm_cw mid ∈ tables_1 := by
    intro l ps e hm
    have h1 : mm_cw mid ∈ l.map mm_cw := List.mem_map_of_mem hm
    rw [e] at h1
    obtain ⟨i, -, hi⟩ := List.mem_filterMap.mp h1
    exact List.mem_of_getElem? hi
  by_cases h0 : mid < 20
  · exact key _ _ kw_0 (by simp only [List.mem_cons, List.not_mem_nil, or_false]; omega)
  by_cases h1 : mid < 40
  · exact key _ _ kw_1 (by simp only [List.mem_cons, List.not_mem_nil, or_false]; omega)
  by_cases h2 : mid < 60
  · exact key _ _ kw_2 (by simp only [List.mem_cons, List.not_mem_nil, or_false]; omega)
  by_cases h3 : mid < 80
  · exact key _ _ kw_3 (by simp only [List.mem_cons, List.not_mem_nil, or_false]; omega)
  by_cases h4 : mid < 100
  · exact key _ _ kw_4 (by simp only [List.mem_cons, List.not_mem_nil, or_false]; omega)
  by_cases h5 : mid < 120
  · exact key _ _ kw_5 (by simp only [List.mem_cons, List.not_mem_nil, or_false]; omega)
  by_cases h6 : mid < 140
  · exact key _ _ kw_6 (by simp only [List.mem_cons, List.not_mem_nil, or_false]; omega)
  by_cases h7 : mid < 160
  · exact key _ _ kw_7 (by simp only [List.mem_cons, List.not_mem_nil, or_false]; omega)
  by_cases h8 : mid < 179
  · exact key _ _ kw_8 (by simp only [List.mem_cons, List.not_mem_nil, or_false]; omega)
  omega
end
section
/-! what the methods decode to -/
def mm_ln (i : Instr) (len : Nat) : Bool := match i with
  | .tableswitch _ _ _ _ => true
  | .iload _ => len == 2
  | .lload _ => len == 2
  | .aload _ => len == 2
  | .istore _ => len == 2
  | .lstore _ => len == 2
  | .astore _ => len == 2
  | .bipush _ => len == 2
  | .newarray _ => len == 2
  | .ldc _ => len == 2
  | .ldc_w _ => len == 3
  | .iinc _ _ => len == 3
  | .sipush _ => len == 3
  | .ldc2_w _ => len == 3
  | .goto _ => len == 3
  | .ifCond _ _ => len == 3
  | .if_icmp _ _ => len == 3
  | .getfield _ => len == 3
  | .putfield _ => len == 3
  | .getstatic _ => len == 3
  | .new _ => len == 3
  | .anewarray _ => len == 3
  | .multianewarray _ _ => len == 4
  | .invokevirtual _ => len == 3
  | .invokespecial _ => len == 3
  | .invokestatic _ => len == 3
  | _ => len == 1
def mm_tg (i : Instr) (pc tgt : Nat) : Bool := match i with
  | .goto off => decide ((pc : Int) + off = (tgt : Int))
  | .ifCond _ off => decide ((pc : Int) + off = (tgt : Int))
  | .if_icmp _ off => decide ((pc : Int) + off = (tgt : Int))
  | _ => true
def mm_ok1 (bs : ByteArray) (e : Nat × Instr × Nat × Nat) : Bool := decide (decode bs e.1 = .ok (e.2.1, e.2.2.1)) && mm_ln e.2.1 e.2.2.1 && mm_tg e.2.1 e.1 e.2.2.2
end
section
theorem kc_0 : (mm_kd.getD 0 []).all (mm_ok1 (mm_bb 0)) = true := by decide +kernel
theorem kc_1 : (mm_kd.getD 1 []).all (mm_ok1 (mm_bb 1)) = true := by decide +kernel
theorem kc_2 : (mm_kd.getD 2 []).all (mm_ok1 (mm_bb 2)) = true := by decide +kernel
theorem kc_3 : (mm_kd.getD 3 []).all (mm_ok1 (mm_bb 3)) = true := by decide +kernel
theorem kc_4 : (mm_kd.getD 4 []).all (mm_ok1 (mm_bb 4)) = true := by decide +kernel
theorem kc_5 : (mm_kd.getD 5 []).all (mm_ok1 (mm_bb 5)) = true := by decide +kernel
theorem kc_6 : (mm_kd.getD 6 []).all (mm_ok1 (mm_bb 6)) = true := by decide +kernel
theorem kc_7 : (mm_kd.getD 7 []).all (mm_ok1 (mm_bb 7)) = true := by decide +kernel
theorem kc_8 : (mm_kd.getD 8 []).all (mm_ok1 (mm_bb 8)) = true := by decide +kernel
theorem kc_9 : (mm_kd.getD 9 []).all (mm_ok1 (mm_bb 9)) = true := by decide +kernel
theorem kc_10 : (mm_kd.getD 10 []).all (mm_ok1 (mm_bb 10)) = true := by decide +kernel
theorem kc_11 : (mm_kd.getD 11 []).all (mm_ok1 (mm_bb 11)) = true := by decide +kernel
theorem kc_12 : (mm_kd.getD 12 []).all (mm_ok1 (mm_bb 12)) = true := by decide +kernel
theorem kc_13 : (mm_kd.getD 13 []).all (mm_ok1 (mm_bb 13)) = true := by decide +kernel
theorem kc_14 : (mm_kd.getD 14 []).all (mm_ok1 (mm_bb 14)) = true := by decide +kernel
theorem kc_15 : (mm_kd.getD 15 []).all (mm_ok1 (mm_bb 15)) = true := by decide +kernel
theorem kc_16 : (mm_kd.getD 16 []).all (mm_ok1 (mm_bb 16)) = true := by decide +kernel
theorem kc_17 : (mm_kd.getD 17 []).all (mm_ok1 (mm_bb 17)) = true := by decide +kernel
theorem kc_18 : (mm_kd.getD 18 []).all (mm_ok1 (mm_bb 18)) = true := by decide +kernel
theorem kc_19 : (mm_kd.getD 19 []).all (mm_ok1 (mm_bb 19)) = true := by decide +kernel
theorem kc_20 : (mm_kd.getD 20 []).all (mm_ok1 (mm_bb 20)) = true := by decide +kernel
theorem kc_21 : (mm_kd.getD 21 []).all (mm_ok1 (mm_bb 21)) = true := by decide +kernel
theorem kc_22 : (mm_kd.getD 22 []).all (mm_ok1 (mm_bb 22)) = true := by decide +kernel
theorem kc_23 : (mm_kd.getD 23 []).all (mm_ok1 (mm_bb 23)) = true := by decide +kernel
theorem kc_24 : (mm_kd.getD 24 []).all (mm_ok1 (mm_bb 24)) = true := by decide +kernel
theorem kc_25 : (mm_kd.getD 25 []).all (mm_ok1 (mm_bb 25)) = true := by decide +kernel
end
section
theorem kc_26 : (mm_kd.getD 26 []).all (mm_ok1 (mm_bb 26)) = true := by decide +kernel
theorem kc_27 : (mm_kd.getD 27 []).all (mm_ok1 (mm_bb 27)) = true := by decide +kernel
theorem kc_28 : (mm_kd.getD 28 []).all (mm_ok1 (mm_bb 28)) = true := by decide +kernel
theorem kc_29 : (mm_kd.getD 29 []).all (mm_ok1 (mm_bb 29)) = true := by decide +kernel
theorem kc_30 : (mm_kd.getD 30 []).all (mm_ok1 (mm_bb 30)) = true := by decide +kernel
theorem kc_31 : (mm_kd.getD 31 []).all (mm_ok1 (mm_bb 31)) = true := by decide +kernel
theorem kc_32 : (mm_kd.getD 32 []).all (mm_ok1 (mm_bb 32)) = true := by decide +kernel
theorem kc_33 : (mm_kd.getD 33 []).all (mm_ok1 (mm_bb 33)) = true := by decide +kernel
theorem kc_34 : (mm_kd.getD 34 []).all (mm_ok1 (mm_bb 34)) = true := by decide +kernel
theorem kc_35 : (mm_kd.getD 35 []).all (mm_ok1 (mm_bb 35)) = true := by decide +kernel
theorem kc_36 : (mm_kd.getD 36 []).all (mm_ok1 (mm_bb 36)) = true := by decide +kernel
theorem kc_37 : (mm_kd.getD 37 []).all (mm_ok1 (mm_bb 37)) = true := by decide +kernel
theorem kc_38 : (mm_kd.getD 38 []).all (mm_ok1 (mm_bb 38)) = true := by decide +kernel
theorem kc_39 : (mm_kd.getD 39 []).all (mm_ok1 (mm_bb 39)) = true := by decide +kernel
theorem kc_40 : (mm_kd.getD 40 []).all (mm_ok1 (mm_bb 40)) = true := by decide +kernel
theorem kc_41 : (mm_kd.getD 41 []).all (mm_ok1 (mm_bb 41)) = true := by decide +kernel
theorem kc_42 : (mm_kd.getD 42 []).all (mm_ok1 (mm_bb 42)) = true := by decide +kernel
theorem kc_43 : (mm_kd.getD 43 []).all (mm_ok1 (mm_bb 43)) = true := by decide +kernel
theorem kc_44 : (mm_kd.getD 44 []).all (mm_ok1 (mm_bb 44)) = true := by decide +kernel
theorem kc_45 : (mm_kd.getD 45 []).all (mm_ok1 (mm_bb 45)) = true := by decide +kernel
theorem kc_46 : (mm_kd.getD 46 []).all (mm_ok1 (mm_bb 46)) = true := by decide +kernel
theorem kc_47 : (mm_kd.getD 47 []).all (mm_ok1 (mm_bb 47)) = true := by decide +kernel
theorem kc_48 : (mm_kd.getD 48 []).all (mm_ok1 (mm_bb 48)) = true := by decide +kernel
theorem kc_49 : (mm_kd.getD 49 []).all (mm_ok1 (mm_bb 49)) = true := by decide +kernel
theorem kc_50 : (mm_kd.getD 50 []).all (mm_ok1 (mm_bb 50)) = true := by decide +kernel
theorem kc_51 : (mm_kd.getD 51 []).all (mm_ok1 (mm_bb 51)) = true := by decide +kernel
end
section
theorem kc_52 : (mm_kd.getD 52 []).all (mm_ok1 (mm_bb 52)) = true := by decide +kernel
theorem kc_53 : (mm_kd.getD 53 []).all (mm_ok1 (mm_bb 53)) = true := by decide +kernel
theorem kc_54 : (mm_kd.getD 54 []).all (mm_ok1 (mm_bb 54)) = true := by decide +kernel
theorem kc_55 : (mm_kd.getD 55 []).all (mm_ok1 (mm_bb 55)) = true := by decide +kernel
theorem kc_56 : (mm_kd.getD 56 []).all (mm_ok1 (mm_bb 56)) = true := by decide +kernel
theorem kc_57 : (mm_kd.getD 57 []).all (mm_ok1 (mm_bb 57)) = true := by decide +kernel
theorem kc_58 : (mm_kd.getD 58 []).all (mm_ok1 (mm_bb 58)) = true := by decide +kernel
theorem kc_59 : (mm_kd.getD 59 []).all (mm_ok1 (mm_bb 59)) = true := by decide +kernel
theorem kc_60 : (mm_kd.getD 60 []).all (mm_ok1 (mm_bb 60)) = true := by decide +kernel
theorem kc_61 : (mm_kd.getD 61 []).all (mm_ok1 (mm_bb 61)) = true := by decide +kernel
theorem kc_62 : (mm_kd.getD 62 []).all (mm_ok1 (mm_bb 62)) = true := by decide +kernel
theorem kc_63 : (mm_kd.getD 63 []).all (mm_ok1 (mm_bb 63)) = true := by decide +kernel
theorem kc_64 : (mm_kd.getD 64 []).all (mm_ok1 (mm_bb 64)) = true := by decide +kernel
theorem kc_65 : (mm_kd.getD 65 []).all (mm_ok1 (mm_bb 65)) = true := by decide +kernel
theorem kc_66 : (mm_kd.getD 66 []).all (mm_ok1 (mm_bb 66)) = true := by decide +kernel
theorem kc_67 : (mm_kd.getD 67 []).all (mm_ok1 (mm_bb 67)) = true := by decide +kernel
theorem kc_68 : (mm_kd.getD 68 []).all (mm_ok1 (mm_bb 68)) = true := by decide +kernel
theorem kc_69 : (mm_kd.getD 69 []).all (mm_ok1 (mm_bb 69)) = true := by decide +kernel
theorem kc_70 : (mm_kd.getD 70 []).all (mm_ok1 (mm_bb 70)) = true := by decide +kernel
theorem kc_71 : (mm_kd.getD 71 []).all (mm_ok1 (mm_bb 71)) = true := by decide +kernel
theorem kc_72 : (mm_kd.getD 72 []).all (mm_ok1 (mm_bb 72)) = true := by decide +kernel
theorem kc_73 : (mm_kd.getD 73 []).all (mm_ok1 (mm_bb 73)) = true := by decide +kernel
theorem kc_74 : (mm_kd.getD 74 []).all (mm_ok1 (mm_bb 74)) = true := by decide +kernel
theorem kc_75 : (mm_kd.getD 75 []).all (mm_ok1 (mm_bb 75)) = true := by decide +kernel
theorem kc_76 : (mm_kd.getD 76 []).all (mm_ok1 (mm_bb 76)) = true := by decide +kernel
theorem kc_77 : (mm_kd.getD 77 []).all (mm_ok1 (mm_bb 77)) = true := by decide +kernel
theorem kc_78 : (mm_kd.getD 78 []).all (mm_ok1 (mm_bb 78)) = true := by decide +kernel
theorem kc_79 : (mm_kd.getD 79 []).all (mm_ok1 (mm_bb 79)) = true := by decide +kernel
theorem kc_80 : (mm_kd.getD 80 []).all (mm_ok1 (mm_bb 80)) = true := by decide +kernel
theorem kc_81 : (mm_kd.getD 81 []).all (mm_ok1 (mm_bb 81)) = true := by decide +kernel
theorem kc_82 : (mm_kd.getD 82 []).all (mm_ok1 (mm_bb 82)) = true := by decide +kernel
theorem kc_83 : (mm_kd.getD 83 []).all (mm_ok1 (mm_bb 83)) = true := by decide +kernel
theorem kc_84 : (mm_kd.getD 84 []).all (mm_ok1 (mm_bb 84)) = true := by decide +kernel
end
section
theorem kc_85 : (mm_kd.getD 85 []).all (mm_ok1 (mm_bb 85)) = true := by decide +kernel
theorem kc_86 : (mm_kd.getD 86 []).all (mm_ok1 (mm_bb 86)) = true := by decide +kernel
theorem kc_87 : (mm_kd.getD 87 []).all (mm_ok1 (mm_bb 87)) = true := by decide +kernel
theorem kc_88 : (mm_kd.getD 88 []).all (mm_ok1 (mm_bb 88)) = true := by decide +kernel
theorem kc_89 : (mm_kd.getD 89 []).all (mm_ok1 (mm_bb 89)) = true := by decide +kernel
theorem kc_90 : (mm_kd.getD 90 []).all (mm_ok1 (mm_bb 90)) = true := by decide +kernel
theorem kc_91 : (mm_kd.getD 91 []).all (mm_ok1 (mm_bb 91)) = true := by decide +kernel
theorem kc_92 : (mm_kd.getD 92 []).all (mm_ok1 (mm_bb 92)) = true := by decide +kernel
theorem kc_93 : (mm_kd.getD 93 []).all (mm_ok1 (mm_bb 93)) = true := by decide +kernel
theorem kc_94 : (mm_kd.getD 94 []).all (mm_ok1 (mm_bb 94)) = true := by decide +kernel
theorem kc_95 : (mm_kd.getD 95 []).all (mm_ok1 (mm_bb 95)) = true := by decide +kernel
theorem kc_96 : (mm_kd.getD 96 []).all (mm_ok1 (mm_bb 96)) = true := by decide +kernel
theorem kc_97 : (mm_kd.getD 97 []).all (mm_ok1 (mm_bb 97)) = true := by decide +kernel
theorem kc_98 : (mm_kd.getD 98 []).all (mm_ok1 (mm_bb 98)) = true := by decide +kernel
theorem kc_99 : (mm_kd.getD 99 []).all (mm_ok1 (mm_bb 99)) = true := by decide +kernel
theorem kc_100 : (mm_kd.getD 100 []).all (mm_ok1 (mm_bb 100)) = true := by decide +kernel
theorem kc_101 : (mm_kd.getD 101 []).all (mm_ok1 (mm_bb 101)) = true := by decide +kernel
theorem kc_102 : (mm_kd.getD 102 []).all (mm_ok1 (mm_bb 102)) = true := by decide +kernel
theorem kc_103 : (mm_kd.getD 103 []).all (mm_ok1 (mm_bb 103)) = true := by decide +kernel
theorem kc_104 : (mm_kd.getD 104 []).all (mm_ok1 (mm_bb 104)) = true := by decide +kernel
theorem kc_105 : (mm_kd.getD 105 []).all (mm_ok1 (mm_bb 105)) = true := by decide +kernel
theorem kc_106 : (mm_kd.getD 106 []).all (mm_ok1 (mm_bb 106)) = true := by decide +kernel
theorem kc_107 : (mm_kd.getD 107 []).all (mm_ok1 (mm_bb 107)) = true := by decide +kernel
theorem kc_108 : (mm_kd.getD 108 []).all (mm_ok1 (mm_bb 108)) = true := by decide +kernel
theorem kc_109 : (mm_kd.getD 109 []).all (mm_ok1 (mm_bb 109)) = true := by decide +kernel
theorem kc_110 : (mm_kd.getD 110 []).all (mm_ok1 (mm_bb 110)) = true := by decide +kernel
theorem kc_111 : (mm_kd.getD 111 []).all (mm_ok1 (mm_bb 111)) = true := by decide +kernel
theorem kc_112 : (mm_kd.getD 112 []).all (mm_ok1 (mm_bb 112)) = true := by decide +kernel
theorem kc_113 : (mm_kd.getD 113 []).all (mm_ok1 (mm_bb 113)) = true := by decide +kernel
theorem kc_114 : (mm_kd.getD 114 []).all (mm_ok1 (mm_bb 114)) = true := by decide +kernel
theorem kc_115 : (mm_kd.getD 115 []).all (mm_ok1 (mm_bb 115)) = true := by decide +kernel
theorem kc_116 : (mm_kd.getD 116 []).all (mm_ok1 (mm_bb 116)) = true := by decide +kernel
end
section
theorem kc_117 : (mm_kd.getD 117 []).all (mm_ok1 (mm_bb 117)) = true := by decide +kernel
theorem kc_118 : (mm_kd.getD 118 []).all (mm_ok1 (mm_bb 118)) = true := by decide +kernel
theorem kc_119 : (mm_kd.getD 119 []).all (mm_ok1 (mm_bb 119)) = true := by decide +kernel
theorem kc_120 : (mm_kd.getD 120 []).all (mm_ok1 (mm_bb 120)) = true := by decide +kernel
theorem kc_121 : (mm_kd.getD 121 []).all (mm_ok1 (mm_bb 121)) = true := by decide +kernel
theorem kc_122 : (mm_kd.getD 122 []).all (mm_ok1 (mm_bb 122)) = true := by decide +kernel
theorem kc_123 : (mm_kd.getD 123 []).all (mm_ok1 (mm_bb 123)) = true := by decide +kernel
theorem kc_124 : (mm_kd.getD 124 []).all (mm_ok1 (mm_bb 124)) = true := by decide +kernel
theorem kc_125 : (mm_kd.getD 125 []).all (mm_ok1 (mm_bb 125)) = true := by decide +kernel
theorem kc_126 : (mm_kd.getD 126 []).all (mm_ok1 (mm_bb 126)) = true := by decide +kernel
theorem kc_127 : (mm_kd.getD 127 []).all (mm_ok1 (mm_bb 127)) = true := by decide +kernel
theorem kc_128 : (mm_kd.getD 128 []).all (mm_ok1 (mm_bb 128)) = true := by decide +kernel
theorem kc_129 : (mm_kd.getD 129 []).all (mm_ok1 (mm_bb 129)) = true := by decide +kernel
theorem kc_130 : (mm_kd.getD 130 []).all (mm_ok1 (mm_bb 130)) = true := by decide +kernel
theorem kc_131 : (mm_kd.getD 131 []).all (mm_ok1 (mm_bb 131)) = true := by decide +kernel
theorem kc_132 : (mm_kd.getD 132 []).all (mm_ok1 (mm_bb 132)) = true := by decide +kernel
theorem kc_133 : (mm_kd.getD 133 []).all (mm_ok1 (mm_bb 133)) = true := by decide +kernel
theorem kc_134 : (mm_kd.getD 134 []).all (mm_ok1 (mm_bb 134)) = true := by decide +kernel
end
section
theorem kc_135 : (mm_kd.getD 135 []).all (mm_ok1 (mm_bb 135)) = true := by decide +kernel
theorem kc_136 : (mm_kd.getD 136 []).all (mm_ok1 (mm_bb 136)) = true := by decide +kernel
theorem kc_137 : (mm_kd.getD 137 []).all (mm_ok1 (mm_bb 137)) = true := by decide +kernel
theorem kc_138 : (mm_kd.getD 138 []).all (mm_ok1 (mm_bb 138)) = true := by decide +kernel
theorem kc_139 : (mm_kd.getD 139 []).all (mm_ok1 (mm_bb 139)) = true := by decide +kernel
theorem kc_140 : (mm_kd.getD 140 []).all (mm_ok1 (mm_bb 140)) = true := by decide +kernel
theorem kc_141 : (mm_kd.getD 141 []).all (mm_ok1 (mm_bb 141)) = true := by decide +kernel
theorem kc_142 : (mm_kd.getD 142 []).all (mm_ok1 (mm_bb 142)) = true := by decide +kernel
theorem kc_143 : (mm_kd.getD 143 []).all (mm_ok1 (mm_bb 143)) = true := by decide +kernel
theorem kc_144 : (mm_kd.getD 144 []).all (mm_ok1 (mm_bb 144)) = true := by decide +kernel
theorem kc_145 : (mm_kd.getD 145 []).all (mm_ok1 (mm_bb 145)) = true := by decide +kernel
end
section
theorem kc_146 : (mm_kd.getD 146 []).all (mm_ok1 (mm_bb 146)) = true := by decide +kernel
theorem kc_147 : (mm_kd.getD 147 []).all (mm_ok1 (mm_bb 147)) = true := by decide +kernel
theorem kc_148 : (mm_kd.getD 148 []).all (mm_ok1 (mm_bb 148)) = true := by decide +kernel
theorem kc_149 : (mm_kd.getD 149 []).all (mm_ok1 (mm_bb 149)) = true := by decide +kernel
theorem kc_150 : (mm_kd.getD 150 []).all (mm_ok1 (mm_bb 150)) = true := by decide +kernel
theorem kc_151 : (mm_kd.getD 151 []).all (mm_ok1 (mm_bb 151)) = true := by decide +kernel
theorem kc_152 : (mm_kd.getD 152 []).all (mm_ok1 (mm_bb 152)) = true := by decide +kernel
theorem kc_153 : (mm_kd.getD 153 []).all (mm_ok1 (mm_bb 153)) = true := by decide +kernel
theorem kc_154 : (mm_kd.getD 154 []).all (mm_ok1 (mm_bb 154)) = true := by decide +kernel
theorem kc_155 : (mm_kd.getD 155 []).all (mm_ok1 (mm_bb 155)) = true := by decide +kernel
theorem kc_156 : (mm_kd.getD 156 []).all (mm_ok1 (mm_bb 156)) = true := by decide +kernel
theorem kc_157 : (mm_kd.getD 157 []).all (mm_ok1 (mm_bb 157)) = true := by decide +kernel
theorem kc_158 : (mm_kd.getD 158 []).all (mm_ok1 (mm_bb 158)) = true := by decide +kernel
theorem kc_159 : (mm_kd.getD 159 []).all (mm_ok1 (mm_bb 159)) = true := by decide +kernel
theorem kc_160 : (mm_kd.getD 160 []).all (mm_ok1 (mm_bb 160)) = true := by decide +kernel
theorem kc_161 : (mm_kd.getD 161 []).all (mm_ok1 (mm_bb 161)) = true := by decide +kernel
theorem kc_162 : (mm_kd.getD 162 []).all (mm_ok1 (mm_bb 162)) = true := by decide +kernel
theorem kc_163 : (mm_kd.getD 163 []).all (mm_ok1 (mm_bb 163)) = true := by decide +kernel
theorem kc_164 : (mm_kd.getD 164 []).all (mm_ok1 (mm_bb 164)) = true := by decide +kernel
theorem kc_165 : (mm_kd.getD 165 []).all (mm_ok1 (mm_bb 165)) = true := by decide +kernel
theorem kc_166 : (mm_kd.getD 166 []).all (mm_ok1 (mm_bb 166)) = true := by decide +kernel
theorem kc_167 : (mm_kd.getD 167 []).all (mm_ok1 (mm_bb 167)) = true := by decide +kernel
theorem kc_168 : (mm_kd.getD 168 []).all (mm_ok1 (mm_bb 168)) = true := by decide +kernel
end
section
theorem kc_169 : (mm_kd.getD 169 []).all (mm_ok1 (mm_bb 169)) = true := by decide +kernel
theorem kc_170 : (mm_kd.getD 170 []).all (mm_ok1 (mm_bb 170)) = true := by decide +kernel
theorem kc_171 : (mm_kd.getD 171 []).all (mm_ok1 (mm_bb 171)) = true := by decide +kernel
theorem kc_172 : (mm_kd.getD 172 []).all (mm_ok1 (mm_bb 172)) = true := by decide +kernel
theorem kc_173 : (mm_kd.getD 173 []).all (mm_ok1 (mm_bb 173)) = true := by decide +kernel
theorem kc_174 : (mm_kd.getD 174 []).all (mm_ok1 (mm_bb 174)) = true := by decide +kernel
theorem kc_175 : (mm_kd.getD 175 []).all (mm_ok1 (mm_bb 175)) = true := by decide +kernel
theorem kc_176 : (mm_kd.getD 176 []).all (mm_ok1 (mm_bb 176)) = true := by decide +kernel
theorem kc_177 : (mm_kd.getD 177 []).all (mm_ok1 (mm_bb 177)) = true := by decide +kernel
end
section
theorem kc_law_0 : ((kd_La_law.drop 0).take 52).all (mm_ok1 code) = true := by decide +kernel
theorem kc_law_52 : ((kd_La_law.drop 52).take 52).all (mm_ok1 code) = true := by decide +kernel
theorem kc_law_104 : ((kd_La_law.drop 104).take 52).all (mm_ok1 code) = true := by decide +kernel
end
section
theorem kc_law_156 : ((kd_La_law.drop 156).take 52).all (mm_ok1 code) = true := by decide +kernel
theorem kc_law_208 : ((kd_La_law.drop 208).take 52).all (mm_ok1 code) = true := by decide +kernel
theorem kc_law_260 : ((kd_La_law.drop 260).take 52).all (mm_ok1 code) = true := by decide +kernel
end
section
theorem kc_law_312 : ((kd_La_law.drop 312).take 52).all (mm_ok1 code) = true := by decide +kernel
theorem kc_law_364 : ((kd_La_law.drop 364).take 52).all (mm_ok1 code) = true := by decide +kernel
theorem kc_law_416 : ((kd_La_law.drop 416).take 52).all (mm_ok1 code) = true := by decide +kernel
end
section
theorem kc_law_468 : ((kd_La_law.drop 468).take 52).all (mm_ok1 code) = true := by decide +kernel
theorem kc_law_520 : ((kd_La_law.drop 520).take 52).all (mm_ok1 code) = true := by decide +kernel
theorem kc_law_572 : ((kd_La_law.drop 572).take 52).all (mm_ok1 code) = true := by decide +kernel
end
section
theorem kc_cut (l : List (Nat × Instr × Nat × Nat)) (f : Nat × Instr × Nat × Nat → Bool) (a n : Nat) (h1 : ((l.drop a).take n).all f = true) (h2 : (l.drop (a + n)).all f = true) : (l.drop a).all f = true := by
  rw [← List.take_append_drop n (l.drop a), List.all_append, h1, List.drop_drop, h2]
  rfl
theorem kc_178 : (mm_kd.getD 178 []).all (mm_ok1 (mm_bb 178)) = true := by
  show kd_La_law.all (mm_ok1 code) = true
  have h624 : (kd_La_law.drop 624).all (mm_ok1 code) = true := by decide +kernel
  have h572 := kc_cut kd_La_law (mm_ok1 code) 572 52 kc_law_572 h624
  have h520 := kc_cut kd_La_law (mm_ok1 code) 520 52 kc_law_520 h572
  have h468 := kc_cut kd_La_law (mm_ok1 code) 468 52 kc_law_468 h520
  have h416 := kc_cut kd_La_law (mm_ok1 code) 416 52 kc_law_416 h468
  have h364 := kc_cut kd_La_law (mm_ok1 code) 364 52 kc_law_364 h416
  have h312 := kc_cut kd_La_law (mm_ok1 code) 312 52 kc_law_312 h364
  have h260 := kc_cut kd_La_law (mm_ok1 code) 260 52 kc_law_260 h312
  have h208 := kc_cut kd_La_law (mm_ok1 code) 208 52 kc_law_208 h260
  have h156 := kc_cut kd_La_law (mm_ok1 code) 156 52 kc_law_156 h208
  have h104 := kc_cut kd_La_law (mm_ok1 code) 104 52 kc_law_104 h156
  have h52 := kc_cut kd_La_law (mm_ok1 code) 52 52 kc_law_52 h104
  have h0 := kc_cut kd_La_law (mm_ok1 code) 0 52 kc_law_0 h52
  exact h0
theorem kc_all : ∀ mid, mid < 179 → (mm_kd.getD mid []).all (mm_ok1 (mm_bb mid)) = true := by
  intro mid h
  by_cases h0 : mid < 20
  · have : mid = 0 ∨ mid = 1 ∨ mid = 2 ∨ mid = 3 ∨ mid = 4 ∨ mid = 5 ∨ mid = 6 ∨ mid = 7 ∨ mid = 8 ∨ mid = 9 ∨ mid = 10 ∨ mid = 11 ∨ mid = 12 ∨ mid = 13 ∨ mid = 14 ∨ mid = 15 ∨ mid = 16 ∨ mid = 17 ∨ mid = 18 ∨ mid = 19 := by omega
    rcases this with rfl | rfl | rfl | rfl | rfl | rfl | rfl | rfl | rfl | rfl | rfl | rfl | rfl | rfl | rfl | rfl | rfl | rfl | rfl | rfl
    · exact kc_0
    · exact kc_1
    · exact kc_2
    · exact kc_3
    · exact kc_4
    · exact kc_5
    · exact kc_6
    · exact kc_7
    · exact kc_8
    · exact kc_9
    · exact kc_10
    · exact kc_11
    · exact kc_12
    · exact kc_13
    · exact kc_14
    · exact kc_15
    · exact kc_16
    · exact kc_17
    · exact kc_18
    · exact kc_19
  by_cases h1 : mid < 40
  · have : mid = 20 ∨ mid = 21 ∨ mid = 22 ∨ mid = 23 ∨ mid = 24 ∨ mid = 25 ∨ mid = 26 ∨ mid = 27 ∨ mid = 28 ∨ mid = 29 ∨ mid = 30 ∨ mid = 31 ∨ mid = 32 ∨ mid = 33 ∨ mid = 34 ∨ mid = 35 ∨ mid = 36 ∨ mid = 37 ∨ mid = 38 ∨ mid = 39 := by omega
    rcases this with rfl | rfl | rfl | rfl | rfl | rfl | rfl | rfl | rfl | rfl | rfl | rfl | rfl | rfl | rfl | rfl | rfl | rfl | rfl | rfl
    · exact kc_20
    · exact kc_21
    · exact kc_22
    · exact kc_23
    · exact kc_24
    · exact kc_25
    · exact kc_26
    · exact kc_27
    · exact kc_28
    · exact kc_29
    · exact kc_30
    · exact kc_31
    · exact kc_32
    · exact kc_33
    · exact kc_34
    · exact kc_35
    · exact kc_36
    · exact kc_37
    · exact kc_38
    · exact kc_39
  by_cases h2 : mid < 60
  · have : mid = 40 ∨ mid = 41 ∨ mid = 42 ∨ mid = 43 ∨ mid = 44 ∨ mid = 45 ∨ mid = 46 ∨ mid = 47 ∨ mid = 48 ∨ mid = 49 ∨ mid = 50 ∨ mid = 51 ∨ mid = 52 ∨ mid = 53 ∨ mid = 54 ∨ mid = 55 ∨ mid = 56 ∨ mid = 57 ∨ mid = 58 ∨ mid = 59 := by omega
    rcases this with rfl | rfl | rfl | rfl | rfl | rfl | rfl | rfl | rfl | rfl | rfl | rfl | rfl | rfl | rfl | rfl | rfl | rfl | rfl | rfl
    · exact kc_40
    · exact kc_41
    · exact kc_42
    · exact kc_43
    · exact kc_44
    · exact kc_45
    · exact kc_46
    · exact kc_47
    · exact kc_48
    · exact kc_49
    · exact kc_50
    · exact kc_51
    · exact kc_52
    · exact kc_53
    · exact kc_54
    · exact kc_55
    · exact kc_56
    · exact kc_57
    · exact kc_58
    · exact kc_59
  by_cases h3 : mid < 80
  · have : mid = 60 ∨ mid = 61 ∨ mid = 62 ∨ mid = 63 ∨ mid = 64 ∨ mid = 65 ∨ mid = 66 ∨ mid = 67 ∨ mid = 68 ∨ mid = 69 ∨ mid = 70 ∨ mid = 71 ∨ mid = 72 ∨ mid = 73 ∨ mid = 74 ∨ mid = 75 ∨ mid = 76 ∨ mid = 77 ∨ mid = 78 ∨ mid = 79 := by omega
    rcases this with rfl | rfl | rfl | rfl | rfl | rfl | rfl | rfl | rfl | rfl | rfl | rfl | rfl | rfl | rfl | rfl | rfl | rfl | rfl | rfl
    · exact kc_60
    · exact kc_61
    · exact kc_62
    · exact kc_63
    · exact kc_64
    · exact kc_65
    · exact kc_66
    · exact kc_67
    · exact kc_68
    · exact kc_69
    · exact kc_70
    · exact kc_71
    · exact kc_72
    · exact kc_73
    · exact kc_74
    · exact kc_75
    · exact kc_76
    · exact kc_77
    · exact kc_78
    · exact kc_79
  by_cases h4 : mid < 100
  · have : mid = 80 ∨ mid = 81 ∨ mid = 82 ∨ mid = 83 ∨ mid = 84 ∨ mid = 85 ∨ mid = 86 ∨ mid = 87 ∨ mid = 88 ∨ mid = 89 ∨ mid = 90 ∨ mid = 91 ∨ mid = 92 ∨ mid = 93 ∨ mid = 94 ∨ mid = 95 ∨ mid = 96 ∨ mid = 97 ∨ mid = 98 ∨ mid = 99 := by omega
    rcases this with rfl | rfl | rfl | rfl | rfl | rfl | rfl | rfl | rfl | rfl | rfl | rfl | rfl | rfl | rfl | rfl | rfl | rfl | rfl | rfl
    · exact kc_80
    · exact kc_81
    · exact kc_82
    · exact kc_83
    · exact kc_84
    · exact kc_85
    · exact kc_86
    · exact kc_87
    · exact kc_88
    · exact kc_89
    · exact kc_90
    · exact kc_91
    · exact kc_92
    · exact kc_93
    · exact kc_94
    · exact kc_95
    · exact kc_96
    · exact kc_97
    · exact kc_98
    · exact kc_99
  by_cases h5 : mid < 120
  · have : mid = 100 ∨ mid = 101 ∨ mid = 102 ∨ mid = 103 ∨ mid = 104 ∨ mid = 105 ∨ mid = 106 ∨ mid = 107 ∨ mid = 108 ∨ mid = 109 ∨ mid = 110 ∨ mid = 111 ∨ mid = 112 ∨ mid = 113 ∨ mid = 114 ∨ mid = 115 ∨ mid = 116 ∨ mid = 117 ∨ mid = 118 ∨ mid = 119 := by omega
    rcases this with rfl | rfl | rfl | rfl | rfl | rfl | rfl | rfl | rfl | rfl | rfl | rfl | rfl | rfl | rfl | rfl | rfl | rfl | rfl | rfl
    · exact kc_100
    · exact kc_101
    · exact kc_102
    · exact kc_103
    · exact kc_104
    · exact kc_105
    · exact kc_106
    · exact kc_107
    · exact kc_108
    · exact kc_109
    · exact kc_110
    · exact kc_111
    · exact kc_112
    · exact kc_113
    · exact kc_114
    · exact kc_115
    · exact kc_116
    · exact kc_117
    · exact kc_118
    · exact kc_119
  by_cases h6 : mid < 140
  · have : mid = 120 ∨ mid = 121 ∨ mid = 122 ∨ mid = 123 ∨ mid = 124 ∨ mid = 125 ∨ mid = 126 ∨ mid = 127 ∨ mid = 128 ∨ mid = 129 ∨ mid = 130 ∨ mid = 131 ∨ mid = 132 ∨ mid = 133 ∨ mid = 134 ∨ mid = 135 ∨ mid = 136 ∨ mid = 137 ∨ mid = 138 ∨ mid = 139 := by omega
    rcases this with rfl | rfl | rfl | rfl | rfl | rfl | rfl | rfl | rfl | rfl | rfl | rfl | rfl | rfl | rfl | rfl | rfl | rfl | rfl | rfl
    · exact kc_120
    · exact kc_121
    · exact kc_122
    · exact kc_123
    · exact kc_124
    · exact kc_125
    · exact kc_126
    · exact kc_127
    · exact kc_128
    · exact kc_129
    · exact kc_130
    · exact kc_131
    · exact kc_132
    · exact kc_133
    · exact kc_134
    · exact kc_135
    · exact kc_136
    · exact kc_137
    · exact kc_138
    · exact kc_139
  by_cases h7 : mid < 160
  · have : mid = 140 ∨ mid = 141 ∨ mid = 142 ∨ mid = 143 ∨ mid = 144 ∨ mid = 145 ∨ mid = 146 ∨ mid = 147 ∨ mid = 148 ∨ mid = 149 ∨ mid = 150 ∨ mid = 151 ∨ mid = 152 ∨ mid = 153 ∨ mid = 154 ∨ mid = 155 ∨ mid = 156 ∨ mid = 157 ∨ mid = 158 ∨ mid = 159 := by omega
    rcases this with rfl | rfl | rfl | rfl | rfl | rfl | rfl | rfl | rfl | rfl | rfl | rfl | rfl | rfl | rfl | rfl | rfl | rfl | rfl | rfl
    · exact kc_140
    · exact kc_141
    · exact kc_142
    · exact kc_143
    · exact kc_144
    · exact kc_145
    · exact kc_146
    · exact kc_147
    · exact kc_148
    · exact kc_149
    · exact kc_150
    · exact kc_151
    · exact kc_152
    · exact kc_153
    · exact kc_154
    · exact kc_155
    · exact kc_156
    · exact kc_157
    · exact kc_158
    · exact kc_159
  by_cases h8 : mid < 179
  · have : mid = 160 ∨ mid = 161 ∨ mid = 162 ∨ mid = 163 ∨ mid = 164 ∨ mid = 165 ∨ mid = 166 ∨ mid = 167 ∨ mid = 168 ∨ mid = 169 ∨ mid = 170 ∨ mid = 171 ∨ mid = 172 ∨ mid = 173 ∨ mid = 174 ∨ mid = 175 ∨ mid = 176 ∨ mid = 177 ∨ mid = 178 := by omega
    rcases this with rfl | rfl | rfl | rfl | rfl | rfl | rfl | rfl | rfl | rfl | rfl | rfl | rfl | rfl | rfl | rfl | rfl | rfl | rfl
    · exact kc_160
    · exact kc_161
    · exact kc_162
    · exact kc_163
    · exact kc_164
    · exact kc_165
    · exact kc_166
    · exact kc_167
    · exact kc_168
    · exact kc_169
    · exact kc_170
    · exact kc_171
    · exact kc_172
    · exact kc_173
    · exact kc_174
    · exact kc_175
    · exact kc_176
    · exact kc_177
    · exact kc_178
  omega
end
section
/-! what the tables say of calls: the words by their places -/
def kp_m0 : List (Nat × Nat) := [(3, 124), (55, 432), (59, 436), (66, 444), (70, 452), (76, 467), (82, 448), (86, 453), (90, 457), (94, 461), (98, 465), (101, 466)]
def kp_m1 : List (Nat × Nat) := [(1, 158), (26, 161), (31, 471), (39, 492), (43, 493), (46, 500), (49, 517), (53, 497), (56, 504), (62, 507), (65, 511), (69, 514), (72, 696)]
def kp_m2 : List (Nat × Nat) := [(3, 196), (28, 583), (32, 579), (40, 590), (47, 594), (50, 598), (55, 604), (58, 608), (61, 653), (64, 657)]
def kp_m3 : List (Nat × Nat) := [(1, 164), (13, 475), (19, 482), (25, 485), (29, 489), (33, 479), (39, 480)]
def kp_m4 : List (Nat × Nat) := [(3, 62), (31, 68), (38, 316), (44, 331), (48, 335), (52, 343), (62, 347), (66, 374), (73, 382), (76, 351), (80, 355), (83, 378), (87, 386), (88, 339)]
def kp_m5 : List (Nat × Nat) := [(3, 29)]
def kp_m6 : List (Nat × Nat) := [(5, 71), (35, 359), (39, 367), (45, 370), (63, 363), (70, 390), (74, 391), (77, 395)]
def kp_m7 : List (Nat × Nat) := [(3, 20), (19, 26), (29, 59), (36, 121), (43, 155), (50, 193), (55, 259), (63, 265), (67, 273), (71, 281), (77, 284), (81, 292), (84, 296), (88, 312), (95, 327), (108, 406), (112, 300), (115, 308), (119, 411), (123, 412), (126, 424), (129, 544), (132, 439), (136, 552), (139, 557), (149, 562), (158, 571), (161, 575), (167, 586), (170, 616), (180, 628), (183, 636), (186, 649), (192, 665), (197, 670), (205, 680), (208, 681), (212, 686), (213, 691), (216, 692), (217, 262), (220, 304), (224, 416), (227, 420), (230, 556), (233, 428)]
def kp_m8 : List (Nat × Nat) := [(1, 703), (83, 805), (91, 812), (102, 822), (110, 830), (113, 834), (117, 864), (121, 867), (125, 871), (129, 860), (133, 856), (140, 852), (144, 848), (147, 882), (154, 898), (157, 902), (160, 894), (164, 906), (171, 935), (176, 910), (180, 914), (184, 919), (187, 923), (190, 927), (193, 931), (198, 939), (202, 890), (208, 980), (214, 992), (217, 988), (221, 1008), (225, 1012), (231, 1033), (234, 1029), (244, 1052), (248, 1049), (253, 1051), (256, 1057), (259, 1061)]
def kp_m9 : List (Nat × Nat) := []
def kp_m10 : List (Nat × Nat) := [(11, 510), (15, 520)]
def kp_m11 : List (Nat × Nat) := [(9, 17), (12, 700), (13, 255), (17, 799), (18, 269), (22, 808), (23, 277), (27, 816), (28, 288), (31, 826), (32, 319), (36, 840), (37, 323), (40, 844), (41, 398), (44, 874), (45, 402), (48, 878), (49, 407), (52, 886), (53, 524), (56, 944), (57, 528), (60, 948), (61, 532), (65, 952), (66, 536), (69, 956), (70, 540), (73, 960), (74, 548), (78, 964), (79, 558), (82, 968), (83, 563), (86, 972), (87, 567), (90, 976), (91, 612), (94, 984), (95, 620), (98, 996), (99, 624), (102, 1000), (103, 632), (106, 1004), (107, 637), (110, 1017), (111, 641), (114, 1021), (115, 645), (118, 1025), (119, 661), (122, 1037), (123, 666), (126, 1041), (127, 674), (131, 1045)]
def kp_m12 : List (Nat × Nat) := []
def kp_m13 : List (Nat × Nat) := []
def kp_m14 : List (Nat × Nat) := []
def kp_m15 : List (Nat × Nat) := []
def ck_m1 (own : Nat) (e : Nat × Nat) (q : Nat × Nat) : Bool := Nat.beq e.1 q.1 && (if e.2 = 900 then decide (tables_1[q.2]? = some (Jvm.Cond.methodLink (mm_on own) e.1 Lib.objectInit))
  else if e.2 = 901 then decide (tables_1[q.2]? = some (Jvm.Cond.methodLink (mm_on own) e.1 arraycopyName))
  else if e.2 = 902 then decide (tables_1[q.2]? = some (Jvm.Cond.methodLink (mm_on own) e.1 Lib.Math.min.name))
  else (decide (tables_1[q.2]? = some (Jvm.Cond.methodLink (mm_on own) e.1 (mm_yy e.2))) || (mm_ini e.2 && decide (tables_1[q.2]? = some (Jvm.Cond.methodLinkNest (mm_on own) e.1 (mm_yy e.2) "DrawnTold")))) && Nat.blt e.2 178)
def ck_m2 (own : Nat) : List (Nat × Nat) → List (Nat × Nat) → Bool
  | [], [] => true
  | e :: r, q :: p => ck_m1 own e q && ck_m2 own r p
  | _, _ => false
theorem ck_m2_mem (own : Nat) : ∀ (l p : List (Nat × Nat)), ck_m2 own l p = true → ∀ e ∈ l, ∃ q, ck_m1 own e q = true
  | [], [], _, e, h => absurd h List.not_mem_nil
  | e0 :: r, q :: p, hc, e, h => by
    rw [ck_m2, Bool.and_eq_true] at hc
    rcases List.mem_cons.mp h with rfl | h
    · exact ⟨q, hc.1⟩
    · exact ck_m2_mem own r p hc.2 e h
  | [], _ :: _, hc, _, _ => by cases hc
  | _ :: _, [], hc, _, _ => by cases hc
theorem ck_ml0 : ck_m2 0 (mm_ml.getD 0 []) kp_m0 = true := by decide +kernel
theorem ck_ml1 : ck_m2 1 (mm_ml.getD 1 []) kp_m1 = true := by decide +kernel
theorem ck_ml2 : ck_m2 2 (mm_ml.getD 2 []) kp_m2 = true := by decide +kernel
theorem ck_ml3 : ck_m2 3 (mm_ml.getD 3 []) kp_m3 = true := by decide +kernel
theorem ck_ml4 : ck_m2 4 (mm_ml.getD 4 []) kp_m4 = true := by decide +kernel
theorem ck_ml5 : ck_m2 5 (mm_ml.getD 5 []) kp_m5 = true := by decide +kernel
theorem ck_ml6 : ck_m2 6 (mm_ml.getD 6 []) kp_m6 = true := by decide +kernel
theorem ck_ml7 : ck_m2 7 (mm_ml.getD 7 []) kp_m7 = true := by decide +kernel
theorem ck_ml8 : ck_m2 8 (mm_ml.getD 8 []) kp_m8 = true := by decide +kernel
theorem ck_ml9 : ck_m2 9 (mm_ml.getD 9 []) kp_m9 = true := by decide +kernel
theorem ck_ml10 : ck_m2 10 (mm_ml.getD 10 []) kp_m10 = true := by decide +kernel
theorem ck_ml11 : ck_m2 11 (mm_ml.getD 11 []) kp_m11 = true := by decide +kernel
theorem ck_ml12 : ck_m2 12 (mm_ml.getD 12 []) kp_m12 = true := by decide +kernel
theorem ck_ml13 : ck_m2 13 (mm_ml.getD 13 []) kp_m13 = true := by decide +kernel
theorem ck_ml14 : ck_m2 14 (mm_ml.getD 14 []) kp_m14 = true := by decide +kernel
theorem ck_ml15 : ck_m2 15 (mm_ml.getD 15 []) kp_m15 = true := by decide +kernel
end
section
def ck_y1 (mid : Nat) (q : Nat × Nat) : Bool := decide ((mm_yy mid).cls ≠ "java/lang/invoke/MethodHandle") && decide ((mm_yy mid).cls ≠ "java/lang/invoke/VarHandle") && decide ((parseMethodDescriptor (mm_yy mid).desc).map (fun d => d.parameters.length) = some (mi_n (mm_of mid))) && decide ((mm_yy mid).cls = mm_on (mi_c (mm_of mid))) && plainName (mm_yy mid).cls
  && (if mi_s (mm_of mid) = 1 then decide (tables_1[q.1]? = some (Jvm.Cond.static (mm_yy mid))) else decide (tables_1[q.1]? = some (Jvm.Cond.instanceMethod (mm_yy mid))) && (if mm_ini mid = true then decide ((mm_yy mid).name = "<init>") && decide (mi_r (mm_of mid) = 0) else decide (lw_tbl[q.2]? = some (Jvm.Cond.selects (mm_yy mid).cls (mm_yy mid) (mm_yy mid)))))
def ck_y2 (k : Nat) : List (Nat × Nat) → Bool
  | [] => true
  | q :: p => ck_y1 k q && ck_y2 (k + 1) p
theorem ck_y2_mem : ∀ (l : List (Nat × Nat)) (k : Nat), ck_y2 k l = true → ∀ j, j < l.length → ∃ q, ck_y1 (k + j) q = true
  | [], _, _, j, h => absurd h (Nat.not_lt_zero j)
  | q :: p, k, hc, j, h => by
    rw [ck_y2, Bool.and_eq_true] at hc
    cases j with
    | zero => exact ⟨q, hc.1⟩
    | succ j =>
      rw [show k + (j + 1) = k + 1 + j by omega]
      exact ck_y2_mem p (k + 1) hc.2 j (by simpa using h)
def kp_y0 : List (Nat × Nat) := [(122, 0), (417, 481), (421, 485), (429, 493), (545, 609), (434, 12), (437, 0), (440, 504), (446, 13), (450, 14), (455, 15), (459, 16), (463, 17), (364, 0), (396, 0), (368, 0), (156, 0), (468, 532), (495, 19), (502, 20), (693, 757), (194, 0), (584, 0), (581, 23), (610, 26), (576, 640), (587, 651), (596, 24), (606, 25), (591, 655)]
theorem ck_ys0 : ck_y2 0 kp_y0 = true := by decide +kernel
def kp_y1 : List (Nat × Nat) := [(629, 693), (650, 714), (655, 28), (659, 29), (687, 751), (162, 0), (472, 536), (477, 18), (60, 0), (313, 377), (328, 392), (345, 5), (332, 396), (348, 412), (376, 8), (383, 447), (336, 400), (483, 0), (490, 0), (512, 0), (486, 0), (515, 0), (498, 0), (508, 0), (518, 0), (521, 0), (27, 0), (285, 349), (305, 369), (309, 373)]
theorem ck_ys1 : ck_y2 30 kp_y1 = true := by decide +kernel
def kp_y2 : List (Nat × Nat) := [(682, 746), (69, 0), (352, 416), (356, 420), (361, 6), (372, 7), (387, 451), (393, 9), (340, 404), (379, 443), (18, 0), (256, 320), (270, 334), (278, 342), (289, 353), (320, 384), (324, 388), (399, 463), (403, 467), (408, 472), (525, 589), (529, 593), (533, 597), (537, 601), (541, 605), (549, 613), (559, 623), (564, 628), (568, 632), (613, 677)]
theorem ck_ys2 : ck_y2 60 kp_y2 = true := by decide +kernel
def kp_y3 : List (Nat × Nat) := [(621, 685), (625, 689), (633, 697), (638, 702), (642, 706), (646, 710), (662, 726), (667, 731), (675, 739), (263, 0), (260, 0), (282, 0), (275, 1), (573, 22), (302, 4), (294, 2), (618, 27), (267, 0), (298, 3), (672, 30), (414, 10), (554, 21), (426, 11), (701, 0), (806, 0), (800, 864), (814, 31), (809, 873), (824, 32), (817, 881)]
theorem ck_ys3 : ck_y2 90 kp_y3 = true := by decide +kernel
def kp_y4 : List (Nat × Nat) := [(832, 33), (836, 34), (827, 891), (841, 905), (872, 0), (865, 0), (862, 38), (869, 39), (858, 37), (854, 36), (850, 35), (845, 909), (875, 939), (884, 40), (879, 943), (896, 42), (904, 44), (900, 43), (892, 41), (912, 46), (921, 48), (916, 47), (929, 50), (925, 49), (933, 51), (908, 45), (941, 53), (937, 52), (887, 951), (945, 1009)]
theorem ck_ys4 : ck_y2 120 kp_y4 = true := by decide +kernel
def kp_y5 : List (Nat × Nat) := [(949, 1013), (953, 1017), (957, 1021), (961, 1025), (965, 1029), (969, 1033), (973, 1037), (982, 54), (977, 1041), (994, 56), (990, 55), (985, 1049), (997, 1061), (1001, 1065), (1014, 58), (1010, 57), (1005, 1069), (1018, 1082), (1022, 1086), (1035, 60), (1031, 59), (1026, 1090), (1038, 1102), (1042, 1106), (1054, 61), (1059, 62), (1046, 1110), (599, 0)]
theorem ck_ys5 : ck_y2 150 kp_y5 = true := by decide +kernel
theorem ck_ys : ∀ mid, mid < 178 → ∃ q, ck_y1 mid q = true := by
  intro mid h
  by_cases h0 : mid < 30
  · obtain ⟨j, rfl⟩ : ∃ j, mid = 0 + j := ⟨mid - 0, by omega⟩
    exact ck_y2_mem kp_y0 0 ck_ys0 j (Nat.lt_of_lt_of_eq (show j < 30 by omega) rfl)
  by_cases h1 : mid < 60
  · obtain ⟨j, rfl⟩ : ∃ j, mid = 30 + j := ⟨mid - 30, by omega⟩
    exact ck_y2_mem kp_y1 30 ck_ys1 j (Nat.lt_of_lt_of_eq (show j < 30 by omega) rfl)
  by_cases h2 : mid < 90
  · obtain ⟨j, rfl⟩ : ∃ j, mid = 60 + j := ⟨mid - 60, by omega⟩
    exact ck_y2_mem kp_y2 60 ck_ys2 j (Nat.lt_of_lt_of_eq (show j < 30 by omega) rfl)
  by_cases h3 : mid < 120
  · obtain ⟨j, rfl⟩ : ∃ j, mid = 90 + j := ⟨mid - 90, by omega⟩
    exact ck_y2_mem kp_y3 90 ck_ys3 j (Nat.lt_of_lt_of_eq (show j < 30 by omega) rfl)
  by_cases h4 : mid < 150
  · obtain ⟨j, rfl⟩ : ∃ j, mid = 120 + j := ⟨mid - 120, by omega⟩
    exact ck_y2_mem kp_y4 120 ck_ys4 j (Nat.lt_of_lt_of_eq (show j < 30 by omega) rfl)
  by_cases h5 : mid < 178
  · obtain ⟨j, rfl⟩ : ∃ j, mid = 150 + j := ⟨mid - 150, by omega⟩
    exact ck_y2_mem kp_y5 150 ck_ys5 j (Nat.lt_of_lt_of_eq (show j < 28 by omega) rfl)
  omega
theorem ck_ini : (mm_cn.take 15).all (fun c => decide (Jvm.Cond.initialized c ∈ tables_1)) = true := by decide +kernel
end
section
/-! what each instruction links -/
def ck_i1 (mid : Nat) (e : Nat × Instr × Nat × Nat) : Bool := match e.2.1 with
  | .invokevirtual k => (match mm_mth (mi_c (mm_of mid)) k with
    | some m2 => Nat.blt m2 178 && !(mm_ini m2) && decide (mi_s (mm_of m2) = 0)
    | none => false)
  | .invokespecial k => (match mm_mth (mi_c (mm_of mid)) k with
    | some m2 => Nat.beq m2 900 || (Nat.blt m2 178 && mm_ini m2 && decide (mi_s (mm_of m2) = 0))
    | none => false)
  | .invokestatic k => (match mm_mth (mi_c (mm_of mid)) k with
    | some m2 => Nat.beq m2 901 || Nat.beq m2 902 || (Nat.blt m2 178 && decide (mi_s (mm_of m2) = 1))
    | none => false)
  | .getstatic k => decide (Jvm.Cond.fieldLinkNest (mm_on (mi_c (mm_of mid))) k "DrawnTold" "PRIMES" "[J" "DrawnTold" ∈ tables_1) || decide (Jvm.Cond.fieldLink (mm_on (mi_c (mm_of mid))) k "DrawnTold" "PRIMES" "[J" ∈ tables_1)
  | .new k => (match mm_new (mi_c (mm_of mid)) k with
    | some ci => Nat.ble ci 8 && decide (Jvm.Cond.classLink (mm_on (mi_c (mm_of mid))) k (mm_on ci) ∈ tables_1)
    | none => false)
  | .anewarray k => (match mm_new (mi_c (mm_of mid)) k with
    | some ci => Nat.ble ci 8 && decide (Jvm.Cond.classLink (mm_on (mi_c (mm_of mid))) k (mm_on ci) ∈ tables_1)
    | none => false)
  | .multianewarray k _ => (match mm_new (mi_c (mm_of mid)) k with
    | some 14 => decide (Jvm.Cond.classLink (mm_on (mi_c (mm_of mid))) k "[[I" ∈ tables_1)
    | some 15 => decide (Jvm.Cond.classLink (mm_on (mi_c (mm_of mid))) k "[[J" ∈ tables_1)
    | _ => false)
  | _ => true
theorem ck_is : ((List.range 179).all fun mid => (mm_kd.getD mid []).all (ck_i1 mid)) = true := by decide +kernel
theorem ck_n1 : ((List.range 9).all fun ci => decide (Jvm.Cond.instantiable (mm_on ci) (mm_cN ci) ∈ tables_1) && decide (Jvm.Cond.initialized (mm_on ci) ∈ tables_1)) = true := by decide +kernel
theorem ck_a1 : Jvm.Cond.arrayClass .int ∈ tables_1 ∧ Jvm.Cond.arrayClass .long ∈ tables_1 ∧ Jvm.Cond.arrayClass .boolean ∈ tables_1 ∧ Jvm.Cond.arrayOver (.object "DrawnTold$Sum") ∈ tables_1 ∧ Jvm.Cond.arrayOver (.object "DrawnTold$Witness") ∈ tables_1 ∧ Jvm.Cond.arrayOver (.array .int) ∈ tables_1 ∧ Jvm.Cond.arrayOver (.array .long) ∈ tables_1 := by decide +kernel
theorem ck_o1 : Jvm.Cond.instanceMethod Lib.objectInit ∈ tables_1 ∧ Jvm.Cond.native arraycopyName ∈ tables_1 ∧ Jvm.Cond.static arraycopyName ∈ tables_1 ∧ Jvm.Cond.initialized "java/lang/System" ∈ tables_1 ∧ Jvm.Cond.laysStatic "DrawnTold" "PRIMES" "[J" ∈ tables_1 ∧ Jvm.Cond.initialized "DrawnTold" ∈ tables_1 := by decide +kernel
/-- the words that go along into a call -/
def mm_ws : List Jvm.Cond := lw_tbl.filter goodWord
/-- those that do not -/
def mm_nm : List (Nat × MethodName) := [(19, ⟨"DrawnTold$Sum", "<init>", "()V"⟩), (36, ⟨"DrawnTold$Balance", "<init>", "()V"⟩), (50, ⟨"DrawnTold$Frame", "<init>", "()V"⟩)]
theorem ck_mn : Jvm.Cond.static Lib.Math.min.name ∈ tables_1 ∧ Jvm.Cond.initialized "java/lang/Math" ∈ tables_1 ∧ Jvm.Cond.code Lib.Math.min.name Lib.Math.min.code 2 (some .int) ∈ tables_1 ∧ Jvm.Cond.code Lib.objectInit ⟨#[0xb1]⟩ 1 none ∈ tables_1 := by decide +kernel
theorem ck_nm : ((List.range 9).all fun ci => match mm_C[ci]? with
  | some (_, T, N) => (List.range N).all fun a => (List.range N).all fun b => a == b || decide ((T a).2.1 ≠ (T b).2.1)
  | none => false) = true := by decide +kernel
end
section
/-! the checks, as facts -/
theorem mm_lk_mem {α : Type} : ∀ {l : List (Nat × α)} {i : Nat} {a : α}, mm_lk l i = some a → (i, a) ∈ l
  | [], _, _, h => by cases h
  | (j, x) :: r, i, a, h => by
    rw [mm_lk] at h
    by_cases e : j = i
    · subst e
      rw [show Nat.beq j j = true from Nat.beq_refl j] at h
      cases h
      exact List.mem_cons_self
    · have : Nat.beq j i = false := by
        cases hb : Nat.beq j i with
        | false => rfl
        | true => exact absurd (Nat.eq_of_beq_eq_true hb) e
      rw [this] at h
      exact List.mem_cons_of_mem _ (mm_lk_mem h)
theorem mm_own16 {α : Type} {l : List (List α)} (hl : l.length = 16) {own : Nat} {e : α} (h : e ∈ l.getD own []) : own ∈ List.range 16 := by
  rw [List.mem_range]
  apply Classical.byContradiction
  intro hn
  rw [List.getD_eq_getElem?_getD, List.getElem?_eq_none (by omega)] at h
  cases h
theorem mm_in_ws {w : Jvm.Cond} (h : w ∈ tables_1) (hg : goodWord w = true) : w ∈ mm_ws := List.mem_filter.mpr ⟨List.mem_append_right _ h, hg⟩
theorem mm_ws_good : ∀ w ∈ mm_ws, (w.onTables && w.keeps) = true ∨ ∃ ty, w = .arrayClass ty := fun w h => good_of_word (List.mem_filter.mp h).2
theorem fx_ty {ci k : Nat} (hci : ci ≤ 8) (hk : k < mm_cN ci) : ck_t1 ci k = true := by
  have h1 := List.all_eq_true.mp ck_ty ci (List.mem_range.mpr (by omega))
  exact List.all_eq_true.mp h1 k (List.mem_range.mpr hk)
/-- a class of objects: its name, its fields -/
theorem fx_cls {ci : Nat} (hci : ci ≤ 8) : ∃ T, mm_C[ci]? = some (mm_on ci, T, mm_cN ci) ∧ (∀ w ∈ u_ws (mm_on ci) T (mm_cN ci), w ∈ mm_ws) ∧ (∀ a, a < mm_cN ci → ∀ b, b < mm_cN ci → a ≠ b → (T a).2.1 ≠ (T b).2.1) ∧
    ∀ k, k < mm_cN ci → (T k).1 = mm_on ci ∧ (T k).2.2.2 = mm_isF ci k ∧ ((mm_ty ci k = 0 ∧ parseFieldDescriptor (T k).2.2.1 = some .int) ∨ (mm_ty ci k = 1 ∧ parseFieldDescriptor (T k).2.2.1 = some .boolean) ∨ (mm_ty ci k = 2 ∧ parseFieldDescriptor (T k).2.2.1 = some .long) ∨ (mm_ty ci k = 3 ∧ ∃ ty, parseFieldDescriptor (T k).2.2.1 = some ty ∧ ((∃ C, ty = .object C) ∨ ∃ e, ty = .array e))) := by
  obtain ⟨C, T, hC⟩ := mm_cN_le ci hci
  have hpos : 0 < mm_cN ci := by
    have : ci = 0 ∨ ci = 1 ∨ ci = 2 ∨ ci = 3 ∨ ci = 4 ∨ ci = 5 ∨ ci = 6 ∨ ci = 7 ∨ ci = 8 := by omega
    rcases this with rfl | rfl | rfl | rfl | rfl | rfl | rfl | rfl | rfl <;> decide
  have key : ∀ k, k < mm_cN ci → (((((mm_cN ci).beq (mm_cN ci) = true ∧ (T k).1 = C) ∧ (T k).2.2.2 = mm_isF ci k) ∧ C = mm_on ci) ∧ u_lay C T k ∈ tables_1) ∧ ((mm_ty ci k = 0 ∧ parseFieldDescriptor (T k).2.2.1 = some .int) ∨ (mm_ty ci k = 1 ∧ parseFieldDescriptor (T k).2.2.1 = some .boolean) ∨ (mm_ty ci k = 2 ∧ parseFieldDescriptor (T k).2.2.1 = some .long) ∨ (mm_ty ci k = 3 ∧ ∃ ty, parseFieldDescriptor (T k).2.2.1 = some ty ∧ ((∃ C, ty = .object C) ∨ ∃ e, ty = .array e))) := by
    intro k hk
    have h := fx_ty hci hk
    unfold ck_t1 at h
    rw [hC] at h
    simp only [Bool.and_eq_true, decide_eq_true_eq] at h
    refine ⟨h.1, ?_⟩
    have h2 := h.2
    split at h2
    · rename_i e1 e2; exact Or.inl ⟨e1, e2⟩
    · rename_i e1 e2; exact Or.inr (Or.inl ⟨e1, e2⟩)
    · rename_i e1 e2; exact Or.inr (Or.inr (Or.inl ⟨e1, e2⟩))
    · rename_i x1 x2 n e1 e2; exact Or.inr (Or.inr (Or.inr ⟨e1, _, e2, Or.inl ⟨_, rfl⟩⟩))
    · rename_i x1 x2 n e1 e2; exact Or.inr (Or.inr (Or.inr ⟨e1, _, e2, Or.inr ⟨_, rfl⟩⟩))
    · cases h2
  have hCe : C = mm_on ci := (key 0 hpos).1.1.2
  subst hCe
  refine ⟨T, hC, fun w hw => ?_, ?_, fun k hk => ⟨(key k hk).1.1.1.1.2, (key k hk).1.1.1.2, (key k hk).2⟩⟩
  · obtain ⟨k, hk, rfl⟩ := List.mem_map.mp hw
    refine mm_in_ws (key k (List.mem_range.mp hk)).1.2 ?_
    unfold u_lay
    split <;> rfl
  · have h1 := List.all_eq_true.mp ck_nm ci (List.mem_range.mpr (by omega))
    rw [hC] at h1
    intro a ha b hb hab
    have h2 := List.all_eq_true.mp (List.all_eq_true.mp h1 a (List.mem_range.mpr ha)) b (List.mem_range.mpr hb)
    simp only [Bool.or_eq_true, beq_iff_eq, decide_eq_true_eq] at h2
    exact h2.resolve_left hab
theorem fx_fld {own idx ci f : Nat} (hf : mm_fld own idx = some (ci, f)) : ci ≤ 8 ∧ f < mm_cN ci ∧ ∀ T, mm_C[ci]? = some (mm_on ci, T, mm_cN ci) → Jvm.Cond.fieldLink (mm_on own) idx (T f).1 (T f).2.1 (T f).2.2.1 ∈ mm_ws := by
  have hm := mm_lk_mem hf
  have ho := mm_own16 (l := mm_fl) rfl hm
  have h1 : ck_f1 own (idx, ci, f) = true := List.all_eq_true.mp (List.all_eq_true.mp ck_fl own ho) _ hm
  unfold ck_f1 at h1
  dsimp only at h1
  split at h1
  · rename_i C T N hC
    simp only [Bool.and_eq_true, decide_eq_true_eq] at h1
    obtain ⟨⟨h2, h3⟩, h4⟩ := h1
    have hci : ci ≤ 8 := Nat.le_of_ble_eq_true h2
    obtain ⟨T', hT', -⟩ := fx_cls hci
    rw [hC] at hT'
    cases hT'
    refine ⟨hci, Nat.le_of_ble_eq_true h3, fun T2 h5 => ?_⟩
    rw [hC] at h5
    cases h5
    exact mm_in_ws h4 rfl
  · cases h1
theorem fx_cI {own idx : Nat} {v : Int32} (h : mm_cI own idx = some v) : Jvm.Cond.constant (mm_on own) idx v ∈ mm_ws := by
  have hm := mm_lk_mem h
  have ho := mm_own16 (l := mm_cs) rfl hm
  have h1 := List.all_eq_true.mp (List.all_eq_true.mp ck_c1 own ho) _ hm
  exact mm_in_ws (of_decide_eq_true h1) rfl
theorem fx_cJ {own idx : Nat} {v : Int64} (h : mm_cJ own idx = some v) : Jvm.Cond.constantLong (mm_on own) idx v ∈ mm_ws := by
  have hm := mm_lk_mem h
  have ho := mm_own16 (l := mm_cl) rfl hm
  have h1 := List.all_eq_true.mp (List.all_eq_true.mp ck_c2 own ho) _ hm
  exact mm_in_ws (of_decide_eq_true h1) rfl
/-- what is fetched is what is decoded -/
theorem fx_fet {mid pc : Nat} {i : Instr} {len tgt : Nat} (h : mm_fet mid pc = some (i, len, tgt)) : mid < 179 ∧ decode (mm_bb mid) pc = .ok (i, len) ∧ mm_ln i len = true ∧ mm_tg i pc tgt = true ∧ ck_i1 mid (pc, i, len, tgt) = true := by
  have hm := mm_lk_mem h
  have hmid : mid < 179 := by
    apply Classical.byContradiction
    intro hn
    rw [List.getD_eq_getElem?_getD, List.getElem?_eq_none (by show mm_kd.length ≤ mid; have : mm_kd.length = 179 := rfl; omega)] at hm
    cases hm
  have h1 := List.all_eq_true.mp (kc_all mid hmid) _ hm
  have h2 := List.all_eq_true.mp (List.all_eq_true.mp ck_is mid (List.mem_range.mpr hmid)) _ hm
  simp only [mm_ok1, Bool.and_eq_true, decide_eq_true_eq] at h1
  exact ⟨hmid, h1.1.1, h1.1.2, h1.2, h2⟩
theorem ck_mall {own : Nat} : ∀ e ∈ mm_ml.getD own [], ∃ q, ck_m1 own e q = true := by
  intro e he
  have ho := List.mem_range.mp (mm_own16 (l := mm_ml) rfl he)
  have : own = 0 ∨ own = 1 ∨ own = 2 ∨ own = 3 ∨ own = 4 ∨ own = 5 ∨ own = 6 ∨ own = 7 ∨ own = 8 ∨ own = 9 ∨ own = 10 ∨ own = 11 ∨ own = 12 ∨ own = 13 ∨ own = 14 ∨ own = 15 := by omega
  rcases this with rfl | rfl | rfl | rfl | rfl | rfl | rfl | rfl | rfl | rfl | rfl | rfl | rfl | rfl | rfl | rfl
  · exact ck_m2_mem 0 _ _ ck_ml0 e he
  · exact ck_m2_mem 1 _ _ ck_ml1 e he
  · exact ck_m2_mem 2 _ _ ck_ml2 e he
  · exact ck_m2_mem 3 _ _ ck_ml3 e he
  · exact ck_m2_mem 4 _ _ ck_ml4 e he
  · exact ck_m2_mem 5 _ _ ck_ml5 e he
  · exact ck_m2_mem 6 _ _ ck_ml6 e he
  · exact ck_m2_mem 7 _ _ ck_ml7 e he
  · exact ck_m2_mem 8 _ _ ck_ml8 e he
  · exact ck_m2_mem 9 _ _ ck_ml9 e he
  · exact ck_m2_mem 10 _ _ ck_ml10 e he
  · exact ck_m2_mem 11 _ _ ck_ml11 e he
  · exact ck_m2_mem 12 _ _ ck_ml12 e he
  · exact ck_m2_mem 13 _ _ ck_ml13 e he
  · exact ck_m2_mem 14 _ _ ck_ml14 e he
  · exact ck_m2_mem 15 _ _ ck_ml15 e he
theorem fx_mth {own idx m2 : Nat} (h : mm_mth own idx = some m2) : ∃ q, ck_m1 own (idx, m2) q = true := ck_mall _ (mm_lk_mem h)
end
section
/-! THE HEAP'S INSTRUCTIONS -/
theorem mm_ce_ob {cy : Nat → ClassId} {ad : Nat → Nat} {h : MH} {a : Nat} (hk : hK h a ≤ 8) : mm_ce cy ad h a = .inr (hK h a, (List.range (mm_cN (hK h a))).map (fun f => mm_tv ad (mm_fv h a (hK h a) f))) := by unfold mm_ce; rw [if_pos hk]
theorem mm_ce_i {cy : Nat → ClassId} {ad : Nat → Nat} {h : MH} {a : Nat} (hk : hK h a = 9 ∨ hK h a = 11) : mm_ce cy ad h a = .inl (cy (hK h a), hL h a, .inl (hI h a)) := by
  unfold mm_ce; rw [if_neg (by omega), if_pos hk]
theorem mm_ce_l {cy : Nat → ClassId} {ad : Nat → Nat} {h : MH} {a : Nat} (hk : hK h a = 10) : mm_ce cy ad h a = .inl (cy (hK h a), hL h a, .inr (.inl (hJ h a))) := by
  unfold mm_ce; rw [if_neg (by omega), if_neg (by omega), if_pos hk]
theorem mm_ce_q {cy : Nat → ClassId} {ad : Nat → Nat} {h : MH} {a : Nat} (hk : 12 ≤ hK h a) : mm_ce cy ad h a = .inl (cy (hK h a), hL h a, .inr (.inr (.inr (.inr (fun j => (hR h a j).map ad))))) := by
  unfold mm_ce; rw [if_neg (by omega), if_neg (by omega), if_neg (by omega)]
theorem mm_in_iff {x : Int32} {n : Nat} : mm_in x n = true ↔ ¬ (x < 0 ∨ n ≤ x.toNatClampNeg) := by
  unfold mm_in
  rw [Bool.and_eq_true, Bool.not_eq_true', decide_eq_false_iff_not]
  constructor
  · rintro ⟨h1, h2⟩ (h3 | h3)
    · exact h1 h3
    · have := Nat.le_of_ble_eq_true h2; omega
  · intro h
    exact ⟨fun h1 => h (Or.inl h1), Nat.ble_eq_true_of_le (Nat.lt_of_not_le fun h1 => h (Or.inr h1))⟩
/-- the world behind one write -/
theorem mm_H.upd {D : va_G} {cy : Nat → ClassId} {base b t Ls : Nat} {xs : Nat → Int32} {ps : Nat → Int64} {h h' : MH} {H H1 : Heap} (hH : mm_H D cy base b t Ls xs ps h H) {a : Nat} (ha : hK h a ≤ 15) (e1 : hN h' = hN h) (e2 : hK h' = hK h) (e3 : hL h' = hL h) (e4 : hI h' 0 = hI h 0) (e5 : hJ h' 1 = hJ h 1)
    (ho : ∀ k, k ≠ a → mm_ce cy (mm_ad base b t) h' k = mm_ce cy (mm_ad base b t) h k) (z : H1.size = H.size) (oq : ∀ q : Nat, q ≠ mm_ad base b t a → H1[q]? = H[q]?) (he : va_at D mm_C (mm_ad base b t a, mm_ce cy (mm_ad base b t) h' a) H1) : mm_H D cy base b t Ls xs ps h' H1 := by
  obtain ⟨ha2, han, hae, hget⟩ := hH.mem ha
  obtain ⟨⟨g1, g2⟩, ⟨g3, g4, g5, g6⟩, ⟨g7, g8, g9, g10⟩, hP⟩ := hH
  refine ⟨⟨by rw [e1]; exact g1, by rw [e1, z]; exact g2⟩, ⟨by rw [e2]; exact g3, by rw [e2]; exact g4, by rw [e1, e2]; exact g5, by rw [e1, e2]; exact g6⟩, ⟨by rw [e3]; exact g7, by rw [e4]; exact g8, by rw [e3]; exact g9, by rw [e5]; exact g10⟩, ?_⟩
  have h2 := hP.set (mm_wl_D) hget he oq
  rw [hae, mm_wl_set (h' := h') e1 (by rw [show a - 2 + 2 = a by omega]) (fun k hk => ho k (by omega))] at h2
  exact h2
theorem mm_up_ne {α : Type} {f : Nat → Nat → α} {a k c : Nat} {v : α} (h : c ≠ a) : mm_up f a k v c = f c := funext fun j => if_neg fun e => h e.1
theorem mm_up_eq {α : Type} {f : Nat → Nat → α} {a k : Nat} {v : α} : mm_up f a k v a = fun j => if j = k then v else f a j := by
  funext j
  unfold mm_up
  by_cases h : j = k
  · rw [if_pos ⟨rfl, h⟩, if_pos h]
  · rw [if_neg (fun e => h e.2), if_neg h]
theorem mm_row_ne {α : Type} {f : Nat → Nat → α} {a c : Nat} {g : Nat → α} (h : c ≠ a) : mm_row f a g c = f c := funext fun j => if_neg h
theorem mm_row_eq {α : Type} {f : Nat → Nat → α} {a : Nat} {g : Nat → α} : mm_row f a g a = g := funext fun j => if_pos rfl
section MMH
variable {p : Program} {l : Launch} {e : Env} {R : Room} {s : State} {m : MethodId} {args : Array Value} {below : List Frame} {meth : Method} {c : Code} {H : Heap} {locs : List Loc} {cells slots : Nat} {Q : State → Prop}
variable {cc : ByteArray} {pc : Nat} {ls : Array Slot} {rest : List Value} {D : va_G} {cy : Nat → ClassId} {base b t Ls : Nat} {xs : Nat → Int32} {ps : Nat → Int64} {h : MH}
theorem ms_get (hx : p.tables.exec = Jvm.exec) (hb : c.code = cc) {own idx ci f a : Nat} (hts : ∀ w ∈ mm_ws, w.before args s = true) (hown : s.vm.findClass (mm_on own) = some m.cls) (hVK : va_K D mm_C (mm_tys cy) s) (hH : mm_H D cy base b t Ls xs ps h H) (hf : mm_fld own idx = some (ci, f)) (hk : hK h a = ci) (hd : decode cc pc = .ok (.getfield idx, 3))
    (kk : W p l e R s m args below meth c H locs cells slots Q (F0 m (pc + 3) ls (mm_tv (mm_ad base b t) (mm_fv h a ci f) :: rest))) : W p l e R s m args below meth c H locs cells slots Q (F0 m pc ls (.ref (mm_ad base b t a) :: rest)) := by
  obtain ⟨h1, h2, h3⟩ := fx_fld hf
  obtain ⟨T, hT, hin, -, hkk⟩ := fx_cls h1
  subst hk
  obtain ⟨ha2, han, hae, hget⟩ := hH.mem (Nat.le_trans h1 (by omega))
  rw [mm_ce_ob h1] at hget
  refine va_get (D := D) (cl := mm_C) (tys := mm_tys cy) (C := mm_on (hK h a)) (T := T) (N := mm_cN (hK h a)) hx hb hts hin hown hVK hH.2.2.2 (a - 2) hget hT f h2 (hts _ (h3 T hT)) (fun _ h9 => h9) ?_ hd kk
  rw [List.getElem?_map, List.getElem?_range h2]
  rfl
theorem ms_iald (hx : p.tables.exec = Jvm.exec) (hb : c.code = cc) {a : Nat} {x : Int32} (hVK : va_K D mm_C (mm_tys cy) s) (hH : mm_H D cy base b t Ls xs ps h H) (hk : hK h a = 9) (hi : mm_in x (hL h a) = true) (hd : decode cc pc = .ok (.iaload, 1))
    (kk : W p l e R s m args below meth c H locs cells slots Q (F0 m (pc + 1) ls (.int (hI h a x.toNatClampNeg) :: rest))) : W p l e R s m args below meth c H locs cells slots Q (F0 m pc ls (.int x :: .ref (mm_ad base b t a) :: rest)) := by
  obtain ⟨ha2, han, hae, hget⟩ := hH.mem (a := a) (by omega)
  rw [mm_ce_i (Or.inl hk), hk] at hget
  exact va_iald hx hb hVK hH.2.2.2 (a - 2) 0 hget rfl (mm_in_iff.mp hi) hd kk
theorem ms_zald (hx : p.tables.exec = Jvm.exec) (hb : c.code = cc) {a : Nat} {x : Int32} (hVK : va_K D mm_C (mm_tys cy) s) (hH : mm_H D cy base b t Ls xs ps h H) (hk : hK h a = 11) (hi : mm_in x (hL h a) = true) (hd : decode cc pc = .ok (.baload, 1))
    (kk : W p l e R s m args below meth c H locs cells slots Q (F0 m (pc + 1) ls (.int (hI h a x.toNatClampNeg) :: rest))) : W p l e R s m args below meth c H locs cells slots Q (F0 m pc ls (.int x :: .ref (mm_ad base b t a) :: rest)) := by
  obtain ⟨ha2, han, hae, hget⟩ := hH.mem (a := a) (by omega)
  rw [mm_ce_i (Or.inr hk), hk] at hget
  exact va_zald hx hb hVK hH.2.2.2 (a - 2) 2 hget rfl (mm_in_iff.mp hi) hd kk
theorem ms_lald (hx : p.tables.exec = Jvm.exec) (hb : c.code = cc) {a : Nat} {x : Int32} (hVK : va_K D mm_C (mm_tys cy) s) (hH : mm_H D cy base b t Ls xs ps h H) (hk : hK h a = 10) (hi : mm_in x (hL h a) = true) (hd : decode cc pc = .ok (.laload, 1))
    (kk : W p l e R s m args below meth c H locs cells slots Q (F0 m (pc + 1) ls (.long (hJ h a x.toNatClampNeg) :: rest))) : W p l e R s m args below meth c H locs cells slots Q (F0 m pc ls (.int x :: .ref (mm_ad base b t a) :: rest)) := by
  obtain ⟨ha2, han, hae, hget⟩ := hH.mem (a := a) (by omega)
  rw [mm_ce_l hk, hk] at hget
  exact va_lald hx hb hVK hH.2.2.2 (a - 2) 1 hget rfl (mm_in_iff.mp hi) hd kk
theorem ms_aald (hx : p.tables.exec = Jvm.exec) (hb : c.code = cc) {a : Nat} {x : Int32} (hVK : va_K D mm_C (mm_tys cy) s) (hH : mm_H D cy base b t Ls xs ps h H) (hk : hK h a = 12 ∨ hK h a = 13 ∨ hK h a = 14 ∨ hK h a = 15) (hi : mm_in x (hL h a) = true) (hd : decode cc pc = .ok (.aaload, 1))
    (kk : W p l e R s m args below meth c H locs cells slots Q (F0 m (pc + 1) ls (mm_tv (mm_ad base b t) (mm_rv (hR h a x.toNatClampNeg)) :: rest))) : W p l e R s m args below meth c H locs cells slots Q (F0 m pc ls (.int x :: .ref (mm_ad base b t a) :: rest)) := by
  obtain ⟨ha2, han, hae, hget⟩ := hH.mem (a := a) (by omega)
  rw [mm_ce_q (by omega)] at hget
  rw [mm_tv_rv] at kk
  have hin := mm_in_iff.mp hi
  have hlt : x.toNatClampNeg < hL h a := Nat.not_le.mp fun q => hin (Or.inr q)
  have hcell : H[mm_ad base b t a]? = some (arrV (cy (hK h a)) (hL h a) (fun j => va_rf ((hR h a j).map (mm_ad base b t)))) := hH.2.2.2 _ _ hget
  have key : ∃ ty : FieldType, ty.isReference = true ∧ s.isArrayOf (arrV (cy (hK h a)) (hL h a) (fun j => va_rf ((hR h a j).map (mm_ad base b t)))) ty := by
    rcases hk with hk | hk | hk | hk <;> rw [hk]
    · exact ⟨.object "DrawnTold$Sum", rfl, (hVK.2 3 _ rfl).1 _ _⟩
    · exact ⟨.object "DrawnTold$Witness", rfl, (hVK.2 4 _ rfl).1 _ _⟩
    · exact ⟨.array .int, rfl, (hVK.2 5 _ rfl).1 _ _⟩
    · exact ⟨.array .long, rfl, (hVK.2 6 _ rfl).1 _ _⟩
  obtain ⟨ty, hty, harr⟩ := key
  exact W.aald (v := va_rf ((hR h a x.toNatClampNeg).map (mm_ad base b t))) hx hb hcell harr hty (fun q => by cases q) (by rw [arrV_size]; exact hin) (by rw [arrV_read _ _ hlt]) rfl rfl hd kk
theorem ms_alen (hx : p.tables.exec = Jvm.exec) (hb : c.code = cc) {a : Nat} (hVK : va_K D mm_C (mm_tys cy) s) (hH : mm_H D cy base b t Ls xs ps h H) (hk : 9 ≤ hK h a ∧ hK h a ≤ 15) (hd : decode cc pc = .ok (.arraylength, 1))
    (kk : W p l e R s m args below meth c H locs cells slots Q (F0 m (pc + 1) ls (.int (Int32.ofNat (hL h a)) :: rest))) : W p l e R s m args below meth c H locs cells slots Q (F0 m pc ls (.ref (mm_ad base b t a) :: rest)) := by
  obtain ⟨ha2, han, hae, hget⟩ := hH.mem (a := a) (by omega)
  have h7 : hK h a = 9 ∨ hK h a = 10 ∨ hK h a = 11 ∨ hK h a = 12 ∨ hK h a = 13 ∨ hK h a = 14 ∨ hK h a = 15 := by omega
  rcases h7 with h7 | h7 | h7 | h7 | h7 | h7 | h7
  · rw [mm_ce_i (Or.inl h7), h7] at hget; exact va_alen hx hb hVK hH.2.2.2 (a - 2) 0 hget rfl rfl hd kk
  · rw [mm_ce_l h7, h7] at hget; exact va_alen hx hb hVK hH.2.2.2 (a - 2) 1 hget rfl rfl hd kk
  · rw [mm_ce_i (Or.inr h7), h7] at hget; exact va_alen hx hb hVK hH.2.2.2 (a - 2) 2 hget rfl rfl hd kk
  · rw [mm_ce_q (by omega), h7] at hget; exact va_alen hx hb hVK hH.2.2.2 (a - 2) 3 hget rfl rfl hd kk
  · rw [mm_ce_q (by omega), h7] at hget; exact va_alen hx hb hVK hH.2.2.2 (a - 2) 4 hget rfl rfl hd kk
  · rw [mm_ce_q (by omega), h7] at hget; exact va_alen hx hb hVK hH.2.2.2 (a - 2) 5 hget rfl rfl hd kk
  · rw [mm_ce_q (by omega), h7] at hget; exact va_alen hx hb hVK hH.2.2.2 (a - 2) 6 hget rfl rfl hd kk
end MMH
end
section
/-! WRITES -/
theorem mm_asg (vm : Vm) (c : ClassId) : vm.assignable c c = true := by
  show Vm.assignableAux vm (255 + 1) c c = true
  rw [Vm.assignableAux, beq_self_eq_true, Bool.true_or]
section MMS
variable {p : Program} {l : Launch} {e : Env} {R : Room} {s : State} {m : MethodId} {args : Array Value} {below : List Frame} {meth : Method} {c : Code} {H : Heap} {locs : List Loc} {cells slots : Nat} {Q : State → Prop}
variable {cc : ByteArray} {pc : Nat} {ls : Array Slot} {rest : List Value} {D : va_G} {cy : Nat → ClassId} {base b t Ls : Nat} {xs : Nat → Int32} {ps : Nat → Int64} {h : MH}
theorem mm_Aof {base b t a : Nat} (h : mm_ad base b t a = base + (a - 2)) : mm_A base (mm_ad base b t a) := by rw [h]; exact Nat.le_add_right _ _
theorem ms_iast (hx : p.tables.exec = Jvm.exec) (hb : c.code = cc) {a : Nat} {x v : Int32} (hVK : va_K D mm_C (mm_tys cy) s) (hH : mm_H D cy base b t Ls xs ps h H) (hS : va_S (mm_A base) s.heap H locs) (hk : hK h a = 9) (hi : mm_in x (hL h a) = true) (hd : decode cc pc = .ok (.iastore, 1))
    (kk : ∀ H1 locs1, mm_H D cy base b t Ls xs ps (putI h a x.toNatClampNeg v) H1 → va_S (mm_A base) s.heap H1 locs1 → W p l e R s m args below meth c H1 locs1 cells slots Q (F0 m (pc + 1) ls rest)) : W p l e R s m args below meth c H locs cells slots Q (F0 m pc ls (.int v :: .int x :: .ref (mm_ad base b t a) :: rest)) := by
  obtain ⟨ha2, han, hae, hget⟩ := hH.mem (a := a) (by omega)
  rw [mm_ce_i (Or.inl hk), hk] at hget
  have hin := mm_in_iff.mp hi
  have hcell : H[mm_ad base b t a]? = some (arrV (cy 9) (hL h a) (fun j => .int (hI h a j))) := hH.2.2.2 _ _ hget
  refine W.iast hx hb hcell ((hVK.2 0 _ rfl).1 _ _) (fun q => by cases q) (by rw [arrV_size]; exact hin) rfl rfl hd fun H1 e1 z oq => ?_
  refine kk H1 _ (hH.upd (h' := putI h a x.toNatClampNeg v) (a := a) (by omega) rfl rfl rfl (mm_up_ne (by omega)) rfl (fun k hk => mm_ce_putI hk) z oq ?_) (hS.put z oq (mm_Aof hae))
  rw [mm_ce_i (h := putI h a x.toNatClampNeg v) (Or.inl hk)]
  show H1[_]? = some (arrV (cy (hK h a)) (hL h a) (fun j => .int (mm_up (hI h) a x.toNatClampNeg v a j)))
  rw [e1, arrV_store, mm_up_eq, hk]
  congr 2
  funext j
  by_cases hj : j = x.toNatClampNeg <;> simp [updV, hj, va_rf]
theorem ms_zast (hx : p.tables.exec = Jvm.exec) (hb : c.code = cc) {a : Nat} {x v : Int32} (hVK : va_K D mm_C (mm_tys cy) s) (hH : mm_H D cy base b t Ls xs ps h H) (hS : va_S (mm_A base) s.heap H locs) (hk : hK h a = 11) (hi : mm_in x (hL h a) = true) (hv : v = 0 ∨ v = 1) (hd : decode cc pc = .ok (.bastore, 1))
    (kk : ∀ H1 locs1, mm_H D cy base b t Ls xs ps (putI h a x.toNatClampNeg v) H1 → va_S (mm_A base) s.heap H1 locs1 → W p l e R s m args below meth c H1 locs1 cells slots Q (F0 m (pc + 1) ls rest)) : W p l e R s m args below meth c H locs cells slots Q (F0 m pc ls (.int v :: .int x :: .ref (mm_ad base b t a) :: rest)) := by
  obtain ⟨ha2, han, hae, hget⟩ := hH.mem (a := a) (by omega)
  rw [mm_ce_i (Or.inr hk), hk] at hget
  have hin := mm_in_iff.mp hi
  have hn : narrow .boolean (.int v) = .int v := by rcases hv with rfl | rfl <;> rfl
  have hcell : H[mm_ad base b t a]? = some (arrV (cy 11) (hL h a) (fun j => .int (hI h a j))) := hH.2.2.2 _ _ hget
  refine W.zast hx hb hcell ((hVK.2 2 _ rfl).1 _ _) (fun q => by cases q) (by rw [arrV_size]; exact hin) rfl rfl hd fun H1 e1 z oq => ?_
  rw [hn] at e1
  refine kk H1 _ (hH.upd (h' := putI h a x.toNatClampNeg v) (a := a) (by omega) rfl rfl rfl (mm_up_ne (by omega)) rfl (fun k hk => mm_ce_putI hk) z oq ?_) (hS.put z oq (mm_Aof hae))
  rw [mm_ce_i (h := putI h a x.toNatClampNeg v) (Or.inr hk)]
  show H1[_]? = some (arrV (cy (hK h a)) (hL h a) (fun j => .int (mm_up (hI h) a x.toNatClampNeg v a j)))
  rw [e1, arrV_store, mm_up_eq, hk]
  congr 2
  funext j
  by_cases hj : j = x.toNatClampNeg <;> simp [updV, hj, va_rf]
theorem ms_last (hx : p.tables.exec = Jvm.exec) (hb : c.code = cc) {a : Nat} {x : Int32} {v : Int64} (hVK : va_K D mm_C (mm_tys cy) s) (hH : mm_H D cy base b t Ls xs ps h H) (hS : va_S (mm_A base) s.heap H locs) (hk : hK h a = 10) (hi : mm_in x (hL h a) = true) (hd : decode cc pc = .ok (.lastore, 1))
    (kk : ∀ H1 locs1, mm_H D cy base b t Ls xs ps (putJ h a x.toNatClampNeg v) H1 → va_S (mm_A base) s.heap H1 locs1 → W p l e R s m args below meth c H1 locs1 cells slots Q (F0 m (pc + 1) ls rest)) : W p l e R s m args below meth c H locs cells slots Q (F0 m pc ls (.long v :: .int x :: .ref (mm_ad base b t a) :: rest)) := by
  obtain ⟨ha2, han, hae, hget⟩ := hH.mem (a := a) (by omega)
  rw [mm_ce_l hk, hk] at hget
  have hin := mm_in_iff.mp hi
  have hcell : H[mm_ad base b t a]? = some (arrV (cy 10) (hL h a) (fun j => .long (hJ h a j))) := hH.2.2.2 _ _ hget
  refine W.last hx hb hcell ((hVK.2 1 _ rfl).1 _ _) (fun q => by cases q) (by rw [arrV_size]; exact hin) rfl rfl hd fun H1 e1 z oq => ?_
  refine kk H1 _ (hH.upd (h' := putJ h a x.toNatClampNeg v) (a := a) (by omega) rfl rfl rfl rfl (mm_up_ne (by omega)) (fun k hk => mm_ce_putJ hk) z oq ?_) (hS.put z oq (mm_Aof hae))
  rw [mm_ce_l (h := putJ h a x.toNatClampNeg v) hk]
  show H1[_]? = some (arrV (cy (hK h a)) (hL h a) (fun j => .long (mm_up (hJ h) a x.toNatClampNeg v a j)))
  rw [e1, arrV_store, mm_up_eq, hk]
  congr 2
  funext j
  by_cases hj : j = x.toNatClampNeg <;> simp [updV, hj, va_rf]
/-- a reference into a row of references -/
theorem ms_aast (hx : p.tables.exec = Jvm.exec) (hb : c.code = cc) {a v : Nat} {x : Int32} (hVK : va_K D mm_C (mm_tys cy) s) (hao : (Cond.arrayOver (.array .long)).before args s = true) (hH : mm_H D cy base b t Ls xs ps h H) (hS : va_S (mm_A base) s.heap H locs) (hk : (hK h a = 12 ∧ hK h v = 5) ∨ (hK h a = 13 ∧ hK h v = 6) ∨ (hK h a = 15 ∧ hK h v = 10)) (hi : mm_in x (hL h a) = true) (hd : decode cc pc = .ok (.aastore, 1))
    (kk : ∀ H1 locs1, mm_H D cy base b t Ls xs ps (putR h a x.toNatClampNeg (some v)) H1 → va_S (mm_A base) s.heap H1 locs1 → W p l e R s m args below meth c H1 locs1 cells slots Q (F0 m (pc + 1) ls rest)) : W p l e R s m args below meth c H locs cells slots Q (F0 m pc ls (.ref (mm_ad base b t v) :: .int x :: .ref (mm_ad base b t a) :: rest)) := by
  have ka : 12 ≤ hK h a ∧ hK h a ≤ 15 := by omega
  obtain ⟨ha2, han, hae, hget⟩ := hH.mem (a := a) (by omega)
  obtain ⟨hv2, hvn, hve, hgv⟩ := hH.mem (a := v) (by omega)
  rw [mm_ce_q (by omega)] at hget
  have hin := mm_in_iff.mp hi
  have hlt : x.toNatClampNeg < hL h a := Nat.not_le.mp fun q => hin (Or.inr q)
  have hcell : H[mm_ad base b t a]? = some (arrV (cy (hK h a)) (hL h a) (fun j => va_rf ((hR h a j).map (mm_ad base b t)))) := hH.2.2.2 _ _ hget
  have key : ∃ (kA : Class) (comp : ClassId) (ty : FieldType) (kc : Class) (cv : Cell), s.vm.classes[cy (hK h a)]? = some kA ∧ kA.kind = .array comp ty ∧ ty.isReference = true ∧ s.vm.classes[comp]? = some kc ∧ H[mm_ad base b t v]? = some cv ∧ (∀ q, cv.vm ≠ .statics q) ∧ cv.cls = comp := by
    rcases hk with ⟨k1, k2⟩ | ⟨k1, k2⟩ | ⟨k1, k2⟩
    · rw [mm_ce_ob (by omega), k2] at hgv
      obtain ⟨r, hr, cellV, g1, g2, g3, -⟩ := hH.2.2.2 _ _ hgv
      obtain ⟨T, hT, -⟩ := fx_cls (ci := 5) (by omega)
      have hcls := (hVK.1 5 _ hT).2
      obtain ⟨kA, comp, q1, q2, q3, -⟩ := (hVK.2 3 _ rfl).2
      have hcomp : comp = D.1 5 := Option.some.inj (q3.symm.trans hcls.1)
      subst hcomp
      obtain ⟨kC, hkC, -⟩ := hcls.2
      exact ⟨kA, _, _, kC, cellV, by rw [k1]; exact q1, q2, rfl, hkC, g1, (fun q h => by rw [g3] at h; cases h), g2⟩
    · rw [mm_ce_ob (by omega), k2] at hgv
      obtain ⟨r, hr, cellV, g1, g2, g3, -⟩ := hH.2.2.2 _ _ hgv
      obtain ⟨T, hT, -⟩ := fx_cls (ci := 6) (by omega)
      have hcls := (hVK.1 6 _ hT).2
      obtain ⟨kA, comp, q1, q2, q3, -⟩ := (hVK.2 4 _ rfl).2
      have hcomp : comp = D.1 6 := Option.some.inj (q3.symm.trans hcls.1)
      subst hcomp
      obtain ⟨kC, hkC, -⟩ := hcls.2
      exact ⟨kA, _, _, kC, cellV, by rw [k1]; exact q1, q2, rfl, hkC, g1, (fun q h => by rw [g3] at h; cases h), g2⟩
    · rw [mm_ce_l k2, k2] at hgv
      obtain ⟨comp, c', k, f1, f3, f4, f5⟩ := Cond.arrayOver_specA hao
      have e1 : cy 15 = c' := Option.some.inj ((show s.vm.findClass "[[J" = some (cy 15) from (hVK.2 6 _ rfl).2).symm.trans f5)
      have e2 : cy 10 = comp := Option.some.inj ((show s.vm.findClass "[J" = some (cy 10) from (hVK.2 1 _ rfl).2).symm.trans f1)
      obtain ⟨-, kc, hkc, -⟩ := (hVK.2 1 _ rfl).1 0 (fun _ => .null)
      exact ⟨k, comp, _, kc, _, by rw [k1, e1]; exact f3, f4, rfl, by rw [← e2]; exact hkc, hH.2.2.2 _ _ hgv, (fun q h => by cases h), e2⟩
  obtain ⟨kA, comp, ty, kc, cv, q1, q2, q3, q4, q5, q6, q7⟩ := key
  refine W.aast hx hb hcell (fun q h => by cases h) (fun h => by cases h) q1 q2 q3 q4 ⟨fun q => hin (Or.inl q), by rw [arrV_size]; exact hlt⟩ q5 q6 (by rw [q7]; exact q4) (by rw [q7]; exact mm_asg _ _) rfl rfl hd fun H1 e1 z oq => ?_
  refine kk H1 _ (hH.upd (h' := putR h a x.toNatClampNeg (some v)) (a := a) (by omega) rfl rfl rfl rfl rfl (fun k hk => mm_ce_putR hk) z oq ?_) (hS.put z oq (mm_Aof hae))
  rw [mm_ce_q (h := putR h a x.toNatClampNeg (some v)) ka.1]
  show H1[_]? = some (arrV (cy (hK h a)) (hL h a) (fun j => va_rf ((mm_up (hR h) a x.toNatClampNeg (some v) a j).map (mm_ad base b t))))
  rw [e1, arrV_store, mm_up_eq]
  congr 2
  funext j
  by_cases hj : j = x.toNatClampNeg <;> simp [updV, hj, va_rf]
/-- System.arraycopy of longs, from the start of one row to the start of another -/
theorem ms_copy (hx : p.tables.exec = Jvm.exec) (hb : c.code = cc) (hml : c.maxLocals = ls.size) {own idx a v : Nat} {n : Int32} (hown : s.vm.findClass (mm_on own) = some m.cls) (hlink : (Cond.methodLink (mm_on own) idx arraycopyName).before args s = true) (hnat : (Cond.native arraycopyName).before args s = true) (hstat : (Cond.static arraycopyName).before args s = true) (hini : (Cond.initialized "java/lang/System").before args s = true)
    (hVK : va_K D mm_C (mm_tys cy) s) (hH : mm_H D cy base b t Ls xs ps h H) (hS : va_S (mm_A base) s.heap H locs) (ka : hK h a = 10) (kv : hK h v = 10) (h3 : ¬ n < 0) (h4 : n.toNatClampNeg ≤ hL h a) (h5 : n.toNatClampNeg ≤ hL h v) (hframes : 1 ≤ R.frames) (hlocals : (rest.map fun v => v.category).sum + 45 ≤ R.locals) (hd : decode cc pc = .ok (.invokestatic idx, 3))
    (kk : ∀ H1 locs1, mm_H D cy base b t Ls xs ps (rowJ h a (fun j => if j < n.toNatClampNeg then hJ h v j else hJ h a j)) H1 → va_S (mm_A base) s.heap H1 locs1 → W p l e R s m args below meth c H1 locs1 cells slots Q (F0 m (pc + 3) ls rest)) : W p l e R s m args below meth c H locs cells slots Q (F0 m pc ls (.int n :: .int 0 :: .ref (mm_ad base b t a) :: .int 0 :: .ref (mm_ad base b t v) :: rest)) := by
  have hnn : n.toInt = (n.toNatClampNeg : Int) := by
    have hz0 : (0 : Int) ≤ n.toInt := by
      have h9 : ¬ n.toInt < (0 : Int32).toInt := fun q => h3 (Int32.lt_iff_toInt_lt.mpr q)
      have : (0 : Int32).toInt = 0 := rfl
      omega
    show n.toInt = (n.toInt.toNat : Int)
    omega
  obtain ⟨ha2, han, hae, hget⟩ := hH.mem (a := a) (by omega)
  obtain ⟨hv2, hvn, hve, hgv⟩ := hH.mem (a := v) (by omega)
  rw [mm_ce_l ka, ka] at hget
  rw [mm_ce_l kv, kv] at hgv
  have hca : H[mm_ad base b t a]? = some (arrV (cy 10) (hL h a) (fun j => .long (hJ h a j))) := hH.2.2.2 _ _ hget
  have hcv : H[mm_ad base b t v]? = some (arrV (cy 10) (hL h v) (fun j => .long (hJ h v j))) := hH.2.2.2 _ _ hgv
  obtain ⟨-, k0, hk0, cm0, hkk0⟩ := (hVK.2 1 _ rfl).1 0 (fun _ => .null)
  have e8 : nativeFrameWords "java/lang/System" "arraycopy" 5 + 11 ≤ 45 := by decide +kernel
  intro T hT X
  obtain ⟨vm', X', step⟩ := X.arraycopy hx hown hlink hnat hstat hini (src := mm_ad base b t v) (dst := mm_ad base b t a) (cs := arrV (cy 10) (hL h v) (fun j => .long (hJ h v j))) (cd := arrV (cy 10) (hL h a) (fun j => .long (hJ h a j))) (srcPos := 0) (destPos := 0) (n := n) (by rw [hT]; exact hcv) (by rw [hT]; exact hca)
    (fun _ h => by cases h) (fun _ h => by cases h) (fun h => by cases h) (fun h => by cases h) hk0 hk0 hkk0 hkk0 (by rfl) (by decide) (by decide) h3
    (by rw [hnn, arrV_size]; show ¬ (0 : Int) + _ > _; omega)
    (by rw [hnn, arrV_size]; show ¬ (0 : Int) + _ > _; omega)
    (fun vm₁ _ i hi => by
      have e9 : (arrV (cy 10) (hL h v) (fun j => .long (hJ h v j))).slots.getD ((0 : Int32).toNatClampNeg + i) .null = .long (hJ h v ((0 : Int32).toNatClampNeg + i)) := by
        rw [Array.getD_eq_getD_getElem?, arrV_read _ _ (by show (0 : Int32).toNatClampNeg + i < _; have : (0 : Int32).toNatClampNeg = 0 := rfl; omega)]
        rfl
      rw [e9]
      exact ⟨rfl, trivial⟩)
    (g := F0 m pc ls (.int n :: .int 0 :: .ref (mm_ad base b t a) :: .int 0 :: .ref (mm_ad base b t v) :: rest)) rfl (by rw [hml]) (rest := rest) rfl (by rw [hb]; exact hd) hframes (by show 2 * 0 + _ + _ ≤ _; omega)
  have e1 : copied (arrV (cy 10) (hL h v) (fun j => .long (hJ h v j))) (arrV (cy 10) (hL h a) (fun j => .long (hJ h a j))) 0 0 n = arrV (cy 10) (hL h a) (fun j => .long (va_cpy (hJ h v) (hJ h a) 0 0 n.toNatClampNeg j)) := va_copied (fun z => .long z) (cy 10) (cy 10) (sp := 0) (dp := 0) (hJ h v) (hJ h a) (by omega)
  rw [e1] at X' step
  have hlt : mm_ad base b t a < H.size := (Array.getElem?_eq_some_iff.mp hca).1
  have hheap : ((T.setVm vm').setCell (mm_ad base b t a) (arrV (cy 10) (hL h a) (fun j => .long (va_cpy (hJ h v) (hJ h a) 0 0 n.toNatClampNeg j)))).heap = H.setIfInBounds (mm_ad base b t a) (arrV (cy 10) (hL h a) (fun j => .long (va_cpy (hJ h v) (hJ h a) 0 0 n.toNatClampNeg j))) := by rw [← hT]; rfl
  have oq : ∀ q : Nat, q ≠ mm_ad base b t a → (H.setIfInBounds (mm_ad base b t a) (arrV (cy 10) (hL h a) (fun j => .long (va_cpy (hJ h v) (hJ h a) 0 0 n.toNatClampNeg j))))[q]? = H[q]? := fun q hq => by simp [Array.getElem?_setIfInBounds, Ne.symm hq]
  have z : (H.setIfInBounds (mm_ad base b t a) (arrV (cy 10) (hL h a) (fun j => .long (va_cpy (hJ h v) (hJ h a) 0 0 n.toNatClampNeg j)))).size = H.size := by simp
  obtain ⟨t9, a1, b1⟩ := kk _ _ (hH.upd (h' := rowJ h a (fun j => if j < n.toNatClampNeg then hJ h v j else hJ h a j)) (a := a) (by omega) rfl rfl rfl rfl (mm_row_ne (by omega)) (fun k hk => mm_ce_rowJ hk) z oq (by
      rw [mm_ce_l (h := rowJ h a (fun j => if j < n.toNatClampNeg then hJ h v j else hJ h a j)) ka]
      show (H.setIfInBounds _ _)[_]? = some (arrV (cy (hK h a)) (hL h a) (fun j => .long (mm_row (hJ h) a (fun j => if j < n.toNatClampNeg then hJ h v j else hJ h a j) a j)))
      rw [mm_row_eq, ka]
      simp only [Array.getElem?_setIfInBounds, hlt, if_true]
      congr 2
      funext j
      unfold va_cpy
      simp)) ⟨by rw [z]; exact hS.1, fun q g1 g2 => by
      rw [oq q (fun e => g2 (by rw [e]; exact mm_Aof hae))]
      exact hS.2.1 q g1 g2, fun q hq => by
      rcases List.mem_append.mp hq with h | h
      · exact hS.2.2 q h
      · obtain ⟨z, -, hz⟩ := List.mem_map.mp h
        rw [← hz]
        exact mm_Aof hae⟩ _ hheap X'
  exact ⟨t9, step t9 a1, b1⟩
end MMS
end
section
/-! WHAT IS MADE -/
theorem mm_wl_P {D : va_G} {cy : Nat → ClassId} {base b t : Nat} {h : MH} {H : Heap} : va_P D mm_C (mm_wl cy base b t h) H ↔ ∀ k, 2 ≤ k → k < hN h → va_at D mm_C (base + (k - 2), mm_ce cy (mm_ad base b t) h k) H := by
  constructor
  · intro hP k h2 hk
    have := hP (k - 2) _ (mm_wl_at (by omega))
    rw [show k - 2 + 2 = k by omega] at this
    exact this
  · intro hA k q hq
    obtain ⟨hi, -⟩ := List.getElem?_eq_some_iff.mp hq
    rw [mm_wl_len] at hi
    rw [mm_wl_at hi] at hq
    cases hq
    have := hA (k + 2) (by omega) (by omega)
    rw [show k + 2 - 2 = k by omega] at this
    exact this
theorem mm_at_kept {D : va_G} {cl : List vw_C} {q : Nat × va_E} {H H1 : Heap} (h : va_at D cl q H) (hq : H1[q.1]? = H[q.1]?) : va_at D cl q H1 := va_at.kept h hq
theorem mm_ce_mk {cy : Nat → ClassId} {ad : Nat → Nat} {h : MH} {kind len k : Nat} (hk : k ≠ hN h) : mm_ce cy ad (mm_mk h kind len) k = mm_ce cy ad h k := by
  have e1 : mm_row (hI h) (hN h) (fun _ => 0) k = hI h k := mm_row_ne hk
  have e2 : mm_row (hJ h) (hN h) (fun _ => 0) k = hJ h k := mm_row_ne hk
  have e3 : mm_row (hR h) (hN h) (fun _ => none) k = hR h k := mm_row_ne hk
  have e4 : mm_u1 (hK h) (hN h) kind k = hK h k := if_neg hk
  have e5 : mm_u1 (hL h) (hN h) len k = hL h k := if_neg hk
  have e6 : ∀ ci j, mm_fv (mm_mk h kind len) k ci j = mm_fv h k ci j := by
    intro ci j
    unfold mm_fv mm_mk
    simp only [hI, hJ, hR] at *
    rw [e1, e2, e3]
  unfold mm_ce
  simp only [e6]
  unfold mm_mk
  simp only [hI, hJ, hR, hK, hL] at *
  rw [e1, e2, e3, e4, e5]
/-- a world with one cell more -/
theorem mm_H.grow {D : va_G} {cy : Nat → ClassId} {base b t Ls : Nat} {xs : Nat → Int32} {ps : Nat → Int64} {h : MH} {H H1 : Heap} (hH : mm_H D cy base b t Ls xs ps h H) {kind len : Nat} (hk : kind ≤ 15) (z : H1.size = H.size + 1) (oq : ∀ q : Nat, q < H.size → H1[q]? = H[q]?)
    (he : va_at D mm_C (H.size, mm_ce cy (mm_ad base b t) (mm_mk h kind len) (hN h)) H1) : mm_H D cy base b t Ls xs ps (mm_mk h kind len) H1 := by
  obtain ⟨⟨g1, g2⟩, ⟨g3, g4, g5, g6⟩, ⟨g7, g8, g9, g10⟩, hP⟩ := hH
  have n0 : (0 : Nat) ≠ hN h := by omega
  have n1 : (1 : Nat) ≠ hN h := by omega
  refine ⟨⟨?_, ?_⟩, ⟨?_, ?_, ?_, ?_⟩, ⟨?_, ?_, ?_, ?_⟩, ?_⟩
  · show 2 ≤ hN h + 1; omega
  · show H1.size = base + (hN h + 1 - 2); omega
  · show mm_u1 (hK h) (hN h) kind 0 = 20; rw [show mm_u1 (hK h) (hN h) kind 0 = hK h 0 from if_neg n0]; exact g3
  · show mm_u1 (hK h) (hN h) kind 1 = 21; rw [show mm_u1 (hK h) (hN h) kind 1 = hK h 1 from if_neg n1]; exact g4
  · intro a ha
    have ha' : hN h + 1 ≤ a := ha
    show mm_u1 (hK h) (hN h) kind a = 99
    rw [show mm_u1 (hK h) (hN h) kind a = hK h a from if_neg (by omega)]
    exact g5 a (by omega)
  · intro a h2 ha
    have ha' : a < hN h + 1 := ha
    show mm_u1 (hK h) (hN h) kind a ≤ 15
    by_cases e : a = hN h
    · rw [show mm_u1 (hK h) (hN h) kind a = kind from if_pos e]; exact hk
    · rw [show mm_u1 (hK h) (hN h) kind a = hK h a from if_neg e]; exact g6 a h2 (by omega)
  · show mm_u1 (hL h) (hN h) len 0 = Ls; rw [show mm_u1 (hL h) (hN h) len 0 = hL h 0 from if_neg n0]; exact g7
  · show mm_row (hI h) (hN h) (fun _ => 0) 0 = xs; rw [mm_row_ne n0]; exact g8
  · show mm_u1 (hL h) (hN h) len 1 = 6; rw [show mm_u1 (hL h) (hN h) len 1 = hL h 1 from if_neg n1]; exact g9
  · show mm_row (hJ h) (hN h) (fun _ => 0) 1 = ps; rw [mm_row_ne n1]; exact g10
  · rw [mm_wl_P] at hP ⊢
    intro k h2 hk'
    have hk2 : k < hN h + 1 := hk'
    by_cases e : k = hN h
    · subst e
      rw [← g2]
      exact he
    · rw [mm_ce_mk e]
      refine mm_at_kept (hP k h2 (by omega)) (oq _ ?_)
      show base + (k - 2) < H.size
      omega
theorem mm_fv_mk {h : MH} {kind len ci k : Nat} (hci : ci ≤ 8) : mm_fv (mm_mk h kind len) (hN h) ci k = (match mm_ty ci k with
  | 0 => .int 0
  | 1 => .int 0
  | 2 => .long 0
  | _ => .null) := by
  unfold mm_fv mm_mk
  have e1 : ∀ j, mm_row (hI h) (hN h) (fun _ => 0) (hN h) j = 0 := fun j => if_pos rfl
  have e2 : ∀ j, mm_row (hJ h) (hN h) (fun _ => 0) (hN h) j = 0 := fun j => if_pos rfl
  have e3 : ∀ j, mm_row (hR h) (hN h) (fun _ => none) (hN h) j = none := fun j => if_pos rfl
  simp only [hI, hJ, hR, e1, e2, e3] at *
  split <;> simp_all [mm_rv]
section MMM
variable {p : Program} {l : Launch} {e : Env} {R : Room} {s : State} {m : MethodId} {args : Array Value} {below : List Frame} {meth : Method} {c : Code} {H : Heap} {locs : List Loc} {cells slots : Nat} {Q : State → Prop}
variable {cc : ByteArray} {pc : Nat} {ls : Array Slot} {rest : List Value} {D : va_G} {cy : Nat → ClassId} {base b t Ls : Nat} {xs : Nat → Int32} {ps : Nat → Int64} {h : MH}
theorem mm_adN (hH : mm_H D cy base b t Ls xs ps h H) : mm_ad base b t (hN h) = H.size := by
  obtain ⟨⟨g1, g2⟩, -⟩ := hH
  unfold mm_ad
  rw [if_neg (by omega), if_neg (by omega), g2]
theorem mm_S_grow {A : Nat → Prop} {H0 H1 : Heap} {k : Nat} (hS : va_S A H0 H locs) (z : H1.size = H.size + k) (oq : ∀ q : Nat, q < H.size → H1[q]? = H[q]?) : va_S A H0 H1 locs :=
  ⟨by have := hS.1; omega, fun q h1 h2 => (oq q (Nat.lt_of_lt_of_le h1 hS.1)).trans (hS.2.1 q h1 h2), hS.2.2⟩
theorem ms_new (hx : p.tables.exec = Jvm.exec) (hb : c.code = cc) {own idx ci : Nat} (hci : ci ≤ 8) (hts : ∀ w ∈ mm_ws, w.before args s = true) (hown : s.vm.findClass (mm_on own) = some m.cls) (hcl : Jvm.Cond.classLink (mm_on own) idx (mm_on ci) ∈ tables_1) (hVK : va_K D mm_C (mm_tys cy) s) (hH : mm_H D cy base b t Ls xs ps h H) (hS : va_S (mm_A base) s.heap H locs) (hcells : cells + 1 ≤ R.cells) (hslots : slots + mm_cN ci ≤ R.slots) (hd : decode cc pc = .ok (.new idx, 3))
    (kk : ∀ H1, mm_H D cy base b t Ls xs ps (mm_mk h ci 0) H1 → va_S (mm_A base) s.heap H1 locs → W p l e R s m args below meth c H1 locs (cells + 1) (slots + mm_cN ci) Q (F0 m (pc + 3) ls (.ref (mm_ad base b t (hN h)) :: rest))) : W p l e R s m args below meth c H locs cells slots Q (F0 m pc ls rest) := by
  obtain ⟨T, hT, hin, -, hkk⟩ := fx_cls hci
  have hKn := hVK.1 ci _ hT
  have hck := List.all_eq_true.mp ck_n1 ci (List.mem_range.mpr (by omega))
  simp only [Bool.and_eq_true, decide_eq_true_eq] at hck
  rw [mm_adN hH] at kk
  have hty : ∀ k, k < mm_cN ci → parseFieldDescriptor (T k).2.2.1 = some ((parseFieldDescriptor (T k).2.2.1).getD .int) := by
    intro k hk
    rcases (hkk k hk).2.2 with ⟨-, q⟩ | ⟨-, q⟩ | ⟨-, q⟩ | ⟨-, ty, q, -⟩ <;> rw [q] <;> rfl
  refine W.newcK hx hb hown (hts _ (mm_in_ws hcl rfl)) (hts _ (mm_in_ws hck.1 rfl)) (hts _ (mm_in_ws hck.2 rfl)) rfl hd hcells hslots hKn.2.1 rfl fun H1 kC hkC e1 z1 o1 => ?_
  refine kk H1 (hH.grow (by omega) z1 o1 ?_) (mm_S_grow hS z1 o1)
  have e9 : hK (mm_mk h ci 0) (hN h) = ci := if_pos rfl
  rw [mm_ce_ob (by rw [e9]; exact hci), e9]
  refine ⟨_, hT, (u_born (fun k => (parseFieldDescriptor (T k).2.2.1).getD .int) hts hin hKn hkC e1 hty).to fun j hj => ?_⟩
  show _ = List.getD _ j _
  rw [List.getD_eq_getElem?_getD, List.getElem?_map, List.getElem?_range hj]
  show defaultValue _ = mm_tv _ (mm_fv (mm_mk h ci 0) (hN h) ci j)
  rw [mm_fv_mk hci]
  rcases (hkk j hj).2.2 with ⟨q1, q⟩ | ⟨q1, q⟩ | ⟨q1, q⟩ | ⟨q1, ty, q, q2⟩ <;> rw [q, q1]
  · rfl
  · rfl
  · rfl
  · rcases q2 with ⟨C, rfl⟩ | ⟨x, rfl⟩ <;> rfl
theorem ms_newa (hx : p.tables.exec = Jvm.exec) (hb : c.code = cc) {at9 : ArrayType} {kind : Nat} (hk : (at9 = .int ∧ kind = 9) ∨ (at9 = .long ∧ kind = 10) ∨ (at9 = .boolean ∧ kind = 11)) (hts : ∀ w ∈ mm_ws, w.before args s = true) (hVK : va_K D mm_C (mm_tys cy) s) (hH : mm_H D cy base b t Ls xs ps h H) (hS : va_S (mm_A base) s.heap H locs) {n : Int32} (hn : ¬ n < 0) (hn2 : n.toNatClampNeg ≤ 1000) (hcells : cells + 1 ≤ R.cells) (hslots : slots + n.toNatClampNeg ≤ R.slots) (hd : decode cc pc = .ok (.newarray at9, 2))
    (kk : ∀ H1, mm_H D cy base b t Ls xs ps (mm_mk h kind n.toNatClampNeg) H1 → va_S (mm_A base) s.heap H1 locs → W p l e R s m args below meth c H1 locs (cells + 1) (slots + n.toNatClampNeg) Q (F0 m (pc + 2) ls (.ref (mm_ad base b t (hN h)) :: rest))) : W p l e R s m args below meth c H locs cells slots Q (F0 m pc ls (.int n :: rest)) := by
  rw [mm_adN hH] at kk
  have e9 : hK (mm_mk h kind n.toNatClampNeg) (hN h) = kind := if_pos rfl
  have e8 : hL (mm_mk h kind n.toNatClampNeg) (hN h) = n.toNatClampNeg := if_pos rfl
  have e7 : hI (mm_mk h kind n.toNatClampNeg) (hN h) = fun _ => 0 := mm_row_eq
  have e6 : hJ (mm_mk h kind n.toNatClampNeg) (hN h) = fun _ => 0 := mm_row_eq
  rcases hk with ⟨rfl, rfl⟩ | ⟨rfl, rfl⟩ | ⟨rfl, rfl⟩
  · refine va_newaK (atype := .int) hx hb (hts _ (mm_in_ws ck_a1.1 rfl)) rfl hd rfl hn rfl (by show _ * 4 ≤ _; omega) hcells hslots rfl fun H1 cA e1 z1 o1 _ hf => ?_
    have hcy : cy 9 = cA := Option.some.inj ((show s.vm.findClass "[I" = some (cy 9) from (hVK.2 0 _ rfl).2).symm.trans hf)
    refine kk H1 (hH.grow (by omega) z1 o1 ?_) (mm_S_grow hS z1 o1)
    rw [mm_ce_i (Or.inl e9), e9, e8, e7, hcy]
    exact e1
  · refine va_newaK (atype := .long) hx hb (hts _ (mm_in_ws ck_a1.2.1 rfl)) rfl hd rfl hn rfl (by show _ * 8 ≤ _; omega) hcells hslots rfl fun H1 cA e1 z1 o1 _ hf => ?_
    have hcy : cy 10 = cA := Option.some.inj ((show s.vm.findClass "[J" = some (cy 10) from (hVK.2 1 _ rfl).2).symm.trans hf)
    refine kk H1 (hH.grow (by omega) z1 o1 ?_) (mm_S_grow hS z1 o1)
    rw [mm_ce_l e9, e9, e8, e6, hcy]
    exact e1
  · refine va_newaK (atype := .boolean) hx hb (hts _ (mm_in_ws ck_a1.2.2.1 rfl)) rfl hd rfl hn rfl (by show _ * 1 ≤ _; omega) hcells hslots rfl fun H1 cA e1 z1 o1 _ hf => ?_
    have hcy : cy 11 = cA := Option.some.inj ((show s.vm.findClass "[Z" = some (cy 11) from (hVK.2 2 _ rfl).2).symm.trans hf)
    refine kk H1 (hH.grow (by omega) z1 o1 ?_) (mm_S_grow hS z1 o1)
    rw [mm_ce_i (Or.inr e9), e9, e8, e7, hcy]
    exact e1
theorem ms_anew (hx : p.tables.exec = Jvm.exec) (hb : c.code = cc) {own idx ci : Nat} (hci : ci = 5 ∨ ci = 6) (hts : ∀ w ∈ mm_ws, w.before args s = true) (hown : s.vm.findClass (mm_on own) = some m.cls) (hcl : Jvm.Cond.classLink (mm_on own) idx (mm_on ci) ∈ tables_1) (hov : (Cond.arrayOver (.object (mm_on ci))).before args s = true) (hVK : va_K D mm_C (mm_tys cy) s) (hH : mm_H D cy base b t Ls xs ps h H) (hS : va_S (mm_A base) s.heap H locs) {n : Int32} (hn : ¬ n < 0) (hn2 : n.toNatClampNeg ≤ 1000) (hcells : cells + 1 ≤ R.cells) (hslots : slots + n.toNatClampNeg ≤ R.slots) (hd : decode cc pc = .ok (.anewarray idx, 3))
    (kk : ∀ H1, mm_H D cy base b t Ls xs ps (mm_mk h (ci + 7) n.toNatClampNeg) H1 → va_S (mm_A base) s.heap H1 locs → W p l e R s m args below meth c H1 locs (cells + 1) (slots + n.toNatClampNeg) Q (F0 m (pc + 3) ls (.ref (mm_ad base b t (hN h)) :: rest))) : W p l e R s m args below meth c H locs cells slots Q (F0 m pc ls (.int n :: rest)) := by
  rw [mm_adN hH] at kk
  have e9 : hK (mm_mk h (ci + 7) n.toNatClampNeg) (hN h) = ci + 7 := if_pos rfl
  have e8 : hL (mm_mk h (ci + 7) n.toNatClampNeg) (hN h) = n.toNatClampNeg := if_pos rfl
  have e7 : hR (mm_mk h (ci + 7) n.toNatClampNeg) (hN h) = fun _ => none := mm_row_eq
  refine W.anew hx hb hown (hts _ (mm_in_ws hcl rfl)) hov rfl hd rfl hn (by omega) hcells hslots fun cA kA comp f1 f2 f3 f4 => ?_
  have z1 : (H.push ({ cls := cA, slots := Array.replicate n.toNatClampNeg .null, vm := .none } : Cell)).size = H.size + 1 := Array.size_push _
  have o1 : ∀ q : Nat, q < H.size → (H.push ({ cls := cA, slots := Array.replicate n.toNatClampNeg .null, vm := .none } : Cell))[q]? = H[q]? := fun q hq => by rw [Array.getElem?_push, if_neg (Nat.ne_of_lt hq)]
  refine kk _ (hH.grow (by omega) z1 o1 ?_) (mm_S_grow hS z1 o1)
  rw [mm_ce_q (by omega), e9, e8, e7]
  have hcy : cy (ci + 7) = cA := by
    rcases hci with rfl | rfl
    · obtain ⟨kA', comp', -, -, -, q⟩ := (hVK.2 3 _ rfl).2
      exact Option.some.inj (q.symm.trans f1)
    · obtain ⟨kA', comp', -, -, -, q⟩ := (hVK.2 4 _ rfl).2
      exact Option.some.inj (q.symm.trans f1)
  rw [hcy]
  show (H.push _)[H.size]? = some (arrV cA _ (fun j => va_rf (Option.map _ none)))
  rw [Array.getElem?_push_size, arrV_new]
  rfl
end MMM
end
section
/-! putfield, arrays of arrays, the script, PRIMES -/
theorem vr_outer (c : ClassId) (N h0 : Nat) : ∀ i : Nat, Jvm.Free.Multi.outerC c N h0 i = arrV c N (fun j => va_rf (if j < i then some (h0 + 1 + j) else none))
  | 0 => by
    show ({ cls := c, slots := Array.replicate N .null, vm := .none } : Cell) = _
    rw [arrV_new]
    refine congrArg (arrV c N) (funext fun j => ?_)
    simp [va_rf]
  | i + 1 => by
    show (Jvm.Free.Multi.outerC c N h0 i).setSlot i (.ref (h0 + 1 + i)) = _
    rw [vr_outer c N h0 i, arrV_store]
    refine congrArg (arrV c N) (funext fun j => ?_)
    by_cases e : j = i
    · subst e
      simp [updV, va_rf]
    · by_cases h : j < i
      · simp [updV, e, h, Nat.lt_succ_of_lt h]
      · simp [updV, e, h, show ¬ j < i + 1 by omega]
section MMP
variable {p : Program} {l : Launch} {e : Env} {R : Room} {s : State} {m : MethodId} {args : Array Value} {below : List Frame} {meth : Method} {c : Code} {H : Heap} {locs : List Loc} {cells slots : Nat} {Q : State → Prop}
variable {cc : ByteArray} {pc : Nat} {ls : Array Slot} {rest : List Value} {D : va_G} {cy : Nat → ClassId} {base b t Ls : Nat} {xs : Nat → Int32} {ps : Nat → Int64} {h : MH}
theorem ms_put (hx : p.tables.exec = Jvm.exec) (hb : c.code = cc) {own idx ci f a : Nat} {v : Value} {h' : MH} (hts : ∀ w ∈ mm_ws, w.before args s = true) (hown : s.vm.findClass (mm_on own) = some m.cls) (hVK : va_K D mm_C (mm_tys cy) s) (hH : mm_H D cy base b t Ls xs ps h H) (hS : va_S (mm_A base) s.heap H locs) (hf : mm_fld own idx = some (ci, f)) (hk : hK h a = ci) (hfin : mm_isF ci f = true → meth.name = "<init>" ∧ own = ci)
    (hv : ∀ ty, ((mm_ty ci f = 0 ∧ ty = .int) ∨ (mm_ty ci f = 1 ∧ ty = .boolean) ∨ (mm_ty ci f = 2 ∧ ty = .long) ∨ (mm_ty ci f = 3 ∧ ((∃ C, ty = .object C) ∨ ∃ e, ty = .array e))) → narrow ty (mm_tv (mm_ad base b t) v) = mm_tv (mm_ad base b t) v ∧ fits ty (mm_tv (mm_ad base b t) v) = true)
    (e1 : hN h' = hN h) (e2 : hK h' = hK h) (e3 : hL h' = hL h) (e4 : hI h' 0 = hI h 0) (e5 : hJ h' 1 = hJ h 1) (ho : ∀ k, k ≠ a → mm_ce cy (mm_ad base b t) h' k = mm_ce cy (mm_ad base b t) h k) (hfv : ∀ k, mm_fv h' a ci k = if k = f then v else mm_fv h a ci k) (hd : decode cc pc = .ok (.putfield idx, 3))
    (kk : ∀ H1 locs1, mm_H D cy base b t Ls xs ps h' H1 → va_S (mm_A base) s.heap H1 locs1 → W p l e R s m args below meth c H1 locs1 cells slots Q (F0 m (pc + 3) ls rest)) : W p l e R s m args below meth c H locs cells slots Q (F0 m pc ls (mm_tv (mm_ad base b t) v :: .ref (mm_ad base b t a) :: rest)) := by
  obtain ⟨h1, h2, h3⟩ := fx_fld hf
  obtain ⟨T, hT, hin, hnm, hkk⟩ := fx_cls h1
  obtain ⟨k1, k2, k3⟩ := hkk f h2
  have h3' := h3 T hT
  subst hk
  obtain ⟨ha2, han, hae, hget⟩ := hH.mem (Nat.le_trans h1 (by omega))
  rw [mm_ce_ob h1] at hget
  have hty : ∀ k, k < mm_cN (hK h a) → parseFieldDescriptor (T k).2.2.1 = some ((parseFieldDescriptor (T k).2.2.1).getD .int) := by
    intro k hk
    rcases (hkk k hk).2.2 with ⟨-, q⟩ | ⟨-, q⟩ | ⟨-, q⟩ | ⟨-, ty, q, -⟩ <;> rw [q] <;> rfl
  have hap := va_apart (own := mm_on own) hts hin _ hty hnm hVK hT
  obtain ⟨r, hr, cell, q1, q2, q3, q4⟩ := hH.2.2.2 _ _ hget
  have hr2 : r = (mm_on (hK h a), T, mm_cN (hK h a)) := Option.some.inj (hr.symm.trans hT)
  subst hr2
  obtain ⟨hSl, hfc, kC, hkC, hkind⟩ := hVK.1 _ _ hT
  obtain ⟨cf, kf, fi, fd, hi, hsl⟩ := hSl f h2
  have hlay := hts _ (hin _ (u_in_lay h2))
  have hst := (u_facts hfc hkC (u_lays hts hin h2) hi).1
  have hvv : ∃ ty, parseFieldDescriptor (T f).2.2.1 = some ty ∧ narrow ty (mm_tv (mm_ad base b t) v) = mm_tv (mm_ad base b t) v ∧ fits ty (mm_tv (mm_ad base b t) v) = true := by
    rcases k3 with ⟨c1, c2⟩ | ⟨c1, c2⟩ | ⟨c1, c2⟩ | ⟨c1, ty, c2, c3⟩
    · exact ⟨_, c2, hv _ (Or.inl ⟨c1, rfl⟩)⟩
    · exact ⟨_, c2, hv _ (Or.inr (Or.inl ⟨c1, rfl⟩))⟩
    · exact ⟨_, c2, hv _ (Or.inr (Or.inr (Or.inl ⟨c1, rfl⟩)))⟩
    · exact ⟨_, c2, hv _ (Or.inr (Or.inr (Or.inr ⟨c1, c3⟩)))⟩
  obtain ⟨ty, hd1, hn1, hfit1⟩ := hvv
  have fin : ∀ (H1 : Heap) (locs1 : List Loc), H1[mm_ad base b t a]? = some (cell.setSlot fd.slot (mm_tv (mm_ad base b t) v)) → H1.size = H.size → (∀ q : Nat, q ≠ mm_ad base b t a → H1[q]? = H[q]?) → W p l e R s m args below meth c H1 (locs ++ [⟨mm_ad base b t a, fd.slot⟩]) cells slots Q (F0 m (pc + 3) ls rest) := by
    intro H1 locs1 c1 z oq
    refine kk H1 _ (hH.upd (h' := h') (a := a) (by omega) e1 e2 e3 e4 e5 ho z oq ?_) (hS.put z oq (mm_Aof hae))
    rw [mm_ce_ob (h := h') (by rw [e2]; exact h1), e2]
    refine ⟨_, hT, t_OB.to (V := updV (fun j => mm_tv (mm_ad base b t) (mm_fv h a (hK h a) j)) f (mm_tv (mm_ad base b t) v)) ⟨_, c1, q2, q3, ?_⟩ fun j hj => ?_⟩
    · rw [hsl]
      refine t_set (fun k hk => ?_) hap h2 _
      rw [q4 k hk]
      show some (List.getD _ k _) = _
      rw [List.getD_eq_getElem?_getD, List.getElem?_map, List.getElem?_range hk]
      rfl
    · show _ = List.getD _ j _
      rw [List.getD_eq_getElem?_getD, List.getElem?_map, List.getElem?_range hj]
      show _ = mm_tv _ (mm_fv h' a (hK h a) j)
      rw [hfv]
      unfold updV
      by_cases hj2 : j = f
      · simp [hj2]
      · simp [hj2]
  by_cases hF : (T f).2.2.2 = true
  · unfold u_lay at hlay
    rw [if_pos hF] at hlay
    obtain ⟨hin2, hown2⟩ := hfin (by rw [← k2]; exact hF)
    have hcf : m.cls = cf := by
      obtain ⟨_, _, c', _, _, _, -, -, hf', -, -, -, hown3, -⟩ := Cond.laysFinal_spec hlay
      have x1 : c' = cf := by have := hi.symm.trans hf'; simp at this; exact this.1.symm
      rw [k1, ← hown2] at hown3
      rw [← x1]; exact Option.some.inj (hown.symm.trans hown3)
    have h6 := u_fits hfc hkC hkind (Or.inr hlay) hi hd1 hn1 hfit1
    refine W.putFinK hx hb hown (hts _ h3') hi hst hcf hin2 (by rw [q2]; exact h6) q1 q3 (by rw [hsl]; exact k2_hasslot (q4 f h2)) rfl rfl hd fun H' x1 x2 x3 => ?_
    exact fin H' [] x1 x2 x3
  · unfold u_lay at hlay
    rw [if_neg hF] at hlay
    have h6 := u_store hfc hkC hkind hlay hi hd1 hn1 hfit1
    refine W.putK hx hb (f := fd) ⟨hown, hts _ h3', ⟨_, _, _, hi⟩, hst⟩ (by rw [q2]; exact h6) q1 q3 (by rw [hsl]; exact k2_hasslot (q4 f h2)) rfl rfl hd fun H' x1 x2 x3 => ?_
    exact fin H' [] x1 x2 x3
theorem ms_sld (hx : p.tables.exec = Jvm.exec) (hb : c.code = cc) {x : Int32} (hG : mm_X D cy base b t Ls xs ps s) (hH : mm_H D cy base b t Ls xs ps h H) (hS : va_S (mm_A base) s.heap H locs) (hi : mm_in x (hL h 0) = true) (hd : decode cc pc = .ok (.iaload, 1))
    (kk : W p l e R s m args below meth c H locs cells slots Q (F0 m (pc + 1) ls (.int (hI h 0 x.toNatClampNeg) :: rest))) : W p l e R s m args below meth c H locs cells slots Q (F0 m pc ls (.int x :: .ref (mm_ad base b t 0) :: rest)) := by
  obtain ⟨⟨g1, g2⟩, g3, g4, -⟩ := hG
  obtain ⟨-, -, ⟨h1, h2, -⟩, -⟩ := hH
  rw [h1] at hi
  rw [h2] at kk
  have hb1 : b < s.heap.size := by omega
  have hb2 : ¬ mm_A base b := fun q => by unfold mm_A at q; omega
  exact va_sld (b := b) hx hb g4 hb1 hb2 hS (mm_in_iff.mp hi) hd kk
theorem ms_slen (hx : p.tables.exec = Jvm.exec) (hb : c.code = cc) (hG : mm_X D cy base b t Ls xs ps s) (hH : mm_H D cy base b t Ls xs ps h H) (hS : va_S (mm_A base) s.heap H locs) (hd : decode cc pc = .ok (.arraylength, 1))
    (kk : W p l e R s m args below meth c H locs cells slots Q (F0 m (pc + 1) ls (.int (Int32.ofNat (hL h 0)) :: rest))) : W p l e R s m args below meth c H locs cells slots Q (F0 m pc ls (.ref (mm_ad base b t 0) :: rest)) := by
  obtain ⟨⟨g1, g2⟩, g3, g4, -⟩ := hG
  obtain ⟨-, -, ⟨h1, h2, -⟩, -⟩ := hH
  rw [h1] at kk
  have hb1 : b < s.heap.size := by omega
  have hb2 : ¬ mm_A base b := fun q => by unfold mm_A at q; omega
  exact va_slen (b := b) hx hb g4 hb1 hb2 hS hd kk
theorem ms_tl (hx : p.tables.exec = Jvm.exec) (hb : c.code = cc) {x : Int32} (hG : mm_X D cy base b t Ls xs ps s) (hH : mm_H D cy base b t Ls xs ps h H) (hS : va_S (mm_A base) s.heap H locs) (hi : mm_in x (hL h 1) = true) (hd : decode cc pc = .ok (.laload, 1))
    (kk : W p l e R s m args below meth c H locs cells slots Q (F0 m (pc + 1) ls (.long (hJ h 1 x.toNatClampNeg) :: rest))) : W p l e R s m args below meth c H locs cells slots Q (F0 m pc ls (.int x :: .ref (mm_ad base b t 1) :: rest)) := by
  obtain ⟨-, -, -, -, g6⟩ := hG
  obtain ⟨-, -, ⟨-, -, h3, h4⟩, -⟩ := hH
  rw [h3] at hi
  rw [h4] at kk
  exact va_tl hx hb g6 hS (mm_in_iff.mp hi) rfl hd kk
theorem ms_tlen (hx : p.tables.exec = Jvm.exec) (hb : c.code = cc) (hG : mm_X D cy base b t Ls xs ps s) (hH : mm_H D cy base b t Ls xs ps h H) (hS : va_S (mm_A base) s.heap H locs) (hd : decode cc pc = .ok (.arraylength, 1))
    (kk : W p l e R s m args below meth c H locs cells slots Q (F0 m (pc + 1) ls (.int (Int32.ofNat (hL h 1)) :: rest))) : W p l e R s m args below meth c H locs cells slots Q (F0 m pc ls (.ref (mm_ad base b t 1) :: rest)) := by
  obtain ⟨-, -, -, -, g6⟩ := hG
  obtain ⟨-, -, ⟨-, -, h3, h4⟩, -⟩ := hH
  rw [h3] at kk
  exact va_tlen hx hb g6 hS rfl hd kk
/-- worlds grow by rows of one kind -/
theorem mm_mks_N (h : MH) (kind len : Nat) : ∀ n, hN (mm_mks h kind len n) = hN h + n
  | 0 => rfl
  | n + 1 => by show hN (mm_mks h kind len n) + 1 = _; rw [mm_mks_N h kind len n]; rfl
theorem mm_mks_ce {cy : Nat → ClassId} {ad : Nat → Nat} (h : MH) (kind len k : Nat) (hk : k < hN h) : ∀ n, mm_ce cy ad (mm_mks h kind len n) k = mm_ce cy ad h k
  | 0 => rfl
  | n + 1 => by show mm_ce cy ad (mm_mk (mm_mks h kind len n) kind len) k = _; rw [mm_ce_mk (by rw [mm_mks_N]; omega), mm_mks_ce h kind len k hk n]
theorem mm_mks_in (h : MH) (kind len : Nat) : ∀ (n j : Nat), j < n → hI (mm_mks h kind len n) (hN h + j) = (fun _ => 0) ∧ hJ (mm_mks h kind len n) (hN h + j) = (fun _ => 0) ∧ hK (mm_mks h kind len n) (hN h + j) = kind ∧ hL (mm_mks h kind len n) (hN h + j) = len
  | n + 1, j, hj => by
    show hI (mm_mk (mm_mks h kind len n) kind len) (hN h + j) = (fun _ => 0) ∧ hJ (mm_mk (mm_mks h kind len n) kind len) (hN h + j) = (fun _ => 0) ∧ hK (mm_mk (mm_mks h kind len n) kind len) (hN h + j) = kind ∧ hL (mm_mk (mm_mks h kind len n) kind len) (hN h + j) = len
    have hN' := mm_mks_N h kind len n
    by_cases e : j = n
    · subst e
      refine ⟨?_, ?_, ?_, ?_⟩
      · show mm_row (hI _) (hN (mm_mks h kind len j)) _ _ = _; rw [hN', mm_row_eq]
      · show mm_row (hJ _) (hN (mm_mks h kind len j)) _ _ = _; rw [hN', mm_row_eq]
      · show mm_u1 (hK _) (hN (mm_mks h kind len j)) kind _ = _; rw [hN']; exact if_pos rfl
      · show mm_u1 (hL _) (hN (mm_mks h kind len j)) len _ = _; rw [hN']; exact if_pos rfl
    · obtain ⟨i1, i2, i3, i4⟩ := mm_mks_in h kind len n j (by omega)
      refine ⟨?_, ?_, ?_, ?_⟩
      · show mm_row (hI _) (hN (mm_mks h kind len n)) _ _ = _; rw [hN', mm_row_ne (by omega), i1]
      · show mm_row (hJ _) (hN (mm_mks h kind len n)) _ _ = _; rw [hN', mm_row_ne (by omega), i2]
      · show mm_u1 (hK _) (hN (mm_mks h kind len n)) kind _ = _; rw [hN', show mm_u1 (hK (mm_mks h kind len n)) (hN h + n) kind (hN h + j) = hK (mm_mks h kind len n) (hN h + j) from if_neg (by omega), i3]
      · show mm_u1 (hL _) (hN (mm_mks h kind len n)) len _ = _; rw [hN', show mm_u1 (hL (mm_mks h kind len n)) (hN h + n) len (hN h + j) = hL (mm_mks h kind len n) (hN h + j) from if_neg (by omega), i4]
theorem mm_mks_old (h : MH) (kind len : Nat) : ∀ (n k : Nat), k < hN h ∨ hN h + n ≤ k → hI (mm_mks h kind len n) k = hI h k ∧ hJ (mm_mks h kind len n) k = hJ h k ∧ hR (mm_mks h kind len n) k = hR h k ∧ hK (mm_mks h kind len n) k = hK h k ∧ hL (mm_mks h kind len n) k = hL h k
  | 0, k, _ => ⟨rfl, rfl, rfl, rfl, rfl⟩
  | n + 1, k, hk => by
    obtain ⟨i1, i2, i3, i4, i5⟩ := mm_mks_old h kind len n k (by omega)
    have hN' := mm_mks_N h kind len n
    have hne : k ≠ hN (mm_mks h kind len n) := by omega
    refine ⟨?_, ?_, ?_, ?_, ?_⟩
    · show mm_row (hI _) _ _ k = _; rw [mm_row_ne hne, i1]
    · show mm_row (hJ _) _ _ k = _; rw [mm_row_ne hne, i2]
    · show mm_row (hR _) _ _ k = _; rw [mm_row_ne hne, i3]
    · show mm_u1 (hK _) _ _ k = _; rw [show mm_u1 (hK (mm_mks h kind len n)) (hN (mm_mks h kind len n)) kind k = _ from if_neg hne, i4]
    · show mm_u1 (hL _) _ _ k = _; rw [show mm_u1 (hL (mm_mks h kind len n)) (hN (mm_mks h kind len n)) len k = _ from if_neg hne, i5]
/-- new T[n][m] -/
theorem ms_mult (hx : p.tables.exec = Jvm.exec) (hb : c.code = cc) {own idx ci : Nat} {ty : FieldType} {nm : String} (hci : (ci = 14 ∧ ty = .int ∧ nm = "[[I") ∨ (ci = 15 ∧ ty = .long ∧ nm = "[[J")) (hts : ∀ w ∈ mm_ws, w.before args s = true) (hown : s.vm.findClass (mm_on own) = some m.cls) (hcl : Jvm.Cond.classLink (mm_on own) idx nm ∈ tables_1) (hov : (Cond.arrayOver (.array ty)).before args s = true) (hVK : va_K D mm_C (mm_tys cy) s) (hH : mm_H D cy base b t Ls xs ps h H) (hS : va_S (mm_A base) s.heap H locs) {n k : Int32} (hn : ¬ n < 0) (hk : ¬ k < 0) (hn2 : n.toNatClampNeg ≤ 1000) (hk2 : k.toNatClampNeg ≤ 1000)
    (hcells : cells + (1 + n.toNatClampNeg) ≤ R.cells) (hslots : slots + (n.toNatClampNeg + n.toNatClampNeg * k.toNatClampNeg) ≤ R.slots) (hd : decode cc pc = .ok (.multianewarray idx 2, 4))
    (kk : ∀ H1, mm_H D cy base b t Ls xs ps ((fun g : MH => (hI g, hJ g, mm_row (hR g) (hN h) (fun j => if j < n.toNatClampNeg then some (hN h + 1 + j) else none), hK g, hL g, hN g)) (mm_mks (mm_mk h ci n.toNatClampNeg) (ci - 5) k.toNatClampNeg n.toNatClampNeg)) H1 → va_S (mm_A base) s.heap H1 locs → W p l e R s m args below meth c H1 locs (cells + 1 + n.toNatClampNeg) (slots + n.toNatClampNeg + n.toNatClampNeg * k.toNatClampNeg) Q (F0 m (pc + 4) ls (.ref (mm_ad base b t (hN h)) :: rest))) : W p l e R s m args below meth c H locs cells slots Q (F0 m pc ls (.int k :: .int n :: rest)) := by
  rw [mm_adN hH] at kk
  generalize hNN : n.toNatClampNeg = N at *
  generalize hKK : k.toNatClampNeg = K at *
  have hnm : nm = "[" ++ (FieldType.array ty).toString := by rcases hci with ⟨-, rfl, rfl⟩ | ⟨-, rfl, rfl⟩ <;> rfl
  have hac : (Cond.arrayClass ty).before args s = true := by
    rcases hci with ⟨-, rfl, -⟩ | ⟨-, rfl, -⟩
    · exact hts _ (mm_in_ws ck_a1.1 rfl)
    · exact hts _ (mm_in_ws ck_a1.2.1 rfl)
  have hcb : componentBytes ty ≤ 8 := by rcases hci with ⟨-, rfl, -⟩ | ⟨-, rfl, -⟩ <;> decide
  have hkb : K * componentBytes ty ≤ 536870912 := Nat.le_trans (Nat.mul_le_mul hk2 hcb) (by omega)
  subst hnm
  intro T hT X
  obtain ⟨vm₁, cA, comp, -, fA, fC, hO, -, X', step⟩ := X.multianewarray2F hx hown (hts _ (mm_in_ws hcl rfl)) hov hac (g := F0 m pc ls (.int k :: .int n :: rest)) rfl (by rw [hb]; exact hd) rfl hn hk (by rw [hNN]; omega) (by rw [hKK]; exact hkb) (by rw [hKK]; omega) (by rcases hci with ⟨-, rfl, -⟩ | ⟨-, rfl, -⟩ <;> rfl) (by rcases hci with ⟨-, rfl, -⟩ | ⟨-, rfl, -⟩ <;> rfl) (by rw [hNN]; exact hcells) (by rw [hNN, hKK]; exact hslots)
  rw [hNN, hKK] at X' step
  generalize hF : Jvm.Free.Multi.fill (T.setVm vm₁) cA comp N K (defaultValue ty) N = F at X' step
  have hTh : (T.setVm vm₁).heap = H := hT
  obtain ⟨f1, f2, -, -⟩ := Jvm.Free.Multi.fill_facts (T.setVm vm₁) cA comp N K (defaultValue ty) N
  rw [hF, hTh] at f1 f2
  have hold : ∀ x : Nat, x < H.size → F.heap[x]? = H[x]? := fun x hx => by
    have := Jvm.Free.Multi.fill_old (T.setVm vm₁) cA comp N K (defaultValue ty) (a := x) (by rw [hTh]; exact hx) N
    rw [hF, hTh] at this
    exact this
  have hrow : ∀ j : Nat, j < N → F.heap[H.size + 1 + j]? = some (Jvm.Free.Multi.innerC comp K (defaultValue ty)) := fun j hj => by
    have := Jvm.Free.Multi.fill_inner (T.setVm vm₁) cA comp N K (defaultValue ty) N j hj
    rw [hF, hTh] at this
    exact this
  have hcA : cy ci = cA ∧ cy (ci - 5) = comp := by
    rcases hci with ⟨rfl, rfl, -⟩ | ⟨rfl, rfl, -⟩
    · exact ⟨Option.some.inj ((show s.vm.findClass "[[I" = some (cy 14) from (hVK.2 5 _ rfl).2).symm.trans fA), Option.some.inj ((show s.vm.findClass "[I" = some (cy 9) from (hVK.2 0 _ rfl).2).symm.trans fC)⟩
    · exact ⟨Option.some.inj ((show s.vm.findClass "[[J" = some (cy 15) from (hVK.2 6 _ rfl).2).symm.trans fA), Option.some.inj ((show s.vm.findClass "[J" = some (cy 10) from (hVK.2 1 _ rfl).2).symm.trans fC)⟩
  have hci2 : ci = 14 ∨ ci = 15 := by rcases hci with ⟨h, -, -⟩ | ⟨h, -, -⟩ <;> omega
  have hHH := hH
  obtain ⟨⟨g1, g2⟩, ⟨g3, g4, g5, g6⟩, ⟨g7, g8, g9, g10⟩, hP⟩ := hH
  have m1 : hN (mm_mk h ci N) = hN h + 1 := rfl
  have key : mm_H D cy base b t Ls xs ps ((fun g : MH => (hI g, hJ g, mm_row (hR g) (hN h) (fun j => if j < N then some (hN h + 1 + j) else none), hK g, hL g, hN g)) (mm_mks (mm_mk h ci N) (ci - 5) K N)) F.heap := by
    have o := fun k hk => mm_mks_old (mm_mk h ci N) (ci - 5) K N k hk
    have i9 := fun j hj => mm_mks_in (mm_mk h ci N) (ci - 5) K N j hj
    rw [m1] at o i9
    have nN := mm_mks_N (mm_mk h ci N) (ci - 5) K N
    rw [m1] at nN
    have q0 := o 0 (by omega)
    have q1 := o 1 (by omega)
    have e0 : (0 : Nat) ≠ hN h := by omega
    have e1 : (1 : Nat) ≠ hN h := by omega
    refine ⟨⟨?_, ?_⟩, ⟨?_, ?_, ?_, ?_⟩, ⟨?_, ?_, ?_, ?_⟩, ?_⟩
    · show 2 ≤ hN (mm_mks (mm_mk h ci N) (ci - 5) K N); omega
    · show F.heap.size = base + (hN (mm_mks (mm_mk h ci N) (ci - 5) K N) - 2); omega
    · show hK (mm_mks (mm_mk h ci N) (ci - 5) K N) 0 = 20; rw [q0.2.2.2.1, show hK (mm_mk h ci N) 0 = hK h 0 from if_neg e0]; exact g3
    · show hK (mm_mks (mm_mk h ci N) (ci - 5) K N) 1 = 21; rw [q1.2.2.2.1, show hK (mm_mk h ci N) 1 = hK h 1 from if_neg e1]; exact g4
    · intro a ha
      have ha' : hN (mm_mks (mm_mk h ci N) (ci - 5) K N) ≤ a := ha
      show hK (mm_mks (mm_mk h ci N) (ci - 5) K N) a = 99
      rw [(o a (by omega)).2.2.2.1, show hK (mm_mk h ci N) a = hK h a from if_neg (by omega)]
      exact g5 a (by omega)
    · intro a h2 ha
      have ha' : a < hN (mm_mks (mm_mk h ci N) (ci - 5) K N) := ha
      show hK (mm_mks (mm_mk h ci N) (ci - 5) K N) a ≤ 15
      by_cases hh : a < hN h + 1
      · rw [(o a (Or.inl hh)).2.2.2.1]
        by_cases he : a = hN h
        · rw [show hK (mm_mk h ci N) a = ci from if_pos he]; omega
        · rw [show hK (mm_mk h ci N) a = hK h a from if_neg he]; exact g6 a h2 (by omega)
      · obtain ⟨j, rfl⟩ : ∃ j, a = hN h + 1 + j := ⟨a - (hN h + 1), by omega⟩
        rw [(i9 j (by omega)).2.2.1]; omega
    · show hL (mm_mks (mm_mk h ci N) (ci - 5) K N) 0 = Ls; rw [q0.2.2.2.2, show hL (mm_mk h ci N) 0 = hL h 0 from if_neg e0]; exact g7
    · show hI (mm_mks (mm_mk h ci N) (ci - 5) K N) 0 = xs; rw [q0.1, show hI (mm_mk h ci N) 0 = hI h 0 from mm_row_ne e0]; exact g8
    · show hL (mm_mks (mm_mk h ci N) (ci - 5) K N) 1 = 6; rw [q1.2.2.2.2, show hL (mm_mk h ci N) 1 = hL h 1 from if_neg e1]; exact g9
    · show hJ (mm_mks (mm_mk h ci N) (ci - 5) K N) 1 = ps; rw [q1.2.1, show hJ (mm_mk h ci N) 1 = hJ h 1 from mm_row_ne e1]; exact g10
    · rw [mm_wl_P] at hP ⊢
      intro a h2 ha
      have ha' : a < hN (mm_mks (mm_mk h ci N) (ci - 5) K N) := ha
      have hce : ∀ a, a ≠ hN h → mm_ce cy (mm_ad base b t) ((fun g : MH => (hI g, hJ g, mm_row (hR g) (hN h) (fun j => if j < N then some (hN h + 1 + j) else none), hK g, hL g, hN g)) (mm_mks (mm_mk h ci N) (ci - 5) K N)) a = mm_ce cy (mm_ad base b t) (mm_mks (mm_mk h ci N) (ci - 5) K N) a := by
        intro a hne
        unfold mm_ce mm_fv
        simp only [hI, hJ, hR, hK, hL]
        rw [mm_row_ne hne]
      by_cases he : a = hN h
      · subst he
        have oa := o (hN h) (by omega)
        have hka : hK (mm_mks (mm_mk h ci N) (ci - 5) K N) (hN h) = ci := by rw [oa.2.2.2.1]; exact if_pos rfl
        have hla : hL (mm_mks (mm_mk h ci N) (ci - 5) K N) (hN h) = N := by rw [oa.2.2.2.2]; exact if_pos rfl
        rw [mm_ce_q (by show 12 ≤ hK (mm_mks (mm_mk h ci N) (ci - 5) K N) (hN h); rw [hka]; omega)]
        show F.heap[base + (hN h - 2)]? = some (arrV (cy (hK (mm_mks (mm_mk h ci N) (ci - 5) K N) (hN h))) (hL (mm_mks (mm_mk h ci N) (ci - 5) K N) (hN h)) (fun j => va_rf (Option.map (mm_ad base b t) (mm_row (hR (mm_mks (mm_mk h ci N) (ci - 5) K N)) (hN h) (fun j => if j < N then some (hN h + 1 + j) else none) (hN h) j))))
        rw [hka, hla, mm_row_eq, hcA.1, ← g2, f2]
        rw [vr_outer]
        congr 2
        funext j
        by_cases hj : j < N
        · rw [if_pos hj, if_pos hj]
          show Value.ref (H.size + 1 + j) = Value.ref (mm_ad base b t (hN h + 1 + j))
          have hq : mm_ad base b t (hN h + 1 + j) = H.size + 1 + j := by
            unfold mm_ad
            rw [if_neg (by omega), if_neg (by omega)]
            omega
          rw [hq]
        · rw [if_neg hj, if_neg hj]
          rfl
      · rw [hce a he]
        by_cases hh : a < hN h
        · rw [mm_mks_ce _ _ _ _ (by rw [m1]; omega), mm_ce_mk he]
          refine mm_at_kept (hP a h2 hh) (hold _ ?_)
          show base + (a - 2) < H.size
          omega
        · obtain ⟨j, rfl⟩ : ∃ j, a = hN h + 1 + j := ⟨a - (hN h + 1), by omega⟩
          obtain ⟨i1, i2, i3, i4⟩ := i9 j (by omega)
          have hr := hrow j (by omega)
          rw [show base + (hN h + 1 + j - 2) = H.size + 1 + j by omega]
          rcases hci with ⟨rfl, rfl, -⟩ | ⟨rfl, rfl, -⟩
          · rw [mm_ce_i (by rw [i3]; omega), i1, i3, i4, hcA.2]
            show F.heap[H.size + 1 + j]? = some (arrV comp K (fun _ => .int 0))
            rw [hr, ← arrV_new]
            rfl
          · rw [mm_ce_l (by rw [i3]), i2, i3, i4, hcA.2]
            show F.heap[H.size + 1 + j]? = some (arrV comp K (fun _ => .long 0))
            rw [hr, ← arrV_new]
            rfl
  obtain ⟨t9, a1, b1⟩ := kk F.heap key ⟨by have := hS.1; omega, fun q h1 h2 => (hold q (Nat.lt_of_lt_of_le h1 hS.1)).trans (hS.2.1 q h1 h2), hS.2.2⟩ F rfl X'
  refine ⟨t9, step t9 ?_, b1⟩
  rw [hT]
  exact a1
end MMP
end
section
/-! ONE STEP OF THE MINI-MACHINE IS ONE OF THE MACHINE -/
def mm_isN : Jvm.Cond → Bool
  | .methodLinkNest .. => true
  | .fieldLinkNest .. => true
  | _ => false
/-- the machine's part, with the words that are not carried along by themselves -/
def mm_X2 (D : va_G) (cy : Nat → ClassId) (base b t Ls : Nat) (xs : Nat → Int32) (ps : Nat → Int64) (U : State) : Prop :=
  mm_X D cy base b t Ls xs ps U ∧ (∀ ty, Jvm.Cond.arrayOver ty ∈ tables_1 → (Jvm.Cond.arrayOver ty).before #[] U = true) ∧ ∀ w, w ∈ tables_1 → mm_isN w = true → va_Nw w U
theorem mm_ao_args {ty : FieldType} {a a' : Array Value} {U : State} (h : (Jvm.Cond.arrayOver ty).before a U = true) : (Jvm.Cond.arrayOver ty).before a' U = true := h
theorem mm_ao_moved {ty : FieldType} {a : Array Value} {s U : State} (hvm : s.vm.Alike U.vm) (h : (Jvm.Cond.arrayOver ty).before a s = true) : (Jvm.Cond.arrayOver ty).before a U = true := by
  have e := Cond.arrayOver_setVmC (args := a) (s := s) (vm' := U.vm) hvm ty
  rw [h] at e
  exact e
theorem mm_X2.moved {D : va_G} {cy : Nat → ClassId} {base b t Ls : Nat} {xs : Nat → Int32} {ps : Nat → Int64} {s U : State} {locs : List Loc} (h : mm_X2 D cy base b t Ls xs ps s) (hW : s.WarmedH U.vm) (hS : va_S (mm_A base) s.heap U.heap locs) : mm_X2 D cy base b t Ls xs ps U := by
  obtain ⟨h1, h2, h3⟩ := h
  refine ⟨h1.moved hW.alike hS, fun ty hty => mm_ao_moved hW.alike (h2 ty hty), fun w hw hn => ?_⟩
  have h4 := h3 w hw hn
  cases w <;> first | exact va_Nw.warmM hW h4 | exact va_Nw.warmF hW h4 | (exact absurd hn (by simp [mm_isN]))
theorem mm_X2.same {D : va_G} {cy : Nat → ClassId} {base b t Ls : Nat} {xs : Nat → Int32} {ps : Nat → Int64} {s U : State} (h : mm_X2 D cy base b t Ls xs ps s) (hv : s.vm = U.vm) (hh : s.heap = U.heap) : mm_X2 D cy base b t Ls xs ps U := by
  obtain ⟨h1, h2, h3⟩ := h
  have hal : s.vm.Alike U.vm := by rw [hv]; exact Vm.Alike.refl _
  refine ⟨h1.moved (locs := []) hal (by rw [← hh]; exact va_S.rf), fun ty hty => mm_ao_moved hal (h2 ty hty), fun w hw hn => ?_⟩
  have h4 := h3 w hw hn
  cases w <;> first | exact va_Nw.same rfl hv h4 | (exact absurd hn (by simp [mm_isN]))
/-- the method's part -/
def mm_B (mid : Nat) (p : Program) (R : Room) (s : State) (m : MethodId) (args : Array Value) (meth : Method) (c : Code) : Prop :=
  (p.tables.exec = Jvm.exec ∧ c.code = mm_bb mid ∧ c.maxLocals = mi_l (mm_of mid) ∧ s.vm.findClass (mm_on (mi_c (mm_of mid))) = some m.cls ∧ ∀ w ∈ mm_ws, w.before args s = true) ∧ (mm_ini mid = true → meth.name = "<init>") ∧ (R.frames = mi_f (mm_of mid) ∧ R.locals = mi_w (mm_of mid) ∧ R.cells = mi_mc (mm_of mid) ∧ R.slots = mi_ms (mm_of mid))
theorem mm_nx_inj {pc : Nat} {L : ML} {st : List Value} {h : MH} {cu su : Nat} {x : MS} (e : mm_nx pc L st h cu su = some (.inl x)) : x = (pc, L, st, h, cu, su) := by
  unfold mm_nx at e
  cases e
  rfl
theorem mm_fv_putI {h : MH} {a ci f : Nat} {x : Int32} (hty : mm_ty ci f = 0 ∨ mm_ty ci f = 1) (j : Nat) : mm_fv (putI h a f x) a ci j = if j = f then .int x else mm_fv h a ci j := by
  by_cases hj : j = f
  · subst hj
    rw [if_pos rfl]
    unfold mm_fv
    have e : mm_up (hI h) a j x a j = x := if_pos ⟨rfl, rfl⟩
    rcases hty with q | q <;> rw [q] <;> exact congrArg Value.int e
  · rw [if_neg hj]
    unfold mm_fv
    have e : mm_up (hI h) a f x a j = hI h a j := if_neg (fun z => hj z.2)
    split <;> first | rfl | exact congrArg Value.int e
theorem mm_fv_putJ {h : MH} {a ci f : Nat} {x : Int64} (hty : mm_ty ci f = 2) (j : Nat) : mm_fv (putJ h a f x) a ci j = if j = f then .long x else mm_fv h a ci j := by
  by_cases hj : j = f
  · subst hj
    rw [if_pos rfl]
    unfold mm_fv
    have e : mm_up (hJ h) a j x a j = x := if_pos ⟨rfl, rfl⟩
    rw [hty]
    exact congrArg Value.long e
  · rw [if_neg hj]
    unfold mm_fv
    have e : mm_up (hJ h) a f x a j = hJ h a j := if_neg (fun z => hj z.2)
    split <;> first | rfl | exact congrArg Value.long e
theorem mm_fv_putR {h : MH} {a ci f x : Nat} (hty : mm_ty ci f = 3) (j : Nat) : mm_fv (putR h a f (some x)) a ci j = if j = f then .ref x else mm_fv h a ci j := by
  by_cases hj : j = f
  · subst hj
    rw [if_pos rfl]
    unfold mm_fv
    have e : mm_up (hR h) a j (some x) a j = some x := if_pos ⟨rfl, rfl⟩
    rw [hty]
    exact congrArg mm_rv e
  · rw [if_neg hj]
    unfold mm_fv
    have e : mm_up (hR h) a f (some x) a j = hR h a j := if_neg (fun z => hj z.2)
    split <;> first | rfl | exact congrArg mm_rv e
theorem mm_ne0 {a : Nat} (h : 2 ≤ a) : 0 ≠ a ∧ 1 ≠ a := by omega
theorem mm_only0 {D : va_G} {cy : Nat → ClassId} {base b t Ls : Nat} {xs : Nat → Int32} {ps : Nat → Int64} {h : MH} {H : Heap} (hH : mm_H D cy base b t Ls xs ps h H) {a : Nat} (ha : hK h a = 20) : a = 0 := by
  obtain ⟨-, ⟨k0, k1, k2, k3⟩, -, -⟩ := hH
  apply Classical.byContradiction
  intro hn
  by_cases h1 : a = 1
  · subst h1; omega
  · by_cases h2 : a < hN h
    · have := k3 a (by omega) h2; omega
    · have := k2 a (by omega); omega
theorem mm_only1 {D : va_G} {cy : Nat → ClassId} {base b t Ls : Nat} {xs : Nat → Int32} {ps : Nat → Int64} {h : MH} {H : Heap} (hH : mm_H D cy base b t Ls xs ps h H) {a : Nat} (ha : hK h a = 21) : a = 1 := by
  obtain ⟨-, ⟨k0, k1, k2, k3⟩, -, -⟩ := hH
  apply Classical.byContradiction
  intro hn
  by_cases h1 : a = 0
  · subst h1; omega
  · by_cases h2 : a < hN h
    · have := k3 a (by omega) h2; omega
    · have := k2 a (by omega); omega
section STEP
variable {p : Program} {l : Launch} {e : Env} {R : Room} {s : State} {m : MethodId} {args : Array Value} {below : List Frame} {meth : Method} {c : Code} {Q : State → Prop}
variable {D : va_G} {cy : Nat → ClassId} {base b t Ls : Nat} {xs : Nat → Int32} {ps : Nat → Int64}
/-- from this mini-state the machine comes to Q -/
def mm_at (mid : Nat) (p : Program) (l : Launch) (e : Env) (R : Room) (s : State) (m : MethodId) (args : Array Value) (below : List Frame) (meth : Method) (c : Code) (Q : State → Prop) (D : va_G) (cy : Nat → ClassId) (base b t Ls : Nat) (xs : Nat → Int32) (ps : Nat → Int64) (x : MS) : Prop :=
  ∀ (H : Heap) (locs : List Loc) (ls : Array Slot), x.2.1.length = mi_l (mm_of mid) → mm_H D cy base b t Ls xs ps x.2.2.2.1 H → va_S (mm_A base) s.heap H locs → mm_Lr (mm_ad base b t) x.2.1 ls → W p l e R s m args below meth c H locs x.2.2.2.2.1 x.2.2.2.2.2 Q (F0 m x.1 ls (x.2.2.1.map (mm_tv (mm_ad base b t))))
theorem mm_at.go {mid pc : Nat} {L : ML} {st : List Value} {h : MH} {cu su : Nat} (k : mm_at mid p l e R s m args below meth c Q D cy base b t Ls xs ps (pc, L, st, h, cu, su)) {H : Heap} {locs : List Loc} {ls : Array Slot} (h1 : L.length = mi_l (mm_of mid)) (h2 : mm_H D cy base b t Ls xs ps h H) (h3 : va_S (mm_A base) s.heap H locs) (h4 : mm_Lr (mm_ad base b t) L ls) : W p l e R s m args below meth c H locs cu su Q (F0 m pc ls (st.map (mm_tv (mm_ad base b t)))) := k H locs ls h1 h2 h3 h4
theorem mm_m1_900 {own idx : Nat} {q : Nat × Nat} (h : ck_m1 own (idx, 900) q = true) : Jvm.Cond.methodLink (mm_on own) idx Lib.objectInit ∈ mm_ws := by
  have h2 := ((Bool.and_eq_true _ _).mp h).2
  exact mm_in_ws (List.mem_of_getElem? (of_decide_eq_true (show decide (tables_1[q.2]? = some (Jvm.Cond.methodLink (mm_on own) idx Lib.objectInit)) = true from h2))) rfl
theorem mm_m1_901 {own idx : Nat} {q : Nat × Nat} (h : ck_m1 own (idx, 901) q = true) : Jvm.Cond.methodLink (mm_on own) idx arraycopyName ∈ mm_ws := by
  have h2 := ((Bool.and_eq_true _ _).mp h).2
  exact mm_in_ws (List.mem_of_getElem? (of_decide_eq_true (show decide (tables_1[q.2]? = some (Jvm.Cond.methodLink (mm_on own) idx arraycopyName)) = true from h2))) rfl
theorem mm_m1_902 {own idx : Nat} {q : Nat × Nat} (h : ck_m1 own (idx, 902) q = true) : Jvm.Cond.methodLink (mm_on own) idx Lib.Math.min.name ∈ mm_ws := by
  have h2 := ((Bool.and_eq_true _ _).mp h).2
  exact mm_in_ws (List.mem_of_getElem? (of_decide_eq_true (show decide (tables_1[q.2]? = some (Jvm.Cond.methodLink (mm_on own) idx Lib.Math.min.name)) = true from h2))) rfl
set_option maxHeartbeats 2000000 in
/-- the calls that are done at once: Object.<init>, arraycopy, Math.min -/
theorem mm_step_inv {mid : Nat} {pc k9 len tgt : Nat} {i : Instr} {virt : Bool} {L : ML} {st : List Value} {h : MH} {cu su : Nat} {x' : MS} {H : Heap} {locs : List Loc} {ls : Array Slot} (hx : p.tables.exec = Jvm.exec) (hb : c.code = mm_bb mid) (hml : c.maxLocals = mi_l (mm_of mid)) (hown : s.vm.findClass (mm_on (mi_c (mm_of mid))) = some m.cls) (hts : ∀ w ∈ mm_ws, w.before args s = true) (hR1 : R.frames = mi_f (mm_of mid)) (hR2 : R.locals = mi_w (mm_of mid)) (hR3 : R.cells = mi_mc (mm_of mid)) (hR4 : R.slots = mi_ms (mm_of mid)) (hVK : va_K D mm_C (mm_tys cy) s)
    (hlen : L.length = mi_l (mm_of mid)) (hH : mm_H D cy base b t Ls xs ps h H) (hS : va_S (mm_A base) s.heap H locs) (hL : mm_Lr (mm_ad base b t) L ls)
    (hi : (i = .invokevirtual k9 ∧ decode (mm_bb mid) pc = .ok (.invokevirtual k9, len) ∧ virt = true) ∨ (i = .invokespecial k9 ∧ decode (mm_bb mid) pc = .ok (.invokespecial k9, len) ∧ virt = true) ∨ (i = .invokestatic k9 ∧ decode (mm_bb mid) pc = .ok (.invokestatic k9, len) ∧ virt = false)) (hln : mm_ln i len = true) (hck : ck_i1 mid (pc, i, len, tgt) = true)
    (h1 : mm_inv mid (mi_c (mm_of mid)) k9 pc virt L st h cu su = some (.inl x')) (k : mm_at mid p l e R s m args below meth c Q D cy base b t Ls xs ps x') (hcu : cu ≤ mi_mc (mm_of mid) ∧ su ≤ mi_ms (mm_of mid)) : W p l e R s m args below meth c H locs cu su Q (F0 m pc ls (st.map (mm_tv (mm_ad base b t)))) := by
  unfold mm_inv at h1
  split at h1
  · cases h1
  · rename_i hm
    obtain ⟨q, hq⟩ := fx_mth hm
    split at h1
    case h_2 => cases h1
    rename_i a r
    split at h1
    case isFalse => cases h1
    rename_i hc
    obtain rfl := mm_nx_inj h1
    rcases hi with ⟨rfl, hd, -⟩ | ⟨rfl, hd, -⟩ | ⟨rfl, hd, hv⟩
    · simp [ck_i1, hm] at hck
    · obtain rfl : len = 3 := by simpa [mm_ln] using hln
      have e1 := Nat.le_of_ble_eq_true hc.2.1
      have e2 := Nat.le_of_ble_eq_true hc.2.2
      exact W.objInit hx hb hown (hts _ (mm_m1_900 hq)) (hts _ (mm_in_ws ck_o1.1 rfl)) (hts _ (mm_in_ws ck_mn.2.2.2 rfl)) rfl (by rw [hml, ← hlen]; exact hL.1) rfl hd (by rw [hR1]; exact e1) (by rw [hR2, mm_tv_cats]; show 2 * 0 + mm_cat r + 12 ≤ _; omega) (k.go hlen hH hS hL)
    · rw [hv] at hc; exact absurd hc.1 (by decide)
  · rename_i hm
    obtain ⟨q, hq⟩ := fx_mth hm
    split at h1
    case h_2 => cases h1
    rename_i n dp a sp v r
    split at h1
    case isFalse => cases h1
    rename_i hc
    obtain rfl := mm_nx_inj h1
    obtain ⟨c1, c2, c3, rfl, rfl, c6, c7, c8, c9, c10⟩ := hc
    rcases hi with ⟨rfl, hd, hv⟩ | ⟨rfl, hd, hv⟩ | ⟨rfl, hd, hv⟩
    · rw [hv] at c1; cases c1
    · rw [hv] at c1; cases c1
    · obtain rfl : len = 3 := by simpa [mm_ln] using hln
      have e1 := Nat.le_of_ble_eq_true c9
      have e2 := Nat.le_of_ble_eq_true c10
      exact ms_copy hx hb (by rw [hml, ← hlen]; exact hL.1.symm) hown (hts _ (mm_m1_901 hq)) (hts _ (mm_in_ws ck_o1.2.1 rfl)) (hts _ (mm_in_ws ck_o1.2.2.1 rfl)) (hts _ (mm_in_ws ck_o1.2.2.2.1 rfl)) hVK hH hS c2 c3 c6 c7 c8 (by rw [hR1]; exact e1) (by rw [hR2, mm_tv_cats]; exact e2) hd (fun H1 locs1 hH1 hS1 => k.go hlen hH1 hS1 hL)
  · rename_i hm
    obtain ⟨q, hq⟩ := fx_mth hm
    split at h1
    case h_2 => cases h1
    rename_i y x r
    split at h1
    case isFalse => cases h1
    rename_i hc
    obtain rfl := mm_nx_inj h1
    obtain ⟨c1, c9, c10⟩ := hc
    rcases hi with ⟨rfl, hd, hv⟩ | ⟨rfl, hd, hv⟩ | ⟨rfl, hd, hv⟩
    · rw [hv] at c1; cases c1
    · rw [hv] at c1; cases c1
    · obtain rfl : len = 3 := by simpa [mm_ln] using hln
      have e1 := Nat.le_of_ble_eq_true c9
      have e2 := Nat.le_of_ble_eq_true c10
      exact va_mmin hx hb (by rw [hml, ← hlen]; exact hL.1.symm) hown (hts _ (mm_m1_902 hq)) (hts _ (mm_in_ws ck_mn.1 rfl)) (hts _ (mm_in_ws ck_mn.2.1 rfl)) (hts _ (mm_in_ws ck_mn.2.2.1 rfl)) (by rw [hR1]; exact e1) (by rw [hR2, mm_tv_cats]; exact e2) (by rw [hR3]; exact hcu.1) (by rw [hR4]; exact hcu.2) hd (k.go hlen hH hS hL)
  · rename_i m2 _ _ _ hm
    cases hb2 : Nat.beq (mi_s (mm_of m2)) 1 <;> rw [hb2] at h1 <;> simp only [cond_true, cond_false] at h1
    · split at h1
      · split at h1 <;> cases h1
      · cases h1
    · split at h1 <;> cases h1
set_option maxHeartbeats 4000000 in
theorem mm_step {mid : Nat} (B : mm_B mid p R s m args meth c) (G : mm_X2 D cy base b t Ls xs ps s) {pc : Nat} {L : ML} {st : List Value} {h : MH} {cu su : Nat} {x' : MS} (h1 : mm_one mid pc L st h cu su = some (.inl x')) (hcu : cu ≤ mi_mc (mm_of mid) ∧ su ≤ mi_ms (mm_of mid)) (k : mm_at mid p l e R s m args below meth c Q D cy base b t Ls xs ps x') : mm_at mid p l e R s m args below meth c Q D cy base b t Ls xs ps (pc, L, st, h, cu, su) := by
  obtain ⟨⟨hx, hb, hml, hown, hts⟩, hinit, hR1, hR2, hR3, hR4⟩ := B
  obtain ⟨GX, GA, GN⟩ := G
  have hVK := GX.2.1
  unfold mm_one at h1
  split at h1
  case h_2 => cases h1
  rename_i i len tgt hf
  obtain ⟨hmid, hd, hln, htg, hck⟩ := fx_fet hf
  intro H locs ls hlen hH hS hL
  dsimp only at hlen hH hL ⊢
  cases i with
  | iload_n k9 =>
    unfold mm_stp at h1; dsimp only at h1
    split at h1
    case h_2 => cases h1
    rename_i x hxx
    obtain rfl := mm_nx_inj h1
    obtain rfl : len = 1 := by simpa [mm_ln] using hln
    exact lv_iload_n hx hb hd rfl (hL.at hxx) (k.go hlen hH hS hL)
  | iload k9 =>
    unfold mm_stp at h1; dsimp only at h1
    split at h1
    case h_2 => cases h1
    rename_i x hxx
    obtain rfl := mm_nx_inj h1
    obtain rfl : len = 2 := by simpa [mm_ln] using hln
    exact lv_iload hx hb hd (hL.at hxx) (k.go hlen hH hS hL)
  | lload_n k9 =>
    unfold mm_stp at h1; dsimp only at h1
    split at h1
    case h_2 => cases h1
    rename_i x hxx
    obtain rfl := mm_nx_inj h1
    obtain rfl : len = 1 := by simpa [mm_ln] using hln
    exact lv_lload_n hx hb hd rfl (hL.at hxx) (k.go hlen hH hS hL)
  | lload k9 =>
    unfold mm_stp at h1; dsimp only at h1
    split at h1
    case h_2 => cases h1
    rename_i x hxx
    obtain rfl := mm_nx_inj h1
    obtain rfl : len = 2 := by simpa [mm_ln] using hln
    exact lv_lload hx hb hd (hL.at hxx) (k.go hlen hH hS hL)
  | aload_n k9 =>
    unfold mm_stp at h1; dsimp only at h1
    split at h1
    case h_2 => cases h1
    rename_i x hxx
    obtain rfl := mm_nx_inj h1
    obtain rfl : len = 1 := by simpa [mm_ln] using hln
    exact lv_aload_n hx hb hd rfl (hL.at hxx) (k.go hlen hH hS hL)
  | aload k9 =>
    unfold mm_stp at h1; dsimp only at h1
    split at h1
    case h_2 => cases h1
    rename_i x hxx
    obtain rfl := mm_nx_inj h1
    obtain rfl : len = 2 := by simpa [mm_ln] using hln
    exact lv_aload hx hb hd (hL.at hxx) (k.go hlen hH hS hL)
  | istore_n k9 =>
    unfold mm_stp at h1; dsimp only at h1
    split at h1
    case h_2 => cases h1
    rename_i x r
    split at h1
    case isFalse => cases h1
    rename_i hk9
    obtain rfl := mm_nx_inj h1
    obtain rfl : len = 1 := by simpa [mm_ln] using hln
    refine lv_istore_n (x := x) hx hb hd rfl hL hk9 rfl fun ls1 hl1 => ?_
    exact k.go (by rw [mm_st1_len]; exact hlen) hH hS (mm_Lr.s1 (v := .int x) hl1)
  | istore k9 =>
    unfold mm_stp at h1; dsimp only at h1
    split at h1
    case h_2 => cases h1
    rename_i x r
    split at h1
    case isFalse => cases h1
    rename_i hk9
    obtain rfl := mm_nx_inj h1
    obtain rfl : len = 2 := by simpa [mm_ln] using hln
    refine lv_istore (x := x) hx hb hd hL hk9 rfl fun ls1 hl1 => ?_
    exact k.go (by rw [mm_st1_len]; exact hlen) hH hS (mm_Lr.s1 (v := .int x) hl1)
  | astore_n k9 =>
    unfold mm_stp at h1; dsimp only at h1
    split at h1
    case h_2 => cases h1
    rename_i x r
    split at h1
    case isFalse => cases h1
    rename_i hk9
    obtain rfl := mm_nx_inj h1
    obtain rfl : len = 1 := by simpa [mm_ln] using hln
    refine lv_astore_n (x := mm_ad base b t x) hx hb hd rfl hL hk9 rfl fun ls1 hl1 => ?_
    exact k.go (by rw [mm_st1_len]; exact hlen) hH hS (mm_Lr.s1 (v := .ref x) hl1)
  | astore k9 =>
    unfold mm_stp at h1; dsimp only at h1
    split at h1
    case h_2 => cases h1
    rename_i x r
    split at h1
    case isFalse => cases h1
    rename_i hk9
    obtain rfl := mm_nx_inj h1
    obtain rfl : len = 2 := by simpa [mm_ln] using hln
    refine lv_astore (x := mm_ad base b t x) hx hb hd hL hk9 rfl fun ls1 hl1 => ?_
    exact k.go (by rw [mm_st1_len]; exact hlen) hH hS (mm_Lr.s1 (v := .ref x) hl1)
  | lstore_n k9 =>
    unfold mm_stp at h1; dsimp only at h1
    split at h1
    case h_2 => cases h1
    rename_i x r
    split at h1
    case isFalse => cases h1
    rename_i hk9
    obtain rfl := mm_nx_inj h1
    obtain rfl : len = 1 := by simpa [mm_ln] using hln
    refine lv_lstore_n (x := x) hx hb hd rfl hL hk9 rfl fun ls1 hl1 => ?_
    exact k.go (by rw [mm_st2_len]; exact hlen) hH hS (mm_Lr.s2 (v := .long x) hl1)
  | lstore k9 =>
    unfold mm_stp at h1; dsimp only at h1
    split at h1
    case h_2 => cases h1
    rename_i x r
    split at h1
    case isFalse => cases h1
    rename_i hk9
    obtain rfl := mm_nx_inj h1
    obtain rfl : len = 2 := by simpa [mm_ln] using hln
    refine lv_lstore (x := x) hx hb hd hL hk9 rfl fun ls1 hl1 => ?_
    exact k.go (by rw [mm_st2_len]; exact hlen) hH hS (mm_Lr.s2 (v := .long x) hl1)
  | iinc k9 n9 =>
    unfold mm_stp at h1; dsimp only at h1
    split at h1
    case h_2 => cases h1
    rename_i x hxx
    split at h1
    case isFalse => cases h1
    rename_i hk9
    obtain rfl := mm_nx_inj h1
    obtain rfl : len = 3 := by simpa [mm_ln] using hln
    have hm9 : (k9, Value.int x) ∈ mm_lv (mm_ad base b t) L := mm_lv_mem.mpr ⟨.int x, by rw [List.getD_eq_getElem?_getD, List.getElem?_eq_getElem hk9] at hxx; rw [List.getElem?_eq_getElem hk9]; exact congrArg some hxx, rfl⟩
    obtain ⟨j9, hj9⟩ := List.getElem?_of_mem hm9
    refine lv_iinc hx hb hd hL hj9 rfl hk9 rfl fun ls1 hl1 => ?_
    exact k.go (by rw [mm_st1_len]; exact hlen) hH hS (mm_Lr.s1 (v := .int (x + Int32.ofInt n9)) hl1)
  | iconst n9 =>
    unfold mm_stp at h1; dsimp only at h1
    obtain rfl := mm_nx_inj h1
    obtain rfl : len = 1 := by simpa [mm_ln] using hln
    exact lv_iconst hx hb hd rfl (k.go hlen hH hS hL)
  | bipush n9 =>
    unfold mm_stp at h1; dsimp only at h1
    obtain rfl := mm_nx_inj h1
    obtain rfl : len = 2 := by simpa [mm_ln] using hln
    exact lv_bipush hx hb hd rfl (k.go hlen hH hS hL)
  | sipush n9 =>
    unfold mm_stp at h1; dsimp only at h1
    obtain rfl := mm_nx_inj h1
    obtain rfl : len = 3 := by simpa [mm_ln] using hln
    exact lv_sipush hx hb hd rfl (k.go hlen hH hS hL)
  | lconst n9 =>
    unfold mm_stp at h1; dsimp only at h1
    obtain rfl := mm_nx_inj h1
    obtain rfl : len = 1 := by simpa [mm_ln] using hln
    exact lv_lconst hx hb hd rfl (k.go hlen hH hS hL)
  | ldc k9 =>
    unfold mm_stp at h1; dsimp only at h1
    split at h1
    case h_2 => cases h1
    rename_i v hv
    obtain rfl := mm_nx_inj h1
    obtain rfl : len = 2 := by simpa [mm_ln] using hln
    exact lv_ldc hx hb hown (hts _ (fx_cI hv)) hd (k.go hlen hH hS hL)
  | ldc2_w k9 =>
    unfold mm_stp at h1; dsimp only at h1
    split at h1
    case h_2 => cases h1
    rename_i v hv
    obtain rfl := mm_nx_inj h1
    obtain rfl : len = 3 := by simpa [mm_ln] using hln
    exact lv_ldc2 hx hb hown (hts _ (fx_cJ hv)) hd (k.go hlen hH hS hL)
  | ldc_w k9 =>
    unfold mm_stp at h1; dsimp only at h1
    split at h1
    case h_2 => cases h1
    rename_i v hv
    obtain rfl := mm_nx_inj h1
    obtain rfl : len = 3 := by simpa [mm_ln] using hln
    exact lv_ldcw hx hb hown (hts _ (fx_cI hv)) hd (k.go hlen hH hS hL)
  | dup =>
    unfold mm_stp at h1; dsimp only at h1
    split at h1
    case h_2 => cases h1
    rename_i v r
    split at h1
    case isFalse => cases h1
    rename_i hv
    obtain rfl := mm_nx_inj h1
    obtain rfl : len = 1 := by simpa [mm_ln] using hln
    exact lv_dup hx hb hd (by rw [mm_tv_cat]; exact hv) (k.go hlen hH hS hL)
  | dup2 =>
    unfold mm_stp at h1; dsimp only at h1
    split at h1
    case h_2 => cases h1
    rename_i v w r
    split at h1
    case isFalse => cases h1
    rename_i hv
    obtain rfl := mm_nx_inj h1
    obtain rfl : len = 1 := by simpa [mm_ln] using hln
    exact lv_dup2_11 hx hb hd (by rw [mm_tv_cat]; exact hv.1) (by rw [mm_tv_cat]; exact hv.2) (k.go hlen hH hS hL)
  | pop =>
    unfold mm_stp at h1; dsimp only at h1
    split at h1
    case h_2 => cases h1
    rename_i v r
    split at h1
    case isFalse => cases h1
    rename_i hv
    obtain rfl := mm_nx_inj h1
    obtain rfl : len = 1 := by simpa [mm_ln] using hln
    exact lv_pop hx hb hd (by rw [mm_tv_cat]; exact hv) (k.go hlen hH hS hL)
  | ineg =>
    unfold mm_stp at h1; dsimp only at h1
    split at h1
    case h_2 => cases h1
    obtain rfl := mm_nx_inj h1
    obtain rfl : len = 1 := by simpa [mm_ln] using hln
    exact lv_ineg hx hb hd (k.go hlen hH hS hL)
  | i2l =>
    unfold mm_stp at h1; dsimp only at h1
    split at h1
    case h_2 => cases h1
    obtain rfl := mm_nx_inj h1
    obtain rfl : len = 1 := by simpa [mm_ln] using hln
    exact lv_i2l hx hb hd rfl (k.go hlen hH hS hL)
  | l2i =>
    unfold mm_stp at h1; dsimp only at h1
    split at h1
    case h_2 => cases h1
    obtain rfl := mm_nx_inj h1
    obtain rfl : len = 1 := by simpa [mm_ln] using hln
    exact lv_l2i hx hb hd rfl (k.go hlen hH hS hL)
  | lcmp =>
    unfold mm_stp at h1; dsimp only at h1
    split at h1
    case h_2 => cases h1
    obtain rfl := mm_nx_inj h1
    obtain rfl : len = 1 := by simpa [mm_ln] using hln
    exact W.lcmp hx hb hd (k.go hlen hH hS hL)
  | lshl =>
    unfold mm_stp at h1; dsimp only at h1
    split at h1
    case h_2 => cases h1
    obtain rfl := mm_nx_inj h1
    obtain rfl : len = 1 := by simpa [mm_ln] using hln
    exact lv_lshl hx hb hd rfl (k.go hlen hH hS hL)
  | lshr =>
    unfold mm_stp at h1; dsimp only at h1
    split at h1
    case h_2 => cases h1
    obtain rfl := mm_nx_inj h1
    obtain rfl : len = 1 := by simpa [mm_ln] using hln
    exact lv_lshr hx hb hd rfl (k.go hlen hH hS hL)
  | goto off =>
    unfold mm_stp at h1; dsimp only at h1
    obtain rfl := mm_nx_inj h1
    obtain rfl : len = 3 := by simpa [mm_ln] using hln
    exact lv_goto hx hb hd (by simpa [mm_tg] using htg) (k.go hlen hH hS hL)
  | ifCond cnd off =>
    unfold mm_stp at h1; dsimp only at h1
    split at h1
    case h_2 => cases h1
    obtain rfl : len = 3 := by simpa [mm_ln] using hln
    have htg9 := of_decide_eq_true (show decide _ = true from htg)
    cases cnd with
    | eq =>
      refine lv_if_eq hx hb hd htg9 (fun q => ?_) (fun q => ?_)
      · rw [if_pos (show mm_ic ClassFile.Cond.eq _ _ = true from decide_eq_true q)] at h1; obtain rfl := mm_nx_inj h1; exact k.go hlen hH hS hL
      · rw [if_neg (fun z : mm_ic ClassFile.Cond.eq _ _ = true => q (of_decide_eq_true z))] at h1; obtain rfl := mm_nx_inj h1; exact k.go hlen hH hS hL
    | ne =>
      refine lv_if_ne hx hb hd htg9 (fun q => ?_) (fun q => ?_)
      · rw [if_pos (show mm_ic ClassFile.Cond.ne _ _ = true from decide_eq_true q)] at h1; obtain rfl := mm_nx_inj h1; exact k.go hlen hH hS hL
      · rw [if_neg (fun z : mm_ic ClassFile.Cond.ne _ _ = true => (of_decide_eq_true z) q)] at h1; obtain rfl := mm_nx_inj h1; exact k.go hlen hH hS hL
    | lt =>
      refine lv_if_lt hx hb hd htg9 (fun q => ?_) (fun q => ?_)
      · rw [if_pos (show mm_ic ClassFile.Cond.lt _ _ = true from decide_eq_true q)] at h1; obtain rfl := mm_nx_inj h1; exact k.go hlen hH hS hL
      · rw [if_neg (fun z : mm_ic ClassFile.Cond.lt _ _ = true => q (of_decide_eq_true z))] at h1; obtain rfl := mm_nx_inj h1; exact k.go hlen hH hS hL
    | ge =>
      refine lv_if_ge hx hb hd htg9 (fun q => ?_) (fun q => ?_)
      · rw [if_pos (show mm_ic ClassFile.Cond.ge _ _ = true from decide_eq_true q)] at h1; obtain rfl := mm_nx_inj h1; exact k.go hlen hH hS hL
      · rw [if_neg (fun z : mm_ic ClassFile.Cond.ge _ _ = true => q (of_decide_eq_true z))] at h1; obtain rfl := mm_nx_inj h1; exact k.go hlen hH hS hL
    | gt =>
      refine lv_if_gt hx hb hd htg9 (fun q => ?_) (fun q => ?_)
      · rw [if_pos (show mm_ic ClassFile.Cond.gt _ _ = true from decide_eq_true q)] at h1; obtain rfl := mm_nx_inj h1; exact k.go hlen hH hS hL
      · rw [if_neg (fun z : mm_ic ClassFile.Cond.gt _ _ = true => q (of_decide_eq_true z))] at h1; obtain rfl := mm_nx_inj h1; exact k.go hlen hH hS hL
    | le =>
      refine lv_if_le hx hb hd htg9 (fun q => ?_) (fun q => ?_)
      · rw [if_pos (show mm_ic ClassFile.Cond.le _ _ = true from decide_eq_true q)] at h1; obtain rfl := mm_nx_inj h1; exact k.go hlen hH hS hL
      · rw [if_neg (fun z : mm_ic ClassFile.Cond.le _ _ = true => q (of_decide_eq_true z))] at h1; obtain rfl := mm_nx_inj h1; exact k.go hlen hH hS hL
  | if_icmp cnd off =>
    unfold mm_stp at h1; dsimp only at h1
    split at h1
    case h_2 => cases h1
    obtain rfl : len = 3 := by simpa [mm_ln] using hln
    have htg9 := of_decide_eq_true (show decide _ = true from htg)
    cases cnd with
    | eq =>
      refine lv_icmp_eq hx hb hd htg9 (fun q => ?_) (fun q => ?_)
      · rw [if_pos (show mm_ic ClassFile.Cond.eq _ _ = true from decide_eq_true q)] at h1; obtain rfl := mm_nx_inj h1; exact k.go hlen hH hS hL
      · rw [if_neg (fun z : mm_ic ClassFile.Cond.eq _ _ = true => q (of_decide_eq_true z))] at h1; obtain rfl := mm_nx_inj h1; exact k.go hlen hH hS hL
    | ne =>
      refine lv_icmp_ne hx hb hd htg9 (fun q => ?_) (fun q => ?_)
      · rw [if_pos (show mm_ic ClassFile.Cond.ne _ _ = true from decide_eq_true q)] at h1; obtain rfl := mm_nx_inj h1; exact k.go hlen hH hS hL
      · rw [if_neg (fun z : mm_ic ClassFile.Cond.ne _ _ = true => (of_decide_eq_true z) q)] at h1; obtain rfl := mm_nx_inj h1; exact k.go hlen hH hS hL
    | lt =>
      refine lv_icmp_lt hx hb hd htg9 (fun q => ?_) (fun q => ?_)
      · rw [if_pos (show mm_ic ClassFile.Cond.lt _ _ = true from decide_eq_true q)] at h1; obtain rfl := mm_nx_inj h1; exact k.go hlen hH hS hL
      · rw [if_neg (fun z : mm_ic ClassFile.Cond.lt _ _ = true => q (of_decide_eq_true z))] at h1; obtain rfl := mm_nx_inj h1; exact k.go hlen hH hS hL
    | ge =>
      refine lv_icmp_ge hx hb hd htg9 (fun q => ?_) (fun q => ?_)
      · rw [if_pos (show mm_ic ClassFile.Cond.ge _ _ = true from decide_eq_true q)] at h1; obtain rfl := mm_nx_inj h1; exact k.go hlen hH hS hL
      · rw [if_neg (fun z : mm_ic ClassFile.Cond.ge _ _ = true => q (of_decide_eq_true z))] at h1; obtain rfl := mm_nx_inj h1; exact k.go hlen hH hS hL
    | gt =>
      refine lv_icmp_gt hx hb hd htg9 (fun q => ?_) (fun q => ?_)
      · rw [if_pos (show mm_ic ClassFile.Cond.gt _ _ = true from decide_eq_true q)] at h1; obtain rfl := mm_nx_inj h1; exact k.go hlen hH hS hL
      · rw [if_neg (fun z : mm_ic ClassFile.Cond.gt _ _ = true => q (of_decide_eq_true z))] at h1; obtain rfl := mm_nx_inj h1; exact k.go hlen hH hS hL
    | le =>
      refine lv_icmp_le hx hb hd htg9 (fun q => ?_) (fun q => ?_)
      · rw [if_pos (show mm_ic ClassFile.Cond.le _ _ = true from decide_eq_true q)] at h1; obtain rfl := mm_nx_inj h1; exact k.go hlen hH hS hL
      · rw [if_neg (fun z : mm_ic ClassFile.Cond.le _ _ = true => q (of_decide_eq_true z))] at h1; obtain rfl := mm_nx_inj h1; exact k.go hlen hH hS hL
  | tableswitch dflt lo hi offs =>
    unfold mm_stp at h1; dsimp only at h1
    split at h1
    case h_2 => cases h1
    rename_i x r
    split at h1
    · rename_i hq
      split at h1
      case isFalse => cases h1
      rename_i h0
      obtain rfl := mm_nx_inj h1
      exact lv_tableOut hx hb hd hq (by omega) (k.go hlen hH hS hL)
    · rename_i hq
      split at h1
      case h_2 => cases h1
      rename_i off ho
      split at h1
      case isFalse => cases h1
      rename_i h0
      obtain rfl := mm_nx_inj h1
      exact lv_tableIn hx hb hd (fun z => hq (Or.inl z)) (fun z => hq (Or.inr z)) ho (by omega) (k.go hlen hH hS hL)
  | getfield k9 =>
    unfold mm_stp at h1; dsimp only at h1
    split at h1
    case h_2 => cases h1
    rename_i ci f a r hfd
    split at h1
    case isFalse => cases h1
    rename_i hk9
    obtain rfl := mm_nx_inj h1
    obtain rfl : len = 3 := by simpa [mm_ln] using hln
    exact ms_get hx hb hts hown hVK hH hfd hk9 hd (k.go hlen hH hS hL)
  | putfield k9 =>
    unfold mm_stp at h1; dsimp only at h1
    split at h1
    case h_2 => cases h1
    rename_i ci f v a r hfd
    split at h1
    case isFalse => cases h1
    rename_i hk9
    obtain rfl : len = 3 := by simpa [mm_ln] using hln
    have hci8 := (fx_fld hfd).1
    have ha2 : 2 ≤ a := (hH.mem (a := a) (by rw [hk9.1]; omega)).1
    have hfin9 : mm_isF ci f = true → meth.name = "<init>" ∧ mi_c (mm_of mid) = ci := fun z => ⟨hinit (hk9.2 z).1, (hk9.2 z).2⟩
    split at h1
    case h_5 => cases h1
    · rename_i x hty
      obtain rfl := mm_nx_inj h1
      refine ms_put (v := .int x) (h' := putI h a f x) hx hb hts hown hVK hH hS hfd hk9.1 hfin9 (fun ty hq => ?_) rfl rfl rfl (mm_up_ne (mm_ne0 ha2).1) rfl (fun k hk => mm_ce_putI hk) (fun j => mm_fv_putI (Or.inl hty) j) hd (fun H1 locs1 hH1 hS1 => k.go hlen hH1 hS1 hL)
      rcases hq with ⟨-, rfl⟩ | ⟨q, -⟩ | ⟨q, -⟩ | ⟨q, -⟩
      · exact ⟨rfl, rfl⟩
      all_goals (rw [hty] at q; cases q)
    · rename_i x hty
      split at h1
      case isFalse => cases h1
      rename_i hx01
      obtain rfl := mm_nx_inj h1
      refine ms_put (v := .int x) (h' := putI h a f x) hx hb hts hown hVK hH hS hfd hk9.1 hfin9 (fun ty hq => ?_) rfl rfl rfl (mm_up_ne (mm_ne0 ha2).1) rfl (fun k hk => mm_ce_putI hk) (fun j => mm_fv_putI (Or.inr hty) j) hd (fun H1 locs1 hH1 hS1 => k.go hlen hH1 hS1 hL)
      rcases hq with ⟨q, -⟩ | ⟨-, rfl⟩ | ⟨q, -⟩ | ⟨q, -⟩
      · rw [hty] at q; cases q
      · rcases hx01 with rfl | rfl <;> exact ⟨rfl, rfl⟩
      all_goals (rw [hty] at q; cases q)
    · rename_i x hty
      obtain rfl := mm_nx_inj h1
      refine ms_put (v := .long x) (h' := putJ h a f x) hx hb hts hown hVK hH hS hfd hk9.1 hfin9 (fun ty hq => ?_) rfl rfl rfl rfl (mm_up_ne (mm_ne0 ha2).2) (fun k hk => mm_ce_putJ hk) (fun j => mm_fv_putJ hty j) hd (fun H1 locs1 hH1 hS1 => k.go hlen hH1 hS1 hL)
      rcases hq with ⟨q, -⟩ | ⟨q, -⟩ | ⟨-, rfl⟩ | ⟨q, -⟩
      · rw [hty] at q; cases q
      · rw [hty] at q; cases q
      · exact ⟨rfl, rfl⟩
      · rw [hty] at q; cases q
    · rename_i x hty
      obtain rfl := mm_nx_inj h1
      refine ms_put (v := .ref x) (h' := putR h a f (some x)) hx hb hts hown hVK hH hS hfd hk9.1 hfin9 (fun ty hq => ?_) rfl rfl rfl rfl rfl (fun k hk => mm_ce_putR hk) (fun j => mm_fv_putR hty j) hd (fun H1 locs1 hH1 hS1 => k.go hlen hH1 hS1 hL)
      rcases hq with ⟨q, -⟩ | ⟨q, -⟩ | ⟨q, -⟩ | ⟨-, q⟩
      · rw [hty] at q; cases q
      · rw [hty] at q; cases q
      · rw [hty] at q; cases q
      · rcases q with ⟨C, rfl⟩ | ⟨e9, rfl⟩ <;> exact ⟨rfl, rfl⟩
  | getstatic k9 =>
    unfold mm_stp at h1; dsimp only at h1
    obtain rfl := mm_nx_inj h1
    obtain rfl : len = 3 := by simpa [mm_ln] using hln
    have hZ := GX.2.2.2.1
    simp only [ck_i1, Bool.or_eq_true, decide_eq_true_eq] at hck
    rcases hck with hc9 | hc9
    · exact va_getsN hx hb hZ hS hown (va_Nw.use rfl (GN _ hc9 rfl)) (fun _ z => z) hd (k.go hlen hH hS hL)
    · exact va_gets hx hb hZ hS hown (hts _ (mm_in_ws hc9 rfl)) (fun _ z => z) hd (k.go hlen hH hS hL)
  | iaload =>
    unfold mm_stp at h1; dsimp only at h1
    split at h1
    case h_2 => cases h1
    rename_i x a r
    split at h1
    case isFalse => cases h1
    rename_i hk9
    obtain rfl := mm_nx_inj h1
    obtain rfl : len = 1 := by simpa [mm_ln] using hln
    rcases hk9 with ⟨hk9 | hk9, hi9⟩
    · exact ms_iald hx hb hVK hH hk9 hi9 hd (k.go hlen hH hS hL)
    · obtain rfl : a = 0 := mm_only0 hH hk9
      exact ms_sld hx hb GX hH hS hi9 hd (k.go hlen hH hS hL)
  | laload =>
    unfold mm_stp at h1; dsimp only at h1
    split at h1
    case h_2 => cases h1
    rename_i x a r
    split at h1
    case isFalse => cases h1
    rename_i hk9
    obtain rfl := mm_nx_inj h1
    obtain rfl : len = 1 := by simpa [mm_ln] using hln
    rcases hk9 with ⟨hk9 | hk9, hi9⟩
    · exact ms_lald hx hb hVK hH hk9 hi9 hd (k.go hlen hH hS hL)
    · obtain rfl : a = 1 := mm_only1 hH hk9
      exact ms_tl hx hb GX hH hS hi9 hd (k.go hlen hH hS hL)
  | baload =>
    unfold mm_stp at h1; dsimp only at h1
    split at h1
    case h_2 => cases h1
    rename_i x a r
    split at h1
    case isFalse => cases h1
    rename_i hk9
    obtain rfl := mm_nx_inj h1
    obtain rfl : len = 1 := by simpa [mm_ln] using hln
    exact ms_zald hx hb hVK hH hk9.1 hk9.2 hd (k.go hlen hH hS hL)
  | aaload =>
    unfold mm_stp at h1; dsimp only at h1
    split at h1
    case h_2 => cases h1
    rename_i x a r
    split at h1
    case isFalse => cases h1
    rename_i hk9
    obtain rfl := mm_nx_inj h1
    obtain rfl : len = 1 := by simpa [mm_ln] using hln
    exact ms_aald hx hb hVK hH hk9.1 hk9.2 hd (k.go hlen hH hS hL)
  | arraylength =>
    unfold mm_stp at h1; dsimp only at h1
    split at h1
    case h_2 => cases h1
    rename_i a r
    split at h1
    case isFalse => cases h1
    rename_i hk9
    obtain rfl := mm_nx_inj h1
    obtain rfl : len = 1 := by simpa [mm_ln] using hln
    rcases hk9 with hk9 | hk9 | hk9
    · exact ms_alen hx hb hVK hH hk9 hd (k.go hlen hH hS hL)
    · obtain rfl : a = 0 := mm_only0 hH hk9
      exact ms_slen hx hb GX hH hS hd (k.go hlen hH hS hL)
    · obtain rfl : a = 1 := mm_only1 hH hk9
      exact ms_tlen hx hb GX hH hS hd (k.go hlen hH hS hL)
  | iastore =>
    unfold mm_stp at h1; dsimp only at h1
    split at h1
    case h_2 => cases h1
    rename_i v x a r
    split at h1
    case isFalse => cases h1
    rename_i hk9
    obtain rfl := mm_nx_inj h1
    obtain rfl : len = 1 := by simpa [mm_ln] using hln
    exact ms_iast hx hb hVK hH hS hk9.1 hk9.2 hd (fun H1 locs1 hH1 hS1 => k.go hlen hH1 hS1 hL)
  | lastore =>
    unfold mm_stp at h1; dsimp only at h1
    split at h1
    case h_2 => cases h1
    rename_i v x a r
    split at h1
    case isFalse => cases h1
    rename_i hk9
    obtain rfl := mm_nx_inj h1
    obtain rfl : len = 1 := by simpa [mm_ln] using hln
    exact ms_last hx hb hVK hH hS hk9.1 hk9.2 hd (fun H1 locs1 hH1 hS1 => k.go hlen hH1 hS1 hL)
  | bastore =>
    unfold mm_stp at h1; dsimp only at h1
    split at h1
    case h_2 => cases h1
    rename_i v x a r
    split at h1
    case isFalse => cases h1
    rename_i hk9
    obtain rfl := mm_nx_inj h1
    obtain rfl : len = 1 := by simpa [mm_ln] using hln
    exact ms_zast hx hb hVK hH hS hk9.1 hk9.2.1 hk9.2.2 hd (fun H1 locs1 hH1 hS1 => k.go hlen hH1 hS1 hL)
  | aastore =>
    unfold mm_stp at h1; dsimp only at h1
    split at h1
    case h_2 => cases h1
    rename_i v x a r
    split at h1
    case isFalse => cases h1
    rename_i hk9
    obtain rfl := mm_nx_inj h1
    obtain rfl : len = 1 := by simpa [mm_ln] using hln
    exact ms_aast hx hb hVK (GA _ ck_a1.2.2.2.2.2.2) hH hS hk9.1 hk9.2 hd (fun H1 locs1 hH1 hS1 => k.go hlen hH1 hS1 hL)
  | new k9 =>
    unfold mm_stp at h1; dsimp only at h1
    split at h1
    case h_2 => cases h1
    rename_i ci hnw
    split at h1
    case isFalse => cases h1
    rename_i hk9
    obtain rfl := mm_nx_inj h1
    obtain rfl : len = 3 := by simpa [mm_ln] using hln
    simp only [ck_i1, hnw, Bool.and_eq_true, decide_eq_true_eq] at hck
    exact ms_new hx hb hk9.1 hts hown hck.2 hVK hH hS (by rw [hR3]; exact hk9.2.1) (by rw [hR4]; exact hk9.2.2) hd (fun H1 hH1 hS1 => k.go hlen hH1 hS1 hL)
  | newarray t9 =>
    unfold mm_stp at h1; dsimp only at h1
    split at h1
    case h_2 => cases h1
    rename_i n r
    split at h1
    case isFalse => cases h1
    rename_i hk9
    obtain rfl : len = 2 := by simpa [mm_ln] using hln
    split at h1
    case h_4 => cases h1
    · obtain rfl := mm_nx_inj h1; exact ms_newa hx hb (Or.inl ⟨rfl, rfl⟩) hts hVK hH hS hk9.1 hk9.2.1 (by rw [hR3]; exact hk9.2.2.1) (by rw [hR4]; exact hk9.2.2.2) hd (fun H1 hH1 hS1 => k.go hlen hH1 hS1 hL)
    · obtain rfl := mm_nx_inj h1; exact ms_newa hx hb (Or.inr (Or.inl ⟨rfl, rfl⟩)) hts hVK hH hS hk9.1 hk9.2.1 (by rw [hR3]; exact hk9.2.2.1) (by rw [hR4]; exact hk9.2.2.2) hd (fun H1 hH1 hS1 => k.go hlen hH1 hS1 hL)
    · obtain rfl := mm_nx_inj h1; exact ms_newa hx hb (Or.inr (Or.inr ⟨rfl, rfl⟩)) hts hVK hH hS hk9.1 hk9.2.1 (by rw [hR3]; exact hk9.2.2.1) (by rw [hR4]; exact hk9.2.2.2) hd (fun H1 hH1 hS1 => k.go hlen hH1 hS1 hL)
  | anewarray k9 =>
    unfold mm_stp at h1; dsimp only at h1
    split at h1
    case h_2 => cases h1
    rename_i ci n r hnw
    split at h1
    case isFalse => cases h1
    rename_i hk9
    obtain rfl := mm_nx_inj h1
    obtain rfl : len = 3 := by simpa [mm_ln] using hln
    simp only [ck_i1, hnw, Bool.and_eq_true, decide_eq_true_eq] at hck
    exact ms_anew hx hb hk9.2.2.2.2 hts hown hck.2 (mm_ao_args (GA _ (by rcases hk9.2.2.2.2 with rfl | rfl; exact ck_a1.2.2.2.1; exact ck_a1.2.2.2.2.1))) hVK hH hS hk9.1 hk9.2.1 (by rw [hR3]; exact hk9.2.2.1) (by rw [hR4]; exact hk9.2.2.2.1) hd (fun H1 hH1 hS1 => k.go hlen hH1 hS1 hL)
  | multianewarray k9 d9 =>
    unfold mm_stp at h1; dsimp only at h1
    split at h1
    case h_2 => cases h1
    rename_i ci m9 n9 r hnw
    split at h1
    case isFalse => cases h1
    rename_i hk9
    obtain rfl := mm_nx_inj h1
    obtain rfl : len = 4 := by simpa [mm_ln] using hln
    obtain ⟨rfl, z1, z2, z3, z4, z5, z6, z7⟩ := hk9
    simp only [ck_i1, hnw] at hck
    rcases z7 with rfl | rfl
    · exact ms_mult hx hb (Or.inl ⟨rfl, rfl, rfl⟩) hts hown (of_decide_eq_true hck) (mm_ao_args (GA _ ck_a1.2.2.2.2.2.1)) hVK hH hS z1 z2 z3 z4 (by rw [hR3]; exact z5) (by rw [hR4]; exact z6) hd (fun H1 hH1 hS1 => k.go hlen hH1 hS1 hL)
    · exact ms_mult hx hb (Or.inr ⟨rfl, rfl, rfl⟩) hts hown (of_decide_eq_true hck) (mm_ao_args (GA _ ck_a1.2.2.2.2.2.2)) hVK hH hS z1 z2 z3 z4 (by rw [hR3]; exact z5) (by rw [hR4]; exact z6) hd (fun H1 hH1 hS1 => k.go hlen hH1 hS1 hL)
  | ireturn =>
    unfold mm_stp at h1; dsimp only at h1
    split at h1
    case h_2 => cases h1
    split at h1 <;> cases h1
  | lreturn =>
    unfold mm_stp at h1; dsimp only at h1
    split at h1
    case h_2 => cases h1
    split at h1 <;> cases h1
  | return_ =>
    unfold mm_stp at h1; dsimp only at h1
    split at h1
    case h_2 => cases h1
    split at h1 <;> cases h1
  | invokevirtual k9 =>
    unfold mm_stp at h1; dsimp only at h1
    exact mm_step_inv hx hb hml hown hts hR1 hR2 hR3 hR4 hVK hlen hH hS hL (Or.inl ⟨rfl, hd, rfl⟩) hln hck h1 k hcu
  | invokespecial k9 =>
    unfold mm_stp at h1; dsimp only at h1
    exact mm_step_inv hx hb hml hown hts hR1 hR2 hR3 hR4 hVK hlen hH hS hL (Or.inr (Or.inl ⟨rfl, hd, rfl⟩)) hln hck h1 k hcu
  | invokestatic k9 =>
    unfold mm_stp at h1; dsimp only at h1
    exact mm_step_inv hx hb hml hown hts hR1 hR2 hR3 hR4 hVK hlen hH hS hL (Or.inr (Or.inr ⟨rfl, hd, rfl⟩)) hln hck h1 k hcu
  | iadd =>
    unfold mm_stp at h1; dsimp only at h1
    split at h1
    case h_3 => cases h1
    case h_2 => simp [mm_l2] at h1
    simp only [mm_i2] at h1
    obtain rfl := mm_nx_inj h1
    obtain rfl : len = 1 := by simpa [mm_ln] using hln
    exact lv_iadd hx hb hd (k.go hlen hH hS hL)
  | isub =>
    unfold mm_stp at h1; dsimp only at h1
    split at h1
    case h_3 => cases h1
    case h_2 => simp [mm_l2] at h1
    simp only [mm_i2] at h1
    obtain rfl := mm_nx_inj h1
    obtain rfl : len = 1 := by simpa [mm_ln] using hln
    exact lv_isub hx hb hd (k.go hlen hH hS hL)
  | imul =>
    unfold mm_stp at h1; dsimp only at h1
    split at h1
    case h_3 => cases h1
    case h_2 => simp [mm_l2] at h1
    simp only [mm_i2] at h1
    obtain rfl := mm_nx_inj h1
    obtain rfl : len = 1 := by simpa [mm_ln] using hln
    exact lv_imul hx hb hd (k.go hlen hH hS hL)
  | iand =>
    unfold mm_stp at h1; dsimp only at h1
    split at h1
    case h_3 => cases h1
    case h_2 => simp [mm_l2] at h1
    simp only [mm_i2] at h1
    obtain rfl := mm_nx_inj h1
    obtain rfl : len = 1 := by simpa [mm_ln] using hln
    exact lv_iand hx hb hd (k.go hlen hH hS hL)
  | ior =>
    unfold mm_stp at h1; dsimp only at h1
    split at h1
    case h_3 => cases h1
    case h_2 => simp [mm_l2] at h1
    simp only [mm_i2] at h1
    obtain rfl := mm_nx_inj h1
    obtain rfl : len = 1 := by simpa [mm_ln] using hln
    exact lv_ior hx hb hd (k.go hlen hH hS hL)
  | ixor =>
    unfold mm_stp at h1; dsimp only at h1
    split at h1
    case h_3 => cases h1
    case h_2 => simp [mm_l2] at h1
    simp only [mm_i2] at h1
    obtain rfl := mm_nx_inj h1
    obtain rfl : len = 1 := by simpa [mm_ln] using hln
    exact lv_ixor hx hb hd (k.go hlen hH hS hL)
  | ishl =>
    unfold mm_stp at h1; dsimp only at h1
    split at h1
    case h_3 => cases h1
    case h_2 => simp [mm_l2] at h1
    simp only [mm_i2] at h1
    obtain rfl := mm_nx_inj h1
    obtain rfl : len = 1 := by simpa [mm_ln] using hln
    exact lv_ishl hx hb hd (k.go hlen hH hS hL)
  | ishr =>
    unfold mm_stp at h1; dsimp only at h1
    split at h1
    case h_3 => cases h1
    case h_2 => simp [mm_l2] at h1
    simp only [mm_i2] at h1
    obtain rfl := mm_nx_inj h1
    obtain rfl : len = 1 := by simpa [mm_ln] using hln
    exact lv_ishr hx hb hd (k.go hlen hH hS hL)
  | iushr =>
    unfold mm_stp at h1; dsimp only at h1
    split at h1
    case h_3 => cases h1
    case h_2 => simp [mm_l2] at h1
    simp only [mm_i2] at h1
    obtain rfl := mm_nx_inj h1
    obtain rfl : len = 1 := by simpa [mm_ln] using hln
    exact lv_iushr hx hb hd rfl (k.go hlen hH hS hL)
  | idiv =>
    unfold mm_stp at h1; dsimp only at h1
    split at h1
    case h_3 => cases h1
    case h_2 => simp [mm_l2] at h1
    rename_i y x r
    simp only [mm_i2] at h1
    by_cases hy : y = 0
    · rw [if_pos hy] at h1; cases h1
    · rw [if_neg hy] at h1
      obtain rfl := mm_nx_inj h1
      obtain rfl : len = 1 := by simpa [mm_ln] using hln
      exact lv_idiv hx hb hd hy (k.go hlen hH hS hL)
  | irem =>
    unfold mm_stp at h1; dsimp only at h1
    split at h1
    case h_3 => cases h1
    case h_2 => simp [mm_l2] at h1
    rename_i y x r
    simp only [mm_i2] at h1
    by_cases hy : y = 0
    · rw [if_pos hy] at h1; cases h1
    · rw [if_neg hy] at h1
      obtain rfl := mm_nx_inj h1
      obtain rfl : len = 1 := by simpa [mm_ln] using hln
      exact lv_irem hx hb hd hy (k.go hlen hH hS hL)
  | ladd =>
    unfold mm_stp at h1; dsimp only at h1
    split at h1
    case h_3 => cases h1
    case h_1 => simp [mm_i2] at h1
    simp only [mm_l2] at h1
    obtain rfl := mm_nx_inj h1
    obtain rfl : len = 1 := by simpa [mm_ln] using hln
    exact lv_ladd hx hb hd (k.go hlen hH hS hL)
  | lsub =>
    unfold mm_stp at h1; dsimp only at h1
    split at h1
    case h_3 => cases h1
    case h_1 => simp [mm_i2] at h1
    simp only [mm_l2] at h1
    obtain rfl := mm_nx_inj h1
    obtain rfl : len = 1 := by simpa [mm_ln] using hln
    exact lv_lsub hx hb hd (k.go hlen hH hS hL)
  | lmul =>
    unfold mm_stp at h1; dsimp only at h1
    split at h1
    case h_3 => cases h1
    case h_1 => simp [mm_i2] at h1
    simp only [mm_l2] at h1
    obtain rfl := mm_nx_inj h1
    obtain rfl : len = 1 := by simpa [mm_ln] using hln
    exact lv_lmul hx hb hd (k.go hlen hH hS hL)
  | land =>
    unfold mm_stp at h1; dsimp only at h1
    split at h1
    case h_3 => cases h1
    case h_1 => simp [mm_i2] at h1
    simp only [mm_l2] at h1
    obtain rfl := mm_nx_inj h1
    obtain rfl : len = 1 := by simpa [mm_ln] using hln
    exact lv_land hx hb hd (k.go hlen hH hS hL)
  | lor =>
    unfold mm_stp at h1; dsimp only at h1
    split at h1
    case h_3 => cases h1
    case h_1 => simp [mm_i2] at h1
    simp only [mm_l2] at h1
    obtain rfl := mm_nx_inj h1
    obtain rfl : len = 1 := by simpa [mm_ln] using hln
    exact lv_lor hx hb hd (k.go hlen hH hS hL)
  | ldiv =>
    unfold mm_stp at h1; dsimp only at h1
    split at h1
    case h_3 => cases h1
    case h_1 => simp [mm_i2] at h1
    rename_i y x r
    simp only [mm_l2] at h1
    by_cases hy : y = 0
    · rw [if_pos hy] at h1; cases h1
    · rw [if_neg hy] at h1
      obtain rfl := mm_nx_inj h1
      obtain rfl : len = 1 := by simpa [mm_ln] using hln
      exact lv_ldiv hx hb hd hy (k.go hlen hH hS hL)
  | lrem =>
    unfold mm_stp at h1; dsimp only at h1
    split at h1
    case h_3 => cases h1
    case h_1 => simp [mm_i2] at h1
    rename_i y x r
    simp only [mm_l2] at h1
    by_cases hy : y = 0
    · rw [if_pos hy] at h1; cases h1
    · rw [if_neg hy] at h1
      obtain rfl := mm_nx_inj h1
      obtain rfl : len = 1 := by simpa [mm_ln] using hln
      exact lv_lrem hx hb hd hy (k.go hlen hH hS hL)
  | _ =>
    unfold mm_stp at h1; dsimp only at h1
    split at h1
    · simp [mm_i2] at h1
    · simp [mm_l2] at h1
    · cases h1
end STEP
end
section
/-! runs -/
def mm_slots (args : List Value) : ML := match args with
  | [] => []
  | v :: r => bif Nat.beq v.category 2 then some v :: none :: mm_slots r else some v :: mm_slots r
def mm_ent (mid : Nat) (args : List Value) : ML := mm_slots args ++ List.replicate (mi_l (mm_of mid) - (mm_slots args).length) none
/-- runs: n bounds the instructions on the longest way -/
def mm_ex : Nat → Nat → MS → Option MR
  | 0, _, _ => none
  | n + 1, mid, s => match mm_one mid s.1 s.2.1 s.2.2.1 s.2.2.2.1 s.2.2.2.2.1 s.2.2.2.2.2 with
    | none => none
    | some (.inl s') => mm_ex n mid s'
    | some (.inr (.inl r)) => some r
    | some (.inr (.inr (m2, args, s'))) => bif Nat.ble (mm_slots args).length (mi_l (mm_of m2)) then (match mm_ex n m2 (0, mm_ent m2 args, [], s'.2.2.2.1, 0, 0) with
      | none => none
      | some (v, h') => mm_ex n mid (s'.1, s'.2.1, v.toList ++ s'.2.2.1, h', s'.2.2.2.2.1, s'.2.2.2.2.2)) else none
end
section
/-! A RUN OF THE MINI-MACHINE IS A RUN OF THE MACHINE -/
def mm_rm (mid : Nat) : Room := { frames := mi_f (mm_of mid), cells := mi_mc (mm_of mid), slots := mi_ms (mm_of mid), locals := mi_w (mm_of mid) }
def mm_Pc (D : va_G) (cy : Nat → ClassId) (base b t Ls : Nat) (xs : Nat → Int32) (ps : Nat → Int64) (h : MH) (av : List Value) : Array Value → State → Prop := fun v U => v = (av.map (mm_tv (mm_ad base b t))).toArray ∧ mm_X2 D cy base b t Ls xs ps U ∧ mm_H D cy base b t Ls xs ps h U.heap
def mm_Qc (D : va_G) (cy : Nat → ClassId) (base b t Ls : Nat) (xs : Nat → Int32) (ps : Nat → Int64) (r : Option Value) (h : MH) : Array Value → State → Outcome → State → Prop := fun _ st oc u => oc = .returned (r.map (mm_tv (mm_ad base b t))) ∧ mm_H D cy base b t Ls xs ps h u.heap ∧ va_F (mm_A base) st u
theorem mm_slots_len (ad : Nat → Nat) : ∀ av : List Value, (lg_sl (av.map (mm_tv ad))).length = (mm_slots av).length
  | [] => rfl
  | v :: r => by
    have ih := mm_slots_len ad r
    show ((if (mm_tv ad v).category = 2 then [Slot.val (mm_tv ad v), Slot.second] else [Slot.val (mm_tv ad v)]) ++ lg_sl (r.map (mm_tv ad))).length = (bif Nat.beq v.category 2 then some v :: none :: mm_slots r else some v :: mm_slots r).length
    rw [mm_tv_cat]
    by_cases hc : v.category = 2
    · rw [if_pos hc, hc]
      simp [ih]
    · rw [if_neg hc, show Nat.beq v.category 2 = false by cases hb : Nat.beq v.category 2 with
        | false => rfl
        | true => exact absurd (Nat.eq_of_beq_eq_true hb) hc]
      simp [ih]
theorem mm_slots_get (ad : Nat → Nat) : ∀ (av : List Value) (i k : Nat) (v : Value), (mm_slots av)[k]? = some (some v) → (i + k, mm_tv ad v) ∈ lv_args i (av.map (mm_tv ad))
  | [], i, k, v, h => by simp [mm_slots] at h
  | w :: r, i, k, v, h => by
    show (i + k, mm_tv ad v) ∈ (i, mm_tv ad w) :: lv_args (if (mm_tv ad w).category = 2 then i + 2 else i + 1) (r.map (mm_tv ad))
    rw [mm_tv_cat]
    have h' : (bif Nat.beq w.category 2 then some w :: none :: mm_slots r else some w :: mm_slots r)[k]? = some (some v) := h
    by_cases hc : w.category = 2
    · rw [if_pos hc]
      rw [hc] at h'
      have h2 : (some w :: none :: mm_slots r)[k]? = some (some v) := h'
      match k, h2 with
      | 0, h2 => simp at h2; subst h2; exact List.mem_cons_self
      | 1, h2 => simp at h2
      | k + 2, h2 =>
        have h3 : (mm_slots r)[k]? = some (some v) := by simpa using h2
        have := mm_slots_get ad r (i + 2) k v h3
        rw [show i + (k + 2) = i + 2 + k by omega]
        exact List.mem_cons_of_mem _ this
    · rw [if_neg hc]
      rw [show Nat.beq w.category 2 = false by cases hb : Nat.beq w.category 2 with
        | false => rfl
        | true => exact absurd (Nat.eq_of_beq_eq_true hb) hc] at h'
      have h2 : (some w :: mm_slots r)[k]? = some (some v) := h'
      match k, h2 with
      | 0, h2 => simp at h2; subst h2; exact List.mem_cons_self
      | k + 1, h2 =>
        have h3 : (mm_slots r)[k]? = some (some v) := by simpa using h2
        have := mm_slots_get ad r (i + 1) k v h3
        rw [show i + (k + 1) = i + 1 + k by omega]
        exact List.mem_cons_of_mem _ this
theorem mm_ent_len {mid : Nat} {av : List Value} (h : (mm_slots av).length ≤ mi_l (mm_of mid)) : (mm_ent mid av).length = mi_l (mm_of mid) := by
  unfold mm_ent
  rw [List.length_append, List.length_replicate]
  omega
theorem mm_ent_Lr {mid : Nat} {av : List Value} {ad : Nat → Nat} (h : (mm_slots av).length ≤ mi_l (mm_of mid)) {ls : Array Slot} (hl : lv_has ls (mi_l (mm_of mid)) (lv_args 0 (av.map (mm_tv ad)))) : mm_Lr ad (mm_ent mid av) ls := by
  refine ⟨by rw [mm_ent_len h]; exact hl.1, hl.2.1, fun q hq => hl.2.2 q ?_⟩
  obtain ⟨v, hv, he⟩ := mm_lv_mem.mp hq
  unfold mm_ent at hv
  obtain ⟨k, w⟩ := q
  simp only at hv he
  subst he
  by_cases hk : k < (mm_slots av).length
  · rw [List.getElem?_append_left hk] at hv
    have := mm_slots_get ad av 0 k v hv
    rw [Nat.zero_add] at this
    exact this
  · rw [List.getElem?_append_right (by omega), List.getElem?_replicate] at hv
    split at hv <;> simp at hv
theorem mm_nx_no {pc : Nat} {L : ML} {st : List Value} {h : MH} {cu su : Nat} {x : MR ⊕ MC} : mm_nx pc L st h cu su ≠ some (.inr x) := fun z => by
  unfold mm_nx at z
  cases z
theorem mm_inv_no {mid own idx pc : Nat} {virt : Bool} {L : ML} {st : List Value} {h : MH} {cu su : Nat} {x : MR} : mm_inv mid own idx pc virt L st h cu su ≠ some (.inr (.inl x)) := fun z => by
  unfold mm_inv at z
  split at z
  · cases z
  · split at z
    · split at z
      · exact mm_nx_no z
      · cases z
    · cases z
  · split at z
    · split at z
      · exact mm_nx_no z
      · cases z
    · cases z
  · split at z
    · split at z
      · exact mm_nx_no z
      · cases z
    · cases z
  · rename_i m2 _ _ _ _
    cases hb2 : Nat.beq (mi_s (mm_of m2)) 1 <;> rw [hb2] at z <;> simp only [cond_true, cond_false] at z
    · split at z
      · split at z <;> cases z
      · cases z
    · split at z <;> cases z
set_option maxHeartbeats 4000000 in
/-- what does not go on by itself is a return or a call -/
theorem mm_stp_out {mid : Nat} {i : Instr} {len tgt pc : Nat} {L : ML} {st : List Value} {h : MH} {cu su : Nat} {z : MR ⊕ MC} (h1 : mm_stp mid i len tgt pc L st h cu su = some (.inr z)) : i = .ireturn ∨ i = .lreturn ∨ i = .return_ ∨ (∃ k, i = .invokevirtual k ∧ mm_inv mid (mi_c (mm_of mid)) k pc true L st h cu su = some (.inr z)) ∨ (∃ k, i = .invokespecial k ∧ mm_inv mid (mi_c (mm_of mid)) k pc true L st h cu su = some (.inr z)) ∨ (∃ k, i = .invokestatic k ∧ mm_inv mid (mi_c (mm_of mid)) k pc false L st h cu su = some (.inr z)) := by
  cases i with
  | ireturn => exact Or.inl rfl
  | lreturn => exact Or.inr (Or.inl rfl)
  | return_ => exact Or.inr (Or.inr (Or.inl rfl))
  | invokevirtual k => exact Or.inr (Or.inr (Or.inr (Or.inl ⟨k, rfl, h1⟩)))
  | invokespecial k => exact Or.inr (Or.inr (Or.inr (Or.inr (Or.inl ⟨k, rfl, h1⟩))))
  | invokestatic k => exact Or.inr (Or.inr (Or.inr (Or.inr (Or.inr ⟨k, rfl, h1⟩))))
  | _ =>
    exfalso
    unfold mm_stp at h1
    dsimp only at h1
    repeat' (first | (exact mm_nx_no h1) | (cases h1; done) | (split at h1))
section RUN
variable {D : va_G} {cy : Nat → ClassId} {base b t Ls : Nat} {xs : Nat → Int32} {ps : Nat → Int64}
/-- what the machine owes at a return -/
def mm_ret (mid : Nat) (p : Program) (l : Launch) (e : Env) (R : Room) (s : State) (m : MethodId) (args : Array Value) (below : List Frame) (meth : Method) (c : Code) (Q : State → Prop) (D : va_G) (cy : Nat → ClassId) (base b t Ls : Nat) (xs : Nat → Int32) (ps : Nat → Int64) (r : Option Value) (h' : MH) : Prop :=
  ∀ (pc : Nat) (L : ML) (st : List Value) (h : MH) (cu su : Nat), mm_one mid pc L st h cu su = some (.inr (.inl (r, h'))) → cu ≤ mi_mc (mm_of mid) → su ≤ mi_ms (mm_of mid) → mm_at mid p l e R s m args below meth c Q D cy base b t Ls xs ps (pc, L, st, h, cu, su)
/-- the soundness of runs of n steps -/
def mm_snd (D : va_G) (cy : Nat → ClassId) (base b t Ls : Nat) (xs : Nat → Int32) (ps : Nat → Int64) (l : Launch) (n : Nat) : Prop :=
  ∀ (mid : Nat) (p : Program) (e : Env) (R : Room) (s : State) (m : MethodId) (args : Array Value) (below : List Frame) (meth : Method) (c : Code) (Q : State → Prop) (x : MS) (r : Option Value) (h' : MH), mm_B mid p R s m args meth c → mm_X2 D cy base b t Ls xs ps s → mm_ex n mid x = some (r, h') → x.2.2.2.2.1 ≤ mi_mc (mm_of mid) → x.2.2.2.2.2 ≤ mi_ms (mm_of mid) → mm_ret mid p l e R s m args below meth c Q D cy base b t Ls xs ps r h' → mm_at mid p l e R s m args below meth c Q D cy base b t Ls xs ps x
theorem mm_ini_s : ∀ mid, mid < 178 → mm_ini mid = true → mi_s (mm_of mid) = 0 := by
  have h : ((List.range 178).all fun mid => !(mm_ini mid) || decide (mi_s (mm_of mid) = 0)) = true := by decide +kernel
  intro mid hm hi
  have := List.all_eq_true.mp h mid (List.mem_range.mpr hm)
  simpa [hi] using this
theorem mm_cw_good {mid : Nat} (h : mid < 178) : mm_cw mid ∈ mm_ws := mm_in_ws (kw_in mid (by omega) (by omega)) rfl
theorem mm_good {mid : Nat} (h : mid < 178) : GoodIn mm_ws (mm_cw mid :: mm_ws) := by
  intro w hw
  rcases List.mem_cons.mp hw with rfl | hw
  · exact ⟨mm_cw_good h, mm_ws_good _ (mm_cw_good h)⟩
  · exact ⟨hw, mm_ws_good _ hw⟩
theorem mm_blind {h : MH} {av : List Value} : FrameBlind (mm_Pc D cy base b t Ls xs ps h av) := fun a U g mk q => by
  obtain ⟨q1, q2, q3⟩ := q
  exact ⟨q1, q2.same rfl rfl, q3⟩
/-- a method's contract out of its runs -/
theorem mm_met {l : Launch} {n : Nat} (hs : mm_snd D cy base b t Ls xs ps l n) {mid : Nat} (hmid : mid < 178) {av : List Value} {h h' : MH} {r : Option Value} (hrun : mm_ex n mid (0, mm_ent mid av, [], h, 0, 0) = some (r, h')) (hlen : (mm_slots av).length ≤ mi_l (mm_of mid)) : Met l (mm_yy mid) (mm_cw mid :: mm_ws) (mm_rm mid) (mm_Pc D cy base b t Ls xs ps h av) (mm_Qc D cy base b t Ls xs ps r h') (mi_mc (mm_of mid)) (mi_ms (mm_of mid)) (mm_A base) := by
  obtain ⟨q, hq⟩ := ck_ys mid hmid
  simp only [ck_y1, Bool.and_eq_true, decide_eq_true_eq] at hq
  obtain ⟨⟨⟨⟨⟨y1, y2⟩, y3⟩, y4⟩, y5⟩, y6⟩ := hq
  refine Met.ofW (cc := mm_bb mid) (maxL := mi_l (mm_of mid)) (ret := mm_rt (mi_r (mm_of mid))) y5 rfl ?_
  intro p e s m args below meth c s₁ B hml hv
  obtain ⟨rfl, hX, hH⟩ := hv
  have hts := atoms_spec (ws := mm_cw mid :: mm_ws) B.pre
  have hown : s.vm.findClass (mm_on (mi_c (mm_of mid))) = some m.cls := by rw [← y4]; exact findClass_of_methodNamed B.named
  have hinit : mm_ini mid = true → meth.name = "<init>" := by
    intro hi
    rw [(name_of_methodNamed B.named B.method).1]
    split at y6
    · rename_i hst
      have : mi_s (mm_of mid) = 0 := mm_ini_s mid hmid hi
      omega
    · simp only [hi, if_true, Bool.and_eq_true, decide_eq_true_eq] at y6
      exact y6.2.1
  rw [lg_entry_eq]
  have hl := lv_entry (av.map (mm_tv (mm_ad base b t))) (n := mi_l (mm_of mid)) (by rw [mm_slots_len]; exact hlen)
  generalize (lg_sl (av.map (mm_tv (mm_ad base b t))) ++ List.replicate (mi_l (mm_of mid) - (lg_sl (av.map (mm_tv (mm_ad base b t)))).length) Slot.unset).toArray = ls at hl ⊢
  refine hs mid p e (headSpec (mm_cw mid :: mm_ws) (mm_rm mid)).room s m _ below meth c _ (0, mm_ent mid av, [], h, 0, 0) r h' ⟨⟨B.exec, B.bytes, hml, hown, fun w hw => hts w (List.mem_cons_of_mem _ hw)⟩, hinit, rfl, rfl, rfl, rfl⟩ hX hrun (Nat.zero_le _) (Nat.zero_le _) ?_ s.heap [] ls (mm_ent_len hlen) hH va_S.rf (mm_ent_Lr hlen hl)
  intro pc L st g cu su h1 hcu hsu H locs ls hlen1 hH1 hS1 hL1
  unfold mm_one at h1
  split at h1
  case h_2 => cases h1
  rename_i i len tgt hf
  obtain ⟨-, hd, hln, -, -⟩ := fx_fet hf
  dsimp only at hlen1 hH1 hL1 ⊢
  refine W.widen (k := mi_mc (mm_of mid)) (n := mi_ms (mm_of mid)) hcu hsu ?_
  have hlocks := B.notSynchronized
  rcases mm_stp_out h1 with rfl | rfl | rfl | ⟨k, rfl, h2⟩ | ⟨k, rfl, h2⟩ | ⟨k, rfl, h2⟩
  · unfold mm_stp at h1
    dsimp only at h1
    split at h1
    case h_2 => cases h1
    split at h1
    case isFalse => cases h1
    rename_i x hc
    cases h1
    obtain rfl : len = 1 := by simpa [mm_ln] using hln
    rcases hc with hc | ⟨hc, hx01⟩
    · have hr := B.returns
      rw [hc] at hr
      exact W.iret B.exec B.bytes hr (fun u hu hW => ⟨rfl, by rw [hu]; exact hH1, hS1.F hu⟩) hS1.2.2 hd
    · have hr := B.returns
      rw [hc] at hr
      exact W.zret B.exec B.bytes hr (by rcases hx01 with rfl | rfl <;> rfl) (fun u hu hW => ⟨rfl, by rw [hu]; exact hH1, hS1.F hu⟩) hS1.2.2 hd
  · unfold mm_stp at h1
    dsimp only at h1
    split at h1
    case h_2 => cases h1
    split at h1
    case isFalse => cases h1
    rename_i x hc
    cases h1
    obtain rfl : len = 1 := by simpa [mm_ln] using hln
    have hr := B.returns
    rw [hc] at hr
    exact W.lret B.exec B.bytes hr (fun u hu hW => ⟨rfl, by rw [hu]; exact hH1, hS1.F hu⟩) hS1.2.2 hd
  · unfold mm_stp at h1
    dsimp only at h1
    split at h1
    case h_2 => cases h1
    split at h1
    case isFalse => cases h1
    rename_i hc
    cases h1
    obtain rfl : len = 1 := by simpa [mm_ln] using hln
    have hr := B.returns
    rw [hc] at hr
    exact W.vret B.exec B.bytes hr (fun u hu hW => ⟨rfl, by rw [hu]; exact hH1, hS1.F hu⟩) hS1.2.2 hd
  · exact absurd h2 mm_inv_no
  · exact absurd h2 mm_inv_no
  · exact absurd h2 mm_inv_no
end RUN
end
section
/-! CALLS -/
theorem mm_initd : ∀ mid, mid < 178 → Jvm.Cond.initialized (mm_on (mi_c (mm_of mid))) ∈ mm_ws := by
  have h : ((List.range 178).all fun mid => Nat.blt (mi_c (mm_of mid)) 15) = true := by decide +kernel
  intro mid hm
  have h1 := Nat.le_of_ble_eq_true (List.all_eq_true.mp h mid (List.mem_range.mpr hm))
  have h2 : mm_on (mi_c (mm_of mid)) ∈ mm_cn.take 15 := by
    have h3 : mi_c (mm_of mid) < (mm_cn.take 15).length := h1
    have h4 : (mm_cn.take 15)[mi_c (mm_of mid)]? = some (mm_on (mi_c (mm_of mid))) := by
      rw [List.getElem?_take_of_lt h1]
      unfold mm_on
      rw [List.getD_eq_getElem?_getD]
      have h5 : mi_c (mm_of mid) < mm_cn.length := Nat.lt_of_lt_of_le h1 (by decide)
      rw [List.getElem?_eq_getElem h5]
      rfl
    exact List.mem_of_getElem? h4
  exact mm_in_ws (of_decide_eq_true (List.all_eq_true.mp ck_ini _ h2)) rfl
/-- of a method that is called: what its descriptor and the tables say -/
theorem mm_yfacts {mid : Nat} (hmid : mid < 178) : ((mm_yy mid).cls ≠ "java/lang/invoke/MethodHandle" ∧ (mm_yy mid).cls ≠ "java/lang/invoke/VarHandle" ∧ (parseMethodDescriptor (mm_yy mid).desc).map (fun d => d.parameters.length) = some (mi_n (mm_of mid))) ∧ (mm_yy mid).cls = mm_on (mi_c (mm_of mid)) ∧ (mi_s (mm_of mid) = 1 → Jvm.Cond.static (mm_yy mid) ∈ mm_ws) ∧ (mi_s (mm_of mid) ≠ 1 → Jvm.Cond.instanceMethod (mm_yy mid) ∈ mm_ws ∧ (mm_ini mid = true → (mm_yy mid).name = "<init>" ∧ mi_r (mm_of mid) = 0) ∧ (mm_ini mid = false → Jvm.Cond.selects (mm_yy mid).cls (mm_yy mid) (mm_yy mid) ∈ mm_ws)) := by
  obtain ⟨q, hq⟩ := ck_ys mid hmid
  simp only [ck_y1, Bool.and_eq_true, decide_eq_true_eq] at hq
  obtain ⟨⟨⟨⟨⟨y1, y2⟩, y3⟩, y4⟩, y5⟩, y6⟩ := hq
  refine ⟨⟨y1, y2, y3⟩, y4, fun hs => ?_, fun hs => ?_⟩
  · rw [if_pos hs] at y6
    exact mm_in_ws (List.mem_of_getElem? (of_decide_eq_true y6)) rfl
  · rw [if_neg hs] at y6
    simp only [Bool.and_eq_true, decide_eq_true_eq] at y6
    refine ⟨mm_in_ws (List.mem_of_getElem? y6.1) rfl, fun hi => ?_, fun hi => ?_⟩
    · have y7 := y6.2
      rw [if_pos hi] at y7
      simpa using y7
    · have y7 := y6.2
      rw [if_neg (by rw [hi]; decide)] at y7
      exact List.mem_filter.mpr ⟨List.mem_of_getElem? (of_decide_eq_true y7), rfl⟩
theorem mm_m1_gen {own idx m2 : Nat} {q : Nat × Nat} (h : ck_m1 own (idx, m2) q = true) (hm : m2 < 178) : Jvm.Cond.methodLink (mm_on own) idx (mm_yy m2) ∈ mm_ws ∨ (mm_ini m2 = true ∧ Jvm.Cond.methodLinkNest (mm_on own) idx (mm_yy m2) "DrawnTold" ∈ tables_1) := by
  unfold ck_m1 at h
  rw [Bool.and_eq_true] at h
  have h2 := h.2
  rw [if_neg (by show ¬ m2 = 900; omega), if_neg (by show ¬ m2 = 901; omega), if_neg (by show ¬ m2 = 902; omega)] at h2
  simp only [Bool.and_eq_true, Bool.or_eq_true, decide_eq_true_eq] at h2
  rcases h2.1 with h3 | ⟨h3, h4⟩
  · exact Or.inl (mm_in_ws (List.mem_of_getElem? h3) rfl)
  · exact Or.inr ⟨h3, List.mem_of_getElem? h4⟩
theorem mm_inv_call {mid own idx pc m2 : Nat} {virt : Bool} {L : ML} {st : List Value} {h : MH} {cu su : Nat} {av : List Value} {x' : MS} (z : mm_inv mid own idx pc virt L st h cu su = some (.inr (.inr (m2, av, x')))) : mm_mth own idx = some m2 ∧ ((mi_s (mm_of m2) = 1 ∧ virt = false ∧ mi_n (mm_of m2) ≤ st.length ∧ mm_fit (mm_of mid) (mm_of m2) cu su (st.drop (mi_n (mm_of m2))) = true ∧ av = (st.take (mi_n (mm_of m2))).reverse ∧ x' = (pc + 3, L, st.drop (mi_n (mm_of m2)), h, cu + mi_mc (mm_of m2), su + mi_ms (mm_of m2))) ∨
    (mi_s (mm_of m2) ≠ 1 ∧ virt = true ∧ ∃ b r, st.drop (mi_n (mm_of m2)) = .ref b :: r ∧ hK h b = mi_c (mm_of m2) ∧ mm_fit (mm_of mid) (mm_of m2) cu su r = true ∧ av = .ref b :: (st.take (mi_n (mm_of m2))).reverse ∧ x' = (pc + 3, L, r, h, cu + mi_mc (mm_of m2), su + mi_ms (mm_of m2)))) := by
  unfold mm_inv at z
  split at z
  · cases z
  · split at z
    · split at z
      · exact absurd z mm_nx_no
      · cases z
    · cases z
  · split at z
    · split at z
      · exact absurd z mm_nx_no
      · cases z
    · cases z
  · split at z
    · split at z
      · exact absurd z mm_nx_no
      · cases z
    · cases z
  · rename_i m3 _ _ _ hm
    cases hb2 : Nat.beq (mi_s (mm_of m3)) 1 <;> rw [hb2] at z <;> simp only [cond_true, cond_false] at z
    · split at z
      · rename_i b r hdr
        split at z
        · rename_i hc
          cases z
          refine ⟨hm, Or.inr ⟨fun e => ?_, hc.1, b, r, hdr, hc.2.1, hc.2.2, rfl, rfl⟩⟩
          rw [e] at hb2
          cases hb2
        · cases z
      · cases z
    · split at z
      · rename_i hc
        cases z
        exact ⟨hm, Or.inl ⟨Nat.eq_of_beq_eq_true hb2, hc.1, hc.2.1, hc.2.2, rfl, rfl⟩⟩
      · cases z
section CALL
variable {D : va_G} {cy : Nat → ClassId} {base b t Ls : Nat} {xs : Nat → Int32} {ps : Nat → Int64}
variable {p : Program} {l : Launch} {e : Env} {R : Room} {s : State} {m : MethodId} {args : Array Value} {below : List Frame} {meth : Method} {c : Code} {Q : State → Prop}
theorem mm_ofRun {H : Heap} {locs : List Loc} {cu su mc ms pc : Nat} {ls : Array Slot} {st0 rest : List Value} {v : Option Value} {h2 : MH} {av : Array Value} (hr : va_Run p l e R s m args below meth c H locs cu su mc ms (F0 m pc ls st0) rest (mm_Qc D cy base b t Ls xs ps v h2 av) (mm_A base)) (hS : va_S (mm_A base) s.heap H locs)
    (kk : ∀ (H1 : Heap) (locs1 : List Loc), mm_H D cy base b t Ls xs ps h2 H1 → va_S (mm_A base) s.heap H1 locs1 → W p l e R s m args below meth c H1 locs1 (cu + mc) (su + ms) Q (F0 m (pc + 3) ls ((v.toList.map (mm_tv (mm_ad base b t))) ++ rest))) : W p l e R s m args below meth c H locs cu su Q (F0 m pc ls st0) := by
  intro T hT X
  obtain ⟨v1, st₀, t1, T', L, e0, X', hL, e1, e2, ⟨hv, hH', hF⟩, st⟩ := hr T hT X
  have hv1 : v1 = v.map (mm_tv (mm_ad base b t)) := by injection hv
  subst hv1
  rw [← e1] at hH'
  obtain ⟨hz, hk⟩ := hF
  rw [e0] at hz hk
  obtain ⟨t2, a1, b1⟩ := kk T'.heap (locs ++ L) hH' ⟨Nat.le_trans hS.1 (by rw [e1]; exact hz), fun q h1 h2 => by rw [e1, hk q (Nat.lt_of_lt_of_le h1 hS.1) h2]; exact hS.2.1 q h1 h2, fun q hq => by
      rcases List.mem_append.mp hq with h | h
      · exact hS.2.2 q h
      · exact hL q h⟩ T' rfl X'
  refine ⟨t2, st t2 ?_, b1⟩
  have ev : (Option.map (mm_tv (mm_ad base b t)) v).toList = v.toList.map (mm_tv (mm_ad base b t)) := by cases v <;> rfl
  rw [ev]
  exact a1
theorem mm_fit_use {q q2 : MI} {cu su : Nat} {r : List Value} (h : mm_fit q q2 cu su r = true) : mi_f q2 + 1 ≤ mi_f q ∧ 8 + (mi_l q2 + 11) + mi_w q2 ≤ mi_w q ∧ mm_cat r ≤ 8 ∧ cu + mi_mc q2 ≤ mi_mc q ∧ su + mi_ms q2 ≤ mi_ms q := by
  simp only [mm_fit, Bool.and_eq_true] at h
  obtain ⟨⟨⟨⟨h1, h2⟩, h3⟩, h4⟩, h5⟩ := h
  exact ⟨Nat.le_of_ble_eq_true h1, Nat.le_of_ble_eq_true h2, Nat.le_of_ble_eq_true h3, Nat.le_of_ble_eq_true h4, Nat.le_of_ble_eq_true h5⟩
theorem mm_inst8 : ∀ mid, mid < 178 → mi_s (mm_of mid) ≠ 1 → mi_c (mm_of mid) ≤ 8 := by
  have h : ((List.range 178).all fun mid => Nat.beq (mi_s (mm_of mid)) 1 || Nat.ble (mi_c (mm_of mid)) 8) = true := by decide +kernel
  intro mid hm hi
  have h1 := List.all_eq_true.mp h mid (List.mem_range.mpr hm)
  rw [Bool.or_eq_true] at h1
  rcases h1 with h1 | h1
  · exact absurd (Nat.eq_of_beq_eq_true h1) hi
  · exact Nat.le_of_ble_eq_true h1
theorem mm_ex900 {n : Nat} {x : MS} {r : MR} : mm_ex n 900 x ≠ some r := by
  intro h
  cases n with
  | zero => cases h
  | succ n => cases h
theorem mm_cu_inv {mid own idx pc : Nat} {virt : Bool} {L : ML} {st : List Value} {h : MH} {cu su : Nat} {x' : MS} (z : mm_inv mid own idx pc virt L st h cu su = some (.inl x')) : x'.2.2.2.2.1 = cu ∧ x'.2.2.2.2.2 = su := by
  unfold mm_inv at z
  split at z
  · cases z
  · split at z
    · split at z
      · obtain rfl := mm_nx_inj z; exact ⟨rfl, rfl⟩
      · cases z
    · cases z
  · split at z
    · split at z
      · obtain rfl := mm_nx_inj z; exact ⟨rfl, rfl⟩
      · cases z
    · cases z
  · split at z
    · split at z
      · obtain rfl := mm_nx_inj z; exact ⟨rfl, rfl⟩
      · cases z
    · cases z
  · rename_i m2 _ _ _ _
    cases hb2 : Nat.beq (mi_s (mm_of m2)) 1 <;> rw [hb2] at z <;> simp only [cond_true, cond_false] at z
    · split at z
      · split at z <;> cases z
      · cases z
    · split at z <;> cases z
set_option maxHeartbeats 4000000 in
theorem mm_cu_step {mid pc : Nat} {L : ML} {st : List Value} {h : MH} {cu su : Nat} {x' : MS} (h1 : mm_one mid pc L st h cu su = some (.inl x')) (hcu : cu ≤ mi_mc (mm_of mid)) (hsu : su ≤ mi_ms (mm_of mid)) : x'.2.2.2.2.1 ≤ mi_mc (mm_of mid) ∧ x'.2.2.2.2.2 ≤ mi_ms (mm_of mid) := by
  unfold mm_one at h1
  split at h1
  case h_2 => cases h1
  rename_i i len tgt hf
  cases i with
  | invokevirtual k => obtain ⟨e1, e2⟩ := mm_cu_inv h1; rw [e1, e2]; exact ⟨hcu, hsu⟩
  | invokespecial k => obtain ⟨e1, e2⟩ := mm_cu_inv h1; rw [e1, e2]; exact ⟨hcu, hsu⟩
  | invokestatic k => obtain ⟨e1, e2⟩ := mm_cu_inv h1; rw [e1, e2]; exact ⟨hcu, hsu⟩
  | new k =>
    unfold mm_stp at h1
    dsimp only at h1
    split at h1
    case h_2 => cases h1
    split at h1
    case isFalse => cases h1
    rename_i hc
    obtain rfl := mm_nx_inj h1
    exact ⟨hc.2.1, hc.2.2⟩
  | newarray tt =>
    unfold mm_stp at h1
    dsimp only at h1
    split at h1
    case h_2 => cases h1
    split at h1
    case isFalse => cases h1
    rename_i hc
    split at h1
    case h_4 => cases h1
    all_goals (obtain rfl := mm_nx_inj h1; exact ⟨hc.2.2.1, hc.2.2.2⟩)
  | anewarray k =>
    unfold mm_stp at h1
    dsimp only at h1
    split at h1
    case h_2 => cases h1
    split at h1
    case isFalse => cases h1
    rename_i hc
    obtain rfl := mm_nx_inj h1
    exact ⟨hc.2.2.1, hc.2.2.2.1⟩
  | multianewarray k d =>
    unfold mm_stp at h1
    dsimp only at h1
    split at h1
    case h_2 => cases h1
    split at h1
    case isFalse => cases h1
    rename_i hc
    obtain rfl := mm_nx_inj h1
    obtain ⟨-, -, -, -, -, z5, z6, -⟩ := hc
    exact ⟨Nat.le_trans (Nat.le_of_eq (Nat.add_assoc _ _ _)) z5, Nat.le_trans (Nat.le_of_eq (Nat.add_assoc _ _ _)) z6⟩
  | _ =>
    unfold mm_stp at h1
    dsimp only at h1
    repeat' (first | (obtain rfl := mm_nx_inj h1; exact ⟨hcu, hsu⟩) | (cases h1; done) | (split at h1))
theorem mm_cu_call {mid pc : Nat} {L : ML} {st : List Value} {h : MH} {cu su m2 : Nat} {av : List Value} {x' : MS} (h1 : mm_one mid pc L st h cu su = some (.inr (.inr (m2, av, x')))) : x'.2.2.2.2.1 ≤ mi_mc (mm_of mid) ∧ x'.2.2.2.2.2 ≤ mi_ms (mm_of mid) := by
  unfold mm_one at h1
  split at h1
  case h_2 => cases h1
  rename_i i len tgt hf
  have fin : ∀ {k : Nat} {virt : Bool}, mm_inv mid (mi_c (mm_of mid)) k pc virt L st h cu su = some (.inr (.inr (m2, av, x'))) → x'.2.2.2.2.1 ≤ mi_mc (mm_of mid) ∧ x'.2.2.2.2.2 ≤ mi_ms (mm_of mid) := by
    intro k virt hi
    rcases (mm_inv_call hi).2 with ⟨-, -, -, hfit, -, rfl⟩ | ⟨-, -, rb, r, -, -, hfit, -, rfl⟩
    · obtain ⟨-, -, -, f4, f5⟩ := mm_fit_use hfit; exact ⟨f4, f5⟩
    · obtain ⟨-, -, -, f4, f5⟩ := mm_fit_use hfit; exact ⟨f4, f5⟩
  rcases mm_stp_out h1 with rfl | rfl | rfl | ⟨k9, rfl, hi⟩ | ⟨k9, rfl, hi⟩ | ⟨k9, rfl, hi⟩
  · exfalso; unfold mm_stp at h1; dsimp only at h1; repeat' (first | (cases h1; done) | (split at h1))
  · exfalso; unfold mm_stp at h1; dsimp only at h1; repeat' (first | (cases h1; done) | (split at h1))
  · exfalso; unfold mm_stp at h1; dsimp only at h1; repeat' (first | (cases h1; done) | (split at h1))
  · exact fin hi
  · exact fin hi
  · exact fin hi
set_option maxHeartbeats 4000000 in
theorem mm_call {n : Nat} (hs : mm_snd D cy base b t Ls xs ps l n) {mid : Nat} (B : mm_B mid p R s m args meth c) (G : mm_X2 D cy base b t Ls xs ps s) {pc : Nat} {L : ML} {st : List Value} {h : MH} {cu su m2 : Nat} {av : List Value} {x' : MS} (h1 : mm_one mid pc L st h cu su = some (.inr (.inr (m2, av, x')))) (hsl : (mm_slots av).length ≤ mi_l (mm_of m2)) {v : Option Value} {h2 : MH} (hrun : mm_ex n m2 (0, mm_ent m2 av, [], x'.2.2.2.1, 0, 0) = some (v, h2))
    (k : mm_at mid p l e R s m args below meth c Q D cy base b t Ls xs ps (x'.1, x'.2.1, v.toList ++ x'.2.2.1, h2, x'.2.2.2.2.1, x'.2.2.2.2.2)) : mm_at mid p l e R s m args below meth c Q D cy base b t Ls xs ps (pc, L, st, h, cu, su) := by
  obtain ⟨⟨hx, hb, hml, hown, hts⟩, hinit, hR1, hR2, hR3, hR4⟩ := B
  unfold mm_one at h1
  split at h1
  case h_2 => cases h1
  rename_i i len tgt hf
  obtain ⟨hmid, hd, hln, htg, hck⟩ := fx_fet hf
  intro H locs ls hlen hH hS hL
  dsimp only at hlen hH hL ⊢
  have hsize : (F0 m pc ls (st.map (mm_tv (mm_ad base b t)))).locals.size = mi_l (mm_of mid) := by rw [← hlen]; exact hL.1
  have hS0 : CallFix p m c (mm_bb mid) (mi_l (mm_of mid)) s args mm_ws (mm_on (mi_c (mm_of mid))) := ⟨hx, hb, hml, hown, hts⟩
  have pre : ∀ U : State, U.heap = H → s.WarmedH U.vm → mm_Pc D cy base b t Ls xs ps h av (av.map (mm_tv (mm_ad base b t))).toArray U := fun U hU hW => ⟨rfl, G.moved hW (locs := locs) (by rw [hU]; exact hS), by rw [hU]; exact hH⟩
  rcases mm_stp_out h1 with rfl | rfl | rfl | ⟨k9, rfl, hi⟩ | ⟨k9, rfl, hi⟩ | ⟨k9, rfl, hi⟩
  · exfalso; unfold mm_stp at h1; dsimp only at h1; repeat' (first | (cases h1; done) | (split at h1))
  · exfalso; unfold mm_stp at h1; dsimp only at h1; repeat' (first | (cases h1; done) | (split at h1))
  · exfalso; unfold mm_stp at h1; dsimp only at h1; repeat' (first | (cases h1; done) | (split at h1))
  · obtain ⟨hm, hcc⟩ := mm_inv_call hi
    simp only [ck_i1, hm, Bool.and_eq_true, decide_eq_true_eq] at hck
    have hm2 : m2 < 178 := Nat.le_of_ble_eq_true hck.1.1
    have hni : mm_ini m2 = false := by simpa using hck.1.2
    obtain ⟨q, hq⟩ := fx_mth hm
    rcases hcc with ⟨h9, -⟩ | ⟨hs9, -, rb, r, hdr, hkb, hfit, rfl, rfl⟩
    · omega
    obtain ⟨f1, f2, f3, f4, f5⟩ := mm_fit_use hfit
    obtain ⟨yd, yc, -, yi⟩ := mm_yfacts hm2
    obtain ⟨yi1, -, yi3⟩ := yi hs9
    have hml2 : Jvm.Cond.methodLink (mm_on (mi_c (mm_of mid))) k9 (mm_yy m2) ∈ mm_ws := by
      rcases mm_m1_gen hq hm2 with h9 | ⟨h9, -⟩
      · exact h9
      · rw [hni] at h9; cases h9
    obtain rfl : len = 3 := by simpa [mm_ln] using hln
    have hst : st = st.take (mi_n (mm_of m2)) ++ .ref rb :: r := by rw [← hdr, List.take_append_drop]
    have hnl : (st.take (mi_n (mm_of m2))).length = mi_n (mm_of m2) := by
      rw [List.length_take]
      have : (st.drop (mi_n (mm_of m2))).length = r.length + 1 := by rw [hdr]; rfl
      rw [List.length_drop] at this
      omega
    have hM := mm_met hs hm2 hrun hsl
    have hcls8 : mi_c (mm_of m2) ≤ 8 := mm_inst8 m2 hm2 hs9
    have hrecv : ∃ cellB : Cell, H[mm_ad base b t rb]? = some cellB ∧ cellB.vm.isStatics = false ∧ s.vm.findClass (mm_yy m2).cls = some cellB.cls := by
      obtain ⟨-, -, -, hget⟩ := hH.mem (a := rb) (by omega)
      rw [mm_ce_ob (by omega)] at hget
      obtain ⟨T, hT, -⟩ := fx_cls (ci := hK h rb) (by omega)
      have := va_recv G.1.2.1 hH.2.2.2 hT hget
      rw [yc, ← hkb]
      exact this
    refine mm_ofRun (rest := r.map (mm_tv (mm_ad base b t))) (va_runV (y := mm_yy m2) (n := mi_n (mm_of m2)) (C := (mm_yy m2).cls) (b := mm_ad base b t rb) (As := (st.take (mi_n (mm_of m2))).reverse.map (mm_tv (mm_ad base b t))) hS0 hM ⟨callB_of (mi_n (mm_of m2)) hts (mm_good hm2) rfl rfl rfl (by rw [yc]; exact hts _ (mm_initd m2 hm2)) (hts _ hml2) yd ⟨by rw [hR1]; exact f1, by rw [hR2]; exact f2⟩, hts _ yi1, hts _ (yi3 hni)⟩ ⟨mm_blind, hrecv, pre⟩ rfl (by rw [List.length_map, List.length_reverse, hnl]) hsize ?_ (by rw [mm_tv_cats]; show 2 * 0 + mm_cat r ≤ 8; omega) hd ⟨by rw [hR3]; exact f4, by rw [hR4]; exact f5⟩) hS (fun H1 locs1 hH1 hS1 => ?_)
    · show st.map (mm_tv (mm_ad base b t)) = _
      rw [← List.map_reverse, List.reverse_reverse]
      conv => lhs; rw [hst]
      rw [List.map_append]
      rfl
    · have := k H1 locs1 ls hlen hH1 hS1 hL
      rw [← List.map_append]
      exact this
  · obtain ⟨hm, hcc⟩ := mm_inv_call hi
    simp only [ck_i1, hm, Bool.and_eq_true, Bool.or_eq_true, decide_eq_true_eq] at hck
    obtain ⟨q, hq⟩ := fx_mth hm
    rcases hcc with ⟨h9, h10, -⟩ | ⟨hs9, -, rb, r, hdr, hkb, hfit, rfl, rfl⟩
    · cases h10
    rcases hck with hck | hck
    · have : m2 = 900 := Nat.eq_of_beq_eq_true hck
      subst this
      have hz : mi_mc (mm_of 900) = 0 := rfl
      exfalso
      exact mm_ex900 (show mm_ex n 900 _ = some _ from hrun)
    have hm2 : m2 < 178 := Nat.le_of_ble_eq_true hck.1.1
    have hni : mm_ini m2 = true := hck.1.2
    obtain ⟨f1, f2, f3, f4, f5⟩ := mm_fit_use hfit
    obtain ⟨yd, yc, -, yi⟩ := mm_yfacts hm2
    obtain ⟨yi1, yi2, -⟩ := yi hs9
    obtain ⟨yn, yr⟩ := yi2 hni
    obtain rfl : len = 3 := by simpa [mm_ln] using hln
    have hst : st = st.take (mi_n (mm_of m2)) ++ .ref rb :: r := by rw [← hdr, List.take_append_drop]
    have hnl : (st.take (mi_n (mm_of m2))).length = mi_n (mm_of m2) := by
      rw [List.length_take]
      have : (st.drop (mi_n (mm_of m2))).length = r.length + 1 := by rw [hdr]; rfl
      rw [List.length_drop] at this
      omega
    have hM := mm_met hs hm2 hrun hsl
    have hcw : mm_cw m2 = .code (mm_yy m2) (mm_bb m2) (mi_l (mm_of m2)) none := by unfold mm_cw; rw [yr]; rfl
    have hstk : st.map (mm_tv (mm_ad base b t)) = ((st.take (mi_n (mm_of m2))).reverse.map (mm_tv (mm_ad base b t))).reverse ++ .ref (mm_ad base b t rb) :: r.map (mm_tv (mm_ad base b t)) := by
      rw [← List.map_reverse, List.reverse_reverse]
      conv => lhs; rw [hst]
      rw [List.map_append]
      rfl
    have hk9 : ∀ H1 locs1, mm_H D cy base b t Ls xs ps h2 H1 → va_S (mm_A base) s.heap H1 locs1 → W p l e R s m args below meth c H1 locs1 (cu + mi_mc (mm_of m2)) (su + mi_ms (mm_of m2)) Q (F0 m (pc + 3) ls ((v.toList.map (mm_tv (mm_ad base b t))) ++ r.map (mm_tv (mm_ad base b t)))) := fun H1 locs1 hH1 hS1 => by
      have := k H1 locs1 ls hlen hH1 hS1 hL
      rw [← List.map_append]
      exact this
    rcases mm_m1_gen hq hm2 with h9 | ⟨-, h9⟩
    · exact mm_ofRun (rest := r.map (mm_tv (mm_ad base b t))) (va_runI (y := mm_yy m2) (n := mi_n (mm_of m2)) (b := mm_ad base b t rb) (As := (st.take (mi_n (mm_of m2))).reverse.map (mm_tv (mm_ad base b t))) hS0 hM (cwI (mi_n (mm_of m2)) hts (mm_good hm2) (by rw [hcw]) rfl rfl (by rw [yc]; exact hts _ (mm_initd m2 hm2)) (hts _ h9) (hts _ yi1) yn yd ⟨by rw [hR1]; exact f1, by rw [hR2]; exact f2⟩) ⟨mm_blind, pre⟩ rfl (by rw [List.length_map, List.length_reverse, hnl]) hsize hstk (by rw [mm_tv_cats]; show 2 * 0 + mm_cat r ≤ 8; omega) hd ⟨by rw [hR3]; exact f4, by rw [hR4]; exact f5⟩) hS hk9
    · exact mm_ofRun (rest := r.map (mm_tv (mm_ad base b t))) (va_runIN (y := mm_yy m2) (n := mi_n (mm_of m2)) (b := mm_ad base b t rb) (As := (st.take (mi_n (mm_of m2))).reverse.map (mm_tv (mm_ad base b t))) hS0 hM ⟨va_cnB (mi_n (mm_of m2)) hts (mm_good hm2) (by rw [hcw]) rfl rfl (G.2.2 _ h9 rfl) (by rw [yc]; exact hts _ (mm_initd m2 hm2)) yd ⟨by rw [hR1]; exact f1, by rw [hR2]; exact f2⟩, yn, hts _ yi1⟩ ⟨mm_blind, pre⟩ rfl (by rw [List.length_map, List.length_reverse, hnl]) hsize hstk (by rw [mm_tv_cats]; show 2 * 0 + mm_cat r ≤ 8; omega) hd ⟨by rw [hR3]; exact f4, by rw [hR4]; exact f5⟩) hS hk9
  · obtain ⟨hm, hcc⟩ := mm_inv_call hi
    simp only [ck_i1, hm, Bool.and_eq_true, Bool.or_eq_true, decide_eq_true_eq] at hck
    obtain ⟨q, hq⟩ := fx_mth hm
    rcases hcc with ⟨hs9, -, hnn, hfit, rfl, rfl⟩ | ⟨h9, h10, -⟩
    · have hm2 : m2 < 178 := by
        rcases hck with (hck | hck) | hck
        · have : m2 = 901 := Nat.eq_of_beq_eq_true hck
          subst this
          cases hs9
        · have : m2 = 902 := Nat.eq_of_beq_eq_true hck
          subst this
          cases hs9
        · exact Nat.le_of_ble_eq_true hck.1
      obtain ⟨f1, f2, f3, f4, f5⟩ := mm_fit_use hfit
      obtain ⟨yd, yc, ys, -⟩ := mm_yfacts hm2
      have hni : mm_ini m2 = false := by
        cases hn : mm_ini m2 with
        | false => rfl
        | true => have := mm_ini_s m2 hm2 hn; omega
      have hml2 : Jvm.Cond.methodLink (mm_on (mi_c (mm_of mid))) k9 (mm_yy m2) ∈ mm_ws := by
        rcases mm_m1_gen hq hm2 with h9 | ⟨h9, -⟩
        · exact h9
        · rw [hni] at h9; cases h9
      obtain rfl : len = 3 := by simpa [mm_ln] using hln
      have hM := mm_met hs hm2 hrun hsl
      refine mm_ofRun (rest := (st.drop (mi_n (mm_of m2))).map (mm_tv (mm_ad base b t))) (va_runS (y := mm_yy m2) (n := mi_n (mm_of m2)) (As := (st.take (mi_n (mm_of m2))).reverse.map (mm_tv (mm_ad base b t))) hS0 hM ⟨callB_of (mi_n (mm_of m2)) hts (mm_good hm2) rfl rfl rfl (by rw [yc]; exact hts _ (mm_initd m2 hm2)) (hts _ hml2) yd ⟨by rw [hR1]; exact f1, by rw [hR2]; exact f2⟩, hts _ (ys hs9)⟩ ⟨mm_blind, pre⟩ rfl (by simp; omega) hsize ?_ (by rw [mm_tv_cats]; show 2 * 0 + mm_cat _ ≤ 8; omega) hd ⟨by rw [hR3]; exact f4, by rw [hR4]; exact f5⟩) hS (fun H1 locs1 hH1 hS1 => ?_)
      · show st.map (mm_tv (mm_ad base b t)) = _
        rw [← List.map_reverse, List.reverse_reverse, ← List.map_append, List.take_append_drop]
      · have := k H1 locs1 ls hlen hH1 hS1 hL
        rw [← List.map_append]
        exact this
    · cases h10
/-- runs are sound -/
theorem mm_sound (l : Launch) : ∀ n, mm_snd D cy base b t Ls xs ps l n
  | 0 => by
    intro mid p e R s m args below meth c Q x r h' B G hx
    cases hx
  | n + 1 => by
    intro mid p e R s m args below meth c Q x r h' B G hx hcu hsu hret
    obtain ⟨pc, L, st, h, cu, su⟩ := x
    rw [mm_ex] at hx
    dsimp only at hx hcu hsu
    split at hx
    · cases hx
    · rename_i x' h1
      have hc := mm_cu_step h1 hcu hsu
      exact mm_step B G h1 ⟨hcu, hsu⟩ (mm_sound l n mid p e R s m args below meth c Q x' r h' B G hx hc.1 hc.2 hret)
    · rename_i r1 h1
      cases hx
      exact hret pc L st h cu su h1 hcu hsu
    · rename_i m2 av x' h1
      cases hb : Nat.ble (mm_slots av).length (mi_l (mm_of m2)) with
      | false => rw [hb] at hx; cases hx
      | true =>
        rw [hb] at hx
        simp only [cond_true] at hx
        split at hx
        · cases hx
        · rename_i v h2 hrun
          have hc := mm_cu_call h1
          exact mm_call (mm_sound l n) B G h1 (Nat.le_of_ble_eq_true hb) hrun (mm_sound l n mid p e R s m args below meth c Q _ r h' B G hx hc.1 hc.2 hret)
end CALL
end
section
def R_law : String := "DrawnToldLaw"
def lw_P (b : Addr) (xs : List Int32) (args : Array Value) (s : State) : Prop := args = #[.ref b] ∧ s.IntsAt b xs ∧ xs.length ≤ 2560 ∧ (Jvm.Cond.and given_1 narrow_1).before args s = true
def lw_Q (_ : Array Value) (s : State) (o : Outcome) (t : State) : Prop := o = .returned (some (.int 1)) ∧ Framed s o t [] 600000 7302250
def lw_Z (below : List Frame) (a : Array Value) (s : State) : State → Prop := fun t => ∃ o, t.status = .running ∧ Ended t below o ∧ lw_Q a s o t
/-- the law's own end, with 1 on the stack, nothing written that was there before, its room as the claim has it -/
theorem lw_ret {p : Program} {l : Launch} {e : Env} {s : State} {m : MethodId} {below : List Frame} {meth : Method} {c : Code} {b : Nat} (hx : p.tables.exec = Jvm.exec) (hb : c.code = code) (hr : meth.sig.returnType = ret) (hlocks : meth.locks = false) {pc : Nat} {H : Heap} {ls : Array Slot} (hdg : decode code pc = .ok (.ireturn, 1)) : W p l e room_1 s m #[Value.ref b] below meth c H [] 600000 7302250 (lw_Z below #[Value.ref b] s) (F0 m pc ls [.int 1]) := by
  intro T hT X
  obtain ⟨fs, hret, hrun, hended, hW, hframe⟩ := X.leave (v := some (.int 1)) (hlocks := hlocks) (fun h => by rw [hr] at h; cases h)
  have hmeth' : T.vm.method? m = some meth := X.method'
  refine ⟨T.setFrames fs, ?_, .returned (some (.int 1)), hrun, hended, rfl, ⟨_, rfl⟩, hW, hframe⟩
  jvm_step X.here [X.here.top, hx, hb, hdg, hmeth', hr, ret, narrow_b1]
  (try refine ⟨rfl, ?_⟩); (try refine ⟨rfl, ?_⟩)
  first | (intro acts; rw [hret _ acts rfl rfl rfl]) | rw [hret _ _ rfl rfl rfl]
  exact Steps.refl _
/-- what holds at the law's entry: the machine, the code, the tables' words (any of lw_tbl by 'hts w (by decide +kernel)'), the script of L ints xs at the cell b, what the Statement gives of the start (any of its parts by flat_of_before) -/
def lw_At (p : Program) (s : State) (m : MethodId) (meth : Method) (c : Code) (b L : Nat) (xs : Nat → Int32) : Prop :=
  p.tables.exec = Jvm.exec ∧ c.code = code ∧ meth.sig.returnType = ret ∧ c.maxLocals = 4 ∧ s.vm.findClass R_law = some m.cls ∧ (∀ w ∈ lw_tbl, w.before #[Value.ref b] s = true) ∧ va_X b L xs s s.heap ∧ b < s.heap.size ∧ meth.locks = false ∧ (Jvm.Cond.and given_1 narrow_1).before #[Value.ref b] s = true
/-! THE LAW'S START OUT OF A RUN OF THE MINI-MACHINE -/
def mm_ps (j : Nat) : Int64 := match j with
  | 0 => 2147483647
  | 1 => 2147483629
  | 2 => 2147483587
  | 3 => 2147483579
  | 4 => 2147483563
  | _ => 2147483549
/-- the heap at the law's start -/
def mm_h0 (L : Nat) (xs : Nat → Int32) : MH := (fun a j => if a = 0 then xs j else 0, fun a j => if a = 1 then mm_ps j else 0, fun _ _ => none, fun a => if a = 0 then 20 else if a = 1 then 21 else 99, fun a => if a = 0 then L else if a = 1 then 6 else 0, 2)
/-- on every script the mini-machine's law answers 1 -/
def mm_law : Prop := ∀ (L : Nat) (xs : Nat → Int32), L ≤ 2560 → ∃ (n : Nat) (h' : MH), mm_ex n m_La_law (0, mm_ent m_La_law [.ref 0], [], mm_h0 L xs, 0, 0) = some (some (.int 1), h')
theorem mm_arr0 {s : State} {args : Array Value} {ty : FieldType} (h : (Jvm.Cond.arrayClass ty).before args s = true) (hno : ∀ C, ty ≠ .object C) : ∃ cA : ClassId, ArrOfT s cA ty ∧ va_RA s cA ty := by
  obtain ⟨cB, kB, comp, hcB, hkB, hkind⟩ := Cond.arrayClass_spec h
  refine ⟨cB, fun n z => ⟨(fun k h => by cases h), kB, hkB, comp, hkind⟩, ?_⟩
  cases ty with
  | object C => exact absurd rfl (hno C)
  | _ => exact hcB
theorem mm_arr1 {s : State} {args : Array Value} {C : String} (h : (Jvm.Cond.arrayOver (.object C)).before args s = true) : ∃ cA : ClassId, ArrOfT s cA (.object C) ∧ va_RA s cA (.object C) := by
  obtain ⟨comp, c', k, f1, f2, f3, f4, f5⟩ := Cond.arrayOver_spec h
  exact ⟨c', fun n z => ⟨(fun k h => by cases h), k, f3, comp, f4⟩, k, comp, f3, f4, f1, f5⟩
theorem mm_arr2 {s : State} {args : Array Value} {ty : FieldType} (h : (Jvm.Cond.arrayOver (.array ty)).before args s = true) : ∃ cA : ClassId, ArrOfT s cA (.array ty) ∧ va_RA s cA (.array ty) := by
  obtain ⟨comp, c', k, f1, f3, f4, f5⟩ := Cond.arrayOver_specA h
  exact ⟨c', fun n z => ⟨(fun k h => by cases h), k, f3, comp, f4⟩, f5⟩
theorem mm_known {s : State} {args : Array Value} (hts0 : ∀ w ∈ lw_tbl, w.before args s = true) : ∃ (D : va_G) (cy : Nat → ClassId), va_K D mm_C (mm_tys cy) s := by
  have hts : ∀ w ∈ tables_1, w.before args s = true := fun w hw => hts0 w (List.mem_append_right _ hw)
  have hcl : ∀ ci : Nat, ∃ (cC : ClassId) (iS : Nat → Nat), ∀ q : vw_C, mm_C[ci]? = some q → u_Kn s q.1 q.2.1 q.2.2 cC iS := by
    intro ci
    by_cases h : ci ≤ 8
    · obtain ⟨T, hT, hin, -⟩ := fx_cls h
      have hck := List.all_eq_true.mp ck_n1 ci (List.mem_range.mpr (by omega))
      simp only [Bool.and_eq_true, decide_eq_true_eq] at hck
      obtain ⟨cC, iS, hk⟩ := u_known (ws := mm_ws) (C := mm_on ci) (T := T) (N := mm_cN ci) (fun w hw => hts0 w (List.mem_filter.mp hw).1) hin (hts _ hck.1)
      exact ⟨cC, iS, fun q hq => by rw [hT] at hq; cases hq; exact hk⟩
    · exact ⟨0, fun _ => 0, fun q hq => by rw [List.getElem?_eq_none (by show mm_C.length ≤ ci; have : mm_C.length = 9 := rfl; omega)] at hq; cases hq⟩
  obtain ⟨c9, a9⟩ := mm_arr0 (hts _ ck_a1.1) (fun C h => by cases h)
  obtain ⟨c10, a10⟩ := mm_arr0 (hts _ ck_a1.2.1) (fun C h => by cases h)
  obtain ⟨c11, a11⟩ := mm_arr0 (hts _ ck_a1.2.2.1) (fun C h => by cases h)
  obtain ⟨c12, a12⟩ := mm_arr1 (hts _ ck_a1.2.2.2.1)
  obtain ⟨c13, a13⟩ := mm_arr1 (hts _ ck_a1.2.2.2.2.1)
  obtain ⟨c14, a14⟩ := mm_arr2 (hts _ ck_a1.2.2.2.2.2.1)
  obtain ⟨c15, a15⟩ := mm_arr2 (hts _ ck_a1.2.2.2.2.2.2)
  refine ⟨(fun ci => (hcl ci).choose, fun ci => (hcl ci).choose_spec.choose), fun k => match k with
    | 9 => c9
    | 10 => c10
    | 11 => c11
    | 12 => c12
    | 13 => c13
    | 14 => c14
    | _ => c15, fun c q hq => (hcl c).choose_spec.choose_spec q hq, fun k q hk => ?_⟩
  have hk7 : k < 7 := (List.getElem?_eq_some_iff.mp hk).1
  have : k = 0 ∨ k = 1 ∨ k = 2 ∨ k = 3 ∨ k = 4 ∨ k = 5 ∨ k = 6 := by omega
  rcases this with rfl | rfl | rfl | rfl | rfl | rfl | rfl <;> cases hk
  · exact a9
  · exact a10
  · exact a11
  · exact a12
  · exact a13
  · exact a14
  · exact a15
theorem mm_eq_long {args : Array Value} {s : State} {tm : Term} {v : Int64} (h : (Jvm.Cond.eq tm (.long v)).before args s = true) : tm.eval args s none [] s = some (.long v) := by
  have h2 : (Term.long v).eval args s none [] s = some (.long v) := rfl
  simp only [Cond.before, Cond.holds, Cond.value, h2, beq_iff_eq] at h
  split at h <;> simp_all
theorem mm_eq_int {args : Array Value} {s : State} {tm : Term} {v : Int32} (h : (Jvm.Cond.eq tm (.int v)).before args s = true) : tm.eval args s none [] s = some (.int v) := by
  have h2 : (Term.int v).eval args s none [] s = some (.int v) := rfl
  simp only [Cond.before, Cond.holds, Cond.value, h2, beq_iff_eq] at h
  split at h <;> simp_all
/-- the law's walk -/
theorem mm_start {p : Program} {e : Env} {s : State} {m : MethodId} {below : List Frame} {meth : Method} {c : Code} (l : Launch) {b L : Nat} {xs : Nat → Int32} (hL : L ≤ 2560) (hlaw : mm_law) (C0 : lw_At p s m meth c b L xs) : W p l e room_1 s m #[Value.ref b] below meth c s.heap [] 0 0 (lw_Z below #[Value.ref b] s) (entryFrame m ([Value.ref b] : List Value).toArray 4) := by
  obtain ⟨hx, hb, hr, hml, hown, hts, hX, hbl, hlocks, hgv⟩ := C0
  have ht1 : ∀ w ∈ tables_1, w.before #[Value.ref b] s = true := fun w hw => hts w (List.mem_append_right _ hw)
  obtain ⟨D, cy, hVK⟩ := mm_known hts
  have hA : ∀ a : Nat, a < s.heap.size → ¬ mm_A s.heap.size a := fun a ha hq => by unfold mm_A at hq; omega
  have hfl := flat_of_before _ hgv
  have hel : ∀ j : Nat, j < 6 → (Term.elem (.static "DrawnTold" "PRIMES" "[J") (.int (Int32.ofNat j))).eval #[Value.ref b] s none [] s = some (.long (mm_ps j)) := by
    intro j hj
    have : j = 0 ∨ j = 1 ∨ j = 2 ∨ j = 3 ∨ j = 4 ∨ j = 5 := by omega
    rcases this with rfl | rfl | rfl | rfl | rfl | rfl
    · exact mm_eq_long (hfl _ (by decide +kernel))
    · exact mm_eq_long (hfl _ (by decide +kernel))
    · exact mm_eq_long (hfl _ (by decide +kernel))
    · exact mm_eq_long (hfl _ (by decide +kernel))
    · exact mm_eq_long (hfl _ (by decide +kernel))
    · exact mm_eq_long (hfl _ (by decide +kernel))
  obtain ⟨t, htv, hT⟩ := va_Tof (ty := .long) (N := 6) (f := fun j => .long (mm_ps j)) (A := mm_A s.heap.size) (tm := .static "DrawnTold" "PRIMES" "[J") (by decide) (hfl _ (by decide +kernel)) (mm_eq_int (hfl (Jvm.Cond.eq (.length (.static "DrawnTold" "PRIMES" "[J")) (.int 6)) (by decide +kernel))) hel hA
  have hZ : va_Z "DrawnTold" "PRIMES" "[J" (.ref t) (mm_A s.heap.size) s s.heap := va_Zref (ht1 _ ck_o1.2.2.2.2.1) (ht1 _ ck_o1.2.2.2.2.2) htv hA
  have G : mm_X2 D cy s.heap.size b t L xs mm_ps s := ⟨⟨⟨hbl, Nat.le_refl _⟩, hVK, hX, hZ, hT⟩, fun ty hty => ht1 _ hty, fun w hw hn => by
    have h4 := ht1 w hw
    cases w <;> first | exact va_Nw.of rfl h4 | (exact absurd hn (by simp [mm_isN]))⟩
  have B : mm_B 178 p room_1 s m #[Value.ref b] meth c := ⟨⟨hx, hb, hml, hown, fun w hw => hts w (List.mem_filter.mp hw).1⟩, (fun h => by cases h), rfl, rfl, rfl, rfl⟩
  obtain ⟨n, h', hrun⟩ := hlaw L xs hL
  have hH : mm_H D cy s.heap.size b t L xs mm_ps (mm_h0 L xs) s.heap := by
    refine ⟨⟨Nat.le_refl 2, rfl⟩, ⟨rfl, rfl, fun a ha => ?_, fun a h2 ha => ?_⟩, ⟨rfl, rfl, rfl, rfl⟩, fun k q hq => by cases hq⟩
    · have ha' : 2 ≤ a := ha
      show (if a = 0 then 20 else if a = 1 then 21 else 99) = 99
      rw [if_neg (by omega), if_neg (by omega)]
    · have ha' : a < 2 := ha
      omega
  rw [lg_entry_eq]
  have hl := lv_entry (([.ref 0] : List Value).map (mm_tv (mm_ad s.heap.size b t))) (n := 4) (Nat.le_of_ble_eq_true rfl)
  have e0 : ([Value.ref b] : List Value) = ([.ref 0] : List Value).map (mm_tv (mm_ad s.heap.size b t)) := rfl
  rw [e0]
  generalize (lg_sl (([.ref 0] : List Value).map (mm_tv (mm_ad s.heap.size b t))) ++ List.replicate (4 - (lg_sl (([.ref 0] : List Value).map (mm_tv (mm_ad s.heap.size b t)))).length) Slot.unset).toArray = ls at hl ⊢
  refine mm_sound l n 178 p e room_1 s m _ below meth c _ (0, mm_ent m_La_law [.ref 0], [], mm_h0 L xs, 0, 0) (some (.int 1)) h' B G hrun (Nat.zero_le _) (Nat.zero_le _) ?_ s.heap [] ls rfl hH va_S.rf (mm_ent_Lr (mid := 178) (Nat.le_of_ble_eq_true rfl) hl)
  intro pc L1 st g cu su h1 hcu hsu H locs ls hlen1 hH1 hS1 hL1
  unfold mm_one at h1
  split at h1
  case h_2 => cases h1
  rename_i i len tgt hf
  obtain ⟨-, hd, hln, -, -⟩ := fx_fet hf
  dsimp only at hlen1 hH1 hL1 ⊢
  refine va_forget (fun q hq => hS1.2.2 q hq) ?_
  refine W.widen (k := 600000) (n := 7302250) hcu hsu ?_
  rcases mm_stp_out h1 with rfl | rfl | rfl | ⟨k, rfl, h2⟩ | ⟨k, rfl, h2⟩ | ⟨k, rfl, h2⟩
  · unfold mm_stp at h1
    dsimp only at h1
    split at h1
    case h_2 => cases h1
    split at h1
    case isFalse => cases h1
    cases h1
    obtain rfl : len = 1 := by simpa [mm_ln] using hln
    exact lw_ret hx hb hr hlocks hd
  · exfalso; unfold mm_stp at h1; dsimp only at h1; repeat' (first | (cases h1; done) | (split at h1))
  · exfalso; unfold mm_stp at h1; dsimp only at h1; repeat' (first | (cases h1; done) | (split at h1))
  · exact absurd h2 mm_inv_no
  · exact absurd h2 mm_inv_no
  · exact absurd h2 mm_inv_no
end
section
/-! RUNS, BY RULES -/
def RN (mid : Nat) (x : MS) (R : MR) : Prop := ∃ n, mm_ex n mid x = some R
def EV (mid : Nat) (av : List Value) (h : MH) (r : Option Value) (h' : MH) : Prop := RN mid (0, mm_ent mid av, [], h, 0, 0) (r, h')
theorem mm_ex_succ : ∀ (n mid : Nat) (x : MS) (R : MR), mm_ex n mid x = some R → mm_ex (n + 1) mid x = some R
  | 0, _, _, _, h => by cases h
  | n + 1, mid, x, R, h => by
    rw [mm_ex] at h ⊢
    split at h
    · cases h
    · rename_i s' e
      exact mm_ex_succ n mid s' R h
    · rename_i r e
      exact h
    · rename_i m2 av s' e
      cases hb : Nat.ble (mm_slots av).length (mi_l (mm_of m2)) with
      | false => rw [hb] at h; cases h
      | true =>
        rw [hb] at h
        simp only [cond_true] at h ⊢
        split at h
        · cases h
        · rename_i v h' e2
          rw [mm_ex_succ n m2 _ _ e2]
          exact mm_ex_succ n mid _ R h
theorem mm_ex_mono {n k mid : Nat} {x : MS} {R : MR} (h : mm_ex n mid x = some R) : mm_ex (n + k) mid x = some R := by
  induction k with
  | zero => exact h
  | succ k ih => exact mm_ex_succ _ _ _ _ ih
theorem mm_ex_le {n k mid : Nat} {x : MS} {R : MR} (h : mm_ex n mid x = some R) (hk : n ≤ k) : mm_ex k mid x = some R := by
  obtain ⟨j, rfl⟩ : ∃ j, k = n + j := ⟨k - n, by omega⟩
  exact mm_ex_mono h
theorem RN.st {mid pc : Nat} {L : ML} {st : List Value} {h : MH} {cu su : Nat} {x' : MS} {R : MR} (e : mm_one mid pc L st h cu su = some (.inl x')) (k : RN mid x' R) : RN mid (pc, L, st, h, cu, su) R := by
  obtain ⟨n, hn⟩ := k
  refine ⟨n + 1, ?_⟩
  rw [mm_ex]
  dsimp only
  rw [e]
  exact hn
theorem RN.ret {mid pc : Nat} {L : ML} {st : List Value} {h : MH} {cu su : Nat} {R : MR} (e : mm_one mid pc L st h cu su = some (.inr (.inl R))) : RN mid (pc, L, st, h, cu, su) R := by
  refine ⟨1, ?_⟩
  rw [mm_ex]
  dsimp only
  rw [e]
theorem RN.call {mid pc : Nat} {L : ML} {st : List Value} {h : MH} {cu su m2 : Nat} {av : List Value} {x' : MS} {v : Option Value} {h2 : MH} {R : MR} (e : mm_one mid pc L st h cu su = some (.inr (.inr (m2, av, x')))) (hb : Nat.ble (mm_slots av).length (mi_l (mm_of m2)) = true) (hev : EV m2 av x'.2.2.2.1 v h2) (k : RN mid (x'.1, x'.2.1, v.toList ++ x'.2.2.1, h2, x'.2.2.2.2.1, x'.2.2.2.2.2) R) : RN mid (pc, L, st, h, cu, su) R := by
  obtain ⟨n, hn⟩ := k
  obtain ⟨n2, hn2⟩ := hev
  refine ⟨n + n2 + 1, ?_⟩
  rw [mm_ex]
  dsimp only
  rw [e]
  dsimp only
  rw [hb]
  simp only [cond_true]
  rw [mm_ex_le hn2 (by omega)]
  exact mm_ex_le hn (by omega)
theorem RN.br {mid pc : Nat} {L : ML} {st : List Value} {h : MH} {cu su : Nat} {c : Prop} [Decidable c] {a b : MS} {R : MR} (e : mm_one mid pc L st h cu su = if c then some (.inl a) else some (.inl b)) (k1 : c → RN mid a R) (k2 : ¬ c → RN mid b R) : RN mid (pc, L, st, h, cu, su) R := by
  by_cases hc : c
  · rw [if_pos hc] at e
    exact RN.st e (k1 hc)
  · rw [if_neg hc] at e
    exact RN.st e (k2 hc)
/-- a step that asks for something first -/
theorem RN.ok {mid pc : Nat} {L : ML} {st : List Value} {h : MH} {cu su : Nat} {c : Prop} [Decidable c] {a : MS} {R : MR} (hc : c) (e : mm_one mid pc L st h cu su = if c then some (.inl a) else none) (k : RN mid a R) : RN mid (pc, L, st, h, cu, su) R := by
  rw [if_pos hc] at e
  exact RN.st e k
def icP (c : ClassFile.Cond) (x y : Int32) : Prop := match c with
  | .eq => x = y
  | .ne => ¬ x = y
  | .lt => x < y
  | .ge => y ≤ x
  | .gt => y < x
  | .le => x ≤ y
theorem icP_iff {c : ClassFile.Cond} {x y : Int32} : mm_ic c x y = true ↔ icP c x y := by
  cases c <;> simp [mm_ic, icP]
section RULES
variable {mid pc : Nat} {L : ML} {st : List Value} {h : MH} {cu su : Nat} {R : MR}
theorem mm_one_of {i : Instr} {len tgt : Nat} (hf : mm_fet mid pc = some (i, len, tgt)) : mm_one mid pc L st h cu su = mm_stp mid i len tgt pc L st h cu su := by
  unfold mm_one
  rw [hf]
theorem RN.ict {c : ClassFile.Cond} {off : Int} {tgt : Nat} {x y : Int32} (hf : mm_fet mid pc = some (.if_icmp c off, 3, tgt)) (hc : icP c x y) (k : RN mid (tgt, L, st, h, cu, su) R) : RN mid (pc, L, .int y :: .int x :: st, h, cu, su) R := by
  refine RN.st ?_ k
  rw [mm_one_of hf]
  show (if mm_ic c x y = true then _ else _) = _
  rw [if_pos (icP_iff.mpr hc)]
  rfl
theorem RN.icf {c : ClassFile.Cond} {off : Int} {tgt : Nat} {x y : Int32} (hf : mm_fet mid pc = some (.if_icmp c off, 3, tgt)) (hc : ¬ icP c x y) (k : RN mid (pc + 3, L, st, h, cu, su) R) : RN mid (pc, L, .int y :: .int x :: st, h, cu, su) R := by
  refine RN.st ?_ k
  rw [mm_one_of hf]
  show (if mm_ic c x y = true then _ else _) = _
  rw [if_neg (fun z => hc (icP_iff.mp z))]
  rfl
theorem RN.ift {c : ClassFile.Cond} {off : Int} {tgt : Nat} {x : Int32} (hf : mm_fet mid pc = some (.ifCond c off, 3, tgt)) (hc : icP c x 0) (k : RN mid (tgt, L, st, h, cu, su) R) : RN mid (pc, L, .int x :: st, h, cu, su) R := by
  refine RN.st ?_ k
  rw [mm_one_of hf]
  show (if mm_ic c x 0 = true then _ else _) = _
  rw [if_pos (icP_iff.mpr hc)]
  rfl
theorem RN.iff {c : ClassFile.Cond} {off : Int} {tgt : Nat} {x : Int32} (hf : mm_fet mid pc = some (.ifCond c off, 3, tgt)) (hc : ¬ icP c x 0) (k : RN mid (pc + 3, L, st, h, cu, su) R) : RN mid (pc, L, .int x :: st, h, cu, su) R := by
  refine RN.st ?_ k
  rw [mm_one_of hf]
  show (if mm_ic c x 0 = true then _ else _) = _
  rw [if_neg (fun z => hc (icP_iff.mp z))]
  rfl
theorem RN.ic {c : ClassFile.Cond} {off : Int} {tgt : Nat} {x y : Int32} (hf : mm_fet mid pc = some (.if_icmp c off, 3, tgt)) (k1 : icP c x y → RN mid (tgt, L, st, h, cu, su) R) (k2 : ¬ icP c x y → RN mid (pc + 3, L, st, h, cu, su) R) : RN mid (pc, L, .int y :: .int x :: st, h, cu, su) R := by
  by_cases hc : icP c x y
  · exact RN.ict hf hc (k1 hc)
  · exact RN.icf hf hc (k2 hc)
theorem RN.i0 {c : ClassFile.Cond} {off : Int} {tgt : Nat} {x : Int32} (hf : mm_fet mid pc = some (.ifCond c off, 3, tgt)) (k1 : icP c x 0 → RN mid (tgt, L, st, h, cu, su) R) (k2 : ¬ icP c x 0 → RN mid (pc + 3, L, st, h, cu, su) R) : RN mid (pc, L, .int x :: st, h, cu, su) R := by
  by_cases hc : icP c x 0
  · exact RN.ift hf hc (k1 hc)
  · exact RN.iff hf hc (k2 hc)
theorem mm_in_nI {k n : Nat} (h : k < n) (hn : n < 2 ^ 31) : mm_in (nI k) n = true := mm_in_iff.mpr (vp_in_nI h hn)
theorem RN.iald {x : Int32} {a k : Nat} (hf : mm_fet mid pc = some (.iaload, 1, 0)) (hx : x = nI k) (hk : hK h a = 9 ∨ hK h a = 20) (hb : k < hL h a) (hl : Nat.ble (hL h a) 2560 = true) (kk : RN mid (pc + 1, L, .int (hI h a k) :: st, h, cu, su) R) : RN mid (pc, L, .int x :: .ref a :: st, h, cu, su) R := by
  subst hx
  refine RN.st ?_ kk
  rw [mm_one_of hf]
  show (if (hK h a = 9 ∨ hK h a = 20) ∧ mm_in (nI k) (hL h a) = true then _ else none) = _
  rw [if_pos ⟨hk, mm_in_nI hb (Nat.lt_of_le_of_lt (Nat.le_of_ble_eq_true hl) (by decide))⟩, nI_clamp (by have := Nat.le_of_ble_eq_true hl; omega)]
  rfl
theorem RN.lald {x : Int32} {a k : Nat} (hf : mm_fet mid pc = some (.laload, 1, 0)) (hx : x = nI k) (hk : hK h a = 10 ∨ hK h a = 21) (hb : k < hL h a) (hl : Nat.ble (hL h a) 2560 = true) (kk : RN mid (pc + 1, L, .long (hJ h a k) :: st, h, cu, su) R) : RN mid (pc, L, .int x :: .ref a :: st, h, cu, su) R := by
  subst hx
  refine RN.st ?_ kk
  rw [mm_one_of hf]
  show (if (hK h a = 10 ∨ hK h a = 21) ∧ mm_in (nI k) (hL h a) = true then _ else none) = _
  rw [if_pos ⟨hk, mm_in_nI hb (Nat.lt_of_le_of_lt (Nat.le_of_ble_eq_true hl) (by decide))⟩, nI_clamp (by have := Nat.le_of_ble_eq_true hl; omega)]
  rfl
theorem RN.bald {x : Int32} {a k : Nat} (hf : mm_fet mid pc = some (.baload, 1, 0)) (hx : x = nI k) (hk : hK h a = 11) (hb : k < hL h a) (hl : Nat.ble (hL h a) 2560 = true) (kk : RN mid (pc + 1, L, .int (hI h a k) :: st, h, cu, su) R) : RN mid (pc, L, .int x :: .ref a :: st, h, cu, su) R := by
  subst hx
  refine RN.st ?_ kk
  rw [mm_one_of hf]
  show (if hK h a = 11 ∧ mm_in (nI k) (hL h a) = true then _ else none) = _
  rw [if_pos ⟨hk, mm_in_nI hb (Nat.lt_of_le_of_lt (Nat.le_of_ble_eq_true hl) (by decide))⟩, nI_clamp (by have := Nat.le_of_ble_eq_true hl; omega)]
  rfl
theorem RN.aald {x : Int32} {a k q : Nat} (hf : mm_fet mid pc = some (.aaload, 1, 0)) (hx : x = nI k) (hk : hK h a = 12 ∨ hK h a = 13 ∨ hK h a = 14 ∨ hK h a = 15) (hb : k < hL h a) (hl : Nat.ble (hL h a) 2560 = true) (hq : hR h a k = some q) (kk : RN mid (pc + 1, L, .ref q :: st, h, cu, su) R) : RN mid (pc, L, .int x :: .ref a :: st, h, cu, su) R := by
  subst hx
  refine RN.st ?_ kk
  rw [mm_one_of hf]
  show (if (hK h a = 12 ∨ hK h a = 13 ∨ hK h a = 14 ∨ hK h a = 15) ∧ mm_in (nI k) (hL h a) = true then _ else none) = _
  rw [if_pos ⟨hk, mm_in_nI hb (Nat.lt_of_le_of_lt (Nat.le_of_ble_eq_true hl) (by decide))⟩, nI_clamp (by have := Nat.le_of_ble_eq_true hl; omega), hq]
  rfl
theorem RN.iast {x v : Int32} {a k : Nat} (hf : mm_fet mid pc = some (.iastore, 1, 0)) (hx : x = nI k) (hk : hK h a = 9) (hb : k < hL h a) (hl : Nat.ble (hL h a) 2560 = true) (kk : RN mid (pc + 1, L, st, putI h a k v, cu, su) R) : RN mid (pc, L, .int v :: .int x :: .ref a :: st, h, cu, su) R := by
  subst hx
  refine RN.st ?_ kk
  rw [mm_one_of hf]
  show (if hK h a = 9 ∧ mm_in (nI k) (hL h a) = true then _ else none) = _
  rw [if_pos ⟨hk, mm_in_nI hb (Nat.lt_of_le_of_lt (Nat.le_of_ble_eq_true hl) (by decide))⟩, nI_clamp (by have := Nat.le_of_ble_eq_true hl; omega)]
  rfl
theorem RN.last {x : Int32} {v : Int64} {a k : Nat} (hf : mm_fet mid pc = some (.lastore, 1, 0)) (hx : x = nI k) (hk : hK h a = 10) (hb : k < hL h a) (hl : Nat.ble (hL h a) 2560 = true) (kk : RN mid (pc + 1, L, st, putJ h a k v, cu, su) R) : RN mid (pc, L, .long v :: .int x :: .ref a :: st, h, cu, su) R := by
  subst hx
  refine RN.st ?_ kk
  rw [mm_one_of hf]
  show (if hK h a = 10 ∧ mm_in (nI k) (hL h a) = true then _ else none) = _
  rw [if_pos ⟨hk, mm_in_nI hb (Nat.lt_of_le_of_lt (Nat.le_of_ble_eq_true hl) (by decide))⟩, nI_clamp (by have := Nat.le_of_ble_eq_true hl; omega)]
  rfl
theorem RN.bast {x v : Int32} {a k : Nat} (hf : mm_fet mid pc = some (.bastore, 1, 0)) (hx : x = nI k) (hk : hK h a = 11) (hb : k < hL h a) (hl : Nat.ble (hL h a) 2560 = true) (hv : v = 0 ∨ v = 1) (kk : RN mid (pc + 1, L, st, putI h a k v, cu, su) R) : RN mid (pc, L, .int v :: .int x :: .ref a :: st, h, cu, su) R := by
  subst hx
  refine RN.st ?_ kk
  rw [mm_one_of hf]
  show (if hK h a = 11 ∧ mm_in (nI k) (hL h a) = true ∧ (v = 0 ∨ v = 1) then _ else none) = _
  rw [if_pos ⟨hk, mm_in_nI hb (Nat.lt_of_le_of_lt (Nat.le_of_ble_eq_true hl) (by decide)), hv⟩, nI_clamp (by have := Nat.le_of_ble_eq_true hl; omega)]
  rfl
theorem RN.aast {x : Int32} {a v k : Nat} (hf : mm_fet mid pc = some (.aastore, 1, 0)) (hx : x = nI k) (hk : (hK h a = 12 ∧ hK h v = 5) ∨ (hK h a = 13 ∧ hK h v = 6) ∨ (hK h a = 15 ∧ hK h v = 10)) (hb : k < hL h a) (hl : Nat.ble (hL h a) 2560 = true) (kk : RN mid (pc + 1, L, st, putR h a k (some v), cu, su) R) : RN mid (pc, L, .ref v :: .int x :: .ref a :: st, h, cu, su) R := by
  subst hx
  refine RN.st ?_ kk
  rw [mm_one_of hf]
  show (if ((hK h a = 12 ∧ hK h v = 5) ∨ (hK h a = 13 ∧ hK h v = 6) ∨ (hK h a = 15 ∧ hK h v = 10)) ∧ mm_in (nI k) (hL h a) = true then _ else none) = _
  rw [if_pos ⟨hk, mm_in_nI hb (Nat.lt_of_le_of_lt (Nat.le_of_ble_eq_true hl) (by decide))⟩, nI_clamp (by have := Nat.le_of_ble_eq_true hl; omega)]
  rfl
end RULES
end
section
/-! THE HEAP BEHIND THE CONSTRUCTORS -/
def hp_k : List Nat := [20, 21, 7, 9, 12, 5, 9, 9, 5, 9, 9, 4, 13, 9, 9, 9, 6, 15, 10, 10, 10, 10, 10, 10, 10, 10, 10, 10, 10, 10, 10, 10, 10, 10, 9, 10, 6, 15, 10, 10, 10, 10, 10, 10, 10, 10, 10, 10, 10, 10, 10, 10, 10, 10, 9, 10, 6, 15, 10, 10, 10, 10, 10, 10, 10, 10, 10, 10, 10, 10, 10, 10, 10, 10, 9, 10, 0, 14, 9, 9, 9, 9, 9, 9, 9, 9, 9, 9, 9, 9, 9, 9, 9, 9, 9, 15, 10, 10, 10, 10, 10, 10, 10, 10, 10, 10, 10, 10, 10, 10, 10, 10, 10, 15, 10, 10, 10, 10, 10, 10, 10, 10, 10, 10, 10, 10, 10, 10, 10, 10, 10, 10, 10, 10, 1, 10, 10, 10, 10, 3, 10, 2, 11, 9, 9, 9, 11, 5, 9, 9, 5, 9, 9, 5, 9, 9, 5, 9, 9, 5, 9, 9, 5, 9, 9, 5, 9, 9, 5, 9, 9, 5, 9, 9, 5, 9, 9, 5, 9, 9, 5, 9, 9, 5, 9, 9, 5, 9, 9, 5, 9, 9, 5, 9, 9, 5, 9, 9, 5, 9, 9, 5, 9, 9, 5, 9, 9, 8, 9, 9, 9, 9, 9, 11, 9, 9, 9, 11, 9, 10, 10, 10, 9, 10, 10, 10, 10, 9]
def hp_l : List Nat := [0, 6, 0, 16, 20, 0, 4, 4, 0, 4, 4, 0, 3, 20, 20, 16, 0, 16, 33, 33, 33, 33, 33, 33, 33, 33, 33, 33, 33, 33, 33, 33, 33, 33, 16, 33, 0, 16, 33, 33, 33, 33, 33, 33, 33, 33, 33, 33, 33, 33, 33, 33, 33, 33, 16, 33, 0, 16, 33, 33, 33, 33, 33, 33, 33, 33, 33, 33, 33, 33, 33, 33, 33, 33, 16, 33, 0, 16, 16, 16, 16, 16, 16, 16, 16, 16, 16, 16, 16, 16, 16, 16, 16, 16, 16, 17, 17, 17, 17, 17, 17, 17, 17, 17, 17, 17, 17, 17, 17, 17, 17, 17, 17, 17, 17, 17, 17, 17, 17, 17, 17, 17, 17, 17, 17, 17, 17, 17, 17, 17, 17, 4, 4, 4, 0, 5, 5, 5, 5, 0, 4, 0, 20, 8, 20, 20, 256, 0, 4, 4, 0, 4, 4, 0, 4, 4, 0, 4, 4, 0, 4, 4, 0, 4, 4, 0, 4, 4, 0, 4, 4, 0, 4, 4, 0, 4, 4, 0, 4, 4, 0, 4, 4, 0, 4, 4, 0, 4, 4, 0, 4, 4, 0, 4, 4, 0, 4, 4, 0, 4, 4, 0, 4, 4, 0, 4, 4, 0, 16, 391, 21, 84, 84, 20, 20, 21, 21, 20, 7, 391, 272, 16, 16, 7, 7, 5, 48, 8]
def hp_r : List (List (Option Nat)) := [[], [], [some 3, none, some 4, none, some 5, some 8, some 11, some 76, some 134, some 141], [], [some 147, some 150, some 153, some 156, some 159, some 162, some 165, some 168, some 171, some 174, some 177, some 180, some 183, some 186, some 189, some 192, some 195, some 198, some 201, some 204], [none, none, none, some 6, some 7], [], [], [none, none, none, some 9, some 10], [], [], [some 12, some 13, some 14, some 15, none, none], [some 16, some 36, some 56], [], [], [], [none, some 17, some 34, none, none, some 35, none], [some 18, some 19, some 20, some 21, some 22, some 23, some 24, some 25, some 26, some 27, some 28, some 29, some 30, some 31, some 32, some 33], [], [], [], [], [], [], [], [], [], [], [], [], [], [], [], [], [], [], [none, some 37, some 54, none, none, some 55, none], [some 38, some 39, some 40, some 41, some 42, some 43, some 44, some 45, some 46, some 47, some 48, some 49, some 50, some 51, some 52, some 53], [], [], [], [], [], [], [], [], [], [], [], [], [], [], [], [], [], [], [none, some 57, some 74, none, none, some 75, none], [some 58, some 59, some 60, some 61, some 62, some 63, some 64, some 65, some 66, some 67, some 68, some 69, some 70, some 71, some 72, some 73], [], [], [], [], [], [], [], [], [], [], [], [], [], [], [], [], [], [], [some 77, some 94, none, some 95, some 113, some 131, some 132, some 133], [some 78, some 79, some 80, some 81, some 82, some 83, some 84, some 85, some 86, some 87, some 88, some 89, some 90, some 91, some 92, some 93], [], [], [], [], [], [], [], [], [], [], [], [], [], [], [], [], [], [some 96, some 97, some 98, some 99, some 100, some 101, some 102, some 103, some 104, some 105, some 106, some 107, some 108, some 109, some 110, some 111, some 112], [], [], [], [], [], [], [], [], [], [], [], [], [], [], [], [], [], [some 114, some 115, some 116, some 117, some 118, some 119, some 120, some 121, some 122, some 123, some 124, some 125, some 126, some 127, some 128, some 129, some 130], [], [], [], [], [], [], [], [], [], [], [], [], [], [], [], [], [], [], [], [], [none, some 135, some 136, some 137, some 138, some 139], [], [], [], [], [some 140], [], [some 142, none, none, some 143, some 144, some 145, some 146], [], [], [], [], [], [none, none, none, some 148, some 149], [], [], [none, none, none, some 151, some 152], [], [], [none, none, none, some 154, some 155], [], [], [none, none, none, some 157, some 158], [], [], [none, none, none, some 160, some 161], [], [], [none, none, none, some 163, some 164], [], [], [none, none, none, some 166, some 167], [], [], [none, none, none, some 169, some 170], [], [], [none, none, none, some 172, some 173], [], [], [none, none, none, some 175, some 176], [], [], [none, none, none, some 178, some 179], [], [], [none, none, none, some 181, some 182], [], [], [none, none, none, some 184, some 185], [], [], [none, none, none, some 187, some 188], [], [], [none, none, none, some 190, some 191], [], [], [none, none, none, some 193, some 194], [], [], [none, none, none, some 196, some 197], [], [], [none, none, none, some 199, some 200], [], [], [none, none, none, some 202, some 203], [], [], [none, none, none, some 205, some 206], [], [], [none, some 208, none, some 209, some 210, some 211, some 212, some 213, some 214, none, none, some 215, some 216, some 217, none, some 218, some 219, some 220, some 221, some 222, none, some 223, some 224, some 225, some 226, none, some 227, none, none], [], [], [], [], [], [], [], [], [], [], [], [], [], [], [], [], [], [], [], []]
def KK (a : Nat) : Nat := hp_k.getD a 99
def LL (L a : Nat) : Nat := if a = 0 then L else hp_l.getD a 0
def RR (w : Nat → Nat) (a k : Nat) : Option Nat := if a = 113 then (if k < 17 then some (w k) else none) else (hp_r.getD a []).getD k none
/-- the heap: ints, longs, the rows of work in their order -/
abbrev hp (L : Nat) (I : Nat → Nat → Int32) (J : Nat → Nat → Int64) (w : Nat → Nat) : MH := (I, J, RR w, KK, LL L, 228)
end
section
/-! loops -/
def fl {σ : Type} (f : Nat → σ → σ) : Nat → σ → σ
  | 0, s => s
  | n + 1, s => f n (fl f n s)
theorem RN.for {σ : Type} {mid : Nat} {R : MR} (S : Nat → σ → MS) (f : Nat → σ → σ) (Inv : Nat → σ → Prop) (n : Nat) (s0 : σ) (h0 : Inv 0 s0) (hs : ∀ i s, i < n → Inv i s → Inv (i + 1) (f i s) ∧ (RN mid (S (i + 1) (f i s)) R → RN mid (S i s) R)) (k : Inv n (fl f n s0) → RN mid (S n (fl f n s0)) R) : RN mid (S 0 s0) R := by
  have key : ∀ j, j ≤ n → Inv j (fl f j s0) ∧ (RN mid (S j (fl f j s0)) R → RN mid (S 0 s0) R) := by
    intro j
    induction j with
    | zero => exact fun _ => ⟨h0, fun z => z⟩
    | succ j ih =>
      intro hj
      obtain ⟨i1, i2⟩ := ih (by omega)
      obtain ⟨s1, s2⟩ := hs j _ (by omega) i1
      exact ⟨s1, fun z => i2 (s2 z)⟩
  obtain ⟨i1, i2⟩ := key n (Nat.le_refl _)
  exact i2 (k i1)
/-- a loop whose state behind i rounds is known -/
theorem RN.run {mid : Nat} {R : MR} (S : Nat → MS) (n : Nat) (hs : ∀ i, i < n → (RN mid (S (i + 1)) R → RN mid (S i) R)) (k : RN mid (S n) R) : RN mid (S 0) R := by
  have key : ∀ j, j ≤ n → (RN mid (S j) R → RN mid (S 0) R) := by
    intro j
    induction j with
    | zero => exact fun _ z => z
    | succ j ih => exact fun hj z => ih (by omega) (hs j (by omega) z)
  exact key n (Nat.le_refl _) k
/-- a loop that may end early -/
theorem RN.search {mid : Nat} {R : MR} (S : Nat → MS) (P : Nat → Prop) (n : Nat) (hx : ∀ i, i < n → P i → (∀ j, j < i → ¬ P j) → RN mid (S i) R) (hs : ∀ i, i < n → ¬ P i → RN mid (S (i + 1)) R → RN mid (S i) R) (k : (∀ j, j < n → ¬ P j) → RN mid (S n) R) : RN mid (S 0) R := by
  have key : ∀ d i, i + d = n → (∀ j, j < i → ¬ P j) → RN mid (S i) R := by
    intro d
    induction d with
    | zero =>
      intro i hi hp
      obtain rfl : i = n := by omega
      exact k hp
    | succ d ih =>
      intro i hi hp
      by_cases hP : P i
      · exact hx i (by omega) hP hp
      · refine hs i (by omega) hP (ih (i + 1) (by omega) (fun j hj => ?_))
        by_cases e : j = i
        · rw [e]; exact hP
        · exact hp j (by omega)
  exact key n 0 (by omega) (fun j hj => absurd hj (Nat.not_lt_zero j))
theorem mm_row_up {α : Type} (f : Nat → Nat → α) (a k : Nat) (g : Nat → α) (v : α) : mm_up (mm_row f a g) a k v = mm_row f a (fun j => if j = k then v else g j) := by
  funext b j
  unfold mm_up mm_row
  by_cases h : b = a
  · simp [h]
  · simp [h]
theorem mm_row_self {α : Type} (f : Nat → Nat → α) (a : Nat) : mm_row f a (f a) = f := by
  funext b j
  unfold mm_row
  split
  · rename_i h; rw [h]
  · rfl
theorem mm_up_row {α : Type} (f : Nat → Nat → α) (a k : Nat) (v : α) : mm_up f a k v = mm_row f a (fun j => if j = k then v else f a j) := by
  have := mm_row_up f a k (f a) v
  rw [mm_row_self] at this
  exact this
theorem mm_row_row {α : Type} (f : Nat → Nat → α) (a : Nat) (g g' : Nat → α) : mm_row (mm_row f a g) a g' = mm_row f a g' := by
  funext b j
  unfold mm_row
  split <;> rfl
theorem mm_row_congr {α : Type} {f : Nat → Nat → α} {a : Nat} {g g' : Nat → α} (h : ∀ j, g j = g' j) : mm_row f a g = mm_row f a g' := by
  rw [show g = g' from funext h]
theorem mm_row_at {α : Type} (f : Nat → Nat → α) (a : Nat) (g : Nat → α) (j : Nat) : mm_row f a g a j = g j := if_pos rfl
theorem mm_row_off {α : Type} (f : Nat → Nat → α) {a c : Nat} (g : Nat → α) (j : Nat) (h : c ≠ a) : mm_row f a g c j = f c j := if_neg h
end
section
/-! Frame -/
def fm_pair (a b : Int32) : Int32 := (1 <<< (a &&& 31)) ||| (1 <<< (b &&& 31))
theorem ev_pairOf (h : MH) (a b : Int32) : EV m_Fm_pairOf [.int a, .int b] h (some (.int (fm_pair a b))) h := by
  unfold EV
  repeat (refine RN.st rfl ?_)
  exact RN.ret rfl
def fm_ends (I : Nat → Nat → Int32) (k : Nat) : Int32 := fm_pair (I 144 k) (I 145 k)
theorem ev_endsOf (L : Nat) (I : Nat → Nat → Int32) (J : Nat → Nat → Int64) (w : Nat → Nat) (k : Nat) (hk : k < 20) : EV m_Fm_endsOf [.ref 141, .int (nI k)] (hp L I J w) (some (.int (fm_ends I k))) (hp L I J w) := by
  unfold EV
  repeat (refine RN.st rfl ?_)
  refine RN.iald rfl rfl (Or.inl rfl) hk rfl ?_
  repeat (refine RN.st rfl ?_)
  refine RN.iald rfl rfl (Or.inl rfl) hk rfl ?_
  refine RN.call rfl rfl (ev_pairOf _ _ _) ?_
  exact RN.ret rfl
def fm_inside (I : Nat → Nat → Int32) (k : Nat) (s : Int32) : Bool := decide (fm_ends I k &&& (s ^^^ (-1)) = 0)
theorem ev_isInside (L : Nat) (I : Nat → Nat → Int32) (J : Nat → Nat → Int64) (w : Nat → Nat) (k : Nat) (hk : k < 20) (s : Int32) : EV m_Fm_isInside [.ref 141, .int (nI k), .int s] (hp L I J w) (some (.int (if fm_inside I k s = true then 1 else 0))) (hp L I J w) := by
  unfold EV
  repeat (refine RN.st rfl ?_)
  refine RN.call rfl rfl (ev_endsOf L I J w k hk) ?_
  repeat (refine RN.st rfl ?_)
  refine RN.i0 rfl (fun q => ?_) (fun q => ?_)
  · repeat (refine RN.st rfl ?_)
    rw [show (if fm_inside I k s = true then (1 : Int32) else 0) = 0 from if_neg (fun z => q (of_decide_eq_true z))]
    exact RN.ret rfl
  · repeat (refine RN.st rfl ?_)
    rw [show (if fm_inside I k s = true then (1 : Int32) else 0) = 1 from if_pos (decide_eq_true (Classical.not_not.mp q))]
    exact RN.ret rfl
/-- how many new bars are inside, from bar i on, n of them -/
def fm_cnt (I : Nat → Nat → Int32) (s : Int32) (i : Nat) : Nat → Nat
  | 0 => 0
  | n + 1 => (if I 142 i = 0 ∧ fm_inside I i s = true then 1 else 0) + fm_cnt I s (i + 1) n
theorem ev_newInside_loop (L : Nat) (I : Nat → Nat → Int32) (J : Nat → Nat → Int64) (w : Nat → Nat) (s : Int32) (n : Nat) (hn : n ≤ 20) (hsz : I 141 1 = nI n) : ∀ (d i m : Nat), i + d = n → RN m_Fm_newInside (9, [some (.ref 141), some (.int s), some (.int (nI m)), some (.int (nI i))], [.int (I 141 1), .int (nI i)], hp L I J w, 0, 0) (some (.int (nI (m + fm_cnt I s i d))), hp L I J w)
  | 0, i, m, hi => by
    obtain rfl : i = n := by omega
    refine RN.ict rfl (show I 141 1 ≤ nI i from by rw [hsz]; exact nI_le (Nat.le_refl _) (by omega)) ?_
    repeat (refine RN.st rfl ?_)
    exact RN.ret rfl
  | d + 1, i, m, hi => by
    have ih := fun m => ev_newInside_loop L I J w s n hn hsz d (i + 1) m (by omega)
    rw [nI_succ i] at ih
    refine RN.icf rfl (show ¬ I 141 1 ≤ nI i from by rw [hsz]; exact nI_ge (by omega) (by omega)) ?_
    repeat (refine RN.st rfl ?_)
    refine RN.bald rfl rfl rfl (show i < 20 by omega) rfl ?_
    refine RN.i0 rfl (fun q => ?_) (fun q => ?_)
    · have hc : fm_cnt I s i (d + 1) = fm_cnt I s (i + 1) d := by
        show (if I 142 i = 0 ∧ fm_inside I i s = true then 1 else 0) + _ = _
        rw [if_neg (fun z => q z.1), Nat.zero_add]
      rw [hc]
      repeat (refine RN.st rfl ?_)
      exact ih m
    · have q0 : I 142 i = 0 := Classical.not_not.mp q
      repeat (refine RN.st rfl ?_)
      refine RN.call rfl rfl (ev_isInside L I J w i (by omega) s) ?_
      by_cases hin : fm_inside I i s = true
      · rw [if_pos hin]
        have hc : m + fm_cnt I s i (d + 1) = m + 1 + fm_cnt I s (i + 1) d := by
          show m + ((if I 142 i = 0 ∧ fm_inside I i s = true then 1 else 0) + _) = _
          rw [if_pos ⟨q0, hin⟩]; omega
        rw [hc]
        refine RN.iff rfl (show ¬ (1 : Int32) = 0 by decide) ?_
        have ih1 := ih (m + 1)
        rw [nI_succ m] at ih1
        repeat (refine RN.st rfl ?_)
        exact ih1
      · rw [if_neg hin]
        have hc : fm_cnt I s i (d + 1) = fm_cnt I s (i + 1) d := by
          show (if I 142 i = 0 ∧ fm_inside I i s = true then 1 else 0) + _ = _
          rw [if_neg (fun z => hin z.2), Nat.zero_add]
        rw [hc]
        refine RN.ift rfl (show (0 : Int32) = 0 by rfl) ?_
        repeat (refine RN.st rfl ?_)
        exact ih m
theorem ev_newInside (L : Nat) (I : Nat → Nat → Int32) (J : Nat → Nat → Int64) (w : Nat → Nat) (s : Int32) (n : Nat) (hn : n ≤ 20) (hsz : I 141 1 = nI n) : EV m_Fm_newInside [.ref 141, .int s] (hp L I J w) (some (.int (nI (fm_cnt I s 0 n)))) (hp L I J w) := by
  unfold EV
  repeat (refine RN.st rfl ?_)
  have := ev_newInside_loop L I J w s n hn hsz n 0 0 (by omega)
  rw [Nat.zero_add] at this
  exact this
theorem ev_hasBar (L : Nat) (I : Nat → Nat → Int32) (J : Nat → Nat → Int64) (w : Nat → Nat) (a b : Int32) (n : Nat) (hn : n ≤ 20) (hsz : I 141 1 = nI n) (r : Int32) (hr1 : (∃ i, i < n ∧ fm_ends I i = fm_pair a b) → r = 1) (hr0 : (∀ i, i < n → ¬ fm_ends I i = fm_pair a b) → r = 0) : EV m_Fm_hasBar [.ref 141, .int a, .int b] (hp L I J w) (some (.int r)) (hp L I J w) := by
  unfold EV
  repeat (refine RN.st rfl ?_)
  refine RN.search (fun i => (7, [some (.ref 141), some (.int a), some (.int b), some (.int (nI i))], [.int (I 141 1), .int (nI i)], hp L I J w, 0, 0)) (fun i => fm_ends I i = fm_pair a b) n (fun i hi hP hb => ?_) (fun i hi hP k => ?_) (fun hP => ?_)
  · refine RN.icf rfl (show ¬ I 141 1 ≤ nI i from by rw [hsz]; exact nI_ge hi (by omega)) ?_
    repeat (refine RN.st rfl ?_)
    refine RN.call rfl rfl (ev_endsOf L I J w i (by omega)) ?_
    repeat (refine RN.st rfl ?_)
    refine RN.call rfl rfl (ev_pairOf _ a b) ?_
    refine RN.icf rfl (show ¬ ¬ fm_ends I i = fm_pair a b from fun z => z hP) ?_
    repeat (refine RN.st rfl ?_)
    rw [hr1 ⟨i, hi, hP⟩]
    exact RN.ret rfl
  · refine RN.icf rfl (show ¬ I 141 1 ≤ nI i from by rw [hsz]; exact nI_ge hi (by omega)) ?_
    repeat (refine RN.st rfl ?_)
    refine RN.call rfl rfl (ev_endsOf L I J w i (by omega)) ?_
    repeat (refine RN.st rfl ?_)
    refine RN.call rfl rfl (ev_pairOf _ a b) ?_
    refine RN.ict rfl hP ?_
    rw [nI_succ i] at k
    repeat (refine RN.st rfl ?_)
    exact k
  · refine RN.ict rfl (show I 141 1 ≤ nI n from by rw [hsz]; exact nI_le (Nat.le_refl _) (by omega)) ?_
    repeat (refine RN.st rfl ?_)
    rw [hr0 hP]
    exact RN.ret rfl
def fm_bc (x : Int32) : Int32 := 
  let a := x - ((x.toUInt32 >>> ((1 : Int32).toUInt32 &&& Int32.toUInt32 31)).toInt32 &&& 1431655765)
  let b := (a &&& 858993459) + ((a.toUInt32 >>> ((2 : Int32).toUInt32 &&& Int32.toUInt32 31)).toInt32 &&& 858993459)
  let c := (b + (b.toUInt32 >>> ((4 : Int32).toUInt32 &&& Int32.toUInt32 31)).toInt32) &&& 252645135
  let d := c + (c.toUInt32 >>> ((8 : Int32).toUInt32 &&& Int32.toUInt32 31)).toInt32
  let e := d + (d.toUInt32 >>> ((16 : Int32).toUInt32 &&& Int32.toUInt32 31)).toInt32
  e &&& 63
theorem ev_bitCount (h : MH) (x : Int32) : EV m_In_bitCount [.int x] h (some (.int (fm_bc x))) h := by
  unfold EV
  repeat (refine RN.st rfl ?_)
  exact RN.ret rfl
/-- the points of a set -/
def pcnt (s : Nat) : Nat := (if s.testBit 0 then 1 else 0) + (if s.testBit 1 then 1 else 0) + (if s.testBit 2 then 1 else 0) + (if s.testBit 3 then 1 else 0) + (if s.testBit 4 then 1 else 0) + (if s.testBit 5 then 1 else 0) + (if s.testBit 6 then 1 else 0) + (if s.testBit 7 then 1 else 0)
theorem fm_bc_eq : ∀ s, s < 256 → fm_bc (nI s) = nI (pcnt s) := by
  have h : ((List.range 256).all fun s => decide (fm_bc (nI s) = nI (pcnt s))) = true := by decide +kernel
  intro s hs
  exact of_decide_eq_true (List.all_eq_true.mp h s (List.mem_range.mpr hs))
theorem pcnt_le (s : Nat) : pcnt s ≤ 8 := by
  unfold pcnt
  repeat' split
  all_goals omega
theorem ev_keeps (L : Nat) (I : Nat → Nat → Int32) (J : Nat → Nat → Int64) (w : Nat → Nat) (a b : Int32) (r : Int32) (hr1 : (∃ s, s < 256 ∧ ¬ I 146 s = 0 ∧ fm_pair a b &&& (nI s ^^^ (-1)) = 0) → r = 1) (hr0 : (∀ s, s < 256 → ¬ (¬ I 146 s = 0 ∧ fm_pair a b &&& (nI s ^^^ (-1)) = 0)) → r = 0) : EV m_Fm_keeps [.ref 141, .int a, .int b] (hp L I J w) (some (.int r)) (hp L I J w) := by
  unfold EV
  repeat (refine RN.st rfl ?_)
  refine RN.call rfl rfl (ev_pairOf _ a b) ?_
  iterate 5 (refine RN.st rfl ?_)
  refine RN.search (fun i => (14, [some (.ref 141), some (.int a), some (.int b), some (.int (fm_pair a b)), some (.int (nI i))], [.int (nI 256), .int (nI i)], hp L I J w, 0, 0)) (fun s => ¬ I 146 s = 0 ∧ fm_pair a b &&& (nI s ^^^ (-1)) = 0) 256 (fun i hi hP hb => ?_) (fun i hi hP k => ?_) (fun hP => ?_)
  · refine RN.icf rfl (nI_ge hi (by omega)) ?_
    repeat (refine RN.st rfl ?_)
    refine RN.bald rfl rfl rfl hi rfl ?_
    refine RN.iff rfl hP.1 ?_
    repeat (refine RN.st rfl ?_)
    refine RN.iff rfl (fun z => z hP.2) ?_
    repeat (refine RN.st rfl ?_)
    rw [hr1 ⟨i, hi, hP⟩]
    exact RN.ret rfl
  · rw [nI_succ i] at k
    refine RN.icf rfl (nI_ge hi (by omega)) ?_
    repeat (refine RN.st rfl ?_)
    refine RN.bald rfl rfl rfl hi rfl ?_
    by_cases q : I 146 i = 0
    · refine RN.ift rfl q ?_
      repeat (refine RN.st rfl ?_)
      exact k
    · refine RN.iff rfl q ?_
      repeat (refine RN.st rfl ?_)
      refine RN.ift rfl (fun z => hP ⟨q, z⟩) ?_
      repeat (refine RN.st rfl ?_)
      exact k
  · refine RN.ict rfl (nI_le (Nat.le_refl _) (by omega)) ?_
    repeat (refine RN.st rfl ?_)
    rw [hr0 hP]
    exact RN.ret rfl
/-- is a set tight -/
def fm_tt (I : Nat → Nat → Int32) (n s : Nat) : Int32 := if 2 ≤ pcnt s ∧ 2 * pcnt s ≤ fm_cnt I (nI s) 0 n + 3 then 1 else 0
theorem fm_cnt_row (I : Nat → Nat → Int32) (g : Nat → Int32) (s : Int32) : ∀ (d i : Nat), fm_cnt (mm_row I 146 g) s i d = fm_cnt I s i d
  | 0, _ => rfl
  | d + 1, i => by
    show (if mm_row I 146 g 142 i = 0 ∧ fm_inside (mm_row I 146 g) i s = true then 1 else 0) + _ = (if I 142 i = 0 ∧ fm_inside I i s = true then 1 else 0) + _
    rw [fm_cnt_row I g s d (i + 1)]
    rfl
theorem fm_cnt_le (I : Nat → Nat → Int32) (s : Int32) : ∀ (d i : Nat), fm_cnt I s i d ≤ d
  | 0, _ => Nat.le_refl 0
  | d + 1, i => by
    show (if _ then 1 else 0) + _ ≤ _
    have := fm_cnt_le I s d (i + 1)
    split <;> omega
theorem ev_findTightSets (L : Nat) (I : Nat → Nat → Int32) (J : Nat → Nat → Int64) (w : Nat → Nat) (n : Nat) (hn : n ≤ 20) (hsz : I 141 1 = nI n) : EV m_Fm_findTightSets [.ref 141] (hp L I J w) none (hp L (mm_row I 146 (fun j => if j < 256 then fm_tt I n j else I 146 j)) J w) := by
  unfold EV
  iterate 4 (refine RN.st rfl ?_)
  have e0 : I = mm_row I 146 (fun j => if j < 0 then fm_tt I n j else I 146 j) := by
    rw [show (fun j => if j < 0 then fm_tt I n j else I 146 j) = I 146 from funext fun j => if_neg (Nat.not_lt_zero j), mm_row_self]
  have key := RN.run (mid := m_Fm_findTightSets) (R := (none, hp L (mm_row I 146 (fun j => if j < 256 then fm_tt I n j else I 146 j)) J w)) (fun i => (6, [some (.ref 141), some (.int (nI i)), (if i = 0 then none else some (.int (nI (pcnt (i - 1)))))], [.int (nI 256), .int (nI i)], hp L (mm_row I 146 (fun j => if j < i then fm_tt I n j else I 146 j)) J w, 0, 0)) 256 (fun i hi k => ?_) ?_
  · rw [← e0] at key
    exact key
  · rw [nI_succ i] at k
    refine RN.icf rfl (nI_ge hi (by omega)) ?_
    repeat (refine RN.st rfl ?_)
    refine RN.call rfl rfl (ev_bitCount _ _) ?_
    rw [fm_bc_eq i hi]
    have hk9 : RN m_Fm_findTightSets (42, [some (.ref 141), some (.int (nI i)), some (.int (nI (pcnt i)))], [.int (fm_tt I n i), .int (nI i), .ref 146], hp L (mm_row I 146 (fun j => if j < i then fm_tt I n j else I 146 j)) J w, 0, 0) (none, hp L (mm_row I 146 (fun j => if j < 256 then fm_tt I n j else I 146 j)) J w) := by
      refine RN.bast rfl rfl rfl hi rfl (by unfold fm_tt; split <;> simp) ?_
      repeat (refine RN.st rfl ?_)
      have e1 : mm_up (mm_row I 146 (fun j => if j < i then fm_tt I n j else I 146 j)) 146 i (fm_tt I n i) = mm_row I 146 (fun j => if j < i + 1 then fm_tt I n j else I 146 j) := by
        rw [mm_row_up]
        apply mm_row_congr
        intro j
        by_cases hj : j = i
        · subst hj; simp
        · by_cases h2 : j < i
          · simp [hj, h2, Nat.lt_succ_of_lt h2]
          · simp [hj, h2, show ¬ j < i + 1 by omega]
      show RN m_Fm_findTightSets (_, _, _, hp L (mm_up (mm_row I 146 (fun j => if j < i then fm_tt I n j else I 146 j)) 146 i (fm_tt I n i)) J w, 0, 0) _
      rw [e1]
      exact k
    by_cases q : 2 ≤ pcnt i
    · repeat (refine RN.st rfl ?_)
      refine RN.icf rfl (show ¬ nI (pcnt i) < nI 2 from nI_nlt q (by have := pcnt_le i; omega)) ?_
      repeat (refine RN.st rfl ?_)
      refine RN.call rfl rfl (ev_newInside L _ J w (nI i) n hn hsz) ?_
      rw [fm_cnt_row]
      repeat (refine RN.st rfl ?_)
      have e3 : (Int32.ofInt 2 * nI (pcnt i) - Int32.ofInt 3 : Int32) = nI (2 * pcnt i - 3) := by
        have e4 : (Int32.ofInt 2 : Int32) = nI 2 := rfl
        have e5 : (Int32.ofInt 3 : Int32) = nI 3 := rfl
        rw [e4, e5, pk_mul, pk_sub (by omega)]
      by_cases q2 : 2 * pcnt i ≤ fm_cnt I (nI i) 0 n + 3
      · refine RN.icf rfl (show ¬ nI (fm_cnt I (nI i) 0 n) < (Int32.ofInt 2 * nI (pcnt i) - Int32.ofInt 3 : Int32) from by rw [e3]; exact nI_nlt (by omega) (by have := fm_cnt_le I (nI i) n 0; omega)) ?_
        have e6 : fm_tt I n i = 1 := if_pos ⟨q, q2⟩
        rw [e6] at hk9
        repeat (refine RN.st rfl ?_)
        exact hk9
      · refine RN.ict rfl (show nI (fm_cnt I (nI i) 0 n) < (Int32.ofInt 2 * nI (pcnt i) - Int32.ofInt 3 : Int32) from by rw [e3]; exact nI_lt (by omega) (by have := pcnt_le i; omega)) ?_
        have e6 : fm_tt I n i = 0 := if_neg (fun z => q2 z.2)
        rw [e6] at hk9
        repeat (refine RN.st rfl ?_)
        exact hk9
    · repeat (refine RN.st rfl ?_)
      refine RN.ict rfl (show nI (pcnt i) < nI 2 from nI_lt (by omega) (by omega)) ?_
      have e6 : fm_tt I n i = 0 := if_neg (fun z => q z.1)
      rw [e6] at hk9
      repeat (refine RN.st rfl ?_)
      exact hk9
  · refine RN.ict rfl (nI_le (Nat.le_refl _) (by omega)) ?_
    exact RN.ret rfl
/-- the bar put down, and its sort r -/
def fm_put (I : Nat → Nat → Int32) (n : Nat) (a b r : Int32) : Nat → Nat → Int32 := mm_up (mm_up (mm_up (mm_up I 144 n a) 145 n b) 142 n r) 141 1 (nI (n + 1))
def fm_new (I : Nat → Nat → Int32) : Nat → Nat → Int32 := mm_up I 141 2 (I 141 2 + 1)
theorem ev_add1 (L : Nat) (I : Nat → Nat → Int32) (J : Nat → Nat → Int64) (w : Nat → Nat) (a b : Int32) (n : Nat) (hn : n < 20) (hsz : I 141 1 = nI n) (hk : ∃ s, s < 256 ∧ ¬ I 146 s = 0 ∧ fm_pair a b &&& (nI s ^^^ (-1)) = 0) : EV m_Fm_add [.ref 141, .int a, .int b] (hp L I J w) none (hp L (fm_put I n a b 1) J w) := by
  unfold EV
  repeat (refine RN.st rfl ?_)
  refine RN.ict rfl (show I 141 1 < nI 20 from by rw [hsz]; exact nI_lt hn (by omega)) ?_
  repeat (refine RN.st rfl ?_)
  refine RN.iast rfl hsz rfl hn rfl ?_
  repeat (refine RN.st rfl ?_)
  refine RN.iast rfl hsz rfl hn rfl ?_
  repeat (refine RN.st rfl ?_)
  refine RN.call rfl rfl (ev_keeps L (mm_up (mm_up I 144 n a) 145 n b) J w a b 1 (fun _ => rfl) (fun z => absurd hk.choose_spec.2 (z _ hk.choose_spec.1))) ?_
  refine RN.bast rfl hsz rfl hn rfl (Or.inr rfl) ?_
  repeat (refine RN.st rfl ?_)
  refine RN.bald (k := n) rfl (show (I 141 1 + Int32.ofInt 1 : Int32) - Int32.ofInt 1 = nI n from by rw [hsz]; have z := nI_pred n; rw [nI_succ] at z; exact z) rfl hn rfl ?_
  refine RN.ift rfl (show ¬ (if 142 = 141 ∧ n = 1 then I 141 1 + Int32.ofInt 1 else if 142 = 142 ∧ n = n then (1 : Int32) else _) = 0 by rw [if_neg (by omega), if_pos ⟨rfl, rfl⟩]; decide) ?_
  refine RN.ret ?_
  unfold fm_put
  rw [nI_succ, ← hsz]
  rfl
theorem ev_add0 (L : Nat) (I : Nat → Nat → Int32) (J : Nat → Nat → Int64) (w : Nat → Nat) (a b : Int32) (n : Nat) (hn : n < 20) (hsz : I 141 1 = nI n) (hk : ∀ s, s < 256 → ¬ (¬ I 146 s = 0 ∧ fm_pair a b &&& (nI s ^^^ (-1)) = 0)) : EV m_Fm_add [.ref 141, .int a, .int b] (hp L I J w) none (hp L (mm_row (fm_new (fm_put I n a b 0)) 146 (fun j => if j < 256 then fm_tt (fm_new (fm_put I n a b 0)) (n + 1) j else I 146 j)) J w) := by
  unfold EV
  repeat (refine RN.st rfl ?_)
  refine RN.ict rfl (show I 141 1 < nI 20 from by rw [hsz]; exact nI_lt hn (by omega)) ?_
  repeat (refine RN.st rfl ?_)
  refine RN.iast rfl hsz rfl hn rfl ?_
  repeat (refine RN.st rfl ?_)
  refine RN.iast rfl hsz rfl hn rfl ?_
  repeat (refine RN.st rfl ?_)
  refine RN.call rfl rfl (ev_keeps L (mm_up (mm_up I 144 n a) 145 n b) J w a b 0 (fun z => absurd z.choose_spec.2 (hk _ z.choose_spec.1)) (fun _ => rfl)) ?_
  refine RN.bast rfl hsz rfl hn rfl (Or.inl rfl) ?_
  repeat (refine RN.st rfl ?_)
  refine RN.bald (k := n) rfl (show (I 141 1 + Int32.ofInt 1 : Int32) - Int32.ofInt 1 = nI n from by rw [hsz]; have z := nI_pred n; rw [nI_succ] at z; exact z) rfl hn rfl ?_
  refine RN.iff rfl (show ¬ ¬ (if 142 = 141 ∧ n = 1 then I 141 1 + Int32.ofInt 1 else if 142 = 142 ∧ n = n then (0 : Int32) else _) = 0 by rw [if_neg (by omega), if_pos ⟨rfl, rfl⟩]; decide) ?_
  have e1 : (mm_up (mm_up (mm_up (mm_up (mm_up I 144 n a) 145 n b) 142 n 0) 141 1 (I 141 1 + Int32.ofInt 1)) 141 2 (I 141 2 + Int32.ofInt 1)) = fm_new (fm_put I n a b 0) := by
    unfold fm_new fm_put
    rw [nI_succ, ← hsz]
    rfl
  repeat (refine RN.st rfl ?_)
  refine RN.call rfl rfl (v := none) (h2 := hp L (mm_row (fm_new (fm_put I n a b 0)) 146 (fun j => if j < 256 then fm_tt (fm_new (fm_put I n a b 0)) (n + 1) j else I 146 j)) J w) ?_ ?_
  · show EV m_Fm_findTightSets [.ref 141] (hp L (mm_up (mm_up (mm_up (mm_up (mm_up I 144 n a) 145 n b) 142 n 0) 141 1 (I 141 1 + Int32.ofInt 1)) 141 2 (I 141 2 + Int32.ofInt 1)) J w) _ _
    rw [e1]
    exact ev_findTightSets L (fm_new (fm_put I n a b 0)) J w (n + 1) (by omega) rfl
  · exact RN.ret rfl
def fm_common (I : Nat → Nat → Int32) (k : Nat) : Nat → Int32 := fun m => fl (fun s c => if ¬ I 146 s = 0 ∧ fm_inside I k (nI s) = true then c &&& nI s else c) m 255
def fm_ring (I : Nat → Nat → Int32) (c : Int32) : Nat → Int32 := fun m => fl (fun i r => if I 142 i = 0 ∧ fm_inside I i c = true then r ||| (1 <<< (nI i &&& 31)) else r) m 0
theorem ev_ringOf (L : Nat) (I : Nat → Nat → Int32) (J : Nat → Nat → Int64) (w : Nat → Nat) (k : Nat) (hk : k < 20) (n : Nat) (hn : n ≤ 20) (hsz : I 141 1 = nI n) : EV m_Fm_ringOf [.ref 141, .int (nI k)] (hp L I J w) (some (.int (fm_ring I (fm_common I k 256) n))) (hp L I J w) := by
  unfold EV
  iterate 6 (refine RN.st rfl ?_)
  refine RN.run (fun i => (10, [some (.ref 141), some (.int (nI k)), some (.int (fm_common I k i)), some (.int (nI i)), none], [.int (nI 256), .int (nI i)], hp L I J w, 0, 0)) 256 (fun i hi kk => ?_) ?_
  · rw [nI_succ i] at kk
    refine RN.icf rfl (nI_ge hi (by omega)) ?_
    repeat (refine RN.st rfl ?_)
    refine RN.bald rfl rfl rfl hi rfl ?_
    by_cases q : I 146 i = 0
    · have e : fm_common I k (i + 1) = fm_common I k i := if_neg (fun z => z.1 q)
      rw [e] at kk
      refine RN.ift rfl q ?_
      repeat (refine RN.st rfl ?_)
      exact kk
    · refine RN.iff rfl q ?_
      repeat (refine RN.st rfl ?_)
      refine RN.call rfl rfl (ev_isInside L I J w k hk (nI i)) ?_
      by_cases q2 : fm_inside I k (nI i) = true
      · have e : fm_common I k (i + 1) = fm_common I k i &&& nI i := if_pos ⟨q, q2⟩
        rw [e] at kk
        rw [if_pos q2]
        refine RN.iff rfl (show ¬ (1 : Int32) = 0 by decide) ?_
        repeat (refine RN.st rfl ?_)
        exact kk
      · have e : fm_common I k (i + 1) = fm_common I k i := if_neg (fun z => q2 z.2)
        rw [e] at kk
        rw [if_neg q2]
        refine RN.ift rfl (show (0 : Int32) = 0 from rfl) ?_
        repeat (refine RN.st rfl ?_)
        exact kk
  · refine RN.ict rfl (nI_le (Nat.le_refl _) (by omega)) ?_
    repeat (refine RN.st rfl ?_)
    generalize fm_common I k 256 = c
    refine RN.run (fun i => (52, [some (.ref 141), some (.int (nI k)), some (.int c), some (.int (fm_ring I c i)), some (.int (nI i))], [.int (I 141 1), .int (nI i)], hp L I J w, 0, 0)) n (fun i hi kk => ?_) ?_
    · rw [nI_succ i] at kk
      refine RN.icf rfl (show ¬ I 141 1 ≤ nI i from by rw [hsz]; exact nI_ge hi (by omega)) ?_
      repeat (refine RN.st rfl ?_)
      refine RN.bald rfl rfl rfl (show i < 20 by omega) rfl ?_
      by_cases q : I 142 i = 0
      · refine RN.iff rfl (fun z => z q) ?_
        repeat (refine RN.st rfl ?_)
        refine RN.call rfl rfl (ev_isInside L I J w i (by omega) c) ?_
        by_cases q2 : fm_inside I i c = true
        · have e : fm_ring I c (i + 1) = fm_ring I c i ||| (1 <<< (nI i &&& 31)) := if_pos ⟨q, q2⟩
          rw [e] at kk
          rw [if_pos q2]
          refine RN.iff rfl (show ¬ (1 : Int32) = 0 by decide) ?_
          repeat (refine RN.st rfl ?_)
          exact kk
        · have e : fm_ring I c (i + 1) = fm_ring I c i := if_neg (fun z => q2 z.2)
          rw [e] at kk
          rw [if_neg q2]
          refine RN.ift rfl (show (0 : Int32) = 0 from rfl) ?_
          repeat (refine RN.st rfl ?_)
          exact kk
      · have e : fm_ring I c (i + 1) = fm_ring I c i := if_neg (fun z => q z.1)
        rw [e] at kk
        refine RN.ift rfl q ?_
        repeat (refine RN.st rfl ?_)
        exact kk
    · refine RN.ict rfl (show I 141 1 ≤ nI n from by rw [hsz]; exact nI_le (Nat.le_refl _) (by omega)) ?_
      repeat (refine RN.st rfl ?_)
      exact RN.ret rfl
def fm_at (I : Nat → Nat → Int32) (p l : Int32) : Nat → Nat := fun m => fl (fun i r => if I 142 i = 0 ∧ fm_inside I i l = true ∧ ¬ fm_ends I i &&& (1 <<< (p &&& 31)) = 0 then r + 1 else r) m 0
theorem fm_at_le (I : Nat → Nat → Int32) (p l : Int32) : ∀ m, fm_at I p l m ≤ m
  | 0 => Nat.le_refl 0
  | m + 1 => by
    have := fm_at_le I p l m
    show (if _ then fm_at I p l m + 1 else fm_at I p l m) ≤ _
    split
    · exact Nat.succ_le_succ this
    · exact Nat.le_succ_of_le this
theorem ev_newAt (L : Nat) (I : Nat → Nat → Int32) (J : Nat → Nat → Int64) (w : Nat → Nat) (p l : Int32) (n : Nat) (hn : n ≤ 20) (hsz : I 141 1 = nI n) : EV m_Fm_newAt [.ref 141, .int p, .int l] (hp L I J w) (some (.int (nI (fm_at I p l n)))) (hp L I J w) := by
  unfold EV
  repeat (refine RN.st rfl ?_)
  refine RN.run (fun i => (11, [some (.ref 141), some (.int p), some (.int l), some (.int (nI (fm_at I p l i))), some (.int (nI i))], [.int (I 141 1), .int (nI i)], hp L I J w, 0, 0)) n (fun i hi kk => ?_) ?_
  · rw [nI_succ i] at kk
    refine RN.icf rfl (show ¬ I 141 1 ≤ nI i from by rw [hsz]; exact nI_ge hi (by omega)) ?_
    repeat (refine RN.st rfl ?_)
    refine RN.bald rfl rfl rfl (show i < 20 by omega) rfl ?_
    by_cases q : I 142 i = 0
    · refine RN.iff rfl (fun z => z q) ?_
      repeat (refine RN.st rfl ?_)
      refine RN.call rfl rfl (ev_isInside L I J w i (by omega) l) ?_
      by_cases q2 : fm_inside I i l = true
      · rw [if_pos q2]
        refine RN.iff rfl (show ¬ (1 : Int32) = 0 by decide) ?_
        repeat (refine RN.st rfl ?_)
        refine RN.call rfl rfl (ev_endsOf L I J w i (by omega)) ?_
        repeat (refine RN.st rfl ?_)
        by_cases q3 : fm_ends I i &&& (1 <<< (p &&& 31)) = 0
        · have e : fm_at I p l (i + 1) = fm_at I p l i := if_neg (fun z => z.2.2 q3)
          rw [e] at kk
          refine RN.ift rfl q3 ?_
          repeat (refine RN.st rfl ?_)
          exact kk
        · have e : fm_at I p l (i + 1) = fm_at I p l i + 1 := if_pos ⟨q, q2, q3⟩
          rw [e, nI_succ] at kk
          refine RN.iff rfl q3 ?_
          repeat (refine RN.st rfl ?_)
          exact kk
      · have e : fm_at I p l (i + 1) = fm_at I p l i := if_neg (fun z => q2 z.2.1)
        rw [e] at kk
        rw [if_neg q2]
        refine RN.ift rfl (show (0 : Int32) = 0 from rfl) ?_
        repeat (refine RN.st rfl ?_)
        exact kk
    · have e : fm_at I p l (i + 1) = fm_at I p l i := if_neg (fun z => q z.1)
      rw [e] at kk
      refine RN.ift rfl q ?_
      repeat (refine RN.st rfl ?_)
      exact kk
  · refine RN.ict rfl (show I 141 1 ≤ nI n from by rw [hsz]; exact nI_le (Nat.le_refl _) (by omega)) ?_
    repeat (refine RN.st rfl ?_)
    exact RN.ret rfl
def fm_dg (I : Nat → Nat → Int32) (h : Int64) : Nat → Int64 := fun m => fl (fun i x => 31 * (31 * (31 * x + (I 144 i).toInt64) + (I 145 i).toInt64) + (if I 142 i = 0 then 0 else 1)) m h
theorem ev_fmDigest (L : Nat) (I : Nat → Nat → Int32) (J : Nat → Nat → Int64) (w : Nat → Nat) (x : Int64) (n : Nat) (hn : n ≤ 20) (hsz : I 141 1 = nI n) : EV m_Fm_digestOnto [.ref 141, .long x] (hp L I J w) (some (.long (fm_dg I x n))) (hp L I J w) := by
  unfold EV
  repeat (refine RN.st rfl ?_)
  refine RN.run (fun i => (11, [some (.ref 141), some (.long x), none, some (.long (fm_dg I x i)), none, some (.int (nI i))], [.int (I 141 1), .int (nI i)], hp L I J w, 0, 0)) n (fun i hi kk => ?_) ?_
  · rw [nI_succ i] at kk
    refine RN.icf rfl (show ¬ I 141 1 ≤ nI i from by rw [hsz]; exact nI_ge hi (by omega)) ?_
    repeat (refine RN.st rfl ?_)
    refine RN.iald rfl rfl (Or.inl rfl) (show i < 20 by omega) rfl ?_
    repeat (refine RN.st rfl ?_)
    refine RN.iald rfl rfl (Or.inl rfl) (show i < 20 by omega) rfl ?_
    repeat (refine RN.st rfl ?_)
    refine RN.bald rfl rfl rfl (show i < 20 by omega) rfl ?_
    by_cases q : I 142 i = 0
    · have e : fm_dg I x (i + 1) = 31 * (31 * (31 * fm_dg I x i + (I 144 i).toInt64) + (I 145 i).toInt64) + (if I 142 i = 0 then 0 else 1) := rfl
      rw [e, if_pos q] at kk
      refine RN.ift rfl q ?_
      repeat (refine RN.st rfl ?_)
      exact kk
    · have e : fm_dg I x (i + 1) = 31 * (31 * (31 * fm_dg I x i + (I 144 i).toInt64) + (I 145 i).toInt64) + (if I 142 i = 0 then 0 else 1) := rfl
      rw [e, if_neg q] at kk
      refine RN.iff rfl q ?_
      repeat (refine RN.st rfl ?_)
      exact kk
  · refine RN.ict rfl (show I 141 1 ≤ nI n from by rw [hsz]; exact nI_le (Nat.le_refl _) (by omega)) ?_
    repeat (refine RN.st rfl ?_)
    exact RN.ret rfl
end
section
/-! Frame.findGoing, Frame.build -/
def fm_gP (I : Nat → Nat → Int32) (l : Int32) (n p : Nat) : Prop := ¬ l &&& (1 <<< (nI p &&& 31)) = 0 ∧ fm_at I (nI p) l n ≤ 2
def fm_gd (I : Nat → Nat → Int32) (l : Int32) (n : Nat) : Nat → Int32
  | 0 => -1
  | p + 1 => if ¬ l &&& (1 <<< (nI p &&& 31)) = 0 ∧ fm_at I (nI p) l n ≤ 2 then nI p else fm_gd I l n p
theorem pk_m1' (n : Nat) : nI (n + 1) + Int32.ofInt (-1) = nI n := pk_m1 n
theorem ev_findGoing_loop (L : Nat) (I : Nat → Nat → Int32) (J : Nat → Nat → Int64) (w : Nat → Nat) (l : Int32) (n : Nat) (hn : n ≤ 20) (hsz : I 141 1 = nI n) : ∀ p, p ≤ 8 → RN m_Fm_findGoing (4, [some (.ref 141), some (.int l), some (.int (nI p + Int32.ofInt (-1)))], [.int (nI p + Int32.ofInt (-1))], hp L I J w, 0, 0) (some (.int (fm_gd I l n p)), hp L I J w)
  | 0, _ => by
    refine RN.ift rfl (show (nI 0 + Int32.ofInt (-1) : Int32) < 0 by decide) ?_
    repeat (refine RN.st rfl ?_)
    exact RN.ret rfl
  | p + 1, hp9 => by
    have ih := ev_findGoing_loop L I J w l n hn hsz p (by omega)
    rw [pk_m1' p]
    refine RN.iff rfl (show ¬ nI p < 0 from nI_pos (by omega)) ?_
    repeat (refine RN.st rfl ?_)
    by_cases q : l &&& (1 <<< (nI p &&& 31)) = 0
    · have e : fm_gd I l n (p + 1) = fm_gd I l n p := if_neg (fun z => z.1 q)
      rw [e]
      refine RN.ift rfl q ?_
      iterate 3 (refine RN.st rfl ?_)
      exact ih
    · refine RN.iff rfl q ?_
      repeat (refine RN.st rfl ?_)
      refine RN.call rfl rfl (ev_newAt L I J w (nI p) l n hn hsz) ?_
      by_cases q2 : fm_at I (nI p) l n ≤ 2
      · have e : fm_gd I l n (p + 1) = nI p := if_pos ⟨q, q2⟩
        rw [e]
        repeat (refine RN.st rfl ?_)
        refine RN.icf rfl (show ¬ nI 2 < nI (fm_at I (nI p) l n) from nI_nlt q2 (by omega)) ?_
        repeat (refine RN.st rfl ?_)
        exact RN.ret rfl
      · have e : fm_gd I l n (p + 1) = fm_gd I l n p := if_neg (fun z => q2 z.2)
        rw [e]
        repeat (refine RN.st rfl ?_)
        refine RN.ict rfl (show nI 2 < nI (fm_at I (nI p) l n) from nI_lt (by omega) (by have := fm_at_le I (nI p) l n; omega)) ?_
        iterate 3 (refine RN.st rfl ?_)
        exact ih
theorem ev_findGoing (L : Nat) (I : Nat → Nat → Int32) (J : Nat → Nat → Int64) (w : Nat → Nat) (l : Int32) (n : Nat) (hn : n ≤ 20) (hsz : I 141 1 = nI n) : EV m_Fm_findGoing [.ref 141, .int l] (hp L I J w) (some (.int (fm_gd I l n 8))) (hp L I J w) := by
  unfold EV
  iterate 3 (refine RN.st rfl ?_)
  have k := ev_findGoing_loop L I J w l n hn hsz 8 (Nat.le_refl _)
  rw [show nI 8 + Int32.ofInt (-1) = (Int8.ofInt 7).toInt32 from by decide] at k
  exact k
/-- the first loop of build: what is left, how many, what was put -/
def fm_b1 (I : Nat → Nat → Int32) (n : Nat) : Nat → Int32 → Nat → (Nat → Int32) → Int32 × Nat × (Nat → Int32)
  | 0, l, e, g => (l, e, g)
  | d + 1, l, e, g => if e ≤ 2 ∨ fm_gd I l n 8 = -1 then (l, e, g) else fm_b1 I n d (l &&& ((1 <<< (fm_gd I l n 8 &&& 31)) ^^^ (-1))) (e - 1) (fun j => if j = e - 1 then fm_gd I l n 8 else g j)
def fm_b2 (l : Int32) (g : Nat → Int32) : Nat → Nat × (Nat → Int32) := fun m => fl (fun p s => if l &&& (1 <<< (nI p &&& 31)) = 0 then s else (s.1 + 1, fun j => if j = s.1 then nI p else s.2 j)) m (0, g)
theorem fm_b2_le (l : Int32) (g : Nat → Int32) : ∀ m, (fm_b2 l g m).1 ≤ m
  | 0 => Nat.le_refl 0
  | m + 1 => by
    have h := fm_b2_le l g m
    show (if l &&& (1 <<< (nI m &&& 31)) = 0 then fm_b2 l g m else ((fm_b2 l g m).1 + 1, _)).1 ≤ _
    split
    · exact Nat.le_succ_of_le h
    · exact Nat.succ_le_succ h
theorem fm_at_row (I : Nat → Nat → Int32) (g : Nat → Int32) (p l : Int32) : ∀ m, fm_at (mm_row I 143 g) p l m = fm_at I p l m
  | 0 => rfl
  | m + 1 => by
    show (if mm_row I 143 g 142 m = 0 ∧ fm_inside (mm_row I 143 g) m l = true ∧ ¬ fm_ends (mm_row I 143 g) m &&& (1 <<< (p &&& 31)) = 0 then fm_at (mm_row I 143 g) p l m + 1 else fm_at (mm_row I 143 g) p l m) = (if I 142 m = 0 ∧ fm_inside I m l = true ∧ ¬ fm_ends I m &&& (1 <<< (p &&& 31)) = 0 then fm_at I p l m + 1 else fm_at I p l m)
    rw [fm_at_row I g p l m]
    rfl
theorem fm_gd_row (I : Nat → Nat → Int32) (g : Nat → Int32) (l : Int32) (n : Nat) : ∀ p, fm_gd (mm_row I 143 g) l n p = fm_gd I l n p
  | 0 => rfl
  | p + 1 => by
    show (if ¬ l &&& (1 <<< (nI p &&& 31)) = 0 ∧ fm_at (mm_row I 143 g) (nI p) l n ≤ 2 then nI p else fm_gd (mm_row I 143 g) l n p) = (if ¬ l &&& (1 <<< (nI p &&& 31)) = 0 ∧ fm_at I (nI p) l n ≤ 2 then nI p else fm_gd I l n p)
    rw [fm_at_row, fm_gd_row I g l n p]
theorem ev_build_2 (L : Nat) (I : Nat → Nat → Int32) (J : Nat → Nat → Int64) (w : Nat → Nat) (n : Nat) (l e9 l4 l5 : Int32) (g : Nat → Int32) (v5 : Option Value) (pt : Int32) : RN m_Fm_build (65, [some (.ref 141), some (.int pt), some (.int l), some (.int e9), some (.int l4), v5], [], hp L (mm_row I 143 g) J w, 0, 0) (some (.int l), hp L (mm_row I 143 (fm_b2 l g 8).2) J w) := by
  iterate 6 (refine RN.st rfl ?_)
  refine RN.run (fun i => (75, [some (.ref 141), some (.int pt), some (.int l), some (.int e9), some (.int (nI (fm_b2 l g i).1)), some (.int (nI i))], [.int (nI 8), .int (nI i)], hp L (mm_row I 143 (fm_b2 l g i).2) J w, 0, 0)) 8 (fun i hi kk => ?_) ?_
  · rw [nI_succ i] at kk
    refine RN.icf rfl (nI_ge hi (by omega)) ?_
    repeat (refine RN.st rfl ?_)
    by_cases q : l &&& (1 <<< (nI i &&& 31)) = 0
    · have e : fm_b2 l g (i + 1) = fm_b2 l g i := if_pos q
      rw [e] at kk
      refine RN.ift rfl q ?_
      repeat (refine RN.st rfl ?_)
      exact kk
    · have e : fm_b2 l g (i + 1) = ((fm_b2 l g i).1 + 1, fun j => if j = (fm_b2 l g i).1 then nI i else (fm_b2 l g i).2 j) := if_neg q
      rw [e] at kk
      dsimp only at kk
      rw [nI_succ (fm_b2 l g i).1, ← mm_row_up] at kk
      refine RN.iff rfl q ?_
      repeat (refine RN.st rfl ?_)
      refine RN.iast rfl rfl rfl (show (fm_b2 l g i).1 < 8 by have := fm_b2_le l g i; omega) rfl ?_
      repeat (refine RN.st rfl ?_)
      exact kk
  · refine RN.ict rfl (nI_le (Nat.le_refl _) (by omega)) ?_
    repeat (refine RN.st rfl ?_)
    exact RN.ret rfl
theorem ev_build_1 (L : Nat) (I : Nat → Nat → Int32) (J : Nat → Nat → Int64) (w : Nat → Nat) (n : Nat) (hn : n ≤ 20) (hsz : I 141 1 = nI n) (pt : Int32) : ∀ (d i : Nat) (l : Int32) (e9 : Nat) (g : Nat → Int32) (v5 : Option Value), i + d = 8 → e9 ≤ 8 → RN m_Fm_build (15, [some (.ref 141), some (.int pt), some (.int l), some (.int (nI e9)), some (.int (nI i)), v5], [.int (nI 8), .int (nI i)], hp L (mm_row I 143 g) J w, 0, 0) (some (.int (fm_b1 I n d l e9 g).1), hp L (mm_row I 143 (fm_b2 (fm_b1 I n d l e9 g).1 (fm_b1 I n d l e9 g).2.2 8).2) J w)
  | 0, i, l, e9, g, v5, hi, he => by
    obtain rfl : i = 8 := by omega
    refine RN.ict rfl (nI_le (Nat.le_refl _) (by omega)) ?_
    exact ev_build_2 L I J w n l (nI e9) (nI 8) 0 g v5 pt
  | d + 1, i, l, e9, g, v5, hi, he => by
    refine RN.icf rfl (nI_ge (show i < 8 by omega) (by omega)) ?_
    repeat (refine RN.st rfl ?_)
    by_cases q : e9 ≤ 2
    · have e : fm_b1 I n (d + 1) l e9 g = (l, e9, g) := if_pos (Or.inl q)
      rw [e]
      refine RN.ict rfl (show nI e9 ≤ nI 2 from nI_le q (by omega)) ?_
      exact ev_build_2 L I J w n l (nI e9) (nI i) 0 g v5 pt
    · refine RN.icf rfl (show ¬ nI e9 ≤ nI 2 from nI_ge (by omega) (by omega)) ?_
      repeat (refine RN.st rfl ?_)
      refine RN.call rfl rfl (ev_findGoing L (mm_row I 143 g) J w l n hn hsz) ?_
      rw [fm_gd_row]
      repeat (refine RN.st rfl ?_)
      by_cases q2 : fm_gd I l n 8 = -1
      · have e : fm_b1 I n (d + 1) l e9 g = (l, e9, g) := if_pos (Or.inr q2)
        rw [e]
        refine RN.icf rfl (fun z => z q2) ?_
        iterate 1 (refine RN.st rfl ?_)
        exact ev_build_2 L I J w n l (nI e9) (nI i) 0 g _ pt
      · have e : fm_b1 I n (d + 1) l e9 g = fm_b1 I n d (l &&& ((1 <<< (fm_gd I l n 8 &&& 31)) ^^^ (-1))) (e9 - 1) (fun j => if j = e9 - 1 then fm_gd I l n 8 else g j) := if_neg (fun z => z.elim q q2)
        rw [e]
        refine RN.ict rfl q2 ?_
        have ih := ev_build_1 L I J w n hn hsz pt d (i + 1) (l &&& ((1 <<< (fm_gd I l n 8 &&& 31)) ^^^ (-1))) (e9 - 1) (fun j => if j = e9 - 1 then fm_gd I l n 8 else g j) (some (.int (fm_gd I l n 8))) (by omega) (by omega)
        have e2 : nI (e9 - 1) = nI e9 + Int32.ofInt (-1) := by
          obtain ⟨k, rfl⟩ : ∃ k, e9 = k + 1 := ⟨e9 - 1, by omega⟩
          rw [pk_m1']; rfl
        rw [nI_succ i, ← mm_row_up] at ih
        iterate 13 (refine RN.st rfl ?_)
        refine RN.iast rfl (show (nI e9 + Int32.ofInt (-1) : Int32) = nI (e9 - 1) from e2.symm) rfl (show e9 - 1 < 8 by omega) rfl ?_
        rw [e2] at ih
        iterate 4 (refine RN.st rfl ?_)
        exact ih
theorem ev_build (L : Nat) (I : Nat → Nat → Int32) (J : Nat → Nat → Int64) (w : Nat → Nat) (n : Nat) (hn : n ≤ 20) (hsz : I 141 1 = nI n) (pt : Nat) (hpt : pt ≤ 8) (l : Int32) (hl : (1 <<< (nI pt &&& 31)) - 1 = l) : EV m_Fm_build [.ref 141, .int (nI pt)] (hp L I J w) (some (.int (fm_b1 I n 8 l pt (I 143)).1)) (hp L (mm_row I 143 (fm_b2 (fm_b1 I n 8 l pt (I 143)).1 (fm_b1 I n 8 l pt (I 143)).2.2 8).2) J w) := by
  unfold EV
  subst hl
  have key := ev_build_1 L I J w n hn hsz (nI pt) 8 0 ((1 <<< (nI pt &&& 31)) - 1) pt (I 143) none (by omega) hpt
  rw [mm_row_self] at key
  iterate 12 (refine RN.st rfl ?_)
  exact key
end
section
/-! Sum: its object at s, numbers at s + 1, factors at s + 2 -/
/-- the places of sums -/
abbrev isSum (s : Nat) : Prop := KK s = 5 ∧ KK (s + 1) = 9 ∧ KK (s + 2) = 9 ∧ hp_l.getD (s + 1) 0 = 4 ∧ hp_l.getD (s + 2) 0 = 4 ∧ s ≠ 113 ∧ (hp_r.getD s []).getD 3 none = some (s + 1) ∧ (hp_r.getD s []).getD 4 none = some (s + 2)
theorem isSum_asked : isSum 5 := by decide
theorem isSum_probe : isSum 8 := by decide
def sumP (i : Nat) : Nat := 147 + 3 * i
theorem isSum_all : ∀ i, i < 20 → isSum (sumP i) := by decide
theorem RR_sums (w : Nat → Nat) : ∀ i, i < 20 → RR w 4 i = some (sumP i) := by
  intro i hi
  show (hp_r.getD 4 []).getD i none = some (sumP i)
  revert i
  decide
section SUM
variable {mid pc : Nat} {Lo : ML} {st : List Value} {cu su : Nat} {R : MR}
/-- getfield of an object that is known by a premise -/
theorem RN.get {h : MH} {a ci f idx : Nat} {v : Value} (hf : mm_fet mid pc = some (.getfield idx, 3, 0)) (hfl : mm_fld (mi_c (mm_of mid)) idx = some (ci, f)) (hk : hK h a = ci) (hv : mm_fv h a ci f = v) (k : RN mid (pc + 3, Lo, v :: st, h, cu, su) R) : RN mid (pc, Lo, .ref a :: st, h, cu, su) R := by
  refine RN.st ?_ k
  rw [mm_one_of hf]
  show (match mm_fld (mi_c (mm_of mid)) idx, Value.ref a :: st with
    | some (ci, f), .ref a :: r => if hK h a = ci then mm_nx (pc + 3) Lo (mm_fv h a ci f :: r) h cu su else none
    | _, _ => none) = _
  rw [hfl]
  dsimp only
  rw [if_pos hk, hv]
  rfl
theorem RN.pfI {h : MH} {a ci f idx : Nat} {x : Int32} (hf : mm_fet mid pc = some (.putfield idx, 3, 0)) (hfl : mm_fld (mi_c (mm_of mid)) idx = some (ci, f)) (hk : hK h a = ci) (hfin : mm_isF ci f = false) (ht : mm_ty ci f = 0) (k : RN mid (pc + 3, Lo, st, putI h a f x, cu, su) R) : RN mid (pc, Lo, .int x :: .ref a :: st, h, cu, su) R := by
  refine RN.st ?_ k
  rw [mm_one_of hf]
  unfold mm_stp
  dsimp only
  rw [hfl]
  try dsimp only
  rw [if_pos ⟨hk, fun z => by rw [hfin] at z; cases z⟩, ht]
  rfl
theorem RN.pfZ {h : MH} {a ci f idx : Nat} {x : Int32} (hf : mm_fet mid pc = some (.putfield idx, 3, 0)) (hfl : mm_fld (mi_c (mm_of mid)) idx = some (ci, f)) (hk : hK h a = ci) (hfin : mm_isF ci f = false) (ht : mm_ty ci f = 1) (hx : x = 0 ∨ x = 1) (k : RN mid (pc + 3, Lo, st, putI h a f x, cu, su) R) : RN mid (pc, Lo, .int x :: .ref a :: st, h, cu, su) R := by
  refine RN.st ?_ k
  rw [mm_one_of hf]
  unfold mm_stp
  dsimp only
  rw [hfl]
  try dsimp only
  rw [if_pos ⟨hk, fun z => by rw [hfin] at z; cases z⟩, ht]
  show (if x = 0 ∨ x = 1 then mm_nx (pc + 3) Lo st (putI h a f x) cu su else none) = _
  rw [if_pos hx]
  rfl
end SUM
theorem sum_num (w : Nat → Nat) {s : Nat} (hs : isSum s) : RR w s 3 = some (s + 1) := by
  obtain ⟨-, -, -, -, -, h6, h7, -⟩ := hs
  show (if s = 113 then _ else _) = _
  rw [if_neg h6]; exact h7
theorem sum_fac (w : Nat → Nat) {s : Nat} (hs : isSum s) : RR w s 4 = some (s + 2) := by
  obtain ⟨-, -, -, -, -, h6, -, h8⟩ := hs
  show (if s = 113 then _ else _) = _
  rw [if_neg h6]; exact h8
theorem sum_l1 {L s : Nat} (hs : isSum s) : LL L (s + 1) = 4 := by
  obtain ⟨-, -, -, h4, -⟩ := hs
  show (if s + 1 = 0 then _ else _) = _
  rw [if_neg (by omega)]; exact h4
theorem sum_l2 {L s : Nat} (hs : isSum s) : LL L (s + 2) = 4 := by
  obtain ⟨-, -, -, -, h5, -⟩ := hs
  show (if s + 2 = 0 then _ else _) = _
  rw [if_neg (by omega)]; exact h5
theorem ev_restart (L : Nat) (I : Nat → Nat → Int32) (J : Nat → Nat → Int64) (w : Nat → Nat) (s : Nat) (hs : isSum s) (n : Int32) : EV m_Su_restart [.ref s, .int n] (hp L I J w) none (hp L (mm_up (mm_up I s 0 n) s 1 0) J w) := by
  unfold EV
  repeat (refine RN.st rfl ?_)
  refine RN.pfI rfl rfl hs.1 rfl rfl ?_
  repeat (refine RN.st rfl ?_)
  refine RN.pfI rfl rfl hs.1 rfl rfl ?_
  exact RN.ret rfl
theorem ev_timesOf (L : Nat) (I : Nat → Nat → Int32) (J : Nat → Nat → Int64) (w : Nat → Nat) (s : Nat) (hs : isSum s) (x : Int32) (n : Nat) (hn : n ≤ 4) (hsz : I s 1 = nI n) (r : Int32) (hr1 : ∀ i, i < n → I (s + 1) i = x → (∀ j, j < i → ¬ I (s + 1) j = x) → r = I (s + 2) i) (hr0 : (∀ i, i < n → ¬ I (s + 1) i = x) → r = 0) : EV m_Su_timesOf [.ref s, .int x] (hp L I J w) (some (.int r)) (hp L I J w) := by
  unfold EV
  repeat (refine RN.st rfl ?_)
  refine RN.get (v := .int (I s 1)) rfl rfl hs.1 rfl ?_
  refine RN.search (fun i => (7, [some (.ref s), some (.int x), some (.int (nI i))], [.int (I s 1), .int (nI i)], hp L I J w, 0, 0)) (fun i => I (s + 1) i = x) n (fun i hi hP hb => ?_) (fun i hi hP k => ?_) (fun hP => ?_)
  · refine RN.icf rfl (show ¬ I s 1 ≤ nI i from by rw [hsz]; exact nI_ge hi (by omega)) ?_
    repeat (refine RN.st rfl ?_)
    refine RN.get (v := .ref (s + 1)) rfl rfl hs.1 (congrArg mm_rv (sum_num w hs)) ?_
    repeat (refine RN.st rfl ?_)
    refine RN.iald rfl rfl (Or.inl hs.2.1) (show i < LL L (s + 1) by rw [sum_l1 hs]; omega) (show Nat.ble (LL L (s + 1)) 2560 = true by rw [sum_l1 hs]; rfl) ?_
    repeat (refine RN.st rfl ?_)
    refine RN.icf rfl (fun z => z hP) ?_
    repeat (refine RN.st rfl ?_)
    refine RN.get (v := .ref (s + 2)) rfl rfl hs.1 (congrArg mm_rv (sum_fac w hs)) ?_
    repeat (refine RN.st rfl ?_)
    refine RN.iald rfl rfl (Or.inl hs.2.2.1) (show i < LL L (s + 2) by rw [sum_l2 hs]; omega) (show Nat.ble (LL L (s + 2)) 2560 = true by rw [sum_l2 hs]; rfl) ?_
    rw [hr1 i hi hP hb]
    exact RN.ret rfl
  · refine RN.icf rfl (show ¬ I s 1 ≤ nI i from by rw [hsz]; exact nI_ge hi (by omega)) ?_
    repeat (refine RN.st rfl ?_)
    refine RN.get (v := .ref (s + 1)) rfl rfl hs.1 (congrArg mm_rv (sum_num w hs)) ?_
    repeat (refine RN.st rfl ?_)
    refine RN.iald rfl rfl (Or.inl hs.2.1) (show i < LL L (s + 1) by rw [sum_l1 hs]; omega) (show Nat.ble (LL L (s + 1)) 2560 = true by rw [sum_l1 hs]; rfl) ?_
    repeat (refine RN.st rfl ?_)
    refine RN.ict rfl hP ?_
    rw [nI_succ i] at k
    repeat (refine RN.st rfl ?_)
    refine RN.get (v := .int (I s 1)) rfl rfl hs.1 rfl ?_
    exact k
  · refine RN.ict rfl (show I s 1 ≤ nI n from by rw [hsz]; exact nI_le (Nat.le_refl _) (by omega)) ?_
    repeat (refine RN.st rfl ?_)
    rw [hr0 hP]
    exact RN.ret rfl
/-- a term put to a sum -/
def sm_put (I : Nat → Nat → Int32) (s n : Nat) (a b : Int32) : Nat → Nat → Int32 := mm_up (mm_up (mm_up I (s + 1) n a) (s + 2) n b) s 1 (nI (n + 1))
theorem ev_put (L : Nat) (I : Nat → Nat → Int32) (J : Nat → Nat → Int64) (w : Nat → Nat) (s : Nat) (hs : isSum s) (a b : Int32) (n : Nat) (hn : n < 4) (hsz : I s 1 = nI n) : EV m_Su_put [.ref s, .int a, .int b] (hp L I J w) none (hp L (sm_put I s n a b) J w) := by
  unfold EV
  repeat (refine RN.st rfl ?_)
  refine RN.get (v := .int (I s 1)) rfl rfl hs.1 rfl ?_
  repeat (refine RN.st rfl ?_)
  refine RN.icf rfl (show ¬ nI 4 ≤ I s 1 from by rw [hsz]; exact nI_ge hn (by omega)) ?_
  repeat (refine RN.st rfl ?_)
  refine RN.get (v := .ref (s + 1)) rfl rfl hs.1 (congrArg mm_rv (sum_num w hs)) ?_
  repeat (refine RN.st rfl ?_)
  refine RN.get (v := .int (I s 1)) rfl rfl hs.1 rfl ?_
  repeat (refine RN.st rfl ?_)
  refine RN.iast rfl hsz hs.2.1 (show n < LL L (s + 1) by rw [sum_l1 hs]; omega) (show Nat.ble (LL L (s + 1)) 2560 = true by rw [sum_l1 hs]; rfl) ?_
  have e1 : mm_up I (s + 1) n a s 1 = I s 1 := if_neg (fun z => by omega)
  repeat (refine RN.st rfl ?_)
  refine RN.get (v := .ref (s + 2)) rfl rfl hs.1 (congrArg mm_rv (sum_fac w hs)) ?_
  repeat (refine RN.st rfl ?_)
  refine RN.get (v := .int (I s 1)) rfl rfl hs.1 (congrArg Value.int e1) ?_
  repeat (refine RN.st rfl ?_)
  refine RN.iast rfl hsz hs.2.2.1 (show n < LL L (s + 2) by rw [sum_l2 hs]; omega) (show Nat.ble (LL L (s + 2)) 2560 = true by rw [sum_l2 hs]; rfl) ?_
  have e2 : mm_up (mm_up I (s + 1) n a) (s + 2) n b s 1 = I s 1 := (if_neg (fun z => by omega)).trans e1
  repeat (refine RN.st rfl ?_)
  refine RN.get (v := .int (I s 1)) rfl rfl hs.1 (congrArg Value.int e2) ?_
  repeat (refine RN.st rfl ?_)
  refine RN.pfI rfl rfl hs.1 rfl rfl ?_
  refine RN.ret ?_
  unfold sm_put
  rw [nI_succ, ← hsz]
  rfl
def sm_dg (I : Nat → Nat → Int32) (s : Nat) (h : Int64) : Nat → Int64 := fun m => fl (fun i x => 31 * (31 * x + (I (s + 1) i).toInt64) + (I (s + 2) i).toInt64) m (31 * (31 * h + (I s 0).toInt64) + (I s 1).toInt64)
theorem ev_smDigest (L : Nat) (I : Nat → Nat → Int32) (J : Nat → Nat → Int64) (w : Nat → Nat) (s : Nat) (hs : isSum s) (x : Int64) (n : Nat) (hn : n ≤ 4) (hsz : I s 1 = nI n) : EV m_Su_digestOnto [.ref s, .long x] (hp L I J w) (some (.long (sm_dg I s x n))) (hp L I J w) := by
  unfold EV
  repeat (refine RN.st rfl ?_)
  refine RN.get (v := .int (I s 0)) rfl rfl hs.1 rfl ?_
  repeat (refine RN.st rfl ?_)
  refine RN.get (v := .int (I s 1)) rfl rfl hs.1 rfl ?_
  repeat (refine RN.st rfl ?_)
  refine RN.get (v := .int (I s 1)) rfl rfl hs.1 rfl ?_
  refine RN.run (fun i => (31, [some (.ref s), some (.long x), none, some (.long (sm_dg I s x i)), none, some (.int (nI i))], [.int (I s 1), .int (nI i)], hp L I J w, 0, 0)) n (fun i hi kk => ?_) ?_
  · rw [nI_succ i] at kk
    refine RN.icf rfl (show ¬ I s 1 ≤ nI i from by rw [hsz]; exact nI_ge hi (by omega)) ?_
    repeat (refine RN.st rfl ?_)
    refine RN.get (v := .ref (s + 1)) rfl rfl hs.1 (congrArg mm_rv (sum_num w hs)) ?_
    repeat (refine RN.st rfl ?_)
    refine RN.iald rfl rfl (Or.inl hs.2.1) (show i < LL L (s + 1) by rw [sum_l1 hs]; omega) (show Nat.ble (LL L (s + 1)) 2560 = true by rw [sum_l1 hs]; rfl) ?_
    repeat (refine RN.st rfl ?_)
    refine RN.get (v := .ref (s + 2)) rfl rfl hs.1 (congrArg mm_rv (sum_fac w hs)) ?_
    repeat (refine RN.st rfl ?_)
    refine RN.iald rfl rfl (Or.inl hs.2.2.1) (show i < LL L (s + 2) by rw [sum_l2 hs]; omega) (show Nat.ble (LL L (s + 2)) 2560 = true by rw [sum_l2 hs]; rfl) ?_
    repeat (refine RN.st rfl ?_)
    refine RN.get (v := .int (I s 1)) rfl rfl hs.1 rfl ?_
    exact kk
  · refine RN.ict rfl (show I s 1 ≤ nI n from by rw [hsz]; exact nI_le (Nat.le_refl _) (by omega)) ?_
    repeat (refine RN.st rfl ?_)
    exact RN.ret rfl
end
section
/-! longs as whole numbers -/
def zJ (z : Int) : Int64 := Int64.ofInt z
theorem zJ_add (a b : Int) : zJ a + zJ b = zJ (a + b) := (Int64.ofInt_add a b).symm
theorem zJ_sub (a b : Int) : zJ a - zJ b = zJ (a - b) := (Int64.ofInt_sub a b).symm
theorem zJ_mul (a b : Int) : zJ a * zJ b = zJ (a * b) := (Int64.ofInt_mul a b).symm
theorem zJ_int {z : Int} (h1 : -2 ^ 63 ≤ z) (h2 : z < 2 ^ 63) : (zJ z).toInt = z := Int64.toInt_ofInt_of_le h1 h2
theorem zJ_of (x : Int64) : x = zJ x.toInt := (Int64.ofInt_toInt x).symm
theorem zJ_lt {a b : Int} (a1 : -2 ^ 63 ≤ a) (a2 : a < 2 ^ 63) (b1 : -2 ^ 63 ≤ b) (b2 : b < 2 ^ 63) : zJ a < zJ b ↔ a < b := by rw [Int64.lt_iff_toInt_lt, zJ_int a1 a2, zJ_int b1 b2]
theorem zJ_le {a b : Int} (a1 : -2 ^ 63 ≤ a) (a2 : a < 2 ^ 63) (b1 : -2 ^ 63 ≤ b) (b2 : b < 2 ^ 63) : zJ a ≤ zJ b ↔ a ≤ b := by rw [Int64.le_iff_toInt_le, zJ_int a1 a2, zJ_int b1 b2]
theorem zJ_eq {a b : Int} (a1 : -2 ^ 63 ≤ a) (a2 : a < 2 ^ 63) (b1 : -2 ^ 63 ≤ b) (b2 : b < 2 ^ 63) : zJ a = zJ b ↔ a = b := by rw [← Int64.toInt_inj, zJ_int a1 a2, zJ_int b1 b2]
theorem zJ_div {a b : Int} (a1 : -2 ^ 63 < a) (a2 : a < 2 ^ 63) (b1 : -2 ^ 63 ≤ b) (b2 : b < 2 ^ 63) : zJ a / zJ b = zJ (a.tdiv b) := by
  have hne : zJ a ≠ Int64.minValue := fun e => by
    have h := congrArg Int64.toInt e
    rw [zJ_int (by omega) a2] at h
    have : Int64.minValue.toInt = -2 ^ 63 := by decide
    omega
  rw [← Int64.toInt_inj, Int64.toInt_div_of_ne_left _ _ hne, zJ_int (by omega) a2, zJ_int b1 b2, zJ_int]
  · have h1 : (a.tdiv b).natAbs ≤ a.natAbs := by rw [Int.natAbs_tdiv]; exact Nat.div_le_self _ _
    omega
  · have h1 : (a.tdiv b).natAbs ≤ a.natAbs := by rw [Int.natAbs_tdiv]; exact Nat.div_le_self _ _
    omega
theorem zJ_rem {a b : Int} (a1 : -2 ^ 63 < a) (a2 : a < 2 ^ 63) (b1 : -2 ^ 63 ≤ b) (b2 : b < 2 ^ 63) : zJ a - zJ a / zJ b * zJ b = zJ (a.tmod b) := by
  rw [zJ_div a1 a2 b1 b2, zJ_mul, zJ_sub]
  congr 1
  have := Int.tmod_add_mul_tdiv a b
  rw [Int.mul_comm] at this
  omega
theorem zJ_remp {a b : Int} (a1 : 0 ≤ a) (a2 : a < 2 ^ 63) (b1 : 0 < b) (b2 : b < 2 ^ 63) : zJ a - zJ a / zJ b * zJ b = zJ (a % b) := by
  rw [zJ_rem (by omega) a2 (by omega) b2, Int.tmod_eq_emod_of_nonneg a1]
section LRULES
variable {mid pc : Nat} {Lo : ML} {st : List Value} {h : MH} {cu su : Nat} {R : MR}
theorem RN.lrem {x y : Int64} (hf : mm_fet mid pc = some (.lrem, 1, 0)) (hy : ¬ y = 0) (k : RN mid (pc + 1, Lo, .long (x - x / y * y) :: st, h, cu, su) R) : RN mid (pc, Lo, .long y :: .long x :: st, h, cu, su) R := by
  refine RN.st ?_ k
  rw [mm_one_of hf]
  show (match (if y = 0 then none else some (x - x / y * y) : Option Int64) with
    | some z => mm_nx (pc + 1) Lo (.long z :: st) h cu su
    | none => none) = _
  rw [if_neg hy]
  rfl
theorem RN.ldiv {x y : Int64} (hf : mm_fet mid pc = some (.ldiv, 1, 0)) (hy : ¬ y = 0) (k : RN mid (pc + 1, Lo, .long (x / y) :: st, h, cu, su) R) : RN mid (pc, Lo, .long y :: .long x :: st, h, cu, su) R := by
  refine RN.st ?_ k
  rw [mm_one_of hf]
  show (match (if y = 0 then none else some (x / y) : Option Int64) with
    | some z => mm_nx (pc + 1) Lo (.long z :: st) h cu su
    | none => none) = _
  rw [if_neg hy]
  rfl
theorem RN.irem {x y : Int32} (hf : mm_fet mid pc = some (.irem, 1, 0)) (hy : ¬ y = 0) (k : RN mid (pc + 1, Lo, .int (x - x / y * y) :: st, h, cu, su) R) : RN mid (pc, Lo, .int y :: .int x :: st, h, cu, su) R := by
  refine RN.st ?_ k
  rw [mm_one_of hf]
  show (match (if y = 0 then none else some (x - x / y * y) : Option Int32) with
    | some z => mm_nx (pc + 1) Lo (.int z :: st) h cu su
    | none => none) = _
  rw [if_neg hy]
  rfl
theorem RN.idiv {x y : Int32} (hf : mm_fet mid pc = some (.idiv, 1, 0)) (hy : ¬ y = 0) (k : RN mid (pc + 1, Lo, .int (x / y) :: st, h, cu, su) R) : RN mid (pc, Lo, .int y :: .int x :: st, h, cu, su) R := by
  refine RN.st ?_ k
  rw [mm_one_of hf]
  show (match (if y = 0 then none else some (x / y) : Option Int32) with
    | some z => mm_nx (pc + 1) Lo (.int z :: st) h cu su
    | none => none) = _
  rw [if_neg hy]
  rfl
end LRULES
theorem lc_ge {x y : Int64} : icP .ge (lg_cmp x y) 0 ↔ y ≤ x := lg_cmp_ge x y
theorem lc_lt {x y : Int64} : icP .lt (lg_cmp x y) 0 ↔ x < y := by
  show lg_cmp x y < 0 ↔ _
  unfold lg_cmp
  simp only [gt_iff_lt, Int64.lt_iff_toInt_lt, ← Int64.toInt_inj]
  repeat' split
  all_goals (simp; try omega)
theorem lc_eq {x y : Int64} : icP .eq (lg_cmp x y) 0 ↔ x = y := by
  show lg_cmp x y = 0 ↔ _
  unfold lg_cmp
  simp only [gt_iff_lt, Int64.lt_iff_toInt_lt, ← Int64.toInt_inj]
  repeat' split
  all_goals (simp; try omega)
theorem lc_ne {x y : Int64} : icP .ne (lg_cmp x y) 0 ↔ ¬ x = y := not_congr lc_eq
theorem lc_le {x y : Int64} : icP .le (lg_cmp x y) 0 ↔ x ≤ y := by
  show lg_cmp x y ≤ 0 ↔ _
  unfold lg_cmp
  simp only [gt_iff_lt, Int64.lt_iff_toInt_lt, Int64.le_iff_toInt_le, ← Int64.toInt_inj]
  repeat' split
  all_goals (simp; try omega)
theorem lc_gt {x y : Int64} : icP .gt (lg_cmp x y) 0 ↔ y < x := by
  show 0 < lg_cmp x y ↔ _
  unfold lg_cmp
  simp only [gt_iff_lt, Int64.lt_iff_toInt_lt, ← Int64.toInt_inj]
  repeat' split
  all_goals (simp; try omega)
/-! Clock.remainder -/
theorem ev_rem (h : MH) (v p : Int) (hp2 : 2 ≤ p) (hpx : p < 2 ^ 62) (v1 : -2 ^ 62 < v) (v2 : v < 2 ^ 62) : EV m_Ck_remainder [.long (zJ v), .long (zJ p)] h (some (.long (zJ (v % p)))) h := by
  unfold EV
  repeat (refine RN.st rfl ?_)
  refine RN.ift rfl (lc_ge.mpr (show zJ 2 ≤ zJ p from (zJ_le (by omega) (by omega) (by omega) (by omega)).mpr hp2)) ?_
  repeat (refine RN.st rfl ?_)
  refine RN.lrem rfl (fun z => by have := (zJ_eq (a := p) (b := 0) (by omega) (by omega) (by omega) (by omega)).mp z; omega) ?_
  rw [zJ_rem (by omega) (by omega) (by omega) (by omega)]
  have hm := Int.emod_nonneg v (show p ≠ 0 by omega)
  have hm2 := Int.emod_lt_of_pos v (show 0 < p by omega)
  have ht : v.tmod p = v % p ∨ (v.tmod p = v % p - p ∧ v.tmod p < 0) := by
    by_cases hv : 0 ≤ v
    · exact Or.inl (Int.tmod_eq_emod_of_nonneg hv)
    · have h1 := Int.tmod_eq_emod (a := v) (b := p)
      by_cases hd : p ∣ v
      · left
        rw [h1]
        simp [hd]
      · right
        have h2 : v.tmod p = v % p - p.natAbs := by rw [h1]; simp [hd, hv]
        have h3 : (p.natAbs : Int) = p := Int.natAbs_of_nonneg (by omega)
        rw [h3] at h2
        exact ⟨h2, by omega⟩
  rcases ht with ht | ⟨ht, hneg⟩
  · repeat (refine RN.st rfl ?_)
    refine RN.ift rfl (lc_ge.mpr (show zJ 0 ≤ zJ (v.tmod p) from (zJ_le (by omega) (by omega) (by omega) (by omega)).mpr (by omega))) ?_
    repeat (refine RN.st rfl ?_)
    rw [← ht]
    exact RN.ret rfl
  · repeat (refine RN.st rfl ?_)
    refine RN.iff rfl (fun z => by have := (zJ_le (a := 0) (b := v.tmod p) (by omega) (by omega) (by omega) (by omega)).mp (lc_ge.mp z); omega) ?_
    repeat (refine RN.st rfl ?_)
    refine RN.ret ?_
    rw [show v % p = v.tmod p + p by omega, ← zJ_add]
    rfl
end
section
/-! Clock.inverse, Clock.addTimes -/
def fb : Nat → Nat
  | 0 => 0
  | 1 => 1
  | n + 2 => fb n + fb (n + 1)
/-- what holds of Euclid's numbers behind i steps -/
def eu_I (v p : Int) (i : Nat) (o n ot nt : Int) : Prop := ∃ a b : Int, ((ot = -a ∧ nt = b) ∨ (ot = a ∧ nt = -b)) ∧ 0 ≤ a ∧ a ≤ b ∧ (fb i : Int) ≤ a ∧ (fb (i + 1) : Int) ≤ b ∧ o * b + n * a = p ∧ 0 ≤ n ∧ n < o ∧ (∃ k, o = ot * v + k * p) ∧ (∃ k, n = nt * v + k * p) ∧ Int.gcd o n = 1
theorem eu_0 {v p : Int} (h0 : 0 < v) (h1 : v < p) (hg : Int.gcd v p = 1) : eu_I v p 0 p v 0 1 := by
  refine ⟨0, 1, Or.inl ⟨rfl, rfl⟩, by omega, by omega, ?_, ?_, by omega, by omega, h1, ⟨1, by omega⟩, ⟨0, by omega⟩, ?_⟩
  · show ((0 : Nat) : Int) ≤ 0; omega
  · show ((1 : Nat) : Int) ≤ 1; omega
  · rw [Int.gcd_comm]; exact hg
theorem eu_s {v p : Int} {i : Nat} {o n ot nt : Int} (h : eu_I v p i o n ot nt) (hn : 0 < n) : eu_I v p (i + 1) n (o - o / n * n) nt (ot - o / n * nt) := by
  obtain ⟨a, b, hs, ha, hab, hf1, hf2, hp, hn0, hno, ⟨k1, hk1⟩, ⟨k2, hk2⟩, hg⟩ := h
  have hq : 1 ≤ o / n := (Int.le_ediv_iff_mul_le hn).mpr (by omega)
  have hr : o - o / n * n = o % n := by
    have := Int.mul_ediv_add_emod o n
    rw [Int.mul_comm] at this
    omega
  have hr0 := Int.emod_nonneg o (show n ≠ 0 by omega)
  have hr1 := Int.emod_lt_of_pos o hn
  have hqb : b ≤ o / n * b := by
    have := Int.mul_le_mul_of_nonneg_right hq (show 0 ≤ b by omega)
    omega
  refine ⟨b, a + o / n * b, ?_, by omega, by omega, hf2, ?_, ?_, by omega, by omega, ⟨k2, hk2⟩, ⟨k1 - o / n * k2, ?_⟩, ?_⟩
  · rcases hs with ⟨rfl, rfl⟩ | ⟨rfl, rfl⟩
    · exact Or.inr ⟨rfl, by omega⟩
    · refine Or.inl ⟨rfl, ?_⟩
      rw [Int.mul_neg]; omega
  · show ((fb i + fb (i + 1) : Nat) : Int) ≤ _
    omega
  · rw [Int.mul_add, Int.sub_mul, Int.add_assoc]
    have : n * (o / n * b) = o / n * n * b := by rw [Int.mul_comm n, Int.mul_assoc, Int.mul_comm b n, ← Int.mul_assoc]
    rw [this]
    omega
  · rw [Int.sub_mul, Int.sub_mul]
    have e1 : o / n * n = o / n * (nt * v + k2 * p) := by rw [← hk2]
    rw [e1, Int.mul_add, ← Int.mul_assoc, ← Int.mul_assoc]
    omega
  · have e9 := Int.gcd_add_mul_right_left n (o - o / n * n) (o / n)
    rw [show o - o / n * n + o / n * n = o by omega, hg] at e9
    rw [Int.gcd_comm]
    exact e9.symm
theorem eu_end {v p : Int} {i : Nat} {o ot nt : Int} (h0 : 0 < v) (h1 : v < p) (h : eu_I v p i o 0 ot nt) : 0 ≤ (if ot < 0 then ot + p else ot) ∧ (if ot < 0 then ot + p else ot) < p ∧ ∃ k, (if ot < 0 then ot + p else ot) * v = 1 + k * p := by
  obtain ⟨a, b, hs, ha, hab, hf1, hf2, hp, hn0, hno, ⟨k1, hk1⟩, -, hg⟩ := h
  have ho : o = 1 := by
    rw [Int.gcd_zero_right] at hg
    omega
  subst ho
  have hbp : b = p := by omega
  have hap : a ≠ p := by
    intro e
    have : ∃ c, 1 = c * p := by
      rcases hs with ⟨rfl, -⟩ | ⟨rfl, -⟩
      · exact ⟨-v + k1, by rw [Int.add_mul, hk1, e, Int.neg_mul, Int.neg_mul, Int.mul_comm p v]⟩
      · exact ⟨v + k1, by rw [Int.add_mul, hk1, e, Int.mul_comm p v]⟩
    obtain ⟨c, hc⟩ := this
    have h2 : 2 ≤ p := by omega
    have : c ≤ 0 ∨ 1 ≤ c := by omega
    rcases this with h3 | h3
    · have := Int.mul_le_mul_of_nonneg_right h3 (show 0 ≤ p by omega)
      omega
    · have := Int.mul_le_mul_of_nonneg_right h3 (show 0 ≤ p by omega)
      omega
  have hlt : -p < ot ∧ ot < p := by
    rcases hs with ⟨rfl, -⟩ | ⟨rfl, -⟩ <;> omega
  by_cases hot : ot < 0
  · rw [if_pos hot]
    refine ⟨by omega, by omega, v - k1, ?_⟩
    rw [Int.add_mul, Int.sub_mul, Int.mul_comm p v]
    omega
  · rw [if_neg hot]
    refine ⟨by omega, by omega, -k1, ?_⟩
    rw [Int.neg_mul]
    omega
theorem fb65 : 2 ^ 31 < fb 65 := by decide +kernel
theorem ev_inv_loop (h : MH) (v p : Int) (h1 : v < p) (hpx : p < 2 ^ 31) (h0 : 0 < v) : ∀ (d i : Nat) (o n ot nt : Int) (v13 v15 v17 : Option Value), i + d = 64 → eu_I v p i o n ot nt → ∃ r : Int, (0 ≤ r ∧ r < p ∧ ∃ k, r * v = 1 + k * p) ∧ RN m_Ck_inverse (19, [some (.long (zJ v)), none, some (.long (zJ p)), none, some (.long (zJ o)), none, some (.long (zJ n)), none, some (.long (zJ ot)), none, some (.long (zJ nt)), none, some (.int (nI i)), v13, none, v15, none, v17, none], [.int (nI 64), .int (nI i)], h, 0, 0) (some (.long (zJ r)), h)
  | 0, i, o, n, ot, nt, v13, v15, v17, hi, hI => by
    exfalso
    obtain rfl : i = 64 := by omega
    obtain ⟨a, b, -, ha, hab, hf1, hf2, hp, hn0, hno, -⟩ := hI
    have h3 : (fb 65 : Int) ≤ b := hf2
    have h4 := fb65
    have h5 : b ≤ o * b := by
      have := Int.mul_le_mul_of_nonneg_right (show (1 : Int) ≤ o by omega) (show 0 ≤ b by omega)
      omega
    have h6 : 0 ≤ n * a := Int.mul_nonneg hn0 ha
    omega
  | d + 1, i, o, n, ot, nt, v13, v15, v17, hi, hI => by
    have hI2 := hI
    obtain ⟨a, b, hs, ha, hab, hf1, hf2, hp, hn0, hno, -⟩ := hI2
    have h5 : b ≤ o * b := by
      have := Int.mul_le_mul_of_nonneg_right (show (1 : Int) ≤ o by omega) (show 0 ≤ b by omega)
      omega
    have h6 : 0 ≤ n * a := Int.mul_nonneg hn0 ha
    have hb1 : 1 ≤ b := by
      have : 1 ≤ fb (i + 1) := by
        have : ∀ k, 1 ≤ fb (k + 1) := by
          intro k
          induction k with
          | zero => decide
          | succ k ih => show 1 ≤ fb k + fb (k + 1); omega
        exact this i
      omega
    have hop : o ≤ p := by
      have := Int.mul_le_mul_of_nonneg_left hb1 (show 0 ≤ o by omega)
      omega
    by_cases hn : 0 < n
    · obtain ⟨r, hrr, ih⟩ := ev_inv_loop h v p h1 hpx h0 d (i + 1) n (o - o / n * n) nt (ot - o / n * nt) (some (.long (zJ (o / n)))) (some (.long (zJ (o - o / n * n)))) (some (.long (zJ (ot - o / n * nt)))) (by omega) (eu_s hI hn)
      refine ⟨r, hrr, ?_⟩
      refine RN.icf rfl (nI_ge (show i < 64 by omega) (by omega)) ?_
      repeat (refine RN.st rfl ?_)
      refine RN.iff rfl (fun z => by have := (zJ_le (a := n) (b := 0) (by omega) (by omega) (by omega) (by omega)).mp (lc_le.mp z); omega) ?_
      repeat (refine RN.st rfl ?_)
      refine RN.ldiv rfl (fun z => by have := (zJ_eq (a := n) (b := 0) (by omega) (by omega) (by omega) (by omega)).mp z; omega) ?_
      rw [zJ_div (by omega) (by omega) (by omega) (by omega), Int.tdiv_eq_ediv_of_nonneg (by omega)]
      rw [nI_succ i, ← zJ_sub, ← zJ_sub, ← zJ_mul, ← zJ_mul] at ih
      iterate 13 (refine RN.st rfl ?_)
      show RN m_Ck_inverse (56, [some (.long (zJ v)), none, some (.long (zJ p)), none, some (.long (zJ o)), none, some (.long (zJ n)), none, some (.long (zJ ot)), none, some (.long (zJ nt)), none, some (.int (nI i)), some (.long (zJ (o / n))), none, some (.long (zJ o - zJ (o / n) * zJ n)), none, some (.long (zJ ot - zJ (o / n) * zJ nt)), none], [], h, 0, 0) _
      iterate 4 (refine RN.st rfl ?_)
      show RN m_Ck_inverse (64, [some (.long (zJ v)), none, some (.long (zJ p)), none, some (.long (zJ n)), none, some (.long (zJ o - zJ (o / n) * zJ n)), none, some (.long (zJ ot)), none, some (.long (zJ nt)), none, some (.int (nI i)), some (.long (zJ (o / n))), none, some (.long (zJ o - zJ (o / n) * zJ n)), none, some (.long (zJ ot - zJ (o / n) * zJ nt)), none], [], h, 0, 0) _
      iterate 4 (refine RN.st rfl ?_)
      show RN m_Ck_inverse (72, [some (.long (zJ v)), none, some (.long (zJ p)), none, some (.long (zJ n)), none, some (.long (zJ o - zJ (o / n) * zJ n)), none, some (.long (zJ nt)), none, some (.long (zJ ot - zJ (o / n) * zJ nt)), none, some (.int (nI i)), some (.long (zJ (o / n))), none, some (.long (zJ o - zJ (o / n) * zJ n)), none, some (.long (zJ ot - zJ (o / n) * zJ nt)), none], [], h, 0, 0) _
      iterate 4 (refine RN.st rfl ?_)
      exact ih
    · obtain rfl : n = 0 := by omega
      refine ⟨if ot < 0 then ot + p else ot, eu_end h0 h1 hI, ?_⟩
      refine RN.icf rfl (nI_ge (show i < 64 by omega) (by omega)) ?_
      repeat (refine RN.st rfl ?_)
      by_cases hot : ot < 0
      · rw [if_pos hot]
        refine RN.iff rfl (fun z => by have := (zJ_le (a := 0) (b := ot) (by omega) (by omega) (by omega) (by omega)).mp (lc_ge.mp z); omega) ?_
        rw [← zJ_add]
        repeat (refine RN.st rfl ?_)
        exact RN.ret rfl
      · rw [if_neg hot]
        refine RN.ift rfl (lc_ge.mpr (show zJ 0 ≤ zJ ot from (zJ_le (by omega) (by omega) (by omega) (by omega)).mpr (by omega))) ?_
        repeat (refine RN.st rfl ?_)
        exact RN.ret rfl
/-- the inverse that Clock finds -/
theorem ev_inv (h : MH) (v p : Int) (h0 : 0 < v) (h1 : v < p) (hpx : p < 2 ^ 31) (hg : Int.gcd v p = 1) : ∃ r : Int, 0 ≤ r ∧ r < p ∧ (∃ k, r * v = 1 + k * p) ∧ EV m_Ck_inverse [.long (zJ v), .long (zJ p)] h (some (.long (zJ r))) h := by
  obtain ⟨r, ⟨r1, r2, r3⟩, hk⟩ := ev_inv_loop h v p h1 hpx h0 64 0 p v 0 1 none none none (by omega) (eu_0 h0 h1 hg)
  refine ⟨r, r1, r2, r3, ?_⟩
  unfold EV
  iterate 8 (refine RN.st rfl ?_)
  show RN m_Ck_inverse (12, [some (.long (zJ v)), none, some (.long (zJ p)), none, some (.long (zJ p)), none, some (.long (zJ v)), none, some (.long (zJ 0)), none, some (.long (zJ 1)), none, none, none, none, none, none, none, none], [], h, 0, 0) _
  iterate 4 (refine RN.st rfl ?_)
  exact hk
end
section
/-! Clock.addTimes -/
section ALEN
variable {mid pc : Nat} {Lo : ML} {st : List Value} {h : MH} {cu su : Nat} {R : MR}
theorem RN.alen {a n : Nat} (hf : mm_fet mid pc = some (.arraylength, 1, 0)) (hk : (9 ≤ hK h a ∧ hK h a ≤ 15) ∨ hK h a = 20 ∨ hK h a = 21) (hn : hL h a = n) (k : RN mid (pc + 1, Lo, .int (nI n) :: st, h, cu, su) R) : RN mid (pc, Lo, .ref a :: st, h, cu, su) R := by
  refine RN.st ?_ k
  rw [mm_one_of hf]
  show (if (9 ≤ hK h a ∧ hK h a ≤ 15) ∨ hK h a = 20 ∨ hK h a = 21 then _ else none) = _
  rw [if_pos hk, hn]
  rfl
end ALEN
theorem nI_range {a b : Nat} (ha : a < 2 ^ 31) (hb : b < 2 ^ 31) : (nI a < nI b ↔ a < b) ∧ (nI a ≤ nI b ↔ a ≤ b) := ⟨nI_ltI ha hb, nI_leI ha hb⟩
theorem ev_addTimes (L : Nat) (I : Nat → Nat → Int32) (J : Nat → Nat → Int64) (w : Nat → Nat) (a b la lb : Nat) (hab : a ≠ b) (ka : KK a = 10) (kb : KK b = 10) (hla : LL L a = la) (hlb : LL L b = lb) (l1 : la ≤ 33) (l2 : lb ≤ 33) (f0 e0 : Nat) (hfe : f0 ≤ e0) (he1 : e0 ≤ la) (he2 : e0 ≤ lb) (x y : Nat → Int) (f p : Int) (hp2 : 2 ≤ p) (hpx : p < 2 ^ 31) (hf0 : 0 ≤ f) (hfp : f ≤ p) (hx : ∀ c, c < e0 → J a c = zJ (x c) ∧ 0 ≤ x c ∧ x c < p) (hy : ∀ c, c < e0 → J b c = zJ (y c) ∧ 0 ≤ y c ∧ y c < p) : EV m_Ck_addTimes [.ref a, .ref b, .long (zJ f), .long (zJ p), .int (nI f0), .int (nI e0)] (hp L I J w) none (hp L I (mm_row J a (fun c => if f0 ≤ c ∧ c < e0 then zJ ((x c + f * y c) % p) else J a c)) w) := by
  unfold EV
  repeat (refine RN.st rfl ?_)
  refine RN.iff rfl (fun z => by have := (zJ_lt (a := p) (b := 2) (by omega) (by omega) (by omega) (by omega)).mp (lc_lt.mp z); omega) ?_
  iterate 1 (refine RN.st rfl ?_)
  refine RN.iff rfl (show ¬ nI f0 < 0 from nI_pos (by omega)) ?_
  iterate 2 (refine RN.st rfl ?_)
  refine RN.alen rfl (Or.inl ⟨by show 9 ≤ KK a; omega, by show KK a ≤ 15; omega⟩) hla ?_
  refine RN.icf rfl (show ¬ nI la < nI e0 from nI_nlt he1 (by omega)) ?_
  iterate 2 (refine RN.st rfl ?_)
  refine RN.alen rfl (Or.inl ⟨by show 9 ≤ KK b; omega, by show KK b ≤ 15; omega⟩) hlb ?_
  refine RN.ict rfl (show nI e0 ≤ nI lb from nI_le he2 (by omega)) ?_
  iterate 4 (refine RN.st rfl ?_)
  have e0' : J = mm_row J a (fun c => if f0 ≤ c ∧ c < f0 + 0 then zJ ((x c + f * y c) % p) else J a c) := by
    rw [show (fun c => if f0 ≤ c ∧ c < f0 + 0 then zJ ((x c + f * y c) % p) else J a c) = J a from funext fun c => if_neg (by omega), mm_row_self]
  have key := RN.run (mid := m_Ck_addTimes) (R := (none, hp L I (mm_row J a (fun c => if f0 ≤ c ∧ c < e0 then zJ ((x c + f * y c) % p) else J a c)) w)) (fun i => (37, [some (.ref a), some (.ref b), some (.long (zJ f)), none, some (.long (zJ p)), none, some (.int (nI f0)), some (.int (nI e0)), some (.int (nI (f0 + i)))], [.int (nI e0), .int (nI (f0 + i))], hp L I (mm_row J a (fun c => if f0 ≤ c ∧ c < f0 + i then zJ ((x c + f * y c) % p) else J a c)) w, 0, 0)) (e0 - f0) (fun i hi k => ?_) ?_
  · rw [← e0'] at key
    exact key
  · obtain ⟨x1, x2, x3⟩ := hx (f0 + i) (by omega)
    obtain ⟨y1, y2, y3⟩ := hy (f0 + i) (by omega)
    have hfy : 0 ≤ f * y (f0 + i) := Int.mul_nonneg hf0 y2
    have hfy2 : f * y (f0 + i) ≤ 2 ^ 31 * 2 ^ 31 := Int.mul_le_mul (by omega) (by omega) y2 (by omega)
    refine RN.icf rfl (nI_ge (by omega) (by omega)) ?_
    iterate 4 (refine RN.st rfl ?_)
    refine RN.lald (k := f0 + i) rfl rfl (Or.inl ka) (show f0 + i < LL L a by omega) (show Nat.ble (LL L a) 2560 = true by rw [hla]; exact Nat.ble_eq_true_of_le (by omega)) ?_
    rw [show hJ (hp L I (mm_row J a (fun c => if f0 ≤ c ∧ c < f0 + i then zJ ((x c + f * y c) % p) else J a c)) w) a (f0 + i) = zJ (x (f0 + i)) from (mm_row_at J a (fun c => if f0 ≤ c ∧ c < f0 + i then zJ ((x c + f * y c) % p) else J a c) (f0 + i)).trans ((if_neg (by omega)).trans x1)]
    iterate 3 (refine RN.st rfl ?_)
    refine RN.lald (k := f0 + i) rfl rfl (Or.inl kb) (show f0 + i < LL L b by omega) (show Nat.ble (LL L b) 2560 = true by rw [hlb]; exact Nat.ble_eq_true_of_le (by omega)) ?_
    rw [show hJ (hp L I (mm_row J a (fun c => if f0 ≤ c ∧ c < f0 + i then zJ ((x c + f * y c) % p) else J a c)) w) b (f0 + i) = zJ (y (f0 + i)) from (mm_row_off J (fun c => if f0 ≤ c ∧ c < f0 + i then zJ ((x c + f * y c) % p) else J a c) (f0 + i) (Ne.symm hab)).trans y1]
    iterate 3 (refine RN.st rfl ?_)
    rw [zJ_mul, zJ_add]
    refine RN.lrem rfl (fun z => by have := (zJ_eq (a := p) (b := 0) (by omega) (by omega) (by omega) (by omega)).mp z; omega) ?_
    rw [zJ_remp (by omega) (by omega) (by omega) (by omega)]
    refine RN.last (k := f0 + i) rfl rfl ka (show f0 + i < LL L a by omega) (show Nat.ble (LL L a) 2560 = true by rw [hla]; exact Nat.ble_eq_true_of_le (by omega)) ?_
    have e1 : mm_up (mm_row J a (fun c => if f0 ≤ c ∧ c < f0 + i then zJ ((x c + f * y c) % p) else J a c)) a (f0 + i) (zJ ((x (f0 + i) + f * y (f0 + i)) % p)) = mm_row J a (fun c => if f0 ≤ c ∧ c < f0 + (i + 1) then zJ ((x c + f * y c) % p) else J a c) := by
      rw [mm_row_up]
      apply mm_row_congr
      intro c
      by_cases hc : c = f0 + i
      · subst hc
        rw [if_pos rfl, if_pos (by omega)]
      · rw [if_neg hc]
        by_cases h2 : f0 ≤ c ∧ c < f0 + i
        · rw [if_pos h2, if_pos (by omega)]
        · rw [if_neg h2, if_neg (by omega)]
    rw [← e1] at k
    rw [show f0 + (i + 1) = f0 + i + 1 by omega, nI_succ] at k
    iterate 4 (refine RN.st rfl ?_)
    exact k
  · rw [show f0 + (e0 - f0) = e0 by omega]
    refine RN.ict rfl (nI_le (Nat.le_refl _) (by omega)) ?_
    exact RN.ret rfl
end
section
/-! Limbs -/
theorem zJ_shr {z : Int} (h1 : -2 ^ 63 ≤ z) (h2 : z < 2 ^ 63) (s : Int64) (k : Nat) (hs : (s.toBitVec.smod 64).toNat = k) : zJ z >>> s = zJ (z / 2 ^ k) := by
  have e : (zJ z >>> s).toInt = z >>> k := by
    show ((zJ z).toBitVec.sshiftRight (s.toBitVec.smod 64).toNat).toInt = _
    rw [hs, BitVec.toInt_sshiftRight]
    show (zJ z).toInt >>> k = _
    rw [zJ_int h1 h2]
  rw [← Int64.toInt_inj, e, Int.shiftRight_eq_div_pow]
  have hk : (1 : Int) ≤ 2 ^ k := by
    have : (0 : Int) < 2 ^ k := Int.pow_pos (by omega)
    omega
  have hq : -2 ^ 63 ≤ z / 2 ^ k ∧ z / 2 ^ k < 2 ^ 63 := by
    constructor
    · rw [Int.le_ediv_iff_mul_le (by omega)]
      have : -2 ^ 63 * 2 ^ k ≤ -2 ^ 63 * (1 : Int) := Int.mul_le_mul_of_nonpos_left (by omega) hk
      omega
    · rw [Int.ediv_lt_iff_lt_mul (by omega)]
      have : (2 : Int) ^ 63 * 1 ≤ 2 ^ 63 * 2 ^ k := Int.mul_le_mul_of_nonneg_left hk (by omega)
      omega
  rw [zJ_int hq.1 hq.2]
  congr 1
theorem zJ_and {z : Int} (k : Nat) (hk : k < 63) (m : Int64) (hm : m.toBitVec.toNat = 2 ^ k - 1) : zJ z &&& m = zJ (z % 2 ^ k) := by
  have hk0 : (0 : Int) < 2 ^ k := Int.pow_pos (by omega)
  have hkk : (2 : Int) ^ k ≤ 2 ^ 62 := by
    have : (2 : Nat) ^ k ≤ 2 ^ 62 := Nat.pow_le_pow_right (by omega) (by omega)
    exact_mod_cast this
  have r0 := Int.emod_nonneg z (show (2 : Int) ^ k ≠ 0 by omega)
  have r1 := Int.emod_lt_of_pos z hk0
  have e1 : (zJ z &&& m).toBitVec.toNat = (z % 2 ^ k).toNat := by
    show ((zJ z).toBitVec &&& m.toBitVec).toNat = _
    rw [BitVec.toNat_and, hm, Nat.and_two_pow_sub_one_eq_mod]
    show (BitVec.ofInt 64 z).toNat % 2 ^ k = _
    rw [BitVec.toNat_ofInt]
    have e2 : z % 2 ^ k = (z % (2 ^ 64 : Nat)) % 2 ^ k := by
      rw [Int.emod_emod_of_dvd]
      refine ⟨2 ^ (64 - k), ?_⟩
      have : (2 : Int) ^ k * 2 ^ (64 - k) = 2 ^ 64 := by rw [← Int.pow_add, show k + (64 - k) = 64 by omega]
      rw [this]
      rfl
    rw [e2, Int.toNat_emod (Int.emod_nonneg _ (by decide)) (by omega)]
    congr 1
  have e3 : (zJ (z % 2 ^ k)).toBitVec.toNat = (z % 2 ^ k).toNat := by
    show (BitVec.ofInt 64 (z % 2 ^ k)).toNat = _
    rw [BitVec.toNat_ofInt, Int.emod_eq_of_lt r0 (by have : ((2 ^ 64 : Nat) : Int) = 2 ^ 64 := rfl; omega)]
  exact Int64.toBitVec.inj (BitVec.eq_of_toNat_eq (e1.trans e3.symm))
def dg (V i : Nat) : Nat := V / 1073741824 ^ i % 1073741824
theorem dg_lt (V i : Nat) : dg V i < 1073741824 := Nat.mod_lt _ (by decide)
/-- the row a holds V -/
def lm (J : Nat → Nat → Int64) (a V : Nat) : Nat → Nat → Int64 := mm_row J a (fun i => if i < 5 then zJ (dg V i) else J a i)
abbrev isL (a : Nat) : Prop := KK a = 10 ∧ hp_l.getD a 0 = 5 ∧ a ≠ 0
theorem isL_l {L a : Nat} (h : isL a) : LL L a = 5 := (if_neg h.2.2).trans h.2.1
theorem isL_b {L a : Nat} (h : isL a) : Nat.ble (LL L a) 2560 = true := by rw [isL_l h]; rfl
theorem lm_at (J : Nat → Nat → Int64) (a V : Nat) {i : Nat} (hi : i < 5) : lm J a V a i = zJ (dg V i) := (mm_row_at J a _ i).trans (if_pos hi)
theorem lm_off (J : Nat → Nat → Int64) {a c : Nat} (V i : Nat) (h : c ≠ a) : lm J a V c i = J c i := mm_row_off J _ i h
theorem lm_lm (J : Nat → Nat → Int64) (a V W : Nat) : lm (lm J a V) a W = lm J a W := by
  unfold lm
  rw [mm_row_row]
  apply mm_row_congr
  intro i
  by_cases h : i < 5
  · rw [if_pos h, if_pos h]
  · rw [if_neg h, if_neg h, mm_row_at, if_neg h]
/-- the row, as it is while it is written from below: i limbs of W, the others as they were -/
def lmi (J : Nat → Nat → Int64) (a W i : Nat) : Nat → Nat → Int64 := mm_row J a (fun j => if j < i then zJ (dg W j) else J a j)
theorem lmi_0 (J : Nat → Nat → Int64) (a W : Nat) : lmi J a W 0 = J := by
  unfold lmi
  rw [show (fun j => if j < 0 then zJ (dg W j) else J a j) = J a from funext fun j => if_neg (Nat.not_lt_zero j), mm_row_self]
theorem lmi_s (J : Nat → Nat → Int64) (a W i : Nat) : mm_up (lmi J a W i) a i (zJ (dg W i)) = lmi J a W (i + 1) := by
  unfold lmi
  rw [mm_row_up]
  apply mm_row_congr
  intro j
  by_cases hj : j = i
  · subst hj; rw [if_pos rfl, if_pos (by omega)]
  · rw [if_neg hj]
    by_cases h2 : j < i
    · rw [if_pos h2, if_pos (by omega)]
    · rw [if_neg h2, if_neg (by omega)]
theorem lmi_5 (J : Nat → Nat → Int64) (a W : Nat) : lmi J a W 5 = lm J a W := rfl
theorem lmi_lm (J : Nat → Nat → Int64) (a V W : Nat) : lmi (lm J a V) a W 5 = lm J a W := by rw [lmi_5, lm_lm]
theorem lmi_at (J : Nat → Nat → Int64) (a W i : Nat) : lmi J a W i a i = J a i := (mm_row_at J a _ i).trans (if_neg (by omega))
theorem lmi_off (J : Nat → Nat → Int64) {a c : Nat} (W i j : Nat) (h : c ≠ a) : lmi J a W i c j = J c j := mm_row_off J _ j h
theorem dg_0 (i : Nat) : dg 0 i = 0 := by unfold dg; rw [Nat.zero_div]
theorem ev_clear (L : Nat) (I : Nat → Nat → Int32) (J : Nat → Nat → Int64) (w : Nat → Nat) (a : Nat) (ha : isL a) : EV m_Li_clear [.ref a] (hp L I J w) none (hp L I (lm J a 0) w) := by
  unfold EV
  iterate 4 (refine RN.st rfl ?_)
  have key := RN.run (mid := m_Li_clear) (R := (none, hp L I (lm J a 0) w)) (fun i => (4, [some (.ref a), some (.int (nI i))], [.int (nI 5), .int (nI i)], hp L I (lmi J a 0 i) w, 0, 0)) 5 (fun i hi k => ?_) ?_
  · rw [lmi_0] at key
    exact key
  · rw [nI_succ, ← lmi_s, dg_0] at k
    refine RN.icf rfl (nI_ge hi (by omega)) ?_
    iterate 3 (refine RN.st rfl ?_)
    refine RN.last rfl rfl ha.1 (show i < LL L a by rw [isL_l ha]; exact hi) (isL_b ha) ?_
    iterate 4 (refine RN.st rfl ?_)
    exact k
  · refine RN.ict rfl (nI_le (Nat.le_refl _) (by omega)) ?_
    exact RN.ret rfl
theorem lj_0 : Int64.ofNat ((0 : Fin 2) : Nat) = zJ 0 := rfl
/-- how many limbs are used -/
def us (V : Nat) : Nat → Nat
  | 0 => 0
  | n + 1 => if dg V n = 0 then us V n else n + 1
theorem ev_used_loop (L : Nat) (I : Nat → Nat → Int32) (J : Nat → Nat → Int64) (w : Nat → Nat) (a V : Nat) (ha : isL a) : ∀ q, q ≤ 5 → RN m_Li_used (3, [some (.ref a), some (.int (nI q))], [.int (nI q)], hp L I (lm J a V) w, 0, 0) (some (.int (nI (us V q))), hp L I (lm J a V) w)
  | 0, _ => by
    refine RN.ift rfl (show nI 0 ≤ 0 by decide) ?_
    repeat (refine RN.st rfl ?_)
    exact RN.ret rfl
  | q + 1, hq => by
    have ih := ev_used_loop L I J w a V ha q (by omega)
    refine RN.iff rfl (show ¬ nI (q + 1) ≤ 0 from nI_nle (by omega) (by omega)) ?_
    iterate 4 (refine RN.st rfl ?_)
    refine RN.lald (k := q) rfl (nI_pred q) (Or.inl ha.1) (show q < LL L a by rw [isL_l ha]; omega) (isL_b ha) ?_
    rw [show hJ (hp L I (lm J a V) w) a q = zJ (dg V q) from lm_at J a V (by omega)]
    iterate 2 (refine RN.st rfl ?_)
    have hd := dg_lt V q
    by_cases q2 : dg V q = 0
    · have e : us V (q + 1) = us V q := if_pos q2
      rw [e]
      refine RN.ift rfl (lc_eq.mpr (show zJ (dg V q) = zJ 0 by rw [q2]; rfl)) ?_
      iterate 2 (refine RN.st rfl ?_)
      rw [show nI (q + 1) + Int32.ofInt (-1) = nI q from pk_m1' q]
      iterate 1 (refine RN.st rfl ?_)
      exact ih
    · have e : us V (q + 1) = q + 1 := if_neg q2
      rw [e]
      refine RN.iff rfl (fun z => q2 (by have := (zJ_eq (a := dg V q) (b := 0) (by omega) (by omega) (by omega) (by omega)).mp (lc_eq.mp z); omega)) ?_
      iterate 1 (refine RN.st rfl ?_)
      exact RN.ret rfl
theorem ev_used (L : Nat) (I : Nat → Nat → Int32) (J : Nat → Nat → Int64) (w : Nat → Nat) (a V : Nat) (ha : isL a) : EV m_Li_used [.ref a] (hp L I (lm J a V) w) (some (.int (nI (us V 5)))) (hp L I (lm J a V) w) := by
  unfold EV
  iterate 3 (refine RN.st rfl ?_)
  exact ev_used_loop L I J w a V ha 5 (Nat.le_refl _)
end
section
/-! Limbs: compare, timesAndAdd, subtract, halve -/
theorem lm_self (J : Nat → Nat → Int64) (a V : Nat) (h : ∀ i, i < 5 → J a i = zJ (dg V i)) : lm J a V = J := by
  unfold lm
  rw [show (fun i => if i < 5 then zJ (dg V i) else J a i) = J a from funext fun i => by
    by_cases hi : i < 5
    · rw [if_pos hi, h i hi]
    · rw [if_neg hi], mm_row_self]
theorem dg_step (V i : Nat) : V / 1073741824 ^ i = V / 1073741824 ^ (i + 1) * 1073741824 + dg V i := by
  unfold dg
  rw [Nat.pow_succ, ← Nat.div_div_eq_div_mul]
  have := Nat.div_add_mod (V / 1073741824 ^ i) 1073741824
  rw [Nat.mul_comm] at this
  omega
theorem ev_compare_loop (L : Nat) (I : Nat → Nat → Int32) (J : Nat → Nat → Int64) (w : Nat → Nat) (a b V W : Nat) (ha : isL a) (hb : isL b) (hV : ∀ i, i < 5 → J a i = zJ (dg V i)) (hW : ∀ i, i < 5 → J b i = zJ (dg W i)) (r : Int32) (h1 : V < W → r = -1) (h2 : W < V → r = 1) (h0 : V = W → r = 0) : ∀ q, q ≤ 5 → V / 1073741824 ^ q = W / 1073741824 ^ q → RN m_Li_compare (3, [some (.ref a), some (.ref b), some (.int (nI q + Int32.ofInt (-1)))], [.int (nI q + Int32.ofInt (-1))], hp L I J w, 0, 0) (some (.int r), hp L I J w)
  | 0, _, he => by
    refine RN.ift rfl (show (nI 0 + Int32.ofInt (-1) : Int32) < 0 by decide) ?_
    rw [h0 (by simpa using he)]
    iterate 1 (refine RN.st rfl ?_)
    exact RN.ret rfl
  | q + 1, hq, he => by
    have d1 := dg_step V q
    have d2 := dg_step W q
    have dl1 := dg_lt V q
    have dl2 := dg_lt W q
    rw [pk_m1' q]
    refine RN.iff rfl (show ¬ nI q < 0 from nI_pos (by omega)) ?_
    iterate 2 (refine RN.st rfl ?_)
    refine RN.lald (k := q) rfl rfl (Or.inl ha.1) (show q < LL L a by rw [isL_l ha]; omega) (isL_b ha) ?_
    rw [show hJ (hp L I J w) a q = zJ (dg V q) from hV q (by omega)]
    iterate 2 (refine RN.st rfl ?_)
    refine RN.lald (k := q) rfl rfl (Or.inl hb.1) (show q < LL L b by rw [isL_l hb]; omega) (isL_b hb) ?_
    rw [show hJ (hp L I J w) b q = zJ (dg W q) from hW q (by omega)]
    iterate 1 (refine RN.st rfl ?_)
    by_cases e : dg V q = dg W q
    · refine RN.ift rfl (lc_eq.mpr (by rw [e])) ?_
      have ih := ev_compare_loop L I J w a b V W ha hb hV hW r h1 h2 h0 q (by omega) (by rw [d1, d2, he, e])
      iterate 3 (refine RN.st rfl ?_)
      exact ih
    · refine RN.iff rfl (fun z => e (by have := (zJ_eq (a := dg V q) (b := dg W q) (by omega) (by omega) (by omega) (by omega)).mp (lc_eq.mp z); omega)) ?_
      iterate 2 (refine RN.st rfl ?_)
      refine RN.lald (k := q) rfl rfl (Or.inl ha.1) (show q < LL L a by rw [isL_l ha]; omega) (isL_b ha) ?_
      rw [show hJ (hp L I J w) a q = zJ (dg V q) from hV q (by omega)]
      iterate 2 (refine RN.st rfl ?_)
      refine RN.lald (k := q) rfl rfl (Or.inl hb.1) (show q < LL L b by rw [isL_l hb]; omega) (isL_b hb) ?_
      rw [show hJ (hp L I J w) b q = zJ (dg W q) from hW q (by omega)]
      iterate 1 (refine RN.st rfl ?_)
      by_cases lt : dg V q < dg W q
      · have hlt : V < W := by
          apply Classical.byContradiction
          intro hn
          have : W / 1073741824 ^ q ≤ V / 1073741824 ^ q := Nat.div_le_div_right (by omega)
          omega
        rw [h1 hlt]
        refine RN.iff rfl (fun z => by have := (zJ_le (a := dg W q) (b := dg V q) (by omega) (by omega) (by omega) (by omega)).mp (lc_ge.mp z); omega) ?_
        iterate 2 (refine RN.st rfl ?_)
        exact RN.ret rfl
      · have hlt : W < V := by
          apply Classical.byContradiction
          intro hn
          have : V / 1073741824 ^ q ≤ W / 1073741824 ^ q := Nat.div_le_div_right (by omega)
          omega
        rw [h2 hlt]
        refine RN.ift rfl (lc_ge.mpr ((zJ_le (by omega) (by omega) (by omega) (by omega)).mpr (by omega))) ?_
        iterate 1 (refine RN.st rfl ?_)
        exact RN.ret rfl
theorem ev_compare (L : Nat) (I : Nat → Nat → Int32) (J : Nat → Nat → Int64) (w : Nat → Nat) (a b V W : Nat) (ha : isL a) (hb : isL b) (hV : ∀ i, i < 5 → J a i = zJ (dg V i)) (hW : ∀ i, i < 5 → J b i = zJ (dg W i)) (lV : V < 1073741824 ^ 5) (lW : W < 1073741824 ^ 5) (r : Int32) (h1 : V < W → r = -1) (h2 : W < V → r = 1) (h0 : V = W → r = 0) : EV m_Li_compare [.ref a, .ref b] (hp L I J w) (some (.int r)) (hp L I J w) := by
  have k := ev_compare_loop L I J w a b V W ha hb hV hW r h1 h2 h0 5 (Nat.le_refl _) (by rw [Nat.div_eq_of_lt lV, Nat.div_eq_of_lt lW])
  unfold EV
  iterate 3 (refine RN.st rfl ?_)
  rw [show nI 5 + Int32.ofInt (-1) = Int32.ofInt 4 from by decide] at k
  exact k
/-- the carry behind i limbs of V t + m -/
def cy_ (V t m i : Nat) : Nat := (V % 1073741824 ^ i * t + m) / 1073741824 ^ i
theorem mod_step (V i : Nat) : V % 1073741824 ^ (i + 1) = V % 1073741824 ^ i + dg V i * 1073741824 ^ i := by
  unfold dg
  rw [Nat.pow_succ, Nat.mod_mul]
  rw [Nat.mul_comm (1073741824 ^ i)]
theorem cy_step (V t m i : Nat) : cy_ V t m i + dg V i * t = (V % 1073741824 ^ (i + 1) * t + m) / 1073741824 ^ i := by
  unfold cy_
  rw [mod_step, Nat.add_mul]
  have hB : 0 < 1073741824 ^ i := Nat.pow_pos (by decide)
  rw [show V % 1073741824 ^ i * t + dg V i * 1073741824 ^ i * t + m = (V % 1073741824 ^ i * t + m) + 1073741824 ^ i * (dg V i * t) by
    rw [show dg V i * 1073741824 ^ i * t = 1073741824 ^ i * (dg V i * t) by rw [Nat.mul_comm (dg V i), Nat.mul_assoc]]
    omega]
  rw [Nat.add_mul_div_left _ _ hB]
theorem cy_dig (V t m i : Nat) : (cy_ V t m i + dg V i * t) % 1073741824 = dg (V * t + m) i := by
  rw [cy_step]
  have hB : 0 < 1073741824 ^ i := Nat.pow_pos (by decide)
  have e := Nat.div_add_mod V (1073741824 ^ (i + 1))
  unfold dg
  have e2 : V * t + m = (V % 1073741824 ^ (i + 1) * t + m) + 1073741824 ^ i * (1073741824 * (V / 1073741824 ^ (i + 1) * t)) := by
    have e3 : V * t = (1073741824 ^ (i + 1) * (V / 1073741824 ^ (i + 1)) + V % 1073741824 ^ (i + 1)) * t := by rw [e]
    rw [e3, Nat.add_mul, Nat.pow_succ, Nat.mul_assoc (1073741824 ^ i), Nat.mul_assoc (1073741824 ^ i), Nat.mul_assoc 1073741824]
    omega
  rw [e2, Nat.add_mul_div_left _ _ hB, Nat.add_mul_mod_self_left]
theorem cy_next (V t m i : Nat) : (cy_ V t m i + dg V i * t) / 1073741824 = cy_ V t m (i + 1) := by
  rw [cy_step]
  unfold cy_
  rw [Nat.div_div_eq_div_mul, ← Nat.pow_succ]
theorem cy_lt (V t m i : Nat) (ht : t < 2 ^ 31) (hm : m < 2 ^ 31) : cy_ V t m i < 2 ^ 31 := by
  unfold cy_
  have hB : 0 < 1073741824 ^ i := Nat.pow_pos (by decide)
  rw [Nat.div_lt_iff_lt_mul hB]
  have h1 : V % 1073741824 ^ i < 1073741824 ^ i := Nat.mod_lt _ hB
  have h2 : V % 1073741824 ^ i * t ≤ (1073741824 ^ i - 1) * (2 ^ 31 - 1) := Nat.mul_le_mul (by omega) (by omega)
  have h3 : (1073741824 ^ i - 1) * (2 ^ 31 - 1) + (2 ^ 31 - 1) = 1073741824 ^ i * (2 ^ 31 - 1) := by
    obtain ⟨q, hq⟩ : ∃ q, 1073741824 ^ i = q + 1 := ⟨1073741824 ^ i - 1, by omega⟩
    rw [hq, Nat.add_sub_cancel, Nat.add_mul, Nat.one_mul]
  rw [Nat.mul_comm (2 ^ 31)]
  have h4 : 1073741824 ^ i * (2 ^ 31 - 1) + 1 ≤ 1073741824 ^ i * 2 ^ 31 := by
    have : 1073741824 ^ i * 2 ^ 31 = 1073741824 ^ i * (2 ^ 31 - 1) + 1073741824 ^ i := by
      rw [show (2 : Nat) ^ 31 = (2 ^ 31 - 1) + 1 from rfl, Nat.mul_add, Nat.mul_one]
    omega
  omega
theorem zJ_c (a b : Nat) : zJ a + zJ b = zJ ((a + b : Nat) : Int) := by rw [zJ_add]; rfl
theorem zJ_m (a b : Nat) : zJ a * zJ b = zJ ((a * b : Nat) : Int) := by rw [zJ_mul]; rfl
theorem zJ_andM (n : Nat) : zJ n &&& 1073741823 = zJ ((n % 1073741824 : Nat) : Int) := by
  rw [zJ_and 30 (by decide) 1073741823 (by decide)]
  rfl
theorem zJ_shr30 (n : Nat) (h : n < 2 ^ 63) : zJ n >>> ((Int8.ofInt 30).toInt32.toInt64 &&& 63) = zJ ((n / 1073741824 : Nat) : Int) := by
  rw [zJ_shr (by omega) (by omega) _ 30 (by decide)]
  rfl
theorem ev_timesAndAdd (L : Nat) (I : Nat → Nat → Int32) (J : Nat → Nat → Int64) (w : Nat → Nat) (a V t m : Nat) (ha : isL a) (hV : ∀ i, i < 5 → J a i = zJ (dg V i)) (ht : t < 2 ^ 31) (hm : m < 2 ^ 31) : EV m_Li_timesAndAdd [.ref a, .long (zJ t), .long (zJ m)] (hp L I J w) none (hp L I (lm J a (V * t + m)) w) := by
  unfold EV
  iterate 6 (refine RN.st rfl ?_)
  have key := RN.run (mid := m_Li_timesAndAdd) (R := (none, hp L I (lm J a (V * t + m)) w)) (fun i => (9, [some (.ref a), some (.long (zJ t)), none, some (.long (zJ m)), none, some (.long (zJ (cy_ V t m i))), none, some (.int (nI i))], [.int (nI 5), .int (nI i)], hp L I (lmi J a (V * t + m) i) w, 0, 0)) 5 (fun i hi k => ?_) ?_
  · rw [lmi_0, show cy_ V t m 0 = m from by unfold cy_; rw [Nat.pow_zero, Nat.mod_one, Nat.zero_mul, Nat.zero_add, Nat.div_one]] at key
    exact key
  · have hd := dg_lt V i
    have hc := cy_lt V t m i ht hm
    have hdt : dg V i * t ≤ 1073741824 * 2 ^ 31 := Nat.mul_le_mul (by omega) (by omega)
    rw [nI_succ, ← lmi_s, ← cy_dig, ← cy_next] at k
    refine RN.icf rfl (nI_ge hi (by omega)) ?_
    iterate 3 (refine RN.st rfl ?_)
    refine RN.lald (k := i) rfl rfl (Or.inl ha.1) (show i < LL L a by rw [isL_l ha]; omega) (isL_b ha) ?_
    rw [show hJ (hp L I (lmi J a (V * t + m) i) w) a i = zJ (dg V i) from (lmi_at J a (V * t + m) i).trans (hV i hi)]
    iterate 3 (refine RN.st rfl ?_)
    rw [zJ_m, zJ_c]
    iterate 6 (refine RN.st rfl ?_)
    refine RN.last (k := i) rfl rfl ha.1 (show i < LL L a by rw [isL_l ha]; omega) (isL_b ha) ?_
    rw [show (zJ ((cy_ V t m i + dg V i * t : Nat) : Int) &&& 1073741823) = zJ (((cy_ V t m i + dg V i * t) % 1073741824 : Nat) : Int) from zJ_andM _]
    iterate 3 (refine RN.st rfl ?_)
    rw [zJ_shr30 _ (by omega)]
    iterate 5 (refine RN.st rfl ?_)
    exact k
  · refine RN.ict rfl (nI_le (Nat.le_refl _) (by omega)) ?_
    exact RN.ret rfl
/-- the borrow behind i limbs of V - W -/
def bw_ (V W i : Nat) : Int := (((V % 1073741824 ^ i : Nat) : Int) - ((W % 1073741824 ^ i : Nat) : Int)) / ((1073741824 ^ i : Nat) : Int)
theorem bw_step (V W i : Nat) : bw_ V W i + ((dg V i : Nat) : Int) - ((dg W i : Nat) : Int) = (((V % 1073741824 ^ (i + 1) : Nat) : Int) - ((W % 1073741824 ^ (i + 1) : Nat) : Int)) / ((1073741824 ^ i : Nat) : Int) := by
  unfold bw_
  have hB : 0 < 1073741824 ^ i := Nat.pow_pos (by decide)
  rw [mod_step V, mod_step W]
  have e : (((V % 1073741824 ^ i + dg V i * 1073741824 ^ i : Nat) : Int) - ((W % 1073741824 ^ i + dg W i * 1073741824 ^ i : Nat) : Int)) = (((V % 1073741824 ^ i : Nat) : Int) - ((W % 1073741824 ^ i : Nat) : Int)) + (((dg V i : Nat) : Int) - ((dg W i : Nat) : Int)) * ((1073741824 ^ i : Nat) : Int) := by
    rw [Int.natCast_add, Int.natCast_add, Int.natCast_mul, Int.natCast_mul, Int.sub_mul]
    omega
  rw [e, Int.add_mul_ediv_right _ _ (by omega)]
  omega
theorem bw_dig (V W i : Nat) (hWV : W ≤ V) : (bw_ V W i + ((dg V i : Nat) : Int) - ((dg W i : Nat) : Int)) % 1073741824 = ((dg (V - W) i : Nat) : Int) := by
  rw [bw_step]
  have hB : 0 < 1073741824 ^ i := Nat.pow_pos (by decide)
  have e1 := Nat.div_add_mod V (1073741824 ^ (i + 1))
  have e2 := Nat.div_add_mod W (1073741824 ^ (i + 1))
  have e3 : ((V - W : Nat) : Int) = (((V % 1073741824 ^ (i + 1) : Nat) : Int) - ((W % 1073741824 ^ (i + 1) : Nat) : Int)) + (1073741824 * (((V / 1073741824 ^ (i + 1) : Nat) : Int) - ((W / 1073741824 ^ (i + 1) : Nat) : Int))) * ((1073741824 ^ i : Nat) : Int) := by
    have hN : ((1073741824 ^ (i + 1) : Nat) : Int) = ((1073741824 ^ i : Nat) : Int) * 1073741824 := by rw [Nat.pow_succ, Int.natCast_mul]; rfl
    have fx : ∀ U : Nat, ((U : Nat) : Int) = ((1073741824 ^ i : Nat) : Int) * 1073741824 * ((U / 1073741824 ^ (i + 1) : Nat) : Int) + ((U % 1073741824 ^ (i + 1) : Nat) : Int) := by
      intro U
      have e := Nat.div_add_mod U (1073741824 ^ (i + 1))
      rw [← hN, ← Int.natCast_mul, ← Int.natCast_add, e]
    have f1 := fx V
    have f2 := fx W
    rw [Int.natCast_sub hWV]
    rw [show (1073741824 * (((V / 1073741824 ^ (i + 1) : Nat) : Int) - ((W / 1073741824 ^ (i + 1) : Nat) : Int))) * ((1073741824 ^ i : Nat) : Int) = ((1073741824 ^ i : Nat) : Int) * 1073741824 * ((V / 1073741824 ^ (i + 1) : Nat) : Int) - ((1073741824 ^ i : Nat) : Int) * 1073741824 * ((W / 1073741824 ^ (i + 1) : Nat) : Int) by
      rw [Int.mul_comm, ← Int.mul_assoc, Int.mul_sub]]
    omega
  have e4 : ((dg (V - W) i : Nat) : Int) = ((V - W : Nat) : Int) / ((1073741824 ^ i : Nat) : Int) % 1073741824 := by
    unfold dg
    rw [Int.natCast_emod, Int.natCast_ediv]
    rfl
  rw [e4, e3, Int.add_mul_ediv_right _ _ (by omega), Int.add_mul_emod_self_left]
theorem bw_next (V W i : Nat) : (bw_ V W i + ((dg V i : Nat) : Int) - ((dg W i : Nat) : Int)) / 1073741824 = bw_ V W (i + 1) := by
  rw [bw_step]
  unfold bw_
  rw [Int.ediv_ediv_of_nonneg (show (0 : Int) ≤ ((1073741824 ^ i : Nat) : Int) from Int.natCast_nonneg _), show ((1073741824 ^ (i + 1) : Nat) : Int) = ((1073741824 ^ i : Nat) : Int) * 1073741824 from by rw [Nat.pow_succ, Int.natCast_mul]; rfl]
theorem bw_lt (V W i : Nat) : -1 ≤ bw_ V W i ∧ bw_ V W i ≤ 0 := by
  unfold bw_
  have hB : 0 < 1073741824 ^ i := Nat.pow_pos (by decide)
  have h1 : V % 1073741824 ^ i < 1073741824 ^ i := Nat.mod_lt _ hB
  have h2 : W % 1073741824 ^ i < 1073741824 ^ i := Nat.mod_lt _ hB
  constructor
  · rw [Int.le_ediv_iff_mul_le (by omega)]; omega
  · have : (((V % 1073741824 ^ i : Nat) : Int) - ((W % 1073741824 ^ i : Nat) : Int)) / ((1073741824 ^ i : Nat) : Int) < 1 := by
      rw [Int.ediv_lt_iff_lt_mul (by omega)]; omega
    omega
theorem zJ_andZ (z : Int) : zJ z &&& 1073741823 = zJ (z % 1073741824) := by
  rw [zJ_and 30 (by decide) 1073741823 (by decide)]
  rfl
theorem zJ_shrZ (z : Int) (h1 : -2 ^ 63 ≤ z) (h2 : z < 2 ^ 63) : zJ z >>> ((Int8.ofInt 30).toInt32.toInt64 &&& 63) = zJ (z / 1073741824) := by
  rw [zJ_shr h1 h2 _ 30 (by decide)]
  rfl
theorem ev_subtract (L : Nat) (I : Nat → Nat → Int32) (J : Nat → Nat → Int64) (w : Nat → Nat) (a b V W : Nat) (hab : a ≠ b) (ha : isL a) (hb : isL b) (hV : ∀ i, i < 5 → J a i = zJ (dg V i)) (hW : ∀ i, i < 5 → J b i = zJ (dg W i)) (hWV : W ≤ V) : EV m_Li_subtract [.ref a, .ref b] (hp L I J w) none (hp L I (lm J a (V - W)) w) := by
  unfold EV
  iterate 6 (refine RN.st rfl ?_)
  have key := RN.run (mid := m_Li_subtract) (R := (none, hp L I (lm J a (V - W)) w)) (fun i => (8, [some (.ref a), some (.ref b), some (.long (zJ (bw_ V W i))), none, some (.int (nI i))], [.int (nI 5), .int (nI i)], hp L I (lmi J a (V - W) i) w, 0, 0)) 5 (fun i hi k => ?_) ?_
  · rw [lmi_0, show bw_ V W 0 = 0 from by unfold bw_; rw [Nat.pow_zero, Nat.mod_one, Nat.mod_one]; rfl] at key
    exact key
  · have hd := dg_lt V i
    have hd2 := dg_lt W i
    have hc := bw_lt V W i
    rw [nI_succ, ← lmi_s, ← bw_dig V W i hWV, ← bw_next] at k
    refine RN.icf rfl (nI_ge hi (by omega)) ?_
    iterate 3 (refine RN.st rfl ?_)
    refine RN.lald (k := i) rfl rfl (Or.inl ha.1) (show i < LL L a by rw [isL_l ha]; omega) (isL_b ha) ?_
    rw [show hJ (hp L I (lmi J a (V - W) i) w) a i = zJ (dg V i) from (lmi_at J a (V - W) i).trans (hV i hi)]
    iterate 2 (refine RN.st rfl ?_)
    refine RN.lald (k := i) rfl rfl (Or.inl hb.1) (show i < LL L b by rw [isL_l hb]; omega) (isL_b hb) ?_
    rw [show hJ (hp L I (lmi J a (V - W) i) w) b i = zJ (dg W i) from (lmi_off J (V - W) i i (Ne.symm hab)).trans (hW i hi)]
    iterate 2 (refine RN.st rfl ?_)
    rw [zJ_sub, zJ_add, show bw_ V W i + (((dg V i : Nat) : Int) - ((dg W i : Nat) : Int)) = bw_ V W i + ((dg V i : Nat) : Int) - ((dg W i : Nat) : Int) by omega]
    iterate 6 (refine RN.st rfl ?_)
    refine RN.last (k := i) rfl rfl ha.1 (show i < LL L a by rw [isL_l ha]; omega) (isL_b ha) ?_
    rw [show (zJ (bw_ V W i + ((dg V i : Nat) : Int) - ((dg W i : Nat) : Int)) &&& 1073741823) = zJ ((bw_ V W i + ((dg V i : Nat) : Int) - ((dg W i : Nat) : Int)) % 1073741824) from zJ_andZ _]
    iterate 3 (refine RN.st rfl ?_)
    rw [zJ_shrZ _ (by omega) (by omega)]
    iterate 5 (refine RN.st rfl ?_)
    exact k
  · refine RN.ict rfl (nI_le (Nat.le_refl _) (by omega)) ?_
    exact RN.ret rfl
end
section
/-! Limbs: halve, makeOdd, inverseOfOdd -/
theorem zJ_nat (n : Nat) (hn : n < 2 ^ 64) : (zJ n).toBitVec.toNat = n := by
  show (BitVec.ofInt 64 n).toNat = n
  rw [BitVec.toNat_ofInt, Int.emod_eq_of_lt (Int.natCast_nonneg _) (by have : ((2 ^ 64 : Nat) : Int) = 2 ^ 64 := rfl; omega)]
  rfl
theorem zJ_or29 (a b : Nat) (ha : a < 2 ^ 29) (hb : b < 2) : zJ a ||| zJ ((b * 2 ^ 29 : Nat) : Int) = zJ ((a + b * 2 ^ 29 : Nat) : Int) := by
  apply Int64.toBitVec.inj
  apply BitVec.eq_of_toNat_eq
  show ((zJ a).toBitVec ||| (zJ ((b * 2 ^ 29 : Nat) : Int)).toBitVec).toNat = _
  rw [BitVec.toNat_or, zJ_nat a (by omega), zJ_nat _ (by omega), zJ_nat _ (by omega)]
  rw [Nat.or_comm, Nat.mul_comm b, ← Nat.two_pow_add_eq_or_of_lt ha]
  omega
theorem zJ_shl29 (b : Nat) (hb : b < 2) : zJ b <<< ((Int8.ofInt 29).toInt32.toInt64 &&& 63) = zJ ((b * 2 ^ 29 : Nat) : Int) := by
  have : b = 0 ∨ b = 1 := by omega
  rcases this with rfl | rfl <;> decide
theorem zJ_and1 (n : Nat) : zJ n &&& zJ 1 = zJ ((n % 2 : Nat) : Int) := by
  rw [zJ_and 1 (by decide) (zJ 1) (by decide)]
  rfl
theorem zJ_shr1 (n : Nat) (h : n < 2 ^ 63) : zJ n >>> ((Int32.ofInt 1).toInt64 &&& 63) = zJ ((n / 2 : Nat) : Int) := by
  rw [zJ_shr (by omega) (by omega) _ 1 (by decide)]
  rfl
theorem dg_half (V i : Nat) : dg (V / 2) i = dg V i / 2 + dg V (i + 1) % 2 * 2 ^ 29 := by
  have h1 := dg_step V i
  have h2 := dg_lt V i
  have e : V / 2 / 1073741824 ^ i = V / 1073741824 ^ i / 2 := by rw [Nat.div_div_eq_div_mul, Nat.div_div_eq_div_mul, Nat.mul_comm]
  have e2 : dg V (i + 1) = V / 1073741824 ^ (i + 1) % 1073741824 := rfl
  show V / 2 / 1073741824 ^ i % 1073741824 = _
  rw [e, h1, e2]
  generalize V / 1073741824 ^ (i + 1) = q
  generalize dg V i = r at h2
  omega
theorem dg_top {V : Nat} (hV : V < 1073741824 ^ 5) : dg V 5 = 0 := by
  unfold dg
  rw [Nat.div_eq_of_lt hV]
theorem ev_halve (L : Nat) (I : Nat → Nat → Int32) (J : Nat → Nat → Int64) (w : Nat → Nat) (a V : Nat) (ha : isL a) (hV : ∀ i, i < 5 → J a i = zJ (dg V i)) (lV : V < 1073741824 ^ 5) : EV m_Li_halve [.ref a] (hp L I J w) none (hp L I (lm J a (V / 2)) w) := by
  unfold EV
  iterate 4 (refine RN.st rfl ?_)
  have key := RN.run (mid := m_Li_halve) (R := (none, hp L I (lm J a (V / 2)) w)) (fun i => (4, [some (.ref a), some (.int (nI i))], [.int (nI 4), .int (nI i)], hp L I (lmi J a (V / 2) i) w, 0, 0)) 4 (fun i hi k => ?_) ?_
  · rw [lmi_0] at key
    exact key
  · have hd := dg_lt V i
    have hd2 := dg_lt V (i + 1)
    rw [nI_succ, ← lmi_s, dg_half] at k
    refine RN.icf rfl (nI_ge hi (by omega)) ?_
    iterate 4 (refine RN.st rfl ?_)
    refine RN.lald (k := i) rfl rfl (Or.inl ha.1) (show i < LL L a by rw [isL_l ha]; omega) (isL_b ha) ?_
    rw [show hJ (hp L I (lmi J a (V / 2) i) w) a i = zJ (dg V i) from (lmi_at J a (V / 2) i).trans (hV i (by omega))]
    iterate 2 (refine RN.st rfl ?_)
    rw [zJ_shr1 _ (by omega)]
    iterate 4 (refine RN.st rfl ?_)
    refine RN.lald (k := i + 1) rfl (nI_succ i).symm (Or.inl ha.1) (show i + 1 < LL L a by rw [isL_l ha]; omega) (isL_b ha) ?_
    rw [show hJ (hp L I (lmi J a (V / 2) i) w) a (i + 1) = zJ (dg V (i + 1)) from ((mm_row_at J a (fun j => if j < i then zJ (dg (V / 2) j) else J a j) (i + 1)).trans (if_neg (by omega))).trans (hV (i + 1) (by omega))]
    iterate 2 (refine RN.st rfl ?_)
    rw [show (zJ (dg V (i + 1)) &&& Int64.ofNat ((1 : Fin 2) : Nat)) = zJ ((dg V (i + 1) % 2 : Nat) : Int) from zJ_and1 _]
    iterate 2 (refine RN.st rfl ?_)
    rw [zJ_shl29 _ (by omega)]
    iterate 1 (refine RN.st rfl ?_)
    rw [zJ_or29 _ _ (by omega) (by omega)]
    refine RN.last (k := i) rfl rfl ha.1 (show i < LL L a by rw [isL_l ha]; omega) (isL_b ha) ?_
    iterate 4 (refine RN.st rfl ?_)
    exact k
  · have hd := dg_lt V 4
    refine RN.ict rfl (nI_le (Nat.le_refl _) (by omega)) ?_
    iterate 3 (refine RN.st rfl ?_)
    refine RN.lald (k := 4) rfl rfl (Or.inl ha.1) (show 4 < LL L a by rw [isL_l ha]; omega) (isL_b ha) ?_
    rw [show hJ (hp L I (lmi J a (V / 2) 4) w) a 4 = zJ (dg V 4) from (lmi_at J a (V / 2) 4).trans (hV 4 (by omega))]
    iterate 2 (refine RN.st rfl ?_)
    rw [zJ_shr1 _ (by omega)]
    refine RN.last (k := 4) rfl rfl ha.1 (show 4 < LL L a by rw [isL_l ha]; omega) (isL_b ha) ?_
    have e := lmi_s J a (V / 2) 4
    rw [dg_half, dg_top lV] at e
    have e2 : mm_up (lmi J a (V / 2) 4) a 4 (zJ ((dg V 4 / 2 : Nat) : Int)) = lm J a (V / 2) := e
    show RN m_Li_halve (_, _, _, hp L I (mm_up (lmi J a (V / 2) 4) a 4 (zJ ((dg V 4 / 2 : Nat) : Int))) w, 0, 0) _
    rw [e2]
    exact RN.ret rfl
/-- halved until it is odd, at most d times -/
def mo : Nat → Nat → Nat
  | 0, V => V
  | d + 1, V => if V % 2 = 0 then mo d (V / 2) else V
theorem dg_par (V : Nat) : dg V 0 % 2 = V % 2 := by
  unfold dg
  rw [Nat.pow_zero, Nat.div_one]
  omega
theorem ev_makeOdd_loop (L : Nat) (I : Nat → Nat → Int32) (J : Nat → Nat → Int64) (w : Nat → Nat) (a : Nat) (ha : isL a) : ∀ (d i V : Nat), i + d = 150 → V < 1073741824 ^ 5 → RN m_Li_makeOdd (6, [some (.ref a), some (.int (nI i))], [.int (nI 150), .int (nI i)], hp L I (lm J a V) w, 0, 0) (none, hp L I (lm J a (mo d V)) w)
  | 0, i, V, hi, lV => by
    obtain rfl : i = 150 := by omega
    refine RN.ict rfl (nI_le (Nat.le_refl _) (by omega)) ?_
    exact RN.ret rfl
  | d + 1, i, V, hi, lV => by
    have hd := dg_lt V 0
    have hp9 := dg_par V
    refine RN.icf rfl (nI_ge (show i < 150 by omega) (by omega)) ?_
    iterate 2 (refine RN.st rfl ?_)
    refine RN.lald (k := 0) rfl rfl (Or.inl ha.1) (show 0 < LL L a by rw [isL_l ha]; omega) (isL_b ha) ?_
    rw [show hJ (hp L I (lm J a V) w) a 0 = zJ (dg V 0) from lm_at J a V (by omega)]
    iterate 2 (refine RN.st rfl ?_)
    rw [show (zJ (dg V 0) &&& Int64.ofNat ((1 : Fin 2) : Nat)) = zJ ((dg V 0 % 2 : Nat) : Int) from zJ_and1 _, hp9]
    iterate 2 (refine RN.st rfl ?_)
    by_cases q : V % 2 = 0
    · have e : mo (d + 1) V = mo d (V / 2) := if_pos q
      rw [e]
      refine RN.iff rfl (fun z => z (lc_eq.mpr (show zJ ((V % 2 : Nat) : Int) = zJ 0 by rw [q]; rfl))) ?_
      have ih := ev_makeOdd_loop L I J w a ha d (i + 1) (V / 2) (by omega) (by omega)
      rw [nI_succ] at ih
      iterate 1 (refine RN.st rfl ?_)
      refine RN.call rfl rfl (ev_halve L I (lm J a V) w a V ha (fun j hj => lm_at J a V hj) lV) ?_
      rw [lm_lm]
      iterate 4 (refine RN.st rfl ?_)
      exact ih
    · have e : mo (d + 1) V = V := if_neg q
      rw [e]
      refine RN.ift rfl (lc_ne.mpr (fun z => q (by have := (zJ_eq (a := ((V % 2 : Nat) : Int)) (b := 0) (by omega) (by omega) (by omega) (by omega)).mp z; omega))) ?_
      exact RN.ret rfl
theorem ev_makeOdd (L : Nat) (I : Nat → Nat → Int32) (J : Nat → Nat → Int64) (w : Nat → Nat) (a V : Nat) (ha : isL a) (hV : ∀ i, i < 5 → J a i = zJ (dg V i)) (lV : V < 1073741824 ^ 5) : EV m_Li_makeOdd [.ref a] (hp L I J w) none (hp L I (lm J a (mo 150 V)) w) := by
  have k := ev_makeOdd_loop L I J w a ha 150 0 V (by omega) lV
  rw [lm_self J a V hV] at k
  unfold EV
  iterate 4 (refine RN.st rfl ?_)
  exact k
end
section
/-! Limbs: inverseOfOdd, divideByOdd -/
/-- Newton's steps towards the inverse modulo 2 ^ 30 -/
def nw (o : Int) : Nat → Int
  | 0 => o
  | n + 1 => nw o n * ((2 - o * nw o n) % 1073741824) % 1073741824
theorem ev_invOdd (h : MH) (o : Int) : EV m_Li_inverseOfOdd [.long (zJ o)] h (some (.long (zJ (nw o 4)))) h := by
  unfold EV
  iterate 6 (refine RN.st rfl ?_)
  refine RN.run (fun i => (8, [some (.long (zJ o)), none, some (.long (zJ (nw o i))), none, some (.int (nI i))], [.int (nI 4), .int (nI i)], h, 0, 0)) 4 (fun i hi k => ?_) ?_
  · rw [nI_succ] at k
    refine RN.icf rfl (nI_ge hi (by omega)) ?_
    iterate 5 (refine RN.st rfl ?_)
    rw [zJ_mul]
    iterate 1 (refine RN.st rfl ?_)
    rw [show (2 : Int64) - zJ (o * nw o i) = zJ (2 - o * nw o i) from zJ_sub 2 _]
    iterate 2 (refine RN.st rfl ?_)
    rw [show (zJ (2 - o * nw o i) &&& 1073741823) = zJ ((2 - o * nw o i) % 1073741824) from zJ_andZ _]
    iterate 1 (refine RN.st rfl ?_)
    rw [zJ_mul]
    iterate 2 (refine RN.st rfl ?_)
    rw [show (zJ (nw o i * ((2 - o * nw o i) % 1073741824)) &&& 1073741823) = zJ (nw o i * ((2 - o * nw o i) % 1073741824) % 1073741824) from zJ_andZ _]
    iterate 5 (refine RN.st rfl ?_)
    exact k
  · refine RN.ict rfl (nI_le (Nat.le_refl _) (by omega)) ?_
    iterate 1 (refine RN.st rfl ?_)
    exact RN.ret rfl
/-- one step: if o x is 1 modulo m, and m is at least its own half of 2 ^ 30, then modulo 2 ^ 30 or m m -/
theorem nw_step {o x m : Int} (hm : ∃ c, o * x = 1 + c * m) (hd : ∃ e, 1073741824 = m * e) : ∃ c, o * (x * ((2 - o * x) % 1073741824) % 1073741824) = 1 + c * m := by
  obtain ⟨c, hc⟩ := hm
  obtain ⟨e, he⟩ := hd
  have h1 := Int.mul_ediv_add_emod (2 - o * x) 1073741824
  have h2 := Int.mul_ediv_add_emod (x * ((2 - o * x) % 1073741824)) 1073741824
  generalize (2 - o * x) / 1073741824 = q1 at h1
  generalize (x * ((2 - o * x) % 1073741824)) / 1073741824 = q2 at h2
  generalize (2 - o * x) % 1073741824 = r1 at h1 h2 ⊢
  generalize x * r1 % 1073741824 = r2 at h2 ⊢
  have e1 : r1 = 2 - o * x - m * e * q1 := by rw [← he]; omega
  have e2 : r2 = x * r1 - m * e * q2 := by rw [← he]; omega
  refine ⟨-(c * c * m) - o * x * e * q1 - o * e * q2, ?_⟩
  rw [e2, e1]
  have e3 : o * (x * (2 - o * x - m * e * q1) - m * e * q2) = (o * x) * (2 - (o * x)) - (o * x) * (m * e * q1) - o * (m * e * q2) := by grind
  rw [e3]
  have e4 : (o * x) * (2 - (o * x)) = 1 - c * c * m * m := by rw [hc]; grind
  rw [e4]
  grind
theorem nw_sq {o x m : Int} (hm : ∃ c, o * x = 1 + c * m) (hd : ∃ e, 1073741824 = m * m * e) : ∃ c, o * (x * ((2 - o * x) % 1073741824) % 1073741824) = 1 + c * (m * m) := by
  obtain ⟨c, hc⟩ := hm
  obtain ⟨e, he⟩ := hd
  have h1 := Int.mul_ediv_add_emod (2 - o * x) 1073741824
  have h2 := Int.mul_ediv_add_emod (x * ((2 - o * x) % 1073741824)) 1073741824
  generalize (2 - o * x) / 1073741824 = q1 at h1
  generalize (x * ((2 - o * x) % 1073741824)) / 1073741824 = q2 at h2
  generalize (2 - o * x) % 1073741824 = r1 at h1 h2 ⊢
  generalize x * r1 % 1073741824 = r2 at h2 ⊢
  have e1 : r1 = 2 - o * x - m * m * e * q1 := by rw [← he]; omega
  have e2 : r2 = x * r1 - m * m * e * q2 := by rw [← he]; omega
  refine ⟨-(c * c) - o * x * e * q1 - o * e * q2, ?_⟩
  rw [e2, e1]
  have e4 : (o * x) * (2 - (o * x)) = 1 - c * c * m * m := by rw [hc]; grind
  grind
theorem nw_ok (o : Int) (ho : o % 2 = 1) : ∃ c, o * nw o 4 = 1 + c * 1073741824 := by
  have h0 : ∃ c, o * nw o 0 = 1 + c * 8 := by
    have : o % 8 = 1 ∨ o % 8 = 3 ∨ o % 8 = 5 ∨ o % 8 = 7 := by omega
    have hq := Int.mul_ediv_add_emod o 8
    show ∃ c, o * o = _
    generalize o / 8 = q at hq
    rcases this with h | h | h | h <;> rw [h] at hq
    · exact ⟨8 * q * q + 2 * q, by rw [← hq]; grind⟩
    · exact ⟨8 * q * q + 6 * q + 1, by rw [← hq]; grind⟩
    · exact ⟨8 * q * q + 10 * q + 3, by rw [← hq]; grind⟩
    · exact ⟨8 * q * q + 14 * q + 6, by rw [← hq]; grind⟩
  have h1 : ∃ c, o * nw o 1 = 1 + c * 64 := nw_sq h0 ⟨16777216, rfl⟩
  have h2 : ∃ c, o * nw o 2 = 1 + c * 4096 := nw_sq h1 ⟨262144, rfl⟩
  have h3 : ∃ c, o * nw o 3 = 1 + c * 16777216 := nw_sq h2 ⟨64, rfl⟩
  have h3' : ∃ c, o * nw o 3 = 1 + c * 32768 := by
    obtain ⟨c, hc⟩ := h3
    exact ⟨c * 512, by rw [hc]; omega⟩
  exact nw_sq h3' ⟨1, rfl⟩
/-! divideByOdd: V = Q W, W odd -/
/-- the row while it is divided: i limbs of the answer, the rest of what is left -/
def dv (J : Nat → Nat → Int64) (a Q W i : Nat) : Nat → Nat → Int64 := mm_row J a (fun j => if j < i then zJ (dg Q j) else if j < 5 then zJ (dg (Q / 1073741824 ^ i * W) (j - i)) else J a j)
/-- the inner loop: the borrow behind j limbs of X - q W, where X holds the limbs from i on -/
def db (X q W j : Nat) : Int := (((X % 1073741824 ^ j : Nat) : Int) - ((q * (W % 1073741824 ^ j) : Nat) : Int)) / ((1073741824 ^ j : Nat) : Int)
theorem db_step (X q W j : Nat) : db X q W j + (((dg X j : Nat) : Int) - ((q * dg W j : Nat) : Int)) = (((X % 1073741824 ^ (j + 1) : Nat) : Int) - ((q * (W % 1073741824 ^ (j + 1)) : Nat) : Int)) / ((1073741824 ^ j : Nat) : Int) := by
  unfold db
  have hB : 0 < 1073741824 ^ j := Nat.pow_pos (by decide)
  rw [mod_step X, mod_step W]
  have e : (((X % 1073741824 ^ j + dg X j * 1073741824 ^ j : Nat) : Int) - ((q * (W % 1073741824 ^ j + dg W j * 1073741824 ^ j) : Nat) : Int)) = (((X % 1073741824 ^ j : Nat) : Int) - ((q * (W % 1073741824 ^ j) : Nat) : Int)) + (((dg X j : Nat) : Int) - ((q * dg W j : Nat) : Int)) * ((1073741824 ^ j : Nat) : Int) := by
    rw [Nat.mul_add, ← Nat.mul_assoc, Int.natCast_add, Int.natCast_add, Int.natCast_mul (dg X j), Int.natCast_mul (q * dg W j), Int.sub_mul]
    omega
  rw [e, Int.add_mul_ediv_right _ _ (by omega)]
theorem db_dig (X q W j : Nat) (hWV : q * W ≤ X) : (db X q W j + (((dg X j : Nat) : Int) - ((q * dg W j : Nat) : Int))) % 1073741824 = ((dg (X - q * W) j : Nat) : Int) := by
  rw [db_step]
  have hB : 0 < 1073741824 ^ j := Nat.pow_pos (by decide)
  have hN : ((1073741824 ^ (j + 1) : Nat) : Int) = ((1073741824 ^ j : Nat) : Int) * 1073741824 := by rw [Nat.pow_succ, Int.natCast_mul]; rfl
  have fx : ∀ U : Nat, ((U : Nat) : Int) = ((1073741824 ^ j : Nat) : Int) * 1073741824 * ((U / 1073741824 ^ (j + 1) : Nat) : Int) + ((U % 1073741824 ^ (j + 1) : Nat) : Int) := by
    intro U
    have e := Nat.div_add_mod U (1073741824 ^ (j + 1))
    rw [← hN, ← Int.natCast_mul, ← Int.natCast_add, e]
  have f1 := fx X
  have f2 := fx W
  have e4 : ((dg (X - q * W) j : Nat) : Int) = ((X - q * W : Nat) : Int) / ((1073741824 ^ j : Nat) : Int) % 1073741824 := by
    unfold dg
    rw [Int.natCast_emod, Int.natCast_ediv]
    rfl
  have e3 : ((X - q * W : Nat) : Int) = (((X % 1073741824 ^ (j + 1) : Nat) : Int) - ((q * (W % 1073741824 ^ (j + 1)) : Nat) : Int)) + (1073741824 * (((X / 1073741824 ^ (j + 1) : Nat) : Int) - (q : Int) * ((W / 1073741824 ^ (j + 1) : Nat) : Int))) * ((1073741824 ^ j : Nat) : Int) := by
    rw [Int.natCast_sub hWV, Int.natCast_mul, Int.natCast_mul, f1, f2]
    generalize ((X / 1073741824 ^ (j + 1) : Nat) : Int) = x1
    generalize ((W / 1073741824 ^ (j + 1) : Nat) : Int) = x2
    generalize ((X % 1073741824 ^ (j + 1) : Nat) : Int) = x3
    generalize ((W % 1073741824 ^ (j + 1) : Nat) : Int) = x4
    generalize ((1073741824 ^ j : Nat) : Int) = x5
    grind
  rw [e4, e3, Int.add_mul_ediv_right _ _ (by omega), Int.add_mul_emod_self_left]
theorem db_next (X q W j : Nat) : (db X q W j + (((dg X j : Nat) : Int) - ((q * dg W j : Nat) : Int))) / 1073741824 = db X q W (j + 1) := by
  rw [db_step]
  unfold db
  rw [Int.ediv_ediv_of_nonneg (show (0 : Int) ≤ ((1073741824 ^ j : Nat) : Int) from Int.natCast_nonneg _), show ((1073741824 ^ (j + 1) : Nat) : Int) = ((1073741824 ^ j : Nat) : Int) * 1073741824 from by rw [Nat.pow_succ, Int.natCast_mul]; rfl]
theorem db_lt (X q W j : Nat) (hq : q < 1073741824) : -1073741824 ≤ db X q W j ∧ db X q W j ≤ 0 := by
  unfold db
  have hB : 0 < 1073741824 ^ j := Nat.pow_pos (by decide)
  have h1 : X % 1073741824 ^ j < 1073741824 ^ j := Nat.mod_lt _ hB
  have h2 : W % 1073741824 ^ j < 1073741824 ^ j := Nat.mod_lt _ hB
  have h3 : q * (W % 1073741824 ^ j) ≤ 1073741824 * 1073741824 ^ j := Nat.mul_le_mul (by omega) (by omega)
  have h4 : ((1073741824 * 1073741824 ^ j : Nat) : Int) = 1073741824 * ((1073741824 ^ j : Nat) : Int) := by rw [Int.natCast_mul]; rfl
  constructor
  · rw [Int.le_ediv_iff_mul_le (by omega), Int.neg_mul]; omega
  · have : (((X % 1073741824 ^ j : Nat) : Int) - ((q * (W % 1073741824 ^ j) : Nat) : Int)) / ((1073741824 ^ j : Nat) : Int) < 1 := by
      rw [Int.ediv_lt_iff_lt_mul (by omega)]; omega
    omega
end
section
/-! Limbs.divideByOdd -/
theorem dg_zero (X : Nat) : dg X 0 = X % 1073741824 := by unfold dg; rw [Nat.pow_zero, Nat.div_one]
theorem dg_mulB (X j : Nat) : dg (1073741824 * X) (j + 1) = dg X j := by
  unfold dg
  rw [Nat.pow_succ, Nat.mul_comm (1073741824 ^ j), ← Nat.div_div_eq_div_mul, Nat.mul_div_cancel_left _ (by decide)]
theorem dv_sub (Q W i : Nat) : Q / 1073741824 ^ i * W - dg Q i * W = 1073741824 * (Q / 1073741824 ^ (i + 1) * W) := by
  have h := dg_step Q i
  rw [h, ← Nat.sub_mul, Nat.add_sub_cancel, Nat.mul_comm _ 1073741824, Nat.mul_assoc]
theorem dv_le (Q W i : Nat) : dg Q i * W ≤ Q / 1073741824 ^ i * W := by
  have h := dg_step Q i
  exact Nat.mul_le_mul_right _ (by omega)
/-- the digit that is found is the answer's -/
theorem dv_dig (Q W i : Nat) (hW : W % 2 = 1) : ((dg (Q / 1073741824 ^ i * W) 0 : Nat) : Int) * nw ((dg W 0 : Nat) : Int) 4 % 1073741824 = ((dg Q i : Nat) : Int) := by
  obtain ⟨c, hc⟩ := nw_ok ((dg W 0 : Nat) : Int) (by rw [dg_zero]; omega)
  rw [dg_zero] at hc ⊢
  rw [dg_zero]
  generalize nw (((W % 1073741824 : Nat)) : Int) 4 = v at hc ⊢
  have e1 : ((dg Q i : Nat) : Int) = ((Q / 1073741824 ^ i : Nat) : Int) % 1073741824 := by unfold dg; rfl
  rw [e1]
  generalize Q / 1073741824 ^ i = X
  have a1 := Nat.div_add_mod W 1073741824
  have a2 := Nat.div_add_mod (X * W) 1073741824
  generalize W % 1073741824 = w0 at a1 hc
  generalize X * W % 1073741824 = r0 at a2 ⊢
  generalize W / 1073741824 = w1 at a1
  generalize X * W / 1073741824 = r1 at a2
  have b1 : (X : Int) * (1073741824 * (w1 : Int) + (w0 : Int)) = 1073741824 * (r1 : Int) + (r0 : Int) := by
    have b2 : (W : Int) = 1073741824 * (w1 : Int) + (w0 : Int) := by omega
    have b3 : ((X * W : Nat) : Int) = 1073741824 * (r1 : Int) + (r0 : Int) := by omega
    rw [← b2, ← Int.natCast_mul, b3]
  have e2 : (r0 : Int) * v = (X : Int) + 1073741824 * ((X : Int) * w1 * v + X * c - r1 * v) := by
    have : (r0 : Int) = X * (1073741824 * (w1 : Int) + (w0 : Int)) - 1073741824 * r1 := by omega
    rw [this]
    grind
  rw [e2, Int.add_mul_emod_self_left]
/-- the row in the inner loop -/
def dvi (J : Nat → Nat → Int64) (a Q W i j : Nat) : Nat → Nat → Int64 := mm_row J a (fun k => if k < i then zJ (dg Q k) else if k < i + j then zJ (dg (Q / 1073741824 ^ i * W - dg Q i * W) (k - i)) else if k < 5 then zJ (dg (Q / 1073741824 ^ i * W) (k - i)) else J a k)
theorem dvi_0 (J : Nat → Nat → Int64) (a Q W i : Nat) : dvi J a Q W i 0 = dv J a Q W i := by
  unfold dvi dv
  apply mm_row_congr
  intro k
  by_cases h : k < i
  · rw [if_pos h, if_pos h]
  · rw [if_neg h, if_neg h, if_neg (by omega)]
theorem dvi_s (J : Nat → Nat → Int64) (a Q W i j : Nat) : mm_up (dvi J a Q W i j) a (i + j) (zJ (dg (Q / 1073741824 ^ i * W - dg Q i * W) j)) = dvi J a Q W i (j + 1) := by
  unfold dvi
  rw [mm_row_up]
  apply mm_row_congr
  intro k
  by_cases h : k = i + j
  · subst h
    rw [if_pos rfl, if_neg (by omega), if_pos (by omega), show i + j - i = j by omega]
  · rw [if_neg h]
    by_cases h1 : k < i
    · rw [if_pos h1, if_pos h1]
    · rw [if_neg h1, if_neg h1]
      by_cases h2 : k < i + j
      · rw [if_pos h2, if_pos (show k < i + (j + 1) by omega)]
      · rw [if_neg h2, if_neg (show ¬ k < i + (j + 1) by omega)]
theorem dvi_e (J : Nat → Nat → Int64) (a Q W i : Nat) (hi : i < 5) : mm_up (dvi J a Q W i (5 - i)) a i (zJ (dg Q i)) = dv J a Q W (i + 1) := by
  unfold dvi dv
  rw [mm_row_up]
  apply mm_row_congr
  intro k
  by_cases h : k = i
  · subst h
    rw [if_pos rfl, if_pos (by omega)]
  · rw [if_neg h]
    by_cases h1 : k < i
    · rw [if_pos h1, if_pos (show k < i + 1 by omega)]
    · rw [if_neg h1, if_neg (show ¬ k < i + 1 by omega)]
      by_cases h2 : k < 5
      · rw [if_pos (show k < i + (5 - i) by omega), if_pos h2, dv_sub, show k - i = (k - (i + 1)) + 1 by omega, dg_mulB]
      · rw [if_neg (show ¬ k < i + (5 - i) by omega), if_neg h2, if_neg h2]
theorem dv_0 (J : Nat → Nat → Int64) (a Q W : Nat) (h : ∀ i, i < 5 → J a i = zJ (dg (Q * W) i)) : dv J a Q W 0 = J := by
  unfold dv
  rw [show (fun j => if j < 0 then zJ (dg Q j) else if j < 5 then zJ (dg (Q / 1073741824 ^ 0 * W) (j - 0)) else J a j) = J a from funext fun j => by
    rw [if_neg (Nat.not_lt_zero j), Nat.pow_zero, Nat.div_one, Nat.sub_zero]
    by_cases hj : j < 5
    · rw [if_pos hj, h j hj]
    · rw [if_neg hj], mm_row_self]
theorem dv_5 (J : Nat → Nat → Int64) (a Q W : Nat) : dv J a Q W 5 = lm J a Q := by
  unfold dv lm
  apply mm_row_congr
  intro k
  by_cases h : k < 5
  · rw [if_pos h, if_pos h]
  · rw [if_neg h, if_neg h, if_neg h]
set_option maxHeartbeats 4000000 in
set_option maxRecDepth 20000 in
theorem ev_divideByOdd (L : Nat) (I : Nat → Nat → Int32) (J : Nat → Nat → Int64) (w : Nat → Nat) (a b Q W : Nat) (hab : a ≠ b) (ha : isL a) (hb : isL b) (hV : ∀ i, i < 5 → J a i = zJ (dg (Q * W) i)) (hW : ∀ i, i < 5 → J b i = zJ (dg W i)) (hodd : W % 2 = 1) : EV m_Li_divideByOdd [.ref a, .ref b] (hp L I J w) none (hp L I (lm J a Q) w) := by
  unfold EV
  iterate 2 (refine RN.st rfl ?_)
  refine RN.lald (k := 0) rfl rfl (Or.inl hb.1) (show 0 < LL L b by rw [isL_l hb]; omega) (isL_b hb) ?_
  rw [show hJ (hp L I J w) b 0 = zJ (dg W 0) from hW 0 (by omega)]
  refine RN.call rfl rfl (ev_invOdd _ ((dg W 0 : Nat) : Int)) ?_
  generalize hv : nw ((dg W 0 : Nat) : Int) 4 = v
  iterate 5 (refine RN.st rfl ?_)
  have key := fun (v5 v7 v9 : Option Value) => RN.run (mid := m_Li_divideByOdd) (R := (none, hp L I (lm J a Q) w)) (fun i => (13, [some (.ref a), some (.ref b), some (.long (zJ v)), none, some (.int (nI i)), (if i = 0 then v5 else some (.long (zJ (dg Q (i - 1))))), none, (if i = 0 then v7 else some (.long (zJ (db (Q / 1073741824 ^ (i - 1) * W) (dg Q (i - 1)) W (5 - (i - 1)))))), none, (if i = 0 then v9 else some (.int (nI (5 - (i - 1)))))], [.int (nI 5), .int (nI i)], hp L I (dv J a Q W i) w, 0, 0)) 5 (fun i hi k => ?_) ?_
  · have key := key none none none
    rw [dv_0 J a Q W hV] at key
    exact key
  · have hq := dg_lt Q i
    rw [nI_succ, ← dvi_e J a Q W i hi] at k
    rw [if_neg (Nat.succ_ne_zero i), if_neg (Nat.succ_ne_zero i), if_neg (Nat.succ_ne_zero i), Nat.add_sub_cancel] at k
    have hbd := dv_dig Q W i hodd
    rw [hv] at hbd
    refine RN.icf rfl (nI_ge hi (by omega)) ?_
    iterate 2 (refine RN.st rfl ?_)
    refine RN.lald (k := i) rfl rfl (Or.inl ha.1) (show i < LL L a by rw [isL_l ha]; omega) (isL_b ha) ?_
    rw [show hJ (hp L I (dv J a Q W i) w) a i = zJ (dg (Q / 1073741824 ^ i * W) 0) from (mm_row_at J a (fun j => if j < i then zJ (dg Q j) else if j < 5 then zJ (dg (Q / 1073741824 ^ i * W) (j - i)) else J a j) i).trans ((if_neg (by omega)).trans ((if_pos hi).trans (by rw [Nat.sub_self])))]
    iterate 2 (refine RN.st rfl ?_)
    rw [zJ_mul]
    iterate 2 (refine RN.st rfl ?_)
    rw [show (zJ (((dg (Q / 1073741824 ^ i * W) 0 : Nat) : Int) * v) &&& 1073741823) = zJ (dg Q i) from (zJ_andZ _).trans (by rw [hbd])]
    iterate 1 (refine RN.st rfl ?_)
    have inner := fun (R : MR) (v7 v9 : Option Value) (kk : RN m_Li_divideByOdd (40, [some (.ref a), some (.ref b), some (.long (zJ v)), none, some (.int (nI i)), some (.long (zJ (dg Q i))), none, some (.long (zJ (db (Q / 1073741824 ^ i * W) (dg Q i) W (5 - i)))), none, some (.int (nI (5 - i)))], [.int (nI 5), .int (nI i + nI (5 - i))], hp L I (dvi J a Q W i (5 - i)) w, 0, 0) R) => RN.run (mid := m_Li_divideByOdd) (R := R) (fun j => (40, [some (.ref a), some (.ref b), some (.long (zJ v)), none, some (.int (nI i)), some (.long (zJ (dg Q i))), none, some (.long (zJ (db (Q / 1073741824 ^ i * W) (dg Q i) W j))), none, some (.int (nI j))], [.int (nI 5), .int (nI i + nI j)], hp L I (dvi J a Q W i j) w, 0, 0)) (5 - i) (fun j hj k2 => ?_) kk
    · have inner := inner (none, hp L I (lm J a Q) w) none none ?_
      · rw [dvi_0, show db (Q / 1073741824 ^ i * W) (dg Q i) W 0 = 0 from by unfold db; rw [Nat.pow_zero, Nat.mod_one, Nat.mod_one, Nat.mul_zero]; rfl] at inner
        iterate 8 (refine RN.st rfl ?_)
        exact inner
      · refine RN.ict rfl (show nI 5 ≤ nI i + nI (5 - i) from by rw [nI_add]; exact nI_le (by omega) (by omega)) ?_
        iterate 3 (refine RN.st rfl ?_)
        refine RN.last (k := i) rfl rfl ha.1 (show i < LL L a by rw [isL_l ha]; omega) (isL_b ha) ?_
        iterate 4 (refine RN.st rfl ?_)
        exact k
    · have hx := dg_lt (Q / 1073741824 ^ i * W) j
      have hw := dg_lt W j
      have hc := db_lt (Q / 1073741824 ^ i * W) (dg Q i) W j hq
      have hqw : dg Q i * dg W j ≤ 1073741824 * 1073741824 := Nat.mul_le_mul (by omega) (by omega)
      have e9 := db_dig (Q / 1073741824 ^ i * W) (dg Q i) W j (dv_le Q W i)
      rw [← dvi_s, ← e9, ← db_next, nI_succ] at k2
      refine RN.icf rfl (show ¬ nI 5 ≤ nI i + nI j from by rw [nI_add]; exact nI_ge (by omega) (by omega)) ?_
      iterate 5 (refine RN.st rfl ?_)
      refine RN.lald (k := i + j) rfl (nI_add i j) (Or.inl ha.1) (show i + j < LL L a by rw [isL_l ha]; omega) (isL_b ha) ?_
      rw [show hJ (hp L I (dvi J a Q W i j) w) a (i + j) = zJ (dg (Q / 1073741824 ^ i * W) j) from (mm_row_at J a (fun k => if k < i then zJ (dg Q k) else if k < i + j then zJ (dg (Q / 1073741824 ^ i * W - dg Q i * W) (k - i)) else if k < 5 then zJ (dg (Q / 1073741824 ^ i * W) (k - i)) else J a k) (i + j)).trans ((if_neg (by omega)).trans ((if_neg (by omega)).trans ((if_pos (by omega)).trans (by rw [show i + j - i = j by omega]))))]
      iterate 3 (refine RN.st rfl ?_)
      refine RN.lald (k := j) rfl rfl (Or.inl hb.1) (show j < LL L b by rw [isL_l hb]; omega) (isL_b hb) ?_
      rw [show hJ (hp L I (dvi J a Q W i j) w) b j = zJ (dg W j) from (mm_row_off J (fun k => if k < i then zJ (dg Q k) else if k < i + j then zJ (dg (Q / 1073741824 ^ i * W - dg Q i * W) (k - i)) else if k < 5 then zJ (dg (Q / 1073741824 ^ i * W) (k - i)) else J a k) j (Ne.symm hab)).trans (hW j (by omega))]
      iterate 1 (refine RN.st rfl ?_)
      rw [zJ_m]
      iterate 2 (refine RN.st rfl ?_)
      rw [zJ_sub, zJ_add]
      iterate 8 (refine RN.st rfl ?_)
      refine RN.last (k := i + j) rfl (nI_add i j) ha.1 (show i + j < LL L a by rw [isL_l ha]; omega) (isL_b ha) ?_
      rw [show (zJ (db (Q / 1073741824 ^ i * W) (dg Q i) W j + (((dg (Q / 1073741824 ^ i * W) j : Nat) : Int) - ((dg Q i * dg W j : Nat) : Int))) &&& 1073741823) = zJ ((db (Q / 1073741824 ^ i * W) (dg Q i) W j + (((dg (Q / 1073741824 ^ i * W) j : Nat) : Int) - ((dg Q i * dg W j : Nat) : Int))) % 1073741824) from zJ_andZ _]
      iterate 3 (refine RN.st rfl ?_)
      rw [zJ_shrZ _ (by omega) (by omega)]
      iterate 7 (refine RN.st rfl ?_)
      exact k2
  · rw [dv_5]
    refine RN.ict rfl (nI_le (Nat.le_refl _) (by omega)) ?_
    exact RN.ret rfl
end
section
/-! Fraction: halveBoth, findDivisor, digestOnto -/
theorem isL_135 : isL 135 := by decide
theorem isL_136 : isL 136 := by decide
theorem isL_137 : isL 137 := by decide
theorem isL_138 : isL 138 := by decide
theorem zJ_orN (a b : Nat) (ha : a < 2 ^ 62) (hb : b < 2 ^ 62) : zJ a ||| zJ b = zJ ((a ||| b : Nat) : Int) := by
  have h3 : a ||| b < 2 ^ 62 := Nat.or_lt_two_pow ha hb
  apply Int64.toBitVec.inj
  apply BitVec.eq_of_toNat_eq
  show ((zJ a).toBitVec ||| (zJ b).toBitVec).toNat = _
  rw [BitVec.toNat_or, zJ_nat a (by omega), zJ_nat b (by omega), zJ_nat _ (by omega)]
theorem or_mod2 (a b : Nat) : (a ||| b) % 2 = 0 ↔ a % 2 = 0 ∧ b % 2 = 0 := by
  have h := Nat.testBit_or a b 0
  simp only [Nat.testBit_zero] at h
  have h1 : decide ((a ||| b) % 2 = 1) = (decide (a % 2 = 1) || decide (b % 2 = 1)) := h
  by_cases ha : a % 2 = 1
  · have h2 : (a ||| b) % 2 = 1 := by simpa [ha] using h1
    exact ⟨fun z => by omega, fun z => by omega⟩
  · by_cases hb : b % 2 = 1
    · have h2 : (a ||| b) % 2 = 1 := by simpa [hb] using h1
      exact ⟨fun z => by omega, fun z => by omega⟩
    · have h2 : ¬ (a ||| b) % 2 = 1 := by simpa [ha, hb] using h1
      exact ⟨fun z => by omega, fun z => by omega⟩
theorem lm_comm (J : Nat → Nat → Int64) {a b : Nat} (h : a ≠ b) (V W : Nat) : lm (lm J a V) b W = lm (lm J b W) a V := by
  funext c k
  by_cases h1 : c = a
  · subst h1
    rw [lm_off _ W k h]
    by_cases hk : k < 5
    · rw [lm_at _ _ _ hk, lm_at _ _ _ hk]
    · show mm_row J c _ c k = mm_row (lm J b W) c _ c k
      rw [mm_row_at, mm_row_at, if_neg hk, if_neg hk]
      exact (lm_off J W k h).symm
  · rw [lm_off (lm J b W) V k h1]
    by_cases h2 : c = b
    · subst h2
      by_cases hk : k < 5
      · rw [lm_at _ _ _ hk, lm_at _ _ _ hk]
      · show mm_row (lm J a V) c _ c k = mm_row J c _ c k
        rw [mm_row_at, mm_row_at, if_neg hk, if_neg hk]
        exact lm_off J V k h1
    · rw [lm_off _ W k h2, lm_off _ W k h2, lm_off _ V k h1]
/-- two numbers halved while both are even, at most d times -/
def hb : Nat → Nat → Nat → Nat × Nat
  | 0, A, B => (A, B)
  | d + 1, A, B => if A % 2 = 0 ∧ B % 2 = 0 then hb d (A / 2) (B / 2) else (A, B)
theorem ev_halveBoth_loop (L : Nat) (I : Nat → Nat → Int32) (J : Nat → Nat → Int64) (w : Nat → Nat) : ∀ (d i A B : Nat), i + d = 150 → A < 1073741824 ^ 5 → B < 1073741824 ^ 5 → RN m_Fr_halveBoth (6, [some (.ref 134), some (.int (nI i))], [.int (nI 150), .int (nI i)], hp L I (lm (lm J 135 A) 136 B) w, 0, 0) (none, hp L I (lm (lm J 135 (hb d A B).1) 136 (hb d A B).2) w)
  | 0, i, A, B, hi, lA, lB => by
    obtain rfl : i = 150 := by omega
    refine RN.ict rfl (nI_le (Nat.le_refl _) (by omega)) ?_
    exact RN.ret rfl
  | d + 1, i, A, B, hi, lA, lB => by
    have hA := dg_lt A 0
    have hB := dg_lt B 0
    have pA := dg_par A
    have pB := dg_par B
    refine RN.icf rfl (nI_ge (show i < 150 by omega) (by omega)) ?_
    iterate 3 (refine RN.st rfl ?_)
    refine RN.lald (k := 0) rfl rfl (Or.inl rfl) (show 0 < 5 by omega) rfl ?_
    rw [show hJ (hp L I (lm (lm J 135 A) 136 B) w) 135 0 = zJ (dg A 0) from (lm_off (a := 136) (c := 135) (lm J 135 A) B 0 (by decide)).trans (lm_at J 135 A (show 0 < 5 by omega))]
    iterate 3 (refine RN.st rfl ?_)
    refine RN.lald (k := 0) rfl rfl (Or.inl rfl) (show 0 < 5 by omega) rfl ?_
    rw [show hJ (hp L I (lm (lm J 135 A) 136 B) w) 136 0 = zJ (dg B 0) from lm_at (lm J 135 A) 136 B (show 0 < 5 by omega)]
    iterate 1 (refine RN.st rfl ?_)
    rw [zJ_orN _ _ (by omega) (by omega)]
    iterate 2 (refine RN.st rfl ?_)
    rw [show (zJ ((dg A 0 ||| dg B 0 : Nat) : Int) &&& Int64.ofNat ((1 : Fin 2) : Nat)) = zJ (((dg A 0 ||| dg B 0) % 2 : Nat) : Int) from zJ_and1 _]
    iterate 2 (refine RN.st rfl ?_)
    have hor := or_mod2 (dg A 0) (dg B 0)
    by_cases q : A % 2 = 0 ∧ B % 2 = 0
    · have e : hb (d + 1) A B = hb d (A / 2) (B / 2) := if_pos q
      rw [e]
      have q2 : (dg A 0 ||| dg B 0) % 2 = 0 := hor.mpr ⟨by omega, by omega⟩
      refine RN.iff rfl (fun z => z (lc_eq.mpr (show zJ (((dg A 0 ||| dg B 0) % 2 : Nat) : Int) = zJ 0 by rw [q2]; rfl))) ?_
      have ih := ev_halveBoth_loop L I J w d (i + 1) (A / 2) (B / 2) (by omega) (by omega) (by omega)
      rw [nI_succ] at ih
      iterate 2 (refine RN.st rfl ?_)
      have e1 : lm (lm (lm J 135 A) 136 B) 135 (A / 2) = lm (lm J 135 (A / 2)) 136 B := by
        rw [lm_comm (lm J 135 A) (by decide), lm_lm]
      refine RN.call rfl rfl (ev_halve L I (lm (lm J 135 A) 136 B) w 135 A isL_135 (fun j hj => (lm_off (a := 136) (c := 135) (lm J 135 A) B j (by decide)).trans (lm_at J 135 A hj)) lA) ?_
      rw [e1]
      iterate 2 (refine RN.st rfl ?_)
      refine RN.call rfl rfl (ev_halve L I (lm (lm J 135 (A / 2)) 136 B) w 136 B isL_136 (fun j hj => lm_at (lm J 135 (A / 2)) 136 B hj) lB) ?_
      rw [lm_lm]
      iterate 4 (refine RN.st rfl ?_)
      exact ih
    · have e : hb (d + 1) A B = (A, B) := if_neg q
      rw [e]
      refine RN.ift rfl (lc_ne.mpr (fun z => q (by have z2 := (zJ_eq (a := (((dg A 0 ||| dg B 0) % 2 : Nat) : Int)) (b := 0) (by omega) (by omega) (by omega) (by omega)).mp z; have := hor.mp (by omega); omega))) ?_
      exact RN.ret rfl
theorem ev_halveBoth (L : Nat) (I : Nat → Nat → Int32) (J : Nat → Nat → Int64) (w : Nat → Nat) (A B : Nat) (lA : A < 1073741824 ^ 5) (lB : B < 1073741824 ^ 5) : EV m_Fr_halveBoth [.ref 134] (hp L I (lm (lm J 135 A) 136 B) w) none (hp L I (lm (lm J 135 (hb 150 A B).1) 136 (hb 150 A B).2) w) := by
  unfold EV
  iterate 4 (refine RN.st rfl ?_)
  exact ev_halveBoth_loop L I J w 150 0 A B (by omega) lA lB
/-- the fraction's digest -/
def fr_d1 (A : Nat) (h : Int64) : Nat → Int64 := fun m => fl (fun i x => 31 * x + zJ (dg A i)) m h
theorem us_le (V : Nat) : ∀ q, us V q ≤ q
  | 0 => Nat.le_refl 0
  | q + 1 => by
    show (if dg V q = 0 then us V q else q + 1) ≤ q + 1
    have := us_le V q
    split <;> omega
theorem ev_frDigest (L : Nat) (I : Nat → Nat → Int32) (J : Nat → Nat → Int64) (w : Nat → Nat) (x : Int64) (A B : Nat) : EV m_Fr_digestOnto [.ref 134, .long x] (hp L I (lm (lm J 135 A) 136 B) w) (some (.long (fr_d1 B (fr_d1 A (31 * (31 * (31 * x + (I 134 0).toInt64) + (nI (us A 5)).toInt64) + (nI (us B 5)).toInt64) (us A 5)) (us B 5)))) (hp L I (lm (lm J 135 A) 136 B) w) := by
  have uA := us_le A 5
  have uB := us_le B 5
  unfold EV
  iterate 2 (refine RN.st rfl ?_)
  have e1 : lm (lm J 135 A) 136 B = lm (lm (lm J 135 A) 136 B) 135 A := (lm_self _ 135 A (fun i hi => (lm_off (a := 136) (c := 135) (lm J 135 A) B i (by decide)).trans (lm_at J 135 A hi))).symm
  refine RN.call rfl rfl (v := some (.int (nI (us A 5)))) (h2 := hp L I (lm (lm J 135 A) 136 B) w) ?_ ?_
  · have := ev_used L I (lm (lm J 135 A) 136 B) w 135 A isL_135
    rw [← e1] at this
    exact this
  iterate 3 (refine RN.st rfl ?_)
  refine RN.call rfl rfl (ev_used L I (lm J 135 A) w 136 B isL_136) ?_
  generalize us A 5 = nA at uA ⊢
  generalize us B 5 = nB at uB ⊢
  iterate 1 (refine RN.st rfl ?_)
  show RN m_Fr_digestOnto (17, [some (.ref 134), some (.long x), none, some (.int (nI nA)), some (.int (nI nB)), none, none, none], [], hp L I (lm (lm J 135 A) 136 B) w, 0, 0) _
  generalize hy : (31 * (31 * (31 * x + (I 134 0).toInt64) + (nI nA).toInt64) + (nI nB).toInt64) = y
  have start : RN m_Fr_digestOnto (51, [some (.ref 134), some (.long x), none, some (.int (nI nA)), some (.int (nI nB)), some (.long y), none, some (.int (nI 0))], [.int (nI nA), .int (nI 0)], hp L I (lm (lm J 135 A) 136 B) w, 0, 0) (some (.long (fr_d1 B (fr_d1 A y nA) nB)), hp L I (lm (lm J 135 A) 136 B) w) := by
    refine RN.run (fun i => (51, [some (.ref 134), some (.long x), none, some (.int (nI nA)), some (.int (nI nB)), some (.long (fr_d1 A y i)), none, some (.int (nI i))], [.int (nI nA), .int (nI i)], hp L I (lm (lm J 135 A) 136 B) w, 0, 0)) nA (fun i hi k => ?_) ?_
    · rw [nI_succ] at k
      refine RN.icf rfl (nI_ge hi (by omega)) ?_
      iterate 6 (refine RN.st rfl ?_)
      refine RN.lald (k := i) rfl rfl (Or.inl rfl) (show i < 5 by omega) rfl ?_
      rw [show hJ (hp L I (lm (lm J 135 A) 136 B) w) 135 i = zJ (dg A i) from (lm_off (a := 136) (c := 135) (lm J 135 A) B i (by decide)).trans (lm_at J 135 A (by omega))]
      iterate 6 (refine RN.st rfl ?_)
      exact k
    · refine RN.ict rfl (nI_le (Nat.le_refl _) (by omega)) ?_
      generalize fr_d1 A y nA = z
      iterate 4 (refine RN.st rfl ?_)
      refine RN.run (fun i => (83, [some (.ref 134), some (.long x), none, some (.int (nI nA)), some (.int (nI nB)), some (.long (fr_d1 B z i)), none, some (.int (nI i))], [.int (nI nB), .int (nI i)], hp L I (lm (lm J 135 A) 136 B) w, 0, 0)) nB (fun i hi k => ?_) ?_
      · rw [nI_succ] at k
        refine RN.icf rfl (nI_ge hi (by omega)) ?_
        iterate 6 (refine RN.st rfl ?_)
        refine RN.lald (k := i) rfl rfl (Or.inl rfl) (show i < 5 by omega) rfl ?_
        rw [show hJ (hp L I (lm (lm J 135 A) 136 B) w) 136 i = zJ (dg B i) from lm_at (lm J 135 A) 136 B (by omega)]
        iterate 6 (refine RN.st rfl ?_)
        exact k
      · refine RN.ict rfl (nI_le (Nat.le_refl _) (by omega)) ?_
        iterate 1 (refine RN.st rfl ?_)
        exact RN.ret rfl
  subst hy
  iterate 22 (refine RN.st rfl ?_)
  exact start
end
section
/-! Fraction.findDivisor -/
section COPY
variable {mid pc : Nat} {Lo : ML} {st : List Value} {h : MH} {cu su : Nat} {R : MR}
theorem RN.copy {idx a b n : Nat} (hf : mm_fet mid pc = some (.invokestatic idx, 3, 0)) (hm : mm_mth (mi_c (mm_of mid)) idx = some 901) (ka : hK h a = 10) (kb : hK h b = 10) (hn : n ≤ 1000) (la : n ≤ hL h a) (lb : n ≤ hL h b) (hfr : Nat.ble 1 (mi_f (mm_of mid)) = true) (hw : Nat.ble (mm_cat st + 45) (mi_w (mm_of mid)) = true) (k : RN mid (pc + 3, Lo, st, rowJ h a (fun j => if j < n then hJ h b j else hJ h a j), cu, su) R) : RN mid (pc, Lo, .int (nI n) :: .int 0 :: .ref a :: .int 0 :: .ref b :: st, h, cu, su) R := by
  refine RN.st ?_ k
  rw [mm_one_of hf]
  show mm_inv mid (mi_c (mm_of mid)) idx pc false Lo (.int (nI n) :: .int 0 :: .ref a :: .int 0 :: .ref b :: st) h cu su = _
  unfold mm_inv
  rw [hm]
  have hc : (nI n).toNatClampNeg = n := nI_clamp (by omega)
  show (if false = false ∧ hK h a = 10 ∧ hK h b = 10 ∧ (0 : Int32) = 0 ∧ (0 : Int32) = 0 ∧ ¬ nI n < 0 ∧ (nI n).toNatClampNeg ≤ hL h a ∧ (nI n).toNatClampNeg ≤ hL h b ∧ Nat.ble 1 (mi_f (mm_of mid)) = true ∧ Nat.ble (mm_cat st + 45) (mi_w (mm_of mid)) = true then mm_nx (pc + 3) Lo st (rowJ h a (fun j => if j < (nI n).toNatClampNeg then hJ h b j else hJ h a j)) cu su else none) = _
  rw [hc, if_pos ⟨rfl, ka, kb, rfl, rfl, nI_pos (by omega), la, lb, hfr, hw⟩]
  rfl
end COPY
/-- the binary way to the greatest odd divisor, at most d steps -/
def bg : Nat → Nat → Nat → Nat × Nat
  | 0, x, y => (x, y)
  | d + 1, x, y => if x = y then (x, y) else if y < x then bg d (mo 150 (x - y)) y else bg d x (mo 150 (y - x))
theorem mo_le : ∀ d V, mo d V ≤ V
  | 0, V => Nat.le_refl V
  | d + 1, V => by
    show (if V % 2 = 0 then mo d (V / 2) else V) ≤ V
    have := mo_le d (V / 2)
    split <;> omega
theorem ev_findDivisor_loop (L : Nat) (I : Nat → Nat → Int32) (J : Nat → Nat → Int64) (w : Nat → Nat) : ∀ (d i x y : Nat) (v2 v3 : Option Value), i + d = 300 → x < 1073741824 ^ 5 → y < 1073741824 ^ 5 → RN m_Fr_findDivisor (48, [some (.ref 134), some (.int (nI i)), v2, v3], [.int (nI 300), .int (nI i)], hp L I (lm (lm J 137 x) 138 y) w, 0, 0) (none, hp L I (lm (lm J 137 (bg d x y).1) 138 (bg d x y).2) w)
  | 0, i, x, y, v2, v3, hi, lx, ly => by
    obtain rfl : i = 300 := by omega
    refine RN.ict rfl (nI_le (Nat.le_refl _) (by omega)) ?_
    exact RN.ret rfl
  | d + 1, i, x, y, v2, v3, hi, lx, ly => by
    have hx : ∀ j, j < 5 → lm (lm J 137 x) 138 y 137 j = zJ (dg x j) := fun j hj => (lm_off (a := 138) (c := 137) (lm J 137 x) y j (by decide)).trans (lm_at J 137 x hj)
    have hy : ∀ j, j < 5 → lm (lm J 137 x) 138 y 138 j = zJ (dg y j) := fun j hj => lm_at (lm J 137 x) 138 y hj
    refine RN.icf rfl (nI_ge (show i < 300 by omega) (by omega)) ?_
    iterate 4 (refine RN.st rfl ?_)
    by_cases e : x = y
    · have eb : bg (d + 1) x y = (x, y) := if_pos e
      rw [eb]
      refine RN.call rfl rfl (ev_compare L I (lm (lm J 137 x) 138 y) w 137 138 x y isL_137 isL_138 hx hy lx ly 0 (fun z => by omega) (fun z => by omega) (fun _ => rfl)) ?_
      iterate 2 (refine RN.st rfl ?_)
      refine RN.iff rfl (fun z => z rfl) ?_
      exact RN.ret rfl
    · by_cases lt : y < x
      · have eb : bg (d + 1) x y = bg d (mo 150 (x - y)) y := (if_neg e).trans (if_pos lt)
        rw [eb]
        have hm := mo_le 150 (x - y)
        have ih := ev_findDivisor_loop L I J w d (i + 1) (mo 150 (x - y)) y (some (.int 1)) (some (.ref 137)) (by omega) (by omega) ly
        rw [nI_succ] at ih
        refine RN.call rfl rfl (ev_compare L I (lm (lm J 137 x) 138 y) w 137 138 x y isL_137 isL_138 hx hy lx ly 1 (fun z => by omega) (fun _ => rfl) (fun z => by omega)) ?_
        iterate 2 (refine RN.st rfl ?_)
        refine RN.ift rfl (show ¬ (1 : Int32) = 0 by decide) ?_
        iterate 1 (refine RN.st rfl ?_)
        refine RN.iff rfl (show ¬ (1 : Int32) ≤ 0 by decide) ?_
        iterate 6 (refine RN.st rfl ?_)
        refine RN.iff rfl (show ¬ (1 : Int32) ≤ 0 by decide) ?_
        iterate 3 (refine RN.st rfl ?_)
        refine RN.call rfl rfl (ev_subtract L I (lm (lm J 137 x) 138 y) w 137 138 x y (by decide) isL_137 isL_138 hx hy (by omega)) ?_
        rw [lm_comm (lm J 137 x) (a := 138) (b := 137) (by decide), lm_lm]
        iterate 1 (refine RN.st rfl ?_)
        refine RN.call rfl rfl (ev_makeOdd L I (lm (lm J 137 (x - y)) 138 y) w 137 (x - y) isL_137 (fun j hj => (lm_off (a := 138) (c := 137) (lm J 137 (x - y)) y j (by decide)).trans (lm_at J 137 (x - y) hj)) (by omega)) ?_
        rw [lm_comm (lm J 137 (x - y)) (a := 138) (b := 137) (by decide), lm_lm]
        iterate 4 (refine RN.st rfl ?_)
        exact ih
      · have eb : bg (d + 1) x y = bg d x (mo 150 (y - x)) := (if_neg e).trans (if_neg lt)
        rw [eb]
        have hm := mo_le 150 (y - x)
        have ih := ev_findDivisor_loop L I J w d (i + 1) x (mo 150 (y - x)) (some (.int (-1))) (some (.ref 138)) (by omega) lx (by omega)
        rw [nI_succ] at ih
        refine RN.call rfl rfl (ev_compare L I (lm (lm J 137 x) 138 y) w 137 138 x y isL_137 isL_138 hx hy lx ly (-1) (fun _ => rfl) (fun z => by omega) (fun z => by omega)) ?_
        iterate 2 (refine RN.st rfl ?_)
        refine RN.ift rfl (show ¬ (-1 : Int32) = 0 by decide) ?_
        iterate 1 (refine RN.st rfl ?_)
        refine RN.ift rfl (show (-1 : Int32) ≤ 0 by decide) ?_
        iterate 5 (refine RN.st rfl ?_)
        refine RN.ift rfl (show (-1 : Int32) ≤ 0 by decide) ?_
        iterate 2 (refine RN.st rfl ?_)
        refine RN.call rfl rfl (ev_subtract L I (lm (lm J 137 x) 138 y) w 138 137 y x (by decide) isL_138 isL_137 hy hx (by omega)) ?_
        rw [lm_lm]
        iterate 1 (refine RN.st rfl ?_)
        refine RN.call rfl rfl (ev_makeOdd L I (lm (lm J 137 x) 138 (y - x)) w 138 (y - x) isL_138 (fun j hj => lm_at (lm J 137 x) 138 (y - x) hj) (by omega)) ?_
        rw [lm_lm]
        iterate 4 (refine RN.st rfl ?_)
        exact ih
theorem ev_findDivisor (L : Nat) (I : Nat → Nat → Int32) (J : Nat → Nat → Int64) (w : Nat → Nat) (A B : Nat) (lA : A < 1073741824 ^ 5) (lB : B < 1073741824 ^ 5) (hA : ∀ j, j < 5 → J 135 j = zJ (dg A j)) (hB : ∀ j, j < 5 → J 136 j = zJ (dg B j)) : EV m_Fr_findDivisor [.ref 134] (hp L I J w) none (hp L I (lm (lm J 137 (bg 300 (mo 150 A) (mo 150 B)).1) 138 (bg 300 (mo 150 A) (mo 150 B)).2) w) := by
  have mA := mo_le 150 A
  have mB := mo_le 150 B
  have key := ev_findDivisor_loop L I J w 300 0 (mo 150 A) (mo 150 B) none none (by omega) (by omega) (by omega)
  unfold EV
  iterate 7 (refine RN.st rfl ?_)
  refine RN.copy (n := 5) rfl rfl rfl rfl (by omega) (show 5 ≤ 5 by omega) (show 5 ≤ 5 by omega) rfl rfl ?_
  have e1 : mm_row J 137 (fun j => if j < 5 then J 135 j else J 137 j) = lm J 137 A := by
    unfold lm
    apply mm_row_congr
    intro j
    by_cases hj : j < 5
    · rw [if_pos hj, if_pos hj, hA j hj]
    · rw [if_neg hj, if_neg hj]
  show RN m_Fr_findDivisor (14, _, _, hp L I (mm_row J 137 (fun j => if j < 5 then J 135 j else J 137 j)) w, 0, 0) _
  rw [e1]
  iterate 7 (refine RN.st rfl ?_)
  refine RN.copy (n := 5) rfl rfl rfl rfl (by omega) (show 5 ≤ 5 by omega) (show 5 ≤ 5 by omega) rfl rfl ?_
  have e2 : mm_row (lm J 137 A) 138 (fun j => if j < 5 then lm J 137 A 136 j else lm J 137 A 138 j) = lm (lm J 137 A) 138 B := by
    show _ = mm_row (lm J 137 A) 138 _
    apply mm_row_congr
    intro j
    by_cases hj : j < 5
    · rw [if_pos hj, if_pos hj, lm_off J A j (by decide), hB j hj]
    · rw [if_neg hj, if_neg hj]
  show RN m_Fr_findDivisor (28, _, _, hp L I (mm_row (lm J 137 A) 138 (fun j => if j < 5 then lm J 137 A 136 j else lm J 137 A 138 j)) w, 0, 0) _
  rw [e2]
  iterate 2 (refine RN.st rfl ?_)
  refine RN.call rfl rfl (ev_makeOdd L I (lm (lm J 137 A) 138 B) w 137 A isL_137 (fun j hj => (lm_off (a := 138) (c := 137) (lm J 137 A) B j (by decide)).trans (lm_at J 137 A hj)) lA) ?_
  rw [lm_comm (lm J 137 A) (a := 138) (b := 137) (by decide), lm_lm]
  iterate 2 (refine RN.st rfl ?_)
  refine RN.call rfl rfl (ev_makeOdd L I (lm (lm J 137 (mo 150 A)) 138 B) w 138 B isL_138 (fun j hj => lm_at (lm J 137 (mo 150 A)) 138 B hj) lB) ?_
  rw [lm_lm]
  iterate 4 (refine RN.st rfl ?_)
  exact key
end
section
/-! runs, by what they end in -/
def WP (mid : Nat) (x : MS) (Q : Option Value → MH → Prop) : Prop := ∃ r h, RN mid x (r, h) ∧ Q r h
def SP (mid : Nat) (av : List Value) (h : MH) (Q : Option Value → MH → Prop) : Prop := WP mid (0, mm_ent mid av, [], h, 0, 0) Q
theorem WP.up {mid : Nat} {x x' : MS} {Q : Option Value → MH → Prop} (f : ∀ R, RN mid x' R → RN mid x R) (k : WP mid x' Q) : WP mid x Q := by
  obtain ⟨r, h, a, b⟩ := k
  exact ⟨r, h, f _ a, b⟩
theorem WP.mono {mid : Nat} {x : MS} {Q Q' : Option Value → MH → Prop} (k : WP mid x Q) (f : ∀ r h, Q r h → Q' r h) : WP mid x Q' := by
  obtain ⟨r, h, a, b⟩ := k
  exact ⟨r, h, a, f _ _ b⟩
theorem SP.mono {mid : Nat} {av : List Value} {h : MH} {Q Q' : Option Value → MH → Prop} (k : SP mid av h Q) (f : ∀ r h, Q r h → Q' r h) : SP mid av h Q' := WP.mono k f
theorem SP.of {mid : Nat} {av : List Value} {h : MH} {r : Option Value} {h' : MH} {Q : Option Value → MH → Prop} (e : EV mid av h r h') (q : Q r h') : SP mid av h Q := ⟨r, h', e, q⟩
theorem SP.ev {mid : Nat} {av : List Value} {h : MH} {Q : Option Value → MH → Prop} (k : SP mid av h Q) : ∃ r h', EV mid av h r h' ∧ Q r h' := k
section WRULES
variable {mid pc : Nat} {L : ML} {sk : List Value} {h : MH} {cu su : Nat} {Q : Option Value → MH → Prop}
theorem WP.st {x' : MS} (e : mm_one mid pc L sk h cu su = some (.inl x')) (k : WP mid x' Q) : WP mid (pc, L, sk, h, cu, su) Q := WP.up (fun _ z => RN.st e z) k
theorem WP.ret {r : Option Value} {h' : MH} (e : mm_one mid pc L sk h cu su = some (.inr (.inl (r, h')))) (q : Q r h') : WP mid (pc, L, sk, h, cu, su) Q := ⟨r, h', RN.ret e, q⟩
theorem WP.calle {m2 : Nat} {av : List Value} {x' : MS} {v : Option Value} {h2 : MH} (e : mm_one mid pc L sk h cu su = some (.inr (.inr (m2, av, x')))) (hb : Nat.ble (mm_slots av).length (mi_l (mm_of m2)) = true) (hev : EV m2 av x'.2.2.2.1 v h2) (k : WP mid (x'.1, x'.2.1, v.toList ++ x'.2.2.1, h2, x'.2.2.2.2.1, x'.2.2.2.2.2) Q) : WP mid (pc, L, sk, h, cu, su) Q := WP.up (fun _ z => RN.call e hb hev z) k
theorem WP.call {m2 : Nat} {av : List Value} {x' : MS} {Q2 : Option Value → MH → Prop} (e : mm_one mid pc L sk h cu su = some (.inr (.inr (m2, av, x')))) (hb : Nat.ble (mm_slots av).length (mi_l (mm_of m2)) = true) (hs : SP m2 av x'.2.2.2.1 Q2) (k : ∀ v h2, Q2 v h2 → WP mid (x'.1, x'.2.1, v.toList ++ x'.2.2.1, h2, x'.2.2.2.2.1, x'.2.2.2.2.2) Q) : WP mid (pc, L, sk, h, cu, su) Q := by
  obtain ⟨v, h2, a, b⟩ := hs
  exact WP.calle e hb a (k v h2 b)
theorem WP.ict {c : ClassFile.Cond} {off : Int} {tgt : Nat} {x y : Int32} (hf : mm_fet mid pc = some (.if_icmp c off, 3, tgt)) (hc : icP c x y) (k : WP mid (tgt, L, sk, h, cu, su) Q) : WP mid (pc, L, .int y :: .int x :: sk, h, cu, su) Q := WP.up (fun _ z => RN.ict hf hc z) k
theorem WP.icf {c : ClassFile.Cond} {off : Int} {tgt : Nat} {x y : Int32} (hf : mm_fet mid pc = some (.if_icmp c off, 3, tgt)) (hc : ¬ icP c x y) (k : WP mid (pc + 3, L, sk, h, cu, su) Q) : WP mid (pc, L, .int y :: .int x :: sk, h, cu, su) Q := WP.up (fun _ z => RN.icf hf hc z) k
theorem WP.ift {c : ClassFile.Cond} {off : Int} {tgt : Nat} {x : Int32} (hf : mm_fet mid pc = some (.ifCond c off, 3, tgt)) (hc : icP c x 0) (k : WP mid (tgt, L, sk, h, cu, su) Q) : WP mid (pc, L, .int x :: sk, h, cu, su) Q := WP.up (fun _ z => RN.ift hf hc z) k
theorem WP.iff {c : ClassFile.Cond} {off : Int} {tgt : Nat} {x : Int32} (hf : mm_fet mid pc = some (.ifCond c off, 3, tgt)) (hc : ¬ icP c x 0) (k : WP mid (pc + 3, L, sk, h, cu, su) Q) : WP mid (pc, L, .int x :: sk, h, cu, su) Q := WP.up (fun _ z => RN.iff hf hc z) k
theorem WP.ic {c : ClassFile.Cond} {off : Int} {tgt : Nat} {x y : Int32} (hf : mm_fet mid pc = some (.if_icmp c off, 3, tgt)) (k1 : icP c x y → WP mid (tgt, L, sk, h, cu, su) Q) (k2 : ¬ icP c x y → WP mid (pc + 3, L, sk, h, cu, su) Q) : WP mid (pc, L, .int y :: .int x :: sk, h, cu, su) Q := by
  by_cases hc : icP c x y
  · exact WP.ict hf hc (k1 hc)
  · exact WP.icf hf hc (k2 hc)
theorem WP.i0 {c : ClassFile.Cond} {off : Int} {tgt : Nat} {x : Int32} (hf : mm_fet mid pc = some (.ifCond c off, 3, tgt)) (k1 : icP c x 0 → WP mid (tgt, L, sk, h, cu, su) Q) (k2 : ¬ icP c x 0 → WP mid (pc + 3, L, sk, h, cu, su) Q) : WP mid (pc, L, .int x :: sk, h, cu, su) Q := by
  by_cases hc : icP c x 0
  · exact WP.ift hf hc (k1 hc)
  · exact WP.iff hf hc (k2 hc)
theorem WP.iald {x : Int32} {a k : Nat} (hf : mm_fet mid pc = some (.iaload, 1, 0)) (hx : x = nI k) (hk : hK h a = 9 ∨ hK h a = 20) (hb : k < hL h a) (hl : Nat.ble (hL h a) 2560 = true) (kk : WP mid (pc + 1, L, .int (hI h a k) :: sk, h, cu, su) Q) : WP mid (pc, L, .int x :: .ref a :: sk, h, cu, su) Q := WP.up (fun _ z => RN.iald hf hx hk hb hl z) kk
theorem WP.lald {x : Int32} {a k : Nat} (hf : mm_fet mid pc = some (.laload, 1, 0)) (hx : x = nI k) (hk : hK h a = 10 ∨ hK h a = 21) (hb : k < hL h a) (hl : Nat.ble (hL h a) 2560 = true) (kk : WP mid (pc + 1, L, .long (hJ h a k) :: sk, h, cu, su) Q) : WP mid (pc, L, .int x :: .ref a :: sk, h, cu, su) Q := WP.up (fun _ z => RN.lald hf hx hk hb hl z) kk
theorem WP.bald {x : Int32} {a k : Nat} (hf : mm_fet mid pc = some (.baload, 1, 0)) (hx : x = nI k) (hk : hK h a = 11) (hb : k < hL h a) (hl : Nat.ble (hL h a) 2560 = true) (kk : WP mid (pc + 1, L, .int (hI h a k) :: sk, h, cu, su) Q) : WP mid (pc, L, .int x :: .ref a :: sk, h, cu, su) Q := WP.up (fun _ z => RN.bald hf hx hk hb hl z) kk
theorem WP.aald {x : Int32} {a k q : Nat} (hf : mm_fet mid pc = some (.aaload, 1, 0)) (hx : x = nI k) (hk : hK h a = 12 ∨ hK h a = 13 ∨ hK h a = 14 ∨ hK h a = 15) (hb : k < hL h a) (hl : Nat.ble (hL h a) 2560 = true) (hq : hR h a k = some q) (kk : WP mid (pc + 1, L, .ref q :: sk, h, cu, su) Q) : WP mid (pc, L, .int x :: .ref a :: sk, h, cu, su) Q := WP.up (fun _ z => RN.aald hf hx hk hb hl hq z) kk
theorem WP.iast {x v : Int32} {a k : Nat} (hf : mm_fet mid pc = some (.iastore, 1, 0)) (hx : x = nI k) (hk : hK h a = 9) (hb : k < hL h a) (hl : Nat.ble (hL h a) 2560 = true) (kk : WP mid (pc + 1, L, sk, putI h a k v, cu, su) Q) : WP mid (pc, L, .int v :: .int x :: .ref a :: sk, h, cu, su) Q := WP.up (fun _ z => RN.iast hf hx hk hb hl z) kk
theorem WP.last {x : Int32} {v : Int64} {a k : Nat} (hf : mm_fet mid pc = some (.lastore, 1, 0)) (hx : x = nI k) (hk : hK h a = 10) (hb : k < hL h a) (hl : Nat.ble (hL h a) 2560 = true) (kk : WP mid (pc + 1, L, sk, putJ h a k v, cu, su) Q) : WP mid (pc, L, .long v :: .int x :: .ref a :: sk, h, cu, su) Q := WP.up (fun _ z => RN.last hf hx hk hb hl z) kk
theorem WP.bast {x v : Int32} {a k : Nat} (hf : mm_fet mid pc = some (.bastore, 1, 0)) (hx : x = nI k) (hk : hK h a = 11) (hb : k < hL h a) (hl : Nat.ble (hL h a) 2560 = true) (hv : v = 0 ∨ v = 1) (kk : WP mid (pc + 1, L, sk, putI h a k v, cu, su) Q) : WP mid (pc, L, .int v :: .int x :: .ref a :: sk, h, cu, su) Q := WP.up (fun _ z => RN.bast hf hx hk hb hl hv z) kk
theorem WP.aast {x : Int32} {a v k : Nat} (hf : mm_fet mid pc = some (.aastore, 1, 0)) (hx : x = nI k) (hk : (hK h a = 12 ∧ hK h v = 5) ∨ (hK h a = 13 ∧ hK h v = 6) ∨ (hK h a = 15 ∧ hK h v = 10)) (hb : k < hL h a) (hl : Nat.ble (hL h a) 2560 = true) (kk : WP mid (pc + 1, L, sk, putR h a k (some v), cu, su) Q) : WP mid (pc, L, .ref v :: .int x :: .ref a :: sk, h, cu, su) Q := WP.up (fun _ z => RN.aast hf hx hk hb hl z) kk
theorem WP.lrem {x y : Int64} (hf : mm_fet mid pc = some (.lrem, 1, 0)) (hy : ¬ y = 0) (k : WP mid (pc + 1, L, .long (x - x / y * y) :: sk, h, cu, su) Q) : WP mid (pc, L, .long y :: .long x :: sk, h, cu, su) Q := WP.up (fun _ z => RN.lrem hf hy z) k
theorem WP.ldiv {x y : Int64} (hf : mm_fet mid pc = some (.ldiv, 1, 0)) (hy : ¬ y = 0) (k : WP mid (pc + 1, L, .long (x / y) :: sk, h, cu, su) Q) : WP mid (pc, L, .long y :: .long x :: sk, h, cu, su) Q := WP.up (fun _ z => RN.ldiv hf hy z) k
theorem WP.irem {x y : Int32} (hf : mm_fet mid pc = some (.irem, 1, 0)) (hy : ¬ y = 0) (k : WP mid (pc + 1, L, .int (x - x / y * y) :: sk, h, cu, su) Q) : WP mid (pc, L, .int y :: .int x :: sk, h, cu, su) Q := WP.up (fun _ z => RN.irem hf hy z) k
theorem WP.idiv {x y : Int32} (hf : mm_fet mid pc = some (.idiv, 1, 0)) (hy : ¬ y = 0) (k : WP mid (pc + 1, L, .int (x / y) :: sk, h, cu, su) Q) : WP mid (pc, L, .int y :: .int x :: sk, h, cu, su) Q := WP.up (fun _ z => RN.idiv hf hy z) k
theorem WP.get {a ci f idx : Nat} {v : Value} (hf : mm_fet mid pc = some (.getfield idx, 3, 0)) (hfl : mm_fld (mi_c (mm_of mid)) idx = some (ci, f)) (hk : hK h a = ci) (hv : mm_fv h a ci f = v) (k : WP mid (pc + 3, L, v :: sk, h, cu, su) Q) : WP mid (pc, L, .ref a :: sk, h, cu, su) Q := WP.up (fun _ z => RN.get hf hfl hk hv z) k
theorem WP.pfI {a ci f idx : Nat} {x : Int32} (hf : mm_fet mid pc = some (.putfield idx, 3, 0)) (hfl : mm_fld (mi_c (mm_of mid)) idx = some (ci, f)) (hk : hK h a = ci) (hfin : mm_isF ci f = false) (ht : mm_ty ci f = 0) (k : WP mid (pc + 3, L, sk, putI h a f x, cu, su) Q) : WP mid (pc, L, .int x :: .ref a :: sk, h, cu, su) Q := WP.up (fun _ z => RN.pfI hf hfl hk hfin ht z) k
theorem WP.pfZ {a ci f idx : Nat} {x : Int32} (hf : mm_fet mid pc = some (.putfield idx, 3, 0)) (hfl : mm_fld (mi_c (mm_of mid)) idx = some (ci, f)) (hk : hK h a = ci) (hfin : mm_isF ci f = false) (ht : mm_ty ci f = 1) (hx : x = 0 ∨ x = 1) (k : WP mid (pc + 3, L, sk, putI h a f x, cu, su) Q) : WP mid (pc, L, .int x :: .ref a :: sk, h, cu, su) Q := WP.up (fun _ z => RN.pfZ hf hfl hk hfin ht hx z) k
theorem WP.alen {a n : Nat} (hf : mm_fet mid pc = some (.arraylength, 1, 0)) (hk : (9 ≤ hK h a ∧ hK h a ≤ 15) ∨ hK h a = 20 ∨ hK h a = 21) (hn : hL h a = n) (k : WP mid (pc + 1, L, .int (nI n) :: sk, h, cu, su) Q) : WP mid (pc, L, .ref a :: sk, h, cu, su) Q := WP.up (fun _ z => RN.alen hf hk hn z) k
end WRULES
/-- a loop by what holds behind i rounds -/
theorem WP.inv {σ : Type} {mid : Nat} {Q : Option Value → MH → Prop} (S : Nat → σ → MS) (Inv : Nat → σ → Prop) (n : Nat) (s0 : σ) (h0 : Inv 0 s0) (hs : ∀ i s, i < n → Inv i s → (∀ s', Inv (i + 1) s' → WP mid (S (i + 1) s') Q) → WP mid (S i s) Q) (hn : ∀ s, Inv n s → WP mid (S n s) Q) : WP mid (S 0 s0) Q := by
  have key : ∀ d i s, i + d = n → Inv i s → WP mid (S i s) Q := by
    intro d
    induction d with
    | zero => intro i s hi hI'; obtain rfl : i = n := by omega
              exact hn s hI'
    | succ d ih => exact fun i s hi hI' => hs i s (by omega) hI' (fun s' h' => ih (i + 1) s' (by omega) h')
  exact key n 0 s0 (by omega) h0
/-- a loop downwards: round i is the one with i left -/
theorem WP.down {σ : Type} {mid : Nat} {Q : Option Value → MH → Prop} (S : Nat → σ → MS) (Inv : Nat → σ → Prop) (n : Nat) (s0 : σ) (h0 : Inv n s0) (hs : ∀ i s, i < n → Inv (i + 1) s → (∀ s', Inv i s' → WP mid (S i s') Q) → WP mid (S (i + 1) s) Q) (hn : ∀ s, Inv 0 s → WP mid (S 0 s) Q) : WP mid (S n s0) Q := by
  have key : ∀ i s, i ≤ n → Inv i s → WP mid (S i s) Q := by
    intro i
    induction i with
    | zero => intro s _ hI'; exact hn s hI'
    | succ i ih => exact fun s hi hI' => hs i s (by omega) hI' (fun s' h' => ih s' (by omega) h')
  exact key n s0 (Nat.le_refl _) h0
end
section
/-! Joiner -/
def pr (p : Nat → Int) : Nat → Int
  | 0 => 1
  | n + 1 => pr p n * p n
def vl (p d : Nat → Int) : Nat → Int
  | 0 => 0
  | n + 1 => vl p d n + d n * pr p n
theorem vl_congr {p d d' : Nat → Int} : ∀ n, (∀ k, k < n → d k = d' k) → vl p d n = vl p d' n
  | 0, _ => rfl
  | n + 1, h => by
    show vl p d n + d n * pr p n = vl p d' n + d' n * pr p n
    rw [vl_congr n (fun k hk => h k (by omega)), h n (by omega)]
theorem emod_mul_l (a b p : Int) : a % p * b % p = a * b % p := by rw [Int.mul_emod, Int.emod_emod, ← Int.mul_emod]
theorem emod_ma (a b c p : Int) : (a % p * b + c) % p = (a * b + c) % p := by
  rw [Int.add_emod, emod_mul_l, ← Int.add_emod]
theorem nI_m1 (m : Nat) : nI (m + 1) - 1 = nI m := by
  rw [nI_succ]
  show nI m + 1 - 1 = nI m
  rw [Int32.add_sub_cancel]
def dr (J : Nat → Nat → Int64) (d : Nat → Int) (i : Nat) : Nat → Nat → Int64 := mm_row J 140 (fun k => if k < i then zJ (d k) else J 140 k)
theorem dr_off (J : Nat → Nat → Int64) (d : Nat → Int) (i : Nat) {c : Nat} (h : c ≠ 140) (k : Nat) : dr J d i c k = J c k := mm_row_off J _ k h
theorem dr_at (J : Nat → Nat → Int64) (d : Nat → Int) (i k : Nat) (h : k < i) : dr J d i 140 k = zJ (d k) := (mm_row_at J 140 _ k).trans (if_pos h)
theorem dr_s (J : Nat → Nat → Int64) (d : Nat → Int) (i : Nat) (v : Int) : mm_up (dr J d i) 140 i (zJ v) = dr J (fun j => if j = i then v else d j) (i + 1) := by
  unfold dr
  rw [mm_row_up]
  apply mm_row_congr
  intro j
  dsimp only
  by_cases hj : j = i
  · subst hj; rw [if_pos rfl, if_pos (by omega), if_pos rfl]
  · rw [if_neg hj]
    by_cases h2 : j < i
    · rw [if_pos h2, if_pos (by omega), if_neg hj]
    · rw [if_neg h2, if_neg (by omega)]
theorem nI_sub1 (m : Nat) : nI m - 1 = nI m + Int32.ofInt (-1) := Int32.sub_eq_add_neg _ _
theorem zJ_i1 : (1 : Int32).toInt64 = zJ 1 := by decide
theorem zJ_im1 : (-1 : Int32).toInt64 = zJ (-1) := by decide
set_option maxHeartbeats 4000000 in
set_option maxRecDepth 20000 in
theorem sp_findDigits (L : Nat) (I : Nat → Nat → Int32) (J : Nat → Nat → Int64) (w : Nat → Nat) (a : Nat) (ka : KK a = 10) (la : hp_l.getD a 0 = 4) (a0 : a ≠ 0) (a1 : a ≠ 140) (p x : Nat → Int) (hP : ∀ i, i < 4 → J 131 i = zJ (p i) ∧ 2 ≤ p i ∧ p i < 2 ^ 31) (hX : ∀ i, i < 4 → J a i = zJ (x i) ∧ 0 ≤ x i ∧ x i < p i) (sd : Int32) (s : Int) (hs : sd.toInt64 = zJ s) (hs1 : s = 1 ∨ s = -1) (hc : ∀ i, i < 4 → Int.gcd (pr p i) (p i) = 1) : SP m_Jo_findDigits [.ref 139, .ref a, .ref 131, .int sd] (hp L I J w) (fun r h => r = none ∧ ∃ d : Nat → Int, (∀ i, i < 4 → 0 ≤ d i ∧ d i < p i ∧ (vl p d (i + 1) - s * x i) % p i = 0) ∧ h = hp L I (dr J d 4) w) := by
  have hla : LL L a = 4 := (if_neg a0).trans la
  have hbl : Nat.ble (LL L a) 2560 = true := by rw [hla]; rfl
  unfold SP
  iterate 4 (refine WP.st rfl ?_)
  have e0 : J = dr J (fun _ => 0) 0 := by
    unfold dr
    rw [show (fun k => if k < 0 then zJ ((fun _ => 0 : Nat → Int) k) else J 140 k) = J 140 from funext fun j => if_neg (Nat.not_lt_zero j), mm_row_self]
  have key := WP.inv (mid := m_Jo_findDigits) (Q := fun r h => r = none ∧ ∃ d : Nat → Int, (∀ i, i < 4 → 0 ≤ d i ∧ d i < p i ∧ (vl p d (i + 1) - s * x i) % p i = 0) ∧ h = hp L I (dr J d 4) w) (fun i (σ : (Nat → Int) × (Nat → Option Value)) => (6, [some (.ref 139), some (.ref a), some (.ref 131), some (.int sd), some (.int (nI i)), σ.2 5, σ.2 6, σ.2 7, σ.2 8, σ.2 9, σ.2 10, σ.2 11, σ.2 12], [.int (nI 4), .int (nI i)], hp L I (dr J σ.1 i) w, 0, 0)) (fun i σ => ∀ k, k < i → 0 ≤ σ.1 k ∧ σ.1 k < p k ∧ (vl p σ.1 (k + 1) - s * x k) % p k = 0) 4 ((fun _ => 0), fun _ => none) (fun k hk => absurd hk (Nat.not_lt_zero k)) (fun i σ hi hI kk => ?_) (fun σ hI => ?_)
  · rw [← e0] at key
    exact key
  · obtain ⟨d, f⟩ := σ
    dsimp only at hI kk ⊢
    obtain ⟨p1, p2, p3⟩ := hP i hi
    refine WP.icf rfl (nI_ge hi (by omega)) ?_
    iterate 2 (refine WP.st rfl ?_)
    refine WP.lald (k := i) rfl (rfl) (Or.inl rfl) (show i < 4 by omega) (rfl) ?_
    rw [show hJ (hp L I (dr J d i) w) 131 i = zJ (p i) from (dr_off J d i (by decide) i).trans p1]
    iterate 10 (refine WP.st rfl ?_)
    refine WP.down (fun m (σ : Int × Int) => (29, [some (.ref 139), some (.ref a), some (.ref 131), some (.int sd), some (.int (nI i)), some (.long (zJ (p i))), none, some (.long (zJ σ.1)), none, some (.long (zJ σ.2)), none, some (.int (nI m - 1)), f 12], [.int (nI m - 1)], hp L I (dr J d i) w, 0, 0)) (fun m σ => ∃ K W : Int, σ.1 = K % p i ∧ σ.2 = W % p i ∧ vl p d i = vl p d m + pr p m * K ∧ pr p i = pr p m * W) i (0, 1) ⟨0, 1, by simp, (Int.emod_eq_of_lt (by omega) (by omega)).symm, by simp, by simp⟩ (fun m σ hm hI2 k2 => ?_) (fun σ hI2 => ?_)
    · obtain ⟨q1, q2, q3⟩ := hP m (by omega)
      obtain ⟨r1, r2, r3⟩ := hI m (by omega)
      obtain ⟨k1, w1⟩ := σ
      dsimp only at hI2 k2 ⊢
      obtain ⟨K, W, rfl, rfl, hI2⟩ := hI2
      have K0 := Int.emod_nonneg K (show p i ≠ 0 by omega)
      have K1 := Int.emod_lt_of_pos K (show 0 < p i by omega)
      have W0 := Int.emod_nonneg W (show p i ≠ 0 by omega)
      have W1 := Int.emod_lt_of_pos W (show 0 < p i by omega)
      have K2 : 0 ≤ K % p i * p m := Int.mul_nonneg K0 (by omega)
      have K3 : K % p i * p m ≤ (2 ^ 31 - 2) * (2 ^ 31 - 1) := Int.mul_le_mul (by omega) (by omega) (by omega) (by omega)
      have W2 : 0 ≤ W % p i * p m := Int.mul_nonneg W0 (by omega)
      have W3 : W % p i * p m ≤ (2 ^ 31 - 2) * (2 ^ 31 - 1) := Int.mul_le_mul (by omega) (by omega) (by omega) (by omega)
      rw [nI_m1]
      rw [nI_sub1] at k2
      refine WP.iff rfl (nI_pos (by omega)) ?_
      iterate 3 (refine WP.st rfl ?_)
      refine WP.lald (k := m) rfl (rfl) (Or.inl rfl) (show m < 4 by omega) (rfl) ?_
      rw [show hJ (hp L I (dr J d i) w) 131 m = zJ (p m) from (dr_off J d i (by decide) m).trans q1]
      iterate 4 (refine WP.st rfl ?_)
      refine WP.lald (k := m) rfl (rfl) (Or.inl rfl) (show m < 4 by omega) (rfl) ?_
      rw [show hJ (hp L I (dr J d i) w) 140 m = zJ (d m) from dr_at J d i m hm]
      rw [zJ_mul]
      iterate 1 (refine WP.st rfl ?_)
      rw [zJ_add]
      iterate 1 (refine WP.st rfl ?_)
      refine WP.calle rfl rfl (ev_rem _ (K % p i * p m + d m) (p i) p2 (by omega) (by omega) (by omega)) ?_
      rw [emod_ma]
      iterate 4 (refine WP.st rfl ?_)
      refine WP.lald (k := m) rfl (rfl) (Or.inl rfl) (show m < 4 by omega) (rfl) ?_
      rw [show hJ (hp L I (dr J d i) w) 131 m = zJ (p m) from (dr_off J d i (by decide) m).trans q1]
      iterate 1 (refine WP.st rfl ?_)
      rw [zJ_mul]
      iterate 1 (refine WP.st rfl ?_)
      refine WP.calle rfl rfl (ev_rem _ (W % p i * p m) (p i) p2 (by omega) (by omega) (by omega)) ?_
      rw [emod_mul_l]
      iterate 4 (refine WP.st rfl ?_)
      refine k2 ((K * p m + d m) % p i, W * p m % p i) ⟨K * p m + d m, W * p m, rfl, rfl, ?_, ?_⟩
      · rw [hI2.1]
        show vl p d m + d m * pr p m + pr p m * p m * K = _
        grind
      · rw [hI2.2]
        show pr p m * p m * W = _
        grind
    · obtain ⟨k1, w1⟩ := σ
      dsimp only at hI2 ⊢
      obtain ⟨K, W, rfl, rfl, hI2⟩ := hI2
      have eK : K = vl p d i := by have := hI2.1; simp [vl, pr] at this; omega
      have eW : W = pr p i := by have := hI2.2; simp [pr] at this; omega
      subst eK
      subst eW
      obtain ⟨x1, x2, x3⟩ := hX i hi
      have K0 := Int.emod_nonneg (vl p d i) (show p i ≠ 0 by omega)
      have K1 := Int.emod_lt_of_pos (vl p d i) (show 0 < p i by omega)
      have W0 := Int.emod_nonneg (pr p i) (show p i ≠ 0 by omega)
      have W1 := Int.emod_lt_of_pos (pr p i) (show 0 < p i by omega)
      have hg : Int.gcd (pr p i % p i) (p i) = 1 := by rw [Int.emod_def, Int.gcd_sub_mul_left_left]; exact hc i hi
      have W4 : 0 < pr p i % p i := by
        rcases Int.lt_or_eq_of_le W0 with h | h
        · exact h
        · rw [← h, Int.gcd_zero_left] at hg
          omega
      obtain ⟨u, u0, u1, ⟨c, hcu⟩, hev⟩ := ev_inv (hp L I (dr J d i) w) (pr p i % p i) (p i) W4 W1 p3 hg
      have sx : -(2 ^ 31) < s * x i ∧ s * x i < 2 ^ 31 := by rcases hs1 with rfl | rfl <;> omega
      have M0 := Int.emod_nonneg (s * x i - vl p d i % p i) (show p i ≠ 0 by omega)
      have M1 := Int.emod_lt_of_pos (s * x i - vl p d i % p i) (show 0 < p i by omega)
      refine WP.ift rfl (show nI 0 - 1 < 0 by decide) ?_
      iterate 4 (refine WP.st rfl ?_)
      refine WP.lald (k := i) rfl (rfl) (Or.inl ka) (show i < LL L a by omega) (hbl) ?_
      rw [show hJ (hp L I (dr J d i) w) a i = zJ (x i) from (dr_off J d i a1 i).trans x1]
      iterate 1 (refine WP.st rfl ?_)
      rw [hs, zJ_mul]
      iterate 2 (refine WP.st rfl ?_)
      rw [zJ_sub]
      iterate 1 (refine WP.st rfl ?_)
      refine WP.calle rfl rfl (ev_rem _ (s * x i - vl p d i % p i) (p i) p2 (by omega) (by omega) (by omega)) ?_
      generalize hM : (s * x i - vl p d i % p i) % p i = M at M0 M1 ⊢
      have U2 : 0 ≤ M * u := Int.mul_nonneg M0 u0
      have U3 : M * u ≤ (2 ^ 31 - 2) * (2 ^ 31 - 1) := Int.mul_le_mul (by omega) (by omega) (by omega) (by omega)
      iterate 7 (refine WP.st rfl ?_)
      refine WP.calle rfl rfl (hev) ?_
      iterate 1 (refine WP.st rfl ?_)
      rw [zJ_mul]
      iterate 1 (refine WP.st rfl ?_)
      refine WP.calle rfl rfl (ev_rem _ (M * u) (p i) p2 (by omega) (by omega) (by omega)) ?_
      have D0 := Int.emod_nonneg (M * u) (show p i ≠ 0 by omega)
      have D1 := Int.emod_lt_of_pos (M * u) (show 0 < p i by omega)
      refine WP.last (k := i) rfl (rfl) (rfl) (show i < 4 by omega) (rfl) ?_
      iterate 4 (refine WP.st rfl ?_)
      have e1 := dr_s J d i (M * u % p i)
      have kk2 := kk ((fun j => if j = i then M * u % p i else d j), fun q => if q = 5 then some (.long (zJ (p i))) else if q = 7 then some (.long (zJ (vl p d i % p i))) else if q = 9 then some (.long (zJ (pr p i % p i))) else if q = 11 then some (.long (zJ M)) else none) ?_
      · rw [nI_succ] at kk2
        dsimp only at kk2
        rw [← e1] at kk2
        exact kk2
      · dsimp only
        intro k hk
        by_cases hki : k = i
        · subst hki
          rw [if_pos rfl]
          refine ⟨D0, D1, ?_⟩
          have ev : vl p (fun j => if j = k then M * u % p k else d j) (k + 1) = vl p d k + M * u % p k * pr p k := by
            show vl p (fun j => if j = k then M * u % p k else d j) k + (if k = k then M * u % p k else d k) * pr p k = _
            rw [vl_congr (d' := d) k (fun j hj => if_neg (by omega)), if_pos rfl]
          rw [ev]
          have a1 := Int.mul_ediv_add_emod (M * u) (p k)
          have a2 := Int.mul_ediv_add_emod (pr p k) (p k)
          have a3 := Int.mul_ediv_add_emod (s * x k - vl p d k % p k) (p k)
          have a4 := Int.mul_ediv_add_emod (vl p d k) (p k)
          rw [hM] at a3
          apply Int.emod_eq_zero_of_dvd
          generalize (M * u) / p k = t1 at *
          generalize (M * u) % p k = t2 at *
          generalize (pr p k) / p k = t3 at *
          generalize (pr p k) % p k = t4 at *
          generalize (s * x k - vl p d k % p k) / p k = t5 at *
          generalize (vl p d k) / p k = t6 at *
          generalize (vl p d k) % p k = t7 at *
          refine ⟨t6 - t1 * pr p k + M * u * t3 + M * c - t5, ?_⟩
          grind
        · rw [if_neg hki]
          have ev : vl p (fun j => if j = i then M * u % p i else d j) (k + 1) = vl p d (k + 1) := vl_congr (k + 1) (fun j hj => if_neg (by omega))
          rw [ev]
          exact hI k (by omega)
  · skip
    refine WP.ict rfl (nI_le (Nat.le_refl _) (by omega)) ?_
    exact WP.ret rfl ⟨rfl, σ.1, hI, rfl⟩
end
section
/-! Joiner.join -/
theorem dr_dr (J : Nat → Nat → Int64) (d d' : Nat → Int) : dr (dr J d 4) d' 4 = dr J d' 4 := by
  unfold dr
  rw [mm_row_row]
  apply mm_row_congr
  intro j
  by_cases h : j < 4
  · rw [if_pos h, if_pos h]
  · rw [if_neg h, if_neg h, mm_row_at, if_neg h]
theorem pr_pos {p : Nat → Int} (hP : ∀ i, i < 4 → 2 ≤ p i) : ∀ i, i ≤ 4 → 0 < pr p i
  | 0, _ => by show (0 : Int) < 1; omega
  | i + 1, h => Int.mul_pos (pr_pos hP i (by omega)) (by have := hP i (by omega); omega)
theorem vl_rng {p d : Nat → Int} (hP : ∀ i, i < 4 → 2 ≤ p i) (hd : ∀ i, i < 4 → 0 ≤ d i ∧ d i < p i) : ∀ i, i ≤ 4 → 0 ≤ vl p d i ∧ vl p d i < pr p i
  | 0, _ => ⟨by show (0 : Int) ≤ 0; omega, by show (0 : Int) < 1; omega⟩
  | i + 1, h => by
    obtain ⟨a, b⟩ := vl_rng hP hd i (by omega)
    have c := pr_pos hP i (by omega)
    obtain ⟨d0, d1⟩ := hd i (by omega)
    show 0 ≤ vl p d i + d i * pr p i ∧ vl p d i + d i * pr p i < pr p i * p i
    have e1 : 0 ≤ d i * pr p i := Int.mul_nonneg d0 (by omega)
    have e2 : (d i + 1) * pr p i ≤ p i * pr p i := Int.mul_le_mul_of_nonneg_right (by omega) (by omega)
    rw [Int.add_mul, Int.mul_comm (p i)] at e2
    omega
theorem vl_step {p d : Nat → Int} (m : Nat) : ∀ k, pr p m ∣ vl p d (m + k) - vl p d m
  | 0 => by rw [Nat.add_zero, Int.sub_self]; exact Int.dvd_zero _
  | k + 1 => by
    have ih := vl_step (p := p) (d := d) m k
    have h : ∀ k, pr p m ∣ pr p (m + k) := by
      intro k
      induction k with
      | zero => exact Int.dvd_refl _
      | succ k ih => exact Int.dvd_trans ih (Int.dvd_mul_right _ _)
    show pr p m ∣ vl p d (m + k) + d (m + k) * pr p (m + k) - vl p d m
    rw [show vl p d (m + k) + d (m + k) * pr p (m + k) - vl p d m = (vl p d (m + k) - vl p d m) + d (m + k) * pr p (m + k) by omega]
    exact Int.dvd_add ih (Int.dvd_trans (h k) (Int.dvd_mul_left _ _))
theorem cop_dvd {a b z : Int} (hg : Int.gcd a b = 1) (ha : a ∣ z) (hb : b ∣ z) : a * b ∣ z := by
  rw [← Int.natAbs_dvd_natAbs] at ha hb ⊢
  rw [Int.natAbs_mul]
  exact Nat.Coprime.mul_dvd_of_dvd_of_dvd hg ha hb
theorem pr_dvd {p : Nat → Int} (hc : ∀ i, i < 4 → Int.gcd (pr p i) (p i) = 1) {z : Int} (hz : ∀ i, i < 4 → p i ∣ z) : ∀ i, i ≤ 4 → pr p i ∣ z
  | 0, _ => Int.one_dvd _
  | i + 1, h => cop_dvd (hc i (by omega)) (pr_dvd hc hz i (by omega)) (hz i (by omega))
/-- the digits' number is V modulo the product -/
theorem vl_crt {p d x : Nat → Int} {s V : Int} (hP : ∀ i, i < 4 → 2 ≤ p i) (hc : ∀ i, i < 4 → Int.gcd (pr p i) (p i) = 1) (hx : ∀ i, i < 4 → x i = V % p i) (hd : ∀ i, i < 4 → 0 ≤ d i ∧ d i < p i ∧ (vl p d (i + 1) - s * x i) % p i = 0) : vl p d 4 = (s * V) % pr p 4 := by
  have h1 : pr p 4 ∣ vl p d 4 - s * V := by
    refine pr_dvd hc (fun i hi => ?_) 4 (Nat.le_refl _)
    obtain ⟨-, -, h⟩ := hd i hi
    have a := Int.dvd_of_emod_eq_zero h
    have b : p i ∣ vl p d 4 - vl p d (i + 1) := by
      obtain ⟨k, hk⟩ : ∃ k, 4 = i + 1 + k := ⟨3 - i, by omega⟩
      rw [hk]
      exact Int.dvd_trans (show p i ∣ pr p i * p i from Int.dvd_mul_left _ _) (vl_step (i + 1) k)
    have c : p i ∣ s * x i - s * V := by
      rw [hx i hi, ← Int.mul_sub]
      refine Int.dvd_trans ?_ (Int.dvd_mul_left _ _)
      refine ⟨-(V / p i), ?_⟩
      have := Int.mul_ediv_add_emod V (p i)
      grind
    have := Int.dvd_add (Int.dvd_add b a) c
    rw [show vl p d 4 - vl p d (i + 1) + (vl p d (i + 1) - s * x i) + (s * x i - s * V) = vl p d 4 - s * V by omega] at this
    exact this
  obtain ⟨r0, r1⟩ := vl_rng hP (fun i hi => ⟨(hd i hi).1, (hd i hi).2.1⟩) 4 (Nat.le_refl _)
  rw [← Int.emod_eq_of_lt r0 r1]
  exact Int.emod_eq_emod_iff_emod_sub_eq_zero.mpr (Int.emod_eq_zero_of_dvd h1)
/-- the sign of a number, as the class says it -/
def sg (V : Int) : Int32 := if V = 0 then 0 else if V < 0 then -1 else 1
theorem us_0 : us 0 5 = 0 := by decide
theorem us_pos {V : Nat} (h : V < 1073741824 ^ 5) (hV : us V 5 = 0) : V = 0 := by
  have e : ∀ q, us V q = 0 → V % 1073741824 ^ q = 0 := by
    intro q
    induction q with
    | zero => intro _; rw [Nat.pow_zero]; omega
    | succ q ih =>
      intro hq
      have : us V (q + 1) = if dg V q = 0 then us V q else q + 1 := rfl
      rw [this] at hq
      split at hq
      · rename_i h0
        rw [mod_step, h0, ih hq]; omega
      · omega
  have := e 5 hV
  rw [Nat.mod_eq_of_lt h] at this
  exact this
set_option maxHeartbeats 4000000 in
set_option maxRecDepth 20000 in
theorem sp_join_tail (L : Nat) (I : Nat → Nat → Int32) (J : Nat → Nat → Int64) (w : Nat → Nat) (a b : Nat) (hb : isL b) (hb1 : b ≠ 131) (hb2 : b ≠ 140) (p d : Nat → Int) (hP : ∀ i, i < 4 → J 131 i = zJ (p i) ∧ 2 ≤ p i ∧ p i < 2 ^ 31) (hd : ∀ i, i < 4 → 0 ≤ d i ∧ d i < p i) (W : Nat) (hW : vl p d 4 = W) (lW : W < 1073741824 ^ 5) (ng : Int32) (v5 : Option Value) (Q : Option Value → MH → Prop) (q0 : W = 0 → Q (some (.int 0)) (hp L I (lm (dr J d 4) b W) w)) (q1 : ¬ W = 0 → ¬ ng = 0 → Q (some (.int (-1))) (hp L I (lm (dr J d 4) b W) w)) (q2 : ¬ W = 0 → ng = 0 → Q (some (.int 1)) (hp L I (lm (dr J d 4) b W) w)) : WP m_Jo_join (43, [some (.ref 139), some (.ref a), some (.ref 131), some (.ref b), some (.int ng), v5], [], hp L I (dr J d 4) w, 0, 0) Q := by
  iterate 1 (refine WP.st rfl ?_)
  refine WP.calle rfl rfl (ev_clear L I (dr J d 4) w b hb) ?_
  iterate 3 (refine WP.st rfl ?_)
  refine WP.down (fun m (X : Nat) => (52, [some (.ref 139), some (.ref a), some (.ref 131), some (.ref b), some (.int ng), some (.int (nI m - 1))], [.int (nI m - 1)], hp L I (lm (dr J d 4) b X) w, 0, 0)) (fun m X => vl p d 4 = vl p d m + pr p m * X) 4 0 (by simp) (fun m X hm hI k2 => ?_) (fun X hI => ?_)
  · obtain ⟨p1, p2, p3⟩ := hP m hm
    obtain ⟨d1, d2⟩ := hd m hm
    rw [nI_sub1] at k2
    rw [nI_m1]
    refine WP.iff rfl (nI_pos (by omega)) ?_
    iterate 3 (refine WP.st rfl ?_)
    refine WP.lald (k := m) rfl (rfl) (Or.inl rfl) (show m < 4 by omega) (rfl) ?_
    rw [show hJ (hp L I (lm (dr J d 4) b X) w) 131 m = zJ (p m) from (lm_off _ X m (Ne.symm hb1)).trans ((dr_off J d 4 (by decide) m).trans p1)]
    iterate 3 (refine WP.st rfl ?_)
    refine WP.lald (k := m) rfl (rfl) (Or.inl rfl) (show m < 4 by omega) (rfl) ?_
    rw [show hJ (hp L I (lm (dr J d 4) b X) w) 140 m = zJ (d m) from (lm_off _ X m (Ne.symm hb2)).trans (dr_at J d 4 m hm)]
    obtain ⟨pn, hpn⟩ : ∃ n : Nat, p m = n := ⟨(p m).toNat, by omega⟩
    obtain ⟨dn, hdn⟩ : ∃ n : Nat, d m = n := ⟨(d m).toNat, by omega⟩
    rw [hpn, hdn]
    refine WP.calle rfl rfl (ev_timesAndAdd L I (lm (dr J d 4) b X) w b X pn dn hb (fun i hi => lm_at _ b X hi) (by omega) (by omega)) ?_
    rw [lm_lm]
    iterate 3 (refine WP.st rfl ?_)
    refine k2 (X * pn + dn) ?_
    rw [hI]
    show vl p d m + d m * pr p m + pr p m * p m * X = _
    rw [hpn, hdn]
    push_cast
    grind
  · have e : X = W := by
      have h1 : vl p d 4 = 0 + 1 * (X : Int) := hI
      omega
    subst e
    refine WP.ift rfl (show nI 0 - 1 < 0 by decide) ?_
    iterate 1 (refine WP.st rfl ?_)
    refine WP.calle rfl rfl (ev_used L I (dr J d 4) w b X hb) ?_
    by_cases hX : X = 0
    · subst hX
      rw [us_0]
      refine WP.iff rfl (fun z => z rfl) ?_
      iterate 1 (refine WP.st rfl ?_)
      exact WP.ret rfl (q0 rfl)
    · skip
      have ul := us_le X 5
      refine WP.ift rfl (fun z => hX (us_pos lW ((nI_eq (by omega) (by omega)).mp (show nI (us X 5) = nI 0 from z)))) ?_
      iterate 1 (refine WP.st rfl ?_)
      by_cases hn : ng = 0
      · skip
        refine WP.ift rfl (hn) ?_
        iterate 1 (refine WP.st rfl ?_)
        exact WP.ret rfl (q2 hX hn)
      · skip
        refine WP.iff rfl (hn) ?_
        iterate 2 (refine WP.st rfl ?_)
        exact WP.ret rfl (q1 hX hn)

theorem jn_top {p d : Nat → Int} (hP : ∀ i, i < 4 → 2 ≤ p i) (hd : ∀ i, i < 4 → 0 ≤ d i ∧ d i < p i) : d 3 * pr p 3 ≤ vl p d 4 ∧ vl p d 4 < (d 3 + 1) * pr p 3 := by
  obtain ⟨a, b⟩ := vl_rng hP hd 3 (by omega)
  show d 3 * pr p 3 ≤ vl p d 3 + d 3 * pr p 3 ∧ vl p d 3 + d 3 * pr p 3 < (d 3 + 1) * pr p 3
  rw [Int.add_mul]
  omega
set_option maxHeartbeats 4000000 in
set_option maxRecDepth 20000 in
theorem sp_join (L : Nat) (I : Nat → Nat → Int32) (J : Nat → Nat → Int64) (w : Nat → Nat) (a b : Nat) (ka : KK a = 10) (la : hp_l.getD a 0 = 4) (a0 : a ≠ 0) (a1 : a ≠ 140) (hb : isL b) (hb1 : b ≠ 131) (hb2 : b ≠ 140) (p x : Nat → Int) (V : Int) (hP : ∀ i, i < 4 → J 131 i = zJ (p i) ∧ 2 ≤ p i ∧ p i < 2 ^ 31) (p8 : 8 ≤ p 3) (hX : ∀ i, i < 4 → J a i = zJ (x i) ∧ x i = V % p i) (hc : ∀ i, i < 4 → Int.gcd (pr p i) (p i) = 1) (hV : 4 * V < pr p 4 ∧ 4 * (-V) < pr p 4) : SP m_Jo_join [.ref 139, .ref a, .ref 131, .ref b] (hp L I J w) (fun r h => r = some (.int (sg V)) ∧ ∃ d : Nat → Int, h = hp L I (lm (dr J d 4) b V.natAbs) w) := by
  have hP2 : ∀ i, i < 4 → 2 ≤ p i := fun i hi => (hP i hi).2.1
  have hX2 : ∀ i, i < 4 → J a i = zJ (x i) ∧ 0 ≤ x i ∧ x i < p i := fun i hi => by
    have := hP2 i hi
    rw [(hX i hi).1, (hX i hi).2]
    exact ⟨rfl, Int.emod_nonneg _ (by omega), Int.emod_lt_of_pos _ (by omega)⟩
  have q0 := pr_pos hP2 3 (by omega)
  have q4 : pr p 4 = pr p 3 * p 3 := rfl
  have q44 : pr p 4 < 4 * 1073741824 ^ 5 := by
    have h0 := hP 0 (by omega)
    have h1 := hP 1 (by omega)
    have h2 := hP 2 (by omega)
    have h3 := hP 3 (by omega)
    have e1 : pr p 1 ≤ 2 ^ 31 := by show 1 * p 0 ≤ _; omega
    have e2 : pr p 1 * p 1 ≤ 2 ^ 31 * 2 ^ 31 := Int.mul_le_mul e1 (by omega) (by omega) (by omega)
    have e3 : pr p 1 * p 1 * p 2 ≤ 2 ^ 31 * 2 ^ 31 * 2 ^ 31 := Int.mul_le_mul e2 (by omega) (by omega) (by omega)
    have e4 : pr p 1 * p 1 * p 2 * p 3 ≤ 2 ^ 31 * 2 ^ 31 * 2 ^ 31 * 2 ^ 31 := Int.mul_le_mul e3 (by omega) (by omega) (by omega)
    show pr p 1 * p 1 * p 2 * p 3 < _
    omega
  unfold SP
  iterate 4 (refine WP.st rfl ?_)
  refine WP.call rfl rfl (sp_findDigits L I J w a ka la a0 a1 p x hP hX2 1 1 zJ_i1 (Or.inl rfl) hc) ?_
  rintro _ _ ⟨rfl, d, hd, rfl⟩
  have hd2 : ∀ i, i < 4 → 0 ≤ d i ∧ d i < p i := fun i hi => ⟨(hd i hi).1, (hd i hi).2.1⟩
  have hv := vl_crt hP2 hc (fun i hi => (hX i hi).2) hd
  rw [Int.one_mul] at hv
  have ht := jn_top hP2 hd2
  obtain ⟨p1, p2, p3⟩ := hP 3 (by omega)
  obtain ⟨d1, d2⟩ := hd2 3 (by omega)
  iterate 3 (refine WP.st rfl ?_)
  refine WP.lald (k := 3) rfl (rfl) (Or.inl rfl) (show 3 < 4 by omega) (rfl) ?_
  rw [show hJ (hp L I (dr J d 4) w) 140 3 = zJ (d 3) from dr_at J d 4 3 (by omega)]
  iterate 2 (refine WP.st rfl ?_)
  refine WP.lald (k := 3) rfl (rfl) (Or.inl rfl) (show 3 < 4 by omega) (rfl) ?_
  rw [show hJ (hp L I (dr J d 4) w) 131 3 = zJ (p 3) from (dr_off J d 4 (by decide) 3).trans p1]
  iterate 1 (refine WP.st rfl ?_)
  refine WP.ldiv rfl (by decide) ?_
  rw [show zJ (p 3) / (2 : Int64) = zJ ((p 3) / 2) from (zJ_div (a := p 3) (b := 2) (by omega) (by omega) (by omega) (by omega)).trans (congrArg zJ (Int.tdiv_eq_ediv_of_nonneg (by omega)))]
  iterate 1 (refine WP.st rfl ?_)
  by_cases hneg : V < 0
  · have e1 : vl p d 4 = V + pr p 4 := by
      rw [hv, ← Int.add_emod_right]
      exact Int.emod_eq_of_lt (by omega) (by omega)
    have hbig : p 3 / 2 < d 3 := by
      have h1 : (p 3 * 3) * pr p 3 < (4 * (d 3 + 1)) * pr p 3 := by
        have : (p 3 * 3) * pr p 3 = 3 * pr p 4 := by rw [q4]; grind
        have h2 : (4 * (d 3 + 1)) * pr p 3 = 4 * ((d 3 + 1) * pr p 3) := by grind
        omega
      have := Int.lt_of_mul_lt_mul_right h1 (by omega)
      omega
    refine WP.iff rfl (fun z => by have := (zJ_le (a := d 3) (b := p 3 / 2) (by omega) (by omega) (by omega) (by omega)).mp (lc_le.mp z); omega) ?_
    iterate 4 (refine WP.st rfl ?_)
    refine WP.iff rfl (show ¬ (1 : Int32) = 0 by decide) ?_
    iterate 4 (refine WP.st rfl ?_)
    refine WP.call rfl rfl (sp_findDigits L I (dr J d 4) w a ka la a0 a1 p x (fun i hi => ⟨(dr_off J d 4 (by decide) i).trans (hP i hi).1, (hP i hi).2⟩) (fun i hi => ⟨(dr_off J d 4 a1 i).trans (hX2 i hi).1, (hX2 i hi).2⟩) (-1) (-1) zJ_im1 (Or.inr rfl) hc) ?_
    rintro _ _ ⟨rfl, d', hd', rfl⟩
    rw [dr_dr]
    have hv' := vl_crt hP2 hc (fun i hi => (hX i hi).2) hd'
    have hW : vl p d' 4 = (V.natAbs : Int) := by
      rw [hv', Int.emod_eq_of_lt (by omega) (by omega)]
      omega
    refine sp_join_tail L I J w a b hb hb1 hb2 p d' hP (fun i hi => ⟨(hd' i hi).1, (hd' i hi).2.1⟩) V.natAbs hW (by omega) 1 none _ (fun z => by omega) (fun _ _ => ⟨?_, d', rfl⟩) (fun _ z => absurd z (by decide))
    unfold sg
    rw [if_neg (by omega), if_pos hneg]
  · have e1 : vl p d 4 = V := by
      rw [hv]
      exact Int.emod_eq_of_lt (by omega) (by omega)
    have hsm : d 3 ≤ p 3 / 2 := by
      have h1 : (4 * d 3) * pr p 3 < p 3 * pr p 3 := by
        have : p 3 * pr p 3 = pr p 4 := by rw [q4]; grind
        have h2 : (4 * d 3) * pr p 3 = 4 * (d 3 * pr p 3) := by grind
        omega
      have := Int.lt_of_mul_lt_mul_right h1 (by omega)
      omega
    refine WP.ift rfl (lc_le.mpr ((zJ_le (a := d 3) (b := p 3 / 2) (by omega) (by omega) (by omega) (by omega)).mpr hsm)) ?_
    iterate 3 (refine WP.st rfl ?_)
    refine WP.ift rfl (show (0 : Int32) = 0 by rfl) ?_
    refine sp_join_tail L I J w a b hb hb1 hb2 p d hP hd2 V.natAbs (by omega) (by omega) 0 none _ (fun z => ⟨?_, d, rfl⟩) (fun _ z => absurd rfl z) (fun z _ => ⟨?_, d, rfl⟩)
    · unfold sg
      rw [if_pos (by omega)]
    · unfold sg
      rw [if_neg (by omega), if_neg hneg]
end
section
/-! Fraction.become -/
theorem mm_up_at {α : Type} (f : Nat → Nat → α) (a k : Nat) (v : α) : mm_up f a k v a k = v := if_pos ⟨rfl, rfl⟩
theorem mm_up_off {α : Type} (f : Nat → Nat → α) {a k b j : Nat} (v : α) (h : ¬ (b = a ∧ j = k)) : mm_up f a k v b j = f b j := if_neg h
theorem dvd_of_mul_eq {a b q : Nat} (h : a = q * b) : b ∣ a := ⟨q, by rw [h, Nat.mul_comm]⟩
/-- the fraction becomes X by Y, in lowest terms -/
def fa (X Y : Nat) : Nat := X / Nat.gcd X Y
def fbl (X Y : Nat) : Nat := Y / Nat.gcd X Y
theorem gcd_half {A B : Nat} (ha : A % 2 = 0) (hb : B % 2 = 0) : Nat.gcd A B = 2 * Nat.gcd (A / 2) (B / 2) := by
  obtain ⟨a, rfl⟩ : ∃ a, A = 2 * a := ⟨A / 2, by omega⟩
  obtain ⟨b, rfl⟩ : ∃ b, B = 2 * b := ⟨B / 2, by omega⟩
  rw [Nat.gcd_mul_left]
  congr 2 <;> omega
/-- halving both: the quotients by the greatest divisor stay, one is odd at the end -/
theorem hb_ok : ∀ (d A B : Nat), 0 < A → A < 2 ^ d → (hb d A B).1 / Nat.gcd (hb d A B).1 (hb d A B).2 = A / Nat.gcd A B ∧ (hb d A B).2 / Nat.gcd (hb d A B).1 (hb d A B).2 = B / Nat.gcd A B ∧ ((hb d A B).1 % 2 = 1 ∨ (hb d A B).2 % 2 = 1) ∧ 0 < (hb d A B).1 ∧ (hb d A B).1 ≤ A ∧ (hb d A B).2 ≤ B ∧ (0 < B → 0 < (hb d A B).2)
  | 0, A, B, h0, h1 => by rw [Nat.pow_zero] at h1; omega
  | d + 1, A, B, h0, h1 => by
    by_cases q : A % 2 = 0 ∧ B % 2 = 0
    · have e : hb (d + 1) A B = hb d (A / 2) (B / 2) := if_pos q
      rw [e]
      obtain ⟨a1, a2, a3, a4, a5, a6, a7⟩ := hb_ok d (A / 2) (B / 2) (by omega) (by rw [Nat.pow_succ] at h1; omega)
      refine ⟨a1.trans ?_, a2.trans ?_, a3, a4, by omega, by omega, fun z => a7 (by omega)⟩
      · rw [gcd_half q.1 q.2, ← Nat.div_div_eq_div_mul]
      · rw [gcd_half q.1 q.2, ← Nat.div_div_eq_div_mul]
    · have e : hb (d + 1) A B = (A, B) := if_neg q
      rw [e]
      exact ⟨rfl, rfl, by show A % 2 = 1 ∨ B % 2 = 1; omega, h0, Nat.le_refl _, Nat.le_refl _, fun z => z⟩
theorem mo_s (d A : Nat) : mo (d + 1) A = if A % 2 = 0 then mo d (A / 2) else A := rfl
theorem cop2 {x : Nat} (hx : x % 2 = 1) : Nat.Coprime x 2 := by
  unfold Nat.Coprime
  rw [Nat.gcd_comm, Nat.gcd_rec, hx, Nat.gcd_one_left]
/-- what is odd has the same divisors in common with the odd part -/
theorem mo_ok : ∀ (d A : Nat), 0 < A → A < 2 ^ d → mo d A % 2 = 1 ∧ 0 < mo d A ∧ mo d A ≤ A ∧ (∀ x, x % 2 = 1 → Nat.gcd x (mo d A) = Nat.gcd x A)
  | 0, A, h0, h1 => by rw [Nat.pow_zero] at h1; omega
  | d + 1, A, h0, h1 => by
    rw [mo_s]
    by_cases q : A % 2 = 0
    · rw [if_pos q]
      obtain ⟨a1, a2, a3, a4⟩ := mo_ok d (A / 2) (by omega) (by rw [Nat.pow_succ] at h1; omega)
      refine ⟨a1, a2, by omega, fun x hx => (a4 x hx).trans ?_⟩
      obtain ⟨a, rfl⟩ : ∃ a, A = 2 * a := ⟨A / 2, by omega⟩
      rw [show 2 * a / 2 = a by omega]
      exact (Nat.Coprime.gcd_mul_left_cancel_right a (cop2 hx).symm).symm
    · rw [if_neg q]
      exact ⟨by omega, h0, Nat.le_refl _, fun _ _ => rfl⟩
theorem bg_s (d x y : Nat) : bg (d + 1) x y = if x = y then (x, y) else if y < x then bg d (mo 150 (x - y)) y else bg d x (mo 150 (y - x)) := rfl
theorem mo_half {d A : Nat} (h0 : 0 < A) (he : A % 2 = 0) (h1 : A < 2 ^ (d + 1)) : 2 * mo (d + 1) A ≤ A := by
  rw [mo_s, if_pos he]
  have := (mo_ok d (A / 2) (by omega) (by rw [Nat.pow_succ] at h1; omega)).2.2.1
  omega
theorem bg_ok : ∀ (d x y : Nat), x % 2 = 1 → y % 2 = 1 → x < 2 ^ 150 → y < 2 ^ 150 → x * y < 2 ^ d → (bg d x y).1 = Nat.gcd x y
  | 0, x, y, hx, hy, lx, ly, h => by
    have : 1 * 1 ≤ x * y := Nat.mul_le_mul (by omega) (by omega)
    rw [Nat.pow_zero] at h
    omega
  | d + 1, x, y, hx, hy, lx, ly, h => by
    rw [bg_s]
    by_cases e : x = y
    · rw [if_pos e, e, Nat.gcd_self]
    · rw [if_neg e]
      by_cases lt : y < x
      · rw [if_pos lt]
        obtain ⟨m1, m2, m3, m4⟩ := mo_ok 150 (x - y) (by omega) (by omega)
        have m5 : 2 * mo 150 (x - y) ≤ x - y := mo_half (d := 149) (A := x - y) (by omega) (by omega) (by omega)
        have hm : 2 * (mo 150 (x - y) * y) ≤ x * y := by
          rw [← Nat.mul_assoc]
          exact Nat.mul_le_mul (by omega) (Nat.le_refl _)
        rw [bg_ok d (mo 150 (x - y)) y m1 hy (by omega) ly (by rw [Nat.pow_succ] at h; omega)]
        rw [Nat.gcd_comm, m4 y hy, Nat.gcd_comm, Nat.gcd_sub_self_left (by omega)]
      · rw [if_neg lt]
        obtain ⟨m1, m2, m3, m4⟩ := mo_ok 150 (y - x) (by omega) (by omega)
        have m5 : 2 * mo 150 (y - x) ≤ y - x := mo_half (d := 149) (A := y - x) (by omega) (by omega) (by omega)
        have hm : 2 * (x * mo 150 (y - x)) ≤ x * y := by
          rw [Nat.mul_left_comm]
          exact Nat.mul_le_mul (Nat.le_refl _) (by omega)
        rw [bg_ok d x (mo 150 (y - x)) hx m1 lx (by omega) (by rw [Nat.pow_succ] at h; omega)]
        rw [m4 x hx, Nat.gcd_sub_self_right (by omega)]

theorem mo_odd {A : Nat} (h : A % 2 = 1) : mo 150 A = A := (mo_s 149 A).trans (if_neg (by omega))
theorem bg_all {A B : Nat} (hA : 0 < A) (hB : 0 < B) (lA : A < 2 ^ 150) (lB : B < 2 ^ 150) (ho : A % 2 = 1 ∨ B % 2 = 1) : (bg 300 (mo 150 A) (mo 150 B)).1 = Nat.gcd A B := by
  obtain ⟨a1, a2, a3, a4⟩ := mo_ok 150 A hA lA
  obtain ⟨b1, b2, b3, b4⟩ := mo_ok 150 B hB lB
  rw [bg_ok 300 _ _ a1 b1 (by omega) (by omega) ?_]
  · rw [b4 _ a1]
    rcases ho with h | h
    · rw [mo_odd h]
    · rw [Nat.gcd_comm, a4 _ h, Nat.gcd_comm]
  · have : mo 150 A * mo 150 B ≤ (2 ^ 150 - 1) * (2 ^ 150 - 1) := Nat.mul_le_mul (by omega) (by omega)
    omega
theorem gcd_odd {A B : Nat} (ho : A % 2 = 1 ∨ B % 2 = 1) : Nat.gcd A B % 2 = 1 := by
  by_cases h : Nat.gcd A B % 2 = 0
  · have h1 : 2 ∣ Nat.gcd A B := Nat.dvd_of_mod_eq_zero h
    have h2 := Nat.dvd_trans h1 (Nat.gcd_dvd_left A B)
    have h3 := Nat.dvd_trans h1 (Nat.gcd_dvd_right A B)
    omega
  · omega
set_option maxHeartbeats 4000000 in
set_option maxRecDepth 20000 in
theorem sp_become (L : Nat) (I : Nat → Nat → Int32) (J : Nat → Nat → Int64) (w : Nat → Nat) (p x y : Nat → Int) (T D : Int) (hP : ∀ i, i < 4 → J 131 i = zJ (p i) ∧ 2 ≤ p i ∧ p i < 2 ^ 31) (p8 : 8 ≤ p 3) (hX : ∀ i, i < 4 → J 132 i = zJ (x i) ∧ x i = T % p i) (hY : ∀ i, i < 4 → J 133 i = zJ (y i) ∧ y i = D % p i) (hc : ∀ i, i < 4 → Int.gcd (pr p i) (p i) = 1) (hT : 4 * T < pr p 4 ∧ 4 * (-T) < pr p 4) (hD : 0 < D ∧ 4 * D < pr p 4) (q44 : pr p 4 < 2 ^ 124) : SP m_Fr_become [.ref 134, .ref 132, .ref 133, .ref 131] (hp L I J w) (fun r h => r = none ∧ ∃ J' : Nat → Nat → Int64, (∀ c, c ≠ 135 → c ≠ 136 → c ≠ 137 → c ≠ 138 → c ≠ 140 → J' c = J c) ∧ (∀ i, i < 5 → J' 135 i = zJ (dg (fa T.natAbs D.natAbs) i)) ∧ (∀ i, i < 5 → J' 136 i = zJ (dg (fbl T.natAbs D.natAbs) i)) ∧ h = hp L (mm_up I 134 0 (sg T)) J' w) := by
  unfold SP
  iterate 7 (refine WP.st rfl ?_)
  refine WP.call rfl rfl (sp_join L I J w 132 135 (by decide) (by decide) (by decide) (by decide) isL_135 (by decide) (by decide) p x T hP p8 hX hc hT) ?_
  rintro _ _ ⟨rfl, d, rfl⟩
  have r1 : ∀ c k, c ≠ 135 → c ≠ 140 → lm (dr J d 4) 135 T.natAbs c k = J c k := fun c k h1 h2 => (lm_off _ _ k h1).trans (dr_off J d 4 h2 k)
  iterate 7 (refine WP.st rfl ?_)
  refine WP.call rfl rfl (sp_join L (mm_up I 134 0 (sg T)) (lm (dr J d 4) 135 T.natAbs) w 133 136 (by decide) (by decide) (by decide) (by decide) isL_136 (by decide) (by decide) p y D (fun i hi => ⟨(r1 131 i (by decide) (by decide)).trans (hP i hi).1, (hP i hi).2⟩) p8 (fun i hi => ⟨(r1 133 i (by decide) (by decide)).trans (hY i hi).1, (hY i hi).2⟩) hc ⟨hD.2, by omega⟩) ?_
  rintro _ _ ⟨rfl, e, rfl⟩
  generalize hT2 : lm (dr J d 4) 135 T.natAbs = J1 at r1 ⊢
  have s1 : ∀ i, i < 5 → lm (dr J1 e 4) 136 D.natAbs 135 i = zJ (dg T.natAbs i) := fun i hi => (lm_off (a := 136) (c := 135) _ _ i (by decide)).trans ((dr_off J1 e 4 (by decide) i).trans (by rw [← hT2]; exact lm_at _ 135 _ hi))
  have s2 : ∀ i, i < 5 → lm (dr J1 e 4) 136 D.natAbs 136 i = zJ (dg D.natAbs i) := fun i hi => lm_at _ 136 _ hi
  have s3 : ∀ c, c ≠ 135 → c ≠ 136 → c ≠ 140 → lm (dr J1 e 4) 136 D.natAbs c = J c := fun c h1 h2 h3 => funext fun k => (lm_off _ _ k h2).trans ((dr_off J1 e 4 h3 k).trans (r1 c k h1 h3))
  generalize lm (dr J1 e 4) 136 D.natAbs = J2 at s1 s2 s3 ⊢
  clear r1 hT2
  iterate 3 (refine WP.st rfl ?_)
  have eside : hI (hp L (mm_up I 134 0 (sg T)) J2 w) 134 0 = sg T := mm_up_at I 134 0 (sg T)
  by_cases hz : T = 0
  · subst hz
    refine WP.iff rfl (fun z => z eside) ?_
    iterate 2 (refine WP.st rfl ?_)
    refine WP.calle rfl rfl (ev_clear L (mm_up I 134 0 (sg 0)) J2 w 136 isL_136) ?_
    iterate 4 (refine WP.st rfl ?_)
    refine WP.last (k := 0) rfl (rfl) (rfl) (show 0 < 5 by omega) (rfl) ?_
    refine WP.ret rfl ⟨rfl, mm_up (lm J2 136 0) 136 0 (zJ 1), fun c h1 h2 h3 h4 h5 => ?_, fun i hi => ?_, fun i hi => ?_, rfl⟩
    · funext k
      exact (if_neg (fun z => h2 z.1)).trans ((lm_off _ _ k h2).trans (congrFun (s3 c h1 h2 h5) k))
    · refine (if_neg (fun z => absurd z.1 (by decide))).trans ((lm_off (a := 136) (c := 135) _ _ i (by decide)).trans ((s1 i hi).trans ?_))
      unfold fa
      simp
    · have : fbl (0 : Int).natAbs D.natAbs = 1 := by
        unfold fbl
        simp
        exact Nat.div_self (by omega)
      rw [this]
      by_cases h0 : i = 0
      · subst h0
        exact if_pos ⟨rfl, rfl⟩
      · refine (if_neg (fun z => h0 z.2)).trans ((lm_at J2 136 0 hi).trans ?_)
        rw [dg_0]
        have : dg 1 i = 0 := by
          unfold dg
          rw [Nat.div_eq_of_lt (Nat.one_lt_pow h0 (by omega))]
        rw [this]
  · have hA : 0 < T.natAbs := by omega
    have hB : 0 < D.natAbs := by omega
    have lA : T.natAbs < 2 ^ 150 := by omega
    have lB : D.natAbs < 2 ^ 150 := by omega
    generalize T.natAbs = A at *
    generalize D.natAbs = B at *
    obtain ⟨b1, b2, b3, b4, b5, b6, b7⟩ := hb_ok 150 A B hA lA
    have b7 := b7 hB
    refine WP.ift rfl (fun z => hz (by have z2 := eside.symm.trans z; unfold sg at z2; by_cases c : T = 0; exact c; rw [if_neg c] at z2; split at z2 <;> exact absurd z2 (by decide))) ?_
    iterate 1 (refine WP.st rfl ?_)
    have eJ : J2 = lm (lm J2 135 A) 136 B := by
      rw [lm_self J2 135 A s1, lm_self J2 136 B s2]
    rw [eJ]
    refine WP.calle rfl rfl (ev_halveBoth L (mm_up I 134 0 (sg T)) J2 w A B (by omega) (by omega)) ?_
    generalize (hb 150 A B).1 = A1 at *
    generalize (hb 150 A B).2 = B1 at *
    have t1 : ∀ i, i < 5 → lm (lm J2 135 A1) 136 B1 135 i = zJ (dg A1 i) := fun i hi => (lm_off (a := 136) (c := 135) _ _ i (by decide)).trans (lm_at _ 135 _ hi)
    have t2 : ∀ i, i < 5 → lm (lm J2 135 A1) 136 B1 136 i = zJ (dg B1 i) := fun i hi => lm_at _ 136 _ hi
    have t3 : ∀ c, c ≠ 135 → c ≠ 136 → c ≠ 140 → lm (lm J2 135 A1) 136 B1 c = J c := fun c h1 h2 h3 => funext fun k => (lm_off _ _ k h2).trans ((lm_off _ _ k h1).trans (congrFun (s3 c h1 h2 h3) k))
    generalize lm (lm J2 135 A1) 136 B1 = J3 at t1 t2 t3 ⊢
    iterate 1 (refine WP.st rfl ?_)
    refine WP.calle rfl rfl (ev_findDivisor L (mm_up I 134 0 (sg T)) J3 w A1 B1 (by omega) (by omega) t1 t2) ?_
    have hg := bg_all b4 b7 (by omega) (by omega) b3
    have go := gcd_odd b3
    generalize (bg 300 (mo 150 A1) (mo 150 B1)).2 = y2
    rw [hg]
    have u1 : ∀ i, i < 5 → lm (lm J3 137 (Nat.gcd A1 B1)) 138 y2 135 i = zJ (dg (A1 / Nat.gcd A1 B1 * Nat.gcd A1 B1) i) := fun i hi => by
      rw [Nat.div_mul_cancel (Nat.gcd_dvd_left A1 B1)]
      exact (lm_off (a := 138) (c := 135) _ _ i (by decide)).trans ((lm_off (a := 137) (c := 135) _ _ i (by decide)).trans (t1 i hi))
    have u2 : ∀ i, i < 5 → lm (lm J3 137 (Nat.gcd A1 B1)) 138 y2 136 i = zJ (dg (B1 / Nat.gcd A1 B1 * Nat.gcd A1 B1) i) := fun i hi => by
      rw [Nat.div_mul_cancel (Nat.gcd_dvd_right A1 B1)]
      exact (lm_off (a := 138) (c := 136) _ _ i (by decide)).trans ((lm_off (a := 137) (c := 136) _ _ i (by decide)).trans (t2 i hi))
    have u3 : ∀ i, i < 5 → lm (lm J3 137 (Nat.gcd A1 B1)) 138 y2 137 i = zJ (dg (Nat.gcd A1 B1) i) := fun i hi => (lm_off (a := 138) (c := 137) _ _ i (by decide)).trans (lm_at _ 137 _ hi)
    have u4 : ∀ c, c ≠ 135 → c ≠ 136 → c ≠ 137 → c ≠ 138 → c ≠ 140 → lm (lm J3 137 (Nat.gcd A1 B1)) 138 y2 c = J c := fun c h1 h2 h3 h4 h5 => funext fun k => (lm_off _ _ k h4).trans ((lm_off _ _ k h3).trans (congrFun (t3 c h1 h2 h5) k))
    generalize lm (lm J3 137 (Nat.gcd A1 B1)) 138 y2 = J4 at u1 u2 u3 u4 ⊢
    iterate 4 (refine WP.st rfl ?_)
    refine WP.calle rfl rfl (ev_divideByOdd L (mm_up I 134 0 (sg T)) J4 w 135 137 (A1 / Nat.gcd A1 B1) (Nat.gcd A1 B1) (by decide) isL_135 isL_137 u1 u3 go) ?_
    iterate 4 (refine WP.st rfl ?_)
    refine WP.calle rfl rfl (ev_divideByOdd L (mm_up I 134 0 (sg T)) (lm J4 135 (A1 / Nat.gcd A1 B1)) w 136 137 (B1 / Nat.gcd A1 B1) (Nat.gcd A1 B1) (by decide) isL_136 isL_137 (fun i hi => (lm_off (a := 135) (c := 136) _ _ i (by decide)).trans (u2 i hi)) (fun i hi => (lm_off (a := 135) (c := 137) _ _ i (by decide)).trans (u3 i hi)) go) ?_
    refine WP.ret rfl ⟨rfl, lm (lm J4 135 (A1 / Nat.gcd A1 B1)) 136 (B1 / Nat.gcd A1 B1), fun c h1 h2 h3 h4 h5 => ?_, fun i hi => ?_, fun i hi => ?_, rfl⟩
    · funext k
      exact (lm_off _ _ k h2).trans ((lm_off _ _ k h1).trans (congrFun (u4 c h1 h2 h3 h4 h5) k))
    · refine (lm_off (a := 136) (c := 135) _ _ i (by decide)).trans ((lm_at _ 135 _ hi).trans ?_)
      rw [b1]
      rfl
    · refine (lm_at _ 136 _ hi).trans ?_
      rw [b2]
      rfl
end
section
/-! ints as whole numbers -/
def zI (z : Int) : Int32 := Int32.ofInt z
theorem zI_add (a b : Int) : zI a + zI b = zI (a + b) := (Int32.ofInt_add a b).symm
theorem zI_sub (a b : Int) : zI a - zI b = zI (a - b) := (Int32.ofInt_sub a b).symm
theorem zI_mul (a b : Int) : zI a * zI b = zI (a * b) := (Int32.ofInt_mul a b).symm
theorem zI_neg (a : Int) : -zI a = zI (-a) := (Int32.ofInt_neg a).symm
theorem zI_int {z : Int} (h1 : -2 ^ 31 ≤ z) (h2 : z < 2 ^ 31) : (zI z).toInt = z := Int32.toInt_ofInt_of_le h1 h2
theorem zI_of (x : Int32) : x = zI x.toInt := (Int32.ofInt_toInt x).symm
theorem zI_lt {a b : Int} (a1 : -2 ^ 31 ≤ a) (a2 : a < 2 ^ 31) (b1 : -2 ^ 31 ≤ b) (b2 : b < 2 ^ 31) : zI a < zI b ↔ a < b := by rw [Int32.lt_iff_toInt_lt, zI_int a1 a2, zI_int b1 b2]
theorem zI_le {a b : Int} (a1 : -2 ^ 31 ≤ a) (a2 : a < 2 ^ 31) (b1 : -2 ^ 31 ≤ b) (b2 : b < 2 ^ 31) : zI a ≤ zI b ↔ a ≤ b := by rw [Int32.le_iff_toInt_le, zI_int a1 a2, zI_int b1 b2]
theorem zI_eq {a b : Int} (a1 : -2 ^ 31 ≤ a) (a2 : a < 2 ^ 31) (b1 : -2 ^ 31 ≤ b) (b2 : b < 2 ^ 31) : zI a = zI b ↔ a = b := by rw [← Int32.toInt_inj, zI_int a1 a2, zI_int b1 b2]
theorem zI_l {a : Int} (a1 : -2 ^ 31 ≤ a) (a2 : a < 2 ^ 31) : (zI a).toInt64 = zJ a := by
  rw [← Int64.toInt_inj, Int32.toInt_toInt64, zI_int a1 a2, zJ_int (by omega) (by omega)]
theorem nI_zI (n : Nat) : nI n = zI n := (Int32.ofInt_eq_ofNat).symm
end
section
/-! determinants -/
def sm {K : Type} [Lean.Grind.CommRing K] (f : Nat → K) : Nat → K
  | 0 => 0
  | n + 1 => sm f n + f n
def sn {K : Type} [Lean.Grind.CommRing K] : Nat → K
  | 0 => 1
  | n + 1 => - sn n
def dl {K : Type} [Lean.Grind.CommRing K] (M : Nat → Nat → K) (i : Nat) : Nat → Nat → K := fun r c => M (if r < i then r else r + 1) (c + 1)
def dc {K : Type} [Lean.Grind.CommRing K] (M : Nat → Nat → K) (j : Nat) : Nat → Nat → K := fun r c => M (r + 1) (if c < j then c else c + 1)
def det {K : Type} [Lean.Grind.CommRing K] : Nat → (Nat → Nat → K) → K
  | 0, _ => 1
  | n + 1, M => sm (fun i => sn i * M i 0 * det n (dl M i)) (n + 1)
theorem sm_congr {K : Type} [Lean.Grind.CommRing K] {f g : Nat → K} : ∀ n, (∀ i, i < n → f i = g i) → sm f n = sm g n
  | 0, _ => rfl
  | n + 1, h => by
    show sm f n + f n = sm g n + g n
    rw [sm_congr n (fun i hi => h i (by omega)), h n (by omega)]
theorem sm_0 {K : Type} [Lean.Grind.CommRing K] {f : Nat → K} : ∀ n, (∀ i, i < n → f i = 0) → sm f n = 0
  | 0, _ => rfl
  | n + 1, h => by
    show sm f n + f n = 0
    rw [sm_0 n (fun i hi => h i (by omega)), h n (by omega)]
    grind
theorem sm_lin {K : Type} [Lean.Grind.CommRing K] (f g : Nat → K) (c : K) : ∀ n, sm (fun i => f i + c * g i) n = sm f n + c * sm g n
  | 0 => by show (0 : K) = 0 + c * 0; grind
  | n + 1 => by
    show sm (fun i => f i + c * g i) n + (f n + c * g n) = sm f n + f n + c * (sm g n + g n)
    rw [sm_lin f g c n]
    grind
theorem sm_mul {K : Type} [Lean.Grind.CommRing K] (g : Nat → K) (c : K) : ∀ n, sm (fun i => c * g i) n = c * sm g n
  | 0 => by show (0 : K) = c * 0; grind
  | n + 1 => by
    show sm (fun i => c * g i) n + c * g n = c * (sm g n + g n)
    rw [sm_mul g c n]
    grind
theorem sm_add {K : Type} [Lean.Grind.CommRing K] (f g : Nat → K) : ∀ n, sm (fun i => f i + g i) n = sm f n + sm g n
  | 0 => by show (0 : K) = 0 + 0; grind
  | n + 1 => by
    show sm (fun i => f i + g i) n + (f n + g n) = sm f n + f n + (sm g n + g n)
    rw [sm_add f g n]
    grind
theorem sm_swap {K : Type} [Lean.Grind.CommRing K] (f : Nat → Nat → K) (m : Nat) : ∀ n, sm (fun i => sm (fun j => f i j) m) n = sm (fun j => sm (fun i => f i j) n) m
  | 0 => (sm_0 m (fun _ _ => rfl)).symm
  | n + 1 => by
    show sm (fun i => sm (fun j => f i j) m) n + sm (fun j => f n j) m = sm (fun j => sm (fun i => f i j) n + f n j) m
    rw [sm_swap f m n, sm_add]
theorem sm_head {K : Type} [Lean.Grind.CommRing K] (f : Nat → K) : ∀ n, sm f (n + 1) = f 0 + sm (fun i => f (i + 1)) n
  | 0 => by show (0 : K) + f 0 = f 0 + 0; grind
  | n + 1 => by
    show sm f (n + 1) + f (n + 1) = f 0 + (sm (fun i => f (i + 1)) n + f (n + 1))
    rw [sm_head f n]
    grind
theorem sm_one {K : Type} [Lean.Grind.CommRing K] {f : Nat → K} {k : Nat} : ∀ n, k < n → (∀ i, i < n → i ≠ k → f i = 0) → sm f n = f k
  | 0, h, _ => absurd h (Nat.not_lt_zero k)
  | n + 1, h, h0 => by
    show sm f n + f n = f k
    by_cases e : k = n
    · subst e
      rw [sm_0 k (fun i hi => h0 i (by omega) (by omega))]
      grind
    · rw [sm_one n (by omega) (fun i hi hk => h0 i (by omega) hk), h0 n (by omega) (by omega)]
      grind
theorem sm_two {K : Type} [Lean.Grind.CommRing K] {f : Nat → K} {k : Nat} : ∀ n, k + 1 < n → (∀ i, i < n → i ≠ k → i ≠ k + 1 → f i = 0) → sm f n = f k + f (k + 1)
  | 0, h, _ => absurd h (Nat.not_lt_zero _)
  | n + 1, h, h0 => by
    show sm f n + f n = f k + f (k + 1)
    by_cases e : k + 1 = n
    · subst e
      rw [sm_one (k := k) (k + 1) (by omega) (fun i hi hk => h0 i (by omega) hk (by omega))]
    · rw [sm_two n (by omega) (fun i hi hk hk1 => h0 i (by omega) hk hk1), h0 n (by omega) (by omega) (by omega)]
      grind
theorem det_congr {K : Type} [Lean.Grind.CommRing K] : ∀ (n : Nat) {M N : Nat → Nat → K}, (∀ i j, i < n → j < n → M i j = N i j) → det n M = det n N
  | 0, _, _, _ => rfl
  | n + 1, M, N, h => by
    refine sm_congr (n + 1) (fun i hi => ?_)
    rw [h i 0 hi (by omega), det_congr n (M := dl M i) (N := dl N i) (fun r c hr hc => h _ _ (by split <;> omega) (by omega))]
def rs {K : Type} [Lean.Grind.CommRing K] (M : Nat → Nat → K) (k : Nat) (u : Nat → K) : Nat → Nat → K := fun i j => if i = k then u j else M i j
theorem dl_rs_same {K : Type} [Lean.Grind.CommRing K] (M : Nat → Nat → K) (k : Nat) (u : Nat → K) : dl (rs M k u) k = dl M k := by
  funext r c
  show (if (if r < k then r else r + 1) = k then _ else _) = _
  rw [if_neg (by split <;> omega)]
  rfl
theorem dl_rs {K : Type} [Lean.Grind.CommRing K] (M : Nat → Nat → K) (k i : Nat) (u : Nat → K) (h : i ≠ k) : dl (rs M k u) i = rs (dl M i) (if k < i then k else k - 1) (fun c => u (c + 1)) := by
  funext r c
  show (if (if r < i then r else r + 1) = k then u (c + 1) else M (if r < i then r else r + 1) (c + 1)) = (if r = (if k < i then k else k - 1) then u (c + 1) else M (if r < i then r else r + 1) (c + 1))
  by_cases e : (if r < i then r else r + 1) = k
  · rw [if_pos e, if_pos (by split at e <;> split <;> omega)]
  · rw [if_neg e]
    rw [if_neg (show ¬ r = (if k < i then k else k - 1) from by split at e <;> split <;> omega)]
theorem det_lin {K : Type} [Lean.Grind.CommRing K] : ∀ (n : Nat) (M : Nat → Nat → K) (k : Nat) (u v : Nat → K) (f : K), k < n → det n (rs M k (fun j => u j + f * v j)) = det n (rs M k u) + f * det n (rs M k v)
  | 0, _, k, _, _, _, h => absurd h (Nat.not_lt_zero k)
  | n + 1, M, k, u, v, f, h => by
    show sm _ (n + 1) = sm _ (n + 1) + f * sm _ (n + 1)
    rw [← sm_lin]
    refine sm_congr (n + 1) (fun i hi => ?_)
    by_cases e : i = k
    · subst e
      rw [dl_rs_same, dl_rs_same, dl_rs_same]
      show sn i * (if i = i then _ else _) * _ = sn i * (if i = i then _ else _) * _ + f * (sn i * (if i = i then _ else _) * _)
      rw [if_pos rfl, if_pos rfl, if_pos rfl]
      grind
    · rw [dl_rs M k i _ e, dl_rs M k i _ e, dl_rs M k i _ e, det_lin n (dl M i) _ (fun c => u (c + 1)) (fun c => v (c + 1)) f (by split <;> omega)]
      show sn i * (if i = k then _ else _) * _ = sn i * (if i = k then _ else _) * _ + f * (sn i * (if i = k then _ else _) * _)
      rw [if_neg e, if_neg e, if_neg e]
      grind
theorem det_adj0 {K : Type} [Lean.Grind.CommRing K] : ∀ (n : Nat) (M : Nat → Nat → K) (k : Nat), k + 1 < n → (∀ j, M k j = M (k + 1) j) → det n M = 0
  | 0, _, _, h, _ => absurd h (Nat.not_lt_zero _)
  | n + 1, M, k, h, he => by
    show sm _ (n + 1) = 0
    rw [sm_two (k := k) (n + 1) h]
    · have e : dl M k = dl M (k + 1) := by
        funext r c
        show M (if r < k then r else r + 1) (c + 1) = M (if r < k + 1 then r else r + 1) (c + 1)
        by_cases h1 : r < k
        · rw [if_pos h1, if_pos (by omega)]
        · by_cases h2 : r = k
          · subst h2
            rw [if_neg (by omega), if_pos (by omega), he]
          · rw [if_neg h1, if_neg (by omega)]
      rw [e, he 0]
      show sn k * M (k + 1) 0 * det n (dl M (k + 1)) + (- sn k) * M (k + 1) 0 * det n (dl M (k + 1)) = 0
      grind
    · intro i hi h1 h2
      by_cases h3 : i < k
      · rw [det_adj0 n (dl M i) (k - 1) (by omega) (fun j => ?_)]
        · grind
        · show M (if k - 1 < i then k - 1 else k - 1 + 1) (j + 1) = M (if k - 1 + 1 < i then k - 1 + 1 else k - 1 + 1 + 1) (j + 1)
          rw [if_neg (by omega), if_neg (by omega), show k - 1 + 1 = k by omega]
          exact he _
      · rw [det_adj0 n (dl M i) k (by omega) (fun j => ?_)]
        · grind
        · show M (if k < i then k else k + 1) (j + 1) = M (if k + 1 < i then k + 1 else k + 1 + 1) (j + 1)
          rw [if_pos (by omega), if_pos (by omega)]
          exact he _
def sw {K : Type} [Lean.Grind.CommRing K] (M : Nat → Nat → K) (r s : Nat) : Nat → Nat → K := fun i => if i = r then M s else if i = s then M r else M i
theorem det_pol {K : Type} [Lean.Grind.CommRing K] (n : Nat) (r s : Nat) (hr : r < n) (hs : s < n) (hrs : r ≠ s) (h0 : ∀ M : Nat → Nat → K, (∀ j, M r j = M s j) → det n M = 0) (M : Nat → Nat → K) : det n (sw M r s) = - det n M := by
  have hD : ∀ u v : Nat → K, det n (rs (rs M r u) s v) = - det n (rs (rs M r v) s u) := by
    intro u v
    have com : ∀ x y : Nat → K, rs (rs M r x) s y = rs (rs M s y) r x := by
      intro x y
      funext i j
      unfold rs
      by_cases h1 : i = s
      · rw [if_pos h1, if_neg (by omega), if_pos h1]
      · rw [if_neg h1]
        by_cases h2 : i = r
        · rw [if_pos h2, if_pos h2]
        · rw [if_neg h2, if_neg h2, if_neg h1]
    have z : ∀ x : Nat → K, det n (rs (rs M r x) s x) = 0 := fun x => h0 _ (fun j => by
      unfold rs
      rw [if_neg hrs, if_pos rfl, if_pos rfl])
    have z1 := z (fun j => u j + 1 * v j)
    rw [det_lin n _ s u v 1 hs, com, com, det_lin n _ r u v 1 hr, det_lin n _ r u v 1 hr, ← com, ← com, ← com, ← com, z u, z v] at z1
    grind
  have e1 : sw M r s = rs (rs M r (M s)) s (M r) := by
    funext i j
    unfold sw rs
    by_cases h1 : i = s
    · rw [if_pos h1, if_neg (by omega), if_pos h1]
    · rw [if_neg h1, if_neg h1]
      by_cases h2 : i = r
      · rw [if_pos h2, if_pos h2]
      · rw [if_neg h2, if_neg h2]
  have e2 : M = rs (rs M r (M r)) s (M s) := by
    funext i j
    unfold rs
    by_cases h1 : i = s
    · rw [if_pos h1, h1]
    · rw [if_neg h1]
      by_cases h2 : i = r
      · rw [if_pos h2, h2]
      · rw [if_neg h2]
  rw [e1, hD, ← e2]
theorem det_eq0 {K : Type} [Lean.Grind.CommRing K] (n : Nat) : ∀ (d : Nat) (M : Nat → Nat → K) (r : Nat), r + d + 1 < n → (∀ j, M r j = M (r + d + 1) j) → det n M = 0
  | 0, M, r, h, he => det_adj0 n M r h he
  | d + 1, M, r, h, he => by
    have h1 := det_pol n (r + d + 1) (r + d + 2) (by omega) (by omega) (by omega) (fun N hN => det_adj0 n N (r + d + 1) (by omega) hN) M
    have h2 := det_eq0 n d (sw M (r + d + 1) (r + d + 2)) r (by omega) (fun j => by
      unfold sw
      rw [if_neg (by omega), if_neg (by omega), if_pos rfl]
      exact he j)
    rw [h2] at h1
    grind
theorem det_same {K : Type} [Lean.Grind.CommRing K] (n : Nat) (M : Nat → Nat → K) (r s : Nat) (hr : r < n) (hs : s < n) (hrs : r ≠ s) (he : ∀ j, M r j = M s j) : det n M = 0 := by
  by_cases h : r < s
  · exact det_eq0 n (s - r - 1) M r (by omega) (fun j => by rw [show r + (s - r - 1) + 1 = s by omega]; exact he j)
  · exact det_eq0 n (r - s - 1) M s (by omega) (fun j => by rw [show s + (r - s - 1) + 1 = r by omega]; exact (he j).symm)
theorem det_sw {K : Type} [Lean.Grind.CommRing K] (n : Nat) (M : Nat → Nat → K) (r s : Nat) (hr : r < n) (hs : s < n) (hrs : r ≠ s) : det n (sw M r s) = - det n M := det_pol n r s hr hs hrs (fun N hN => det_same n N r s hr hs hrs hN) M
theorem rs_self {K : Type} [Lean.Grind.CommRing K] (M : Nat → Nat → K) (r : Nat) : rs M r (M r) = M := by
  funext i j
  unfold rs
  split
  · rename_i h; rw [h]
  · rfl
/-- a multiple of another row added -/
theorem det_op {K : Type} [Lean.Grind.CommRing K] (n : Nat) (M : Nat → Nat → K) (r s : Nat) (f : K) (hr : r < n) (hs : s < n) (hrs : r ≠ s) : det n (rs M r (fun j => M r j + f * M s j)) = det n M := by
  rw [det_lin n M r (M r) (M s) f hr, rs_self, det_same n (rs M r (M s)) r s hr hs hrs (fun j => by unfold rs; rw [if_pos rfl, if_neg (Ne.symm hrs)])]
  grind
theorem det_col0 {K : Type} [Lean.Grind.CommRing K] (n : Nat) (M : Nat → Nat → K) (h : ∀ i, i < n → M (i + 1) 0 = 0) : det (n + 1) M = M 0 0 * det n (fun r c => M (r + 1) (c + 1)) := by
  show sm _ (n + 1) = _
  rw [sm_one (k := 0) (n + 1) (by omega) (fun i hi h0 => ?_)]
  · show (1 : K) * M 0 0 * det n (dl M 0) = _
    rw [show dl M 0 = fun r c => M (r + 1) (c + 1) from rfl]
    grind
  · obtain ⟨k, rfl⟩ : ∃ k, i = k + 1 := ⟨i - 1, by omega⟩
    rw [h k (by omega)]
    grind
theorem det_zc {K : Type} [Lean.Grind.CommRing K] (n : Nat) (M : Nat → Nat → K) (h : ∀ i, i < n + 1 → M i 0 = 0) : det (n + 1) M = 0 := by
  refine sm_0 (n + 1) (fun i hi => ?_)
  rw [h i hi]
  grind
theorem dc_dl {K : Type} [Lean.Grind.CommRing K] (M : Nat → Nat → K) (i j : Nat) : dc (dl M (i + 1)) j = dl (dc M (j + 1)) i := by
  funext r c
  show M (if r + 1 < i + 1 then r + 1 else r + 1 + 1) ((if c < j then c else c + 1) + 1) = M ((if r < i then r else r + 1) + 1) (if c + 1 < j + 1 then c + 1 else c + 1 + 1)
  congr 1
  · split <;> split <;> omega
  · split <;> split <;> omega
theorem det_row {K : Type} [Lean.Grind.CommRing K] : ∀ (n : Nat) (M : Nat → Nat → K), det (n + 1) M = sm (fun j => sn j * M 0 j * det n (dc M j)) (n + 1)
  | 0, M => rfl
  | n + 1, M => by
    show sm _ (n + 1 + 1) = sm _ (n + 1 + 1)
    rw [sm_head (fun i => sn i * M i 0 * det (n + 1) (dl M i)), sm_head (fun j => sn j * M 0 j * det (n + 1) (dc M j))]
    have e0 : dl M 0 = dc M 0 := by
      funext r c
      rfl
    rw [e0]
    congr 1
    have a : ∀ i, sn (i + 1) * M (i + 1) 0 * det (n + 1) (dl M (i + 1)) = sm (fun j => sn (i + 1) * M (i + 1) 0 * (sn j * M 0 (j + 1) * det n (dl (dc M (j + 1)) i))) (n + 1) := fun i => by
      rw [det_row n (dl M (i + 1)), sm_mul]
      congr 1
      refine sm_congr _ (fun j _ => ?_)
      rw [dc_dl]
      rfl
    have b : ∀ j, sn (j + 1) * M 0 (j + 1) * det (n + 1) (dc M (j + 1)) = sm (fun i => sn (j + 1) * M 0 (j + 1) * (sn i * M (i + 1) 0 * det n (dl (dc M (j + 1)) i))) (n + 1) := fun j => by
      rw [sm_mul]
      rfl
    rw [sm_congr _ (fun i _ => a i), sm_congr _ (fun j _ => b j), sm_swap]
    refine sm_congr _ (fun j _ => sm_congr _ (fun i _ => ?_))
    show (- sn i) * _ * _ = (- sn j) * _ * _
    grind
theorem det_tr {K : Type} [Lean.Grind.CommRing K] : ∀ (n : Nat) (M : Nat → Nat → K), det n (fun i j => M j i) = det n M
  | 0, _ => rfl
  | n + 1, M => by
    rw [det_row n M]
    show sm _ (n + 1) = _
    refine sm_congr _ (fun i _ => ?_)
    rw [← det_tr n (dc M i)]
    rfl
/-- only the corner of the last row -/
theorem det_last {K : Type} [Lean.Grind.CommRing K] : ∀ (n : Nat) (M : Nat → Nat → K), (∀ j, j < n → M n j = 0) → det (n + 1) M = M n n * det n M
  | 0, M, _ => by show (0 : K) + 1 * M 0 0 * 1 = M 0 0 * 1; grind
  | n + 1, M, h => by
    show sm _ (n + 1) + sn (n + 1) * M (n + 1) 0 * _ = M (n + 1) (n + 1) * sm _ (n + 1)
    rw [h 0 (by omega), ← sm_mul]
    have e : sm (fun i => sn i * M i 0 * det (n + 1) (dl M i)) (n + 1) = sm (fun i => M (n + 1) (n + 1) * (sn i * M i 0 * det n (dl M i))) (n + 1) := sm_congr _ (fun i hi => by
      rw [det_last n (dl M i) (fun j hj => by
        show M (if n < i then n else n + 1) (j + 1) = 0
        rw [if_neg (by omega)]
        exact h _ (by omega))]
      show _ * ((M (if n < i then n else n + 1) (n + 1)) * _) = _
      rw [if_neg (by omega)]
      grind)
    rw [e]
    grind
theorem det_lastc {K : Type} [Lean.Grind.CommRing K] (n : Nat) (M : Nat → Nat → K) (h : ∀ i, i < n → M i n = 0) : det (n + 1) M = M n n * det n M := by
  rw [← det_tr (n + 1) M, det_last n _ h, det_tr]
end
section
/-! products of vectors, and their determinants -/
def dt {K : Type} [Lean.Grind.CommRing K] (D : Nat) (u v : Nat → K) : K := sm (fun c => u c * v c) D
def gm {K : Type} [Lean.Grind.CommRing K] (D : Nat) (A : Nat → Nat → K) : Nat → Nat → K := fun i j => dt D (A i) (A j)
def gd {K : Type} [Lean.Grind.CommRing K] (D n : Nat) (A : Nat → Nat → K) : K := det n (gm D A)
theorem dt_comm {K : Type} [Lean.Grind.CommRing K] (D : Nat) (u v : Nat → K) : dt D u v = dt D v u := sm_congr D (fun c _ => by grind)
theorem dt_lin {K : Type} [Lean.Grind.CommRing K] (D : Nat) (u v w : Nat → K) (f : K) : dt D (fun c => u c + f * v c) w = dt D u w + f * dt D v w := by
  unfold dt
  rw [← sm_lin]
  exact sm_congr D (fun c _ => by grind)
theorem dt_linr {K : Type} [Lean.Grind.CommRing K] (D : Nat) (u v w : Nat → K) (f : K) : dt D w (fun c => u c + f * v c) = dt D w u + f * dt D w v := by
  rw [dt_comm, dt_lin, dt_comm D u, dt_comm D v]
theorem dt_mul {K : Type} [Lean.Grind.CommRing K] (D : Nat) (v w : Nat → K) (f : K) : dt D (fun c => f * v c) w = f * dt D v w := by
  unfold dt
  rw [← sm_mul]
  exact sm_congr D (fun c _ => by grind)
theorem dt_congr {K : Type} [Lean.Grind.CommRing K] {D : Nat} {u u' v v' : Nat → K} (h1 : ∀ c, c < D → u c = u' c) (h2 : ∀ c, c < D → v c = v' c) : dt D u v = dt D u' v' := sm_congr D (fun c hc => by rw [h1 c hc, h2 c hc])
theorem gd_congr {K : Type} [Lean.Grind.CommRing K] {D n : Nat} {A B : Nat → Nat → K} (h : ∀ i c, i < n → c < D → A i c = B i c) : gd D n A = gd D n B := det_congr n (fun i j hi hj => dt_congr (fun c hc => h i c hi hc) (fun c hc => h j c hj hc))
theorem det_scale {K : Type} [Lean.Grind.CommRing K] (n : Nat) (M : Nat → Nat → K) (k : Nat) (v : Nat → K) (f : K) (hk : k < n) : det n (rs M k (fun j => f * v j)) = f * det n (rs M k v) := by
  have h := det_lin n M k v v (f - 1) hk
  rw [show (fun j => v j + (f - 1) * v j) = fun j => f * v j from funext fun j => by grind] at h
  rw [h]
  grind
def mx {K : Type} [Lean.Grind.CommRing K] (D : Nat) (U V : Nat → Nat → K) : Nat → Nat → K := fun i j => dt D (U i) (V j)
theorem mx_tr {K : Type} [Lean.Grind.CommRing K] (D n : Nat) (U V : Nat → Nat → K) : det n (mx D U V) = det n (mx D V U) := by
  rw [← det_tr n (mx D U V)]
  exact det_congr n (fun i j _ _ => dt_comm D (U j) (V i))
theorem rs_at {K : Type} [Lean.Grind.CommRing K] (A : Nat → Nat → K) (r : Nat) (x : Nat → K) : rs A r x r = x := funext fun _ => if_pos rfl
theorem rs_off {K : Type} [Lean.Grind.CommRing K] (A : Nat → Nat → K) {r i : Nat} (x : Nat → K) (h : i ≠ r) : rs A r x i = A i := funext fun _ => if_neg h
theorem mx_rs {K : Type} [Lean.Grind.CommRing K] (D : Nat) (U V : Nat → Nat → K) (r : Nat) (x : Nat → K) : mx D (rs U r x) V = rs (mx D U V) r (fun j => dt D x (V j)) := by
  funext i j
  by_cases hi : i = r
  · rw [hi, rs_at]
    show dt D (rs U r x r) (V j) = _
    rw [rs_at]
  · rw [rs_off _ _ hi]
    show dt D (rs U r x i) (V j) = _
    rw [rs_off _ _ hi]
    rfl
theorem mx_op {K : Type} [Lean.Grind.CommRing K] (D n : Nat) (U V : Nat → Nat → K) (r s : Nat) (f : K) (hr : r < n) (hs : s < n) (hrs : r ≠ s) : det n (mx D (rs U r (fun c => U r c + f * U s c)) V) = det n (mx D U V) := by
  rw [mx_rs, ← det_op n (mx D U V) r s f hr hs hrs]
  congr 2
  funext j
  exact dt_lin D _ _ _ f
theorem mx_scale {K : Type} [Lean.Grind.CommRing K] (D n : Nat) (U V : Nat → Nat → K) (r : Nat) (x : Nat → K) (f : K) (hr : r < n) : det n (mx D (rs U r (fun c => f * x c)) V) = f * det n (mx D (rs U r x) V) := by
  rw [mx_rs, mx_rs, ← det_scale n (mx D U V) r _ f hr]
  congr 2
  funext j
  exact dt_mul D _ _ f
theorem rs_rs {K : Type} [Lean.Grind.CommRing K] (A : Nat → Nat → K) (r : Nat) (x y : Nat → K) : rs (rs A r x) r y = rs A r y := by
  funext i j
  unfold rs
  split <;> rfl
theorem gd_op {K : Type} [Lean.Grind.CommRing K] (D n : Nat) (A : Nat → Nat → K) (r s : Nat) (f : K) (hr : r < n) (hs : s < n) (hrs : r ≠ s) : gd D n (rs A r (fun c => A r c + f * A s c)) = gd D n A := by
  show det n (mx D _ _) = det n (mx D _ _)
  rw [mx_op D n A _ r s f hr hs hrs, mx_tr, mx_op D n A _ r s f hr hs hrs]
theorem gd_scale {K : Type} [Lean.Grind.CommRing K] (D n : Nat) (A : Nat → Nat → K) (r : Nat) (x : Nat → K) (f : K) (hr : r < n) : gd D n (rs A r (fun c => f * x c)) = f * f * gd D n (rs A r x) := by
  show det n (mx D _ _) = f * f * det n (mx D _ _)
  rw [mx_scale D n A _ r x f hr, mx_tr, mx_scale D n A _ r x f hr]
  grind
/-- a sum of other rows added -/
theorem gd_ops {K : Type} [Lean.Grind.CommRing K] (D n : Nat) (A : Nat → Nat → K) (r : Nat) (f : Nat → K) (hr : r < n) : ∀ m, m ≤ n → (∀ j, j < m → j = r → f j = 0) → gd D n (rs A r (fun c => A r c + sm (fun j => f j * A j c) m)) = gd D n A
  | 0, _, _ => gd_congr (fun i c _ _ => by
      unfold rs
      split
      · rename_i h; rw [h]; show A r c + 0 = _; grind
      · rfl)
  | m + 1, hm, hf => by
    have ih := gd_ops D n A r f hr m (by omega) (fun j hj => hf j (by omega))
    by_cases e : m = r
    · have z := hf m (by omega) e
      rw [← ih]
      refine gd_congr (fun i c _ _ => ?_)
      unfold rs
      split
      · show A r c + (sm _ m + f m * A m c) = _
        rw [z]; grind
      · rfl
    · rw [← ih, ← gd_op D n (rs A r (fun c => A r c + sm (fun j => f j * A j c) m)) r m (f m) hr (by omega) (Ne.symm e)]
      refine gd_congr (fun i c _ _ => ?_)
      by_cases hi : i = r
      · rw [hi, rs_at, rs_at]
        rw [rs_at, rs_off _ _ e]
        show A r c + (sm _ m + f m * A m c) = _
        grind
      · rw [rs_off _ _ hi, rs_off _ _ hi, rs_off _ _ hi]
theorem gd_last {K : Type} [Lean.Grind.CommRing K] (D n : Nat) (A : Nat → Nat → K) (h : ∀ j, j < n → dt D (A n) (A j) = 0) : gd D (n + 1) A = dt D (A n) (A n) * gd D n A := det_last n (gm D A) h

/-! Gram and Schmidt, over fractions -/
/-- a sum of the first m of A -/
def spn (A : Nat → Nat → Rat) (m : Nat) (v : Nat → Rat) : Prop := ∃ t : Nat → Rat, ∀ c, v c = sm (fun j => t j * A j c) m
theorem spn_0 (A : Nat → Nat → Rat) (m : Nat) : spn A m (fun _ => 0) := ⟨fun _ => 0, fun c => (sm_0 m (fun j _ => by grind)).symm⟩
theorem spn_up {A : Nat → Nat → Rat} {m : Nat} {v : Nat → Rat} : ∀ k, spn A m v → spn A (m + k) v
  | 0, h => h
  | k + 1, h => by
    obtain ⟨t, ht⟩ := spn_up k h
    refine ⟨fun j => if j < m + k then t j else 0, fun c => ?_⟩
    show _ = sm _ (m + k) + (if m + k < m + k then t (m + k) else 0) * A (m + k) c
    rw [ht c]
    rw [if_neg (by omega), sm_congr (m + k) (f := fun j => (if j < m + k then t j else 0) * A j c) (g := fun j => t j * A j c) (fun j hj => by rw [if_pos hj])]
    grind
theorem spn_le {A : Nat → Nat → Rat} {m n : Nat} {v : Nat → Rat} (h : m ≤ n) (hv : spn A m v) : spn A n v := by
  obtain ⟨k, rfl⟩ : ∃ k, n = m + k := ⟨n - m, by omega⟩
  exact spn_up k hv
theorem spn_add {A : Nat → Nat → Rat} {m : Nat} {u v : Nat → Rat} (f : Rat) (hu : spn A m u) (hv : spn A m v) : spn A m (fun c => u c + f * v c) := by
  obtain ⟨t, ht⟩ := hu
  obtain ⟨s, hs⟩ := hv
  refine ⟨fun j => t j + f * s j, fun c => ?_⟩
  dsimp only
  rw [ht c, hs c, ← sm_lin]
  exact sm_congr m (fun j _ => by grind)
theorem spn_self (A : Nat → Nat → Rat) (m : Nat) : spn A (m + 1) (A m) := by
  refine ⟨fun j => if j = m then 1 else 0, fun c => ?_⟩
  rw [sm_one (k := m) (m + 1) (by omega) (fun i _ hi => by dsimp only; rw [if_neg hi]; grind)]
  dsimp only
  rw [if_pos rfl]
  grind
theorem spn_sm {A O : Nat → Nat → Rat} {m : Nat} (f : Nat → Rat) : ∀ k, (∀ j, j < k → spn A m (O j)) → spn A m (fun c => sm (fun j => f j * O j c) k)
  | 0, _ => spn_0 A m
  | k + 1, h => spn_add (f k) (spn_sm f k (fun j hj => h j (by omega))) (h k (by omega))
theorem sq_nn (a : Rat) : 0 ≤ a * a := by
  rcases Rat.le_total (a := 0) (b := a) with h | h
  · exact Rat.mul_nonneg h h
  · have h2 : 0 ≤ -a := by grind
    have := Rat.mul_nonneg h2 h2
    grind
theorem dt_nn (u : Nat → Rat) : ∀ D, 0 ≤ dt D u u
  | 0 => by show (0 : Rat) ≤ 0; grind
  | D + 1 => by
    have h1 := dt_nn u D
    have h2 := sq_nn (u D)
    show 0 ≤ dt D u u + u D * u D
    grind
theorem dt_z (u : Nat → Rat) : ∀ D, dt D u u = 0 → ∀ c, c < D → u c = 0
  | 0, _, c, hc => absurd hc (Nat.not_lt_zero c)
  | D + 1, h, c, hc => by
    have h1 := dt_nn u D
    have h2 := sq_nn (u D)
    have h3 : dt D u u + u D * u D = 0 := h
    have h4 : u D * u D = 0 := by grind
    have h5 : dt D u u = 0 := by grind
    by_cases e : c = D
    · subst e
      rcases Rat.mul_eq_zero.mp h4 with h6 | h6 <;> exact h6
    · exact dt_z u D h5 c (by omega)

theorem dt_sm (D : Nat) (O : Nat → Nat → Rat) (f : Nat → Rat) (v : Nat → Rat) : ∀ m, dt D (fun c => sm (fun j => f j * O j c) m) v = sm (fun j => f j * dt D (O j) v) m
  | 0 => sm_0 D (fun c _ => by show (0 : Rat) * v c = 0; grind)
  | m + 1 => by
    show dt D (fun c => sm (fun j => f j * O j c) m + f m * O m c) v = sm (fun j => f j * dt D (O j) v) m + f m * dt D (O m) v
    rw [dt_lin, dt_sm D O f v m]
theorem dt_zr {D : Nat} {u v : Nat → Rat} (h : dt D v v = 0) : dt D u v = 0 := sm_0 D (fun c hc => by rw [dt_z v D h c hc]; grind)
/-- O is what Gram and Schmidt make of A -/
def isGS (D n : Nat) (A O : Nat → Nat → Rat) : Prop := (∀ i j, i < n → j < i → dt D (O i) (O j) = 0) ∧ (∀ i, i < n → ∃ f : Nat → Rat, ∀ c, O i c = A i c + sm (fun j => f j * O j c) i)
theorem sm_rs {A O : Nat → Nat → Rat} {n : Nat} {x f : Nat → Rat} {c i : Nat} (h : i ≤ n) : sm (fun j => f j * rs O n x j c) i = sm (fun j => f j * O j c) i := sm_congr i (fun j hj => by rw [rs_off _ _ (show j ≠ n by omega)])
theorem gs_ex (D : Nat) (A : Nat → Nat → Rat) : ∀ n, ∃ O, isGS D n A O
  | 0 => ⟨A, fun i j h => absurd h (Nat.not_lt_zero i), fun i h => absurd h (Nat.not_lt_zero i)⟩
  | n + 1 => by
    obtain ⟨O, h1, h2⟩ := gs_ex D A n
    refine ⟨rs O n (fun c => A n c + sm (fun j => -(dt D (A n) (O j) / dt D (O j) (O j)) * O j c) n), fun i j hi hj => ?_, fun i hi => ?_⟩
    · by_cases e : i = n
      · subst e
        rw [rs_at, rs_off _ _ (show j ≠ i by omega)]
        have hl := dt_lin D (A i) (fun c => sm (fun j => -(dt D (A i) (O j) / dt D (O j) (O j)) * O j c) i) (O j) 1
        rw [dt_sm, sm_one (k := j) i hj (fun l hl hlj => ?_)] at hl
        · rw [show (fun c => A i c + sm (fun j => -(dt D (A i) (O j) / dt D (O j) (O j)) * O j c) i) = fun c => A i c + 1 * sm (fun j => -(dt D (A i) (O j) / dt D (O j) (O j)) * O j c) i from funext fun c => by grind, hl]
          by_cases z : dt D (O j) (O j) = 0
          · rw [z, dt_zr (u := A i) z]
            grind
          · have := Rat.div_mul_cancel (a := dt D (A i) (O j)) z
            grind
        · by_cases hlt : l < j
          · rw [dt_comm D (O l) (O j), h1 j l (by omega) hlt]
            grind
          · rw [h1 l j (by omega) (by omega)]
            grind
      · rw [rs_off _ _ e, rs_off _ _ (show j ≠ n by omega)]
        exact h1 i j (by omega) hj
    · by_cases e : i = n
      · subst e
        refine ⟨fun j => -(dt D (A i) (O j) / dt D (O j) (O j)), fun c => ?_⟩
        rw [rs_at, sm_rs (A := A) (Nat.le_refl i)]
      · obtain ⟨f, hf⟩ := h2 i (by omega)
        refine ⟨f, fun c => ?_⟩
        rw [rs_off _ _ e, sm_rs (A := A) (show i ≤ n by omega)]
        exact hf c
theorem gs_gd {D n : Nat} {A O : Nat → Nat → Rat} (h : isGS D n A O) : gd D n A = gd D n O := by
  have key : ∀ m, m ≤ n → gd D n (fun i => if i < m then O i else A i) = gd D n A := by
    intro m
    induction m with
    | zero => exact fun _ => gd_congr (fun i c _ _ => by rw [if_neg (Nat.not_lt_zero i)])
    | succ m ih =>
      intro hm
      rw [← ih (by omega)]
      obtain ⟨f, hf⟩ := h.2 m (by omega)
      rw [← gd_ops D n (fun i => if i < m then O i else A i) m f (by omega) m (by omega) (fun j hj e => absurd e (by omega))]
      refine gd_congr (fun i c _ _ => ?_)
      by_cases e : i = m
      · rw [e, rs_at, if_pos (show m < m + 1 by omega), hf c]
        rw [if_neg (show ¬ m < m by omega)]
        congr 1
        exact sm_congr m (fun j hj => by rw [if_pos hj])
      · rw [rs_off _ _ e]
        by_cases hi : i < m
        · rw [if_pos hi, if_pos (by omega)]
        · rw [if_neg hi, if_neg (by omega)]
  rw [← key n (Nat.le_refl n)]
  exact gd_congr (fun i c hi _ => by rw [if_pos hi])
def pd (f : Nat → Rat) : Nat → Rat
  | 0 => 1
  | n + 1 => f n * pd f n
theorem gd_pd {D : Nat} {O : Nat → Nat → Rat} : ∀ n, (∀ i j, i < n → j < i → dt D (O i) (O j) = 0) → gd D n O = pd (fun i => dt D (O i) (O i)) n
  | 0, _ => rfl
  | n + 1, h => by
    rw [gd_last D n O (fun j hj => h n j (by omega) hj), gd_pd n (fun i j hi hj => h i j (by omega) hj)]
    rfl
theorem gs_le {D n : Nat} {A O : Nat → Nat → Rat} (h : isGS D n A O) (i : Nat) (hi : i < n) : dt D (O i) (O i) ≤ dt D (A i) (A i) := by
  obtain ⟨f, hf⟩ := h.2 i hi
  have e1 : dt D (A i) (O i) = dt D (O i) (O i) := by
    have e : dt D (O i) (O i) = dt D (fun c => A i c + 1 * sm (fun j => f j * O j c) i) (O i) := dt_congr (fun c _ => by rw [hf c]; grind) (fun _ _ => rfl)
    rw [e, dt_lin, dt_sm, sm_0 i (fun j hj => by rw [dt_comm, h.1 i j hi hj]; grind)]
    grind
  have e2 := dt_nn (fun c => A i c + (-1) * O i c) D
  rw [dt_lin, dt_linr, dt_linr, e1, dt_comm D (O i) (A i), e1] at e2
  grind
theorem pd_le {f g : Nat → Rat} : ∀ n, (∀ i, i < n → 0 ≤ f i ∧ f i ≤ g i) → 0 ≤ pd f n ∧ pd f n ≤ pd g n
  | 0, _ => by show (0 : Rat) ≤ 1 ∧ (1 : Rat) ≤ 1; grind
  | n + 1, h => by
    obtain ⟨a, b⟩ := pd_le n (fun i hi => h i (by omega))
    obtain ⟨c, d⟩ := h n (by omega)
    show 0 ≤ f n * pd f n ∧ f n * pd f n ≤ g n * pd g n
    refine ⟨Rat.mul_nonneg c a, ?_⟩
    have e1 := Rat.mul_nonneg (show 0 ≤ g n - f n by grind) a
    have e2 := Rat.mul_nonneg (show 0 ≤ g n by grind) (show 0 ≤ pd g n - pd f n by grind)
    grind
/-- Hadamard -/
theorem gd_had (D n : Nat) (A : Nat → Nat → Rat) : 0 ≤ gd D n A ∧ gd D n A ≤ pd (fun i => dt D (A i) (A i)) n := by
  obtain ⟨O, h⟩ := gs_ex D A n
  rw [gs_gd h, gd_pd n h.1]
  exact pd_le n (fun i hi => ⟨dt_nn _ D, gs_le h i hi⟩)
theorem pd_z {f : Nat → Rat} : ∀ n, pd f n = 0 → ∃ i, i < n ∧ f i = 0
  | 0, h => by exact absurd h (show ¬ (1 : Rat) = 0 by decide)
  | n + 1, h => by
    rcases Rat.mul_eq_zero.mp (show f n * pd f n = 0 from h) with h | h
    · exact ⟨n, by omega, h⟩
    · obtain ⟨i, a, b⟩ := pd_z n h
      exact ⟨i, by omega, b⟩
theorem gs_spn {D n : Nat} {A O : Nat → Nat → Rat} (h : isGS D n A O) : ∀ i, i < n → spn A (i + 1) (O i) := by
  have key : ∀ m i, i < m → i < n → spn A (i + 1) (O i) := by
    intro m
    induction m with
    | zero => exact fun i hi => absurd hi (Nat.not_lt_zero i)
    | succ m ih =>
      intro i him hi
      obtain ⟨f, hf⟩ := h.2 i hi
      have h1 := spn_sm (A := A) (O := O) (m := i + 1) f i (fun j hj => spn_le (by omega) (ih j (by omega) (by omega)))
      have h2 := spn_add 1 (spn_self A i) h1
      rw [show O i = fun c => A i c + 1 * sm (fun j => f j * O j c) i from funext fun c => by rw [hf c]; grind]
      exact h2
  exact fun i hi => key (i + 1) i (by omega) hi
/-- a determinant of products that is 0: a row is a sum of those ahead of it -/
theorem gd_dep (D n : Nat) (A : Nat → Nat → Rat) (h0 : gd D n A = 0) : ∃ i, i < n ∧ ∃ t : Nat → Rat, ∀ c, c < D → A i c = sm (fun j => t j * A j c) i := by
  obtain ⟨O, h⟩ := gs_ex D A n
  rw [gs_gd h, gd_pd n h.1] at h0
  obtain ⟨i, hi, hz⟩ := pd_z n h0
  refine ⟨i, hi, ?_⟩
  obtain ⟨f, hf⟩ := h.2 i hi
  have h1 := spn_sm (A := A) (O := O) (m := i) (fun j => -1 * f j) i (fun j hj => spn_le (by omega) (gs_spn h j (by omega)))
  obtain ⟨t, ht⟩ := h1
  refine ⟨t, fun c hc => ?_⟩
  rw [← ht c]
  have h2 := hf c
  rw [dt_z _ D hz c hc] at h2
  have h3 : sm (fun j => -1 * f j * O j c) i = -1 * sm (fun j => f j * O j c) i := by
    rw [← sm_mul]
    exact sm_congr i (fun j _ => by grind)
  show A i c = sm (fun j => -1 * f j * O j c) i
  rw [h3]
  grind
end
section
/-! a table with a border -/
def bd {K : Type} [Lean.Grind.CommRing K] (n : Nat) (G : Nat → Nat → K) (u v : Nat → K) (s : K) : Nat → Nat → K := fun i j => if i < n then (if j < n then G i j else u i) else (if j < n then - v j else s)
theorem bd_in {K : Type} [Lean.Grind.CommRing K] {n : Nat} {G : Nat → Nat → K} {u v : Nat → K} {s : K} {i j : Nat} (hi : i < n) (hj : j < n) : bd n G u v s i j = G i j := by
  unfold bd; rw [if_pos hi, if_pos hj]
theorem bd_col {K : Type} [Lean.Grind.CommRing K] {n : Nat} {G : Nat → Nat → K} {u v : Nat → K} {s : K} {i : Nat} (hi : i < n) : bd n G u v s i n = u i := by
  unfold bd; rw [if_pos hi, if_neg (by omega)]
theorem bd_row {K : Type} [Lean.Grind.CommRing K] {n : Nat} {G : Nat → Nat → K} {u v : Nat → K} {s : K} {j : Nat} (hj : j < n) : bd n G u v s n j = - v j := by
  unfold bd; rw [if_neg (by omega), if_pos hj]
theorem bd_cor {K : Type} [Lean.Grind.CommRing K] {n : Nat} {G : Nat → Nat → K} {u v : Nat → K} {s : K} : bd n G u v s n n = s := by
  unfold bd; rw [if_neg (by omega), if_neg (by omega)]
theorem bd_s {K : Type} [Lean.Grind.CommRing K] (n : Nat) (G : Nat → Nat → K) (u v : Nat → K) (s : K) : det (n + 1) (bd n G u v s) = det (n + 1) (bd n G u v 0) + s * det n G := by
  have h := det_lin (n + 1) (bd n G u v 0) n (bd n G u v 0 n) (fun j => if j < n then 0 else 1) s (by omega)
  rw [rs_self] at h
  rw [det_last n (rs (bd n G u v 0) n (fun j => if j < n then 0 else 1)) (fun j hj => by rw [rs_at, if_pos hj]), rs_at, if_neg (by omega)] at h
  have e1 : det n (rs (bd n G u v 0) n (fun j => if j < n then 0 else 1)) = det n G := det_congr n (fun i j hi hj => by rw [rs_off _ _ (by omega), bd_in hi hj])
  rw [e1] at h
  have e2 : det (n + 1) (bd n G u v s) = det (n + 1) (rs (bd n G u v 0) n (fun j => bd n G u v 0 n j + s * (if j < n then 0 else 1))) := det_congr (n + 1) (fun i j hi hj => by
    by_cases e : i = n
    · rw [e, rs_at]
      by_cases hj2 : j < n
      · rw [bd_row hj2, bd_row hj2, if_pos hj2]; grind
      · obtain rfl : j = n := by omega
        rw [bd_cor, bd_cor, if_neg (by omega)]; grind
    · rw [rs_off _ _ e]
      by_cases hj2 : j < n
      · rw [bd_in (by omega) hj2, bd_in (by omega) hj2]
      · obtain rfl : j = n := by omega
        rw [bd_col (by omega), bd_col (by omega)])
  rw [e2, h]
  grind
/-- multiples of the last row added to the first m rows -/
theorem det_opl {K : Type} [Lean.Grind.CommRing K] (n : Nat) (M : Nat → Nat → K) (f : Nat → K) : ∀ m, m ≤ n → det (n + 1) (fun i j => if i < m then M i j + f i * M n j else M i j) = det (n + 1) M
  | 0, _ => det_congr _ (fun i j _ _ => if_neg (Nat.not_lt_zero i))
  | m + 1, hm => by
    rw [← det_opl n M f m (by omega), ← det_op (n + 1) (fun i j => if i < m then M i j + f i * M n j else M i j) m n (f m) (by omega) (by omega) (by omega)]
    refine det_congr _ (fun i j _ _ => ?_)
    by_cases e : i = m
    · rw [e, rs_at, if_pos (by omega), if_neg (by omega), if_neg (by omega)]
    · rw [rs_off _ _ e]
      by_cases hi : i < m
      · rw [if_pos hi, if_pos (by omega)]
      · rw [if_neg hi, if_neg (by omega)]
theorem bd_1 {K : Type} [Lean.Grind.CommRing K] (n : Nat) (G : Nat → Nat → K) (u v : Nat → K) : det (n + 1) (bd n G u v 1) = det n (fun i j => G i j + u i * v j) := by
  rw [← det_opl n (bd n G u v 1) (fun i => - u i) n (Nat.le_refl n), det_lastc n _ (fun i hi => by
    rw [if_pos hi, bd_col hi, bd_cor]; grind), if_neg (by omega), bd_cor]
  rw [det_congr n (N := fun i j => G i j + u i * v j) (fun i j hi hj => by
    rw [if_pos hi, bd_in hi hj, bd_row hj]; grind)]
  grind
theorem bd_r1 {K : Type} [Lean.Grind.CommRing K] (n : Nat) (G : Nat → Nat → K) (u v : Nat → K) : det n (fun i j => G i j + u i * v j) = det n G + det (n + 1) (bd n G u v 0) := by
  rw [← bd_1, bd_s]
  grind
/-- the form of the border -/
def bf {K : Type} [Lean.Grind.CommRing K] (n : Nat) (G : Nat → Nat → K) (u v : Nat → K) : K := det (n + 1) (bd n G u v 0)
theorem bf_congr {K : Type} [Lean.Grind.CommRing K] {n : Nat} {G G' : Nat → Nat → K} {u u' v v' : Nat → K} (hG : ∀ i j, i < n → j < n → G i j = G' i j) (hu : ∀ i, i < n → u i = u' i) (hv : ∀ i, i < n → v i = v' i) : bf n G u v = bf n G' u' v' := by
  refine det_congr (n + 1) (fun i j hi hj => ?_)
  unfold bd
  by_cases h1 : i < n
  · by_cases h2 : j < n
    · rw [if_pos h1, if_pos h1, if_pos h2, if_pos h2, hG i j h1 h2]
    · rw [if_pos h1, if_pos h1, if_neg h2, if_neg h2, hu i h1]
  · by_cases h2 : j < n
    · rw [if_neg h1, if_neg h1, if_pos h2, if_pos h2, hv j h2]
    · rw [if_neg h1, if_neg h1, if_neg h2, if_neg h2]
theorem bf_linr {K : Type} [Lean.Grind.CommRing K] (n : Nat) (G : Nat → Nat → K) (u v x : Nat → K) (f : K) : bf n G u (fun j => v j + f * x j) = bf n G u v + f * bf n G u x := by
  have h := det_lin (n + 1) (bd n G u v 0) n (bd n G u v 0 n) (bd n G u x 0 n) f (by omega)
  rw [rs_self] at h
  have e1 : det (n + 1) (rs (bd n G u v 0) n (bd n G u x 0 n)) = det (n + 1) (bd n G u x 0) := det_congr (n + 1) (fun i j hi hj => by
    by_cases e : i = n
    · rw [e, rs_at]
    · rw [rs_off _ _ e]
      simp [bd, show i < n by omega])
  have e2 : det (n + 1) (bd n G u (fun j => v j + f * x j) 0) = det (n + 1) (rs (bd n G u v 0) n (fun j => bd n G u v 0 n j + f * bd n G u x 0 n j)) := det_congr (n + 1) (fun i j hi hj => by
    by_cases e : i = n
    · rw [e, rs_at]
      by_cases h2 : j < n
      · simp [bd, h2]; grind
      · simp [bd, h2]; grind
    · rw [rs_off _ _ e]
      simp [bd, show i < n by omega])
  unfold bf
  rw [e2, h, e1]
theorem bf_negr {K : Type} [Lean.Grind.CommRing K] (n : Nat) (G : Nat → Nat → K) (u v : Nat → K) : bf n G u (fun j => - v j) = - bf n G u v := by
  have h := bf_linr n G u v v (-2)
  rw [show (fun j => v j + -2 * v j) = fun j => - v j from funext fun j => by grind] at h
  rw [h]
  grind
theorem bf_tr {K : Type} [Lean.Grind.CommRing K] {n : Nat} {G : Nat → Nat → K} (hG : ∀ i j, G i j = G j i) (u v : Nat → K) : bf n G u v = bf n G (fun i => - v i) (fun i => - u i) := by
  unfold bf
  rw [← det_tr (n + 1) (bd n G u v 0)]
  refine det_congr (n + 1) (fun i j _ _ => ?_)
  by_cases h1 : i < n
  · by_cases h2 : j < n
    · simp [bd, h1, h2]; exact hG j i
    · simp [bd, h1, h2]
  · by_cases h2 : j < n
    · simp [bd, h1, h2]; grind
    · simp [bd, h1, h2]
theorem bf_sym {K : Type} [Lean.Grind.CommRing K] {n : Nat} {G : Nat → Nat → K} (hG : ∀ i j, G i j = G j i) (u v : Nat → K) : bf n G u v = bf n G v u := by
  have a : ∀ x y : Nat → K, bf n G x y = - bf n G (fun i => - y i) x := fun x y => by rw [bf_tr hG x y, bf_negr]
  have b : ∀ x y : Nat → K, bf n G (fun i => - x i) y = - bf n G x y := fun x y => by
    have h1 := a x y
    rw [a (fun i => - y i) x, bf_negr] at h1
    grind
  rw [a u v, b v u]
  grind
theorem bf_0r {K : Type} [Lean.Grind.CommRing K] (n : Nat) (G : Nat → Nat → K) (u : Nat → K) : bf n G u (fun _ => 0) = 0 := by
  have h := bf_linr n G u (fun _ => 0) (fun _ => 0) (-1)
  rw [show (fun j : Nat => (0 : K) + -1 * 0) = fun _ => 0 from funext fun j => by grind] at h
  rw [h]
  grind
def ev {K : Type} [Lean.Grind.CommRing K] (i : Nat) : Nat → K := fun c => if c = i then 1 else 0
theorem bf_expr {K : Type} [Lean.Grind.CommRing K] (n : Nat) (G : Nat → Nat → K) (u v : Nat → K) : bf n G u v = sm (fun j => v j * bf n G u (ev j)) n := by
  have key : ∀ m, bf n G u (fun c => if c < m then v c else 0) = sm (fun j => v j * bf n G u (ev j)) m := by
    intro m
    induction m with
    | zero =>
      rw [show (fun c => if c < 0 then v c else 0) = fun _ => (0 : K) from funext fun c => if_neg (Nat.not_lt_zero c), bf_0r]
      rfl
    | succ m ih =>
      show _ = sm _ m + v m * bf n G u (ev m)
      rw [← ih, ← bf_linr]
      congr 1
      funext c
      unfold ev
      by_cases h : c < m
      · rw [if_pos h, if_pos (by omega), if_neg (by omega)]; grind
      · by_cases h2 : c = m
        · rw [if_pos (by omega), if_neg h, if_pos h2, h2]; grind
        · rw [if_neg (by omega), if_neg h, if_neg h2]; grind
  rw [← key n]
  exact bf_congr (fun _ _ _ _ => rfl) (fun _ _ => rfl) (fun i hi => (if_pos hi).symm)
theorem bf_ex2 {K : Type} [Lean.Grind.CommRing K] {n : Nat} {G : Nat → Nat → K} (hG : ∀ i j, G i j = G j i) (u v : Nat → K) : bf n G u v = sm (fun j => v j * sm (fun i => u i * bf n G (ev j) (ev i)) n) n := by
  rw [bf_expr]
  refine sm_congr n (fun j _ => ?_)
  rw [bf_sym hG u (ev j), bf_expr n G (ev j) u]
/-- what the border's corner is worth when the border is a sum of the table's columns -/
theorem bd_sol {K : Type} [Lean.Grind.CommRing K] {n : Nat} {G : Nat → Nat → K} (hG : ∀ i j, G i j = G j i) (x v : Nat → K) : bf n G (fun i => sm (fun j => x j * G i j) n) v = det n G * sm (fun j => v j * x j) n := by
  have e0 : ∀ k, k < n → bf n G (fun i => G i k) v = v k * det n G := by
    intro k hk
    have h := det_op (n + 1) (bd n G v (fun i => G i k) 0) n k 1 (by omega) (by omega) (by omega)
    rw [det_last n _ (fun j hj => by
      rw [rs_at]
      show bd n G v (fun i => G i k) 0 n j + 1 * bd n G v (fun i => G i k) 0 k j = 0
      rw [bd_row hj, bd_in hk hj, hG k j]; grind), rs_at] at h
    rw [bd_cor, bd_col hk, det_congr n (N := G) (fun i j hi hj => by rw [rs_off _ _ (by omega), bd_in hi hj])] at h
    rw [bf_sym hG]
    unfold bf
    rw [← h]
    grind
  have key : ∀ m, m ≤ n → bf n G v (fun i => sm (fun j => x j * G i j) m) = det n G * sm (fun j => v j * x j) m := by
    intro m
    induction m with
    | zero =>
      intro _
      show bf n G v (fun _ => 0) = det n G * 0
      rw [bf_0r]; grind
    | succ m ih =>
      intro hm
      show bf n G v (fun i => sm (fun j => x j * G i j) m + x m * G i m) = det n G * (sm (fun j => v j * x j) m + v m * x m)
      rw [bf_linr, ih (by omega), bf_sym hG v, e0 m (by omega)]
      grind
  rw [bf_sym hG]
  exact key n (Nat.le_refl n)
/-! bounds -/
def ax {K : Type} [Lean.Grind.CommRing K] (D : Nat) (A : Nat → Nat → K) (u : Nat → K) : Nat → Nat → K := fun i c => if c < D then A i c else u i
theorem dt_ax {K : Type} [Lean.Grind.CommRing K] (D : Nat) (A : Nat → Nat → K) (u : Nat → K) (i j : Nat) : dt (D + 1) (ax D A u i) (ax D A u j) = dt D (A i) (A j) + u i * u j := by
  show sm _ D + ax D A u i D * ax D A u j D = _
  unfold ax dt
  rw [if_neg (by omega), if_neg (by omega), sm_congr D (fun c hc => by rw [if_pos hc, if_pos hc])]
theorem gd_ax {K : Type} [Lean.Grind.CommRing K] (D n : Nat) (A : Nat → Nat → K) (u : Nat → K) : gd (D + 1) n (ax D A u) = gd D n A + bf n (gm D A) u u := by
  unfold bf gd
  rw [← bd_r1]
  exact det_congr n (fun i j _ _ => dt_ax D A u i j)
theorem gm_sym {K : Type} [Lean.Grind.CommRing K] (D : Nat) (A : Nat → Nat → K) (i j : Nat) : gm D A i j = gm D A j i := dt_comm D _ _
theorem bf_nn (D n : Nat) (A : Nat → Nat → Rat) (u : Nat → Rat) : 0 ≤ bf n (gm D A) u u := by
  have h : ∀ s : Rat, 0 ≤ gd D n A + s * s * bf n (gm D A) u u := by
    intro s
    have h1 := (gd_had (D + 1) n (ax D A (fun i => s * u i))).1
    rw [gd_ax] at h1
    have e : bf n (gm D A) (fun i => s * u i) (fun i => s * u i) = s * s * bf n (gm D A) u u := by
      have sc : ∀ x y : Nat → Rat, bf n (gm D A) x (fun i => s * y i) = s * bf n (gm D A) x y := fun x y => by
        have z := bf_linr n (gm D A) x (fun _ => 0) y s
        rw [bf_0r, show (fun j => (0 : Rat) + s * y j) = fun j => s * y j from funext fun j => by grind] at z
        rw [z]; grind
      rw [sc, bf_sym (gm_sym D A), sc]
      grind
    rw [e] at h1
    exact h1
  have g0 := (gd_had D n A).1
  generalize gd D n A = g at *
  generalize bf n (gm D A) u u = b at *
  by_cases hb : 0 ≤ b
  · exact hb
  · exfalso
    have hb' : 0 < -b := by grind
    have hq : g / (-b) * (-b) = g := Rat.div_mul_cancel (by grind)
    have hq0 : 0 ≤ g / (-b) := by
      by_cases z : 0 ≤ g / (-b)
      · exact z
      · have z1 : 0 ≤ -(g / (-b)) := by grind
        have z2 := Rat.mul_nonneg z1 (Rat.le_of_lt hb')
        have z3 : g = 0 := by grind
        rw [z3] at z
        exact absurd (show (0 : Rat) ≤ 0 / -b by rw [Rat.div_def, Rat.zero_mul]; exact Rat.le_refl) z
    have h1 := h (g / (-b) + 1)
    have e : (g / (-b) + 1) * (g / (-b) + 1) * b = -(g / (-b)) * g - 2 * g + b := by grind
    have h2 := Rat.mul_nonneg hq0 g0
    rw [e] at h1
    grind
theorem pd_pow {f : Nat → Rat} {B : Rat} (hB : 0 ≤ B) : ∀ n, (∀ i, i < n → 0 ≤ f i ∧ f i ≤ B) → pd f n ≤ B ^ n
  | 0, _ => by show (1 : Rat) ≤ B ^ 0; rw [Rat.pow_zero]; exact Rat.le_refl
  | n + 1, h => by
    have h1 := pd_pow hB n (fun i hi => h i (by omega))
    have h2 := (pd_le (f := f) (g := fun _ => B) n (fun i hi => ⟨(h i (by omega)).1, (h i (by omega)).2⟩)).1
    obtain ⟨a, b⟩ := h n (by omega)
    show f n * pd f n ≤ B ^ (n + 1)
    rw [Rat.pow_succ]
    have e1 := Rat.mul_nonneg (show 0 ≤ B - f n by grind) h2
    have e2 := Rat.mul_nonneg hB (show 0 ≤ B ^ n - pd f n by grind)
    grind
theorem gd_37 {D n : Nat} {A : Nat → Nat → Rat} (h : ∀ i, i < n → dt D (A i) (A i) ≤ 36) : gd D n A ≤ 37 ^ n := by
  refine Rat.le_trans (gd_had D n A).2 (pd_pow (by decide) n (fun i hi => ⟨dt_nn _ D, ?_⟩))
  have := h i hi
  grind
theorem bf_ee {D n : Nat} {A : Nat → Nat → Rat} (h : ∀ i, i < n → dt D (A i) (A i) ≤ 36) (k : Nat) : bf n (gm D A) (ev k) (ev k) ≤ 37 ^ n := by
  have h1 := (gd_had (D + 1) n (ax D A (ev k))).2
  have h2 := pd_pow (f := fun i => dt (D + 1) (ax D A (ev k) i) (ax D A (ev k) i)) (B := 37) (by decide) n (fun i hi => ⟨dt_nn _ _, by
    rw [dt_ax]
    have := h i hi
    unfold ev
    split
    · grind
    · grind⟩)
  have h3 := (gd_had D n A).1
  rw [gd_ax] at h1
  grind
/-- between -B and B -/
def wn (x B : Rat) : Prop := -B ≤ x ∧ x ≤ B
theorem wn_sm {f : Nat → Rat} {B : Rat} : ∀ n, (∀ i, i < n → wn (f i) B) → wn (sm f n) (n * B)
  | 0, _ => by
    show -((0 : Nat) * B) ≤ (0 : Rat) ∧ (0 : Rat) ≤ (0 : Nat) * B
    rw [show ((0 : Nat) : Rat) = 0 from rfl]
    grind
  | n + 1, h => by
    obtain ⟨a, b⟩ := wn_sm n (fun i hi => h i (by omega))
    obtain ⟨c, d⟩ := h n (by omega)
    show -(((n + 1 : Nat) : Rat) * B) ≤ sm f n + f n ∧ sm f n + f n ≤ ((n + 1 : Nat) : Rat) * B
    rw [Rat.natCast_add, show ((1 : Nat) : Rat) = 1 from rfl]
    grind
theorem wn_mul {x y B C : Rat} (h1 : wn x B) (h2 : wn y C) : wn (x * y) (B * C) := by
  obtain ⟨a, b⟩ := h1
  obtain ⟨c, d⟩ := h2
  have e1 := Rat.mul_nonneg (show 0 ≤ B - x by grind) (show 0 ≤ C - y by grind)
  have e2 := Rat.mul_nonneg (show 0 ≤ B + x by grind) (show 0 ≤ C + y by grind)
  have e3 := Rat.mul_nonneg (show 0 ≤ B - x by grind) (show 0 ≤ C + y by grind)
  have e4 := Rat.mul_nonneg (show 0 ≤ B + x by grind) (show 0 ≤ C - y by grind)
  constructor <;> grind
theorem bf_wn {D n : Nat} {A : Nat → Nat → Rat} (h : ∀ i, i < n → dt D (A i) (A i) ≤ 36) (i j : Nat) : wn (bf n (gm D A) (ev i) (ev j)) (37 ^ n) := by
  have s := bf_sym (gm_sym D A) (n := n) (ev i) (ev j)
  have a := bf_ee h i
  have b := bf_ee h j
  have c : ∀ f : Rat, bf n (gm D A) (fun c => ev i c + f * ev j c) (fun c => ev i c + f * ev j c) = bf n (gm D A) (ev i) (ev i) + 2 * f * bf n (gm D A) (ev i) (ev j) + f * f * bf n (gm D A) (ev j) (ev j) := by
    intro f
    rw [bf_linr n (gm D A) (fun c => ev i c + f * ev j c) (ev i) (ev j) f, bf_sym (gm_sym D A) (fun c => ev i c + f * ev j c) (ev i), bf_sym (gm_sym D A) (fun c => ev i c + f * ev j c) (ev j), bf_linr, bf_linr, ← s]
    grind
  have p := bf_nn D n A (fun c => ev i c + 1 * ev j c)
  have q := bf_nn D n A (fun c => ev i c + (-1) * ev j c)
  rw [c] at p q
  constructor <;> grind
theorem bf_bound {D n : Nat} {A : Nat → Nat → Rat} (h : ∀ i, i < n → dt D (A i) (A i) ≤ 36) {u v : Nat → Rat} {U V : Rat} (hu : ∀ i, i < n → wn (u i) U) (hv : ∀ i, i < n → wn (v i) V) : wn (bf n (gm D A) u v) (n * (V * (n * (U * 37 ^ n)))) := by
  rw [bf_ex2 (gm_sym D A)]
  exact wn_sm n (fun j hj => wn_mul (hv j hj) (wn_sm n (fun i hi => wn_mul (hu i hi) (bf_wn h j i))))
end
section
/-! rows free of one another: over the whole numbers, and by the remainders of a prime -/
theorem sm_cast (f : Nat → Int) : ∀ n, ((sm f n : Int) : Rat) = sm (fun i => ((f i : Int) : Rat)) n
  | 0 => rfl
  | n + 1 => by
    show ((sm f n + f n : Int) : Rat) = sm _ n + ((f n : Int) : Rat)
    rw [Rat.intCast_add, sm_cast f n]
theorem sn_cast : ∀ n, ((sn n : Int) : Rat) = sn n
  | 0 => rfl
  | n + 1 => by
    show ((- sn n : Int) : Rat) = - sn n
    rw [Rat.intCast_neg, sn_cast n]
theorem det_cast : ∀ (n : Nat) (M : Nat → Nat → Int), ((det n M : Int) : Rat) = det n (fun i j => ((M i j : Int) : Rat))
  | 0, _ => rfl
  | n + 1, M => by
    show ((sm _ (n + 1) : Int) : Rat) = sm _ (n + 1)
    rw [sm_cast]
    refine sm_congr (n + 1) (fun i _ => ?_)
    rw [Rat.intCast_mul, Rat.intCast_mul, sn_cast, det_cast n (dl M i)]
    rfl
def cR (A : Nat → Nat → Int) : Nat → Nat → Rat := fun i c => ((A i c : Int) : Rat)
theorem dt_cast (D : Nat) (u v : Nat → Int) : ((dt D u v : Int) : Rat) = dt D (fun c => ((u c : Int) : Rat)) (fun c => ((v c : Int) : Rat)) := by
  unfold dt
  rw [sm_cast]
  exact sm_congr D (fun c _ => Rat.intCast_mul _ _)
theorem gd_cast (D n : Nat) (A : Nat → Nat → Int) : ((gd D n A : Int) : Rat) = gd D n (cR A) := by
  unfold gd
  rw [det_cast]
  exact det_congr n (fun i j _ _ => dt_cast D _ _)
theorem bf_cast (D n : Nat) (A : Nat → Nat → Int) (u v : Nat → Int) : ((bf n (gm D A) u v : Int) : Rat) = bf n (gm D (cR A)) (fun c => ((u c : Int) : Rat)) (fun c => ((v c : Int) : Rat)) := by
  unfold bf
  rw [det_cast]
  refine det_congr (n + 1) (fun i j _ _ => ?_)
  unfold bd
  by_cases h1 : i < n
  · by_cases h2 : j < n
    · simp only [h1, h2, if_true]; exact dt_cast D _ _
    · simp only [h1, h2, if_true, if_false]
  · by_cases h2 : j < n
    · simp only [h1, h2, if_true, if_false]; exact Rat.intCast_neg _
    · simp only [h1, h2, if_false]; rfl
def ind (D n : Nat) (A : Nat → Nat → Int) : Prop := ∀ c : Nat → Int, (∀ k, k < D → sm (fun i => c i * A i k) n = 0) → ∀ i, i < n → c i = 0
def imd (p : Int) (D n : Nat) (A : Nat → Nat → Int) : Prop := ∀ c : Nat → Int, (∀ k, k < D → p ∣ sm (fun i => c i * A i k) n) → ∀ i, i < n → p ∣ c i
/-- a prime -/
def pm (p : Int) : Prop := 1 < p ∧ ∀ a b : Int, p ∣ a * b → p ∣ a ∨ p ∣ b
theorem rat_den (x : Rat) : x * ((x.den : Int) : Rat) = ((x.num : Int) : Rat) := by
  have h := Rat.num_divInt_den x
  have hd : (x.den : Int) ≠ 0 := by have := x.den_nz; omega
  rw [Rat.divInt_eq_div] at h
  have h2 : ((x.den : Int) : Rat) ≠ 0 := fun z => hd (Rat.intCast_inj.mp z)
  have h3 := Rat.div_mul_cancel (a := ((x.num : Int) : Rat)) h2
  rw [h] at h3
  exact h3
/-- one number that makes whole numbers of all -/
theorem clr (t : Nat → Rat) : ∀ n, ∃ d : Int, d ≠ 0 ∧ ∀ j, j < n → ((d : Int) : Rat) * t j = (((((d : Int) : Rat) * t j).num : Int) : Rat)
  | 0 => ⟨1, by decide, fun j hj => absurd hj (Nat.not_lt_zero j)⟩
  | n + 1 => by
    obtain ⟨d, d0, hd⟩ := clr t n
    refine ⟨d * (t n).den, Int.mul_ne_zero d0 (by have := (t n).den_nz; omega), fun j hj => ?_⟩
    have key : ∃ z : Int, (((d * (t n).den : Int) : Int) : Rat) * t j = (z : Rat) := by
      by_cases e : j = n
      · subst e
        refine ⟨d * (t j).num, ?_⟩
        rw [Rat.intCast_mul, Rat.intCast_mul, ← rat_den (t j)]
        grind
      · refine ⟨(t n).den * (((d : Int) : Rat) * t j).num, ?_⟩
        rw [Rat.intCast_mul, Rat.intCast_mul, ← hd j (by omega)]
        grind
    obtain ⟨z, hz⟩ := key
    rw [hz, Rat.num_intCast]
theorem ind_gd {D n : Nat} {A : Nat → Nat → Int} (h : ind D n A) : 0 < gd D n A := by
  have h0 := (gd_had D n (cR A)).1
  rw [← gd_cast, Rat.intCast_nonneg] at h0
  by_cases hz : gd D n A = 0
  · exfalso
    have hz2 : gd D n (cR A) = 0 := by rw [← gd_cast, hz]; rfl
    obtain ⟨i, hi, t, ht⟩ := gd_dep D n (cR A) hz2
    obtain ⟨d, d0, hd⟩ := clr t i
    have := h (fun j => if j < i then (((d : Int) : Rat) * t j).num else if j = i then -d else 0) (fun k hk => ?_) i hi
    · rw [if_neg (by omega), if_pos rfl] at this
      omega
    · rw [← Rat.intCast_inj, sm_cast]
      have e1 : sm (fun j => (((if j < i then (((d : Int) : Rat) * t j).num else if j = i then -d else 0) * A j k : Int) : Rat)) n = sm (fun j => (((if j < i then (((d : Int) : Rat) * t j).num else if j = i then -d else 0) * A j k : Int) : Rat)) (i + 1) := by
        have key : ∀ m, sm (fun j => (((if j < i then (((d : Int) : Rat) * t j).num else if j = i then -d else 0) * A j k : Int) : Rat)) (i + 1 + m) = sm (fun j => (((if j < i then (((d : Int) : Rat) * t j).num else if j = i then -d else 0) * A j k : Int) : Rat)) (i + 1) := by
          intro m
          induction m with
          | zero => rfl
          | succ m ih =>
            show sm _ (i + 1 + m) + (((if i + 1 + m < i then (((d : Int) : Rat) * t (i + 1 + m)).num else if i + 1 + m = i then -d else 0) * A (i + 1 + m) k : Int) : Rat) = _
            rw [ih, if_neg (by omega), if_neg (by omega), Int.zero_mul]
            exact Rat.add_zero _
        have z := key (n - (i + 1))
        rw [show i + 1 + (n - (i + 1)) = n by omega] at z
        exact z
      rw [e1]
      show sm _ i + (((if i < i then (((d : Int) : Rat) * t i).num else if i = i then -d else 0) * A i k : Int) : Rat) = _
      rw [if_neg (show ¬ i < i by omega), if_pos (show i = i from rfl)]
      have e2 := ht k hk
      rw [sm_congr (g := fun j => ((d : Int) : Rat) * (t j * cR A j k)) i (fun j hj => by rw [if_pos hj, Rat.intCast_mul, ← hd j hj]; unfold cR; grind), sm_mul, ← e2, Rat.intCast_mul, Rat.intCast_neg]
      unfold cR
      show _ = ((0 : Int) : Rat)
      rw [Rat.intCast_zero]
      grind
  · omega
theorem sm_split {K : Type} [Lean.Grind.CommRing K] (f : Nat → K) (k : Nat) : ∀ n, k < n → sm f n = f k + sm (fun i => if i = k then 0 else f i) n
  | 0, h => absurd h (Nat.not_lt_zero k)
  | n + 1, h => by
    show sm f n + f n = f k + (sm (fun i => if i = k then 0 else f i) n + (if n = k then 0 else f n))
    by_cases e : n = k
    · subst e
      rw [if_pos rfl, sm_congr (g := f) n (fun i hi => if_neg (by omega))]
      grind
    · rw [if_neg e, sm_split f k n (by omega)]
      grind
/-- a sum of the rows put in the place of the k-th -/
theorem gd_comb (D n : Nat) (A : Nat → Nat → Int) (c : Nat → Int) (k : Nat) (hk : k < n) : gd D n (rs A k (fun j => sm (fun i => c i * A i j) n)) = c k * c k * gd D n A := by
  have h1 := gd_scale D n A k (A k) (c k) hk
  rw [rs_self] at h1
  rw [← h1, ← gd_ops D n (rs A k (fun j => c k * A k j)) k (fun j => if j = k then 0 else c j) hk n (Nat.le_refl n) (fun j _ e => if_pos e)]
  refine gd_congr (fun i j hi hj => ?_)
  by_cases e : i = k
  · rw [e, rs_at, rs_at]
    rw [rs_at, sm_split _ k n hk]
    congr 1
    refine sm_congr n (fun i _ => ?_)
    by_cases e2 : i = k
    · rw [if_pos e2, if_pos e2, Int.zero_mul]
    · rw [if_neg e2, if_neg e2, rs_off _ _ e2]
  · rw [rs_off _ _ e, rs_off _ _ e, rs_off _ _ e]
theorem pm_sq {p a b : Int} (hp : pm p) (ha : ¬ p ∣ a) (h : p * p ∣ a * a * b) : p * p ∣ b := by
  have p0 : p ≠ 0 := by have := hp.1; omega
  have n2 : ¬ p ∣ a * a := fun z => by rcases hp.2 a a z with z | z <;> exact ha z
  have h1 : p ∣ a * a * b := Int.dvd_trans (Int.dvd_mul_right p p) h
  rcases hp.2 _ _ h1 with z | ⟨b1, rfl⟩
  · exact absurd z n2
  · obtain ⟨z, hz⟩ := h
    have h2 : p ∣ a * a * b1 := ⟨z, Int.eq_of_mul_eq_mul_left p0 (by grind)⟩
    rcases hp.2 _ _ h2 with z | ⟨b2, rfl⟩
    · exact absurd z n2
    · exact ⟨b2, by grind⟩
/-- rows that a prime can't tell apart: its square divides their determinant -/
theorem imd_sq {p : Int} {D n : Nat} {A : Nat → Nat → Int} (hp : pm p) (h : ¬ imd p D n A) : p * p ∣ gd D n A := by
  unfold imd at h
  rw [Classical.not_forall] at h
  obtain ⟨c, h⟩ := h
  rw [Classical.not_imp] at h
  obtain ⟨hc, h⟩ := h
  rw [Classical.not_forall] at h
  obtain ⟨k, h⟩ := h
  rw [Classical.not_imp] at h
  obtain ⟨hk, h⟩ := h
  refine pm_sq hp h ?_
  rw [← gd_comb D n A c k hk]
  have h1 := gd_scale D n A k (fun j => sm (fun i => c i * A i j) n / p) p hk
  have h2 : gd D n (rs A k (fun j => sm (fun i => c i * A i j) n)) = gd D n (rs A k (fun j => p * (sm (fun i => c i * A i j) n / p))) := gd_congr (fun i j hi hj => by
    unfold rs
    split
    · exact (Int.mul_ediv_cancel' (hc j hj)).symm
    · rfl)
  rw [h2, h1]
  exact Int.dvd_mul_right _ _
theorem imd_two {p q : Int} {D n : Nat} {A : Nat → Nat → Int} (hp : pm p) (hq : pm q) (hpq : ¬ p ∣ q) (hi : ind D n A) (hb : gd D n A < p * p * (q * q)) : imd p D n A ∨ imd q D n A := by
  by_cases h1 : imd p D n A
  · exact Or.inl h1
  · by_cases h2 : imd q D n A
    · exact Or.inr h2
    · exfalso
      have g0 := ind_gd hi
      obtain ⟨a, ha⟩ := imd_sq hq h2
      have h3 := imd_sq hp h1
      rw [ha] at h3
      obtain ⟨b, hb2⟩ := pm_sq hp hpq h3
      rw [hb2] at ha
      have q1 := hq.1
      have p1 := hp.1
      have e : gd D n A = p * p * (q * q) * b := by rw [ha]; grind
      have pos : 0 < p * p * (q * q) := Int.mul_pos (Int.mul_pos (by omega) (by omega)) (Int.mul_pos (by omega) (by omega))
      have b1 : 1 ≤ b := by
        by_cases hb0 : b ≤ 0
        · have := Int.mul_nonneg (Int.le_of_lt pos) (show 0 ≤ -b by omega)
          grind
        · omega
      have := Int.mul_le_mul_of_nonneg_left b1 (Int.le_of_lt pos)
      rw [Int.mul_one] at this
      omega
/-- short rows: the factors of a telling -/
def srt (n : Nat) (A : Nat → Nat → Int) : Prop := ∀ i, i < n → dt 16 (A i) (A i) ≤ 36 ∧ -2000 ≤ A i 16 ∧ A i 16 ≤ 2000
theorem srt_R {n : Nat} {A : Nat → Nat → Int} (h : srt n A) : ∀ i, i < n → dt 16 (cR A i) (cR A i) ≤ 36 := fun i hi => by
  have h1 := (h i hi).1
  rw [← Rat.intCast_le_intCast, dt_cast] at h1
  exact h1
theorem gd_16 {n : Nat} {A : Nat → Nat → Int} (h : srt n A) : gd 16 n A ≤ 37 ^ n := by
  have h1 := gd_37 (srt_R h)
  rw [← gd_cast] at h1
  rw [← Rat.intCast_le_intCast, Rat.intCast_pow]
  exact h1
theorem bf_int {n : Nat} {A : Nat → Nat → Int} (h : srt n A) {u v : Nat → Int} {U V : Int} (hu : ∀ i, i < n → -U ≤ u i ∧ u i ≤ U) (hv : ∀ i, i < n → -V ≤ v i ∧ v i ≤ V) : -(n * (V * (n * (U * 37 ^ n)))) ≤ bf n (gm 16 A) u v ∧ bf n (gm 16 A) u v ≤ n * (V * (n * (U * 37 ^ n))) := by
  have cw : ∀ x B : Int, -B ≤ x ∧ x ≤ B → wn (x : Rat) (B : Rat) := fun x B hx => by
    obtain ⟨a, b⟩ := hx
    rw [← Rat.intCast_le_intCast] at a b
    rw [Rat.intCast_neg] at a
    exact ⟨a, b⟩
  obtain ⟨a, b⟩ := bf_bound (srt_R h) (u := fun c => ((u c : Int) : Rat)) (v := fun c => ((v c : Int) : Rat)) (fun i hi => cw _ _ (hu i hi)) (fun i hi => cw _ _ (hv i hi))
  rw [← bf_cast] at a b
  have e : ((n * (V * (n * (U * 37 ^ n))) : Int) : Rat) = n * (V * (n * (U * 37 ^ n))) := by
    rw [Rat.intCast_mul, Rat.intCast_mul, Rat.intCast_mul, Rat.intCast_mul, Rat.intCast_pow]
    rfl
  rw [← e] at a b
  rw [← Rat.intCast_neg, Rat.intCast_le_intCast] at a
  rw [Rat.intCast_le_intCast] at b
  exact ⟨a, b⟩
theorem gd_17 {n : Nat} {A : Nat → Nat → Int} (h : srt n A) : gd 17 n A ≤ 37 ^ n + n * (2000 * (n * (2000 * 37 ^ n))) := by
  have e : gd 17 n A = gd 17 n (ax 16 A (fun i => A i 16)) := gd_congr (fun i c _ hc => by
    unfold ax
    split
    · rfl
    · rw [show c = 16 by omega])
  rw [e, gd_ax]
  have h1 := gd_16 h
  have h2 := (bf_int h (u := fun i => A i 16) (v := fun i => A i 16) (U := 2000) (V := 2000) (fun i hi => (h i hi).2) (fun i hi => (h i hi).2)).2
  omega
theorem pow_37 {n : Nat} (hn : n ≤ 17) : (37 : Int) ^ n ≤ 37 ^ 17 := by
  have : (37 : Nat) ^ n ≤ 37 ^ 17 := Nat.pow_le_pow_right (by omega) hn
  exact_mod_cast this
/-- of two primes at least one sees what is free -/
theorem see {p q : Int} {D n : Nat} {A : Nat → Nat → Int} (hD : D = 16 ∨ D = 17) (hp : pm p) (hq : pm q) (hpq : ¬ p ∣ q) (p1 : 1073741689 ≤ p) (q1 : 1073741689 ≤ q) (hn : n ≤ 17) (h : srt n A) (hi : ind D n A) : imd p D n A ∨ imd q D n A := by
  refine imd_two hp hq hpq hi ?_
  have a := pow_37 hn
  have a0 : (0 : Int) ≤ 37 ^ n := Int.pow_nonneg (by decide)
  have b : 1073741689 * 1073741689 * (1073741689 * 1073741689) ≤ p * p * (q * q) := Int.mul_le_mul (Int.mul_le_mul p1 p1 (by omega) (by omega)) (Int.mul_le_mul q1 q1 (by omega) (by omega)) (by omega) (Int.mul_nonneg (by omega) (by omega))
  have g16 := gd_16 h
  have g17 := gd_17 h
  generalize (37 : Int) ^ n = z at *
  refine Int.lt_of_lt_of_le ?_ b
  have z2 : (n : Int) * (2000 * (n * (2000 * z))) ≤ 17 * (2000 * (17 * (2000 * 37 ^ 17))) := by
    have e1 : (n : Int) * (2000 * z) ≤ 17 * (2000 * 37 ^ 17) := Int.mul_le_mul (by omega) (by omega) (by omega) (by omega)
    have e0 : 0 ≤ (n : Int) * (2000 * z) := Int.mul_nonneg (by omega) (by omega)
    exact Int.mul_le_mul (by omega) (by omega) (by omega) (by omega)
  rcases hD with rfl | rfl
  · omega
  · omega
end
section
/-! primes -/
/-- none of lo, lo + 2, .. divides n (2 ^ k of them) -/
def tdc (n : Nat) : Nat → Nat → Bool
  | 0, lo => !(Nat.beq (n % lo) 0)
  | k + 1, lo => tdc n k lo && tdc n k (lo + 2 * 2 ^ k)
theorem tdc_ok (n : Nat) : ∀ (k lo : Nat), tdc n k lo = true → ∀ i, i < 2 ^ k → n % (lo + 2 * i) ≠ 0
  | 0, lo, h, i, hi => by
    have : i = 0 := by rw [Nat.pow_zero] at hi; omega
    subst this
    intro z
    have h' : (!(Nat.beq (n % lo) 0)) = true := h
    rw [Nat.mul_zero, Nat.add_zero] at z
    rw [z] at h'
    exact absurd h' (by decide)
  | k + 1, lo, h, i, hi => by
    have h' : (tdc n k lo && tdc n k (lo + 2 * 2 ^ k)) = true := h
    rw [Bool.and_eq_true] at h'
    by_cases c : i < 2 ^ k
    · exact tdc_ok n k lo h'.1 i c
    · rw [Nat.pow_succ] at hi
      have := tdc_ok n k (lo + 2 * 2 ^ k) h'.2 (i - 2 ^ k) (by omega)
      rw [show lo + 2 * 2 ^ k + 2 * (i - 2 ^ k) = lo + 2 * i by omega] at this
      exact this
theorem pm_of {n : Nat} (h1 : 1 < n) (h2 : n % 2 = 1) (h3 : tdc n 15 3 = true) (h4 : n < 65536 * 65536) : pm (n : Int) := by
  have small : ∀ d, d ∣ n → d < 65537 → d = 1 := by
    intro d hd hl
    by_cases c : d = 1
    · exact c
    · exfalso
      have d0 : d ≠ 0 := fun z => by subst z; rw [Nat.zero_dvd] at hd; omega
      by_cases o : d % 2 = 0
      · have : 2 ∣ n := Nat.dvd_trans (Nat.dvd_of_mod_eq_zero o) hd
        omega
      · have h := tdc_ok n 15 3 h3 ((d - 3) / 2) (show (d - 3) / 2 < 32768 by omega)
        rw [show 3 + 2 * ((d - 3) / 2) = d by omega] at h
        exact h (Nat.mod_eq_zero_of_dvd hd)
  have dv : ∀ d, d ∣ n → d = 1 ∨ d = n := by
    intro d hd
    obtain ⟨e, he⟩ := hd
    by_cases c : d < 65537
    · exact Or.inl (small d ⟨e, he⟩ c)
    · by_cases c2 : e < 65537
      · have := small e ⟨d, by rw [he, Nat.mul_comm]⟩ c2
        subst this
        exact Or.inr (by omega)
      · have : 65537 * 65537 ≤ d * e := Nat.mul_le_mul (by omega) (by omega)
        omega
  refine ⟨by omega, fun a b h => ?_⟩
  have h' : n ∣ a.natAbs * b.natAbs := by
    have := Int.natAbs_dvd_natAbs.mpr h
    rw [Int.natAbs_mul] at this
    exact this
  rcases dv (Nat.gcd n a.natAbs) (Nat.gcd_dvd_left _ _) with g | g
  · right
    have := Nat.Coprime.dvd_of_dvd_mul_left (k := n) (m := a.natAbs) (n := b.natAbs) g h'
    exact Int.natAbs_dvd_natAbs.mp this
  · left
    have : n ∣ a.natAbs := by have := Nat.gcd_dvd_right n a.natAbs; rw [g] at this; exact this
    exact Int.natAbs_dvd_natAbs.mp this
set_option maxRecDepth 100000 in
theorem pm_c0 : pm 2147483647 := pm_of (n := 2147483647) (by decide) (by decide) (by decide +kernel) (by decide)
set_option maxRecDepth 100000 in
theorem pm_c1 : pm 2147483629 := pm_of (n := 2147483629) (by decide) (by decide) (by decide +kernel) (by decide)
set_option maxRecDepth 100000 in
theorem pm_c2 : pm 2147483587 := pm_of (n := 2147483587) (by decide) (by decide) (by decide +kernel) (by decide)
set_option maxRecDepth 100000 in
theorem pm_c3 : pm 2147483579 := pm_of (n := 2147483579) (by decide) (by decide) (by decide +kernel) (by decide)
set_option maxRecDepth 100000 in
theorem pm_c4 : pm 2147483563 := pm_of (n := 2147483563) (by decide) (by decide) (by decide +kernel) (by decide)
set_option maxRecDepth 100000 in
theorem pm_c5 : pm 2147483549 := pm_of (n := 2147483549) (by decide) (by decide) (by decide +kernel) (by decide)
set_option maxRecDepth 100000 in
theorem pm_r0 : pm 1073741789 := pm_of (n := 1073741789) (by decide) (by decide) (by decide +kernel) (by decide)
set_option maxRecDepth 100000 in
theorem pm_r1 : pm 1073741783 := pm_of (n := 1073741783) (by decide) (by decide) (by decide +kernel) (by decide)
set_option maxRecDepth 100000 in
theorem pm_r2 : pm 1073741741 := pm_of (n := 1073741741) (by decide) (by decide) (by decide +kernel) (by decide)
set_option maxRecDepth 100000 in
theorem pm_r3 : pm 1073741723 := pm_of (n := 1073741723) (by decide) (by decide) (by decide +kernel) (by decide)
set_option maxRecDepth 100000 in
theorem pm_r4 : pm 1073741719 := pm_of (n := 1073741719) (by decide) (by decide) (by decide +kernel) (by decide)
set_option maxRecDepth 100000 in
theorem pm_r5 : pm 1073741717 := pm_of (n := 1073741717) (by decide) (by decide) (by decide +kernel) (by decide)
set_option maxRecDepth 100000 in
theorem pm_r6 : pm 1073741689 := pm_of (n := 1073741689) (by decide) (by decide) (by decide +kernel) (by decide)
/-- the class's primes and the reference's -/
def pc (i : Nat) : Int := match i with
  | 0 => 2147483647
  | 1 => 2147483629
  | 2 => 2147483587
  | 3 => 2147483579
  | 4 => 2147483563
  | _ => 2147483549
def qr (i : Nat) : Int := match i with
  | 0 => 1073741789
  | 1 => 1073741783
  | 2 => 1073741741
  | 3 => 1073741723
  | 4 => 1073741719
  | 5 => 1073741717
  | _ => 1073741689
theorem pc_pm (i : Nat) : pm (pc i) := match i with
  | 0 => pm_c0
  | 1 => pm_c1
  | 2 => pm_c2
  | 3 => pm_c3
  | 4 => pm_c4
  | _ + 5 => pm_c5
theorem qr_pm (i : Nat) : pm (qr i) := match i with
  | 0 => pm_r0
  | 1 => pm_r1
  | 2 => pm_r2
  | 3 => pm_r3
  | 4 => pm_r4
  | 5 => pm_r5
  | _ + 6 => pm_r6
theorem pc_ge (i : Nat) : 2147483549 ≤ pc i ∧ pc i < 2 ^ 31 := by unfold pc; split <;> decide
theorem qr_ge (i : Nat) : 1073741689 ≤ qr i ∧ qr i < 2 ^ 30 := by unfold qr; split <;> decide
theorem pc_ne : ∀ i, i < 6 → ∀ j, j < 6 → i ≠ j → ¬ pc i ∣ pc j := by decide
theorem qr_ne : ∀ i, i < 7 → ∀ j, j < 7 → i ≠ j → ¬ qr i ∣ qr j := by decide
theorem pm_gcd {p a : Int} (hp : pm p) (h : ¬ p ∣ a) : Int.gcd a p = 1 := by
  have p1 := hp.1
  have hg1 : ((Int.gcd a p : Nat) : Int) ∣ p := Int.gcd_dvd_right ..
  have hg2 : ((Int.gcd a p : Nat) : Int) ∣ a := Int.gcd_dvd_left ..
  generalize Int.gcd a p = g at *
  obtain ⟨e, he⟩ := hg1
  have : p ∣ (g : Int) * e := by rw [← he]; exact Int.dvd_refl p
  rcases hp.2 _ _ this with h1 | h1
  · exact absurd (Int.dvd_trans h1 hg2) h
  · obtain ⟨f, hf⟩ := h1
    rw [hf] at he
    have e2 : (g : Int) * f = 1 := by
      have : p * ((g : Int) * f) = p * 1 := by grind
      exact Int.eq_of_mul_eq_mul_left (by omega) this
    have := Int.eq_one_of_dvd_one (by omega) ⟨f, e2.symm⟩
    omega
end
section
/-! Fermat -/
def ch : Nat → Nat → Int
  | _, 0 => 1
  | 0, _ + 1 => 0
  | n + 1, k + 1 => ch n k + ch n (k + 1)
theorem ch_0 : ∀ n, ch n 0 = 1
  | 0 => rfl
  | _ + 1 => rfl
theorem ch_big : ∀ n k, n < k → ch n k = 0
  | _, 0, h => absurd h (Nat.not_lt_zero _)
  | 0, _ + 1, _ => rfl
  | n + 1, k + 1, h => by
    show ch n k + ch n (k + 1) = 0
    rw [ch_big n k (by omega), ch_big n (k + 1) (by omega)]
    rfl
theorem ch_self : ∀ n, ch n n = 1
  | 0 => rfl
  | n + 1 => by
    show ch n n + ch n (n + 1) = 1
    rw [ch_self n, ch_big n (n + 1) (by omega)]
    rfl
theorem ch_abs : ∀ n k : Nat, ((k : Int) + 1) * ch (n + 1) (k + 1) = (n + 1) * ch n k
  | 0, 0 => rfl
  | 0, k + 1 => by
    show _ * (ch 0 (k + 1) + ch 0 (k + 2)) = _
    show _ * ((0 : Int) + 0) = _ * 0
    grind
  | n + 1, 0 => by
    have h := ch_abs n 0
    show _ * (ch (n + 1) 0 + ch (n + 1) 1) = _ * ch (n + 1) 0
    rw [ch_0] at h ⊢
    grind
  | n + 1, k + 1 => by
    have h1 := ch_abs n (k + 1)
    have h2 := ch_abs n k
    show _ * (ch (n + 1) (k + 1) + ch (n + 1) (k + 2)) = _ * ch (n + 1) (k + 1)
    have h3 : ch (n + 1) (k + 1) = ch n k + ch n (k + 1) := rfl
    push_cast at *
    grind
theorem binom (a : Int) : ∀ n, (a + 1) ^ n = sm (fun k => ch n k * a ^ k) (n + 1)
  | 0 => by simp [sm, ch]
  | n + 1 => by
    rw [Int.pow_succ, binom a n]
    have e1 : sm (fun k => ch (n + 1) k * a ^ k) (n + 1 + 1) = 1 + sm (fun k => ch n k * a ^ (k + 1) + ch n (k + 1) * a ^ (k + 1)) (n + 1) := by
      rw [sm_head, ch_0, Int.pow_zero, Int.mul_one]
      congr 1
      refine sm_congr _ (fun k _ => ?_)
      show (ch n k + ch n (k + 1)) * a ^ (k + 1) = _
      grind
    rw [e1, sm_add]
    have e2 : sm (fun k => ch n k * a ^ (k + 1)) (n + 1) = a * sm (fun k => ch n k * a ^ k) (n + 1) := by
      rw [← sm_mul]
      exact sm_congr _ (fun k _ => by rw [Int.pow_succ]; grind)
    have e3 : 1 + sm (fun k => ch n (k + 1) * a ^ (k + 1)) (n + 1) = sm (fun k => ch n k * a ^ k) (n + 1) := by
      have h := sm_head (fun k => ch n k * a ^ k) (n + 1)
      have h2 : sm (fun k => ch n k * a ^ k) (n + 1 + 1) = sm (fun k => ch n k * a ^ k) (n + 1) + ch n (n + 1) * a ^ (n + 1) := rfl
      rw [h2, ch_big n (n + 1) (by omega), ch_0] at h
      rw [Int.zero_mul, Int.pow_zero] at h
      omega
    rw [e2]
    grind
theorem sm_dvd {p : Int} {f : Nat → Int} : ∀ n, (∀ i, i < n → p ∣ f i) → p ∣ sm f n
  | 0, _ => Int.dvd_zero p
  | n + 1, h => Int.dvd_add (sm_dvd n (fun i hi => h i (by omega))) (h n (by omega))
theorem frm1 {p : Nat} (hp : pm (p : Int)) (a : Int) : (p : Int) ∣ (a + 1) ^ p - (a ^ p + 1) := by
  have p1 := hp.1
  obtain ⟨m, rfl⟩ : ∃ m, p = m + 2 := ⟨p - 2, by omega⟩
  rw [binom a (m + 2)]
  have e : sm (fun k => ch (m + 2) k * a ^ k) (m + 2 + 1) = 1 + sm (fun k => ch (m + 2) (k + 1) * a ^ (k + 1)) (m + 1) + a ^ (m + 2) := by
    show sm (fun k => ch (m + 2) k * a ^ k) (m + 1 + 1) + ch (m + 2) (m + 2) * a ^ (m + 2) = _
    rw [sm_head, ch_self, ch_0]
    grind
  rw [e]
  have d : ((m + 2 : Nat) : Int) ∣ sm (fun k => ch (m + 2) (k + 1) * a ^ (k + 1)) (m + 1) := sm_dvd _ (fun k hk => by
    have h := ch_abs (m + 1) k
    have h2 : ((m + 2 : Nat) : Int) ∣ ((k : Int) + 1) * ch (m + 2) (k + 1) := ⟨ch (m + 1) k, by rw [h]; push_cast; grind⟩
    rcases hp.2 _ _ h2 with h3 | h3
    · have := Int.le_of_dvd (by omega) h3
      omega
    · exact Int.dvd_mul_of_dvd_left h3)
  generalize sm (fun k => ch (m + 2) (k + 1) * a ^ (k + 1)) (m + 1) = s at *
  obtain ⟨z, hz⟩ := d
  exact ⟨z, by rw [← hz]; grind⟩
theorem frm2 {p : Nat} (hp : pm (p : Int)) : ∀ a : Nat, (p : Int) ∣ (a : Int) ^ p - a
  | 0 => by
    have p1 := hp.1
    obtain ⟨m, rfl⟩ : ∃ m, p = m + 1 := ⟨p - 1, by omega⟩
    rw [Int.pow_succ]
    show _ ∣ _ * (0 : Int) - 0
    rw [Int.mul_zero]
    exact Int.dvd_zero _
  | a + 1 => by
    obtain ⟨x, hx⟩ := frm2 hp a
    obtain ⟨y, hy⟩ := frm1 hp (a : Int)
    refine ⟨x + y, ?_⟩
    push_cast
    grind
/-- Fermat: the inverse by a power -/
theorem frm {p : Nat} (hp : pm (p : Int)) {a : Nat} (h : ¬ (p : Int) ∣ (a : Int)) : (p : Int) ∣ (a : Int) * (a : Int) ^ (p - 2) - 1 := by
  have p1 := hp.1
  have h2 := frm2 hp a
  obtain ⟨m, rfl⟩ : ∃ m, p = m + 2 := ⟨p - 2, by omega⟩
  rw [show m + 2 - 2 = m by omega]
  have e : (a : Int) ^ (m + 2) - a = a * (a * a ^ m - 1) := by
    rw [Int.pow_succ, Int.pow_succ]
    grind
  rw [e] at h2
  rcases hp.2 _ _ h2 with h3 | h3
  · exact absurd h3 h
  · exact h3
end
section
/-! what a witness keeps, as whole numbers -/
/-- a combination of a's rows, by the makings in x from 17 on -/
abbrev mk (x : Nat → Int) (a : Nat → Nat → Int) (c : Nat) : Int := sm (fun j => x (17 + j) * a j c) 16
def wv (p : Int) (r : Nat) (a R : Nat → Nat → Int) (l : Nat → Nat) : Prop := (∀ i, i < r → l i < 16) ∧ (∀ i, i < r → ∀ c, c < 33 → 0 ≤ R i c ∧ R i c < p) ∧ (∀ i, i < r → R i (l i) = 1) ∧ (∀ i j, i < j → j < r → R j (l i) = 0) ∧ (∀ i, i < r → ∀ c, c < 17 → p ∣ mk (R i) a c - R i c) ∧ (∀ i, i < r → ¬ p ∣ R i (17 + i)) ∧ (∀ i, i < r → ∀ j, i < j → j < 16 → R i (17 + j) = 0)
def lv (p : Int) (r i : Nat) (a : Nat → Nat → Int) (l : Nat → Nat) (t x : Nat → Int) : Prop := (∀ c, c < 33 → 0 ≤ x c ∧ x c < p) ∧ (∀ k, k < i → x (l k) = 0) ∧ (∀ c, c < 17 → p ∣ t c + mk x a c - x c) ∧ (∀ j, i ≤ j → j < 16 → x (17 + j) = 0)
theorem sm_cut {K : Type} [Lean.Grind.CommRing K] {f : Nat → K} {m : Nat} : ∀ n, m ≤ n → (∀ j, m ≤ j → j < n → f j = 0) → sm f n = sm f m
  | 0, h, _ => by rw [show m = 0 by omega]
  | n + 1, h, h0 => by
    by_cases e : m = n + 1
    · rw [e]
    · show sm f n + f n = _
      rw [sm_cut n (by omega) (fun j h1 h2 => h0 j h1 (by omega)), h0 n (by omega) (by omega)]
      grind
theorem sm_dm {p : Int} {f g : Nat → Int} : ∀ n, (∀ i, i < n → p ∣ f i - g i) → p ∣ sm f n - sm g n
  | 0, _ => Int.dvd_zero p
  | n + 1, h => by
    have h1 := sm_dm n (fun i hi => h i (by omega))
    have h2 := h n (by omega)
    have := Int.dvd_add h1 h2
    rw [show sm f n - sm g n + (f n - g n) = sm f (n + 1) - sm g (n + 1) by show _ = sm f n + f n - (sm g n + g n); omega] at this
    exact this
theorem wv_le {p : Int} {r r' : Nat} {a R : Nat → Nat → Int} {l : Nat → Nat} (h : wv p r a R l) (hr : r' ≤ r) : wv p r' a R l :=
  ⟨fun i hi => h.1 i (by omega), fun i hi => h.2.1 i (by omega), fun i hi => h.2.2.1 i (by omega), fun i j hi hj => h.2.2.2.1 i j hi (by omega), fun i hi => h.2.2.2.2.1 i (by omega), fun i hi => h.2.2.2.2.2.1 i (by omega), fun i hi => h.2.2.2.2.2.2 i (by omega)⟩
/-- a combination of the rows that is 0 at all leads is none -/
theorem wv_S {p : Int} (hp : pm p) {a R : Nat → Nat → Int} {l : Nat → Nat} : ∀ (r : Nat), r ≤ 16 → wv p r a R l → ∀ (y d : Nat → Int), (∀ c, c < 16 → p ∣ y c - sm (fun j => d j * a j c) r) → (∀ i, i < r → p ∣ y (l i)) → ∀ j, j < r → p ∣ d j
  | 0, _, _, _, _, _, _, j, hj => absurd hj (Nat.not_lt_zero j)
  | r + 1, hr, h, y, d, h1, h2, j, hj => by
    obtain ⟨a1, a2, a3, a4, a5, a6, a7⟩ := h
    have ih := wv_S hp r (by omega) (wv_le (r' := r) ⟨a1, a2, a3, a4, a5, a6, a7⟩ (by omega)) (fun c => R r (17 + r) * y c - d r * R r c) (fun j => R r (17 + r) * d j - d r * R r (17 + j)) (fun c hc => by
      obtain ⟨z1, hz1⟩ := h1 c hc
      obtain ⟨z2, hz2⟩ := a5 r (by omega) c (by omega)
      have e1 : mk (R r) a c = sm (fun j => R r (17 + j) * a j c) r + R r (17 + r) * a r c := by
        unfold mk
        rw [sm_cut (m := r + 1) 16 (by omega) (fun j h1 h2 => by rw [a7 r (by omega) j (by omega) h2]; exact Int.zero_mul _)]
        rfl
      have e2 : sm (fun j => d j * a j c) (r + 1) = sm (fun j => d j * a j c) r + d r * a r c := rfl
      have e3 : sm (fun j => (R r (17 + r) * d j - d r * R r (17 + j)) * a j c) r = R r (17 + r) * sm (fun j => d j * a j c) r + (- d r) * sm (fun j => R r (17 + j) * a j c) r := by
        rw [← sm_mul, ← sm_lin]
        exact sm_congr r (fun j _ => by grind)
      rw [e3]
      refine ⟨R r (17 + r) * z1 + d r * z2, ?_⟩
      rw [e1] at hz2
      rw [e2] at hz1
      grind) (fun i hi => by
      obtain ⟨z, hz⟩ := h2 i (by omega)
      rw [a4 i r hi (by omega), hz]
      exact ⟨R r (17 + r) * z, by grind⟩)
    have hdr : p ∣ d r := by
      have hl := a1 r (by omega)
      obtain ⟨z1, hz1⟩ := h1 (l r) hl
      obtain ⟨z2, hz2⟩ := a5 r (by omega) (l r) (by omega)
      obtain ⟨z3, hz3⟩ := h2 r (by omega)
      have e1 : mk (R r) a (l r) = sm (fun j => R r (17 + j) * a j (l r)) r + R r (17 + r) * a r (l r) := by
        unfold mk
        rw [sm_cut (m := r + 1) 16 (by omega) (fun j h1 h2 => by rw [a7 r (by omega) j (by omega) h2]; exact Int.zero_mul _)]
        rfl
      have e2 : sm (fun j => d j * a j (l r)) (r + 1) = sm (fun j => d j * a j (l r)) r + d r * a r (l r) := rfl
      have e3 : sm (fun j => (R r (17 + r) * d j - d r * R r (17 + j)) * a j (l r)) r = R r (17 + r) * sm (fun j => d j * a j (l r)) r + (- d r) * sm (fun j => R r (17 + j) * a j (l r)) r := by
        rw [← sm_mul, ← sm_lin]
        exact sm_congr r (fun j _ => by grind)
      obtain ⟨z4, hz4⟩ := sm_dvd (p := p) (f := fun j => (R r (17 + r) * d j - d r * R r (17 + j)) * a j (l r)) r (fun j hj => Int.dvd_mul_of_dvd_left (ih j hj))
      rw [e3] at hz4
      rw [e1, a3 r (by omega)] at hz2
      rw [e2] at hz1
      exact ⟨R r (17 + r) * z3 - R r (17 + r) * z1 - d r * z2 - z4, by grind⟩
    by_cases e : j = r
    · rw [e]; exact hdr
    · obtain ⟨z1, hz1⟩ := ih j (by omega)
      obtain ⟨z2, hz2⟩ := hdr
      have : p ∣ R r (17 + r) * d j := ⟨z1 + z2 * R r (17 + j), by grind⟩
      rcases hp.2 _ _ this with h3 | h3
      · exact absurd h3 (a6 r (by omega))
      · exact h3
theorem wv_imd {p : Int} (hp : pm p) {r : Nat} {a R : Nat → Nat → Int} {l : Nat → Nat} (hr : r ≤ 16) (h : wv p r a R l) : imd p 16 r a := fun c hc => wv_S hp r hr h (fun _ => 0) c (fun k hk => by
    obtain ⟨z, hz⟩ := hc k hk
    exact ⟨-z, by grind⟩) (fun _ _ => Int.dvd_zero p)
/-- a row behind r others -/
abbrev beh (a : Nat → Nat → Int) (r : Nat) (t : Nat → Int) : Nat → Nat → Int := fun i => if i < r then a i else t
theorem sm_beh (a : Nat → Nat → Int) (r : Nat) (t c : Nat → Int) (k : Nat) : sm (fun i => c i * beh a r t i k) (r + 1) = sm (fun i => c i * a i k) r + c r * t k := by
  show sm _ r + c r * beh a r t r k = _
  unfold beh
  rw [if_neg (by omega), sm_congr r (fun i hi => by rw [if_pos hi])]
theorem lv_cut {p : Int} {r : Nat} {a : Nat → Nat → Int} {l : Nat → Nat} {t x : Nat → Int} (hr : r ≤ 16) (h : lv p r r a l t x) (c : Nat) : mk x a c = sm (fun j => x (17 + j) * a j c) r := sm_cut 16 hr (fun j h1 h2 => by rw [h.2.2.2 j h1 h2]; exact Int.zero_mul _)
/-- what a relation of the rows with one more says of the makings -/
theorem lv_rel {p : Int} (hp : pm p) {r : Nat} {a R : Nat → Nat → Int} {l : Nat → Nat} {t x c : Nat → Int} (hr : r ≤ 16) (hw : wv p r a R l) (h : lv p r r a l t x) (hc : ∀ k, k < 16 → p ∣ sm (fun i => c i * beh a r t i k) (r + 1)) : ∀ j, j < r → p ∣ c r * x (17 + j) - c j := by
  refine wv_S hp r hr hw (fun k => c r * x k) (fun j => c r * x (17 + j) - c j) (fun k hk => ?_) (fun i hi => ?_)
  · obtain ⟨z1, hz1⟩ := hc k hk
    obtain ⟨z2, hz2⟩ := h.2.2.1 k (by omega)
    rw [lv_cut hr h] at hz2
    rw [sm_beh] at hz1
    have e : sm (fun j => (c r * x (17 + j) - c j) * a j k) r = c r * sm (fun j => x (17 + j) * a j k) r + (-1) * sm (fun i => c i * a i k) r := by
      rw [← sm_mul, ← sm_lin]
      exact sm_congr r (fun j _ => by grind)
    rw [e]
    exact ⟨z1 - c r * z2, by grind⟩
  · rw [h.2.1 i hi]
    exact ⟨0, by grind⟩
theorem nz_dvd {p x : Int} (h0 : 0 ≤ x) (h1 : x < p) (h : p ∣ x) : x = 0 := (Int.emod_eq_of_lt h0 h1).symm.trans (Int.emod_eq_zero_of_dvd h)
theorem lv_new {p : Int} (hp : pm p) {r : Nat} {a R : Nat → Nat → Int} {l : Nat → Nat} {t x : Nat → Int} (hr : r ≤ 16) (hw : wv p r a R l) (h : lv p r r a l t x) {k : Nat} (hk : k < 16) (hx : x k ≠ 0) : imd p 16 (r + 1) (beh a r t) := by
  intro c hc
  have h1 := lv_rel hp hr hw h hc
  have h2 : p ∣ c r := by
    obtain ⟨z1, hz1⟩ := hc k hk
    obtain ⟨z2, hz2⟩ := h.2.2.1 k (by omega)
    rw [lv_cut hr h] at hz2
    rw [sm_beh] at hz1
    obtain ⟨z3, hz3⟩ := sm_dvd (p := p) (f := fun j => (c r * x (17 + j) - c j) * a j k) r (fun j hj => Int.dvd_mul_of_dvd_left (h1 j hj))
    have e : sm (fun j => (c r * x (17 + j) - c j) * a j k) r = c r * sm (fun j => x (17 + j) * a j k) r + (-1) * sm (fun i => c i * a i k) r := by
      rw [← sm_mul, ← sm_lin]
      exact sm_congr r (fun j _ => by grind)
    rw [e] at hz3
    have : p ∣ c r * x k := ⟨z3 + z1 - c r * z2, by grind⟩
    rcases hp.2 _ _ this with h3 | h3
    · exact h3
    · exact absurd (nz_dvd (h.1 k (by omega)).1 (h.1 k (by omega)).2 h3) hx
  intro i hi
  by_cases e : i = r
  · rw [e]; exact h2
  · obtain ⟨z1, hz1⟩ := h1 i (by omega)
    obtain ⟨z2, hz2⟩ := h2
    exact ⟨z2 * x (17 + i) - z1, by grind⟩
theorem lv_dep {p : Int} (hp : pm p) {r D : Nat} {a : Nat → Nat → Int} {l : Nat → Nat} {t x : Nat → Int} (hr : r ≤ 16) (hD : D ≤ 17) (h : lv p r r a l t x) (hx : ∀ k, k < D → x k = 0) : ¬ imd p D (r + 1) (beh a r t) := by
  intro hi
  have h1 := hi (fun i => if i < r then x (17 + i) else 1) (fun k hk => by
    rw [sm_beh, if_neg (by omega)]
    obtain ⟨z, hz⟩ := h.2.2.1 k (by omega)
    rw [lv_cut hr h, hx k hk] at hz
    rw [sm_congr (g := fun j => x (17 + j) * a j k) r (fun i hi => by rw [if_pos hi])]
    exact ⟨z, by grind⟩) r (by omega)
  rw [if_neg (by omega)] at h1
  have := Int.eq_one_of_dvd_one (by have := hp.1; omega) h1
  have := hp.1
  omega
theorem lv_16 {p : Int} (hp : pm p) {r : Nat} {a R : Nat → Nat → Int} {l : Nat → Nat} {t x : Nat → Int} (hr : r ≤ 16) (hw : wv p r a R l) (h : lv p r r a l t x) (h16 : x 16 ≠ 0) : imd p 17 (r + 1) (beh a r t) := by
  intro c hc
  have h1 := lv_rel hp hr hw h (fun k hk => hc k (by omega))
  have h2 : p ∣ c r := by
    obtain ⟨z1, hz1⟩ := hc 16 (by omega)
    obtain ⟨z2, hz2⟩ := h.2.2.1 16 (by omega)
    rw [lv_cut hr h] at hz2
    rw [sm_beh] at hz1
    obtain ⟨z3, hz3⟩ := sm_dvd (p := p) (f := fun j => (c r * x (17 + j) - c j) * a j 16) r (fun j hj => Int.dvd_mul_of_dvd_left (h1 j hj))
    have e : sm (fun j => (c r * x (17 + j) - c j) * a j 16) r = c r * sm (fun j => x (17 + j) * a j 16) r + (-1) * sm (fun i => c i * a i 16) r := by
      rw [← sm_mul, ← sm_lin]
      exact sm_congr r (fun j _ => by grind)
    rw [e] at hz3
    have : p ∣ c r * x 16 := ⟨z3 + z1 - c r * z2, by grind⟩
    rcases hp.2 _ _ this with h3 | h3
    · exact h3
    · exact absurd (nz_dvd (h.1 16 (by omega)).1 (h.1 16 (by omega)).2 h3) h16
  intro i hi
  by_cases e : i = r
  · rw [e]; exact h2
  · obtain ⟨z1, hz1⟩ := h1 i (by omega)
    obtain ⟨z2, hz2⟩ := h2
    exact ⟨z2 * x (17 + i) - z1, by grind⟩
/-- without the i-th -/
abbrev wo (A : Nat → Nat → Int) (i : Nat) : Nat → Nat → Int := fun k => if k < i then A k else A (k + 1)
theorem sm_wo (f : Nat → Int) (i : Nat) : ∀ n, i ≤ n → sm (fun k => if k < i then f k else f (k + 1)) n = sm (fun k => if k = i then 0 else f k) (n + 1)
  | 0, h => by
    rw [show i = 0 by omega]
    show (0 : Int) = 0 + (if 0 = 0 then 0 else f 0)
    rw [if_pos rfl]; rfl
  | n + 1, h => by
    by_cases e : i = n + 1
    · subst e
      show sm _ (n + 1) = sm _ (n + 1) + (if n + 1 = n + 1 then 0 else _)
      rw [if_pos rfl, Int.add_zero]
      exact sm_congr _ (fun k hk => by rw [if_pos hk, if_neg (by omega)])
    · show sm _ n + (if n < i then f n else f (n + 1)) = sm _ (n + 1) + (if n + 1 = i then 0 else f (n + 1))
      rw [sm_wo f i n (by omega), if_neg (by omega), if_neg (by omega)]
theorem lv_see {p : Int} (hp : pm p) {r : Nat} {a R : Nat → Nat → Int} {l : Nat → Nat} {t x : Nat → Int} (hr : r ≤ 16) (hw : wv p r a R l) (h : lv p r r a l t x) {i : Nat} (hi : i < r) (hx : x (17 + i) ≠ 0) : imd p 16 r (wo (beh a r t) i) := by
  intro c hc
  have h1 := lv_rel hp hr hw h (c := fun k => if k < i then c k else if k = i then 0 else c (k - 1)) (fun k hk => by
    have e : sm (fun j => (if j < i then c j else if j = i then 0 else c (j - 1)) * beh a r t j k) (r + 1) = sm (fun j => c j * wo (beh a r t) i j k) r := by
      have e2 := sm_wo (fun j => (if j < i then c j else c (j - 1)) * beh a r t j k) i r (by omega)
      rw [sm_congr (g := fun j => if j < i then (if j < i then c j else c (j - 1)) * beh a r t j k else (if j + 1 < i then c (j + 1) else c (j + 1 - 1)) * beh a r t (j + 1) k) r (fun j hj => ?_), e2]
      · refine sm_congr (r + 1) (fun j hj => ?_)
        by_cases z : j = i
        · rw [if_pos z, if_neg (by omega), if_pos z, Int.zero_mul]
        · rw [if_neg z, if_neg z]
      · unfold wo
        by_cases z : j < i
        · rw [if_pos z, if_pos z, if_pos z]
        · rw [if_neg z, if_neg z, if_neg (by omega)]
          rfl
    rw [e]
    exact hc k hk)
  have h2 : p ∣ c (r - 1) := by
    have h3 := h1 i hi
    rw [if_neg (show ¬ r < i by omega), if_neg (show ¬ r = i by omega), if_neg (show ¬ i < i by omega), if_pos rfl, Int.sub_zero] at h3
    rcases hp.2 _ _ h3 with h4 | h4
    · exact h4
    · exact absurd (nz_dvd (h.1 (17 + i) (by omega)).1 (h.1 (17 + i) (by omega)).2 h4) hx
  obtain ⟨z2, hz2⟩ := h2
  intro k hk
  by_cases e : k = r - 1
  · rw [e, hz2]; exact Int.dvd_mul_right _ _
  · by_cases e2 : k < i
    · have h3 := h1 k (by omega)
      rw [if_neg (show ¬ r < i by omega), if_neg (show ¬ r = i by omega), if_pos e2] at h3
      obtain ⟨z1, hz1⟩ := h3
      exact ⟨z2 * x (17 + k) - z1, by grind⟩
    · have h3 := h1 (k + 1) (by omega)
      rw [if_neg (show ¬ r < i by omega), if_neg (show ¬ r = i by omega), if_neg (by omega), if_neg (by omega), show k + 1 - 1 = k by omega] at h3
      obtain ⟨z1, hz1⟩ := h3
      exact ⟨z2 * x (17 + (k + 1)) - z1, by grind⟩
theorem lv_uns {p : Int} (hp : pm p) {r : Nat} {a : Nat → Nat → Int} {l : Nat → Nat} {t x : Nat → Int} (hr : r ≤ 16) (h : lv p r r a l t x) (h0 : ∀ k, k < 16 → x k = 0) {i : Nat} (hi : i < r) (hx : x (17 + i) = 0) : ¬ imd p 16 r (wo (beh a r t) i) := by
  intro hm
  have h1 := hm (fun k => if k < i then x (17 + k) else if k + 1 < r then x (17 + (k + 1)) else 1) (fun k hk => by
    have e2 := sm_wo (fun j => (if j < r then x (17 + j) else 1) * beh a r t j k) i r (by omega)
    have e : sm (fun j => (if j < i then x (17 + j) else if j + 1 < r then x (17 + (j + 1)) else 1) * wo (beh a r t) i j k) r = sm (fun j => (if j < r then x (17 + j) else 1) * beh a r t j k) (r + 1) := by
      rw [sm_congr (g := fun j => if j < i then (if j < r then x (17 + j) else 1) * beh a r t j k else (if j + 1 < r then x (17 + (j + 1)) else 1) * beh a r t (j + 1) k) r (fun j hj => ?_), e2]
      · refine sm_congr (r + 1) (fun j hj => ?_)
        by_cases z : j = i
        · rw [if_pos z, z, if_pos hi, hx, Int.zero_mul]
        · rw [if_neg z]
      · unfold wo
        by_cases z : j < i
        · rw [if_pos z, if_pos z, if_pos z, if_pos (by omega)]
        · rw [if_neg z, if_neg z, if_neg z]
    rw [e, sm_beh, if_neg (by omega)]
    obtain ⟨z, hz⟩ := h.2.2.1 k (by omega)
    rw [lv_cut hr h, h0 k hk] at hz
    rw [sm_congr (g := fun j => x (17 + j) * a j k) r (fun i hi => by rw [if_pos hi])]
    exact ⟨z, by grind⟩) (r - 1) (by omega)
  rw [if_neg (by omega), if_neg (by omega)] at h1
  have := Int.eq_one_of_dvd_one (by have := hp.1; omega) h1
  have := hp.1
  omega
/-- what a prime sees as free is free -/
theorem imd_ind {p : Int} (hp : pm p) {D n : Nat} {A : Nat → Nat → Int} (h : imd p D n A) : ind D n A := by
  have key : ∀ (m : Nat) (c : Nat → Int), (∀ k, k < D → sm (fun i => c i * A i k) n = 0) → ∀ i, i < n → p ^ m ∣ c i := by
    intro m
    induction m with
    | zero => exact fun c _ i _ => by rw [Int.pow_zero]; exact Int.one_dvd _
    | succ m ih =>
      intro c hc i hi
      have h1 := h c (fun k hk => by rw [hc k hk]; exact Int.dvd_zero p)
      have h2 := ih (fun i => c i / p) (fun k hk => by
        have e : p * sm (fun i => c i / p * A i k) n = 0 := by
          rw [← hc k hk, ← sm_mul]
          exact sm_congr n (fun i hi => by rw [← Int.mul_assoc, Int.mul_ediv_cancel' (h1 i hi)])
        rcases Int.mul_eq_zero.mp e with z | z
        · have := hp.1; omega
        · exact z) i hi
      rw [Int.pow_succ, ← Int.mul_ediv_cancel' (h1 i hi), Int.mul_comm]
      exact Int.mul_dvd_mul_left p h2
  intro c hc i hi
  have h1 := key (c i).natAbs c hc i hi
  by_cases hz : c i = 0
  · exact hz
  · exfalso
    have h2 := Int.le_of_dvd (a := p ^ (c i).natAbs) (b := ((c i).natAbs : Int)) (by omega) (by
      rcases Int.natAbs_eq (c i) with e | e
      · rw [← e]; exact h1
      · rw [show ((c i).natAbs : Int) = - c i by omega]; exact Int.dvd_neg.mpr h1)
    have h3 : (c i).natAbs < 2 ^ (c i).natAbs := Nat.lt_two_pow_self
    have h4 : ((2 : Int)) ^ (c i).natAbs ≤ p ^ (c i).natAbs := by
      have p1 := hp.1
      obtain ⟨q, rfl⟩ : ∃ q : Nat, p = q := ⟨p.toNat, by omega⟩
      have := Nat.pow_le_pow_left (show 2 ≤ q by omega) (c i).natAbs
      exact_mod_cast this
    have h5 : (((c i).natAbs : Nat) : Int) < (2 : Int) ^ (c i).natAbs := by exact_mod_cast h3
    omega
theorem imd_le {p : Int} {D n m : Nat} {A : Nat → Nat → Int} (h : imd p D n A) (hm : m ≤ n) : imd p D m A := by
  intro c hc i hi
  have := h (fun i => if i < m then c i else 0) (fun k hk => by
    rw [sm_cut (m := m) n hm (fun j h1 h2 => by rw [if_neg (by omega)]; exact Int.zero_mul _), sm_congr (g := fun i => c i * A i k) m (fun i hi => by rw [if_pos hi])]
    exact hc k hk) i (by omega)
  rw [if_pos hi] at this
  exact this
theorem imd_congr {p : Int} {D n : Nat} {A B : Nat → Nat → Int} (h : ∀ i, i < n → ∀ c, c < D → A i c = B i c) (hA : imd p D n A) : imd p D n B := fun c hc => hA c (fun k hk => by rw [sm_congr (g := fun i => c i * B i k) n (fun i hi => by rw [h i hi k hk])]; exact hc k hk)
theorem ind_congr {D n : Nat} {A B : Nat → Nat → Int} (h : ∀ i, i < n → ∀ c, c < D → A i c = B i c) (hA : ind D n A) : ind D n B := fun c hc => hA c (fun k hk => by rw [sm_congr (g := fun i => c i * B i k) n (fun i hi => by rw [h i hi k hk])]; exact hc k hk)
end
section
/-! calls of an object that is known by a premise -/
section CALLV
variable {mid pc : Nat} {L : ML} {sk : List Value} {h : MH} {cu su : Nat} {Q : Option Value → MH → Prop}
theorem one_cv {idx m2 b : Nat} {r av : List Value} (hf : mm_fet mid pc = some (.invokevirtual idx, 3, 0)) (hm : mm_mth (mi_c (mm_of mid)) idx = some m2) (h9 : Nat.blt m2 900 = true) (hs0 : Nat.beq (mi_s (mm_of m2)) 1 = false) (hd : sk.drop (mi_n (mm_of m2)) = .ref b :: r) (hk : hK h b = mi_c (mm_of m2)) (hft : mm_fit (mm_of mid) (mm_of m2) cu su r = true) (hav : .ref b :: (sk.take (mi_n (mm_of m2))).reverse = av) : mm_one mid pc L sk h cu su = some (.inr (.inr (m2, av, (pc + 3, L, r, h, cu + mi_mc (mm_of m2), su + mi_ms (mm_of m2))))) := by
  rw [mm_one_of hf]
  show mm_inv mid (mi_c (mm_of mid)) idx pc true L sk h cu su = _
  unfold mm_inv
  rw [hm]
  have h9' : m2 < 900 := Nat.lt_of_succ_le (Nat.le_of_ble_eq_true h9)
  split
  · rename_i e; cases e
  · rename_i e; cases e; omega
  · rename_i e; cases e; omega
  · rename_i e; cases e; omega
  · rename_i m3 _ _ _ e
    cases e
    rw [hs0, hd]
    dsimp only
    rw [cond_false, if_pos ⟨rfl, hk, hft⟩, hav]
theorem WP.cv {idx m2 b : Nat} {r av : List Value} {Q2 : Option Value → MH → Prop} (hf : mm_fet mid pc = some (.invokevirtual idx, 3, 0)) (hm : mm_mth (mi_c (mm_of mid)) idx = some m2) (h9 : Nat.blt m2 900 = true) (hs0 : Nat.beq (mi_s (mm_of m2)) 1 = false) (hd : sk.drop (mi_n (mm_of m2)) = .ref b :: r) (hk : hK h b = mi_c (mm_of m2)) (hft : mm_fit (mm_of mid) (mm_of m2) cu su r = true) (hav : .ref b :: (sk.take (mi_n (mm_of m2))).reverse = av) (hb : Nat.ble (mm_slots av).length (mi_l (mm_of m2)) = true) (hs : SP m2 av h Q2) (k : ∀ v h2, Q2 v h2 → WP mid (pc + 3, L, v.toList ++ r, h2, cu + mi_mc (mm_of m2), su + mi_ms (mm_of m2)) Q) : WP mid (pc, L, sk, h, cu, su) Q := WP.call (one_cv hf hm h9 hs0 hd hk hft hav) hb hs k
theorem WP.cve {idx m2 b : Nat} {r av : List Value} {v : Option Value} {h2 : MH} (hf : mm_fet mid pc = some (.invokevirtual idx, 3, 0)) (hm : mm_mth (mi_c (mm_of mid)) idx = some m2) (h9 : Nat.blt m2 900 = true) (hs0 : Nat.beq (mi_s (mm_of m2)) 1 = false) (hd : sk.drop (mi_n (mm_of m2)) = .ref b :: r) (hk : hK h b = mi_c (mm_of m2)) (hft : mm_fit (mm_of mid) (mm_of m2) cu su r = true) (hav : .ref b :: (sk.take (mi_n (mm_of m2))).reverse = av) (hb : Nat.ble (mm_slots av).length (mi_l (mm_of m2)) = true) (hs : EV m2 av h v h2) (k : WP mid (pc + 3, L, v.toList ++ r, h2, cu + mi_mc (mm_of m2), su + mi_ms (mm_of m2)) Q) : WP mid (pc, L, sk, h, cu, su) Q := WP.calle (one_cv hf hm h9 hs0 hd hk hft hav) hb hs k
end CALLV
/-! Witness -/
abbrev isW (b : Nat) : Prop := b = 16 ∨ b = 36 ∨ b = 56
theorem isW_K {b : Nat} (h : isW b) : KK b = 6 ∧ KK (b + 1) = 15 ∧ KK (b + 18) = 9 ∧ KK (b + 19) = 10 := by rcases h with rfl | rfl | rfl <;> decide
theorem isW_L {L b : Nat} (h : isW b) : LL L (b + 1) = 16 ∧ LL L (b + 18) = 16 ∧ LL L (b + 19) = 33 := by rcases h with rfl | rfl | rfl <;> exact ⟨rfl, rfl, rfl⟩
theorem isW_R (w : Nat → Nat) {b : Nat} (h : isW b) : RR w b 1 = some (b + 1) ∧ RR w b 2 = some (b + 18) ∧ RR w b 5 = some (b + 19) := by rcases h with rfl | rfl | rfl <;> exact ⟨rfl, rfl, rfl⟩
theorem isW_i {L : Nat} (w : Nat → Nat) {b i : Nat} (h : isW b) (hi : i < 16) : RR w (b + 1) i = some (b + 2 + i) ∧ KK (b + 2 + i) = 10 ∧ LL L (b + 2 + i) = 33 := by
  have e : i = 0 ∨ i = 1 ∨ i = 2 ∨ i = 3 ∨ i = 4 ∨ i = 5 ∨ i = 6 ∨ i = 7 ∨ i = 8 ∨ i = 9 ∨ i = 10 ∨ i = 11 ∨ i = 12 ∨ i = 13 ∨ i = 14 ∨ i = 15 := by omega
  rcases h with rfl | rfl | rfl <;> rcases e with rfl | rfl | rfl | rfl | rfl | rfl | rfl | rfl | rfl | rfl | rfl | rfl | rfl | rfl | rfl | rfl <;> exact ⟨rfl, rfl, rfl⟩
/-- a telling: its terms, and what it is as a row -/
def tT (I : Nat → Nat → Int32) (s n : Nat) (nm : Nat → Nat) (fc t : Nat → Int) : Prop := I s 0 = zI (t 16) ∧ (-2000 ≤ t 16 ∧ t 16 ≤ 2000) ∧ n ≤ 4 ∧ I s 1 = nI n ∧ (∀ k, k < n → I (s + 1) k = nI (nm k) ∧ nm k < 16 ∧ I (s + 2) k = zI (fc k) ∧ fc k ≠ 0 ∧ -3 ≤ fc k ∧ fc k ≤ 3 ∧ t (nm k) = fc k) ∧ (∀ j k, j < k → k < n → nm j ≠ nm k) ∧ (∀ c, c < 16 → (∀ k, k < n → nm k ≠ c) → t c = 0)
def isT (I : Nat → Nat → Int32) (s : Nat) (t : Nat → Int) : Prop := ∃ n nm fc, tT I s n nm fc t
theorem ev_isBlind (L : Nat) (I : Nat → Nat → Int32) (J : Nat → Nat → Int64) (w : Nat → Nat) (b : Nat) (hb : isW b) : EV m_Wi_isBlind [.ref b] (hp L I J w) (some (.int (if I b 4 < I b 3 then 1 else 0))) (hp L I J w) := by
  obtain ⟨r, h, e, q⟩ : SP m_Wi_isBlind [.ref b] (hp L I J w) (fun r h => r = some (.int (if I b 4 < I b 3 then 1 else 0)) ∧ h = hp L I J w) := by
    unfold SP
    iterate 1 (refine WP.st rfl ?_)
    refine WP.get (v := .int (I b 4)) rfl rfl ((isW_K hb).1) (rfl) ?_
    iterate 1 (refine WP.st rfl ?_)
    refine WP.get (v := .int (I b 3)) rfl rfl ((isW_K hb).1) (rfl) ?_
    by_cases z : I b 4 < I b 3
    · refine WP.icf rfl (fun y => absurd y (Int32.not_le.mpr z)) ?_
      iterate 2 (refine WP.st rfl ?_)
      rw [if_pos z]
      exact WP.ret rfl ⟨rfl, rfl⟩
    · skip
      refine WP.ict rfl (Int32.not_lt.mp z) ?_
      iterate 1 (refine WP.st rfl ?_)
      rw [if_neg z]
      exact WP.ret rfl ⟨rfl, rfl⟩
  obtain ⟨rfl, rfl⟩ := q
  exact e
def ld (p : Int) (t : Nat → Int) (c : Nat) : Int := if c < 17 then t c % p else 0
set_option maxHeartbeats 4000000 in
set_option maxRecDepth 20000 in
theorem sp_load (L : Nat) (I : Nat → Nat → Int32) (J : Nat → Nat → Int64) (w : Nat → Nat) (b s : Nat) (hb : isW b) (hs : isSum s) (t : Nat → Int) (hT : isT I s t) (p : Int) (hpr : J b 0 = zJ p) (p2 : 2 ≤ p) (p3 : p < 2 ^ 31) : SP m_Wi_load [.ref b, .ref s] (hp L I J w) (fun r h => r = none ∧ ∃ J' : Nat → Nat → Int64, (∀ c, c ≠ b + 19 → J' c = J c) ∧ (∀ c, c < 33 → J' (b + 19) c = zJ (ld p t c)) ∧ h = hp L I J' w) := by
  obtain ⟨n, nm, fc, t1, t2, t3, t4, t5, t6, t7⟩ := hT
  have l19 : Nat.ble (LL L (b + 19)) 2560 = true := by rw [(isW_L hb).2.2]; rfl
  have k19 := (isW_K hb).2.2.2
  unfold SP
  iterate 4 (refine WP.st rfl ?_)
  refine WP.inv (fun i (K : Nat → Nat → Int64) => (5, [some (.ref b), some (.ref s), some (.int (nI i))], [.int (nI 33), .int (nI i)], hp L I K w, 0, 0)) (fun i K => (∀ c, c ≠ b + 19 → K c = J c) ∧ ∀ k, k < i → K (b + 19) k = zJ 0) 33 J ⟨fun _ _ => rfl, fun k hk => absurd hk (Nat.not_lt_zero k)⟩ (fun i K hi hv kk => ?_) (fun K hk1 => ?_)
  · refine WP.icf rfl (nI_ge hi (by omega)) ?_
    iterate 1 (refine WP.st rfl ?_)
    refine WP.get (v := .ref (b + 19)) rfl rfl ((isW_K hb).1) (congrArg mm_rv (isW_R w hb).2.2) ?_
    iterate 2 (refine WP.st rfl ?_)
    refine WP.last (k := i) rfl (rfl) (k19) (show i < LL L (b + 19) by rw [(isW_L hb).2.2]; exact hi) (l19) ?_
    iterate 4 (refine WP.st rfl ?_)
    have kk2 := kk (mm_up K (b + 19) i (zJ 0)) ⟨fun c hc => by funext k; exact (mm_up_off K _ (fun z => hc z.1)).trans (congrFun (hv.1 c hc) k), fun k hk => by
      by_cases e : k = i
      · rw [e]; exact mm_up_at K _ _ _
      · exact (mm_up_off K _ (fun z => e z.2)).trans (hv.2 k (by omega))⟩
    rw [nI_succ] at kk2
    exact kk2
  · skip
    refine WP.ict rfl (nI_le (Nat.le_refl _) (by omega)) ?_
    iterate 4 (refine WP.st rfl ?_)
    refine WP.get (v := .int (I s 1)) rfl rfl (hs.1) (rfl) ?_
    have hKp : K b 0 = zJ p := by rw [hk1.1 b (by omega)]; exact hpr
    refine WP.inv (fun i (M : Nat → Nat → Int64) => (28, [some (.ref b), some (.ref s), some (.int (nI i))], [.int (I s 1), .int (nI i)], hp L I M w, 0, 0)) (fun i M => (∀ c, c ≠ b + 19 → M c = J c) ∧ (∀ c, c < 16 → (∀ k, k < i → nm k = c → M (b + 19) c = zJ (fc k % p)) ∧ ((∀ k, k < i → nm k ≠ c) → M (b + 19) c = zJ 0)) ∧ (∀ c, 16 ≤ c → c < 33 → M (b + 19) c = zJ 0)) n K ⟨hk1.1, fun c hc => ⟨fun k hk => absurd hk (Nat.not_lt_zero k), fun _ => hk1.2 c (by omega)⟩, fun c _ hc => hk1.2 c hc⟩ (fun i M hi hv kk => ?_) (fun M hv => ?_)
    · obtain ⟨u1, u2, u3, u4, u5, u6, u7⟩ := t5 i hi
      have hMp : M b 0 = zJ p := by rw [hv.1 b (by omega)]; exact hpr
      refine WP.icf rfl (show ¬ I s 1 ≤ nI i by rw [t4]; exact nI_ge hi (by omega)) ?_
      iterate 1 (refine WP.st rfl ?_)
      refine WP.get (v := .ref (b + 19)) rfl rfl ((isW_K hb).1) (congrArg mm_rv (isW_R w hb).2.2) ?_
      iterate 1 (refine WP.st rfl ?_)
      refine WP.get (v := .ref (s + 1)) rfl rfl (hs.1) (congrArg mm_rv (sum_num w hs)) ?_
      iterate 1 (refine WP.st rfl ?_)
      refine WP.iald (k := i) rfl (rfl) (Or.inl hs.2.1) (show i < LL L (s + 1) by rw [sum_l1 hs]; omega) (show Nat.ble (LL L (s + 1)) 2560 = true by rw [sum_l1 hs]; rfl) ?_
      iterate 1 (refine WP.st rfl ?_)
      refine WP.get (v := .ref (s + 2)) rfl rfl (hs.1) (congrArg mm_rv (sum_fac w hs)) ?_
      iterate 1 (refine WP.st rfl ?_)
      refine WP.iald (k := i) rfl (rfl) (Or.inl hs.2.2.1) (show i < LL L (s + 2) by rw [sum_l2 hs]; omega) (show Nat.ble (LL L (s + 2)) 2560 = true by rw [sum_l2 hs]; rfl) ?_
      rw [show hI (hp L I M w) (s + 2) i = zI (fc i) from u3, show hI (hp L I M w) (s + 1) i = nI (nm i) from u1]
      iterate 1 (refine WP.st rfl ?_)
      rw [zI_l (by omega) (by omega)]
      iterate 1 (refine WP.st rfl ?_)
      refine WP.get (v := .long (zJ p)) rfl rfl ((isW_K hb).1) (congrArg Value.long hMp) ?_
      refine WP.calle rfl rfl (ev_rem _ (fc i) p p2 (by omega) (by omega) (by omega)) ?_
      refine WP.last (k := nm i) rfl (rfl) (k19) (show nm i < LL L (b + 19) by rw [(isW_L hb).2.2]; omega) (l19) ?_
      iterate 4 (refine WP.st rfl ?_)
      refine WP.get (v := .int (I s 1)) rfl rfl (hs.1) (rfl) ?_
      have kk2 := kk (mm_up M (b + 19) (nm i) (zJ (fc i % p))) ⟨fun c hc => by funext k; exact (mm_up_off M _ (fun z => hc z.1)).trans (congrFun (hv.1 c hc) k), fun c hc => ?_, fun c h1 h2 => (mm_up_off M _ (fun z => by omega)).trans (hv.2.2 c h1 h2)⟩
      · rw [nI_succ] at kk2
        exact kk2
      · by_cases e : c = nm i
        · subst e
          refine ⟨fun k hk hkc => ?_, fun hno => absurd rfl (hno i (by omega))⟩
          by_cases e2 : k = i
          · rw [e2]; exact mm_up_at M _ _ _
          · exact absurd hkc (t6 k i (by omega) hi)
        · refine ⟨fun k hk hkc => ?_, fun hno => ?_⟩
          · have : k ≠ i := fun z => by subst z; exact e hkc.symm
            exact (mm_up_off M _ (fun z => e z.2)).trans ((hv.2.1 c hc).1 k (by omega) hkc)
          · exact (mm_up_off M _ (fun z => e z.2)).trans ((hv.2.1 c hc).2 (fun k hk => hno k (by omega)))
    · have hMp : M b 0 = zJ p := by rw [hv.1 b (by omega)]; exact hpr
      refine WP.ict rfl (show I s 1 ≤ nI n by rw [t4]; exact nI_le (Nat.le_refl _) (by omega)) ?_
      iterate 1 (refine WP.st rfl ?_)
      refine WP.get (v := .ref (b + 19)) rfl rfl ((isW_K hb).1) (congrArg mm_rv (isW_R w hb).2.2) ?_
      iterate 2 (refine WP.st rfl ?_)
      refine WP.get (v := .int (I s 0)) rfl rfl (hs.1) (rfl) ?_
      rw [t1]
      iterate 1 (refine WP.st rfl ?_)
      rw [zI_l (by omega) (by omega)]
      iterate 1 (refine WP.st rfl ?_)
      refine WP.get (v := .long (zJ p)) rfl rfl ((isW_K hb).1) (congrArg Value.long hMp) ?_
      refine WP.calle rfl rfl (ev_rem _ (t 16) p p2 (by omega) (by omega) (by omega)) ?_
      refine WP.last (k := 16) rfl (rfl) (k19) (show 16 < LL L (b + 19) by rw [(isW_L hb).2.2]; decide) (l19) ?_
      refine WP.ret rfl ⟨rfl, _, fun c hc => ?_, fun c hc => ?_, rfl⟩
      · funext k
        exact (mm_up_off M _ (fun z => hc z.1)).trans (congrFun (hv.1 c hc) k)
      · unfold ld
        by_cases e : c = 16
        · subst e
          rw [if_pos (by decide)]
          exact mm_up_at M _ _ _
        · refine (mm_up_off M _ (fun z => e z.2)).trans ?_
          by_cases h16 : c < 16
          · rw [if_pos (by omega)]
            by_cases ex : ∃ k, k < n ∧ nm k = c
            · obtain ⟨k, hk, hkc⟩ := ex
              have := (t5 k hk).2.2.2.2.2.2
              rw [hkc] at this
              rw [this]
              exact (hv.2.1 c h16).1 k hk hkc
            · have hno : ∀ k, k < n → nm k ≠ c := fun k hk z => ex ⟨k, hk, z⟩
              rw [t7 c h16 hno, (hv.2.1 c h16).2 hno, Int.zero_emod]
          · rw [if_neg (by omega)]
            exact hv.2.2 c (by omega) hc
end
section
/-! Witness: look, adopt, shrinkTo, sees -/
theorem WP.search {mid : Nat} {Q : Option Value → MH → Prop} (S : Nat → MS) (P : Nat → Prop) (n : Nat) (hx : ∀ i, i < n → P i → (∀ j, j < i → ¬ P j) → WP mid (S i) Q) (hs : ∀ i, i < n → ¬ P i → WP mid (S (i + 1)) Q → WP mid (S i) Q) (k : (∀ j, j < n → ¬ P j) → WP mid (S n) Q) : WP mid (S 0) Q := by
  have key : ∀ d i, i + d = n → (∀ j, j < i → ¬ P j) → WP mid (S i) Q := by
    intro d
    induction d with
    | zero =>
      intro i hi hp
      obtain rfl : i = n := by omega
      exact k hp
    | succ d ih =>
      intro i hi hp
      by_cases hP : P i
      · exact hx i (by omega) hP hp
      · refine hs i (by omega) hP (ih (i + 1) (by omega) (fun j hj => ?_))
        by_cases e : j = i
        · rw [e]; exact hP
        · exact hp j (by omega)
  exact key n 0 (by omega) (fun j hj => absurd hj (Nat.not_lt_zero j))
/-- outside lo .. hi nothing has changed -/
def FR (lo hi : Nat) (I : Nat → Nat → Int32) (J : Nat → Nat → Int64) (I' : Nat → Nat → Int32) (J' : Nat → Nat → Int64) : Prop := ∀ c, c < lo ∨ hi < c → I' c = I c ∧ J' c = J c
theorem FR.refl (lo hi : Nat) (I : Nat → Nat → Int32) (J : Nat → Nat → Int64) : FR lo hi I J I J := fun _ _ => ⟨rfl, rfl⟩
theorem FR.trans {lo hi : Nat} {I I' I'' : Nat → Nat → Int32} {J J' J'' : Nat → Nat → Int64} (h1 : FR lo hi I J I' J') (h2 : FR lo hi I' J' I'' J'') : FR lo hi I J I'' J'' := fun c hc => ⟨(h2 c hc).1.trans (h1 c hc).1, (h2 c hc).2.trans (h1 c hc).2⟩
theorem FR.mono {lo hi lo' hi' : Nat} {I I' : Nat → Nat → Int32} {J J' : Nat → Nat → Int64} (h : FR lo hi I J I' J') (h1 : lo' ≤ lo) (h2 : hi ≤ hi') : FR lo' hi' I J I' J' := fun c hc => h c (by omega)
theorem up_ne {α : Type} (f : Nat → Nat → α) {a k c : Nat} (v : α) (h : c ≠ a) : mm_up f a k v c = f c := funext fun _ => if_neg (fun z => h z.1)
theorem up_nk {α : Type} (f : Nat → Nat → α) {a k j : Nat} (v : α) (h : j ≠ k) : mm_up f a k v a j = f a j := if_neg (fun z => h z.2)
set_option maxHeartbeats 4000000 in
set_option maxRecDepth 20000 in
theorem sp_findLead (L : Nat) (I : Nat → Nat → Int32) (J : Nat → Nat → Int64) (w : Nat → Nat) (b : Nat) (hb : isW b) (x : Nat → Int) (p : Int) (p3 : p < 2 ^ 31) (hx : ∀ c, c < 33 → J (b + 19) c = zJ (x c) ∧ 0 ≤ x c ∧ x c < p) : SP m_Wi_findLead [.ref b] (hp L I J w) (fun r h => h = hp L I J w ∧ ∃ v, r = some (.int v) ∧ ((∃ k, k < 16 ∧ x k ≠ 0 ∧ v = nI k) ∨ ((∀ k, k < 16 → x k = 0) ∧ v = -1))) := by
  unfold SP
  iterate 4 (refine WP.st rfl ?_)
  have l19 : Nat.ble (LL L (b + 19)) 2560 = true := by rw [(isW_L hb).2.2]; rfl
  refine WP.search (fun i => (5, [some (.ref b), some (.int (nI i))], [.int (nI 16), .int (nI i)], hp L I J w, 0, 0)) (fun i => x i ≠ 0) 16 (fun i hi hP hn => ?_) (fun i hi hP kk => ?_) (fun hn => ?_)
  · refine WP.icf rfl (nI_ge hi (by omega)) ?_
    iterate 1 (refine WP.st rfl ?_)
    refine WP.get (v := .ref (b + 19)) rfl rfl ((isW_K hb).1) (congrArg mm_rv (isW_R w hb).2.2) ?_
    iterate 1 (refine WP.st rfl ?_)
    refine WP.lald (k := i) rfl (rfl) (Or.inl (isW_K hb).2.2.2) (show i < LL L (b + 19) by rw [(isW_L hb).2.2]; omega) (l19) ?_
    rw [show hJ (hp L I J w) (b + 19) i = zJ (x i) from (hx i (by omega)).1]
    iterate 2 (refine WP.st rfl ?_)
    refine WP.iff rfl (fun z => hP ((zJ_eq (by have := hx i (by omega); omega) (by have := hx i (by omega); omega) (by decide) (by decide)).mp (lc_eq.mp z))) ?_
    iterate 1 (refine WP.st rfl ?_)
    exact WP.ret rfl ⟨rfl, _, rfl, Or.inl ⟨i, hi, hP, rfl⟩⟩
  · skip
    refine WP.icf rfl (nI_ge hi (by omega)) ?_
    iterate 1 (refine WP.st rfl ?_)
    refine WP.get (v := .ref (b + 19)) rfl rfl ((isW_K hb).1) (congrArg mm_rv (isW_R w hb).2.2) ?_
    iterate 1 (refine WP.st rfl ?_)
    refine WP.lald (k := i) rfl (rfl) (Or.inl (isW_K hb).2.2.2) (show i < LL L (b + 19) by rw [(isW_L hb).2.2]; omega) (l19) ?_
    rw [show hJ (hp L I J w) (b + 19) i = zJ (x i) from (hx i (by omega)).1]
    iterate 2 (refine WP.st rfl ?_)
    refine WP.ift rfl (lc_eq.mpr (by rw [Classical.not_not.mp hP]; rfl)) ?_
    iterate 4 (refine WP.st rfl ?_)
    rw [nI_succ] at kk
    exact kk
  · skip
    refine WP.ict rfl (nI_le (Nat.le_refl _) (by omega)) ?_
    iterate 1 (refine WP.st rfl ?_)
    exact WP.ret rfl ⟨rfl, _, rfl, Or.inr ⟨fun k hk => Classical.not_not.mp (hn k hk), rfl⟩⟩
theorem lv_0 {p : Int} (hp : pm p) (r : Nat) (a : Nat → Nat → Int) (l : Nat → Nat) (t : Nat → Int) : lv p r 0 a l t (ld p t) := by
  have p1 := hp.1
  refine ⟨fun c _ => ?_, fun k hk => absurd hk (Nat.not_lt_zero k), fun c hc => ?_, fun j _ hj => if_neg (by omega)⟩
  · unfold ld
    split
    · exact ⟨Int.emod_nonneg _ (by omega), Int.emod_lt_of_pos _ (by omega)⟩
    · omega
  · have e : mk (ld p t) a c = 0 := sm_0 16 (fun j hj => by
      unfold ld
      rw [if_neg (by omega), Int.zero_mul])
    rw [e]
    unfold ld
    rw [if_pos hc, Int.add_zero]
    exact Int.dvd_self_sub_emod
/-- one more row taken off -/
def ls (p : Int) (R : Nat → Nat → Int) (i : Nat) (f : Int) (x : Nat → Int) : Nat → Int := fun c => if c < 17 + i + 1 then (x c + (p - f) * R i c) % p else x c
theorem mk_lin (x y : Nat → Int) (f : Int) (a : Nat → Nat → Int) (c : Nat) : sm (fun j => (x (17 + j) + f * y (17 + j)) * a j c) 16 = mk x a c + f * mk y a c := by
  unfold mk
  rw [← sm_lin]
  exact sm_congr 16 (fun j _ => by grind)
theorem lv_s {p : Int} (hp : pm p) {r i : Nat} {a R : Nat → Nat → Int} {l : Nat → Nat} {t x : Nat → Int} (hr : r ≤ 16) (hi : i < r) (hw : wv p r a R l) (h : lv p r i a l t x) : lv p r (i + 1) a l t (ls p R i (x (l i)) x) := by
  have p1 := hp.1
  obtain ⟨a1, a2, a3, a4, a5, a6, a7⟩ := hw
  obtain ⟨h1, h2, h3, h4⟩ := h
  have cg : ∀ c, c < 33 → p ∣ x c + (p - x (l i)) * R i c - ls p R i (x (l i)) x c := by
    intro c hc
    unfold ls
    split
    · exact Int.dvd_self_sub_emod
    · rw [show c = 17 + (c - 17) by omega, a7 i hi (c - 17) (by omega) (by omega)]
      exact ⟨0, by grind⟩
  refine ⟨fun c hc => ?_, fun k hk => ?_, fun c hc => ?_, fun j h5 h6 => ?_⟩
  · unfold ls
    split
    · exact ⟨Int.emod_nonneg _ (by omega), Int.emod_lt_of_pos _ (by omega)⟩
    · exact h1 c hc
  · unfold ls
    have lk := a1 k (by omega)
    rw [if_pos (by omega)]
    by_cases e : k = i
    · rw [e, a3 i hi]
      rw [show x (l i) + (p - x (l i)) * 1 = p by omega]
      exact Int.emod_self
    · rw [h2 k (by omega), a4 k i (by omega) hi, Int.mul_zero]
      rfl
  · obtain ⟨z1, hz1⟩ := h3 c hc
    obtain ⟨z2, hz2⟩ := a5 i hi c hc
    obtain ⟨z3, hz3⟩ := cg c (by omega)
    obtain ⟨z4, hz4⟩ := sm_dm (p := p) (f := fun j => (x (17 + j) + (p - x (l i)) * R i (17 + j)) * a j c) (g := fun j => ls p R i (x (l i)) x (17 + j) * a j c) 16 (fun j hj => by
      obtain ⟨z, hz⟩ := cg (17 + j) (by omega)
      exact ⟨z * a j c, by grind⟩)
    rw [mk_lin] at hz4
    exact ⟨z1 + (p - x (l i)) * z2 + z3 - z4, by unfold mk at *; grind⟩
  · unfold ls
    rw [if_neg (by omega)]
    exact h4 j (by omega) h6
theorem lv_s0 {p : Int} {r i : Nat} {a : Nat → Nat → Int} {l : Nat → Nat} {t x : Nat → Int} (h : lv p r i a l t x) (h0 : x (l i) = 0) : lv p r (i + 1) a l t x :=
  ⟨h.1, fun k hk => by by_cases e : k = i; rw [e]; exact h0; exact h.2.1 k (by omega), h.2.2.1, fun j h1 h2 => h.2.2.2 j (by omega) h2⟩
/-- a witness's rows in the heap -/
def WR (I : Nat → Nat → Int32) (J : Nat → Nat → Int64) (b g : Nat) (R : Nat → Nat → Int) (l : Nat → Nat) : Prop := (∀ i, i < g → ∀ c, c < 33 → J (b + 2 + i) c = zJ (R i c)) ∧ (∀ i, i < g → I (b + 18) i = nI (l i))
/-- what a look finds -/
def LO (x : Nat → Int) (ld v : Int32) : Prop := (∃ k, k < 16 ∧ x k ≠ 0 ∧ ld = nI k ∧ v = 0) ∨ ((∀ k, k < 16 → x k = 0) ∧ ld = -1 ∧ v = if x 16 = 0 then 1 else 2)
set_option maxHeartbeats 4000000 in
set_option maxRecDepth 20000 in
theorem sp_look (L : Nat) (I : Nat → Nat → Int32) (J : Nat → Nat → Int64) (w : Nat → Nat) (b s : Nat) (hb : isW b) (hs : isSum s) (t : Nat → Int) (hT : isT I s t) (p : Int) (hpp : pm p) (hpr : J b 0 = zJ p) (p3 : p < 2 ^ 31) (r : Nat) (hr : r ≤ 16) (hrk : I b 3 = nI r) (a R : Nat → Nat → Int) (l : Nat → Nat) (hw : wv p r a R l) (hR : WR I J b r R l) : SP m_Wi_look [.ref b, .ref s] (hp L I J w) (fun r' h => ∃ (v ld : Int32) (J' : Nat → Nat → Int64) (x : Nat → Int), r' = some (.int v) ∧ (∀ c, c ≠ b + 19 → J' c = J c) ∧ (∀ c, c < 33 → J' (b + 19) c = zJ (x c)) ∧ lv p r r a l t x ∧ LO x ld v ∧ h = hp L (mm_up I b 6 ld) J' w) := by
  have p2 := hpp.1
  have l19 : Nat.ble (LL L (b + 19)) 2560 = true := by rw [(isW_L hb).2.2]; rfl
  have l18 : Nat.ble (LL L (b + 18)) 2560 = true := by rw [(isW_L hb).2.1]; rfl
  have l1 : Nat.ble (LL L (b + 1)) 2560 = true := by rw [(isW_L hb).1]; rfl
  unfold SP
  iterate 2 (refine WP.st rfl ?_)
  refine WP.cv rfl rfl rfl rfl rfl ((isW_K hb).1) rfl rfl rfl (sp_load L I J w b s hb hs t hT p hpr (by omega) p3) ?_
  rintro _ _ ⟨rfl, J1, j1, j2, rfl⟩
  iterate 4 (refine WP.st rfl ?_)
  refine WP.get (v := .int (I b 3)) rfl rfl ((isW_K hb).1) (rfl) ?_
  refine WP.inv (fun i (σ : (Nat → Nat → Int64) × Option Value) => (12, [some (.ref b), some (.ref s), some (.int (nI i)), σ.2, none], [.int (I b 3), .int (nI i)], hp L I σ.1 w, 0, 0)) (fun i σ => (∀ c, c ≠ b + 19 → σ.1 c = J c) ∧ ∃ x, lv p r i a l t x ∧ ∀ c, c < 33 → σ.1 (b + 19) c = zJ (x c)) r (J1, none) ⟨j1, ld p t, lv_0 hpp r a l t, j2⟩ (fun i σ hi hv kk => ?_) (fun σ hv => ?_)
  · obtain ⟨K, o⟩ := σ
    obtain ⟨f1, x, f2, f3⟩ := hv
    dsimp only at f1 f3 ⊢
    have li := hw.1 i hi
    have hxl := f2.1 (l i) (by omega)
    refine WP.icf rfl (show ¬ I b 3 ≤ nI i by rw [hrk]; exact nI_ge hi (by omega)) ?_
    iterate 1 (refine WP.st rfl ?_)
    refine WP.get (v := .ref (b + 19)) rfl rfl ((isW_K hb).1) (congrArg mm_rv (isW_R w hb).2.2) ?_
    iterate 1 (refine WP.st rfl ?_)
    refine WP.get (v := .ref (b + 18)) rfl rfl ((isW_K hb).1) (congrArg mm_rv (isW_R w hb).2.1) ?_
    iterate 1 (refine WP.st rfl ?_)
    refine WP.iald (k := i) rfl (rfl) (Or.inl (isW_K hb).2.2.1) (show i < LL L (b + 18) by rw [(isW_L hb).2.1]; omega) (l18) ?_
    rw [show hI (hp L I K w) (b + 18) i = nI (l i) from hR.2 i hi]
    refine WP.lald (k := l i) rfl (rfl) (Or.inl (isW_K hb).2.2.2) (show l i < LL L (b + 19) by rw [(isW_L hb).2.2]; omega) (l19) ?_
    rw [show hJ (hp L I K w) (b + 19) (l i) = zJ (x (l i)) from f3 (l i) (by omega)]
    iterate 4 (refine WP.st rfl ?_)
    by_cases z : x (l i) = 0
    · refine WP.ift rfl (lc_eq.mpr (by rw [z]; rfl)) ?_
      iterate 4 (refine WP.st rfl ?_)
      refine WP.get (v := .int (I b 3)) rfl rfl ((isW_K hb).1) (rfl) ?_
      have kk2 := kk (K, some (.long (zJ (x (l i))))) ⟨f1, x, lv_s0 f2 z, f3⟩
      rw [nI_succ] at kk2
      exact kk2
    · skip
      refine WP.iff rfl (fun y => z ((zJ_eq (by omega) (by omega) (by decide) (by decide)).mp (lc_eq.mp y))) ?_
      have hKp : K b 0 = zJ p := by rw [f1 b (by omega)]; exact hpr
      iterate 1 (refine WP.st rfl ?_)
      refine WP.get (v := .ref (b + 19)) rfl rfl ((isW_K hb).1) (congrArg mm_rv (isW_R w hb).2.2) ?_
      iterate 1 (refine WP.st rfl ?_)
      refine WP.get (v := .ref (b + 1)) rfl rfl ((isW_K hb).1) (congrArg mm_rv (isW_R w hb).1) ?_
      iterate 1 (refine WP.st rfl ?_)
      refine WP.aald (k := i) rfl (rfl) (Or.inr (Or.inr (Or.inr (isW_K hb).2.1))) (show i < LL L (b + 1) by rw [(isW_L hb).1]; omega) (l1) ((isW_i (L := L) w hb (show i < 16 by omega)).1) ?_
      iterate 1 (refine WP.st rfl ?_)
      refine WP.get (v := .long (zJ p)) rfl rfl ((isW_K hb).1) (congrArg Value.long hKp) ?_
      iterate 2 (refine WP.st rfl ?_)
      rw [zJ_sub]
      iterate 1 (refine WP.st rfl ?_)
      refine WP.get (v := .long (zJ p)) rfl rfl ((isW_K hb).1) (congrArg Value.long hKp) ?_
      iterate 6 (refine WP.st rfl ?_)
      rw [show ((Int8.ofInt 17).toInt32 + nI i + Int32.ofInt 1 : Int32) = nI (17 + i + 1) from by rw [show ((Int8.ofInt 17).toInt32 : Int32) = nI 17 from rfl, nI_add]; exact nI_add (17 + i) 1]
      refine WP.calle rfl rfl (ev_addTimes L I K w (b + 19) (b + 2 + i) 33 33 (by omega) (isW_K hb).2.2.2 (isW_i (L := L) w hb (show i < 16 by omega)).2.1 (isW_L hb).2.2 (isW_i (L := L) w hb (show i < 16 by omega)).2.2 (by omega) (by omega) 0 (17 + i + 1) (by omega) (by omega) (by omega) x (R i) (p - x (l i)) p (by omega) p3 (by omega) (by omega) (fun c hc => ⟨f3 c (by omega), f2.1 c (by omega)⟩) (fun c hc => ⟨by rw [f1 (b + 2 + i) (by omega)]; exact hR.1 i hi c (by omega), hw.2.1 i hi c (by omega)⟩)) ?_
      iterate 4 (refine WP.st rfl ?_)
      refine WP.get (v := .int (I b 3)) rfl rfl ((isW_K hb).1) (rfl) ?_
      have kk2 := kk (mm_row K (b + 19) (fun c => if 0 ≤ c ∧ c < 17 + i + 1 then zJ ((x c + (p - x (l i)) * R i c) % p) else K (b + 19) c), some (.long (zJ (x (l i))))) ⟨fun c hc => by funext k; dsimp only; exact (mm_row_off K _ k hc).trans (congrFun (f1 c hc) k), ls p R i (x (l i)) x, lv_s hpp hr hi hw f2, fun c hc => by
        dsimp only
        refine (mm_row_at K _ _ c).trans ?_
        unfold ls
        by_cases q : c < 17 + i + 1
        · rw [if_pos ⟨Nat.zero_le c, q⟩, if_pos q]
        · rw [if_neg (fun z => q z.2), if_neg q]
          exact f3 c hc⟩
      rw [nI_succ] at kk2
      exact kk2
  · obtain ⟨K, o⟩ := σ
    obtain ⟨f1, x, f2, f3⟩ := hv
    dsimp only at f1 f3 ⊢
    refine WP.ict rfl (show I b 3 ≤ nI r by rw [hrk]; exact nI_le (Nat.le_refl _) (by omega)) ?_
    iterate 2 (refine WP.st rfl ?_)
    refine WP.cv rfl rfl rfl rfl rfl ((isW_K hb).1) rfl rfl rfl (sp_findLead L I K w b hb x p p3 (fun c hc => ⟨f3 c hc, f2.1 c hc⟩)) ?_
    rintro _ _ ⟨rfl, v, rfl, hv⟩
    refine WP.pfI rfl rfl ((isW_K hb).1) rfl rfl ?_
    iterate 1 (refine WP.st rfl ?_)
    refine WP.get (v := .int v) rfl rfl ((isW_K hb).1) (congrArg Value.int (mm_up_at I b 6 v)) ?_
    iterate 1 (refine WP.st rfl ?_)
    rcases hv with ⟨k, k1, k2, rfl⟩ | ⟨k1, rfl⟩
    · refine WP.icf rfl (show ¬ nI k = -1 from fun z => by have := congrArg Int32.toInt z; rw [nI_zI, zI_int (by omega) (by omega)] at this; have e : (-1 : Int32).toInt = -1 := rfl; omega) ?_
      iterate 1 (refine WP.st rfl ?_)
      exact WP.ret rfl ⟨_, _, K, x, rfl, f1, f3, f2, Or.inl ⟨k, k1, k2, rfl, rfl⟩, rfl⟩
    · skip
      refine WP.ict rfl (rfl) ?_
      iterate 1 (refine WP.st rfl ?_)
      refine WP.get (v := .ref (b + 19)) rfl rfl ((isW_K hb).1) (congrArg mm_rv (isW_R w hb).2.2) ?_
      iterate 1 (refine WP.st rfl ?_)
      refine WP.lald (k := 16) rfl (rfl) (Or.inl (isW_K hb).2.2.2) (show 16 < LL L (b + 19) by rw [(isW_L hb).2.2]; decide) (l19) ?_
      rw [show hJ (hp L (mm_up I b 6 (-1)) K w) (b + 19) 16 = zJ (x 16) from f3 16 (by omega)]
      have h16 := f2.1 16 (by omega)
      iterate 2 (refine WP.st rfl ?_)
      by_cases z : x 16 = 0
      · refine WP.iff rfl (fun y => lc_ne.mp y (by rw [z]; rfl)) ?_
        iterate 2 (refine WP.st rfl ?_)
        exact WP.ret rfl ⟨_, _, K, x, rfl, f1, f3, f2, Or.inr ⟨k1, rfl, by rw [if_pos z]; rfl⟩, rfl⟩
      · skip
        refine WP.ift rfl (lc_ne.mpr (fun y => z ((zJ_eq (by omega) (by omega) (by decide) (by decide)).mp y))) ?_
        iterate 1 (refine WP.st rfl ?_)
        exact WP.ret rfl ⟨_, _, K, x, rfl, f1, f3, f2, Or.inr ⟨k1, rfl, by rw [if_neg z]; rfl⟩, rfl⟩
end
section
/-! Witness: adopt, shrinkTo, sees -/
theorem wv_ext {p : Int} {r : Nat} {a a' R : Nat → Nat → Int} {l : Nat → Nat} (hr : r ≤ 16) (h : wv p r a R l) (he : ∀ j, j < r → a j = a' j) : wv p r a' R l := by
  obtain ⟨a1, a2, a3, a4, a5, a6, a7⟩ := h
  refine ⟨a1, a2, a3, a4, fun i hi c hc => ?_, a6, a7⟩
  have e : mk (R i) a' c = mk (R i) a c := sm_congr 16 (fun j hj => by
    by_cases z : j < r
    · rw [he j z]
    · rw [a7 i hi j (by omega) hj, Int.zero_mul, Int.zero_mul])
  rw [e]
  exact a5 i hi c hc
def kr (p : Int) (r : Nat) (x : Nat → Int) (u : Int) : Nat → Int := fun c => ((if c = 17 + r then 1 else x c) * u) % p
theorem wv_keep {p : Int} (hp : pm p) {r k : Nat} {a R : Nat → Nat → Int} {l : Nat → Nat} {t x : Nat → Int} {u z : Int} (hr : r < 16) (hw : wv p r a R l) (h : lv p r r a l t x) (hk : k < 16) (hx : x k ≠ 0) (hu : u * x k = 1 + z * p) : wv p (r + 1) (beh a r t) (fun i => if i < r then R i else kr p r x u) (fun i => if i < r then l i else k) := by
  have p1 := hp.1
  obtain ⟨a1, a2, a3, a4, a5, a6, a7⟩ := wv_ext (a' := beh a r t) (by omega) hw (fun j hj => (if_pos hj).symm)
  obtain ⟨h1, h2, h3, h4⟩ := h
  refine ⟨fun i hi => ?_, fun i hi c hc => ?_, fun i hi => ?_, fun i j hij hj => ?_, fun i hi c hc => ?_, fun i hi => ?_, fun i hi j h5 h6 => ?_⟩
  all_goals (try dsimp only)
  · by_cases e : i < r
    · rw [if_pos e]; exact a1 i e
    · rw [if_neg e]; exact hk
  · by_cases e : i < r
    · rw [if_pos e]; exact a2 i e c hc
    · rw [if_neg e]
      exact ⟨Int.emod_nonneg _ (by omega), Int.emod_lt_of_pos _ (by omega)⟩
  · by_cases e : i < r
    · rw [if_pos e, if_pos e]; exact a3 i e
    · rw [if_neg e, if_neg e]
      unfold kr
      rw [if_neg (by omega), Int.mul_comm, hu, Int.add_mul_emod_self_right]
      exact Int.emod_eq_of_lt (by omega) (by omega)
  · by_cases e : j < r
    · rw [if_pos e, if_pos (show i < r by omega)]; exact a4 i j hij e
    · rw [if_neg e, if_pos (show i < r by omega)]
      unfold kr
      have := a1 i (by omega)
      rw [if_neg (by omega), h2 i (by omega), Int.zero_mul]
      rfl
  · by_cases e : i < r
    · rw [if_pos e]; exact a5 i e c hc
    · rw [if_neg e]
      obtain ⟨z1, hz1⟩ := h3 c hc
      have cg : ∀ c, p ∣ (if c = 17 + r then 1 else x c) * u - kr p r x u c := fun c => Int.dvd_self_sub_emod
      obtain ⟨z2, hz2⟩ := cg c
      rw [if_neg (by omega)] at hz2
      obtain ⟨z3, hz3⟩ := sm_dm (p := p) (f := fun j => ((if 17 + j = 17 + r then 1 else x (17 + j)) * u) * beh a r t j c) (g := fun j => kr p r x u (17 + j) * beh a r t j c) 16 (fun j hj => by
        obtain ⟨y, hy⟩ := cg (17 + j)
        exact ⟨y * beh a r t j c, by rw [← Int.sub_mul, hy]; grind⟩)
      have e1 : sm (fun j => ((if 17 + j = 17 + r then 1 else x (17 + j)) * u) * beh a r t j c) 16 = u * (mk x a c + t c) := by
        rw [sm_cut (m := r + 1) 16 (by omega) (fun j h5 h6 => by rw [if_neg (by omega), h4 j (by omega) h6, Int.zero_mul, Int.zero_mul])]
        show sm _ r + ((if 17 + r = 17 + r then 1 else x (17 + r)) * u) * beh a r t r c = _
        rw [if_pos rfl]
        rw [show mk x a c = sm (fun j => x (17 + j) * a j c) r from sm_cut 16 (by omega) (fun j h5 h6 => by rw [h4 j h5 h6]; exact Int.zero_mul _)]
        rw [sm_congr (g := fun j => u * (x (17 + j) * a j c)) r (fun j hj => by rw [if_neg (by omega)]; unfold beh; rw [if_pos hj]; grind), sm_mul]
        unfold beh
        rw [if_neg (show ¬ r < r by omega)]
        grind
      rw [e1] at hz3
      refine ⟨u * z1 + z2 - z3, ?_⟩
      show sm (fun j => kr p r x u (17 + j) * beh a r t j c) 16 - kr p r x u c = _
      grind
  · by_cases e : i < r
    · rw [if_pos e]; exact a6 i e
    · rw [if_neg e]
      obtain rfl : i = r := by omega
      unfold kr
      rw [if_pos rfl, Int.one_mul]
      intro hd
      have hd2 : p ∣ u := by
        obtain ⟨y, hy⟩ := hd
        have := Int.mul_ediv_add_emod u p
        exact ⟨u / p + y, by rw [hy] at this; grind⟩
      obtain ⟨y, hy⟩ := hd2
      have : p ∣ 1 := ⟨y * x k - z, by rw [hy] at hu; grind⟩
      have := Int.eq_one_of_dvd_one (by omega) this
      omega
  · by_cases e : i < r
    · rw [if_pos e]; exact a7 i e j h5 h6
    · rw [if_neg e]
      obtain rfl : i = r := by omega
      unfold kr
      rw [if_neg (by omega), h4 j (by omega) h6, Int.zero_mul]
      rfl
set_option maxHeartbeats 4000000 in
set_option maxRecDepth 20000 in
theorem sp_keepRow (L : Nat) (I : Nat → Nat → Int32) (J : Nat → Nat → Int64) (w : Nat → Nat) (b : Nat) (hb : isW b) (p : Int) (hpp : pm p) (hpr : J b 0 = zJ p) (p3 : p < 2 ^ 31) (r k : Nat) (hr : r < 16) (hrk : I b 3 = nI r) (hk : k < 16) (hld : I b 6 = nI k) (x : Nat → Int) (hx : ∀ c, c < 33 → J (b + 19) c = zJ (x c) ∧ 0 ≤ x c ∧ x c < p) (hxk : x k ≠ 0) : SP m_Wi_keepRow [.ref b] (hp L I J w) (fun r' h => r' = none ∧ ∃ (u z : Int) (J' : Nat → Nat → Int64), u * x k = 1 + z * p ∧ (∀ c, c ≠ b + 19 → c ≠ b + 2 + r → J' c = J c) ∧ (∀ c, c < 33 → J' (b + 2 + r) c = zJ (kr p r x u c)) ∧ h = hp L (mm_up I (b + 18) r (nI k)) J' w) := by
  have p2 := hpp.1
  have l19 : Nat.ble (LL L (b + 19)) 2560 = true := by rw [(isW_L hb).2.2]; rfl
  have l18 : Nat.ble (LL L (b + 18)) 2560 = true := by rw [(isW_L hb).2.1]; rfl
  have l1 : Nat.ble (LL L (b + 1)) 2560 = true := by rw [(isW_L hb).1]; rfl
  have li := isW_i (L := L) w hb (show r < 16 by omega)
  unfold SP
  iterate 1 (refine WP.st rfl ?_)
  refine WP.get (v := .ref (b + 19)) rfl rfl ((isW_K hb).1) (congrArg mm_rv (isW_R w hb).2.2) ?_
  iterate 2 (refine WP.st rfl ?_)
  refine WP.get (v := .int (nI r)) rfl rfl ((isW_K hb).1) (congrArg Value.int hrk) ?_
  iterate 2 (refine WP.st rfl ?_)
  refine WP.last (k := 17 + r) rfl (by rw [show ((Int8.ofInt 17).toInt32 : Int32) = nI 17 from rfl, nI_add]) ((isW_K hb).2.2.2) (show 17 + r < LL L (b + 19) by rw [(isW_L hb).2.2]; omega) (l19) ?_
  iterate 1 (refine WP.st rfl ?_)
  refine WP.get (v := .ref (b + 19)) rfl rfl ((isW_K hb).1) (congrArg mm_rv (isW_R w hb).2.2) ?_
  iterate 1 (refine WP.st rfl ?_)
  refine WP.get (v := .int (nI k)) rfl rfl ((isW_K hb).1) (congrArg Value.int hld) ?_
  refine WP.lald (k := k) rfl (rfl) (Or.inl (isW_K hb).2.2.2) (show k < LL L (b + 19) by rw [(isW_L hb).2.2]; omega) (l19) ?_
  have hy : ∀ c, c < 33 → mm_up J (b + 19) (17 + r) (zJ 1) (b + 19) c = zJ (if c = 17 + r then 1 else x c) := fun c hc => by
    by_cases e : c = 17 + r
    · rw [e, if_pos rfl]; exact mm_up_at J _ _ _
    · rw [if_neg e]; exact (up_nk J _ e).trans (hx c hc).1
  have hfr : ∀ c, c ≠ b + 19 → mm_up J (b + 19) (17 + r) (zJ 1) c = J c := fun c hc => up_ne J _ hc
  rw [show hJ (putJ (hp L I J w) (b + 19) (17 + r) (Int64.ofNat ((1 : Fin 2) : Nat))) (b + 19) k = zJ (x k) from (hy k (by omega)).trans (by rw [if_neg (by omega)])]
  rw [show putJ (hp L I J w) (b + 19) (17 + r) (Int64.ofNat ((1 : Fin 2) : Nat)) = hp L I (mm_up J (b + 19) (17 + r) (zJ 1)) w from rfl]
  generalize mm_up J (b + 19) (17 + r) (zJ 1) = J1 at hy hfr ⊢
  have hp1 : J1 b 0 = zJ p := by rw [hfr b (by omega)]; exact hpr
  obtain ⟨u, u0, u1, ⟨z, hz⟩, hev⟩ := ev_inv (hp L I J1 w) (x k) p (by have := hx k (by omega); omega) (by have := hx k (by omega); omega) p3 (pm_gcd hpp (fun hd => hxk (nz_dvd (hx k (by omega)).2.1 (hx k (by omega)).2.2 hd)))
  iterate 1 (refine WP.st rfl ?_)
  refine WP.get (v := .long (zJ p)) rfl rfl ((isW_K hb).1) (congrArg Value.long hp1) ?_
  refine WP.calle rfl rfl (hev) ?_
  iterate 5 (refine WP.st rfl ?_)
  refine WP.inv (fun i (K : Nat → Nat → Int64) => (35, [some (.ref b), some (.long (zJ u)), none, some (.int (nI i))], [.int (nI 33), .int (nI i)], hp L I K w, 0, 0)) (fun i K => (∀ c, c ≠ b + 2 + r → K c = J1 c) ∧ ∀ c, c < i → K (b + 2 + r) c = zJ (kr p r x u c)) 33 J1 ⟨fun _ _ => rfl, fun c hc => absurd hc (Nat.not_lt_zero c)⟩ (fun i K hi hv kk => ?_) (fun K hv => ?_)
  · have hp2 : K b 0 = zJ p := by rw [hv.1 b (by omega)]; exact hp1
    have hyi : K (b + 19) i = zJ (if i = 17 + r then 1 else x i) := by rw [hv.1 (b + 19) (by omega)]; exact hy i hi
    have hb0 : 0 ≤ (if i = 17 + r then 1 else x i) ∧ (if i = 17 + r then 1 else x i) < p := by
      split
      · omega
      · exact (hx i hi).2
    have U0 : 0 ≤ (if i = 17 + r then 1 else x i) * u := Int.mul_nonneg hb0.1 u0
    have U1 : (if i = 17 + r then 1 else x i) * u ≤ (2 ^ 31 - 2) * (2 ^ 31 - 1) := Int.mul_le_mul (by omega) (by omega) (by omega) (by omega)
    refine WP.icf rfl (nI_ge hi (by omega)) ?_
    iterate 1 (refine WP.st rfl ?_)
    refine WP.get (v := .ref (b + 1)) rfl rfl ((isW_K hb).1) (congrArg mm_rv (isW_R w hb).1) ?_
    iterate 1 (refine WP.st rfl ?_)
    refine WP.get (v := .int (nI r)) rfl rfl ((isW_K hb).1) (congrArg Value.int hrk) ?_
    refine WP.aald (k := r) rfl (rfl) (Or.inr (Or.inr (Or.inr (isW_K hb).2.1))) (show r < LL L (b + 1) by rw [(isW_L hb).1]; omega) (l1) (li.1) ?_
    iterate 2 (refine WP.st rfl ?_)
    refine WP.get (v := .ref (b + 19)) rfl rfl ((isW_K hb).1) (congrArg mm_rv (isW_R w hb).2.2) ?_
    iterate 1 (refine WP.st rfl ?_)
    refine WP.lald (k := i) rfl (rfl) (Or.inl (isW_K hb).2.2.2) (show i < LL L (b + 19) by rw [(isW_L hb).2.2]; omega) (l19) ?_
    rw [show hJ (hp L I K w) (b + 19) i = zJ (if i = 17 + r then 1 else x i) from hyi]
    iterate 2 (refine WP.st rfl ?_)
    rw [zJ_mul]
    iterate 1 (refine WP.st rfl ?_)
    refine WP.get (v := .long (zJ p)) rfl rfl ((isW_K hb).1) (congrArg Value.long hp2) ?_
    refine WP.calle rfl rfl (ev_rem _ ((if i = 17 + r then 1 else x i) * u) p (by omega) (by omega) (by omega) (by omega)) ?_
    refine WP.last (k := i) rfl (rfl) (li.2.1) (show i < LL L (b + 2 + r) by rw [li.2.2]; omega) (show Nat.ble (LL L (b + 2 + r)) 2560 = true by rw [li.2.2]; rfl) ?_
    iterate 4 (refine WP.st rfl ?_)
    have kk2 := kk (mm_up K (b + 2 + r) i (zJ (kr p r x u i))) ⟨fun c hc => (up_ne K _ hc).trans (hv.1 c hc), fun c hc => by
      by_cases e : c = i
      · rw [e]; exact mm_up_at K _ _ _
      · exact (up_nk K _ e).trans (hv.2 c (by omega))⟩
    rw [nI_succ] at kk2
    exact kk2
  · skip
    refine WP.ict rfl (nI_le (Nat.le_refl _) (by omega)) ?_
    iterate 1 (refine WP.st rfl ?_)
    refine WP.get (v := .ref (b + 18)) rfl rfl ((isW_K hb).1) (congrArg mm_rv (isW_R w hb).2.1) ?_
    iterate 1 (refine WP.st rfl ?_)
    refine WP.get (v := .int (nI r)) rfl rfl ((isW_K hb).1) (congrArg Value.int hrk) ?_
    iterate 1 (refine WP.st rfl ?_)
    refine WP.get (v := .int (nI k)) rfl rfl ((isW_K hb).1) (congrArg Value.int hld) ?_
    refine WP.iast (k := r) rfl (rfl) ((isW_K hb).2.2.1) (show r < LL L (b + 18) by rw [(isW_L hb).2.1]; omega) (l18) ?_
    exact WP.ret rfl ⟨rfl, u, z, K, hz, fun c h1 h2 => (hv.1 c h2).trans (hfr c h1), hv.2, rfl⟩
/-- blind at bl -/
def WB (I : Nat → Nat → Int32) (J : Nat → Nat → Int64) (b : Nat) (p : Int) (a : Nat → Nat → Int) (r bl : Nat) : Prop := I b 4 = nI bl ∧ bl < r ∧ (∃ R l, wv p bl a R l ∧ WR I J b bl R l) ∧ ¬ imd p 16 (bl + 1) a
/-- a witness that has taken in r rows -/
def WF (I : Nat → Nat → Int32) (J : Nat → Nat → Int64) (b : Nat) (p : Int) (a : Nat → Nat → Int) (r : Nat) : Prop := J b 0 = zJ p ∧ I b 3 = nI r ∧ ((∃ bl, WB I J b p a r bl) ∨ (I b 4 = nI 16 ∧ ∃ R l, wv p r a R l ∧ WR I J b r R l))
/-- not blind, and it has looked at t -/
def WL (I : Nat → Nat → Int32) (J : Nat → Nat → Int64) (b : Nat) (p : Int) (a : Nat → Nat → Int) (r : Nat) (t x : Nat → Int) : Prop := I b 4 = nI 16 ∧ ∃ R l, wv p r a R l ∧ WR I J b r R l ∧ lv p r r a l t x ∧ (∀ c, c < 33 → J (b + 19) c = zJ (x c)) ∧ ((∃ k, k < 16 ∧ x k ≠ 0 ∧ I b 6 = nI k) ∨ ((∀ k, k < 16 → x k = 0) ∧ I b 6 = -1))
def LK (I : Nat → Nat → Int32) (J : Nat → Nat → Int64) (b : Nat) (p : Int) (a : Nat → Nat → Int) (r : Nat) (t x : Nat → Int) : Prop := J b 0 = zJ p ∧ I b 3 = nI r ∧ ((∃ bl, WB I J b p a r bl) ∨ WL I J b p a r t x)
theorem WR_le {I : Nat → Nat → Int32} {J : Nat → Nat → Int64} {b g g' : Nat} {R : Nat → Nat → Int} {l : Nat → Nat} (h : WR I J b g R l) (hg : g' ≤ g) : WR I J b g' R l := ⟨fun i hi => h.1 i (by omega), fun i hi => h.2 i (by omega)⟩
/-- the parts of the heap that a witness is -/
theorem WF_ext {I I' : Nat → Nat → Int32} {J J' : Nat → Nat → Int64} {b : Nat} {p : Int} {a : Nat → Nat → Int} {r : Nat} (h : WF I J b p a r) (hI : ∀ c, b ≤ c → c ≤ b + 19 → I' c = I c) (hJ : ∀ c, b ≤ c → c ≤ b + 18 → J' c = J c) (hr : r ≤ 16) : WF I' J' b p a r := by
  have wr : ∀ g R l, g ≤ 16 → WR I J b g R l → WR I' J' b g R l := fun g R l hg q => ⟨fun i hi c hc => by rw [hJ (b + 2 + i) (by omega) (by omega)]; exact q.1 i hi c hc, fun i hi => by rw [hI (b + 18) (by omega) (by omega)]; exact q.2 i hi⟩
  obtain ⟨h1, h2, h3⟩ := h
  refine ⟨by rw [hJ b (by omega) (by omega)]; exact h1, by rw [hI b (by omega) (by omega)]; exact h2, ?_⟩
  rcases h3 with ⟨bl, b1, b2, ⟨R, l, q1, q2⟩, b4⟩ | ⟨b1, R, l, q1, q2⟩
  · exact Or.inl ⟨bl, by rw [hI b (by omega) (by omega)]; exact b1, b2, ⟨R, l, q1, wr bl R l (by omega) q2⟩, b4⟩
  · exact Or.inr ⟨by rw [hI b (by omega) (by omega)]; exact b1, R, l, q1, wr r R l hr q2⟩
theorem LK_ext {I I' : Nat → Nat → Int32} {J J' : Nat → Nat → Int64} {b : Nat} {p : Int} {a : Nat → Nat → Int} {r : Nat} {t x : Nat → Int} (h : LK I J b p a r t x) (hI : ∀ c, b ≤ c → c ≤ b + 19 → I' c = I c) (hJ : ∀ c, b ≤ c → c ≤ b + 19 → J' c = J c) (hr : r ≤ 16) : LK I' J' b p a r t x := by
  have wr : ∀ g R l, g ≤ 16 → WR I J b g R l → WR I' J' b g R l := fun g R l hg q => ⟨fun i hi c hc => by rw [hJ (b + 2 + i) (by omega) (by omega)]; exact q.1 i hi c hc, fun i hi => by rw [hI (b + 18) (by omega) (by omega)]; exact q.2 i hi⟩
  have eb := hI b (by omega) (by omega)
  obtain ⟨h1, h2, h3⟩ := h
  refine ⟨by rw [hJ b (by omega) (by omega)]; exact h1, by rw [eb]; exact h2, ?_⟩
  rcases h3 with ⟨bl, b1, b2, ⟨R, l, q1, q2⟩, b4⟩ | ⟨b1, R, l, q1, q2, q3, q4, q5⟩
  · exact Or.inl ⟨bl, by rw [eb]; exact b1, b2, ⟨R, l, q1, wr bl R l (by omega) q2⟩, b4⟩
  · exact Or.inr ⟨by rw [eb]; exact b1, R, l, q1, wr r R l hr q2, q3, fun c hc => by rw [hJ (b + 19) (by omega) (by omega)]; exact q4 c hc, by rw [eb]; exact q5⟩
set_option maxHeartbeats 4000000 in
set_option maxRecDepth 20000 in
theorem sp_adopt (L : Nat) (I : Nat → Nat → Int32) (J : Nat → Nat → Int64) (w : Nat → Nat) (b : Nat) (hb : isW b) (p : Int) (hpp : pm p) (p3 : p < 2 ^ 31) (r : Nat) (hr : r < 16) (a : Nat → Nat → Int) (t x : Nat → Int) (h : LK I J b p a r t x) : SP m_Wi_adopt [.ref b] (hp L I J w) (fun r' h => r' = none ∧ ∃ (I' : Nat → Nat → Int32) (J' : Nat → Nat → Int64), FR b (b + 19) I J I' J' ∧ WF I' J' b p (beh a r t) (r + 1) ∧ h = hp L I' J' w) := by
  obtain ⟨h1, h2, h3⟩ := h
  have ag : ∀ g, g ≤ r → ∀ j, j < g → a j = beh a r t j := fun g hg j hj => (if_pos (by omega)).symm
  have frI : ∀ (f : Nat → Nat → Int32) (k : Nat) (v : Int32), FR b (b + 19) f J (mm_up f b k v) J := fun f k v c hc => ⟨up_ne f v (by omega), rfl⟩
  unfold SP
  iterate 1 (refine WP.st rfl ?_)
  refine WP.get (v := .int (I b 3)) rfl rfl ((isW_K hb).1) (rfl) ?_
  iterate 1 (refine WP.st rfl ?_)
  refine WP.ict rfl (show I b 3 < nI 16 by rw [h2]; exact nI_lt hr (by omega)) ?_
  iterate 1 (refine WP.st rfl ?_)
  refine WP.cve rfl rfl rfl rfl rfl ((isW_K hb).1) rfl rfl rfl (ev_isBlind L I J w b hb) ?_
  rcases h3 with ⟨bl, b1, b2, ⟨R, l, q1, q2⟩, b4⟩ | ⟨b1, R, l, q1, q2, q3, q4, q5⟩
  · rw [if_pos (show I b 4 < I b 3 by rw [b1, h2]; exact nI_lt b2 (by omega))]
    refine WP.ift rfl (show ¬ (1 : Int32) = 0 by decide) ?_
    iterate 2 (refine WP.st rfl ?_)
    refine WP.get (v := .int (I b 3)) rfl rfl ((isW_K hb).1) (rfl) ?_
    iterate 2 (refine WP.st rfl ?_)
    refine WP.pfI rfl rfl ((isW_K hb).1) rfl rfl ?_
    refine WP.ret rfl ⟨rfl, _, J, frI I 3 _, ⟨h1, (mm_up_at I b 3 _).trans (by rw [h2]; exact (nI_succ r).symm), Or.inl ⟨bl, (up_nk I _ (by decide)).trans b1, by omega, ⟨R, l, wv_ext (by omega) q1 (ag bl (by omega)), ?_⟩, fun z => b4 (imd_congr (fun i hi c _ => by rw [ag (bl + 1) (by omega) i hi]) z)⟩⟩, rfl⟩
    exact ⟨q2.1, fun i hi => by rw [up_ne I _ (by omega)]; exact q2.2 i hi⟩
  · skip
    rw [if_neg (show ¬ I b 4 < I b 3 by rw [b1, h2]; exact nI_nlt (by omega) (by omega))]
    refine WP.iff rfl (fun z => z rfl) ?_
    iterate 1 (refine WP.st rfl ?_)
    refine WP.get (v := .int (I b 6)) rfl rfl ((isW_K hb).1) (rfl) ?_
    iterate 1 (refine WP.st rfl ?_)
    rcases q5 with ⟨k, k1, k2, k3⟩ | ⟨k1, k3⟩
    · refine WP.ict rfl (show ¬ I b 6 = -1 by rw [k3]; exact fun z => by have := congrArg Int32.toInt z; rw [nI_zI, zI_int (by omega) (by omega)] at this; have e : (-1 : Int32).toInt = -1 := rfl; omega) ?_
      iterate 1 (refine WP.st rfl ?_)
      refine WP.cv rfl rfl rfl rfl rfl ((isW_K hb).1) rfl rfl rfl (sp_keepRow L I J w b hb p hpp h1 p3 r k hr h2 k1 k3 x (fun c hc => ⟨q4 c hc, q3.1 c hc⟩) k2) ?_
      rintro _ _ ⟨rfl, u, z, K, hu, f1, f2, rfl⟩
      iterate 2 (refine WP.st rfl ?_)
      refine WP.get (v := .int (nI r)) rfl rfl ((isW_K hb).1) (congrArg Value.int ((congrFun (up_ne I (nI k) (show b ≠ b + 18 by omega)) 3).trans h2)) ?_
      iterate 2 (refine WP.st rfl ?_)
      refine WP.pfI rfl rfl ((isW_K hb).1) rfl rfl ?_
      refine WP.ret rfl ⟨rfl, _, K, fun c hc => ⟨(up_ne _ _ (by omega)).trans (up_ne I _ (by omega)), f1 c (by omega) (by omega)⟩, ⟨by rw [f1 b (by omega) (by omega)]; exact h1, (mm_up_at _ b 3 _).trans (nI_succ r).symm, Or.inr ⟨(up_nk _ _ (by decide)).trans ((congrFun (up_ne I _ (by omega)) 4).trans b1), _, _, wv_keep hpp hr q1 q3 k1 k2 hu, fun i hi c hc => ?_, fun i hi => ?_⟩⟩, rfl⟩
      · dsimp only
        by_cases e : i < r
        · rw [if_pos e, f1 (b + 2 + i) (by omega) (by omega)]
          exact q2.1 i e c hc
        · rw [if_neg e, show i = r by omega]
          exact f2 c hc
      · dsimp only
        rw [up_ne _ _ (show b + 18 ≠ b by omega)]
        by_cases e : i < r
        · rw [if_pos e]
          exact (up_nk I _ (by omega)).trans (q2.2 i e)
        · rw [if_neg e, show i = r by omega]
          exact mm_up_at I _ _ _
    · skip
      refine WP.icf rfl (fun z => z k3) ?_
      iterate 2 (refine WP.st rfl ?_)
      refine WP.get (v := .int (I b 3)) rfl rfl ((isW_K hb).1) (rfl) ?_
      refine WP.pfI rfl rfl ((isW_K hb).1) rfl rfl ?_
      iterate 3 (refine WP.st rfl ?_)
      refine WP.get (v := .int (nI r)) rfl rfl ((isW_K hb).1) (congrArg Value.int ((up_nk I (I b 3) (show 3 ≠ 4 by decide)).trans h2)) ?_
      iterate 2 (refine WP.st rfl ?_)
      refine WP.pfI rfl rfl ((isW_K hb).1) rfl rfl ?_
      refine WP.ret rfl ⟨rfl, _, J, fun c hc => ⟨(up_ne _ _ (by omega)).trans (up_ne I _ (by omega)), rfl⟩, ⟨h1, (mm_up_at _ b 3 _).trans (nI_succ r).symm, Or.inl ⟨r, (up_nk _ _ (by decide)).trans ((mm_up_at I b 4 _).trans h2), by omega, ⟨R, l, wv_ext (by omega) q1 (ag r (by omega)), q2.1, fun i hi => ?_⟩, lv_dep hpp (by omega) (by omega) q3 k1⟩⟩, rfl⟩
      dsimp only
      rw [up_ne _ _ (show b + 18 ≠ b by omega), up_ne I _ (show b + 18 ≠ b by omega)]
      exact q2.2 i hi
set_option maxHeartbeats 4000000 in
set_option maxRecDepth 20000 in
theorem sp_wshrink (L : Nat) (I : Nat → Nat → Int32) (J : Nat → Nat → Int64) (w : Nat → Nat) (b : Nat) (hb : isW b) (p : Int) (r r' : Nat) (hr : r ≤ 16) (hr' : r' ≤ r) (a : Nat → Nat → Int) (h : WF I J b p a r) : SP m_Wi_shrinkTo [.ref b, .int (nI r')] (hp L I J w) (fun v h => v = none ∧ ∃ I' : Nat → Nat → Int32, FR b (b + 19) I J I' J ∧ WF I' J b p a r' ∧ h = hp L I' J w) := by
  obtain ⟨h1, h2, h3⟩ := h
  unfold SP
  iterate 2 (refine WP.st rfl ?_)
  refine WP.pfI rfl rfl ((isW_K hb).1) rfl rfl ?_
  iterate 1 (refine WP.st rfl ?_)
  refine WP.get (v := .int (I b 4)) rfl rfl ((isW_K hb).1) (congrArg Value.int (up_nk I (nI r') (show 4 ≠ 3 by decide))) ?_
  iterate 1 (refine WP.st rfl ?_)
  refine WP.get (v := .int (nI r')) rfl rfl ((isW_K hb).1) (congrArg Value.int (mm_up_at I b 3 (nI r'))) ?_
  have fr1 : FR b (b + 19) I J (mm_up I b 3 (nI r')) J := fun c hc => ⟨up_ne I _ (by omega), rfl⟩
  have wr : ∀ g R l, WR I J b g R l → WR (mm_up I b 3 (nI r')) J b g R l := fun g R l q => ⟨q.1, fun i hi => by rw [up_ne I _ (show b + 18 ≠ b by omega)]; exact q.2 i hi⟩
  have wr2 : ∀ g R l, WR I J b g R l → WR (mm_up (mm_up I b 3 (nI r')) b 4 (nI 16)) J b g R l := fun g R l q => ⟨q.1, fun i hi => by rw [up_ne _ _ (show b + 18 ≠ b by omega), up_ne I _ (show b + 18 ≠ b by omega)]; exact q.2 i hi⟩
  have fr2 : FR b (b + 19) I J (mm_up (mm_up I b 3 (nI r')) b 4 (nI 16)) J := fun c hc => ⟨(up_ne _ _ (by omega)).trans (up_ne I _ (by omega)), rfl⟩
  rcases h3 with ⟨bl, b1, b2, ⟨R, l, q1, q2⟩, b4⟩ | ⟨b1, R, l, q1, q2⟩
  · by_cases e : bl < r'
    · refine WP.ict rfl (show I b 4 < nI r' by rw [b1]; exact nI_lt e (by omega)) ?_
      exact WP.ret rfl ⟨rfl, _, fr1, ⟨h1, mm_up_at I b 3 _, Or.inl ⟨bl, (up_nk I _ (by decide)).trans b1, e, ⟨R, l, q1, wr bl R l q2⟩, b4⟩⟩, rfl⟩
    · skip
      refine WP.icf rfl (show ¬ I b 4 < nI r' by rw [b1]; exact nI_nlt (by omega) (by omega)) ?_
      iterate 2 (refine WP.st rfl ?_)
      refine WP.pfI rfl rfl ((isW_K hb).1) rfl rfl ?_
      exact WP.ret rfl ⟨rfl, _, fr2, ⟨h1, (up_nk _ _ (by decide)).trans (mm_up_at I b 3 _), Or.inr ⟨mm_up_at _ b 4 _, R, l, wv_le q1 (by omega), wr2 r' R l (WR_le q2 (by omega))⟩⟩, rfl⟩
  · skip
    refine WP.icf rfl (show ¬ I b 4 < nI r' by rw [b1]; exact nI_nlt (by omega) (by omega)) ?_
    iterate 2 (refine WP.st rfl ?_)
    refine WP.pfI rfl rfl ((isW_K hb).1) rfl rfl ?_
    exact WP.ret rfl ⟨rfl, _, fr2, ⟨h1, (up_nk _ _ (by decide)).trans (mm_up_at I b 3 _), Or.inr ⟨mm_up_at _ b 4 _, R, l, wv_le q1 hr', wr2 r' R l (WR_le q2 hr')⟩⟩, rfl⟩
theorem ev_sees (L : Nat) (I : Nat → Nat → Int32) (J : Nat → Nat → Int64) (w : Nat → Nat) (b : Nat) (hb : isW b) (i : Nat) (hi : i < 16) (x : Int) (hx : J (b + 19) (17 + i) = zJ x) (x0 : 0 ≤ x) (x1 : x < 2 ^ 31) : EV m_Wi_sees [.ref b, .int (nI i)] (hp L I J w) (some (.int (if x = 0 then 0 else 1))) (hp L I J w) := by
  obtain ⟨r, h, e, q⟩ : SP m_Wi_sees [.ref b, .int (nI i)] (hp L I J w) (fun r h => r = some (.int (if x = 0 then 0 else 1)) ∧ h = hp L I J w) := by
    unfold SP
    iterate 1 (refine WP.st rfl ?_)
    refine WP.get (v := .ref (b + 19)) rfl rfl ((isW_K hb).1) (congrArg mm_rv (isW_R w hb).2.2) ?_
    iterate 3 (refine WP.st rfl ?_)
    refine WP.lald (k := 17 + i) rfl (by rw [show ((Int8.ofInt 17).toInt32 : Int32) = nI 17 from rfl, nI_add]) (Or.inl (isW_K hb).2.2.2) (show 17 + i < LL L (b + 19) by rw [(isW_L hb).2.2]; omega) (show Nat.ble (LL L (b + 19)) 2560 = true by rw [(isW_L hb).2.2]; rfl) ?_
    rw [show hJ (hp L I J w) (b + 19) (17 + i) = zJ x from hx]
    iterate 2 (refine WP.st rfl ?_)
    by_cases z : x = 0
    · refine WP.ift rfl (lc_eq.mpr (by rw [z]; rfl)) ?_
      iterate 1 (refine WP.st rfl ?_)
      rw [if_pos z]
      exact WP.ret rfl ⟨rfl, rfl⟩
    · skip
      refine WP.iff rfl (fun y => z ((zJ_eq (by omega) (by omega) (by decide) (by decide)).mp (lc_eq.mp y))) ?_
      iterate 2 (refine WP.st rfl ?_)
      rw [if_neg z]
      exact WP.ret rfl ⟨rfl, rfl⟩
  obtain ⟨rfl, rfl⟩ := q
  exact e
end
section
/-! Judge: what the three witnesses say -/
noncomputable def bI (P : Prop) : Int32 := @ite _ P (Classical.propDecidable P) 1 0
theorem bI_t {P : Prop} (h : P) : bI P = 1 := by unfold bI; exact if_pos h
theorem bI_f {P : Prop} (h : ¬ P) : bI P = 0 := by unfold bI; exact if_neg h
theorem bI_c {P Q : Prop} (h : P ↔ Q) : bI P = bI Q := by rw [propext h]
theorem bI_or1 (P : Prop) : bI P ||| 1 = 1 := by
  by_cases h : P
  · rw [bI_t h]; decide
  · rw [bI_f h]; decide
theorem bI_or0 (P : Prop) : bI P ||| 0 = bI P := by
  by_cases h : P
  · rw [bI_t h]; decide
  · rw [bI_f h]; decide
theorem ex_s {P : Nat → Prop} (i : Nat) : (∃ j, j < i + 1 ∧ P j) ↔ (∃ j, j < i ∧ P j) ∨ P i := by
  constructor
  · rintro ⟨j, h1, h2⟩
    by_cases e : j = i
    · subst e; exact Or.inr h2
    · exact Or.inl ⟨j, by omega, h2⟩
  · rintro (⟨j, h1, h2⟩ | h)
    · exact ⟨j, by omega, h2⟩
    · exact ⟨i, by omega, h⟩
theorem bI_s1 {P : Nat → Prop} {i : Nat} (h : P i) : bI (∃ j, j < i + 1 ∧ P j) = bI (∃ j, j < i ∧ P j) ||| 1 := by rw [bI_or1]; exact bI_t ⟨i, by omega, h⟩
theorem bI_sn {P : Nat → Prop} {i : Nat} (h : ¬ P i) : bI (∃ j, j < i + 1 ∧ P j) = bI (∃ j, j < i ∧ P j) := by rw [bI_c (ex_s i)]; exact bI_c ⟨fun z => z.elim id (fun z => absurd z h), Or.inl⟩
theorem bI_s0 {P : Nat → Prop} {i : Nat} (h : ¬ P i) : bI (∃ j, j < i + 1 ∧ P j) = bI (∃ j, j < i ∧ P j) ||| 0 := by rw [bI_or0]; exact bI_sn h
/-- the i-th witness sees a new one; it sees a quarrel; it sees the k-th as a part -/
def sN (a : Nat → Nat → Int) (r : Nat) (t : Nat → Int) (j : Nat) : Prop := imd (pc j) 16 (r + 1) (beh a r t)
def sQ (a : Nat → Nat → Int) (r : Nat) (t : Nat → Int) (j : Nat) : Prop := imd (pc j) 16 r a ∧ ¬ imd (pc j) 16 (r + 1) (beh a r t) ∧ imd (pc j) 17 (r + 1) (beh a r t)
def sP (a : Nat → Nat → Int) (r : Nat) (t : Nat → Int) (k j : Nat) : Prop := imd (pc j) 16 r a ∧ imd (pc j) 16 r (wo (beh a r t) k)
theorem imd_beh {p : Int} {D r : Nat} {a : Nat → Nat → Int} {t : Nat → Int} (h : imd p D (r + 1) (beh a r t)) : imd p D r a := imd_congr (fun i hi c _ => by unfold beh; rw [if_pos hi]) (imd_le h (Nat.le_succ r))
theorem three {P Q : Nat → Prop} (hP : ∀ i, i < 3 → ∀ j, j < 3 → i ≠ j → P i ∨ P j) (hQ : ∀ i, i < 3 → ∀ j, j < 3 → i ≠ j → Q i ∨ Q j) : ∃ j, j < 3 ∧ P j ∧ Q j := by
  have p01 := hP 0 (by omega) 1 (by omega) (by omega)
  have p02 := hP 0 (by omega) 2 (by omega) (by omega)
  have p12 := hP 1 (by omega) 2 (by omega) (by omega)
  have q01 := hQ 0 (by omega) 1 (by omega) (by omega)
  have q02 := hQ 0 (by omega) 2 (by omega) (by omega)
  have q12 := hQ 1 (by omega) 2 (by omega) (by omega)
  by_cases h0 : P 0 ∧ Q 0
  · exact ⟨0, by omega, h0⟩
  · by_cases h1 : P 1 ∧ Q 1
    · exact ⟨1, by omega, h1⟩
    · refine ⟨2, by omega, ?_⟩
      grind
theorem pc_see {i j D n : Nat} {A : Nat → Nat → Int} (hi : i < 6) (hj : j < 6) (hij : i ≠ j) (hD : D = 16 ∨ D = 17) (hn : n ≤ 17) (h : srt n A) (hA : ind D n A) : imd (pc i) D n A ∨ imd (pc j) D n A := see hD (pc_pm i) (pc_pm j) (pc_ne i hi j hj hij) (by have := pc_ge i; omega) (by have := pc_ge j; omega) hn h hA
theorem srt_le {n m : Nat} {A : Nat → Nat → Int} (h : srt n A) (hm : m ≤ n) : srt m A := fun i hi => h i (by omega)
theorem srt_a {r : Nat} {a : Nat → Nat → Int} {t : Nat → Int} (h : srt (r + 1) (beh a r t)) : srt r a := fun i hi => by
  have := h i (by omega)
  unfold beh at this
  rw [if_pos hi] at this
  exact this
theorem srt_wo {r : Nat} {A : Nat → Nat → Int} (h : srt (r + 1) A) (k : Nat) : srt r (wo A k) := fun i hi => by
  unfold wo
  by_cases e : i < k
  · simp only [e, if_true]; exact h i (by omega)
  · simp only [e, if_false]; exact h (i + 1) (by omega)
theorem jN {a : Nat → Nat → Int} {r : Nat} {t : Nat → Int} (hr : r ≤ 16) (h : srt (r + 1) (beh a r t)) : (∃ j, j < 3 ∧ sN a r t j) ↔ ind 16 (r + 1) (beh a r t) := by
  constructor
  · rintro ⟨j, _, h1⟩
    exact imd_ind (pc_pm j) h1
  · intro h1
    obtain ⟨j, a1, a2, _⟩ := three (P := sN a r t) (Q := sN a r t) (fun i hi j hj hij => pc_see (by omega) (by omega) hij (Or.inl rfl) (by omega) h h1) (fun i hi j hj hij => pc_see (by omega) (by omega) hij (Or.inl rfl) (by omega) h h1)
    exact ⟨j, a1, a2⟩
theorem jQ {a : Nat → Nat → Int} {r : Nat} {t : Nat → Int} (hr : r ≤ 16) (ha : ind 16 r a) (h : srt (r + 1) (beh a r t)) (hn : ¬ ind 16 (r + 1) (beh a r t)) : (∃ j, j < 3 ∧ sQ a r t j) ↔ ind 17 (r + 1) (beh a r t) := by
  constructor
  · rintro ⟨j, _, h1⟩
    exact imd_ind (pc_pm j) h1.2.2
  · intro h1
    obtain ⟨j, a1, a2, a3⟩ := three (P := fun j => imd (pc j) 16 r a) (Q := fun j => imd (pc j) 17 (r + 1) (beh a r t)) (fun i hi j hj hij => pc_see (by omega) (by omega) hij (Or.inl rfl) (by omega) (srt_a h) ha) (fun i hi j hj hij => pc_see (by omega) (by omega) hij (Or.inr rfl) (by omega) h h1)
    exact ⟨j, a1, a2, fun z => hn (imd_ind (pc_pm j) z), a3⟩
theorem jP {a : Nat → Nat → Int} {r : Nat} {t : Nat → Int} (hr : r ≤ 16) (ha : ind 16 r a) (h : srt (r + 1) (beh a r t)) (k : Nat) : (∃ j, j < 3 ∧ sP a r t k j) ↔ ind 16 r (wo (beh a r t) k) := by
  constructor
  · rintro ⟨j, _, h1⟩
    exact imd_ind (pc_pm j) h1.2
  · intro h1
    exact three (P := fun j => imd (pc j) 16 r a) (Q := fun j => imd (pc j) 16 r (wo (beh a r t) k)) (fun i hi j hj hij => pc_see (by omega) (by omega) hij (Or.inl rfl) (by omega) (srt_a h) ha) (fun i hi j hj hij => pc_see (by omega) (by omega) hij (Or.inl rfl) (by omega) (srt_wo h k) h1)
/-- the sort of t behind a's first r -/
noncomputable def kd (a : Nat → Nat → Int) (r : Nat) (t : Nat → Int) : Nat := @ite _ (ind 16 (r + 1) (beh a r t)) (Classical.propDecidable _) 0 (@ite _ (ind 17 (r + 1) (beh a r t)) (Classical.propDecidable _) 2 1)
theorem kd_0 {a : Nat → Nat → Int} {r : Nat} {t : Nat → Int} (h : ind 16 (r + 1) (beh a r t)) : kd a r t = 0 := by unfold kd; exact if_pos h
theorem kd_2 {a : Nat → Nat → Int} {r : Nat} {t : Nat → Int} (h : ¬ ind 16 (r + 1) (beh a r t)) (h2 : ind 17 (r + 1) (beh a r t)) : kd a r t = 2 := by unfold kd; exact (if_neg h).trans (if_pos h2)
theorem kd_1 {a : Nat → Nat → Int} {r : Nat} {t : Nat → Int} (h : ¬ ind 16 (r + 1) (beh a r t)) (h2 : ¬ ind 17 (r + 1) (beh a r t)) : kd a r t = 1 := by unfold kd; exact (if_neg h).trans (if_neg h2)
theorem kd_le (a : Nat → Nat → Int) (r : Nat) (t : Nat → Int) : kd a r t ≤ 2 := by
  by_cases h : ind 16 (r + 1) (beh a r t)
  · rw [kd_0 h]; omega
  · by_cases h2 : ind 17 (r + 1) (beh a r t)
    · rw [kd_2 h h2]; omega
    · rw [kd_1 h h2]; omega
abbrev ww (i : Nat) : Nat := 16 + 20 * i
theorem ww_is {i : Nat} (h : i < 3) : isW (ww i) := by unfold isW ww; omega
theorem RR_wit (w : Nat → Nat) {i : Nat} (h : i < 3) : RR w 12 i = some (ww i) := by
  have : i = 0 ∨ i = 1 ∨ i = 2 := by omega
  rcases this with rfl | rfl | rfl <;> rfl
/-- the witnesses, behind r rows of a -/
def JW (I : Nat → Nat → Int32) (J : Nat → Nat → Int64) (a : Nat → Nat → Int) (r : Nat) : Prop := ∀ i, i < 3 → WF I J (ww i) (pc i) a r
/-- and they have looked at t -/
def JL (I : Nat → Nat → Int32) (J : Nat → Nat → Int64) (a : Nat → Nat → Int) (r : Nat) (t : Nat → Int) (xs : Nat → Nat → Int) : Prop := ∀ i, i < 3 → LK I J (ww i) (pc i) a r t (xs i)
theorem tT_ext {I I' : Nat → Nat → Int32} {s n : Nat} {nm : Nat → Nat} {fc t : Nat → Int} (h : tT I s n nm fc t) (h0 : I' s = I s) (h1 : I' (s + 1) = I (s + 1)) (h2 : I' (s + 2) = I (s + 2)) : tT I' s n nm fc t := by
  unfold tT at *
  rw [h0, h1, h2]
  exact h
theorem isT_ext {I I' : Nat → Nat → Int32} {s : Nat} {t : Nat → Int} (h : isT I s t) (h0 : I' s = I s) (h1 : I' (s + 1) = I (s + 1)) (h2 : I' (s + 2) = I (s + 2)) : isT I' s t := by
  obtain ⟨n, nm, fc, h⟩ := h
  exact ⟨n, nm, fc, tT_ext h h0 h1 h2⟩
theorem blind_no {I : Nat → Nat → Int32} {J : Nat → Nat → Int64} {b : Nat} {p : Int} {a : Nat → Nat → Int} {r bl : Nat} (h : WB I J b p a r bl) : ¬ imd p 16 r a := fun z => h.2.2.2 (imd_le z h.2.1)
/-- sums lie off the judge's places -/
abbrev offJ (s : Nat) : Prop := s + 2 < 11 ∨ 75 < s
theorem FR_T {I I' : Nat → Nat → Int32} {J J' : Nat → Nat → Int64} {s lo hi : Nat} {t : Nat → Int} (h : isT I s t) (hf : FR lo hi I J I' J') (ho : s + 2 < lo ∨ hi < s) : isT I' s t := isT_ext h (hf s (by omega)).1 (hf (s + 1) (by omega)).1 (hf (s + 2) (by omega)).1
/-- the value that a look answers -/
theorem look_v {p : Int} (hp : pm p) {r : Nat} {a R : Nat → Nat → Int} {l : Nat → Nat} {t x : Nat → Int} {ld v : Int32} (hr : r ≤ 16) (hw : wv p r a R l) (h : lv p r r a l t x) (ho : LO x ld v) : (v = 0 ↔ imd p 16 (r + 1) (beh a r t)) ∧ (v = 2 ↔ imd p 16 r a ∧ ¬ imd p 16 (r + 1) (beh a r t) ∧ imd p 17 (r + 1) (beh a r t)) := by
  rcases ho with ⟨k, k1, k2, -, rfl⟩ | ⟨k1, -, rfl⟩
  · have h1 := lv_new hp hr hw h k1 k2
    exact ⟨⟨fun _ => h1, fun _ => rfl⟩, ⟨fun z => absurd z (by decide), fun z => absurd h1 z.2.1⟩⟩
  · have h1 := lv_dep hp hr (by omega) h k1
    by_cases z : x 16 = 0
    · rw [if_pos z]
      have h2 := lv_dep hp hr (D := 17) (by omega) h (fun k hk => by by_cases e : k = 16; rw [e]; exact z; exact k1 k (by omega))
      exact ⟨⟨fun y => absurd y (by decide), fun y => absurd y h1⟩, ⟨fun y => absurd y (by decide), fun y => absurd y.2.2 h2⟩⟩
    · rw [if_neg z]
      exact ⟨⟨fun y => absurd y (by decide), fun y => absurd y h1⟩, ⟨fun _ => ⟨wv_imd hp hr hw, h1, lv_16 hp hr hw h z⟩, fun _ => rfl⟩⟩
set_option maxHeartbeats 4000000 in
set_option maxRecDepth 20000 in
theorem sp_weigh (L : Nat) (I : Nat → Nat → Int32) (J : Nat → Nat → Int64) (w : Nat → Nat) (s : Nat) (hs : isSum s) (ho : offJ s) (t : Nat → Int) (hT : isT I s t) (r : Nat) (hr : r ≤ 16) (a : Nat → Nat → Int) (hW : JW I J a r) (ha : ind 16 r a) (hS : srt (r + 1) (beh a r t)) : SP m_Ju_weigh [.ref 11, .ref s] (hp L I J w) (fun v h => v = some (.int (nI (kd a r t))) ∧ ∃ (I' : Nat → Nat → Int32) (J' : Nat → Nat → Int64) (xs : Nat → Nat → Int), FR 16 75 I J I' J' ∧ JL I' J' a r t xs ∧ h = hp L I' J' w) := by
  unfold SP
  iterate 14 (refine WP.st rfl ?_)
  have key := WP.inv (mid := m_Ju_weigh) (Q := fun v h => v = some (.int (nI (kd a r t))) ∧ ∃ (I' : Nat → Nat → Int32) (J' : Nat → Nat → Int64) (xs : Nat → Nat → Int), FR 16 75 I J I' J' ∧ JL I' J' a r t xs ∧ h = hp L I' J' w) (fun i (σ : (Nat → Nat → Int32) × (Nat → Nat → Int64) × Option Value × Option Value) => (22, [some (.ref 11), some (.ref s), some (.int (bI (∃ j, j < i ∧ sQ a r t j))), some (.int (bI (∃ j, j < i ∧ sN a r t j))), some (.ref 12), some (.int (nI 3)), some (.int (nI i)), σ.2.2.1, σ.2.2.2], [.int (nI 3), .int (nI i)], hp L σ.1 σ.2.1 w, 0, 0)) (fun i σ => FR 16 75 I J σ.1 σ.2.1 ∧ (∀ j, i ≤ j → j < 3 → WF σ.1 σ.2.1 (ww j) (pc j) a r) ∧ ∃ xs : Nat → Nat → Int, ∀ j, j < i → LK σ.1 σ.2.1 (ww j) (pc j) a r t (xs j)) 3 (I, J, none, none) ⟨FR.refl _ _ _ _, fun j _ hj => hW j hj, fun _ _ => 0, fun j hj => absurd hj (Nat.not_lt_zero j)⟩ (fun i σ hi hv kk => ?_) (fun σ hv => ?_)
  · rw [bI_f (fun ⟨j, hj, _⟩ => absurd hj (Nat.not_lt_zero j)), bI_f (fun ⟨j, hj, _⟩ => absurd hj (Nat.not_lt_zero j))] at key
    exact key
  · obtain ⟨I1, J1, o7, o8⟩ := σ
    obtain ⟨f1, f2, xs, f3⟩ := hv
    dsimp only at f1 f2 f3 ⊢
    have hw := ww_is hi
    have wi : ∀ j, ww j = 16 + 20 * j := fun _ => rfl
    have p3 := (pc_ge i).2
    refine WP.icf rfl (nI_ge hi (by omega)) ?_
    iterate 2 (refine WP.st rfl ?_)
    refine WP.aald (k := i) rfl (rfl) (Or.inr (Or.inl rfl)) (show i < 3 from hi) (rfl) (RR_wit w hi) ?_
    iterate 2 (refine WP.st rfl ?_)
    refine WP.cve rfl rfl rfl rfl rfl ((isW_K hw).1) rfl rfl rfl (ev_isBlind L I1 J1 w (ww i) hw) ?_
    obtain ⟨w1, w2, w3⟩ := f2 i (Nat.le_refl i) hi
    rcases w3 with ⟨bl, hB⟩ | ⟨w3, R, l, w4, w5⟩
    · rw [if_pos (show I1 (ww i) 4 < I1 (ww i) 3 by rw [hB.1, w2]; exact nI_lt hB.2.1 (by omega))]
      refine WP.ift rfl (show ¬ (1 : Int32) = 0 by decide) ?_
      iterate 4 (refine WP.st rfl ?_)
      have nb := blind_no hB
      have kk2 := kk (I1, J1, some (.ref (ww i)), o8) ⟨f1, fun j h1 h2 => f2 j (by omega) h2, xs, fun j hj => by
        by_cases e : j = i
        · subst e; exact ⟨w1, w2, Or.inl ⟨bl, hB⟩⟩
        · exact f3 j (by omega)⟩
      rw [nI_succ i, bI_sn (P := sQ a r t) (fun z => nb z.1), bI_sn (P := sN a r t) (fun z => nb (imd_beh z))] at kk2
      exact kk2
    · skip
      rw [if_neg (show ¬ I1 (ww i) 4 < I1 (ww i) 3 by rw [w3, w2]; exact nI_nlt (by omega) (by omega))]
      refine WP.iff rfl (fun z => z rfl) ?_
      iterate 2 (refine WP.st rfl ?_)
      refine WP.cv rfl rfl rfl rfl rfl ((isW_K hw).1) rfl rfl rfl (sp_look L I1 J1 w (ww i) s hw hs t (FR_T hT f1 (by omega)) (pc i) (pc_pm i) w1 p3 r hr w2 a R l w4 w5) ?_
      rintro _ _ ⟨v, ld, J2, x, rfl, g1, g2, g3, g4, rfl⟩
      have hvv := look_v (pc_pm i) hr w4 g3 g4
      have inv2 : FR 16 75 I J (mm_up I1 (ww i) 6 ld) J2 ∧ (∀ j, i + 1 ≤ j → j < 3 → WF (mm_up I1 (ww i) 6 ld) J2 (ww j) (pc j) a r) ∧ ∃ xs : Nat → Nat → Int, ∀ j, j < i + 1 → LK (mm_up I1 (ww i) 6 ld) J2 (ww j) (pc j) a r t (xs j) := by
        refine ⟨fun c hc => ⟨(up_ne I1 _ (by have := wi i; omega)).trans (f1 c hc).1, (g1 c (by have := wi i; omega)).trans (f1 c hc).2⟩, fun j h1 h2 => WF_ext (f2 j (by omega) h2) (fun c h3 h4 => up_ne I1 _ (by have := wi i; have := wi j; omega)) (fun c h3 h4 => g1 c (by have := wi i; have := wi j; omega)) hr, fun j => if j = i then x else xs j, fun j hj => ?_⟩
        dsimp only
        by_cases e : j = i
        · subst e
          rw [if_pos rfl]
          refine ⟨by rw [g1 (ww j) (by omega)]; exact w1, (up_nk I1 _ (by decide)).trans w2, Or.inr ⟨(up_nk I1 _ (by decide)).trans w3, R, l, w4, ⟨fun i hi c hc => ?_, fun i hi => ?_⟩, g3, g2, ?_⟩⟩
          · rw [g1 (ww j + 2 + i) (by omega)]; exact w5.1 i hi c hc
          · rw [up_ne I1 _ (by omega)]; exact w5.2 i hi
          · rcases g4 with ⟨k, k1, k2, k3, -⟩ | ⟨k1, k3, -⟩
            · exact Or.inl ⟨k, k1, k2, (mm_up_at I1 _ 6 ld).trans k3⟩
            · exact Or.inr ⟨k1, (mm_up_at I1 _ 6 ld).trans k3⟩
        · rw [if_neg e]
          exact LK_ext (f3 j (by omega)) (fun c h3 h4 => up_ne I1 _ (by have := wi i; have := wi j; omega)) (fun c h3 h4 => g1 c (by have := wi i; have := wi j; omega)) hr
      have kk2 := kk (mm_up I1 (ww i) 6 ld, J2, some (.ref (ww i)), some (.int v)) inv2
      rw [nI_succ i] at kk2
      iterate 3 (refine WP.st rfl ?_)
      by_cases z : v = 0
      · have hN : sN a r t i := hvv.1.mp z
        have hQ : ¬ sQ a r t i := fun y => y.2.1 hN
        refine WP.iff rfl (fun y => y z) ?_
        iterate 7 (refine WP.st rfl ?_)
        refine WP.ict rfl (show ¬ v = 2 by rw [z]; decide) ?_
        iterate 7 (refine WP.st rfl ?_)
        rw [bI_s1 (P := sN a r t) hN, bI_s0 (P := sQ a r t) hQ] at kk2
        exact kk2
      · have hN : ¬ sN a r t i := fun y => z (hvv.1.mpr y)
        refine WP.ift rfl (z) ?_
        iterate 6 (refine WP.st rfl ?_)
        by_cases z2 : v = 2
        · have hQ : sQ a r t i := hvv.2.mp z2
          refine WP.icf rfl (fun y => y z2) ?_
          iterate 8 (refine WP.st rfl ?_)
          rw [bI_s0 (P := sN a r t) hN, bI_s1 (P := sQ a r t) hQ] at kk2
          exact kk2
        · have hQ : ¬ sQ a r t i := fun y => z2 (hvv.2.mpr y)
          refine WP.ict rfl (z2) ?_
          iterate 7 (refine WP.st rfl ?_)
          rw [bI_s0 (P := sN a r t) hN, bI_s0 (P := sQ a r t) hQ] at kk2
          exact kk2
  · obtain ⟨I1, J1, o7, o8⟩ := σ
    obtain ⟨f1, f2, xs, f3⟩ := hv
    dsimp only at f1 f2 f3 ⊢
    refine WP.ict rfl (nI_le (Nat.le_refl _) (by omega)) ?_
    iterate 1 (refine WP.st rfl ?_)
    by_cases hn : ind 16 (r + 1) (beh a r t)
    · refine WP.iff rfl (show ¬ bI (∃ j, j < 3 ∧ sN a r t j) = 0 by rw [bI_t ((jN hr hS).mpr hn)]; decide) ?_
      iterate 1 (refine WP.st rfl ?_)
      exact WP.ret rfl ⟨by rw [kd_0 hn]; rfl, I1, J1, xs, f1, f3, rfl⟩
    · skip
      refine WP.ift rfl (bI_f (fun z => hn ((jN hr hS).mp z))) ?_
      iterate 1 (refine WP.st rfl ?_)
      by_cases hq : ind 17 (r + 1) (beh a r t)
      · refine WP.iff rfl (show ¬ bI (∃ j, j < 3 ∧ sQ a r t j) = 0 by rw [bI_t ((jQ hr ha hS hn).mpr hq)]; decide) ?_
        iterate 2 (refine WP.st rfl ?_)
        exact WP.ret rfl ⟨by rw [kd_2 hn hq]; rfl, I1, J1, xs, f1, f3, rfl⟩
      · skip
        refine WP.ift rfl (bI_f (fun z => hq ((jQ hr ha hS hn).mp z))) ?_
        iterate 1 (refine WP.st rfl ?_)
        exact WP.ret rfl ⟨by rw [kd_1 hn hq]; rfl, I1, J1, xs, f1, f3, rfl⟩
end
section
/-! no more free rows than columns; the sorts of the tellings -/
theorem ind_le {D n m : Nat} {A : Nat → Nat → Int} (h : ind D n A) (hm : m ≤ n) : ind D m A := by
  intro c hc i hi
  have := h (fun i => if i < m then c i else 0) (fun k hk => by
    rw [sm_cut (m := m) n hm (fun j h1 h2 => by rw [if_neg (by omega)]; exact Int.zero_mul _), sm_congr (g := fun i => c i * A i k) m (fun i hi => by rw [if_pos hi])]
    exact hc k hk) i (by omega)
  rw [if_pos hi] at this
  exact this
theorem ind_dim : ∀ (D n : Nat) (A : Nat → Nat → Int), ind D n A → n ≤ D
  | 0, n, A, h => by
    by_cases e : n = 0
    · omega
    · exfalso
      have := h (fun _ => 1) (fun k hk => absurd hk (Nat.not_lt_zero k)) 0 (by omega)
      exact absurd this (by decide)
  | D + 1, n, A, h => by
    by_cases e : ∃ k, k < n ∧ A k D ≠ 0
    · obtain ⟨k, hk, hA⟩ := e
      obtain ⟨m, rfl⟩ : ∃ m, n = m + 1 := ⟨n - 1, by omega⟩
      have := ind_dim D m (fun i c => A k D * wo A k i c - wo A k i D * A k c) (fun c hc i hi => ?_)
      · omega
      · -- a relation of these rows is one of A's
        have h1 := h (fun j => if j < k then A k D * c j else if j = k then - sm (fun i => c i * wo A k i D) m else A k D * c (j - 1)) (fun q hq => ?_)
        · by_cases e2 : i < k
          · have h2 := h1 i (by omega)
            rw [if_pos e2] at h2
            exact (Int.mul_eq_zero.mp h2).resolve_left hA
          · have h2 := h1 (i + 1) (by omega)
            rw [if_neg (by omega), if_neg (by omega), show i + 1 - 1 = i by omega] at h2
            exact (Int.mul_eq_zero.mp h2).resolve_left hA
        · have e3 := sm_split (fun j => (if j < k then A k D * c j else if j = k then - sm (fun i => c i * wo A k i D) m else A k D * c (j - 1)) * A j q) k (m + 1) hk
          rw [e3, if_neg (by omega), if_pos rfl]
          have e4 := sm_wo (fun j => (if j < k then A k D * c j else A k D * c (j - 1)) * A j q) k m (by omega)
          have e5 : sm (fun i => if i = k then 0 else (if i < k then A k D * c i else if i = k then - sm (fun i => c i * wo A k i D) m else A k D * c (i - 1)) * A i q) (m + 1) = sm (fun j => A k D * (c j * wo A k j q)) m := by
            rw [sm_congr (g := fun i => if i = k then 0 else (if i < k then A k D * c i else A k D * c (i - 1)) * A i q) (m + 1) (fun i _ => by
              by_cases z : i = k
              · rw [if_pos z, if_pos z]
              · rw [if_neg z, if_neg z, if_neg z]), ← e4]
            refine sm_congr m (fun j _ => ?_)
            unfold wo
            by_cases z : j < k
            · rw [if_pos z, if_pos z, if_pos z]; grind
            · rw [if_neg z, if_neg (by omega), if_neg z, show j + 1 - 1 = j by omega]; grind
          rw [e5, sm_mul]
          by_cases eq : q = D
          · subst eq
            grind
          · have h3 := hc q (by omega)
            have e6 : sm (fun i => c i * (A k D * wo A k i q - wo A k i D * A k q)) m = A k D * sm (fun j => c j * wo A k j q) m + (- A k q) * sm (fun i => c i * wo A k i D) m := by
              rw [← sm_mul, ← sm_lin]
              exact sm_congr m (fun i _ => by grind)
            rw [e6] at h3
            grind
    · have h0 : ∀ k, k < n → A k D = 0 := fun k hk => Classical.not_not.mp (fun z => e ⟨k, hk, z⟩)
      have := ind_dim D n A (fun c hc => h c (fun k hk => by
        by_cases e2 : k = D
        · rw [e2]; exact sm_0 n (fun i hi => by rw [h0 i hi, Int.mul_zero])
        · exact hc k (by omega)))
      omega
/-! the sorts -/
abbrev Off : Type := Nat → Bool
/-- how many of the first m are new, and which -/
noncomputable def nst (T : Nat → Nat → Int) (of : Off) : Nat → Nat × (Nat → Nat)
  | 0 => (0, fun _ => 0)
  | m + 1 => if of m = true then nst T of m else if kd (fun q => T ((nst T of m).2 q)) (nst T of m).1 (T m) = 0 then ((nst T of m).1 + 1, fun q => if q = (nst T of m).1 then m else (nst T of m).2 q) else nst T of m
noncomputable def rk (T : Nat → Nat → Int) (of : Off) (m : Nat) : Nat := (nst T of m).1
noncomputable def nos (T : Nat → Nat → Int) (of : Off) (m : Nat) : Nat → Nat := (nst T of m).2
/-- the new ones as rows -/
noncomputable def am (T : Nat → Nat → Int) (of : Off) (m : Nat) : Nat → Nat → Int := fun q => T (nos T of m q)
noncomputable def knd (T : Nat → Nat → Int) (of : Off) (m : Nat) : Nat := if of m = true then 3 else kd (am T of m) (rk T of m) (T m)
theorem nst_off {T : Nat → Nat → Int} {of : Off} {m : Nat} (h : of m = true) : nst T of (m + 1) = nst T of m := if_pos h
theorem nst_new {T : Nat → Nat → Int} {of : Off} {m : Nat} (h : knd T of m = 0) : nst T of (m + 1) = (rk T of m + 1, fun q => if q = rk T of m then m else nos T of m q) := by
  unfold knd at h
  by_cases e : of m = true
  · rw [if_pos e] at h; omega
  · rw [if_neg e] at h
    exact (if_neg e).trans (if_pos h)
theorem nst_old {T : Nat → Nat → Int} {of : Off} {m : Nat} (h : knd T of m ≠ 0) : nst T of (m + 1) = nst T of m := by
  unfold knd at h
  by_cases e : of m = true
  · exact if_pos e
  · rw [if_neg e] at h
    exact (if_neg e).trans (if_neg h)
theorem rk_new {T : Nat → Nat → Int} {of : Off} {m : Nat} (h : knd T of m = 0) : rk T of (m + 1) = rk T of m + 1 := congrArg Prod.fst (nst_new h)
theorem rk_old {T : Nat → Nat → Int} {of : Off} {m : Nat} (h : knd T of m ≠ 0) : rk T of (m + 1) = rk T of m := congrArg Prod.fst (nst_old h)
theorem nos_new {T : Nat → Nat → Int} {of : Off} {m : Nat} (h : knd T of m = 0) (q : Nat) : nos T of (m + 1) q = if q = rk T of m then m else nos T of m q := congrFun (congrArg Prod.snd (nst_new h)) q
theorem nos_old {T : Nat → Nat → Int} {of : Off} {m : Nat} (h : knd T of m ≠ 0) : nos T of (m + 1) = nos T of m := congrArg Prod.snd (nst_old h)
theorem rk_mono (T : Nat → Nat → Int) (of : Off) (m : Nat) : rk T of m ≤ rk T of (m + 1) := by
  by_cases h : knd T of m = 0
  · rw [rk_new h]; omega
  · rw [rk_old h]; exact Nat.le_refl _
theorem nst_congr {T T' : Nat → Nat → Int} {of of' : Off} : ∀ m, (∀ t, t < m → T t = T' t ∧ of t = of' t) → nst T of m = nst T' of' m
  | 0, _ => rfl
  | m + 1, h => by
    have ih := nst_congr m (fun t ht => h t (by omega))
    have h2 := h m (by omega)
    have lt : ∀ q, q < (nst T of m).1 → (nst T of m).2 q < m := by
      clear ih h2
      have : ∀ m, ∀ q, q < (nst T of m).1 → (nst T of m).2 q < m := by
        intro m
        induction m with
        | zero => exact fun q hq => absurd hq (Nat.not_lt_zero q)
        | succ m ih =>
          intro q hq
          by_cases e : knd T of m = 0
          · rw [nst_new e] at hq ⊢
            dsimp only at hq ⊢
            split
            · omega
            · have := ih q (by unfold rk at *; omega)
              unfold nos
              omega
          · rw [nst_old e] at hq ⊢
            have := ih q hq
            omega
      exact this m
    have ek : kd (fun q => T ((nst T of m).2 q)) (nst T of m).1 (T m) = kd (fun q => T' ((nst T' of' m).2 q)) (nst T' of' m).1 (T' m) := by
      rw [← ih, ← h2.1]
      have eb : beh (fun q => T ((nst T of m).2 q)) (nst T of m).1 (T m) = beh (fun q => T' ((nst T of m).2 q)) (nst T of m).1 (T m) := by
        funext i
        unfold beh
        by_cases z : i < (nst T of m).1
        · rw [if_pos z, if_pos z]; exact (h ((nst T of m).2 i) (by have := lt i z; omega)).1
        · rw [if_neg z, if_neg z]
      unfold kd
      rw [eb]
    show (if of m = true then _ else _) = (if of' m = true then _ else _)
    rw [ek, ih, h2.2]
theorem nos_lt (T : Nat → Nat → Int) (of : Off) : ∀ m q, q < rk T of m → nos T of m q < m
  | 0, q, hq => absurd hq (Nat.not_lt_zero q)
  | m + 1, q, hq => by
    by_cases e : knd T of m = 0
    · rw [rk_new e] at hq
      rw [nos_new e]
      split
      · omega
      · have := nos_lt T of m q (by omega); omega
    · rw [rk_old e] at hq
      rw [nos_old e]
      have := nos_lt T of m q hq; omega
theorem nos_inc (T : Nat → Nat → Int) (of : Off) : ∀ m p q, p < q → q < rk T of m → nos T of m p < nos T of m q
  | 0, p, q, _, hq => absurd hq (Nat.not_lt_zero q)
  | m + 1, p, q, hpq, hq => by
    by_cases e : knd T of m = 0
    · rw [rk_new e] at hq
      rw [nos_new e, nos_new e, if_neg (show p ≠ rk T of m by omega)]
      by_cases e2 : q = rk T of m
      · rw [if_pos e2]
        exact nos_lt T of m p (by omega)
      · rw [if_neg e2]
        exact nos_inc T of m p q hpq (by omega)
    · rw [rk_old e] at hq
      rw [nos_old e]
      exact nos_inc T of m p q hpq hq
theorem nos_mono (T : Nat → Nat → Int) (of : Off) : ∀ m k q, q < rk T of m → nos T of (m + k) q = nos T of m q ∧ q < rk T of (m + k)
  | m, 0, q, hq => ⟨rfl, hq⟩
  | m, k + 1, q, hq => by
    obtain ⟨h1, h2⟩ := nos_mono T of m k q hq
    show nos T of (m + k + 1) q = _ ∧ q < rk T of (m + k + 1)
    by_cases e : knd T of (m + k) = 0
    · rw [nos_new e, if_neg (by omega), rk_new e]
      exact ⟨h1, by omega⟩
    · rw [nos_old e, rk_old e]
      exact ⟨h1, h2⟩
theorem kd_ind {a : Nat → Nat → Int} {r : Nat} {t : Nat → Int} (h : kd a r t = 0) : ind 16 (r + 1) (beh a r t) := by
  by_cases e : ind 16 (r + 1) (beh a r t)
  · exact e
  · by_cases e2 : ind 17 (r + 1) (beh a r t)
    · rw [kd_2 e e2] at h; omega
    · rw [kd_1 e e2] at h; omega
theorem knd_0 {T : Nat → Nat → Int} {of : Off} {m : Nat} (h : knd T of m = 0) : of m = false ∧ ind 16 (rk T of m + 1) (beh (am T of m) (rk T of m) (T m)) := by
  unfold knd at h
  by_cases e : of m = true
  · rw [if_pos e] at h; omega
  · rw [if_neg e] at h
    exact ⟨by simpa using e, kd_ind h⟩
/-- the new ones are free -/
theorem am_ind (T : Nat → Nat → Int) (of : Off) : ∀ m, ind 16 (rk T of m) (am T of m)
  | 0 => fun c _ i hi => absurd hi (Nat.not_lt_zero i)
  | m + 1 => by
    by_cases e : knd T of m = 0
    · rw [rk_new e]
      refine ind_congr (fun i hi c _ => ?_) (knd_0 e).2
      unfold beh am
      rw [nos_new e]
      by_cases z : i < rk T of m
      · rw [if_pos z, if_neg (by omega)]
      · rw [if_neg z, if_pos (by omega)]
    · have := am_ind T of m
      unfold am at this ⊢
      rw [rk_old e, nos_old e]
      exact this
theorem rk_16 (T : Nat → Nat → Int) (of : Off) (m : Nat) : rk T of m ≤ 16 := ind_dim 16 _ _ (am_ind T of m)
theorem rk_m (T : Nat → Nat → Int) (of : Off) : ∀ m, rk T of m ≤ m
  | 0 => Nat.le_refl 0
  | m + 1 => by
    have := rk_m T of m
    by_cases e : knd T of m = 0
    · rw [rk_new e]; omega
    · rw [rk_old e]; omega
theorem knd_le (T : Nat → Nat → Int) (of : Off) (m : Nat) : knd T of m ≤ 3 := by
  unfold knd
  split
  · omega
  · have := kd_le (am T of m) (rk T of m) (T m); omega
theorem knd_congr {T T' : Nat → Nat → Int} {of of' : Off} {m : Nat} (h : ∀ t, t < m + 1 → T t = T' t ∧ of t = of' t) : knd T of m = knd T' of' m := by
  have e := nst_congr m (fun t ht => h t (by omega))
  have lt := nos_lt T of m
  unfold knd am rk nos at *
  rw [← e, ← (h m (by omega)).1, ← (h m (by omega)).2]
  have eb : beh (fun q => T ((nst T of m).2 q)) (nst T of m).1 (T m) = beh (fun q => T' ((nst T of m).2 q)) (nst T of m).1 (T m) := by
    funext i
    unfold beh
    by_cases z : i < (nst T of m).1
    · rw [if_pos z, if_pos z]; exact (h ((nst T of m).2 i) (by have := lt i z; omega)).1
    · rw [if_neg z, if_neg z]
  unfold kd
  rw [eb]
end
section
/-! bits -/
def bt (v : Int32) (k : Nat) : Bool := v.toBitVec.getLsbD k
theorem bt_ext {v u : Int32} (h : ∀ k, k < 32 → bt v k = bt u k) : v = u := by
  apply Int32.toBitVec_inj.mp
  apply BitVec.eq_of_getLsbD_eq
  intro i hi
  exact h i hi
theorem sh_two : ∀ n, n < 32 → ((1 : Int32) <<< (nI n &&& 31)).toBitVec = BitVec.twoPow 32 n := by decide
theorem bt_or1 (v : Int32) {n k : Nat} (hn : n < 32) (hk : k < 32) : bt (v ||| ((1 : Int32) <<< (nI n &&& 31))) k = (bt v k || decide (k = n)) := by
  unfold bt
  rw [Int32.toBitVec_or, BitVec.getLsbD_or, sh_two n hn, BitVec.getLsbD_twoPow]
  congr 1
  by_cases e : k = n
  · simp [e, hn]
  · simp [e, Ne.symm e]
theorem bt_0 (k : Nat) : bt 0 k = false := by
  unfold bt
  exact BitVec.getLsbD_zero
/-! Judge: partsSeen, adopt, shrinkTo, howMany -/
theorem wl_sees {I : Nat → Nat → Int32} {J : Nat → Nat → Int64} {b : Nat} {p : Int} (hp : pm p) {a : Nat → Nat → Int} {r : Nat} {t x : Nat → Int} (hr : r ≤ 16) (h : WL I J b p a r t x) (hn : ¬ imd p 16 (r + 1) (beh a r t)) {q : Nat} (hq : q < r) : (x (17 + q) ≠ 0 ↔ imd p 16 r a ∧ imd p 16 r (wo (beh a r t) q)) ∧ (J (b + 19) (17 + q) = zJ (x (17 + q)) ∧ 0 ≤ x (17 + q) ∧ x (17 + q) < p) := by
  obtain ⟨-, R, l, q1, -, q3, q4, q5⟩ := h
  have h0 : ∀ k, k < 16 → x k = 0 := by
    rcases q5 with ⟨k, k1, k2, -⟩ | ⟨k1, -⟩
    · exact absurd (lv_new hp hr q1 q3 k1 k2) hn
    · exact k1
  refine ⟨⟨fun z => ⟨wv_imd hp hr q1, lv_see hp hr q1 q3 hq z⟩, fun z y => lv_uns hp hr q3 h0 hq y z.2⟩, q4 _ (by omega), q3.1 _ (by omega)⟩
set_option maxHeartbeats 4000000 in
set_option maxRecDepth 20000 in
theorem sp_parts (L : Nat) (I : Nat → Nat → Int32) (J : Nat → Nat → Int64) (w : Nat → Nat) (r : Nat) (hr : r ≤ 16) (a : Nat → Nat → Int) (t : Nat → Int) (xs : Nat → Nat → Int) (hL : JL I J a r t xs) (hn : ¬ ind 16 (r + 1) (beh a r t)) (hrk : I 11 4 = nI r) (no : Nat → Nat) (hno : ∀ q, q < r → I 15 q = nI (no q) ∧ no q < 20) : SP m_Ju_partsSeen [.ref 11] (hp L I J w) (fun v h => h = hp L I J w ∧ ∃ b, v = some (.int b) ∧ ∀ k, k < 32 → (bt b k = true ↔ ∃ q, q < r ∧ no q = k ∧ ∃ j, j < 3 ∧ sP a r t q j)) := by
  unfold SP
  iterate 12 (refine WP.st rfl ?_)
  refine WP.inv (fun i (σ : Int32 × Option Value × Option Value) => (16, [some (.ref 11), some (.int σ.1), some (.ref 12), some (.int (nI 3)), some (.int (nI i)), σ.2.1, σ.2.2], [.int (nI 3), .int (nI i)], hp L I J w, 0, 0)) (fun i σ => ∀ k, k < 32 → (bt σ.1 k = true ↔ ∃ q, q < r ∧ no q = k ∧ ∃ j, j < i ∧ sP a r t q j)) 3 (0, none, none) (fun k hk => ⟨fun z => (by rw [bt_0] at z; cases z), fun ⟨_, _, _, j, hj, _⟩ => absurd hj (Nat.not_lt_zero j)⟩) (fun i σ hi hv kk => ?_) (fun σ hv => ?_)
  · obtain ⟨b, o5, o6⟩ := σ
    dsimp only at hv ⊢
    have hw := ww_is hi
    have wi : ∀ j, ww j = 16 + 20 * j := fun _ => rfl
    have p3 := (pc_ge i).2
    obtain ⟨w1, w2, w3⟩ := hL i hi
    refine WP.icf rfl (nI_ge hi (by omega)) ?_
    iterate 2 (refine WP.st rfl ?_)
    refine WP.aald (k := i) rfl (rfl) (Or.inr (Or.inl rfl)) (show i < 3 from hi) (rfl) (RR_wit w hi) ?_
    iterate 6 (refine WP.st rfl ?_)
    -- what is left when the witness has spoken
    have fin : ∀ b' (o : Option Value), (∀ k, k < 32 → (bt b' k = true ↔ ∃ q, q < r ∧ no q = k ∧ ∃ j, j < i + 1 ∧ sP a r t q j)) → WP m_Ju_partsSeen (73, [some (.ref 11), some (.int b'), some (.ref 12), some (.int (nI 3)), some (.int (nI i)), some (.ref (ww i)), o], [], hp L I J w, 0, 0) (fun v h => h = hp L I J w ∧ ∃ b, v = some (.int b) ∧ ∀ k, k < 32 → (bt b k = true ↔ ∃ q, q < r ∧ no q = k ∧ ∃ j, j < 3 ∧ sP a r t q j)) := by
      intro b' o h
      iterate 4 (refine WP.st rfl ?_)
      have kk2 := kk (b', some (.ref (ww i)), o) h
      rw [nI_succ i] at kk2
      exact kk2
    rcases w3 with ⟨bl, hB⟩ | hWL
    · have nb := blind_no hB
      have same : ∀ k, k < 32 → (bt b k = true ↔ ∃ q, q < r ∧ no q = k ∧ ∃ j, j < i + 1 ∧ sP a r t q j) := fun k hk => (hv k hk).trans ⟨fun ⟨q, h1, h2, j, h3, h4⟩ => ⟨q, h1, h2, j, by omega, h4⟩, fun ⟨q, h1, h2, j, h3, h4⟩ => ⟨q, h1, h2, j, by
        by_cases e : j = i
        · subst e; exact absurd h4.1 nb
        · omega, h4⟩⟩
      refine WP.icf rfl (show ¬ I 11 4 ≤ nI 0 by rw [hrk]; exact nI_ge (by have := hB.2.1; omega) (by omega)) ?_
      iterate 1 (refine WP.st rfl ?_)
      refine WP.cve rfl rfl rfl rfl rfl ((isW_K hw).1) rfl rfl rfl (ev_isBlind L I J w (ww i) hw) ?_
      rw [if_pos (show I (ww i) 4 < I (ww i) 3 by rw [hB.1, w2]; exact nI_lt hB.2.1 (by omega))]
      refine WP.ift rfl (show ¬ (1 : Int32) = 0 by decide) ?_
      exact fin b _ same
    · have himd : imd (pc i) 16 r a := by
        obtain ⟨-, R, l, q1, -⟩ := hWL
        exact wv_imd (pc_pm i) hr q1
      have hni : ¬ imd (pc i) 16 (r + 1) (beh a r t) := fun z => hn (imd_ind (pc_pm i) z)
      refine WP.inv (fun m (b' : Int32) => (34, [some (.ref 11), some (.int b'), some (.ref 12), some (.int (nI 3)), some (.int (nI i)), some (.ref (ww i)), some (.int (nI m))], [.int (I 11 4), .int (nI m)], hp L I J w, 0, 0)) (fun m b' => ∀ k, k < 32 → (bt b' k = true ↔ ∃ q, q < r ∧ no q = k ∧ ∃ j, (j < i ∨ (j = i ∧ q < m)) ∧ sP a r t q j)) r b (fun k hk => (hv k hk).trans ⟨fun ⟨q, h1, h2, j, h3, h4⟩ => ⟨q, h1, h2, j, Or.inl h3, h4⟩, fun ⟨q, h1, h2, j, h3, h4⟩ => ⟨q, h1, h2, j, by omega, h4⟩⟩) (fun m b' hm hv2 k2 => ?_) (fun b' hv2 => ?_)
      · obtain ⟨s1, s2, s3, s4⟩ := wl_sees (pc_pm i) hr hWL hni hm
        obtain ⟨n1, n2⟩ := hno m hm
        refine WP.icf rfl (show ¬ I 11 4 ≤ nI m by rw [hrk]; exact nI_ge hm (by omega)) ?_
        iterate 1 (refine WP.st rfl ?_)
        refine WP.cve rfl rfl rfl rfl rfl ((isW_K hw).1) rfl rfl rfl (ev_isBlind L I J w (ww i) hw) ?_
        rw [if_neg (show ¬ I (ww i) 4 < I (ww i) 3 by rw [hWL.1, w2]; exact nI_nlt (by omega) (by omega))]
        refine WP.iff rfl (fun z => z rfl) ?_
        iterate 2 (refine WP.st rfl ?_)
        refine WP.cve rfl rfl rfl rfl rfl ((isW_K hw).1) rfl rfl rfl (ev_sees L I J w (ww i) hw m (by omega) (xs i (17 + m)) s2 s3 (by omega)) ?_
        by_cases z : xs i (17 + m) = 0
        · rw [if_pos z]
          refine WP.ift rfl (rfl) ?_
          iterate 5 (refine WP.st rfl ?_)
          have k3 := k2 b' (fun k hk => (hv2 k hk).trans ⟨fun ⟨q, h1, h2, j, h3, h4⟩ => ⟨q, h1, h2, j, by omega, h4⟩, fun ⟨q, h1, h2, j, h3, h4⟩ => ⟨q, h1, h2, j, by
            by_cases e : j = i ∧ q = m
            · obtain ⟨rfl, rfl⟩ := e
              exact absurd z (s1.mpr h4)
            · omega, h4⟩⟩)
          rw [nI_succ m] at k3
          exact k3
        · skip
          rw [if_neg z]
          refine WP.iff rfl (show ¬ (1 : Int32) = 0 by decide) ?_
          iterate 5 (refine WP.st rfl ?_)
          refine WP.iald (k := m) rfl (rfl) (Or.inl rfl) (show m < 16 by omega) (rfl) ?_
          rw [show hI (hp L I J w) 15 m = nI (no m) from n1]
          iterate 8 (refine WP.st rfl ?_)
          have k3 := k2 (b' ||| ((1 : Int32) <<< (nI (no m) &&& 31))) (fun k hk => by
            rw [bt_or1 b' (by omega) hk, Bool.or_eq_true, decide_eq_true_eq, hv2 k hk]
            constructor
            · rintro (⟨q, h1, h2, j, h3, h4⟩ | rfl)
              · exact ⟨q, h1, h2, j, by omega, h4⟩
              · exact ⟨m, hm, rfl, i, Or.inr ⟨rfl, by omega⟩, s1.mp z⟩
            · rintro ⟨q, h1, h2, j, h3, h4⟩
              by_cases e : q = m
              · right; rw [← h2, e]
              · left; exact ⟨q, h1, h2, j, by omega, h4⟩)
          rw [nI_succ m] at k3
          exact k3
      · skip
        refine WP.ict rfl (show I 11 4 ≤ nI r by rw [hrk]; exact nI_le (Nat.le_refl _) (by omega)) ?_
        exact fin b' _ (fun k hk => (hv2 k hk).trans ⟨fun ⟨q, h1, h2, j, h3, h4⟩ => ⟨q, h1, h2, j, by omega, h4⟩, fun ⟨q, h1, h2, j, h3, h4⟩ => ⟨q, h1, h2, j, by omega, h4⟩⟩)
  · skip
    refine WP.ict rfl (nI_le (Nat.le_refl _) (by omega)) ?_
    iterate 1 (refine WP.st rfl ?_)
    exact WP.ret rfl ⟨rfl, _, rfl, hv⟩
theorem WF_a {I : Nat → Nat → Int32} {J : Nat → Nat → Int64} {b : Nat} {p : Int} {a a' : Nat → Nat → Int} {r : Nat} (hr : r ≤ 16) (h : WF I J b p a r) (he : ∀ q, q < r → a q = a' q) : WF I J b p a' r := by
  obtain ⟨h1, h2, h3⟩ := h
  refine ⟨h1, h2, ?_⟩
  rcases h3 with ⟨bl, b1, b2, ⟨R, l, q1, q2⟩, b4⟩ | ⟨b1, R, l, q1, q2⟩
  · exact Or.inl ⟨bl, b1, b2, ⟨R, l, wv_ext (by omega) q1 (fun j hj => he j (by omega)), q2⟩, fun z => b4 (imd_congr (fun i hi c _ => by rw [he i (by omega)]) z)⟩
  · exact Or.inr ⟨b1, R, l, wv_ext hr q1 he, q2⟩
set_option maxHeartbeats 4000000 in
set_option maxRecDepth 20000 in
theorem sp_jadopt (L : Nat) (I : Nat → Nat → Int32) (J : Nat → Nat → Int64) (w : Nat → Nat) (r : Nat) (hr : r < 16) (a : Nat → Nat → Int) (t : Nat → Int) (xs : Nat → Nat → Int) (hL : JL I J a r t xs) (hrk : I 11 4 = nI r) : SP m_Ju_adopt [.ref 11] (hp L I J w) (fun v h => v = none ∧ ∃ (I' : Nat → Nat → Int32) (J' : Nat → Nat → Int64), FR 16 75 I J I' J' ∧ JW I' J' (beh a r t) (r + 1) ∧ h = hp L (mm_up I' 11 4 (nI (r + 1))) J' w) := by
  unfold SP
  iterate 3 (refine WP.st rfl ?_)
  refine WP.ict rfl (show I 11 4 < nI 16 by rw [hrk]; exact nI_lt hr (by omega)) ?_
  iterate 10 (refine WP.st rfl ?_)
  refine WP.inv (fun i (σ : (Nat → Nat → Int32) × (Nat → Nat → Int64) × Option Value) => (22, [some (.ref 11), some (.ref 12), some (.int (nI 3)), some (.int (nI i)), σ.2.2], [.int (nI 3), .int (nI i)], hp L σ.1 σ.2.1 w, 0, 0)) (fun i σ => FR 16 75 I J σ.1 σ.2.1 ∧ (∀ j, i ≤ j → j < 3 → LK σ.1 σ.2.1 (ww j) (pc j) a r t (xs j)) ∧ (∀ j, j < i → WF σ.1 σ.2.1 (ww j) (pc j) (beh a r t) (r + 1))) 3 (I, J, none) ⟨FR.refl _ _ _ _, fun j _ hj => hL j hj, fun j hj => absurd hj (Nat.not_lt_zero j)⟩ (fun i σ hi hv kk => ?_) (fun σ hv => ?_)
  · obtain ⟨I1, J1, o4⟩ := σ
    obtain ⟨f1, f2, f3⟩ := hv
    dsimp only at f1 f2 f3 ⊢
    have hw := ww_is hi
    have wi : ∀ j, ww j = 16 + 20 * j := fun _ => rfl
    refine WP.icf rfl (nI_ge hi (by omega)) ?_
    iterate 2 (refine WP.st rfl ?_)
    refine WP.aald (k := i) rfl (rfl) (Or.inr (Or.inl rfl)) (show i < 3 from hi) (rfl) (RR_wit w hi) ?_
    iterate 2 (refine WP.st rfl ?_)
    refine WP.cv rfl rfl rfl rfl rfl ((isW_K hw).1) rfl rfl rfl (sp_adopt L I1 J1 w (ww i) hw (pc i) (pc_pm i) (pc_ge i).2 r hr a t (xs i) (f2 i (Nat.le_refl i) hi)) ?_
    rintro _ _ ⟨rfl, I2, J2, g1, g2, rfl⟩
    iterate 4 (refine WP.st rfl ?_)
    have kk2 := kk (I2, J2, some (.ref (ww i))) ⟨f1.trans (g1.mono (by have := wi i; omega) (by have := wi i; omega)), fun j h1 h2 => LK_ext (f2 j (by omega) h2) (fun c h3 h4 => (g1 c (by have := wi i; have := wi j; omega)).1) (fun c h3 h4 => (g1 c (by have := wi i; have := wi j; omega)).2) (by omega), fun j hj => by
      by_cases e : j = i
      · subst e; exact g2
      · exact WF_ext (f3 j (by omega)) (fun c h3 h4 => (g1 c (by have := wi i; have := wi j; omega)).1) (fun c h3 h4 => (g1 c (by have := wi i; have := wi j; omega)).2) (by omega)⟩
    rw [nI_succ i] at kk2
    exact kk2
  · obtain ⟨I1, J1, o4⟩ := σ
    obtain ⟨f1, f2, f3⟩ := hv
    dsimp only at f1 f2 f3 ⊢
    have e11 : I1 11 4 = nI r := by rw [(f1 11 (by omega)).1]; exact hrk
    refine WP.ict rfl (nI_le (Nat.le_refl _) (by omega)) ?_
    iterate 6 (refine WP.st rfl ?_)
    refine WP.ret rfl ⟨rfl, I1, J1, f1, f3, ?_⟩
    rw [nI_succ r, ← e11]
    rfl
theorem JW_up {I : Nat → Nat → Int32} {J : Nat → Nat → Int64} {a : Nat → Nat → Int} {r : Nat} (h : JW I J a r) (hr : r ≤ 16) (k : Nat) (v : Int32) : JW (mm_up I 11 k v) J a r := fun i hi => WF_ext (h i hi) (fun c h1 h2 => up_ne I v (by have : ww i = 16 + 20 * i := rfl; omega)) (fun _ _ _ => rfl) hr
set_option maxHeartbeats 4000000 in
set_option maxRecDepth 20000 in
theorem sp_jshrink (L : Nat) (I : Nat → Nat → Int32) (J : Nat → Nat → Int64) (w : Nat → Nat) (r r' : Nat) (hr : r ≤ 16) (hr' : r' ≤ r) (a : Nat → Nat → Int) (hW : JW I J a r) : SP m_Ju_shrinkTo [.ref 11, .int (nI r')] (hp L I J w) (fun v h => v = none ∧ ∃ I' : Nat → Nat → Int32, FR 16 75 (mm_up I 11 4 (nI r')) J I' J ∧ JW I' J a r' ∧ h = hp L I' J w) := by
  unfold SP
  iterate 13 (refine WP.st rfl ?_)
  have hW1 := JW_up hW hr 4 (nI r')
  generalize hI1 : mm_up I 11 4 (nI r') = I0 at hW1 ⊢
  rw [show putI (hp L I J w) 11 4 (nI r') = hp L I0 J w from by rw [← hI1]]
  refine WP.inv (fun i (σ : (Nat → Nat → Int32) × Option Value) => (19, [some (.ref 11), some (.int (nI r')), some (.ref 12), some (.int (nI 3)), some (.int (nI i)), σ.2], [.int (nI 3), .int (nI i)], hp L σ.1 J w, 0, 0)) (fun i σ => FR 16 75 I0 J σ.1 J ∧ (∀ j, i ≤ j → j < 3 → WF σ.1 J (ww j) (pc j) a r) ∧ (∀ j, j < i → WF σ.1 J (ww j) (pc j) a r')) 3 (I0, none) ⟨FR.refl _ _ _ _, fun j _ hj => hW1 j hj, fun j hj => absurd hj (Nat.not_lt_zero j)⟩ (fun i σ hi hv kk => ?_) (fun σ hv => ?_)
  · obtain ⟨I1, o5⟩ := σ
    obtain ⟨f1, f2, f3⟩ := hv
    dsimp only at f1 f2 f3 ⊢
    have hw := ww_is hi
    have wi : ∀ j, ww j = 16 + 20 * j := fun _ => rfl
    refine WP.icf rfl (nI_ge hi (by omega)) ?_
    iterate 2 (refine WP.st rfl ?_)
    refine WP.aald (k := i) rfl (rfl) (Or.inr (Or.inl rfl)) (show i < 3 from hi) (rfl) (RR_wit w hi) ?_
    iterate 3 (refine WP.st rfl ?_)
    refine WP.cv rfl rfl rfl rfl rfl ((isW_K hw).1) rfl rfl rfl (sp_wshrink L I1 J w (ww i) hw (pc i) r r' hr hr' a (f2 i (Nat.le_refl i) hi)) ?_
    rintro _ _ ⟨rfl, I2, g1, g2, rfl⟩
    iterate 4 (refine WP.st rfl ?_)
    have kk2 := kk (I2, some (.ref (ww i))) ⟨f1.trans (g1.mono (by have := wi i; omega) (by have := wi i; omega)), fun j h1 h2 => WF_ext (f2 j (by omega) h2) (fun c h3 h4 => (g1 c (by have := wi i; have := wi j; omega)).1) (fun c h3 h4 => rfl) hr, fun j hj => by
      by_cases e : j = i
      · subst e; exact g2
      · exact WF_ext (f3 j (by omega)) (fun c h3 h4 => (g1 c (by have := wi i; have := wi j; omega)).1) (fun c h3 h4 => rfl) (by omega)⟩
    rw [nI_succ i] at kk2
    exact kk2
  · obtain ⟨I1, o5⟩ := σ
    obtain ⟨f1, f2, f3⟩ := hv
    dsimp only at f1 f2 f3 ⊢
    refine WP.ict rfl (nI_le (Nat.le_refl _) (by omega)) ?_
    exact WP.ret rfl ⟨rfl, I1, f1, f3, rfl⟩
/-- how many of the first n of a row are v -/
def hm (f : Nat → Int32) (v : Int32) : Nat → Nat
  | 0 => 0
  | n + 1 => if f n = v then hm f v n + 1 else hm f v n
theorem hm_le (f : Nat → Int32) (v : Int32) : ∀ n, hm f v n ≤ n
  | 0 => Nat.le_refl 0
  | n + 1 => by
    have := hm_le f v n
    show (if f n = v then hm f v n + 1 else hm f v n) ≤ _
    split <;> omega
theorem ev_howMany (L : Nat) (I : Nat → Nat → Int32) (J : Nat → Nat → Int64) (w : Nat → Nat) (v : Int32) (m : Nat) (hmm : m ≤ 20) (hj : I 11 5 = nI m) : EV m_Ju_howMany [.ref 11, .int v] (hp L I J w) (some (.int (nI (hm (I 13) v m)))) (hp L I J w) := by
  obtain ⟨r, h, e, q⟩ : SP m_Ju_howMany [.ref 11, .int v] (hp L I J w) (fun r h => r = some (.int (nI (hm (I 13) v m))) ∧ h = hp L I J w) := by
    unfold SP
    iterate 7 (refine WP.st rfl ?_)
    refine WP.inv (fun i (_ : Unit) => (9, [some (.ref 11), some (.int v), some (.int (nI (hm (I 13) v i))), some (.int (nI i))], [.int (I 11 5), .int (nI i)], hp L I J w, 0, 0)) (fun _ _ => True) m () trivial (fun i _ hi _ kk => ?_) (fun _ _ => ?_)
    · have kk2 := kk () trivial
      refine WP.icf rfl (show ¬ I 11 5 ≤ nI i by rw [hj]; exact nI_ge hi (by omega)) ?_
      iterate 3 (refine WP.st rfl ?_)
      refine WP.iald (k := i) rfl (rfl) (Or.inl rfl) (show i < 20 by omega) (rfl) ?_
      iterate 1 (refine WP.st rfl ?_)
      by_cases z : I 13 i = v
      · refine WP.icf rfl (fun y => y z) ?_
        rw [show hm (I 13) v (i + 1) = hm (I 13) v i + 1 from if_pos z, nI_succ, nI_succ i] at kk2
        iterate 6 (refine WP.st rfl ?_)
        exact kk2
      · skip
        refine WP.ict rfl (z) ?_
        rw [show hm (I 13) v (i + 1) = hm (I 13) v i from if_neg z, nI_succ i] at kk2
        iterate 5 (refine WP.st rfl ?_)
        exact kk2
    · skip
      refine WP.ict rfl (show I 11 5 ≤ nI m by rw [hj]; exact nI_le (Nat.le_refl _) (by omega)) ?_
      iterate 1 (refine WP.st rfl ?_)
      exact WP.ret rfl ⟨rfl, rfl⟩
  obtain ⟨rfl, rfl⟩ := q
  exact e
end
section
/-! Judge: judgeOne, judgeUpTo -/
theorem sm_mono {f g : Nat → Int} : ∀ n, (∀ i, i < n → f i ≤ g i) → sm f n ≤ sm g n
  | 0, _ => Int.le_refl _
  | n + 1, h => by
    have := sm_mono n (fun i hi => h i (by omega))
    have := h n (by omega)
    show sm f n + f n ≤ sm g n + g n
    omega
theorem sm_const (c : Int) : ∀ n : Nat, sm (fun _ => c) n = n * c
  | 0 => by show (0 : Int) = (0 : Nat) * c; grind
  | n + 1 => by
    show sm (fun _ => c) n + c = ((n + 1 : Nat) : Int) * c
    rw [sm_const c n]
    push_cast
    grind
theorem isT_srt {I : Nat → Nat → Int32} {s : Nat} {t : Nat → Int} (h : isT I s t) : dt 16 t t ≤ 36 ∧ -2000 ≤ t 16 ∧ t 16 ≤ 2000 := by
  obtain ⟨n, nm, fc, t1, t2, t3, t4, t5, t6, t7⟩ := h
  refine ⟨?_, t2.1, t2.2⟩
  have h1 : ∀ c, c < 16 → t c * t c ≤ sm (fun k => if nm k = c then 9 else 0) n := by
    intro c hc
    by_cases e : ∃ k, k < n ∧ nm k = c
    · obtain ⟨k, hk, hkc⟩ := e
      obtain ⟨-, -, -, -, u5, u6, u7⟩ := t5 k hk
      rw [hkc] at u7
      have h9 : t c * t c ≤ 9 := by
        rw [u7]
        have : fc k = -3 ∨ fc k = -2 ∨ fc k = -1 ∨ fc k = 0 ∨ fc k = 1 ∨ fc k = 2 ∨ fc k = 3 := by omega
        rcases this with z | z | z | z | z | z | z <;> rw [z] <;> decide
      refine Int.le_trans h9 ?_
      rw [sm_split _ k n hk, if_pos hkc]
      have : 0 ≤ sm (fun i => if i = k then (0 : Int) else if nm i = c then 9 else 0) n := by
        have := sm_mono (f := fun _ => 0) (g := fun i => if i = k then (0 : Int) else if nm i = c then 9 else 0) n (fun i _ => by
          split
          · omega
          · split <;> omega)
        rw [sm_0 n (fun _ _ => rfl)] at this
        exact this
      omega
    · rw [t7 c hc (fun k hk z => e ⟨k, hk, z⟩)]
      have := sm_mono (f := fun _ => 0) (g := fun i => if nm i = c then (9 : Int) else 0) n (fun i _ => by split <;> omega)
      rw [sm_0 n (fun _ _ => rfl)] at this
      omega
  have h2 : dt 16 t t ≤ sm (fun c => sm (fun k => if nm k = c then (9 : Int) else 0) n) 16 := sm_mono 16 h1
  rw [sm_swap (fun c k => if nm k = c then (9 : Int) else 0) n 16] at h2
  have h3 : sm (fun k => sm (fun c => if nm k = c then (9 : Int) else 0) 16) n ≤ sm (fun _ => 9) n := sm_mono n (fun k hk => by
    rw [sm_one (k := nm k) 16 (t5 k hk).2.1 (fun c _ hc => if_neg (Ne.symm hc)), if_pos rfl]
    exact Int.le_refl _)
  rw [sm_const] at h3
  omega
/-- the class's tellings -/
def CT (I : Nat → Nat → Int32) (T : Nat → Nat → Int) (of : Off) (N : Nat) : Prop := ∀ t, t < N → isT I (sumP t) (T t) ∧ I (sumP t) 2 = (if of t = true then 1 else 0)
def ptOK (I : Nat → Nat → Int32) (T : Nat → Nat → Int) (of : Off) (t : Nat) : Prop := (knd T of t = 1 ∨ knd T of t = 2) → ∀ k, k < 32 → (bt (I 14 t) k = true ↔ ∃ q, q < rk T of t ∧ nos T of t q = k ∧ ind 16 (rk T of t) (wo (beh (am T of t) (rk T of t) (T t)) q))
/-- the first m are judged, and the witnesses have taken in just their new ones -/
def JV (I : Nat → Nat → Int32) (T : Nat → Nat → Int) (of : Off) (m : Nat) : Prop := (∀ t, t < m → I 13 t = nI (knd T of t) ∧ ptOK I T of t) ∧ (∀ q, q < rk T of m → I 15 q = nI (nos T of m q))
def JX (I : Nat → Nat → Int32) (J : Nat → Nat → Int64) (T : Nat → Nat → Int) (of : Off) (m : Nat) : Prop := JW I J (am T of m) (rk T of m) ∧ I 11 4 = nI (rk T of m) ∧ JV I T of m
theorem CT_FR {I I' : Nat → Nat → Int32} {J J' : Nat → Nat → Int64} {T : Nat → Nat → Int} {of : Off} {N lo hi : Nat} (h : CT I T of N) (hf : FR lo hi I J I' J') (hh : hi < 147) : CT I' T of N := fun t ht => ⟨FR_T (h t ht).1 hf (Or.inr (by unfold sumP; omega)), by rw [(hf (sumP t) (Or.inr (by unfold sumP; omega))).1]; exact (h t ht).2⟩
theorem srt_T {I : Nat → Nat → Int32} {T : Nat → Nat → Int} {of : Off} {N m : Nat} (h : CT I T of N) (hm : m ≤ N) {t : Nat → Int} {s : Nat} (ht : isT I s t) : srt (rk T of m + 1) (beh (am T of m) (rk T of m) t) := by
  intro i hi
  unfold beh
  by_cases e : i < rk T of m
  · simp only [e, if_true]
    exact isT_srt (h _ (by have := nos_lt T of m i e; omega)).1
  · simp only [e, if_false]
    exact isT_srt ht
theorem WF_up {I : Nat → Nat → Int32} {J : Nat → Nat → Int64} {b c k : Nat} {v : Int32} {p : Int} {a : Nat → Nat → Int} {r : Nat} (h : WF I J b p a r) (hc : c < b ∨ b + 19 < c) (hr : r ≤ 16) : WF (mm_up I c k v) J b p a r := WF_ext h (fun d h1 h2 => up_ne I v (by omega)) (fun _ _ _ => rfl) hr
theorem JW_upc {I : Nat → Nat → Int32} {J : Nat → Nat → Int64} {c k : Nat} {v : Int32} {a : Nat → Nat → Int} {r : Nat} (h : JW I J a r) (hc : c < 16 ∨ 75 < c) (hr : r ≤ 16) : JW (mm_up I c k v) J a r := fun i hi => WF_up (h i hi) (by have : ww i = 16 + 20 * i := rfl; omega) hr
theorem JL_upc {I : Nat → Nat → Int32} {J : Nat → Nat → Int64} {c k : Nat} {v : Int32} {a : Nat → Nat → Int} {r : Nat} {t : Nat → Int} {xs : Nat → Nat → Int} (h : JL I J a r t xs) (hc : c < 16 ∨ 75 < c) (hr : r ≤ 16) : JL (mm_up I c k v) J a r t xs := fun i hi => LK_ext (h i hi) (fun d h1 h2 => up_ne I v (by have : ww i = 16 + 20 * i := rfl; omega)) (fun _ _ _ => rfl) hr
theorem LK_WF {I : Nat → Nat → Int32} {J : Nat → Nat → Int64} {b : Nat} {p : Int} {a : Nat → Nat → Int} {r : Nat} {t x : Nat → Int} (h : LK I J b p a r t x) : WF I J b p a r := by
  obtain ⟨h1, h2, h3⟩ := h
  refine ⟨h1, h2, ?_⟩
  rcases h3 with h | ⟨b1, R, l, q1, q2, -⟩
  · exact Or.inl h
  · exact Or.inr ⟨b1, R, l, q1, q2⟩
set_option maxHeartbeats 4000000 in
set_option maxRecDepth 20000 in
theorem sp_judgeOne (L : Nat) (I : Nat → Nat → Int32) (J : Nat → Nat → Int64) (w : Nat → Nat) (T : Nat → Nat → Int) (of : Off) (N m : Nat) (hm : m < N) (hN : N ≤ 20) (hT : CT I T of N) (hX : JX I J T of m) : SP m_Ju_judgeOne [.ref 11, .ref (sumP m), .int (nI m)] (hp L I J w) (fun v h => v = none ∧ ∃ (I' : Nat → Nat → Int32) (J' : Nat → Nat → Int64), FR 11 75 I J I' J' ∧ I' 11 5 = I 11 5 ∧ JX I' J' T of (m + 1) ∧ h = hp L I' J' w) := by
  obtain ⟨x1, x2, x3, x4⟩ := hX
  have hs := isSum_all m (by omega)
  have sp : sumP m = 147 + 3 * m := rfl
  have hr := rk_16 T of m
  unfold SP
  iterate 4 (refine WP.st rfl ?_)
  refine WP.iast (k := m) rfl (rfl) (rfl) (show m < 20 by omega) (rfl) ?_
  iterate 1 (refine WP.st rfl ?_)
  refine WP.get (v := .int (I (sumP m) 2)) rfl rfl (hs.1) (congrArg Value.int (congrFun (up_ne I (0 : Int32) (show sumP m ≠ 14 by omega)) 2)) ?_
  -- verdicts, parts and new ones of the earlier stay
  have keep : ∀ I' : Nat → Nat → Int32, (∀ t, t < m → I' 13 t = I 13 t ∧ I' 14 t = I 14 t) → ∀ t, t < m → I' 13 t = nI (knd T of t) ∧ ptOK I' T of t := fun I' h t ht => ⟨(h t ht).1.trans (x3 t ht).1, by
    have := (x3 t ht).2
    unfold ptOK at this ⊢
    rw [(h t ht).2]
    exact this⟩
  by_cases ho : of m = true
  · have hk : knd T of m = 3 := if_pos ho
    have hoff : I (sumP m) 2 = 1 := by rw [(hT m hm).2, if_pos ho]
    refine WP.iff rfl (show ¬ I (sumP m) 2 = 0 by rw [hoff]; decide) ?_
    iterate 4 (refine WP.st rfl ?_)
    refine WP.iast (k := m) rfl (rfl) (rfl) (show m < 20 by omega) (rfl) ?_
    refine WP.ret rfl ⟨rfl, mm_up (mm_up I 14 m 0) 13 m 3, J, fun c hc => ⟨(up_ne _ _ (by omega)).trans (up_ne I _ (by omega)), rfl⟩, by rw [up_ne _ _ (by decide), up_ne I _ (by decide)], ⟨?_, ?_, ?_, ?_⟩, rfl⟩
    · unfold am
      rw [rk_old (by omega), nos_old (by omega)]
      exact JW_upc (JW_upc x1 (by omega) hr) (by omega) hr
    · rw [rk_old (by omega), up_ne _ _ (by decide), up_ne I _ (by decide)]
      exact x2
    · intro t ht
      by_cases e : t = m
      · subst e
        refine ⟨(mm_up_at _ 13 t 3).trans (by rw [hk]; rfl), fun z => by omega⟩
      · exact keep _ (fun t ht => ⟨(up_nk _ _ (by omega)).trans (congrFun (up_ne I _ (by decide)) t), (congrFun (up_ne _ _ (by decide)) t).trans (up_nk I _ (by omega))⟩) t (by omega)
    · intro q hq
      rw [rk_old (by omega)] at hq
      rw [nos_old (by omega), up_ne _ _ (by decide), up_ne I _ (by decide)]
      exact x4 q hq
  · have hk : knd T of m = kd (am T of m) (rk T of m) (T m) := if_neg ho
    have hoff : I (sumP m) 2 = 0 := by rw [(hT m hm).2, if_neg ho]
    have hT1 : isT (mm_up I 14 m 0) (sumP m) (T m) := isT_ext (hT m hm).1 (up_ne I _ (by omega)) (up_ne I _ (by omega)) (up_ne I _ (by omega))
    refine WP.ift rfl (hoff) ?_
    iterate 5 (refine WP.st rfl ?_)
    rw [show putI (hp L I J w) 14 m (Int32.ofInt 0) = hp L (mm_up I 14 m 0) J w from rfl]
    refine WP.call rfl rfl (sp_weigh L (mm_up I 14 m 0) J w (sumP m) hs (Or.inr (by omega)) (T m) hT1 (rk T of m) hr (am T of m) (JW_upc x1 (by omega) hr) (am_ind T of m) (srt_T hT (by omega) (hT m hm).1)) ?_
    rintro _ _ ⟨rfl, I1, J1, xs, f1, f2, rfl⟩
    rw [← hk]
    have kl := knd_le T of m
    have i11 : I1 11 = I 11 := ((f1 11 (by omega)).1).trans (up_ne I _ (by decide))
    have i13 : I1 13 = I 13 := ((f1 13 (by omega)).1).trans (up_ne I _ (by decide))
    have i14 : I1 14 = mm_up I 14 m 0 14 := (f1 14 (by omega)).1
    have i15 : I1 15 = I 15 := ((f1 15 (by omega)).1).trans (up_ne I _ (by decide))
    have ir : ∀ c, c < 11 ∨ 75 < c → I1 c = I c ∧ J1 c = J c := fun c hc => ⟨((f1 c (by omega)).1).trans (up_ne I _ (by omega)), (f1 c (by omega)).2⟩
    refine WP.iast (k := m) rfl (rfl) (rfl) (show m < 20 by omega) (rfl) ?_
    iterate 3 (refine WP.st rfl ?_)
    refine WP.iald (k := m) rfl (rfl) (Or.inl rfl) (show m < 20 by omega) (rfl) ?_
    have e13 : mm_up I1 13 m (nI (knd T of m)) 13 m = nI (knd T of m) := mm_up_at I1 13 m _
    rw [show hI (putI (hp L I1 J1 w) 13 m (nI (knd T of m))) 13 m = nI (knd T of m) from e13]
    by_cases hz : knd T of m = 0
    · refine WP.ift rfl (show nI (knd T of m) = 0 by rw [hz]; rfl) ?_
      iterate 3 (refine WP.st rfl ?_)
      have hr2 : rk T of m < 16 := by
        have := rk_16 T of (m + 1)
        rw [rk_new hz] at this
        omega
      refine WP.icf rfl (show ¬ nI 16 ≤ mm_up I1 13 m (nI (knd T of m)) 11 4 by rw [up_ne I1 _ (by decide), i11, x2]; exact nI_ge hr2 (by omega)) ?_
      iterate 5 (refine WP.st rfl ?_)
      refine WP.iast (k := rk T of m) rfl (by show mm_up I1 13 m (nI (knd T of m)) 11 4 = _; rw [up_ne I1 _ (by decide), i11]; exact x2) (rfl) (show rk T of m < 16 from hr2) (rfl) ?_
      iterate 1 (refine WP.st rfl ?_)
      rw [show putI (putI (hp L I1 J1 w) 13 m (nI (knd T of m))) 15 (rk T of m) (nI m) = hp L (mm_up (mm_up I1 13 m (nI (knd T of m))) 15 (rk T of m) (nI m)) J1 w from rfl]
      refine WP.call rfl rfl (sp_jadopt L (mm_up (mm_up I1 13 m (nI (knd T of m))) 15 (rk T of m) (nI m)) J1 w (rk T of m) hr2 (am T of m) (T m) xs (JL_upc (JL_upc f2 (by omega) hr) (by omega) hr) (by rw [up_ne _ _ (by decide), up_ne I1 _ (by decide), i11]; exact x2)) ?_
      rintro _ _ ⟨rfl, I2, J2, g1, g2, rfl⟩
      have j13 : I2 13 = mm_up I1 13 m (nI (knd T of m)) 13 := ((g1 13 (by omega)).1).trans (up_ne _ _ (by decide))
      have j14 : I2 14 = mm_up I 14 m 0 14 := ((g1 14 (by omega)).1).trans ((up_ne _ _ (by decide)).trans ((up_ne I1 _ (by decide)).trans i14))
      have j15 : ∀ q, I2 15 q = if q = rk T of m then nI m else I 15 q := fun q => by
        rw [(g1 15 (by omega)).1]
        by_cases e : q = rk T of m
        · rw [if_pos e, e]; exact mm_up_at _ 15 _ _
        · rw [if_neg e]; exact (up_nk _ _ e).trans (by rw [up_ne I1 _ (by decide), i15])
      refine WP.ret rfl ⟨rfl, mm_up I2 11 4 (nI (rk T of m + 1)), J2, fun c hc => ⟨(up_ne I2 _ (by omega)).trans (((g1 c (by omega)).1).trans ((up_ne _ _ (by omega)).trans ((up_ne I1 _ (by omega)).trans (ir c hc).1))), ((g1 c (by omega)).2).trans (ir c hc).2⟩, ?_, ⟨?_, ?_, ?_, ?_⟩, rfl⟩
      · rw [up_nk I2 _ (by decide), (g1 11 (by omega)).1, up_ne _ _ (by decide), up_ne I1 _ (by decide), i11]
      · rw [rk_new hz]
        refine JW_upc (fun i hi => WF_a (by omega) (g2 i hi) (fun q hq => ?_)) (by omega) (by omega)
        unfold beh am
        rw [nos_new hz]
        by_cases e : q < rk T of m
        · rw [if_pos e, if_neg (by omega)]
        · rw [if_neg e, if_pos (by omega)]
      · rw [rk_new hz]
        exact mm_up_at I2 11 4 _
      · intro t ht
        by_cases e : t = m
        · subst e
          refine ⟨by rw [up_ne I2 _ (by decide), j13]; exact mm_up_at I1 13 t _, fun z => by omega⟩
        · exact keep _ (fun t ht => ⟨by rw [up_ne I2 _ (by decide), j13, up_nk I1 _ (by omega), i13], by rw [up_ne I2 _ (by decide), j14, up_nk I _ (by omega)]⟩) t (by omega)
      · intro q hq
        rw [rk_new hz] at hq
        rw [up_ne I2 _ (by decide), j15 q, nos_new hz]
        by_cases e : q = rk T of m
        · rw [if_pos e, if_pos e]
        · rw [if_neg e, if_neg e]
          exact x4 q (by omega)
    · have hnz : ¬ ind 16 (rk T of m + 1) (beh (am T of m) (rk T of m) (T m)) := fun z => hz (by rw [hk, kd_0 z])
      refine WP.iff rfl (show ¬ nI (knd T of m) = 0 from nI_ne0 (by omega) (by omega)) ?_
      iterate 4 (refine WP.st rfl ?_)
      rw [show putI (hp L I1 J1 w) 13 m (nI (knd T of m)) = hp L (mm_up I1 13 m (nI (knd T of m))) J1 w from rfl]
      refine WP.call rfl rfl (sp_parts L (mm_up I1 13 m (nI (knd T of m))) J1 w (rk T of m) hr (am T of m) (T m) xs (JL_upc f2 (by omega) hr) hnz (by rw [up_ne I1 _ (by decide), i11]; exact x2) (nos T of m) (fun q hq => ⟨by rw [up_ne I1 _ (by decide), i15]; exact x4 q hq, by have := nos_lt T of m q hq; omega⟩)) ?_
      rintro _ _ ⟨rfl, b, rfl, hb⟩
      refine WP.iast (k := m) rfl (rfl) (rfl) (show m < 20 by omega) (rfl) ?_
      iterate 1 (refine WP.st rfl ?_)
      refine WP.ret rfl ⟨rfl, mm_up (mm_up I1 13 m (nI (knd T of m))) 14 m b, J1, fun c hc => ⟨(up_ne _ _ (by omega)).trans ((up_ne I1 _ (by omega)).trans (ir c hc).1), (ir c hc).2⟩, ?_, ⟨?_, ?_, ?_, ?_⟩, rfl⟩
      · rw [up_ne _ _ (by decide), up_ne I1 _ (by decide), i11]
      · unfold am
        rw [rk_old hz, nos_old hz]
        exact JW_upc (JW_upc (fun i hi => LK_WF (f2 i hi)) (by omega) hr) (by omega) hr
      · rw [rk_old hz, up_ne _ _ (by decide), up_ne I1 _ (by decide), i11]
        exact x2
      · intro t ht
        by_cases e : t = m
        · subst e
          refine ⟨by rw [up_ne _ _ (by decide)]; exact mm_up_at I1 13 t _, fun _ k hk2 => ?_⟩
          rw [mm_up_at, hb k hk2]
          constructor
          · rintro ⟨q, h1, h2, h3⟩
            exact ⟨q, h1, h2, (jP hr (am_ind T of t) (srt_T hT (by omega) (hT t hm).1) q).mp h3⟩
          · rintro ⟨q, h1, h2, h3⟩
            exact ⟨q, h1, h2, (jP hr (am_ind T of t) (srt_T hT (by omega) (hT t hm).1) q).mpr h3⟩
        · exact keep _ (fun t ht => ⟨by rw [up_ne _ _ (by decide), up_nk I1 _ (by omega), i13], by rw [up_nk _ _ (by omega), up_ne I1 _ (by decide), i14, up_nk I _ (by omega)]⟩) t (by omega)
      · intro q hq
        rw [rk_old hz] at hq
        rw [nos_old hz, up_ne _ _ (by decide), up_ne I1 _ (by decide), i15]
        exact x4 q hq
/-- judged up to some m; the witnesses may have taken in more -/
def JI (I : Nat → Nat → Int32) (J : Nat → Nat → Int64) (T : Nat → Nat → Int) (of : Off) (N : Nat) : Prop := ∃ m, m ≤ N ∧ I 11 5 = nI m ∧ JV I T of m ∧ ∃ a r, r ≤ 16 ∧ rk T of m ≤ r ∧ (m = N → r = rk T of m) ∧ JW I J a r ∧ I 11 4 = nI r ∧ ∀ q, q < rk T of m → a q = am T of m q
theorem hm_rk {f : Nat → Int32} {T : Nat → Nat → Int} {of : Off} : ∀ m, (∀ t, t < m → f t = nI (knd T of t)) → hm f 0 m = rk T of m
  | 0, _ => rfl
  | m + 1, h => by
    show (if f m = 0 then hm f 0 m + 1 else hm f 0 m) = _
    rw [hm_rk m (fun t ht => h t (by omega)), h m (by omega)]
    by_cases e : knd T of m = 0
    · rw [rk_new e, if_pos (by rw [e]; rfl)]
    · rw [rk_old e, if_neg (nI_ne0 (by omega) (by have := knd_le T of m; omega))]
set_option maxHeartbeats 4000000 in
set_option maxRecDepth 20000 in
theorem sp_judgeUpTo (L : Nat) (I : Nat → Nat → Int32) (J : Nat → Nat → Int64) (w : Nat → Nat) (T : Nat → Nat → Int) (of : Off) (N : Nat) (hN : N ≤ 20) (hT : CT I T of N) (hJI : JI I J T of N) : SP m_Ju_judgeUpTo [.ref 11, .ref 4, .int (nI N)] (hp L I J w) (fun v h => v = none ∧ ∃ (I' : Nat → Nat → Int32) (J' : Nat → Nat → Int64), FR 11 75 I J I' J' ∧ JX I' J' T of N ∧ I' 11 5 = nI N ∧ h = hp L I' J' w) := by
  obtain ⟨m, hmN, h5, hV, a, r, r16, hrk, hre, hW, h4, hag⟩ := hJI
  unfold SP
  iterate 3 (refine WP.st rfl ?_)
  by_cases e : m = N
  · subst e
    refine WP.icf rfl (show ¬ I 11 5 < nI m by rw [h5]; exact nI_nlt (Nat.le_refl _) (by omega)) ?_
    have hr := hre rfl
    subst hr
    exact WP.ret rfl ⟨rfl, I, J, FR.refl _ _ _ _, ⟨fun i hi => WF_a r16 (hW i hi) hag, h4, hV⟩, h5, rfl⟩
  · skip
    refine WP.ict rfl (show I 11 5 < nI N by rw [h5]; exact nI_lt (by omega) (by omega)) ?_
    iterate 3 (refine WP.st rfl ?_)
    refine WP.calle rfl rfl (ev_howMany L I J w 0 m (by omega) h5) ?_
    rw [hm_rk (T := T) (of := of) m (fun t ht => (hV.1 t ht).1)]
    refine WP.call rfl rfl (sp_jshrink L I J w r (rk T of m) r16 hrk a hW) ?_
    rintro _ _ ⟨rfl, I1, f1, f2, rfl⟩
    have g11 : I1 11 = mm_up I 11 4 (nI (rk T of m)) 11 := (f1 11 (by omega)).1
    have g5 : I1 11 5 = nI m := by rw [g11, up_nk I _ (by decide)]; exact h5
    iterate 1 (refine WP.st rfl ?_)
    refine WP.get (v := .int (nI m)) rfl rfl (rfl) (congrArg Value.int g5) ?_
    iterate 3 (refine WP.st rfl ?_)
    have ge : ∀ c, c < 11 ∨ (11 < c ∧ c < 16) ∨ 75 < c → I1 c = I c := fun c hc => ((f1 c (by omega)).1).trans (up_ne I _ (by omega))
    have inv0 : JX I1 J T of m := by
      refine ⟨fun i hi => WF_a (by omega) (f2 i hi) hag, by rw [g11]; exact mm_up_at I 11 4 _, ?_⟩
      unfold JV ptOK
      rw [ge 13 (by omega), ge 14 (by omega), ge 15 (by omega)]
      exact hV
    have key := WP.inv (mid := m_Ju_judgeUpTo) (Q := fun v h => v = none ∧ ∃ (I' : Nat → Nat → Int32) (J' : Nat → Nat → Int64), FR 11 75 I J I' J' ∧ JX I' J' T of N ∧ I' 11 5 = nI N ∧ h = hp L I' J' w) (fun i (σ : (Nat → Nat → Int32) × (Nat → Nat → Int64)) => (25, [some (.ref 11), some (.ref 4), some (.int (nI N)), some (.int (nI (m + i)))], [.int (nI N), .int (nI (m + i))], hp L σ.1 σ.2 w, 0, 0)) (fun i σ => FR 11 75 I J σ.1 σ.2 ∧ JX σ.1 σ.2 T of (m + i)) (N - m) (I1, J) ⟨fun c hc => ⟨ge c (by omega), rfl⟩, inv0⟩ (fun i σ hi hv kk => ?_) (fun σ hv => ?_)
    · exact key
    · obtain ⟨I2, J2⟩ := σ
      obtain ⟨v1, v2⟩ := hv
      dsimp only at v1 v2 ⊢
      refine WP.icf rfl (nI_ge (by omega) (by omega)) ?_
      iterate 3 (refine WP.st rfl ?_)
      refine WP.icf rfl (show ¬ nI 20 ≤ nI (m + i) from nI_ge (by omega) (by omega)) ?_
      iterate 3 (refine WP.st rfl ?_)
      refine WP.aald (k := m + i) rfl (rfl) (Or.inl rfl) (show m + i < 20 by omega) (rfl) (RR_sums w (m + i) (by omega)) ?_
      iterate 1 (refine WP.st rfl ?_)
      refine WP.call rfl rfl (sp_judgeOne L I2 J2 w T of N (m + i) (by omega) hN (CT_FR hT v1 (by omega)) v2) ?_
      rintro _ _ ⟨rfl, I3, J3, w1, w2, w3, rfl⟩
      iterate 4 (refine WP.st rfl ?_)
      have kk2 := kk (I3, J3) ⟨v1.trans w1, w3⟩
      rw [show m + (i + 1) = m + i + 1 by omega, nI_succ (m + i)] at kk2
      exact kk2
    · obtain ⟨I2, J2⟩ := σ
      obtain ⟨v1, v2⟩ := hv
      dsimp only at v1 v2 ⊢
      rw [show m + (N - m) = N by omega] at v2 ⊢
      refine WP.ict rfl (nI_le (Nat.le_refl _) (by omega)) ?_
      iterate 3 (refine WP.st rfl ?_)
      refine WP.ret rfl ⟨rfl, mm_up I2 11 5 (nI N), J2, fun c hc => ⟨(up_ne I2 _ (by omega)).trans (v1 c hc).1, (v1 c hc).2⟩, ⟨JW_upc v2.1 (by omega) (rk_16 T of N), (up_nk I2 _ (by decide)).trans v2.2.1, ?_⟩, mm_up_at I2 11 5 _, rfl⟩
      unfold JV ptOK
      rw [up_ne I2 _ (by decide), up_ne I2 _ (by decide), up_ne I2 _ (by decide)]
      exact v2.2.2
theorem JX_JI {I : Nat → Nat → Int32} {J : Nat → Nat → Int64} {T : Nat → Nat → Int} {of : Off} {N : Nat} (h : JX I J T of N) (h5 : I 11 5 = nI N) : JI I J T of N := ⟨N, Nat.le_refl N, h5, h.2.2, am T of N, rk T of N, rk_16 T of N, Nat.le_refl _, fun _ => rfl, h.1, h.2.1, fun _ _ => rfl⟩
end
section
/-! determinants by remainders -/
theorem det_cg {p : Int} : ∀ (n : Nat) {A B : Nat → Nat → Int}, (∀ i j, i < n → j < n → p ∣ A i j - B i j) → p ∣ det n A - det n B
  | 0, _, _, _ => ⟨0, by simp [det]⟩
  | n + 1, A, B, h => by
    refine sm_dm (n + 1) (fun i hi => ?_)
    obtain ⟨z1, hz1⟩ := h i 0 hi (by omega)
    obtain ⟨z2, hz2⟩ := det_cg n (A := dl A i) (B := dl B i) (fun r c hr hc => h _ _ (by split <;> omega) (by omega))
    exact ⟨sn i * (z1 * det n (dl A i) + B i 0 * z2), by grind⟩
def pI (f : Nat → Int) : Nat → Int
  | 0 => 1
  | n + 1 => pI f n * f n
theorem pI_congr {f g : Nat → Int} : ∀ n, (∀ i, i < n → f i = g i) → pI f n = pI g n
  | 0, _ => rfl
  | n + 1, h => by
    show pI f n * f n = pI g n * g n
    rw [pI_congr n (fun i hi => h i (by omega)), h n (by omega)]
/-- a table cleared below the diagonal -/
theorem det_tri : ∀ (n : Nat) (W : Nat → Nat → Int), (∀ k r, k < r → r < n → W r k = 0) → det n W = pI (fun k => W k k) n
  | 0, _, _ => rfl
  | n + 1, W, h => by
    rw [det_last n W (fun j hj => h j n hj (by omega)), det_tri n W (fun k r h1 h2 => h k r h1 (by omega))]
    exact Int.mul_comm _ _
/-- a column with nothing from the diagonal on -/
theorem det_stuck : ∀ (c n : Nat) (W : Nat → Nat → Int), c < n → (∀ k r, k < c → k < r → r < n → W r k = 0) → (∀ r, c ≤ r → r < n → W r c = 0) → det n W = 0
  | 0, n, W, hc, _, h0 => by
    obtain ⟨m, rfl⟩ : ∃ m, n = m + 1 := ⟨n - 1, by omega⟩
    exact det_zc m W (fun i hi => h0 i (by omega) hi)
  | c + 1, n, W, hc, h, h0 => by
    obtain ⟨m, rfl⟩ : ∃ m, n = m + 1 := ⟨n - 1, by omega⟩
    rw [det_col0 m W (fun i hi => h 0 (i + 1) (by omega) (by omega) (by omega)), det_stuck c m _ (by omega) (fun k r h1 h2 h3 => h (k + 1) (r + 1) (by omega) (by omega) (by omega)) (fun r h1 h2 => h0 (r + 1) (by omega) (by omega)), Int.mul_zero]
/-- how far the clearing of M has come: W, the product d of the first c of the diagonal, by the remainders of p -/
def clr_ok (p : Int) (n c : Nat) (M W : Nat → Nat → Int) (d : Int) : Prop := (∀ i j, i ≤ n → j ≤ n → 0 ≤ W i j ∧ W i j < p) ∧ (∀ k r, k < c → k < r → r ≤ n → W r k = 0) ∧ (0 < d ∧ d < p) ∧ ∃ s : Int, (s = 1 ∨ s = -1) ∧ p ∣ s * det n W - det n M ∧ p ∣ s * det (n + 1) W - det (n + 1) M ∧ p ∣ d - s * pI (fun k => W k k) c
theorem clr_0 {p : Int} (hp : pm p) (n : Nat) (M : Nat → Nat → Int) : clr_ok p n 0 M (fun i j => M i j % p) 1 := by
  have p1 := hp.1
  have cg : ∀ m, p ∣ det m (fun i j => M i j % p) - det m M := fun m => det_cg m (fun i j _ _ => by
    have := Int.dvd_self_sub_emod (x := M i j) (m := p)
    rw [← Int.dvd_neg, Int.neg_sub] at this
    exact this)
  refine ⟨fun i j _ _ => ⟨Int.emod_nonneg _ (by omega), Int.emod_lt_of_pos _ (by omega)⟩, fun k r hk => absurd hk (Nat.not_lt_zero k), by omega, 1, Or.inl rfl, by rw [Int.one_mul]; exact cg n, by rw [Int.one_mul]; exact cg (n + 1), ⟨0, by simp [pI]⟩⟩
theorem clr_stuck {p : Int} {n c : Nat} {M W : Nat → Nat → Int} {d : Int} (h : clr_ok p n c M W d) (hc : c < n) (h0 : ∀ r, c ≤ r → r < n → W r c = 0) : det n M % p = 0 := by
  obtain ⟨-, h2, -, s, -, h5, -⟩ := h
  rw [det_stuck c n W hc (fun k r h1 h3 h4 => h2 k r h1 h3 (by omega)) h0] at h5
  apply Int.emod_eq_zero_of_dvd
  obtain ⟨z, hz⟩ := h5
  exact ⟨-z, by grind⟩
theorem sw_in {W : Nat → Nat → Int} {n a b : Nat} (ha : a ≤ n) (hb : b ≤ n) {i : Nat} (hi : i ≤ n) : ∃ k, k ≤ n ∧ sw W a b i = W k := by
  unfold sw
  split
  · exact ⟨b, hb, rfl⟩
  · split
    · exact ⟨a, ha, rfl⟩
    · exact ⟨i, hi, rfl⟩
theorem clr_sw {p : Int} {n c r : Nat} {M W : Nat → Nat → Int} {d : Int} (h : clr_ok p n c M W d) (hc : c < n) (hr : r < n) (hcr : c < r) : clr_ok p n c M (sw W r c) (p - d) := by
  obtain ⟨h1, h2, h3, s, h4, h5, h6, h7⟩ := h
  refine ⟨fun i j hi hj => ?_, fun k q h8 h9 h10 => ?_, by omega, -s, by omega, ?_, ?_, ?_⟩
  · obtain ⟨k, hk, e⟩ := sw_in (W := W) (n := n) (a := r) (b := c) (by omega) (by omega) hi
    rw [e]
    exact h1 k j hk hj
  · unfold sw
    split
    · exact h2 k c h8 (by omega) (by omega)
    · split
      · exact h2 k r h8 (by omega) (by omega)
      · exact h2 k q h8 h9 h10
  · rw [det_sw n W r c (by omega) (by omega) (by omega)]
    rw [show -s * -det n W - det n M = s * det n W - det n M by grind]
    exact h5
  · rw [det_sw (n + 1) W r c (by omega) (by omega) (by omega)]
    rw [show -s * -det (n + 1) W - det (n + 1) M = s * det (n + 1) W - det (n + 1) M by grind]
    exact h6
  · rw [pI_congr (g := fun k => W k k) c (fun i hi => by show sw W r c i i = W i i; unfold sw; rw [if_neg (by omega), if_neg (by omega)])]
    obtain ⟨z, hz⟩ := h7
    exact ⟨1 - z, by grind⟩
/-- row r with a multiple of row c added, by remainders -/
def opm (p : Int) (W : Nat → Nat → Int) (r c n : Nat) (f : Int) : Nat → Nat → Int := fun i j => if i = r ∧ c ≤ j ∧ j ≤ n then (W r j + f * W c j) % p else W i j
theorem det_opm {p : Int} {m n r c : Nat} {W : Nat → Nat → Int} {f : Int} (hm : m ≤ n + 1) (hr : r < m) (hc : c < r) (h0 : ∀ k, k < c → W c k = 0) : p ∣ det m (opm p W r c n f) - det m W := by
  rw [← det_op m W r c f hr (by omega) (by omega)]
  refine det_cg m (fun i j hi hj => ?_)
  unfold opm
  by_cases e : i = r
  · rw [e, rs_at]
    by_cases e2 : c ≤ j
    · rw [if_pos ⟨rfl, e2, by omega⟩]
      have := Int.dvd_self_sub_emod (x := W r j + f * W c j) (m := p)
      rw [← Int.dvd_neg, Int.neg_sub] at this
      exact this
    · rw [if_neg (fun z => e2 z.2.1), h0 j (by omega)]
      exact ⟨0, by grind⟩
  · rw [if_neg (fun z => e z.1), rs_off _ _ e]
    exact ⟨0, by grind⟩
theorem emod_dvd {p a b : Int} (h : p ∣ a - b) : a % p = b % p := Int.emod_eq_emod_iff_emod_sub_eq_zero.mpr (Int.emod_eq_zero_of_dvd h)
/-- column c cleared in the rows ahead of q -/
def cbl (p : Int) (n c q : Nat) (W V : Nat → Nat → Int) : Prop := (∀ i j, i ≤ n → j ≤ n → 0 ≤ V i j ∧ V i j < p) ∧ (∀ i j, i ≤ c → j ≤ n → V i j = W i j) ∧ (∀ r, c < r → r < q → r ≤ n → V r c = 0) ∧ (∀ r j, q ≤ r → r ≤ n → j ≤ n → V r j = W r j) ∧ (∀ k r, k < c → c < r → r ≤ n → V r k = 0) ∧ p ∣ det n V - det n W ∧ p ∣ det (n + 1) V - det (n + 1) W
theorem cbl_0 {p : Int} {n c : Nat} {M W : Nat → Nat → Int} {d : Int} (h : clr_ok p n c M W d) : cbl p n c (c + 1) W W :=
  ⟨h.1, fun _ _ _ _ => rfl, fun r h1 h2 => by omega, fun _ _ _ _ _ => rfl, fun k r h1 h2 h3 => h.2.1 k r h1 (by omega) h3, ⟨0, by grind⟩, ⟨0, by grind⟩⟩
theorem cbl_skip {p : Int} {n c q : Nat} {W V : Nat → Nat → Int} (h : cbl p n c q W V) (hq : q ≤ n) (h0 : V q c = 0) : cbl p n c (q + 1) W V := by
  obtain ⟨h1, h2, h3, h4, h5, h6, h7⟩ := h
  exact ⟨h1, h2, fun r a b e => by by_cases z : r = q; rw [z]; exact h0; exact h3 r a (by omega) e, fun r j a b e => h4 r j (by omega) b e, h5, h6, h7⟩
theorem cbl_op {p : Int} (hp : pm p) {n c q : Nat} {W V : Nat → Nat → Int} {u z : Int} (h : cbl p n c q W V) (hcq : c < q) (hq : q ≤ n) (hc0 : ∀ k, k < c → W c k = 0) (hu : u * V c c = 1 + z * p) : cbl p n c (q + 1) W (opm p V q c n ((p - V q c) * u % p)) := by
  have p1 := hp.1
  obtain ⟨h1, h2, h3, h4, h5, h6, h7⟩ := h
  have hv0 : ∀ k, k < c → V c k = 0 := fun k hk => by rw [h2 c k (Nat.le_refl c) (by omega)]; exact hc0 k hk
  refine ⟨fun i j hi hj => ?_, fun i j hi hj => ?_, fun r a b e => ?_, fun r j a b e => ?_, fun k r a b e => ?_, ?_, ?_⟩
  · unfold opm
    split
    · exact ⟨Int.emod_nonneg _ (by omega), Int.emod_lt_of_pos _ (by omega)⟩
    · exact h1 i j hi hj
  · unfold opm
    rw [if_neg (by omega)]
    exact h2 i j hi hj
  · unfold opm
    by_cases e2 : r = q
    · rw [if_pos ⟨e2, Nat.le_refl c, by omega⟩]
      apply Int.emod_eq_zero_of_dvd
      obtain ⟨y, hy⟩ := Int.dvd_self_sub_emod (x := (p - V q c) * u) (m := p)
      refine ⟨1 + (p - V q c) * z - y * V c c, ?_⟩
      have : (p - V q c) * u % p = (p - V q c) * u - p * y := by omega
      rw [this]
      grind
    · rw [if_neg (fun z => e2 z.1)]
      exact h3 r a (by omega) e
  · unfold opm
    rw [if_neg (by omega)]
    exact h4 r j (by omega) b e
  · unfold opm
    rw [if_neg (by omega)]
    exact h5 k r a b e
  · by_cases e : q = n
    · rw [det_congr n (N := V) (fun i j hi hj => by unfold opm; rw [if_neg (by omega)])]
      exact h6
    · have := Int.dvd_add (det_opm (p := p) (m := n) (n := n) (r := q) (c := c) (W := V) (f := (p - V q c) * u % p) (by omega) (by omega) hcq hv0) h6
      rw [show ∀ a b c : Int, a - b + (b - c) = a - c from fun a b c => by omega] at this
      exact this
  · have := Int.dvd_add (det_opm (p := p) (m := n + 1) (n := n) (r := q) (c := c) (W := V) (f := (p - V q c) * u % p) (by omega) (by omega) hcq hv0) h7
    rw [show ∀ a b c : Int, a - b + (b - c) = a - c from fun a b c => by omega] at this
    exact this
theorem cg_aux {p d s P w z y g : Int} (h7 : d - s * P = p * z) (hy : d * w - g = p * y) : g - s * (P * w) = p * (z * w - y) := by grind
theorem clr_step {p : Int} (hp : pm p) {n c : Nat} {M W V : Nat → Nat → Int} {d : Int} (h : clr_ok p n c M W d) (hc : c < n) (hcc : W c c ≠ 0) (hV : cbl p n c (n + 1) W V) : clr_ok p n (c + 1) M V (d * W c c % p) := by
  have p1 := hp.1
  obtain ⟨h1, h2, h3, s, h4, ⟨z5, h5⟩, ⟨z6, h6⟩, ⟨z7, h7⟩⟩ := h
  obtain ⟨v1, v2, v3, v4, v5, ⟨z8, v6⟩, ⟨z9, v7⟩⟩ := hV
  have hw := h1 c c (by omega) (by omega)
  have nd : ¬ p ∣ d * W c c := fun z => by
    rcases hp.2 _ _ z with y | y
    · have := nz_dvd (by omega) h3.2 y; omega
    · exact hcc (nz_dvd hw.1 hw.2 y)
  have e0 := Int.emod_nonneg (d * W c c) (show p ≠ 0 by omega)
  have e1 := Int.emod_lt_of_pos (d * W c c) (show 0 < p by omega)
  have e2 : d * W c c % p ≠ 0 := fun z => nd (Int.dvd_of_emod_eq_zero z)
  refine ⟨v1, fun k r a b e => ?_, ⟨by omega, e1⟩, s, h4, ⟨s * z8 + z5, by grind⟩, ⟨s * z9 + z6, by grind⟩, ?_⟩
  · by_cases e3 : k = c
    · rw [e3]; exact v3 r (by omega) (by omega) e
    · by_cases e4 : r ≤ c
      · rw [v2 r k e4 (by omega)]; exact h2 k r (by omega) b e
      · exact v5 k r (by omega) (by omega) e
  · show p ∣ _ - s * (pI (fun k => V k k) c * V c c)
    rw [pI_congr (g := fun k => W k k) c (fun i hi => v2 i i (by omega) (by omega)), v2 c c (Nat.le_refl c) (by omega)]
    obtain ⟨y, hy⟩ := Int.dvd_self_sub_emod (x := d * W c c) (m := p)
    exact ⟨z7 * W c c - y, cg_aux h7 hy⟩
theorem clr_end {p : Int} (hp : pm p) {n : Nat} {M W : Nat → Nat → Int} {d : Int} (h : clr_ok p n n M W d) : d = det n M % p ∧ p ∣ d * W n n - det (n + 1) M := by
  obtain ⟨h1, h2, h3, s, h4, ⟨z5, h5⟩, ⟨z6, h6⟩, ⟨z7, h7⟩⟩ := h
  have e1 : det n W = pI (fun k => W k k) n := det_tri n W (fun k r a b => h2 k r (by omega) a (by omega))
  have e2 : det (n + 1) W = pI (fun k => W k k) n * W n n := det_tri (n + 1) W (fun k r a b => h2 k r (by omega) a (by omega))
  rw [e1] at h5
  rw [e2] at h6
  constructor
  · rw [← emod_dvd (a := d) (b := det n M) ⟨z7 + z5, by grind⟩]
    exact (Int.emod_eq_of_lt (by omega) h3.2).symm
  · exact ⟨z7 * W n n + z6, by grind⟩
end
section
/-! Balance: its rows and its table -/
theorem fa_i {L : Nat} (w : Nat → Nat) {i : Nat} (hi : i < 16) : RR w 77 i = some (78 + i) ∧ KK (78 + i) = 9 ∧ LL L (78 + i) = 16 := by
  have e : i = 0 ∨ i = 1 ∨ i = 2 ∨ i = 3 ∨ i = 4 ∨ i = 5 ∨ i = 6 ∨ i = 7 ∨ i = 8 ∨ i = 9 ∨ i = 10 ∨ i = 11 ∨ i = 12 ∨ i = 13 ∨ i = 14 ∨ i = 15 := by omega
  rcases e with rfl | rfl | rfl | rfl | rfl | rfl | rfl | rfl | rfl | rfl | rfl | rfl | rfl | rfl | rfl | rfl <;> exact ⟨rfl, rfl, rfl⟩
theorem tb_i {L : Nat} (w : Nat → Nat) {i : Nat} (hi : i < 17) : RR w 95 i = some (96 + i) ∧ KK (96 + i) = 10 ∧ LL L (96 + i) = 17 := by
  have e : i = 0 ∨ i = 1 ∨ i = 2 ∨ i = 3 ∨ i = 4 ∨ i = 5 ∨ i = 6 ∨ i = 7 ∨ i = 8 ∨ i = 9 ∨ i = 10 ∨ i = 11 ∨ i = 12 ∨ i = 13 ∨ i = 14 ∨ i = 15 ∨ i = 16 := by omega
  rcases e with rfl | rfl | rfl | rfl | rfl | rfl | rfl | rfl | rfl | rfl | rfl | rfl | rfl | rfl | rfl | rfl | rfl <;> exact ⟨rfl, rfl, rfl⟩
def gp (t ρ : Nat → Int) : Int := t 16 - sm (fun c => t c * ρ c) 16
theorem sm_terms {I : Nat → Nat → Int32} {s n : Nat} {nm : Nat → Nat} {fc t : Nat → Int} (h : tT I s n nm fc t) (ρ : Nat → Int) : sm (fun c => t c * ρ c) 16 = sm (fun k => fc k * ρ (nm k)) n := by
  obtain ⟨-, -, -, -, t5, t6, t7⟩ := h
  have e1 : ∀ c, c < 16 → t c * ρ c = sm (fun k => if nm k = c then fc k * ρ (nm k) else 0) n := by
    intro c hc
    by_cases e : ∃ k, k < n ∧ nm k = c
    · obtain ⟨k, hk, hkc⟩ := e
      rw [sm_one (k := k) n hk (fun i hi hik => if_neg (fun z => ?_)), if_pos hkc]
      · rw [← (t5 k hk).2.2.2.2.2.2, hkc]
      · rcases Nat.lt_or_gt_of_ne hik with h1 | h1
        · exact t6 i k h1 hk (by rw [z, hkc])
        · exact t6 k i h1 hi (by rw [z, hkc])
    · rw [t7 c hc (fun k hk z => e ⟨k, hk, z⟩), Int.zero_mul, sm_0 n (fun k hk => if_neg (fun z => e ⟨k, hk, z⟩))]
  rw [sm_congr 16 e1, sm_swap (fun c k => if nm k = c then fc k * ρ (nm k) else 0) n 16]
  exact sm_congr n (fun k hk => by rw [sm_one (k := nm k) 16 (t5 k hk).2.1 (fun c _ hc => if_neg (Ne.symm hc)), if_pos rfl])
theorem sm_wnI {f : Nat → Int} {B : Int} : ∀ n : Nat, (∀ i, i < n → -B ≤ f i ∧ f i ≤ B) → -(n * B) ≤ sm f n ∧ sm f n ≤ n * B
  | 0, _ => by show -(((0 : Nat) : Int) * B) ≤ 0 ∧ (0 : Int) ≤ ((0 : Nat) : Int) * B; simp
  | n + 1, h => by
    obtain ⟨a, b⟩ := sm_wnI n (fun i hi => h i (by omega))
    obtain ⟨c, d⟩ := h n (by omega)
    show -(((n + 1 : Nat) : Int) * B) ≤ sm f n + f n ∧ sm f n + f n ≤ ((n + 1 : Nat) : Int) * B
    rw [Int.natCast_add, Int.add_mul]
    omega
theorem gp_bound {I : Nat → Nat → Int32} {s : Nat} {t ρ : Nat → Int} (h : isT I s t) (hρ : ∀ c, c < 16 → -1000 ≤ ρ c ∧ ρ c ≤ 1000) : -14000 ≤ gp t ρ ∧ gp t ρ ≤ 14000 := by
  obtain ⟨n, nm, fc, h⟩ := h
  unfold gp
  rw [sm_terms h ρ]
  obtain ⟨-, t2, t3, -, t5, -⟩ := h
  have := sm_wnI (f := fun k => fc k * ρ (nm k)) (B := 3000) n (fun k hk => by
    obtain ⟨-, u2, -, -, u5, u6, -⟩ := t5 k hk
    obtain ⟨r1, r2⟩ := hρ (nm k) u2
    have : fc k = -3 ∨ fc k = -2 ∨ fc k = -1 ∨ fc k = 0 ∨ fc k = 1 ∨ fc k = 2 ∨ fc k = 3 := by omega
    rcases this with z | z | z | z | z | z | z <;> rw [z] <;> omega)
  omega
theorem dt_ent {u : Nat → Int} {c : Nat} : ∀ D, c < D → u c * u c ≤ dt D u u
  | 0, h => absurd h (Nat.not_lt_zero c)
  | D + 1, h => by
    have nn : ∀ D, 0 ≤ dt D u u := fun D => by
      have := sm_mono (f := fun _ => 0) (g := fun c => u c * u c) D (fun i _ => by
        rcases Int.le_total 0 (u i) with z | z
        · exact Int.mul_nonneg z z
        · have := Int.mul_nonneg (show 0 ≤ -u i by omega) (show 0 ≤ -u i by omega)
          rw [Int.neg_mul_neg] at this
          exact this)
      rw [sm_0 D (fun _ _ => rfl)] at this
      exact this
    show _ ≤ dt D u u + u D * u D
    by_cases e : c = D
    · rw [e]
      have := nn D
      omega
    · have h1 := dt_ent (u := u) D (show c < D by omega)
      have h2 := nn (D + 1)
      have h3 : 0 ≤ u D * u D := by
        rcases Int.le_total 0 (u D) with z | z
        · exact Int.mul_nonneg z z
        · have := Int.mul_nonneg (show 0 ≤ -u D by omega) (show 0 ≤ -u D by omega)
          rw [Int.neg_mul_neg] at this
          exact this
      omega
theorem ent6 {u : Nat → Int} (h : dt 16 u u ≤ 36) {c : Nat} (hc : c < 16) : -6 ≤ u c ∧ u c ≤ 6 := by
  have h1 := dt_ent (u := u) 16 hc
  constructor
  · by_cases z : -6 ≤ u c
    · exact z
    · have := Int.mul_le_mul (show 7 ≤ -u c by omega) (show 7 ≤ -u c by omega) (by omega) (by omega)
      rw [Int.neg_mul_neg] at this
      omega
  · by_cases z : u c ≤ 6
    · exact z
    · have := Int.mul_le_mul (show 7 ≤ u c by omega) (show 7 ≤ u c by omega) (by omega) (by omega)
      omega
theorem dt_small {u v : Nat → Int} (h : dt 16 u u ≤ 36) (h2 : dt 16 v v ≤ 36) : -576 ≤ dt 16 u v ∧ dt 16 u v ≤ 576 := by
  have := sm_wnI (f := fun c => u c * v c) (B := 36) 16 (fun c hc => by
    obtain ⟨a, b⟩ := ent6 h hc
    obtain ⟨d, e⟩ := ent6 h2 hc
    have m1 := Int.mul_nonneg (show 0 ≤ 6 - u c by omega) (show 0 ≤ 6 - v c by omega)
    have m2 := Int.mul_nonneg (show 0 ≤ 6 + u c by omega) (show 0 ≤ 6 + v c by omega)
    have m3 := Int.mul_nonneg (show 0 ≤ 6 - u c by omega) (show 0 ≤ 6 + v c by omega)
    have m4 := Int.mul_nonneg (show 0 ≤ 6 + u c by omega) (show 0 ≤ 6 - v c by omega)
    constructor <;> grind)
  unfold dt
  omega
/-- the rows of balance, and what is wanting to each -/
def BA (I : Nat → Nat → Int32) (A : Nat → Nat → Int) (g : Nat → Int) (n : Nat) : Prop := I 76 2 = nI n ∧ n ≤ 16 ∧ (∀ i, i < n → (∀ c, c < 16 → I (78 + i) c = zI (A i c)) ∧ I 94 i = zI (g i)) ∧ (∀ i, i < n → dt 16 (A i) (A i) ≤ 36 ∧ -14000 ≤ g i ∧ g i ≤ 14000)
/-- the rough numbers -/
def RO (I : Nat → Nat → Int32) (ρ : Nat → Int) : Prop := ∀ c, c < 16 → I 3 c = zI (ρ c) ∧ -1000 ≤ ρ c ∧ ρ c ≤ 1000
abbrev offB (s : Nat) : Prop := (5 ≤ s ∧ s + 2 < 11) ∨ 133 < s
set_option maxHeartbeats 4000000 in
set_option maxRecDepth 20000 in
theorem sp_badd (L : Nat) (I : Nat → Nat → Int32) (J : Nat → Nat → Int64) (w : Nat → Nat) (s : Nat) (hs : isSum s) (ho : offB s) (t : Nat → Int) (hT : isT I s t) (ρ : Nat → Int) (hρ : RO I ρ) (A : Nat → Nat → Int) (g : Nat → Int) (n : Nat) (hn : n < 16) (hB : BA I A g n) : SP m_Ba_add [.ref 76, .ref s, .ref 3] (hp L I J w) (fun v h => v = none ∧ ∃ I' : Nat → Nat → Int32, FR 76 133 I J I' J ∧ BA I' (beh A n t) (fun i => if i < n then g i else gp t ρ) (n + 1) ∧ h = hp L I' J w) := by
  have gb := gp_bound hT (fun c hc => (hρ c hc).2)
  have hsr := isT_srt hT
  obtain ⟨m, nm, fc, hT⟩ := hT
  have hst := sm_terms hT ρ
  obtain ⟨t1, t2, t3, t4, t5, t6, t7⟩ := hT
  obtain ⟨b1, b2, b3, b4⟩ := hB
  have fi := fa_i (L := L) w hn
  unfold SP
  iterate 3 (refine WP.st rfl ?_)
  refine WP.ict rfl (show I 76 2 < nI 16 by rw [b1]; exact nI_lt hn (by omega)) ?_
  iterate 4 (refine WP.st rfl ?_)
  refine WP.aald (k := n) rfl (b1) (Or.inr (Or.inr (Or.inl rfl))) (show n < 16 from hn) (rfl) (fi.1) ?_
  iterate 5 (refine WP.st rfl ?_)
  have lk : Nat.ble (LL L (78 + n)) 2560 = true := by rw [fi.2.2]; rfl
  refine WP.inv (fun i (K : Nat → Nat → Int32) => (27, [some (.ref 76), some (.ref s), some (.ref 3), some (.ref (78 + n)), some (.int (nI i)), none, none], [.int (nI 16), .int (nI i)], hp L K J w, 0, 0)) (fun i K => (∀ c, c ≠ 78 + n → K c = I c) ∧ ∀ k, k < i → K (78 + n) k = zI 0) 16 I ⟨fun _ _ => rfl, fun k hk => absurd hk (Nat.not_lt_zero k)⟩ (fun i K hi hv kk => ?_) (fun K hv => ?_)
  · refine WP.icf rfl (nI_ge hi (by omega)) ?_
    iterate 3 (refine WP.st rfl ?_)
    refine WP.iast (k := i) rfl (rfl) (fi.2.1) (show i < LL L (78 + n) by rw [fi.2.2]; exact hi) (lk) ?_
    iterate 4 (refine WP.st rfl ?_)
    have kk2 := kk (mm_up K (78 + n) i (zI 0)) ⟨fun c hc => (up_ne K _ hc).trans (hv.1 c hc), fun k hk => by
      by_cases e : k = i
      · rw [e]; exact mm_up_at K _ _ _
      · exact (up_nk K _ e).trans (hv.2 k (by omega))⟩
    rw [nI_succ i] at kk2
    exact kk2
  · obtain ⟨v1, v2⟩ := hv
    have ks : K s = I s := v1 s (by omega)
    have ks1 : K (s + 1) = I (s + 1) := v1 (s + 1) (by omega)
    have ks2 : K (s + 2) = I (s + 2) := v1 (s + 2) (by omega)
    refine WP.ict rfl (nI_le (Nat.le_refl _) (by omega)) ?_
    iterate 1 (refine WP.st rfl ?_)
    refine WP.get (v := .int (zI (t 16))) rfl rfl (hs.1) (congrArg Value.int ((congrFun ks 0).trans t1)) ?_
    iterate 5 (refine WP.st rfl ?_)
    refine WP.get (v := .int (nI m)) rfl rfl (hs.1) (congrArg Value.int ((congrFun ks 1).trans t4)) ?_
    rw [show zI (t 16) = zI (t 16 - sm (fun k => fc k * ρ (nm k)) 0) from congrArg zI (Int.sub_zero _).symm]
    refine WP.inv (fun i (σ : (Nat → Nat → Int32) × Option Value) => (56, [some (.ref 76), some (.ref s), some (.ref 3), some (.ref (78 + n)), some (.int (zI (t 16 - sm (fun k => fc k * ρ (nm k)) i))), some (.int (nI i)), σ.2], [.int (nI m), .int (nI i)], hp L σ.1 J w, 0, 0)) (fun i σ => (∀ c, c ≠ 78 + n → σ.1 c = I c) ∧ (∀ c, c < 16 → (∀ k, k < i → nm k = c → σ.1 (78 + n) c = zI (fc k)) ∧ ((∀ k, k < i → nm k ≠ c) → σ.1 (78 + n) c = zI 0))) m (K, none) ⟨v1, fun c hc => ⟨fun k hk => absurd hk (Nat.not_lt_zero k), fun _ => v2 c hc⟩⟩ (fun i σ hi hv kk => ?_) (fun σ hv => ?_)
    · obtain ⟨M, o6⟩ := σ
      obtain ⟨u1, u2, u3, u4, u5, u6, u7⟩ := t5 i hi
      obtain ⟨f1, f2⟩ := hv
      dsimp only at f1 f2 ⊢
      have ms : M s = I s := f1 s (by omega)
      have ms1 : M (s + 1) = I (s + 1) := f1 (s + 1) (by omega)
      have ms2 : M (s + 2) = I (s + 2) := f1 (s + 2) (by omega)
      refine WP.icf rfl (nI_ge hi (by omega)) ?_
      iterate 1 (refine WP.st rfl ?_)
      refine WP.get (v := .ref (s + 1)) rfl rfl (hs.1) (congrArg mm_rv (sum_num w hs)) ?_
      iterate 1 (refine WP.st rfl ?_)
      refine WP.iald (k := i) rfl (rfl) (Or.inl hs.2.1) (show i < LL L (s + 1) by rw [sum_l1 hs]; omega) (show Nat.ble (LL L (s + 1)) 2560 = true by rw [sum_l1 hs]; rfl) ?_
      rw [show hI (hp L M J w) (s + 1) i = nI (nm i) from (congrFun ms1 i).trans u1]
      iterate 4 (refine WP.st rfl ?_)
      refine WP.get (v := .ref (s + 2)) rfl rfl (hs.1) (congrArg mm_rv (sum_fac w hs)) ?_
      iterate 1 (refine WP.st rfl ?_)
      refine WP.iald (k := i) rfl (rfl) (Or.inl hs.2.2.1) (show i < LL L (s + 2) by rw [sum_l2 hs]; omega) (show Nat.ble (LL L (s + 2)) 2560 = true by rw [sum_l2 hs]; rfl) ?_
      rw [show hI (hp L M J w) (s + 2) i = zI (fc i) from (congrFun ms2 i).trans u3]
      refine WP.iast (k := nm i) rfl (rfl) (fi.2.1) (show nm i < LL L (78 + n) by rw [fi.2.2]; exact u2) (lk) ?_
      iterate 2 (refine WP.st rfl ?_)
      refine WP.get (v := .ref (s + 2)) rfl rfl (hs.1) (congrArg mm_rv (sum_fac w hs)) ?_
      iterate 1 (refine WP.st rfl ?_)
      refine WP.iald (k := i) rfl (rfl) (Or.inl hs.2.2.1) (show i < LL L (s + 2) by rw [sum_l2 hs]; omega) (show Nat.ble (LL L (s + 2)) 2560 = true by rw [sum_l2 hs]; rfl) ?_
      rw [show hI (putI (hp L M J w) (78 + n) (nm i) (zI (fc i))) (s + 2) i = zI (fc i) from (congrFun (up_ne M _ (by omega)) i).trans ((congrFun ms2 i).trans u3)]
      iterate 2 (refine WP.st rfl ?_)
      refine WP.iald (k := nm i) rfl (rfl) (Or.inl rfl) (show nm i < 16 from u2) (rfl) ?_
      rw [show hI (putI (hp L M J w) (78 + n) (nm i) (zI (fc i))) 3 (nm i) = zI (ρ (nm i)) from (congrFun (up_ne M _ (by omega)) (nm i)).trans ((congrFun (f1 3 (by omega)) (nm i)).trans (hρ (nm i) u2).1)]
      iterate 1 (refine WP.st rfl ?_)
      rw [zI_mul]
      iterate 1 (refine WP.st rfl ?_)
      rw [zI_sub]
      iterate 5 (refine WP.st rfl ?_)
      refine WP.get (v := .int (nI m)) rfl rfl (hs.1) (congrArg Value.int ((congrFun (up_ne M (zI (fc i)) (show s ≠ 78 + n by omega)) 1).trans ((congrFun ms 1).trans t4))) ?_
      have kk2 := kk (mm_up M (78 + n) (nm i) (zI (fc i)), some (.int (nI (nm i)))) ⟨fun c hc => (up_ne M _ hc).trans (f1 c hc), fun c hc => ?_⟩
      · rw [nI_succ i] at kk2
        rw [show t 16 - sm (fun k => fc k * ρ (nm k)) i - fc i * ρ (nm i) = t 16 - sm (fun k => fc k * ρ (nm k)) (i + 1) by show _ = t 16 - (sm (fun k => fc k * ρ (nm k)) i + fc i * ρ (nm i)); omega]
        exact kk2
      · dsimp only
        by_cases e : c = nm i
        · subst e
          refine ⟨fun k hk hkc => ?_, fun hno => absurd rfl (hno i (by omega))⟩
          by_cases e2 : k = i
          · rw [e2]; exact mm_up_at M _ _ _
          · exact absurd hkc (t6 k i (by omega) hi)
        · refine ⟨fun k hk hkc => ?_, fun hno => ?_⟩
          · have : k ≠ i := fun z => by subst z; exact e hkc.symm
            exact (up_nk M _ e).trans ((f2 c hc).1 k (by omega) hkc)
          · exact (up_nk M _ e).trans ((f2 c hc).2 (fun k hk => hno k (by omega)))
    · obtain ⟨M, o6⟩ := σ
      obtain ⟨f1, f2⟩ := hv
      dsimp only at f1 f2 ⊢
      have m76 : M 76 2 = nI n := (congrFun (f1 76 (by omega)) 2).trans b1
      refine WP.ict rfl (nI_le (Nat.le_refl _) (by omega)) ?_
      iterate 5 (refine WP.st rfl ?_)
      refine WP.iast (k := n) rfl (m76) (rfl) (show n < 16 from hn) (rfl) ?_
      iterate 6 (refine WP.st rfl ?_)
      rw [show hI (putI (hp L M J w) 94 n (zI (t 16 - sm (fun k => fc k * ρ (nm k)) m))) 76 2 = nI n from (show mm_up M 94 n (zI (t 16 - sm (fun k => fc k * ρ (nm k)) m)) 76 2 = nI n from (congrFun (up_ne M _ (by decide)) 2).trans m76)]
      have fin : ∀ (i : Nat) (c : Nat), i < n → mm_up (mm_up M 94 n (zI (t 16 - sm (fun k => fc k * ρ (nm k)) m))) 76 2 (nI (n + 1)) (78 + i) c = I (78 + i) c := fun i c hi => by
        rw [up_ne _ _ (by omega), up_ne M _ (by omega), f1 (78 + i) (by omega)]
      refine WP.ret rfl ⟨rfl, mm_up (mm_up M 94 n (zI (t 16 - sm (fun k => fc k * ρ (nm k)) m))) 76 2 (nI (n + 1)), fun c hc => ⟨(up_ne _ _ (by omega)).trans ((up_ne M _ (by omega)).trans (f1 c (by omega))), rfl⟩, ⟨mm_up_at _ 76 2 _, by omega, fun i hi => ?_, fun i hi => ?_⟩, ?_⟩
      · unfold beh
        by_cases e : i < n
        · simp only [e, if_true]
          refine ⟨fun c hc => (fin i c e).trans ((b3 i e).1 c hc), ?_⟩
          rw [up_ne _ _ (by decide), up_nk M _ (by omega), f1 94 (by omega)]
          exact (b3 i e).2
        · obtain rfl : i = n := by omega
          simp only [e, if_false]
          refine ⟨fun c hc => ?_, ?_⟩
          · rw [up_ne _ _ (by omega), up_ne M _ (by omega)]
            by_cases ex : ∃ k, k < m ∧ nm k = c
            · obtain ⟨k, hk, hkc⟩ := ex
              have := (t5 k hk).2.2.2.2.2.2
              rw [hkc] at this
              rw [this]
              exact (f2 c hc).1 k hk hkc
            · have hno : ∀ k, k < m → nm k ≠ c := fun k hk z => ex ⟨k, hk, z⟩
              rw [t7 c hc hno]
              exact (f2 c hc).2 hno
          · rw [up_ne _ _ (by decide), mm_up_at]
            unfold gp
            rw [hst]
      · unfold beh
        by_cases e : i < n
        · simp only [e, if_true]; exact b4 i e
        · simp only [e, if_false]; exact ⟨hsr.1, gb⟩
      · rw [nI_succ n]
        rfl
theorem ev_dot (L : Nat) (I : Nat → Nat → Int32) (J : Nat → Nat → Int64) (w : Nat → Nat) (a b : Nat) (ka : KK a = 9) (kb : KK b = 9) (la : LL L a = 16) (lb : LL L b = 16) (u v : Nat → Int) (hu : ∀ c, c < 16 → I a c = zI (u c)) (hv : ∀ c, c < 16 → I b c = zI (v c)) : EV m_Ba_dot [.ref a, .ref b] (hp L I J w) (some (.int (zI (dt 16 u v)))) (hp L I J w) := by
  have ba : Nat.ble (LL L a) 2560 = true := by rw [la]; rfl
  have bb : Nat.ble (LL L b) 2560 = true := by rw [lb]; rfl
  obtain ⟨r, h, e, q⟩ : SP m_Ba_dot [.ref a, .ref b] (hp L I J w) (fun r h => r = some (.int (zI (dt 16 u v))) ∧ h = hp L I J w) := by
    unfold SP
    iterate 6 (refine WP.st rfl ?_)
    refine WP.inv (fun i (_ : Unit) => (7, [some (.ref a), some (.ref b), some (.int (zI (dt i u v))), some (.int (nI i))], [.int (nI 16), .int (nI i)], hp L I J w, 0, 0)) (fun _ _ => True) 16 () trivial (fun i _ hi _ kk => ?_) (fun _ _ => ?_)
    · refine WP.icf rfl (nI_ge hi (by omega)) ?_
      iterate 3 (refine WP.st rfl ?_)
      refine WP.iald (k := i) rfl (rfl) (Or.inl ka) (show i < LL L a by rw [la]; exact hi) (ba) ?_
      rw [show hI (hp L I J w) a i = zI (u i) from hu i hi]
      iterate 2 (refine WP.st rfl ?_)
      refine WP.iald (k := i) rfl (rfl) (Or.inl kb) (show i < LL L b by rw [lb]; exact hi) (bb) ?_
      rw [show hI (hp L I J w) b i = zI (v i) from hv i hi]
      iterate 1 (refine WP.st rfl ?_)
      rw [zI_mul]
      iterate 1 (refine WP.st rfl ?_)
      rw [zI_add]
      iterate 5 (refine WP.st rfl ?_)
      have kk2 := kk () trivial
      rw [nI_succ i] at kk2
      exact kk2
    · skip
      refine WP.ict rfl (nI_le (Nat.le_refl _) (by omega)) ?_
      iterate 1 (refine WP.st rfl ?_)
      exact WP.ret rfl ⟨rfl, rfl⟩
  obtain ⟨rfl, rfl⟩ := q
  exact e
end
section
/-! Balance: fillTable, aimAt, aimAtStrain -/
set_option maxHeartbeats 4000000 in
set_option maxRecDepth 20000 in
theorem sp_fillTable (L : Nat) (I : Nat → Nat → Int32) (J : Nat → Nat → Int64) (w : Nat → Nat) (A : Nat → Nat → Int) (g : Nat → Int) (n : Nat) (hB : BA I A g n) (s : Int) (hs : -1000 ≤ s ∧ s ≤ 1000) : SP m_Ba_fillTable [.ref 76, .int (zI s)] (hp L I J w) (fun v h => v = none ∧ ∃ K : Nat → Nat → Int64, (∀ c, c < 96 ∨ 112 < c → K c = J c) ∧ (∀ a b, a < n → b < n → K (96 + a) b = zJ (gm 16 A a b)) ∧ (∀ a, a < n → K (96 + a) n = zJ (g a)) ∧ K (96 + n) n = zJ s ∧ h = hp L I K w) := by
  obtain ⟨b1, b2, b3, b4⟩ := hB
  unfold SP
  iterate 5 (refine WP.st rfl ?_)
  refine WP.inv (fun i (σ : (Nat → Nat → Int64) × Option Value × Option Value) => (7, [some (.ref 76), some (.int (zI s)), some (.int (nI i)), σ.2.1, σ.2.2], [.int (I 76 2), .int (nI i)], hp L I σ.1 w, 0, 0)) (fun i σ => (∀ c, c < 96 ∨ 112 < c → σ.1 c = J c) ∧ (∀ a b, a < i → b < i → σ.1 (96 + a) b = zJ (gm 16 A a b)) ∧ (∀ a, a < i → σ.1 (96 + a) n = zJ (g a))) n (J, none, none) ⟨fun _ _ => rfl, fun a b ha => absurd ha (Nat.not_lt_zero a), fun a ha => absurd ha (Nat.not_lt_zero a)⟩ (fun i σ hi hv kk => ?_) (fun σ hv => ?_)
  · obtain ⟨K, o3, o4⟩ := σ
    obtain ⟨v1, v2, v3⟩ := hv
    dsimp only at v1 v2 v3 ⊢
    have fi := fa_i (L := L) w (show i < 16 by omega)
    have ti := tb_i (L := L) w (show i < 17 by omega)
    refine WP.icf rfl (show ¬ I 76 2 ≤ nI i by rw [b1]; exact nI_ge hi (by omega)) ?_
    iterate 4 (refine WP.st rfl ?_)
    refine WP.inv (fun j (σ : (Nat → Nat → Int64) × Option Value) => (14, [some (.ref 76), some (.int (zI s)), some (.int (nI i)), some (.int (nI j)), σ.2], [.int (nI i), .int (nI j)], hp L I σ.1 w, 0, 0)) (fun j σ => (∀ c, c < 96 ∨ 112 < c → σ.1 c = J c) ∧ (∀ a b, a < i → b < i → σ.1 (96 + a) b = zJ (gm 16 A a b)) ∧ (∀ a, a < i → σ.1 (96 + a) n = zJ (g a)) ∧ (∀ b, b < j → σ.1 (96 + i) b = zJ (gm 16 A i b) ∧ σ.1 (96 + b) i = zJ (gm 16 A i b))) (i + 1) (K, o4) ⟨v1, v2, v3, fun b hb => absurd hb (Nat.not_lt_zero b)⟩ (fun j σ hj hv kk2 => ?_) (fun σ hv => ?_)
    · obtain ⟨K, o4⟩ := σ
      obtain ⟨v1, v2, v3, v4⟩ := hv
      dsimp only at v1 v2 v3 v4 ⊢
      have fj := fa_i (L := L) w (show j < 16 by omega)
      have tj := tb_i (L := L) w (show j < 17 by omega)
      refine WP.icf rfl (show ¬ nI i < nI j from nI_nlt (by omega) (by omega)) ?_
      iterate 3 (refine WP.st rfl ?_)
      refine WP.aald (k := i) rfl (rfl) (Or.inr (Or.inr (Or.inl rfl))) (show i < 16 by omega) (rfl) (fi.1) ?_
      iterate 3 (refine WP.st rfl ?_)
      refine WP.aald (k := j) rfl (rfl) (Or.inr (Or.inr (Or.inl rfl))) (show j < 16 by omega) (rfl) (fj.1) ?_
      refine WP.calle rfl rfl (ev_dot L I K w (78 + i) (78 + j) fi.2.1 fj.2.1 fi.2.2 fj.2.2 (A i) (A j) (b3 i hi).1 (b3 j (by omega)).1) ?_
      have db := dt_small (b4 i hi).1 (b4 j (by omega)).1
      iterate 4 (refine WP.st rfl ?_)
      refine WP.aald (k := i) rfl (rfl) (Or.inr (Or.inr (Or.inr rfl))) (show i < 17 by omega) (rfl) (ti.1) ?_
      iterate 3 (refine WP.st rfl ?_)
      rw [zI_l (by omega) (by omega)]
      refine WP.last (k := j) rfl (rfl) (ti.2.1) (show j < LL L (96 + i) by rw [ti.2.2]; omega) (show Nat.ble (LL L (96 + i)) 2560 = true by rw [ti.2.2]; rfl) ?_
      iterate 3 (refine WP.st rfl ?_)
      refine WP.aald (k := j) rfl (rfl) (Or.inr (Or.inr (Or.inr rfl))) (show j < 17 by omega) (rfl) (tj.1) ?_
      iterate 3 (refine WP.st rfl ?_)
      rw [zI_l (by omega) (by omega)]
      refine WP.last (k := i) rfl (rfl) (tj.2.1) (show i < LL L (96 + j) by rw [tj.2.2]; omega) (show Nat.ble (LL L (96 + j)) 2560 = true by rw [tj.2.2]; rfl) ?_
      iterate 4 (refine WP.st rfl ?_)
      have kk3 := kk2 (mm_up (mm_up K (96 + i) j (zJ (dt 16 (A i) (A j)))) (96 + j) i (zJ (dt 16 (A i) (A j))), some (.int (zI (dt 16 (A i) (A j))))) ⟨fun c hc => (up_ne _ _ (by omega)).trans ((up_ne K _ (by omega)).trans (v1 c hc)), fun a b ha hb => (mm_up_off _ _ (by omega)).trans ((mm_up_off K _ (by omega)).trans (v2 a b ha hb)), fun a ha => (mm_up_off _ _ (by omega)).trans ((mm_up_off K _ (by omega)).trans (v3 a ha)), fun b hb => ?_⟩
      · rw [nI_succ j] at kk3
        exact kk3
      · by_cases e : b = j
        · subst e
          refine ⟨?_, mm_up_at _ _ _ _⟩
          dsimp only
          by_cases e2 : b = i
          · subst e2
            exact mm_up_at _ _ _ _
          · exact (mm_up_off _ _ (by omega)).trans (mm_up_at _ _ _ _)
        · exact ⟨(mm_up_off _ _ (by omega)).trans ((mm_up_off K _ (by omega)).trans (v4 b (by omega)).1), (mm_up_off _ _ (by omega)).trans ((mm_up_off K _ (by omega)).trans (v4 b (by omega)).2)⟩
    · obtain ⟨K, o4⟩ := σ
      obtain ⟨v1, v2, v3, v4⟩ := hv
      dsimp only at v1 v2 v3 v4 ⊢
      have gb := (b4 i hi).2
      refine WP.ict rfl (show nI i < nI (i + 1) from nI_lt (by omega) (by omega)) ?_
      iterate 3 (refine WP.st rfl ?_)
      refine WP.aald (k := i) rfl (rfl) (Or.inr (Or.inr (Or.inr rfl))) (show i < 17 by omega) (rfl) (ti.1) ?_
      iterate 5 (refine WP.st rfl ?_)
      refine WP.iald (k := i) rfl (rfl) (Or.inl rfl) (show i < 16 by omega) (rfl) ?_
      rw [show hI (hp L I K w) 94 i = zI (g i) from (b3 i hi).2]
      iterate 1 (refine WP.st rfl ?_)
      rw [zI_l (by omega) (by omega)]
      refine WP.last (k := n) rfl (b1) (ti.2.1) (show n < LL L (96 + i) by rw [ti.2.2]; omega) (show Nat.ble (LL L (96 + i)) 2560 = true by rw [ti.2.2]; rfl) ?_
      iterate 5 (refine WP.st rfl ?_)
      have kk3 := kk (mm_up K (96 + i) n (zJ (g i)), some (.int (nI (i + 1))), o4) ⟨fun c hc => (up_ne K _ (by omega)).trans (v1 c hc), fun a b ha hb => ?_, fun a ha => ?_⟩
      · rw [nI_succ i] at kk3 ⊢
        exact kk3
      · refine (mm_up_off K _ (by omega)).trans ?_
        by_cases e : a = i
        · rw [e]; exact (v4 b hb).1
        · by_cases e2 : b = i
          · rw [e2, gm_sym]; exact (v4 a (by omega)).2
          · exact v2 a b (by omega) (by omega)
      · by_cases e : a = i
        · rw [e]; exact mm_up_at K _ _ _
        · exact (mm_up_off K _ (by omega)).trans (v3 a (by omega))
  · obtain ⟨K, o3, o4⟩ := σ
    obtain ⟨v1, v2, v3⟩ := hv
    dsimp only at v1 v2 v3 ⊢
    have tn := tb_i (L := L) w (show n < 17 by omega)
    refine WP.ict rfl (show I 76 2 ≤ nI n by rw [b1]; exact nI_le (Nat.le_refl _) (by omega)) ?_
    iterate 4 (refine WP.st rfl ?_)
    refine WP.aald (k := n) rfl (b1) (Or.inr (Or.inr (Or.inr rfl))) (show n < 17 by omega) (rfl) (tn.1) ?_
    iterate 4 (refine WP.st rfl ?_)
    rw [zI_l (by omega) (by omega)]
    refine WP.last (k := n) rfl (b1) (tn.2.1) (show n < LL L (96 + n) by rw [tn.2.2]; omega) (show Nat.ble (LL L (96 + n)) 2560 = true by rw [tn.2.2]; rfl) ?_
    exact WP.ret rfl ⟨rfl, _, fun c hc => (up_ne K _ (by omega)).trans (v1 c hc), fun a b ha hb => (mm_up_off K _ (by omega)).trans (v2 a b ha hb), fun a ha => (mm_up_off K _ (by omega)).trans (v3 a ha), mm_up_at K _ _ _, rfl⟩
/-- the table -/
def TB (J : Nat → Nat → Int64) (n : Nat) (M : Nat → Nat → Int) : Prop := ∀ i j, i ≤ n → j ≤ n → J (96 + i) j = zJ (M i j)
theorem TB_of {K : Nat → Nat → Int64} {n : Nat} {A : Nat → Nat → Int} {g v : Nat → Int} {s : Int} (h1 : ∀ a b, a < n → b < n → K (96 + a) b = zJ (gm 16 A a b)) (h2 : ∀ a, a < n → K (96 + a) n = zJ (g a)) (h3 : K (96 + n) n = zJ s) (h4 : ∀ b, b < n → K (96 + n) b = zJ (- v b)) : TB K n (bd n (gm 16 A) g v s) := by
  intro i j hi hj
  by_cases e1 : i < n
  · by_cases e2 : j < n
    · rw [bd_in e1 e2]; exact h1 i j e1 e2
    · obtain rfl : j = n := by omega
      rw [bd_col e1]; exact h2 i e1
  · obtain rfl : i = n := by omega
    by_cases e2 : j < i
    · rw [bd_row e2]; exact h4 j e2
    · obtain rfl : j = i := by omega
      rw [bd_cor]; exact h3
set_option maxHeartbeats 4000000 in
set_option maxRecDepth 20000 in
theorem sp_aimAt (L : Nat) (I : Nat → Nat → Int32) (J : Nat → Nat → Int64) (w : Nat → Nat) (A : Nat → Nat → Int) (g : Nat → Int) (n : Nat) (hB : BA I A g n) (k : Nat) (hk : k < 16) (s : Int) (hs : -1000 ≤ s ∧ s ≤ 1000) : SP m_Ba_aimAt [.ref 76, .int (nI k), .int (zI s)] (hp L I J w) (fun v h => v = none ∧ ∃ K : Nat → Nat → Int64, (∀ c, c < 96 ∨ 112 < c → K c = J c) ∧ TB K n (bd n (gm 16 A) g (fun i => A i k) s) ∧ h = hp L I K w) := by
  have hB' := hB
  obtain ⟨b1, b2, b3, b4⟩ := hB
  have tn := tb_i (L := L) w (show n < 17 by omega)
  unfold SP
  iterate 2 (refine WP.st rfl ?_)
  refine WP.call rfl rfl (sp_fillTable L I J w A g n hB' s hs) ?_
  rintro _ _ ⟨rfl, K, k1, k2, k3, k4, rfl⟩
  iterate 5 (refine WP.st rfl ?_)
  refine WP.inv (fun i (K : Nat → Nat → Int64) => (12, [some (.ref 76), some (.int (nI k)), some (.int (zI s)), some (.int (nI i))], [.int (I 76 2), .int (nI i)], hp L I K w, 0, 0)) (fun i K => (∀ c, c < 96 ∨ 112 < c → K c = J c) ∧ (∀ a b, a < n → b < n → K (96 + a) b = zJ (gm 16 A a b)) ∧ (∀ a, a < n → K (96 + a) n = zJ (g a)) ∧ K (96 + n) n = zJ s ∧ (∀ b, b < i → K (96 + n) b = zJ (- A b k))) n K ⟨k1, k2, k3, k4, fun b hb => absurd hb (Nat.not_lt_zero b)⟩ (fun i K hi hv kk => ?_) (fun K hv => ?_)
  · obtain ⟨k1, k2, k3, k4, k5⟩ := hv
    have fi := fa_i (L := L) w (show i < 16 by omega)
    have e6 := ent6 (b4 i hi).1 hk
    refine WP.icf rfl (show ¬ I 76 2 ≤ nI i by rw [b1]; exact nI_ge hi (by omega)) ?_
    iterate 4 (refine WP.st rfl ?_)
    refine WP.aald (k := n) rfl (b1) (Or.inr (Or.inr (Or.inr rfl))) (show n < 17 by omega) (rfl) (tn.1) ?_
    iterate 4 (refine WP.st rfl ?_)
    refine WP.aald (k := i) rfl (rfl) (Or.inr (Or.inr (Or.inl rfl))) (show i < 16 by omega) (rfl) (fi.1) ?_
    iterate 1 (refine WP.st rfl ?_)
    refine WP.iald (k := k) rfl (rfl) (Or.inl fi.2.1) (show k < LL L (78 + i) by rw [fi.2.2]; omega) (show Nat.ble (LL L (78 + i)) 2560 = true by rw [fi.2.2]; rfl) ?_
    rw [show hI (hp L I K w) (78 + i) k = zI (A i k) from (b3 i hi).1 k hk]
    iterate 1 (refine WP.st rfl ?_)
    rw [zI_neg]
    iterate 1 (refine WP.st rfl ?_)
    rw [zI_l (by omega) (by omega)]
    refine WP.last (k := i) rfl (rfl) (tn.2.1) (show i < LL L (96 + n) by rw [tn.2.2]; omega) (show Nat.ble (LL L (96 + n)) 2560 = true by rw [tn.2.2]; rfl) ?_
    iterate 5 (refine WP.st rfl ?_)
    have kk2 := kk (mm_up K (96 + n) i (zJ (- A i k))) ⟨fun c hc => (up_ne K _ (by omega)).trans (k1 c hc), fun a b ha hb => (mm_up_off K _ (by omega)).trans (k2 a b ha hb), fun a ha => (mm_up_off K _ (by omega)).trans (k3 a ha), (mm_up_off K _ (by omega)).trans k4, fun b hb => by
      by_cases e : b = i
      · rw [e]; exact mm_up_at K _ _ _
      · exact (mm_up_off K _ (by omega)).trans (k5 b (by omega))⟩
    rw [nI_succ i] at kk2
    exact kk2
  · obtain ⟨k1, k2, k3, k4, k5⟩ := hv
    refine WP.ict rfl (show I 76 2 ≤ nI n by rw [b1]; exact nI_le (Nat.le_refl _) (by omega)) ?_
    exact WP.ret rfl ⟨rfl, K, k1, TB_of k2 k3 k4 k5, rfl⟩
set_option maxHeartbeats 4000000 in
set_option maxRecDepth 20000 in
theorem sp_aimStrain (L : Nat) (I : Nat → Nat → Int32) (J : Nat → Nat → Int64) (w : Nat → Nat) (A : Nat → Nat → Int) (g : Nat → Int) (n : Nat) (hB : BA I A g n) : SP m_Ba_aimAtStrain [.ref 76] (hp L I J w) (fun v h => v = none ∧ ∃ K : Nat → Nat → Int64, (∀ c, c < 96 ∨ 112 < c → K c = J c) ∧ TB K n (bd n (gm 16 A) g g 0) ∧ h = hp L I K w) := by
  have hB' := hB
  obtain ⟨b1, b2, b3, b4⟩ := hB
  have tn := tb_i (L := L) w (show n < 17 by omega)
  unfold SP
  iterate 2 (refine WP.st rfl ?_)
  refine WP.call rfl rfl (sp_fillTable L I J w A g n hB' 0 (by omega)) ?_
  rintro _ _ ⟨rfl, K, k1, k2, k3, k4, rfl⟩
  iterate 5 (refine WP.st rfl ?_)
  refine WP.inv (fun i (K : Nat → Nat → Int64) => (12, [some (.ref 76), some (.int (nI i))], [.int (I 76 2), .int (nI i)], hp L I K w, 0, 0)) (fun i K => (∀ c, c < 96 ∨ 112 < c → K c = J c) ∧ (∀ a b, a < n → b < n → K (96 + a) b = zJ (gm 16 A a b)) ∧ (∀ a, a < n → K (96 + a) n = zJ (g a)) ∧ K (96 + n) n = zJ 0 ∧ (∀ b, b < i → K (96 + n) b = zJ (- g b))) n K ⟨k1, k2, k3, k4, fun b hb => absurd hb (Nat.not_lt_zero b)⟩ (fun i K hi hv kk => ?_) (fun K hv => ?_)
  · obtain ⟨k1, k2, k3, k4, k5⟩ := hv
    have gb := (b4 i hi).2
    refine WP.icf rfl (show ¬ I 76 2 ≤ nI i by rw [b1]; exact nI_ge hi (by omega)) ?_
    iterate 4 (refine WP.st rfl ?_)
    refine WP.aald (k := n) rfl (b1) (Or.inr (Or.inr (Or.inr rfl))) (show n < 17 by omega) (rfl) (tn.1) ?_
    iterate 4 (refine WP.st rfl ?_)
    refine WP.iald (k := i) rfl (rfl) (Or.inl rfl) (show i < 16 by omega) (rfl) ?_
    rw [show hI (hp L I K w) 94 i = zI (g i) from (b3 i hi).2]
    iterate 1 (refine WP.st rfl ?_)
    rw [zI_neg]
    iterate 1 (refine WP.st rfl ?_)
    rw [zI_l (by omega) (by omega)]
    refine WP.last (k := i) rfl (rfl) (tn.2.1) (show i < LL L (96 + n) by rw [tn.2.2]; omega) (show Nat.ble (LL L (96 + n)) 2560 = true by rw [tn.2.2]; rfl) ?_
    iterate 5 (refine WP.st rfl ?_)
    have kk2 := kk (mm_up K (96 + n) i (zJ (- g i))) ⟨fun c hc => (up_ne K _ (by omega)).trans (k1 c hc), fun a b ha hb => (mm_up_off K _ (by omega)).trans (k2 a b ha hb), fun a ha => (mm_up_off K _ (by omega)).trans (k3 a ha), (mm_up_off K _ (by omega)).trans k4, fun b hb => by
      by_cases e : b = i
      · rw [e]; exact mm_up_at K _ _ _
      · exact (mm_up_off K _ (by omega)).trans (k5 b (by omega))⟩
    rw [nI_succ i] at kk2
    exact kk2
  · obtain ⟨k1, k2, k3, k4, k5⟩ := hv
    refine WP.ict rfl (show I 76 2 ≤ nI n by rw [b1]; exact nI_le (Nat.le_refl _) (by omega)) ?_
    exact WP.ret rfl ⟨rfl, K, k1, TB_of k2 k3 k4 k5, rfl⟩
end
section
/-! Balance: the work on the table -/
def isP (w : Nat → Nat) : Prop := (∀ k, k < 17 → 114 ≤ w k ∧ w k ≤ 130) ∧ ∀ j k, j < 17 → k < 17 → w j = w k → j = k
theorem wk {L x : Nat} (h1 : 114 ≤ x) (h2 : x ≤ 130) : KK x = 10 ∧ LL L x = 17 := by
  have e : x = 114 ∨ x = 115 ∨ x = 116 ∨ x = 117 ∨ x = 118 ∨ x = 119 ∨ x = 120 ∨ x = 121 ∨ x = 122 ∨ x = 123 ∨ x = 124 ∨ x = 125 ∨ x = 126 ∨ x = 127 ∨ x = 128 ∨ x = 129 ∨ x = 130 := by omega
  rcases e with rfl | rfl | rfl | rfl | rfl | rfl | rfl | rfl | rfl | rfl | rfl | rfl | rfl | rfl | rfl | rfl | rfl <;> exact ⟨rfl, rfl⟩
theorem wk_i {L : Nat} {w : Nat → Nat} (hw : isP w) {i : Nat} (hi : i < 17) : KK (w i) = 10 ∧ LL L (w i) = 17 ∧ Nat.ble (LL L (w i)) 2560 = true := by
  have h := wk (L := L) (hw.1 i hi).1 (hw.1 i hi).2
  exact ⟨h.1, h.2, by rw [h.2]; rfl⟩
theorem RR_w (w : Nat → Nat) {i : Nat} (hi : i < 17) : RR w 113 i = some (w i) := (if_pos rfl).trans (if_pos hi)
theorem RR_up (w : Nat → Nat) {k : Nat} (hk : k < 17) (v : Nat) : mm_up (RR w) 113 k (some v) = RR (fun i => if i = k then v else w i) := by
  funext b j
  unfold mm_up RR
  by_cases e : b = 113
  · subst e
    by_cases e2 : j = k
    · subst e2
      simp [hk]
    · rw [if_neg (fun z => e2 z.2), if_pos rfl, if_pos rfl]
      by_cases e3 : j < 17
      · simp [e3, e2]
      · rw [if_neg e3, if_neg e3]
  · rw [if_neg (fun z => e z.1), if_neg e, if_neg e]
/-- the work table -/
def WM (J : Nat → Nat → Int64) (w : Nat → Nat) (n : Nat) (W : Nat → Nat → Int) : Prop := ∀ i j, i ≤ n → j ≤ n → J (w i) j = zJ (W i j)
set_option maxHeartbeats 4000000 in
set_option maxRecDepth 20000 in
theorem sp_fillWork (L : Nat) (I : Nat → Nat → Int32) (J : Nat → Nat → Int64) (w : Nat → Nat) (n : Nat) (hn : n ≤ 16) (hsz : I 76 2 = nI n) (hw : isP w) (M : Nat → Nat → Int) (hT : TB J n M) (hM : ∀ i j, i ≤ n → j ≤ n → -2 ^ 40 < M i j ∧ M i j < 2 ^ 40) (p : Int) (p2 : 2 ≤ p) (p3 : p < 2 ^ 31) : SP m_Ba_fillWork [.ref 76, .long (zJ p)] (hp L I J w) (fun v h => v = none ∧ ∃ K : Nat → Nat → Int64, (∀ c, c < 114 ∨ 130 < c → K c = J c) ∧ WM K w n (fun i j => M i j % p) ∧ h = hp L I K w) := by
  unfold SP
  iterate 5 (refine WP.st rfl ?_)
  refine WP.inv (fun i (σ : (Nat → Nat → Int64) × Option Value) => (7, [some (.ref 76), some (.long (zJ p)), none, some (.int (nI i)), σ.2], [.int (I 76 2), .int (nI i)], hp L I σ.1 w, 0, 0)) (fun i σ => (∀ c, c < 114 ∨ 130 < c → σ.1 c = J c) ∧ ∀ a b, a < i → b ≤ n → σ.1 (w a) b = zJ (M a b % p)) (n + 1) (J, none) ⟨fun _ _ => rfl, fun a b ha => absurd ha (Nat.not_lt_zero a)⟩ (fun i σ hi hv kk => ?_) (fun σ hv => ?_)
  · obtain ⟨K, o4⟩ := σ
    obtain ⟨v1, v2⟩ := hv
    dsimp only at v1 v2 ⊢
    have wi := wk_i (L := L) hw (show i < 17 by omega)
    have ti := tb_i (L := L) w (show i < 17 by omega)
    refine WP.icf rfl (show ¬ I 76 2 < nI i by rw [hsz]; exact nI_nlt (by omega) (by omega)) ?_
    iterate 5 (refine WP.st rfl ?_)
    refine WP.inv (fun j (K : Nat → Nat → Int64) => (19, [some (.ref 76), some (.long (zJ p)), none, some (.int (nI i)), some (.int (nI j))], [.int (I 76 2), .int (nI j)], hp L I K w, 0, 0)) (fun j K => (∀ c, c < 114 ∨ 130 < c → K c = J c) ∧ (∀ a b, a < i → b ≤ n → K (w a) b = zJ (M a b % p)) ∧ ∀ b, b < j → K (w i) b = zJ (M i b % p)) (n + 1) K ⟨v1, v2, fun b hb => absurd hb (Nat.not_lt_zero b)⟩ (fun j K hj hv kk2 => ?_) (fun K hv => ?_)
    · obtain ⟨v1, v2, v3⟩ := hv
      have hm := hM i j (by omega) (by omega)
      refine WP.icf rfl (show ¬ I 76 2 < nI j by rw [hsz]; exact nI_nlt (by omega) (by omega)) ?_
      iterate 3 (refine WP.st rfl ?_)
      refine WP.aald (k := i) rfl (rfl) (Or.inr (Or.inr (Or.inr rfl))) (show i < 17 by omega) (rfl) (RR_w w (show i < 17 by omega)) ?_
      iterate 4 (refine WP.st rfl ?_)
      refine WP.aald (k := i) rfl (rfl) (Or.inr (Or.inr (Or.inr rfl))) (show i < 17 by omega) (rfl) (ti.1) ?_
      iterate 1 (refine WP.st rfl ?_)
      refine WP.lald (k := j) rfl (rfl) (Or.inl ti.2.1) (show j < LL L (96 + i) by rw [ti.2.2]; omega) (show Nat.ble (LL L (96 + i)) 2560 = true by rw [ti.2.2]; rfl) ?_
      rw [show hJ (hp L I K w) (96 + i) j = zJ (M i j) from (congrFun (v1 (96 + i) (by omega)) j).trans (hT i j (by omega) (by omega))]
      iterate 1 (refine WP.st rfl ?_)
      refine WP.calle rfl rfl (ev_rem _ (M i j) p p2 (by omega) (by omega) (by omega)) ?_
      refine WP.last (k := j) rfl (rfl) (wi.1) (show j < LL L (w i) by rw [wi.2.1]; omega) (wi.2.2) ?_
      iterate 5 (refine WP.st rfl ?_)
      have kk3 := kk2 (mm_up K (w i) j (zJ (M i j % p))) ⟨fun c hc => (up_ne K _ (by have := hw.1 i (by omega); omega)).trans (v1 c hc), fun a b ha hb => (mm_up_off K _ (fun z => by have := hw.2 a i (by omega) (by omega) z.1; omega)).trans (v2 a b ha hb), fun b hb => by
        by_cases e : b = j
        · rw [e]; exact mm_up_at K _ _ _
        · exact (up_nk K _ e).trans (v3 b (by omega))⟩
      rw [nI_succ j] at kk3
      exact kk3
    · obtain ⟨v1, v2, v3⟩ := hv
      refine WP.ict rfl (show I 76 2 < nI (n + 1) by rw [hsz]; exact nI_lt (by omega) (by omega)) ?_
      iterate 5 (refine WP.st rfl ?_)
      have kk3 := kk (K, some (.int (nI (n + 1)))) ⟨v1, fun a b ha hb => by
        by_cases e : a = i
        · rw [e]; exact v3 b (by omega)
        · exact v2 a b (by omega) hb⟩
      rw [nI_succ i] at kk3
      exact kk3
  · obtain ⟨K, o4⟩ := σ
    obtain ⟨v1, v2⟩ := hv
    dsimp only at v1 v2 ⊢
    refine WP.ict rfl (show I 76 2 < nI (n + 1) by rw [hsz]; exact nI_lt (by omega) (by omega)) ?_
    exact WP.ret rfl ⟨rfl, K, v1, fun i j hi hj => v2 i j (by omega) hj, rfl⟩
set_option maxHeartbeats 4000000 in
set_option maxRecDepth 20000 in
theorem sp_findRow (L : Nat) (I : Nat → Nat → Int32) (J : Nat → Nat → Int64) (w : Nat → Nat) (n c : Nat) (hn : n ≤ 16) (hc : c < n) (hsz : I 76 2 = nI n) (hw : isP w) (W : Nat → Nat → Int) (hW : WM J w n W) (p : Int) (p3 : p < 2 ^ 31) (hr : ∀ i j, i ≤ n → j ≤ n → 0 ≤ W i j ∧ W i j < p) : SP m_Ba_findRow [.ref 76, .int (nI c)] (hp L I J w) (fun v h => h = hp L I J w ∧ ∃ x, v = some (.int x) ∧ ((∃ r, c ≤ r ∧ r < n ∧ W r c ≠ 0 ∧ x = nI r) ∨ ((∀ r, c ≤ r → r < n → W r c = 0) ∧ x = -1))) := by
  unfold SP
  iterate 5 (refine WP.st rfl ?_)
  refine WP.search (fun i => (7, [some (.ref 76), some (.int (nI c)), some (.int (nI (c + i)))], [.int (I 76 2), .int (nI (c + i))], hp L I J w, 0, 0)) (fun i => W (c + i) c ≠ 0) (n - c) (fun i hi hP hb => ?_) (fun i hi hP kk => ?_) (fun hP => ?_)
  · have wi := wk_i (L := L) hw (show c + i < 17 by omega)
    have rg := hr (c + i) c (by omega) (by omega)
    refine WP.icf rfl (show ¬ I 76 2 ≤ nI (c + i) by rw [hsz]; exact nI_ge (by omega) (by omega)) ?_
    iterate 3 (refine WP.st rfl ?_)
    refine WP.aald (k := c + i) rfl (rfl) (Or.inr (Or.inr (Or.inr rfl))) (show c + i < 17 by omega) (rfl) (RR_w w (show c + i < 17 by omega)) ?_
    iterate 1 (refine WP.st rfl ?_)
    refine WP.lald (k := c) rfl (rfl) (Or.inl wi.1) (show c < LL L (w (c + i)) by rw [wi.2.1]; omega) (wi.2.2) ?_
    rw [show hJ (hp L I J w) (w (c + i)) c = zJ (W (c + i) c) from hW (c + i) c (by omega) (by omega)]
    iterate 2 (refine WP.st rfl ?_)
    refine WP.iff rfl (fun z => hP ((zJ_eq (by omega) (by omega) (by decide) (by decide)).mp (lc_eq.mp z))) ?_
    iterate 1 (refine WP.st rfl ?_)
    exact WP.ret rfl ⟨rfl, _, rfl, Or.inl ⟨c + i, by omega, by omega, hP, rfl⟩⟩
  · have wi := wk_i (L := L) hw (show c + i < 17 by omega)
    refine WP.icf rfl (show ¬ I 76 2 ≤ nI (c + i) by rw [hsz]; exact nI_ge (by omega) (by omega)) ?_
    iterate 3 (refine WP.st rfl ?_)
    refine WP.aald (k := c + i) rfl (rfl) (Or.inr (Or.inr (Or.inr rfl))) (show c + i < 17 by omega) (rfl) (RR_w w (show c + i < 17 by omega)) ?_
    iterate 1 (refine WP.st rfl ?_)
    refine WP.lald (k := c) rfl (rfl) (Or.inl wi.1) (show c < LL L (w (c + i)) by rw [wi.2.1]; omega) (wi.2.2) ?_
    rw [show hJ (hp L I J w) (w (c + i)) c = zJ (W (c + i) c) from hW (c + i) c (by omega) (by omega)]
    iterate 2 (refine WP.st rfl ?_)
    refine WP.ift rfl (lc_eq.mpr (by rw [Classical.not_not.mp hP]; rfl)) ?_
    iterate 5 (refine WP.st rfl ?_)
    rw [show c + (i + 1) = c + i + 1 by omega, nI_succ (c + i)] at kk
    exact kk
  · skip
    refine WP.ict rfl (show I 76 2 ≤ nI (c + (n - c)) by rw [hsz]; exact nI_le (by omega) (by omega)) ?_
    iterate 1 (refine WP.st rfl ?_)
    exact WP.ret rfl ⟨rfl, _, rfl, Or.inr ⟨fun r h1 h2 => by
      have := Classical.not_not.mp (hP (r - c) (by omega))
      rw [show c + (r - c) = r by omega] at this
      exact this, rfl⟩⟩
/-- the rows of the work table swapped -/
def wsw (w : Nat → Nat) (r c : Nat) : Nat → Nat := fun i => if i = c then w r else if i = r then w c else w i
theorem wsw_P {w : Nat → Nat} (hw : isP w) {r c : Nat} (hr : r < 17) (hc : c < 17) : isP (wsw w r c) := by
  refine ⟨fun k hk => ?_, fun j k hj hk h => ?_⟩
  · unfold wsw
    split
    · exact hw.1 r hr
    · split
      · exact hw.1 c hc
      · exact hw.1 k hk
  · unfold wsw at h
    have := hw.2
    split at h
    · split at h
      · omega
      · split at h
        · have := this r c hr hc h; omega
        · have := this r k hr hk h; omega
    · split at h
      · split at h
        · have := this c r hc hr h; omega
        · split at h
          · omega
          · have := this c k hc hk h; omega
      · split at h
        · have := this j r hj hr h; omega
        · split at h
          · have := this j c hj hc h; omega
          · exact this j k hj hk h
theorem wsw_WM {J : Nat → Nat → Int64} {w : Nat → Nat} {n r c : Nat} {W : Nat → Nat → Int} (h : WM J w n W) (hr : r ≤ n) (hc : c ≤ n) (hrc : r ≠ c) : WM J (wsw w r c) n (sw W r c) := by
  intro i j hi hj
  unfold wsw sw
  by_cases e : i = c
  · rw [if_pos e, if_neg (by omega), if_pos e]
    exact h r j hr hj
  · rw [if_neg e]
    by_cases e2 : i = r
    · rw [if_pos e2, if_pos e2]
      exact h c j hc hj
    · rw [if_neg e2, if_neg e2, if_neg e]
      exact h i j hi hj
theorem ev_swapRows (L : Nat) (I : Nat → Nat → Int32) (J : Nat → Nat → Int64) (w : Nat → Nat) (r c : Nat) (hr : r < 17) (hc : c < 17) (hrc : r ≠ c) (hw : isP w) : EV m_Ba_swapRows [.ref 76, .int (nI r), .int (nI c)] (hp L I J w) none (hp L I J (wsw w r c)) := by
  obtain ⟨v, h, e, q⟩ : SP m_Ba_swapRows [.ref 76, .int (nI r), .int (nI c)] (hp L I J w) (fun v h => v = none ∧ h = hp L I J (wsw w r c)) := by
    unfold SP
    iterate 3 (refine WP.st rfl ?_)
    refine WP.aald (k := r) rfl (rfl) (Or.inr (Or.inr (Or.inr rfl))) (show r < 17 from hr) (rfl) (RR_w w hr) ?_
    iterate 7 (refine WP.st rfl ?_)
    refine WP.aald (k := c) rfl (rfl) (Or.inr (Or.inr (Or.inr rfl))) (show c < 17 from hc) (rfl) (RR_w w hc) ?_
    refine WP.aast (k := r) rfl (rfl) (Or.inr (Or.inr ⟨rfl, (wk_i (L := L) hw hc).1⟩)) (show r < 17 from hr) (rfl) ?_
    iterate 4 (refine WP.st rfl ?_)
    refine WP.aast (k := c) rfl (rfl) (Or.inr (Or.inr ⟨rfl, (wk_i (L := L) hw hr).1⟩)) (show c < 17 from hc) (rfl) ?_
    refine WP.ret rfl ⟨rfl, ?_⟩
    show (I, J, mm_up (mm_up (RR w) 113 r (some (w c))) 113 c (some (w r)), KK, LL L, 228) = _
    rw [RR_up w hr, RR_up _ hc]
    rfl
  obtain ⟨rfl, rfl⟩ := q
  exact e
set_option maxHeartbeats 4000000 in
set_option maxRecDepth 20000 in
theorem sp_clearBelow (L : Nat) (I : Nat → Nat → Int32) (J : Nat → Nat → Int64) (w : Nat → Nat) (n c : Nat) (hn : n ≤ 16) (hc : c < n) (hsz : I 76 2 = nI n) (hw : isP w) (M W : Nat → Nat → Int) (d : Int) (p : Int) (hpp : pm p) (p3 : p < 2 ^ 31) (hW : WM J w n W) (hO : clr_ok p n c M W d) (hcc : W c c ≠ 0) : SP m_Ba_clearBelow [.ref 76, .int (nI c), .long (zJ p)] (hp L I J w) (fun v h => v = none ∧ ∃ (K : Nat → Nat → Int64) (V : Nat → Nat → Int), (∀ q, q < 114 ∨ 130 < q → K q = J q) ∧ WM K w n V ∧ cbl p n c (n + 1) W V ∧ h = hp L I K w) := by
  have p1 := hpp.1
  have wc := wk_i (L := L) hw (show c < 17 by omega)
  have rg := hO.1 c c (by omega) (by omega)
  obtain ⟨u, u0, u1, ⟨z, hz⟩, hev⟩ := ev_inv (hp L I J w) (W c c) p (by omega) rg.2 p3 (pm_gcd hpp (fun hd => hcc (nz_dvd rg.1 rg.2 hd)))
  unfold SP
  iterate 3 (refine WP.st rfl ?_)
  refine WP.aald (k := c) rfl (rfl) (Or.inr (Or.inr (Or.inr rfl))) (show c < 17 by omega) (rfl) (RR_w w (show c < 17 by omega)) ?_
  iterate 1 (refine WP.st rfl ?_)
  refine WP.lald (k := c) rfl (rfl) (Or.inl wc.1) (show c < LL L (w c) by rw [wc.2.1]; omega) (wc.2.2) ?_
  rw [show hJ (hp L I J w) (w c) c = zJ (W c c) from hW c c (by omega) (by omega)]
  iterate 1 (refine WP.st rfl ?_)
  refine WP.calle rfl rfl (hev) ?_
  iterate 8 (refine WP.st rfl ?_)
  have key := WP.inv (mid := m_Ba_clearBelow) (Q := fun v h => v = none ∧ ∃ (K : Nat → Nat → Int64) (V : Nat → Nat → Int), (∀ q, q < 114 ∨ 130 < q → K q = J q) ∧ WM K w n V ∧ cbl p n c (n + 1) W V ∧ h = hp L I K w) (fun i (σ : (Nat → Nat → Int64) × Option Value × Option Value) => (25, [some (.ref 76), some (.int (nI c)), some (.long (zJ p)), none, some (.long (zJ u)), none, some (.int (nI (c + 1 + i))), σ.2.1, none, σ.2.2, none], [.int (I 76 2), .int (nI (c + 1 + i))], hp L I σ.1 w, 0, 0)) (fun i σ => (∀ q, q < 114 ∨ 130 < q → σ.1 q = J q) ∧ ∃ V, WM σ.1 w n V ∧ cbl p n c (c + 1 + i) W V) (n - c) (J, none, none) ⟨fun _ _ => rfl, W, hW, cbl_0 hO⟩ (fun i σ hi hv kk => ?_) (fun σ hv => ?_)
  · rw [nI_succ c] at key
    exact key
  · obtain ⟨K, o7, o9⟩ := σ
    obtain ⟨v1, V, v2, v3⟩ := hv
    dsimp only at v1 v2 ⊢
    have wi := wk_i (L := L) hw (show c + 1 + i < 17 by omega)
    have rg2 := v3.1 (c + 1 + i) c (by omega) (by omega)
    have vcc : V c c = W c c := v3.2.1 c c (Nat.le_refl c) (by omega)
    refine WP.icf rfl (show ¬ I 76 2 < nI (c + 1 + i) by rw [hsz]; exact nI_nlt (by omega) (by omega)) ?_
    iterate 3 (refine WP.st rfl ?_)
    refine WP.aald (k := c + 1 + i) rfl (rfl) (Or.inr (Or.inr (Or.inr rfl))) (show c + 1 + i < 17 by omega) (rfl) (RR_w w (show c + 1 + i < 17 by omega)) ?_
    iterate 1 (refine WP.st rfl ?_)
    refine WP.lald (k := c) rfl (rfl) (Or.inl wi.1) (show c < LL L (w (c + 1 + i)) by rw [wi.2.1]; omega) (wi.2.2) ?_
    rw [show hJ (hp L I K w) (w (c + 1 + i)) c = zJ (V (c + 1 + i) c) from v2 (c + 1 + i) c (by omega) (by omega)]
    iterate 4 (refine WP.st rfl ?_)
    by_cases e0 : V (c + 1 + i) c = 0
    · refine WP.ift rfl (lc_eq.mpr (by rw [e0]; rfl)) ?_
      iterate 5 (refine WP.st rfl ?_)
      have kk2 := kk (K, some (.long (zJ (V (c + 1 + i) c))), o9) ⟨v1, V, v2, cbl_skip (q := c + 1 + i) v3 (by omega) e0⟩
      rw [show c + 1 + (i + 1) = c + 1 + i + 1 by omega, nI_succ (c + 1 + i)] at kk2
      exact kk2
    · skip
      refine WP.iff rfl (fun y => e0 ((zJ_eq (by omega) (by omega) (by decide) (by decide)).mp (lc_eq.mp y))) ?_
      iterate 3 (refine WP.st rfl ?_)
      rw [zJ_sub]
      iterate 2 (refine WP.st rfl ?_)
      rw [zJ_mul]
      have U0 : 0 ≤ (p - V (c + 1 + i) c) * u := Int.mul_nonneg (by omega) u0
      have U1 : (p - V (c + 1 + i) c) * u ≤ (2 ^ 31 - 1) * (2 ^ 31 - 1) := Int.mul_le_mul (by omega) (by omega) (by omega) (by omega)
      have F0 := Int.emod_nonneg ((p - V (c + 1 + i) c) * u) (show p ≠ 0 by omega)
      have F1 := Int.emod_lt_of_pos ((p - V (c + 1 + i) c) * u) (show 0 < p by omega)
      iterate 1 (refine WP.st rfl ?_)
      refine WP.calle rfl rfl (ev_rem _ ((p - V (c + 1 + i) c) * u) p (by omega) (by omega) (by omega) (by omega)) ?_
      iterate 4 (refine WP.st rfl ?_)
      refine WP.aald (k := c + 1 + i) rfl (rfl) (Or.inr (Or.inr (Or.inr rfl))) (show c + 1 + i < 17 by omega) (rfl) (RR_w w (show c + 1 + i < 17 by omega)) ?_
      iterate 3 (refine WP.st rfl ?_)
      refine WP.aald (k := c) rfl (rfl) (Or.inr (Or.inr (Or.inr rfl))) (show c < 17 by omega) (rfl) (RR_w w (show c < 17 by omega)) ?_
      iterate 7 (refine WP.st rfl ?_)
      rw [show (hI (hp L I K w) 76 2 + Int32.ofInt 1 : Int32) = nI (n + 1) from by rw [nI_succ, ← hsz]; rfl]
      refine WP.calle rfl rfl (ev_addTimes L I K w (w (c + 1 + i)) (w c) 17 17 (fun y => by have := hw.2 (c + 1 + i) c (by omega) (by omega) y; omega) wi.1 wc.1 wi.2.1 wc.2.1 (by omega) (by omega) c (n + 1) (by omega) (by omega) (by omega) (V (c + 1 + i)) (V c) ((p - V (c + 1 + i) c) * u % p) p (by omega) p3 F0 (by omega) (fun j hj => ⟨v2 (c + 1 + i) j (by omega) (by omega), v3.1 (c + 1 + i) j (by omega) (by omega)⟩) (fun j hj => ⟨v2 c j (by omega) (by omega), v3.1 c j (by omega) (by omega)⟩)) ?_
      iterate 5 (refine WP.st rfl ?_)
      have kk2 := kk (mm_row K (w (c + 1 + i)) (fun j => if c ≤ j ∧ j < n + 1 then zJ ((V (c + 1 + i) j + (p - V (c + 1 + i) c) * u % p * V c j) % p) else K (w (c + 1 + i)) j), some (.long (zJ (V (c + 1 + i) c))), some (.long (zJ ((p - V (c + 1 + i) c) * u % p)))) ⟨fun q hq => ?_, opm p V (c + 1 + i) c n ((p - V (c + 1 + i) c) * u % p), fun a b ha hb => ?_, cbl_op (q := c + 1 + i) hpp v3 (by omega) (by omega) (fun k hk => hO.2.1 k c hk hk (by omega)) (by rw [vcc]; exact hz)⟩
      · rw [show c + 1 + (i + 1) = c + 1 + i + 1 by omega, nI_succ (c + 1 + i)] at kk2
        exact kk2
      · funext k
        have hb := hw.1 (c + 1 + i) (by omega)
        dsimp only
        exact (mm_row_off K (a := w (c + 1 + i)) (c := q) _ k (by omega)).trans (congrFun (v1 q hq) k)
      · dsimp only
        unfold opm
        by_cases ea : a = c + 1 + i
        · subst ea
          refine (mm_row_at K _ _ b).trans ?_
          by_cases eb : c ≤ b
          · rw [if_pos ⟨eb, by omega⟩, if_pos ⟨rfl, eb, hb⟩]
          · rw [if_neg (fun y => eb y.1), if_neg (fun y => eb y.2.1)]
            exact v2 _ b ha hb
        · rw [if_neg (fun y => ea y.1)]
          exact (mm_row_off K _ b (fun y => ea (hw.2 a (c + 1 + i) (by omega) (by omega) y))).trans (v2 a b ha hb)
  · obtain ⟨K, o7, o9⟩ := σ
    obtain ⟨v1, V, v2, v3⟩ := hv
    dsimp only at v1 v2 ⊢
    rw [show c + 1 + (n - c) = n + 1 by omega] at v3 ⊢
    refine WP.ict rfl (show I 76 2 < nI (n + 1) by rw [hsz]; exact nI_lt (by omega) (by omega)) ?_
    exact WP.ret rfl ⟨rfl, K, V, v1, v2, v3, rfl⟩
end
section
/-! Balance: clearTable, settle -/
set_option maxHeartbeats 4000000 in
set_option maxRecDepth 20000 in
theorem sp_clearTable (L : Nat) (I : Nat → Nat → Int32) (J : Nat → Nat → Int64) (w : Nat → Nat) (n : Nat) (hn : n ≤ 16) (hsz : I 76 2 = nI n) (hw : isP w) (M : Nat → Nat → Int) (hT : TB J n M) (hM : ∀ i j, i ≤ n → j ≤ n → -2 ^ 40 < M i j ∧ M i j < 2 ^ 40) (p : Int) (hpp : pm p) (p3 : p < 2 ^ 31) : SP m_Ba_clearTable [.ref 76, .long (zJ p)] (hp L I J w) (fun v h => ∃ (K : Nat → Nat → Int64) (w' : Nat → Nat), v = some (.long (zJ (det n M % p))) ∧ (∀ q, q < 114 ∨ 130 < q → K q = J q) ∧ isP w' ∧ (det n M % p ≠ 0 → ∃ x, K (w' n) n = zJ x ∧ 0 ≤ x ∧ x < p ∧ p ∣ det n M % p * x - det (n + 1) M) ∧ h = hp L I K w') := by
  have p1 := hpp.1
  unfold SP
  iterate 2 (refine WP.st rfl ?_)
  refine WP.call rfl rfl (sp_fillWork L I J w n hn hsz hw M hT hM p (by omega) p3) ?_
  rintro _ _ ⟨rfl, K0, k1, k2, rfl⟩
  iterate 7 (refine WP.st rfl ?_)
  refine WP.inv (fun c (σ : (Nat → Nat → Int64) × (Nat → Nat) × Int × Option Value) => (16, [some (.ref 76), some (.long (zJ p)), none, some (.long (zJ σ.2.2.1)), none, some (.int (nI c)), σ.2.2.2], [.int (I 76 2), .int (nI c)], hp L I σ.1 σ.2.1, 0, 0)) (fun c σ => (∀ q, q < 114 ∨ 130 < q → σ.1 q = J q) ∧ isP σ.2.1 ∧ ∃ W, WM σ.1 σ.2.1 n W ∧ clr_ok p n c M W σ.2.2.1) n (K0, w, 1, none) ⟨k1, hw, _, k2, clr_0 hpp n M⟩ (fun c σ hc hv kk => ?_) (fun σ hv => ?_)
  · obtain ⟨K, w1, d, o6⟩ := σ
    obtain ⟨v1, v2, W, v3, v4⟩ := hv
    dsimp only at v1 v2 v3 v4 ⊢
    refine WP.icf rfl (show ¬ I 76 2 ≤ nI c by rw [hsz]; exact nI_ge hc (by omega)) ?_
    iterate 2 (refine WP.st rfl ?_)
    refine WP.call rfl rfl (sp_findRow L I K w1 n c hn hc hsz v2 W v3 p p3 v4.1) ?_
    rintro _ _ ⟨rfl, x, rfl, hx⟩
    iterate 3 (refine WP.st rfl ?_)
    rcases hx with ⟨r, r1, r2, r3, rfl⟩ | ⟨r1, rfl⟩
    · refine WP.ict rfl (show ¬ nI r = -1 from fun z => by have := congrArg Int32.toInt z; rw [nI_zI, zI_int (by omega) (by omega)] at this; have e : (-1 : Int32).toInt = -1 := rfl; omega) ?_
      iterate 2 (refine WP.st rfl ?_)
      -- what is left when the row stands in its place
      have rest : ∀ (w2 : Nat → Nat) (W2 : Nat → Nat → Int) (d2 : Int), isP w2 → WM K w2 n W2 → clr_ok p n c M W2 d2 → W2 c c ≠ 0 → WP m_Ba_clearTable (54, [some (.ref 76), some (.long (zJ p)), none, some (.long (zJ d2)), none, some (.int (nI c)), some (.int (nI r))], [], hp L I K w2, 0, 0) (fun v h => ∃ (K : Nat → Nat → Int64) (w' : Nat → Nat), v = some (.long (zJ (det n M % p))) ∧ (∀ q, q < 114 ∨ 130 < q → K q = J q) ∧ isP w' ∧ (det n M % p ≠ 0 → ∃ x, K (w' n) n = zJ x ∧ 0 ≤ x ∧ x < p ∧ p ∣ det n M % p * x - det (n + 1) M) ∧ h = hp L I K w') := by
        intro w2 W2 d2 q1 q2 q3 q4
        have wc := wk_i (L := L) q1 (show c < 17 by omega)
        have rg := q3.1 c c (by omega) (by omega)
        have U0 : 0 ≤ d2 * W2 c c := Int.mul_nonneg (by have := q3.2.2.1; omega) rg.1
        have U1 : d2 * W2 c c ≤ (2 ^ 31 - 1) * (2 ^ 31 - 1) := Int.mul_le_mul (by have := q3.2.2.1; omega) (by omega) (by omega) (by omega)
        iterate 4 (refine WP.st rfl ?_)
        refine WP.aald (k := c) rfl (rfl) (Or.inr (Or.inr (Or.inr rfl))) (show c < 17 by omega) (rfl) (RR_w w2 (show c < 17 by omega)) ?_
        iterate 1 (refine WP.st rfl ?_)
        refine WP.lald (k := c) rfl (rfl) (Or.inl wc.1) (show c < LL L (w2 c) by rw [wc.2.1]; omega) (wc.2.2) ?_
        rw [show hJ (hp L I K w2) (w2 c) c = zJ (W2 c c) from q2 c c (by omega) (by omega)]
        iterate 1 (refine WP.st rfl ?_)
        rw [zJ_mul]
        iterate 1 (refine WP.st rfl ?_)
        refine WP.calle rfl rfl (ev_rem _ (d2 * W2 c c) p (by omega) (by omega) (by omega) (by omega)) ?_
        iterate 4 (refine WP.st rfl ?_)
        refine WP.call rfl rfl (sp_clearBelow L I K w2 n c hn hc hsz q1 M W2 d2 p hpp p3 q2 q3 q4) ?_
        rintro _ _ ⟨rfl, K2, V, e1, e2, e3, rfl⟩
        iterate 5 (refine WP.st rfl ?_)
        have kk2 := kk (K2, w2, d2 * W2 c c % p, some (.int (nI r))) ⟨fun q hq => (e1 q hq).trans (v1 q hq), q1, V, e2, clr_step hpp q3 hc q4 e3⟩
        rw [nI_succ c] at kk2
        exact kk2
      by_cases erc : r = c
      · subst erc
        refine WP.ict rfl (rfl) ?_
        exact rest w1 W d v2 v3 v4 r3
      · skip
        refine WP.icf rfl (fun z => erc ((nI_eq (by omega) (by omega)).mp z)) ?_
        iterate 3 (refine WP.st rfl ?_)
        refine WP.calle rfl rfl (ev_swapRows L I K w1 r c (by omega) (by omega) erc v2) ?_
        iterate 3 (refine WP.st rfl ?_)
        rw [zJ_sub]
        iterate 1 (refine WP.st rfl ?_)
        exact rest (wsw w1 r c) (sw W r c) (p - d) (wsw_P v2 (by omega) (by omega)) (wsw_WM v3 (by omega) (by omega) erc) (clr_sw v4 hc r2 (by omega)) (by show sw W r c c c ≠ 0; unfold sw; rw [if_neg (Ne.symm erc), if_pos rfl]; exact r3)
    · skip
      refine WP.icf rfl (fun z => z rfl) ?_
      iterate 1 (refine WP.st rfl ?_)
      have hd0 := clr_stuck v4 hc r1
      exact WP.ret rfl ⟨K, w1, by rw [hd0]; rfl, v1, v2, fun z => absurd hd0 z, rfl⟩
  · obtain ⟨K, w1, d, o6⟩ := σ
    obtain ⟨v1, v2, W, v3, v4⟩ := hv
    dsimp only at v1 v2 v3 v4 ⊢
    have he := clr_end hpp v4
    refine WP.ict rfl (show I 76 2 ≤ nI n by rw [hsz]; exact nI_le (Nat.le_refl _) (by omega)) ?_
    iterate 1 (refine WP.st rfl ?_)
    refine WP.ret rfl ⟨K, w1, by rw [he.1], v1, v2, fun _ => ⟨W n n, v3 n n (Nat.le_refl n) (Nat.le_refl n), (v4.1 n n (Nat.le_refl n) (Nat.le_refl n)).1, (v4.1 n n (Nat.le_refl n) (Nat.le_refl n)).2, ?_⟩, rfl⟩
    rw [← he.1]
    exact he.2
theorem pr_nd {p : Nat → Int} (hp : ∀ i, i < 4 → pm (p i)) (hne : ∀ i j, i < j → j < 4 → ¬ p j ∣ p i) : ∀ i, i < 4 → ∀ k, k ≤ i → ¬ p i ∣ pr p k
  | i, hi, 0, _ => fun z => by
    have := Int.eq_one_of_dvd_one (by have := (hp i hi).1; omega) z
    have := (hp i hi).1
    omega
  | i, hi, k + 1, hk => fun z => by
    rcases (hp i hi).2 _ _ (show p i ∣ pr p k * p k from z) with y | y
    · exact pr_nd hp hne i hi k (by omega) y
    · exact hne k i (by omega) hi y
/-- bounds of what stands above and below the fraction -/
theorem frac_bounds {n : Nat} {A : Nat → Nat → Int} {g v : Nat → Int} {s : Int} (hn : n ≤ 16) (hA : ∀ i, i < n → dt 16 (A i) (A i) ≤ 36) (hi : ind 16 n A) (hg : ∀ i, i < n → -14000 ≤ g i ∧ g i ≤ 14000) (hv : ∀ i, i < n → -14000 ≤ v i ∧ v i ≤ 14000) (hs : -1000 ≤ s ∧ s ≤ 1000) : 0 < det n (gm 16 A) ∧ det n (gm 16 A) ≤ 37 ^ 16 ∧ 4 * det (n + 1) (bd n (gm 16 A) g v s) < 2147483549 ^ 4 - 1 ∧ 4 * (- det (n + 1) (bd n (gm 16 A) g v s)) < 2147483549 ^ 4 - 1 := by
  have hS : srt n (fun i c => if c < 16 then A i c else 0) := fun i hi => ⟨by
    have := hA i hi
    rw [dt_congr (u' := A i) (v' := A i) (fun c hc => if_pos hc) (fun c hc => if_pos hc)]
    exact this, by show -2000 ≤ (if 16 < 16 then A i 16 else 0) ∧ (if 16 < 16 then A i 16 else 0) ≤ (2000 : Int); simp⟩
  have eG : ∀ i j, gm 16 (fun i c => if c < 16 then A i c else 0) i j = gm 16 A i j := fun i j => dt_congr (fun c hc => if_pos hc) (fun c hc => if_pos hc)
  have d0 : 0 < gd 16 n A := ind_gd hi
  have d1 : gd 16 n A ≤ 37 ^ n := by
    have := gd_16 hS
    unfold gd at this ⊢
    rw [det_congr n (N := gm 16 A) (fun i j _ _ => eG i j)] at this
    exact this
  have b1 := bf_int hS (u := g) (v := v) (U := 14000) (V := 14000) hg hv
  rw [bf_congr (G' := gm 16 A) (u' := g) (v' := v) (fun i j _ _ => eG i j) (fun _ _ => rfl) (fun _ _ => rfl)] at b1
  have e : det (n + 1) (bd n (gm 16 A) g v s) = bf n (gm 16 A) g v + s * gd 16 n A := bd_s n (gm 16 A) g v s
  have p37 : (37 : Int) ^ n ≤ 37 ^ 16 := by
    have : (37 : Nat) ^ n ≤ 37 ^ 16 := Nat.pow_le_pow_right (by omega) hn
    exact_mod_cast this
  have p0 : (0 : Int) ≤ 37 ^ n := Int.pow_nonneg (by decide)
  have z2 : (n : Int) * (14000 * (n * (14000 * 37 ^ n))) ≤ 16 * (14000 * (16 * (14000 * 37 ^ 16))) := by
    have e1 : (n : Int) * (14000 * 37 ^ n) ≤ 16 * (14000 * 37 ^ 16) := Int.mul_le_mul (by omega) (by omega) (by omega) (by omega)
    have e0 : 0 ≤ (n : Int) * (14000 * 37 ^ n) := Int.mul_nonneg (by omega) (by omega)
    exact Int.mul_le_mul (by omega) (by omega) (by omega) (by omega)
  have s1 : s * gd 16 n A ≤ 1000 * 37 ^ 16 := by
    have := Int.mul_nonneg (show 0 ≤ 1000 - s by omega) (Int.le_of_lt d0)
    rw [Int.sub_mul] at this
    omega
  have s2 : -(1000 * 37 ^ 16) ≤ s * gd 16 n A := by
    have := Int.mul_nonneg (show 0 ≤ 1000 + s by omega) (Int.le_of_lt d0)
    rw [Int.add_mul] at this
    omega
  have c4 : (2147483549 : Int) ^ 4 = 21267644010764880705175866920184430801 := by decide
  have c37 : (37 : Int) ^ 16 = 12337511914217166362274241 := by decide
  refine ⟨d0, ?_, ?_, ?_⟩
  · show gd 16 n A ≤ _
    omega
  · rw [e]; omega
  · rw [e]; omega
end
section
/-! Balance: settle -/
/-- the first f primes that were taken, and what was passed over -/
def tk (K : Nat → Nat → Int64) (D T : Int) (q f : Nat) (ch : Nat → Nat) : Prop := (∀ k, k < f → ch k < q ∧ K 131 k = zJ (pc (ch k)) ∧ K 132 k = zJ (T % pc (ch k)) ∧ K 133 k = zJ (D % pc (ch k)) ∧ D % pc (ch k) ≠ 0) ∧ (∀ j k, j < k → k < f → ch j < ch k) ∧ ∃ X : Int, X ∣ D ∧ (∀ j, q ≤ j → j < 6 → ¬ pc j ∣ X) ∧ (2147483549 : Int) ^ (q - f) ≤ X
theorem tk_skip {K : Nat → Nat → Int64} {D T : Int} {q f : Nat} {ch : Nat → Nat} (hq : q < 6) (hf : f ≤ q) (h : tk K D T q f ch) (hd : D % pc q = 0) : tk K D T (q + 1) f ch := by
  obtain ⟨h1, h2, X, x1, x2, x3⟩ := h
  refine ⟨fun k hk => ⟨by have := (h1 k hk).1; omega, (h1 k hk).2⟩, h2, X * pc q, cop_dvd (pm_gcd (pc_pm q) (x2 q (Nat.le_refl q) hq)) x1 (Int.dvd_of_emod_eq_zero hd), fun j h3 h4 z => ?_, ?_⟩
  · rcases (pc_pm j).2 _ _ z with y | y
    · exact x2 j (by omega) h4 y
    · exact pc_ne j h4 q hq (by omega) y
  · rw [show q + 1 - f = q - f + 1 by omega, Int.pow_succ]
    have : (0 : Int) ≤ 2147483549 ^ (q - f) := Int.pow_nonneg (by decide)
    exact Int.mul_le_mul x3 (pc_ge q).1 (by decide) (by omega)
theorem tk_few {K : Nat → Nat → Int64} {D T : Int} {q f : Nat} {ch : Nat → Nat} (h : tk K D T q f ch) (h0 : 0 < D) (h1 : D ≤ 37 ^ 16) : q - f ≤ 2 := by
  obtain ⟨-, -, X, x1, -, x3⟩ := h
  have h2 := Int.le_of_dvd h0 x1
  by_cases e : q - f ≤ 2
  · exact e
  · exfalso
    obtain ⟨d, hd⟩ : ∃ d, q - f = 3 + d := ⟨q - f - 3, by omega⟩
    have h4 : (0 : Int) < 2147483549 ^ d := Int.pow_pos (by decide)
    have h3 := Int.mul_le_mul_of_nonneg_left (show (1 : Int) ≤ 2147483549 ^ d by omega) (show (0 : Int) ≤ 2147483549 ^ 3 by decide)
    rw [← Int.pow_add, ← hd, Int.mul_one] at h3
    have c3 : (2147483549 : Int) ^ 3 = 9903518944612357868719518149 := by decide
    have c37 : (37 : Int) ^ 16 = 12337511914217166362274241 := by decide
    omega
set_option maxHeartbeats 4000000 in
set_option maxRecDepth 20000 in
theorem sp_settle (L : Nat) (I : Nat → Nat → Int32) (J : Nat → Nat → Int64) (w : Nat → Nat) (A : Nat → Nat → Int) (g v : Nat → Int) (n : Nat) (s : Int) (hn : n ≤ 16) (hsz : I 76 2 = nI n) (hw : isP w) (hA : ∀ i, i < n → dt 16 (A i) (A i) ≤ 36) (hi : ind 16 n A) (hg : ∀ i, i < n → -14000 ≤ g i ∧ g i ≤ 14000) (hv : ∀ i, i < n → -14000 ≤ v i ∧ v i ≤ 14000) (hs : -1000 ≤ s ∧ s ≤ 1000) (hT : TB J n (bd n (gm 16 A) g v s)) (hP : ∀ i, i < 6 → J 1 i = zJ (pc i)) : SP m_Ba_settle [.ref 76, .ref 134] (hp L I J w) (fun r h => r = none ∧ ∃ (K : Nat → Nat → Int64) (w' : Nat → Nat), (∀ c, c < 114 ∨ 140 < c → K c = J c) ∧ isP w' ∧ (∀ i, i < 5 → K 135 i = zJ (dg (fa (det (n + 1) (bd n (gm 16 A) g v s)).natAbs (det n (gm 16 A)).natAbs) i)) ∧ (∀ i, i < 5 → K 136 i = zJ (dg (fbl (det (n + 1) (bd n (gm 16 A) g v s)).natAbs (det n (gm 16 A)).natAbs) i)) ∧ h = hp L (mm_up I 134 0 (sg (det (n + 1) (bd n (gm 16 A) g v s)))) K w') := by
  obtain ⟨d0, d1, t1, t2⟩ := frac_bounds hn hA hi hg hv hs
  have hM : ∀ i j, i ≤ n → j ≤ n → -2 ^ 40 < bd n (gm 16 A) g v s i j ∧ bd n (gm 16 A) g v s i j < 2 ^ 40 := by
    intro i j h1 h2
    by_cases e1 : i < n
    · by_cases e2 : j < n
      · rw [bd_in e1 e2]
        have := dt_small (hA i e1) (hA j e2)
        unfold gm
        omega
      · obtain rfl : j = n := by omega
        rw [bd_col e1]
        have := hg i e1
        omega
    · obtain rfl : i = n := by omega
      by_cases e2 : j < i
      · rw [bd_row e2]
        have := hv j e2
        omega
      · obtain rfl : j = i := by omega
        rw [bd_cor]
        omega
  have eD : det n (bd n (gm 16 A) g v s) = det n (gm 16 A) := det_congr n (fun i j h1 h2 => bd_in h1 h2)
  generalize hTT : det (n + 1) (bd n (gm 16 A) g v s) = T at *
  generalize hDD : det n (gm 16 A) = D at *
  unfold SP
  iterate 7 (refine WP.st rfl ?_)
  have fin : ∀ (K : Nat → Nat → Int64) (w1 : Nat → Nat) (o3 o4 o6 : Option Value) (q : Nat) (ch : Nat → Nat), q ≤ 6 → (∀ c, c < 114 ∨ 133 < c → K c = J c) → isP w1 → tk K D T q 4 ch → WP m_Ba_settle (92, [some (.ref 76), some (.ref 134), some (.int (nI 4)), o3, o4, none, o6, none], [], hp L I K w1, 0, 0) (fun r h => r = none ∧ ∃ (K : Nat → Nat → Int64) (w' : Nat → Nat), (∀ c, c < 114 ∨ 140 < c → K c = J c) ∧ isP w' ∧ (∀ i, i < 5 → K 135 i = zJ (dg (fa T.natAbs D.natAbs) i)) ∧ (∀ i, i < 5 → K 136 i = zJ (dg (fbl T.natAbs D.natAbs) i)) ∧ h = hp L (mm_up I 134 0 (sg T)) K w') := by
    intro K w1 o3 o4 o6 q ch hq k1 k2 k3
    obtain ⟨c1, c2, -⟩ := k3
    have hpm : ∀ i, i < 4 → pm (pc (ch i)) := fun i _ => pc_pm _
    have hge : ∀ i, 2147483549 ≤ pc (ch i) ∧ pc (ch i) < 2 ^ 31 := fun i => pc_ge _
    have hnd := pr_nd (p := fun i => pc (ch i)) hpm (fun i j h1 h2 => pc_ne (ch j) (by have := (c1 j h2).1; omega) (ch i) (by have := (c1 i (by omega)).1; omega) (by have := c2 i j h1 h2; omega))
    have e4 : pr (fun i => pc (ch i)) 4 = 1 * pc (ch 0) * pc (ch 1) * pc (ch 2) * pc (ch 3) := rfl
    have lo : (2147483549 : Int) ^ 4 ≤ pr (fun i => pc (ch i)) 4 := by
      rw [e4, show (2147483549 : Int) ^ 4 = 1 * 2147483549 * 2147483549 * 2147483549 * 2147483549 by decide]
      have := hge 0
      have := hge 1
      have := hge 2
      have := hge 3
      have m1 : 1 * 2147483549 * 2147483549 ≤ 1 * pc (ch 0) * pc (ch 1) := Int.mul_le_mul (by omega) (by omega) (by omega) (by omega)
      have m2 : 1 * 2147483549 * 2147483549 * 2147483549 ≤ 1 * pc (ch 0) * pc (ch 1) * pc (ch 2) := Int.mul_le_mul m1 (by omega) (by omega) (by omega)
      exact Int.mul_le_mul m2 (by omega) (by omega) (by omega)
    have hi4 : pr (fun i => pc (ch i)) 4 < 2 ^ 124 := by
      rw [e4]
      have := hge 0
      have := hge 1
      have := hge 2
      have := hge 3
      have m1 : 1 * pc (ch 0) * pc (ch 1) ≤ (2 ^ 31 - 1) * (2 ^ 31 - 1) := Int.mul_le_mul (by omega) (by omega) (by omega) (by omega)
      have m2 : 1 * pc (ch 0) * pc (ch 1) * pc (ch 2) ≤ (2 ^ 31 - 1) * (2 ^ 31 - 1) * (2 ^ 31 - 1) := Int.mul_le_mul m1 (by omega) (by omega) (by omega)
      have m3 : 1 * pc (ch 0) * pc (ch 1) * pc (ch 2) * pc (ch 3) ≤ (2 ^ 31 - 1) * (2 ^ 31 - 1) * (2 ^ 31 - 1) * (2 ^ 31 - 1) := Int.mul_le_mul m2 (by omega) (by omega) (by omega)
      refine Int.lt_of_le_of_lt m3 (by decide)
    have c4 : (2147483549 : Int) ^ 4 = 21267644010764880705175866920184430801 := by decide
    have c37 : (37 : Int) ^ 16 = 12337511914217166362274241 := by decide
    iterate 7 (refine WP.st rfl ?_)
    refine WP.call rfl rfl (sp_become L I K w1 (fun i => pc (ch i)) (fun i => T % pc (ch i)) (fun i => D % pc (ch i)) T D (fun i hi => ⟨(c1 i hi).2.1, by have := hge i; omega⟩) (by have := hge 3; show 8 ≤ pc (ch 3); omega) (fun i hi => ⟨(c1 i hi).2.2.1, rfl⟩) (fun i hi => ⟨(c1 i hi).2.2.2.1, rfl⟩) (fun i hi => pm_gcd (hpm i hi) (hnd i hi i (Nat.le_refl i))) (by omega) (by omega) hi4) ?_
    rintro _ _ ⟨rfl, K2, f1, f2, f3, rfl⟩
    exact WP.ret rfl ⟨rfl, K2, w1, fun c hc => (f1 c (by omega) (by omega) (by omega) (by omega) (by omega)).trans (k1 c (by omega)), k2, f2, f3, rfl⟩
  refine WP.inv (fun q (σ : (Nat → Nat → Int64) × (Nat → Nat) × Nat × Option Value × Option Value) => (9, [some (.ref 76), some (.ref 134), some (.int (nI σ.2.2.1)), some (.int (nI q)), σ.2.2.2.1, none, σ.2.2.2.2, none], [.int (nI 6), .int (nI q)], hp L I σ.1 σ.2.1, 0, 0)) (fun q σ => (∀ c, c < 114 ∨ 133 < c → σ.1 c = J c) ∧ isP σ.2.1 ∧ σ.2.2.1 ≤ 4 ∧ σ.2.2.1 ≤ q ∧ ∃ ch, tk σ.1 D T q σ.2.2.1 ch) 6 (J, w, 0, none, none) ⟨fun _ _ => rfl, hw, Nat.zero_le _, Nat.le_refl _, fun _ => 0, fun k hk => absurd hk (Nat.not_lt_zero k), fun j k _ hk => absurd hk (Nat.not_lt_zero k), 1, Int.one_dvd _, fun j _ _ z => by have := Int.eq_one_of_dvd_one (by have := (pc_pm j).1; omega) z; have := (pc_pm j).1; omega, by show (2147483549 : Int) ^ (0 - 0) ≤ 1; decide⟩ (fun q σ hq hv kk => ?_) (fun σ hv => ?_)
  · obtain ⟨K, w1, f, o4, o6⟩ := σ
    obtain ⟨v1, v2, v3, v4, ch, v5⟩ := hv
    dsimp only at v1 v2 v3 v4 v5 ⊢
    refine WP.icf rfl (nI_ge hq (by omega)) ?_
    iterate 2 (refine WP.st rfl ?_)
    by_cases e4 : f = 4
    · subst e4
      refine WP.ict rfl (nI_le (Nat.le_refl _) (by omega)) ?_
      exact fin K w1 _ o4 o6 q ch (by omega) v1 v2 v5
    · skip
      refine WP.icf rfl (show ¬ nI 4 ≤ nI f from nI_ge (by omega) (by omega)) ?_
      iterate 2 (refine WP.st rfl ?_)
      refine WP.lald (k := q) rfl (rfl) (Or.inr rfl) (show q < 6 from hq) (rfl) ?_
      rw [show hJ (hp L I K w1) 1 q = zJ (pc q) from (congrFun (v1 1 (by omega)) q).trans (hP q hq)]
      iterate 3 (refine WP.st rfl ?_)
      refine WP.call rfl rfl (sp_clearTable L I K w1 n hn hsz v2 (bd n (gm 16 A) g v s) (fun i j h1 h2 => (congrFun (v1 (96 + i) (by omega)) j).trans (hT i j h1 h2)) hM (pc q) (pc_pm q) (pc_ge q).2) ?_
      rintro _ _ ⟨K2, w2, rfl, g1, g2, g3, rfl⟩
      rw [eD] at g3 ⊢
      have pq := pc_ge q
      have D0 := Int.emod_nonneg D (show pc q ≠ 0 by omega)
      have D1 := Int.emod_lt_of_pos D (show 0 < pc q by omega)
      iterate 4 (refine WP.st rfl ?_)
      have v5' : tk K2 D T q f ch := by
        obtain ⟨a1, a2, a3⟩ := v5
        refine ⟨fun k hk => ?_, a2, a3⟩
        rw [g1 131 (by omega), g1 132 (by omega), g1 133 (by omega)]
        exact a1 k hk
      have fr : ∀ c, c < 114 ∨ 133 < c → K2 c = J c := fun c hc => (g1 c (by omega)).trans (v1 c hc)
      by_cases ez : D % pc q = 0
      · refine WP.ift rfl (lc_eq.mpr (by rw [ez]; rfl)) ?_
        iterate 5 (refine WP.st rfl ?_)
        have kk2 := kk (K2, w2, f, some (.long (zJ (pc q))), some (.long (zJ (D % pc q)))) ⟨fr, g2, v3, by dsimp only; omega, ch, tk_skip hq v4 v5' ez⟩
        rw [nI_succ q] at kk2
        exact kk2
      · obtain ⟨x, x1, x2, x3, x4⟩ := g3 ez
        rw [hTT] at x4
        have wn := wk_i (L := L) g2 (show n < 17 by omega)
        have wb := g2.1 n (by omega)
        refine WP.iff rfl (fun y => ez ((zJ_eq (by omega) (by omega) (by decide) (by decide)).mp (lc_eq.mp y))) ?_
        iterate 4 (refine WP.st rfl ?_)
        refine WP.last (k := f) rfl (rfl) (rfl) (show f < 4 by omega) (rfl) ?_
        iterate 4 (refine WP.st rfl ?_)
        refine WP.last (k := f) rfl (rfl) (rfl) (show f < 4 by omega) (rfl) ?_
        iterate 8 (refine WP.st rfl ?_)
        refine WP.aald (k := n) rfl (hsz) (Or.inr (Or.inr (Or.inr rfl))) (show n < 17 by omega) (rfl) (RR_w w2 (show n < 17 by omega)) ?_
        iterate 2 (refine WP.st rfl ?_)
        refine WP.lald (k := n) rfl (hsz) (Or.inl wn.1) (show n < LL L (w2 n) by rw [wn.2.1]; omega) (wn.2.2) ?_
        rw [show hJ (putJ (putJ (hp L I K2 w2) 131 f (zJ (pc q))) 133 f (zJ (D % pc q))) (w2 n) n = zJ x from (congrFun (up_ne (mm_up K2 131 f (zJ (pc q))) (k := f) (zJ (D % pc q)) (show w2 n ≠ 133 by omega)) n).trans ((congrFun (up_ne K2 (k := f) (zJ (pc q)) (show w2 n ≠ 131 by omega)) n).trans x1)]
        have U0 : 0 ≤ D % pc q * x := Int.mul_nonneg D0 x2
        have U1 : D % pc q * x ≤ (2 ^ 31 - 1) * (2 ^ 31 - 1) := Int.mul_le_mul (by omega) (by omega) (by omega) (by omega)
        iterate 1 (refine WP.st rfl ?_)
        rw [zJ_mul]
        iterate 1 (refine WP.st rfl ?_)
        refine WP.calle rfl rfl (ev_rem _ (D % pc q * x) (pc q) (by omega) (by omega) (by omega) (by omega)) ?_
        rw [emod_dvd x4]
        refine WP.last (k := f) rfl (rfl) (rfl) (show f < 4 by omega) (rfl) ?_
        iterate 6 (refine WP.st rfl ?_)
        have kk2 := kk (mm_up (mm_up (mm_up K2 131 f (zJ (pc q))) 133 f (zJ (D % pc q))) 132 f (zJ (T % pc q)), w2, f + 1, some (.long (zJ (pc q))), some (.long (zJ (D % pc q)))) ⟨fun c hc => (up_ne _ _ (by omega)).trans ((up_ne _ _ (by omega)).trans ((up_ne K2 _ (by omega)).trans (fr c hc))), g2, by dsimp only; omega, by dsimp only; omega, fun k => if k = f then q else ch k, ?_⟩
        · rw [nI_succ q, nI_succ f] at kk2
          exact kk2
        · obtain ⟨a1, a2, a3⟩ := v5'
          dsimp only
          refine ⟨fun k hk => ?_, fun j k h1 h2 => ?_, ?_⟩
          · by_cases e : k = f
            · subst e
              simp only [if_true]
              exact ⟨by omega, (congrFun (up_ne _ _ (by decide)) k).trans ((congrFun (up_ne _ _ (by decide)) k).trans (mm_up_at K2 131 k _)), mm_up_at _ 132 k _, (congrFun (up_ne _ _ (by decide)) k).trans (mm_up_at _ 133 k _), ez⟩
            · simp only [e, if_false]
              obtain ⟨y1, y2, y3, y4, y5⟩ := a1 k (by omega)
              exact ⟨by omega, (congrFun (up_ne _ _ (by decide)) k).trans ((congrFun (up_ne _ _ (by decide)) k).trans ((up_nk K2 _ e).trans y2)), (up_nk _ _ e).trans ((congrFun (up_ne _ _ (by decide)) k).trans ((congrFun (up_ne K2 _ (by decide)) k).trans y3)), (congrFun (up_ne _ _ (by decide)) k).trans ((up_nk _ _ e).trans ((congrFun (up_ne K2 _ (by decide)) k).trans y4)), y5⟩
          · dsimp only
            rw [if_neg (show ¬ j = f by omega)]
            by_cases e : k = f
            · rw [if_pos e]
              exact (a1 j (by omega)).1
            · rw [if_neg e]
              exact a2 j k h1 (by omega)
          · obtain ⟨X, b1, b2, b3⟩ := a3
            exact ⟨X, b1, fun j h1 h2 => b2 j (by omega) h2, by rw [show q + 1 - (f + 1) = q - f by omega]; exact b3⟩
  · obtain ⟨K, w1, f, o4, o6⟩ := σ
    obtain ⟨v1, v2, v3, v4, ch, v5⟩ := hv
    dsimp only at v1 v2 v3 v4 v5 ⊢
    have := tk_few v5 d0 d1
    obtain rfl : f = 4 := by omega
    refine WP.ict rfl (nI_le (Nat.le_refl _) (by omega)) ?_
    exact fin K w1 _ o4 o6 6 ch (by omega) v1 v2 v5
end
section
/-! the reference: small things, numbers in z -/
theorem ev_in (h : MH) (v a b : Int64) : EV m_Mo_in [.long v, .long a, .long b] h (some (.int (if a ≤ v ∧ v ≤ b then 1 else 0))) h := by
  obtain ⟨r, h', e, q⟩ : SP m_Mo_in [.long v, .long a, .long b] h (fun r h' => r = some (.int (if a ≤ v ∧ v ≤ b then 1 else 0)) ∧ h' = h) := by
    unfold SP
    iterate 3 (refine WP.st rfl ?_)
    by_cases z : v < a
    · refine WP.ift rfl (lc_lt.mpr z) ?_
      iterate 1 (refine WP.st rfl ?_)
      rw [if_neg (fun y => absurd y.1 (Int64.not_le.mpr z))]
      exact WP.ret rfl ⟨rfl, rfl⟩
    · skip
      refine WP.iff rfl (fun y => z (lc_lt.mp y)) ?_
      iterate 3 (refine WP.st rfl ?_)
      by_cases z2 : b < v
      · refine WP.ift rfl (lc_gt.mpr z2) ?_
        iterate 1 (refine WP.st rfl ?_)
        rw [if_neg (fun y => absurd y.2 (Int64.not_le.mpr z2))]
        exact WP.ret rfl ⟨rfl, rfl⟩
      · skip
        refine WP.iff rfl (fun y => z2 (lc_gt.mp y)) ?_
        iterate 2 (refine WP.st rfl ?_)
        rw [if_pos ⟨Int64.not_lt.mp z, Int64.not_lt.mp z2⟩]
        exact WP.ret rfl ⟨rfl, rfl⟩
  obtain ⟨rfl, rfl⟩ := q
  exact e
theorem ev_rest (h : MH) (v p : Int) (hp2 : 1 ≤ p) (hpx : p < 2 ^ 62) (v1 : -2 ^ 62 < v) (v2 : v < 2 ^ 62) : EV m_Mo_rest [.long (zJ v), .long (zJ p)] h (some (.long (zJ (v % p)))) h := by
  obtain ⟨r, h', e, q⟩ : SP m_Mo_rest [.long (zJ v), .long (zJ p)] h (fun r h' => r = some (.long (zJ (v % p))) ∧ h' = h) := by
    unfold SP
    have t1 := Int.tmod_lt_of_pos v (show 0 < p by omega)
    have t2 : -p < v.tmod p := Int.lt_tmod_of_pos v (by omega)
    iterate 2 (refine WP.st rfl ?_)
    refine WP.lrem rfl (fun z => by have := (zJ_eq (a := p) (b := 0) (by omega) (by omega) (by omega) (by omega)).mp z; omega) ?_
    rw [zJ_rem (by omega) (by omega) (by omega) (by omega)]
    iterate 4 (refine WP.st rfl ?_)
    by_cases z : v.tmod p < 0
    · refine WP.iff rfl (fun y => by have := (zJ_le (a := 0) (b := v.tmod p) (by omega) (by omega) (by omega) (by omega)).mp (lc_ge.mp y); omega) ?_
      iterate 3 (refine WP.st rfl ?_)
      rw [zJ_add]
      iterate 1 (refine WP.st rfl ?_)
      refine WP.ret rfl ⟨?_, rfl⟩
      show some (Value.long (zJ (v.tmod p + p))) = _
      rw [Int.emod_eq_tmod]
      have hv : ¬ (0 ≤ v ∨ p ∣ v) := by
        rintro (h0 | h0)
        · have := Int.tmod_nonneg p h0; omega
        · rw [Int.tmod_eq_zero_of_dvd h0] at z; omega
      rw [if_neg hv]
      congr 4
      omega
    · skip
      refine WP.ift rfl (lc_ge.mpr (show zJ 0 ≤ zJ (v.tmod p) from (zJ_le (by omega) (by omega) (by omega) (by omega)).mpr (by omega))) ?_
      iterate 1 (refine WP.st rfl ?_)
      refine WP.ret rfl ⟨?_, rfl⟩
      show some (Value.long (zJ (v.tmod p))) = _
      congr 3
      have m1 := Int.mul_tdiv_add_tmod v p
      have e2 : v % p = v.tmod p := by
        rw [← emod_dvd (a := v.tmod p) (b := v) ⟨- v.tdiv p, by grind⟩]
        exact Int.emod_eq_of_lt (by omega) t1
      rw [e2]
  obtain ⟨rfl, rfl⟩ := q
  exact e
theorem pw_e {p v x : Int} {k : Nat} (hk : k % 2 = 0) : v * (x * x % p) ^ (k / 2) % p = v * x ^ k % p := by
  apply emod_dvd
  obtain ⟨m, rfl⟩ : ∃ m, k = 2 * m := ⟨k / 2, by omega⟩
  rw [show 2 * m / 2 = m by omega, Int.pow_mul]
  have : ∀ m : Nat, p ∣ (x * x % p) ^ m - (x ^ 2) ^ m := by
    intro m
    induction m with
    | zero => exact ⟨0, by simp⟩
    | succ m ih =>
      obtain ⟨z1, hz1⟩ := ih
      obtain ⟨z2, hz2⟩ := Int.dvd_self_sub_emod (x := x * x) (m := p)
      rw [Int.pow_succ, Int.pow_succ]
      exact ⟨z1 * (x * x % p) - (x ^ 2) ^ m * z2, by grind⟩
  obtain ⟨z, hz⟩ := this m
  exact ⟨v * z, by grind⟩
theorem pw_o {p v x : Int} {k : Nat} (hk : k % 2 = 1) : (v * x % p) * (x * x % p) ^ (k / 2) % p = v * x ^ k % p := by
  rw [emod_mul_l]
  have h := pw_e (p := p) (v := v * x) (x := x) (k := k - 1) (by omega)
  rw [show (k - 1) / 2 = k / 2 by omega] at h
  rw [h]
  congr 1
  obtain ⟨m, rfl⟩ : ∃ m, k = m + 1 := ⟨k - 1, by omega⟩
  rw [show m + 1 - 1 = m by omega, Int.pow_succ]
  grind
theorem pw_loop (h : MH) (b e : Int32) (b0 : Int64) (p : Int) (p2 : 2 ≤ p) (p3 : p < 2 ^ 31) : ∀ (n k : Nat) (v x : Int), k ≤ n → k < 2 ^ 31 → 0 ≤ v → v < p → 0 ≤ x → x < p → WP m_Mo_power (11, [some (.long b0), none, some (.int e), some (.long (zJ p)), none, some (.long (zJ v)), none, some (.long (zJ x)), none, some (.int (nI k))], [.int (nI k)], h, 0, 0) (fun r h' => r = some (.long (zJ (v * x ^ k % p))) ∧ h' = h)
  | 0, k, v, x, hk, k1, v0, v1, x0, x1 => by
    obtain rfl : k = 0 := by omega
    refine WP.ift rfl (show nI 0 ≤ 0 by decide) ?_
    iterate 1 (refine WP.st rfl ?_)
    refine WP.ret rfl ⟨?_, rfl⟩
    rw [Int.pow_zero, Int.mul_one, Int.emod_eq_of_lt v0 v1]
  | n + 1, k, v, x, hk, k1, v0, v1, x0, x1 => by
    by_cases e0 : k = 0
    · subst e0
      refine WP.ift rfl (show nI 0 ≤ 0 by decide) ?_
      iterate 1 (refine WP.st rfl ?_)
      refine WP.ret rfl ⟨?_, rfl⟩
      rw [Int.pow_zero, Int.mul_one, Int.emod_eq_of_lt v0 v1]
    · have U0 : 0 ≤ v * x := Int.mul_nonneg v0 x0
      have U1 : v * x ≤ (2 ^ 31 - 1) * (2 ^ 31 - 1) := Int.mul_le_mul (by omega) (by omega) (by omega) (by omega)
      have X0 : 0 ≤ x * x := Int.mul_nonneg x0 x0
      have X1 : x * x ≤ (2 ^ 31 - 1) * (2 ^ 31 - 1) := Int.mul_le_mul (by omega) (by omega) (by omega) (by omega)
      have pz : ¬ zJ p = 0 := fun z => by have := (zJ_eq (a := p) (b := 0) (by omega) (by omega) (by omega) (by omega)).mp z; omega
      refine WP.iff rfl (nI_nle (by omega) k1) ?_
      iterate 2 (refine WP.st rfl ?_)
      refine WP.irem rfl (show ¬ (2 : Int32) = 0 by decide) ?_
      rw [show (nI k - nI k / Int32.ofInt 2 * Int32.ofInt 2 : Int32) = nI (k % 2) from pk_rem (d := 2) k1 (by decide) (by decide)]
      iterate 1 (refine WP.st rfl ?_)
      by_cases o : k % 2 = 1
      · rw [o]
        refine WP.icf rfl (fun z => z rfl) ?_
        iterate 3 (refine WP.st rfl ?_)
        rw [zJ_mul]
        iterate 1 (refine WP.st rfl ?_)
        refine WP.lrem rfl (pz) ?_
        rw [zJ_remp U0 (by omega) (by omega) (by omega)]
        iterate 4 (refine WP.st rfl ?_)
        rw [zJ_mul]
        iterate 1 (refine WP.st rfl ?_)
        refine WP.lrem rfl (pz) ?_
        rw [zJ_remp X0 (by omega) (by omega) (by omega)]
        iterate 3 (refine WP.st rfl ?_)
        refine WP.idiv rfl (show ¬ (2 : Int32) = 0 by decide) ?_
        rw [show (nI k / Int32.ofInt 2 : Int32) = nI (k / 2) from pk_div (d := 2) k1 (by decide) (by decide)]
        iterate 3 (refine WP.st rfl ?_)
        rw [← pw_o (p := p) (v := v) (x := x) o]
        exact pw_loop h b e b0 p p2 p3 n (k / 2) (v * x % p) (x * x % p) (by omega) (by omega) (Int.emod_nonneg _ (by omega)) (Int.emod_lt_of_pos _ (by omega)) (Int.emod_nonneg _ (by omega)) (Int.emod_lt_of_pos _ (by omega))
      · rw [show k % 2 = 0 by omega]
        refine WP.ict rfl (show ¬ nI 0 = nI 1 by decide) ?_
        iterate 3 (refine WP.st rfl ?_)
        rw [zJ_mul]
        iterate 1 (refine WP.st rfl ?_)
        refine WP.lrem rfl (pz) ?_
        rw [zJ_remp X0 (by omega) (by omega) (by omega)]
        iterate 3 (refine WP.st rfl ?_)
        refine WP.idiv rfl (show ¬ (2 : Int32) = 0 by decide) ?_
        rw [show (nI k / Int32.ofInt 2 : Int32) = nI (k / 2) from pk_div (d := 2) k1 (by decide) (by decide)]
        iterate 3 (refine WP.st rfl ?_)
        rw [← pw_e (p := p) (v := v) (x := x) (show k % 2 = 0 by omega)]
        exact pw_loop h b e b0 p p2 p3 n (k / 2) v (x * x % p) (by omega) (by omega) v0 v1 (Int.emod_nonneg _ (by omega)) (Int.emod_lt_of_pos _ (by omega))
theorem ev_power (h : MH) (x : Int) (k : Nat) (p : Int) (p2 : 2 ≤ p) (p3 : p < 2 ^ 31) (hk : k < 2 ^ 31) (x0 : 0 ≤ x) (x1 : x < p) : EV m_Mo_power [.long (zJ x), .int (nI k), .long (zJ p)] h (some (.long (zJ (x ^ k % p)))) h := by
  obtain ⟨r, h', e, q⟩ : SP m_Mo_power [.long (zJ x), .int (nI k), .long (zJ p)] h (fun r h' => r = some (.long (zJ (x ^ k % p))) ∧ h' = h) := by
    unfold SP
    iterate 7 (refine WP.st rfl ?_)
    have := pw_loop h 0 (nI k) (zJ x) p p2 p3 k k 1 x (Nat.le_refl k) hk (by omega) (by omega) x0 x1
    rw [Int.one_mul] at this
    exact this
  obtain ⟨rfl, rfl⟩ := q
  exact e
/-! rows of z -/
def zv (J : Nat → Nat → Int64) (a V : Nat) : Prop := ∀ i, i < 6 → J 226 (6 * a + i) = zJ (dg V i)
def zs (J : Nat → Nat → Int64) (a V : Nat) : Nat → Nat → Int64 := fun c k => if c = 226 ∧ 6 * a ≤ k ∧ k < 6 * a + 6 then zJ (dg V (k - 6 * a)) else J c k
theorem zs_at (J : Nat → Nat → Int64) (a V : Nat) : zv (zs J a V) a V := fun i hi => by
  show (if 226 = 226 ∧ _ then _ else _) = _
  rw [if_pos ⟨rfl, by omega, by omega⟩, show 6 * a + i - 6 * a = i by omega]
theorem zs_off {J : Nat → Nat → Int64} {a b V W : Nat} (h : zv J b W) (hab : b ≠ a) : zv (zs J a V) b W := fun i hi => by
  show (if 226 = 226 ∧ _ then _ else _) = _
  rw [if_neg (by omega)]
  exact h i hi
theorem zs_ne (J : Nat → Nat → Int64) (a V : Nat) {c : Nat} (h : c ≠ 226) : zs J a V c = J c := funext fun k => if_neg (fun z => h z.1)
theorem zs_of {J K : Nat → Nat → Int64} {a V : Nat} (h1 : ∀ c, c ≠ 226 → K c = J c) (h2 : ∀ k, k < 6 * a ∨ 6 * a + 6 ≤ k → K 226 k = J 226 k) (h3 : zv K a V) : K = zs J a V := by
  funext c k
  unfold zs
  by_cases e : c = 226
  · subst e
    by_cases e2 : 6 * a ≤ k ∧ k < 6 * a + 6
    · rw [if_pos ⟨rfl, e2⟩]
      have := h3 (k - 6 * a) (by omega)
      rw [show 6 * a + (k - 6 * a) = k by omega] at this
      exact this
    · rw [if_neg (fun z => e2 z.2)]
      exact h2 k (by omega)
  · rw [if_neg (fun z => e z.1), h1 c e]
theorem ix6 (a i : Nat) : ((Int8.ofInt 6).toInt32 * nI a + nI i : Int32) = nI (6 * a + i) := by
  rw [show ((Int8.ofInt 6).toInt32 : Int32) = nI 6 from rfl, pk_mul, nI_add]
theorem ix17 (a i : Nat) : ((Int8.ofInt 17).toInt32 * nI a + nI i : Int32) = nI (17 * a + i) := by
  rw [show ((Int8.ofInt 17).toInt32 : Int32) = nI 17 from rfl, pk_mul, nI_add]
/-- i of row a stand, the rest as in J -/
def zi (J K : Nat → Nat → Int64) (a V i : Nat) : Prop := (∀ c, c ≠ 226 → K c = J c) ∧ (∀ k, k < 6 * a ∨ 6 * a + i ≤ k → K 226 k = J 226 k) ∧ ∀ k, k < i → K 226 (6 * a + k) = zJ (dg V k)
theorem zi_0 (J : Nat → Nat → Int64) (a V : Nat) : zi J J a V 0 := ⟨fun _ _ => rfl, fun _ _ => rfl, fun k hk => absurd hk (Nat.not_lt_zero k)⟩
theorem zi_s {J K : Nat → Nat → Int64} {a V i : Nat} (h : zi J K a V i) : zi J (mm_up K 226 (6 * a + i) (zJ (dg V i))) a V (i + 1) :=
  ⟨fun c hc => (up_ne K _ hc).trans (h.1 c hc), fun k hk => (up_nk K _ (by omega)).trans (h.2.1 k (by omega)), fun k hk => by
    by_cases e : k = i
    · rw [e]; exact mm_up_at K _ _ _
    · exact (up_nk K _ (by omega)).trans (h.2.2 k (by omega))⟩
theorem zi_6 {J K : Nat → Nat → Int64} {a V : Nat} (h : zi J K a V 6) : K = zs J a V := zs_of h.1 h.2.1 h.2.2
theorem ev_zero (L : Nat) (I : Nat → Nat → Int32) (J : Nat → Nat → Int64) (w : Nat → Nat) (a : Nat) (ha : a < 8) : EV m_Mo_zero [.ref 207, .int (nI a)] (hp L I J w) none (hp L I (zs J a 0) w) := by
  obtain ⟨r, h', e, q⟩ : SP m_Mo_zero [.ref 207, .int (nI a)] (hp L I J w) (fun r h' => r = none ∧ h' = hp L I (zs J a 0) w) := by
    unfold SP
    iterate 4 (refine WP.st rfl ?_)
    refine WP.inv (fun i (K : Nat → Nat → Int64) => (5, [some (.ref 207), some (.int (nI a)), some (.int (nI i))], [.int (nI 6), .int (nI i)], hp L I K w, 0, 0)) (fun i K => zi J K a 0 i) 6 J (zi_0 J a 0) (fun i K hi hv kk => ?_) (fun K hv => ?_)
    · refine WP.icf rfl (nI_ge hi (by omega)) ?_
      iterate 8 (refine WP.st rfl ?_)
      refine WP.last (k := 6 * a + i) rfl (ix6 a i) (rfl) (show 6 * a + i < 48 by omega) (rfl) ?_
      iterate 4 (refine WP.st rfl ?_)
      have kk2 := kk (mm_up K 226 (6 * a + i) (zJ (dg 0 i))) (zi_s hv)
      rw [nI_succ i, dg_0] at kk2
      exact kk2
    · skip
      refine WP.ict rfl (nI_le (Nat.le_refl _) (by omega)) ?_
      rw [zi_6 hv]
      exact WP.ret rfl ⟨rfl, rfl⟩
  obtain ⟨rfl, rfl⟩ := q
  exact e
theorem ev_copy (L : Nat) (I : Nat → Nat → Int32) (J : Nat → Nat → Int64) (w : Nat → Nat) (a b V : Nat) (ha : a < 8) (hb : b < 8) (hab : a ≠ b) (hV : zv J b V) : EV m_Mo_copy [.ref 207, .int (nI a), .int (nI b)] (hp L I J w) none (hp L I (zs J a V) w) := by
  obtain ⟨r, h', e, q⟩ : SP m_Mo_copy [.ref 207, .int (nI a), .int (nI b)] (hp L I J w) (fun r h' => r = none ∧ h' = hp L I (zs J a V) w) := by
    unfold SP
    iterate 4 (refine WP.st rfl ?_)
    refine WP.inv (fun i (K : Nat → Nat → Int64) => (5, [some (.ref 207), some (.int (nI a)), some (.int (nI b)), some (.int (nI i))], [.int (nI 6), .int (nI i)], hp L I K w, 0, 0)) (fun i K => zi J K a V i) 6 J (zi_0 J a V) (fun i K hi hv kk => ?_) (fun K hv => ?_)
    · refine WP.icf rfl (nI_ge hi (by omega)) ?_
      iterate 14 (refine WP.st rfl ?_)
      refine WP.lald (k := 6 * b + i) rfl (ix6 b i) (Or.inl rfl) (show 6 * b + i < 48 by omega) (rfl) ?_
      rw [show hJ (hp L I K w) 226 (6 * b + i) = zJ (dg V i) from (hv.2.1 _ (by omega)).trans (hV i hi)]
      refine WP.last (k := 6 * a + i) rfl (ix6 a i) (rfl) (show 6 * a + i < 48 by omega) (rfl) ?_
      iterate 4 (refine WP.st rfl ?_)
      have kk2 := kk (mm_up K 226 (6 * a + i) (zJ (dg V i))) (zi_s hv)
      rw [nI_succ i] at kk2
      exact kk2
    · skip
      refine WP.ict rfl (nI_le (Nat.le_refl _) (by omega)) ?_
      rw [zi_6 hv]
      exact WP.ret rfl ⟨rfl, rfl⟩
  obtain ⟨rfl, rfl⟩ := q
  exact e
theorem ev_timesAnd (L : Nat) (I : Nat → Nat → Int32) (J : Nat → Nat → Int64) (w : Nat → Nat) (a V t m : Nat) (ha : a < 8) (hV : zv J a V) (ht : t < 2 ^ 31) (hm : m < 2 ^ 31) : EV m_Mo_timesAnd [.ref 207, .int (nI a), .long (zJ t), .long (zJ m)] (hp L I J w) none (hp L I (zs J a (V * t + m)) w) := by
  obtain ⟨r, h', e, q⟩ : SP m_Mo_timesAnd [.ref 207, .int (nI a), .long (zJ t), .long (zJ m)] (hp L I J w) (fun r h' => r = none ∧ h' = hp L I (zs J a (V * t + m)) w) := by
    unfold SP
    iterate 6 (refine WP.st rfl ?_)
    have key := WP.inv (mid := m_Mo_timesAnd) (Q := fun r h' => r = none ∧ h' = hp L I (zs J a (V * t + m)) w) (fun i (σ : (Nat → Nat → Int64) × Option Value) => (11, [some (.ref 207), some (.int (nI a)), some (.long (zJ t)), none, some (.long (zJ m)), none, some (.long (zJ (cy_ V t m i))), none, some (.int (nI i)), σ.2, none], [.int (nI 6), .int (nI i)], hp L I σ.1 w, 0, 0)) (fun i σ => zi J σ.1 a (V * t + m) i) 6 (J, none) (zi_0 J a _) (fun i σ hi hv kk => ?_) (fun σ hv => ?_)
    · rw [show cy_ V t m 0 = m from by unfold cy_; simp [Nat.mod_one]] at key
      exact key
    · obtain ⟨K, o⟩ := σ
      dsimp only at hv ⊢
      have c1 := cy_lt V t m i ht hm
      have d1 := dg_lt V i
      have m1 : dg V i * t ≤ 1073741823 * 2147483647 := Nat.mul_le_mul (by omega) (by omega)
      refine WP.icf rfl (nI_ge hi (by omega)) ?_
      iterate 7 (refine WP.st rfl ?_)
      refine WP.lald (k := 6 * a + i) rfl (ix6 a i) (Or.inl rfl) (show 6 * a + i < 48 by omega) (rfl) ?_
      rw [show hJ (hp L I K w) 226 (6 * a + i) = zJ (dg V i) from (hv.2.1 _ (by omega)).trans (hV i hi)]
      iterate 2 (refine WP.st rfl ?_)
      rw [zJ_m]
      iterate 2 (refine WP.st rfl ?_)
      rw [zJ_c, Nat.add_comm (dg V i * t)]
      iterate 10 (refine WP.st rfl ?_)
      refine WP.lrem rfl (show ¬ (1073741824 : Int64) = 0 by decide) ?_
      rw [show (zJ ((cy_ V t m i + dg V i * t : Nat) : Int) - zJ ((cy_ V t m i + dg V i * t : Nat) : Int) / 1073741824 * 1073741824 : Int64) = zJ ((dg (V * t + m) i : Nat) : Int) from by
        rw [← cy_dig]
        have := zJ_remp (a := ((cy_ V t m i + dg V i * t : Nat) : Int)) (b := 1073741824) (by omega) (by omega) (by decide) (by decide)
        exact this]
      refine WP.last (k := 6 * a + i) rfl (ix6 a i) (rfl) (show 6 * a + i < 48 by omega) (rfl) ?_
      iterate 2 (refine WP.st rfl ?_)
      refine WP.ldiv rfl (show ¬ (1073741824 : Int64) = 0 by decide) ?_
      rw [show (zJ ((cy_ V t m i + dg V i * t : Nat) : Int) / 1073741824 : Int64) = zJ ((cy_ V t m (i + 1) : Nat) : Int) from by
        rw [← cy_next]
        have := zJ_div (a := ((cy_ V t m i + dg V i * t : Nat) : Int)) (b := 1073741824) (by omega) (by omega) (by decide) (by decide)
        rw [Int.tdiv_eq_ediv_of_nonneg (by omega)] at this
        exact this]
      iterate 5 (refine WP.st rfl ?_)
      have kk2 := kk (mm_up K 226 (6 * a + i) (zJ (dg (V * t + m) i)), some (.long (zJ ((cy_ V t m i + dg V i * t : Nat) : Int)))) (zi_s hv)
      rw [nI_succ i] at kk2
      exact kk2
    · obtain ⟨K, o⟩ := σ
      dsimp only at hv ⊢
      refine WP.ict rfl (nI_le (Nat.le_refl _) (by omega)) ?_
      rw [zi_6 hv]
      exact WP.ret rfl ⟨rfl, rfl⟩
  obtain ⟨rfl, rfl⟩ := q
  exact e
end
section
/-! the reference: compare, less, limbs -/
def cmI (V W : Nat) : Int32 := if V < W then -1 else if W < V then 1 else 0
theorem dg_cmp {V W q : Nat} (he : V / 1073741824 ^ (q + 1) = W / 1073741824 ^ (q + 1)) : (dg V q < dg W q → V < W) ∧ (dg V q = dg W q → V / 1073741824 ^ q = W / 1073741824 ^ q) := by
  have d1 := dg_step V q
  have d2 := dg_step W q
  constructor
  · intro lt
    apply Classical.byContradiction
    intro hn
    have : W / 1073741824 ^ q ≤ V / 1073741824 ^ q := Nat.div_le_div_right (by omega)
    omega
  · intro e
    rw [d1, d2, he, e]
set_option maxHeartbeats 4000000 in
set_option maxRecDepth 20000 in
theorem ev_zcompare (L : Nat) (I : Nat → Nat → Int32) (J : Nat → Nat → Int64) (w : Nat → Nat) (a b V W : Nat) (ha : a < 8) (hb : b < 8) (hV : zv J a V) (hW : zv J b W) (lV : V < 1073741824 ^ 6) (lW : W < 1073741824 ^ 6) : EV m_Mo_compare [.ref 207, .int (nI a), .int (nI b)] (hp L I J w) (some (.int (cmI V W))) (hp L I J w) := by
  obtain ⟨r, h', e, q⟩ : SP m_Mo_compare [.ref 207, .int (nI a), .int (nI b)] (hp L I J w) (fun r h' => r = some (.int (cmI V W)) ∧ h' = hp L I J w) := by
    unfold SP
    iterate 5 (refine WP.st rfl ?_)
    -- once it differs
    have fin : ∀ (c : Int32) (q : Nat) (o : Option Value), c ≠ 0 → cmI V W = c → q < 6 → WP m_Mo_compare (7, [some (.ref 207), some (.int (nI a)), some (.int (nI b)), some (.int c), some (.int (nI q - 1)), o, none], [.int (nI q - 1)], hp L I J w, 0, 0) (fun r h' => r = some (.int (cmI V W)) ∧ h' = hp L I J w) := by
      intro c q o hc he hq
      by_cases e0 : q = 0
      · subst e0
        refine WP.ift rfl (show nI 0 - 1 < 0 by decide) ?_
        iterate 1 (refine WP.st rfl ?_)
        rw [he]
        exact WP.ret rfl ⟨rfl, rfl⟩
      · obtain ⟨m, rfl⟩ : ∃ m, q = m + 1 := ⟨q - 1, by omega⟩
        rw [nI_m1]
        refine WP.iff rfl (nI_pos (by omega)) ?_
        iterate 1 (refine WP.st rfl ?_)
        refine WP.ift rfl (hc) ?_
        iterate 1 (refine WP.st rfl ?_)
        rw [he]
        exact WP.ret rfl ⟨rfl, rfl⟩
    refine WP.down (fun q (o : Option Value) => (7, [some (.ref 207), some (.int (nI a)), some (.int (nI b)), some (.int 0), some (.int (nI q - 1)), o, none], [.int (nI q - 1)], hp L I J w, 0, 0)) (fun q o => V / 1073741824 ^ q = W / 1073741824 ^ q) 6 none (by rw [Nat.div_eq_of_lt lV, Nat.div_eq_of_lt lW]) (fun q o hq hv kk => ?_) (fun o hv => ?_)
    · have dl1 := dg_lt V q
      have dl2 := dg_lt W q
      have dc := dg_cmp hv
      have dc2 := dg_cmp hv.symm
      rw [nI_m1]
      refine WP.iff rfl (nI_pos (by omega)) ?_
      iterate 1 (refine WP.st rfl ?_)
      refine WP.iff rfl (fun z => z rfl) ?_
      iterate 7 (refine WP.st rfl ?_)
      refine WP.lald (k := 6 * a + q) rfl (ix6 a q) (Or.inl rfl) (show 6 * a + q < 48 by omega) (rfl) ?_
      rw [show hJ (hp L I J w) 226 (6 * a + q) = zJ (dg V q) from hV q hq]
      iterate 7 (refine WP.st rfl ?_)
      refine WP.lald (k := 6 * b + q) rfl (ix6 b q) (Or.inl rfl) (show 6 * b + q < 48 by omega) (rfl) ?_
      rw [show hJ (hp L I J w) 226 (6 * b + q) = zJ (dg W q) from hW q hq]
      iterate 1 (refine WP.st rfl ?_)
      rw [zJ_sub]
      iterate 4 (refine WP.st rfl ?_)
      by_cases g1 : dg W q < dg V q
      · have := dc2.1 g1
        have ec : cmI V W = 1 := by unfold cmI; rw [if_neg (by omega), if_pos this]
        refine WP.iff rfl (fun z => by have := (zJ_le (a := (dg V q : Int) - dg W q) (b := 0) (by omega) (by omega) (by omega) (by omega)).mp (lc_le.mp z); omega) ?_
        iterate 6 (refine WP.st rfl ?_)
        have f := fin 1 q (some (.long (zJ ((dg V q : Int) - dg W q)))) (by decide) ec hq
        rw [nI_sub1] at f
        exact f
      · skip
        refine WP.ift rfl (lc_le.mpr (show zJ ((dg V q : Int) - dg W q) ≤ zJ 0 from (zJ_le (by omega) (by omega) (by omega) (by omega)).mpr (by omega))) ?_
        iterate 3 (refine WP.st rfl ?_)
        by_cases g2 : dg V q < dg W q
        · have := dc.1 g2
          have ec : cmI V W = -1 := by unfold cmI; rw [if_pos this]
          refine WP.iff rfl (fun z => by have := (zJ_le (a := 0) (b := (dg V q : Int) - dg W q) (by omega) (by omega) (by omega) (by omega)).mp (lc_ge.mp z); omega) ?_
          iterate 6 (refine WP.st rfl ?_)
          have f := fin (-1) q (some (.long (zJ ((dg V q : Int) - dg W q)))) (by decide) ec hq
          rw [nI_sub1] at f
          exact f
        · skip
          refine WP.ift rfl (lc_ge.mpr (show zJ 0 ≤ zJ ((dg V q : Int) - dg W q) from (zJ_le (by omega) (by omega) (by omega) (by omega)).mpr (by omega))) ?_
          iterate 5 (refine WP.st rfl ?_)
          have k3 := kk (some (.long (zJ ((dg V q : Int) - dg W q)))) (dc.2 (by omega))
          rw [nI_sub1] at k3
          exact k3
    · have e : V = W := by simpa using hv
      refine WP.ift rfl (show nI 0 - 1 < 0 by decide) ?_
      iterate 1 (refine WP.st rfl ?_)
      refine WP.ret rfl ⟨?_, rfl⟩
      unfold cmI
      rw [if_neg (by omega), if_neg (by omega)]
  obtain ⟨rfl, rfl⟩ := q
  exact e
set_option maxHeartbeats 4000000 in
set_option maxRecDepth 20000 in
theorem ev_zless (L : Nat) (I : Nat → Nat → Int32) (J : Nat → Nat → Int64) (w : Nat → Nat) (a b V W : Nat) (ha : a < 8) (hb : b < 8) (hab : a ≠ b) (hV : zv J a V) (hW : zv J b W) (hWV : W ≤ V) : EV m_Mo_less [.ref 207, .int (nI a), .int (nI b)] (hp L I J w) none (hp L I (zs J a (V - W)) w) := by
  obtain ⟨r, h', e, q⟩ : SP m_Mo_less [.ref 207, .int (nI a), .int (nI b)] (hp L I J w) (fun r h' => r = none ∧ h' = hp L I (zs J a (V - W)) w) := by
    unfold SP
    iterate 6 (refine WP.st rfl ?_)
    have key := WP.inv (mid := m_Mo_less) (Q := fun r h' => r = none ∧ h' = hp L I (zs J a (V - W)) w) (fun i (σ : (Nat → Nat → Int64) × Option Value) => (9, [some (.ref 207), some (.int (nI a)), some (.int (nI b)), some (.long (zJ (- bw_ V W i))), none, some (.int (nI i)), σ.2, none], [.int (nI 6), .int (nI i)], hp L I σ.1 w, 0, 0)) (fun i σ => zi J σ.1 a (V - W) i) 6 (J, none) (zi_0 J a _) (fun i σ hi hv kk => ?_) (fun σ hv => ?_)
    · rw [show - bw_ V W 0 = 0 from by unfold bw_; simp [Nat.mod_one]] at key
      exact key
    · obtain ⟨K, o⟩ := σ
      dsimp only at hv ⊢
      have dl1 := dg_lt V i
      have dl2 := dg_lt W i
      have b1 := bw_lt V W i
      have b2 := bw_dig V W i hWV
      have b3 := bw_next V W i
      refine WP.icf rfl (nI_ge hi (by omega)) ?_
      iterate 7 (refine WP.st rfl ?_)
      refine WP.lald (k := 6 * a + i) rfl (ix6 a i) (Or.inl rfl) (show 6 * a + i < 48 by omega) (rfl) ?_
      rw [show hJ (hp L I K w) 226 (6 * a + i) = zJ (dg V i) from (hv.2.1 _ (by omega)).trans (hV i hi)]
      iterate 7 (refine WP.st rfl ?_)
      refine WP.lald (k := 6 * b + i) rfl (ix6 b i) (Or.inl rfl) (show 6 * b + i < 48 by omega) (rfl) ?_
      rw [show hJ (hp L I K w) 226 (6 * b + i) = zJ (dg W i) from (hv.2.1 _ (by omega)).trans (hW i hi)]
      iterate 1 (refine WP.st rfl ?_)
      rw [zJ_sub]
      iterate 2 (refine WP.st rfl ?_)
      rw [zJ_sub]
      iterate 4 (refine WP.st rfl ?_)
      have kk2 := kk (mm_up K 226 (6 * a + i) (zJ (dg (V - W) i)), some (.long (zJ ((dg V i : Int) - dg W i - - bw_ V W i)))) (zi_s hv)
      rw [nI_succ i] at kk2
      by_cases g : (dg V i : Int) - dg W i - - bw_ V W i < 0
      · have e1 : bw_ V W (i + 1) = -1 := by rw [← b3]; omega
        have e2 : (dg V i : Int) - dg W i - - bw_ V W i + 1 * 1073741824 = (dg (V - W) i : Int) := by rw [← b2]; omega
        refine WP.iff rfl (fun z => by have := (zJ_le (a := 0) (b := (dg V i : Int) - dg W i - - bw_ V W i) (by omega) (by omega) (by omega) (by omega)).mp (lc_ge.mp z); omega) ?_
        iterate 14 (refine WP.st rfl ?_)
        rw [show (Int64.ofNat ((1 : Fin 2) : Nat) * 1073741824 : Int64) = zJ (1 * 1073741824) from by decide]
        iterate 1 (refine WP.st rfl ?_)
        rw [zJ_add, e2]
        refine WP.last (k := 6 * a + i) rfl (ix6 a i) (rfl) (show 6 * a + i < 48 by omega) (rfl) ?_
        iterate 4 (refine WP.st rfl ?_)
        rw [e1] at kk2
        exact kk2
      · have e1 : bw_ V W (i + 1) = 0 := by rw [← b3]; omega
        have e2 : (dg V i : Int) - dg W i - - bw_ V W i + 0 = (dg (V - W) i : Int) := by rw [← b2]; omega
        refine WP.ift rfl (lc_ge.mpr (show zJ 0 ≤ zJ ((dg V i : Int) - dg W i - - bw_ V W i) from (zJ_le (by omega) (by omega) (by omega) (by omega)).mpr (by omega))) ?_
        iterate 13 (refine WP.st rfl ?_)
        rw [show (Int64.ofNat ((0 : Fin 2) : Nat) * 1073741824 : Int64) = zJ 0 from by decide]
        iterate 1 (refine WP.st rfl ?_)
        rw [zJ_add, e2]
        refine WP.last (k := 6 * a + i) rfl (ix6 a i) (rfl) (show 6 * a + i < 48 by omega) (rfl) ?_
        iterate 4 (refine WP.st rfl ?_)
        rw [e1] at kk2
        exact kk2
    · obtain ⟨K, o⟩ := σ
      dsimp only at hv ⊢
      refine WP.ict rfl (nI_le (Nat.le_refl _) (by omega)) ?_
      rw [zi_6 hv]
      exact WP.ret rfl ⟨rfl, rfl⟩
  obtain ⟨rfl, rfl⟩ := q
  exact e
theorem ev_limbs (L : Nat) (I : Nat → Nat → Int32) (J : Nat → Nat → Int64) (w : Nat → Nat) (a V : Nat) (ha : a < 8) (hV : zv J a V) : EV m_Mo_limbs [.ref 207, .int (nI a)] (hp L I J w) (some (.int (nI (us V 6)))) (hp L I J w) := by
  obtain ⟨r, h', e, q⟩ : SP m_Mo_limbs [.ref 207, .int (nI a)] (hp L I J w) (fun r h' => r = some (.int (nI (us V 6))) ∧ h' = hp L I J w) := by
    unfold SP
    iterate 3 (refine WP.st rfl ?_)
    refine WP.down (fun q (_ : Unit) => (4, [some (.ref 207), some (.int (nI a)), some (.int (nI q))], [.int (nI q)], hp L I J w, 0, 0)) (fun q _ => us V 6 = us V q) 6 () rfl (fun q _ hq hv kk => ?_) (fun _ hv => ?_)
    · have dl := dg_lt V q
      have us_s : us V (q + 1) = if dg V q = 0 then us V q else q + 1 := rfl
      refine WP.iff rfl (nI_nle (by omega) (by omega)) ?_
      iterate 9 (refine WP.st rfl ?_)
      refine WP.lald (k := 6 * a + q) rfl (by rw [ix6, show 6 * a + (q + 1) = 6 * a + q + 1 by omega]; exact nI_m1 _) (Or.inl rfl) (show 6 * a + q < 48 by omega) (rfl) ?_
      rw [show hJ (hp L I J w) 226 (6 * a + q) = zJ (dg V q) from hV q hq]
      iterate 2 (refine WP.st rfl ?_)
      by_cases z : dg V q = 0
      · rw [if_pos z] at us_s
        refine WP.iff rfl (fun y => lc_ne.mp y (by rw [z]; rfl)) ?_
        iterate 3 (refine WP.st rfl ?_)
        have kk2 := kk () (hv.trans us_s)
        rw [show (nI (q + 1) + Int32.ofInt (-1) : Int32) = nI q from pk_m1' q]
        exact kk2
      · rw [if_neg z] at us_s
        refine WP.ift rfl (lc_ne.mpr (fun y => z (by have := (zJ_eq (a := (dg V q : Int)) (b := 0) (by omega) (by omega) (by decide) (by decide)).mp y; omega))) ?_
        iterate 1 (refine WP.st rfl ?_)
        rw [hv, us_s]
        exact WP.ret rfl ⟨rfl, rfl⟩
    · skip
      refine WP.ift rfl (show nI 0 ≤ 0 by decide) ?_
      iterate 1 (refine WP.st rfl ?_)
      rw [hv]
      exact WP.ret rfl ⟨rfl, rfl⟩
  obtain ⟨rfl, rfl⟩ := q
  exact e
end
