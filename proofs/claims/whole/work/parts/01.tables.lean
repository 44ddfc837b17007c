-- ===== PART A: goes FIRST, ahead of the names: the tables' words, and 'selects' of the private methods out of them =====
/-- a private method of a class that the tables say can be made, by its rows of tables_1 -/
def lw_okq (q : MethodName × Nat) : Prop := (q.1.cls ≠ "java/lang/invoke/MethodHandle" ∧ q.1.cls ≠ "java/lang/invoke/VarHandle") ∧ Cond.instantiable q.1.cls q.2 ∈ tables_1 ∧ Cond.privateMethod q.1 ∈ tables_1 ∧ Cond.instanceMethod q.1 ∈ tables_1
theorem lw_p0 : lw_okq (⟨"CrumpledSheet", "feedNumber", "(I)V"⟩, 15) := ⟨⟨by decide +kernel, by decide +kernel⟩, List.mem_of_getElem? (i := 22) (by decide +kernel), List.mem_of_getElem? (i := 369) (by decide +kernel), List.mem_of_getElem? (i := 370) (by decide +kernel)⟩
theorem lw_p1 : lw_okq (⟨"CrumpledSheet$Reader", "open", "(I)V"⟩, 7) := ⟨⟨by decide +kernel, by decide +kernel⟩, List.mem_of_getElem? (i := 30) (by decide +kernel), List.mem_of_getElem? (i := 396) (by decide +kernel), List.mem_of_getElem? (i := 397) (by decide +kernel)⟩
theorem lw_p2 : lw_okq (⟨"CrumpledSheet$Reader", "nextPlace", "()I"⟩, 7) := ⟨⟨by decide +kernel, by decide +kernel⟩, List.mem_of_getElem? (i := 30) (by decide +kernel), List.mem_of_getElem? (i := 412) (by decide +kernel), List.mem_of_getElem? (i := 413) (by decide +kernel)⟩
theorem lw_p3 : lw_okq (⟨"CrumpledSheet$Reader", "clauseWord", "(Ljava/lang/String;I)I"⟩, 7) := ⟨⟨by decide +kernel, by decide +kernel⟩, List.mem_of_getElem? (i := 30) (by decide +kernel), List.mem_of_getElem? (i := 417) (by decide +kernel), List.mem_of_getElem? (i := 418) (by decide +kernel)⟩
theorem lw_p4 : lw_okq (⟨"CrumpledSheet$Reader", "neededWord", "(Ljava/lang/String;)I"⟩, 7) := ⟨⟨by decide +kernel, by decide +kernel⟩, List.mem_of_getElem? (i := 30) (by decide +kernel), List.mem_of_getElem? (i := 421) (by decide +kernel), List.mem_of_getElem? (i := 422) (by decide +kernel)⟩
theorem lw_p5 : lw_okq (⟨"CrumpledSheet$Reader", "wordAmong", "(Ljava/lang/String;)I"⟩, 7) := ⟨⟨by decide +kernel, by decide +kernel⟩, List.mem_of_getElem? (i := 30) (by decide +kernel), List.mem_of_getElem? (i := 425) (by decide +kernel), List.mem_of_getElem? (i := 426) (by decide +kernel)⟩
theorem lw_p6 : lw_okq (⟨"CrumpledSheet$Reader", "fail", "(II)V"⟩, 7) := ⟨⟨by decide +kernel, by decide +kernel⟩, List.mem_of_getElem? (i := 30) (by decide +kernel), List.mem_of_getElem? (i := 481) (by decide +kernel), List.mem_of_getElem? (i := 482) (by decide +kernel)⟩
theorem lw_p7 : lw_okq (⟨"CrumpledSheet$Reader", "number", "(II)I"⟩, 7) := ⟨⟨by decide +kernel, by decide +kernel⟩, List.mem_of_getElem? (i := 30) (by decide +kernel), List.mem_of_getElem? (i := 485) (by decide +kernel), List.mem_of_getElem? (i := 486) (by decide +kernel)⟩
theorem lw_p8 : lw_okq (⟨"CrumpledSheet$Reader", "sum", "()V"⟩, 7) := ⟨⟨by decide +kernel, by decide +kernel⟩, List.mem_of_getElem? (i := 30) (by decide +kernel), List.mem_of_getElem? (i := 499) (by decide +kernel), List.mem_of_getElem? (i := 500) (by decide +kernel)⟩
theorem lw_p9 : lw_okq (⟨"CrumpledSheet$Reader", "value", "()V"⟩, 7) := ⟨⟨by decide +kernel, by decide +kernel⟩, List.mem_of_getElem? (i := 30) (by decide +kernel), List.mem_of_getElem? (i := 503) (by decide +kernel), List.mem_of_getElem? (i := 504) (by decide +kernel)⟩
theorem lw_p10 : lw_okq (⟨"CrumpledSheet$Reader", "countValue", "(I)V"⟩, 7) := ⟨⟨by decide +kernel, by decide +kernel⟩, List.mem_of_getElem? (i := 30) (by decide +kernel), List.mem_of_getElem? (i := 513) (by decide +kernel), List.mem_of_getElem? (i := 514) (by decide +kernel)⟩
theorem lw_p11 : lw_okq (⟨"CrumpledSheet$Reader", "termSign", "()I"⟩, 7) := ⟨⟨by decide +kernel, by decide +kernel⟩, List.mem_of_getElem? (i := 30) (by decide +kernel), List.mem_of_getElem? (i := 517) (by decide +kernel), List.mem_of_getElem? (i := 518) (by decide +kernel)⟩
theorem lw_p12 : lw_okq (⟨"CrumpledSheet$Reader", "takesByte", "(I)Z"⟩, 7) := ⟨⟨by decide +kernel, by decide +kernel⟩, List.mem_of_getElem? (i := 30) (by decide +kernel), List.mem_of_getElem? (i := 521) (by decide +kernel), List.mem_of_getElem? (i := 522) (by decide +kernel)⟩
theorem lw_p13 : lw_okq (⟨"CrumpledSheet$Reader", "takesWord", "(Ljava/lang/String;)Z"⟩, 7) := ⟨⟨by decide +kernel, by decide +kernel⟩, List.mem_of_getElem? (i := 30) (by decide +kernel), List.mem_of_getElem? (i := 526) (by decide +kernel), List.mem_of_getElem? (i := 527) (by decide +kernel)⟩
theorem lw_p14 : lw_okq (⟨"CrumpledSheet$Reader", "test", "(I)V"⟩, 7) := ⟨⟨by decide +kernel, by decide +kernel⟩, List.mem_of_getElem? (i := 30) (by decide +kernel), List.mem_of_getElem? (i := 530) (by decide +kernel), List.mem_of_getElem? (i := 531) (by decide +kernel)⟩
theorem lw_p15 : lw_okq (⟨"CrumpledSheet$Reader", "fact", "(I)V"⟩, 7) := ⟨⟨by decide +kernel, by decide +kernel⟩, List.mem_of_getElem? (i := 30) (by decide +kernel), List.mem_of_getElem? (i := 534) (by decide +kernel), List.mem_of_getElem? (i := 535) (by decide +kernel)⟩
def lw_privs_1 : List (MethodName × Nat) := [(⟨"CrumpledSheet", "feedNumber", "(I)V"⟩, 15), (⟨"CrumpledSheet$Reader", "open", "(I)V"⟩, 7), (⟨"CrumpledSheet$Reader", "nextPlace", "()I"⟩, 7), (⟨"CrumpledSheet$Reader", "clauseWord", "(Ljava/lang/String;I)I"⟩, 7), (⟨"CrumpledSheet$Reader", "neededWord", "(Ljava/lang/String;)I"⟩, 7), (⟨"CrumpledSheet$Reader", "wordAmong", "(Ljava/lang/String;)I"⟩, 7), (⟨"CrumpledSheet$Reader", "fail", "(II)V"⟩, 7), (⟨"CrumpledSheet$Reader", "number", "(II)I"⟩, 7), (⟨"CrumpledSheet$Reader", "sum", "()V"⟩, 7), (⟨"CrumpledSheet$Reader", "value", "()V"⟩, 7), (⟨"CrumpledSheet$Reader", "countValue", "(I)V"⟩, 7), (⟨"CrumpledSheet$Reader", "termSign", "()I"⟩, 7), (⟨"CrumpledSheet$Reader", "takesByte", "(I)Z"⟩, 7), (⟨"CrumpledSheet$Reader", "takesWord", "(Ljava/lang/String;)Z"⟩, 7), (⟨"CrumpledSheet$Reader", "test", "(I)V"⟩, 7), (⟨"CrumpledSheet$Reader", "fact", "(I)V"⟩, 7)]
theorem lw_r1 : ∀ q ∈ lw_privs_1, lw_okq q := List.forall_mem_cons.mpr ⟨lw_p0, List.forall_mem_cons.mpr ⟨lw_p1, List.forall_mem_cons.mpr ⟨lw_p2, List.forall_mem_cons.mpr ⟨lw_p3, List.forall_mem_cons.mpr ⟨lw_p4, List.forall_mem_cons.mpr ⟨lw_p5, List.forall_mem_cons.mpr ⟨lw_p6, List.forall_mem_cons.mpr ⟨lw_p7, List.forall_mem_cons.mpr ⟨lw_p8, List.forall_mem_cons.mpr ⟨lw_p9, List.forall_mem_cons.mpr ⟨lw_p10, List.forall_mem_cons.mpr ⟨lw_p11, List.forall_mem_cons.mpr ⟨lw_p12, List.forall_mem_cons.mpr ⟨lw_p13, List.forall_mem_cons.mpr ⟨lw_p14, List.forall_mem_cons.mpr ⟨lw_p15, fun _ h => absurd h List.not_mem_nil⟩⟩⟩⟩⟩⟩⟩⟩⟩⟩⟩⟩⟩⟩⟩⟩
theorem lw_p16 : lw_okq (⟨"CrumpledSheet$Reader", "factSign", "()I"⟩, 7) := ⟨⟨by decide +kernel, by decide +kernel⟩, List.mem_of_getElem? (i := 30) (by decide +kernel), List.mem_of_getElem? (i := 539) (by decide +kernel), List.mem_of_getElem? (i := 540) (by decide +kernel)⟩
theorem lw_p17 : lw_okq (⟨"CrumpledSheet$Reader", "close", "()I"⟩, 7) := ⟨⟨by decide +kernel, by decide +kernel⟩, List.mem_of_getElem? (i := 30) (by decide +kernel), List.mem_of_getElem? (i := 550) (by decide +kernel), List.mem_of_getElem? (i := 551) (by decide +kernel)⟩
theorem lw_p18 : lw_okq (⟨"CrumpledSheet", "lawAt", "(I)LCrumpledSheet$Law;"⟩, 15) := ⟨⟨by decide +kernel, by decide +kernel⟩, List.mem_of_getElem? (i := 22) (by decide +kernel), List.mem_of_getElem? (i := 607) (by decide +kernel), List.mem_of_getElem? (i := 608) (by decide +kernel)⟩
theorem lw_p19 : lw_okq (⟨"CrumpledSheet$Sheet", "addFacet", "(IIII)V"⟩, 14) := ⟨⟨by decide +kernel, by decide +kernel⟩, List.mem_of_getElem? (i := 125) (by decide +kernel), List.mem_of_getElem? (i := 626) (by decide +kernel), List.mem_of_getElem? (i := 627) (by decide +kernel)⟩
theorem lw_p20 : lw_okq (⟨"CrumpledSheet$Sheet", "putFacet", "(III)V"⟩, 14) := ⟨⟨by decide +kernel, by decide +kernel⟩, List.mem_of_getElem? (i := 125) (by decide +kernel), List.mem_of_getElem? (i := 630) (by decide +kernel), List.mem_of_getElem? (i := 631) (by decide +kernel)⟩
theorem lw_p21 : lw_okq (⟨"CrumpledSheet$Sheet", "putRidge", "(III)V"⟩, 14) := ⟨⟨by decide +kernel, by decide +kernel⟩, List.mem_of_getElem? (i := 125) (by decide +kernel), List.mem_of_getElem? (i := 663) (by decide +kernel), List.mem_of_getElem? (i := 664) (by decide +kernel)⟩
theorem lw_p22 : lw_okq (⟨"CrumpledSheet$Sheet", "drawn", "()I"⟩, 14) := ⟨⟨by decide +kernel, by decide +kernel⟩, List.mem_of_getElem? (i := 125) (by decide +kernel), List.mem_of_getElem? (i := 667) (by decide +kernel), List.mem_of_getElem? (i := 668) (by decide +kernel)⟩
theorem lw_p23 : lw_okq (⟨"CrumpledSheet$Sheet", "fillWords", "(IIII)V"⟩, 14) := ⟨⟨by decide +kernel, by decide +kernel⟩, List.mem_of_getElem? (i := 125) (by decide +kernel), List.mem_of_getElem? (i := 675) (by decide +kernel), List.mem_of_getElem? (i := 676) (by decide +kernel)⟩
theorem lw_p24 : lw_okq (⟨"CrumpledSheet$Sheet", "longOf", "(I)I"⟩, 14) := ⟨⟨by decide +kernel, by decide +kernel⟩, List.mem_of_getElem? (i := 125) (by decide +kernel), List.mem_of_getElem? (i := 679) (by decide +kernel), List.mem_of_getElem? (i := 680) (by decide +kernel)⟩
theorem lw_p25 : lw_okq (⟨"CrumpledSheet$Sheet", "shortOf", "(I)I"⟩, 14) := ⟨⟨by decide +kernel, by decide +kernel⟩, List.mem_of_getElem? (i := 125) (by decide +kernel), List.mem_of_getElem? (i := 693) (by decide +kernel), List.mem_of_getElem? (i := 694) (by decide +kernel)⟩
theorem lw_p26 : lw_okq (⟨"CrumpledSheet$Sheet", "areaOf", "(I)I"⟩, 14) := ⟨⟨by decide +kernel, by decide +kernel⟩, List.mem_of_getElem? (i := 125) (by decide +kernel), List.mem_of_getElem? (i := 700) (by decide +kernel), List.mem_of_getElem? (i := 701) (by decide +kernel)⟩
theorem lw_p27 : lw_okq (⟨"CrumpledSheet$Sheet", "wayOf", "(I)I"⟩, 14) := ⟨⟨by decide +kernel, by decide +kernel⟩, List.mem_of_getElem? (i := 125) (by decide +kernel), List.mem_of_getElem? (i := 708) (by decide +kernel), List.mem_of_getElem? (i := 709) (by decide +kernel)⟩
theorem lw_p28 : lw_okq (⟨"CrumpledSheet$Sheet", "breakFacet", "(I)V"⟩, 14) := ⟨⟨by decide +kernel, by decide +kernel⟩, List.mem_of_getElem? (i := 125) (by decide +kernel), List.mem_of_getElem? (i := 738) (by decide +kernel), List.mem_of_getElem? (i := 739) (by decide +kernel)⟩
theorem lw_p29 : lw_okq (⟨"CrumpledSheet$Sheet", "addRidge", "(IIIII)V"⟩, 14) := ⟨⟨by decide +kernel, by decide +kernel⟩, List.mem_of_getElem? (i := 125) (by decide +kernel), List.mem_of_getElem? (i := 749) (by decide +kernel), List.mem_of_getElem? (i := 750) (by decide +kernel)⟩
theorem lw_p30 : lw_okq (⟨"CrumpledSheet$Sheet", "cutFacet", "(III)V"⟩, 14) := ⟨⟨by decide +kernel, by decide +kernel⟩, List.mem_of_getElem? (i := 125) (by decide +kernel), List.mem_of_getElem? (i := 753) (by decide +kernel), List.mem_of_getElem? (i := 754) (by decide +kernel)⟩
theorem lw_p31 : lw_okq (⟨"CrumpledSheet$Sheet", "isCutBy", "(III)Z"⟩, 14) := ⟨⟨by decide +kernel, by decide +kernel⟩, List.mem_of_getElem? (i := 125) (by decide +kernel), List.mem_of_getElem? (i := 766) (by decide +kernel), List.mem_of_getElem? (i := 767) (by decide +kernel)⟩
def lw_privs_2 : List (MethodName × Nat) := [(⟨"CrumpledSheet$Reader", "factSign", "()I"⟩, 7), (⟨"CrumpledSheet$Reader", "close", "()I"⟩, 7), (⟨"CrumpledSheet", "lawAt", "(I)LCrumpledSheet$Law;"⟩, 15), (⟨"CrumpledSheet$Sheet", "addFacet", "(IIII)V"⟩, 14), (⟨"CrumpledSheet$Sheet", "putFacet", "(III)V"⟩, 14), (⟨"CrumpledSheet$Sheet", "putRidge", "(III)V"⟩, 14), (⟨"CrumpledSheet$Sheet", "drawn", "()I"⟩, 14), (⟨"CrumpledSheet$Sheet", "fillWords", "(IIII)V"⟩, 14), (⟨"CrumpledSheet$Sheet", "longOf", "(I)I"⟩, 14), (⟨"CrumpledSheet$Sheet", "shortOf", "(I)I"⟩, 14), (⟨"CrumpledSheet$Sheet", "areaOf", "(I)I"⟩, 14), (⟨"CrumpledSheet$Sheet", "wayOf", "(I)I"⟩, 14), (⟨"CrumpledSheet$Sheet", "breakFacet", "(I)V"⟩, 14), (⟨"CrumpledSheet$Sheet", "addRidge", "(IIIII)V"⟩, 14), (⟨"CrumpledSheet$Sheet", "cutFacet", "(III)V"⟩, 14), (⟨"CrumpledSheet$Sheet", "isCutBy", "(III)Z"⟩, 14)]
theorem lw_r2 : ∀ q ∈ lw_privs_2, lw_okq q := List.forall_mem_cons.mpr ⟨lw_p16, List.forall_mem_cons.mpr ⟨lw_p17, List.forall_mem_cons.mpr ⟨lw_p18, List.forall_mem_cons.mpr ⟨lw_p19, List.forall_mem_cons.mpr ⟨lw_p20, List.forall_mem_cons.mpr ⟨lw_p21, List.forall_mem_cons.mpr ⟨lw_p22, List.forall_mem_cons.mpr ⟨lw_p23, List.forall_mem_cons.mpr ⟨lw_p24, List.forall_mem_cons.mpr ⟨lw_p25, List.forall_mem_cons.mpr ⟨lw_p26, List.forall_mem_cons.mpr ⟨lw_p27, List.forall_mem_cons.mpr ⟨lw_p28, List.forall_mem_cons.mpr ⟨lw_p29, List.forall_mem_cons.mpr ⟨lw_p30, List.forall_mem_cons.mpr ⟨lw_p31, fun _ h => absurd h List.not_mem_nil⟩⟩⟩⟩⟩⟩⟩⟩⟩⟩⟩⟩⟩⟩⟩⟩
theorem lw_p32 : lw_okq (⟨"CrumpledSheet", "doingAt", "(I)LCrumpledSheet$Doing;"⟩, 15) := ⟨⟨by decide +kernel, by decide +kernel⟩, List.mem_of_getElem? (i := 22) (by decide +kernel), List.mem_of_getElem? (i := 786) (by decide +kernel), List.mem_of_getElem? (i := 787) (by decide +kernel)⟩
theorem lw_p33 : lw_okq (⟨"CrumpledSheet$Sheet", "isSoft", "(I)Z"⟩, 14) := ⟨⟨by decide +kernel, by decide +kernel⟩, List.mem_of_getElem? (i := 125) (by decide +kernel), List.mem_of_getElem? (i := 836) (by decide +kernel), List.mem_of_getElem? (i := 837) (by decide +kernel)⟩
theorem lw_p34 : lw_okq (⟨"CrumpledSheet$Sheet", "pressedIn", "(I)I"⟩, 14) := ⟨⟨by decide +kernel, by decide +kernel⟩, List.mem_of_getElem? (i := 125) (by decide +kernel), List.mem_of_getElem? (i := 879) (by decide +kernel), List.mem_of_getElem? (i := 880) (by decide +kernel)⟩
theorem lw_p35 : lw_okq (⟨"CrumpledSheet", "ruleAt", "(I)LCrumpledSheet$Rule;"⟩, 15) := ⟨⟨by decide +kernel, by decide +kernel⟩, List.mem_of_getElem? (i := 22) (by decide +kernel), List.mem_of_getElem? (i := 944) (by decide +kernel), List.mem_of_getElem? (i := 945) (by decide +kernel)⟩
theorem lw_p36 : lw_okq (⟨"CrumpledSheet$Sight", "fillWords", "(I)V"⟩, 4) := ⟨⟨by decide +kernel, by decide +kernel⟩, List.mem_of_getElem? (i := 187) (by decide +kernel), List.mem_of_getElem? (i := 953) (by decide +kernel), List.mem_of_getElem? (i := 954) (by decide +kernel)⟩
theorem lw_p37 : lw_okq (⟨"CrumpledSheet$Sight", "isSeen", "(I)Z"⟩, 4) := ⟨⟨by decide +kernel, by decide +kernel⟩, List.mem_of_getElem? (i := 187) (by decide +kernel), List.mem_of_getElem? (i := 976) (by decide +kernel), List.mem_of_getElem? (i := 977) (by decide +kernel)⟩
theorem lw_p38 : lw_okq (⟨"CrumpledSheet$Sight", "isLoose", "(II)Z"⟩, 4) := ⟨⟨by decide +kernel, by decide +kernel⟩, List.mem_of_getElem? (i := 187) (by decide +kernel), List.mem_of_getElem? (i := 989) (by decide +kernel), List.mem_of_getElem? (i := 990) (by decide +kernel)⟩
theorem lw_p39 : lw_okq (⟨"CrumpledSheet$Sight", "putsRight", "(I)Z"⟩, 4) := ⟨⟨by decide +kernel, by decide +kernel⟩, List.mem_of_getElem? (i := 187) (by decide +kernel), List.mem_of_getElem? (i := 1005) (by decide +kernel), List.mem_of_getElem? (i := 1006) (by decide +kernel)⟩
theorem lw_p40 : lw_okq (⟨"CrumpledSheet$Corners", "drawRidge", "(LCrumpledSheet$Sheet;I)V"⟩, 4) := ⟨⟨by decide +kernel, by decide +kernel⟩, List.mem_of_getElem? (i := 206) (by decide +kernel), List.mem_of_getElem? (i := 1030) (by decide +kernel), List.mem_of_getElem? (i := 1031) (by decide +kernel)⟩
theorem lw_p41 : lw_okq (⟨"CrumpledSheet$Corners", "pointOf", "(LCrumpledSheet$Sheet;II)I"⟩, 4) := ⟨⟨by decide +kernel, by decide +kernel⟩, List.mem_of_getElem? (i := 206) (by decide +kernel), List.mem_of_getElem? (i := 1035) (by decide +kernel), List.mem_of_getElem? (i := 1036) (by decide +kernel)⟩
theorem lw_p42 : lw_okq (⟨"CrumpledSheet$Corners", "wipeRidge", "(LCrumpledSheet$Sheet;I)V"⟩, 4) := ⟨⟨by decide +kernel, by decide +kernel⟩, List.mem_of_getElem? (i := 206) (by decide +kernel), List.mem_of_getElem? (i := 1041) (by decide +kernel), List.mem_of_getElem? (i := 1042) (by decide +kernel)⟩
theorem lw_p43 : lw_okq (⟨"CrumpledSheet$Corners", "countPoint", "(I)V"⟩, 4) := ⟨⟨by decide +kernel, by decide +kernel⟩, List.mem_of_getElem? (i := 206) (by decide +kernel), List.mem_of_getElem? (i := 1046) (by decide +kernel), List.mem_of_getElem? (i := 1047) (by decide +kernel)⟩
theorem lw_p44 : lw_okq (⟨"CrumpledSheet", "stripAt", "(I)LCrumpledSheet$Strip;"⟩, 15) := ⟨⟨by decide +kernel, by decide +kernel⟩, List.mem_of_getElem? (i := 22) (by decide +kernel), List.mem_of_getElem? (i := 1085) (by decide +kernel), List.mem_of_getElem? (i := 1086) (by decide +kernel)⟩
theorem lw_p45 : lw_okq (⟨"CrumpledSheet$Strip", "reduceOnce", "()Z"⟩, 7) := ⟨⟨by decide +kernel, by decide +kernel⟩, List.mem_of_getElem? (i := 291) (by decide +kernel), List.mem_of_getElem? (i := 1101) (by decide +kernel), List.mem_of_getElem? (i := 1102) (by decide +kernel)⟩
theorem lw_p46 : lw_okq (⟨"CrumpledSheet$Strip", "closeUp", "(II)V"⟩, 7) := ⟨⟨by decide +kernel, by decide +kernel⟩, List.mem_of_getElem? (i := 291) (by decide +kernel), List.mem_of_getElem? (i := 1105) (by decide +kernel), List.mem_of_getElem? (i := 1106) (by decide +kernel)⟩
theorem lw_p47 : lw_okq (⟨"CrumpledSheet$Strip", "firstPleat", "()I"⟩, 7) := ⟨⟨by decide +kernel, by decide +kernel⟩, List.mem_of_getElem? (i := 291) (by decide +kernel), List.mem_of_getElem? (i := 1109) (by decide +kernel), List.mem_of_getElem? (i := 1110) (by decide +kernel)⟩
def lw_privs_3 : List (MethodName × Nat) := [(⟨"CrumpledSheet", "doingAt", "(I)LCrumpledSheet$Doing;"⟩, 15), (⟨"CrumpledSheet$Sheet", "isSoft", "(I)Z"⟩, 14), (⟨"CrumpledSheet$Sheet", "pressedIn", "(I)I"⟩, 14), (⟨"CrumpledSheet", "ruleAt", "(I)LCrumpledSheet$Rule;"⟩, 15), (⟨"CrumpledSheet$Sight", "fillWords", "(I)V"⟩, 4), (⟨"CrumpledSheet$Sight", "isSeen", "(I)Z"⟩, 4), (⟨"CrumpledSheet$Sight", "isLoose", "(II)Z"⟩, 4), (⟨"CrumpledSheet$Sight", "putsRight", "(I)Z"⟩, 4), (⟨"CrumpledSheet$Corners", "drawRidge", "(LCrumpledSheet$Sheet;I)V"⟩, 4), (⟨"CrumpledSheet$Corners", "pointOf", "(LCrumpledSheet$Sheet;II)I"⟩, 4), (⟨"CrumpledSheet$Corners", "wipeRidge", "(LCrumpledSheet$Sheet;I)V"⟩, 4), (⟨"CrumpledSheet$Corners", "countPoint", "(I)V"⟩, 4), (⟨"CrumpledSheet", "stripAt", "(I)LCrumpledSheet$Strip;"⟩, 15), (⟨"CrumpledSheet$Strip", "reduceOnce", "()Z"⟩, 7), (⟨"CrumpledSheet$Strip", "closeUp", "(II)V"⟩, 7), (⟨"CrumpledSheet$Strip", "firstPleat", "()I"⟩, 7)]
theorem lw_r3 : ∀ q ∈ lw_privs_3, lw_okq q := List.forall_mem_cons.mpr ⟨lw_p32, List.forall_mem_cons.mpr ⟨lw_p33, List.forall_mem_cons.mpr ⟨lw_p34, List.forall_mem_cons.mpr ⟨lw_p35, List.forall_mem_cons.mpr ⟨lw_p36, List.forall_mem_cons.mpr ⟨lw_p37, List.forall_mem_cons.mpr ⟨lw_p38, List.forall_mem_cons.mpr ⟨lw_p39, List.forall_mem_cons.mpr ⟨lw_p40, List.forall_mem_cons.mpr ⟨lw_p41, List.forall_mem_cons.mpr ⟨lw_p42, List.forall_mem_cons.mpr ⟨lw_p43, List.forall_mem_cons.mpr ⟨lw_p44, List.forall_mem_cons.mpr ⟨lw_p45, List.forall_mem_cons.mpr ⟨lw_p46, List.forall_mem_cons.mpr ⟨lw_p47, fun _ h => absurd h List.not_mem_nil⟩⟩⟩⟩⟩⟩⟩⟩⟩⟩⟩⟩⟩⟩⟩⟩
theorem lw_p48 : lw_okq (⟨"CrumpledSheet", "alikeAfresh", "(LCrumpledSheet$Sheet;LCrumpledSheet$Doing;)I"⟩, 15) := ⟨⟨by decide +kernel, by decide +kernel⟩, List.mem_of_getElem? (i := 22) (by decide +kernel), List.mem_of_getElem? (i := 1206) (by decide +kernel), List.mem_of_getElem? (i := 1207) (by decide +kernel)⟩
theorem lw_p49 : lw_okq (⟨"CrumpledSheet$Sheet", "hasRidgeLike", "(LCrumpledSheet$Sheet;I)Z"⟩, 14) := ⟨⟨by decide +kernel, by decide +kernel⟩, List.mem_of_getElem? (i := 125) (by decide +kernel), List.mem_of_getElem? (i := 1223) (by decide +kernel), List.mem_of_getElem? (i := 1224) (by decide +kernel)⟩
theorem lw_p50 : lw_okq (⟨"CrumpledSheetModel", "four", "(I)V"⟩, 36) := ⟨⟨by decide +kernel, by decide +kernel⟩, List.mem_of_getElem? (i := 1280) (by decide +kernel), List.mem_of_getElem? (i := 1402) (by decide +kernel), List.mem_of_getElem? (i := 1403) (by decide +kernel)⟩
theorem lw_p51 : lw_okq (⟨"CrumpledSheetModel", "stripHere", "(I)Z"⟩, 36) := ⟨⟨by decide +kernel, by decide +kernel⟩, List.mem_of_getElem? (i := 1280) (by decide +kernel), List.mem_of_getElem? (i := 1418) (by decide +kernel), List.mem_of_getElem? (i := 1419) (by decide +kernel)⟩
theorem lw_p52 : lw_okq (⟨"CrumpledSheetModel", "numberHere", "(II)Z"⟩, 36) := ⟨⟨by decide +kernel, by decide +kernel⟩, List.mem_of_getElem? (i := 1280) (by decide +kernel), List.mem_of_getElem? (i := 1422) (by decide +kernel), List.mem_of_getElem? (i := 1423) (by decide +kernel)⟩
theorem lw_p53 : lw_okq (⟨"CrumpledSheetModel", "see", "()I"⟩, 36) := ⟨⟨by decide +kernel, by decide +kernel⟩, List.mem_of_getElem? (i := 1280) (by decide +kernel), List.mem_of_getElem? (i := 1426) (by decide +kernel), List.mem_of_getElem? (i := 1427) (by decide +kernel)⟩
theorem lw_p54 : lw_okq (⟨"CrumpledSheetModel", "isDigit", "(I)Z"⟩, 36) := ⟨⟨by decide +kernel, by decide +kernel⟩, List.mem_of_getElem? (i := 1280) (by decide +kernel), List.mem_of_getElem? (i := 1430) (by decide +kernel), List.mem_of_getElem? (i := 1431) (by decide +kernel)⟩
theorem lw_p55 : lw_okq (⟨"CrumpledSheetModel", "fails", "(II)Z"⟩, 36) := ⟨⟨by decide +kernel, by decide +kernel⟩, List.mem_of_getElem? (i := 1280) (by decide +kernel), List.mem_of_getElem? (i := 1434) (by decide +kernel), List.mem_of_getElem? (i := 1435) (by decide +kernel)⟩
theorem lw_p56 : lw_okq (⟨"CrumpledSheetModel", "clausesHere", "()Z"⟩, 36) := ⟨⟨by decide +kernel, by decide +kernel⟩, List.mem_of_getElem? (i := 1280) (by decide +kernel), List.mem_of_getElem? (i := 1438) (by decide +kernel), List.mem_of_getElem? (i := 1439) (by decide +kernel)⟩
theorem lw_p57 : lw_okq (⟨"CrumpledSheetModel", "clauseHere", "()Z"⟩, 36) := ⟨⟨by decide +kernel, by decide +kernel⟩, List.mem_of_getElem? (i := 1280) (by decide +kernel), List.mem_of_getElem? (i := 1442) (by decide +kernel), List.mem_of_getElem? (i := 1443) (by decide +kernel)⟩
theorem lw_p58 : lw_okq (⟨"CrumpledSheetModel", "isWord", "(J)Z"⟩, 36) := ⟨⟨by decide +kernel, by decide +kernel⟩, List.mem_of_getElem? (i := 1280) (by decide +kernel), List.mem_of_getElem? (i := 1447) (by decide +kernel), List.mem_of_getElem? (i := 1448) (by decide +kernel)⟩
theorem lw_p59 : lw_okq (⟨"CrumpledSheetModel", "isLetter", "(I)Z"⟩, 36) := ⟨⟨by decide +kernel, by decide +kernel⟩, List.mem_of_getElem? (i := 1280) (by decide +kernel), List.mem_of_getElem? (i := 1451) (by decide +kernel), List.mem_of_getElem? (i := 1452) (by decide +kernel)⟩
theorem lw_p60 : lw_okq (⟨"CrumpledSheetModel", "softened", "(I)Z"⟩, 36) := ⟨⟨by decide +kernel, by decide +kernel⟩, List.mem_of_getElem? (i := 1280) (by decide +kernel), List.mem_of_getElem? (i := 1462) (by decide +kernel), List.mem_of_getElem? (i := 1463) (by decide +kernel)⟩
theorem lw_p61 : lw_okq (⟨"CrumpledSheetModel", "passWord", "()V"⟩, 36) := ⟨⟨by decide +kernel, by decide +kernel⟩, List.mem_of_getElem? (i := 1280) (by decide +kernel), List.mem_of_getElem? (i := 1466) (by decide +kernel), List.mem_of_getElem? (i := 1467) (by decide +kernel)⟩
theorem lw_p62 : lw_okq (⟨"CrumpledSheetModel", "clauseOf", "(IZ)Z"⟩, 36) := ⟨⟨by decide +kernel, by decide +kernel⟩, List.mem_of_getElem? (i := 1280) (by decide +kernel), List.mem_of_getElem? (i := 1470) (by decide +kernel), List.mem_of_getElem? (i := 1471) (by decide +kernel)⟩
theorem lw_p63 : lw_okq (⟨"CrumpledSheetModel", "sum", "()Z"⟩, 36) := ⟨⟨by decide +kernel, by decide +kernel⟩, List.mem_of_getElem? (i := 1280) (by decide +kernel), List.mem_of_getElem? (i := 1474) (by decide +kernel), List.mem_of_getElem? (i := 1475) (by decide +kernel)⟩
def lw_privs_4 : List (MethodName × Nat) := [(⟨"CrumpledSheet", "alikeAfresh", "(LCrumpledSheet$Sheet;LCrumpledSheet$Doing;)I"⟩, 15), (⟨"CrumpledSheet$Sheet", "hasRidgeLike", "(LCrumpledSheet$Sheet;I)Z"⟩, 14), (⟨"CrumpledSheetModel", "four", "(I)V"⟩, 36), (⟨"CrumpledSheetModel", "stripHere", "(I)Z"⟩, 36), (⟨"CrumpledSheetModel", "numberHere", "(II)Z"⟩, 36), (⟨"CrumpledSheetModel", "see", "()I"⟩, 36), (⟨"CrumpledSheetModel", "isDigit", "(I)Z"⟩, 36), (⟨"CrumpledSheetModel", "fails", "(II)Z"⟩, 36), (⟨"CrumpledSheetModel", "clausesHere", "()Z"⟩, 36), (⟨"CrumpledSheetModel", "clauseHere", "()Z"⟩, 36), (⟨"CrumpledSheetModel", "isWord", "(J)Z"⟩, 36), (⟨"CrumpledSheetModel", "isLetter", "(I)Z"⟩, 36), (⟨"CrumpledSheetModel", "softened", "(I)Z"⟩, 36), (⟨"CrumpledSheetModel", "passWord", "()V"⟩, 36), (⟨"CrumpledSheetModel", "clauseOf", "(IZ)Z"⟩, 36), (⟨"CrumpledSheetModel", "sum", "()Z"⟩, 36)]
theorem lw_r4 : ∀ q ∈ lw_privs_4, lw_okq q := List.forall_mem_cons.mpr ⟨lw_p48, List.forall_mem_cons.mpr ⟨lw_p49, List.forall_mem_cons.mpr ⟨lw_p50, List.forall_mem_cons.mpr ⟨lw_p51, List.forall_mem_cons.mpr ⟨lw_p52, List.forall_mem_cons.mpr ⟨lw_p53, List.forall_mem_cons.mpr ⟨lw_p54, List.forall_mem_cons.mpr ⟨lw_p55, List.forall_mem_cons.mpr ⟨lw_p56, List.forall_mem_cons.mpr ⟨lw_p57, List.forall_mem_cons.mpr ⟨lw_p58, List.forall_mem_cons.mpr ⟨lw_p59, List.forall_mem_cons.mpr ⟨lw_p60, List.forall_mem_cons.mpr ⟨lw_p61, List.forall_mem_cons.mpr ⟨lw_p62, List.forall_mem_cons.mpr ⟨lw_p63, fun _ h => absurd h List.not_mem_nil⟩⟩⟩⟩⟩⟩⟩⟩⟩⟩⟩⟩⟩⟩⟩⟩
theorem lw_p64 : lw_okq (⟨"CrumpledSheetModel", "term", "()Z"⟩, 36) := ⟨⟨by decide +kernel, by decide +kernel⟩, List.mem_of_getElem? (i := 1280) (by decide +kernel), List.mem_of_getElem? (i := 1478) (by decide +kernel), List.mem_of_getElem? (i := 1479) (by decide +kernel)⟩
theorem lw_p65 : lw_okq (⟨"CrumpledSheetModel", "value", "()Z"⟩, 36) := ⟨⟨by decide +kernel, by decide +kernel⟩, List.mem_of_getElem? (i := 1280) (by decide +kernel), List.mem_of_getElem? (i := 1482) (by decide +kernel), List.mem_of_getElem? (i := 1483) (by decide +kernel)⟩
theorem lw_p66 : lw_okq (⟨"CrumpledSheetModel", "makes", "(I)Z"⟩, 36) := ⟨⟨by decide +kernel, by decide +kernel⟩, List.mem_of_getElem? (i := 1280) (by decide +kernel), List.mem_of_getElem? (i := 1487) (by decide +kernel), List.mem_of_getElem? (i := 1488) (by decide +kernel)⟩
theorem lw_p67 : lw_okq (⟨"CrumpledSheetModel", "puts", "(II)V"⟩, 36) := ⟨⟨by decide +kernel, by decide +kernel⟩, List.mem_of_getElem? (i := 1280) (by decide +kernel), List.mem_of_getElem? (i := 1491) (by decide +kernel), List.mem_of_getElem? (i := 1492) (by decide +kernel)⟩
theorem lw_p68 : lw_okq (⟨"CrumpledSheetModel", "wordHere", "()I"⟩, 36) := ⟨⟨by decide +kernel, by decide +kernel⟩, List.mem_of_getElem? (i := 1280) (by decide +kernel), List.mem_of_getElem? (i := 1495) (by decide +kernel), List.mem_of_getElem? (i := 1496) (by decide +kernel)⟩
theorem lw_p69 : lw_okq (⟨"CrumpledSheetModel", "takesWord", "(J)Z"⟩, 36) := ⟨⟨by decide +kernel, by decide +kernel⟩, List.mem_of_getElem? (i := 1280) (by decide +kernel), List.mem_of_getElem? (i := 1514) (by decide +kernel), List.mem_of_getElem? (i := 1515) (by decide +kernel)⟩
theorem lw_p70 : lw_okq (⟨"CrumpledSheetModel", "tested", "()Z"⟩, 36) := ⟨⟨by decide +kernel, by decide +kernel⟩, List.mem_of_getElem? (i := 1280) (by decide +kernel), List.mem_of_getElem? (i := 1518) (by decide +kernel), List.mem_of_getElem? (i := 1519) (by decide +kernel)⟩
theorem lw_p71 : lw_okq (⟨"CrumpledSheetModel", "fact", "()Z"⟩, 36) := ⟨⟨by decide +kernel, by decide +kernel⟩, List.mem_of_getElem? (i := 1280) (by decide +kernel), List.mem_of_getElem? (i := 1522) (by decide +kernel), List.mem_of_getElem? (i := 1523) (by decide +kernel)⟩
theorem lw_p72 : lw_okq (⟨"CrumpledSheetModel", "opens", "(I)Z"⟩, 36) := ⟨⟨by decide +kernel, by decide +kernel⟩, List.mem_of_getElem? (i := 1280) (by decide +kernel), List.mem_of_getElem? (i := 1527) (by decide +kernel), List.mem_of_getElem? (i := 1528) (by decide +kernel)⟩
theorem lw_p73 : lw_okq (⟨"CrumpledSheetModel", "compare", "()Z"⟩, 36) := ⟨⟨by decide +kernel, by decide +kernel⟩, List.mem_of_getElem? (i := 1280) (by decide +kernel), List.mem_of_getElem? (i := 1531) (by decide +kernel), List.mem_of_getElem? (i := 1532) (by decide +kernel)⟩
theorem lw_p74 : lw_okq (⟨"CrumpledSheetModel", "closes", "()V"⟩, 36) := ⟨⟨by decide +kernel, by decide +kernel⟩, List.mem_of_getElem? (i := 1280) (by decide +kernel), List.mem_of_getElem? (i := 1535) (by decide +kernel), List.mem_of_getElem? (i := 1536) (by decide +kernel)⟩
theorem lw_p75 : lw_okq (⟨"CrumpledSheetModel", "settles", "(I)V"⟩, 36) := ⟨⟨by decide +kernel, by decide +kernel⟩, List.mem_of_getElem? (i := 1280) (by decide +kernel), List.mem_of_getElem? (i := 1539) (by decide +kernel), List.mem_of_getElem? (i := 1540) (by decide +kernel)⟩
theorem lw_p76 : lw_okq (⟨"CrumpledSheetModel", "isInside", "()Z"⟩, 36) := ⟨⟨by decide +kernel, by decide +kernel⟩, List.mem_of_getElem? (i := 1280) (by decide +kernel), List.mem_of_getElem? (i := 1546) (by decide +kernel), List.mem_of_getElem? (i := 1547) (by decide +kernel)⟩
theorem lw_p77 : lw_okq (⟨"CrumpledSheetModel", "acted", "(I)Z"⟩, 36) := ⟨⟨by decide +kernel, by decide +kernel⟩, List.mem_of_getElem? (i := 1280) (by decide +kernel), List.mem_of_getElem? (i := 1552) (by decide +kernel), List.mem_of_getElem? (i := 1553) (by decide +kernel)⟩
theorem lw_p78 : lw_okq (⟨"CrumpledSheetModel", "isText", "(II)Z"⟩, 36) := ⟨⟨by decide +kernel, by decide +kernel⟩, List.mem_of_getElem? (i := 1280) (by decide +kernel), List.mem_of_getElem? (i := 1565) (by decide +kernel), List.mem_of_getElem? (i := 1566) (by decide +kernel)⟩
theorem lw_p79 : lw_okq (⟨"CrumpledSheetModel", "sheetBegins", "(IIIIII)V"⟩, 36) := ⟨⟨by decide +kernel, by decide +kernel⟩, List.mem_of_getElem? (i := 1280) (by decide +kernel), List.mem_of_getElem? (i := 1569) (by decide +kernel), List.mem_of_getElem? (i := 1570) (by decide +kernel)⟩
def lw_privs_5 : List (MethodName × Nat) := [(⟨"CrumpledSheetModel", "term", "()Z"⟩, 36), (⟨"CrumpledSheetModel", "value", "()Z"⟩, 36), (⟨"CrumpledSheetModel", "makes", "(I)Z"⟩, 36), (⟨"CrumpledSheetModel", "puts", "(II)V"⟩, 36), (⟨"CrumpledSheetModel", "wordHere", "()I"⟩, 36), (⟨"CrumpledSheetModel", "takesWord", "(J)Z"⟩, 36), (⟨"CrumpledSheetModel", "tested", "()Z"⟩, 36), (⟨"CrumpledSheetModel", "fact", "()Z"⟩, 36), (⟨"CrumpledSheetModel", "opens", "(I)Z"⟩, 36), (⟨"CrumpledSheetModel", "compare", "()Z"⟩, 36), (⟨"CrumpledSheetModel", "closes", "()V"⟩, 36), (⟨"CrumpledSheetModel", "settles", "(I)V"⟩, 36), (⟨"CrumpledSheetModel", "isInside", "()Z"⟩, 36), (⟨"CrumpledSheetModel", "acted", "(I)Z"⟩, 36), (⟨"CrumpledSheetModel", "isText", "(II)Z"⟩, 36), (⟨"CrumpledSheetModel", "sheetBegins", "(IIIIII)V"⟩, 36)]
theorem lw_r5 : ∀ q ∈ lw_privs_5, lw_okq q := List.forall_mem_cons.mpr ⟨lw_p64, List.forall_mem_cons.mpr ⟨lw_p65, List.forall_mem_cons.mpr ⟨lw_p66, List.forall_mem_cons.mpr ⟨lw_p67, List.forall_mem_cons.mpr ⟨lw_p68, List.forall_mem_cons.mpr ⟨lw_p69, List.forall_mem_cons.mpr ⟨lw_p70, List.forall_mem_cons.mpr ⟨lw_p71, List.forall_mem_cons.mpr ⟨lw_p72, List.forall_mem_cons.mpr ⟨lw_p73, List.forall_mem_cons.mpr ⟨lw_p74, List.forall_mem_cons.mpr ⟨lw_p75, List.forall_mem_cons.mpr ⟨lw_p76, List.forall_mem_cons.mpr ⟨lw_p77, List.forall_mem_cons.mpr ⟨lw_p78, List.forall_mem_cons.mpr ⟨lw_p79, fun _ h => absurd h List.not_mem_nil⟩⟩⟩⟩⟩⟩⟩⟩⟩⟩⟩⟩⟩⟩⟩⟩
theorem lw_p80 : lw_okq (⟨"CrumpledSheetModel", "facetComes", "(IIIII)V"⟩, 36) := ⟨⟨by decide +kernel, by decide +kernel⟩, List.mem_of_getElem? (i := 1280) (by decide +kernel), List.mem_of_getElem? (i := 1573) (by decide +kernel), List.mem_of_getElem? (i := 1574) (by decide +kernel)⟩
theorem lw_p81 : lw_okq (⟨"CrumpledSheetModel", "sheetOf", "(II)I"⟩, 36) := ⟨⟨by decide +kernel, by decide +kernel⟩, List.mem_of_getElem? (i := 1280) (by decide +kernel), List.mem_of_getElem? (i := 1577) (by decide +kernel), List.mem_of_getElem? (i := 1578) (by decide +kernel)⟩
theorem lw_p82 : lw_okq (⟨"CrumpledSheetModel", "isSheet", "(I)Z"⟩, 36) := ⟨⟨by decide +kernel, by decide +kernel⟩, List.mem_of_getElem? (i := 1280) (by decide +kernel), List.mem_of_getElem? (i := 1585) (by decide +kernel), List.mem_of_getElem? (i := 1586) (by decide +kernel)⟩
theorem lw_p83 : lw_okq (⟨"CrumpledSheetModel", "presses", "(II)I"⟩, 36) := ⟨⟨by decide +kernel, by decide +kernel⟩, List.mem_of_getElem? (i := 1280) (by decide +kernel), List.mem_of_getElem? (i := 1590) (by decide +kernel), List.mem_of_getElem? (i := 1591) (by decide +kernel)⟩
theorem lw_p84 : lw_okq (⟨"CrumpledSheetModel", "expects", "(III)I"⟩, 36) := ⟨⟨by decide +kernel, by decide +kernel⟩, List.mem_of_getElem? (i := 1280) (by decide +kernel), List.mem_of_getElem? (i := 1594) (by decide +kernel), List.mem_of_getElem? (i := 1595) (by decide +kernel)⟩
theorem lw_p85 : lw_okq (⟨"CrumpledSheetModel", "together", "(I)I"⟩, 36) := ⟨⟨by decide +kernel, by decide +kernel⟩, List.mem_of_getElem? (i := 1280) (by decide +kernel), List.mem_of_getElem? (i := 1598) (by decide +kernel), List.mem_of_getElem? (i := 1599) (by decide +kernel)⟩
theorem lw_p86 : lw_okq (⟨"CrumpledSheetModel", "longOf", "(II)I"⟩, 36) := ⟨⟨by decide +kernel, by decide +kernel⟩, List.mem_of_getElem? (i := 1280) (by decide +kernel), List.mem_of_getElem? (i := 1602) (by decide +kernel), List.mem_of_getElem? (i := 1603) (by decide +kernel)⟩
theorem lw_p87 : lw_okq (⟨"CrumpledSheetModel", "ridgeOf", "(III)I"⟩, 36) := ⟨⟨by decide +kernel, by decide +kernel⟩, List.mem_of_getElem? (i := 1280) (by decide +kernel), List.mem_of_getElem? (i := 1606) (by decide +kernel), List.mem_of_getElem? (i := 1607) (by decide +kernel)⟩
theorem lw_p88 : lw_okq (⟨"CrumpledSheetModel", "longSide", "(II)I"⟩, 36) := ⟨⟨by decide +kernel, by decide +kernel⟩, List.mem_of_getElem? (i := 1280) (by decide +kernel), List.mem_of_getElem? (i := 1610) (by decide +kernel), List.mem_of_getElem? (i := 1611) (by decide +kernel)⟩
theorem lw_p89 : lw_okq (⟨"CrumpledSheetModel", "facetOf", "(III)I"⟩, 36) := ⟨⟨by decide +kernel, by decide +kernel⟩, List.mem_of_getElem? (i := 1280) (by decide +kernel), List.mem_of_getElem? (i := 1614) (by decide +kernel), List.mem_of_getElem? (i := 1615) (by decide +kernel)⟩
theorem lw_p90 : lw_okq (⟨"CrumpledSheetModel", "facetWords", "(IIIII)V"⟩, 36) := ⟨⟨by decide +kernel, by decide +kernel⟩, List.mem_of_getElem? (i := 1280) (by decide +kernel), List.mem_of_getElem? (i := 1618) (by decide +kernel), List.mem_of_getElem? (i := 1619) (by decide +kernel)⟩
theorem lw_p91 : lw_okq (⟨"CrumpledSheetModel", "shortSide", "(II)I"⟩, 36) := ⟨⟨by decide +kernel, by decide +kernel⟩, List.mem_of_getElem? (i := 1280) (by decide +kernel), List.mem_of_getElem? (i := 1622) (by decide +kernel), List.mem_of_getElem? (i := 1623) (by decide +kernel)⟩
theorem lw_p92 : lw_okq (⟨"CrumpledSheetModel", "edgeOf", "(II)I"⟩, 36) := ⟨⟨by decide +kernel, by decide +kernel⟩, List.mem_of_getElem? (i := 1280) (by decide +kernel), List.mem_of_getElem? (i := 1626) (by decide +kernel), List.mem_of_getElem? (i := 1627) (by decide +kernel)⟩
theorem lw_p93 : lw_okq (⟨"CrumpledSheetModel", "wayOf", "(II)I"⟩, 36) := ⟨⟨by decide +kernel, by decide +kernel⟩, List.mem_of_getElem? (i := 1280) (by decide +kernel), List.mem_of_getElem? (i := 1630) (by decide +kernel), List.mem_of_getElem? (i := 1631) (by decide +kernel)⟩
theorem lw_p94 : lw_okq (⟨"CrumpledSheetModel", "breaks", "(I)I"⟩, 36) := ⟨⟨by decide +kernel, by decide +kernel⟩, List.mem_of_getElem? (i := 1280) (by decide +kernel), List.mem_of_getElem? (i := 1634) (by decide +kernel), List.mem_of_getElem? (i := 1635) (by decide +kernel)⟩
theorem lw_p95 : lw_okq (⟨"CrumpledSheetModel", "clauseThat", "(II)I"⟩, 36) := ⟨⟨by decide +kernel, by decide +kernel⟩, List.mem_of_getElem? (i := 1280) (by decide +kernel), List.mem_of_getElem? (i := 1638) (by decide +kernel), List.mem_of_getElem? (i := 1639) (by decide +kernel)⟩
def lw_privs_6 : List (MethodName × Nat) := [(⟨"CrumpledSheetModel", "facetComes", "(IIIII)V"⟩, 36), (⟨"CrumpledSheetModel", "sheetOf", "(II)I"⟩, 36), (⟨"CrumpledSheetModel", "isSheet", "(I)Z"⟩, 36), (⟨"CrumpledSheetModel", "presses", "(II)I"⟩, 36), (⟨"CrumpledSheetModel", "expects", "(III)I"⟩, 36), (⟨"CrumpledSheetModel", "together", "(I)I"⟩, 36), (⟨"CrumpledSheetModel", "longOf", "(II)I"⟩, 36), (⟨"CrumpledSheetModel", "ridgeOf", "(III)I"⟩, 36), (⟨"CrumpledSheetModel", "longSide", "(II)I"⟩, 36), (⟨"CrumpledSheetModel", "facetOf", "(III)I"⟩, 36), (⟨"CrumpledSheetModel", "facetWords", "(IIIII)V"⟩, 36), (⟨"CrumpledSheetModel", "shortSide", "(II)I"⟩, 36), (⟨"CrumpledSheetModel", "edgeOf", "(II)I"⟩, 36), (⟨"CrumpledSheetModel", "wayOf", "(II)I"⟩, 36), (⟨"CrumpledSheetModel", "breaks", "(I)I"⟩, 36), (⟨"CrumpledSheetModel", "clauseThat", "(II)I"⟩, 36)]
theorem lw_r6 : ∀ q ∈ lw_privs_6, lw_okq q := List.forall_mem_cons.mpr ⟨lw_p80, List.forall_mem_cons.mpr ⟨lw_p81, List.forall_mem_cons.mpr ⟨lw_p82, List.forall_mem_cons.mpr ⟨lw_p83, List.forall_mem_cons.mpr ⟨lw_p84, List.forall_mem_cons.mpr ⟨lw_p85, List.forall_mem_cons.mpr ⟨lw_p86, List.forall_mem_cons.mpr ⟨lw_p87, List.forall_mem_cons.mpr ⟨lw_p88, List.forall_mem_cons.mpr ⟨lw_p89, List.forall_mem_cons.mpr ⟨lw_p90, List.forall_mem_cons.mpr ⟨lw_p91, List.forall_mem_cons.mpr ⟨lw_p92, List.forall_mem_cons.mpr ⟨lw_p93, List.forall_mem_cons.mpr ⟨lw_p94, List.forall_mem_cons.mpr ⟨lw_p95, fun _ h => absurd h List.not_mem_nil⟩⟩⟩⟩⟩⟩⟩⟩⟩⟩⟩⟩⟩⟩⟩⟩
theorem lw_p96 : lw_okq (⟨"CrumpledSheetModel", "isHolding", "(II)Z"⟩, 36) := ⟨⟨by decide +kernel, by decide +kernel⟩, List.mem_of_getElem? (i := 1280) (by decide +kernel), List.mem_of_getElem? (i := 1642) (by decide +kernel), List.mem_of_getElem? (i := 1643) (by decide +kernel)⟩
theorem lw_p97 : lw_okq (⟨"CrumpledSheetModel", "reckons", "(III)J"⟩, 36) := ⟨⟨by decide +kernel, by decide +kernel⟩, List.mem_of_getElem? (i := 1280) (by decide +kernel), List.mem_of_getElem? (i := 1646) (by decide +kernel), List.mem_of_getElem? (i := 1647) (by decide +kernel)⟩
theorem lw_p98 : lw_okq (⟨"CrumpledSheetModel", "push", "(J)V"⟩, 36) := ⟨⟨by decide +kernel, by decide +kernel⟩, List.mem_of_getElem? (i := 1280) (by decide +kernel), List.mem_of_getElem? (i := 1650) (by decide +kernel), List.mem_of_getElem? (i := 1651) (by decide +kernel)⟩
theorem lw_p99 : lw_okq (⟨"CrumpledSheetModel", "pop", "()J"⟩, 36) := ⟨⟨by decide +kernel, by decide +kernel⟩, List.mem_of_getElem? (i := 1280) (by decide +kernel), List.mem_of_getElem? (i := 1654) (by decide +kernel), List.mem_of_getElem? (i := 1655) (by decide +kernel)⟩
theorem lw_p100 : lw_okq (⟨"CrumpledSheetModel", "summed", "(II)J"⟩, 36) := ⟨⟨by decide +kernel, by decide +kernel⟩, List.mem_of_getElem? (i := 1280) (by decide +kernel), List.mem_of_getElem? (i := 1661) (by decide +kernel), List.mem_of_getElem? (i := 1662) (by decide +kernel)⟩
theorem lw_p101 : lw_okq (⟨"CrumpledSheetModel", "draw", "(I)I"⟩, 36) := ⟨⟨by decide +kernel, by decide +kernel⟩, List.mem_of_getElem? (i := 1280) (by decide +kernel), List.mem_of_getElem? (i := 1669) (by decide +kernel), List.mem_of_getElem? (i := 1670) (by decide +kernel)⟩
theorem lw_p102 : lw_okq (⟨"CrumpledSheetModel", "breaksAt", "(II)V"⟩, 36) := ⟨⟨by decide +kernel, by decide +kernel⟩, List.mem_of_getElem? (i := 1280) (by decide +kernel), List.mem_of_getElem? (i := 1677) (by decide +kernel), List.mem_of_getElem? (i := 1678) (by decide +kernel)⟩
theorem lw_p103 : lw_okq (⟨"CrumpledSheetModel", "ridgeComes", "(IIIIII)V"⟩, 36) := ⟨⟨by decide +kernel, by decide +kernel⟩, List.mem_of_getElem? (i := 1280) (by decide +kernel), List.mem_of_getElem? (i := 1686) (by decide +kernel), List.mem_of_getElem? (i := 1687) (by decide +kernel)⟩
theorem lw_p104 : lw_okq (⟨"CrumpledSheetModel", "cuts", "(IIII)V"⟩, 36) := ⟨⟨by decide +kernel, by decide +kernel⟩, List.mem_of_getElem? (i := 1280) (by decide +kernel), List.mem_of_getElem? (i := 1690) (by decide +kernel), List.mem_of_getElem? (i := 1691) (by decide +kernel)⟩
theorem lw_p105 : lw_okq (⟨"CrumpledSheetModel", "foldsAt", "(III)I"⟩, 36) := ⟨⟨by decide +kernel, by decide +kernel⟩, List.mem_of_getElem? (i := 1280) (by decide +kernel), List.mem_of_getElem? (i := 1698) (by decide +kernel), List.mem_of_getElem? (i := 1699) (by decide +kernel)⟩
theorem lw_p106 : lw_okq (⟨"CrumpledSheetModel", "isThrough", "(IIII)Z"⟩, 36) := ⟨⟨by decide +kernel, by decide +kernel⟩, List.mem_of_getElem? (i := 1280) (by decide +kernel), List.mem_of_getElem? (i := 1702) (by decide +kernel), List.mem_of_getElem? (i := 1703) (by decide +kernel)⟩
theorem lw_p107 : lw_okq (⟨"CrumpledSheetModel", "turns", "(I)V"⟩, 36) := ⟨⟨by decide +kernel, by decide +kernel⟩, List.mem_of_getElem? (i := 1280) (by decide +kernel), List.mem_of_getElem? (i := 1710) (by decide +kernel), List.mem_of_getElem? (i := 1711) (by decide +kernel)⟩
theorem lw_p108 : lw_okq (⟨"CrumpledSheetModel", "exchange", "(II)V"⟩, 36) := ⟨⟨by decide +kernel, by decide +kernel⟩, List.mem_of_getElem? (i := 1280) (by decide +kernel), List.mem_of_getElem? (i := 1714) (by decide +kernel), List.mem_of_getElem? (i := 1715) (by decide +kernel)⟩
theorem lw_p109 : lw_okq (⟨"CrumpledSheetModel", "does", "(II)I"⟩, 36) := ⟨⟨by decide +kernel, by decide +kernel⟩, List.mem_of_getElem? (i := 1280) (by decide +kernel), List.mem_of_getElem? (i := 1722) (by decide +kernel), List.mem_of_getElem? (i := 1723) (by decide +kernel)⟩
theorem lw_p110 : lw_okq (⟨"CrumpledSheetModel", "isSoft", "(II)Z"⟩, 36) := ⟨⟨by decide +kernel, by decide +kernel⟩, List.mem_of_getElem? (i := 1280) (by decide +kernel), List.mem_of_getElem? (i := 1740) (by decide +kernel), List.mem_of_getElem? (i := 1741) (by decide +kernel)⟩
theorem lw_p111 : lw_okq (⟨"CrumpledSheetModel", "cameIn", "(IIIZ)I"⟩, 36) := ⟨⟨by decide +kernel, by decide +kernel⟩, List.mem_of_getElem? (i := 1280) (by decide +kernel), List.mem_of_getElem? (i := 1749) (by decide +kernel), List.mem_of_getElem? (i := 1750) (by decide +kernel)⟩
def lw_privs_7 : List (MethodName × Nat) := [(⟨"CrumpledSheetModel", "isHolding", "(II)Z"⟩, 36), (⟨"CrumpledSheetModel", "reckons", "(III)J"⟩, 36), (⟨"CrumpledSheetModel", "push", "(J)V"⟩, 36), (⟨"CrumpledSheetModel", "pop", "()J"⟩, 36), (⟨"CrumpledSheetModel", "summed", "(II)J"⟩, 36), (⟨"CrumpledSheetModel", "draw", "(I)I"⟩, 36), (⟨"CrumpledSheetModel", "breaksAt", "(II)V"⟩, 36), (⟨"CrumpledSheetModel", "ridgeComes", "(IIIIII)V"⟩, 36), (⟨"CrumpledSheetModel", "cuts", "(IIII)V"⟩, 36), (⟨"CrumpledSheetModel", "foldsAt", "(III)I"⟩, 36), (⟨"CrumpledSheetModel", "isThrough", "(IIII)Z"⟩, 36), (⟨"CrumpledSheetModel", "turns", "(I)V"⟩, 36), (⟨"CrumpledSheetModel", "exchange", "(II)V"⟩, 36), (⟨"CrumpledSheetModel", "does", "(II)I"⟩, 36), (⟨"CrumpledSheetModel", "isSoft", "(II)Z"⟩, 36), (⟨"CrumpledSheetModel", "cameIn", "(IIIZ)I"⟩, 36)]
theorem lw_r7 : ∀ q ∈ lw_privs_7, lw_okq q := List.forall_mem_cons.mpr ⟨lw_p96, List.forall_mem_cons.mpr ⟨lw_p97, List.forall_mem_cons.mpr ⟨lw_p98, List.forall_mem_cons.mpr ⟨lw_p99, List.forall_mem_cons.mpr ⟨lw_p100, List.forall_mem_cons.mpr ⟨lw_p101, List.forall_mem_cons.mpr ⟨lw_p102, List.forall_mem_cons.mpr ⟨lw_p103, List.forall_mem_cons.mpr ⟨lw_p104, List.forall_mem_cons.mpr ⟨lw_p105, List.forall_mem_cons.mpr ⟨lw_p106, List.forall_mem_cons.mpr ⟨lw_p107, List.forall_mem_cons.mpr ⟨lw_p108, List.forall_mem_cons.mpr ⟨lw_p109, List.forall_mem_cons.mpr ⟨lw_p110, List.forall_mem_cons.mpr ⟨lw_p111, fun _ h => absurd h List.not_mem_nil⟩⟩⟩⟩⟩⟩⟩⟩⟩⟩⟩⟩⟩⟩⟩⟩
theorem lw_p112 : lw_okq (⟨"CrumpledSheetModel", "areaOf", "(II)I"⟩, 36) := ⟨⟨by decide +kernel, by decide +kernel⟩, List.mem_of_getElem? (i := 1280) (by decide +kernel), List.mem_of_getElem? (i := 1784) (by decide +kernel), List.mem_of_getElem? (i := 1785) (by decide +kernel)⟩
theorem lw_p113 : lw_okq (⟨"CrumpledSheetModel", "classOf", "(II)I"⟩, 36) := ⟨⟨by decide +kernel, by decide +kernel⟩, List.mem_of_getElem? (i := 1280) (by decide +kernel), List.mem_of_getElem? (i := 1793) (by decide +kernel), List.mem_of_getElem? (i := 1794) (by decide +kernel)⟩
theorem lw_p114 : lw_okq (⟨"CrumpledSheetModel", "differ", "(II)I"⟩, 36) := ⟨⟨by decide +kernel, by decide +kernel⟩, List.mem_of_getElem? (i := 1280) (by decide +kernel), List.mem_of_getElem? (i := 1801) (by decide +kernel), List.mem_of_getElem? (i := 1802) (by decide +kernel)⟩
theorem lw_p115 : lw_okq (⟨"CrumpledSheetModel", "sees", "(II)V"⟩, 36) := ⟨⟨by decide +kernel, by decide +kernel⟩, List.mem_of_getElem? (i := 1280) (by decide +kernel), List.mem_of_getElem? (i := 1813) (by decide +kernel), List.mem_of_getElem? (i := 1814) (by decide +kernel)⟩
theorem lw_p116 : lw_okq (⟨"CrumpledSheetModel", "isEdgeEnd", "(III)Z"⟩, 36) := ⟨⟨by decide +kernel, by decide +kernel⟩, List.mem_of_getElem? (i := 1280) (by decide +kernel), List.mem_of_getElem? (i := 1817) (by decide +kernel), List.mem_of_getElem? (i := 1818) (by decide +kernel)⟩
theorem lw_p117 : lw_okq (⟨"CrumpledSheetModel", "isLoose", "(III)Z"⟩, 36) := ⟨⟨by decide +kernel, by decide +kernel⟩, List.mem_of_getElem? (i := 1280) (by decide +kernel), List.mem_of_getElem? (i := 1821) (by decide +kernel), List.mem_of_getElem? (i := 1822) (by decide +kernel)⟩
theorem lw_p118 : lw_okq (⟨"CrumpledSheetModel", "goesThrough", "(IIII)Z"⟩, 36) := ⟨⟨by decide +kernel, by decide +kernel⟩, List.mem_of_getElem? (i := 1280) (by decide +kernel), List.mem_of_getElem? (i := 1825) (by decide +kernel), List.mem_of_getElem? (i := 1826) (by decide +kernel)⟩
theorem lw_p119 : lw_okq (⟨"CrumpledSheetModel", "seenLong", "(I)I"⟩, 36) := ⟨⟨by decide +kernel, by decide +kernel⟩, List.mem_of_getElem? (i := 1280) (by decide +kernel), List.mem_of_getElem? (i := 1829) (by decide +kernel), List.mem_of_getElem? (i := 1830) (by decide +kernel)⟩
theorem lw_p120 : lw_okq (⟨"CrumpledSheetModel", "cornersWith", "(II)I"⟩, 36) := ⟨⟨by decide +kernel, by decide +kernel⟩, List.mem_of_getElem? (i := 1280) (by decide +kernel), List.mem_of_getElem? (i := 1845) (by decide +kernel), List.mem_of_getElem? (i := 1846) (by decide +kernel)⟩
theorem lw_p121 : lw_okq (⟨"CrumpledSheetModel", "marks", "(I)V"⟩, 36) := ⟨⟨by decide +kernel, by decide +kernel⟩, List.mem_of_getElem? (i := 1280) (by decide +kernel), List.mem_of_getElem? (i := 1849) (by decide +kernel), List.mem_of_getElem? (i := 1850) (by decide +kernel)⟩
theorem lw_p122 : lw_okq (⟨"CrumpledSheetModel", "deepestOf", "(I)I"⟩, 36) := ⟨⟨by decide +kernel, by decide +kernel⟩, List.mem_of_getElem? (i := 1280) (by decide +kernel), List.mem_of_getElem? (i := 1873) (by decide +kernel), List.mem_of_getElem? (i := 1874) (by decide +kernel)⟩
theorem lw_p123 : lw_okq (⟨"CrumpledSheetModel", "reduces", "(II)V"⟩, 36) := ⟨⟨by decide +kernel, by decide +kernel⟩, List.mem_of_getElem? (i := 1280) (by decide +kernel), List.mem_of_getElem? (i := 1877) (by decide +kernel), List.mem_of_getElem? (i := 1878) (by decide +kernel)⟩
theorem lw_p124 : lw_okq (⟨"CrumpledSheetModel", "reducesOnce", "()Z"⟩, 36) := ⟨⟨by decide +kernel, by decide +kernel⟩, List.mem_of_getElem? (i := 1280) (by decide +kernel), List.mem_of_getElem? (i := 1881) (by decide +kernel), List.mem_of_getElem? (i := 1882) (by decide +kernel)⟩
theorem lw_p125 : lw_okq (⟨"CrumpledSheetModel", "goes", "(II)V"⟩, 36) := ⟨⟨by decide +kernel, by decide +kernel⟩, List.mem_of_getElem? (i := 1280) (by decide +kernel), List.mem_of_getElem? (i := 1885) (by decide +kernel), List.mem_of_getElem? (i := 1886) (by decide +kernel)⟩
theorem lw_p126 : lw_okq (⟨"CrumpledSheetModel", "isFacet", "(II)Z"⟩, 36) := ⟨⟨by decide +kernel, by decide +kernel⟩, List.mem_of_getElem? (i := 1280) (by decide +kernel), List.mem_of_getElem? (i := 1893) (by decide +kernel), List.mem_of_getElem? (i := 1894) (by decide +kernel)⟩
theorem lw_p127 : lw_okq (⟨"CrumpledSheetModel", "besideOf", "(II)I"⟩, 36) := ⟨⟨by decide +kernel, by decide +kernel⟩, List.mem_of_getElem? (i := 1280) (by decide +kernel), List.mem_of_getElem? (i := 1897) (by decide +kernel), List.mem_of_getElem? (i := 1898) (by decide +kernel)⟩
def lw_privs_8 : List (MethodName × Nat) := [(⟨"CrumpledSheetModel", "areaOf", "(II)I"⟩, 36), (⟨"CrumpledSheetModel", "classOf", "(II)I"⟩, 36), (⟨"CrumpledSheetModel", "differ", "(II)I"⟩, 36), (⟨"CrumpledSheetModel", "sees", "(II)V"⟩, 36), (⟨"CrumpledSheetModel", "isEdgeEnd", "(III)Z"⟩, 36), (⟨"CrumpledSheetModel", "isLoose", "(III)Z"⟩, 36), (⟨"CrumpledSheetModel", "goesThrough", "(IIII)Z"⟩, 36), (⟨"CrumpledSheetModel", "seenLong", "(I)I"⟩, 36), (⟨"CrumpledSheetModel", "cornersWith", "(II)I"⟩, 36), (⟨"CrumpledSheetModel", "marks", "(I)V"⟩, 36), (⟨"CrumpledSheetModel", "deepestOf", "(I)I"⟩, 36), (⟨"CrumpledSheetModel", "reduces", "(II)V"⟩, 36), (⟨"CrumpledSheetModel", "reducesOnce", "()Z"⟩, 36), (⟨"CrumpledSheetModel", "goes", "(II)V"⟩, 36), (⟨"CrumpledSheetModel", "isFacet", "(II)Z"⟩, 36), (⟨"CrumpledSheetModel", "besideOf", "(II)I"⟩, 36)]
theorem lw_r8 : ∀ q ∈ lw_privs_8, lw_okq q := List.forall_mem_cons.mpr ⟨lw_p112, List.forall_mem_cons.mpr ⟨lw_p113, List.forall_mem_cons.mpr ⟨lw_p114, List.forall_mem_cons.mpr ⟨lw_p115, List.forall_mem_cons.mpr ⟨lw_p116, List.forall_mem_cons.mpr ⟨lw_p117, List.forall_mem_cons.mpr ⟨lw_p118, List.forall_mem_cons.mpr ⟨lw_p119, List.forall_mem_cons.mpr ⟨lw_p120, List.forall_mem_cons.mpr ⟨lw_p121, List.forall_mem_cons.mpr ⟨lw_p122, List.forall_mem_cons.mpr ⟨lw_p123, List.forall_mem_cons.mpr ⟨lw_p124, List.forall_mem_cons.mpr ⟨lw_p125, List.forall_mem_cons.mpr ⟨lw_p126, List.forall_mem_cons.mpr ⟨lw_p127, fun _ h => absurd h List.not_mem_nil⟩⟩⟩⟩⟩⟩⟩⟩⟩⟩⟩⟩⟩⟩⟩⟩
theorem lw_p128 : lw_okq (⟨"CrumpledSheetModel", "areBeside", "(III)Z"⟩, 36) := ⟨⟨by decide +kernel, by decide +kernel⟩, List.mem_of_getElem? (i := 1280) (by decide +kernel), List.mem_of_getElem? (i := 1901) (by decide +kernel), List.mem_of_getElem? (i := 1902) (by decide +kernel)⟩
theorem lw_p129 : lw_okq (⟨"CrumpledSheetModel", "walks", "(II)I"⟩, 36) := ⟨⟨by decide +kernel, by decide +kernel⟩, List.mem_of_getElem? (i := 1280) (by decide +kernel), List.mem_of_getElem? (i := 1916) (by decide +kernel), List.mem_of_getElem? (i := 1917) (by decide +kernel)⟩
theorem lw_p130 : lw_okq (⟨"CrumpledSheetModel", "copySheet", "(II)V"⟩, 36) := ⟨⟨by decide +kernel, by decide +kernel⟩, List.mem_of_getElem? (i := 1280) (by decide +kernel), List.mem_of_getElem? (i := 1928) (by decide +kernel), List.mem_of_getElem? (i := 1929) (by decide +kernel)⟩
theorem lw_p131 : lw_okq (⟨"CrumpledSheetModel", "alikeBy", "(II)I"⟩, 36) := ⟨⟨by decide +kernel, by decide +kernel⟩, List.mem_of_getElem? (i := 1280) (by decide +kernel), List.mem_of_getElem? (i := 1936) (by decide +kernel), List.mem_of_getElem? (i := 1937) (by decide +kernel)⟩
theorem lw_p132 : lw_okq (⟨"CrumpledSheetModel", "afresh", "(II)V"⟩, 36) := ⟨⟨by decide +kernel, by decide +kernel⟩, List.mem_of_getElem? (i := 1280) (by decide +kernel), List.mem_of_getElem? (i := 1940) (by decide +kernel), List.mem_of_getElem? (i := 1941) (by decide +kernel)⟩
theorem lw_p133 : lw_okq (⟨"CrumpledSheetModel", "isFine", "(II)Z"⟩, 36) := ⟨⟨by decide +kernel, by decide +kernel⟩, List.mem_of_getElem? (i := 1280) (by decide +kernel), List.mem_of_getElem? (i := 1958) (by decide +kernel), List.mem_of_getElem? (i := 1959) (by decide +kernel)⟩
def lw_privs_9 : List (MethodName × Nat) := [(⟨"CrumpledSheetModel", "areBeside", "(III)Z"⟩, 36), (⟨"CrumpledSheetModel", "walks", "(II)I"⟩, 36), (⟨"CrumpledSheetModel", "copySheet", "(II)V"⟩, 36), (⟨"CrumpledSheetModel", "alikeBy", "(II)I"⟩, 36), (⟨"CrumpledSheetModel", "afresh", "(II)V"⟩, 36), (⟨"CrumpledSheetModel", "isFine", "(II)Z"⟩, 36)]
theorem lw_r9 : ∀ q ∈ lw_privs_9, lw_okq q := List.forall_mem_cons.mpr ⟨lw_p128, List.forall_mem_cons.mpr ⟨lw_p129, List.forall_mem_cons.mpr ⟨lw_p130, List.forall_mem_cons.mpr ⟨lw_p131, List.forall_mem_cons.mpr ⟨lw_p132, List.forall_mem_cons.mpr ⟨lw_p133, fun _ h => absurd h List.not_mem_nil⟩⟩⟩⟩⟩⟩
def lw_privs : List (MethodName × Nat) := lw_privs_1 ++ (lw_privs_2 ++ (lw_privs_3 ++ (lw_privs_4 ++ (lw_privs_5 ++ (lw_privs_6 ++ (lw_privs_7 ++ (lw_privs_8 ++ (lw_privs_9))))))))
def lw_tbl : List Cond := k2_sels lw_privs ++ tables_1
theorem lw_privs_ok : ∀ q ∈ lw_privs, lw_okq q := by
  show ∀ q ∈ lw_privs_1 ++ (lw_privs_2 ++ (lw_privs_3 ++ (lw_privs_4 ++ (lw_privs_5 ++ (lw_privs_6 ++ (lw_privs_7 ++ (lw_privs_8 ++ (lw_privs_9)))))))), lw_okq q
  exact List.forall_mem_append.mpr ⟨lw_r1, List.forall_mem_append.mpr ⟨lw_r2, List.forall_mem_append.mpr ⟨lw_r3, List.forall_mem_append.mpr ⟨lw_r4, List.forall_mem_append.mpr ⟨lw_r5, List.forall_mem_append.mpr ⟨lw_r6, List.forall_mem_append.mpr ⟨lw_r7, List.forall_mem_append.mpr ⟨lw_r8, lw_r9⟩⟩⟩⟩⟩⟩⟩⟩
def RX0 : String := "CrumpledSheet$Code"
def TX0 : u_T := fun k => match k with
  | 0 => ("CrumpledSheet$Code", "signs", "[I", true)
  | 1 => ("CrumpledSheet$Code", "numbers", "[I", true)
  | 2 => ("CrumpledSheet$Code", "waiting", "[J", true)
  | _ => ("CrumpledSheet$Code", "steps", "I", false)
def tyX0 : Nat → FieldType := fun k => match k with
  | 0 => .array .int
  | 1 => .array .int
  | 2 => .array .long
  | _ => .int
theorem nmX0 : ∀ a, a < 4 → ∀ b, b < 4 → a ≠ b → (TX0 a).2.1 ≠ (TX0 b).2.1 := by decide +kernel
theorem tyX0_ok : ∀ k, k < 4 → parseFieldDescriptor (TX0 k).2.2.1 = some (tyX0 k) := by decide +kernel
def RX1 : String := "CrumpledSheet$Corners"
def TX1 : u_T := fun k => match k with
  | 0 => ("CrumpledSheet$Corners", "points", "[I", true)
  | 1 => ("CrumpledSheet$Corners", "counts", "[I", true)
  | 2 => ("CrumpledSheet$Corners", "many", "I", false)
  | _ => ("CrumpledSheet$Corners", "flat", "Z", false)
def tyX1 : Nat → FieldType := fun k => match k with
  | 0 => .array .int
  | 1 => .array .int
  | 2 => .int
  | _ => .boolean
theorem nmX1 : ∀ a, a < 4 → ∀ b, b < 4 → a ≠ b → (TX1 a).2.1 ≠ (TX1 b).2.1 := by decide +kernel
theorem tyX1_ok : ∀ k, k < 4 → parseFieldDescriptor (TX1 k).2.2.1 = some (tyX1 k) := by decide +kernel
def RX2 : String := "CrumpledSheet$Doing"
def TX2 : u_T := fun k => match k with
  | 0 => ("CrumpledSheet$Doing", "sorts", "[I", true)
  | 1 => ("CrumpledSheet$Doing", "numbers", "[I", true)
  | 2 => ("CrumpledSheet$Doing", "times", "[I", true)
  | 3 => ("CrumpledSheet$Doing", "ways", "[I", true)
  | _ => ("CrumpledSheet$Doing", "clauses", "I", false)
def tyX2 : Nat → FieldType := fun k => match k with
  | 0 => .array .int
  | 1 => .array .int
  | 2 => .array .int
  | 3 => .array .int
  | _ => .int
theorem nmX2 : ∀ a, a < 5 → ∀ b, b < 5 → a ≠ b → (TX2 a).2.1 ≠ (TX2 b).2.1 := by decide +kernel
theorem tyX2_ok : ∀ k, k < 5 → parseFieldDescriptor (TX2 k).2.2.1 = some (tyX2 k) := by decide +kernel
def RX3 : String := "CrumpledSheet$Law"
def TX3 : u_T := fun k => match k with
  | 0 => ("CrumpledSheet$Law", "code", "LCrumpledSheet$Code;", true)
  | 1 => ("CrumpledSheet$Law", "sorts", "[I", true)
  | 2 => ("CrumpledSheet$Law", "sumStarts", "[I", true)
  | 3 => ("CrumpledSheet$Law", "sumEnds", "[I", true)
  | 4 => ("CrumpledSheet$Law", "testEnds", "[I", true)
  | 5 => ("CrumpledSheet$Law", "clauses", "I", false)
  | _ => ("CrumpledSheet$Law", "soft", "I", false)
def tyX3 : Nat → FieldType := fun k => match k with
  | 0 => .object "CrumpledSheet$Code"
  | 1 => .array .int
  | 2 => .array .int
  | 3 => .array .int
  | 4 => .array .int
  | 5 => .int
  | _ => .int
theorem nmX3 : ∀ a, a < 7 → ∀ b, b < 7 → a ≠ b → (TX3 a).2.1 ≠ (TX3 b).2.1 := by decide +kernel
theorem tyX3_ok : ∀ k, k < 7 → parseFieldDescriptor (TX3 k).2.2.1 = some (tyX3 k) := by decide +kernel
def RX4 : String := "CrumpledSheet$Neighbours"
def TX4 : u_T := fun k => match k with
  | 0 => ("CrumpledSheet$Neighbours", "starts", "[I", true)
  | 1 => ("CrumpledSheet$Neighbours", "others", "[I", true)
  | 2 => ("CrumpledSheet$Neighbours", "distances", "[I", true)
  | 3 => ("CrumpledSheet$Neighbours", "queue", "[I", true)
  | _ => ("CrumpledSheet$Neighbours", "facets", "I", false)
def tyX4 : Nat → FieldType := fun k => match k with
  | 0 => .array .int
  | 1 => .array .int
  | 2 => .array .int
  | 3 => .array .int
  | _ => .int
theorem nmX4 : ∀ a, a < 5 → ∀ b, b < 5 → a ≠ b → (TX4 a).2.1 ≠ (TX4 b).2.1 := by decide +kernel
theorem tyX4_ok : ∀ k, k < 5 → parseFieldDescriptor (TX4 k).2.2.1 = some (tyX4 k) := by decide +kernel
def RX5 : String := "CrumpledSheet$Pile"
def TX5 : u_T := fun k => match k with
  | 0 => ("CrumpledSheet$Pile", "sheets", "[LCrumpledSheet$Sheet;", true)
  | 1 => ("CrumpledSheet$Pile", "many", "I", false)
  | _ => ("CrumpledSheet$Pile", "made", "Z", false)
def tyX5 : Nat → FieldType := fun k => match k with
  | 0 => .array (.object "CrumpledSheet$Sheet")
  | 1 => .int
  | _ => .boolean
theorem nmX5 : ∀ a, a < 3 → ∀ b, b < 3 → a ≠ b → (TX5 a).2.1 ≠ (TX5 b).2.1 := by decide +kernel
theorem tyX5_ok : ∀ k, k < 3 → parseFieldDescriptor (TX5 k).2.2.1 = some (tyX5 k) := by decide +kernel
def RX6 : String := "CrumpledSheet$Reader"
def TX6 : u_T := fun k => match k with
  | 0 => ("CrumpledSheet$Reader", "tape", "[I", true)
  | 1 => ("CrumpledSheet$Reader", "length", "I", false)
  | 2 => ("CrumpledSheet$Reader", "place", "I", false)
  | 3 => ("CrumpledSheet$Reader", "fault", "I", false)
  | 4 => ("CrumpledSheet$Reader", "values", "I", false)
  | 5 => ("CrumpledSheet$Reader", "code", "LCrumpledSheet$Code;", false)
  | _ => ("CrumpledSheet$Reader", "words", "Ljava/lang/String;", false)
def tyX6 : Nat → FieldType := fun k => match k with
  | 0 => .array .int
  | 1 => .int
  | 2 => .int
  | 3 => .int
  | 4 => .int
  | 5 => .object "CrumpledSheet$Code"
  | _ => .object "java/lang/String"
theorem nmX6 : ∀ a, a < 7 → ∀ b, b < 7 → a ≠ b → (TX6 a).2.1 ≠ (TX6 b).2.1 := by decide +kernel
theorem tyX6_ok : ∀ k, k < 7 → parseFieldDescriptor (TX6 k).2.2.1 = some (tyX6 k) := by decide +kernel
def RX7 : String := "CrumpledSheet$Rule"
def TX7 : u_T := fun k => match k with
  | 0 => ("CrumpledSheet$Rule", "code", "LCrumpledSheet$Code;", true)
  | 1 => ("CrumpledSheet$Rule", "sorts", "[I", true)
  | 2 => ("CrumpledSheet$Rule", "testStarts", "[I", true)
  | 3 => ("CrumpledSheet$Rule", "testEnds", "[I", true)
  | _ => ("CrumpledSheet$Rule", "clauses", "I", false)
def tyX7 : Nat → FieldType := fun k => match k with
  | 0 => .object "CrumpledSheet$Code"
  | 1 => .array .int
  | 2 => .array .int
  | 3 => .array .int
  | _ => .int
theorem nmX7 : ∀ a, a < 5 → ∀ b, b < 5 → a ≠ b → (TX7 a).2.1 ≠ (TX7 b).2.1 := by decide +kernel
theorem tyX7_ok : ∀ k, k < 5 → parseFieldDescriptor (TX7 k).2.2.1 = some (tyX7 k) := by decide +kernel
def RX8 : String := "CrumpledSheet$Sheet"
def TX8 : u_T := fun k => match k with
  | 0 => ("CrumpledSheet$Sheet", "facetRow", "[I", true)
  | 1 => ("CrumpledSheet$Sheet", "ridgeRow", "[I", true)
  | 2 => ("CrumpledSheet$Sheet", "foretoldRow", "[I", true)
  | 3 => ("CrumpledSheet$Sheet", "words", "[J", true)
  | 4 => ("CrumpledSheet$Sheet", "law", "LCrumpledSheet$Law;", false)
  | 5 => ("CrumpledSheet$Sheet", "wideTold", "I", false)
  | 6 => ("CrumpledSheet$Sheet", "highTold", "I", false)
  | 7 => ("CrumpledSheet$Sheet", "seed", "I", false)
  | 8 => ("CrumpledSheet$Sheet", "wide", "I", false)
  | 9 => ("CrumpledSheet$Sheet", "high", "I", false)
  | 10 => ("CrumpledSheet$Sheet", "round", "I", false)
  | 11 => ("CrumpledSheet$Sheet", "facets", "I", false)
  | 12 => ("CrumpledSheet$Sheet", "ridges", "I", false)
  | _ => ("CrumpledSheet$Sheet", "x", "J", false)
def tyX8 : Nat → FieldType := fun k => match k with
  | 0 => .array .int
  | 1 => .array .int
  | 2 => .array .int
  | 3 => .array .long
  | 4 => .object "CrumpledSheet$Law"
  | 5 => .int
  | 6 => .int
  | 7 => .int
  | 8 => .int
  | 9 => .int
  | 10 => .int
  | 11 => .int
  | 12 => .int
  | _ => .long
theorem nmX8 : ∀ a, a < 14 → ∀ b, b < 14 → a ≠ b → (TX8 a).2.1 ≠ (TX8 b).2.1 := by decide +kernel
theorem tyX8_ok : ∀ k, k < 14 → parseFieldDescriptor (TX8 k).2.2.1 = some (tyX8 k) := by decide +kernel
def RX9 : String := "CrumpledSheet$Sight"
def TX9 : u_T := fun k => match k with
  | 0 => ("CrumpledSheet$Sight", "sights", "[I", true)
  | 1 => ("CrumpledSheet$Sight", "words", "[J", true)
  | 2 => ("CrumpledSheet$Sight", "sheet", "LCrumpledSheet$Sheet;", false)
  | _ => ("CrumpledSheet$Sight", "ridges", "I", false)
def tyX9 : Nat → FieldType := fun k => match k with
  | 0 => .array .int
  | 1 => .array .long
  | 2 => .object "CrumpledSheet$Sheet"
  | _ => .int
theorem nmX9 : ∀ a, a < 4 → ∀ b, b < 4 → a ≠ b → (TX9 a).2.1 ≠ (TX9 b).2.1 := by decide +kernel
theorem tyX9_ok : ∀ k, k < 4 → parseFieldDescriptor (TX9 k).2.2.1 = some (tyX9 k) := by decide +kernel
def RX10 : String := "CrumpledSheet$Strip"
def TX10 : u_T := fun k => match k with
  | 0 => ("CrumpledSheet$Strip", "parts", "[I", true)
  | 1 => ("CrumpledSheet$Strip", "folds", "[I", true)
  | 2 => ("CrumpledSheet$Strip", "foldsTold", "I", false)
  | 3 => ("CrumpledSheet$Strip", "leftParts", "[I", true)
  | 4 => ("CrumpledSheet$Strip", "leftFolds", "[I", true)
  | 5 => ("CrumpledSheet$Strip", "left", "I", false)
  | _ => ("CrumpledSheet$Strip", "steps", "I", false)
def tyX10 : Nat → FieldType := fun k => match k with
  | 0 => .array .int
  | 1 => .array .int
  | 2 => .int
  | 3 => .array .int
  | 4 => .array .int
  | 5 => .int
  | _ => .int
theorem nmX10 : ∀ a, a < 7 → ∀ b, b < 7 → a ≠ b → (TX10 a).2.1 ≠ (TX10 b).2.1 := by decide +kernel
theorem tyX10_ok : ∀ k, k < 7 → parseFieldDescriptor (TX10 k).2.2.1 = some (tyX10 k) := by decide +kernel
def RX11 : String := "CrumpledSheet"
def TX11 : u_T := fun k => match k with
  | 0 => ("CrumpledSheet", "tape", "[I", true)
  | 1 => ("CrumpledSheet", "tapeLength", "I", false)
  | 2 => ("CrumpledSheet", "reader", "LCrumpledSheet$Reader;", true)
  | 3 => ("CrumpledSheet", "textCounts", "[I", true)
  | 4 => ("CrumpledSheet", "laws", "[LCrumpledSheet$Law;", true)
  | 5 => ("CrumpledSheet", "doings", "[LCrumpledSheet$Doing;", true)
  | 6 => ("CrumpledSheet", "rules", "[LCrumpledSheet$Rule;", true)
  | 7 => ("CrumpledSheet", "strips", "[LCrumpledSheet$Strip;", true)
  | 8 => ("CrumpledSheet", "noLaw", "LCrumpledSheet$Law;", true)
  | 9 => ("CrumpledSheet", "pile", "LCrumpledSheet$Pile;", true)
  | 10 => ("CrumpledSheet", "images", "[LCrumpledSheet$Pile;", true)
  | 11 => ("CrumpledSheet", "trial", "LCrumpledSheet$Sheet;", true)
  | 12 => ("CrumpledSheet", "sight", "LCrumpledSheet$Sight;", true)
  | 13 => ("CrumpledSheet", "net", "LCrumpledSheet$Corners;", true)
  | _ => ("CrumpledSheet", "neighbours", "LCrumpledSheet$Neighbours;", true)
def tyX11 : Nat → FieldType := fun k => match k with
  | 0 => .array .int
  | 1 => .int
  | 2 => .object "CrumpledSheet$Reader"
  | 3 => .array .int
  | 4 => .array (.object "CrumpledSheet$Law")
  | 5 => .array (.object "CrumpledSheet$Doing")
  | 6 => .array (.object "CrumpledSheet$Rule")
  | 7 => .array (.object "CrumpledSheet$Strip")
  | 8 => .object "CrumpledSheet$Law"
  | 9 => .object "CrumpledSheet$Pile"
  | 10 => .array (.object "CrumpledSheet$Pile")
  | 11 => .object "CrumpledSheet$Sheet"
  | 12 => .object "CrumpledSheet$Sight"
  | 13 => .object "CrumpledSheet$Corners"
  | _ => .object "CrumpledSheet$Neighbours"
theorem nmX11 : ∀ a, a < 15 → ∀ b, b < 15 → a ≠ b → (TX11 a).2.1 ≠ (TX11 b).2.1 := by decide +kernel
theorem tyX11_ok : ∀ k, k < 15 → parseFieldDescriptor (TX11 k).2.2.1 = some (tyX11 k) := by decide +kernel
def RX12 : String := "CrumpledSheetModel"
def TX12 : u_T := fun k => match k with
  | 0 => ("CrumpledSheetModel", "tape", "[B", true)
  | 1 => ("CrumpledSheetModel", "taped", "I", false)
  | 2 => ("CrumpledSheetModel", "texts", "[I", true)
  | 3 => ("CrumpledSheetModel", "sign", "[I", true)
  | 4 => ("CrumpledSheetModel", "length", "[I", true)
  | 5 => ("CrumpledSheetModel", "clause", "[I", true)
  | 6 => ("CrumpledSheetModel", "clauses", "[I", true)
  | 7 => ("CrumpledSheetModel", "soft", "[I", true)
  | 8 => ("CrumpledSheetModel", "part", "[I", true)
  | 9 => ("CrumpledSheetModel", "folded", "[I", true)
  | 10 => ("CrumpledSheetModel", "folds", "[I", true)
  | 11 => ("CrumpledSheetModel", "next", "I", false)
  | 12 => ("CrumpledSheetModel", "wrong", "I", false)
  | 13 => ("CrumpledSheetModel", "number", "I", false)
  | 14 => ("CrumpledSheetModel", "text", "I", false)
  | 15 => ("CrumpledSheetModel", "made", "I", false)
  | 16 => ("CrumpledSheetModel", "deep", "I", false)
  | 17 => ("CrumpledSheetModel", "lines", "I", false)
  | 18 => ("CrumpledSheetModel", "open", "[I", true)
  | 19 => ("CrumpledSheetModel", "opened", "I", false)
  | 20 => ("CrumpledSheetModel", "stack", "[J", true)
  | 21 => ("CrumpledSheetModel", "top", "I", false)
  | 22 => ("CrumpledSheetModel", "word", "[J", true)
  | 23 => ("CrumpledSheetModel", "said", "[I", true)
  | 24 => ("CrumpledSheetModel", "sheets", "I", false)
  | 25 => ("CrumpledSheetModel", "isSeen", "[Z", true)
  | 26 => ("CrumpledSheetModel", "points", "[I", true)
  | 27 => ("CrumpledSheetModel", "partLeft", "[I", true)
  | 28 => ("CrumpledSheetModel", "foldLeft", "[I", true)
  | 29 => ("CrumpledSheetModel", "foldsLeft", "I", false)
  | 30 => ("CrumpledSheetModel", "stepsMade", "I", false)
  | 31 => ("CrumpledSheetModel", "far", "[I", true)
  | 32 => ("CrumpledSheetModel", "order", "[I", true)
  | 33 => ("CrumpledSheetModel", "images", "[I", true)
  | 34 => ("CrumpledSheetModel", "imageSheets", "[I", true)
  | _ => ("CrumpledSheetModel", "isMade", "[Z", true)
def tyX12 : Nat → FieldType := fun k => match k with
  | 0 => .array .byte
  | 1 => .int
  | 2 => .array .int
  | 3 => .array .int
  | 4 => .array .int
  | 5 => .array .int
  | 6 => .array .int
  | 7 => .array .int
  | 8 => .array .int
  | 9 => .array .int
  | 10 => .array .int
  | 11 => .int
  | 12 => .int
  | 13 => .int
  | 14 => .int
  | 15 => .int
  | 16 => .int
  | 17 => .int
  | 18 => .array .int
  | 19 => .int
  | 20 => .array .long
  | 21 => .int
  | 22 => .array .long
  | 23 => .array .int
  | 24 => .int
  | 25 => .array .boolean
  | 26 => .array .int
  | 27 => .array .int
  | 28 => .array .int
  | 29 => .int
  | 30 => .int
  | 31 => .array .int
  | 32 => .array .int
  | 33 => .array .int
  | 34 => .array .int
  | _ => .array .boolean
theorem nmX12 : ∀ a, a < 36 → ∀ b, b < 36 → a ≠ b → (TX12 a).2.1 ≠ (TX12 b).2.1 := by decide +kernel
theorem tyX12_ok : ∀ k, k < 36 → parseFieldDescriptor (TX12 k).2.2.1 = some (tyX12 k) := by decide +kernel
abbrev vwCl : List vw_C := [(RX0, TX0, 4), (RX1, TX1, 4), (RX2, TX2, 5), (RX3, TX3, 7), (RX4, TX4, 5), (RX5, TX5, 3), (RX6, TX6, 7), (RX7, TX7, 5), (RX8, TX8, 14), (RX9, TX9, 4), (RX10, TX10, 7), (RX11, TX11, 15), (RX12, TX12, 36)]

/-- the words that a method may take along: on the tables, and kept by every step -/
def Tg : List Cond := lw_tbl.filter goodWord
theorem Tg_of {w : Cond} (h : w ∈ lw_tbl) (g : goodWord w = true) : w ∈ Tg := List.mem_filter.mpr ⟨h, g⟩
theorem Tg_in {w : Cond} (h : w ∈ Tg) : w ∈ lw_tbl := (List.mem_filter.mp h).1
theorem Tg_good {w : Cond} (h : w ∈ Tg) : goodWord w = true := (List.mem_filter.mp h).2
theorem t1_in {w : Cond} (h : w ∈ tables_1) : w ∈ lw_tbl := List.mem_append_right _ h
theorem t1_1 {w : Cond} (i : Nat) (h : tables_1_1[i]? = some w) : w ∈ lw_tbl := t1_in (List.mem_append_left _ (List.mem_of_getElem? h))
theorem t1_2 {w : Cond} (i : Nat) (h : tables_1_2[i]? = some w) : w ∈ lw_tbl := t1_in (List.mem_append_right _ (List.mem_append_left _ (List.mem_of_getElem? h)))
theorem t1_3 {w : Cond} (i : Nat) (h : tables_1_3[i]? = some w) : w ∈ lw_tbl := t1_in (List.mem_append_right _ (List.mem_append_right _ (List.mem_append_left _ (List.mem_of_getElem? h))))
theorem t1_4 {w : Cond} (i : Nat) (h : tables_1_4[i]? = some w) : w ∈ lw_tbl := t1_in (List.mem_append_right _ (List.mem_append_right _ (List.mem_append_right _ (List.mem_append_left _ (List.mem_of_getElem? h)))))
theorem t1_5 {w : Cond} (i : Nat) (h : tables_1_5[i]? = some w) : w ∈ lw_tbl := t1_in (List.mem_append_right _ (List.mem_append_right _ (List.mem_append_right _ (List.mem_append_right _ (List.mem_append_left _ (List.mem_of_getElem? h))))))
theorem t1_6 {w : Cond} (i : Nat) (h : tables_1_6[i]? = some w) : w ∈ lw_tbl := t1_in (List.mem_append_right _ (List.mem_append_right _ (List.mem_append_right _ (List.mem_append_right _ (List.mem_append_right _ (List.mem_append_left _ (List.mem_of_getElem? h)))))))
theorem t1_7 {w : Cond} (i : Nat) (h : tables_1_7[i]? = some w) : w ∈ lw_tbl := t1_in (List.mem_append_right _ (List.mem_append_right _ (List.mem_append_right _ (List.mem_append_right _ (List.mem_append_right _ (List.mem_append_right _ (List.mem_append_left _ (List.mem_of_getElem? h))))))))
theorem t1_8 {w : Cond} (i : Nat) (h : tables_1_8[i]? = some w) : w ∈ lw_tbl := t1_in (List.mem_append_right _ (List.mem_append_right _ (List.mem_append_right _ (List.mem_append_right _ (List.mem_append_right _ (List.mem_append_right _ (List.mem_append_right _ (List.mem_append_left _ (List.mem_of_getElem? h)))))))))
theorem t1_9 {w : Cond} (i : Nat) (h : tables_1_9[i]? = some w) : w ∈ lw_tbl := t1_in (List.mem_append_right _ (List.mem_append_right _ (List.mem_append_right _ (List.mem_append_right _ (List.mem_append_right _ (List.mem_append_right _ (List.mem_append_right _ (List.mem_append_right _ (List.mem_of_getElem? h)))))))))
theorem tsel {w : Cond} (i : Nat) (h : (k2_sels lw_privs)[i]? = some w) : w ∈ lw_tbl := List.mem_append_left _ (List.mem_of_getElem? h)

theorem inX0 : ∀ w ∈ u_ws RX0 TX0 4, w ∈ Tg := fun w h => Tg_of (t1_in ((by decide +kernel : ∀ w ∈ u_ws RX0 TX0 4, w ∈ tables_1) w h)) ((by decide +kernel : ∀ w ∈ u_ws RX0 TX0 4, goodWord w = true) w h)
theorem inX1 : ∀ w ∈ u_ws RX1 TX1 4, w ∈ Tg := fun w h => Tg_of (t1_in ((by decide +kernel : ∀ w ∈ u_ws RX1 TX1 4, w ∈ tables_1) w h)) ((by decide +kernel : ∀ w ∈ u_ws RX1 TX1 4, goodWord w = true) w h)
theorem inX2 : ∀ w ∈ u_ws RX2 TX2 5, w ∈ Tg := fun w h => Tg_of (t1_in ((by decide +kernel : ∀ w ∈ u_ws RX2 TX2 5, w ∈ tables_1) w h)) ((by decide +kernel : ∀ w ∈ u_ws RX2 TX2 5, goodWord w = true) w h)
theorem inX3 : ∀ w ∈ u_ws RX3 TX3 7, w ∈ Tg := fun w h => Tg_of (t1_in ((by decide +kernel : ∀ w ∈ u_ws RX3 TX3 7, w ∈ tables_1) w h)) ((by decide +kernel : ∀ w ∈ u_ws RX3 TX3 7, goodWord w = true) w h)
theorem inX4 : ∀ w ∈ u_ws RX4 TX4 5, w ∈ Tg := fun w h => Tg_of (t1_in ((by decide +kernel : ∀ w ∈ u_ws RX4 TX4 5, w ∈ tables_1) w h)) ((by decide +kernel : ∀ w ∈ u_ws RX4 TX4 5, goodWord w = true) w h)
theorem inX5 : ∀ w ∈ u_ws RX5 TX5 3, w ∈ Tg := fun w h => Tg_of (t1_in ((by decide +kernel : ∀ w ∈ u_ws RX5 TX5 3, w ∈ tables_1) w h)) ((by decide +kernel : ∀ w ∈ u_ws RX5 TX5 3, goodWord w = true) w h)
theorem inX6 : ∀ w ∈ u_ws RX6 TX6 7, w ∈ Tg := fun w h => Tg_of (t1_in ((by decide +kernel : ∀ w ∈ u_ws RX6 TX6 7, w ∈ tables_1) w h)) ((by decide +kernel : ∀ w ∈ u_ws RX6 TX6 7, goodWord w = true) w h)
theorem inX7 : ∀ w ∈ u_ws RX7 TX7 5, w ∈ Tg := fun w h => Tg_of (t1_in ((by decide +kernel : ∀ w ∈ u_ws RX7 TX7 5, w ∈ tables_1) w h)) ((by decide +kernel : ∀ w ∈ u_ws RX7 TX7 5, goodWord w = true) w h)
theorem inX8 : ∀ w ∈ u_ws RX8 TX8 14, w ∈ Tg := fun w h => Tg_of (t1_in ((by decide +kernel : ∀ w ∈ u_ws RX8 TX8 14, w ∈ tables_1) w h)) ((by decide +kernel : ∀ w ∈ u_ws RX8 TX8 14, goodWord w = true) w h)
theorem inX9 : ∀ w ∈ u_ws RX9 TX9 4, w ∈ Tg := fun w h => Tg_of (t1_in ((by decide +kernel : ∀ w ∈ u_ws RX9 TX9 4, w ∈ tables_1) w h)) ((by decide +kernel : ∀ w ∈ u_ws RX9 TX9 4, goodWord w = true) w h)
theorem inX10 : ∀ w ∈ u_ws RX10 TX10 7, w ∈ Tg := fun w h => Tg_of (t1_in ((by decide +kernel : ∀ w ∈ u_ws RX10 TX10 7, w ∈ tables_1) w h)) ((by decide +kernel : ∀ w ∈ u_ws RX10 TX10 7, goodWord w = true) w h)
theorem inX11 : ∀ w ∈ u_ws RX11 TX11 15, w ∈ Tg := fun w h => Tg_of (t1_in ((by decide +kernel : ∀ w ∈ u_ws RX11 TX11 15, w ∈ tables_1) w h)) ((by decide +kernel : ∀ w ∈ u_ws RX11 TX11 15, goodWord w = true) w h)
theorem inX12 : ∀ w ∈ u_ws RX12 TX12 36, w ∈ Tg := fun w h => Tg_of (t1_in ((by decide +kernel : ∀ w ∈ u_ws RX12 TX12 36, w ∈ tables_1) w h)) ((by decide +kernel : ∀ w ∈ u_ws RX12 TX12 36, goodWord w = true) w h)
