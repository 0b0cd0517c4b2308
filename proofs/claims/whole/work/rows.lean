section
-- ===== PART A: goes FIRST, ahead of the names: the tables' words, and 'selects' of the private methods out of them =====
/-- a private method of a class that the tables say can be made, by its rows of tables_1 -/
def lw_okq (q : MethodName × Nat) : Prop := (q.1.cls ≠ "java/lang/invoke/MethodHandle" ∧ q.1.cls ≠ "java/lang/invoke/VarHandle") ∧ Cond.instantiable q.1.cls q.2 ∈ tables_1 ∧ Cond.privateMethod q.1 ∈ tables_1 ∧ Cond.instanceMethod q.1 ∈ tables_1
theorem lw_p0 : lw_okq (⟨"CaravanRoad$Reader", "begin", "(LCaravanRoad$RuleBook;)V"⟩, 9) := ⟨⟨by decide +kernel, by decide +kernel⟩, List.mem_of_getElem? (i := 158) (by decide +kernel), List.mem_of_getElem? (i := 404) (by decide +kernel), List.mem_of_getElem? (i := 405) (by decide +kernel)⟩
theorem lw_p1 : lw_okq (⟨"CaravanRoad$Scanner", "takeWord", "()V"⟩, 5) := ⟨⟨by decide +kernel, by decide +kernel⟩, List.mem_of_getElem? (i := 164) (by decide +kernel), List.mem_of_getElem? (i := 428) (by decide +kernel), List.mem_of_getElem? (i := 429) (by decide +kernel)⟩
theorem lw_p2 : lw_okq (⟨"CaravanRoad$Scanner", "wordToken", "()I"⟩, 5) := ⟨⟨by decide +kernel, by decide +kernel⟩, List.mem_of_getElem? (i := 164) (by decide +kernel), List.mem_of_getElem? (i := 432) (by decide +kernel), List.mem_of_getElem? (i := 433) (by decide +kernel)⟩
theorem lw_p3 : lw_okq (⟨"CaravanRoad$Scanner", "takeInt", "()V"⟩, 5) := ⟨⟨by decide +kernel, by decide +kernel⟩, List.mem_of_getElem? (i := 164) (by decide +kernel), List.mem_of_getElem? (i := 485) (by decide +kernel), List.mem_of_getElem? (i := 486) (by decide +kernel)⟩
theorem lw_p4 : lw_okq (⟨"CaravanRoad$Scanner", "takeSign", "(I)V"⟩, 5) := ⟨⟨by decide +kernel, by decide +kernel⟩, List.mem_of_getElem? (i := 164) (by decide +kernel), List.mem_of_getElem? (i := 489) (by decide +kernel), List.mem_of_getElem? (i := 490) (by decide +kernel)⟩
theorem lw_p5 : lw_okq (⟨"CaravanRoad$Reader", "mayFollow", "(I)Z"⟩, 9) := ⟨⟨by decide +kernel, by decide +kernel⟩, List.mem_of_getElem? (i := 158) (by decide +kernel), List.mem_of_getElem? (i := 499) (by decide +kernel), List.mem_of_getElem? (i := 500) (by decide +kernel)⟩
theorem lw_p6 : lw_okq (⟨"CaravanRoad$Reader", "mayFollowUnit", "(I)Z"⟩, 9) := ⟨⟨by decide +kernel, by decide +kernel⟩, List.mem_of_getElem? (i := 158) (by decide +kernel), List.mem_of_getElem? (i := 504) (by decide +kernel), List.mem_of_getElem? (i := 505) (by decide +kernel)⟩
theorem lw_p7 : lw_okq (⟨"CaravanRoad$Reader", "blame", "(II)V"⟩, 9) := ⟨⟨by decide +kernel, by decide +kernel⟩, List.mem_of_getElem? (i := 158) (by decide +kernel), List.mem_of_getElem? (i := 508) (by decide +kernel), List.mem_of_getElem? (i := 509) (by decide +kernel)⟩
theorem lw_p8 : lw_okq (⟨"CaravanRoad$Reader", "isTooMuch", "(LCaravanRoad$RuleBook;)Z"⟩, 9) := ⟨⟨by decide +kernel, by decide +kernel⟩, List.mem_of_getElem? (i := 158) (by decide +kernel), List.mem_of_getElem? (i := 512) (by decide +kernel), List.mem_of_getElem? (i := 513) (by decide +kernel)⟩
theorem lw_p9 : lw_okq (⟨"CaravanRoad$Reader", "take", "(LCaravanRoad$RuleBook;)V"⟩, 9) := ⟨⟨by decide +kernel, by decide +kernel⟩, List.mem_of_getElem? (i := 158) (by decide +kernel), List.mem_of_getElem? (i := 516) (by decide +kernel), List.mem_of_getElem? (i := 517) (by decide +kernel)⟩
theorem lw_p10 : lw_okq (⟨"CaravanRoad$Reader", "takeLord", "(LCaravanRoad$RuleBook;)V"⟩, 9) := ⟨⟨by decide +kernel, by decide +kernel⟩, List.mem_of_getElem? (i := 158) (by decide +kernel), List.mem_of_getElem? (i := 524) (by decide +kernel), List.mem_of_getElem? (i := 525) (by decide +kernel)⟩
theorem lw_p11 : lw_okq (⟨"CaravanRoad$Reader", "takeIf", "(LCaravanRoad$RuleBook;)V"⟩, 9) := ⟨⟨by decide +kernel, by decide +kernel⟩, List.mem_of_getElem? (i := 158) (by decide +kernel), List.mem_of_getElem? (i := 539) (by decide +kernel), List.mem_of_getElem? (i := 540) (by decide +kernel)⟩
theorem lw_p12 : lw_okq (⟨"CaravanRoad$Reader", "takeUnit", "(LCaravanRoad$RuleBook;)V"⟩, 9) := ⟨⟨by decide +kernel, by decide +kernel⟩, List.mem_of_getElem? (i := 158) (by decide +kernel), List.mem_of_getElem? (i := 547) (by decide +kernel), List.mem_of_getElem? (i := 548) (by decide +kernel)⟩
theorem lw_p13 : lw_okq (⟨"CaravanRoad$Reader", "hold", "(I)V"⟩, 9) := ⟨⟨by decide +kernel, by decide +kernel⟩, List.mem_of_getElem? (i := 158) (by decide +kernel), List.mem_of_getElem? (i := 551) (by decide +kernel), List.mem_of_getElem? (i := 552) (by decide +kernel)⟩
theorem lw_p14 : lw_okq (⟨"CaravanRoad$Reader", "takeBehindUnit", "(LCaravanRoad$RuleBook;)V"⟩, 9) := ⟨⟨by decide +kernel, by decide +kernel⟩, List.mem_of_getElem? (i := 158) (by decide +kernel), List.mem_of_getElem? (i := 559) (by decide +kernel), List.mem_of_getElem? (i := 560) (by decide +kernel)⟩
theorem lw_p15 : lw_okq (⟨"CaravanRoad$Reader", "release", "(LCaravanRoad$RuleBook;I)V"⟩, 9) := ⟨⟨by decide +kernel, by decide +kernel⟩, List.mem_of_getElem? (i := 158) (by decide +kernel), List.mem_of_getElem? (i := 566) (by decide +kernel), List.mem_of_getElem? (i := 567) (by decide +kernel)⟩
def lw_privs_1 : List (MethodName × Nat) := [(⟨"CaravanRoad$Reader", "begin", "(LCaravanRoad$RuleBook;)V"⟩, 9), (⟨"CaravanRoad$Scanner", "takeWord", "()V"⟩, 5), (⟨"CaravanRoad$Scanner", "wordToken", "()I"⟩, 5), (⟨"CaravanRoad$Scanner", "takeInt", "()V"⟩, 5), (⟨"CaravanRoad$Scanner", "takeSign", "(I)V"⟩, 5), (⟨"CaravanRoad$Reader", "mayFollow", "(I)Z"⟩, 9), (⟨"CaravanRoad$Reader", "mayFollowUnit", "(I)Z"⟩, 9), (⟨"CaravanRoad$Reader", "blame", "(II)V"⟩, 9), (⟨"CaravanRoad$Reader", "isTooMuch", "(LCaravanRoad$RuleBook;)Z"⟩, 9), (⟨"CaravanRoad$Reader", "take", "(LCaravanRoad$RuleBook;)V"⟩, 9), (⟨"CaravanRoad$Reader", "takeLord", "(LCaravanRoad$RuleBook;)V"⟩, 9), (⟨"CaravanRoad$Reader", "takeIf", "(LCaravanRoad$RuleBook;)V"⟩, 9), (⟨"CaravanRoad$Reader", "takeUnit", "(LCaravanRoad$RuleBook;)V"⟩, 9), (⟨"CaravanRoad$Reader", "hold", "(I)V"⟩, 9), (⟨"CaravanRoad$Reader", "takeBehindUnit", "(LCaravanRoad$RuleBook;)V"⟩, 9), (⟨"CaravanRoad$Reader", "release", "(LCaravanRoad$RuleBook;I)V"⟩, 9)]
theorem lw_r1 : ∀ q ∈ lw_privs_1, lw_okq q := List.forall_mem_cons.mpr ⟨lw_p0, List.forall_mem_cons.mpr ⟨lw_p1, List.forall_mem_cons.mpr ⟨lw_p2, List.forall_mem_cons.mpr ⟨lw_p3, List.forall_mem_cons.mpr ⟨lw_p4, List.forall_mem_cons.mpr ⟨lw_p5, List.forall_mem_cons.mpr ⟨lw_p6, List.forall_mem_cons.mpr ⟨lw_p7, List.forall_mem_cons.mpr ⟨lw_p8, List.forall_mem_cons.mpr ⟨lw_p9, List.forall_mem_cons.mpr ⟨lw_p10, List.forall_mem_cons.mpr ⟨lw_p11, List.forall_mem_cons.mpr ⟨lw_p12, List.forall_mem_cons.mpr ⟨lw_p13, List.forall_mem_cons.mpr ⟨lw_p14, List.forall_mem_cons.mpr ⟨lw_p15, fun _ h => absurd h List.not_mem_nil⟩⟩⟩⟩⟩⟩⟩⟩⟩⟩⟩⟩⟩⟩⟩⟩
theorem lw_p16 : lw_okq (⟨"CaravanRoad$Reader", "takeOperator", "(I)V"⟩, 9) := ⟨⟨by decide +kernel, by decide +kernel⟩, List.mem_of_getElem? (i := 158) (by decide +kernel), List.mem_of_getElem? (i := 577) (by decide +kernel), List.mem_of_getElem? (i := 578) (by decide +kernel)⟩
theorem lw_p17 : lw_okq (⟨"CaravanRoad$Facts", "add", "(IIZ)I"⟩, 5) := ⟨⟨by decide +kernel, by decide +kernel⟩, List.mem_of_getElem? (i := 132) (by decide +kernel), List.mem_of_getElem? (i := 626) (by decide +kernel), List.mem_of_getElem? (i := 627) (by decide +kernel)⟩
theorem lw_p18 : lw_okq (⟨"CaravanRoad$Journey", "morning", "(LCaravanRoad$RuleBook;II)V"⟩, 14) := ⟨⟨by decide +kernel, by decide +kernel⟩, List.mem_of_getElem? (i := 218) (by decide +kernel), List.mem_of_getElem? (i := 660) (by decide +kernel), List.mem_of_getElem? (i := 661) (by decide +kernel)⟩
theorem lw_p19 : lw_okq (⟨"CaravanRoad$Journey", "wake", "(II)V"⟩, 14) := ⟨⟨by decide +kernel, by decide +kernel⟩, List.mem_of_getElem? (i := 218) (by decide +kernel), List.mem_of_getElem? (i := 664) (by decide +kernel), List.mem_of_getElem? (i := 665) (by decide +kernel)⟩
theorem lw_p20 : lw_okq (⟨"CaravanRoad$Journey", "goOn", "(LCaravanRoad$RuleBook;III)V"⟩, 14) := ⟨⟨by decide +kernel, by decide +kernel⟩, List.mem_of_getElem? (i := 218) (by decide +kernel), List.mem_of_getElem? (i := 668) (by decide +kernel), List.mem_of_getElem? (i := 669) (by decide +kernel)⟩
theorem lw_p21 : lw_okq (⟨"CaravanRoad$Journey", "setVars", "(III)V"⟩, 14) := ⟨⟨by decide +kernel, by decide +kernel⟩, List.mem_of_getElem? (i := 218) (by decide +kernel), List.mem_of_getElem? (i := 673) (by decide +kernel), List.mem_of_getElem? (i := 674) (by decide +kernel)⟩
theorem lw_p22 : lw_okq (⟨"CaravanRoad$RuleBook", "run", "(II[I)I"⟩, 9) := ⟨⟨by decide +kernel, by decide +kernel⟩, List.mem_of_getElem? (i := 323) (by decide +kernel), List.mem_of_getElem? (i := 681) (by decide +kernel), List.mem_of_getElem? (i := 682) (by decide +kernel)⟩
theorem lw_p23 : lw_okq (⟨"CaravanRoad$Journey", "pay", "(IIII)V"⟩, 14) := ⟨⟨by decide +kernel, by decide +kernel⟩, List.mem_of_getElem? (i := 218) (by decide +kernel), List.mem_of_getElem? (i := 702) (by decide +kernel), List.mem_of_getElem? (i := 703) (by decide +kernel)⟩
theorem lw_p24 : lw_okq (⟨"CaravanRoad$Journey", "evening", "(LCaravanRoad$RuleBook;I)V"⟩, 14) := ⟨⟨by decide +kernel, by decide +kernel⟩, List.mem_of_getElem? (i := 218) (by decide +kernel), List.mem_of_getElem? (i := 706) (by decide +kernel), List.mem_of_getElem? (i := 707) (by decide +kernel)⟩
theorem lw_p25 : lw_okq (⟨"CaravanRoad$Journey", "host", "(II)V"⟩, 14) := ⟨⟨by decide +kernel, by decide +kernel⟩, List.mem_of_getElem? (i := 218) (by decide +kernel), List.mem_of_getElem? (i := 710) (by decide +kernel), List.mem_of_getElem? (i := 711) (by decide +kernel)⟩
theorem lw_p26 : lw_okq (⟨"CaravanRoad$Lodging", "fitsAll", "(I)Z"⟩, 12) := ⟨⟨by decide +kernel, by decide +kernel⟩, List.mem_of_getElem? (i := 225) (by decide +kernel), List.mem_of_getElem? (i := 726) (by decide +kernel), List.mem_of_getElem? (i := 727) (by decide +kernel)⟩
theorem lw_p27 : lw_okq (⟨"CaravanRoad$Lodging", "fits", "(II)Z"⟩, 12) := ⟨⟨by decide +kernel, by decide +kernel⟩, List.mem_of_getElem? (i := 225) (by decide +kernel), List.mem_of_getElem? (i := 730) (by decide +kernel), List.mem_of_getElem? (i := 731) (by decide +kernel)⟩
theorem lw_p28 : lw_okq (⟨"CaravanRoad$Lodging", "isOpenTo", "(II)Z"⟩, 12) := ⟨⟨by decide +kernel, by decide +kernel⟩, List.mem_of_getElem? (i := 225) (by decide +kernel), List.mem_of_getElem? (i := 734) (by decide +kernel), List.mem_of_getElem? (i := 735) (by decide +kernel)⟩
theorem lw_p29 : lw_okq (⟨"CaravanRoad$Lodging", "keepTrial", "()V"⟩, 12) := ⟨⟨by decide +kernel, by decide +kernel⟩, List.mem_of_getElem? (i := 225) (by decide +kernel), List.mem_of_getElem? (i := 738) (by decide +kernel), List.mem_of_getElem? (i := 739) (by decide +kernel)⟩
theorem lw_p30 : lw_okq (⟨"CaravanRoadModel", "put", "(I)V"⟩, 80) := ⟨⟨by decide +kernel, by decide +kernel⟩, List.mem_of_getElem? (i := 807) (by decide +kernel), List.mem_of_getElem? (i := 1065) (by decide +kernel), List.mem_of_getElem? (i := 1066) (by decide +kernel)⟩
theorem lw_p31 : lw_okq (⟨"CaravanRoadModel", "cut", "()V"⟩, 80) := ⟨⟨by decide +kernel, by decide +kernel⟩, List.mem_of_getElem? (i := 807) (by decide +kernel), List.mem_of_getElem? (i := 1077) (by decide +kernel), List.mem_of_getElem? (i := 1078) (by decide +kernel)⟩
def lw_privs_2 : List (MethodName × Nat) := [(⟨"CaravanRoad$Reader", "takeOperator", "(I)V"⟩, 9), (⟨"CaravanRoad$Facts", "add", "(IIZ)I"⟩, 5), (⟨"CaravanRoad$Journey", "morning", "(LCaravanRoad$RuleBook;II)V"⟩, 14), (⟨"CaravanRoad$Journey", "wake", "(II)V"⟩, 14), (⟨"CaravanRoad$Journey", "goOn", "(LCaravanRoad$RuleBook;III)V"⟩, 14), (⟨"CaravanRoad$Journey", "setVars", "(III)V"⟩, 14), (⟨"CaravanRoad$RuleBook", "run", "(II[I)I"⟩, 9), (⟨"CaravanRoad$Journey", "pay", "(IIII)V"⟩, 14), (⟨"CaravanRoad$Journey", "evening", "(LCaravanRoad$RuleBook;I)V"⟩, 14), (⟨"CaravanRoad$Journey", "host", "(II)V"⟩, 14), (⟨"CaravanRoad$Lodging", "fitsAll", "(I)Z"⟩, 12), (⟨"CaravanRoad$Lodging", "fits", "(II)Z"⟩, 12), (⟨"CaravanRoad$Lodging", "isOpenTo", "(II)Z"⟩, 12), (⟨"CaravanRoad$Lodging", "keepTrial", "()V"⟩, 12), (⟨"CaravanRoadModel", "put", "(I)V"⟩, 80), (⟨"CaravanRoadModel", "cut", "()V"⟩, 80)]
theorem lw_r2 : ∀ q ∈ lw_privs_2, lw_okq q := List.forall_mem_cons.mpr ⟨lw_p16, List.forall_mem_cons.mpr ⟨lw_p17, List.forall_mem_cons.mpr ⟨lw_p18, List.forall_mem_cons.mpr ⟨lw_p19, List.forall_mem_cons.mpr ⟨lw_p20, List.forall_mem_cons.mpr ⟨lw_p21, List.forall_mem_cons.mpr ⟨lw_p22, List.forall_mem_cons.mpr ⟨lw_p23, List.forall_mem_cons.mpr ⟨lw_p24, List.forall_mem_cons.mpr ⟨lw_p25, List.forall_mem_cons.mpr ⟨lw_p26, List.forall_mem_cons.mpr ⟨lw_p27, List.forall_mem_cons.mpr ⟨lw_p28, List.forall_mem_cons.mpr ⟨lw_p29, List.forall_mem_cons.mpr ⟨lw_p30, List.forall_mem_cons.mpr ⟨lw_p31, fun _ h => absurd h List.not_mem_nil⟩⟩⟩⟩⟩⟩⟩⟩⟩⟩⟩⟩⟩⟩⟩⟩
theorem lw_p32 : lw_okq (⟨"CaravanRoadModel", "at", "(I)I"⟩, 80) := ⟨⟨by decide +kernel, by decide +kernel⟩, List.mem_of_getElem? (i := 807) (by decide +kernel), List.mem_of_getElem? (i := 1081) (by decide +kernel), List.mem_of_getElem? (i := 1082) (by decide +kernel)⟩
theorem lw_p33 : lw_okq (⟨"CaravanRoadModel", "token", "(IIIJ)V"⟩, 80) := ⟨⟨by decide +kernel, by decide +kernel⟩, List.mem_of_getElem? (i := 807) (by decide +kernel), List.mem_of_getElem? (i := 1085) (by decide +kernel), List.mem_of_getElem? (i := 1086) (by decide +kernel)⟩
theorem lw_p34 : lw_okq (⟨"CaravanRoadModel", "sign", "(III)I"⟩, 80) := ⟨⟨by decide +kernel, by decide +kernel⟩, List.mem_of_getElem? (i := 807) (by decide +kernel), List.mem_of_getElem? (i := 1095) (by decide +kernel), List.mem_of_getElem? (i := 1096) (by decide +kernel)⟩
theorem lw_p35 : lw_okq (⟨"CaravanRoadModel", "is", "(I)Z"⟩, 80) := ⟨⟨by decide +kernel, by decide +kernel⟩, List.mem_of_getElem? (i := 807) (by decide +kernel), List.mem_of_getElem? (i := 1099) (by decide +kernel), List.mem_of_getElem? (i := 1100) (by decide +kernel)⟩
theorem lw_p36 : lw_okq (⟨"CaravanRoadModel", "tellRule", "()V"⟩, 80) := ⟨⟨by decide +kernel, by decide +kernel⟩, List.mem_of_getElem? (i := 807) (by decide +kernel), List.mem_of_getElem? (i := 1103) (by decide +kernel), List.mem_of_getElem? (i := 1104) (by decide +kernel)⟩
theorem lw_p37 : lw_okq (⟨"CaravanRoadModel", "fail", "(I)V"⟩, 80) := ⟨⟨by decide +kernel, by decide +kernel⟩, List.mem_of_getElem? (i := 807) (by decide +kernel), List.mem_of_getElem? (i := 1107) (by decide +kernel), List.mem_of_getElem? (i := 1108) (by decide +kernel)⟩
theorem lw_p38 : lw_okq (⟨"CaravanRoadModel", "next", "()V"⟩, 80) := ⟨⟨by decide +kernel, by decide +kernel⟩, List.mem_of_getElem? (i := 807) (by decide +kernel), List.mem_of_getElem? (i := 1111) (by decide +kernel), List.mem_of_getElem? (i := 1112) (by decide +kernel)⟩
theorem lw_p39 : lw_okq (⟨"CaravanRoadModel", "must", "(I)V"⟩, 80) := ⟨⟨by decide +kernel, by decide +kernel⟩, List.mem_of_getElem? (i := 807) (by decide +kernel), List.mem_of_getElem? (i := 1115) (by decide +kernel), List.mem_of_getElem? (i := 1116) (by decide +kernel)⟩
theorem lw_p40 : lw_okq (⟨"CaravanRoadModel", "wrong", "(II)V"⟩, 80) := ⟨⟨by decide +kernel, by decide +kernel⟩, List.mem_of_getElem? (i := 807) (by decide +kernel), List.mem_of_getElem? (i := 1119) (by decide +kernel), List.mem_of_getElem? (i := 1120) (by decide +kernel)⟩
theorem lw_p41 : lw_okq (⟨"CaravanRoadModel", "expression", "()V"⟩, 80) := ⟨⟨by decide +kernel, by decide +kernel⟩, List.mem_of_getElem? (i := 807) (by decide +kernel), List.mem_of_getElem? (i := 1123) (by decide +kernel), List.mem_of_getElem? (i := 1124) (by decide +kernel)⟩
theorem lw_p42 : lw_okq (⟨"CaravanRoadModel", "emit", "(II)V"⟩, 80) := ⟨⟨by decide +kernel, by decide +kernel⟩, List.mem_of_getElem? (i := 807) (by decide +kernel), List.mem_of_getElem? (i := 1127) (by decide +kernel), List.mem_of_getElem? (i := 1128) (by decide +kernel)⟩
theorem lw_p43 : lw_okq (⟨"CaravanRoadModel", "comesOut", "(Z)V"⟩, 80) := ⟨⟨by decide +kernel, by decide +kernel⟩, List.mem_of_getElem? (i := 807) (by decide +kernel), List.mem_of_getElem? (i := 1131) (by decide +kernel), List.mem_of_getElem? (i := 1132) (by decide +kernel)⟩
theorem lw_p44 : lw_okq (⟨"CaravanRoadModel", "relation", "(Z)V"⟩, 80) := ⟨⟨by decide +kernel, by decide +kernel⟩, List.mem_of_getElem? (i := 807) (by decide +kernel), List.mem_of_getElem? (i := 1135) (by decide +kernel), List.mem_of_getElem? (i := 1136) (by decide +kernel)⟩
theorem lw_p45 : lw_okq (⟨"CaravanRoadModel", "isInn", "(I)Z"⟩, 80) := ⟨⟨by decide +kernel, by decide +kernel⟩, List.mem_of_getElem? (i := 807) (by decide +kernel), List.mem_of_getElem? (i := 1151) (by decide +kernel), List.mem_of_getElem? (i := 1152) (by decide +kernel)⟩
theorem lw_p46 : lw_okq (⟨"CaravanRoadModel", "isCaravan", "(I)Z"⟩, 80) := ⟨⟨by decide +kernel, by decide +kernel⟩, List.mem_of_getElem? (i := 807) (by decide +kernel), List.mem_of_getElem? (i := 1166) (by decide +kernel), List.mem_of_getElem? (i := 1167) (by decide +kernel)⟩
theorem lw_p47 : lw_okq (⟨"CaravanRoadModel", "fact", "(III)I"⟩, 80) := ⟨⟨by decide +kernel, by decide +kernel⟩, List.mem_of_getElem? (i := 807) (by decide +kernel), List.mem_of_getElem? (i := 1174) (by decide +kernel), List.mem_of_getElem? (i := 1175) (by decide +kernel)⟩
def lw_privs_3 : List (MethodName × Nat) := [(⟨"CaravanRoadModel", "at", "(I)I"⟩, 80), (⟨"CaravanRoadModel", "token", "(IIIJ)V"⟩, 80), (⟨"CaravanRoadModel", "sign", "(III)I"⟩, 80), (⟨"CaravanRoadModel", "is", "(I)Z"⟩, 80), (⟨"CaravanRoadModel", "tellRule", "()V"⟩, 80), (⟨"CaravanRoadModel", "fail", "(I)V"⟩, 80), (⟨"CaravanRoadModel", "next", "()V"⟩, 80), (⟨"CaravanRoadModel", "must", "(I)V"⟩, 80), (⟨"CaravanRoadModel", "wrong", "(II)V"⟩, 80), (⟨"CaravanRoadModel", "expression", "()V"⟩, 80), (⟨"CaravanRoadModel", "emit", "(II)V"⟩, 80), (⟨"CaravanRoadModel", "comesOut", "(Z)V"⟩, 80), (⟨"CaravanRoadModel", "relation", "(Z)V"⟩, 80), (⟨"CaravanRoadModel", "isInn", "(I)Z"⟩, 80), (⟨"CaravanRoadModel", "isCaravan", "(I)Z"⟩, 80), (⟨"CaravanRoadModel", "fact", "(III)I"⟩, 80)]
theorem lw_r3 : ∀ q ∈ lw_privs_3, lw_okq q := List.forall_mem_cons.mpr ⟨lw_p32, List.forall_mem_cons.mpr ⟨lw_p33, List.forall_mem_cons.mpr ⟨lw_p34, List.forall_mem_cons.mpr ⟨lw_p35, List.forall_mem_cons.mpr ⟨lw_p36, List.forall_mem_cons.mpr ⟨lw_p37, List.forall_mem_cons.mpr ⟨lw_p38, List.forall_mem_cons.mpr ⟨lw_p39, List.forall_mem_cons.mpr ⟨lw_p40, List.forall_mem_cons.mpr ⟨lw_p41, List.forall_mem_cons.mpr ⟨lw_p42, List.forall_mem_cons.mpr ⟨lw_p43, List.forall_mem_cons.mpr ⟨lw_p44, List.forall_mem_cons.mpr ⟨lw_p45, List.forall_mem_cons.mpr ⟨lw_p46, List.forall_mem_cons.mpr ⟨lw_p47, fun _ h => absurd h List.not_mem_nil⟩⟩⟩⟩⟩⟩⟩⟩⟩⟩⟩⟩⟩⟩⟩⟩
theorem lw_p48 : lw_okq (⟨"CaravanRoadModel", "isKnown", "(I)Z"⟩, 80) := ⟨⟨by decide +kernel, by decide +kernel⟩, List.mem_of_getElem? (i := 807) (by decide +kernel), List.mem_of_getElem? (i := 1186) (by decide +kernel), List.mem_of_getElem? (i := 1187) (by decide +kernel)⟩
theorem lw_p49 : lw_okq (⟨"CaravanRoadModel", "goes", "(I)V"⟩, 80) := ⟨⟨by decide +kernel, by decide +kernel⟩, List.mem_of_getElem? (i := 807) (by decide +kernel), List.mem_of_getElem? (i := 1191) (by decide +kernel), List.mem_of_getElem? (i := 1192) (by decide +kernel)⟩
theorem lw_p50 : lw_okq (⟨"CaravanRoadModel", "morning", "(II)V"⟩, 80) := ⟨⟨by decide +kernel, by decide +kernel⟩, List.mem_of_getElem? (i := 807) (by decide +kernel), List.mem_of_getElem? (i := 1195) (by decide +kernel), List.mem_of_getElem? (i := 1196) (by decide +kernel)⟩
theorem lw_p51 : lw_okq (⟨"CaravanRoadModel", "asks", "(III)V"⟩, 80) := ⟨⟨by decide +kernel, by decide +kernel⟩, List.mem_of_getElem? (i := 807) (by decide +kernel), List.mem_of_getElem? (i := 1199) (by decide +kernel), List.mem_of_getElem? (i := 1200) (by decide +kernel)⟩
theorem lw_p52 : lw_okq (⟨"CaravanRoadModel", "barOf", "(I)I"⟩, 80) := ⟨⟨by decide +kernel, by decide +kernel⟩, List.mem_of_getElem? (i := 807) (by decide +kernel), List.mem_of_getElem? (i := 1203) (by decide +kernel), List.mem_of_getElem? (i := 1204) (by decide +kernel)⟩
theorem lw_p53 : lw_okq (⟨"CaravanRoadModel", "holds", "(I)Z"⟩, 80) := ⟨⟨by decide +kernel, by decide +kernel⟩, List.mem_of_getElem? (i := 807) (by decide +kernel), List.mem_of_getElem? (i := 1207) (by decide +kernel), List.mem_of_getElem? (i := 1208) (by decide +kernel)⟩
theorem lw_p54 : lw_okq (⟨"CaravanRoadModel", "value", "(II)I"⟩, 80) := ⟨⟨by decide +kernel, by decide +kernel⟩, List.mem_of_getElem? (i := 807) (by decide +kernel), List.mem_of_getElem? (i := 1211) (by decide +kernel), List.mem_of_getElem? (i := 1212) (by decide +kernel)⟩
theorem lw_p55 : lw_okq (⟨"CaravanRoadModel", "says", "(II)I"⟩, 80) := ⟨⟨by decide +kernel, by decide +kernel⟩, List.mem_of_getElem? (i := 807) (by decide +kernel), List.mem_of_getElem? (i := 1215) (by decide +kernel), List.mem_of_getElem? (i := 1216) (by decide +kernel)⟩
theorem lw_p56 : lw_okq (⟨"CaravanRoadModel", "evening", "(II)V"⟩, 80) := ⟨⟨by decide +kernel, by decide +kernel⟩, List.mem_of_getElem? (i := 807) (by decide +kernel), List.mem_of_getElem? (i := 1219) (by decide +kernel), List.mem_of_getElem? (i := 1220) (by decide +kernel)⟩
theorem lw_p57 : lw_okq (⟨"CaravanRoadModel", "lays", "(II)V"⟩, 80) := ⟨⟨by decide +kernel, by decide +kernel⟩, List.mem_of_getElem? (i := 807) (by decide +kernel), List.mem_of_getElem? (i := 1223) (by decide +kernel), List.mem_of_getElem? (i := 1224) (by decide +kernel)⟩
theorem lw_p58 : lw_okq (⟨"CaravanRoadModel", "isWay", "(II)Z"⟩, 80) := ⟨⟨by decide +kernel, by decide +kernel⟩, List.mem_of_getElem? (i := 807) (by decide +kernel), List.mem_of_getElem? (i := 1227) (by decide +kernel), List.mem_of_getElem? (i := 1228) (by decide +kernel)⟩
theorem lw_p59 : lw_okq (⟨"CaravanRoadModel", "isAhead", "(II)Z"⟩, 80) := ⟨⟨by decide +kernel, by decide +kernel⟩, List.mem_of_getElem? (i := 807) (by decide +kernel), List.mem_of_getElem? (i := 1231) (by decide +kernel), List.mem_of_getElem? (i := 1232) (by decide +kernel)⟩
theorem lw_p60 : lw_okq (⟨"CaravanRoadModel", "isOutside", "(II)Z"⟩, 80) := ⟨⟨by decide +kernel, by decide +kernel⟩, List.mem_of_getElem? (i := 807) (by decide +kernel), List.mem_of_getElem? (i := 1235) (by decide +kernel), List.mem_of_getElem? (i := 1236) (by decide +kernel)⟩
def lw_privs_4 : List (MethodName × Nat) := [(⟨"CaravanRoadModel", "isKnown", "(I)Z"⟩, 80), (⟨"CaravanRoadModel", "goes", "(I)V"⟩, 80), (⟨"CaravanRoadModel", "morning", "(II)V"⟩, 80), (⟨"CaravanRoadModel", "asks", "(III)V"⟩, 80), (⟨"CaravanRoadModel", "barOf", "(I)I"⟩, 80), (⟨"CaravanRoadModel", "holds", "(I)Z"⟩, 80), (⟨"CaravanRoadModel", "value", "(II)I"⟩, 80), (⟨"CaravanRoadModel", "says", "(II)I"⟩, 80), (⟨"CaravanRoadModel", "evening", "(II)V"⟩, 80), (⟨"CaravanRoadModel", "lays", "(II)V"⟩, 80), (⟨"CaravanRoadModel", "isWay", "(II)Z"⟩, 80), (⟨"CaravanRoadModel", "isAhead", "(II)Z"⟩, 80), (⟨"CaravanRoadModel", "isOutside", "(II)Z"⟩, 80)]
theorem lw_r4 : ∀ q ∈ lw_privs_4, lw_okq q := List.forall_mem_cons.mpr ⟨lw_p48, List.forall_mem_cons.mpr ⟨lw_p49, List.forall_mem_cons.mpr ⟨lw_p50, List.forall_mem_cons.mpr ⟨lw_p51, List.forall_mem_cons.mpr ⟨lw_p52, List.forall_mem_cons.mpr ⟨lw_p53, List.forall_mem_cons.mpr ⟨lw_p54, List.forall_mem_cons.mpr ⟨lw_p55, List.forall_mem_cons.mpr ⟨lw_p56, List.forall_mem_cons.mpr ⟨lw_p57, List.forall_mem_cons.mpr ⟨lw_p58, List.forall_mem_cons.mpr ⟨lw_p59, List.forall_mem_cons.mpr ⟨lw_p60, fun _ h => absurd h List.not_mem_nil⟩⟩⟩⟩⟩⟩⟩⟩⟩⟩⟩⟩⟩
def lw_privs : List (MethodName × Nat) := lw_privs_1 ++ (lw_privs_2 ++ (lw_privs_3 ++ (lw_privs_4)))
def lw_tbl : List Cond := k2_sels lw_privs ++ tables_1
theorem lw_privs_ok : ∀ q ∈ lw_privs, lw_okq q := by
  show ∀ q ∈ lw_privs_1 ++ (lw_privs_2 ++ (lw_privs_3 ++ (lw_privs_4))), lw_okq q
  exact List.forall_mem_append.mpr ⟨lw_r1, List.forall_mem_append.mpr ⟨lw_r2, List.forall_mem_append.mpr ⟨lw_r3, lw_r4⟩⟩⟩
end
section
def RX0 : String := "CaravanRoad$Facts"
def TX0 : u_T := fun k => match k with
  | 0 => ("CaravanRoad$Facts", "size", "I", false)
  | 1 => ("CaravanRoad$Facts", "bale", "[I", true)
  | 2 => ("CaravanRoad$Facts", "day", "[I", true)
  | 3 => ("CaravanRoad$Facts", "whole", "[Z", true)
  | _ => ("CaravanRoad$Facts", "shutBy", "[[I", true)
def tyX0 : Nat → FieldType := fun k => match k with
  | 0 => .int
  | 1 => .array .int
  | 2 => .array .int
  | 3 => .array .boolean
  | _ => .array (.array .int)
abbrev wsX00 : List Cond := u_ws RX0 TX0 5
theorem nmX0 : ∀ a, a < 5 → ∀ b, b < 5 → a ≠ b → (TX0 a).2.1 ≠ (TX0 b).2.1 := by decide +kernel
theorem tyX0_ok : ∀ k, k < 5 → parseFieldDescriptor (TX0 k).2.2.1 = some (tyX0 k) := by decide +kernel
abbrev cX0_init : ByteArray := prog_2_method_1_code
def yX0_init : MethodName := ⟨RX0, "<init>", "()V"⟩
abbrev cX0_isKnown : ByteArray := prog_2_method_2_code
def yX0_isKnown : MethodName := ⟨RX0, "isKnown", "(I)Z"⟩
abbrev cX0_addShut : ByteArray := prog_2_method_3_code
def yX0_addShut : MethodName := ⟨RX0, "addShut", "(II)I"⟩
abbrev cX0_addLook : ByteArray := prog_2_method_4_code
def yX0_addLook : MethodName := ⟨RX0, "addLook", "(IIZ)I"⟩
abbrev cX0_add : ByteArray := prog_2_method_5_code
def yX0_add : MethodName := ⟨RX0, "add", "(IIZ)I"⟩
abbrev cX0_isShut : ByteArray := prog_2_method_6_code
def yX0_isShut : MethodName := ⟨RX0, "isShut", "(III)Z"⟩
abbrev cX0_shutsAmong : ByteArray := prog_2_method_7_code
def yX0_shutsAmong : MethodName := ⟨RX0, "shutsAmong", "(I)I"⟩
abbrev cX0_firstBroken : ByteArray := prog_2_method_8_code
def yX0_firstBroken : MethodName := ⟨RX0, "firstBroken", "(II)I"⟩
abbrev cX0_firstSuspectDay : ByteArray := prog_2_method_9_code
def yX0_firstSuspectDay : MethodName := ⟨RX0, "firstSuspectDay", "(III)I"⟩
def RX1 : String := "CaravanRoad$Journey"
def TX1 : u_T := fun k => match k with
  | 0 => ("CaravanRoad$Journey", "land", "LCaravanRoad$Land;", true)
  | 1 => ("CaravanRoad$Journey", "facts", "LCaravanRoad$Facts;", true)
  | 2 => ("CaravanRoad$Journey", "lodging", "LCaravanRoad$Lodging;", true)
  | 3 => ("CaravanRoad$Journey", "vars", "[I", true)
  | 4 => ("CaravanRoad$Journey", "innOf", "[[I", true)
  | 5 => ("CaravanRoad$Journey", "roomOf", "[[I", true)
  | 6 => ("CaravanRoad$Journey", "hungry", "[[I", true)
  | 7 => ("CaravanRoad$Journey", "late", "[[I", true)
  | 8 => ("CaravanRoad$Journey", "paid", "[[I", true)
  | 9 => ("CaravanRoad$Journey", "first", "[[I", true)
  | 10 => ("CaravanRoad$Journey", "barring", "[[I", true)
  | 11 => ("CaravanRoad$Journey", "left", "[[I", true)
  | 12 => ("CaravanRoad$Journey", "gets", "[[I", true)
  | _ => ("CaravanRoad$Journey", "walkedShuts", "I", false)
def tyX1 : Nat → FieldType := fun k => match k with
  | 0 => .object "CaravanRoad$Land"
  | 1 => .object "CaravanRoad$Facts"
  | 2 => .object "CaravanRoad$Lodging"
  | 3 => .array .int
  | 4 => .array (.array .int)
  | 5 => .array (.array .int)
  | 6 => .array (.array .int)
  | 7 => .array (.array .int)
  | 8 => .array (.array .int)
  | 9 => .array (.array .int)
  | 10 => .array (.array .int)
  | 11 => .array (.array .int)
  | 12 => .array (.array .int)
  | _ => .int
abbrev wsX10 : List Cond := u_ws RX1 TX1 14
theorem nmX1 : ∀ a, a < 14 → ∀ b, b < 14 → a ≠ b → (TX1 a).2.1 ≠ (TX1 b).2.1 := by decide +kernel
theorem tyX1_ok : ∀ k, k < 14 → parseFieldDescriptor (TX1 k).2.2.1 = some (tyX1 k) := by decide +kernel
abbrev cX1_init : ByteArray := prog_3_method_1_code
def yX1_init : MethodName := ⟨RX1, "<init>", "(LCaravanRoad$Land;LCaravanRoad$Facts;)V"⟩
abbrev cX1_forget : ByteArray := prog_3_method_2_code
def yX1_forget : MethodName := ⟨RX1, "forget", "()V"⟩
abbrev cX1_walk : ByteArray := prog_3_method_3_code
def yX1_walk : MethodName := ⟨RX1, "walk", "(LCaravanRoad$RuleBook;I)V"⟩
abbrev cX1_morning : ByteArray := prog_3_method_4_code
def yX1_morning : MethodName := ⟨RX1, "morning", "(LCaravanRoad$RuleBook;II)V"⟩
abbrev cX1_wake : ByteArray := prog_3_method_5_code
def yX1_wake : MethodName := ⟨RX1, "wake", "(II)V"⟩
abbrev cX1_goOn : ByteArray := prog_3_method_6_code
def yX1_goOn : MethodName := ⟨RX1, "goOn", "(LCaravanRoad$RuleBook;III)V"⟩
abbrev cX1_pay : ByteArray := prog_3_method_7_code
def yX1_pay : MethodName := ⟨RX1, "pay", "(IIII)V"⟩
abbrev cX1_setVars : ByteArray := prog_3_method_8_code
def yX1_setVars : MethodName := ⟨RX1, "setVars", "(III)V"⟩
abbrev cX1_evening : ByteArray := prog_3_method_9_code
def yX1_evening : MethodName := ⟨RX1, "evening", "(LCaravanRoad$RuleBook;I)V"⟩
abbrev cX1_host : ByteArray := prog_3_method_10_code
def yX1_host : MethodName := ⟨RX1, "host", "(II)V"⟩
abbrev cX1_isOutside : ByteArray := prog_3_method_11_code
def yX1_isOutside : MethodName := ⟨RX1, "isOutside", "(II)Z"⟩
abbrev cX1_guests : ByteArray := prog_3_method_12_code
def yX1_guests : MethodName := ⟨RX1, "guests", "(IIZ)I"⟩
abbrev cX1_beastsInStalls : ByteArray := prog_3_method_13_code
def yX1_beastsInStalls : MethodName := ⟨RX1, "beastsInStalls", "(II)I"⟩
abbrev cX1_guardsInRoom : ByteArray := prog_3_method_14_code
def yX1_guardsInRoom : MethodName := ⟨RX1, "guardsInRoom", "(III)I"⟩
abbrev cX1_companions : ByteArray := prog_3_method_15_code
def yX1_companions : MethodName := ⟨RX1, "companions", "(II)I"⟩
def RX2 : String := "CaravanRoad$Land"
def TX2 : u_T := fun k => match k with
  | 0 => ("CaravanRoad$Land", "inns", "I", false)
  | 1 => ("CaravanRoad$Land", "lord", "[I", true)
  | 2 => ("CaravanRoad$Land", "stalls", "[I", true)
  | 3 => ("CaravanRoad$Land", "fodder", "[I", true)
  | 4 => ("CaravanRoad$Land", "rooms", "[I", true)
  | 5 => ("CaravanRoad$Land", "size", "[[I", true)
  | 6 => ("CaravanRoad$Land", "caravans", "I", false)
  | 7 => ("CaravanRoad$Land", "kind", "[I", true)
  | 8 => ("CaravanRoad$Land", "beasts", "[I", true)
  | 9 => ("CaravanRoad$Land", "guards", "[I", true)
  | 10 => ("CaravanRoad$Land", "from", "[I", true)
  | 11 => ("CaravanRoad$Land", "to", "[I", true)
  | 12 => ("CaravanRoad$Land", "begins", "[I", true)
  | 13 => ("CaravanRoad$Land", "load", "[I", true)
  | 14 => ("CaravanRoad$Land", "bales", "I", false)
  | _ => ("CaravanRoad$Land", "owner", "[I", true)
def tyX2 : Nat → FieldType := fun k => match k with
  | 0 => .int
  | 1 => .array .int
  | 2 => .array .int
  | 3 => .array .int
  | 4 => .array .int
  | 5 => .array (.array .int)
  | 6 => .int
  | 7 => .array .int
  | 8 => .array .int
  | 9 => .array .int
  | 10 => .array .int
  | 11 => .array .int
  | 12 => .array .int
  | 13 => .array .int
  | 14 => .int
  | _ => .array .int
abbrev wsX20 : List Cond := u_ws RX2 TX2 16
theorem nmX2 : ∀ a, a < 16 → ∀ b, b < 16 → a ≠ b → (TX2 a).2.1 ≠ (TX2 b).2.1 := by decide +kernel
theorem tyX2_ok : ∀ k, k < 16 → parseFieldDescriptor (TX2 k).2.2.1 = some (tyX2 k) := by decide +kernel
abbrev cX2_init : ByteArray := prog_4_method_1_code
def yX2_init : MethodName := ⟨RX2, "<init>", "()V"⟩
abbrev cX2_hasInn : ByteArray := prog_4_method_2_code
def yX2_hasInn : MethodName := ⟨RX2, "hasInn", "(I)Z"⟩
abbrev cX2_hasCaravan : ByteArray := prog_4_method_3_code
def yX2_hasCaravan : MethodName := ⟨RX2, "hasCaravan", "(I)Z"⟩
abbrev cX2_hasBale : ByteArray := prog_4_method_4_code
def yX2_hasBale : MethodName := ⟨RX2, "hasBale", "(I)Z"⟩
def RX3 : String := "CaravanRoad$Lodging"
def TX3 : u_T := fun k => match k with
  | 0 => ("CaravanRoad$Lodging", "land", "LCaravanRoad$Land;", true)
  | 1 => ("CaravanRoad$Lodging", "inn", "I", false)
  | 2 => ("CaravanRoad$Lodging", "guests", "I", false)
  | 3 => ("CaravanRoad$Lodging", "guest", "[I", true)
  | 4 => ("CaravanRoad$Lodging", "rank", "[I", true)
  | 5 => ("CaravanRoad$Lodging", "roomOf", "[I", true)
  | 6 => ("CaravanRoad$Lodging", "lodged", "I", false)
  | 7 => ("CaravanRoad$Lodging", "lodger", "[I", true)
  | 8 => ("CaravanRoad$Lodging", "trial", "[I", true)
  | 9 => ("CaravanRoad$Lodging", "parties", "[I", true)
  | 10 => ("CaravanRoad$Lodging", "guards", "[I", true)
  | _ => ("CaravanRoad$Lodging", "kind", "[I", true)
def tyX3 : Nat → FieldType := fun k => match k with
  | 0 => .object "CaravanRoad$Land"
  | 1 => .int
  | 2 => .int
  | 3 => .array .int
  | 4 => .array .int
  | 5 => .array .int
  | 6 => .int
  | 7 => .array .int
  | 8 => .array .int
  | 9 => .array .int
  | 10 => .array .int
  | _ => .array .int
abbrev wsX30 : List Cond := u_ws RX3 TX3 12
theorem nmX3 : ∀ a, a < 12 → ∀ b, b < 12 → a ≠ b → (TX3 a).2.1 ≠ (TX3 b).2.1 := by decide +kernel
theorem tyX3_ok : ∀ k, k < 12 → parseFieldDescriptor (TX3 k).2.2.1 = some (tyX3 k) := by decide +kernel
abbrev cX3_init : ByteArray := prog_5_method_1_code
def yX3_init : MethodName := ⟨RX3, "<init>", "(LCaravanRoad$Land;)V"⟩
abbrev cX3_open : ByteArray := prog_5_method_2_code
def yX3_open : MethodName := ⟨RX3, "open", "(I)V"⟩
abbrev cX3_admit : ByteArray := prog_5_method_3_code
def yX3_admit : MethodName := ⟨RX3, "admit", "(II)V"⟩
abbrev cX3_lay : ByteArray := prog_5_method_4_code
def yX3_lay : MethodName := ⟨RX3, "lay", "()V"⟩
abbrev cX3_keepTrial : ByteArray := prog_5_method_5_code
def yX3_keepTrial : MethodName := ⟨RX3, "keepTrial", "()V"⟩
abbrev cX3_fitsAll : ByteArray := prog_5_method_6_code
def yX3_fitsAll : MethodName := ⟨RX3, "fitsAll", "(I)Z"⟩
abbrev cX3_fits : ByteArray := prog_5_method_7_code
def yX3_fits : MethodName := ⟨RX3, "fits", "(II)Z"⟩
abbrev cX3_isOpenTo : ByteArray := prog_5_method_8_code
def yX3_isOpenTo : MethodName := ⟨RX3, "isOpenTo", "(II)Z"⟩
def RX4 : String := "CaravanRoad$Reader"
def TX4 : u_T := fun k => match k with
  | 0 => ("CaravanRoad$Reader", "scanner", "LCaravanRoad$Scanner;", true)
  | 1 => ("CaravanRoad$Reader", "waiting", "[I", true)
  | 2 => ("CaravanRoad$Reader", "waits", "I", false)
  | 3 => ("CaravanRoad$Reader", "awaited", "I", false)
  | 4 => ("CaravanRoad$Reader", "part", "I", false)
  | 5 => ("CaravanRoad$Reader", "depth", "I", false)
  | 6 => ("CaravanRoad$Reader", "fault", "I", false)
  | 7 => ("CaravanRoad$Reader", "faultPlace", "I", false)
  | _ => ("CaravanRoad$Reader", "wrongPlace", "I", false)
def tyX4 : Nat → FieldType := fun k => match k with
  | 0 => .object "CaravanRoad$Scanner"
  | 1 => .array .int
  | 2 => .int
  | 3 => .int
  | 4 => .int
  | 5 => .int
  | 6 => .int
  | 7 => .int
  | _ => .int
abbrev wsX40 : List Cond := u_ws RX4 TX4 9
theorem nmX4 : ∀ a, a < 9 → ∀ b, b < 9 → a ≠ b → (TX4 a).2.1 ≠ (TX4 b).2.1 := by decide +kernel
theorem tyX4_ok : ∀ k, k < 9 → parseFieldDescriptor (TX4 k).2.2.1 = some (tyX4 k) := by decide +kernel
abbrev cX4_init : ByteArray := prog_6_method_1_code
def yX4_init : MethodName := ⟨RX4, "<init>", "(LCaravanRoad$Tape;)V"⟩
abbrev cX4_parse : ByteArray := prog_6_method_2_code
def yX4_parse : MethodName := ⟨RX4, "parse", "(LCaravanRoad$RuleBook;)I"⟩
abbrev cX4_begin : ByteArray := prog_6_method_3_code
def yX4_begin : MethodName := ⟨RX4, "begin", "(LCaravanRoad$RuleBook;)V"⟩
abbrev cX4_blame : ByteArray := prog_6_method_4_code
def yX4_blame : MethodName := ⟨RX4, "blame", "(II)V"⟩
abbrev cX4_mayFollow : ByteArray := prog_6_method_5_code
def yX4_mayFollow : MethodName := ⟨RX4, "mayFollow", "(I)Z"⟩
abbrev cX4_mayFollowUnit : ByteArray := prog_6_method_6_code
def yX4_mayFollowUnit : MethodName := ⟨RX4, "mayFollowUnit", "(I)Z"⟩
abbrev cX4_isTooMuch : ByteArray := prog_6_method_7_code
def yX4_isTooMuch : MethodName := ⟨RX4, "isTooMuch", "(LCaravanRoad$RuleBook;)Z"⟩
abbrev cX4_take : ByteArray := prog_6_method_8_code
def yX4_take : MethodName := ⟨RX4, "take", "(LCaravanRoad$RuleBook;)V"⟩
abbrev cX4_takeLord : ByteArray := prog_6_method_9_code
def yX4_takeLord : MethodName := ⟨RX4, "takeLord", "(LCaravanRoad$RuleBook;)V"⟩
abbrev cX4_takeIf : ByteArray := prog_6_method_10_code
def yX4_takeIf : MethodName := ⟨RX4, "takeIf", "(LCaravanRoad$RuleBook;)V"⟩
abbrev cX4_takeUnit : ByteArray := prog_6_method_11_code
def yX4_takeUnit : MethodName := ⟨RX4, "takeUnit", "(LCaravanRoad$RuleBook;)V"⟩
abbrev cX4_takeBehindUnit : ByteArray := prog_6_method_12_code
def yX4_takeBehindUnit : MethodName := ⟨RX4, "takeBehindUnit", "(LCaravanRoad$RuleBook;)V"⟩
abbrev cX4_takeOperator : ByteArray := prog_6_method_13_code
def yX4_takeOperator : MethodName := ⟨RX4, "takeOperator", "(I)V"⟩
abbrev cX4_hold : ByteArray := prog_6_method_14_code
def yX4_hold : MethodName := ⟨RX4, "hold", "(I)V"⟩
abbrev cX4_release : ByteArray := prog_6_method_15_code
def yX4_release : MethodName := ⟨RX4, "release", "(LCaravanRoad$RuleBook;I)V"⟩
abbrev cX4_rank : ByteArray := prog_6_method_16_code
def yX4_rank : MethodName := ⟨RX4, "rank", "(I)I"⟩
def RX5 : String := "CaravanRoad$RuleBook"
def TX5 : u_T := fun k => match k with
  | 0 => ("CaravanRoad$RuleBook", "sort", "[I", true)
  | 1 => ("CaravanRoad$RuleBook", "lord", "[I", true)
  | 2 => ("CaravanRoad$RuleBook", "valueAt", "[I", true)
  | 3 => ("CaravanRoad$RuleBook", "conditionAt", "[I", true)
  | 4 => ("CaravanRoad$RuleBook", "endAt", "[I", true)
  | 5 => ("CaravanRoad$RuleBook", "code", "[I", true)
  | 6 => ("CaravanRoad$RuleBook", "stack", "[I", true)
  | 7 => ("CaravanRoad$RuleBook", "size", "I", false)
  | _ => ("CaravanRoad$RuleBook", "length", "I", false)
def tyX5 : Nat → FieldType := fun k => match k with
  | 0 => .array .int
  | 1 => .array .int
  | 2 => .array .int
  | 3 => .array .int
  | 4 => .array .int
  | 5 => .array .int
  | 6 => .array .int
  | 7 => .int
  | _ => .int
abbrev wsX50 : List Cond := u_ws RX5 TX5 9
theorem nmX5 : ∀ a, a < 9 → ∀ b, b < 9 → a ≠ b → (TX5 a).2.1 ≠ (TX5 b).2.1 := by decide +kernel
theorem tyX5_ok : ∀ k, k < 9 → parseFieldDescriptor (TX5 k).2.2.1 = some (tyX5 k) := by decide +kernel
abbrev cX5_init : ByteArray := prog_7_method_1_code
def yX5_init : MethodName := ⟨RX5, "<init>", "()V"⟩
abbrev cX5_clear : ByteArray := prog_7_method_2_code
def yX5_clear : MethodName := ⟨RX5, "clear", "()V"⟩
abbrev cX5_beginRule : ByteArray := prog_7_method_3_code
def yX5_beginRule : MethodName := ⟨RX5, "beginRule", "(I)V"⟩
abbrev cX5_setLord : ByteArray := prog_7_method_4_code
def yX5_setLord : MethodName := ⟨RX5, "setLord", "(I)V"⟩
abbrev cX5_isInBar : ByteArray := prog_7_method_5_code
def yX5_isInBar : MethodName := ⟨RX5, "isInBar", "()Z"⟩
abbrev cX5_beginCondition : ByteArray := prog_7_method_6_code
def yX5_beginCondition : MethodName := ⟨RX5, "beginCondition", "()V"⟩
abbrev cX5_endRule : ByteArray := prog_7_method_7_code
def yX5_endRule : MethodName := ⟨RX5, "endRule", "()V"⟩
abbrev cX5_write : ByteArray := prog_7_method_8_code
def yX5_write : MethodName := ⟨RX5, "write", "(I)V"⟩
abbrev cX5_firstThatHolds : ByteArray := prog_7_method_9_code
def yX5_firstThatHolds : MethodName := ⟨RX5, "firstThatHolds", "(II[I)I"⟩
abbrev cX5_value : ByteArray := prog_7_method_10_code
def yX5_value : MethodName := ⟨RX5, "value", "(II[I)I"⟩
abbrev cX5_run : ByteArray := prog_7_method_11_code
def yX5_run : MethodName := ⟨RX5, "run", "(II[I)I"⟩
abbrev cX5_apply : ByteArray := prog_7_method_12_code
def yX5_apply : MethodName := ⟨RX5, "apply", "(III)I"⟩
def RX6 : String := "CaravanRoad$Scanner"
def TX6 : u_T := fun k => match k with
  | 0 => ("CaravanRoad$Scanner", "tape", "LCaravanRoad$Tape;", true)
  | 1 => ("CaravanRoad$Scanner", "next", "I", false)
  | 2 => ("CaravanRoad$Scanner", "start", "I", false)
  | 3 => ("CaravanRoad$Scanner", "token", "I", false)
  | _ => ("CaravanRoad$Scanner", "value", "I", false)
def tyX6 : Nat → FieldType := fun k => match k with
  | 0 => .object "CaravanRoad$Tape"
  | 1 => .int
  | 2 => .int
  | 3 => .int
  | _ => .int
abbrev wsX60 : List Cond := u_ws RX6 TX6 5
theorem nmX6 : ∀ a, a < 5 → ∀ b, b < 5 → a ≠ b → (TX6 a).2.1 ≠ (TX6 b).2.1 := by decide +kernel
theorem tyX6_ok : ∀ k, k < 5 → parseFieldDescriptor (TX6 k).2.2.1 = some (tyX6 k) := by decide +kernel
abbrev cX6_init : ByteArray := prog_8_method_1_code
def yX6_init : MethodName := ⟨RX6, "<init>", "(LCaravanRoad$Tape;)V"⟩
abbrev cX6_rewind : ByteArray := prog_8_method_2_code
def yX6_rewind : MethodName := ⟨RX6, "rewind", "()V"⟩
abbrev cX6_advance : ByteArray := prog_8_method_3_code
def yX6_advance : MethodName := ⟨RX6, "advance", "()V"⟩
abbrev cX6_takeWord : ByteArray := prog_8_method_4_code
def yX6_takeWord : MethodName := ⟨RX6, "takeWord", "()V"⟩
abbrev cX6_takeInt : ByteArray := prog_8_method_5_code
def yX6_takeInt : MethodName := ⟨RX6, "takeInt", "()V"⟩
abbrev cX6_takeSign : ByteArray := prog_8_method_6_code
def yX6_takeSign : MethodName := ⟨RX6, "takeSign", "(I)V"⟩
abbrev cX6_isBlank : ByteArray := prog_8_method_7_code
def yX6_isBlank : MethodName := ⟨RX6, "isBlank", "(I)Z"⟩
abbrev cX6_pairToken : ByteArray := prog_8_method_8_code
def yX6_pairToken : MethodName := ⟨RX6, "pairToken", "(I)I"⟩
abbrev cX6_signToken : ByteArray := prog_8_method_9_code
def yX6_signToken : MethodName := ⟨RX6, "signToken", "(I)I"⟩
abbrev cX6_wordToken : ByteArray := prog_8_method_10_code
def yX6_wordToken : MethodName := ⟨RX6, "wordToken", "()I"⟩
def RX7 : String := "CaravanRoad$Tape"
def TX7 : u_T := fun k => match k with
  | 0 => ("CaravanRoad$Tape", "bytes", "[B", true)
  | _ => ("CaravanRoad$Tape", "length", "I", false)
def tyX7 : Nat → FieldType := fun k => match k with
  | 0 => .array .byte
  | _ => .int
abbrev wsX70 : List Cond := u_ws RX7 TX7 2
theorem nmX7 : ∀ a, a < 2 → ∀ b, b < 2 → a ≠ b → (TX7 a).2.1 ≠ (TX7 b).2.1 := by decide +kernel
theorem tyX7_ok : ∀ k, k < 2 → parseFieldDescriptor (TX7 k).2.2.1 = some (tyX7 k) := by decide +kernel
abbrev cX7_init : ByteArray := prog_9_method_1_code
def yX7_init : MethodName := ⟨RX7, "<init>", "()V"⟩
abbrev cX7_append : ByteArray := prog_9_method_2_code
def yX7_append : MethodName := ⟨RX7, "append", "(I)V"⟩
abbrev cX7_at : ByteArray := prog_9_method_3_code
def yX7_at : MethodName := ⟨RX7, "at", "(I)I"⟩
def RX8 : String := "CaravanRoad"
def TX8 : u_T := fun k => match k with
  | 0 => ("CaravanRoad", "tape", "LCaravanRoad$Tape;", true)
  | 1 => ("CaravanRoad", "reader", "LCaravanRoad$Reader;", true)
  | 2 => ("CaravanRoad", "land", "LCaravanRoad$Land;", true)
  | 3 => ("CaravanRoad", "facts", "LCaravanRoad$Facts;", true)
  | 4 => ("CaravanRoad", "journey", "LCaravanRoad$Journey;", true)
  | 5 => ("CaravanRoad", "book", "LCaravanRoad$RuleBook;", false)
  | _ => ("CaravanRoad", "draft", "LCaravanRoad$RuleBook;", false)
def tyX8 : Nat → FieldType := fun k => match k with
  | 0 => .object "CaravanRoad$Tape"
  | 1 => .object "CaravanRoad$Reader"
  | 2 => .object "CaravanRoad$Land"
  | 3 => .object "CaravanRoad$Facts"
  | 4 => .object "CaravanRoad$Journey"
  | 5 => .object "CaravanRoad$RuleBook"
  | _ => .object "CaravanRoad$RuleBook"
abbrev wsX80 : List Cond := u_ws RX8 TX8 7
theorem nmX8 : ∀ a, a < 7 → ∀ b, b < 7 → a ≠ b → (TX8 a).2.1 ≠ (TX8 b).2.1 := by decide +kernel
theorem tyX8_ok : ∀ k, k < 7 → parseFieldDescriptor (TX8 k).2.2.1 = some (tyX8 k) := by decide +kernel
abbrev cX8_init : ByteArray := prog_1_method_1_code
def yX8_init : MethodName := ⟨RX8, "<init>", "()V"⟩
abbrev cX8_feed : ByteArray := prog_1_method_2_code
def yX8_feed : MethodName := ⟨RX8, "feed", "(IIIII)I"⟩
abbrev cX8_back : ByteArray := prog_1_method_3_code
def yX8_back : MethodName := ⟨RX8, "back", "(I)I"⟩
abbrev cX8_read : ByteArray := prog_1_method_4_code
def yX8_read : MethodName := ⟨RX8, "read", "()I"⟩
abbrev cX8_place : ByteArray := prog_1_method_5_code
def yX8_place : MethodName := ⟨RX8, "place", "()I"⟩
abbrev cX8_inn : ByteArray := prog_1_method_6_code
def yX8_inn : MethodName := ⟨RX8, "inn", "(III)I"⟩
abbrev cX8_room : ByteArray := prog_1_method_7_code
def yX8_room : MethodName := ⟨RX8, "room", "(II)I"⟩
abbrev cX8_caravan : ByteArray := prog_1_method_8_code
def yX8_caravan : MethodName := ⟨RX8, "caravan", "(IIIIII)I"⟩
abbrev cX8_bale : ByteArray := prog_1_method_9_code
def yX8_bale : MethodName := ⟨RX8, "bale", "(I)I"⟩
abbrev cX8_shut : ByteArray := prog_1_method_10_code
def yX8_shut : MethodName := ⟨RX8, "shut", "(II)I"⟩
abbrev cX8_look : ByteArray := prog_1_method_11_code
def yX8_look : MethodName := ⟨RX8, "look", "(IIZ)I"⟩
abbrev cX8_state : ByteArray := prog_1_method_12_code
def yX8_state : MethodName := ⟨RX8, "state", "(IIII)I"⟩
abbrev cX8_house : ByteArray := prog_1_method_13_code
def yX8_house : MethodName := ⟨RX8, "house", "(IIII)I"⟩
abbrev cX8_full : ByteArray := prog_1_method_14_code
def yX8_full : MethodName := ⟨RX8, "full", "(IIII)I"⟩
abbrev cX8_comes : ByteArray := prog_1_method_15_code
def yX8_comes : MethodName := ⟨RX8, "comes", "(II)I"⟩
abbrev cX8_barred : ByteArray := prog_1_method_16_code
def yX8_barred : MethodName := ⟨RX8, "barred", "(III)I"⟩
abbrev cX8_could : ByteArray := prog_1_method_17_code
def yX8_could : MethodName := ⟨RX8, "could", "(II)I"⟩
abbrev cX8_sealed : ByteArray := prog_1_method_18_code
def yX8_sealed : MethodName := ⟨RX8, "sealed", "(III)I"⟩
abbrev cX8_tolls : ByteArray := prog_1_method_19_code
def yX8_tolls : MethodName := ⟨RX8, "tolls", "(III)I"⟩
abbrev cX8_crowded : ByteArray := prog_1_method_20_code
def yX8_crowded : MethodName := ⟨RX8, "crowded", "(III)I"⟩
abbrev cX8_count : ByteArray := prog_1_method_21_code
def yX8_count : MethodName := ⟨RX8, "count", "(I)I"⟩
abbrev cX8_isWithin : ByteArray := prog_1_method_22_code
def yX8_isWithin : MethodName := ⟨RX8, "isWithin", "(III)Z"⟩
abbrev cX8_isDay : ByteArray := prog_1_method_23_code
def yX8_isDay : MethodName := ⟨RX8, "isDay", "(I)Z"⟩
abbrev cX8_isLord : ByteArray := prog_1_method_24_code
def yX8_isLord : MethodName := ⟨RX8, "isLord", "(I)Z"⟩
def RX9 : String := "CaravanRoadModel"
def TX9 : u_T := fun k => match k with
  | 0 => ("CaravanRoadModel", "thrown", "I", false)
  | 1 => ("CaravanRoadModel", "tape", "[B", true)
  | 2 => ("CaravanRoadModel", "taped", "I", false)
  | 3 => ("CaravanRoadModel", "text", "[B", true)
  | 4 => ("CaravanRoadModel", "size", "I", false)
  | 5 => ("CaravanRoadModel", "tKind", "[I", true)
  | 6 => ("CaravanRoadModel", "tPlace", "[I", true)
  | 7 => ("CaravanRoadModel", "tValue", "[I", true)
  | 8 => ("CaravanRoadModel", "tName", "[J", true)
  | 9 => ("CaravanRoadModel", "keys", "[J", true)
  | 10 => ("CaravanRoadModel", "tokens", "I", false)
  | 11 => ("CaravanRoadModel", "t", "I", false)
  | 12 => ("CaravanRoadModel", "open", "I", false)
  | 13 => ("CaravanRoadModel", "fault", "I", false)
  | 14 => ("CaravanRoadModel", "faultPlace", "I", false)
  | 15 => ("CaravanRoadModel", "worst", "I", false)
  | 16 => ("CaravanRoadModel", "worstPlace", "I", false)
  | 17 => ("CaravanRoadModel", "place", "I", false)
  | 18 => ("CaravanRoadModel", "live", "I", false)
  | 19 => ("CaravanRoadModel", "side", "I", false)
  | 20 => ("CaravanRoadModel", "rules", "[I", true)
  | 21 => ("CaravanRoadModel", "ruleSort", "[I", true)
  | 22 => ("CaravanRoadModel", "ruleLord", "[I", true)
  | 23 => ("CaravanRoadModel", "ruleFrom", "[I", true)
  | 24 => ("CaravanRoadModel", "ruleTo", "[I", true)
  | 25 => ("CaravanRoadModel", "relFirst", "[I", true)
  | 26 => ("CaravanRoadModel", "relLast", "[I", true)
  | 27 => ("CaravanRoadModel", "relations", "[I", true)
  | 28 => ("CaravanRoadModel", "relSort", "[I", true)
  | 29 => ("CaravanRoadModel", "relLeft", "[I", true)
  | 30 => ("CaravanRoadModel", "relRight", "[I", true)
  | 31 => ("CaravanRoadModel", "relEnd", "[I", true)
  | 32 => ("CaravanRoadModel", "relOr", "[Z", true)
  | 33 => ("CaravanRoadModel", "codes", "I", false)
  | 34 => ("CaravanRoadModel", "code", "[I", true)
  | 35 => ("CaravanRoadModel", "codeInt", "[I", true)
  | 36 => ("CaravanRoadModel", "waits", "[I", true)
  | 37 => ("CaravanRoadModel", "waiting", "I", false)
  | 38 => ("CaravanRoadModel", "inns", "I", false)
  | 39 => ("CaravanRoadModel", "lord", "[I", true)
  | 40 => ("CaravanRoadModel", "stalls", "[I", true)
  | 41 => ("CaravanRoadModel", "fodder", "[I", true)
  | 42 => ("CaravanRoadModel", "rooms", "[I", true)
  | 43 => ("CaravanRoadModel", "roomSize", "[I", true)
  | 44 => ("CaravanRoadModel", "caravans", "I", false)
  | 45 => ("CaravanRoadModel", "kind", "[I", true)
  | 46 => ("CaravanRoadModel", "beasts", "[I", true)
  | 47 => ("CaravanRoadModel", "guards", "[I", true)
  | 48 => ("CaravanRoadModel", "begins", "[I", true)
  | 49 => ("CaravanRoadModel", "goal", "[I", true)
  | 50 => ("CaravanRoadModel", "beginDay", "[I", true)
  | 51 => ("CaravanRoadModel", "loads", "[I", true)
  | 52 => ("CaravanRoadModel", "bales", "I", false)
  | 53 => ("CaravanRoadModel", "baleOf", "[I", true)
  | 54 => ("CaravanRoadModel", "facts", "I", false)
  | 55 => ("CaravanRoadModel", "factSort", "[I", true)
  | 56 => ("CaravanRoadModel", "factOf", "[I", true)
  | 57 => ("CaravanRoadModel", "factDay", "[I", true)
  | 58 => ("CaravanRoadModel", "gone", "I", false)
  | 59 => ("CaravanRoadModel", "at", "[I", true)
  | 60 => ("CaravanRoadModel", "inRoom", "[I", true)
  | 61 => ("CaravanRoadModel", "hungry", "[I", true)
  | 62 => ("CaravanRoadModel", "late", "[I", true)
  | 63 => ("CaravanRoadModel", "paid", "[I", true)
  | 64 => ("CaravanRoadModel", "firsts", "[I", true)
  | 65 => ("CaravanRoadModel", "barredBy", "[I", true)
  | 66 => ("CaravanRoadModel", "left", "[I", true)
  | 67 => ("CaravanRoadModel", "lordGot", "[I", true)
  | 68 => ("CaravanRoadModel", "isShut", "[Z", true)
  | 69 => ("CaravanRoadModel", "here", "[I", true)
  | 70 => ("CaravanRoadModel", "isHungry", "[I", true)
  | 71 => ("CaravanRoadModel", "isLate", "[I", true)
  | 72 => ("CaravanRoadModel", "hasPaid", "[I", true)
  | 73 => ("CaravanRoadModel", "got", "[I", true)
  | 74 => ("CaravanRoadModel", "variables", "[I", true)
  | 75 => ("CaravanRoadModel", "pile", "[I", true)
  | 76 => ("CaravanRoadModel", "order", "[I", true)
  | 77 => ("CaravanRoadModel", "lies", "[I", true)
  | 78 => ("CaravanRoadModel", "best", "[I", true)
  | _ => ("CaravanRoadModel", "claim", "[I", true)
def tyX9 : Nat → FieldType := fun k => match k with
  | 0 => .int
  | 1 => .array .byte
  | 2 => .int
  | 3 => .array .byte
  | 4 => .int
  | 5 => .array .int
  | 6 => .array .int
  | 7 => .array .int
  | 8 => .array .long
  | 9 => .array .long
  | 10 => .int
  | 11 => .int
  | 12 => .int
  | 13 => .int
  | 14 => .int
  | 15 => .int
  | 16 => .int
  | 17 => .int
  | 18 => .int
  | 19 => .int
  | 20 => .array .int
  | 21 => .array .int
  | 22 => .array .int
  | 23 => .array .int
  | 24 => .array .int
  | 25 => .array .int
  | 26 => .array .int
  | 27 => .array .int
  | 28 => .array .int
  | 29 => .array .int
  | 30 => .array .int
  | 31 => .array .int
  | 32 => .array .boolean
  | 33 => .int
  | 34 => .array .int
  | 35 => .array .int
  | 36 => .array .int
  | 37 => .int
  | 38 => .int
  | 39 => .array .int
  | 40 => .array .int
  | 41 => .array .int
  | 42 => .array .int
  | 43 => .array .int
  | 44 => .int
  | 45 => .array .int
  | 46 => .array .int
  | 47 => .array .int
  | 48 => .array .int
  | 49 => .array .int
  | 50 => .array .int
  | 51 => .array .int
  | 52 => .int
  | 53 => .array .int
  | 54 => .int
  | 55 => .array .int
  | 56 => .array .int
  | 57 => .array .int
  | 58 => .int
  | 59 => .array .int
  | 60 => .array .int
  | 61 => .array .int
  | 62 => .array .int
  | 63 => .array .int
  | 64 => .array .int
  | 65 => .array .int
  | 66 => .array .int
  | 67 => .array .int
  | 68 => .array .boolean
  | 69 => .array .int
  | 70 => .array .int
  | 71 => .array .int
  | 72 => .array .int
  | 73 => .array .int
  | 74 => .array .int
  | 75 => .array .int
  | 76 => .array .int
  | 77 => .array .int
  | 78 => .array .int
  | _ => .array .int
abbrev wsX90 : List Cond := u_ws RX9 TX9 80
theorem nmX9 : ∀ a, a < 80 → ∀ b, b < 80 → a ≠ b → (TX9 a).2.1 ≠ (TX9 b).2.1 := by decide +kernel
theorem tyX9_ok : ∀ k, k < 80 → parseFieldDescriptor (TX9 k).2.2.1 = some (tyX9 k) := by decide +kernel
abbrev cX9_init : ByteArray := prog_11_method_2_code
def yX9_init : MethodName := ⟨RX9, "<init>", "()V"⟩
abbrev cX9_feed : ByteArray := prog_11_method_3_code
def yX9_feed : MethodName := ⟨RX9, "feed", "(IIIII)I"⟩
abbrev cX9_put : ByteArray := prog_11_method_4_code
def yX9_put : MethodName := ⟨RX9, "put", "(I)V"⟩
abbrev cX9_back : ByteArray := prog_11_method_5_code
def yX9_back : MethodName := ⟨RX9, "back", "(I)I"⟩
abbrev cX9_at : ByteArray := prog_11_method_6_code
def yX9_at : MethodName := ⟨RX9, "at", "(I)I"⟩
abbrev cX9_isDigit : ByteArray := prog_11_method_7_code
def yX9_isDigit : MethodName := ⟨RX9, "isDigit", "(I)Z"⟩
abbrev cX9_isLetter : ByteArray := prog_11_method_8_code
def yX9_isLetter : MethodName := ⟨RX9, "isLetter", "(I)Z"⟩
abbrev cX9_more : ByteArray := prog_11_method_9_code
def yX9_more : MethodName := ⟨RX9, "more", "(JI)J"⟩
abbrev cX9_word : ByteArray := prog_11_method_10_code
def yX9_word : MethodName := ⟨RX9, "word", "(IIIIIII)J"⟩
abbrev cX9_token : ByteArray := prog_11_method_11_code
def yX9_token : MethodName := ⟨RX9, "token", "(IIIJ)V"⟩
abbrev cX9_cut : ByteArray := prog_11_method_12_code
def yX9_cut : MethodName := ⟨RX9, "cut", "()V"⟩
abbrev cX9_sign : ByteArray := prog_11_method_13_code
def yX9_sign : MethodName := ⟨RX9, "sign", "(III)I"⟩
abbrev cX9_is : ByteArray := prog_11_method_14_code
def yX9_is : MethodName := ⟨RX9, "is", "(I)Z"⟩
abbrev cX9_fail : ByteArray := prog_11_method_15_code
def yX9_fail : MethodName := ⟨RX9, "fail", "(I)V"⟩
abbrev cX9_wrong : ByteArray := prog_11_method_16_code
def yX9_wrong : MethodName := ⟨RX9, "wrong", "(II)V"⟩
abbrev cX9_next : ByteArray := prog_11_method_17_code
def yX9_next : MethodName := ⟨RX9, "next", "()V"⟩
abbrev cX9_must : ByteArray := prog_11_method_18_code
def yX9_must : MethodName := ⟨RX9, "must", "(I)V"⟩
abbrev cX9_read : ByteArray := prog_11_method_19_code
def yX9_read : MethodName := ⟨RX9, "read", "()I"⟩
abbrev cX9_place : ByteArray := prog_11_method_20_code
def yX9_place : MethodName := ⟨RX9, "place", "()I"⟩
abbrev cX9_tellRule : ByteArray := prog_11_method_21_code
def yX9_tellRule : MethodName := ⟨RX9, "tellRule", "()V"⟩
abbrev cX9_relation : ByteArray := prog_11_method_22_code
def yX9_relation : MethodName := ⟨RX9, "relation", "(Z)V"⟩
abbrev cX9_emit : ByteArray := prog_11_method_23_code
def yX9_emit : MethodName := ⟨RX9, "emit", "(II)V"⟩
abbrev cX9_comesOut : ByteArray := prog_11_method_24_code
def yX9_comesOut : MethodName := ⟨RX9, "comesOut", "(Z)V"⟩
abbrev cX9_expression : ByteArray := prog_11_method_25_code
def yX9_expression : MethodName := ⟨RX9, "expression", "()V"⟩
abbrev cX9_isInn : ByteArray := prog_11_method_26_code
def yX9_isInn : MethodName := ⟨RX9, "isInn", "(I)Z"⟩
abbrev cX9_isCaravan : ByteArray := prog_11_method_27_code
def yX9_isCaravan : MethodName := ⟨RX9, "isCaravan", "(I)Z"⟩
abbrev cX9_isDay : ByteArray := prog_11_method_28_code
def yX9_isDay : MethodName := ⟨RX9, "isDay", "(I)Z"⟩
abbrev cX9_isKnown : ByteArray := prog_11_method_29_code
def yX9_isKnown : MethodName := ⟨RX9, "isKnown", "(I)Z"⟩
abbrev cX9_inn : ByteArray := prog_11_method_30_code
def yX9_inn : MethodName := ⟨RX9, "inn", "(III)I"⟩
abbrev cX9_room : ByteArray := prog_11_method_31_code
def yX9_room : MethodName := ⟨RX9, "room", "(II)I"⟩
abbrev cX9_caravan : ByteArray := prog_11_method_32_code
def yX9_caravan : MethodName := ⟨RX9, "caravan", "(IIIIII)I"⟩
abbrev cX9_bale : ByteArray := prog_11_method_33_code
def yX9_bale : MethodName := ⟨RX9, "bale", "(I)I"⟩
abbrev cX9_fact : ByteArray := prog_11_method_34_code
def yX9_fact : MethodName := ⟨RX9, "fact", "(III)I"⟩
abbrev cX9_shut : ByteArray := prog_11_method_35_code
def yX9_shut : MethodName := ⟨RX9, "shut", "(II)I"⟩
abbrev cX9_look : ByteArray := prog_11_method_36_code
def yX9_look : MethodName := ⟨RX9, "look", "(IIZ)I"⟩
abbrev cX9_asks : ByteArray := prog_11_method_37_code
def yX9_asks : MethodName := ⟨RX9, "asks", "(III)V"⟩
abbrev cX9_value : ByteArray := prog_11_method_38_code
def yX9_value : MethodName := ⟨RX9, "value", "(II)I"⟩
abbrev cX9_holds : ByteArray := prog_11_method_39_code
def yX9_holds : MethodName := ⟨RX9, "holds", "(I)Z"⟩
abbrev cX9_says : ByteArray := prog_11_method_40_code
def yX9_says : MethodName := ⟨RX9, "says", "(II)I"⟩
abbrev cX9_barOf : ByteArray := prog_11_method_41_code
def yX9_barOf : MethodName := ⟨RX9, "barOf", "(I)I"⟩
abbrev cX9_goes : ByteArray := prog_11_method_42_code
def yX9_goes : MethodName := ⟨RX9, "goes", "(I)V"⟩
abbrev cX9_morning : ByteArray := prog_11_method_43_code
def yX9_morning : MethodName := ⟨RX9, "morning", "(II)V"⟩
abbrev cX9_evening : ByteArray := prog_11_method_44_code
def yX9_evening : MethodName := ⟨RX9, "evening", "(II)V"⟩
abbrev cX9_lays : ByteArray := prog_11_method_45_code
def yX9_lays : MethodName := ⟨RX9, "lays", "(II)V"⟩
abbrev cX9_isWay : ByteArray := prog_11_method_46_code
def yX9_isWay : MethodName := ⟨RX9, "isWay", "(II)Z"⟩
abbrev cX9_isAhead : ByteArray := prog_11_method_47_code
def yX9_isAhead : MethodName := ⟨RX9, "isAhead", "(II)Z"⟩
abbrev cX9_isOutside : ByteArray := prog_11_method_48_code
def yX9_isOutside : MethodName := ⟨RX9, "isOutside", "(II)Z"⟩
abbrev cX9_state : ByteArray := prog_11_method_49_code
def yX9_state : MethodName := ⟨RX9, "state", "(IIII)I"⟩
abbrev cX9_house : ByteArray := prog_11_method_50_code
def yX9_house : MethodName := ⟨RX9, "house", "(IIII)I"⟩
abbrev cX9_full : ByteArray := prog_11_method_51_code
def yX9_full : MethodName := ⟨RX9, "full", "(IIII)I"⟩
abbrev cX9_comes : ByteArray := prog_11_method_52_code
def yX9_comes : MethodName := ⟨RX9, "comes", "(II)I"⟩
abbrev cX9_barred : ByteArray := prog_11_method_53_code
def yX9_barred : MethodName := ⟨RX9, "barred", "(III)I"⟩
abbrev cX9_could : ByteArray := prog_11_method_54_code
def yX9_could : MethodName := ⟨RX9, "could", "(II)I"⟩
abbrev cX9_sealed : ByteArray := prog_11_method_55_code
def yX9_sealed : MethodName := ⟨RX9, "sealed", "(III)I"⟩
abbrev cX9_tolls : ByteArray := prog_11_method_56_code
def yX9_tolls : MethodName := ⟨RX9, "tolls", "(III)I"⟩
abbrev cX9_crowded : ByteArray := prog_11_method_57_code
def yX9_crowded : MethodName := ⟨RX9, "crowded", "(III)I"⟩
abbrev cX9_count : ByteArray := prog_11_method_58_code
def yX9_count : MethodName := ⟨RX9, "count", "(I)I"⟩
def RJ9 : String := "java/lang/Math"
abbrev cJ9_max_7cf53 : ByteArray := prog_12_method_65_code
def yJ9_max_7cf53 : MethodName := ⟨RJ9, "max", "(II)I"⟩
abbrev cJ9_min_7cf53 : ByteArray := prog_12_method_69_code
def yJ9_min_7cf53 : MethodName := ⟨RJ9, "min", "(II)I"⟩
def RJ0 : String := "java/lang/String"
abbrev cJ0_length_8abf5 : ByteArray := prog_13_method_54_code
def yJ0_length_8abf5 : MethodName := ⟨RJ0, "length", "()I"⟩
abbrev cJ0_charAt_5068e : ByteArray := prog_13_method_56_code
def yJ0_charAt_5068e : MethodName := ⟨RJ0, "charAt", "(I)C"⟩
abbrev cJ0_coder_7d493 : ByteArray := prog_13_method_152_code
def yJ0_coder_7d493 : MethodName := ⟨RJ0, "coder", "()B"⟩
abbrev cJ0_isLatin1_aae02 : ByteArray := prog_13_method_154_code
def yJ0_isLatin1_aae02 : MethodName := ⟨RJ0, "isLatin1", "()Z"⟩
abbrev cJ0_checkIndex_df160 : ByteArray := prog_13_method_155_code
def yJ0_checkIndex_df160 : MethodName := ⟨RJ0, "checkIndex", "(II)V"⟩
def RJ1 : String := "java/lang/StringLatin1"
abbrev cJ1_charAt_3b067 : ByteArray := prog_14_method_2_code
def yJ1_charAt_3b067 : MethodName := ⟨RJ1, "charAt", "([BI)C"⟩
def RJ2 : String := "java/lang/StringUTF16"
abbrev cJ2_getChar_3b067 : ByteArray := prog_15_method_5_code
def yJ2_getChar_3b067 : MethodName := ⟨RJ2, "getChar", "([BI)C"⟩
abbrev cJ2_length_9d52b : ByteArray := prog_15_method_6_code
def yJ2_length_9d52b : MethodName := ⟨RJ2, "length", "([B)I"⟩
abbrev cJ2_charAt_3b067 : ByteArray := prog_15_method_83_code
def yJ2_charAt_3b067 : MethodName := ⟨RJ2, "charAt", "([BI)C"⟩
abbrev cJ2_checkIndex_2214a : ByteArray := prog_15_method_91_code
def yJ2_checkIndex_2214a : MethodName := ⟨RJ2, "checkIndex", "(I[B)V"⟩
def RJ3 : String := "jdk/internal/util/Preconditions"
abbrev cJ3_checkIndex_8e157 : ByteArray := prog_16_method_11_code
def yJ3_checkIndex_8e157 : MethodName := ⟨RJ3, "checkIndex", "(IILjava/util/function/BiFunction;)I"⟩
def RL : String := "CaravanRoadLaw"
end
section
/-! THE ABSTRACT HEAP: cells by their number; (kind, length) of each; ints, longs, references by cell and place -/
abbrev PH : Type := (Nat × (Nat → Nat × Nat)) × (Nat → Nat → Int32) × (Nat → Nat → Int64) × (Nat → Nat → Option Nat)
abbrev Mth : Type := MethodName × ByteArray × Nat × Option FieldType
abbrev GP : Type := Launch × Nat × (Nat → Int32)
abbrev clX : List vw_C := [(RX0, TX0, 5), (RX1, TX1, 14), (RX2, TX2, 16), (RX3, TX3, 12), (RX4, TX4, 9), (RX5, TX5, 9), (RX6, TX6, 5), (RX7, TX7, 2), (RX8, TX8, 7), (RX9, TX9, 80)]
def tyX (ci : Nat) : Nat → FieldType := match ci with
  | 0 => tyX0
  | 1 => tyX1
  | 2 => tyX2
  | 3 => tyX3
  | 4 => tyX4
  | 5 => tyX5
  | 6 => tyX6
  | 7 => tyX7
  | 8 => tyX8
  | _ => tyX9
def isR (ci j : Nat) : Bool := (tyX ci j).isReference
def tTy (t : Nat) : FieldType := match t with
  | 10 => .int
  | 11 => .byte
  | 12 => .boolean
  | 13 => .long
  | _ => .array .int
def tyl (dA : Nat → ClassId) : List (ClassId × FieldType) := [(dA 10, .int), (dA 11, .byte), (dA 12, .boolean), (dA 13, .long), (dA 14, .array .int)]
def TBL : List Cond := lw_tbl.filter goodWord
def isNest : Cond → Bool
  | .methodLinkNest _ _ _ _ => true
  | _ => false
def NST : List Cond := tables_1.filter isNest
/-- a value with the abstract references made real -/
def tr (ad : Nat → Nat) (v : Value) : Value := match v with
  | .ref k => .ref (ad k)
  | v => v
def trL (ad : Nat → Nat) (q : Nat × Value) : Nat × Value := (q.1, tr ad q.2)
def fvE (ad : Nat → Nat) (h : PH) (k ci j : Nat) : Value := if isR ci j then va_rf ((h.2.2.2 k j).map ad) else .int (h.2.1 k j)
def cE (dA : Nat → ClassId) (ad : Nat → Nat) (h : PH) (k : Nat) : va_E :=
  if (h.1.2 k).1 < 10 then .inr ((h.1.2 k).1, (List.range (h.1.2 k).2).map (fun j => fvE ad h k (h.1.2 k).1 j))
  else if (h.1.2 k).1 = 13 then .inl (dA 13, (h.1.2 k).2, .inr (.inl (h.2.2.1 k)))
  else if (h.1.2 k).1 = 14 then .inl (dA 14, (h.1.2 k).2, .inr (.inr (.inr (.inr (fun j => (h.2.2.2 k j).map ad)))))
  else .inl (dA (h.1.2 k).1, (h.1.2 k).2, .inl (h.2.1 k))
def wl (dA : Nat → ClassId) (ad : Nat → Nat) (h : PH) : va_W := (List.range h.1.1).map (fun k => (ad k, cE dA ad h k))
theorem wl_get {dA : Nat → ClassId} {ad : Nat → Nat} {h : PH} {k : Nat} (hk : k < h.1.1) : (wl dA ad h)[k]? = some (ad k, cE dA ad h k) := by
  unfold wl
  rw [List.getElem?_map, List.getElem?_range hk]
  rfl
theorem wl_at {dA : Nat → ClassId} {ad : Nat → Nat} {h : PH} {k : Nat} {q : Nat × va_E} (hq : (wl dA ad h)[k]? = some q) : k < h.1.1 ∧ q = (ad k, cE dA ad h k) := by
  unfold wl at hq
  rw [List.getElem?_map] at hq
  by_cases hk : k < h.1.1
  · rw [List.getElem?_range hk] at hq
    exact ⟨hk, (Option.some.inj hq).symm⟩
  · rw [List.getElem?_eq_none (by rw [List.length_range]; omega)] at hq
    cases hq
theorem wl_set {dA : Nat → ClassId} {ad : Nat → Nat} {h h' : PH} {k : Nat} {e : va_E} (h1 : h'.1 = h.1) (he : e = cE dA ad h' k) (ho : ∀ j, j ≠ k → cE dA ad h' j = cE dA ad h j) : (wl dA ad h).set k (ad k, e) = wl dA ad h' := by
  apply List.ext_getElem?
  intro j
  rw [List.getElem?_set]
  by_cases hj : j < h.1.1
  · rw [wl_get (h := h') (by rw [h1]; exact hj)]
    by_cases hk : k = j
    · subst hk
      rw [if_pos rfl, if_pos (by simp [wl]; exact hj), he]
    · rw [if_neg hk, wl_get hj, ho j (fun q => hk q.symm)]
  · have n1 : (wl dA ad h')[j]? = none := List.getElem?_eq_none (by simp [wl, h1]; omega)
    have n2 : (wl dA ad h)[j]? = none := List.getElem?_eq_none (by simp [wl]; omega)
    rw [n1]
    by_cases hk : k = j
    · subst hk
      rw [if_pos rfl, if_neg (by simp [wl]; omega)]
    · rw [if_neg hk, n2]
def u2 {α : Type} (f : Nat → Nat → α) (k j : Nat) (x : α) : Nat → Nat → α := fun a b => if a = k then (if b = j then x else f a b) else f a b
def wI (h : PH) (k j : Nat) (x : Int32) : PH := (h.1, u2 h.2.1 k j x, h.2.2)
def wJ (h : PH) (k j : Nat) (x : Int64) : PH := (h.1, h.2.1, u2 h.2.2.1 k j x, h.2.2.2)
def wR (h : PH) (k j : Nat) (x : Option Nat) : PH := (h.1, h.2.1, h.2.2.1, u2 h.2.2.2 k j x)
theorem cE_wI_ne {dA : Nat → ClassId} {ad : Nat → Nat} {h : PH} {k j a : Nat} {x : Int32} (ha : a ≠ k) : cE dA ad (wI h k j x) a = cE dA ad h a := by
  unfold cE wI fvE u2
  simp [ha]
theorem cE_wJ_ne {dA : Nat → ClassId} {ad : Nat → Nat} {h : PH} {k j a : Nat} {x : Int64} (ha : a ≠ k) : cE dA ad (wJ h k j x) a = cE dA ad h a := by
  unfold cE wJ fvE u2
  simp [ha]
theorem cE_wR_ne {dA : Nat → ClassId} {ad : Nat → Nat} {h : PH} {k j a : Nat} {x : Option Nat} (ha : a ≠ k) : cE dA ad (wR h k j x) a = cE dA ad h a := by
  unfold cE wR fvE u2
  simp [ha]
theorem cE_obj {dA : Nat → ClassId} {ad : Nat → Nat} {h : PH} {k ci N : Nat} (hk : h.1.2 k = (ci, N)) (hc : ci < 10) : cE dA ad h k = .inr (ci, (List.range N).map (fun j => fvE ad h k ci j)) := by
  unfold cE
  rw [hk]
  simp [hc]
theorem cE_arr {dA : Nat → ClassId} {ad : Nat → Nat} {h : PH} {k t N : Nat} (hk : h.1.2 k = (t, N)) (hc : ¬ t < 10) (h3 : t ≠ 13) (h4 : t ≠ 14) : cE dA ad h k = .inl (dA t, N, .inl (h.2.1 k)) := by
  unfold cE
  rw [hk]
  simp [hc, h3, h4]
theorem cE_long {dA : Nat → ClassId} {ad : Nat → Nat} {h : PH} {k N : Nat} (hk : h.1.2 k = (13, N)) : cE dA ad h k = .inl (dA 13, N, .inr (.inl (h.2.2.1 k))) := by
  unfold cE
  rw [hk]
  simp
theorem cE_refs {dA : Nat → ClassId} {ad : Nat → Nat} {h : PH} {k N : Nat} (hk : h.1.2 k = (14, N)) : cE dA ad h k = .inl (dA 14, N, .inr (.inr (.inr (.inr (fun j => (h.2.2.2 k j).map ad))))) := by
  unfold cE
  rw [hk]
  simp
theorem range_set {α : Type} {N j : Nat} {f g : Nat → α} {v : α} (hj : g j = v) (ho : ∀ i, i ≠ j → g i = f i) : ((List.range N).map f).set j v = (List.range N).map g := by
  apply List.ext_getElem?
  intro i
  rw [List.getElem?_set, List.getElem?_map, List.getElem?_map]
  by_cases hi : i < N
  · rw [List.getElem?_range hi]
    by_cases h : j = i
    · subst h
      rw [if_pos rfl, if_pos (by simp; exact hi), ← hj]
      rfl
    · rw [if_neg h]
      show some (f i) = some (g i)
      rw [ho i (fun q => h q.symm)]
  · rw [List.getElem?_eq_none (by rw [List.length_range]; omega)]
    by_cases h : j = i
    · subst h
      rw [if_pos rfl, if_neg (by simp; omega)]
      rfl
    · rw [if_neg h]
      rfl
/-! WHAT A RUNNING METHOD STANDS ON -/
abbrev SB : Nat := 1000000
def txW : String := "first toll bar if or and kind beasts guards bales hungry day inn late "
def byW : List Int32 := [102, 105, 114, 115, 116, 32, 116, 111, 108, 108, 32, 98, 97, 114, 32, 105, 102, 32, 111, 114, 32, 97, 110, 100, 32, 107, 105, 110, 100, 32, 98, 101, 97, 115, 116, 115, 32, 103, 117, 97, 114, 100, 115, 32, 98, 97, 108, 101, 115, 32, 104, 117, 110, 103, 114, 121, 32, 100, 97, 121, 32, 105, 110, 110, 32, 108, 97, 116, 101, 32]
/-- the text constant, at the abstract cells SB and SB + 1; the script, at SB + 2 -/
def EXT (g : GP) (ad : Nat → Nat) (A : Nat → Prop) (s : State) : Prop :=
  vk_R RX6 65 txW (ad SB) s ∧ vk_S 1 [70] [byW] (fun _ => ad SB) (fun _ => ad (SB + 1)) A s s.heap ∧ va_Z "java/lang/String" "COMPACT_STRINGS" "Z" (.int 1) A s s.heap ∧ va_X (ad (SB + 2)) g.2.1 g.2.2 s s.heap ∧ ad (SB + 2) < s.heap.size ∧ ¬ A (ad (SB + 2))
def AG (ad ad' : Nat → Nat) (n n' : Nat) : Prop := n ≤ n' ∧ ∀ k, k < n ∨ n' ≤ k → ad' k = ad k
def MC (g : GP) (M : Mth) (d : Nat) (p : Program) (R : Room) (s : State) (m : MethodId) (args : Array Value) (meth : Method) (c : Code) (D : va_G) (dA : Nat → ClassId) (A : Nat → Prop) (ad : Nat → Nat) : Prop :=
  (p.tables.exec = Jvm.exec ∧ c.code = M.2.1 ∧ c.maxLocals = M.2.2.1 ∧ s.vm.findClass M.1.cls = some m.cls ∧ (∀ w ∈ TBL, w.before args s = true)) ∧ (∀ w ∈ NST, va_Nw w s) ∧ va_K D clX (tyl dA) s ∧ (M.1.name = "<init>" → meth.name = "<init>") ∧ (d ≤ R.frames ∧ 64 * d ≤ R.locals) ∧ (∀ q, s.heap.size ≤ q → A q) ∧ EXT g ad A s
def WD (D : va_G) (dA : Nat → ClassId) (A : Nat → Prop) (ad : Nat → Nat) (h : PH) (s : State) (H : Heap) (locs : List Loc) : Prop :=
  va_P D clX (wl dA ad h) H ∧ va_D A (wl dA ad h) ∧ va_S A s.heap H locs
/-- a return of a method of this type with this value -/
def RI (ret : Option FieldType) (ri : Instr) (v : Option Value) : Prop :=
  (ret = none ∧ ri = .return_ ∧ v = none) ∨ (∃ (ty : FieldType) (x : Int32), ret = some ty ∧ ri = .ireturn ∧ v = some (.int x) ∧ narrow ty (.int x) = .int x) ∨ (∃ x : Int64, ret = some .long ∧ ri = .lreturn ∧ v = some (.long x))
/-- THE JUDGEMENT: from pc, with locals L, stack st and heap h, method M comes to a return with 'post' -/
def X (g : GP) (M : Mth) (d nc ns : Nat) (post : Option Value → PH → Prop) (pc : Nat) (L : List (Nat × Value)) (st : List Value) (h : PH) : Prop :=
  ∀ (p : Program) (e : Env) (R : Room) (s : State) (m : MethodId) (args : Array Value) (below : List Frame) (meth : Method) (c : Code) (D : va_G) (dA : Nat → ClassId) (A : Nat → Prop) (Q : State → Prop) (ad : Nat → Nat) (H : Heap) (locs : List Loc) (cells slots : Nat) (ls : Array Slot),
    MC g M d p R s m args meth c D dA A ad → WD D dA A ad h s H locs → cells + nc ≤ R.cells → slots + ns ≤ R.slots → lv_has ls M.2.2.1 (L.map (trL ad)) →
    (∀ (v : Option Value) (h' : PH) (ad' : Nat → Nat) (H' : Heap) (locs' : List Loc) (cells' slots' : Nat) (ls' : Array Slot) (pc' : Nat) (ri : Instr), decode M.2.1 pc' = .ok (ri, 1) → RI M.2.2.2 ri v → post v h' → AG ad ad' h.1.1 h'.1.1 → WD D dA A ad' h' s H' locs' → cells' ≤ R.cells → slots' ≤ R.slots → W p g.1 e R s m args below meth c H' locs' cells' slots' Q (F0 m pc' ls' ((v.map (tr ad')).toList))) →
    W p g.1 e R s m args below meth c H locs cells slots Q (F0 m pc ls (st.map (tr ad)))
end
section
section XR
variable {g : GP} {M : Mth} {d nc ns : Nat} {post : Option Value → PH → Prop} {pc : Nat} {L : List (Nat × Value)} {st : List Value} {h : PH}
theorem X_iconst {n : Int} (hd : decode M.2.1 pc = .ok (.iconst n, 1)) (v : Int32) (hv : Int32.ofInt n = v) (k : X g M d nc ns post (pc + 1) L (.int v :: st) h) : X g M d nc ns post pc L st h := by
  intro p e R s m args below meth c D dA A Q ad H locs cells slots ls hM hW hc hs hl ret
  exact lv_iconst hM.1.1 hM.1.2.1 hd hv (k p e R s m args below meth c D dA A Q ad H locs cells slots ls hM hW hc hs hl ret)
theorem X_bipush {n : Int} (hd : decode M.2.1 pc = .ok (.bipush n, 2)) (v : Int32) (hv : (Int8.ofInt n).toInt32 = v) (k : X g M d nc ns post (pc + 2) L (.int v :: st) h) : X g M d nc ns post pc L st h := by
  intro p e R s m args below meth c D dA A Q ad H locs cells slots ls hM hW hc hs hl ret
  exact lv_bipush hM.1.1 hM.1.2.1 hd hv (k p e R s m args below meth c D dA A Q ad H locs cells slots ls hM hW hc hs hl ret)
theorem X_sipush {n : Int} (hd : decode M.2.1 pc = .ok (.sipush n, 3)) (v : Int32) (hv : (Int16.ofInt n).toInt32 = v) (k : X g M d nc ns post (pc + 3) L (.int v :: st) h) : X g M d nc ns post pc L st h := by
  intro p e R s m args below meth c D dA A Q ad H locs cells slots ls hM hW hc hs hl ret
  exact lv_sipush hM.1.1 hM.1.2.1 hd hv (k p e R s m args below meth c D dA A Q ad H locs cells slots ls hM hW hc hs hl ret)
theorem X_lconst {n : Fin 2} (hd : decode M.2.1 pc = .ok (.lconst n, 1)) (v : Int64) (hv : Int64.ofNat (n : Nat) = v) (k : X g M d nc ns post (pc + 1) L (.long v :: st) h) : X g M d nc ns post pc L st h := by
  intro p e R s m args below meth c D dA A Q ad H locs cells slots ls hM hW hc hs hl ret
  exact lv_lconst hM.1.1 hM.1.2.1 hd hv (k p e R s m args below meth c D dA A Q ad H locs cells slots ls hM hW hc hs hl ret)
theorem X_iload {i : Nat} {x : Int32} (kk : Nat) (hL : L[kk]? = some (i, .int x)) (hd : decode M.2.1 pc = .ok (.iload i, 2)) (k : X g M d nc ns post (pc + 2) L (.int x :: st) h) : X g M d nc ns post pc L st h := by
  intro p e R s m args below meth c D dA A Q ad H locs cells slots ls hM hW hc hs hl ret
  exact lv_iload hM.1.1 hM.1.2.1 hd (lv_at hl kk (by rw [List.getElem?_map, hL]; rfl)) (k p e R s m args below meth c D dA A Q ad H locs cells slots ls hM hW hc hs hl ret)
theorem X_iload_n {i : Fin 4} {x : Int32} (kk : Nat) (hL : L[kk]? = some (i.val, .int x)) (hd : decode M.2.1 pc = .ok (.iload_n i, 1)) (k : X g M d nc ns post (pc + 1) L (.int x :: st) h) : X g M d nc ns post pc L st h := by
  intro p e R s m args below meth c D dA A Q ad H locs cells slots ls hM hW hc hs hl ret
  exact lv_iload_n hM.1.1 hM.1.2.1 hd rfl (lv_at hl kk (by rw [List.getElem?_map, hL]; rfl)) (k p e R s m args below meth c D dA A Q ad H locs cells slots ls hM hW hc hs hl ret)
theorem X_lload {i : Nat} {x : Int64} (kk : Nat) (hL : L[kk]? = some (i, .long x)) (hd : decode M.2.1 pc = .ok (.lload i, 2)) (k : X g M d nc ns post (pc + 2) L (.long x :: st) h) : X g M d nc ns post pc L st h := by
  intro p e R s m args below meth c D dA A Q ad H locs cells slots ls hM hW hc hs hl ret
  exact lv_lload hM.1.1 hM.1.2.1 hd (lv_at hl kk (by rw [List.getElem?_map, hL]; rfl)) (k p e R s m args below meth c D dA A Q ad H locs cells slots ls hM hW hc hs hl ret)
theorem X_lload_n {i : Fin 4} {x : Int64} (kk : Nat) (hL : L[kk]? = some (i.val, .long x)) (hd : decode M.2.1 pc = .ok (.lload_n i, 1)) (k : X g M d nc ns post (pc + 1) L (.long x :: st) h) : X g M d nc ns post pc L st h := by
  intro p e R s m args below meth c D dA A Q ad H locs cells slots ls hM hW hc hs hl ret
  exact lv_lload_n hM.1.1 hM.1.2.1 hd rfl (lv_at hl kk (by rw [List.getElem?_map, hL]; rfl)) (k p e R s m args below meth c D dA A Q ad H locs cells slots ls hM hW hc hs hl ret)
theorem X_aload {i : Nat} {x : Nat} (kk : Nat) (hL : L[kk]? = some (i, .ref x)) (hd : decode M.2.1 pc = .ok (.aload i, 2)) (k : X g M d nc ns post (pc + 2) L (.ref x :: st) h) : X g M d nc ns post pc L st h := by
  intro p e R s m args below meth c D dA A Q ad H locs cells slots ls hM hW hc hs hl ret
  exact lv_aload hM.1.1 hM.1.2.1 hd (lv_at hl kk (by rw [List.getElem?_map, hL]; rfl)) (k p e R s m args below meth c D dA A Q ad H locs cells slots ls hM hW hc hs hl ret)
theorem X_aload_n {i : Fin 4} {x : Nat} (kk : Nat) (hL : L[kk]? = some (i.val, .ref x)) (hd : decode M.2.1 pc = .ok (.aload_n i, 1)) (k : X g M d nc ns post (pc + 1) L (.ref x :: st) h) : X g M d nc ns post pc L st h := by
  intro p e R s m args below meth c D dA A Q ad H locs cells slots ls hM hW hc hs hl ret
  exact lv_aload_n hM.1.1 hM.1.2.1 hd rfl (lv_at hl kk (by rw [List.getElem?_map, hL]; rfl)) (k p e R s m args below meth c D dA A Q ad H locs cells slots ls hM hW hc hs hl ret)
theorem tr_cat (ad : Nat → Nat) (v : Value) : (tr ad v).category = v.category := by
  cases v <;> rfl
theorem trL_f1 (ad : Nat → Nat) (i : Nat) (l : List (Nat × Value)) : (l.map (trL ad)).filter (fun q => !(q.1 == i) && !(q.1 + 1 == i && q.2.category == 2)) = (l.filter (fun q => !(q.1 == i) && !(q.1 + 1 == i && q.2.category == 2))).map (trL ad) := by
  rw [List.filter_map]
  congr 1
  apply List.filter_congr
  intro q _
  simp [trL, tr_cat]
theorem trL_f2 (ad : Nat → Nat) (i : Nat) (l : List (Nat × Value)) : (l.map (trL ad)).filter (fun q => !(q.1 == i) && (!(q.1 == i + 1) && !(q.1 + 1 == i && q.2.category == 2))) = (l.filter (fun q => !(q.1 == i) && (!(q.1 == i + 1) && !(q.1 + 1 == i && q.2.category == 2)))).map (trL ad) := by
  rw [List.filter_map]
  congr 1
  apply List.filter_congr
  intro q _
  simp [trL, tr_cat]
theorem X_istore {i : Nat} {x : Int32} (L' : List (Nat × Value)) (hd : decode M.2.1 pc = .ok (.istore i, 2)) (hi : i < M.2.2.1) (hL : (i, Value.int x) :: L.filter (fun q => !(q.1 == i) && !(q.1 + 1 == i && q.2.category == 2)) = L') (k : X g M d nc ns post (pc + 2) L' st h) : X g M d nc ns post pc L (.int x :: st) h := by
  intro p e R s m args below meth c D dA A Q ad H locs cells slots ls hM hW hc hs hl ret
  subst hL
  exact lv_istore hM.1.1 hM.1.2.1 hd hl hi (by rw [trL_f1]; rfl) (fun ls hl => k p e R s m args below meth c D dA A Q ad H locs cells slots ls hM hW hc hs hl ret)
theorem X_istore_n {i : Fin 4} {x : Int32} (L' : List (Nat × Value)) (hd : decode M.2.1 pc = .ok (.istore_n i, 1)) (hi : i.val < M.2.2.1) (hL : (i.val, Value.int x) :: L.filter (fun q => !(q.1 == i.val) && !(q.1 + 1 == i.val && q.2.category == 2)) = L') (k : X g M d nc ns post (pc + 1) L' st h) : X g M d nc ns post pc L (.int x :: st) h := by
  intro p e R s m args below meth c D dA A Q ad H locs cells slots ls hM hW hc hs hl ret
  subst hL
  exact lv_istore_n hM.1.1 hM.1.2.1 hd rfl hl hi (by rw [trL_f1]; rfl) (fun ls hl => k p e R s m args below meth c D dA A Q ad H locs cells slots ls hM hW hc hs hl ret)
theorem X_lstore {i : Nat} {x : Int64} (L' : List (Nat × Value)) (hd : decode M.2.1 pc = .ok (.lstore i, 2)) (hi : i + 1 < M.2.2.1) (hL : (i, Value.long x) :: L.filter (fun q => !(q.1 == i) && (!(q.1 == i + 1) && !(q.1 + 1 == i && q.2.category == 2))) = L') (k : X g M d nc ns post (pc + 2) L' st h) : X g M d nc ns post pc L (.long x :: st) h := by
  intro p e R s m args below meth c D dA A Q ad H locs cells slots ls hM hW hc hs hl ret
  subst hL
  exact lv_lstore hM.1.1 hM.1.2.1 hd hl hi (by rw [trL_f2]; rfl) (fun ls hl => k p e R s m args below meth c D dA A Q ad H locs cells slots ls hM hW hc hs hl ret)
theorem X_lstore_n {i : Fin 4} {x : Int64} (L' : List (Nat × Value)) (hd : decode M.2.1 pc = .ok (.lstore_n i, 1)) (hi : i.val + 1 < M.2.2.1) (hL : (i.val, Value.long x) :: L.filter (fun q => !(q.1 == i.val) && (!(q.1 == i.val + 1) && !(q.1 + 1 == i.val && q.2.category == 2))) = L') (k : X g M d nc ns post (pc + 1) L' st h) : X g M d nc ns post pc L (.long x :: st) h := by
  intro p e R s m args below meth c D dA A Q ad H locs cells slots ls hM hW hc hs hl ret
  subst hL
  exact lv_lstore_n hM.1.1 hM.1.2.1 hd rfl hl hi (by rw [trL_f2]; rfl) (fun ls hl => k p e R s m args below meth c D dA A Q ad H locs cells slots ls hM hW hc hs hl ret)
theorem X_astore {i : Nat} {x : Nat} (L' : List (Nat × Value)) (hd : decode M.2.1 pc = .ok (.astore i, 2)) (hi : i < M.2.2.1) (hL : (i, Value.ref x) :: L.filter (fun q => !(q.1 == i) && !(q.1 + 1 == i && q.2.category == 2)) = L') (k : X g M d nc ns post (pc + 2) L' st h) : X g M d nc ns post pc L (.ref x :: st) h := by
  intro p e R s m args below meth c D dA A Q ad H locs cells slots ls hM hW hc hs hl ret
  subst hL
  exact lv_astore hM.1.1 hM.1.2.1 hd hl hi (by rw [trL_f1]; rfl) (fun ls hl => k p e R s m args below meth c D dA A Q ad H locs cells slots ls hM hW hc hs hl ret)
theorem X_astore_n {i : Fin 4} {x : Nat} (L' : List (Nat × Value)) (hd : decode M.2.1 pc = .ok (.astore_n i, 1)) (hi : i.val < M.2.2.1) (hL : (i.val, Value.ref x) :: L.filter (fun q => !(q.1 == i.val) && !(q.1 + 1 == i.val && q.2.category == 2)) = L') (k : X g M d nc ns post (pc + 1) L' st h) : X g M d nc ns post pc L (.ref x :: st) h := by
  intro p e R s m args below meth c D dA A Q ad H locs cells slots ls hM hW hc hs hl ret
  subst hL
  exact lv_astore_n hM.1.1 hM.1.2.1 hd rfl hl hi (by rw [trL_f1]; rfl) (fun ls hl => k p e R s m args below meth c D dA A Q ad H locs cells slots ls hM hW hc hs hl ret)
theorem X_iinc {i : Nat} {n : Int} {x : Int32} (kk : Nat) (v : Int32) (L' : List (Nat × Value)) (hd : decode M.2.1 pc = .ok (.iinc i n, 3)) (hk : L[kk]? = some (i, .int x)) (hv : Int32.ofInt n = v) (hi : i < M.2.2.1) (hL : (i, Value.int (x + v)) :: L.filter (fun q => !(q.1 == i) && !(q.1 + 1 == i && q.2.category == 2)) = L') (k : X g M d nc ns post (pc + 3) L' st h) : X g M d nc ns post pc L st h := by
  intro p e R s m args below meth c D dA A Q ad H locs cells slots ls hM hW hc hs hl ret
  subst hL
  subst hv
  exact lv_iinc (k := kk) (x := x) hM.1.1 hM.1.2.1 hd hl (by rw [List.getElem?_map, hk]; rfl) rfl hi (by rw [trL_f1]; rfl) (fun ls hl => k p e R s m args below meth c D dA A Q ad H locs cells slots ls hM hW hc hs hl ret)
theorem X_sub (L' : List (Nat × Value)) (ks : List Nat) (hL : lv_pick L ks = L') (k : X g M d nc ns post pc L' st h) : X g M d nc ns post pc L st h := by
  intro p e R s m args below meth c D dA A Q ad H locs cells slots ls hM hW hc hs hl ret
  have hl' : lv_has ls M.2.2.1 (L'.map (trL ad)) := lv_sub hl ks (by
    rw [← hL]
    unfold lv_pick
    rw [List.map_filterMap]
    apply congrFun
    apply congrArg
    funext k
    rw [List.getElem?_map])
  exact k p e R s m args below meth c D dA A Q ad H locs cells slots ls hM hW hc hs hl' ret
theorem X_iadd {x y : Int32} (hd : decode M.2.1 pc = .ok (.iadd, 1)) (k : X g M d nc ns post (pc + 1) L (.int (x + y) :: st) h) : X g M d nc ns post pc L (.int y :: .int x :: st) h := by
  intro p e R s m args below meth c D dA A Q ad H locs cells slots ls hM hW hc hs hl ret
  exact lv_iadd hM.1.1 hM.1.2.1 hd (k p e R s m args below meth c D dA A Q ad H locs cells slots ls hM hW hc hs hl ret)
theorem X_isub {x y : Int32} (hd : decode M.2.1 pc = .ok (.isub, 1)) (k : X g M d nc ns post (pc + 1) L (.int (x - y) :: st) h) : X g M d nc ns post pc L (.int y :: .int x :: st) h := by
  intro p e R s m args below meth c D dA A Q ad H locs cells slots ls hM hW hc hs hl ret
  exact lv_isub hM.1.1 hM.1.2.1 hd (k p e R s m args below meth c D dA A Q ad H locs cells slots ls hM hW hc hs hl ret)
theorem X_imul {x y : Int32} (hd : decode M.2.1 pc = .ok (.imul, 1)) (k : X g M d nc ns post (pc + 1) L (.int (x * y) :: st) h) : X g M d nc ns post pc L (.int y :: .int x :: st) h := by
  intro p e R s m args below meth c D dA A Q ad H locs cells slots ls hM hW hc hs hl ret
  exact lv_imul hM.1.1 hM.1.2.1 hd (k p e R s m args below meth c D dA A Q ad H locs cells slots ls hM hW hc hs hl ret)
theorem X_iand {x y : Int32} (hd : decode M.2.1 pc = .ok (.iand, 1)) (k : X g M d nc ns post (pc + 1) L (.int (x &&& y) :: st) h) : X g M d nc ns post pc L (.int y :: .int x :: st) h := by
  intro p e R s m args below meth c D dA A Q ad H locs cells slots ls hM hW hc hs hl ret
  exact lv_iand hM.1.1 hM.1.2.1 hd (k p e R s m args below meth c D dA A Q ad H locs cells slots ls hM hW hc hs hl ret)
theorem X_ior {x y : Int32} (hd : decode M.2.1 pc = .ok (.ior, 1)) (k : X g M d nc ns post (pc + 1) L (.int (x ||| y) :: st) h) : X g M d nc ns post pc L (.int y :: .int x :: st) h := by
  intro p e R s m args below meth c D dA A Q ad H locs cells slots ls hM hW hc hs hl ret
  exact lv_ior hM.1.1 hM.1.2.1 hd (k p e R s m args below meth c D dA A Q ad H locs cells slots ls hM hW hc hs hl ret)
theorem X_ishl {x y : Int32} (hd : decode M.2.1 pc = .ok (.ishl, 1)) (k : X g M d nc ns post (pc + 1) L (.int (x <<< (y &&& 31)) :: st) h) : X g M d nc ns post pc L (.int y :: .int x :: st) h := by
  intro p e R s m args below meth c D dA A Q ad H locs cells slots ls hM hW hc hs hl ret
  exact lv_ishl hM.1.1 hM.1.2.1 hd (k p e R s m args below meth c D dA A Q ad H locs cells slots ls hM hW hc hs hl ret)
theorem X_ishr {x y : Int32} (hd : decode M.2.1 pc = .ok (.ishr, 1)) (k : X g M d nc ns post (pc + 1) L (.int (x >>> (y &&& 31)) :: st) h) : X g M d nc ns post pc L (.int y :: .int x :: st) h := by
  intro p e R s m args below meth c D dA A Q ad H locs cells slots ls hM hW hc hs hl ret
  exact lv_ishr hM.1.1 hM.1.2.1 hd (k p e R s m args below meth c D dA A Q ad H locs cells slots ls hM hW hc hs hl ret)
theorem X_iushr {x y : Int32} (hd : decode M.2.1 pc = .ok (.iushr, 1)) (k : X g M d nc ns post (pc + 1) L (.int ((x.toUInt32 >>> (y.toUInt32 &&& Int32.toUInt32 31)).toInt32) :: st) h) : X g M d nc ns post pc L (.int y :: .int x :: st) h := by
  intro p e R s m args below meth c D dA A Q ad H locs cells slots ls hM hW hc hs hl ret
  exact lv_iushr hM.1.1 hM.1.2.1 hd rfl (k p e R s m args below meth c D dA A Q ad H locs cells slots ls hM hW hc hs hl ret)
theorem X_ladd {x y : Int64} (hd : decode M.2.1 pc = .ok (.ladd, 1)) (k : X g M d nc ns post (pc + 1) L (.long (x + y) :: st) h) : X g M d nc ns post pc L (.long y :: .long x :: st) h := by
  intro p e R s m args below meth c D dA A Q ad H locs cells slots ls hM hW hc hs hl ret
  exact lv_ladd hM.1.1 hM.1.2.1 hd (k p e R s m args below meth c D dA A Q ad H locs cells slots ls hM hW hc hs hl ret)
theorem X_lmul {x y : Int64} (hd : decode M.2.1 pc = .ok (.lmul, 1)) (k : X g M d nc ns post (pc + 1) L (.long (x * y) :: st) h) : X g M d nc ns post pc L (.long y :: .long x :: st) h := by
  intro p e R s m args below meth c D dA A Q ad H locs cells slots ls hM hW hc hs hl ret
  exact lv_lmul hM.1.1 hM.1.2.1 hd (k p e R s m args below meth c D dA A Q ad H locs cells slots ls hM hW hc hs hl ret)
theorem X_lcmp {x y : Int64} (hd : decode M.2.1 pc = .ok (.lcmp, 1)) (k : X g M d nc ns post (pc + 1) L (.int (lg_cmp x y) :: st) h) : X g M d nc ns post pc L (.long y :: .long x :: st) h := by
  intro p e R s m args below meth c D dA A Q ad H locs cells slots ls hM hW hc hs hl ret
  exact W.lcmp hM.1.1 hM.1.2.1 hd (k p e R s m args below meth c D dA A Q ad H locs cells slots ls hM hW hc hs hl ret)
theorem X_ineg {x : Int32} (hd : decode M.2.1 pc = .ok (.ineg, 1)) (k : X g M d nc ns post (pc + 1) L (.int (-x) :: st) h) : X g M d nc ns post pc L (.int x :: st) h := by
  intro p e R s m args below meth c D dA A Q ad H locs cells slots ls hM hW hc hs hl ret
  exact lv_ineg hM.1.1 hM.1.2.1 hd (k p e R s m args below meth c D dA A Q ad H locs cells slots ls hM hW hc hs hl ret)
theorem X_i2b {x : Int32} (hd : decode M.2.1 pc = .ok (.i2b, 1)) (k : X g M d nc ns post (pc + 1) L (.int x.toInt8.toInt32 :: st) h) : X g M d nc ns post pc L (.int x :: st) h := by
  intro p e R s m args below meth c D dA A Q ad H locs cells slots ls hM hW hc hs hl ret
  exact lv_i2b hM.1.1 hM.1.2.1 hd rfl (k p e R s m args below meth c D dA A Q ad H locs cells slots ls hM hW hc hs hl ret)
theorem X_i2l {x : Int32} (hd : decode M.2.1 pc = .ok (.i2l, 1)) (k : X g M d nc ns post (pc + 1) L (.long x.toInt64 :: st) h) : X g M d nc ns post pc L (.int x :: st) h := by
  intro p e R s m args below meth c D dA A Q ad H locs cells slots ls hM hW hc hs hl ret
  exact lv_i2l hM.1.1 hM.1.2.1 hd rfl (k p e R s m args below meth c D dA A Q ad H locs cells slots ls hM hW hc hs hl ret)
theorem X_dup {va : Value} (hd : decode M.2.1 pc = .ok (.dup, 1)) (hva : va.category = 1) (k : X g M d nc ns post (pc + 1) L (va :: va :: st) h) : X g M d nc ns post pc L (va :: st) h := by
  intro p e R s m args below meth c D dA A Q ad H locs cells slots ls hM hW hc hs hl ret
  exact lv_dup hM.1.1 hM.1.2.1 hd (by rw [tr_cat]; exact hva) (k p e R s m args below meth c D dA A Q ad H locs cells slots ls hM hW hc hs hl ret)
theorem X_dup2 {va vb : Value} (hd : decode M.2.1 pc = .ok (.dup2, 1)) (hva : va.category = 1) (hvb : vb.category = 1) (k : X g M d nc ns post (pc + 1) L (va :: vb :: va :: vb :: st) h) : X g M d nc ns post pc L (va :: vb :: st) h := by
  intro p e R s m args below meth c D dA A Q ad H locs cells slots ls hM hW hc hs hl ret
  exact lv_dup2_11 hM.1.1 hM.1.2.1 hd (by rw [tr_cat]; exact hva) (by rw [tr_cat]; exact hvb) (k p e R s m args below meth c D dA A Q ad H locs cells slots ls hM hW hc hs hl ret)
theorem X_goto {off : Int} (tgt : Nat) (hd : decode M.2.1 pc = .ok (.goto off, 3)) (ht : (pc : Int) + off = (tgt : Int)) (k : X g M d nc ns post tgt L st h) : X g M d nc ns post pc L st h := by
  intro p e R s m args below meth c D dA A Q ad H locs cells slots ls hM hW hc hs hl ret
  exact lv_goto hM.1.1 hM.1.2.1 hd ht (k p e R s m args below meth c D dA A Q ad H locs cells slots ls hM hW hc hs hl ret)
theorem X_if_eq {x : Int32} {off : Int} (tgt : Nat) (hd : decode M.2.1 pc = .ok (.ifCond .eq off, 3)) (ht : (pc : Int) + off = (tgt : Int)) (kt : x = 0 → X g M d nc ns post tgt L st h) (kf : ¬ (x = 0) → X g M d nc ns post (pc + 3) L st h) : X g M d nc ns post pc L (.int x :: st) h := by
  intro p e R s m args below meth c D dA A Q ad H locs cells slots ls hM hW hc hs hl ret
  exact lv_if_eq hM.1.1 hM.1.2.1 hd ht (fun q => kt q p e R s m args below meth c D dA A Q ad H locs cells slots ls hM hW hc hs hl ret) (fun q => kf q p e R s m args below meth c D dA A Q ad H locs cells slots ls hM hW hc hs hl ret)
theorem X_icmp_eq {x y : Int32} {off : Int} (tgt : Nat) (hd : decode M.2.1 pc = .ok (.if_icmp .eq off, 3)) (ht : (pc : Int) + off = (tgt : Int)) (kt : x = y → X g M d nc ns post tgt L st h) (kf : ¬ (x = y) → X g M d nc ns post (pc + 3) L st h) : X g M d nc ns post pc L (.int y :: .int x :: st) h := by
  intro p e R s m args below meth c D dA A Q ad H locs cells slots ls hM hW hc hs hl ret
  exact lv_icmp_eq hM.1.1 hM.1.2.1 hd ht (fun q => kt q p e R s m args below meth c D dA A Q ad H locs cells slots ls hM hW hc hs hl ret) (fun q => kf q p e R s m args below meth c D dA A Q ad H locs cells slots ls hM hW hc hs hl ret)
theorem X_if_ne {x : Int32} {off : Int} (tgt : Nat) (hd : decode M.2.1 pc = .ok (.ifCond .ne off, 3)) (ht : (pc : Int) + off = (tgt : Int)) (kt : ¬ x = 0 → X g M d nc ns post tgt L st h) (kf : x = 0 → X g M d nc ns post (pc + 3) L st h) : X g M d nc ns post pc L (.int x :: st) h := by
  intro p e R s m args below meth c D dA A Q ad H locs cells slots ls hM hW hc hs hl ret
  exact lv_if_ne hM.1.1 hM.1.2.1 hd ht (fun q => kt q p e R s m args below meth c D dA A Q ad H locs cells slots ls hM hW hc hs hl ret) (fun q => kf q p e R s m args below meth c D dA A Q ad H locs cells slots ls hM hW hc hs hl ret)
theorem X_icmp_ne {x y : Int32} {off : Int} (tgt : Nat) (hd : decode M.2.1 pc = .ok (.if_icmp .ne off, 3)) (ht : (pc : Int) + off = (tgt : Int)) (kt : ¬ x = y → X g M d nc ns post tgt L st h) (kf : x = y → X g M d nc ns post (pc + 3) L st h) : X g M d nc ns post pc L (.int y :: .int x :: st) h := by
  intro p e R s m args below meth c D dA A Q ad H locs cells slots ls hM hW hc hs hl ret
  exact lv_icmp_ne hM.1.1 hM.1.2.1 hd ht (fun q => kt q p e R s m args below meth c D dA A Q ad H locs cells slots ls hM hW hc hs hl ret) (fun q => kf q p e R s m args below meth c D dA A Q ad H locs cells slots ls hM hW hc hs hl ret)
theorem X_if_lt {x : Int32} {off : Int} (tgt : Nat) (hd : decode M.2.1 pc = .ok (.ifCond .lt off, 3)) (ht : (pc : Int) + off = (tgt : Int)) (kt : x < 0 → X g M d nc ns post tgt L st h) (kf : ¬ (x < 0) → X g M d nc ns post (pc + 3) L st h) : X g M d nc ns post pc L (.int x :: st) h := by
  intro p e R s m args below meth c D dA A Q ad H locs cells slots ls hM hW hc hs hl ret
  exact lv_if_lt hM.1.1 hM.1.2.1 hd ht (fun q => kt q p e R s m args below meth c D dA A Q ad H locs cells slots ls hM hW hc hs hl ret) (fun q => kf q p e R s m args below meth c D dA A Q ad H locs cells slots ls hM hW hc hs hl ret)
theorem X_icmp_lt {x y : Int32} {off : Int} (tgt : Nat) (hd : decode M.2.1 pc = .ok (.if_icmp .lt off, 3)) (ht : (pc : Int) + off = (tgt : Int)) (kt : x < y → X g M d nc ns post tgt L st h) (kf : ¬ (x < y) → X g M d nc ns post (pc + 3) L st h) : X g M d nc ns post pc L (.int y :: .int x :: st) h := by
  intro p e R s m args below meth c D dA A Q ad H locs cells slots ls hM hW hc hs hl ret
  exact lv_icmp_lt hM.1.1 hM.1.2.1 hd ht (fun q => kt q p e R s m args below meth c D dA A Q ad H locs cells slots ls hM hW hc hs hl ret) (fun q => kf q p e R s m args below meth c D dA A Q ad H locs cells slots ls hM hW hc hs hl ret)
theorem X_if_ge {x : Int32} {off : Int} (tgt : Nat) (hd : decode M.2.1 pc = .ok (.ifCond .ge off, 3)) (ht : (pc : Int) + off = (tgt : Int)) (kt : 0 ≤ x → X g M d nc ns post tgt L st h) (kf : ¬ (0 ≤ x) → X g M d nc ns post (pc + 3) L st h) : X g M d nc ns post pc L (.int x :: st) h := by
  intro p e R s m args below meth c D dA A Q ad H locs cells slots ls hM hW hc hs hl ret
  exact lv_if_ge hM.1.1 hM.1.2.1 hd ht (fun q => kt q p e R s m args below meth c D dA A Q ad H locs cells slots ls hM hW hc hs hl ret) (fun q => kf q p e R s m args below meth c D dA A Q ad H locs cells slots ls hM hW hc hs hl ret)
theorem X_icmp_ge {x y : Int32} {off : Int} (tgt : Nat) (hd : decode M.2.1 pc = .ok (.if_icmp .ge off, 3)) (ht : (pc : Int) + off = (tgt : Int)) (kt : y ≤ x → X g M d nc ns post tgt L st h) (kf : ¬ (y ≤ x) → X g M d nc ns post (pc + 3) L st h) : X g M d nc ns post pc L (.int y :: .int x :: st) h := by
  intro p e R s m args below meth c D dA A Q ad H locs cells slots ls hM hW hc hs hl ret
  exact lv_icmp_ge hM.1.1 hM.1.2.1 hd ht (fun q => kt q p e R s m args below meth c D dA A Q ad H locs cells slots ls hM hW hc hs hl ret) (fun q => kf q p e R s m args below meth c D dA A Q ad H locs cells slots ls hM hW hc hs hl ret)
theorem X_if_gt {x : Int32} {off : Int} (tgt : Nat) (hd : decode M.2.1 pc = .ok (.ifCond .gt off, 3)) (ht : (pc : Int) + off = (tgt : Int)) (kt : 0 < x → X g M d nc ns post tgt L st h) (kf : ¬ (0 < x) → X g M d nc ns post (pc + 3) L st h) : X g M d nc ns post pc L (.int x :: st) h := by
  intro p e R s m args below meth c D dA A Q ad H locs cells slots ls hM hW hc hs hl ret
  exact lv_if_gt hM.1.1 hM.1.2.1 hd ht (fun q => kt q p e R s m args below meth c D dA A Q ad H locs cells slots ls hM hW hc hs hl ret) (fun q => kf q p e R s m args below meth c D dA A Q ad H locs cells slots ls hM hW hc hs hl ret)
theorem X_icmp_gt {x y : Int32} {off : Int} (tgt : Nat) (hd : decode M.2.1 pc = .ok (.if_icmp .gt off, 3)) (ht : (pc : Int) + off = (tgt : Int)) (kt : y < x → X g M d nc ns post tgt L st h) (kf : ¬ (y < x) → X g M d nc ns post (pc + 3) L st h) : X g M d nc ns post pc L (.int y :: .int x :: st) h := by
  intro p e R s m args below meth c D dA A Q ad H locs cells slots ls hM hW hc hs hl ret
  exact lv_icmp_gt hM.1.1 hM.1.2.1 hd ht (fun q => kt q p e R s m args below meth c D dA A Q ad H locs cells slots ls hM hW hc hs hl ret) (fun q => kf q p e R s m args below meth c D dA A Q ad H locs cells slots ls hM hW hc hs hl ret)
theorem X_if_le {x : Int32} {off : Int} (tgt : Nat) (hd : decode M.2.1 pc = .ok (.ifCond .le off, 3)) (ht : (pc : Int) + off = (tgt : Int)) (kt : x ≤ 0 → X g M d nc ns post tgt L st h) (kf : ¬ (x ≤ 0) → X g M d nc ns post (pc + 3) L st h) : X g M d nc ns post pc L (.int x :: st) h := by
  intro p e R s m args below meth c D dA A Q ad H locs cells slots ls hM hW hc hs hl ret
  exact lv_if_le hM.1.1 hM.1.2.1 hd ht (fun q => kt q p e R s m args below meth c D dA A Q ad H locs cells slots ls hM hW hc hs hl ret) (fun q => kf q p e R s m args below meth c D dA A Q ad H locs cells slots ls hM hW hc hs hl ret)
theorem X_icmp_le {x y : Int32} {off : Int} (tgt : Nat) (hd : decode M.2.1 pc = .ok (.if_icmp .le off, 3)) (ht : (pc : Int) + off = (tgt : Int)) (kt : x ≤ y → X g M d nc ns post tgt L st h) (kf : ¬ (x ≤ y) → X g M d nc ns post (pc + 3) L st h) : X g M d nc ns post pc L (.int y :: .int x :: st) h := by
  intro p e R s m args below meth c D dA A Q ad H locs cells slots ls hM hW hc hs hl ret
  exact lv_icmp_le hM.1.1 hM.1.2.1 hd ht (fun q => kt q p e R s m args below meth c D dA A Q ad H locs cells slots ls hM hW hc hs hl ret) (fun q => kf q p e R s m args below meth c D dA A Q ad H locs cells slots ls hM hW hc hs hl ret)
theorem X_tableOut {dflt lo hi : Int} {offs : Array Int} {len : Nat} {x : Int32} (tgt : Nat) (hd : decode M.2.1 pc = .ok (.tableswitch dflt lo hi offs, len)) (hx : x.toInt < lo ∨ hi < x.toInt) (ht : (pc : Int) + dflt = (tgt : Int)) (k : X g M d nc ns post tgt L st h) : X g M d nc ns post pc L (.int x :: st) h := by
  intro p e R s m args below meth c D dA A Q ad H locs cells slots ls hM hW hc hs hl ret
  exact lv_tableOut hM.1.1 hM.1.2.1 hd hx ht (k p e R s m args below meth c D dA A Q ad H locs cells slots ls hM hW hc hs hl ret)
theorem X_tableIn {dflt lo hi off : Int} {offs : Array Int} {len : Nat} {x : Int32} (tgt : Nat) (hd : decode M.2.1 pc = .ok (.tableswitch dflt lo hi offs, len)) (h1 : ¬ x.toInt < lo) (h2 : ¬ hi < x.toInt) (ho : offs[(x.toInt - lo).toNat]? = some off) (ht : (pc : Int) + off = (tgt : Int)) (k : X g M d nc ns post tgt L st h) : X g M d nc ns post pc L (.int x :: st) h := by
  intro p e R s m args below meth c D dA A Q ad H locs cells slots ls hM hW hc hs hl ret
  exact lv_tableIn hM.1.1 hM.1.2.1 hd h1 h2 ho ht (k p e R s m args below meth c D dA A Q ad H locs cells slots ls hM hW hc hs hl ret)
theorem X_lookup {dflt off : Int} {ps : Array (Int × Int)} {len : Nat} {x : Int32} (tgt : Nat) (hd : decode M.2.1 pc = .ok (.lookupswitch dflt ps, len)) (hp : (ps.toList.zip (ps.toList.drop 1)).all (fun (a, next) => a.1 < next.1) = true) (ho : Op.lookupswitch.offset ps.toList dflt x.toInt = off) (ht : (pc : Int) + off = (tgt : Int)) (k : X g M d nc ns post tgt L st h) : X g M d nc ns post pc L (.int x :: st) h := by
  intro p e R s m args below meth c D dA A Q ad H locs cells slots ls hM hW hc hs hl ret
  exact lv_lookup hM.1.1 hM.1.2.1 hd hp ho ht (k p e R s m args below meth c D dA A Q ad H locs cells slots ls hM hW hc hs hl ret)
theorem X_ldc {index : Nat} (v : Int32) (hw : Cond.constant M.1.cls index v ∈ TBL) (hd : decode M.2.1 pc = .ok (.ldc index, 2)) (k : X g M d nc ns post (pc + 2) L (.int v :: st) h) : X g M d nc ns post pc L st h := by
  intro p e R s m args below meth c D dA A Q ad H locs cells slots ls hM hW hc hs hl ret
  exact lv_ldc hM.1.1 hM.1.2.1 hM.1.2.2.2.1 (hM.1.2.2.2.2 _ hw) hd (k p e R s m args below meth c D dA A Q ad H locs cells slots ls hM hW hc hs hl ret)
theorem X_ldc2 {index : Nat} (v : Int64) (hw : Cond.constantLong M.1.cls index v ∈ TBL) (hd : decode M.2.1 pc = .ok (.ldc2_w index, 3)) (k : X g M d nc ns post (pc + 3) L (.long v :: st) h) : X g M d nc ns post pc L st h := by
  intro p e R s m args below meth c D dA A Q ad H locs cells slots ls hM hW hc hs hl ret
  exact lv_ldc2 hM.1.1 hM.1.2.1 hM.1.2.2.2.1 (hM.1.2.2.2.2 _ hw) hd (k p e R s m args below meth c D dA A Q ad H locs cells slots ls hM hW hc hs hl ret)
theorem X_ireturn {x : Int32} {ty : FieldType} (hd : decode M.2.1 pc = .ok (.ireturn, 1)) (hr : M.2.2.2 = some ty) (hn : narrow ty (.int x) = .int x) (hp : post (some (.int x)) h) : X g M d nc ns post pc L [.int x] h := by
  intro p e R s m args below meth c D dA A Q ad H locs cells slots ls hM hW hc hs hl ret
  exact ret (some (.int x)) h ad H locs cells slots ls pc .ireturn hd (Or.inr (Or.inl ⟨ty, x, hr, rfl, rfl, hn⟩)) hp ⟨Nat.le_refl _, fun _ _ => rfl⟩ hW (by omega) (by omega)
theorem X_lreturn {x : Int64} (hd : decode M.2.1 pc = .ok (.lreturn, 1)) (hr : M.2.2.2 = some .long) (hp : post (some (.long x)) h) : X g M d nc ns post pc L [.long x] h := by
  intro p e R s m args below meth c D dA A Q ad H locs cells slots ls hM hW hc hs hl ret
  exact ret (some (.long x)) h ad H locs cells slots ls pc .lreturn hd (Or.inr (Or.inr ⟨x, hr, rfl, rfl⟩)) hp ⟨Nat.le_refl _, fun _ _ => rfl⟩ hW (by omega) (by omega)
theorem X_return (hd : decode M.2.1 pc = .ok (.return_, 1)) (hr : M.2.2.2 = none) (hp : post none h) : X g M d nc ns post pc L [] h := by
  intro p e R s m args below meth c D dA A Q ad H locs cells slots ls hM hW hc hs hl ret
  exact ret none h ad H locs cells slots ls pc .return_ hd (Or.inl ⟨hr, rfl, rfl⟩) hp ⟨Nat.le_refl _, fun _ _ => rfl⟩ hW (by omega) (by omega)
end XR
end
section
def CLok (ci : Nat) (C : String) (T : u_T) (N : Nat) : Prop := clX[ci]? = some (C, T, N) ∧ ci < 10 ∧ (∀ w ∈ u_ws C T N, w ∈ TBL) ∧ (∀ k, k < N → parseFieldDescriptor (T k).2.2.1 = some (tyX ci k)) ∧ (∀ a, a < N → ∀ b, b < N → a ≠ b → (T a).2.1 ≠ (T b).2.1)
theorem CL0 : CLok 0 RX0 TX0 5 := ⟨rfl, by decide, by decide +kernel, tyX0_ok, nmX0⟩
theorem CL1 : CLok 1 RX1 TX1 14 := ⟨rfl, by decide, by decide +kernel, tyX1_ok, nmX1⟩
theorem CL2 : CLok 2 RX2 TX2 16 := ⟨rfl, by decide, by decide +kernel, tyX2_ok, nmX2⟩
theorem CL3 : CLok 3 RX3 TX3 12 := ⟨rfl, by decide, by decide +kernel, tyX3_ok, nmX3⟩
theorem CL4 : CLok 4 RX4 TX4 9 := ⟨rfl, by decide, by decide +kernel, tyX4_ok, nmX4⟩
theorem CL5 : CLok 5 RX5 TX5 9 := ⟨rfl, by decide, by decide +kernel, tyX5_ok, nmX5⟩
theorem CL6 : CLok 6 RX6 TX6 5 := ⟨rfl, by decide, by decide +kernel, tyX6_ok, nmX6⟩
theorem CL7 : CLok 7 RX7 TX7 2 := ⟨rfl, by decide, by decide +kernel, tyX7_ok, nmX7⟩
theorem CL8 : CLok 8 RX8 TX8 7 := ⟨rfl, by decide, by decide +kernel, tyX8_ok, nmX8⟩
theorem CL9 : CLok 9 RX9 TX9 80 := ⟨rfl, by decide, by decide +kernel, tyX9_ok, nmX9⟩
theorem fs_get {ad : Nat → Nat} {h : PH} {k ci N j : Nat} (hj : j < N) : ((List.range N).map (fun j => fvE ad h k ci j))[j]? = some (fvE ad h k ci j) := by
  rw [List.getElem?_map, List.getElem?_range hj]
  rfl
theorem vp_nar_bool_01 (x : Int32) (hx : x = 0 ∨ x = 1) : narrow .boolean (.int x) = .int x := by
  rcases hx with rfl | rfl <;> decide
section XH
variable {g : GP} {M : Mth} {d nc ns : Nat} {post : Option Value → PH → Prop} {pc : Nat} {L : List (Nat × Value)} {st : List Value} {h : PH} {ci N k j index : Nat} {C : String} {T : u_T}
theorem X_getI (K : CLok ci C T N) (hk : k < h.1.1) (ho : h.1.2 k = (ci, N)) (hj : j < N) (hr : isR ci j = false) (hw : Cond.fieldLink M.1.cls index (T j).1 (T j).2.1 (T j).2.2.1 ∈ TBL) (hd : decode M.2.1 pc = .ok (.getfield index, 3)) (kk : X g M d nc ns post (pc + 3) L (.int (h.2.1 k j) :: st) h) : X g M d nc ns post pc L (.ref k :: st) h := by
  intro p e R s m args below meth c D dA A Q ad H locs cells slots ls hM hW hc hs hl ret
  obtain ⟨hcl, hc10, hin, hty, hnm⟩ := K
  refine va_get (cl := clX) hM.1.1 hM.1.2.1 hM.1.2.2.2.2 hin hM.1.2.2.2.1 hM.2.2.1 hW.1 k (by rw [wl_get hk, cE_obj ho hc10]) hcl j hj (hM.1.2.2.2.2 _ hw) (fun _ q => q) (v := .int (h.2.1 k j)) ?_ hd (kk p e R s m args below meth c D dA A Q ad H locs cells slots ls hM hW hc hs hl ret)
  rw [fs_get hj]
  simp [fvE, hr]
theorem X_getR {q : Nat} (K : CLok ci C T N) (hk : k < h.1.1) (ho : h.1.2 k = (ci, N)) (hj : j < N) (hr : isR ci j = true) (hq : h.2.2.2 k j = some q) (hw : Cond.fieldLink M.1.cls index (T j).1 (T j).2.1 (T j).2.2.1 ∈ TBL) (hd : decode M.2.1 pc = .ok (.getfield index, 3)) (kk : X g M d nc ns post (pc + 3) L (.ref q :: st) h) : X g M d nc ns post pc L (.ref k :: st) h := by
  intro p e R s m args below meth c D dA A Q ad H locs cells slots ls hM hW hc hs hl ret
  obtain ⟨hcl, hc10, hin, hty, hnm⟩ := K
  refine va_get (cl := clX) hM.1.1 hM.1.2.1 hM.1.2.2.2.2 hin hM.1.2.2.2.1 hM.2.2.1 hW.1 k (by rw [wl_get hk, cE_obj ho hc10]) hcl j hj (hM.1.2.2.2.2 _ hw) (fun _ q => q) (v := .ref (ad q)) ?_ hd (kk p e R s m args below meth c D dA A Q ad H locs cells slots ls hM hW hc hs hl ret)
  rw [fs_get hj]
  simp [fvE, hr, hq, va_rf]
theorem wl_wI {dA : Nat → ClassId} {ad : Nat → Nat} {x : Int32} {e : va_E} (he : e = cE dA ad (wI h k j x) k) : (wl dA ad h).set k (ad k, e) = wl dA ad (wI h k j x) := wl_set rfl he (fun _ q => cE_wI_ne q)
theorem wl_wJ {dA : Nat → ClassId} {ad : Nat → Nat} {x : Int64} {e : va_E} (he : e = cE dA ad (wJ h k j x) k) : (wl dA ad h).set k (ad k, e) = wl dA ad (wJ h k j x) := wl_set rfl he (fun _ q => cE_wJ_ne q)
theorem wl_wR {dA : Nat → ClassId} {ad : Nat → Nat} {x : Option Nat} {e : va_E} (he : e = cE dA ad (wR h k j x) k) : (wl dA ad h).set k (ad k, e) = wl dA ad (wR h k j x) := wl_set rfl he (fun _ q => cE_wR_ne q)
theorem fs_wI {ad : Nat → Nat} {x : Int32} (hr : isR ci j = false) : ((List.range N).map (fun j => fvE ad h k ci j)).set j (.int x) = (List.range N).map (fun i => fvE ad (wI h k j x) k ci i) := by
  apply range_set
  · simp [fvE, hr, wI, u2]
  · intro i hi
    simp [fvE, wI, u2, hi]
theorem fs_wR {ad : Nat → Nat} {q : Nat} (hr : isR ci j = true) : ((List.range N).map (fun j => fvE ad h k ci j)).set j (.ref (ad q)) = (List.range N).map (fun i => fvE ad (wR h k j (some q)) k ci i) := by
  apply range_set
  · simp [fvE, hr, wR, u2, va_rf]
  · intro i hi
    simp [fvE, wR, u2, hi]
theorem X_putI {x : Int32} (K : CLok ci C T N) (hk : k < h.1.1) (ho : h.1.2 k = (ci, N)) (hj : j < N) (hr : tyX ci j = .int) (hf : (T j).2.2.2 = false) (hw : Cond.fieldLink M.1.cls index (T j).1 (T j).2.1 (T j).2.2.1 ∈ TBL) (hd : decode M.2.1 pc = .ok (.putfield index, 3)) (kk : X g M d nc ns post (pc + 3) L st (wI h k j x)) : X g M d nc ns post pc L (.int x :: .ref k :: st) h := by
  intro p e R s m args below meth c D dA A Q ad H locs cells slots ls hM hW hc hs hl ret
  obtain ⟨hcl, hc10, hin, hty, hnm⟩ := K
  have hr' : isR ci j = false := by unfold isR; rw [hr]; rfl
  have e0 : (wl dA ad h)[k]? = some (ad k, .inr (ci, (List.range N).map (fun j => fvE ad h k ci j))) := by rw [wl_get hk, cE_obj ho hc10]
  have e1 : (wl dA ad h).set k (ad k, .inr (ci, ((List.range N).map (fun j => fvE ad h k ci j)).set j (.int x))) = wl dA ad (wI h k j x) := wl_wI (by rw [fs_wI hr', cE_obj (h := wI h k j x) ho hc10])
  refine va_put (cl := clX) (ty := .int) (v := .int x) hM.1.1 hM.1.2.1 hM.1.2.2.2.2 hin (tyX ci) hty hnm hM.1.2.2.2.1 hM.2.2.1 hW.1 hW.2.1 hW.2.2 k e0 hcl j hj (hM.1.2.2.2.2 _ hw) (fun _ q => q) hf (by rw [← hr]; exact hty j hj) rfl rfl (by simp; exact hj) hd (fun H1 locs1 hP hD hS => ?_)
  rw [e1] at hP hD
  exact kk p e R s m args below meth c D dA A Q ad H1 locs1 cells slots ls hM ⟨hP, hD, hS⟩ hc hs hl ret
theorem X_putIF {x : Int32} (K : CLok ci C T N) (hk : k < h.1.1) (ho : h.1.2 k = (ci, N)) (hj : j < N) (hr : tyX ci j = .int) (hf : (T j).2.2.2 = true) (hi : M.1.name = "<init>") (hdc : (T j).1 = M.1.cls) (hw : Cond.fieldLink M.1.cls index (T j).1 (T j).2.1 (T j).2.2.1 ∈ TBL) (hd : decode M.2.1 pc = .ok (.putfield index, 3)) (kk : X g M d nc ns post (pc + 3) L st (wI h k j x)) : X g M d nc ns post pc L (.int x :: .ref k :: st) h := by
  intro p e R s m args below meth c D dA A Q ad H locs cells slots ls hM hW hc hs hl ret
  obtain ⟨hcl, hc10, hin, hty, hnm⟩ := K
  have hr' : isR ci j = false := by unfold isR; rw [hr]; rfl
  have e0 : (wl dA ad h)[k]? = some (ad k, .inr (ci, (List.range N).map (fun j => fvE ad h k ci j))) := by rw [wl_get hk, cE_obj ho hc10]
  have e1 : (wl dA ad h).set k (ad k, .inr (ci, ((List.range N).map (fun j => fvE ad h k ci j)).set j (.int x))) = wl dA ad (wI h k j x) := wl_wI (by rw [fs_wI hr', cE_obj (h := wI h k j x) ho hc10])
  refine va_putF (cl := clX) (ty := .int) (v := .int x) hM.1.1 hM.1.2.1 hM.1.2.2.2.2 hin (tyX ci) hty hnm hM.1.2.2.2.1 hM.2.2.1 hW.1 hW.2.1 hW.2.2 k e0 hcl j hj (hM.1.2.2.2.2 _ hw) (fun _ q => q) hf (hM.2.2.2.1 hi) hdc (by rw [← hr]; exact hty j hj) rfl rfl (by simp; exact hj) hd (fun H1 locs1 hP hD hS => ?_)
  rw [e1] at hP hD
  exact kk p e R s m args below meth c D dA A Q ad H1 locs1 cells slots ls hM ⟨hP, hD, hS⟩ hc hs hl ret
theorem X_putR {q : Nat} (K : CLok ci C T N) (hk : k < h.1.1) (ho : h.1.2 k = (ci, N)) (hj : j < N) (hr : isR ci j = true) (hn : ∀ a, narrow (tyX ci j) (.ref a) = .ref a ∧ fits (tyX ci j) (.ref a) = true) (hf : (T j).2.2.2 = false) (hw : Cond.fieldLink M.1.cls index (T j).1 (T j).2.1 (T j).2.2.1 ∈ TBL) (hd : decode M.2.1 pc = .ok (.putfield index, 3)) (kk : X g M d nc ns post (pc + 3) L st (wR h k j (some q))) : X g M d nc ns post pc L (.ref q :: .ref k :: st) h := by
  intro p e R s m args below meth c D dA A Q ad H locs cells slots ls hM hW hc hs hl ret
  obtain ⟨hcl, hc10, hin, hty, hnm⟩ := K
  have e0 : (wl dA ad h)[k]? = some (ad k, .inr (ci, (List.range N).map (fun j => fvE ad h k ci j))) := by rw [wl_get hk, cE_obj ho hc10]
  have e1 : (wl dA ad h).set k (ad k, .inr (ci, ((List.range N).map (fun j => fvE ad h k ci j)).set j (.ref (ad q)))) = wl dA ad (wR h k j (some q)) := wl_wR (by rw [fs_wR hr, cE_obj (h := wR h k j (some q)) ho hc10])
  refine va_put (cl := clX) (ty := tyX ci j) (v := .ref (ad q)) hM.1.1 hM.1.2.1 hM.1.2.2.2.2 hin (tyX ci) hty hnm hM.1.2.2.2.1 hM.2.2.1 hW.1 hW.2.1 hW.2.2 k e0 hcl j hj (hM.1.2.2.2.2 _ hw) (fun _ q => q) hf (hty j hj) (hn _).1 (hn _).2 (by simp; exact hj) hd (fun H1 locs1 hP hD hS => ?_)
  rw [e1] at hP hD
  exact kk p e R s m args below meth c D dA A Q ad H1 locs1 cells slots ls hM ⟨hP, hD, hS⟩ hc hs hl ret
theorem X_putRF {q : Nat} (K : CLok ci C T N) (hk : k < h.1.1) (ho : h.1.2 k = (ci, N)) (hj : j < N) (hr : isR ci j = true) (hn : ∀ a, narrow (tyX ci j) (.ref a) = .ref a ∧ fits (tyX ci j) (.ref a) = true) (hf : (T j).2.2.2 = true) (hi : M.1.name = "<init>") (hdc : (T j).1 = M.1.cls) (hw : Cond.fieldLink M.1.cls index (T j).1 (T j).2.1 (T j).2.2.1 ∈ TBL) (hd : decode M.2.1 pc = .ok (.putfield index, 3)) (kk : X g M d nc ns post (pc + 3) L st (wR h k j (some q))) : X g M d nc ns post pc L (.ref q :: .ref k :: st) h := by
  intro p e R s m args below meth c D dA A Q ad H locs cells slots ls hM hW hc hs hl ret
  obtain ⟨hcl, hc10, hin, hty, hnm⟩ := K
  have e0 : (wl dA ad h)[k]? = some (ad k, .inr (ci, (List.range N).map (fun j => fvE ad h k ci j))) := by rw [wl_get hk, cE_obj ho hc10]
  have e1 : (wl dA ad h).set k (ad k, .inr (ci, ((List.range N).map (fun j => fvE ad h k ci j)).set j (.ref (ad q)))) = wl dA ad (wR h k j (some q)) := wl_wR (by rw [fs_wR hr, cE_obj (h := wR h k j (some q)) ho hc10])
  refine va_putF (cl := clX) (ty := tyX ci j) (v := .ref (ad q)) hM.1.1 hM.1.2.1 hM.1.2.2.2.2 hin (tyX ci) hty hnm hM.1.2.2.2.1 hM.2.2.1 hW.1 hW.2.1 hW.2.2 k e0 hcl j hj (hM.1.2.2.2.2 _ hw) (fun _ q => q) hf (hM.2.2.2.1 hi) hdc (hty j hj) (hn _).1 (hn _).2 (by simp; exact hj) hd (fun H1 locs1 hP hD hS => ?_)
  rw [e1] at hP hD
  exact kk p e R s m args below meth c D dA A Q ad H1 locs1 cells slots ls hM ⟨hP, hD, hS⟩ hc hs hl ret
theorem u2_upd {α : Type} (f : Nat → Nat → α) (x : α) : u2 f k j x k = fun b => if b = j then x else f k b := by
  funext b
  simp [u2]
theorem upd_eq (f : Nat → Int32) (j : Nat) (x : Int32) : upd f j x = fun b => if b = j then x else f b := rfl
theorem updL_eq (f : Nat → Int64) (j : Nat) (x : Int64) : vp_updL f j x = fun b => if b = j then x else f b := rfl
theorem X_iald {i : Int32} (hk : k < h.1.1) (ho : h.1.2 k = (10, N)) (hi : vp_in i N) (hd : decode M.2.1 pc = .ok (.iaload, 1)) (kk : X g M d nc ns post (pc + 1) L (.int (h.2.1 k i.toNatClampNeg) :: st) h) : X g M d nc ns post pc L (.int i :: .ref k :: st) h := by
  intro p e R s m args below meth c D dA A Q ad H locs cells slots ls hM hW hc hs hl ret
  exact va_iald (cl := clX) hM.1.1 hM.1.2.1 hM.2.2.1 hW.1 k 0 (by rw [wl_get hk, cE_arr ho (by decide) (by decide) (by decide)]) rfl hi hd (kk p e R s m args below meth c D dA A Q ad H locs cells slots ls hM hW hc hs hl ret)
theorem X_bald {i : Int32} (hk : k < h.1.1) (ho : h.1.2 k = (11, N)) (hi : vp_in i N) (hd : decode M.2.1 pc = .ok (.baload, 1)) (kk : X g M d nc ns post (pc + 1) L (.int (h.2.1 k i.toNatClampNeg) :: st) h) : X g M d nc ns post pc L (.int i :: .ref k :: st) h := by
  intro p e R s m args below meth c D dA A Q ad H locs cells slots ls hM hW hc hs hl ret
  exact va_bald (cl := clX) hM.1.1 hM.1.2.1 hM.2.2.1 hW.1 k 1 (by rw [wl_get hk, cE_arr ho (by decide) (by decide) (by decide)]) rfl hi hd (kk p e R s m args below meth c D dA A Q ad H locs cells slots ls hM hW hc hs hl ret)
theorem X_zald {i : Int32} (hk : k < h.1.1) (ho : h.1.2 k = (12, N)) (hi : vp_in i N) (hd : decode M.2.1 pc = .ok (.baload, 1)) (kk : X g M d nc ns post (pc + 1) L (.int (h.2.1 k i.toNatClampNeg) :: st) h) : X g M d nc ns post pc L (.int i :: .ref k :: st) h := by
  intro p e R s m args below meth c D dA A Q ad H locs cells slots ls hM hW hc hs hl ret
  exact va_zald (cl := clX) hM.1.1 hM.1.2.1 hM.2.2.1 hW.1 k 2 (by rw [wl_get hk, cE_arr ho (by decide) (by decide) (by decide)]) rfl hi hd (kk p e R s m args below meth c D dA A Q ad H locs cells slots ls hM hW hc hs hl ret)
theorem X_lald {i : Int32} (hk : k < h.1.1) (ho : h.1.2 k = (13, N)) (hi : vp_in i N) (hd : decode M.2.1 pc = .ok (.laload, 1)) (kk : X g M d nc ns post (pc + 1) L (.long (h.2.2.1 k i.toNatClampNeg) :: st) h) : X g M d nc ns post pc L (.int i :: .ref k :: st) h := by
  intro p e R s m args below meth c D dA A Q ad H locs cells slots ls hM hW hc hs hl ret
  exact va_lald (cl := clX) hM.1.1 hM.1.2.1 hM.2.2.1 hW.1 k 3 (by rw [wl_get hk, cE_long ho]) rfl hi hd (kk p e R s m args below meth c D dA A Q ad H locs cells slots ls hM hW hc hs hl ret)
theorem X_aald {i : Int32} {q : Nat} (hk : k < h.1.1) (ho : h.1.2 k = (14, N)) (hi : vp_in i N) (hq : h.2.2.2 k i.toNatClampNeg = some q) (hd : decode M.2.1 pc = .ok (.aaload, 1)) (kk : X g M d nc ns post (pc + 1) L (.ref q :: st) h) : X g M d nc ns post pc L (.int i :: .ref k :: st) h := by
  intro p e R s m args below meth c D dA A Q ad H locs cells slots ls hM hW hc hs hl ret
  have hlt : i.toNatClampNeg < N := Nat.not_le.mp fun q => hi (Or.inr q)
  have he : (wl dA ad h)[k]? = some (ad k, .inl (dA 14, N, .inr (.inr (.inr (.inr (fun j => (h.2.2.2 k j).map ad)))))) := by rw [wl_get hk, cE_refs ho]
  have hty : (tyl dA)[4]? = some (dA 14, .array .int) := rfl
  refine W.aald (v := .ref (ad q)) (ty := .array .int) hM.1.1 hM.1.2.1 (hW.1 k _ he) ((hM.2.2.1.2 4 _ hty).1 N (fun j => va_rf ((h.2.2.2 k j).map ad))) rfl (fun q => by cases q) (by show ¬ (i < 0 ∨ (arrV _ _ _).slots.size ≤ _); rw [arrV_size]; exact hi) ?_ rfl rfl hd (kk p e R s m args below meth c D dA A Q ad H locs cells slots ls hM hW hc hs hl ret)
  show (arrV _ _ _).slots[_]? = _
  rw [arrV_read _ _ hlt]
  show some (va_rf ((h.2.2.2 k i.toNatClampNeg).map ad)) = _
  rw [hq]
  rfl
theorem X_iast {i x : Int32} (hk : k < h.1.1) (ho : h.1.2 k = (10, N)) (hi : vp_in i N) (hd : decode M.2.1 pc = .ok (.iastore, 1)) (kk : X g M d nc ns post (pc + 1) L st (wI h k i.toNatClampNeg x)) : X g M d nc ns post pc L (.int x :: .int i :: .ref k :: st) h := by
  intro p e R s m args below meth c D dA A Q ad H locs cells slots ls hM hW hc hs hl ret
  refine va_iast (cl := clX) hM.1.1 hM.1.2.1 hM.2.2.1 hW.1 hW.2.1 hW.2.2 k 0 (by rw [wl_get hk, cE_arr ho (by decide) (by decide) (by decide)]) rfl hi hd (fun H1 locs1 hP hD hS => ?_)
  have e1 : ∀ e, e = cE dA ad (wI h k i.toNatClampNeg x) k → (wl dA ad h).set k (ad k, e) = wl dA ad (wI h k i.toNatClampNeg x) := fun e he => wl_wI he
  rw [e1 _ (by rw [cE_arr (h := wI h k i.toNatClampNeg x) ho (by decide) (by decide) (by decide)]; simp only [wI, u2_upd]; rfl)] at hP hD
  exact kk p e R s m args below meth c D dA A Q ad H1 locs1 cells slots ls hM ⟨hP, hD, hS⟩ hc hs hl ret
theorem X_bast {i x : Int32} (hk : k < h.1.1) (ho : h.1.2 k = (11, N)) (hi : vp_in i N) (hd : decode M.2.1 pc = .ok (.bastore, 1)) (kk : X g M d nc ns post (pc + 1) L st (wI h k i.toNatClampNeg (vp_nar .byte x))) : X g M d nc ns post pc L (.int x :: .int i :: .ref k :: st) h := by
  intro p e R s m args below meth c D dA A Q ad H locs cells slots ls hM hW hc hs hl ret
  refine va_bast (cl := clX) hM.1.1 hM.1.2.1 hM.2.2.1 hW.1 hW.2.1 hW.2.2 k 1 (by rw [wl_get hk, cE_arr ho (by decide) (by decide) (by decide)]) rfl hi hd (fun H1 locs1 hP hD hS => ?_)
  have e1 : ∀ e, e = cE dA ad (wI h k i.toNatClampNeg (vp_nar .byte x)) k → (wl dA ad h).set k (ad k, e) = wl dA ad (wI h k i.toNatClampNeg (vp_nar .byte x)) := fun e he => wl_wI he
  rw [e1 _ (by rw [cE_arr (h := wI h k i.toNatClampNeg (vp_nar .byte x)) ho (by decide) (by decide) (by decide)]; simp only [wI, u2_upd]; rfl)] at hP hD
  exact kk p e R s m args below meth c D dA A Q ad H1 locs1 cells slots ls hM ⟨hP, hD, hS⟩ hc hs hl ret
theorem X_zast {i x : Int32} (hk : k < h.1.1) (ho : h.1.2 k = (12, N)) (hi : vp_in i N) (hd : decode M.2.1 pc = .ok (.bastore, 1)) (kk : X g M d nc ns post (pc + 1) L st (wI h k i.toNatClampNeg (vp_nar .boolean x))) : X g M d nc ns post pc L (.int x :: .int i :: .ref k :: st) h := by
  intro p e R s m args below meth c D dA A Q ad H locs cells slots ls hM hW hc hs hl ret
  refine va_zast (cl := clX) hM.1.1 hM.1.2.1 hM.2.2.1 hW.1 hW.2.1 hW.2.2 k 2 (by rw [wl_get hk, cE_arr ho (by decide) (by decide) (by decide)]) rfl hi hd (fun H1 locs1 hP hD hS => ?_)
  have e1 : ∀ e, e = cE dA ad (wI h k i.toNatClampNeg (vp_nar .boolean x)) k → (wl dA ad h).set k (ad k, e) = wl dA ad (wI h k i.toNatClampNeg (vp_nar .boolean x)) := fun e he => wl_wI he
  rw [e1 _ (by rw [cE_arr (h := wI h k i.toNatClampNeg (vp_nar .boolean x)) ho (by decide) (by decide) (by decide)]; simp only [wI, u2_upd]; rfl)] at hP hD
  exact kk p e R s m args below meth c D dA A Q ad H1 locs1 cells slots ls hM ⟨hP, hD, hS⟩ hc hs hl ret
theorem X_last {i : Int32} {x : Int64} (hk : k < h.1.1) (ho : h.1.2 k = (13, N)) (hi : vp_in i N) (hd : decode M.2.1 pc = .ok (.lastore, 1)) (kk : X g M d nc ns post (pc + 1) L st (wJ h k i.toNatClampNeg x)) : X g M d nc ns post pc L (.long x :: .int i :: .ref k :: st) h := by
  intro p e R s m args below meth c D dA A Q ad H locs cells slots ls hM hW hc hs hl ret
  refine va_last (cl := clX) hM.1.1 hM.1.2.1 hM.2.2.1 hW.1 hW.2.1 hW.2.2 k 3 (by rw [wl_get hk, cE_long ho]) rfl hi hd (fun H1 locs1 hP hD hS => ?_)
  have e1 : ∀ e, e = cE dA ad (wJ h k i.toNatClampNeg x) k → (wl dA ad h).set k (ad k, e) = wl dA ad (wJ h k i.toNatClampNeg x) := fun e he => wl_wJ he
  rw [e1 _ (by rw [cE_long (h := wJ h k i.toNatClampNeg x) ho]; simp only [wJ, u2_upd]; rfl)] at hP hD
  exact kk p e R s m args below meth c D dA A Q ad H1 locs1 cells slots ls hM ⟨hP, hD, hS⟩ hc hs hl ret
/-- the script -/
theorem X_sld {i : Int32} (hi : vp_in i g.2.1) (hd : decode M.2.1 pc = .ok (.iaload, 1)) (kk : X g M d nc ns post (pc + 1) L (.int (g.2.2 i.toNatClampNeg) :: st) h) : X g M d nc ns post pc L (.int i :: .ref (SB + 2) :: st) h := by
  intro p e R s m args below meth c D dA A Q ad H locs cells slots ls hM hW hc hs hl ret
  obtain ⟨e1, e2, e3, e4, e5, e6⟩ := hM.2.2.2.2.2.2
  exact va_sld hM.1.1 hM.1.2.1 e4 e5 e6 hW.2.2 hi hd (kk p e R s m args below meth c D dA A Q ad H locs cells slots ls hM hW hc hs hl ret)
theorem X_slen (hd : decode M.2.1 pc = .ok (.arraylength, 1)) (kk : X g M d nc ns post (pc + 1) L (.int (Int32.ofNat g.2.1) :: st) h) : X g M d nc ns post pc L (.ref (SB + 2) :: st) h := by
  intro p e R s m args below meth c D dA A Q ad H locs cells slots ls hM hW hc hs hl ret
  obtain ⟨e1, e2, e3, e4, e5, e6⟩ := hM.2.2.2.2.2.2
  exact va_slen hM.1.1 hM.1.2.1 e4 e5 e6 hW.2.2 hd (kk p e R s m args below meth c D dA A Q ad H locs cells slots ls hM hW hc hs hl ret)
theorem X_max {x y : Int32} (hd1 : 1 ≤ d) (hr : (st.map fun v => v.category).sum ≤ 8) (hw : Cond.methodLink M.1.cls index Lib.Math.max.name ∈ TBL) (hd : decode M.2.1 pc = .ok (.invokestatic index, 3)) (kk : X g M d nc ns post (pc + 3) L (.int (if x < y then y else x) :: st) h) : X g M d nc ns post pc L (.int y :: .int x :: st) h := by
  intro p e R s m args below meth c D dA A Q ad H locs cells slots ls hM hW hc hs hl ret
  have ht := hM.1.2.2.2.2
  obtain ⟨hf1, hf2⟩ := hM.2.2.2.2.1
  have hsum : ((st.map (tr ad)).map fun v => v.category).sum ≤ 8 := by
    rw [List.map_map]
    have : ((fun v : Value => v.category) ∘ tr ad) = fun v => v.category := funext (fun v => tr_cat ad v)
    rw [this]
    exact hr
  exact va_mmax hM.1.1 hM.1.2.1 (by rw [hM.1.2.2.1]; exact hl.1.symm) hM.1.2.2.2.1 (ht _ hw) (ht _ (by decide +kernel)) (ht _ (by decide +kernel)) (ht _ (by decide +kernel)) (by omega) (by omega) (by omega) (by omega) hd (kk p e R s m args below meth c D dA A Q ad H locs cells slots ls hM hW hc hs hl ret)
theorem X_min {x y : Int32} (hd1 : 1 ≤ d) (hr : (st.map fun v => v.category).sum ≤ 8) (hw : Cond.methodLink M.1.cls index Lib.Math.min.name ∈ TBL) (hd : decode M.2.1 pc = .ok (.invokestatic index, 3)) (kk : X g M d nc ns post (pc + 3) L (.int (if y < x then y else x) :: st) h) : X g M d nc ns post pc L (.int y :: .int x :: st) h := by
  intro p e R s m args below meth c D dA A Q ad H locs cells slots ls hM hW hc hs hl ret
  have ht := hM.1.2.2.2.2
  obtain ⟨hf1, hf2⟩ := hM.2.2.2.2.1
  have hsum : ((st.map (tr ad)).map fun v => v.category).sum ≤ 8 := by
    rw [List.map_map]
    have : ((fun v : Value => v.category) ∘ tr ad) = fun v => v.category := funext (fun v => tr_cat ad v)
    rw [this]
    exact hr
  exact va_mmin hM.1.1 hM.1.2.1 (by rw [hM.1.2.2.1]; exact hl.1.symm) hM.1.2.2.2.1 (ht _ hw) (ht _ (by decide +kernel)) (ht _ (by decide +kernel)) (ht _ (by decide +kernel)) (by omega) (by omega) (by omega) (by omega) hd (kk p e R s m args below meth c D dA A Q ad H locs cells slots ls hM hW hc hs hl ret)
end XH
end
section
theorem TBL_good : ∀ w ∈ TBL, (w.onTables && w.keeps) = true ∨ ∃ ty, w = .arrayClass ty := fun w hw => good_of_word (List.mem_filter.mp hw).2
theorem good_TBL {ws : List Cond} (hw : ∀ w ∈ ws, w ∈ TBL) : GoodIn TBL ws := fun w h => ⟨hw w h, TBL_good w (hw w h)⟩
theorem nst_warm {w : Cond} (hw : w ∈ NST) {s U : State} (hW : s.WarmedH U.vm) (h : va_Nw w s) : va_Nw w U := by
  have h2 := (List.mem_filter.mp hw).2
  cases w <;> first | exact va_Nw.warmM hW h | cases h2
def wsM (M : Mth) : List Cond := .code M.1 M.2.1 M.2.2.1 M.2.2.2 :: TBL
def rmX (d mc ms : Nat) : Room := { frames := d, cells := mc, slots := ms, locals := 64 * d }
def PRE (g : GP) (D : va_G) (dA : Nat → ClassId) (ad : Nat → Nat) (h : PH) (A : Nat → Prop) (U : State) : Prop :=
  va_P D clX (wl dA ad h) U.heap ∧ va_D (fun _ => True) (wl dA ad h) ∧ va_K D clX (tyl dA) U ∧ (∀ w ∈ NST, va_Nw w U) ∧ EXT g ad A U
def QCN (D : va_G) (dA : Nat → ClassId) (ad : Nat → Nat) (h : PH) (post : Option Value → PH → Prop) (A : Nat → Prop) : Array Value → State → Outcome → State → Prop := fun _ st oc t =>
  (∃ (v : Option Value) (h' : PH) (ad' : Nat → Nat), oc = .returned (v.map (tr ad')) ∧ post v h' ∧ AG ad ad' h.1.1 h'.1.1 ∧ va_P D clX (wl dA ad' h') t.heap ∧ va_D A (wl dA ad' h')) ∧ va_F A st t
/-- A METHOD'S CONTRACT: with these arguments, from this heap, it returns with 'post' -/
def CON (g : GP) (M : Mth) (d mc ms : Nat) (av : List Value) (h : PH) (post : Option Value → PH → Prop) : Prop :=
  ∀ (D : va_G) (dA : Nat → ClassId) (ad : Nat → Nat) (sz : Nat), Met g.1 M.1 (wsM M) (rmX d mc ms) (va_Pc (av.map (tr ad)) (fun U => U.heap.size = sz ∧ PRE g D dA ad h (va_A (wl dA ad h) sz) U)) (QCN D dA ad h post (va_A (wl dA ad h) sz)) mc ms (va_A (wl dA ad h) sz)
theorem lg_sl_tr (ad : Nat → Nat) (av : List Value) : (lg_sl (av.map (tr ad))).length = (lg_sl av).length := by
  induction av with
  | nil => rfl
  | cons a l ih =>
    cases a <;> simp_all [lg_sl, tr, Value.category]
theorem lv_args_tr (ad : Nat → Nat) (av : List Value) : ∀ i, lv_args i (av.map (tr ad)) = (lv_args i av).map (trL ad) := by
  induction av with
  | nil => intro i; rfl
  | cons a l ih =>
    intro i
    show (i, tr ad a) :: lv_args (if (tr ad a).category = 2 then i + 2 else i + 1) (l.map (tr ad)) = _
    rw [ih, tr_cat]
    rfl
theorem CON.of {g : GP} {M : Mth} {d mc ms : Nat} {av : List Value} {h : PH} {post : Option Value → PH → Prop} (hpl : plainName M.1.cls = true) (hlen : (lg_sl av).length ≤ M.2.2.1) (hX : X g M d mc ms post 0 (lv_args 0 av) [] h) : CON g M d mc ms av h post := by
  intro D dA ad sz
  refine Met.ofW (cc := M.2.1) (maxL := M.2.2.1) (ret := M.2.2.2) hpl rfl ?_
  intro p e s m args below meth c s₁ B hml hv
  obtain ⟨rfl, hsz, hP, hD0, hK, hN, hE⟩ := hv
  have hx := B.exec
  have hb := B.bytes
  have hr := B.returns
  have hts := atoms_spec (ws := wsM M) B.pre
  have hown : s.vm.findClass M.1.cls = some m.cls := findClass_of_methodNamed B.named
  have hlocks := B.notSynchronized
  have hin : meth.name = M.1.name := (name_of_methodNamed B.named B.method).1
  subst hsz
  have hD := hD0.self (sz := s.heap.size)
  have hA : ∀ q : Nat, s.heap.size ≤ q → va_A (wl dA ad h) s.heap.size q := fun q h => Or.inr h
  have hl := lv_entry (av.map (tr ad)) (n := M.2.2.1) (by rw [lg_sl_tr]; exact hlen)
  rw [lg_entry_eq]
  generalize (lg_sl (av.map (tr ad)) ++ List.replicate (M.2.2.1 - (lg_sl (av.map (tr ad))).length) Slot.unset).toArray = ls at hl ⊢
  rw [lv_args_tr] at hl
  refine hX p e (rmX d mc ms) s m _ below meth c D dA _ _ ad s.heap [] 0 0 ls ⟨⟨hx, hb, hml, hown, fun w hw => hts w (List.mem_cons_of_mem _ hw)⟩, hN, hK, fun q => hin.trans q, ⟨Nat.le_refl _, Nat.le_refl _⟩, hA, hE⟩ ⟨hP, hD, va_S.rf⟩ (by show 0 + mc ≤ mc; omega) (by show 0 + ms ≤ ms; omega) hl ?_
  intro v h' ad' H' locs' cells' slots' ls' pc' ri hd hri hp hag hw hc hs
  refine W.widen (k := mc) (n := ms) hc hs ?_
  rcases hri with ⟨hr1, rfl, rfl⟩ | ⟨ty, x, hr1, rfl, rfl, hn⟩ | ⟨x, hr1, rfl, rfl⟩
  · exact W.vret hx hb (hr.trans hr1) (fun t ht hWm => ⟨⟨none, h', ad', rfl, hp, hag, by rw [ht]; exact hw.1, hw.2.1⟩, hw.2.2.F ht⟩) hw.2.2.2.2 hd
  · exact W.zret hx hb (hr.trans hr1) hn (fun t ht hWm => ⟨⟨some (.int x), h', ad', rfl, hp, hag, by rw [ht]; exact hw.1, hw.2.1⟩, hw.2.2.F ht⟩) hw.2.2.2.2 hd
  · exact W.lret hx hb (hr.trans hr1) (fun t ht hWm => ⟨⟨some (.long x), h', ad', rfl, hp, hag, by rw [ht]; exact hw.1, hw.2.1⟩, hw.2.2.F ht⟩) hw.2.2.2.2 hd
theorem CON.mono {g : GP} {M : Mth} {d mc ms : Nat} {av : List Value} {h : PH} {post post' : Option Value → PH → Prop} (hc : CON g M d mc ms av h post) (hp : ∀ v h', post v h' → post' v h') : CON g M d mc ms av h post' := by
  intro D dA ad sz p e ha hcx hk s m args below hf h1 h2 h3
  obtain ⟨k, o, a1, a2, a3, ⟨⟨⟨v, h', ad', q1, q2, q3⟩, q4⟩, q5⟩⟩ := hc D dA ad sz p e ha hcx hk s m args below hf h1 h2 h3
  exact ⟨k, o, a1, a2, a3, ⟨⟨⟨v, h', ad', q1, hp _ _ q2, q3⟩, q4⟩, q5⟩⟩
section CA
variable {p : Program} {l : Launch} {e : Env} {R : Room} {s : State} {m : MethodId} {args : Array Value} {below : List Frame} {meth : Method} {c : Code} {H : Heap} {locs : List Loc} {cells slots : Nat} {Q : State → Prop}
variable {pc : Nat} {ls : Array Slot} {rest st0 : List Value} {a : Array Value} {A0 A1 : Nat → Prop} {H0 : Heap} {mc ms : Nat} {D : va_G} {dA : Nat → ClassId} {ad : Nat → Nat} {h : PH}
theorem W_after {postc : Option Value → PH → Prop} (hr : va_Run p l e R s m args below meth c H locs cells slots mc ms (F0 m pc ls st0) rest (QCN D dA ad h postc A1 a) A1) (hS : va_S A0 H0 H locs) (hA : ∀ q, A1 q → A0 q)
    (kk : ∀ (v : Option Value) (h' : PH) (ad' : Nat → Nat) (H1 : Heap) (locs1 : List Loc), postc v h' → AG ad ad' h.1.1 h'.1.1 → va_P D clX (wl dA ad' h') H1 → va_D A1 (wl dA ad' h') → va_S A0 H0 H1 locs1 → W p l e R s m args below meth c H1 locs1 (cells + mc) (slots + ms) Q (F0 m (pc + 3) ls ((v.map (tr ad')).toList ++ rest))) : W p l e R s m args below meth c H locs cells slots Q (F0 m pc ls st0) := by
  intro T hT X
  obtain ⟨v0, st₀, t, T', L, h0, X', hL, e1, e2, ⟨⟨v, h', ad', hv, hp, hag, hP1, hD1⟩, hz, hk⟩, st⟩ := hr T hT X
  cases hv
  rw [h0] at hz hk
  obtain ⟨t2, a1, b1⟩ := kk v h' ad' T'.heap (locs ++ L) hp hag (by rw [e1]; exact hP1) hD1
    ⟨Nat.le_trans hS.1 (by rw [e1]; exact hz), fun q h1 h2 => by rw [e1, hk q (Nat.lt_of_lt_of_le h1 hS.1) (fun z => h2 (hA q z))]; exact hS.2.1 q h1 h2, fun q hq => by
      rcases List.mem_append.mp hq with h | h
      · exact hS.2.2 q h
      · exact hA _ (hL q h)⟩ T' rfl X'
  exact ⟨t2, st t2 a1, b1⟩
end CA
/-- what a callee's contract wants of the caller's state -/
theorem PRE_of {g : GP} {M : Mth} {d : Nat} {p : Program} {R : Room} {s : State} {m : MethodId} {args : Array Value} {meth : Method} {c : Code} {D : va_G} {dA : Nat → ClassId} {A : Nat → Prop} {ad : Nat → Nat} {h : PH} {H : Heap} {locs : List Loc} (hM : MC g M d p R s m args meth c D dA A ad) (hW : WD D dA A ad h s H locs) :
    (∀ q, va_A (wl dA ad h) H.size q → A q) ∧ ∀ U : State, U.heap = H → s.WarmedH U.vm → U.heap.size = H.size ∧ PRE g D dA ad h (va_A (wl dA ad h) H.size) U := by
  obtain ⟨h1, hN, hK, h4, h5, hA, e1, e2, e3, e4, e5, e6⟩ := hM
  obtain ⟨hP, hD, hS⟩ := hW
  have hAA : ∀ q, va_A (wl dA ad h) H.size q → A q := by
    intro q hq
    rcases hq with ⟨k, e, he⟩ | hq
    · exact hD.2 k (q, e) he
    · exact hA q (Nat.le_trans hS.1 hq)
  refine ⟨hAA, fun U hU hWm => ⟨by rw [hU], by rw [hU]; exact hP, hD.weaken (fun _ _ _ _ => trivial), va_K.moved hWm.alike hK, fun w hw => nst_warm hw hWm (hN w hw), vk_R.warm hWm e1, ?_, ?_, ?_, ?_, ?_⟩⟩
  · rw [hU]
    exact vk_S.moved hWm.alike ((e2.kept hS.2.1).narrow hAA)
  · rw [hU]
    exact va_Z.moved hWm.alike ((e3.kept hS.2.1).narrow hAA)
  · rw [hU]
    exact va_X.moved hWm.alike (e4.kept (hS.2.1 _ e5 e6))
  · rw [hU]
    exact Nat.lt_of_lt_of_le e5 hS.1
  · exact fun q => e6 (hAA _ q)
theorem PRE_blind {g : GP} {D : va_G} {dA : Nat → ClassId} {ad : Nat → Nat} {h : PH} {av : List Value} {sz : Nat} : FrameBlind (va_Pc av (fun U => U.heap.size = sz ∧ PRE g D dA ad h (va_A (wl dA ad h) sz) U)) := by
  intro a U f mk q
  obtain ⟨q0, q1, qP, qD, qK, qN, e1, e2, e3, e4, e5, e6⟩ := q
  have hN : ∀ w ∈ NST, va_Nw w (U.calling f mk a) := by
    intro w hw
    have h2 := (List.mem_filter.mp hw).2
    have h3 := qN w hw
    cases w <;> first | exact va_Nw.same (u := U) (U := U.calling f mk a) rfl rfl h3 | cases h2
  exact ⟨q0, q1, qP, qD, va_K.moved (u := U) (U := U.calling f mk a) (Vm.Alike.refl U.vm) qK, hN, vk_R.same (u := U) (U := U.calling f mk a) rfl e1, vk_S.moved (u := U) (U := U.calling f mk a) (Vm.Alike.refl U.vm) e2, va_Z.moved (u := U) (U := U.calling f mk a) (Vm.Alike.refl U.vm) e3, va_X.moved (u := U) (U := U.calling f mk a) (Vm.Alike.refl U.vm) e4, e5, e6⟩
theorem sum_tr (ad : Nat → Nat) (st : List Value) : ((st.map (tr ad)).map fun v => v.category).sum = (st.map fun v => v.category).sum := by
  rw [List.map_map]
  have : ((fun v : Value => v.category) ∘ tr ad) = fun v => v.category := funext (fun v => tr_cat ad v)
  rw [this]
/-- the words of a call, by its kind -/
def CB (M' : Mth) (n : Nat) : Prop := Cond.initialized M'.1.cls ∈ TBL ∧ Cond.code M'.1 M'.2.1 M'.2.2.1 M'.2.2.2 ∈ TBL ∧ (M'.1.cls ≠ "java/lang/invoke/MethodHandle" ∧ M'.1.cls ≠ "java/lang/invoke/VarHandle" ∧ (parseMethodDescriptor M'.1.desc).map (fun d => d.parameters.length) = some n) ∧ M'.2.2.1 ≤ 45
theorem CB.ws {M' : Mth} {n : Nat} (h : CB M' n) : GoodIn TBL (wsM M') := good_TBL (fun w hw => by
  rcases List.mem_cons.mp hw with rfl | hw
  · exact h.2.1
  · exact hw)
section CX
variable {g : GP} {M M' : Mth} {d dc nc ns mc ms n : Nat} {post postc : Option Value → PH → Prop} {pc : Nat} {L : List (Nat × Value)} {st : List Value} {h : PH} {index : Nat}
/-- behind a call that makes no cell -/
theorem X_behind {p : Program} {e : Env} {R : Room} {s : State} {m : MethodId} {args : Array Value} {below : List Frame} {meth : Method} {c : Code} {D : va_G} {dA : Nat → ClassId} {A : Nat → Prop} {Q : State → Prop} {ad : Nat → Nat} {H : Heap} {locs : List Loc} {cells slots : Nat} {ls : Array Slot} {st0 : List Value} {a : Array Value}
    (hM : MC g M d p R s m args meth c D dA A ad) (hW : WD D dA A ad h s H locs) (hc : cells + nc ≤ R.cells) (hs : slots + ns ≤ R.slots) (hl : lv_has ls M.2.2.1 (L.map (trL ad)))
    (ret : ∀ (v : Option Value) (h' : PH) (ad' : Nat → Nat) (H' : Heap) (locs' : List Loc) (cells' slots' : Nat) (ls' : Array Slot) (pc' : Nat) (ri : Instr), decode M.2.1 pc' = .ok (ri, 1) → RI M.2.2.2 ri v → post v h' → AG ad ad' h.1.1 h'.1.1 → WD D dA A ad' h' s H' locs' → cells' ≤ R.cells → slots' ≤ R.slots → W p g.1 e R s m args below meth c H' locs' cells' slots' Q (F0 m pc' ls' ((v.map (tr ad')).toList)))
    (hr : va_Run p g.1 e R s m args below meth c H locs cells slots 0 0 (F0 m pc ls st0) (st.map (tr ad)) (QCN D dA ad h postc (va_A (wl dA ad h) H.size) a) (va_A (wl dA ad h) H.size))
    (hst : ∀ v h', postc v h' → h'.1.1 = h.1.1) (kk : ∀ v h', postc v h' → X g M d nc ns post (pc + 3) L (v.toList ++ st) h') : W p g.1 e R s m args below meth c H locs cells slots Q (F0 m pc ls st0) := by
  have hAA := (PRE_of hM hW).1
  refine W_after hr hW.2.2 hAA (fun v h' ad' H1 locs1 hp hag hP1 hD1 hS1 => ?_)
  have hn := hst v h' hp
  have had : ad' = ad := by
    funext k
    exact hag.2 k (by rw [hn]; omega)
  subst had
  have e2 : (v.map (tr ad')).toList ++ st.map (tr ad') = (v.toList ++ st).map (tr ad') := by
    cases v <;> simp
  rw [e2]
  refine kk v h' hp p e R s m args below meth c D dA A Q ad' H1 locs1 (cells + 0) (slots + 0) ls hM ⟨hP1, hD1.weaken (fun _ q _ z => hAA _ z), hS1⟩ (by omega) (by omega) hl ?_
  intro v h2 ad2 H' locs' cells' slots' ls' pc' ri z1 z2 z3 z4 z5 z6 z7
  exact ret v h2 ad2 H' locs' cells' slots' ls' pc' ri z1 z2 z3 (by rw [← hn]; exact z4) z5 z6 z7
theorem X_callV {b : Nat} {av : List Value} {ci N : Nat} {T : u_T} (cb : CB M' n) (hl1 : Cond.methodLink M.1.cls index M'.1 ∈ TBL) (hl2 : Cond.instanceMethod M'.1 ∈ TBL) (hl3 : Cond.selects M'.1.cls M'.1 M'.1 ∈ TBL) (K : CLok ci M'.1.cls T N) (hb : b < h.1.1) (ho : h.1.2 b = (ci, N)) (hav : av.length = n) (hdd : dc + 1 ≤ d) (hsum : (st.map fun v => v.category).sum ≤ 8) (hd : decode M.2.1 pc = .ok (.invokevirtual index, 3))
    (hC : CON g M' dc 0 0 (.ref b :: av) h postc) (hst : ∀ v h', postc v h' → h'.1.1 = h.1.1) (kk : ∀ v h', postc v h' → X g M d nc ns post (pc + 3) L (v.toList ++ st) h') : X g M d nc ns post pc L (av.reverse ++ .ref b :: st) h := by
  intro p e R s m args below meth c D dA A Q ad H locs cells slots ls hM hW hc hs hl ret
  have ht := hM.1.2.2.2.2
  obtain ⟨hAA, hPRE⟩ := PRE_of hM hW
  obtain ⟨hf1, hf2⟩ := hM.2.2.2.2.1
  have hml := cb.2.2.2
  have hG : GoodIn TBL (wsV M.1.cls index M'.1.cls M'.1 (wsM M')) := good_TBL (fun w hw => by
    rcases List.mem_append.mp hw with hw | hw
    · simp only [List.mem_cons, List.not_mem_nil, or_false] at hw
      rcases hw with rfl | rfl | rfl | rfl
      · exact hl1
      · exact hl2
      · exact hl3
      · exact cb.1
    · exact (cb.ws w hw).1)
  have e0 : (av.reverse ++ .ref b :: st).map (tr ad) = (av.map (tr ad)).reverse ++ .ref (ad b) :: st.map (tr ad) := by
    rw [List.map_append, List.map_reverse]
    rfl
  rw [e0]
  refine X_behind hM hW hc hs hl ret (va_runV (As := av.map (tr ad)) (rest := st.map (tr ad)) ⟨hM.1.1, hM.1.2.1, hM.1.2.2.1, hM.1.2.2.2.1, ht⟩ (hC D dA ad H.size) (cwV n ht hG rfl rfl rfl ⟨rfl, cb.2.2.1⟩ ⟨by show dc + 1 ≤ R.frames; omega, by show 8 + (_ + 11) + 64 * dc ≤ R.locals; omega⟩) ⟨PRE_blind, ?_, fun U hU hWm => ⟨rfl, hPRE U hU hWm⟩⟩ rfl (by rw [List.length_map]; exact hav) hl.1 rfl (lv_room (by rw [sum_tr]; exact hsum)) hd ⟨by omega, by omega⟩) hst kk
  exact va_recv hM.2.2.1 hW.1 K.1 (q0 := b) (by rw [wl_get hb, cE_obj ho K.2.1])
theorem X_callS {av : List Value} (cb : CB M' n) (hl1 : Cond.methodLink M.1.cls index M'.1 ∈ TBL) (hl2 : Cond.static M'.1 ∈ TBL) (hav : av.length = n) (hdd : dc + 1 ≤ d) (hsum : (st.map fun v => v.category).sum ≤ 8) (hd : decode M.2.1 pc = .ok (.invokestatic index, 3))
    (hC : CON g M' dc 0 0 av h postc) (hst : ∀ v h', postc v h' → h'.1.1 = h.1.1) (kk : ∀ v h', postc v h' → X g M d nc ns post (pc + 3) L (v.toList ++ st) h') : X g M d nc ns post pc L (av.reverse ++ st) h := by
  intro p e R s m args below meth c D dA A Q ad H locs cells slots ls hM hW hc hs hl ret
  have ht := hM.1.2.2.2.2
  obtain ⟨hAA, hPRE⟩ := PRE_of hM hW
  obtain ⟨hf1, hf2⟩ := hM.2.2.2.2.1
  have hml := cb.2.2.2
  have hG : GoodIn TBL (va_wsS M.1.cls index M'.1 (wsM M')) := good_TBL (fun w hw => by
    rcases List.mem_append.mp hw with hw | hw
    · simp only [List.mem_cons, List.not_mem_nil, or_false] at hw
      rcases hw with rfl | rfl | rfl
      · exact hl1
      · exact hl2
      · exact cb.1
    · exact (cb.ws w hw).1)
  have e0 : (av.reverse ++ st).map (tr ad) = (av.map (tr ad)).reverse ++ st.map (tr ad) := by
    rw [List.map_append, List.map_reverse]
  rw [e0]
  exact X_behind hM hW hc hs hl ret (va_runS (As := av.map (tr ad)) (rest := st.map (tr ad)) ⟨hM.1.1, hM.1.2.1, hM.1.2.2.1, hM.1.2.2.2.1, ht⟩ (hC D dA ad H.size) (va_cwS n ht hG rfl rfl rfl cb.2.2.1 ⟨by show dc + 1 ≤ R.frames; omega, by show 8 + (_ + 11) + 64 * dc ≤ R.locals; omega⟩) ⟨PRE_blind, fun U hU hWm => ⟨rfl, hPRE U hU hWm⟩⟩ rfl (by rw [List.length_map]; exact hav) hl.1 rfl (lv_room (by rw [sum_tr]; exact hsum)) hd ⟨by omega, by omega⟩) hst kk
theorem X_callN {av : List Value} {host : String} (cb : CB M' n) (hl1 : Cond.methodLinkNest M.1.cls index M'.1 host ∈ NST) (hl2 : Cond.static M'.1 ∈ TBL) (hav : av.length = n) (hdd : dc + 1 ≤ d) (hsum : (st.map fun v => v.category).sum ≤ 8) (hd : decode M.2.1 pc = .ok (.invokestatic index, 3))
    (hC : CON g M' dc 0 0 av h postc) (hst : ∀ v h', postc v h' → h'.1.1 = h.1.1) (kk : ∀ v h', postc v h' → X g M d nc ns post (pc + 3) L (v.toList ++ st) h') : X g M d nc ns post pc L (av.reverse ++ st) h := by
  intro p e R s m args below meth c D dA A Q ad H locs cells slots ls hM hW hc hs hl ret
  have ht := hM.1.2.2.2.2
  obtain ⟨hAA, hPRE⟩ := PRE_of hM hW
  obtain ⟨hf1, hf2⟩ := hM.2.2.2.2.1
  have hml := cb.2.2.2
  have e0 : (av.reverse ++ st).map (tr ad) = (av.map (tr ad)).reverse ++ st.map (tr ad) := by
    rw [List.map_append, List.map_reverse]
  rw [e0]
  exact X_behind hM hW hc hs hl ret (va_runSN (As := av.map (tr ad)) (rest := st.map (tr ad)) ⟨hM.1.1, hM.1.2.1, hM.1.2.2.1, hM.1.2.2.2.1, ht⟩ (hC D dA ad H.size) ⟨va_cnB n ht cb.ws rfl rfl rfl (hM.2.1 _ hl1) (ht _ cb.1) cb.2.2.1 ⟨by show dc + 1 ≤ R.frames; omega, by show 8 + (_ + 11) + 64 * dc ≤ R.locals; omega⟩, ht _ hl2, trivial⟩ ⟨PRE_blind, fun U hU hWm => ⟨rfl, hPRE U hU hWm⟩⟩ rfl (by rw [List.length_map]; exact hav) hl.1 rfl (lv_room (by rw [sum_tr]; exact hsum)) hd ⟨by omega, by omega⟩) hst kk
end CX
end
section
/-! THE HEAP BEHIND THE CONSTRUCTORS: 193 cells whose kinds and references stay, but for the two books of the road -/
abbrev PS : Type := (Nat → Nat → Int32) × (Nat → Nat → Int64) × Nat × Nat
def KD0 : List (Nat × Nat) := [(8, 7), (7, 2), (11, 2000), (2, 16), (10, 8), (10, 8), (10, 8), (10, 8), (14, 8), (10, 3), (10, 3), (10, 3), (10, 3), (10, 3), (10, 3), (10, 3), (10, 3), (10, 6), (10, 6), (10, 6), (10, 6), (10, 6), (10, 6), (10, 6), (10, 60), (0, 5), (10, 300), (10, 300), (12, 300), (14, 8), (10, 60), (10, 60), (10, 60), (10, 60), (10, 60), (10, 60), (10, 60), (10, 60), (4, 9), (10, 32), (6, 5), (1, 14), (10, 8), (14, 6), (10, 60), (10, 60), (10, 60), (10, 60), (10, 60), (10, 60), (14, 6), (10, 60), (10, 60), (10, 60), (10, 60), (10, 60), (10, 60), (14, 6), (10, 60), (10, 60), (10, 60), (10, 60), (10, 60), (10, 60), (14, 6), (10, 60), (10, 60), (10, 60), (10, 60), (10, 60), (10, 60), (14, 6), (10, 60), (10, 60), (10, 60), (10, 60), (10, 60), (10, 60), (14, 6), (10, 60), (10, 60), (10, 60), (10, 60), (10, 60), (10, 60), (14, 6), (10, 60), (10, 60), (10, 60), (10, 60), (10, 60), (10, 60), (14, 8), (10, 60), (10, 60), (10, 60), (10, 60), (10, 60), (10, 60), (10, 60), (10, 60), (14, 5), (10, 60), (10, 60), (10, 60), (10, 60), (10, 60), (3, 12), (10, 6), (10, 6), (10, 6), (10, 6), (10, 6), (10, 3), (10, 3), (10, 3), (5, 9), (10, 20), (10, 20), (10, 20), (10, 20), (10, 20), (10, 400), (10, 32), (5, 9), (10, 20), (10, 20), (10, 20), (10, 20), (10, 20), (10, 400), (10, 32), (9, 80), (11, 2000), (11, 2000), (10, 403), (10, 403), (10, 403), (13, 403), (13, 14), (10, 2), (10, 40), (10, 40), (10, 40), (10, 40), (10, 40), (10, 40), (10, 2), (10, 400), (10, 400), (10, 400), (10, 400), (12, 400), (10, 1000), (10, 1000), (10, 48), (10, 8), (10, 8), (10, 8), (10, 8), (10, 24), (10, 6), (10, 6), (10, 6), (10, 6), (10, 6), (10, 6), (10, 6), (10, 60), (10, 300), (10, 300), (10, 300), (10, 360), (10, 360), (10, 360), (10, 360), (10, 360), (10, 360), (10, 360), (10, 480), (10, 300), (12, 480), (10, 6), (10, 6), (10, 6), (10, 6), (10, 5), (10, 8), (10, 500), (10, 6), (10, 6), (10, 6), (10, 6)]
def RF0 : List (List (Option Nat)) := [[some 1, some 38, some 3, some 25, some 41, some 116, some 124], [some 2, none], [], [none, some 4, some 5, some 6, some 7, some 8, none, some 17, some 18, some 19, some 20, some 21, some 22, some 23, none, some 24], [], [], [], [], [some 9, some 10, some 11, some 12, some 13, some 14, some 15, some 16], [], [], [], [], [], [], [], [], [], [], [], [], [], [], [], [], [none, some 26, some 27, some 28, some 29], [], [], [], [some 30, some 31, some 32, some 33, some 34, some 35, some 36, some 37], [], [], [], [], [], [], [], [], [some 40, some 39, none, none, none, none, none, none, none], [], [some 1, none, none, none, none], [some 3, some 25, some 107, some 42, some 43, some 50, some 57, some 64, some 71, some 78, some 85, some 92, some 101, none], [], [some 44, some 45, some 46, some 47, some 48, some 49], [], [], [], [], [], [], [some 51, some 52, some 53, some 54, some 55, some 56], [], [], [], [], [], [], [some 58, some 59, some 60, some 61, some 62, some 63], [], [], [], [], [], [], [some 65, some 66, some 67, some 68, some 69, some 70], [], [], [], [], [], [], [some 72, some 73, some 74, some 75, some 76, some 77], [], [], [], [], [], [], [some 79, some 80, some 81, some 82, some 83, some 84], [], [], [], [], [], [], [some 86, some 87, some 88, some 89, some 90, some 91], [], [], [], [], [], [], [some 93, some 94, some 95, some 96, some 97, some 98, some 99, some 100], [], [], [], [], [], [], [], [], [some 102, some 103, some 104, some 105, some 106], [], [], [], [], [], [some 3, none, none, some 108, some 109, some 110, none, some 111, some 112, some 113, some 114, some 115], [], [], [], [], [], [], [], [], [some 117, some 118, some 119, some 120, some 121, some 122, some 123, none, none], [], [], [], [], [], [], [], [some 125, some 126, some 127, some 128, some 129, some 130, some 131, none, none], [], [], [], [], [], [], [], [none, some 133, none, some 134, none, some 135, some 136, some 137, some 138, some 139, none, none, none, none, none, none, none, none, none, none, some 140, some 141, some 142, some 143, some 144, some 145, some 146, some 147, some 148, some 149, some 150, some 151, some 152, none, some 153, some 154, some 155, none, none, some 156, some 157, some 158, some 159, some 160, none, some 161, some 162, some 163, some 164, some 165, some 166, some 167, none, some 168, none, some 169, some 170, some 171, none, some 172, some 173, some 174, some 175, some 176, some 177, some 178, some 179, some 180, some 181, some 182, some 183, some 184, some 185, some 186, some 187, some 188, some 189, some 190, some 191, some 192], [], [], [], [], [], [], [], [], [], [], [], [], [], [], [], [], [], [], [], [], [], [], [], [], [], [], [], [], [], [], [], [], [], [], [], [], [], [], [], [], [], [], [], [], [], [], [], [], [], [], [], [], [], [], [], [], [], [], [], []]
def SH0 : Nat × (Nat → Nat × Nat) := (193, fun k => KD0.getD k (99, 0))
def RFs (bk dr : Nat) (k j : Nat) : Option Nat := if k = 0 then (if j = 5 then some bk else if j = 6 then some dr else (RF0.getD k []).getD j none) else (RF0.getD k []).getD j none
def HP (σ : PS) : PH := (SH0, σ.1, σ.2.1, RFs σ.2.2.1 σ.2.2.2)
def gi (σ : PS) (k j : Nat) : Int32 := σ.1 k j
def gl (σ : PS) (k j : Nat) : Int64 := σ.2.1 k j
def sI (σ : PS) (k j : Nat) (x : Int32) : PS := (u2 σ.1 k j x, σ.2)
def sJ (σ : PS) (k j : Nat) (x : Int64) : PS := (σ.1, u2 σ.2.1 k j x, σ.2.2)
def bkO (σ : PS) : Nat := σ.2.2.1
def drO (σ : PS) : Nat := σ.2.2.2
def sB (σ : PS) (q : Nat) : PS := (σ.1, σ.2.1, q, σ.2.2.2)
def sD (σ : PS) (q : Nat) : PS := (σ.1, σ.2.1, σ.2.2.1, q)
def isBk (b : Nat) : Bool := b == 116 || b == 124
def rw_ (q : Nat) (i : Int32) : Nat := q + 1 + i.toNatClampNeg
def inb (i : Int32) (n : Nat) : Bool := decide (0 ≤ i) && decide (i.toNatClampNeg < n)
def is01 (x : Int32) : Bool := x == 0 || x == 1
def gd {α : Type} (c : Bool) (o : Option α) : Option α := match c with
  | true => o
  | false => none
def hO {α : Type} (o : Option α) (P : α → Prop) : Prop := match o with
  | some a => P a
  | none => False
theorem hO_gd {α : Type} {c : Bool} {o : Option α} {P : α → Prop} (h : hO (gd c o) P) : c = true ∧ hO o P := by
  cases c
  · exact absurd h (by simp [gd, hO])
  · exact ⟨rfl, h⟩
theorem hO_t {α : Type} {c : Prop} {i : Decidable c} {A B : Option α} {P : α → Prop} (hc : c) (h : hO (@ite _ c i A B) P) : hO A P := by
  rw [if_pos hc] at h
  exact h
theorem hO_f {α : Type} {c : Prop} {i : Decidable c} {A B : Option α} {P : α → Prop} (hc : ¬ c) (h : hO (@ite _ c i A B) P) : hO B P := by
  rw [if_neg hc] at h
  exact h
theorem inb_in {i : Int32} {n : Nat} (h : inb i n = true) : vp_in i n := by
  unfold inb at h
  rw [Bool.and_eq_true, decide_eq_true_eq, decide_eq_true_eq] at h
  intro q
  rcases q with q | q
  · exact absurd h.1 (by rw [Int32.not_le]; exact q)
  · omega
theorem inb_lt {i : Int32} {n : Nat} (h : inb i n = true) : i.toNatClampNeg < n := by
  unfold inb at h
  rw [Bool.and_eq_true, decide_eq_true_eq, decide_eq_true_eq] at h
  exact h.2
theorem is01_n {x : Int32} (h : is01 x = true) : narrow .boolean (.int x) = .int x := by
  apply vp_nar_bool_01
  simpa [is01] using h
theorem bk_of {b : Nat} (h : isBk b = true) : b = 116 ∨ b = 124 := by
  simpa [isBk] using h
theorem bk_lt {b : Nat} (h : isBk b = true) : b < SH0.1 := by
  rcases bk_of h with rfl | rfl <;> decide
theorem bk_ob {b : Nat} (h : isBk b = true) : SH0.2 b = (5, 9) := by
  rcases bk_of h with rfl | rfl <;> rfl
theorem bk_rf {b : Nat} (h : isBk b = true) (bk dr j : Nat) (hj : j < 7) : RFs bk dr b j = some (b + 1 + j) := by
  rcases bk_of h with rfl | rfl <;> (rcases (show j = 0 ∨ j = 1 ∨ j = 2 ∨ j = 3 ∨ j = 4 ∨ j = 5 ∨ j = 6 by omega) with rfl | rfl | rfl | rfl | rfl | rfl | rfl) <;> rfl
theorem bka_lt {b : Nat} (h : isBk b = true) (j : Nat) (hj : j < 8) : b + j < SH0.1 := by
  rcases bk_of h with rfl | rfl <;> (show _ < 193; omega)
theorem bka_ob {b : Nat} (h : isBk b = true) (j : Nat) (n : Nat) (hj : SH0.2 (116 + j) = (10, n)) (h2 : SH0.2 (124 + j) = (10, n)) : SH0.2 (b + j) = (10, n) := by
  rcases bk_of h with rfl | rfl
  · exact hj
  · exact h2
theorem hp_sB (σ : PS) (q : Nat) : wR (HP σ) 0 5 (some q) = HP (sB σ q) := by
  unfold wR HP sB
  simp only [Prod.mk.injEq, true_and]
  funext a b
  unfold u2 RFs
  by_cases ha : a = 0
  · subst ha
    by_cases hb : b = 5 <;> simp [hb]
  · simp [ha]
theorem hp_sD (σ : PS) (q : Nat) : wR (HP σ) 0 6 (some q) = HP (sD σ q) := by
  unfold wR HP sD
  simp only [Prod.mk.injEq, true_and]
  funext a b
  unfold u2 RFs
  by_cases ha : a = 0
  · subst ha
    by_cases hb : b = 5
    · simp [hb]
    · by_cases h6 : b = 6 <;> simp [hb, h6]
  · simp [ha]
theorem gr8_lt {i : Int32} (h : inb i 8 = true) : rw_ 8 i < SH0.1 := by
  have := inb_lt h
  show 8 + 1 + i.toNatClampNeg < 193
  omega
theorem gr8_ob {i : Int32} (h : inb i 8 = true) : SH0.2 (rw_ 8 i) = (10, 3) := by
  have := inb_lt h
  unfold rw_
  generalize i.toNatClampNeg = j at this
  have : ∀ j, j < 8 → SH0.2 (8 + 1 + j) = (10, 3) := by decide
  exact this j (by assumption)
theorem gr8_rf {i : Int32} (bk dr : Nat) (h : inb i 8 = true) : RFs bk dr 8 i.toNatClampNeg = some (rw_ 8 i) := by
  have := inb_lt h
  unfold rw_
  generalize i.toNatClampNeg = j at this
  have : ∀ j, j < 8 → (RF0.getD 8 []).getD j none = some (8 + 1 + j) := by decide
  exact this j (by assumption)
theorem gr29_lt {i : Int32} (h : inb i 8 = true) : rw_ 29 i < SH0.1 := by
  have := inb_lt h
  show 29 + 1 + i.toNatClampNeg < 193
  omega
theorem gr29_ob {i : Int32} (h : inb i 8 = true) : SH0.2 (rw_ 29 i) = (10, 60) := by
  have := inb_lt h
  unfold rw_
  generalize i.toNatClampNeg = j at this
  have : ∀ j, j < 8 → SH0.2 (29 + 1 + j) = (10, 60) := by decide
  exact this j (by assumption)
theorem gr29_rf {i : Int32} (bk dr : Nat) (h : inb i 8 = true) : RFs bk dr 29 i.toNatClampNeg = some (rw_ 29 i) := by
  have := inb_lt h
  unfold rw_
  generalize i.toNatClampNeg = j at this
  have : ∀ j, j < 8 → (RF0.getD 29 []).getD j none = some (29 + 1 + j) := by decide
  exact this j (by assumption)
theorem gr43_lt {i : Int32} (h : inb i 6 = true) : rw_ 43 i < SH0.1 := by
  have := inb_lt h
  show 43 + 1 + i.toNatClampNeg < 193
  omega
theorem gr43_ob {i : Int32} (h : inb i 6 = true) : SH0.2 (rw_ 43 i) = (10, 60) := by
  have := inb_lt h
  unfold rw_
  generalize i.toNatClampNeg = j at this
  have : ∀ j, j < 6 → SH0.2 (43 + 1 + j) = (10, 60) := by decide
  exact this j (by assumption)
theorem gr43_rf {i : Int32} (bk dr : Nat) (h : inb i 6 = true) : RFs bk dr 43 i.toNatClampNeg = some (rw_ 43 i) := by
  have := inb_lt h
  unfold rw_
  generalize i.toNatClampNeg = j at this
  have : ∀ j, j < 6 → (RF0.getD 43 []).getD j none = some (43 + 1 + j) := by decide
  exact this j (by assumption)
theorem gr50_lt {i : Int32} (h : inb i 6 = true) : rw_ 50 i < SH0.1 := by
  have := inb_lt h
  show 50 + 1 + i.toNatClampNeg < 193
  omega
theorem gr50_ob {i : Int32} (h : inb i 6 = true) : SH0.2 (rw_ 50 i) = (10, 60) := by
  have := inb_lt h
  unfold rw_
  generalize i.toNatClampNeg = j at this
  have : ∀ j, j < 6 → SH0.2 (50 + 1 + j) = (10, 60) := by decide
  exact this j (by assumption)
theorem gr50_rf {i : Int32} (bk dr : Nat) (h : inb i 6 = true) : RFs bk dr 50 i.toNatClampNeg = some (rw_ 50 i) := by
  have := inb_lt h
  unfold rw_
  generalize i.toNatClampNeg = j at this
  have : ∀ j, j < 6 → (RF0.getD 50 []).getD j none = some (50 + 1 + j) := by decide
  exact this j (by assumption)
theorem gr57_lt {i : Int32} (h : inb i 6 = true) : rw_ 57 i < SH0.1 := by
  have := inb_lt h
  show 57 + 1 + i.toNatClampNeg < 193
  omega
theorem gr57_ob {i : Int32} (h : inb i 6 = true) : SH0.2 (rw_ 57 i) = (10, 60) := by
  have := inb_lt h
  unfold rw_
  generalize i.toNatClampNeg = j at this
  have : ∀ j, j < 6 → SH0.2 (57 + 1 + j) = (10, 60) := by decide
  exact this j (by assumption)
theorem gr57_rf {i : Int32} (bk dr : Nat) (h : inb i 6 = true) : RFs bk dr 57 i.toNatClampNeg = some (rw_ 57 i) := by
  have := inb_lt h
  unfold rw_
  generalize i.toNatClampNeg = j at this
  have : ∀ j, j < 6 → (RF0.getD 57 []).getD j none = some (57 + 1 + j) := by decide
  exact this j (by assumption)
theorem gr64_lt {i : Int32} (h : inb i 6 = true) : rw_ 64 i < SH0.1 := by
  have := inb_lt h
  show 64 + 1 + i.toNatClampNeg < 193
  omega
theorem gr64_ob {i : Int32} (h : inb i 6 = true) : SH0.2 (rw_ 64 i) = (10, 60) := by
  have := inb_lt h
  unfold rw_
  generalize i.toNatClampNeg = j at this
  have : ∀ j, j < 6 → SH0.2 (64 + 1 + j) = (10, 60) := by decide
  exact this j (by assumption)
theorem gr64_rf {i : Int32} (bk dr : Nat) (h : inb i 6 = true) : RFs bk dr 64 i.toNatClampNeg = some (rw_ 64 i) := by
  have := inb_lt h
  unfold rw_
  generalize i.toNatClampNeg = j at this
  have : ∀ j, j < 6 → (RF0.getD 64 []).getD j none = some (64 + 1 + j) := by decide
  exact this j (by assumption)
theorem gr71_lt {i : Int32} (h : inb i 6 = true) : rw_ 71 i < SH0.1 := by
  have := inb_lt h
  show 71 + 1 + i.toNatClampNeg < 193
  omega
theorem gr71_ob {i : Int32} (h : inb i 6 = true) : SH0.2 (rw_ 71 i) = (10, 60) := by
  have := inb_lt h
  unfold rw_
  generalize i.toNatClampNeg = j at this
  have : ∀ j, j < 6 → SH0.2 (71 + 1 + j) = (10, 60) := by decide
  exact this j (by assumption)
theorem gr71_rf {i : Int32} (bk dr : Nat) (h : inb i 6 = true) : RFs bk dr 71 i.toNatClampNeg = some (rw_ 71 i) := by
  have := inb_lt h
  unfold rw_
  generalize i.toNatClampNeg = j at this
  have : ∀ j, j < 6 → (RF0.getD 71 []).getD j none = some (71 + 1 + j) := by decide
  exact this j (by assumption)
theorem gr78_lt {i : Int32} (h : inb i 6 = true) : rw_ 78 i < SH0.1 := by
  have := inb_lt h
  show 78 + 1 + i.toNatClampNeg < 193
  omega
theorem gr78_ob {i : Int32} (h : inb i 6 = true) : SH0.2 (rw_ 78 i) = (10, 60) := by
  have := inb_lt h
  unfold rw_
  generalize i.toNatClampNeg = j at this
  have : ∀ j, j < 6 → SH0.2 (78 + 1 + j) = (10, 60) := by decide
  exact this j (by assumption)
theorem gr78_rf {i : Int32} (bk dr : Nat) (h : inb i 6 = true) : RFs bk dr 78 i.toNatClampNeg = some (rw_ 78 i) := by
  have := inb_lt h
  unfold rw_
  generalize i.toNatClampNeg = j at this
  have : ∀ j, j < 6 → (RF0.getD 78 []).getD j none = some (78 + 1 + j) := by decide
  exact this j (by assumption)
theorem gr85_lt {i : Int32} (h : inb i 6 = true) : rw_ 85 i < SH0.1 := by
  have := inb_lt h
  show 85 + 1 + i.toNatClampNeg < 193
  omega
theorem gr85_ob {i : Int32} (h : inb i 6 = true) : SH0.2 (rw_ 85 i) = (10, 60) := by
  have := inb_lt h
  unfold rw_
  generalize i.toNatClampNeg = j at this
  have : ∀ j, j < 6 → SH0.2 (85 + 1 + j) = (10, 60) := by decide
  exact this j (by assumption)
theorem gr85_rf {i : Int32} (bk dr : Nat) (h : inb i 6 = true) : RFs bk dr 85 i.toNatClampNeg = some (rw_ 85 i) := by
  have := inb_lt h
  unfold rw_
  generalize i.toNatClampNeg = j at this
  have : ∀ j, j < 6 → (RF0.getD 85 []).getD j none = some (85 + 1 + j) := by decide
  exact this j (by assumption)
theorem gr92_lt {i : Int32} (h : inb i 8 = true) : rw_ 92 i < SH0.1 := by
  have := inb_lt h
  show 92 + 1 + i.toNatClampNeg < 193
  omega
theorem gr92_ob {i : Int32} (h : inb i 8 = true) : SH0.2 (rw_ 92 i) = (10, 60) := by
  have := inb_lt h
  unfold rw_
  generalize i.toNatClampNeg = j at this
  have : ∀ j, j < 8 → SH0.2 (92 + 1 + j) = (10, 60) := by decide
  exact this j (by assumption)
theorem gr92_rf {i : Int32} (bk dr : Nat) (h : inb i 8 = true) : RFs bk dr 92 i.toNatClampNeg = some (rw_ 92 i) := by
  have := inb_lt h
  unfold rw_
  generalize i.toNatClampNeg = j at this
  have : ∀ j, j < 8 → (RF0.getD 92 []).getD j none = some (92 + 1 + j) := by decide
  exact this j (by assumption)
theorem gr101_lt {i : Int32} (h : inb i 5 = true) : rw_ 101 i < SH0.1 := by
  have := inb_lt h
  show 101 + 1 + i.toNatClampNeg < 193
  omega
theorem gr101_ob {i : Int32} (h : inb i 5 = true) : SH0.2 (rw_ 101 i) = (10, 60) := by
  have := inb_lt h
  unfold rw_
  generalize i.toNatClampNeg = j at this
  have : ∀ j, j < 5 → SH0.2 (101 + 1 + j) = (10, 60) := by decide
  exact this j (by assumption)
theorem gr101_rf {i : Int32} (bk dr : Nat) (h : inb i 5 = true) : RFs bk dr 101 i.toNatClampNeg = some (rw_ 101 i) := by
  have := inb_lt h
  unfold rw_
  generalize i.toNatClampNeg = j at this
  have : ∀ j, j < 5 → (RF0.getD 101 []).getD j none = some (101 + 1 + j) := by decide
  exact this j (by assumption)
/-- what a method's end says: its answer and its heap, as its function has them -/
def pI (P : Int32 × PS → Prop) : Option Value → PH → Prop := fun v h => ∃ (x : Int32) (σ : PS), v = some (.int x) ∧ h = HP σ ∧ P (x, σ)
def pL (P : Int64 × PS → Prop) : Option Value → PH → Prop := fun v h => ∃ (x : Int64) (σ : PS), v = some (.long x) ∧ h = HP σ ∧ P (x, σ)
def pV (P : PS → Prop) : Option Value → PH → Prop := fun v h => ∃ σ : PS, v = none ∧ h = HP σ ∧ P σ
theorem dk {cc : ByteArray} {l : List (Nat × Instr × Nat)} (h : ∀ q ∈ l, decode cc q.1 = .ok q.2) (i : Nat) {pc n : Nat} {ins : Instr} (hi : l[i]? = some (pc, ins, n)) : decode cc pc = .ok (ins, n) := h (pc, ins, n) (List.mem_of_getElem? hi)
def FI (own : String) (idx ci j N : Nat) (C : String) (T : u_T) : Prop := CLok ci C T N ∧ j < N ∧ tyX ci j = .int ∧ Cond.fieldLink own idx (T j).1 (T j).2.1 (T j).2.2.1 ∈ TBL
def FR (own : String) (idx ci j N : Nat) (C : String) (T : u_T) : Prop := CLok ci C T N ∧ j < N ∧ isR ci j = true ∧ Cond.fieldLink own idx (T j).1 (T j).2.1 (T j).2.2.1 ∈ TBL
theorem FI.nr {own : String} {idx ci j N : Nat} {C : String} {T : u_T} (f : FI own idx ci j N C T) : isR ci j = false := by
  unfold isR
  rw [f.2.2.1]
  rfl
def VC (own : String) (idx : Nat) (M' : Mth) (n ci N : Nat) (T : u_T) : Prop := CB M' n ∧ Cond.methodLink own idx M'.1 ∈ TBL ∧ Cond.instanceMethod M'.1 ∈ TBL ∧ Cond.selects M'.1.cls M'.1 M'.1 ∈ TBL ∧ CLok ci M'.1.cls T N
def SC (own : String) (idx : Nat) (M' : Mth) (n : Nat) : Prop := CB M' n ∧ Cond.methodLink own idx M'.1 ∈ TBL ∧ Cond.static M'.1 ∈ TBL
def NC (own : String) (idx : Nat) (M' : Mth) (n : Nat) (host : String) : Prop := CB M' n ∧ Cond.methodLinkNest own idx M'.1 host ∈ NST ∧ Cond.static M'.1 ∈ TBL
section YR
variable {g : GP} {M M' : Mth} {d dc n : Nat} {post : Option Value → PH → Prop} {pc : Nat} {L : List (Nat × Value)} {st stk av : List Value} {σ : PS} {ci N k j index : Nat} {C host : String} {T : u_T} {α : Type} {P : α → Prop} {o : Option α}
theorem Y_getI (f : FI M.1.cls index ci j N C T) (hk : k < SH0.1) (ho : SH0.2 k = (ci, N)) (hd : decode M.2.1 pc = .ok (.getfield index, 3)) (kk : X g M d 0 0 post (pc + 3) L (.int (gi σ k j) :: st) (HP σ)) : X g M d 0 0 post pc L (.ref k :: st) (HP σ) := X_getI (h := HP σ) f.1 hk ho f.2.1 f.nr f.2.2.2 hd kk
theorem Y_getR (q : Nat) (f : FR M.1.cls index ci j N C T) (hk : k < SH0.1) (ho : SH0.2 k = (ci, N)) (hq : RFs (bkO σ) (drO σ) k j = some q) (hd : decode M.2.1 pc = .ok (.getfield index, 3)) (kk : X g M d 0 0 post (pc + 3) L (.ref q :: st) (HP σ)) : X g M d 0 0 post pc L (.ref k :: st) (HP σ) := X_getR (h := HP σ) f.1 hk ho f.2.1 f.2.2.1 hq f.2.2.2 hd kk
theorem Y_putI {x : Int32} (f : FI M.1.cls index ci j N C T) (hf : (T j).2.2.2 = false) (hk : k < SH0.1) (ho : SH0.2 k = (ci, N)) (hd : decode M.2.1 pc = .ok (.putfield index, 3)) (kk : X g M d 0 0 post (pc + 3) L st (HP (sI σ k j x))) : X g M d 0 0 post pc L (.int x :: .ref k :: st) (HP σ) := X_putI (h := HP σ) f.1 hk ho f.2.1 f.2.2.1 hf f.2.2.2 hd kk
theorem Y_putB {q : Nat} (f : FR M.1.cls index 8 5 7 RX8 TX8) (hd : decode M.2.1 pc = .ok (.putfield index, 3)) (kk : X g M d 0 0 post (pc + 3) L st (HP (sB σ q))) : X g M d 0 0 post pc L (.ref q :: .ref 0 :: st) (HP σ) := X_putR (h := HP σ) f.1 (show 0 < SH0.1 by decide) rfl f.2.1 f.2.2.1 (fun _ => ⟨rfl, rfl⟩) rfl f.2.2.2 hd (by rw [hp_sB]; exact kk)
theorem Y_putD {q : Nat} (f : FR M.1.cls index 8 6 7 RX8 TX8) (hd : decode M.2.1 pc = .ok (.putfield index, 3)) (kk : X g M d 0 0 post (pc + 3) L st (HP (sD σ q))) : X g M d 0 0 post pc L (.ref q :: .ref 0 :: st) (HP σ) := X_putR (h := HP σ) f.1 (show 0 < SH0.1 by decide) rfl f.2.1 f.2.2.1 (fun _ => ⟨rfl, rfl⟩) rfl f.2.2.2 hd (by rw [hp_sD]; exact kk)
theorem Y_iald {i : Int32} (hk : k < SH0.1) (ho : SH0.2 k = (10, N)) (hd : decode M.2.1 pc = .ok (.iaload, 1)) (h : hO (gd (inb i N) o) P) (kk : inb i N = true → hO o P → X g M d 0 0 post (pc + 1) L (.int (gi σ k i.toNatClampNeg) :: st) (HP σ)) : X g M d 0 0 post pc L (.int i :: .ref k :: st) (HP σ) := X_iald (h := HP σ) hk ho (inb_in (hO_gd h).1) hd (kk (hO_gd h).1 (hO_gd h).2)
theorem Y_bald {i : Int32} (hk : k < SH0.1) (ho : SH0.2 k = (11, N)) (hd : decode M.2.1 pc = .ok (.baload, 1)) (h : hO (gd (inb i N) o) P) (kk : inb i N = true → hO o P → X g M d 0 0 post (pc + 1) L (.int (gi σ k i.toNatClampNeg) :: st) (HP σ)) : X g M d 0 0 post pc L (.int i :: .ref k :: st) (HP σ) := X_bald (h := HP σ) hk ho (inb_in (hO_gd h).1) hd (kk (hO_gd h).1 (hO_gd h).2)
theorem Y_zald {i : Int32} (hk : k < SH0.1) (ho : SH0.2 k = (12, N)) (hd : decode M.2.1 pc = .ok (.baload, 1)) (h : hO (gd (inb i N) o) P) (kk : inb i N = true → hO o P → X g M d 0 0 post (pc + 1) L (.int (gi σ k i.toNatClampNeg) :: st) (HP σ)) : X g M d 0 0 post pc L (.int i :: .ref k :: st) (HP σ) := X_zald (h := HP σ) hk ho (inb_in (hO_gd h).1) hd (kk (hO_gd h).1 (hO_gd h).2)
theorem Y_lald {i : Int32} (hk : k < SH0.1) (ho : SH0.2 k = (13, N)) (hd : decode M.2.1 pc = .ok (.laload, 1)) (h : hO (gd (inb i N) o) P) (kk : inb i N = true → hO o P → X g M d 0 0 post (pc + 1) L (.long (gl σ k i.toNatClampNeg) :: st) (HP σ)) : X g M d 0 0 post pc L (.int i :: .ref k :: st) (HP σ) := X_lald (h := HP σ) hk ho (inb_in (hO_gd h).1) hd (kk (hO_gd h).1 (hO_gd h).2)
theorem Y_aald {i : Int32} (q : Nat) (hk : k < SH0.1) (ho : SH0.2 k = (14, N)) (hq : inb i N = true → RFs (bkO σ) (drO σ) k i.toNatClampNeg = some q) (hd : decode M.2.1 pc = .ok (.aaload, 1)) (h : hO (gd (inb i N) o) P) (kk : inb i N = true → hO o P → X g M d 0 0 post (pc + 1) L (.ref q :: st) (HP σ)) : X g M d 0 0 post pc L (.int i :: .ref k :: st) (HP σ) := X_aald (h := HP σ) hk ho (inb_in (hO_gd h).1) (hq (hO_gd h).1) hd (kk (hO_gd h).1 (hO_gd h).2)
theorem Y_iast {i x : Int32} (hk : k < SH0.1) (ho : SH0.2 k = (10, N)) (hd : decode M.2.1 pc = .ok (.iastore, 1)) (h : hO (gd (inb i N) o) P) (kk : inb i N = true → hO o P → X g M d 0 0 post (pc + 1) L st (HP (sI σ k i.toNatClampNeg x))) : X g M d 0 0 post pc L (.int x :: .int i :: .ref k :: st) (HP σ) := X_iast (h := HP σ) hk ho (inb_in (hO_gd h).1) hd (kk (hO_gd h).1 (hO_gd h).2)
theorem Y_bast {i x : Int32} (hk : k < SH0.1) (ho : SH0.2 k = (11, N)) (hd : decode M.2.1 pc = .ok (.bastore, 1)) (h : hO (gd (inb i N) o) P) (kk : inb i N = true → hO o P → X g M d 0 0 post (pc + 1) L st (HP (sI σ k i.toNatClampNeg (vp_nar .byte x)))) : X g M d 0 0 post pc L (.int x :: .int i :: .ref k :: st) (HP σ) := X_bast (h := HP σ) hk ho (inb_in (hO_gd h).1) hd (kk (hO_gd h).1 (hO_gd h).2)
theorem Y_zast {i x : Int32} (hk : k < SH0.1) (ho : SH0.2 k = (12, N)) (hd : decode M.2.1 pc = .ok (.bastore, 1)) (h : hO (gd (inb i N) o) P) (kk : inb i N = true → hO o P → X g M d 0 0 post (pc + 1) L st (HP (sI σ k i.toNatClampNeg (vp_nar .boolean x)))) : X g M d 0 0 post pc L (.int x :: .int i :: .ref k :: st) (HP σ) := X_zast (h := HP σ) hk ho (inb_in (hO_gd h).1) hd (kk (hO_gd h).1 (hO_gd h).2)
theorem Y_last {i : Int32} {x : Int64} (hk : k < SH0.1) (ho : SH0.2 k = (13, N)) (hd : decode M.2.1 pc = .ok (.lastore, 1)) (h : hO (gd (inb i N) o) P) (kk : inb i N = true → hO o P → X g M d 0 0 post (pc + 1) L st (HP (sJ σ k i.toNatClampNeg x))) : X g M d 0 0 post pc L (.long x :: .int i :: .ref k :: st) (HP σ) := X_last (h := HP σ) hk ho (inb_in (hO_gd h).1) hd (kk (hO_gd h).1 (hO_gd h).2)
theorem Y_guard {b : Bool} (h : hO (gd b o) P) (kk : b = true → hO o P → X g M d 0 0 post pc L stk (HP σ)) : X g M d 0 0 post pc L stk (HP σ) := kk (hO_gd h).1 (hO_gd h).2
theorem Y_tab {x : Int32} {dflt lo hi off : Int} {offs : Array Int} {len : Nat} (c : Int32) (hx : x = c) (tgt : Nat) (hd : decode M.2.1 pc = .ok (.tableswitch dflt lo hi offs, len)) (h1 : ¬ c.toInt < lo) (h2 : ¬ hi < c.toInt) (ho : offs[(c.toInt - lo).toNat]? = some off) (ht : (pc : Int) + off = (tgt : Int)) (kk : X g M d 0 0 post tgt L st (HP σ)) : X g M d 0 0 post pc L (.int x :: st) (HP σ) := by
  subst hx
  exact X_tableIn tgt hd h1 h2 ho ht kk
theorem Y_iret {P : Int32 × PS → Prop} {x : Int32} (hd : decode M.2.1 pc = .ok (.ireturn, 1)) (hr : M.2.2.2 = some .int) (h : hO (some (x, σ)) P) : X g M d 0 0 (pI P) pc L [.int x] (HP σ) := X_ireturn hd hr rfl ⟨x, σ, rfl, rfl, h⟩
theorem Y_zret {P : Int32 × PS → Prop} {x : Int32} (hd : decode M.2.1 pc = .ok (.ireturn, 1)) (hr : M.2.2.2 = some .boolean) (hx : is01 x = true) (h : hO (some (x, σ)) P) : X g M d 0 0 (pI P) pc L [.int x] (HP σ) := X_ireturn hd hr (is01_n hx) ⟨x, σ, rfl, rfl, h⟩
theorem Y_lret {P : Int64 × PS → Prop} {x : Int64} (hd : decode M.2.1 pc = .ok (.lreturn, 1)) (hr : M.2.2.2 = some .long) (h : hO (some (x, σ)) P) : X g M d 0 0 (pL P) pc L [.long x] (HP σ) := X_lreturn hd hr ⟨x, σ, rfl, rfl, h⟩
theorem Y_vret {P : PS → Prop} (hd : decode M.2.1 pc = .ok (.return_, 1)) (hr : M.2.2.2 = none) (h : hO (some σ) P) : X g M d 0 0 (pV P) pc L [] (HP σ) := X_return hd hr ⟨σ, rfl, rfl, h⟩
theorem Y_ldcw {v : Int32} (hw : Cond.constant M.1.cls index v ∈ TBL) (hd : decode M.2.1 pc = .ok (.ldc_w index, 3)) (k : X g M d 0 0 post (pc + 3) L (.int v :: st) (HP σ)) : X g M d 0 0 post pc L st (HP σ) := by
  intro p e R s m args below meth c D dA A Q ad H locs cells slots ls hM hW hc hs hl ret
  exact lv_ldcw hM.1.1 hM.1.2.1 hM.1.2.2.2.1 (hM.1.2.2.2.2 _ hw) hd (k p e R s m args below meth c D dA A Q ad H locs cells slots ls hM hW hc hs hl ret)
theorem Y_callVI {f0 : Option (Int32 × PS)} {kf : Int32 × PS → Option α} {b : Nat} (f : VC M.1.cls index M' n ci N T) (hb : b < SH0.1) (ho : SH0.2 b = (ci, N)) (av st : List Value) (hstk : stk = av.reverse ++ .ref b :: st) (hav : av.length = n) (hdd : dc + 1 ≤ d) (hsum : (st.map fun v => v.category).sum ≤ 8) (hd : decode M.2.1 pc = .ok (.invokevirtual index, 3))
    (hC : ∀ Pc : Int32 × PS → Prop, hO f0 Pc → CON g M' dc 0 0 (.ref b :: av) (HP σ) (pI Pc)) (h : hO (f0.bind kf) P) (kk : ∀ (x : Int32) (σ' : PS), f0 = some (x, σ') → hO (kf (x, σ')) P → X g M d 0 0 post (pc + 3) L (.int x :: st) (HP σ')) : X g M d 0 0 post pc L stk (HP σ) := by
  subst hstk
  cases hf : f0 with
  | none =>
    rw [hf] at h
    exact absurd h (by simp [hO])
  | some r =>
    have hC' := hC (fun q => q = r) (by rw [hf]; rfl)
    rw [hf] at h
    refine X_callV f.1 f.2.1 f.2.2.1 f.2.2.2.1 f.2.2.2.2 hb ho hav hdd hsum hd hC' (fun v h' hp => ?_) (fun v h' hp => ?_)
    · obtain ⟨x, σ', rfl, rfl, hq⟩ := hp
      rfl
    · obtain ⟨x, σ', rfl, rfl, hq⟩ := hp
      subst hq
      exact kk x σ' hf h
theorem Y_callSI {f0 : Option (Int32 × PS)} {kf : Int32 × PS → Option α} (f : SC M.1.cls index M' n) (av st : List Value) (hstk : stk = av.reverse ++ st) (hav : av.length = n) (hdd : dc + 1 ≤ d) (hsum : (st.map fun v => v.category).sum ≤ 8) (hd : decode M.2.1 pc = .ok (.invokestatic index, 3))
    (hC : ∀ Pc : Int32 × PS → Prop, hO f0 Pc → CON g M' dc 0 0 av (HP σ) (pI Pc)) (h : hO (f0.bind kf) P) (kk : ∀ (x : Int32) (σ' : PS), f0 = some (x, σ') → hO (kf (x, σ')) P → X g M d 0 0 post (pc + 3) L (.int x :: st) (HP σ')) : X g M d 0 0 post pc L stk (HP σ) := by
  subst hstk
  cases hf : f0 with
  | none =>
    rw [hf] at h
    exact absurd h (by simp [hO])
  | some r =>
    have hC' := hC (fun q => q = r) (by rw [hf]; rfl)
    rw [hf] at h
    refine X_callS f.1 f.2.1 f.2.2 hav hdd hsum hd hC' (fun v h' hp => ?_) (fun v h' hp => ?_)
    · obtain ⟨x, σ', rfl, rfl, hq⟩ := hp
      rfl
    · obtain ⟨x, σ', rfl, rfl, hq⟩ := hp
      subst hq
      exact kk x σ' hf h
theorem Y_callNI {f0 : Option (Int32 × PS)} {kf : Int32 × PS → Option α} (f : NC M.1.cls index M' n host) (av st : List Value) (hstk : stk = av.reverse ++ st) (hav : av.length = n) (hdd : dc + 1 ≤ d) (hsum : (st.map fun v => v.category).sum ≤ 8) (hd : decode M.2.1 pc = .ok (.invokestatic index, 3))
    (hC : ∀ Pc : Int32 × PS → Prop, hO f0 Pc → CON g M' dc 0 0 av (HP σ) (pI Pc)) (h : hO (f0.bind kf) P) (kk : ∀ (x : Int32) (σ' : PS), f0 = some (x, σ') → hO (kf (x, σ')) P → X g M d 0 0 post (pc + 3) L (.int x :: st) (HP σ')) : X g M d 0 0 post pc L stk (HP σ) := by
  subst hstk
  cases hf : f0 with
  | none =>
    rw [hf] at h
    exact absurd h (by simp [hO])
  | some r =>
    have hC' := hC (fun q => q = r) (by rw [hf]; rfl)
    rw [hf] at h
    refine X_callN f.1 f.2.1 f.2.2 hav hdd hsum hd hC' (fun v h' hp => ?_) (fun v h' hp => ?_)
    · obtain ⟨x, σ', rfl, rfl, hq⟩ := hp
      rfl
    · obtain ⟨x, σ', rfl, rfl, hq⟩ := hp
      subst hq
      exact kk x σ' hf h
theorem Y_callVL {f0 : Option (Int64 × PS)} {kf : Int64 × PS → Option α} {b : Nat} (f : VC M.1.cls index M' n ci N T) (hb : b < SH0.1) (ho : SH0.2 b = (ci, N)) (av st : List Value) (hstk : stk = av.reverse ++ .ref b :: st) (hav : av.length = n) (hdd : dc + 1 ≤ d) (hsum : (st.map fun v => v.category).sum ≤ 8) (hd : decode M.2.1 pc = .ok (.invokevirtual index, 3))
    (hC : ∀ Pc : Int64 × PS → Prop, hO f0 Pc → CON g M' dc 0 0 (.ref b :: av) (HP σ) (pL Pc)) (h : hO (f0.bind kf) P) (kk : ∀ (x : Int64) (σ' : PS), f0 = some (x, σ') → hO (kf (x, σ')) P → X g M d 0 0 post (pc + 3) L (.long x :: st) (HP σ')) : X g M d 0 0 post pc L stk (HP σ) := by
  subst hstk
  cases hf : f0 with
  | none =>
    rw [hf] at h
    exact absurd h (by simp [hO])
  | some r =>
    have hC' := hC (fun q => q = r) (by rw [hf]; rfl)
    rw [hf] at h
    refine X_callV f.1 f.2.1 f.2.2.1 f.2.2.2.1 f.2.2.2.2 hb ho hav hdd hsum hd hC' (fun v h' hp => ?_) (fun v h' hp => ?_)
    · obtain ⟨x, σ', rfl, rfl, hq⟩ := hp
      rfl
    · obtain ⟨x, σ', rfl, rfl, hq⟩ := hp
      subst hq
      exact kk x σ' hf h
theorem Y_callSL {f0 : Option (Int64 × PS)} {kf : Int64 × PS → Option α} (f : SC M.1.cls index M' n) (av st : List Value) (hstk : stk = av.reverse ++ st) (hav : av.length = n) (hdd : dc + 1 ≤ d) (hsum : (st.map fun v => v.category).sum ≤ 8) (hd : decode M.2.1 pc = .ok (.invokestatic index, 3))
    (hC : ∀ Pc : Int64 × PS → Prop, hO f0 Pc → CON g M' dc 0 0 av (HP σ) (pL Pc)) (h : hO (f0.bind kf) P) (kk : ∀ (x : Int64) (σ' : PS), f0 = some (x, σ') → hO (kf (x, σ')) P → X g M d 0 0 post (pc + 3) L (.long x :: st) (HP σ')) : X g M d 0 0 post pc L stk (HP σ) := by
  subst hstk
  cases hf : f0 with
  | none =>
    rw [hf] at h
    exact absurd h (by simp [hO])
  | some r =>
    have hC' := hC (fun q => q = r) (by rw [hf]; rfl)
    rw [hf] at h
    refine X_callS f.1 f.2.1 f.2.2 hav hdd hsum hd hC' (fun v h' hp => ?_) (fun v h' hp => ?_)
    · obtain ⟨x, σ', rfl, rfl, hq⟩ := hp
      rfl
    · obtain ⟨x, σ', rfl, rfl, hq⟩ := hp
      subst hq
      exact kk x σ' hf h
theorem Y_callNL {f0 : Option (Int64 × PS)} {kf : Int64 × PS → Option α} (f : NC M.1.cls index M' n host) (av st : List Value) (hstk : stk = av.reverse ++ st) (hav : av.length = n) (hdd : dc + 1 ≤ d) (hsum : (st.map fun v => v.category).sum ≤ 8) (hd : decode M.2.1 pc = .ok (.invokestatic index, 3))
    (hC : ∀ Pc : Int64 × PS → Prop, hO f0 Pc → CON g M' dc 0 0 av (HP σ) (pL Pc)) (h : hO (f0.bind kf) P) (kk : ∀ (x : Int64) (σ' : PS), f0 = some (x, σ') → hO (kf (x, σ')) P → X g M d 0 0 post (pc + 3) L (.long x :: st) (HP σ')) : X g M d 0 0 post pc L stk (HP σ) := by
  subst hstk
  cases hf : f0 with
  | none =>
    rw [hf] at h
    exact absurd h (by simp [hO])
  | some r =>
    have hC' := hC (fun q => q = r) (by rw [hf]; rfl)
    rw [hf] at h
    refine X_callN f.1 f.2.1 f.2.2 hav hdd hsum hd hC' (fun v h' hp => ?_) (fun v h' hp => ?_)
    · obtain ⟨x, σ', rfl, rfl, hq⟩ := hp
      rfl
    · obtain ⟨x, σ', rfl, rfl, hq⟩ := hp
      subst hq
      exact kk x σ' hf h
theorem Y_callVV {f0 : Option (PS)} {kf : PS → Option α} {b : Nat} (f : VC M.1.cls index M' n ci N T) (hb : b < SH0.1) (ho : SH0.2 b = (ci, N)) (av st : List Value) (hstk : stk = av.reverse ++ .ref b :: st) (hav : av.length = n) (hdd : dc + 1 ≤ d) (hsum : (st.map fun v => v.category).sum ≤ 8) (hd : decode M.2.1 pc = .ok (.invokevirtual index, 3))
    (hC : ∀ Pc : PS → Prop, hO f0 Pc → CON g M' dc 0 0 (.ref b :: av) (HP σ) (pV Pc)) (h : hO (f0.bind kf) P) (kk : ∀ (σ' : PS), f0 = some σ' → hO (kf σ') P → X g M d 0 0 post (pc + 3) L st (HP σ')) : X g M d 0 0 post pc L stk (HP σ) := by
  subst hstk
  cases hf : f0 with
  | none =>
    rw [hf] at h
    exact absurd h (by simp [hO])
  | some r =>
    have hC' := hC (fun q => q = r) (by rw [hf]; rfl)
    rw [hf] at h
    refine X_callV f.1 f.2.1 f.2.2.1 f.2.2.2.1 f.2.2.2.2 hb ho hav hdd hsum hd hC' (fun v h' hp => ?_) (fun v h' hp => ?_)
    · obtain ⟨σ', rfl, rfl, hq⟩ := hp
      rfl
    · obtain ⟨σ', rfl, rfl, hq⟩ := hp
      subst hq
      exact kk σ' hf h
theorem Y_callSV {f0 : Option (PS)} {kf : PS → Option α} (f : SC M.1.cls index M' n) (av st : List Value) (hstk : stk = av.reverse ++ st) (hav : av.length = n) (hdd : dc + 1 ≤ d) (hsum : (st.map fun v => v.category).sum ≤ 8) (hd : decode M.2.1 pc = .ok (.invokestatic index, 3))
    (hC : ∀ Pc : PS → Prop, hO f0 Pc → CON g M' dc 0 0 av (HP σ) (pV Pc)) (h : hO (f0.bind kf) P) (kk : ∀ (σ' : PS), f0 = some σ' → hO (kf σ') P → X g M d 0 0 post (pc + 3) L st (HP σ')) : X g M d 0 0 post pc L stk (HP σ) := by
  subst hstk
  cases hf : f0 with
  | none =>
    rw [hf] at h
    exact absurd h (by simp [hO])
  | some r =>
    have hC' := hC (fun q => q = r) (by rw [hf]; rfl)
    rw [hf] at h
    refine X_callS f.1 f.2.1 f.2.2 hav hdd hsum hd hC' (fun v h' hp => ?_) (fun v h' hp => ?_)
    · obtain ⟨σ', rfl, rfl, hq⟩ := hp
      rfl
    · obtain ⟨σ', rfl, rfl, hq⟩ := hp
      subst hq
      exact kk σ' hf h
theorem Y_callNV {f0 : Option (PS)} {kf : PS → Option α} (f : NC M.1.cls index M' n host) (av st : List Value) (hstk : stk = av.reverse ++ st) (hav : av.length = n) (hdd : dc + 1 ≤ d) (hsum : (st.map fun v => v.category).sum ≤ 8) (hd : decode M.2.1 pc = .ok (.invokestatic index, 3))
    (hC : ∀ Pc : PS → Prop, hO f0 Pc → CON g M' dc 0 0 av (HP σ) (pV Pc)) (h : hO (f0.bind kf) P) (kk : ∀ (σ' : PS), f0 = some σ' → hO (kf σ') P → X g M d 0 0 post (pc + 3) L st (HP σ')) : X g M d 0 0 post pc L stk (HP σ) := by
  subst hstk
  cases hf : f0 with
  | none =>
    rw [hf] at h
    exact absurd h (by simp [hO])
  | some r =>
    have hC' := hC (fun q => q = r) (by rw [hf]; rfl)
    rw [hf] at h
    refine X_callN f.1 f.2.1 f.2.2 hav hdd hsum hd hC' (fun v h' hp => ?_) (fun v h' hp => ?_)
    · obtain ⟨σ', rfl, rfl, hq⟩ := hp
      rfl
    · obtain ⟨σ', rfl, rfl, hq⟩ := hp
      subst hq
      exact kk σ' hf h
end YR
end
