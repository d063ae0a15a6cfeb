-- ===== PART A: goes FIRST, ahead of the names: the tables' words, and 'selects' of the private methods out of them =====
/-- a private method of a class that the tables say can be made, by its rows of tables_1 -/
def lw_okq (q : MethodName × Nat) : Prop := (q.1.cls ≠ "java/lang/invoke/MethodHandle" ∧ q.1.cls ≠ "java/lang/invoke/VarHandle") ∧ Cond.instantiable q.1.cls q.2 ∈ tables_1 ∧ Cond.privateMethod q.1 ∈ tables_1 ∧ Cond.instanceMethod q.1 ∈ tables_1
theorem lw_p0 : lw_okq (⟨"AwakeBoard", "tellFinding", "(I)I"⟩, 11) := ⟨⟨by decide +kernel, by decide +kernel⟩, List.mem_of_getElem? (i := 20) (by decide +kernel), List.mem_of_getElem? (i := 276) (by decide +kernel), List.mem_of_getElem? (i := 277) (by decide +kernel)⟩
theorem lw_p1 : lw_okq (⟨"AwakeBoard$Scene", "isAsPerson", "(II)Z"⟩, 5) := ⟨⟨by decide +kernel, by decide +kernel⟩, List.mem_of_getElem? (i := 28) (by decide +kernel), List.mem_of_getElem? (i := 348) (by decide +kernel), List.mem_of_getElem? (i := 349) (by decide +kernel)⟩
theorem lw_p2 : lw_okq (⟨"AwakeBoard$Scene", "isAsName", "(II)Z"⟩, 5) := ⟨⟨by decide +kernel, by decide +kernel⟩, List.mem_of_getElem? (i := 28) (by decide +kernel), List.mem_of_getElem? (i := 352) (by decide +kernel), List.mem_of_getElem? (i := 353) (by decide +kernel)⟩
theorem lw_p3 : lw_okq (⟨"AwakeBoard$Scene", "isInHours", "(II)Z"⟩, 5) := ⟨⟨by decide +kernel, by decide +kernel⟩, List.mem_of_getElem? (i := 28) (by decide +kernel), List.mem_of_getElem? (i := 359) (by decide +kernel), List.mem_of_getElem? (i := 360) (by decide +kernel)⟩
theorem lw_p4 : lw_okq (⟨"AwakeBoard$Scene", "isAsClock", "(II)Z"⟩, 5) := ⟨⟨by decide +kernel, by decide +kernel⟩, List.mem_of_getElem? (i := 28) (by decide +kernel), List.mem_of_getElem? (i := 367) (by decide +kernel), List.mem_of_getElem? (i := 368) (by decide +kernel)⟩
theorem lw_p5 : lw_okq (⟨"AwakeBoard$Scene", "isBehindLeader", "(II)Z"⟩, 5) := ⟨⟨by decide +kernel, by decide +kernel⟩, List.mem_of_getElem? (i := 28) (by decide +kernel), List.mem_of_getElem? (i := 377) (by decide +kernel), List.mem_of_getElem? (i := 378) (by decide +kernel)⟩
theorem lw_p6 : lw_okq (⟨"AwakeBoard$Board", "firstFrom", "(I)I"⟩, 8) := ⟨⟨by decide +kernel, by decide +kernel⟩, List.mem_of_getElem? (i := 63) (by decide +kernel), List.mem_of_getElem? (i := 385) (by decide +kernel), List.mem_of_getElem? (i := 386) (by decide +kernel)⟩
theorem lw_p7 : lw_okq (⟨"AwakeBoard$Scene", "isAsHalf", "(II)Z"⟩, 5) := ⟨⟨by decide +kernel, by decide +kernel⟩, List.mem_of_getElem? (i := 28) (by decide +kernel), List.mem_of_getElem? (i := 389) (by decide +kernel), List.mem_of_getElem? (i := 390) (by decide +kernel)⟩
theorem lw_p8 : lw_okq (⟨"AwakeBoard$Scene", "topicOf", "(I)I"⟩, 5) := ⟨⟨by decide +kernel, by decide +kernel⟩, List.mem_of_getElem? (i := 28) (by decide +kernel), List.mem_of_getElem? (i := 416) (by decide +kernel), List.mem_of_getElem? (i := 417) (by decide +kernel)⟩
theorem lw_p9 : lw_okq (⟨"AwakeBoard$Board", "wordAhead", "(I)I"⟩, 8) := ⟨⟨by decide +kernel, by decide +kernel⟩, List.mem_of_getElem? (i := 63) (by decide +kernel), List.mem_of_getElem? (i := 433) (by decide +kernel), List.mem_of_getElem? (i := 434) (by decide +kernel)⟩
theorem lw_p10 : lw_okq (⟨"AwakeBoard$Signs", "gatherGaps", "(LAwakeBoard$Board;I)V"⟩, 1) := ⟨⟨by decide +kernel, by decide +kernel⟩, List.mem_of_getElem? (i := 173) (by decide +kernel), List.mem_of_getElem? (i := 469) (by decide +kernel), List.mem_of_getElem? (i := 470) (by decide +kernel)⟩
theorem lw_p11 : lw_okq (⟨"AwakeBoard$Signs", "gatherFollowing", "(LAwakeBoard$Board;I)V"⟩, 1) := ⟨⟨by decide +kernel, by decide +kernel⟩, List.mem_of_getElem? (i := 173) (by decide +kernel), List.mem_of_getElem? (i := 475) (by decide +kernel), List.mem_of_getElem? (i := 476) (by decide +kernel)⟩
theorem lw_p12 : lw_okq (⟨"AwakeBoard$Reader", "step", "()V"⟩, 8) := ⟨⟨by decide +kernel, by decide +kernel⟩, List.mem_of_getElem? (i := 184) (by decide +kernel), List.mem_of_getElem? (i := 509) (by decide +kernel), List.mem_of_getElem? (i := 510) (by decide +kernel)⟩
theorem lw_p13 : lw_okq (⟨"AwakeBoard$Reader", "stepNumber", "()V"⟩, 8) := ⟨⟨by decide +kernel, by decide +kernel⟩, List.mem_of_getElem? (i := 184) (by decide +kernel), List.mem_of_getElem? (i := 516) (by decide +kernel), List.mem_of_getElem? (i := 517) (by decide +kernel)⟩
theorem lw_p14 : lw_okq (⟨"AwakeBoard$Reader", "readText", "(I)I"⟩, 8) := ⟨⟨by decide +kernel, by decide +kernel⟩, List.mem_of_getElem? (i := 184) (by decide +kernel), List.mem_of_getElem? (i := 609) (by decide +kernel), List.mem_of_getElem? (i := 610) (by decide +kernel)⟩
theorem lw_p15 : lw_okq (⟨"AwakeBoard$Reader", "readSum", "(I)I"⟩, 8) := ⟨⟨by decide +kernel, by decide +kernel⟩, List.mem_of_getElem? (i := 184) (by decide +kernel), List.mem_of_getElem? (i := 613) (by decide +kernel), List.mem_of_getElem? (i := 614) (by decide +kernel)⟩
def lw_privs_1 : List (MethodName × Nat) := [(⟨"AwakeBoard", "tellFinding", "(I)I"⟩, 11), (⟨"AwakeBoard$Scene", "isAsPerson", "(II)Z"⟩, 5), (⟨"AwakeBoard$Scene", "isAsName", "(II)Z"⟩, 5), (⟨"AwakeBoard$Scene", "isInHours", "(II)Z"⟩, 5), (⟨"AwakeBoard$Scene", "isAsClock", "(II)Z"⟩, 5), (⟨"AwakeBoard$Scene", "isBehindLeader", "(II)Z"⟩, 5), (⟨"AwakeBoard$Board", "firstFrom", "(I)I"⟩, 8), (⟨"AwakeBoard$Scene", "isAsHalf", "(II)Z"⟩, 5), (⟨"AwakeBoard$Scene", "topicOf", "(I)I"⟩, 5), (⟨"AwakeBoard$Board", "wordAhead", "(I)I"⟩, 8), (⟨"AwakeBoard$Signs", "gatherGaps", "(LAwakeBoard$Board;I)V"⟩, 1), (⟨"AwakeBoard$Signs", "gatherFollowing", "(LAwakeBoard$Board;I)V"⟩, 1), (⟨"AwakeBoard$Reader", "step", "()V"⟩, 8), (⟨"AwakeBoard$Reader", "stepNumber", "()V"⟩, 8), (⟨"AwakeBoard$Reader", "readText", "(I)I"⟩, 8), (⟨"AwakeBoard$Reader", "readSum", "(I)I"⟩, 8)]
theorem lw_r1 : ∀ q ∈ lw_privs_1, lw_okq q := List.forall_mem_cons.mpr ⟨lw_p0, List.forall_mem_cons.mpr ⟨lw_p1, List.forall_mem_cons.mpr ⟨lw_p2, List.forall_mem_cons.mpr ⟨lw_p3, List.forall_mem_cons.mpr ⟨lw_p4, List.forall_mem_cons.mpr ⟨lw_p5, List.forall_mem_cons.mpr ⟨lw_p6, List.forall_mem_cons.mpr ⟨lw_p7, List.forall_mem_cons.mpr ⟨lw_p8, List.forall_mem_cons.mpr ⟨lw_p9, List.forall_mem_cons.mpr ⟨lw_p10, List.forall_mem_cons.mpr ⟨lw_p11, List.forall_mem_cons.mpr ⟨lw_p12, List.forall_mem_cons.mpr ⟨lw_p13, List.forall_mem_cons.mpr ⟨lw_p14, List.forall_mem_cons.mpr ⟨lw_p15, fun _ h => absurd h List.not_mem_nil⟩⟩⟩⟩⟩⟩⟩⟩⟩⟩⟩⟩⟩⟩⟩⟩
theorem lw_p16 : lw_okq (⟨"AwakeBoard$Reader", "readTerm", "(I)I"⟩, 8) := ⟨⟨by decide +kernel, by decide +kernel⟩, List.mem_of_getElem? (i := 184) (by decide +kernel), List.mem_of_getElem? (i := 617) (by decide +kernel), List.mem_of_getElem? (i := 618) (by decide +kernel)⟩
theorem lw_p17 : lw_okq (⟨"AwakeBoard$Reader", "readOne", "(I)I"⟩, 8) := ⟨⟨by decide +kernel, by decide +kernel⟩, List.mem_of_getElem? (i := 184) (by decide +kernel), List.mem_of_getElem? (i := 621) (by decide +kernel), List.mem_of_getElem? (i := 622) (by decide +kernel)⟩
theorem lw_p18 : lw_okq (⟨"AwakeBoard$Reader", "fail", "()V"⟩, 8) := ⟨⟨by decide +kernel, by decide +kernel⟩, List.mem_of_getElem? (i := 184) (by decide +kernel), List.mem_of_getElem? (i := 625) (by decide +kernel), List.mem_of_getElem? (i := 626) (by decide +kernel)⟩
theorem lw_p19 : lw_okq (⟨"AwakeBoard$Reader", "take", "(I)V"⟩, 8) := ⟨⟨by decide +kernel, by decide +kernel⟩, List.mem_of_getElem? (i := 184) (by decide +kernel), List.mem_of_getElem? (i := 629) (by decide +kernel), List.mem_of_getElem? (i := 630) (by decide +kernel)⟩
theorem lw_p20 : lw_okq (⟨"AwakeBoard", "scoreOf", "(II)I"⟩, 11) := ⟨⟨by decide +kernel, by decide +kernel⟩, List.mem_of_getElem? (i := 20) (by decide +kernel), List.mem_of_getElem? (i := 652) (by decide +kernel), List.mem_of_getElem? (i := 653) (by decide +kernel)⟩
theorem lw_p21 : lw_okq (⟨"AwakeBoard", "gatherScores", "(I)V"⟩, 11) := ⟨⟨by decide +kernel, by decide +kernel⟩, List.mem_of_getElem? (i := 20) (by decide +kernel), List.mem_of_getElem? (i := 660) (by decide +kernel), List.mem_of_getElem? (i := 661) (by decide +kernel)⟩
theorem lw_p22 : lw_okq (⟨"AwakeBoard", "foundSet", "(I)I"⟩, 11) := ⟨⟨by decide +kernel, by decide +kernel⟩, List.mem_of_getElem? (i := 20) (by decide +kernel), List.mem_of_getElem? (i := 664) (by decide +kernel), List.mem_of_getElem? (i := 665) (by decide +kernel)⟩
theorem lw_p23 : lw_okq (⟨"AwakeBoard", "wrongedSet", "(I)I"⟩, 11) := ⟨⟨by decide +kernel, by decide +kernel⟩, List.mem_of_getElem? (i := 20) (by decide +kernel), List.mem_of_getElem? (i := 668) (by decide +kernel), List.mem_of_getElem? (i := 669) (by decide +kernel)⟩
theorem lw_p24 : lw_okq (⟨"AwakeBoard", "missedSet", "(I)I"⟩, 11) := ⟨⟨by decide +kernel, by decide +kernel⟩, List.mem_of_getElem? (i := 20) (by decide +kernel), List.mem_of_getElem? (i := 672) (by decide +kernel), List.mem_of_getElem? (i := 673) (by decide +kernel)⟩
theorem lw_p25 : lw_okq (⟨"AwakeBoard", "lineSum", "(III)I"⟩, 11) := ⟨⟨by decide +kernel, by decide +kernel⟩, List.mem_of_getElem? (i := 20) (by decide +kernel), List.mem_of_getElem? (i := 685) (by decide +kernel), List.mem_of_getElem? (i := 686) (by decide +kernel)⟩
theorem lw_p26 : lw_okq (⟨"AwakeBoard", "areTwoNames", "(II)Z"⟩, 11) := ⟨⟨by decide +kernel, by decide +kernel⟩, List.mem_of_getElem? (i := 20) (by decide +kernel), List.mem_of_getElem? (i := 708) (by decide +kernel), List.mem_of_getElem? (i := 709) (by decide +kernel)⟩
theorem lw_p27 : lw_okq (⟨"AwakeBoard$Ties", "gatherNear", "(LAwakeBoard$Board;I)V"⟩, 3) := ⟨⟨by decide +kernel, by decide +kernel⟩, List.mem_of_getElem? (i := 216) (by decide +kernel), List.mem_of_getElem? (i := 733) (by decide +kernel), List.mem_of_getElem? (i := 734) (by decide +kernel)⟩
theorem lw_p28 : lw_okq (⟨"AwakeBoard$Ties", "join", "(II)V"⟩, 3) := ⟨⟨by decide +kernel, by decide +kernel⟩, List.mem_of_getElem? (i := 216) (by decide +kernel), List.mem_of_getElem? (i := 740) (by decide +kernel), List.mem_of_getElem? (i := 741) (by decide +kernel)⟩
theorem lw_p29 : lw_okq (⟨"AwakeBoard$Board", "hourSum", "(I)I"⟩, 8) := ⟨⟨by decide +kernel, by decide +kernel⟩, List.mem_of_getElem? (i := 63) (by decide +kernel), List.mem_of_getElem? (i := 804) (by decide +kernel), List.mem_of_getElem? (i := 805) (by decide +kernel)⟩
theorem lw_p30 : lw_okq (⟨"AwakeBoardModel", "finds", "(I)I"⟩, 21) := ⟨⟨by decide +kernel, by decide +kernel⟩, List.mem_of_getElem? (i := 916) (by decide +kernel), List.mem_of_getElem? (i := 996) (by decide +kernel), List.mem_of_getElem? (i := 997) (by decide +kernel)⟩
theorem lw_p31 : lw_okq (⟨"AwakeBoardModel", "isName", "(I)Z"⟩, 21) := ⟨⟨by decide +kernel, by decide +kernel⟩, List.mem_of_getElem? (i := 916) (by decide +kernel), List.mem_of_getElem? (i := 1005) (by decide +kernel), List.mem_of_getElem? (i := 1006) (by decide +kernel)⟩
def lw_privs_2 : List (MethodName × Nat) := [(⟨"AwakeBoard$Reader", "readTerm", "(I)I"⟩, 8), (⟨"AwakeBoard$Reader", "readOne", "(I)I"⟩, 8), (⟨"AwakeBoard$Reader", "fail", "()V"⟩, 8), (⟨"AwakeBoard$Reader", "take", "(I)V"⟩, 8), (⟨"AwakeBoard", "scoreOf", "(II)I"⟩, 11), (⟨"AwakeBoard", "gatherScores", "(I)V"⟩, 11), (⟨"AwakeBoard", "foundSet", "(I)I"⟩, 11), (⟨"AwakeBoard", "wrongedSet", "(I)I"⟩, 11), (⟨"AwakeBoard", "missedSet", "(I)I"⟩, 11), (⟨"AwakeBoard", "lineSum", "(III)I"⟩, 11), (⟨"AwakeBoard", "areTwoNames", "(II)Z"⟩, 11), (⟨"AwakeBoard$Ties", "gatherNear", "(LAwakeBoard$Board;I)V"⟩, 3), (⟨"AwakeBoard$Ties", "join", "(II)V"⟩, 3), (⟨"AwakeBoard$Board", "hourSum", "(I)I"⟩, 8), (⟨"AwakeBoardModel", "finds", "(I)I"⟩, 21), (⟨"AwakeBoardModel", "isName", "(I)Z"⟩, 21)]
theorem lw_r2 : ∀ q ∈ lw_privs_2, lw_okq q := List.forall_mem_cons.mpr ⟨lw_p16, List.forall_mem_cons.mpr ⟨lw_p17, List.forall_mem_cons.mpr ⟨lw_p18, List.forall_mem_cons.mpr ⟨lw_p19, List.forall_mem_cons.mpr ⟨lw_p20, List.forall_mem_cons.mpr ⟨lw_p21, List.forall_mem_cons.mpr ⟨lw_p22, List.forall_mem_cons.mpr ⟨lw_p23, List.forall_mem_cons.mpr ⟨lw_p24, List.forall_mem_cons.mpr ⟨lw_p25, List.forall_mem_cons.mpr ⟨lw_p26, List.forall_mem_cons.mpr ⟨lw_p27, List.forall_mem_cons.mpr ⟨lw_p28, List.forall_mem_cons.mpr ⟨lw_p29, List.forall_mem_cons.mpr ⟨lw_p30, List.forall_mem_cons.mpr ⟨lw_p31, fun _ h => absurd h List.not_mem_nil⟩⟩⟩⟩⟩⟩⟩⟩⟩⟩⟩⟩⟩⟩⟩⟩
theorem lw_p32 : lw_okq (⟨"AwakeBoardModel", "of", "(II)I"⟩, 21) := ⟨⟨by decide +kernel, by decide +kernel⟩, List.mem_of_getElem? (i := 916) (by decide +kernel), List.mem_of_getElem? (i := 1009) (by decide +kernel), List.mem_of_getElem? (i := 1010) (by decide +kernel)⟩
theorem lw_p33 : lw_okq (⟨"AwakeBoardModel", "isPerson", "(I)Z"⟩, 21) := ⟨⟨by decide +kernel, by decide +kernel⟩, List.mem_of_getElem? (i := 916) (by decide +kernel), List.mem_of_getElem? (i := 1013) (by decide +kernel), List.mem_of_getElem? (i := 1014) (by decide +kernel)⟩
theorem lw_p34 : lw_okq (⟨"AwakeBoardModel", "may", "(III)Z"⟩, 21) := ⟨⟨by decide +kernel, by decide +kernel⟩, List.mem_of_getElem? (i := 916) (by decide +kernel), List.mem_of_getElem? (i := 1021) (by decide +kernel), List.mem_of_getElem? (i := 1022) (by decide +kernel)⟩
theorem lw_p35 : lw_okq (⟨"AwakeBoardModel", "becomes", "(II)I"⟩, 21) := ⟨⟨by decide +kernel, by decide +kernel⟩, List.mem_of_getElem? (i := 916) (by decide +kernel), List.mem_of_getElem? (i := 1031) (by decide +kernel), List.mem_of_getElem? (i := 1032) (by decide +kernel)⟩
theorem lw_p36 : lw_okq (⟨"AwakeBoardModel", "doesSpeak", "(II)Z"⟩, 21) := ⟨⟨by decide +kernel, by decide +kernel⟩, List.mem_of_getElem? (i := 916) (by decide +kernel), List.mem_of_getElem? (i := 1051) (by decide +kernel), List.mem_of_getElem? (i := 1052) (by decide +kernel)⟩
theorem lw_p37 : lw_okq (⟨"AwakeBoardModel", "byGap", "(II)Z"⟩, 21) := ⟨⟨by decide +kernel, by decide +kernel⟩, List.mem_of_getElem? (i := 916) (by decide +kernel), List.mem_of_getElem? (i := 1055) (by decide +kernel), List.mem_of_getElem? (i := 1056) (by decide +kernel)⟩
theorem lw_p38 : lw_okq (⟨"AwakeBoardModel", "isAwake", "(II)Z"⟩, 21) := ⟨⟨by decide +kernel, by decide +kernel⟩, List.mem_of_getElem? (i := 916) (by decide +kernel), List.mem_of_getElem? (i := 1059) (by decide +kernel), List.mem_of_getElem? (i := 1060) (by decide +kernel)⟩
theorem lw_p39 : lw_okq (⟨"AwakeBoardModel", "byClock", "(II)Z"⟩, 21) := ⟨⟨by decide +kernel, by decide +kernel⟩, List.mem_of_getElem? (i := 916) (by decide +kernel), List.mem_of_getElem? (i := 1069) (by decide +kernel), List.mem_of_getElem? (i := 1070) (by decide +kernel)⟩
theorem lw_p40 : lw_okq (⟨"AwakeBoardModel", "isLed", "(II)Z"⟩, 21) := ⟨⟨by decide +kernel, by decide +kernel⟩, List.mem_of_getElem? (i := 916) (by decide +kernel), List.mem_of_getElem? (i := 1073) (by decide +kernel), List.mem_of_getElem? (i := 1074) (by decide +kernel)⟩
theorem lw_p41 : lw_okq (⟨"AwakeBoardModel", "word", "(II)I"⟩, 21) := ⟨⟨by decide +kernel, by decide +kernel⟩, List.mem_of_getElem? (i := 916) (by decide +kernel), List.mem_of_getElem? (i := 1077) (by decide +kernel), List.mem_of_getElem? (i := 1078) (by decide +kernel)⟩
theorem lw_p42 : lw_okq (⟨"AwakeBoardModel", "tellsNow", "(I)I"⟩, 21) := ⟨⟨by decide +kernel, by decide +kernel⟩, List.mem_of_getElem? (i := 916) (by decide +kernel), List.mem_of_getElem? (i := 1091) (by decide +kernel), List.mem_of_getElem? (i := 1092) (by decide +kernel)⟩
theorem lw_p43 : lw_okq (⟨"AwakeBoardModel", "wordsOf", "(I)I"⟩, 21) := ⟨⟨by decide +kernel, by decide +kernel⟩, List.mem_of_getElem? (i := 916) (by decide +kernel), List.mem_of_getElem? (i := 1095) (by decide +kernel), List.mem_of_getElem? (i := 1096) (by decide +kernel)⟩
theorem lw_p44 : lw_okq (⟨"AwakeBoardModel", "isSaid", "(II)Z"⟩, 21) := ⟨⟨by decide +kernel, by decide +kernel⟩, List.mem_of_getElem? (i := 916) (by decide +kernel), List.mem_of_getElem? (i := 1099) (by decide +kernel), List.mem_of_getElem? (i := 1100) (by decide +kernel)⟩
theorem lw_p45 : lw_okq (⟨"AwakeBoardModel", "isWord", "(I)Z"⟩, 21) := ⟨⟨by decide +kernel, by decide +kernel⟩, List.mem_of_getElem? (i := 916) (by decide +kernel), List.mem_of_getElem? (i := 1111) (by decide +kernel), List.mem_of_getElem? (i := 1112) (by decide +kernel)⟩
theorem lw_p46 : lw_okq (⟨"AwakeBoardModel", "follows", "(I)I"⟩, 21) := ⟨⟨by decide +kernel, by decide +kernel⟩, List.mem_of_getElem? (i := 916) (by decide +kernel), List.mem_of_getElem? (i := 1116) (by decide +kernel), List.mem_of_getElem? (i := 1117) (by decide +kernel)⟩
theorem lw_p47 : lw_okq (⟨"AwakeBoardModel", "signOf", "(II)I"⟩, 21) := ⟨⟨by decide +kernel, by decide +kernel⟩, List.mem_of_getElem? (i := 916) (by decide +kernel), List.mem_of_getElem? (i := 1129) (by decide +kernel), List.mem_of_getElem? (i := 1130) (by decide +kernel)⟩
def lw_privs_3 : List (MethodName × Nat) := [(⟨"AwakeBoardModel", "of", "(II)I"⟩, 21), (⟨"AwakeBoardModel", "isPerson", "(I)Z"⟩, 21), (⟨"AwakeBoardModel", "may", "(III)Z"⟩, 21), (⟨"AwakeBoardModel", "becomes", "(II)I"⟩, 21), (⟨"AwakeBoardModel", "doesSpeak", "(II)Z"⟩, 21), (⟨"AwakeBoardModel", "byGap", "(II)Z"⟩, 21), (⟨"AwakeBoardModel", "isAwake", "(II)Z"⟩, 21), (⟨"AwakeBoardModel", "byClock", "(II)Z"⟩, 21), (⟨"AwakeBoardModel", "isLed", "(II)Z"⟩, 21), (⟨"AwakeBoardModel", "word", "(II)I"⟩, 21), (⟨"AwakeBoardModel", "tellsNow", "(I)I"⟩, 21), (⟨"AwakeBoardModel", "wordsOf", "(I)I"⟩, 21), (⟨"AwakeBoardModel", "isSaid", "(II)Z"⟩, 21), (⟨"AwakeBoardModel", "isWord", "(I)Z"⟩, 21), (⟨"AwakeBoardModel", "follows", "(I)I"⟩, 21), (⟨"AwakeBoardModel", "signOf", "(II)I"⟩, 21)]
theorem lw_r3 : ∀ q ∈ lw_privs_3, lw_okq q := List.forall_mem_cons.mpr ⟨lw_p32, List.forall_mem_cons.mpr ⟨lw_p33, List.forall_mem_cons.mpr ⟨lw_p34, List.forall_mem_cons.mpr ⟨lw_p35, List.forall_mem_cons.mpr ⟨lw_p36, List.forall_mem_cons.mpr ⟨lw_p37, List.forall_mem_cons.mpr ⟨lw_p38, List.forall_mem_cons.mpr ⟨lw_p39, List.forall_mem_cons.mpr ⟨lw_p40, List.forall_mem_cons.mpr ⟨lw_p41, List.forall_mem_cons.mpr ⟨lw_p42, List.forall_mem_cons.mpr ⟨lw_p43, List.forall_mem_cons.mpr ⟨lw_p44, List.forall_mem_cons.mpr ⟨lw_p45, List.forall_mem_cons.mpr ⟨lw_p46, List.forall_mem_cons.mpr ⟨lw_p47, fun _ h => absurd h List.not_mem_nil⟩⟩⟩⟩⟩⟩⟩⟩⟩⟩⟩⟩⟩⟩⟩⟩
theorem lw_p48 : lw_okq (⟨"AwakeBoardModel", "gapOf", "(IZ)I"⟩, 21) := ⟨⟨by decide +kernel, by decide +kernel⟩, List.mem_of_getElem? (i := 916) (by decide +kernel), List.mem_of_getElem? (i := 1133) (by decide +kernel), List.mem_of_getElem? (i := 1134) (by decide +kernel)⟩
theorem lw_p49 : lw_okq (⟨"AwakeBoardModel", "hoursOf", "(I)I"⟩, 21) := ⟨⟨by decide +kernel, by decide +kernel⟩, List.mem_of_getElem? (i := 916) (by decide +kernel), List.mem_of_getElem? (i := 1137) (by decide +kernel), List.mem_of_getElem? (i := 1138) (by decide +kernel)⟩
theorem lw_p50 : lw_okq (⟨"AwakeBoardModel", "followOf", "(IZ)I"⟩, 21) := ⟨⟨by decide +kernel, by decide +kernel⟩, List.mem_of_getElem? (i := 916) (by decide +kernel), List.mem_of_getElem? (i := 1144) (by decide +kernel), List.mem_of_getElem? (i := 1145) (by decide +kernel)⟩
theorem lw_p51 : lw_okq (⟨"AwakeBoardModel", "next", "()V"⟩, 21) := ⟨⟨by decide +kernel, by decide +kernel⟩, List.mem_of_getElem? (i := 916) (by decide +kernel), List.mem_of_getElem? (i := 1165) (by decide +kernel), List.mem_of_getElem? (i := 1166) (by decide +kernel)⟩
theorem lw_p52 : lw_okq (⟨"AwakeBoardModel", "whole", "()V"⟩, 21) := ⟨⟨by decide +kernel, by decide +kernel⟩, List.mem_of_getElem? (i := 916) (by decide +kernel), List.mem_of_getElem? (i := 1174) (by decide +kernel), List.mem_of_getElem? (i := 1175) (by decide +kernel)⟩
theorem lw_p53 : lw_okq (⟨"AwakeBoardModel", "sum", "()V"⟩, 21) := ⟨⟨by decide +kernel, by decide +kernel⟩, List.mem_of_getElem? (i := 916) (by decide +kernel), List.mem_of_getElem? (i := 1178) (by decide +kernel), List.mem_of_getElem? (i := 1179) (by decide +kernel)⟩
theorem lw_p54 : lw_okq (⟨"AwakeBoardModel", "term", "()V"⟩, 21) := ⟨⟨by decide +kernel, by decide +kernel⟩, List.mem_of_getElem? (i := 916) (by decide +kernel), List.mem_of_getElem? (i := 1182) (by decide +kernel), List.mem_of_getElem? (i := 1183) (by decide +kernel)⟩
theorem lw_p55 : lw_okq (⟨"AwakeBoardModel", "one", "()V"⟩, 21) := ⟨⟨by decide +kernel, by decide +kernel⟩, List.mem_of_getElem? (i := 916) (by decide +kernel), List.mem_of_getElem? (i := 1186) (by decide +kernel), List.mem_of_getElem? (i := 1187) (by decide +kernel)⟩
theorem lw_p56 : lw_okq (⟨"AwakeBoardModel", "puts", "(I)V"⟩, 21) := ⟨⟨by decide +kernel, by decide +kernel⟩, List.mem_of_getElem? (i := 916) (by decide +kernel), List.mem_of_getElem? (i := 1190) (by decide +kernel), List.mem_of_getElem? (i := 1191) (by decide +kernel)⟩
theorem lw_p57 : lw_okq (⟨"AwakeBoardModel", "isSign", "(I)Z"⟩, 21) := ⟨⟨by decide +kernel, by decide +kernel⟩, List.mem_of_getElem? (i := 916) (by decide +kernel), List.mem_of_getElem? (i := 1197) (by decide +kernel), List.mem_of_getElem? (i := 1198) (by decide +kernel)⟩
theorem lw_p58 : lw_okq (⟨"AwakeBoardModel", "isText", "(I)Z"⟩, 21) := ⟨⟨by decide +kernel, by decide +kernel⟩, List.mem_of_getElem? (i := 916) (by decide +kernel), List.mem_of_getElem? (i := 1205) (by decide +kernel), List.mem_of_getElem? (i := 1206) (by decide +kernel)⟩
theorem lw_p59 : lw_okq (⟨"AwakeBoardModel", "scoreOf", "(II)I"⟩, 21) := ⟨⟨by decide +kernel, by decide +kernel⟩, List.mem_of_getElem? (i := 916) (by decide +kernel), List.mem_of_getElem? (i := 1209) (by decide +kernel), List.mem_of_getElem? (i := 1210) (by decide +kernel)⟩
theorem lw_p60 : lw_okq (⟨"AwakeBoardModel", "findScores", "(I)V"⟩, 21) := ⟨⟨by decide +kernel, by decide +kernel⟩, List.mem_of_getElem? (i := 916) (by decide +kernel), List.mem_of_getElem? (i := 1221) (by decide +kernel), List.mem_of_getElem? (i := 1222) (by decide +kernel)⟩
theorem lw_p61 : lw_okq (⟨"AwakeBoardModel", "foundBy", "(I)I"⟩, 21) := ⟨⟨by decide +kernel, by decide +kernel⟩, List.mem_of_getElem? (i := 916) (by decide +kernel), List.mem_of_getElem? (i := 1225) (by decide +kernel), List.mem_of_getElem? (i := 1226) (by decide +kernel)⟩
theorem lw_p62 : lw_okq (⟨"AwakeBoardModel", "people", "()I"⟩, 21) := ⟨⟨by decide +kernel, by decide +kernel⟩, List.mem_of_getElem? (i := 916) (by decide +kernel), List.mem_of_getElem? (i := 1229) (by decide +kernel), List.mem_of_getElem? (i := 1230) (by decide +kernel)⟩
theorem lw_p63 : lw_okq (⟨"AwakeBoardModel", "every", "()I"⟩, 21) := ⟨⟨by decide +kernel, by decide +kernel⟩, List.mem_of_getElem? (i := 916) (by decide +kernel), List.mem_of_getElem? (i := 1233) (by decide +kernel), List.mem_of_getElem? (i := 1234) (by decide +kernel)⟩
def lw_privs_4 : List (MethodName × Nat) := [(⟨"AwakeBoardModel", "gapOf", "(IZ)I"⟩, 21), (⟨"AwakeBoardModel", "hoursOf", "(I)I"⟩, 21), (⟨"AwakeBoardModel", "followOf", "(IZ)I"⟩, 21), (⟨"AwakeBoardModel", "next", "()V"⟩, 21), (⟨"AwakeBoardModel", "whole", "()V"⟩, 21), (⟨"AwakeBoardModel", "sum", "()V"⟩, 21), (⟨"AwakeBoardModel", "term", "()V"⟩, 21), (⟨"AwakeBoardModel", "one", "()V"⟩, 21), (⟨"AwakeBoardModel", "puts", "(I)V"⟩, 21), (⟨"AwakeBoardModel", "isSign", "(I)Z"⟩, 21), (⟨"AwakeBoardModel", "isText", "(I)Z"⟩, 21), (⟨"AwakeBoardModel", "scoreOf", "(II)I"⟩, 21), (⟨"AwakeBoardModel", "findScores", "(I)V"⟩, 21), (⟨"AwakeBoardModel", "foundBy", "(I)I"⟩, 21), (⟨"AwakeBoardModel", "people", "()I"⟩, 21), (⟨"AwakeBoardModel", "every", "()I"⟩, 21)]
theorem lw_r4 : ∀ q ∈ lw_privs_4, lw_okq q := List.forall_mem_cons.mpr ⟨lw_p48, List.forall_mem_cons.mpr ⟨lw_p49, List.forall_mem_cons.mpr ⟨lw_p50, List.forall_mem_cons.mpr ⟨lw_p51, List.forall_mem_cons.mpr ⟨lw_p52, List.forall_mem_cons.mpr ⟨lw_p53, List.forall_mem_cons.mpr ⟨lw_p54, List.forall_mem_cons.mpr ⟨lw_p55, List.forall_mem_cons.mpr ⟨lw_p56, List.forall_mem_cons.mpr ⟨lw_p57, List.forall_mem_cons.mpr ⟨lw_p58, List.forall_mem_cons.mpr ⟨lw_p59, List.forall_mem_cons.mpr ⟨lw_p60, List.forall_mem_cons.mpr ⟨lw_p61, List.forall_mem_cons.mpr ⟨lw_p62, List.forall_mem_cons.mpr ⟨lw_p63, fun _ h => absurd h List.not_mem_nil⟩⟩⟩⟩⟩⟩⟩⟩⟩⟩⟩⟩⟩⟩⟩⟩
theorem lw_p64 : lw_okq (⟨"AwakeBoardModel", "howMany", "(I)I"⟩, 21) := ⟨⟨by decide +kernel, by decide +kernel⟩, List.mem_of_getElem? (i := 916) (by decide +kernel), List.mem_of_getElem? (i := 1255) (by decide +kernel), List.mem_of_getElem? (i := 1256) (by decide +kernel)⟩
theorem lw_p65 : lw_okq (⟨"AwakeBoardModel", "areTwo", "(II)Z"⟩, 21) := ⟨⟨by decide +kernel, by decide +kernel⟩, List.mem_of_getElem? (i := 916) (by decide +kernel), List.mem_of_getElem? (i := 1263) (by decide +kernel), List.mem_of_getElem? (i := 1264) (by decide +kernel)⟩
theorem lw_p66 : lw_okq (⟨"AwakeBoardModel", "togetherOf", "(III)I"⟩, 21) := ⟨⟨by decide +kernel, by decide +kernel⟩, List.mem_of_getElem? (i := 916) (by decide +kernel), List.mem_of_getElem? (i := 1267) (by decide +kernel), List.mem_of_getElem? (i := 1268) (by decide +kernel)⟩
theorem lw_p67 : lw_okq (⟨"AwakeBoardModel", "isNear", "(III)Z"⟩, 21) := ⟨⟨by decide +kernel, by decide +kernel⟩, List.mem_of_getElem? (i := 916) (by decide +kernel), List.mem_of_getElem? (i := 1271) (by decide +kernel), List.mem_of_getElem? (i := 1272) (by decide +kernel)⟩
theorem lw_p68 : lw_okq (⟨"AwakeBoardModel", "findGroups", "(II)V"⟩, 21) := ⟨⟨by decide +kernel, by decide +kernel⟩, List.mem_of_getElem? (i := 916) (by decide +kernel), List.mem_of_getElem? (i := 1282) (by decide +kernel), List.mem_of_getElem? (i := 1283) (by decide +kernel)⟩
theorem lw_p69 : lw_okq (⟨"AwakeBoardModel", "isSet", "(I)Z"⟩, 21) := ⟨⟨by decide +kernel, by decide +kernel⟩, List.mem_of_getElem? (i := 916) (by decide +kernel), List.mem_of_getElem? (i := 1303) (by decide +kernel), List.mem_of_getElem? (i := 1304) (by decide +kernel)⟩
theorem lw_p70 : lw_okq (⟨"AwakeBoardModel", "countOf", "(II)I"⟩, 21) := ⟨⟨by decide +kernel, by decide +kernel⟩, List.mem_of_getElem? (i := 916) (by decide +kernel), List.mem_of_getElem? (i := 1307) (by decide +kernel), List.mem_of_getElem? (i := 1308) (by decide +kernel)⟩
def lw_privs_5 : List (MethodName × Nat) := [(⟨"AwakeBoardModel", "howMany", "(I)I"⟩, 21), (⟨"AwakeBoardModel", "areTwo", "(II)Z"⟩, 21), (⟨"AwakeBoardModel", "togetherOf", "(III)I"⟩, 21), (⟨"AwakeBoardModel", "isNear", "(III)Z"⟩, 21), (⟨"AwakeBoardModel", "findGroups", "(II)V"⟩, 21), (⟨"AwakeBoardModel", "isSet", "(I)Z"⟩, 21), (⟨"AwakeBoardModel", "countOf", "(II)I"⟩, 21)]
theorem lw_r5 : ∀ q ∈ lw_privs_5, lw_okq q := List.forall_mem_cons.mpr ⟨lw_p64, List.forall_mem_cons.mpr ⟨lw_p65, List.forall_mem_cons.mpr ⟨lw_p66, List.forall_mem_cons.mpr ⟨lw_p67, List.forall_mem_cons.mpr ⟨lw_p68, List.forall_mem_cons.mpr ⟨lw_p69, List.forall_mem_cons.mpr ⟨lw_p70, fun _ h => absurd h List.not_mem_nil⟩⟩⟩⟩⟩⟩⟩
def lw_privs : List (MethodName × Nat) := lw_privs_1 ++ (lw_privs_2 ++ (lw_privs_3 ++ (lw_privs_4 ++ (lw_privs_5))))
def lw_tbl : List Cond := k2_sels lw_privs ++ tables_1
theorem lw_privs_ok : ∀ q ∈ lw_privs, lw_okq q := by
  show ∀ q ∈ lw_privs_1 ++ (lw_privs_2 ++ (lw_privs_3 ++ (lw_privs_4 ++ (lw_privs_5)))), lw_okq q
  exact List.forall_mem_append.mpr ⟨lw_r1, List.forall_mem_append.mpr ⟨lw_r2, List.forall_mem_append.mpr ⟨lw_r3, List.forall_mem_append.mpr ⟨lw_r4, lw_r5⟩⟩⟩⟩
def RX0 : String := "AwakeBoard$Board"
def TX0 : u_T := fun k => match k with
  | 0 => ("AwakeBoard$Board", "now", "I", false)
  | 1 => ("AwakeBoard$Board", "size", "I", false)
  | 2 => ("AwakeBoard$Board", "lost", "I", false)
  | 3 => ("AwakeBoard$Board", "seconds", "[I", true)
  | 4 => ("AwakeBoard$Board", "speakers", "[I", true)
  | 5 => ("AwakeBoard$Board", "topics", "[I", true)
  | 6 => ("AwakeBoard$Board", "followed", "[I", true)
  | _ => ("AwakeBoard$Board", "isBelow", "[Z", true)
def tyX0 : Nat → FieldType := fun k => match k with
  | 0 => .int
  | 1 => .int
  | 2 => .int
  | 3 => .array .int
  | 4 => .array .int
  | 5 => .array .int
  | 6 => .array .int
  | _ => .array .boolean
theorem nmX0 : ∀ a, a < 8 → ∀ b, b < 8 → a ≠ b → (TX0 a).2.1 ≠ (TX0 b).2.1 := by decide +kernel
theorem tyX0_ok : ∀ k, k < 8 → parseFieldDescriptor (TX0 k).2.2.1 = some (tyX0 k) := by decide +kernel
def RX1 : String := "AwakeBoard$Names"
def TX1 : u_T := fun k => match k with
  | 0 => ("AwakeBoard$Names", "size", "I", false)
  | 1 => ("AwakeBoard$Names", "shutSet", "I", false)
  | 2 => ("AwakeBoard$Names", "askedSet", "I", false)
  | _ => ("AwakeBoard$Names", "traits", "[[I", true)
def tyX1 : Nat → FieldType := fun k => match k with
  | 0 => .int
  | 1 => .int
  | 2 => .int
  | _ => .array (.array .int)
theorem nmX1 : ∀ a, a < 4 → ∀ b, b < 4 → a ≠ b → (TX1 a).2.1 ≠ (TX1 b).2.1 := by decide +kernel
theorem tyX1_ok : ∀ k, k < 4 → parseFieldDescriptor (TX1 k).2.2.1 = some (tyX1 k) := by decide +kernel
def RX2 : String := "AwakeBoard$Reader"
def TX2 : u_T := fun k => match k with
  | 0 => ("AwakeBoard$Reader", "bytes", "[I", false)
  | 1 => ("AwakeBoard$Reader", "size", "I", false)
  | 2 => ("AwakeBoard$Reader", "signs", "[I", false)
  | 3 => ("AwakeBoard$Reader", "at", "I", false)
  | 4 => ("AwakeBoard$Reader", "token", "I", false)
  | 5 => ("AwakeBoard$Reader", "place", "I", false)
  | 6 => ("AwakeBoard$Reader", "given", "I", false)
  | _ => ("AwakeBoard$Reader", "fault", "I", false)
def tyX2 : Nat → FieldType := fun k => match k with
  | 0 => .array .int
  | 1 => .int
  | 2 => .array .int
  | 3 => .int
  | 4 => .int
  | 5 => .int
  | 6 => .int
  | _ => .int
theorem nmX2 : ∀ a, a < 8 → ∀ b, b < 8 → a ≠ b → (TX2 a).2.1 ≠ (TX2 b).2.1 := by decide +kernel
theorem tyX2_ok : ∀ k, k < 8 → parseFieldDescriptor (TX2 k).2.2.1 = some (tyX2 k) := by decide +kernel
def RX3 : String := "AwakeBoard$Scene"
def TX3 : u_T := fun k => match k with
  | 0 => ("AwakeBoard$Scene", "names", "LAwakeBoard$Names;", true)
  | 1 => ("AwakeBoard$Scene", "board", "LAwakeBoard$Board;", true)
  | 2 => ("AwakeBoard$Scene", "texts", "LAwakeBoard$Texts;", true)
  | 3 => ("AwakeBoard$Scene", "spots", "[I", true)
  | _ => ("AwakeBoard$Scene", "z", "I", false)
def tyX3 : Nat → FieldType := fun k => match k with
  | 0 => .object "AwakeBoard$Names"
  | 1 => .object "AwakeBoard$Board"
  | 2 => .object "AwakeBoard$Texts"
  | 3 => .array .int
  | _ => .int
theorem nmX3 : ∀ a, a < 5 → ∀ b, b < 5 → a ≠ b → (TX3 a).2.1 ≠ (TX3 b).2.1 := by decide +kernel
theorem tyX3_ok : ∀ k, k < 5 → parseFieldDescriptor (TX3 k).2.2.1 = some (tyX3 k) := by decide +kernel
def RX4 : String := "AwakeBoard$Sheet"
def TX4 : u_T := fun k => match k with
  | 0 => ("AwakeBoard$Sheet", "bits", "I", false)
  | 1 => ("AwakeBoard$Sheet", "size", "I", false)
  | _ => ("AwakeBoard$Sheet", "numbers", "[I", true)
def tyX4 : Nat → FieldType := fun k => match k with
  | 0 => .int
  | 1 => .int
  | _ => .array .int
theorem nmX4 : ∀ a, a < 3 → ∀ b, b < 3 → a ≠ b → (TX4 a).2.1 ≠ (TX4 b).2.1 := by decide +kernel
theorem tyX4_ok : ∀ k, k < 3 → parseFieldDescriptor (TX4 k).2.2.1 = some (tyX4 k) := by decide +kernel
def RX5 : String := "AwakeBoard$Signs"
def TX5 : u_T := fun k => match k with
  | _ => ("AwakeBoard$Signs", "row", "[I", true)
def tyX5 : Nat → FieldType := fun k => match k with
  | _ => .array .int
theorem nmX5 : ∀ a, a < 1 → ∀ b, b < 1 → a ≠ b → (TX5 a).2.1 ≠ (TX5 b).2.1 := by decide +kernel
theorem tyX5_ok : ∀ k, k < 1 → parseFieldDescriptor (TX5 k).2.2.1 = some (tyX5 k) := by decide +kernel
def RX6 : String := "AwakeBoard$Texts"
def TX6 : u_T := fun k => match k with
  | 0 => ("AwakeBoard$Texts", "size", "I", false)
  | 1 => ("AwakeBoard$Texts", "bytes", "[[I", true)
  | _ => ("AwakeBoard$Texts", "sizes", "[I", true)
def tyX6 : Nat → FieldType := fun k => match k with
  | 0 => .int
  | 1 => .array (.array .int)
  | _ => .array .int
theorem nmX6 : ∀ a, a < 3 → ∀ b, b < 3 → a ≠ b → (TX6 a).2.1 ≠ (TX6 b).2.1 := by decide +kernel
theorem tyX6_ok : ∀ k, k < 3 → parseFieldDescriptor (TX6 k).2.2.1 = some (tyX6 k) := by decide +kernel
def RX7 : String := "AwakeBoard$Ties"
def TX7 : u_T := fun k => match k with
  | 0 => ("AwakeBoard$Ties", "size", "I", false)
  | 1 => ("AwakeBoard$Ties", "least", "[I", true)
  | _ => ("AwakeBoard$Ties", "near", "[[I", true)
def tyX7 : Nat → FieldType := fun k => match k with
  | 0 => .int
  | 1 => .array .int
  | _ => .array (.array .int)
theorem nmX7 : ∀ a, a < 3 → ∀ b, b < 3 → a ≠ b → (TX7 a).2.1 ≠ (TX7 b).2.1 := by decide +kernel
theorem tyX7_ok : ∀ k, k < 3 → parseFieldDescriptor (TX7 k).2.2.1 = some (tyX7 k) := by decide +kernel
def RX8 : String := "AwakeBoard"
def TX8 : u_T := fun k => match k with
  | 0 => ("AwakeBoard", "scene", "LAwakeBoard$Scene;", true)
  | 1 => ("AwakeBoard", "kept", "LAwakeBoard$Scene;", true)
  | 2 => ("AwakeBoard", "isKept", "Z", false)
  | 3 => ("AwakeBoard", "tape", "[I", true)
  | 4 => ("AwakeBoard", "tapeSize", "I", false)
  | 5 => ("AwakeBoard", "sheets", "[LAwakeBoard$Sheet;", true)
  | 6 => ("AwakeBoard", "findings", "[I", true)
  | 7 => ("AwakeBoard", "signs", "LAwakeBoard$Signs;", true)
  | 8 => ("AwakeBoard", "reader", "LAwakeBoard$Reader;", true)
  | 9 => ("AwakeBoard", "ties", "LAwakeBoard$Ties;", true)
  | _ => ("AwakeBoard", "scores", "[I", true)
def tyX8 : Nat → FieldType := fun k => match k with
  | 0 => .object "AwakeBoard$Scene"
  | 1 => .object "AwakeBoard$Scene"
  | 2 => .boolean
  | 3 => .array .int
  | 4 => .int
  | 5 => .array (.object "AwakeBoard$Sheet")
  | 6 => .array .int
  | 7 => .object "AwakeBoard$Signs"
  | 8 => .object "AwakeBoard$Reader"
  | 9 => .object "AwakeBoard$Ties"
  | _ => .array .int
theorem nmX8 : ∀ a, a < 11 → ∀ b, b < 11 → a ≠ b → (TX8 a).2.1 ≠ (TX8 b).2.1 := by decide +kernel
theorem tyX8_ok : ∀ k, k < 11 → parseFieldDescriptor (TX8 k).2.2.1 = some (tyX8 k) := by decide +kernel
def RX9 : String := "AwakeBoardModel"
def TX9 : u_T := fun k => match k with
  | 0 => ("AwakeBoardModel", "m", "[I", true)
  | 1 => ("AwakeBoardModel", "kept", "[I", true)
  | 2 => ("AwakeBoardModel", "isKept", "Z", false)
  | 3 => ("AwakeBoardModel", "found", "[I", true)
  | 4 => ("AwakeBoardModel", "isBelow", "[Z", true)
  | 5 => ("AwakeBoardModel", "tape", "[I", true)
  | 6 => ("AwakeBoardModel", "taped", "I", false)
  | 7 => ("AwakeBoardModel", "step", "[I", true)
  | 8 => ("AwakeBoardModel", "steps", "I", false)
  | 9 => ("AwakeBoardModel", "from", "I", false)
  | 10 => ("AwakeBoardModel", "to", "I", false)
  | 11 => ("AwakeBoardModel", "token", "I", false)
  | 12 => ("AwakeBoardModel", "value", "I", false)
  | 13 => ("AwakeBoardModel", "open", "I", false)
  | 14 => ("AwakeBoardModel", "bad", "Z", false)
  | 15 => ("AwakeBoardModel", "stack", "[I", true)
  | 16 => ("AwakeBoardModel", "scores", "[I", true)
  | 17 => ("AwakeBoardModel", "least", "[I", true)
  | 18 => ("AwakeBoardModel", "bits", "[I", true)
  | 19 => ("AwakeBoardModel", "size", "[I", true)
  | _ => ("AwakeBoardModel", "number", "[I", true)
def tyX9 : Nat → FieldType := fun k => match k with
  | 0 => .array .int
  | 1 => .array .int
  | 2 => .boolean
  | 3 => .array .int
  | 4 => .array .boolean
  | 5 => .array .int
  | 6 => .int
  | 7 => .array .int
  | 8 => .int
  | 9 => .int
  | 10 => .int
  | 11 => .int
  | 12 => .int
  | 13 => .int
  | 14 => .boolean
  | 15 => .array .int
  | 16 => .array .int
  | 17 => .array .int
  | 18 => .array .int
  | 19 => .array .int
  | _ => .array .int
theorem nmX9 : ∀ a, a < 21 → ∀ b, b < 21 → a ≠ b → (TX9 a).2.1 ≠ (TX9 b).2.1 := by decide +kernel
theorem tyX9_ok : ∀ k, k < 21 → parseFieldDescriptor (TX9 k).2.2.1 = some (tyX9 k) := by decide +kernel
def RJ11 : String := "java/lang/Character"
def TJ11 : u_T := fun k => match k with
  | _ => ("", "", "", false)
def tyJ11 : Nat → FieldType := fun k => match k with
  | _ => .int
theorem nmJ11 : ∀ a, a < 0 → ∀ b, b < 0 → a ≠ b → (TJ11 a).2.1 ≠ (TJ11 b).2.1 := by decide +kernel
theorem tyJ11_ok : ∀ k, k < 0 → parseFieldDescriptor (TJ11 k).2.2.1 = some (tyJ11 k) := by decide +kernel
def RJ6 : String := "java/lang/Integer"
def TJ6 : u_T := fun k => match k with
  | _ => ("", "", "", false)
def tyJ6 : Nat → FieldType := fun k => match k with
  | _ => .int
theorem nmJ6 : ∀ a, a < 0 → ∀ b, b < 0 → a ≠ b → (TJ6 a).2.1 ≠ (TJ6 b).2.1 := by decide +kernel
theorem tyJ6_ok : ∀ k, k < 0 → parseFieldDescriptor (TJ6 k).2.2.1 = some (tyJ6 k) := by decide +kernel
def RJ9 : String := "java/lang/Math"
def TJ9 : u_T := fun k => match k with
  | _ => ("", "", "", false)
def tyJ9 : Nat → FieldType := fun k => match k with
  | _ => .int
theorem nmJ9 : ∀ a, a < 0 → ∀ b, b < 0 → a ≠ b → (TJ9 a).2.1 ≠ (TJ9 b).2.1 := by decide +kernel
theorem tyJ9_ok : ∀ k, k < 0 → parseFieldDescriptor (TJ9 k).2.2.1 = some (tyJ9 k) := by decide +kernel
def RJ0 : String := "java/lang/String"
def TJ0 : u_T := fun k => match k with
  | _ => ("", "", "", false)
def tyJ0 : Nat → FieldType := fun k => match k with
  | _ => .int
theorem nmJ0 : ∀ a, a < 0 → ∀ b, b < 0 → a ≠ b → (TJ0 a).2.1 ≠ (TJ0 b).2.1 := by decide +kernel
theorem tyJ0_ok : ∀ k, k < 0 → parseFieldDescriptor (TJ0 k).2.2.1 = some (tyJ0 k) := by decide +kernel
def RJ1 : String := "java/lang/StringLatin1"
def TJ1 : u_T := fun k => match k with
  | _ => ("", "", "", false)
def tyJ1 : Nat → FieldType := fun k => match k with
  | _ => .int
theorem nmJ1 : ∀ a, a < 0 → ∀ b, b < 0 → a ≠ b → (TJ1 a).2.1 ≠ (TJ1 b).2.1 := by decide +kernel
theorem tyJ1_ok : ∀ k, k < 0 → parseFieldDescriptor (TJ1 k).2.2.1 = some (tyJ1 k) := by decide +kernel
def RJ2 : String := "java/lang/StringUTF16"
def TJ2 : u_T := fun k => match k with
  | _ => ("", "", "", false)
def tyJ2 : Nat → FieldType := fun k => match k with
  | _ => .int
theorem nmJ2 : ∀ a, a < 0 → ∀ b, b < 0 → a ≠ b → (TJ2 a).2.1 ≠ (TJ2 b).2.1 := by decide +kernel
theorem tyJ2_ok : ∀ k, k < 0 → parseFieldDescriptor (TJ2 k).2.2.1 = some (tyJ2 k) := by decide +kernel
def RJ10 : String := "java/lang/System"
def TJ10 : u_T := fun k => match k with
  | _ => ("", "", "", false)
def tyJ10 : Nat → FieldType := fun k => match k with
  | _ => .int
theorem nmJ10 : ∀ a, a < 0 → ∀ b, b < 0 → a ≠ b → (TJ10 a).2.1 ≠ (TJ10 b).2.1 := by decide +kernel
theorem tyJ10_ok : ∀ k, k < 0 → parseFieldDescriptor (TJ10 k).2.2.1 = some (tyJ10 k) := by decide +kernel
def RJ3 : String := "jdk/internal/util/Preconditions"
def TJ3 : u_T := fun k => match k with
  | _ => ("", "", "", false)
def tyJ3 : Nat → FieldType := fun k => match k with
  | _ => .int
theorem nmJ3 : ∀ a, a < 0 → ∀ b, b < 0 → a ≠ b → (TJ3 a).2.1 ≠ (TJ3 b).2.1 := by decide +kernel
theorem tyJ3_ok : ∀ k, k < 0 → parseFieldDescriptor (TJ3 k).2.2.1 = some (tyJ3 k) := by decide +kernel
def RL : String := "AwakeBoardLaw"
abbrev vwCl : List vw_C := [(RX0, TX0, 8), (RX1, TX1, 4), (RX2, TX2, 8), (RX3, TX3, 5), (RX4, TX4, 3), (RX5, TX5, 1), (RX6, TX6, 3), (RX7, TX7, 3), (RX8, TX8, 11), (RX9, TX9, 21)]
abbrev cX0_init : ByteArray := prog_2_method_1_code
def yX0_init : MethodName := ⟨RX0, "<init>", "()V"⟩
abbrev cX0_has : ByteArray := prog_2_method_2_code
def yX0_has : MethodName := ⟨RX0, "has", "(I)Z"⟩
abbrev cX0_isFull : ByteArray := prog_2_method_3_code
def yX0_isFull : MethodName := ⟨RX0, "isFull", "()Z"⟩
abbrev cX0_add : ByteArray := prog_2_method_4_code
def yX0_add : MethodName := ⟨RX0, "add", "(II)I"⟩
abbrev cX0_wordAhead : ByteArray := prog_2_method_5_code
def yX0_wordAhead : MethodName := ⟨RX0, "wordAhead", "(I)I"⟩
abbrev cX0_countBelow : ByteArray := prog_2_method_6_code
def yX0_countBelow : MethodName := ⟨RX0, "countBelow", "(I)I"⟩
abbrev cX0_countOf : ByteArray := prog_2_method_7_code
def yX0_countOf : MethodName := ⟨RX0, "countOf", "(I)I"⟩
abbrev cX0_latestOf : ByteArray := prog_2_method_8_code
def yX0_latestOf : MethodName := ⟨RX0, "latestOf", "(I)I"⟩
abbrev cX0_hourSet : ByteArray := prog_2_method_9_code
def yX0_hourSet : MethodName := ⟨RX0, "hourSet", "(I)I"⟩
abbrev cX0_firstTelling : ByteArray := prog_2_method_10_code
def yX0_firstTelling : MethodName := ⟨RX0, "firstTelling", "(I)I"⟩
abbrev cX0_countTelling : ByteArray := prog_2_method_11_code
def yX0_countTelling : MethodName := ⟨RX0, "countTelling", "(II)I"⟩
abbrev cX0_firstFrom : ByteArray := prog_2_method_12_code
def yX0_firstFrom : MethodName := ⟨RX0, "firstFrom", "(I)I"⟩
abbrev cX0_speakersBetween : ByteArray := prog_2_method_13_code
def yX0_speakersBetween : MethodName := ⟨RX0, "speakersBetween", "(II)I"⟩
abbrev cX0_speakersNear : ByteArray := prog_2_method_14_code
def yX0_speakersNear : MethodName := ⟨RX0, "speakersNear", "(II)I"⟩
abbrev cX0_countTogether : ByteArray := prog_2_method_15_code
def yX0_countTogether : MethodName := ⟨RX0, "countTogether", "(III)I"⟩
abbrev cX0_soldPlace : ByteArray := prog_2_method_16_code
def yX0_soldPlace : MethodName := ⟨RX0, "soldPlace", "(I)I"⟩
abbrev cX0_hourSum : ByteArray := prog_2_method_17_code
def yX0_hourSum : MethodName := ⟨RX0, "hourSum", "(I)I"⟩
abbrev cX0_become : ByteArray := prog_2_method_18_code
def yX0_become : MethodName := ⟨RX0, "become", "(LAwakeBoard$Board;)V"⟩
abbrev cX1_init : ByteArray := prog_3_method_1_code
def yX1_init : MethodName := ⟨RX1, "<init>", "()V"⟩
abbrev cX1_has : ByteArray := prog_3_method_2_code
def yX1_has : MethodName := ⟨RX1, "has", "(I)Z"⟩
abbrev cX1_hasAll : ByteArray := prog_3_method_3_code
def yX1_hasAll : MethodName := ⟨RX1, "hasAll", "(I)Z"⟩
abbrev cX1_add : ByteArray := prog_3_method_4_code
def yX1_add : MethodName := ⟨RX1, "add", "(II)I"⟩
abbrev cX1_allows : ByteArray := prog_3_method_5_code
def yX1_allows : MethodName := ⟨RX1, "allows", "(III)Z"⟩
abbrev cX1_isOf : ByteArray := prog_3_method_6_code
def yX1_isOf : MethodName := ⟨RX1, "isOf", "(II)Z"⟩
abbrev cX1_peopleSet : ByteArray := prog_3_method_7_code
def yX1_peopleSet : MethodName := ⟨RX1, "peopleSet", "()I"⟩
abbrev cX1_machineSet : ByteArray := prog_3_method_8_code
def yX1_machineSet : MethodName := ⟨RX1, "machineSet", "()I"⟩
abbrev cX1_become : ByteArray := prog_3_method_9_code
def yX1_become : MethodName := ⟨RX1, "become", "(LAwakeBoard$Names;)V"⟩
abbrev cX2_init : ByteArray := prog_4_method_1_code
def yX2_init : MethodName := ⟨RX2, "<init>", "()V"⟩
abbrev cX2_read : ByteArray := prog_4_method_2_code
def yX2_read : MethodName := ⟨RX2, "read", "([II[I)I"⟩
abbrev cX2_readText : ByteArray := prog_4_method_3_code
def yX2_readText : MethodName := ⟨RX2, "readText", "(I)I"⟩
abbrev cX2_readSum : ByteArray := prog_4_method_4_code
def yX2_readSum : MethodName := ⟨RX2, "readSum", "(I)I"⟩
abbrev cX2_readTerm : ByteArray := prog_4_method_5_code
def yX2_readTerm : MethodName := ⟨RX2, "readTerm", "(I)I"⟩
abbrev cX2_readOne : ByteArray := prog_4_method_6_code
def yX2_readOne : MethodName := ⟨RX2, "readOne", "(I)I"⟩
abbrev cX2_take : ByteArray := prog_4_method_7_code
def yX2_take : MethodName := ⟨RX2, "take", "(I)V"⟩
abbrev cX2_fail : ByteArray := prog_4_method_8_code
def yX2_fail : MethodName := ⟨RX2, "fail", "()V"⟩
abbrev cX2_step : ByteArray := prog_4_method_9_code
def yX2_step : MethodName := ⟨RX2, "step", "()V"⟩
abbrev cX2_stepNumber : ByteArray := prog_4_method_10_code
def yX2_stepNumber : MethodName := ⟨RX2, "stepNumber", "()V"⟩
abbrev cX2_isDigit : ByteArray := prog_4_method_11_code
def yX2_isDigit : MethodName := ⟨RX2, "isDigit", "(I)Z"⟩
abbrev cX2_isMark : ByteArray := prog_4_method_12_code
def yX2_isMark : MethodName := ⟨RX2, "isMark", "(I)Z"⟩
abbrev cX3_init : ByteArray := prog_5_method_1_code
def yX3_init : MethodName := ⟨RX3, "<init>", "()V"⟩
abbrev cX3_isSpeaking : ByteArray := prog_5_method_2_code
def yX3_isSpeaking : MethodName := ⟨RX3, "isSpeaking", "(II)Z"⟩
abbrev cX3_isAsName : ByteArray := prog_5_method_3_code
def yX3_isAsName : MethodName := ⟨RX3, "isAsName", "(II)Z"⟩
abbrev cX3_isAsPerson : ByteArray := prog_5_method_4_code
def yX3_isAsPerson : MethodName := ⟨RX3, "isAsPerson", "(II)Z"⟩
abbrev cX3_isAsClock : ByteArray := prog_5_method_5_code
def yX3_isAsClock : MethodName := ⟨RX3, "isAsClock", "(II)Z"⟩
abbrev cX3_isAsHalf : ByteArray := prog_5_method_6_code
def yX3_isAsHalf : MethodName := ⟨RX3, "isAsHalf", "(II)Z"⟩
abbrev cX3_isInHours : ByteArray := prog_5_method_7_code
def yX3_isInHours : MethodName := ⟨RX3, "isInHours", "(II)Z"⟩
abbrev cX3_isBehindLeader : ByteArray := prog_5_method_8_code
def yX3_isBehindLeader : MethodName := ⟨RX3, "isBehindLeader", "(II)Z"⟩
abbrev cX3_topicOf : ByteArray := prog_5_method_9_code
def yX3_topicOf : MethodName := ⟨RX3, "topicOf", "(I)I"⟩
abbrev cX3_passSecond : ByteArray := prog_5_method_10_code
def yX3_passSecond : MethodName := ⟨RX3, "passSecond", "()V"⟩
abbrev cX3_draw : ByteArray := prog_5_method_11_code
def yX3_draw : MethodName := ⟨RX3, "draw", "()I"⟩
abbrev cX3_become : ByteArray := prog_5_method_12_code
def yX3_become : MethodName := ⟨RX3, "become", "(LAwakeBoard$Scene;)V"⟩
abbrev cX4_init : ByteArray := prog_6_method_1_code
def yX4_init : MethodName := ⟨RX4, "<init>", "()V"⟩
abbrev cX4_isMissing : ByteArray := prog_6_method_2_code
def yX4_isMissing : MethodName := ⟨RX4, "isMissing", "()Z"⟩
abbrev cX4_begin : ByteArray := prog_6_method_3_code
def yX4_begin : MethodName := ⟨RX4, "begin", "(II)V"⟩
abbrev cX4_put : ByteArray := prog_6_method_4_code
def yX4_put : MethodName := ⟨RX4, "put", "(II)V"⟩
abbrev cX4_hasRange : ByteArray := prog_6_method_5_code
def yX4_hasRange : MethodName := ⟨RX4, "hasRange", "(II)Z"⟩
abbrev cX5_init : ByteArray := prog_7_method_1_code
def yX5_init : MethodName := ⟨RX5, "<init>", "()V"⟩
abbrev cX5_gather : ByteArray := prog_7_method_2_code
def yX5_gather : MethodName := ⟨RX5, "gather", "(LAwakeBoard$Board;I)V"⟩
abbrev cX5_gatherGaps : ByteArray := prog_7_method_3_code
def yX5_gatherGaps : MethodName := ⟨RX5, "gatherGaps", "(LAwakeBoard$Board;I)V"⟩
abbrev cX5_gatherFollowing : ByteArray := prog_7_method_4_code
def yX5_gatherFollowing : MethodName := ⟨RX5, "gatherFollowing", "(LAwakeBoard$Board;I)V"⟩
abbrev cX5_countTopics : ByteArray := prog_7_method_5_code
def yX5_countTopics : MethodName := ⟨RX5, "countTopics", "(LAwakeBoard$Board;I)I"⟩
abbrev cX6_init : ByteArray := prog_8_method_1_code
def yX6_init : MethodName := ⟨RX6, "<init>", "()V"⟩
abbrev cX6_has : ByteArray := prog_8_method_2_code
def yX6_has : MethodName := ⟨RX6, "has", "(I)Z"⟩
abbrev cX6_add : ByteArray := prog_8_method_3_code
def yX6_add : MethodName := ⟨RX6, "add", "([II)I"⟩
abbrev cX6_become : ByteArray := prog_8_method_4_code
def yX6_become : MethodName := ⟨RX6, "become", "(LAwakeBoard$Texts;)V"⟩
abbrev cX7_init : ByteArray := prog_9_method_1_code
def yX7_init : MethodName := ⟨RX7, "<init>", "()V"⟩
abbrev cX7_gather : ByteArray := prog_9_method_2_code
def yX7_gather : MethodName := ⟨RX7, "gather", "(LAwakeBoard$Board;III)V"⟩
abbrev cX7_gatherNear : ByteArray := prog_9_method_3_code
def yX7_gatherNear : MethodName := ⟨RX7, "gatherNear", "(LAwakeBoard$Board;I)V"⟩
abbrev cX7_join : ByteArray := prog_9_method_4_code
def yX7_join : MethodName := ⟨RX7, "join", "(II)V"⟩
abbrev cX7_groupSet : ByteArray := prog_9_method_5_code
def yX7_groupSet : MethodName := ⟨RX7, "groupSet", "(I)I"⟩
abbrev cX7_countGroups : ByteArray := prog_9_method_6_code
def yX7_countGroups : MethodName := ⟨RX7, "countGroups", "()I"⟩
abbrev cX8_init : ByteArray := prog_1_method_1_code
def yX8_init : MethodName := ⟨RX8, "<init>", "()V"⟩
abbrev cX8_name : ByteArray := prog_1_method_2_code
def yX8_name : MethodName := ⟨RX8, "name", "(II)I"⟩
abbrev cX8_nameOf : ByteArray := prog_1_method_3_code
def yX8_nameOf : MethodName := ⟨RX8, "nameOf", "(II)I"⟩
abbrev cX8_change : ByteArray := prog_1_method_4_code
def yX8_change : MethodName := ⟨RX8, "change", "(III)I"⟩
abbrev cX8_shut : ByteArray := prog_1_method_5_code
def yX8_shut : MethodName := ⟨RX8, "shut", "(IZ)I"⟩
abbrev cX8_object : ByteArray := prog_1_method_6_code
def yX8_object : MethodName := ⟨RX8, "object", "()I"⟩
abbrev cX8_speaks : ByteArray := prog_1_method_7_code
def yX8_speaks : MethodName := ⟨RX8, "speaks", "(II)I"⟩
abbrev cX8_next : ByteArray := prog_1_method_8_code
def yX8_next : MethodName := ⟨RX8, "next", "(II)I"⟩
abbrev cX8_go : ByteArray := prog_1_method_9_code
def yX8_go : MethodName := ⟨RX8, "go", "(I)I"⟩
abbrev cX8_say : ByteArray := prog_1_method_10_code
def yX8_say : MethodName := ⟨RX8, "say", "(II)I"⟩
abbrev cX8_wordOf : ByteArray := prog_1_method_11_code
def yX8_wordOf : MethodName := ⟨RX8, "wordOf", "(II)I"⟩
abbrev cX8_below : ByteArray := prog_1_method_12_code
def yX8_below : MethodName := ⟨RX8, "below", "(I)I"⟩
abbrev cX8_sign : ByteArray := prog_1_method_13_code
def yX8_sign : MethodName := ⟨RX8, "sign", "(II)I"⟩
abbrev cX8_hours : ByteArray := prog_1_method_14_code
def yX8_hours : MethodName := ⟨RX8, "hours", "(I)I"⟩
abbrev cX8_feed : ByteArray := prog_1_method_15_code
def yX8_feed : MethodName := ⟨RX8, "feed", "(II)I"⟩
abbrev cX8_wipe : ByteArray := prog_1_method_16_code
def yX8_wipe : MethodName := ⟨RX8, "wipe", "()I"⟩
abbrev cX8_text : ByteArray := prog_1_method_17_code
def yX8_text : MethodName := ⟨RX8, "text", "()I"⟩
abbrev cX8_score : ByteArray := prog_1_method_18_code
def yX8_score : MethodName := ⟨RX8, "score", "(II)I"⟩
abbrev cX8_found : ByteArray := prog_1_method_19_code
def yX8_found : MethodName := ⟨RX8, "found", "(III)I"⟩
abbrev cX8_line : ByteArray := prog_1_method_20_code
def yX8_line : MethodName := ⟨RX8, "line", "(IIII)I"⟩
abbrev cX8_shutAll : ByteArray := prog_1_method_21_code
def yX8_shutAll : MethodName := ⟨RX8, "shutAll", "(II)I"⟩
abbrev cX8_ask : ByteArray := prog_1_method_22_code
def yX8_ask : MethodName := ⟨RX8, "ask", "(II)I"⟩
abbrev cX8_asked : ByteArray := prog_1_method_23_code
def yX8_asked : MethodName := ⟨RX8, "asked", "(I)I"⟩
abbrev cX8_together : ByteArray := prog_1_method_24_code
def yX8_together : MethodName := ⟨RX8, "together", "(III)I"⟩
abbrev cX8_group : ByteArray := prog_1_method_25_code
def yX8_group : MethodName := ⟨RX8, "group", "(IIII)I"⟩
abbrev cX8_groups : ByteArray := prog_1_method_26_code
def yX8_groups : MethodName := ⟨RX8, "groups", "(II)I"⟩
abbrev cX8_club : ByteArray := prog_1_method_27_code
def yX8_club : MethodName := ⟨RX8, "club", "(II)I"⟩
abbrev cX8_apart : ByteArray := prog_1_method_28_code
def yX8_apart : MethodName := ⟨RX8, "apart", "(II)I"⟩
abbrev cX8_counts : ByteArray := prog_1_method_29_code
def yX8_counts : MethodName := ⟨RX8, "counts", "(II)I"⟩
abbrev cX8_most : ByteArray := prog_1_method_30_code
def yX8_most : MethodName := ⟨RX8, "most", "(I)I"⟩
abbrev cX8_first : ByteArray := prog_1_method_31_code
def yX8_first : MethodName := ⟨RX8, "first", "(I)I"⟩
abbrev cX8_many : ByteArray := prog_1_method_32_code
def yX8_many : MethodName := ⟨RX8, "many", "(II)I"⟩
abbrev cX8_sold : ByteArray := prog_1_method_33_code
def yX8_sold : MethodName := ⟨RX8, "sold", "(I)I"⟩
abbrev cX8_seed : ByteArray := prog_1_method_34_code
def yX8_seed : MethodName := ⟨RX8, "seed", "(I)I"⟩
abbrev cX8_sample : ByteArray := prog_1_method_35_code
def yX8_sample : MethodName := ⟨RX8, "sample", "(I)I"⟩
abbrev cX8_hold : ByteArray := prog_1_method_36_code
def yX8_hold : MethodName := ⟨RX8, "hold", "(II)I"⟩
abbrev cX8_as : ByteArray := prog_1_method_37_code
def yX8_as : MethodName := ⟨RX8, "as", "(II)I"⟩
abbrev cX8_sheet : ByteArray := prog_1_method_38_code
def yX8_sheet : MethodName := ⟨RX8, "sheet", "(III)I"⟩
abbrev cX8_write : ByteArray := prog_1_method_39_code
def yX8_write : MethodName := ⟨RX8, "write", "(III)I"⟩
abbrev cX8_copy : ByteArray := prog_1_method_40_code
def yX8_copy : MethodName := ⟨RX8, "copy", "(IIIII)I"⟩
abbrev cX8_load : ByteArray := prog_1_method_41_code
def yX8_load : MethodName := ⟨RX8, "load", "(I)I"⟩
abbrev cX8_judge : ByteArray := prog_1_method_42_code
def yX8_judge : MethodName := ⟨RX8, "judge", "(I)I"⟩
abbrev cX8_image : ByteArray := prog_1_method_43_code
def yX8_image : MethodName := ⟨RX8, "image", "()I"⟩
abbrev cX8_undo : ByteArray := prog_1_method_44_code
def yX8_undo : MethodName := ⟨RX8, "undo", "()I"⟩
abbrev cX8_tear : ByteArray := prog_1_method_45_code
def yX8_tear : MethodName := ⟨RX8, "tear", "()I"⟩
abbrev cX8_count : ByteArray := prog_1_method_46_code
def yX8_count : MethodName := ⟨RX8, "count", "(I)I"⟩
abbrev cX8_status : ByteArray := prog_1_method_47_code
def yX8_status : MethodName := ⟨RX8, "status", "(I)I"⟩
abbrev cX8_tellFinding : ByteArray := prog_1_method_48_code
def yX8_tellFinding : MethodName := ⟨RX8, "tellFinding", "(I)I"⟩
abbrev cX8_areTwoNames : ByteArray := prog_1_method_49_code
def yX8_areTwoNames : MethodName := ⟨RX8, "areTwoNames", "(II)Z"⟩
abbrev cX8_scoreOf : ByteArray := prog_1_method_50_code
def yX8_scoreOf : MethodName := ⟨RX8, "scoreOf", "(II)I"⟩
abbrev cX8_gatherScores : ByteArray := prog_1_method_51_code
def yX8_gatherScores : MethodName := ⟨RX8, "gatherScores", "(I)V"⟩
abbrev cX8_foundSet : ByteArray := prog_1_method_52_code
def yX8_foundSet : MethodName := ⟨RX8, "foundSet", "(I)I"⟩
abbrev cX8_wrongedSet : ByteArray := prog_1_method_53_code
def yX8_wrongedSet : MethodName := ⟨RX8, "wrongedSet", "(I)I"⟩
abbrev cX8_missedSet : ByteArray := prog_1_method_54_code
def yX8_missedSet : MethodName := ⟨RX8, "missedSet", "(I)I"⟩
abbrev cX8_lineSum : ByteArray := prog_1_method_55_code
def yX8_lineSum : MethodName := ⟨RX8, "lineSum", "(III)I"⟩
abbrev cX8_isWithin : ByteArray := prog_1_method_56_code
def yX8_isWithin : MethodName := ⟨RX8, "isWithin", "(III)Z"⟩
abbrev cX8_isSecond : ByteArray := prog_1_method_57_code
def yX8_isSecond : MethodName := ⟨RX8, "isSecond", "(I)Z"⟩
abbrev cX8_isTopic : ByteArray := prog_1_method_58_code
def yX8_isTopic : MethodName := ⟨RX8, "isTopic", "(I)Z"⟩
abbrev cX8_isSpan : ByteArray := prog_1_method_59_code
def yX8_isSpan : MethodName := ⟨RX8, "isSpan", "(I)Z"⟩
abbrev cX8_isSpot : ByteArray := prog_1_method_60_code
def yX8_isSpot : MethodName := ⟨RX8, "isSpot", "(I)Z"⟩
abbrev cX8_isSheet : ByteArray := prog_1_method_61_code
def yX8_isSheet : MethodName := ⟨RX8, "isSheet", "(I)Z"⟩
abbrev cX8_hasBit : ByteArray := prog_1_method_62_code
def yX8_hasBit : MethodName := ⟨RX8, "hasBit", "(II)Z"⟩
abbrev cX8_asInt : ByteArray := prog_1_method_63_code
def yX8_asInt : MethodName := ⟨RX8, "asInt", "(Z)I"⟩
abbrev cX8_cut : ByteArray := prog_1_method_64_code
def yX8_cut : MethodName := ⟨RX8, "cut", "(II)I"⟩
abbrev cX8_rest : ByteArray := prog_1_method_65_code
def yX8_rest : MethodName := ⟨RX8, "rest", "(II)I"⟩
abbrev cX8_hourOf : ByteArray := prog_1_method_66_code
def yX8_hourOf : MethodName := ⟨RX8, "hourOf", "(I)I"⟩
abbrev cX8_dayOf : ByteArray := prog_1_method_67_code
def yX8_dayOf : MethodName := ⟨RX8, "dayOf", "(I)I"⟩
abbrev cX9_init : ByteArray := prog_11_method_1_code
def yX9_init : MethodName := ⟨RX9, "<init>", "()V"⟩
abbrev cX9_finds : ByteArray := prog_11_method_2_code
def yX9_finds : MethodName := ⟨RX9, "finds", "(I)I"⟩
abbrev cX9_in : ByteArray := prog_11_method_3_code
def yX9_in : MethodName := ⟨RX9, "in", "(JJJ)Z"⟩
abbrev cX9_has : ByteArray := prog_11_method_4_code
def yX9_has : MethodName := ⟨RX9, "has", "(II)Z"⟩
abbrev cX9_many : ByteArray := prog_11_method_5_code
def yX9_many : MethodName := ⟨RX9, "many", "(I)I"⟩
abbrev cX9_of : ByteArray := prog_11_method_6_code
def yX9_of : MethodName := ⟨RX9, "of", "(II)I"⟩
abbrev cX9_word : ByteArray := prog_11_method_7_code
def yX9_word : MethodName := ⟨RX9, "word", "(II)I"⟩
abbrev cX9_isName : ByteArray := prog_11_method_8_code
def yX9_isName : MethodName := ⟨RX9, "isName", "(I)Z"⟩
abbrev cX9_isWord : ByteArray := prog_11_method_9_code
def yX9_isWord : MethodName := ⟨RX9, "isWord", "(I)Z"⟩
abbrev cX9_every : ByteArray := prog_11_method_10_code
def yX9_every : MethodName := ⟨RX9, "every", "()I"⟩
abbrev cX9_isSet : ByteArray := prog_11_method_11_code
def yX9_isSet : MethodName := ⟨RX9, "isSet", "(I)Z"⟩
abbrev cX9_isSecond : ByteArray := prog_11_method_12_code
def yX9_isSecond : MethodName := ⟨RX9, "isSecond", "(I)Z"⟩
abbrev cX9_isTopic : ByteArray := prog_11_method_13_code
def yX9_isTopic : MethodName := ⟨RX9, "isTopic", "(I)Z"⟩
abbrev cX9_name : ByteArray := prog_11_method_14_code
def yX9_name : MethodName := ⟨RX9, "name", "(II)I"⟩
abbrev cX9_isPerson : ByteArray := prog_11_method_15_code
def yX9_isPerson : MethodName := ⟨RX9, "isPerson", "(I)Z"⟩
abbrev cX9_nameOf : ByteArray := prog_11_method_16_code
def yX9_nameOf : MethodName := ⟨RX9, "nameOf", "(II)I"⟩
abbrev cX9_may : ByteArray := prog_11_method_17_code
def yX9_may : MethodName := ⟨RX9, "may", "(III)Z"⟩
abbrev cX9_becomes : ByteArray := prog_11_method_18_code
def yX9_becomes : MethodName := ⟨RX9, "becomes", "(II)I"⟩
abbrev cX9_change : ByteArray := prog_11_method_19_code
def yX9_change : MethodName := ⟨RX9, "change", "(III)I"⟩
abbrev cX9_shut : ByteArray := prog_11_method_20_code
def yX9_shut : MethodName := ⟨RX9, "shut", "(IZ)I"⟩
abbrev cX9_object : ByteArray := prog_11_method_21_code
def yX9_object : MethodName := ⟨RX9, "object", "()I"⟩
abbrev cX9_hourOf : ByteArray := prog_11_method_22_code
def yX9_hourOf : MethodName := ⟨RX9, "hourOf", "(I)I"⟩
abbrev cX9_isAwake : ByteArray := prog_11_method_23_code
def yX9_isAwake : MethodName := ⟨RX9, "isAwake", "(II)Z"⟩
abbrev cX9_byGap : ByteArray := prog_11_method_24_code
def yX9_byGap : MethodName := ⟨RX9, "byGap", "(II)Z"⟩
abbrev cX9_byClock : ByteArray := prog_11_method_25_code
def yX9_byClock : MethodName := ⟨RX9, "byClock", "(II)Z"⟩
abbrev cX9_isLed : ByteArray := prog_11_method_26_code
def yX9_isLed : MethodName := ⟨RX9, "isLed", "(II)Z"⟩
abbrev cX9_doesSpeak : ByteArray := prog_11_method_27_code
def yX9_doesSpeak : MethodName := ⟨RX9, "doesSpeak", "(II)Z"⟩
abbrev cX9_speaks : ByteArray := prog_11_method_28_code
def yX9_speaks : MethodName := ⟨RX9, "speaks", "(II)I"⟩
abbrev cX9_next : ByteArray := prog_11_method_29_code
def yX9_next : MethodName := ⟨RX9, "next", "(II)I"⟩
abbrev cX9_wordsOf : ByteArray := prog_11_method_30_code
def yX9_wordsOf : MethodName := ⟨RX9, "wordsOf", "(I)I"⟩
abbrev cX9_tellsNow : ByteArray := prog_11_method_31_code
def yX9_tellsNow : MethodName := ⟨RX9, "tellsNow", "(I)I"⟩
abbrev cX9_isSaid : ByteArray := prog_11_method_32_code
def yX9_isSaid : MethodName := ⟨RX9, "isSaid", "(II)Z"⟩
abbrev cX9_go : ByteArray := prog_11_method_33_code
def yX9_go : MethodName := ⟨RX9, "go", "(I)I"⟩
abbrev cX9_say : ByteArray := prog_11_method_34_code
def yX9_say : MethodName := ⟨RX9, "say", "(II)I"⟩
abbrev cX9_follows : ByteArray := prog_11_method_35_code
def yX9_follows : MethodName := ⟨RX9, "follows", "(I)I"⟩
abbrev cX9_wordOf : ByteArray := prog_11_method_36_code
def yX9_wordOf : MethodName := ⟨RX9, "wordOf", "(II)I"⟩
abbrev cX9_below : ByteArray := prog_11_method_37_code
def yX9_below : MethodName := ⟨RX9, "below", "(I)I"⟩
abbrev cX9_hoursOf : ByteArray := prog_11_method_38_code
def yX9_hoursOf : MethodName := ⟨RX9, "hoursOf", "(I)I"⟩
abbrev cX9_gapOf : ByteArray := prog_11_method_39_code
def yX9_gapOf : MethodName := ⟨RX9, "gapOf", "(IZ)I"⟩
abbrev cX9_followOf : ByteArray := prog_11_method_40_code
def yX9_followOf : MethodName := ⟨RX9, "followOf", "(IZ)I"⟩
abbrev cX9_signOf : ByteArray := prog_11_method_41_code
def yX9_signOf : MethodName := ⟨RX9, "signOf", "(II)I"⟩
abbrev cX9_sign : ByteArray := prog_11_method_42_code
def yX9_sign : MethodName := ⟨RX9, "sign", "(II)I"⟩
abbrev cX9_hours : ByteArray := prog_11_method_43_code
def yX9_hours : MethodName := ⟨RX9, "hours", "(I)I"⟩
abbrev cX9_feed : ByteArray := prog_11_method_44_code
def yX9_feed : MethodName := ⟨RX9, "feed", "(II)I"⟩
abbrev cX9_wipe : ByteArray := prog_11_method_45_code
def yX9_wipe : MethodName := ⟨RX9, "wipe", "()I"⟩
abbrev cX9_isDigit : ByteArray := prog_11_method_46_code
def yX9_isDigit : MethodName := ⟨RX9, "isDigit", "(I)Z"⟩
abbrev cX9_letterOf : ByteArray := prog_11_method_47_code
def yX9_letterOf : MethodName := ⟨RX9, "letterOf", "(I)I"⟩
abbrev cX9_next_ : ByteArray := prog_11_method_48_code
def yX9_next_ : MethodName := ⟨RX9, "next", "()V"⟩
abbrev cX9_isSign : ByteArray := prog_11_method_49_code
def yX9_isSign : MethodName := ⟨RX9, "isSign", "(I)Z"⟩
abbrev cX9_puts : ByteArray := prog_11_method_50_code
def yX9_puts : MethodName := ⟨RX9, "puts", "(I)V"⟩
abbrev cX9_whole : ByteArray := prog_11_method_51_code
def yX9_whole : MethodName := ⟨RX9, "whole", "()V"⟩
abbrev cX9_sum : ByteArray := prog_11_method_52_code
def yX9_sum : MethodName := ⟨RX9, "sum", "()V"⟩
abbrev cX9_term : ByteArray := prog_11_method_53_code
def yX9_term : MethodName := ⟨RX9, "term", "()V"⟩
abbrev cX9_one : ByteArray := prog_11_method_54_code
def yX9_one : MethodName := ⟨RX9, "one", "()V"⟩
abbrev cX9_text : ByteArray := prog_11_method_55_code
def yX9_text : MethodName := ⟨RX9, "text", "()I"⟩
abbrev cX9_joined : ByteArray := prog_11_method_56_code
def yX9_joined : MethodName := ⟨RX9, "joined", "(III)I"⟩
abbrev cX9_scoreOf : ByteArray := prog_11_method_57_code
def yX9_scoreOf : MethodName := ⟨RX9, "scoreOf", "(II)I"⟩
abbrev cX9_isText : ByteArray := prog_11_method_58_code
def yX9_isText : MethodName := ⟨RX9, "isText", "(I)Z"⟩
abbrev cX9_score : ByteArray := prog_11_method_59_code
def yX9_score : MethodName := ⟨RX9, "score", "(II)I"⟩
abbrev cX9_findScores : ByteArray := prog_11_method_60_code
def yX9_findScores : MethodName := ⟨RX9, "findScores", "(I)V"⟩
abbrev cX9_people : ByteArray := prog_11_method_61_code
def yX9_people : MethodName := ⟨RX9, "people", "()I"⟩
abbrev cX9_foundBy : ByteArray := prog_11_method_62_code
def yX9_foundBy : MethodName := ⟨RX9, "foundBy", "(I)I"⟩
abbrev cX9_found : ByteArray := prog_11_method_63_code
def yX9_found : MethodName := ⟨RX9, "found", "(III)I"⟩
abbrev cX9_line : ByteArray := prog_11_method_64_code
def yX9_line : MethodName := ⟨RX9, "line", "(IIII)I"⟩
abbrev cX9_shutAll : ByteArray := prog_11_method_65_code
def yX9_shutAll : MethodName := ⟨RX9, "shutAll", "(II)I"⟩
abbrev cX9_ask : ByteArray := prog_11_method_66_code
def yX9_ask : MethodName := ⟨RX9, "ask", "(II)I"⟩
abbrev cX9_howMany : ByteArray := prog_11_method_67_code
def yX9_howMany : MethodName := ⟨RX9, "howMany", "(I)I"⟩
abbrev cX9_asked : ByteArray := prog_11_method_68_code
def yX9_asked : MethodName := ⟨RX9, "asked", "(I)I"⟩
abbrev cX9_isNear : ByteArray := prog_11_method_69_code
def yX9_isNear : MethodName := ⟨RX9, "isNear", "(III)Z"⟩
abbrev cX9_togetherOf : ByteArray := prog_11_method_70_code
def yX9_togetherOf : MethodName := ⟨RX9, "togetherOf", "(III)I"⟩
abbrev cX9_areTwo : ByteArray := prog_11_method_71_code
def yX9_areTwo : MethodName := ⟨RX9, "areTwo", "(II)Z"⟩
abbrev cX9_together : ByteArray := prog_11_method_72_code
def yX9_together : MethodName := ⟨RX9, "together", "(III)I"⟩
abbrev cX9_findGroups : ByteArray := prog_11_method_73_code
def yX9_findGroups : MethodName := ⟨RX9, "findGroups", "(II)V"⟩
abbrev cX9_isGroup : ByteArray := prog_11_method_74_code
def yX9_isGroup : MethodName := ⟨RX9, "isGroup", "(II)Z"⟩
abbrev cX9_group : ByteArray := prog_11_method_75_code
def yX9_group : MethodName := ⟨RX9, "group", "(IIII)I"⟩
abbrev cX9_groups : ByteArray := prog_11_method_76_code
def yX9_groups : MethodName := ⟨RX9, "groups", "(II)I"⟩
abbrev cX9_club : ByteArray := prog_11_method_77_code
def yX9_club : MethodName := ⟨RX9, "club", "(II)I"⟩
abbrev cX9_apart : ByteArray := prog_11_method_78_code
def yX9_apart : MethodName := ⟨RX9, "apart", "(II)I"⟩
abbrev cX9_countOf : ByteArray := prog_11_method_79_code
def yX9_countOf : MethodName := ⟨RX9, "countOf", "(II)I"⟩
abbrev cX9_counts : ByteArray := prog_11_method_80_code
def yX9_counts : MethodName := ⟨RX9, "counts", "(II)I"⟩
abbrev cX9_most : ByteArray := prog_11_method_81_code
def yX9_most : MethodName := ⟨RX9, "most", "(I)I"⟩
abbrev cX9_first : ByteArray := prog_11_method_82_code
def yX9_first : MethodName := ⟨RX9, "first", "(I)I"⟩
abbrev cX9_many_ : ByteArray := prog_11_method_83_code
def yX9_many_ : MethodName := ⟨RX9, "many", "(II)I"⟩
abbrev cX9_sold : ByteArray := prog_11_method_84_code
def yX9_sold : MethodName := ⟨RX9, "sold", "(I)I"⟩
abbrev cX9_seed : ByteArray := prog_11_method_85_code
def yX9_seed : MethodName := ⟨RX9, "seed", "(I)I"⟩
abbrev cX9_sample : ByteArray := prog_11_method_86_code
def yX9_sample : MethodName := ⟨RX9, "sample", "(I)I"⟩
abbrev cX9_hold : ByteArray := prog_11_method_87_code
def yX9_hold : MethodName := ⟨RX9, "hold", "(II)I"⟩
abbrev cX9_above : ByteArray := prog_11_method_88_code
def yX9_above : MethodName := ⟨RX9, "above", "(I)I"⟩
abbrev cX9_as : ByteArray := prog_11_method_89_code
def yX9_as : MethodName := ⟨RX9, "as", "(II)I"⟩
abbrev cX9_isSheet : ByteArray := prog_11_method_90_code
def yX9_isSheet : MethodName := ⟨RX9, "isSheet", "(I)Z"⟩
abbrev cX9_sheet : ByteArray := prog_11_method_91_code
def yX9_sheet : MethodName := ⟨RX9, "sheet", "(III)I"⟩
abbrev cX9_write : ByteArray := prog_11_method_92_code
def yX9_write : MethodName := ⟨RX9, "write", "(III)I"⟩
abbrev cX9_copy : ByteArray := prog_11_method_93_code
def yX9_copy : MethodName := ⟨RX9, "copy", "(IIIII)I"⟩
abbrev cX9_load : ByteArray := prog_11_method_94_code
def yX9_load : MethodName := ⟨RX9, "load", "(I)I"⟩
abbrev cX9_judge : ByteArray := prog_11_method_95_code
def yX9_judge : MethodName := ⟨RX9, "judge", "(I)I"⟩
abbrev cX9_image : ByteArray := prog_11_method_96_code
def yX9_image : MethodName := ⟨RX9, "image", "()I"⟩
abbrev cX9_undo : ByteArray := prog_11_method_97_code
def yX9_undo : MethodName := ⟨RX9, "undo", "()I"⟩
abbrev cX9_tear : ByteArray := prog_11_method_98_code
def yX9_tear : MethodName := ⟨RX9, "tear", "()I"⟩
abbrev cX9_count : ByteArray := prog_11_method_99_code
def yX9_count : MethodName := ⟨RX9, "count", "(I)I"⟩
abbrev cX9_status : ByteArray := prog_11_method_100_code
def yX9_status : MethodName := ⟨RX9, "status", "(I)I"⟩
abbrev cJ11_isValidCodePoint_9a6ad : ByteArray := prog_12_method_11_code
def yJ11_isValidCodePoint_9a6ad : MethodName := ⟨RJ11, "isValidCodePoint", "(I)Z"⟩
abbrev cJ11_highSurrogate_5068e : ByteArray := prog_12_method_28_code
def yJ11_highSurrogate_5068e : MethodName := ⟨RJ11, "highSurrogate", "(I)C"⟩
abbrev cJ11_lowSurrogate_5068e : ByteArray := prog_12_method_29_code
def yJ11_lowSurrogate_5068e : MethodName := ⟨RJ11, "lowSurrogate", "(I)C"⟩
abbrev cJ6_bitCount_0f7a4 : ByteArray := prog_13_method_49_code
def yJ6_bitCount_0f7a4 : MethodName := ⟨RJ6, "bitCount", "(I)I"⟩
abbrev cJ9_abs_067f4 : ByteArray := prog_14_method_61_code
def yJ9_abs_067f4 : MethodName := ⟨RJ9, "abs", "(J)J"⟩
abbrev cJ9_max_7cf53 : ByteArray := prog_14_method_65_code
def yJ9_max_7cf53 : MethodName := ⟨RJ9, "max", "(II)I"⟩
abbrev cJ9_min_7cf53 : ByteArray := prog_14_method_69_code
def yJ9_min_7cf53 : MethodName := ⟨RJ9, "min", "(II)I"⟩
abbrev cJ0_length_8abf5 : ByteArray := prog_15_method_54_code
def yJ0_length_8abf5 : MethodName := ⟨RJ0, "length", "()I"⟩
abbrev cJ0_indexOf_0f7a4 : ByteArray := prog_15_method_79_code
def yJ0_indexOf_0f7a4 : MethodName := ⟨RJ0, "indexOf", "(I)I"⟩
abbrev cJ0_indexOf_7cf53 : ByteArray := prog_15_method_80_code
def yJ0_indexOf_7cf53 : MethodName := ⟨RJ0, "indexOf", "(II)I"⟩
abbrev cJ0_coder_7d493 : ByteArray := prog_15_method_152_code
def yJ0_coder_7d493 : MethodName := ⟨RJ0, "coder", "()B"⟩
abbrev cJ0_isLatin1_aae02 : ByteArray := prog_15_method_154_code
def yJ0_isLatin1_aae02 : MethodName := ⟨RJ0, "isLatin1", "()Z"⟩
abbrev cJ0_checkBoundsBeginEnd_23922 : ByteArray := prog_15_method_158_code
def yJ0_checkBoundsBeginEnd_23922 : MethodName := ⟨RJ0, "checkBoundsBeginEnd", "(III)V"⟩
abbrev cJ1_canEncode_9a6ad : ByteArray := prog_16_method_4_code
def yJ1_canEncode_9a6ad : MethodName := ⟨RJ1, "canEncode", "(I)Z"⟩
abbrev cJ1_indexOf_4cfef : ByteArray := prog_16_method_22_code
def yJ1_indexOf_4cfef : MethodName := ⟨RJ1, "indexOf", "([BIII)I"⟩
abbrev cJ1_indexOfChar_4cfef : ByteArray := prog_16_method_23_code
def yJ1_indexOfChar_4cfef : MethodName := ⟨RJ1, "indexOfChar", "([BIII)I"⟩
abbrev cJ2_getChar_3b067 : ByteArray := prog_17_method_5_code
def yJ2_getChar_3b067 : MethodName := ⟨RJ2, "getChar", "([BI)C"⟩
abbrev cJ2_length_9d52b : ByteArray := prog_17_method_6_code
def yJ2_length_9d52b : MethodName := ⟨RJ2, "length", "([B)I"⟩
abbrev cJ2_indexOf_4cfef : ByteArray := prog_17_method_40_code
def yJ2_indexOf_4cfef : MethodName := ⟨RJ2, "indexOf", "([BIII)I"⟩
abbrev cJ2_indexOfChar_4cfef : ByteArray := prog_17_method_47_code
def yJ2_indexOfChar_4cfef : MethodName := ⟨RJ2, "indexOfChar", "([BIII)I"⟩
abbrev cJ2_indexOfCharUnsafe_4cfef : ByteArray := prog_17_method_48_code
def yJ2_indexOfCharUnsafe_4cfef : MethodName := ⟨RJ2, "indexOfCharUnsafe", "([BIII)I"⟩
abbrev cJ2_indexOfSupplementary_4cfef : ByteArray := prog_17_method_49_code
def yJ2_indexOfSupplementary_4cfef : MethodName := ⟨RJ2, "indexOfSupplementary", "([BIII)I"⟩
abbrev cJ2_checkBoundsBeginEnd_d044e : ByteArray := prog_17_method_93_code
def yJ2_checkBoundsBeginEnd_d044e : MethodName := ⟨RJ2, "checkBoundsBeginEnd", "(II[B)V"⟩
abbrev cJ3_checkFromToIndex_8c36e : ByteArray := prog_19_method_12_code
def yJ3_checkFromToIndex_8c36e : MethodName := ⟨RJ3, "checkFromToIndex", "(IIILjava/util/function/BiFunction;)I"⟩
abbrev cL_law : ByteArray := code
def yL_law : MethodName := ⟨RL, "law", "([I)Z"⟩
