section
-- ===== PART A: goes FIRST, ahead of the names: the tables' words, and 'selects' of the private methods out of them =====
/-- a private method of a class that the tables say can be made, by its rows of tables_1 -/
def lw_okq (q : MethodName × Nat) : Prop := (q.1.cls ≠ "java/lang/invoke/MethodHandle" ∧ q.1.cls ≠ "java/lang/invoke/VarHandle") ∧ Cond.instantiable q.1.cls q.2 ∈ tables_1 ∧ Cond.privateMethod q.1 ∈ tables_1 ∧ Cond.instanceMethod q.1 ∈ tables_1
theorem lw_p0 : lw_okq (⟨"AwakeBoard", "tellFinding", "(I)I"⟩, 11) := ⟨⟨by decide +kernel, by decide +kernel⟩, List.mem_of_getElem? (i := 20) (by decide +kernel), List.mem_of_getElem? (i := 276) (by decide +kernel), List.mem_of_getElem? (i := 277) (by decide +kernel)⟩
theorem lw_p1 : lw_okq (⟨"AwakeBoard$Scene", "isAsPerson", "(II)Z"⟩, 5) := ⟨⟨by decide +kernel, by decide +kernel⟩, List.mem_of_getElem? (i := 28) (by decide +kernel), List.mem_of_getElem? (i := 348) (by decide +kernel), List.mem_of_getElem? (i := 349) (by decide +kernel)⟩
theorem lw_p2 : lw_okq (⟨"AwakeBoard$Scene", "isAsName", "(II)Z"⟩, 5) := ⟨⟨by decide +kernel, by decide +kernel⟩, List.mem_of_getElem? (i := 28) (by decide +kernel), List.mem_of_getElem? (i := 352) (by decide +kernel), List.mem_of_getElem? (i := 353) (by decide +kernel)⟩
theorem lw_p3 : lw_okq (⟨"AwakeBoard$Scene", "isInHours", "(II)Z"⟩, 5) := ⟨⟨by decide +kernel, by decide +kernel⟩, List.mem_of_getElem? (i := 28) (by decide +kernel), List.mem_of_getElem? (i := 359) (by decide +kernel), List.mem_of_getElem? (i := 360) (by decide +kernel)⟩
theorem lw_p4 : lw_okq (⟨"AwakeBoard$Scene", "isAsClock", "(II)Z"⟩, 5) := ⟨⟨by decide +kernel, by decide +kernel⟩, List.mem_of_getElem? (i := 28) (by decide +kernel), List.mem_of_getElem? (i := 367) (by decide +kernel), List.mem_of_getElem? (i := 368) (by decide +kernel)⟩
theorem lw_p5 : lw_okq (⟨"AwakeBoard$Scene", "isBehindLeader", "(II)Z"⟩, 5) := ⟨⟨by decide +kernel, by decide +kernel⟩, List.mem_of_getElem? (i := 28) (by decide +kernel), List.mem_of_getElem? (i := 377) (by decide +kernel), List.mem_of_getElem? (i := 378) (by decide +kernel)⟩
theorem lw_p6 : lw_okq (⟨"AwakeBoard$Board", "firstFrom", "(I)I"⟩, 8) := ⟨⟨by decide +kernel, by decide +kernel⟩, List.mem_of_getElem? (i := 63) (by decide +kernel), List.mem_of_getElem? (i := 385) (by decide +kernel), List.mem_of_getElem? (i := 386) (by decide +kernel)⟩
theorem lw_p7 : lw_okq (⟨"AwakeBoard$Scene", "isAsHalf", "(II)Z"⟩, 5) := ⟨⟨by decide +kernel, by decide +kernel⟩, List.mem_of_getElem? (i := 28) (by decide +kernel), List.mem_of_getElem? (i := 389) (by decide +kernel), List.mem_of_getElem? (i := 390) (by decide +kernel)⟩
theorem lw_p8 : lw_okq (⟨"AwakeBoard$Scene", "topicOf", "(I)I"⟩, 5) := ⟨⟨by decide +kernel, by decide +kernel⟩, List.mem_of_getElem? (i := 28) (by decide +kernel), List.mem_of_getElem? (i := 416) (by decide +kernel), List.mem_of_getElem? (i := 417) (by decide +kernel)⟩
theorem lw_p9 : lw_okq (⟨"AwakeBoard$Board", "wordAhead", "(I)I"⟩, 8) := ⟨⟨by decide +kernel, by decide +kernel⟩, List.mem_of_getElem? (i := 63) (by decide +kernel), List.mem_of_getElem? (i := 433) (by decide +kernel), List.mem_of_getElem? (i := 434) (by decide +kernel)⟩
theorem lw_p10 : lw_okq (⟨"AwakeBoard$Signs", "gatherGaps", "(LAwakeBoard$Board;I)V"⟩, 1) := ⟨⟨by decide +kernel, by decide +kernel⟩, List.mem_of_getElem? (i := 173) (by decide +kernel), List.mem_of_getElem? (i := 469) (by decide +kernel), List.mem_of_getElem? (i := 470) (by decide +kernel)⟩
theorem lw_p11 : lw_okq (⟨"AwakeBoard$Signs", "gatherFollowing", "(LAwakeBoard$Board;I)V"⟩, 1) := ⟨⟨by decide +kernel, by decide +kernel⟩, List.mem_of_getElem? (i := 173) (by decide +kernel), List.mem_of_getElem? (i := 475) (by decide +kernel), List.mem_of_getElem? (i := 476) (by decide +kernel)⟩
theorem lw_p12 : lw_okq (⟨"AwakeBoard$Reader", "step", "()V"⟩, 8) := ⟨⟨by decide +kernel, by decide +kernel⟩, List.mem_of_getElem? (i := 184) (by decide +kernel), List.mem_of_getElem? (i := 509) (by decide +kernel), List.mem_of_getElem? (i := 510) (by decide +kernel)⟩
theorem lw_p13 : lw_okq (⟨"AwakeBoard$Reader", "stepNumber", "()V"⟩, 8) := ⟨⟨by decide +kernel, by decide +kernel⟩, List.mem_of_getElem? (i := 184) (by decide +kernel), List.mem_of_getElem? (i := 516) (by decide +kernel), List.mem_of_getElem? (i := 517) (by decide +kernel)⟩
theorem lw_p14 : lw_okq (⟨"AwakeBoard$Reader", "readText", "(I)I"⟩, 8) := ⟨⟨by decide +kernel, by decide +kernel⟩, List.mem_of_getElem? (i := 184) (by decide +kernel), List.mem_of_getElem? (i := 609) (by decide +kernel), List.mem_of_getElem? (i := 610) (by decide +kernel)⟩
theorem lw_p15 : lw_okq (⟨"AwakeBoard$Reader", "readSum", "(I)I"⟩, 8) := ⟨⟨by decide +kernel, by decide +kernel⟩, List.mem_of_getElem? (i := 184) (by decide +kernel), List.mem_of_getElem? (i := 613) (by decide +kernel), List.mem_of_getElem? (i := 614) (by decide +kernel)⟩
def lw_privs_1 : List (MethodName × Nat) := [(⟨"AwakeBoard", "tellFinding", "(I)I"⟩, 11), (⟨"AwakeBoard$Scene", "isAsPerson", "(II)Z"⟩, 5), (⟨"AwakeBoard$Scene", "isAsName", "(II)Z"⟩, 5), (⟨"AwakeBoard$Scene", "isInHours", "(II)Z"⟩, 5), (⟨"AwakeBoard$Scene", "isAsClock", "(II)Z"⟩, 5), (⟨"AwakeBoard$Scene", "isBehindLeader", "(II)Z"⟩, 5), (⟨"AwakeBoard$Board", "firstFrom", "(I)I"⟩, 8), (⟨"AwakeBoard$Scene", "isAsHalf", "(II)Z"⟩, 5), (⟨"AwakeBoard$Scene", "topicOf", "(I)I"⟩, 5), (⟨"AwakeBoard$Board", "wordAhead", "(I)I"⟩, 8), (⟨"AwakeBoard$Signs", "gatherGaps", "(LAwakeBoard$Board;I)V"⟩, 1), (⟨"AwakeBoard$Signs", "gatherFollowing", "(LAwakeBoard$Board;I)V"⟩, 1), (⟨"AwakeBoard$Reader", "step", "()V"⟩, 8), (⟨"AwakeBoard$Reader", "stepNumber", "()V"⟩, 8), (⟨"AwakeBoard$Reader", "readText", "(I)I"⟩, 8), (⟨"AwakeBoard$Reader", "readSum", "(I)I"⟩, 8)]
theorem lw_r1 : ∀ q ∈ lw_privs_1, lw_okq q := List.forall_mem_cons.mpr ⟨lw_p0, List.forall_mem_cons.mpr ⟨lw_p1, List.forall_mem_cons.mpr ⟨lw_p2, List.forall_mem_cons.mpr ⟨lw_p3, List.forall_mem_cons.mpr ⟨lw_p4, List.forall_mem_cons.mpr ⟨lw_p5, List.forall_mem_cons.mpr ⟨lw_p6, List.forall_mem_cons.mpr ⟨lw_p7, List.forall_mem_cons.mpr ⟨lw_p8, List.forall_mem_cons.mpr ⟨lw_p9, List.forall_mem_cons.mpr ⟨lw_p10, List.forall_mem_cons.mpr ⟨lw_p11, List.forall_mem_cons.mpr ⟨lw_p12, List.forall_mem_cons.mpr ⟨lw_p13, List.forall_mem_cons.mpr ⟨lw_p14, List.forall_mem_cons.mpr ⟨lw_p15, fun _ h => absurd h List.not_mem_nil⟩⟩⟩⟩⟩⟩⟩⟩⟩⟩⟩⟩⟩⟩⟩⟩
theorem lw_p16 : lw_okq (⟨"AwakeBoard$Reader", "readTerm", "(I)I"⟩, 8) := ⟨⟨by decide +kernel, by decide +kernel⟩, List.mem_of_getElem? (i := 184) (by decide +kernel), List.mem_of_getElem? (i := 617) (by decide +kernel), List.mem_of_getElem? (i := 618) (by decide +kernel)⟩
theorem lw_p17 : lw_okq (⟨"AwakeBoard$Reader", "readOne", "(I)I"⟩, 8) := ⟨⟨by decide +kernel, by decide +kernel⟩, List.mem_of_getElem? (i := 184) (by decide +kernel), List.mem_of_getElem? (i := 621) (by decide +kernel), List.mem_of_getElem? (i := 622) (by decide +kernel)⟩
theorem lw_p18 : lw_okq (⟨"AwakeBoard$Reader", "fail", "()V"⟩, 8) := ⟨⟨by decide +kernel, by decide +kernel⟩, List.mem_of_getElem? (i := 184) (by decide +kernel), List.mem_of_getElem? (i := 625) (by decide +kernel), List.mem_of_getElem? (i := 626) (by decide +kernel)⟩
theorem lw_p19 : lw_okq (⟨"AwakeBoard$Reader", "take", "(I)V"⟩, 8) := ⟨⟨by decide +kernel, by decide +kernel⟩, List.mem_of_getElem? (i := 184) (by decide +kernel), List.mem_of_getElem? (i := 629) (by decide +kernel), List.mem_of_getElem? (i := 630) (by decide +kernel)⟩
theorem lw_p20 : lw_okq (⟨"AwakeBoard", "scoreOf", "(II)I"⟩, 11) := ⟨⟨by decide +kernel, by decide +kernel⟩, List.mem_of_getElem? (i := 20) (by decide +kernel), List.mem_of_getElem? (i := 652) (by decide +kernel), List.mem_of_getElem? (i := 653) (by decide +kernel)⟩
theorem lw_p21 : lw_okq (⟨"AwakeBoard", "gatherScores", "(I)V"⟩, 11) := ⟨⟨by decide +kernel, by decide +kernel⟩, List.mem_of_getElem? (i := 20) (by decide +kernel), List.mem_of_getElem? (i := 660) (by decide +kernel), List.mem_of_getElem? (i := 661) (by decide +kernel)⟩
theorem lw_p22 : lw_okq (⟨"AwakeBoard", "foundSet", "(I)I"⟩, 11) := ⟨⟨by decide +kernel, by decide +kernel⟩, List.mem_of_getElem? (i := 20) (by decide +kernel), List.mem_of_getElem? (i := 664) (by decide +kernel), List.mem_of_getElem? (i := 665) (by decide +kernel)⟩
theorem lw_p23 : lw_okq (⟨"AwakeBoard", "wrongedSet", "(I)I"⟩, 11) := ⟨⟨by decide +kernel, by decide +kernel⟩, List.mem_of_getElem? (i := 20) (by decide +kernel), List.mem_of_getElem? (i := 668) (by decide +kernel), List.mem_of_getElem? (i := 669) (by decide +kernel)⟩
theorem lw_p24 : lw_okq (⟨"AwakeBoard", "missedSet", "(I)I"⟩, 11) := ⟨⟨by decide +kernel, by decide +kernel⟩, List.mem_of_getElem? (i := 20) (by decide +kernel), List.mem_of_getElem? (i := 672) (by decide +kernel), List.mem_of_getElem? (i := 673) (by decide +kernel)⟩
theorem lw_p25 : lw_okq (⟨"AwakeBoard", "lineSum", "(III)I"⟩, 11) := ⟨⟨by decide +kernel, by decide +kernel⟩, List.mem_of_getElem? (i := 20) (by decide +kernel), List.mem_of_getElem? (i := 685) (by decide +kernel), List.mem_of_getElem? (i := 686) (by decide +kernel)⟩
theorem lw_p26 : lw_okq (⟨"AwakeBoard", "areTwoNames", "(II)Z"⟩, 11) := ⟨⟨by decide +kernel, by decide +kernel⟩, List.mem_of_getElem? (i := 20) (by decide +kernel), List.mem_of_getElem? (i := 708) (by decide +kernel), List.mem_of_getElem? (i := 709) (by decide +kernel)⟩
theorem lw_p27 : lw_okq (⟨"AwakeBoard$Ties", "gatherNear", "(LAwakeBoard$Board;I)V"⟩, 3) := ⟨⟨by decide +kernel, by decide +kernel⟩, List.mem_of_getElem? (i := 216) (by decide +kernel), List.mem_of_getElem? (i := 733) (by decide +kernel), List.mem_of_getElem? (i := 734) (by decide +kernel)⟩
theorem lw_p28 : lw_okq (⟨"AwakeBoard$Ties", "join", "(II)V"⟩, 3) := ⟨⟨by decide +kernel, by decide +kernel⟩, List.mem_of_getElem? (i := 216) (by decide +kernel), List.mem_of_getElem? (i := 740) (by decide +kernel), List.mem_of_getElem? (i := 741) (by decide +kernel)⟩
theorem lw_p29 : lw_okq (⟨"AwakeBoard$Board", "hourSum", "(I)I"⟩, 8) := ⟨⟨by decide +kernel, by decide +kernel⟩, List.mem_of_getElem? (i := 63) (by decide +kernel), List.mem_of_getElem? (i := 804) (by decide +kernel), List.mem_of_getElem? (i := 805) (by decide +kernel)⟩
theorem lw_p30 : lw_okq (⟨"AwakeBoardModel", "finds", "(I)I"⟩, 21) := ⟨⟨by decide +kernel, by decide +kernel⟩, List.mem_of_getElem? (i := 916) (by decide +kernel), List.mem_of_getElem? (i := 996) (by decide +kernel), List.mem_of_getElem? (i := 997) (by decide +kernel)⟩
theorem lw_p31 : lw_okq (⟨"AwakeBoardModel", "isName", "(I)Z"⟩, 21) := ⟨⟨by decide +kernel, by decide +kernel⟩, List.mem_of_getElem? (i := 916) (by decide +kernel), List.mem_of_getElem? (i := 1005) (by decide +kernel), List.mem_of_getElem? (i := 1006) (by decide +kernel)⟩
def lw_privs_2 : List (MethodName × Nat) := [(⟨"AwakeBoard$Reader", "readTerm", "(I)I"⟩, 8), (⟨"AwakeBoard$Reader", "readOne", "(I)I"⟩, 8), (⟨"AwakeBoard$Reader", "fail", "()V"⟩, 8), (⟨"AwakeBoard$Reader", "take", "(I)V"⟩, 8), (⟨"AwakeBoard", "scoreOf", "(II)I"⟩, 11), (⟨"AwakeBoard", "gatherScores", "(I)V"⟩, 11), (⟨"AwakeBoard", "foundSet", "(I)I"⟩, 11), (⟨"AwakeBoard", "wrongedSet", "(I)I"⟩, 11), (⟨"AwakeBoard", "missedSet", "(I)I"⟩, 11), (⟨"AwakeBoard", "lineSum", "(III)I"⟩, 11), (⟨"AwakeBoard", "areTwoNames", "(II)Z"⟩, 11), (⟨"AwakeBoard$Ties", "gatherNear", "(LAwakeBoard$Board;I)V"⟩, 3), (⟨"AwakeBoard$Ties", "join", "(II)V"⟩, 3), (⟨"AwakeBoard$Board", "hourSum", "(I)I"⟩, 8), (⟨"AwakeBoardModel", "finds", "(I)I"⟩, 21), (⟨"AwakeBoardModel", "isName", "(I)Z"⟩, 21)]
theorem lw_r2 : ∀ q ∈ lw_privs_2, lw_okq q := List.forall_mem_cons.mpr ⟨lw_p16, List.forall_mem_cons.mpr ⟨lw_p17, List.forall_mem_cons.mpr ⟨lw_p18, List.forall_mem_cons.mpr ⟨lw_p19, List.forall_mem_cons.mpr ⟨lw_p20, List.forall_mem_cons.mpr ⟨lw_p21, List.forall_mem_cons.mpr ⟨lw_p22, List.forall_mem_cons.mpr ⟨lw_p23, List.forall_mem_cons.mpr ⟨lw_p24, List.forall_mem_cons.mpr ⟨lw_p25, List.forall_mem_cons.mpr ⟨lw_p26, List.forall_mem_cons.mpr ⟨lw_p27, List.forall_mem_cons.mpr ⟨lw_p28, List.forall_mem_cons.mpr ⟨lw_p29, List.forall_mem_cons.mpr ⟨lw_p30, List.forall_mem_cons.mpr ⟨lw_p31, fun _ h => absurd h List.not_mem_nil⟩⟩⟩⟩⟩⟩⟩⟩⟩⟩⟩⟩⟩⟩⟩⟩
theorem lw_p32 : lw_okq (⟨"AwakeBoardModel", "of", "(II)I"⟩, 21) := ⟨⟨by decide +kernel, by decide +kernel⟩, List.mem_of_getElem? (i := 916) (by decide +kernel), List.mem_of_getElem? (i := 1009) (by decide +kernel), List.mem_of_getElem? (i := 1010) (by decide +kernel)⟩
theorem lw_p33 : lw_okq (⟨"AwakeBoardModel", "isPerson", "(I)Z"⟩, 21) := ⟨⟨by decide +kernel, by decide +kernel⟩, List.mem_of_getElem? (i := 916) (by decide +kernel), List.mem_of_getElem? (i := 1013) (by decide +kernel), List.mem_of_getElem? (i := 1014) (by decide +kernel)⟩
theorem lw_p34 : lw_okq (⟨"AwakeBoardModel", "may", "(III)Z"⟩, 21) := ⟨⟨by decide +kernel, by decide +kernel⟩, List.mem_of_getElem? (i := 916) (by decide +kernel), List.mem_of_getElem? (i := 1021) (by decide +kernel), List.mem_of_getElem? (i := 1022) (by decide +kernel)⟩
theorem lw_p35 : lw_okq (⟨"AwakeBoardModel", "becomes", "(II)I"⟩, 21) := ⟨⟨by decide +kernel, by decide +kernel⟩, List.mem_of_getElem? (i := 916) (by decide +kernel), List.mem_of_getElem? (i := 1031) (by decide +kernel), List.mem_of_getElem? (i := 1032) (by decide +kernel)⟩
theorem lw_p36 : lw_okq (⟨"AwakeBoardModel", "doesSpeak", "(II)Z"⟩, 21) := ⟨⟨by decide +kernel, by decide +kernel⟩, List.mem_of_getElem? (i := 916) (by decide +kernel), List.mem_of_getElem? (i := 1051) (by decide +kernel), List.mem_of_getElem? (i := 1052) (by decide +kernel)⟩
theorem lw_p37 : lw_okq (⟨"AwakeBoardModel", "byGap", "(II)Z"⟩, 21) := ⟨⟨by decide +kernel, by decide +kernel⟩, List.mem_of_getElem? (i := 916) (by decide +kernel), List.mem_of_getElem? (i := 1055) (by decide +kernel), List.mem_of_getElem? (i := 1056) (by decide +kernel)⟩
theorem lw_p38 : lw_okq (⟨"AwakeBoardModel", "isAwake", "(II)Z"⟩, 21) := ⟨⟨by decide +kernel, by decide +kernel⟩, List.mem_of_getElem? (i := 916) (by decide +kernel), List.mem_of_getElem? (i := 1059) (by decide +kernel), List.mem_of_getElem? (i := 1060) (by decide +kernel)⟩
theorem lw_p39 : lw_okq (⟨"AwakeBoardModel", "byClock", "(II)Z"⟩, 21) := ⟨⟨by decide +kernel, by decide +kernel⟩, List.mem_of_getElem? (i := 916) (by decide +kernel), List.mem_of_getElem? (i := 1069) (by decide +kernel), List.mem_of_getElem? (i := 1070) (by decide +kernel)⟩
theorem lw_p40 : lw_okq (⟨"AwakeBoardModel", "isLed", "(II)Z"⟩, 21) := ⟨⟨by decide +kernel, by decide +kernel⟩, List.mem_of_getElem? (i := 916) (by decide +kernel), List.mem_of_getElem? (i := 1073) (by decide +kernel), List.mem_of_getElem? (i := 1074) (by decide +kernel)⟩
theorem lw_p41 : lw_okq (⟨"AwakeBoardModel", "word", "(II)I"⟩, 21) := ⟨⟨by decide +kernel, by decide +kernel⟩, List.mem_of_getElem? (i := 916) (by decide +kernel), List.mem_of_getElem? (i := 1077) (by decide +kernel), List.mem_of_getElem? (i := 1078) (by decide +kernel)⟩
theorem lw_p42 : lw_okq (⟨"AwakeBoardModel", "tellsNow", "(I)I"⟩, 21) := ⟨⟨by decide +kernel, by decide +kernel⟩, List.mem_of_getElem? (i := 916) (by decide +kernel), List.mem_of_getElem? (i := 1091) (by decide +kernel), List.mem_of_getElem? (i := 1092) (by decide +kernel)⟩
theorem lw_p43 : lw_okq (⟨"AwakeBoardModel", "wordsOf", "(I)I"⟩, 21) := ⟨⟨by decide +kernel, by decide +kernel⟩, List.mem_of_getElem? (i := 916) (by decide +kernel), List.mem_of_getElem? (i := 1095) (by decide +kernel), List.mem_of_getElem? (i := 1096) (by decide +kernel)⟩
theorem lw_p44 : lw_okq (⟨"AwakeBoardModel", "isSaid", "(II)Z"⟩, 21) := ⟨⟨by decide +kernel, by decide +kernel⟩, List.mem_of_getElem? (i := 916) (by decide +kernel), List.mem_of_getElem? (i := 1099) (by decide +kernel), List.mem_of_getElem? (i := 1100) (by decide +kernel)⟩
theorem lw_p45 : lw_okq (⟨"AwakeBoardModel", "isWord", "(I)Z"⟩, 21) := ⟨⟨by decide +kernel, by decide +kernel⟩, List.mem_of_getElem? (i := 916) (by decide +kernel), List.mem_of_getElem? (i := 1111) (by decide +kernel), List.mem_of_getElem? (i := 1112) (by decide +kernel)⟩
theorem lw_p46 : lw_okq (⟨"AwakeBoardModel", "follows", "(I)I"⟩, 21) := ⟨⟨by decide +kernel, by decide +kernel⟩, List.mem_of_getElem? (i := 916) (by decide +kernel), List.mem_of_getElem? (i := 1116) (by decide +kernel), List.mem_of_getElem? (i := 1117) (by decide +kernel)⟩
theorem lw_p47 : lw_okq (⟨"AwakeBoardModel", "signOf", "(II)I"⟩, 21) := ⟨⟨by decide +kernel, by decide +kernel⟩, List.mem_of_getElem? (i := 916) (by decide +kernel), List.mem_of_getElem? (i := 1129) (by decide +kernel), List.mem_of_getElem? (i := 1130) (by decide +kernel)⟩
def lw_privs_3 : List (MethodName × Nat) := [(⟨"AwakeBoardModel", "of", "(II)I"⟩, 21), (⟨"AwakeBoardModel", "isPerson", "(I)Z"⟩, 21), (⟨"AwakeBoardModel", "may", "(III)Z"⟩, 21), (⟨"AwakeBoardModel", "becomes", "(II)I"⟩, 21), (⟨"AwakeBoardModel", "doesSpeak", "(II)Z"⟩, 21), (⟨"AwakeBoardModel", "byGap", "(II)Z"⟩, 21), (⟨"AwakeBoardModel", "isAwake", "(II)Z"⟩, 21), (⟨"AwakeBoardModel", "byClock", "(II)Z"⟩, 21), (⟨"AwakeBoardModel", "isLed", "(II)Z"⟩, 21), (⟨"AwakeBoardModel", "word", "(II)I"⟩, 21), (⟨"AwakeBoardModel", "tellsNow", "(I)I"⟩, 21), (⟨"AwakeBoardModel", "wordsOf", "(I)I"⟩, 21), (⟨"AwakeBoardModel", "isSaid", "(II)Z"⟩, 21), (⟨"AwakeBoardModel", "isWord", "(I)Z"⟩, 21), (⟨"AwakeBoardModel", "follows", "(I)I"⟩, 21), (⟨"AwakeBoardModel", "signOf", "(II)I"⟩, 21)]
theorem lw_r3 : ∀ q ∈ lw_privs_3, lw_okq q := List.forall_mem_cons.mpr ⟨lw_p32, List.forall_mem_cons.mpr ⟨lw_p33, List.forall_mem_cons.mpr ⟨lw_p34, List.forall_mem_cons.mpr ⟨lw_p35, List.forall_mem_cons.mpr ⟨lw_p36, List.forall_mem_cons.mpr ⟨lw_p37, List.forall_mem_cons.mpr ⟨lw_p38, List.forall_mem_cons.mpr ⟨lw_p39, List.forall_mem_cons.mpr ⟨lw_p40, List.forall_mem_cons.mpr ⟨lw_p41, List.forall_mem_cons.mpr ⟨lw_p42, List.forall_mem_cons.mpr ⟨lw_p43, List.forall_mem_cons.mpr ⟨lw_p44, List.forall_mem_cons.mpr ⟨lw_p45, List.forall_mem_cons.mpr ⟨lw_p46, List.forall_mem_cons.mpr ⟨lw_p47, fun _ h => absurd h List.not_mem_nil⟩⟩⟩⟩⟩⟩⟩⟩⟩⟩⟩⟩⟩⟩⟩⟩
theorem lw_p48 : lw_okq (⟨"AwakeBoardModel", "gapOf", "(IZ)I"⟩, 21) := ⟨⟨by decide +kernel, by decide +kernel⟩, List.mem_of_getElem? (i := 916) (by decide +kernel), List.mem_of_getElem? (i := 1133) (by decide +kernel), List.mem_of_getElem? (i := 1134) (by decide +kernel)⟩
theorem lw_p49 : lw_okq (⟨"AwakeBoardModel", "hoursOf", "(I)I"⟩, 21) := ⟨⟨by decide +kernel, by decide +kernel⟩, List.mem_of_getElem? (i := 916) (by decide +kernel), List.mem_of_getElem? (i := 1137) (by decide +kernel), List.mem_of_getElem? (i := 1138) (by decide +kernel)⟩
theorem lw_p50 : lw_okq (⟨"AwakeBoardModel", "followOf", "(IZ)I"⟩, 21) := ⟨⟨by decide +kernel, by decide +kernel⟩, List.mem_of_getElem? (i := 916) (by decide +kernel), List.mem_of_getElem? (i := 1144) (by decide +kernel), List.mem_of_getElem? (i := 1145) (by decide +kernel)⟩
theorem lw_p51 : lw_okq (⟨"AwakeBoardModel", "next", "()V"⟩, 21) := ⟨⟨by decide +kernel, by decide +kernel⟩, List.mem_of_getElem? (i := 916) (by decide +kernel), List.mem_of_getElem? (i := 1165) (by decide +kernel), List.mem_of_getElem? (i := 1166) (by decide +kernel)⟩
theorem lw_p52 : lw_okq (⟨"AwakeBoardModel", "whole", "()V"⟩, 21) := ⟨⟨by decide +kernel, by decide +kernel⟩, List.mem_of_getElem? (i := 916) (by decide +kernel), List.mem_of_getElem? (i := 1174) (by decide +kernel), List.mem_of_getElem? (i := 1175) (by decide +kernel)⟩
theorem lw_p53 : lw_okq (⟨"AwakeBoardModel", "sum", "()V"⟩, 21) := ⟨⟨by decide +kernel, by decide +kernel⟩, List.mem_of_getElem? (i := 916) (by decide +kernel), List.mem_of_getElem? (i := 1178) (by decide +kernel), List.mem_of_getElem? (i := 1179) (by decide +kernel)⟩
theorem lw_p54 : lw_okq (⟨"AwakeBoardModel", "term", "()V"⟩, 21) := ⟨⟨by decide +kernel, by decide +kernel⟩, List.mem_of_getElem? (i := 916) (by decide +kernel), List.mem_of_getElem? (i := 1182) (by decide +kernel), List.mem_of_getElem? (i := 1183) (by decide +kernel)⟩
theorem lw_p55 : lw_okq (⟨"AwakeBoardModel", "one", "()V"⟩, 21) := ⟨⟨by decide +kernel, by decide +kernel⟩, List.mem_of_getElem? (i := 916) (by decide +kernel), List.mem_of_getElem? (i := 1186) (by decide +kernel), List.mem_of_getElem? (i := 1187) (by decide +kernel)⟩
theorem lw_p56 : lw_okq (⟨"AwakeBoardModel", "puts", "(I)V"⟩, 21) := ⟨⟨by decide +kernel, by decide +kernel⟩, List.mem_of_getElem? (i := 916) (by decide +kernel), List.mem_of_getElem? (i := 1190) (by decide +kernel), List.mem_of_getElem? (i := 1191) (by decide +kernel)⟩
theorem lw_p57 : lw_okq (⟨"AwakeBoardModel", "isSign", "(I)Z"⟩, 21) := ⟨⟨by decide +kernel, by decide +kernel⟩, List.mem_of_getElem? (i := 916) (by decide +kernel), List.mem_of_getElem? (i := 1197) (by decide +kernel), List.mem_of_getElem? (i := 1198) (by decide +kernel)⟩
theorem lw_p58 : lw_okq (⟨"AwakeBoardModel", "isText", "(I)Z"⟩, 21) := ⟨⟨by decide +kernel, by decide +kernel⟩, List.mem_of_getElem? (i := 916) (by decide +kernel), List.mem_of_getElem? (i := 1205) (by decide +kernel), List.mem_of_getElem? (i := 1206) (by decide +kernel)⟩
theorem lw_p59 : lw_okq (⟨"AwakeBoardModel", "scoreOf", "(II)I"⟩, 21) := ⟨⟨by decide +kernel, by decide +kernel⟩, List.mem_of_getElem? (i := 916) (by decide +kernel), List.mem_of_getElem? (i := 1209) (by decide +kernel), List.mem_of_getElem? (i := 1210) (by decide +kernel)⟩
theorem lw_p60 : lw_okq (⟨"AwakeBoardModel", "findScores", "(I)V"⟩, 21) := ⟨⟨by decide +kernel, by decide +kernel⟩, List.mem_of_getElem? (i := 916) (by decide +kernel), List.mem_of_getElem? (i := 1221) (by decide +kernel), List.mem_of_getElem? (i := 1222) (by decide +kernel)⟩
theorem lw_p61 : lw_okq (⟨"AwakeBoardModel", "foundBy", "(I)I"⟩, 21) := ⟨⟨by decide +kernel, by decide +kernel⟩, List.mem_of_getElem? (i := 916) (by decide +kernel), List.mem_of_getElem? (i := 1225) (by decide +kernel), List.mem_of_getElem? (i := 1226) (by decide +kernel)⟩
theorem lw_p62 : lw_okq (⟨"AwakeBoardModel", "people", "()I"⟩, 21) := ⟨⟨by decide +kernel, by decide +kernel⟩, List.mem_of_getElem? (i := 916) (by decide +kernel), List.mem_of_getElem? (i := 1229) (by decide +kernel), List.mem_of_getElem? (i := 1230) (by decide +kernel)⟩
theorem lw_p63 : lw_okq (⟨"AwakeBoardModel", "every", "()I"⟩, 21) := ⟨⟨by decide +kernel, by decide +kernel⟩, List.mem_of_getElem? (i := 916) (by decide +kernel), List.mem_of_getElem? (i := 1233) (by decide +kernel), List.mem_of_getElem? (i := 1234) (by decide +kernel)⟩
def lw_privs_4 : List (MethodName × Nat) := [(⟨"AwakeBoardModel", "gapOf", "(IZ)I"⟩, 21), (⟨"AwakeBoardModel", "hoursOf", "(I)I"⟩, 21), (⟨"AwakeBoardModel", "followOf", "(IZ)I"⟩, 21), (⟨"AwakeBoardModel", "next", "()V"⟩, 21), (⟨"AwakeBoardModel", "whole", "()V"⟩, 21), (⟨"AwakeBoardModel", "sum", "()V"⟩, 21), (⟨"AwakeBoardModel", "term", "()V"⟩, 21), (⟨"AwakeBoardModel", "one", "()V"⟩, 21), (⟨"AwakeBoardModel", "puts", "(I)V"⟩, 21), (⟨"AwakeBoardModel", "isSign", "(I)Z"⟩, 21), (⟨"AwakeBoardModel", "isText", "(I)Z"⟩, 21), (⟨"AwakeBoardModel", "scoreOf", "(II)I"⟩, 21), (⟨"AwakeBoardModel", "findScores", "(I)V"⟩, 21), (⟨"AwakeBoardModel", "foundBy", "(I)I"⟩, 21), (⟨"AwakeBoardModel", "people", "()I"⟩, 21), (⟨"AwakeBoardModel", "every", "()I"⟩, 21)]
theorem lw_r4 : ∀ q ∈ lw_privs_4, lw_okq q := List.forall_mem_cons.mpr ⟨lw_p48, List.forall_mem_cons.mpr ⟨lw_p49, List.forall_mem_cons.mpr ⟨lw_p50, List.forall_mem_cons.mpr ⟨lw_p51, List.forall_mem_cons.mpr ⟨lw_p52, List.forall_mem_cons.mpr ⟨lw_p53, List.forall_mem_cons.mpr ⟨lw_p54, List.forall_mem_cons.mpr ⟨lw_p55, List.forall_mem_cons.mpr ⟨lw_p56, List.forall_mem_cons.mpr ⟨lw_p57, List.forall_mem_cons.mpr ⟨lw_p58, List.forall_mem_cons.mpr ⟨lw_p59, List.forall_mem_cons.mpr ⟨lw_p60, List.forall_mem_cons.mpr ⟨lw_p61, List.forall_mem_cons.mpr ⟨lw_p62, List.forall_mem_cons.mpr ⟨lw_p63, fun _ h => absurd h List.not_mem_nil⟩⟩⟩⟩⟩⟩⟩⟩⟩⟩⟩⟩⟩⟩⟩⟩
theorem lw_p64 : lw_okq (⟨"AwakeBoardModel", "howMany", "(I)I"⟩, 21) := ⟨⟨by decide +kernel, by decide +kernel⟩, List.mem_of_getElem? (i := 916) (by decide +kernel), List.mem_of_getElem? (i := 1255) (by decide +kernel), List.mem_of_getElem? (i := 1256) (by decide +kernel)⟩
theorem lw_p65 : lw_okq (⟨"AwakeBoardModel", "areTwo", "(II)Z"⟩, 21) := ⟨⟨by decide +kernel, by decide +kernel⟩, List.mem_of_getElem? (i := 916) (by decide +kernel), List.mem_of_getElem? (i := 1263) (by decide +kernel), List.mem_of_getElem? (i := 1264) (by decide +kernel)⟩
theorem lw_p66 : lw_okq (⟨"AwakeBoardModel", "togetherOf", "(III)I"⟩, 21) := ⟨⟨by decide +kernel, by decide +kernel⟩, List.mem_of_getElem? (i := 916) (by decide +kernel), List.mem_of_getElem? (i := 1267) (by decide +kernel), List.mem_of_getElem? (i := 1268) (by decide +kernel)⟩
theorem lw_p67 : lw_okq (⟨"AwakeBoardModel", "isNear", "(III)Z"⟩, 21) := ⟨⟨by decide +kernel, by decide +kernel⟩, List.mem_of_getElem? (i := 916) (by decide +kernel), List.mem_of_getElem? (i := 1271) (by decide +kernel), List.mem_of_getElem? (i := 1272) (by decide +kernel)⟩
theorem lw_p68 : lw_okq (⟨"AwakeBoardModel", "findGroups", "(II)V"⟩, 21) := ⟨⟨by decide +kernel, by decide +kernel⟩, List.mem_of_getElem? (i := 916) (by decide +kernel), List.mem_of_getElem? (i := 1282) (by decide +kernel), List.mem_of_getElem? (i := 1283) (by decide +kernel)⟩
theorem lw_p69 : lw_okq (⟨"AwakeBoardModel", "isSet", "(I)Z"⟩, 21) := ⟨⟨by decide +kernel, by decide +kernel⟩, List.mem_of_getElem? (i := 916) (by decide +kernel), List.mem_of_getElem? (i := 1303) (by decide +kernel), List.mem_of_getElem? (i := 1304) (by decide +kernel)⟩
theorem lw_p70 : lw_okq (⟨"AwakeBoardModel", "countOf", "(II)I"⟩, 21) := ⟨⟨by decide +kernel, by decide +kernel⟩, List.mem_of_getElem? (i := 916) (by decide +kernel), List.mem_of_getElem? (i := 1307) (by decide +kernel), List.mem_of_getElem? (i := 1308) (by decide +kernel)⟩
def lw_privs_5 : List (MethodName × Nat) := [(⟨"AwakeBoardModel", "howMany", "(I)I"⟩, 21), (⟨"AwakeBoardModel", "areTwo", "(II)Z"⟩, 21), (⟨"AwakeBoardModel", "togetherOf", "(III)I"⟩, 21), (⟨"AwakeBoardModel", "isNear", "(III)Z"⟩, 21), (⟨"AwakeBoardModel", "findGroups", "(II)V"⟩, 21), (⟨"AwakeBoardModel", "isSet", "(I)Z"⟩, 21), (⟨"AwakeBoardModel", "countOf", "(II)I"⟩, 21)]
theorem lw_r5 : ∀ q ∈ lw_privs_5, lw_okq q := List.forall_mem_cons.mpr ⟨lw_p64, List.forall_mem_cons.mpr ⟨lw_p65, List.forall_mem_cons.mpr ⟨lw_p66, List.forall_mem_cons.mpr ⟨lw_p67, List.forall_mem_cons.mpr ⟨lw_p68, List.forall_mem_cons.mpr ⟨lw_p69, List.forall_mem_cons.mpr ⟨lw_p70, fun _ h => absurd h List.not_mem_nil⟩⟩⟩⟩⟩⟩⟩
def lw_privs : List (MethodName × Nat) := lw_privs_1 ++ (lw_privs_2 ++ (lw_privs_3 ++ (lw_privs_4 ++ (lw_privs_5))))
def lw_tbl : List Cond := k2_sels lw_privs ++ tables_1
theorem lw_privs_ok : ∀ q ∈ lw_privs, lw_okq q := by
  show ∀ q ∈ lw_privs_1 ++ (lw_privs_2 ++ (lw_privs_3 ++ (lw_privs_4 ++ (lw_privs_5)))), lw_okq q
  exact List.forall_mem_append.mpr ⟨lw_r1, List.forall_mem_append.mpr ⟨lw_r2, List.forall_mem_append.mpr ⟨lw_r3, List.forall_mem_append.mpr ⟨lw_r4, lw_r5⟩⟩⟩⟩
def RX0 : String := "AwakeBoard$Board"
def TX0 : u_T := fun k => match k with
  | 0 => ("AwakeBoard$Board", "now", "I", false)
  | 1 => ("AwakeBoard$Board", "size", "I", false)
  | 2 => ("AwakeBoard$Board", "lost", "I", false)
  | 3 => ("AwakeBoard$Board", "seconds", "[I", true)
  | 4 => ("AwakeBoard$Board", "speakers", "[I", true)
  | 5 => ("AwakeBoard$Board", "topics", "[I", true)
  | 6 => ("AwakeBoard$Board", "followed", "[I", true)
  | _ => ("AwakeBoard$Board", "isBelow", "[Z", true)
def tyX0 : Nat → FieldType := fun k => match k with
  | 0 => .int
  | 1 => .int
  | 2 => .int
  | 3 => .array .int
  | 4 => .array .int
  | 5 => .array .int
  | 6 => .array .int
  | _ => .array .boolean
theorem nmX0 : ∀ a, a < 8 → ∀ b, b < 8 → a ≠ b → (TX0 a).2.1 ≠ (TX0 b).2.1 := by decide +kernel
theorem tyX0_ok : ∀ k, k < 8 → parseFieldDescriptor (TX0 k).2.2.1 = some (tyX0 k) := by decide +kernel
def RX1 : String := "AwakeBoard$Names"
def TX1 : u_T := fun k => match k with
  | 0 => ("AwakeBoard$Names", "size", "I", false)
  | 1 => ("AwakeBoard$Names", "shutSet", "I", false)
  | 2 => ("AwakeBoard$Names", "askedSet", "I", false)
  | _ => ("AwakeBoard$Names", "traits", "[[I", true)
def tyX1 : Nat → FieldType := fun k => match k with
  | 0 => .int
  | 1 => .int
  | 2 => .int
  | _ => .array (.array .int)
theorem nmX1 : ∀ a, a < 4 → ∀ b, b < 4 → a ≠ b → (TX1 a).2.1 ≠ (TX1 b).2.1 := by decide +kernel
theorem tyX1_ok : ∀ k, k < 4 → parseFieldDescriptor (TX1 k).2.2.1 = some (tyX1 k) := by decide +kernel
def RX2 : String := "AwakeBoard$Reader"
def TX2 : u_T := fun k => match k with
  | 0 => ("AwakeBoard$Reader", "bytes", "[I", false)
  | 1 => ("AwakeBoard$Reader", "size", "I", false)
  | 2 => ("AwakeBoard$Reader", "signs", "[I", false)
  | 3 => ("AwakeBoard$Reader", "at", "I", false)
  | 4 => ("AwakeBoard$Reader", "token", "I", false)
  | 5 => ("AwakeBoard$Reader", "place", "I", false)
  | 6 => ("AwakeBoard$Reader", "given", "I", false)
  | _ => ("AwakeBoard$Reader", "fault", "I", false)
def tyX2 : Nat → FieldType := fun k => match k with
  | 0 => .array .int
  | 1 => .int
  | 2 => .array .int
  | 3 => .int
  | 4 => .int
  | 5 => .int
  | 6 => .int
  | _ => .int
theorem nmX2 : ∀ a, a < 8 → ∀ b, b < 8 → a ≠ b → (TX2 a).2.1 ≠ (TX2 b).2.1 := by decide +kernel
theorem tyX2_ok : ∀ k, k < 8 → parseFieldDescriptor (TX2 k).2.2.1 = some (tyX2 k) := by decide +kernel
def RX3 : String := "AwakeBoard$Scene"
def TX3 : u_T := fun k => match k with
  | 0 => ("AwakeBoard$Scene", "names", "LAwakeBoard$Names;", true)
  | 1 => ("AwakeBoard$Scene", "board", "LAwakeBoard$Board;", true)
  | 2 => ("AwakeBoard$Scene", "texts", "LAwakeBoard$Texts;", true)
  | 3 => ("AwakeBoard$Scene", "spots", "[I", true)
  | _ => ("AwakeBoard$Scene", "z", "I", false)
def tyX3 : Nat → FieldType := fun k => match k with
  | 0 => .object "AwakeBoard$Names"
  | 1 => .object "AwakeBoard$Board"
  | 2 => .object "AwakeBoard$Texts"
  | 3 => .array .int
  | _ => .int
theorem nmX3 : ∀ a, a < 5 → ∀ b, b < 5 → a ≠ b → (TX3 a).2.1 ≠ (TX3 b).2.1 := by decide +kernel
theorem tyX3_ok : ∀ k, k < 5 → parseFieldDescriptor (TX3 k).2.2.1 = some (tyX3 k) := by decide +kernel
def RX4 : String := "AwakeBoard$Sheet"
def TX4 : u_T := fun k => match k with
  | 0 => ("AwakeBoard$Sheet", "bits", "I", false)
  | 1 => ("AwakeBoard$Sheet", "size", "I", false)
  | _ => ("AwakeBoard$Sheet", "numbers", "[I", true)
def tyX4 : Nat → FieldType := fun k => match k with
  | 0 => .int
  | 1 => .int
  | _ => .array .int
theorem nmX4 : ∀ a, a < 3 → ∀ b, b < 3 → a ≠ b → (TX4 a).2.1 ≠ (TX4 b).2.1 := by decide +kernel
theorem tyX4_ok : ∀ k, k < 3 → parseFieldDescriptor (TX4 k).2.2.1 = some (tyX4 k) := by decide +kernel
def RX5 : String := "AwakeBoard$Signs"
def TX5 : u_T := fun k => match k with
  | _ => ("AwakeBoard$Signs", "row", "[I", true)
def tyX5 : Nat → FieldType := fun k => match k with
  | _ => .array .int
theorem nmX5 : ∀ a, a < 1 → ∀ b, b < 1 → a ≠ b → (TX5 a).2.1 ≠ (TX5 b).2.1 := by decide +kernel
theorem tyX5_ok : ∀ k, k < 1 → parseFieldDescriptor (TX5 k).2.2.1 = some (tyX5 k) := by decide +kernel
def RX6 : String := "AwakeBoard$Texts"
def TX6 : u_T := fun k => match k with
  | 0 => ("AwakeBoard$Texts", "size", "I", false)
  | 1 => ("AwakeBoard$Texts", "bytes", "[[I", true)
  | _ => ("AwakeBoard$Texts", "sizes", "[I", true)
def tyX6 : Nat → FieldType := fun k => match k with
  | 0 => .int
  | 1 => .array (.array .int)
  | _ => .array .int
theorem nmX6 : ∀ a, a < 3 → ∀ b, b < 3 → a ≠ b → (TX6 a).2.1 ≠ (TX6 b).2.1 := by decide +kernel
theorem tyX6_ok : ∀ k, k < 3 → parseFieldDescriptor (TX6 k).2.2.1 = some (tyX6 k) := by decide +kernel
def RX7 : String := "AwakeBoard$Ties"
def TX7 : u_T := fun k => match k with
  | 0 => ("AwakeBoard$Ties", "size", "I", false)
  | 1 => ("AwakeBoard$Ties", "least", "[I", true)
  | _ => ("AwakeBoard$Ties", "near", "[[I", true)
def tyX7 : Nat → FieldType := fun k => match k with
  | 0 => .int
  | 1 => .array .int
  | _ => .array (.array .int)
theorem nmX7 : ∀ a, a < 3 → ∀ b, b < 3 → a ≠ b → (TX7 a).2.1 ≠ (TX7 b).2.1 := by decide +kernel
theorem tyX7_ok : ∀ k, k < 3 → parseFieldDescriptor (TX7 k).2.2.1 = some (tyX7 k) := by decide +kernel
def RX8 : String := "AwakeBoard"
def TX8 : u_T := fun k => match k with
  | 0 => ("AwakeBoard", "scene", "LAwakeBoard$Scene;", true)
  | 1 => ("AwakeBoard", "kept", "LAwakeBoard$Scene;", true)
  | 2 => ("AwakeBoard", "isKept", "Z", false)
  | 3 => ("AwakeBoard", "tape", "[I", true)
  | 4 => ("AwakeBoard", "tapeSize", "I", false)
  | 5 => ("AwakeBoard", "sheets", "[LAwakeBoard$Sheet;", true)
  | 6 => ("AwakeBoard", "findings", "[I", true)
  | 7 => ("AwakeBoard", "signs", "LAwakeBoard$Signs;", true)
  | 8 => ("AwakeBoard", "reader", "LAwakeBoard$Reader;", true)
  | 9 => ("AwakeBoard", "ties", "LAwakeBoard$Ties;", true)
  | _ => ("AwakeBoard", "scores", "[I", true)
def tyX8 : Nat → FieldType := fun k => match k with
  | 0 => .object "AwakeBoard$Scene"
  | 1 => .object "AwakeBoard$Scene"
  | 2 => .boolean
  | 3 => .array .int
  | 4 => .int
  | 5 => .array (.object "AwakeBoard$Sheet")
  | 6 => .array .int
  | 7 => .object "AwakeBoard$Signs"
  | 8 => .object "AwakeBoard$Reader"
  | 9 => .object "AwakeBoard$Ties"
  | _ => .array .int
theorem nmX8 : ∀ a, a < 11 → ∀ b, b < 11 → a ≠ b → (TX8 a).2.1 ≠ (TX8 b).2.1 := by decide +kernel
theorem tyX8_ok : ∀ k, k < 11 → parseFieldDescriptor (TX8 k).2.2.1 = some (tyX8 k) := by decide +kernel
def RX9 : String := "AwakeBoardModel"
def TX9 : u_T := fun k => match k with
  | 0 => ("AwakeBoardModel", "m", "[I", true)
  | 1 => ("AwakeBoardModel", "kept", "[I", true)
  | 2 => ("AwakeBoardModel", "isKept", "Z", false)
  | 3 => ("AwakeBoardModel", "found", "[I", true)
  | 4 => ("AwakeBoardModel", "isBelow", "[Z", true)
  | 5 => ("AwakeBoardModel", "tape", "[I", true)
  | 6 => ("AwakeBoardModel", "taped", "I", false)
  | 7 => ("AwakeBoardModel", "step", "[I", true)
  | 8 => ("AwakeBoardModel", "steps", "I", false)
  | 9 => ("AwakeBoardModel", "from", "I", false)
  | 10 => ("AwakeBoardModel", "to", "I", false)
  | 11 => ("AwakeBoardModel", "token", "I", false)
  | 12 => ("AwakeBoardModel", "value", "I", false)
  | 13 => ("AwakeBoardModel", "open", "I", false)
  | 14 => ("AwakeBoardModel", "bad", "Z", false)
  | 15 => ("AwakeBoardModel", "stack", "[I", true)
  | 16 => ("AwakeBoardModel", "scores", "[I", true)
  | 17 => ("AwakeBoardModel", "least", "[I", true)
  | 18 => ("AwakeBoardModel", "bits", "[I", true)
  | 19 => ("AwakeBoardModel", "size", "[I", true)
  | _ => ("AwakeBoardModel", "number", "[I", true)
def tyX9 : Nat → FieldType := fun k => match k with
  | 0 => .array .int
  | 1 => .array .int
  | 2 => .boolean
  | 3 => .array .int
  | 4 => .array .boolean
  | 5 => .array .int
  | 6 => .int
  | 7 => .array .int
  | 8 => .int
  | 9 => .int
  | 10 => .int
  | 11 => .int
  | 12 => .int
  | 13 => .int
  | 14 => .boolean
  | 15 => .array .int
  | 16 => .array .int
  | 17 => .array .int
  | 18 => .array .int
  | 19 => .array .int
  | _ => .array .int
theorem nmX9 : ∀ a, a < 21 → ∀ b, b < 21 → a ≠ b → (TX9 a).2.1 ≠ (TX9 b).2.1 := by decide +kernel
theorem tyX9_ok : ∀ k, k < 21 → parseFieldDescriptor (TX9 k).2.2.1 = some (tyX9 k) := by decide +kernel
def RJ11 : String := "java/lang/Character"
def TJ11 : u_T := fun k => match k with
  | _ => ("", "", "", false)
def tyJ11 : Nat → FieldType := fun k => match k with
  | _ => .int
theorem nmJ11 : ∀ a, a < 0 → ∀ b, b < 0 → a ≠ b → (TJ11 a).2.1 ≠ (TJ11 b).2.1 := by decide +kernel
theorem tyJ11_ok : ∀ k, k < 0 → parseFieldDescriptor (TJ11 k).2.2.1 = some (tyJ11 k) := by decide +kernel
def RJ6 : String := "java/lang/Integer"
def TJ6 : u_T := fun k => match k with
  | _ => ("", "", "", false)
def tyJ6 : Nat → FieldType := fun k => match k with
  | _ => .int
theorem nmJ6 : ∀ a, a < 0 → ∀ b, b < 0 → a ≠ b → (TJ6 a).2.1 ≠ (TJ6 b).2.1 := by decide +kernel
theorem tyJ6_ok : ∀ k, k < 0 → parseFieldDescriptor (TJ6 k).2.2.1 = some (tyJ6 k) := by decide +kernel
def RJ9 : String := "java/lang/Math"
def TJ9 : u_T := fun k => match k with
  | _ => ("", "", "", false)
def tyJ9 : Nat → FieldType := fun k => match k with
  | _ => .int
theorem nmJ9 : ∀ a, a < 0 → ∀ b, b < 0 → a ≠ b → (TJ9 a).2.1 ≠ (TJ9 b).2.1 := by decide +kernel
theorem tyJ9_ok : ∀ k, k < 0 → parseFieldDescriptor (TJ9 k).2.2.1 = some (tyJ9 k) := by decide +kernel
def RJ0 : String := "java/lang/String"
def TJ0 : u_T := fun k => match k with
  | _ => ("", "", "", false)
def tyJ0 : Nat → FieldType := fun k => match k with
  | _ => .int
theorem nmJ0 : ∀ a, a < 0 → ∀ b, b < 0 → a ≠ b → (TJ0 a).2.1 ≠ (TJ0 b).2.1 := by decide +kernel
theorem tyJ0_ok : ∀ k, k < 0 → parseFieldDescriptor (TJ0 k).2.2.1 = some (tyJ0 k) := by decide +kernel
def RJ1 : String := "java/lang/StringLatin1"
def TJ1 : u_T := fun k => match k with
  | _ => ("", "", "", false)
def tyJ1 : Nat → FieldType := fun k => match k with
  | _ => .int
theorem nmJ1 : ∀ a, a < 0 → ∀ b, b < 0 → a ≠ b → (TJ1 a).2.1 ≠ (TJ1 b).2.1 := by decide +kernel
theorem tyJ1_ok : ∀ k, k < 0 → parseFieldDescriptor (TJ1 k).2.2.1 = some (tyJ1 k) := by decide +kernel
def RJ2 : String := "java/lang/StringUTF16"
def TJ2 : u_T := fun k => match k with
  | _ => ("", "", "", false)
def tyJ2 : Nat → FieldType := fun k => match k with
  | _ => .int
theorem nmJ2 : ∀ a, a < 0 → ∀ b, b < 0 → a ≠ b → (TJ2 a).2.1 ≠ (TJ2 b).2.1 := by decide +kernel
theorem tyJ2_ok : ∀ k, k < 0 → parseFieldDescriptor (TJ2 k).2.2.1 = some (tyJ2 k) := by decide +kernel
def RJ10 : String := "java/lang/System"
def TJ10 : u_T := fun k => match k with
  | _ => ("", "", "", false)
def tyJ10 : Nat → FieldType := fun k => match k with
  | _ => .int
theorem nmJ10 : ∀ a, a < 0 → ∀ b, b < 0 → a ≠ b → (TJ10 a).2.1 ≠ (TJ10 b).2.1 := by decide +kernel
theorem tyJ10_ok : ∀ k, k < 0 → parseFieldDescriptor (TJ10 k).2.2.1 = some (tyJ10 k) := by decide +kernel
def RJ3 : String := "jdk/internal/util/Preconditions"
def TJ3 : u_T := fun k => match k with
  | _ => ("", "", "", false)
def tyJ3 : Nat → FieldType := fun k => match k with
  | _ => .int
theorem nmJ3 : ∀ a, a < 0 → ∀ b, b < 0 → a ≠ b → (TJ3 a).2.1 ≠ (TJ3 b).2.1 := by decide +kernel
theorem tyJ3_ok : ∀ k, k < 0 → parseFieldDescriptor (TJ3 k).2.2.1 = some (tyJ3 k) := by decide +kernel
def RL : String := "AwakeBoardLaw"
abbrev vwCl : List vw_C := [(RX0, TX0, 8), (RX1, TX1, 4), (RX2, TX2, 8), (RX3, TX3, 5), (RX4, TX4, 3), (RX5, TX5, 1), (RX6, TX6, 3), (RX7, TX7, 3), (RX8, TX8, 11), (RX9, TX9, 21)]
abbrev cX0_init : ByteArray := prog_2_method_1_code
def yX0_init : MethodName := ⟨RX0, "<init>", "()V"⟩
abbrev cX0_has : ByteArray := prog_2_method_2_code
def yX0_has : MethodName := ⟨RX0, "has", "(I)Z"⟩
abbrev cX0_isFull : ByteArray := prog_2_method_3_code
def yX0_isFull : MethodName := ⟨RX0, "isFull", "()Z"⟩
abbrev cX0_add : ByteArray := prog_2_method_4_code
def yX0_add : MethodName := ⟨RX0, "add", "(II)I"⟩
abbrev cX0_wordAhead : ByteArray := prog_2_method_5_code
def yX0_wordAhead : MethodName := ⟨RX0, "wordAhead", "(I)I"⟩
abbrev cX0_countBelow : ByteArray := prog_2_method_6_code
def yX0_countBelow : MethodName := ⟨RX0, "countBelow", "(I)I"⟩
abbrev cX0_countOf : ByteArray := prog_2_method_7_code
def yX0_countOf : MethodName := ⟨RX0, "countOf", "(I)I"⟩
abbrev cX0_latestOf : ByteArray := prog_2_method_8_code
def yX0_latestOf : MethodName := ⟨RX0, "latestOf", "(I)I"⟩
abbrev cX0_hourSet : ByteArray := prog_2_method_9_code
def yX0_hourSet : MethodName := ⟨RX0, "hourSet", "(I)I"⟩
abbrev cX0_firstTelling : ByteArray := prog_2_method_10_code
def yX0_firstTelling : MethodName := ⟨RX0, "firstTelling", "(I)I"⟩
abbrev cX0_countTelling : ByteArray := prog_2_method_11_code
def yX0_countTelling : MethodName := ⟨RX0, "countTelling", "(II)I"⟩
abbrev cX0_firstFrom : ByteArray := prog_2_method_12_code
def yX0_firstFrom : MethodName := ⟨RX0, "firstFrom", "(I)I"⟩
abbrev cX0_speakersBetween : ByteArray := prog_2_method_13_code
def yX0_speakersBetween : MethodName := ⟨RX0, "speakersBetween", "(II)I"⟩
abbrev cX0_speakersNear : ByteArray := prog_2_method_14_code
def yX0_speakersNear : MethodName := ⟨RX0, "speakersNear", "(II)I"⟩
abbrev cX0_countTogether : ByteArray := prog_2_method_15_code
def yX0_countTogether : MethodName := ⟨RX0, "countTogether", "(III)I"⟩
abbrev cX0_soldPlace : ByteArray := prog_2_method_16_code
def yX0_soldPlace : MethodName := ⟨RX0, "soldPlace", "(I)I"⟩
abbrev cX0_hourSum : ByteArray := prog_2_method_17_code
def yX0_hourSum : MethodName := ⟨RX0, "hourSum", "(I)I"⟩
abbrev cX0_become : ByteArray := prog_2_method_18_code
def yX0_become : MethodName := ⟨RX0, "become", "(LAwakeBoard$Board;)V"⟩
abbrev cX1_init : ByteArray := prog_3_method_1_code
def yX1_init : MethodName := ⟨RX1, "<init>", "()V"⟩
abbrev cX1_has : ByteArray := prog_3_method_2_code
def yX1_has : MethodName := ⟨RX1, "has", "(I)Z"⟩
abbrev cX1_hasAll : ByteArray := prog_3_method_3_code
def yX1_hasAll : MethodName := ⟨RX1, "hasAll", "(I)Z"⟩
abbrev cX1_add : ByteArray := prog_3_method_4_code
def yX1_add : MethodName := ⟨RX1, "add", "(II)I"⟩
abbrev cX1_allows : ByteArray := prog_3_method_5_code
def yX1_allows : MethodName := ⟨RX1, "allows", "(III)Z"⟩
abbrev cX1_isOf : ByteArray := prog_3_method_6_code
def yX1_isOf : MethodName := ⟨RX1, "isOf", "(II)Z"⟩
abbrev cX1_peopleSet : ByteArray := prog_3_method_7_code
def yX1_peopleSet : MethodName := ⟨RX1, "peopleSet", "()I"⟩
abbrev cX1_machineSet : ByteArray := prog_3_method_8_code
def yX1_machineSet : MethodName := ⟨RX1, "machineSet", "()I"⟩
abbrev cX1_become : ByteArray := prog_3_method_9_code
def yX1_become : MethodName := ⟨RX1, "become", "(LAwakeBoard$Names;)V"⟩
abbrev cX2_init : ByteArray := prog_4_method_1_code
def yX2_init : MethodName := ⟨RX2, "<init>", "()V"⟩
abbrev cX2_read : ByteArray := prog_4_method_2_code
def yX2_read : MethodName := ⟨RX2, "read", "([II[I)I"⟩
abbrev cX2_readText : ByteArray := prog_4_method_3_code
def yX2_readText : MethodName := ⟨RX2, "readText", "(I)I"⟩
abbrev cX2_readSum : ByteArray := prog_4_method_4_code
def yX2_readSum : MethodName := ⟨RX2, "readSum", "(I)I"⟩
abbrev cX2_readTerm : ByteArray := prog_4_method_5_code
def yX2_readTerm : MethodName := ⟨RX2, "readTerm", "(I)I"⟩
abbrev cX2_readOne : ByteArray := prog_4_method_6_code
def yX2_readOne : MethodName := ⟨RX2, "readOne", "(I)I"⟩
abbrev cX2_take : ByteArray := prog_4_method_7_code
def yX2_take : MethodName := ⟨RX2, "take", "(I)V"⟩
abbrev cX2_fail : ByteArray := prog_4_method_8_code
def yX2_fail : MethodName := ⟨RX2, "fail", "()V"⟩
abbrev cX2_step : ByteArray := prog_4_method_9_code
def yX2_step : MethodName := ⟨RX2, "step", "()V"⟩
abbrev cX2_stepNumber : ByteArray := prog_4_method_10_code
def yX2_stepNumber : MethodName := ⟨RX2, "stepNumber", "()V"⟩
abbrev cX2_isDigit : ByteArray := prog_4_method_11_code
def yX2_isDigit : MethodName := ⟨RX2, "isDigit", "(I)Z"⟩
abbrev cX2_isMark : ByteArray := prog_4_method_12_code
def yX2_isMark : MethodName := ⟨RX2, "isMark", "(I)Z"⟩
abbrev cX3_init : ByteArray := prog_5_method_1_code
def yX3_init : MethodName := ⟨RX3, "<init>", "()V"⟩
abbrev cX3_isSpeaking : ByteArray := prog_5_method_2_code
def yX3_isSpeaking : MethodName := ⟨RX3, "isSpeaking", "(II)Z"⟩
abbrev cX3_isAsName : ByteArray := prog_5_method_3_code
def yX3_isAsName : MethodName := ⟨RX3, "isAsName", "(II)Z"⟩
abbrev cX3_isAsPerson : ByteArray := prog_5_method_4_code
def yX3_isAsPerson : MethodName := ⟨RX3, "isAsPerson", "(II)Z"⟩
abbrev cX3_isAsClock : ByteArray := prog_5_method_5_code
def yX3_isAsClock : MethodName := ⟨RX3, "isAsClock", "(II)Z"⟩
abbrev cX3_isAsHalf : ByteArray := prog_5_method_6_code
def yX3_isAsHalf : MethodName := ⟨RX3, "isAsHalf", "(II)Z"⟩
abbrev cX3_isInHours : ByteArray := prog_5_method_7_code
def yX3_isInHours : MethodName := ⟨RX3, "isInHours", "(II)Z"⟩
abbrev cX3_isBehindLeader : ByteArray := prog_5_method_8_code
def yX3_isBehindLeader : MethodName := ⟨RX3, "isBehindLeader", "(II)Z"⟩
abbrev cX3_topicOf : ByteArray := prog_5_method_9_code
def yX3_topicOf : MethodName := ⟨RX3, "topicOf", "(I)I"⟩
abbrev cX3_passSecond : ByteArray := prog_5_method_10_code
def yX3_passSecond : MethodName := ⟨RX3, "passSecond", "()V"⟩
abbrev cX3_draw : ByteArray := prog_5_method_11_code
def yX3_draw : MethodName := ⟨RX3, "draw", "()I"⟩
abbrev cX3_become : ByteArray := prog_5_method_12_code
def yX3_become : MethodName := ⟨RX3, "become", "(LAwakeBoard$Scene;)V"⟩
abbrev cX4_init : ByteArray := prog_6_method_1_code
def yX4_init : MethodName := ⟨RX4, "<init>", "()V"⟩
abbrev cX4_isMissing : ByteArray := prog_6_method_2_code
def yX4_isMissing : MethodName := ⟨RX4, "isMissing", "()Z"⟩
abbrev cX4_begin : ByteArray := prog_6_method_3_code
def yX4_begin : MethodName := ⟨RX4, "begin", "(II)V"⟩
abbrev cX4_put : ByteArray := prog_6_method_4_code
def yX4_put : MethodName := ⟨RX4, "put", "(II)V"⟩
abbrev cX4_hasRange : ByteArray := prog_6_method_5_code
def yX4_hasRange : MethodName := ⟨RX4, "hasRange", "(II)Z"⟩
abbrev cX5_init : ByteArray := prog_7_method_1_code
def yX5_init : MethodName := ⟨RX5, "<init>", "()V"⟩
abbrev cX5_gather : ByteArray := prog_7_method_2_code
def yX5_gather : MethodName := ⟨RX5, "gather", "(LAwakeBoard$Board;I)V"⟩
abbrev cX5_gatherGaps : ByteArray := prog_7_method_3_code
def yX5_gatherGaps : MethodName := ⟨RX5, "gatherGaps", "(LAwakeBoard$Board;I)V"⟩
abbrev cX5_gatherFollowing : ByteArray := prog_7_method_4_code
def yX5_gatherFollowing : MethodName := ⟨RX5, "gatherFollowing", "(LAwakeBoard$Board;I)V"⟩
abbrev cX5_countTopics : ByteArray := prog_7_method_5_code
def yX5_countTopics : MethodName := ⟨RX5, "countTopics", "(LAwakeBoard$Board;I)I"⟩
abbrev cX6_init : ByteArray := prog_8_method_1_code
def yX6_init : MethodName := ⟨RX6, "<init>", "()V"⟩
abbrev cX6_has : ByteArray := prog_8_method_2_code
def yX6_has : MethodName := ⟨RX6, "has", "(I)Z"⟩
abbrev cX6_add : ByteArray := prog_8_method_3_code
def yX6_add : MethodName := ⟨RX6, "add", "([II)I"⟩
abbrev cX6_become : ByteArray := prog_8_method_4_code
def yX6_become : MethodName := ⟨RX6, "become", "(LAwakeBoard$Texts;)V"⟩
abbrev cX7_init : ByteArray := prog_9_method_1_code
def yX7_init : MethodName := ⟨RX7, "<init>", "()V"⟩
abbrev cX7_gather : ByteArray := prog_9_method_2_code
def yX7_gather : MethodName := ⟨RX7, "gather", "(LAwakeBoard$Board;III)V"⟩
abbrev cX7_gatherNear : ByteArray := prog_9_method_3_code
def yX7_gatherNear : MethodName := ⟨RX7, "gatherNear", "(LAwakeBoard$Board;I)V"⟩
abbrev cX7_join : ByteArray := prog_9_method_4_code
def yX7_join : MethodName := ⟨RX7, "join", "(II)V"⟩
abbrev cX7_groupSet : ByteArray := prog_9_method_5_code
def yX7_groupSet : MethodName := ⟨RX7, "groupSet", "(I)I"⟩
abbrev cX7_countGroups : ByteArray := prog_9_method_6_code
def yX7_countGroups : MethodName := ⟨RX7, "countGroups", "()I"⟩
abbrev cX8_init : ByteArray := prog_1_method_1_code
def yX8_init : MethodName := ⟨RX8, "<init>", "()V"⟩
abbrev cX8_name : ByteArray := prog_1_method_2_code
def yX8_name : MethodName := ⟨RX8, "name", "(II)I"⟩
abbrev cX8_nameOf : ByteArray := prog_1_method_3_code
def yX8_nameOf : MethodName := ⟨RX8, "nameOf", "(II)I"⟩
abbrev cX8_change : ByteArray := prog_1_method_4_code
def yX8_change : MethodName := ⟨RX8, "change", "(III)I"⟩
abbrev cX8_shut : ByteArray := prog_1_method_5_code
def yX8_shut : MethodName := ⟨RX8, "shut", "(IZ)I"⟩
abbrev cX8_object : ByteArray := prog_1_method_6_code
def yX8_object : MethodName := ⟨RX8, "object", "()I"⟩
abbrev cX8_speaks : ByteArray := prog_1_method_7_code
def yX8_speaks : MethodName := ⟨RX8, "speaks", "(II)I"⟩
abbrev cX8_next : ByteArray := prog_1_method_8_code
def yX8_next : MethodName := ⟨RX8, "next", "(II)I"⟩
abbrev cX8_go : ByteArray := prog_1_method_9_code
def yX8_go : MethodName := ⟨RX8, "go", "(I)I"⟩
abbrev cX8_say : ByteArray := prog_1_method_10_code
def yX8_say : MethodName := ⟨RX8, "say", "(II)I"⟩
abbrev cX8_wordOf : ByteArray := prog_1_method_11_code
def yX8_wordOf : MethodName := ⟨RX8, "wordOf", "(II)I"⟩
abbrev cX8_below : ByteArray := prog_1_method_12_code
def yX8_below : MethodName := ⟨RX8, "below", "(I)I"⟩
abbrev cX8_sign : ByteArray := prog_1_method_13_code
def yX8_sign : MethodName := ⟨RX8, "sign", "(II)I"⟩
abbrev cX8_hours : ByteArray := prog_1_method_14_code
def yX8_hours : MethodName := ⟨RX8, "hours", "(I)I"⟩
abbrev cX8_feed : ByteArray := prog_1_method_15_code
def yX8_feed : MethodName := ⟨RX8, "feed", "(II)I"⟩
abbrev cX8_wipe : ByteArray := prog_1_method_16_code
def yX8_wipe : MethodName := ⟨RX8, "wipe", "()I"⟩
abbrev cX8_text : ByteArray := prog_1_method_17_code
def yX8_text : MethodName := ⟨RX8, "text", "()I"⟩
abbrev cX8_score : ByteArray := prog_1_method_18_code
def yX8_score : MethodName := ⟨RX8, "score", "(II)I"⟩
abbrev cX8_found : ByteArray := prog_1_method_19_code
def yX8_found : MethodName := ⟨RX8, "found", "(III)I"⟩
abbrev cX8_line : ByteArray := prog_1_method_20_code
def yX8_line : MethodName := ⟨RX8, "line", "(IIII)I"⟩
abbrev cX8_shutAll : ByteArray := prog_1_method_21_code
def yX8_shutAll : MethodName := ⟨RX8, "shutAll", "(II)I"⟩
abbrev cX8_ask : ByteArray := prog_1_method_22_code
def yX8_ask : MethodName := ⟨RX8, "ask", "(II)I"⟩
abbrev cX8_asked : ByteArray := prog_1_method_23_code
def yX8_asked : MethodName := ⟨RX8, "asked", "(I)I"⟩
abbrev cX8_together : ByteArray := prog_1_method_24_code
def yX8_together : MethodName := ⟨RX8, "together", "(III)I"⟩
abbrev cX8_group : ByteArray := prog_1_method_25_code
def yX8_group : MethodName := ⟨RX8, "group", "(IIII)I"⟩
abbrev cX8_groups : ByteArray := prog_1_method_26_code
def yX8_groups : MethodName := ⟨RX8, "groups", "(II)I"⟩
abbrev cX8_club : ByteArray := prog_1_method_27_code
def yX8_club : MethodName := ⟨RX8, "club", "(II)I"⟩
abbrev cX8_apart : ByteArray := prog_1_method_28_code
def yX8_apart : MethodName := ⟨RX8, "apart", "(II)I"⟩
abbrev cX8_counts : ByteArray := prog_1_method_29_code
def yX8_counts : MethodName := ⟨RX8, "counts", "(II)I"⟩
abbrev cX8_most : ByteArray := prog_1_method_30_code
def yX8_most : MethodName := ⟨RX8, "most", "(I)I"⟩
abbrev cX8_first : ByteArray := prog_1_method_31_code
def yX8_first : MethodName := ⟨RX8, "first", "(I)I"⟩
abbrev cX8_many : ByteArray := prog_1_method_32_code
def yX8_many : MethodName := ⟨RX8, "many", "(II)I"⟩
abbrev cX8_sold : ByteArray := prog_1_method_33_code
def yX8_sold : MethodName := ⟨RX8, "sold", "(I)I"⟩
abbrev cX8_seed : ByteArray := prog_1_method_34_code
def yX8_seed : MethodName := ⟨RX8, "seed", "(I)I"⟩
abbrev cX8_sample : ByteArray := prog_1_method_35_code
def yX8_sample : MethodName := ⟨RX8, "sample", "(I)I"⟩
abbrev cX8_hold : ByteArray := prog_1_method_36_code
def yX8_hold : MethodName := ⟨RX8, "hold", "(II)I"⟩
abbrev cX8_as : ByteArray := prog_1_method_37_code
def yX8_as : MethodName := ⟨RX8, "as", "(II)I"⟩
abbrev cX8_sheet : ByteArray := prog_1_method_38_code
def yX8_sheet : MethodName := ⟨RX8, "sheet", "(III)I"⟩
abbrev cX8_write : ByteArray := prog_1_method_39_code
def yX8_write : MethodName := ⟨RX8, "write", "(III)I"⟩
abbrev cX8_copy : ByteArray := prog_1_method_40_code
def yX8_copy : MethodName := ⟨RX8, "copy", "(IIIII)I"⟩
abbrev cX8_load : ByteArray := prog_1_method_41_code
def yX8_load : MethodName := ⟨RX8, "load", "(I)I"⟩
abbrev cX8_judge : ByteArray := prog_1_method_42_code
def yX8_judge : MethodName := ⟨RX8, "judge", "(I)I"⟩
abbrev cX8_image : ByteArray := prog_1_method_43_code
def yX8_image : MethodName := ⟨RX8, "image", "()I"⟩
abbrev cX8_undo : ByteArray := prog_1_method_44_code
def yX8_undo : MethodName := ⟨RX8, "undo", "()I"⟩
abbrev cX8_tear : ByteArray := prog_1_method_45_code
def yX8_tear : MethodName := ⟨RX8, "tear", "()I"⟩
abbrev cX8_count : ByteArray := prog_1_method_46_code
def yX8_count : MethodName := ⟨RX8, "count", "(I)I"⟩
abbrev cX8_status : ByteArray := prog_1_method_47_code
def yX8_status : MethodName := ⟨RX8, "status", "(I)I"⟩
abbrev cX8_tellFinding : ByteArray := prog_1_method_48_code
def yX8_tellFinding : MethodName := ⟨RX8, "tellFinding", "(I)I"⟩
abbrev cX8_areTwoNames : ByteArray := prog_1_method_49_code
def yX8_areTwoNames : MethodName := ⟨RX8, "areTwoNames", "(II)Z"⟩
abbrev cX8_scoreOf : ByteArray := prog_1_method_50_code
def yX8_scoreOf : MethodName := ⟨RX8, "scoreOf", "(II)I"⟩
abbrev cX8_gatherScores : ByteArray := prog_1_method_51_code
def yX8_gatherScores : MethodName := ⟨RX8, "gatherScores", "(I)V"⟩
abbrev cX8_foundSet : ByteArray := prog_1_method_52_code
def yX8_foundSet : MethodName := ⟨RX8, "foundSet", "(I)I"⟩
abbrev cX8_wrongedSet : ByteArray := prog_1_method_53_code
def yX8_wrongedSet : MethodName := ⟨RX8, "wrongedSet", "(I)I"⟩
abbrev cX8_missedSet : ByteArray := prog_1_method_54_code
def yX8_missedSet : MethodName := ⟨RX8, "missedSet", "(I)I"⟩
abbrev cX8_lineSum : ByteArray := prog_1_method_55_code
def yX8_lineSum : MethodName := ⟨RX8, "lineSum", "(III)I"⟩
abbrev cX8_isWithin : ByteArray := prog_1_method_56_code
def yX8_isWithin : MethodName := ⟨RX8, "isWithin", "(III)Z"⟩
abbrev cX8_isSecond : ByteArray := prog_1_method_57_code
def yX8_isSecond : MethodName := ⟨RX8, "isSecond", "(I)Z"⟩
abbrev cX8_isTopic : ByteArray := prog_1_method_58_code
def yX8_isTopic : MethodName := ⟨RX8, "isTopic", "(I)Z"⟩
abbrev cX8_isSpan : ByteArray := prog_1_method_59_code
def yX8_isSpan : MethodName := ⟨RX8, "isSpan", "(I)Z"⟩
abbrev cX8_isSpot : ByteArray := prog_1_method_60_code
def yX8_isSpot : MethodName := ⟨RX8, "isSpot", "(I)Z"⟩
abbrev cX8_isSheet : ByteArray := prog_1_method_61_code
def yX8_isSheet : MethodName := ⟨RX8, "isSheet", "(I)Z"⟩
abbrev cX8_hasBit : ByteArray := prog_1_method_62_code
def yX8_hasBit : MethodName := ⟨RX8, "hasBit", "(II)Z"⟩
abbrev cX8_asInt : ByteArray := prog_1_method_63_code
def yX8_asInt : MethodName := ⟨RX8, "asInt", "(Z)I"⟩
abbrev cX8_cut : ByteArray := prog_1_method_64_code
def yX8_cut : MethodName := ⟨RX8, "cut", "(II)I"⟩
abbrev cX8_rest : ByteArray := prog_1_method_65_code
def yX8_rest : MethodName := ⟨RX8, "rest", "(II)I"⟩
abbrev cX8_hourOf : ByteArray := prog_1_method_66_code
def yX8_hourOf : MethodName := ⟨RX8, "hourOf", "(I)I"⟩
abbrev cX8_dayOf : ByteArray := prog_1_method_67_code
def yX8_dayOf : MethodName := ⟨RX8, "dayOf", "(I)I"⟩
abbrev cX9_init : ByteArray := prog_11_method_1_code
def yX9_init : MethodName := ⟨RX9, "<init>", "()V"⟩
abbrev cX9_finds : ByteArray := prog_11_method_2_code
def yX9_finds : MethodName := ⟨RX9, "finds", "(I)I"⟩
abbrev cX9_in : ByteArray := prog_11_method_3_code
def yX9_in : MethodName := ⟨RX9, "in", "(JJJ)Z"⟩
abbrev cX9_has : ByteArray := prog_11_method_4_code
def yX9_has : MethodName := ⟨RX9, "has", "(II)Z"⟩
abbrev cX9_many : ByteArray := prog_11_method_5_code
def yX9_many : MethodName := ⟨RX9, "many", "(I)I"⟩
abbrev cX9_of : ByteArray := prog_11_method_6_code
def yX9_of : MethodName := ⟨RX9, "of", "(II)I"⟩
abbrev cX9_word : ByteArray := prog_11_method_7_code
def yX9_word : MethodName := ⟨RX9, "word", "(II)I"⟩
abbrev cX9_isName : ByteArray := prog_11_method_8_code
def yX9_isName : MethodName := ⟨RX9, "isName", "(I)Z"⟩
abbrev cX9_isWord : ByteArray := prog_11_method_9_code
def yX9_isWord : MethodName := ⟨RX9, "isWord", "(I)Z"⟩
abbrev cX9_every : ByteArray := prog_11_method_10_code
def yX9_every : MethodName := ⟨RX9, "every", "()I"⟩
abbrev cX9_isSet : ByteArray := prog_11_method_11_code
def yX9_isSet : MethodName := ⟨RX9, "isSet", "(I)Z"⟩
abbrev cX9_isSecond : ByteArray := prog_11_method_12_code
def yX9_isSecond : MethodName := ⟨RX9, "isSecond", "(I)Z"⟩
abbrev cX9_isTopic : ByteArray := prog_11_method_13_code
def yX9_isTopic : MethodName := ⟨RX9, "isTopic", "(I)Z"⟩
abbrev cX9_name : ByteArray := prog_11_method_14_code
def yX9_name : MethodName := ⟨RX9, "name", "(II)I"⟩
abbrev cX9_isPerson : ByteArray := prog_11_method_15_code
def yX9_isPerson : MethodName := ⟨RX9, "isPerson", "(I)Z"⟩
abbrev cX9_nameOf : ByteArray := prog_11_method_16_code
def yX9_nameOf : MethodName := ⟨RX9, "nameOf", "(II)I"⟩
abbrev cX9_may : ByteArray := prog_11_method_17_code
def yX9_may : MethodName := ⟨RX9, "may", "(III)Z"⟩
abbrev cX9_becomes : ByteArray := prog_11_method_18_code
def yX9_becomes : MethodName := ⟨RX9, "becomes", "(II)I"⟩
abbrev cX9_change : ByteArray := prog_11_method_19_code
def yX9_change : MethodName := ⟨RX9, "change", "(III)I"⟩
abbrev cX9_shut : ByteArray := prog_11_method_20_code
def yX9_shut : MethodName := ⟨RX9, "shut", "(IZ)I"⟩
abbrev cX9_object : ByteArray := prog_11_method_21_code
def yX9_object : MethodName := ⟨RX9, "object", "()I"⟩
abbrev cX9_hourOf : ByteArray := prog_11_method_22_code
def yX9_hourOf : MethodName := ⟨RX9, "hourOf", "(I)I"⟩
abbrev cX9_isAwake : ByteArray := prog_11_method_23_code
def yX9_isAwake : MethodName := ⟨RX9, "isAwake", "(II)Z"⟩
abbrev cX9_byGap : ByteArray := prog_11_method_24_code
def yX9_byGap : MethodName := ⟨RX9, "byGap", "(II)Z"⟩
abbrev cX9_byClock : ByteArray := prog_11_method_25_code
def yX9_byClock : MethodName := ⟨RX9, "byClock", "(II)Z"⟩
abbrev cX9_isLed : ByteArray := prog_11_method_26_code
def yX9_isLed : MethodName := ⟨RX9, "isLed", "(II)Z"⟩
abbrev cX9_doesSpeak : ByteArray := prog_11_method_27_code
def yX9_doesSpeak : MethodName := ⟨RX9, "doesSpeak", "(II)Z"⟩
abbrev cX9_speaks : ByteArray := prog_11_method_28_code
def yX9_speaks : MethodName := ⟨RX9, "speaks", "(II)I"⟩
abbrev cX9_next : ByteArray := prog_11_method_29_code
def yX9_next : MethodName := ⟨RX9, "next", "(II)I"⟩
abbrev cX9_wordsOf : ByteArray := prog_11_method_30_code
def yX9_wordsOf : MethodName := ⟨RX9, "wordsOf", "(I)I"⟩
abbrev cX9_tellsNow : ByteArray := prog_11_method_31_code
def yX9_tellsNow : MethodName := ⟨RX9, "tellsNow", "(I)I"⟩
abbrev cX9_isSaid : ByteArray := prog_11_method_32_code
def yX9_isSaid : MethodName := ⟨RX9, "isSaid", "(II)Z"⟩
abbrev cX9_go : ByteArray := prog_11_method_33_code
def yX9_go : MethodName := ⟨RX9, "go", "(I)I"⟩
abbrev cX9_say : ByteArray := prog_11_method_34_code
def yX9_say : MethodName := ⟨RX9, "say", "(II)I"⟩
abbrev cX9_follows : ByteArray := prog_11_method_35_code
def yX9_follows : MethodName := ⟨RX9, "follows", "(I)I"⟩
abbrev cX9_wordOf : ByteArray := prog_11_method_36_code
def yX9_wordOf : MethodName := ⟨RX9, "wordOf", "(II)I"⟩
abbrev cX9_below : ByteArray := prog_11_method_37_code
def yX9_below : MethodName := ⟨RX9, "below", "(I)I"⟩
abbrev cX9_hoursOf : ByteArray := prog_11_method_38_code
def yX9_hoursOf : MethodName := ⟨RX9, "hoursOf", "(I)I"⟩
abbrev cX9_gapOf : ByteArray := prog_11_method_39_code
def yX9_gapOf : MethodName := ⟨RX9, "gapOf", "(IZ)I"⟩
abbrev cX9_followOf : ByteArray := prog_11_method_40_code
def yX9_followOf : MethodName := ⟨RX9, "followOf", "(IZ)I"⟩
abbrev cX9_signOf : ByteArray := prog_11_method_41_code
def yX9_signOf : MethodName := ⟨RX9, "signOf", "(II)I"⟩
abbrev cX9_sign : ByteArray := prog_11_method_42_code
def yX9_sign : MethodName := ⟨RX9, "sign", "(II)I"⟩
abbrev cX9_hours : ByteArray := prog_11_method_43_code
def yX9_hours : MethodName := ⟨RX9, "hours", "(I)I"⟩
abbrev cX9_feed : ByteArray := prog_11_method_44_code
def yX9_feed : MethodName := ⟨RX9, "feed", "(II)I"⟩
abbrev cX9_wipe : ByteArray := prog_11_method_45_code
def yX9_wipe : MethodName := ⟨RX9, "wipe", "()I"⟩
abbrev cX9_isDigit : ByteArray := prog_11_method_46_code
def yX9_isDigit : MethodName := ⟨RX9, "isDigit", "(I)Z"⟩
abbrev cX9_letterOf : ByteArray := prog_11_method_47_code
def yX9_letterOf : MethodName := ⟨RX9, "letterOf", "(I)I"⟩
abbrev cX9_next_ : ByteArray := prog_11_method_48_code
def yX9_next_ : MethodName := ⟨RX9, "next", "()V"⟩
abbrev cX9_isSign : ByteArray := prog_11_method_49_code
def yX9_isSign : MethodName := ⟨RX9, "isSign", "(I)Z"⟩
abbrev cX9_puts : ByteArray := prog_11_method_50_code
def yX9_puts : MethodName := ⟨RX9, "puts", "(I)V"⟩
abbrev cX9_whole : ByteArray := prog_11_method_51_code
def yX9_whole : MethodName := ⟨RX9, "whole", "()V"⟩
abbrev cX9_sum : ByteArray := prog_11_method_52_code
def yX9_sum : MethodName := ⟨RX9, "sum", "()V"⟩
abbrev cX9_term : ByteArray := prog_11_method_53_code
def yX9_term : MethodName := ⟨RX9, "term", "()V"⟩
abbrev cX9_one : ByteArray := prog_11_method_54_code
def yX9_one : MethodName := ⟨RX9, "one", "()V"⟩
abbrev cX9_text : ByteArray := prog_11_method_55_code
def yX9_text : MethodName := ⟨RX9, "text", "()I"⟩
abbrev cX9_joined : ByteArray := prog_11_method_56_code
def yX9_joined : MethodName := ⟨RX9, "joined", "(III)I"⟩
abbrev cX9_scoreOf : ByteArray := prog_11_method_57_code
def yX9_scoreOf : MethodName := ⟨RX9, "scoreOf", "(II)I"⟩
abbrev cX9_isText : ByteArray := prog_11_method_58_code
def yX9_isText : MethodName := ⟨RX9, "isText", "(I)Z"⟩
abbrev cX9_score : ByteArray := prog_11_method_59_code
def yX9_score : MethodName := ⟨RX9, "score", "(II)I"⟩
abbrev cX9_findScores : ByteArray := prog_11_method_60_code
def yX9_findScores : MethodName := ⟨RX9, "findScores", "(I)V"⟩
abbrev cX9_people : ByteArray := prog_11_method_61_code
def yX9_people : MethodName := ⟨RX9, "people", "()I"⟩
abbrev cX9_foundBy : ByteArray := prog_11_method_62_code
def yX9_foundBy : MethodName := ⟨RX9, "foundBy", "(I)I"⟩
abbrev cX9_found : ByteArray := prog_11_method_63_code
def yX9_found : MethodName := ⟨RX9, "found", "(III)I"⟩
abbrev cX9_line : ByteArray := prog_11_method_64_code
def yX9_line : MethodName := ⟨RX9, "line", "(IIII)I"⟩
abbrev cX9_shutAll : ByteArray := prog_11_method_65_code
def yX9_shutAll : MethodName := ⟨RX9, "shutAll", "(II)I"⟩
abbrev cX9_ask : ByteArray := prog_11_method_66_code
def yX9_ask : MethodName := ⟨RX9, "ask", "(II)I"⟩
abbrev cX9_howMany : ByteArray := prog_11_method_67_code
def yX9_howMany : MethodName := ⟨RX9, "howMany", "(I)I"⟩
abbrev cX9_asked : ByteArray := prog_11_method_68_code
def yX9_asked : MethodName := ⟨RX9, "asked", "(I)I"⟩
abbrev cX9_isNear : ByteArray := prog_11_method_69_code
def yX9_isNear : MethodName := ⟨RX9, "isNear", "(III)Z"⟩
abbrev cX9_togetherOf : ByteArray := prog_11_method_70_code
def yX9_togetherOf : MethodName := ⟨RX9, "togetherOf", "(III)I"⟩
abbrev cX9_areTwo : ByteArray := prog_11_method_71_code
def yX9_areTwo : MethodName := ⟨RX9, "areTwo", "(II)Z"⟩
abbrev cX9_together : ByteArray := prog_11_method_72_code
def yX9_together : MethodName := ⟨RX9, "together", "(III)I"⟩
abbrev cX9_findGroups : ByteArray := prog_11_method_73_code
def yX9_findGroups : MethodName := ⟨RX9, "findGroups", "(II)V"⟩
abbrev cX9_isGroup : ByteArray := prog_11_method_74_code
def yX9_isGroup : MethodName := ⟨RX9, "isGroup", "(II)Z"⟩
abbrev cX9_group : ByteArray := prog_11_method_75_code
def yX9_group : MethodName := ⟨RX9, "group", "(IIII)I"⟩
abbrev cX9_groups : ByteArray := prog_11_method_76_code
def yX9_groups : MethodName := ⟨RX9, "groups", "(II)I"⟩
abbrev cX9_club : ByteArray := prog_11_method_77_code
def yX9_club : MethodName := ⟨RX9, "club", "(II)I"⟩
abbrev cX9_apart : ByteArray := prog_11_method_78_code
def yX9_apart : MethodName := ⟨RX9, "apart", "(II)I"⟩
abbrev cX9_countOf : ByteArray := prog_11_method_79_code
def yX9_countOf : MethodName := ⟨RX9, "countOf", "(II)I"⟩
abbrev cX9_counts : ByteArray := prog_11_method_80_code
def yX9_counts : MethodName := ⟨RX9, "counts", "(II)I"⟩
abbrev cX9_most : ByteArray := prog_11_method_81_code
def yX9_most : MethodName := ⟨RX9, "most", "(I)I"⟩
abbrev cX9_first : ByteArray := prog_11_method_82_code
def yX9_first : MethodName := ⟨RX9, "first", "(I)I"⟩
abbrev cX9_many_ : ByteArray := prog_11_method_83_code
def yX9_many_ : MethodName := ⟨RX9, "many", "(II)I"⟩
abbrev cX9_sold : ByteArray := prog_11_method_84_code
def yX9_sold : MethodName := ⟨RX9, "sold", "(I)I"⟩
abbrev cX9_seed : ByteArray := prog_11_method_85_code
def yX9_seed : MethodName := ⟨RX9, "seed", "(I)I"⟩
abbrev cX9_sample : ByteArray := prog_11_method_86_code
def yX9_sample : MethodName := ⟨RX9, "sample", "(I)I"⟩
abbrev cX9_hold : ByteArray := prog_11_method_87_code
def yX9_hold : MethodName := ⟨RX9, "hold", "(II)I"⟩
abbrev cX9_above : ByteArray := prog_11_method_88_code
def yX9_above : MethodName := ⟨RX9, "above", "(I)I"⟩
abbrev cX9_as : ByteArray := prog_11_method_89_code
def yX9_as : MethodName := ⟨RX9, "as", "(II)I"⟩
abbrev cX9_isSheet : ByteArray := prog_11_method_90_code
def yX9_isSheet : MethodName := ⟨RX9, "isSheet", "(I)Z"⟩
abbrev cX9_sheet : ByteArray := prog_11_method_91_code
def yX9_sheet : MethodName := ⟨RX9, "sheet", "(III)I"⟩
abbrev cX9_write : ByteArray := prog_11_method_92_code
def yX9_write : MethodName := ⟨RX9, "write", "(III)I"⟩
abbrev cX9_copy : ByteArray := prog_11_method_93_code
def yX9_copy : MethodName := ⟨RX9, "copy", "(IIIII)I"⟩
abbrev cX9_load : ByteArray := prog_11_method_94_code
def yX9_load : MethodName := ⟨RX9, "load", "(I)I"⟩
abbrev cX9_judge : ByteArray := prog_11_method_95_code
def yX9_judge : MethodName := ⟨RX9, "judge", "(I)I"⟩
abbrev cX9_image : ByteArray := prog_11_method_96_code
def yX9_image : MethodName := ⟨RX9, "image", "()I"⟩
abbrev cX9_undo : ByteArray := prog_11_method_97_code
def yX9_undo : MethodName := ⟨RX9, "undo", "()I"⟩
abbrev cX9_tear : ByteArray := prog_11_method_98_code
def yX9_tear : MethodName := ⟨RX9, "tear", "()I"⟩
abbrev cX9_count : ByteArray := prog_11_method_99_code
def yX9_count : MethodName := ⟨RX9, "count", "(I)I"⟩
abbrev cX9_status : ByteArray := prog_11_method_100_code
def yX9_status : MethodName := ⟨RX9, "status", "(I)I"⟩
abbrev cJ11_isValidCodePoint_9a6ad : ByteArray := prog_12_method_11_code
def yJ11_isValidCodePoint_9a6ad : MethodName := ⟨RJ11, "isValidCodePoint", "(I)Z"⟩
abbrev cJ11_highSurrogate_5068e : ByteArray := prog_12_method_28_code
def yJ11_highSurrogate_5068e : MethodName := ⟨RJ11, "highSurrogate", "(I)C"⟩
abbrev cJ11_lowSurrogate_5068e : ByteArray := prog_12_method_29_code
def yJ11_lowSurrogate_5068e : MethodName := ⟨RJ11, "lowSurrogate", "(I)C"⟩
abbrev cJ6_bitCount_0f7a4 : ByteArray := prog_13_method_49_code
def yJ6_bitCount_0f7a4 : MethodName := ⟨RJ6, "bitCount", "(I)I"⟩
abbrev cJ9_abs_067f4 : ByteArray := prog_14_method_61_code
def yJ9_abs_067f4 : MethodName := ⟨RJ9, "abs", "(J)J"⟩
abbrev cJ9_max_7cf53 : ByteArray := prog_14_method_65_code
def yJ9_max_7cf53 : MethodName := ⟨RJ9, "max", "(II)I"⟩
abbrev cJ9_min_7cf53 : ByteArray := prog_14_method_69_code
def yJ9_min_7cf53 : MethodName := ⟨RJ9, "min", "(II)I"⟩
abbrev cJ0_length_8abf5 : ByteArray := prog_15_method_54_code
def yJ0_length_8abf5 : MethodName := ⟨RJ0, "length", "()I"⟩
abbrev cJ0_indexOf_0f7a4 : ByteArray := prog_15_method_79_code
def yJ0_indexOf_0f7a4 : MethodName := ⟨RJ0, "indexOf", "(I)I"⟩
abbrev cJ0_indexOf_7cf53 : ByteArray := prog_15_method_80_code
def yJ0_indexOf_7cf53 : MethodName := ⟨RJ0, "indexOf", "(II)I"⟩
abbrev cJ0_coder_7d493 : ByteArray := prog_15_method_152_code
def yJ0_coder_7d493 : MethodName := ⟨RJ0, "coder", "()B"⟩
abbrev cJ0_isLatin1_aae02 : ByteArray := prog_15_method_154_code
def yJ0_isLatin1_aae02 : MethodName := ⟨RJ0, "isLatin1", "()Z"⟩
abbrev cJ0_checkBoundsBeginEnd_23922 : ByteArray := prog_15_method_158_code
def yJ0_checkBoundsBeginEnd_23922 : MethodName := ⟨RJ0, "checkBoundsBeginEnd", "(III)V"⟩
abbrev cJ1_canEncode_9a6ad : ByteArray := prog_16_method_4_code
def yJ1_canEncode_9a6ad : MethodName := ⟨RJ1, "canEncode", "(I)Z"⟩
abbrev cJ1_indexOf_4cfef : ByteArray := prog_16_method_22_code
def yJ1_indexOf_4cfef : MethodName := ⟨RJ1, "indexOf", "([BIII)I"⟩
abbrev cJ1_indexOfChar_4cfef : ByteArray := prog_16_method_23_code
def yJ1_indexOfChar_4cfef : MethodName := ⟨RJ1, "indexOfChar", "([BIII)I"⟩
abbrev cJ2_getChar_3b067 : ByteArray := prog_17_method_5_code
def yJ2_getChar_3b067 : MethodName := ⟨RJ2, "getChar", "([BI)C"⟩
abbrev cJ2_length_9d52b : ByteArray := prog_17_method_6_code
def yJ2_length_9d52b : MethodName := ⟨RJ2, "length", "([B)I"⟩
abbrev cJ2_indexOf_4cfef : ByteArray := prog_17_method_40_code
def yJ2_indexOf_4cfef : MethodName := ⟨RJ2, "indexOf", "([BIII)I"⟩
abbrev cJ2_indexOfChar_4cfef : ByteArray := prog_17_method_47_code
def yJ2_indexOfChar_4cfef : MethodName := ⟨RJ2, "indexOfChar", "([BIII)I"⟩
abbrev cJ2_indexOfCharUnsafe_4cfef : ByteArray := prog_17_method_48_code
def yJ2_indexOfCharUnsafe_4cfef : MethodName := ⟨RJ2, "indexOfCharUnsafe", "([BIII)I"⟩
abbrev cJ2_indexOfSupplementary_4cfef : ByteArray := prog_17_method_49_code
def yJ2_indexOfSupplementary_4cfef : MethodName := ⟨RJ2, "indexOfSupplementary", "([BIII)I"⟩
abbrev cJ2_checkBoundsBeginEnd_d044e : ByteArray := prog_17_method_93_code
def yJ2_checkBoundsBeginEnd_d044e : MethodName := ⟨RJ2, "checkBoundsBeginEnd", "(II[B)V"⟩
abbrev cJ3_checkFromToIndex_8c36e : ByteArray := prog_19_method_12_code
def yJ3_checkFromToIndex_8c36e : MethodName := ⟨RJ3, "checkFromToIndex", "(IIILjava/util/function/BiFunction;)I"⟩
abbrev cL_law : ByteArray := code
def yL_law : MethodName := ⟨RL, "law", "([I)Z"⟩
end
section
theorem dX0_init_0 : decode cX0_init 0 = .ok (.aload_n 0, 1) := by decide +kernel
theorem dX0_init_1 : decode cX0_init 1 = .ok (.invokespecial 3, 3) := by decide +kernel
theorem dX0_init_4 : decode cX0_init 4 = .ok (.aload_n 0, 1) := by decide +kernel
theorem dX0_init_5 : decode cX0_init 5 = .ok (.sipush 200, 3) := by decide +kernel
theorem dX0_init_8 : decode cX0_init 8 = .ok (.newarray .int, 2) := by decide +kernel
theorem dX0_init_10 : decode cX0_init 10 = .ok (.putfield 9, 3) := by decide +kernel
theorem dX0_init_13 : decode cX0_init 13 = .ok (.aload_n 0, 1) := by decide +kernel
theorem dX0_init_14 : decode cX0_init 14 = .ok (.sipush 200, 3) := by decide +kernel
theorem dX0_init_17 : decode cX0_init 17 = .ok (.newarray .int, 2) := by decide +kernel
theorem dX0_init_19 : decode cX0_init 19 = .ok (.putfield 15, 3) := by decide +kernel
theorem dX0_init_22 : decode cX0_init 22 = .ok (.aload_n 0, 1) := by decide +kernel
theorem dX0_init_23 : decode cX0_init 23 = .ok (.sipush 200, 3) := by decide +kernel
theorem dX0_init_26 : decode cX0_init 26 = .ok (.newarray .int, 2) := by decide +kernel
theorem dX0_init_28 : decode cX0_init 28 = .ok (.putfield 18, 3) := by decide +kernel
theorem dX0_init_31 : decode cX0_init 31 = .ok (.aload_n 0, 1) := by decide +kernel
theorem dX0_init_32 : decode cX0_init 32 = .ok (.sipush 200, 3) := by decide +kernel
theorem dX0_init_35 : decode cX0_init 35 = .ok (.newarray .int, 2) := by decide +kernel
theorem dX0_init_37 : decode cX0_init 37 = .ok (.putfield 21, 3) := by decide +kernel
theorem dX0_init_40 : decode cX0_init 40 = .ok (.aload_n 0, 1) := by decide +kernel
theorem dX0_init_41 : decode cX0_init 41 = .ok (.sipush 200, 3) := by decide +kernel
theorem dX0_init_44 : decode cX0_init 44 = .ok (.newarray .boolean, 2) := by decide +kernel
theorem dX0_init_46 : decode cX0_init 46 = .ok (.putfield 24, 3) := by decide +kernel
theorem dX0_init_49 : decode cX0_init 49 = .ok (.return_, 1) := by decide +kernel
theorem dX0_has_0 : decode cX0_has 0 = .ok (.iload_n 1, 1) := by decide +kernel
theorem dX0_has_1 : decode cX0_has 1 = .ok (.iconst 0, 1) := by decide +kernel
theorem dX0_has_2 : decode cX0_has 2 = .ok (.aload_n 0, 1) := by decide +kernel
theorem dX0_has_3 : decode cX0_has 3 = .ok (.getfield 28, 3) := by decide +kernel
theorem dX0_has_6 : decode cX0_has 6 = .ok (.iconst 1, 1) := by decide +kernel
theorem dX0_has_7 : decode cX0_has 7 = .ok (.isub, 1) := by decide +kernel
theorem dX0_has_8 : decode cX0_has 8 = .ok (.invokestatic 32, 3) := by decide +kernel
theorem dX0_has_11 : decode cX0_has 11 = .ok (.ireturn, 1) := by decide +kernel
theorem dX0_isFull_0 : decode cX0_isFull 0 = .ok (.aload_n 0, 1) := by decide +kernel
theorem dX0_isFull_1 : decode cX0_isFull 1 = .ok (.getfield 28, 3) := by decide +kernel
theorem dX0_isFull_4 : decode cX0_isFull 4 = .ok (.sipush 200, 3) := by decide +kernel
theorem dX0_isFull_7 : decode cX0_isFull 7 = .ok (.if_icmp .lt 7, 3) := by decide +kernel
theorem dX0_isFull_10 : decode cX0_isFull 10 = .ok (.iconst 1, 1) := by decide +kernel
theorem dX0_isFull_11 : decode cX0_isFull 11 = .ok (.goto 4, 3) := by decide +kernel
theorem dX0_isFull_14 : decode cX0_isFull 14 = .ok (.iconst 0, 1) := by decide +kernel
theorem dX0_isFull_15 : decode cX0_isFull 15 = .ok (.ireturn, 1) := by decide +kernel
theorem dX0_add_0 : decode cX0_add 0 = .ok (.aload_n 0, 1) := by decide +kernel
theorem dX0_add_1 : decode cX0_add 1 = .ok (.getfield 9, 3) := by decide +kernel
theorem dX0_add_4 : decode cX0_add 4 = .ok (.aload_n 0, 1) := by decide +kernel
theorem dX0_add_5 : decode cX0_add 5 = .ok (.getfield 28, 3) := by decide +kernel
theorem dX0_add_8 : decode cX0_add 8 = .ok (.aload_n 0, 1) := by decide +kernel
theorem dX0_add_9 : decode cX0_add 9 = .ok (.getfield 36, 3) := by decide +kernel
theorem dX0_add_12 : decode cX0_add 12 = .ok (.iastore, 1) := by decide +kernel
theorem dX0_add_13 : decode cX0_add 13 = .ok (.aload_n 0, 1) := by decide +kernel
theorem dX0_add_14 : decode cX0_add 14 = .ok (.getfield 15, 3) := by decide +kernel
theorem dX0_add_17 : decode cX0_add 17 = .ok (.aload_n 0, 1) := by decide +kernel
theorem dX0_add_18 : decode cX0_add 18 = .ok (.getfield 28, 3) := by decide +kernel
theorem dX0_add_21 : decode cX0_add 21 = .ok (.iload_n 1, 1) := by decide +kernel
theorem dX0_add_22 : decode cX0_add 22 = .ok (.iastore, 1) := by decide +kernel
theorem dX0_add_23 : decode cX0_add 23 = .ok (.aload_n 0, 1) := by decide +kernel
theorem dX0_add_24 : decode cX0_add 24 = .ok (.getfield 18, 3) := by decide +kernel
theorem dX0_add_27 : decode cX0_add 27 = .ok (.aload_n 0, 1) := by decide +kernel
theorem dX0_add_28 : decode cX0_add 28 = .ok (.getfield 28, 3) := by decide +kernel
theorem dX0_add_31 : decode cX0_add 31 = .ok (.iload_n 2, 1) := by decide +kernel
theorem dX0_add_32 : decode cX0_add 32 = .ok (.iastore, 1) := by decide +kernel
theorem dX0_add_33 : decode cX0_add 33 = .ok (.aload_n 0, 1) := by decide +kernel
theorem dX0_add_34 : decode cX0_add 34 = .ok (.getfield 21, 3) := by decide +kernel
theorem dX0_add_37 : decode cX0_add 37 = .ok (.aload_n 0, 1) := by decide +kernel
theorem dX0_add_38 : decode cX0_add 38 = .ok (.getfield 28, 3) := by decide +kernel
theorem dX0_add_41 : decode cX0_add 41 = .ok (.aload_n 0, 1) := by decide +kernel
theorem dX0_add_42 : decode cX0_add 42 = .ok (.iload_n 1, 1) := by decide +kernel
theorem dX0_add_43 : decode cX0_add 43 = .ok (.invokevirtual 39, 3) := by decide +kernel
theorem dX0_add_46 : decode cX0_add 46 = .ok (.iastore, 1) := by decide +kernel
theorem dX0_add_47 : decode cX0_add 47 = .ok (.aload_n 0, 1) := by decide +kernel
theorem dX0_add_48 : decode cX0_add 48 = .ok (.dup, 1) := by decide +kernel
theorem dX0_add_49 : decode cX0_add 49 = .ok (.getfield 28, 3) := by decide +kernel
theorem dX0_add_52 : decode cX0_add 52 = .ok (.iconst 1, 1) := by decide +kernel
theorem dX0_add_53 : decode cX0_add 53 = .ok (.iadd, 1) := by decide +kernel
theorem dX0_add_54 : decode cX0_add 54 = .ok (.putfield 28, 3) := by decide +kernel
theorem dX0_add_57 : decode cX0_add 57 = .ok (.aload_n 0, 1) := by decide +kernel
theorem dX0_add_58 : decode cX0_add 58 = .ok (.getfield 28, 3) := by decide +kernel
theorem dX0_add_61 : decode cX0_add 61 = .ok (.iconst 1, 1) := by decide +kernel
theorem dX0_add_62 : decode cX0_add 62 = .ok (.isub, 1) := by decide +kernel
theorem dX0_add_63 : decode cX0_add 63 = .ok (.ireturn, 1) := by decide +kernel
theorem dX0_wordAhead_0 : decode cX0_wordAhead 0 = .ok (.aload_n 0, 1) := by decide +kernel
theorem dX0_wordAhead_1 : decode cX0_wordAhead 1 = .ok (.getfield 28, 3) := by decide +kernel
theorem dX0_wordAhead_4 : decode cX0_wordAhead 4 = .ok (.iconst 1, 1) := by decide +kernel
theorem dX0_wordAhead_5 : decode cX0_wordAhead 5 = .ok (.isub, 1) := by decide +kernel
theorem dX0_wordAhead_6 : decode cX0_wordAhead 6 = .ok (.istore_n 2, 1) := by decide +kernel
theorem dX0_wordAhead_7 : decode cX0_wordAhead 7 = .ok (.iload_n 2, 1) := by decide +kernel
theorem dX0_wordAhead_8 : decode cX0_wordAhead 8 = .ok (.ifCond .lt 50, 3) := by decide +kernel
theorem dX0_wordAhead_11 : decode cX0_wordAhead 11 = .ok (.aload_n 0, 1) := by decide +kernel
theorem dX0_wordAhead_12 : decode cX0_wordAhead 12 = .ok (.getfield 36, 3) := by decide +kernel
theorem dX0_wordAhead_15 : decode cX0_wordAhead 15 = .ok (.aload_n 0, 1) := by decide +kernel
theorem dX0_wordAhead_16 : decode cX0_wordAhead 16 = .ok (.getfield 9, 3) := by decide +kernel
theorem dX0_wordAhead_19 : decode cX0_wordAhead 19 = .ok (.iload_n 2, 1) := by decide +kernel
theorem dX0_wordAhead_20 : decode cX0_wordAhead 20 = .ok (.iaload, 1) := by decide +kernel
theorem dX0_wordAhead_21 : decode cX0_wordAhead 21 = .ok (.isub, 1) := by decide +kernel
theorem dX0_wordAhead_22 : decode cX0_wordAhead 22 = .ok (.bipush 9, 2) := by decide +kernel
theorem dX0_wordAhead_24 : decode cX0_wordAhead 24 = .ok (.if_icmp .gt 34, 3) := by decide +kernel
theorem dX0_wordAhead_27 : decode cX0_wordAhead 27 = .ok (.aload_n 0, 1) := by decide +kernel
theorem dX0_wordAhead_28 : decode cX0_wordAhead 28 = .ok (.getfield 9, 3) := by decide +kernel
theorem dX0_wordAhead_31 : decode cX0_wordAhead 31 = .ok (.iload_n 2, 1) := by decide +kernel
theorem dX0_wordAhead_32 : decode cX0_wordAhead 32 = .ok (.iaload, 1) := by decide +kernel
theorem dX0_wordAhead_33 : decode cX0_wordAhead 33 = .ok (.aload_n 0, 1) := by decide +kernel
theorem dX0_wordAhead_34 : decode cX0_wordAhead 34 = .ok (.getfield 36, 3) := by decide +kernel
theorem dX0_wordAhead_37 : decode cX0_wordAhead 37 = .ok (.if_icmp .ge 15, 3) := by decide +kernel
theorem dX0_wordAhead_40 : decode cX0_wordAhead 40 = .ok (.aload_n 0, 1) := by decide +kernel
theorem dX0_wordAhead_41 : decode cX0_wordAhead 41 = .ok (.getfield 15, 3) := by decide +kernel
theorem dX0_wordAhead_44 : decode cX0_wordAhead 44 = .ok (.iload_n 2, 1) := by decide +kernel
theorem dX0_wordAhead_45 : decode cX0_wordAhead 45 = .ok (.iaload, 1) := by decide +kernel
theorem dX0_wordAhead_46 : decode cX0_wordAhead 46 = .ok (.iload_n 1, 1) := by decide +kernel
theorem dX0_wordAhead_47 : decode cX0_wordAhead 47 = .ok (.if_icmp .eq 5, 3) := by decide +kernel
theorem dX0_wordAhead_50 : decode cX0_wordAhead 50 = .ok (.iload_n 2, 1) := by decide +kernel
theorem dX0_wordAhead_51 : decode cX0_wordAhead 51 = .ok (.ireturn, 1) := by decide +kernel
theorem dX0_wordAhead_52 : decode cX0_wordAhead 52 = .ok (.iinc 2 (-1), 3) := by decide +kernel
theorem dX0_wordAhead_55 : decode cX0_wordAhead 55 = .ok (.goto (-48), 3) := by decide +kernel
theorem dX0_wordAhead_58 : decode cX0_wordAhead 58 = .ok (.iconst (-1), 1) := by decide +kernel
theorem dX0_wordAhead_59 : decode cX0_wordAhead 59 = .ok (.ireturn, 1) := by decide +kernel
theorem dX0_countBelow_0 : decode cX0_countBelow 0 = .ok (.iconst 0, 1) := by decide +kernel
theorem dX0_countBelow_1 : decode cX0_countBelow 1 = .ok (.istore_n 2, 1) := by decide +kernel
theorem dX0_countBelow_2 : decode cX0_countBelow 2 = .ok (.iload_n 1, 1) := by decide +kernel
theorem dX0_countBelow_3 : decode cX0_countBelow 3 = .ok (.iconst 1, 1) := by decide +kernel
theorem dX0_countBelow_4 : decode cX0_countBelow 4 = .ok (.iadd, 1) := by decide +kernel
theorem dX0_countBelow_5 : decode cX0_countBelow 5 = .ok (.istore_n 3, 1) := by decide +kernel
theorem dX0_countBelow_6 : decode cX0_countBelow 6 = .ok (.iload_n 3, 1) := by decide +kernel
theorem dX0_countBelow_7 : decode cX0_countBelow 7 = .ok (.aload_n 0, 1) := by decide +kernel
theorem dX0_countBelow_8 : decode cX0_countBelow 8 = .ok (.getfield 28, 3) := by decide +kernel
theorem dX0_countBelow_11 : decode cX0_countBelow 11 = .ok (.if_icmp .ge 62, 3) := by decide +kernel
theorem dX0_countBelow_14 : decode cX0_countBelow 14 = .ok (.aload_n 0, 1) := by decide +kernel
theorem dX0_countBelow_15 : decode cX0_countBelow 15 = .ok (.getfield 21, 3) := by decide +kernel
theorem dX0_countBelow_18 : decode cX0_countBelow 18 = .ok (.iload_n 3, 1) := by decide +kernel
theorem dX0_countBelow_19 : decode cX0_countBelow 19 = .ok (.iaload, 1) := by decide +kernel
theorem dX0_countBelow_20 : decode cX0_countBelow 20 = .ok (.istore 4, 2) := by decide +kernel
theorem dX0_countBelow_22 : decode cX0_countBelow 22 = .ok (.aload_n 0, 1) := by decide +kernel
theorem dX0_countBelow_23 : decode cX0_countBelow 23 = .ok (.getfield 24, 3) := by decide +kernel
theorem dX0_countBelow_26 : decode cX0_countBelow 26 = .ok (.iload_n 3, 1) := by decide +kernel
theorem dX0_countBelow_27 : decode cX0_countBelow 27 = .ok (.iload 4, 2) := by decide +kernel
theorem dX0_countBelow_29 : decode cX0_countBelow 29 = .ok (.iload_n 1, 1) := by decide +kernel
theorem dX0_countBelow_30 : decode cX0_countBelow 30 = .ok (.if_icmp .eq 19, 3) := by decide +kernel
theorem dX0_countBelow_33 : decode cX0_countBelow 33 = .ok (.iload 4, 2) := by decide +kernel
theorem dX0_countBelow_35 : decode cX0_countBelow 35 = .ok (.iload_n 1, 1) := by decide +kernel
theorem dX0_countBelow_36 : decode cX0_countBelow 36 = .ok (.if_icmp .le 17, 3) := by decide +kernel
theorem dX0_countBelow_39 : decode cX0_countBelow 39 = .ok (.aload_n 0, 1) := by decide +kernel
theorem dX0_countBelow_40 : decode cX0_countBelow 40 = .ok (.getfield 24, 3) := by decide +kernel
theorem dX0_countBelow_43 : decode cX0_countBelow 43 = .ok (.iload 4, 2) := by decide +kernel
theorem dX0_countBelow_45 : decode cX0_countBelow 45 = .ok (.baload, 1) := by decide +kernel
theorem dX0_countBelow_46 : decode cX0_countBelow 46 = .ok (.ifCond .eq 7, 3) := by decide +kernel
theorem dX0_countBelow_49 : decode cX0_countBelow 49 = .ok (.iconst 1, 1) := by decide +kernel
theorem dX0_countBelow_50 : decode cX0_countBelow 50 = .ok (.goto 4, 3) := by decide +kernel
theorem dX0_countBelow_53 : decode cX0_countBelow 53 = .ok (.iconst 0, 1) := by decide +kernel
theorem dX0_countBelow_54 : decode cX0_countBelow 54 = .ok (.bastore, 1) := by decide +kernel
theorem dX0_countBelow_55 : decode cX0_countBelow 55 = .ok (.iload_n 2, 1) := by decide +kernel
theorem dX0_countBelow_56 : decode cX0_countBelow 56 = .ok (.aload_n 0, 1) := by decide +kernel
theorem dX0_countBelow_57 : decode cX0_countBelow 57 = .ok (.getfield 24, 3) := by decide +kernel
theorem dX0_countBelow_60 : decode cX0_countBelow 60 = .ok (.iload_n 3, 1) := by decide +kernel
theorem dX0_countBelow_61 : decode cX0_countBelow 61 = .ok (.baload, 1) := by decide +kernel
theorem dX0_countBelow_62 : decode cX0_countBelow 62 = .ok (.invokestatic 43, 3) := by decide +kernel
theorem dX0_countBelow_65 : decode cX0_countBelow 65 = .ok (.iadd, 1) := by decide +kernel
theorem dX0_countBelow_66 : decode cX0_countBelow 66 = .ok (.istore_n 2, 1) := by decide +kernel
theorem dX0_countBelow_67 : decode cX0_countBelow 67 = .ok (.iinc 3 1, 3) := by decide +kernel
theorem dX0_countBelow_70 : decode cX0_countBelow 70 = .ok (.goto (-64), 3) := by decide +kernel
theorem dX0_countBelow_73 : decode cX0_countBelow 73 = .ok (.iload_n 2, 1) := by decide +kernel
theorem dX0_countBelow_74 : decode cX0_countBelow 74 = .ok (.ireturn, 1) := by decide +kernel
theorem dX0_countOf_0 : decode cX0_countOf 0 = .ok (.iconst 0, 1) := by decide +kernel
theorem dX0_countOf_1 : decode cX0_countOf 1 = .ok (.istore_n 2, 1) := by decide +kernel
theorem dX0_countOf_2 : decode cX0_countOf 2 = .ok (.iconst 0, 1) := by decide +kernel
theorem dX0_countOf_3 : decode cX0_countOf 3 = .ok (.istore_n 3, 1) := by decide +kernel
theorem dX0_countOf_4 : decode cX0_countOf 4 = .ok (.iload_n 3, 1) := by decide +kernel
theorem dX0_countOf_5 : decode cX0_countOf 5 = .ok (.aload_n 0, 1) := by decide +kernel
theorem dX0_countOf_6 : decode cX0_countOf 6 = .ok (.getfield 28, 3) := by decide +kernel
theorem dX0_countOf_9 : decode cX0_countOf 9 = .ok (.if_icmp .ge 30, 3) := by decide +kernel
theorem dX0_countOf_12 : decode cX0_countOf 12 = .ok (.iload_n 2, 1) := by decide +kernel
theorem dX0_countOf_13 : decode cX0_countOf 13 = .ok (.aload_n 0, 1) := by decide +kernel
theorem dX0_countOf_14 : decode cX0_countOf 14 = .ok (.getfield 15, 3) := by decide +kernel
theorem dX0_countOf_17 : decode cX0_countOf 17 = .ok (.iload_n 3, 1) := by decide +kernel
theorem dX0_countOf_18 : decode cX0_countOf 18 = .ok (.iaload, 1) := by decide +kernel
theorem dX0_countOf_19 : decode cX0_countOf 19 = .ok (.iload_n 1, 1) := by decide +kernel
theorem dX0_countOf_20 : decode cX0_countOf 20 = .ok (.if_icmp .ne 7, 3) := by decide +kernel
theorem dX0_countOf_23 : decode cX0_countOf 23 = .ok (.iconst 1, 1) := by decide +kernel
theorem dX0_countOf_24 : decode cX0_countOf 24 = .ok (.goto 4, 3) := by decide +kernel
theorem dX0_countOf_27 : decode cX0_countOf 27 = .ok (.iconst 0, 1) := by decide +kernel
theorem dX0_countOf_28 : decode cX0_countOf 28 = .ok (.invokestatic 43, 3) := by decide +kernel
theorem dX0_countOf_31 : decode cX0_countOf 31 = .ok (.iadd, 1) := by decide +kernel
theorem dX0_countOf_32 : decode cX0_countOf 32 = .ok (.istore_n 2, 1) := by decide +kernel
theorem dX0_countOf_33 : decode cX0_countOf 33 = .ok (.iinc 3 1, 3) := by decide +kernel
theorem dX0_countOf_36 : decode cX0_countOf 36 = .ok (.goto (-32), 3) := by decide +kernel
theorem dX0_countOf_39 : decode cX0_countOf 39 = .ok (.iload_n 2, 1) := by decide +kernel
theorem dX0_countOf_40 : decode cX0_countOf 40 = .ok (.ireturn, 1) := by decide +kernel
theorem dX0_latestOf_0 : decode cX0_latestOf 0 = .ok (.aload_n 0, 1) := by decide +kernel
theorem dX0_latestOf_1 : decode cX0_latestOf 1 = .ok (.getfield 28, 3) := by decide +kernel
theorem dX0_latestOf_4 : decode cX0_latestOf 4 = .ok (.iconst 1, 1) := by decide +kernel
theorem dX0_latestOf_5 : decode cX0_latestOf 5 = .ok (.isub, 1) := by decide +kernel
theorem dX0_latestOf_6 : decode cX0_latestOf 6 = .ok (.istore_n 2, 1) := by decide +kernel
theorem dX0_latestOf_7 : decode cX0_latestOf 7 = .ok (.iload_n 2, 1) := by decide +kernel
theorem dX0_latestOf_8 : decode cX0_latestOf 8 = .ok (.ifCond .lt 19, 3) := by decide +kernel
theorem dX0_latestOf_11 : decode cX0_latestOf 11 = .ok (.aload_n 0, 1) := by decide +kernel
theorem dX0_latestOf_12 : decode cX0_latestOf 12 = .ok (.getfield 15, 3) := by decide +kernel
theorem dX0_latestOf_15 : decode cX0_latestOf 15 = .ok (.iload_n 2, 1) := by decide +kernel
theorem dX0_latestOf_16 : decode cX0_latestOf 16 = .ok (.iaload, 1) := by decide +kernel
theorem dX0_latestOf_17 : decode cX0_latestOf 17 = .ok (.iload_n 1, 1) := by decide +kernel
theorem dX0_latestOf_18 : decode cX0_latestOf 18 = .ok (.if_icmp .eq 9, 3) := by decide +kernel
theorem dX0_latestOf_21 : decode cX0_latestOf 21 = .ok (.iinc 2 (-1), 3) := by decide +kernel
theorem dX0_latestOf_24 : decode cX0_latestOf 24 = .ok (.goto (-17), 3) := by decide +kernel
theorem dX0_latestOf_27 : decode cX0_latestOf 27 = .ok (.iload_n 2, 1) := by decide +kernel
theorem dX0_latestOf_28 : decode cX0_latestOf 28 = .ok (.ireturn, 1) := by decide +kernel
theorem dX0_hourSet_0 : decode cX0_hourSet 0 = .ok (.iconst 0, 1) := by decide +kernel
theorem dX0_hourSet_1 : decode cX0_hourSet 1 = .ok (.istore_n 2, 1) := by decide +kernel
theorem dX0_hourSet_2 : decode cX0_hourSet 2 = .ok (.iconst 0, 1) := by decide +kernel
theorem dX0_hourSet_3 : decode cX0_hourSet 3 = .ok (.istore_n 3, 1) := by decide +kernel
theorem dX0_hourSet_4 : decode cX0_hourSet 4 = .ok (.iload_n 3, 1) := by decide +kernel
theorem dX0_hourSet_5 : decode cX0_hourSet 5 = .ok (.aload_n 0, 1) := by decide +kernel
theorem dX0_hourSet_6 : decode cX0_hourSet 6 = .ok (.getfield 28, 3) := by decide +kernel
theorem dX0_hourSet_9 : decode cX0_hourSet 9 = .ok (.if_icmp .ge 33, 3) := by decide +kernel
theorem dX0_hourSet_12 : decode cX0_hourSet 12 = .ok (.aload_n 0, 1) := by decide +kernel
theorem dX0_hourSet_13 : decode cX0_hourSet 13 = .ok (.getfield 15, 3) := by decide +kernel
theorem dX0_hourSet_16 : decode cX0_hourSet 16 = .ok (.iload_n 3, 1) := by decide +kernel
theorem dX0_hourSet_17 : decode cX0_hourSet 17 = .ok (.iaload, 1) := by decide +kernel
theorem dX0_hourSet_18 : decode cX0_hourSet 18 = .ok (.iload_n 1, 1) := by decide +kernel
theorem dX0_hourSet_19 : decode cX0_hourSet 19 = .ok (.if_icmp .ne 17, 3) := by decide +kernel
theorem dX0_hourSet_22 : decode cX0_hourSet 22 = .ok (.iload_n 2, 1) := by decide +kernel
theorem dX0_hourSet_23 : decode cX0_hourSet 23 = .ok (.iconst 1, 1) := by decide +kernel
theorem dX0_hourSet_24 : decode cX0_hourSet 24 = .ok (.aload_n 0, 1) := by decide +kernel
theorem dX0_hourSet_25 : decode cX0_hourSet 25 = .ok (.getfield 9, 3) := by decide +kernel
theorem dX0_hourSet_28 : decode cX0_hourSet 28 = .ok (.iload_n 3, 1) := by decide +kernel
theorem dX0_hourSet_29 : decode cX0_hourSet 29 = .ok (.iaload, 1) := by decide +kernel
theorem dX0_hourSet_30 : decode cX0_hourSet 30 = .ok (.invokestatic 47, 3) := by decide +kernel
theorem dX0_hourSet_33 : decode cX0_hourSet 33 = .ok (.ishl, 1) := by decide +kernel
theorem dX0_hourSet_34 : decode cX0_hourSet 34 = .ok (.ior, 1) := by decide +kernel
theorem dX0_hourSet_35 : decode cX0_hourSet 35 = .ok (.istore_n 2, 1) := by decide +kernel
theorem dX0_hourSet_36 : decode cX0_hourSet 36 = .ok (.iinc 3 1, 3) := by decide +kernel
theorem dX0_hourSet_39 : decode cX0_hourSet 39 = .ok (.goto (-35), 3) := by decide +kernel
theorem dX0_hourSet_42 : decode cX0_hourSet 42 = .ok (.iload_n 2, 1) := by decide +kernel
theorem dX0_hourSet_43 : decode cX0_hourSet 43 = .ok (.ireturn, 1) := by decide +kernel
theorem dX0_firstTelling_0 : decode cX0_firstTelling 0 = .ok (.iconst 0, 1) := by decide +kernel
theorem dX0_firstTelling_1 : decode cX0_firstTelling 1 = .ok (.istore_n 2, 1) := by decide +kernel
theorem dX0_firstTelling_2 : decode cX0_firstTelling 2 = .ok (.iload_n 2, 1) := by decide +kernel
theorem dX0_firstTelling_3 : decode cX0_firstTelling 3 = .ok (.aload_n 0, 1) := by decide +kernel
theorem dX0_firstTelling_4 : decode cX0_firstTelling 4 = .ok (.getfield 28, 3) := by decide +kernel
theorem dX0_firstTelling_7 : decode cX0_firstTelling 7 = .ok (.if_icmp .ge 21, 3) := by decide +kernel
theorem dX0_firstTelling_10 : decode cX0_firstTelling 10 = .ok (.aload_n 0, 1) := by decide +kernel
theorem dX0_firstTelling_11 : decode cX0_firstTelling 11 = .ok (.getfield 18, 3) := by decide +kernel
theorem dX0_firstTelling_14 : decode cX0_firstTelling 14 = .ok (.iload_n 2, 1) := by decide +kernel
theorem dX0_firstTelling_15 : decode cX0_firstTelling 15 = .ok (.iaload, 1) := by decide +kernel
theorem dX0_firstTelling_16 : decode cX0_firstTelling 16 = .ok (.iload_n 1, 1) := by decide +kernel
theorem dX0_firstTelling_17 : decode cX0_firstTelling 17 = .ok (.if_icmp .ne 5, 3) := by decide +kernel
theorem dX0_firstTelling_20 : decode cX0_firstTelling 20 = .ok (.iload_n 2, 1) := by decide +kernel
theorem dX0_firstTelling_21 : decode cX0_firstTelling 21 = .ok (.ireturn, 1) := by decide +kernel
theorem dX0_firstTelling_22 : decode cX0_firstTelling 22 = .ok (.iinc 2 1, 3) := by decide +kernel
theorem dX0_firstTelling_25 : decode cX0_firstTelling 25 = .ok (.goto (-23), 3) := by decide +kernel
theorem dX0_firstTelling_28 : decode cX0_firstTelling 28 = .ok (.iconst (-1), 1) := by decide +kernel
theorem dX0_firstTelling_29 : decode cX0_firstTelling 29 = .ok (.ireturn, 1) := by decide +kernel
theorem dX0_countTelling_0 : decode cX0_countTelling 0 = .ok (.iconst 0, 1) := by decide +kernel
theorem dX0_countTelling_1 : decode cX0_countTelling 1 = .ok (.istore_n 3, 1) := by decide +kernel
theorem dX0_countTelling_2 : decode cX0_countTelling 2 = .ok (.iconst 0, 1) := by decide +kernel
theorem dX0_countTelling_3 : decode cX0_countTelling 3 = .ok (.istore 4, 2) := by decide +kernel
theorem dX0_countTelling_5 : decode cX0_countTelling 5 = .ok (.iload 4, 2) := by decide +kernel
theorem dX0_countTelling_7 : decode cX0_countTelling 7 = .ok (.aload_n 0, 1) := by decide +kernel
theorem dX0_countTelling_8 : decode cX0_countTelling 8 = .ok (.getfield 28, 3) := by decide +kernel
theorem dX0_countTelling_11 : decode cX0_countTelling 11 = .ok (.if_icmp .ge 62, 3) := by decide +kernel
theorem dX0_countTelling_14 : decode cX0_countTelling 14 = .ok (.iload_n 1, 1) := by decide +kernel
theorem dX0_countTelling_15 : decode cX0_countTelling 15 = .ok (.iconst (-1), 1) := by decide +kernel
theorem dX0_countTelling_16 : decode cX0_countTelling 16 = .ok (.if_icmp .eq 14, 3) := by decide +kernel
theorem dX0_countTelling_19 : decode cX0_countTelling 19 = .ok (.aload_n 0, 1) := by decide +kernel
theorem dX0_countTelling_20 : decode cX0_countTelling 20 = .ok (.getfield 18, 3) := by decide +kernel
theorem dX0_countTelling_23 : decode cX0_countTelling 23 = .ok (.iload 4, 2) := by decide +kernel
theorem dX0_countTelling_25 : decode cX0_countTelling 25 = .ok (.iaload, 1) := by decide +kernel
theorem dX0_countTelling_26 : decode cX0_countTelling 26 = .ok (.iload_n 1, 1) := by decide +kernel
theorem dX0_countTelling_27 : decode cX0_countTelling 27 = .ok (.if_icmp .ne 7, 3) := by decide +kernel
theorem dX0_countTelling_30 : decode cX0_countTelling 30 = .ok (.iconst 1, 1) := by decide +kernel
theorem dX0_countTelling_31 : decode cX0_countTelling 31 = .ok (.goto 4, 3) := by decide +kernel
theorem dX0_countTelling_34 : decode cX0_countTelling 34 = .ok (.iconst 0, 1) := by decide +kernel
theorem dX0_countTelling_35 : decode cX0_countTelling 35 = .ok (.istore 5, 2) := by decide +kernel
theorem dX0_countTelling_37 : decode cX0_countTelling 37 = .ok (.iload_n 3, 1) := by decide +kernel
theorem dX0_countTelling_38 : decode cX0_countTelling 38 = .ok (.iload 5, 2) := by decide +kernel
theorem dX0_countTelling_40 : decode cX0_countTelling 40 = .ok (.ifCond .eq 21, 3) := by decide +kernel
theorem dX0_countTelling_43 : decode cX0_countTelling 43 = .ok (.iload_n 2, 1) := by decide +kernel
theorem dX0_countTelling_44 : decode cX0_countTelling 44 = .ok (.aload_n 0, 1) := by decide +kernel
theorem dX0_countTelling_45 : decode cX0_countTelling 45 = .ok (.getfield 15, 3) := by decide +kernel
theorem dX0_countTelling_48 : decode cX0_countTelling 48 = .ok (.iload 4, 2) := by decide +kernel
theorem dX0_countTelling_50 : decode cX0_countTelling 50 = .ok (.iaload, 1) := by decide +kernel
theorem dX0_countTelling_51 : decode cX0_countTelling 51 = .ok (.invokestatic 50, 3) := by decide +kernel
theorem dX0_countTelling_54 : decode cX0_countTelling 54 = .ok (.ifCond .ne 7, 3) := by decide +kernel
theorem dX0_countTelling_57 : decode cX0_countTelling 57 = .ok (.iconst 1, 1) := by decide +kernel
theorem dX0_countTelling_58 : decode cX0_countTelling 58 = .ok (.goto 4, 3) := by decide +kernel
theorem dX0_countTelling_61 : decode cX0_countTelling 61 = .ok (.iconst 0, 1) := by decide +kernel
theorem dX0_countTelling_62 : decode cX0_countTelling 62 = .ok (.invokestatic 43, 3) := by decide +kernel
theorem dX0_countTelling_65 : decode cX0_countTelling 65 = .ok (.iadd, 1) := by decide +kernel
theorem dX0_countTelling_66 : decode cX0_countTelling 66 = .ok (.istore_n 3, 1) := by decide +kernel
theorem dX0_countTelling_67 : decode cX0_countTelling 67 = .ok (.iinc 4 1, 3) := by decide +kernel
theorem dX0_countTelling_70 : decode cX0_countTelling 70 = .ok (.goto (-65), 3) := by decide +kernel
theorem dX0_countTelling_73 : decode cX0_countTelling 73 = .ok (.iload_n 3, 1) := by decide +kernel
theorem dX0_countTelling_74 : decode cX0_countTelling 74 = .ok (.ireturn, 1) := by decide +kernel
theorem dX0_firstFrom_0 : decode cX0_firstFrom 0 = .ok (.iconst 0, 1) := by decide +kernel
theorem dX0_firstFrom_1 : decode cX0_firstFrom 1 = .ok (.istore_n 2, 1) := by decide +kernel
theorem dX0_firstFrom_2 : decode cX0_firstFrom 2 = .ok (.aload_n 0, 1) := by decide +kernel
theorem dX0_firstFrom_3 : decode cX0_firstFrom 3 = .ok (.getfield 28, 3) := by decide +kernel
theorem dX0_firstFrom_6 : decode cX0_firstFrom 6 = .ok (.istore_n 3, 1) := by decide +kernel
theorem dX0_firstFrom_7 : decode cX0_firstFrom 7 = .ok (.iconst 0, 1) := by decide +kernel
theorem dX0_firstFrom_8 : decode cX0_firstFrom 8 = .ok (.istore 4, 2) := by decide +kernel
theorem dX0_firstFrom_10 : decode cX0_firstFrom 10 = .ok (.iload 4, 2) := by decide +kernel
theorem dX0_firstFrom_12 : decode cX0_firstFrom 12 = .ok (.sipush 200, 3) := by decide +kernel
theorem dX0_firstFrom_15 : decode cX0_firstFrom 15 = .ok (.if_icmp .ge 43, 3) := by decide +kernel
theorem dX0_firstFrom_18 : decode cX0_firstFrom 18 = .ok (.iload_n 2, 1) := by decide +kernel
theorem dX0_firstFrom_19 : decode cX0_firstFrom 19 = .ok (.iload_n 3, 1) := by decide +kernel
theorem dX0_firstFrom_20 : decode cX0_firstFrom 20 = .ok (.if_icmp .ge 38, 3) := by decide +kernel
theorem dX0_firstFrom_23 : decode cX0_firstFrom 23 = .ok (.iload_n 2, 1) := by decide +kernel
theorem dX0_firstFrom_24 : decode cX0_firstFrom 24 = .ok (.iload_n 3, 1) := by decide +kernel
theorem dX0_firstFrom_25 : decode cX0_firstFrom 25 = .ok (.iadd, 1) := by decide +kernel
theorem dX0_firstFrom_26 : decode cX0_firstFrom 26 = .ok (.iconst 2, 1) := by decide +kernel
theorem dX0_firstFrom_27 : decode cX0_firstFrom 27 = .ok (.idiv, 1) := by decide +kernel
theorem dX0_firstFrom_28 : decode cX0_firstFrom 28 = .ok (.istore 5, 2) := by decide +kernel
theorem dX0_firstFrom_30 : decode cX0_firstFrom 30 = .ok (.aload_n 0, 1) := by decide +kernel
theorem dX0_firstFrom_31 : decode cX0_firstFrom 31 = .ok (.getfield 9, 3) := by decide +kernel
theorem dX0_firstFrom_34 : decode cX0_firstFrom 34 = .ok (.iload 5, 2) := by decide +kernel
theorem dX0_firstFrom_36 : decode cX0_firstFrom 36 = .ok (.iaload, 1) := by decide +kernel
theorem dX0_firstFrom_37 : decode cX0_firstFrom 37 = .ok (.iload_n 1, 1) := by decide +kernel
theorem dX0_firstFrom_38 : decode cX0_firstFrom 38 = .ok (.if_icmp .ge 11, 3) := by decide +kernel
theorem dX0_firstFrom_41 : decode cX0_firstFrom 41 = .ok (.iload 5, 2) := by decide +kernel
theorem dX0_firstFrom_43 : decode cX0_firstFrom 43 = .ok (.iconst 1, 1) := by decide +kernel
theorem dX0_firstFrom_44 : decode cX0_firstFrom 44 = .ok (.iadd, 1) := by decide +kernel
theorem dX0_firstFrom_45 : decode cX0_firstFrom 45 = .ok (.istore_n 2, 1) := by decide +kernel
theorem dX0_firstFrom_46 : decode cX0_firstFrom 46 = .ok (.goto 6, 3) := by decide +kernel
theorem dX0_firstFrom_49 : decode cX0_firstFrom 49 = .ok (.iload 5, 2) := by decide +kernel
theorem dX0_firstFrom_51 : decode cX0_firstFrom 51 = .ok (.istore_n 3, 1) := by decide +kernel
theorem dX0_firstFrom_52 : decode cX0_firstFrom 52 = .ok (.iinc 4 1, 3) := by decide +kernel
theorem dX0_firstFrom_55 : decode cX0_firstFrom 55 = .ok (.goto (-45), 3) := by decide +kernel
theorem dX0_firstFrom_58 : decode cX0_firstFrom 58 = .ok (.iload_n 2, 1) := by decide +kernel
theorem dX0_firstFrom_59 : decode cX0_firstFrom 59 = .ok (.ireturn, 1) := by decide +kernel
theorem dX0_speakersBetween_0 : decode cX0_speakersBetween 0 = .ok (.iconst 0, 1) := by decide +kernel
theorem dX0_speakersBetween_1 : decode cX0_speakersBetween 1 = .ok (.istore_n 3, 1) := by decide +kernel
theorem dX0_speakersBetween_2 : decode cX0_speakersBetween 2 = .ok (.aload_n 0, 1) := by decide +kernel
theorem dX0_speakersBetween_3 : decode cX0_speakersBetween 3 = .ok (.iload_n 1, 1) := by decide +kernel
theorem dX0_speakersBetween_4 : decode cX0_speakersBetween 4 = .ok (.invokevirtual 54, 3) := by decide +kernel
theorem dX0_speakersBetween_7 : decode cX0_speakersBetween 7 = .ok (.istore 4, 2) := by decide +kernel
theorem dX0_speakersBetween_9 : decode cX0_speakersBetween 9 = .ok (.iload 4, 2) := by decide +kernel
theorem dX0_speakersBetween_11 : decode cX0_speakersBetween 11 = .ok (.aload_n 0, 1) := by decide +kernel
theorem dX0_speakersBetween_12 : decode cX0_speakersBetween 12 = .ok (.getfield 28, 3) := by decide +kernel
theorem dX0_speakersBetween_15 : decode cX0_speakersBetween 15 = .ok (.if_icmp .ge 32, 3) := by decide +kernel
theorem dX0_speakersBetween_18 : decode cX0_speakersBetween 18 = .ok (.aload_n 0, 1) := by decide +kernel
theorem dX0_speakersBetween_19 : decode cX0_speakersBetween 19 = .ok (.getfield 9, 3) := by decide +kernel
theorem dX0_speakersBetween_22 : decode cX0_speakersBetween 22 = .ok (.iload 4, 2) := by decide +kernel
theorem dX0_speakersBetween_24 : decode cX0_speakersBetween 24 = .ok (.iaload, 1) := by decide +kernel
theorem dX0_speakersBetween_25 : decode cX0_speakersBetween 25 = .ok (.iload_n 2, 1) := by decide +kernel
theorem dX0_speakersBetween_26 : decode cX0_speakersBetween 26 = .ok (.if_icmp .gt 21, 3) := by decide +kernel
theorem dX0_speakersBetween_29 : decode cX0_speakersBetween 29 = .ok (.iload_n 3, 1) := by decide +kernel
theorem dX0_speakersBetween_30 : decode cX0_speakersBetween 30 = .ok (.iconst 1, 1) := by decide +kernel
theorem dX0_speakersBetween_31 : decode cX0_speakersBetween 31 = .ok (.aload_n 0, 1) := by decide +kernel
theorem dX0_speakersBetween_32 : decode cX0_speakersBetween 32 = .ok (.getfield 15, 3) := by decide +kernel
theorem dX0_speakersBetween_35 : decode cX0_speakersBetween 35 = .ok (.iload 4, 2) := by decide +kernel
theorem dX0_speakersBetween_37 : decode cX0_speakersBetween 37 = .ok (.iaload, 1) := by decide +kernel
theorem dX0_speakersBetween_38 : decode cX0_speakersBetween 38 = .ok (.ishl, 1) := by decide +kernel
theorem dX0_speakersBetween_39 : decode cX0_speakersBetween 39 = .ok (.ior, 1) := by decide +kernel
theorem dX0_speakersBetween_40 : decode cX0_speakersBetween 40 = .ok (.istore_n 3, 1) := by decide +kernel
theorem dX0_speakersBetween_41 : decode cX0_speakersBetween 41 = .ok (.iinc 4 1, 3) := by decide +kernel
theorem dX0_speakersBetween_44 : decode cX0_speakersBetween 44 = .ok (.goto (-35), 3) := by decide +kernel
theorem dX0_speakersBetween_47 : decode cX0_speakersBetween 47 = .ok (.iload_n 3, 1) := by decide +kernel
theorem dX0_speakersBetween_48 : decode cX0_speakersBetween 48 = .ok (.ireturn, 1) := by decide +kernel
theorem dX0_speakersNear_0 : decode cX0_speakersNear 0 = .ok (.aload_n 0, 1) := by decide +kernel
theorem dX0_speakersNear_1 : decode cX0_speakersNear 1 = .ok (.aload_n 0, 1) := by decide +kernel
theorem dX0_speakersNear_2 : decode cX0_speakersNear 2 = .ok (.getfield 9, 3) := by decide +kernel
theorem dX0_speakersNear_5 : decode cX0_speakersNear 5 = .ok (.iload_n 1, 1) := by decide +kernel
theorem dX0_speakersNear_6 : decode cX0_speakersNear 6 = .ok (.iaload, 1) := by decide +kernel
theorem dX0_speakersNear_7 : decode cX0_speakersNear 7 = .ok (.iload_n 2, 1) := by decide +kernel
theorem dX0_speakersNear_8 : decode cX0_speakersNear 8 = .ok (.isub, 1) := by decide +kernel
theorem dX0_speakersNear_9 : decode cX0_speakersNear 9 = .ok (.aload_n 0, 1) := by decide +kernel
theorem dX0_speakersNear_10 : decode cX0_speakersNear 10 = .ok (.getfield 9, 3) := by decide +kernel
theorem dX0_speakersNear_13 : decode cX0_speakersNear 13 = .ok (.iload_n 1, 1) := by decide +kernel
theorem dX0_speakersNear_14 : decode cX0_speakersNear 14 = .ok (.iaload, 1) := by decide +kernel
theorem dX0_speakersNear_15 : decode cX0_speakersNear 15 = .ok (.iload_n 2, 1) := by decide +kernel
theorem dX0_speakersNear_16 : decode cX0_speakersNear 16 = .ok (.iadd, 1) := by decide +kernel
theorem dX0_speakersNear_17 : decode cX0_speakersNear 17 = .ok (.invokevirtual 57, 3) := by decide +kernel
theorem dX0_speakersNear_20 : decode cX0_speakersNear 20 = .ok (.ireturn, 1) := by decide +kernel
theorem dX0_countTogether_0 : decode cX0_countTogether 0 = .ok (.iconst 0, 1) := by decide +kernel
theorem dX0_countTogether_1 : decode cX0_countTogether 1 = .ok (.istore 4, 2) := by decide +kernel
theorem dX0_countTogether_3 : decode cX0_countTogether 3 = .ok (.iconst 0, 1) := by decide +kernel
theorem dX0_countTogether_4 : decode cX0_countTogether 4 = .ok (.istore 5, 2) := by decide +kernel
theorem dX0_countTogether_6 : decode cX0_countTogether 6 = .ok (.iload 5, 2) := by decide +kernel
theorem dX0_countTogether_8 : decode cX0_countTogether 8 = .ok (.aload_n 0, 1) := by decide +kernel
theorem dX0_countTogether_9 : decode cX0_countTogether 9 = .ok (.getfield 28, 3) := by decide +kernel
theorem dX0_countTogether_12 : decode cX0_countTogether 12 = .ok (.if_icmp .ge 47, 3) := by decide +kernel
theorem dX0_countTogether_15 : decode cX0_countTogether 15 = .ok (.iload 4, 2) := by decide +kernel
theorem dX0_countTogether_17 : decode cX0_countTogether 17 = .ok (.aload_n 0, 1) := by decide +kernel
theorem dX0_countTogether_18 : decode cX0_countTogether 18 = .ok (.getfield 15, 3) := by decide +kernel
theorem dX0_countTogether_21 : decode cX0_countTogether 21 = .ok (.iload 5, 2) := by decide +kernel
theorem dX0_countTogether_23 : decode cX0_countTogether 23 = .ok (.iaload, 1) := by decide +kernel
theorem dX0_countTogether_24 : decode cX0_countTogether 24 = .ok (.iload_n 1, 1) := by decide +kernel
theorem dX0_countTogether_25 : decode cX0_countTogether 25 = .ok (.if_icmp .ne 21, 3) := by decide +kernel
theorem dX0_countTogether_28 : decode cX0_countTogether 28 = .ok (.aload_n 0, 1) := by decide +kernel
theorem dX0_countTogether_29 : decode cX0_countTogether 29 = .ok (.iload 5, 2) := by decide +kernel
theorem dX0_countTogether_31 : decode cX0_countTogether 31 = .ok (.iload_n 3, 1) := by decide +kernel
theorem dX0_countTogether_32 : decode cX0_countTogether 32 = .ok (.invokevirtual 61, 3) := by decide +kernel
theorem dX0_countTogether_35 : decode cX0_countTogether 35 = .ok (.iload_n 2, 1) := by decide +kernel
theorem dX0_countTogether_36 : decode cX0_countTogether 36 = .ok (.invokestatic 50, 3) := by decide +kernel
theorem dX0_countTogether_39 : decode cX0_countTogether 39 = .ok (.ifCond .eq 7, 3) := by decide +kernel
theorem dX0_countTogether_42 : decode cX0_countTogether 42 = .ok (.iconst 1, 1) := by decide +kernel
theorem dX0_countTogether_43 : decode cX0_countTogether 43 = .ok (.goto 4, 3) := by decide +kernel
theorem dX0_countTogether_46 : decode cX0_countTogether 46 = .ok (.iconst 0, 1) := by decide +kernel
theorem dX0_countTogether_47 : decode cX0_countTogether 47 = .ok (.invokestatic 43, 3) := by decide +kernel
theorem dX0_countTogether_50 : decode cX0_countTogether 50 = .ok (.iadd, 1) := by decide +kernel
theorem dX0_countTogether_51 : decode cX0_countTogether 51 = .ok (.istore 4, 2) := by decide +kernel
theorem dX0_countTogether_53 : decode cX0_countTogether 53 = .ok (.iinc 5 1, 3) := by decide +kernel
theorem dX0_countTogether_56 : decode cX0_countTogether 56 = .ok (.goto (-50), 3) := by decide +kernel
theorem dX0_countTogether_59 : decode cX0_countTogether 59 = .ok (.iload 4, 2) := by decide +kernel
theorem dX0_countTogether_61 : decode cX0_countTogether 61 = .ok (.ireturn, 1) := by decide +kernel
theorem dX0_soldPlace_0 : decode cX0_soldPlace 0 = .ok (.aload_n 0, 1) := by decide +kernel
theorem dX0_soldPlace_1 : decode cX0_soldPlace 1 = .ok (.iload_n 1, 1) := by decide +kernel
theorem dX0_soldPlace_2 : decode cX0_soldPlace 2 = .ok (.invokevirtual 64, 3) := by decide +kernel
theorem dX0_soldPlace_5 : decode cX0_soldPlace 5 = .ok (.istore_n 2, 1) := by decide +kernel
theorem dX0_soldPlace_6 : decode cX0_soldPlace 6 = .ok (.aload_n 0, 1) := by decide +kernel
theorem dX0_soldPlace_7 : decode cX0_soldPlace 7 = .ok (.iload_n 1, 1) := by decide +kernel
theorem dX0_soldPlace_8 : decode cX0_soldPlace 8 = .ok (.invokevirtual 67, 3) := by decide +kernel
theorem dX0_soldPlace_11 : decode cX0_soldPlace 11 = .ok (.i2l, 1) := by decide +kernel
theorem dX0_soldPlace_12 : decode cX0_soldPlace 12 = .ok (.lstore_n 3, 1) := by decide +kernel
theorem dX0_soldPlace_13 : decode cX0_soldPlace 13 = .ok (.lconst 0, 1) := by decide +kernel
theorem dX0_soldPlace_14 : decode cX0_soldPlace 14 = .ok (.lstore 5, 2) := by decide +kernel
theorem dX0_soldPlace_16 : decode cX0_soldPlace 16 = .ok (.iconst (-1), 1) := by decide +kernel
theorem dX0_soldPlace_17 : decode cX0_soldPlace 17 = .ok (.istore 7, 2) := by decide +kernel
theorem dX0_soldPlace_19 : decode cX0_soldPlace 19 = .ok (.lconst 0, 1) := by decide +kernel
theorem dX0_soldPlace_20 : decode cX0_soldPlace 20 = .ok (.lstore 8, 2) := by decide +kernel
theorem dX0_soldPlace_22 : decode cX0_soldPlace 22 = .ok (.lconst 1, 1) := by decide +kernel
theorem dX0_soldPlace_23 : decode cX0_soldPlace 23 = .ok (.lstore 10, 2) := by decide +kernel
theorem dX0_soldPlace_25 : decode cX0_soldPlace 25 = .ok (.iconst 0, 1) := by decide +kernel
theorem dX0_soldPlace_26 : decode cX0_soldPlace 26 = .ok (.istore 12, 2) := by decide +kernel
theorem dX0_soldPlace_28 : decode cX0_soldPlace 28 = .ok (.iconst 0, 1) := by decide +kernel
theorem dX0_soldPlace_29 : decode cX0_soldPlace 29 = .ok (.istore 13, 2) := by decide +kernel
theorem dX0_soldPlace_31 : decode cX0_soldPlace 31 = .ok (.iload 13, 2) := by decide +kernel
theorem dX0_soldPlace_33 : decode cX0_soldPlace 33 = .ok (.aload_n 0, 1) := by decide +kernel
theorem dX0_soldPlace_34 : decode cX0_soldPlace 34 = .ok (.getfield 28, 3) := by decide +kernel
theorem dX0_soldPlace_37 : decode cX0_soldPlace 37 = .ok (.if_icmp .ge 127, 3) := by decide +kernel
theorem dX0_soldPlace_40 : decode cX0_soldPlace 40 = .ok (.iload 12, 2) := by decide +kernel
theorem dX0_soldPlace_42 : decode cX0_soldPlace 42 = .ok (.iload_n 2, 1) := by decide +kernel
theorem dX0_soldPlace_43 : decode cX0_soldPlace 43 = .ok (.iconst 1, 1) := by decide +kernel
theorem dX0_soldPlace_44 : decode cX0_soldPlace 44 = .ok (.isub, 1) := by decide +kernel
theorem dX0_soldPlace_45 : decode cX0_soldPlace 45 = .ok (.if_icmp .ge 119, 3) := by decide +kernel
theorem dX0_soldPlace_48 : decode cX0_soldPlace 48 = .ok (.aload_n 0, 1) := by decide +kernel
theorem dX0_soldPlace_49 : decode cX0_soldPlace 49 = .ok (.getfield 15, 3) := by decide +kernel
theorem dX0_soldPlace_52 : decode cX0_soldPlace 52 = .ok (.iload 13, 2) := by decide +kernel
theorem dX0_soldPlace_54 : decode cX0_soldPlace 54 = .ok (.iaload, 1) := by decide +kernel
theorem dX0_soldPlace_55 : decode cX0_soldPlace 55 = .ok (.iload_n 1, 1) := by decide +kernel
theorem dX0_soldPlace_56 : decode cX0_soldPlace 56 = .ok (.if_icmp .eq 6, 3) := by decide +kernel
theorem dX0_soldPlace_59 : decode cX0_soldPlace 59 = .ok (.goto 99, 3) := by decide +kernel
theorem dX0_soldPlace_62 : decode cX0_soldPlace 62 = .ok (.iinc 12 1, 3) := by decide +kernel
theorem dX0_soldPlace_65 : decode cX0_soldPlace 65 = .ok (.lload 5, 2) := by decide +kernel
theorem dX0_soldPlace_67 : decode cX0_soldPlace 67 = .ok (.aload_n 0, 1) := by decide +kernel
theorem dX0_soldPlace_68 : decode cX0_soldPlace 68 = .ok (.getfield 9, 3) := by decide +kernel
theorem dX0_soldPlace_71 : decode cX0_soldPlace 71 = .ok (.iload 13, 2) := by decide +kernel
theorem dX0_soldPlace_73 : decode cX0_soldPlace 73 = .ok (.iaload, 1) := by decide +kernel
theorem dX0_soldPlace_74 : decode cX0_soldPlace 74 = .ok (.invokestatic 47, 3) := by decide +kernel
theorem dX0_soldPlace_77 : decode cX0_soldPlace 77 = .ok (.i2l, 1) := by decide +kernel
theorem dX0_soldPlace_78 : decode cX0_soldPlace 78 = .ok (.ladd, 1) := by decide +kernel
theorem dX0_soldPlace_79 : decode cX0_soldPlace 79 = .ok (.lstore 5, 2) := by decide +kernel
theorem dX0_soldPlace_81 : decode cX0_soldPlace 81 = .ok (.lload_n 3, 1) := by decide +kernel
theorem dX0_soldPlace_82 : decode cX0_soldPlace 82 = .ok (.aload_n 0, 1) := by decide +kernel
theorem dX0_soldPlace_83 : decode cX0_soldPlace 83 = .ok (.getfield 9, 3) := by decide +kernel
theorem dX0_soldPlace_86 : decode cX0_soldPlace 86 = .ok (.iload 13, 2) := by decide +kernel
theorem dX0_soldPlace_88 : decode cX0_soldPlace 88 = .ok (.iaload, 1) := by decide +kernel
theorem dX0_soldPlace_89 : decode cX0_soldPlace 89 = .ok (.invokestatic 47, 3) := by decide +kernel
theorem dX0_soldPlace_92 : decode cX0_soldPlace 92 = .ok (.i2l, 1) := by decide +kernel
theorem dX0_soldPlace_93 : decode cX0_soldPlace 93 = .ok (.lsub, 1) := by decide +kernel
theorem dX0_soldPlace_94 : decode cX0_soldPlace 94 = .ok (.lstore_n 3, 1) := by decide +kernel
theorem dX0_soldPlace_95 : decode cX0_soldPlace 95 = .ok (.lload 5, 2) := by decide +kernel
theorem dX0_soldPlace_97 : decode cX0_soldPlace 97 = .ok (.lload 5, 2) := by decide +kernel
theorem dX0_soldPlace_99 : decode cX0_soldPlace 99 = .ok (.lmul, 1) := by decide +kernel
theorem dX0_soldPlace_100 : decode cX0_soldPlace 100 = .ok (.iload_n 2, 1) := by decide +kernel
theorem dX0_soldPlace_101 : decode cX0_soldPlace 101 = .ok (.iload 12, 2) := by decide +kernel
theorem dX0_soldPlace_103 : decode cX0_soldPlace 103 = .ok (.isub, 1) := by decide +kernel
theorem dX0_soldPlace_104 : decode cX0_soldPlace 104 = .ok (.i2l, 1) := by decide +kernel
theorem dX0_soldPlace_105 : decode cX0_soldPlace 105 = .ok (.lmul, 1) := by decide +kernel
theorem dX0_soldPlace_106 : decode cX0_soldPlace 106 = .ok (.lload_n 3, 1) := by decide +kernel
theorem dX0_soldPlace_107 : decode cX0_soldPlace 107 = .ok (.lload_n 3, 1) := by decide +kernel
theorem dX0_soldPlace_108 : decode cX0_soldPlace 108 = .ok (.lmul, 1) := by decide +kernel
theorem dX0_soldPlace_109 : decode cX0_soldPlace 109 = .ok (.iload 12, 2) := by decide +kernel
theorem dX0_soldPlace_111 : decode cX0_soldPlace 111 = .ok (.i2l, 1) := by decide +kernel
theorem dX0_soldPlace_112 : decode cX0_soldPlace 112 = .ok (.lmul, 1) := by decide +kernel
theorem dX0_soldPlace_113 : decode cX0_soldPlace 113 = .ok (.ladd, 1) := by decide +kernel
theorem dX0_soldPlace_114 : decode cX0_soldPlace 114 = .ok (.lstore 14, 2) := by decide +kernel
theorem dX0_soldPlace_116 : decode cX0_soldPlace 116 = .ok (.iload 12, 2) := by decide +kernel
theorem dX0_soldPlace_118 : decode cX0_soldPlace 118 = .ok (.i2l, 1) := by decide +kernel
theorem dX0_soldPlace_119 : decode cX0_soldPlace 119 = .ok (.iload_n 2, 1) := by decide +kernel
theorem dX0_soldPlace_120 : decode cX0_soldPlace 120 = .ok (.iload 12, 2) := by decide +kernel
theorem dX0_soldPlace_122 : decode cX0_soldPlace 122 = .ok (.isub, 1) := by decide +kernel
theorem dX0_soldPlace_123 : decode cX0_soldPlace 123 = .ok (.i2l, 1) := by decide +kernel
theorem dX0_soldPlace_124 : decode cX0_soldPlace 124 = .ok (.lmul, 1) := by decide +kernel
theorem dX0_soldPlace_125 : decode cX0_soldPlace 125 = .ok (.lstore 16, 2) := by decide +kernel
theorem dX0_soldPlace_127 : decode cX0_soldPlace 127 = .ok (.iload 7, 2) := by decide +kernel
theorem dX0_soldPlace_129 : decode cX0_soldPlace 129 = .ok (.ifCond .lt 17, 3) := by decide +kernel
theorem dX0_soldPlace_132 : decode cX0_soldPlace 132 = .ok (.lload 14, 2) := by decide +kernel
theorem dX0_soldPlace_134 : decode cX0_soldPlace 134 = .ok (.lload 10, 2) := by decide +kernel
theorem dX0_soldPlace_136 : decode cX0_soldPlace 136 = .ok (.lmul, 1) := by decide +kernel
theorem dX0_soldPlace_137 : decode cX0_soldPlace 137 = .ok (.lload 8, 2) := by decide +kernel
theorem dX0_soldPlace_139 : decode cX0_soldPlace 139 = .ok (.lload 16, 2) := by decide +kernel
theorem dX0_soldPlace_141 : decode cX0_soldPlace 141 = .ok (.lmul, 1) := by decide +kernel
theorem dX0_soldPlace_142 : decode cX0_soldPlace 142 = .ok (.lcmp, 1) := by decide +kernel
theorem dX0_soldPlace_143 : decode cX0_soldPlace 143 = .ok (.ifCond .le 15, 3) := by decide +kernel
theorem dX0_soldPlace_146 : decode cX0_soldPlace 146 = .ok (.iload 12, 2) := by decide +kernel
theorem dX0_soldPlace_148 : decode cX0_soldPlace 148 = .ok (.istore 7, 2) := by decide +kernel
theorem dX0_soldPlace_150 : decode cX0_soldPlace 150 = .ok (.lload 14, 2) := by decide +kernel
theorem dX0_soldPlace_152 : decode cX0_soldPlace 152 = .ok (.lstore 8, 2) := by decide +kernel
theorem dX0_soldPlace_154 : decode cX0_soldPlace 154 = .ok (.lload 16, 2) := by decide +kernel
theorem dX0_soldPlace_156 : decode cX0_soldPlace 156 = .ok (.lstore 10, 2) := by decide +kernel
theorem dX0_soldPlace_158 : decode cX0_soldPlace 158 = .ok (.iinc 13 1, 3) := by decide +kernel
theorem dX0_soldPlace_161 : decode cX0_soldPlace 161 = .ok (.goto (-130), 3) := by decide +kernel
theorem dX0_soldPlace_164 : decode cX0_soldPlace 164 = .ok (.iload 7, 2) := by decide +kernel
theorem dX0_soldPlace_166 : decode cX0_soldPlace 166 = .ok (.ireturn, 1) := by decide +kernel
theorem dX0_hourSum_0 : decode cX0_hourSum 0 = .ok (.iconst 0, 1) := by decide +kernel
theorem dX0_hourSum_1 : decode cX0_hourSum 1 = .ok (.istore_n 2, 1) := by decide +kernel
theorem dX0_hourSum_2 : decode cX0_hourSum 2 = .ok (.iconst 0, 1) := by decide +kernel
theorem dX0_hourSum_3 : decode cX0_hourSum 3 = .ok (.istore_n 3, 1) := by decide +kernel
theorem dX0_hourSum_4 : decode cX0_hourSum 4 = .ok (.iload_n 3, 1) := by decide +kernel
theorem dX0_hourSum_5 : decode cX0_hourSum 5 = .ok (.aload_n 0, 1) := by decide +kernel
theorem dX0_hourSum_6 : decode cX0_hourSum 6 = .ok (.getfield 28, 3) := by decide +kernel
theorem dX0_hourSum_9 : decode cX0_hourSum 9 = .ok (.if_icmp .ge 35, 3) := by decide +kernel
theorem dX0_hourSum_12 : decode cX0_hourSum 12 = .ok (.iload_n 2, 1) := by decide +kernel
theorem dX0_hourSum_13 : decode cX0_hourSum 13 = .ok (.aload_n 0, 1) := by decide +kernel
theorem dX0_hourSum_14 : decode cX0_hourSum 14 = .ok (.getfield 15, 3) := by decide +kernel
theorem dX0_hourSum_17 : decode cX0_hourSum 17 = .ok (.iload_n 3, 1) := by decide +kernel
theorem dX0_hourSum_18 : decode cX0_hourSum 18 = .ok (.iaload, 1) := by decide +kernel
theorem dX0_hourSum_19 : decode cX0_hourSum 19 = .ok (.iload_n 1, 1) := by decide +kernel
theorem dX0_hourSum_20 : decode cX0_hourSum 20 = .ok (.if_icmp .ne 15, 3) := by decide +kernel
theorem dX0_hourSum_23 : decode cX0_hourSum 23 = .ok (.aload_n 0, 1) := by decide +kernel
theorem dX0_hourSum_24 : decode cX0_hourSum 24 = .ok (.getfield 9, 3) := by decide +kernel
theorem dX0_hourSum_27 : decode cX0_hourSum 27 = .ok (.iload_n 3, 1) := by decide +kernel
theorem dX0_hourSum_28 : decode cX0_hourSum 28 = .ok (.iaload, 1) := by decide +kernel
theorem dX0_hourSum_29 : decode cX0_hourSum 29 = .ok (.invokestatic 47, 3) := by decide +kernel
theorem dX0_hourSum_32 : decode cX0_hourSum 32 = .ok (.goto 4, 3) := by decide +kernel
theorem dX0_hourSum_35 : decode cX0_hourSum 35 = .ok (.iconst 0, 1) := by decide +kernel
theorem dX0_hourSum_36 : decode cX0_hourSum 36 = .ok (.iadd, 1) := by decide +kernel
theorem dX0_hourSum_37 : decode cX0_hourSum 37 = .ok (.istore_n 2, 1) := by decide +kernel
theorem dX0_hourSum_38 : decode cX0_hourSum 38 = .ok (.iinc 3 1, 3) := by decide +kernel
theorem dX0_hourSum_41 : decode cX0_hourSum 41 = .ok (.goto (-37), 3) := by decide +kernel
theorem dX0_hourSum_44 : decode cX0_hourSum 44 = .ok (.iload_n 2, 1) := by decide +kernel
theorem dX0_hourSum_45 : decode cX0_hourSum 45 = .ok (.ireturn, 1) := by decide +kernel
theorem dX0_become_0 : decode cX0_become 0 = .ok (.aload_n 0, 1) := by decide +kernel
theorem dX0_become_1 : decode cX0_become 1 = .ok (.aload_n 1, 1) := by decide +kernel
theorem dX0_become_2 : decode cX0_become 2 = .ok (.getfield 36, 3) := by decide +kernel
theorem dX0_become_5 : decode cX0_become 5 = .ok (.putfield 36, 3) := by decide +kernel
theorem dX0_become_8 : decode cX0_become 8 = .ok (.aload_n 0, 1) := by decide +kernel
theorem dX0_become_9 : decode cX0_become 9 = .ok (.aload_n 1, 1) := by decide +kernel
theorem dX0_become_10 : decode cX0_become 10 = .ok (.getfield 28, 3) := by decide +kernel
theorem dX0_become_13 : decode cX0_become 13 = .ok (.putfield 28, 3) := by decide +kernel
theorem dX0_become_16 : decode cX0_become 16 = .ok (.aload_n 0, 1) := by decide +kernel
theorem dX0_become_17 : decode cX0_become 17 = .ok (.aload_n 1, 1) := by decide +kernel
theorem dX0_become_18 : decode cX0_become 18 = .ok (.getfield 70, 3) := by decide +kernel
theorem dX0_become_21 : decode cX0_become 21 = .ok (.putfield 70, 3) := by decide +kernel
theorem dX0_become_24 : decode cX0_become 24 = .ok (.aload_n 1, 1) := by decide +kernel
theorem dX0_become_25 : decode cX0_become 25 = .ok (.getfield 9, 3) := by decide +kernel
theorem dX0_become_28 : decode cX0_become 28 = .ok (.iconst 0, 1) := by decide +kernel
theorem dX0_become_29 : decode cX0_become 29 = .ok (.aload_n 0, 1) := by decide +kernel
theorem dX0_become_30 : decode cX0_become 30 = .ok (.getfield 9, 3) := by decide +kernel
theorem dX0_become_33 : decode cX0_become 33 = .ok (.iconst 0, 1) := by decide +kernel
theorem dX0_become_34 : decode cX0_become 34 = .ok (.aload_n 0, 1) := by decide +kernel
theorem dX0_become_35 : decode cX0_become 35 = .ok (.getfield 28, 3) := by decide +kernel
theorem dX0_become_38 : decode cX0_become 38 = .ok (.invokestatic 73, 3) := by decide +kernel
theorem dX0_become_41 : decode cX0_become 41 = .ok (.aload_n 1, 1) := by decide +kernel
theorem dX0_become_42 : decode cX0_become 42 = .ok (.getfield 15, 3) := by decide +kernel
theorem dX0_become_45 : decode cX0_become 45 = .ok (.iconst 0, 1) := by decide +kernel
theorem dX0_become_46 : decode cX0_become 46 = .ok (.aload_n 0, 1) := by decide +kernel
theorem dX0_become_47 : decode cX0_become 47 = .ok (.getfield 15, 3) := by decide +kernel
theorem dX0_become_50 : decode cX0_become 50 = .ok (.iconst 0, 1) := by decide +kernel
theorem dX0_become_51 : decode cX0_become 51 = .ok (.aload_n 0, 1) := by decide +kernel
theorem dX0_become_52 : decode cX0_become 52 = .ok (.getfield 28, 3) := by decide +kernel
theorem dX0_become_55 : decode cX0_become 55 = .ok (.invokestatic 73, 3) := by decide +kernel
theorem dX0_become_58 : decode cX0_become 58 = .ok (.aload_n 1, 1) := by decide +kernel
theorem dX0_become_59 : decode cX0_become 59 = .ok (.getfield 18, 3) := by decide +kernel
theorem dX0_become_62 : decode cX0_become 62 = .ok (.iconst 0, 1) := by decide +kernel
theorem dX0_become_63 : decode cX0_become 63 = .ok (.aload_n 0, 1) := by decide +kernel
theorem dX0_become_64 : decode cX0_become 64 = .ok (.getfield 18, 3) := by decide +kernel
theorem dX0_become_67 : decode cX0_become 67 = .ok (.iconst 0, 1) := by decide +kernel
theorem dX0_become_68 : decode cX0_become 68 = .ok (.aload_n 0, 1) := by decide +kernel
theorem dX0_become_69 : decode cX0_become 69 = .ok (.getfield 28, 3) := by decide +kernel
theorem dX0_become_72 : decode cX0_become 72 = .ok (.invokestatic 73, 3) := by decide +kernel
theorem dX0_become_75 : decode cX0_become 75 = .ok (.aload_n 1, 1) := by decide +kernel
theorem dX0_become_76 : decode cX0_become 76 = .ok (.getfield 21, 3) := by decide +kernel
theorem dX0_become_79 : decode cX0_become 79 = .ok (.iconst 0, 1) := by decide +kernel
theorem dX0_become_80 : decode cX0_become 80 = .ok (.aload_n 0, 1) := by decide +kernel
theorem dX0_become_81 : decode cX0_become 81 = .ok (.getfield 21, 3) := by decide +kernel
theorem dX0_become_84 : decode cX0_become 84 = .ok (.iconst 0, 1) := by decide +kernel
theorem dX0_become_85 : decode cX0_become 85 = .ok (.aload_n 0, 1) := by decide +kernel
theorem dX0_become_86 : decode cX0_become 86 = .ok (.getfield 28, 3) := by decide +kernel
theorem dX0_become_89 : decode cX0_become 89 = .ok (.invokestatic 73, 3) := by decide +kernel
theorem dX0_become_92 : decode cX0_become 92 = .ok (.return_, 1) := by decide +kernel
theorem dX1_init_0 : decode cX1_init 0 = .ok (.aload_n 0, 1) := by decide +kernel
theorem dX1_init_1 : decode cX1_init 1 = .ok (.invokespecial 3, 3) := by decide +kernel
theorem dX1_init_4 : decode cX1_init 4 = .ok (.aload_n 0, 1) := by decide +kernel
theorem dX1_init_5 : decode cX1_init 5 = .ok (.bipush 6, 2) := by decide +kernel
theorem dX1_init_7 : decode cX1_init 7 = .ok (.bipush 14, 2) := by decide +kernel
theorem dX1_init_9 : decode cX1_init 9 = .ok (.multianewarray 9 2, 4) := by decide +kernel
theorem dX1_init_13 : decode cX1_init 13 = .ok (.putfield 11, 3) := by decide +kernel
theorem dX1_init_16 : decode cX1_init 16 = .ok (.return_, 1) := by decide +kernel
theorem dX1_has_0 : decode cX1_has 0 = .ok (.iload_n 1, 1) := by decide +kernel
theorem dX1_has_1 : decode cX1_has 1 = .ok (.iconst 0, 1) := by decide +kernel
theorem dX1_has_2 : decode cX1_has 2 = .ok (.aload_n 0, 1) := by decide +kernel
theorem dX1_has_3 : decode cX1_has 3 = .ok (.getfield 16, 3) := by decide +kernel
theorem dX1_has_6 : decode cX1_has 6 = .ok (.iconst 1, 1) := by decide +kernel
theorem dX1_has_7 : decode cX1_has 7 = .ok (.isub, 1) := by decide +kernel
theorem dX1_has_8 : decode cX1_has 8 = .ok (.invokestatic 20, 3) := by decide +kernel
theorem dX1_has_11 : decode cX1_has 11 = .ok (.ireturn, 1) := by decide +kernel
theorem dX1_hasAll_0 : decode cX1_hasAll 0 = .ok (.iload_n 1, 1) := by decide +kernel
theorem dX1_hasAll_1 : decode cX1_hasAll 1 = .ok (.iconst 0, 1) := by decide +kernel
theorem dX1_hasAll_2 : decode cX1_hasAll 2 = .ok (.iconst 1, 1) := by decide +kernel
theorem dX1_hasAll_3 : decode cX1_hasAll 3 = .ok (.aload_n 0, 1) := by decide +kernel
theorem dX1_hasAll_4 : decode cX1_hasAll 4 = .ok (.getfield 16, 3) := by decide +kernel
theorem dX1_hasAll_7 : decode cX1_hasAll 7 = .ok (.ishl, 1) := by decide +kernel
theorem dX1_hasAll_8 : decode cX1_hasAll 8 = .ok (.iconst 1, 1) := by decide +kernel
theorem dX1_hasAll_9 : decode cX1_hasAll 9 = .ok (.isub, 1) := by decide +kernel
theorem dX1_hasAll_10 : decode cX1_hasAll 10 = .ok (.invokestatic 20, 3) := by decide +kernel
theorem dX1_hasAll_13 : decode cX1_hasAll 13 = .ok (.ireturn, 1) := by decide +kernel
theorem dX1_add_0 : decode cX1_add 0 = .ok (.aload_n 0, 1) := by decide +kernel
theorem dX1_add_1 : decode cX1_add 1 = .ok (.getfield 11, 3) := by decide +kernel
theorem dX1_add_4 : decode cX1_add 4 = .ok (.iconst 0, 1) := by decide +kernel
theorem dX1_add_5 : decode cX1_add 5 = .ok (.aaload, 1) := by decide +kernel
theorem dX1_add_6 : decode cX1_add 6 = .ok (.aload_n 0, 1) := by decide +kernel
theorem dX1_add_7 : decode cX1_add 7 = .ok (.getfield 16, 3) := by decide +kernel
theorem dX1_add_10 : decode cX1_add 10 = .ok (.iload_n 1, 1) := by decide +kernel
theorem dX1_add_11 : decode cX1_add 11 = .ok (.iastore, 1) := by decide +kernel
theorem dX1_add_12 : decode cX1_add 12 = .ok (.aload_n 0, 1) := by decide +kernel
theorem dX1_add_13 : decode cX1_add 13 = .ok (.getfield 11, 3) := by decide +kernel
theorem dX1_add_16 : decode cX1_add 16 = .ok (.iconst 1, 1) := by decide +kernel
theorem dX1_add_17 : decode cX1_add 17 = .ok (.aaload, 1) := by decide +kernel
theorem dX1_add_18 : decode cX1_add 18 = .ok (.aload_n 0, 1) := by decide +kernel
theorem dX1_add_19 : decode cX1_add 19 = .ok (.getfield 16, 3) := by decide +kernel
theorem dX1_add_22 : decode cX1_add 22 = .ok (.iload_n 2, 1) := by decide +kernel
theorem dX1_add_23 : decode cX1_add 23 = .ok (.iastore, 1) := by decide +kernel
theorem dX1_add_24 : decode cX1_add 24 = .ok (.aload_n 0, 1) := by decide +kernel
theorem dX1_add_25 : decode cX1_add 25 = .ok (.getfield 11, 3) := by decide +kernel
theorem dX1_add_28 : decode cX1_add 28 = .ok (.iconst 2, 1) := by decide +kernel
theorem dX1_add_29 : decode cX1_add 29 = .ok (.aaload, 1) := by decide +kernel
theorem dX1_add_30 : decode cX1_add 30 = .ok (.aload_n 0, 1) := by decide +kernel
theorem dX1_add_31 : decode cX1_add 31 = .ok (.getfield 16, 3) := by decide +kernel
theorem dX1_add_34 : decode cX1_add 34 = .ok (.sipush 1023, 3) := by decide +kernel
theorem dX1_add_37 : decode cX1_add 37 = .ok (.iastore, 1) := by decide +kernel
theorem dX1_add_38 : decode cX1_add 38 = .ok (.aload_n 0, 1) := by decide +kernel
theorem dX1_add_39 : decode cX1_add 39 = .ok (.getfield 11, 3) := by decide +kernel
theorem dX1_add_42 : decode cX1_add 42 = .ok (.iconst 3, 1) := by decide +kernel
theorem dX1_add_43 : decode cX1_add 43 = .ok (.aaload, 1) := by decide +kernel
theorem dX1_add_44 : decode cX1_add 44 = .ok (.aload_n 0, 1) := by decide +kernel
theorem dX1_add_45 : decode cX1_add 45 = .ok (.getfield 16, 3) := by decide +kernel
theorem dX1_add_48 : decode cX1_add 48 = .ok (.iconst 0, 1) := by decide +kernel
theorem dX1_add_49 : decode cX1_add 49 = .ok (.iastore, 1) := by decide +kernel
theorem dX1_add_50 : decode cX1_add 50 = .ok (.aload_n 0, 1) := by decide +kernel
theorem dX1_add_51 : decode cX1_add 51 = .ok (.getfield 11, 3) := by decide +kernel
theorem dX1_add_54 : decode cX1_add 54 = .ok (.iconst 4, 1) := by decide +kernel
theorem dX1_add_55 : decode cX1_add 55 = .ok (.aaload, 1) := by decide +kernel
theorem dX1_add_56 : decode cX1_add 56 = .ok (.aload_n 0, 1) := by decide +kernel
theorem dX1_add_57 : decode cX1_add 57 = .ok (.getfield 16, 3) := by decide +kernel
theorem dX1_add_60 : decode cX1_add 60 = .ok (.iconst (-1), 1) := by decide +kernel
theorem dX1_add_61 : decode cX1_add 61 = .ok (.iastore, 1) := by decide +kernel
theorem dX1_add_62 : decode cX1_add 62 = .ok (.aload_n 0, 1) := by decide +kernel
theorem dX1_add_63 : decode cX1_add 63 = .ok (.getfield 11, 3) := by decide +kernel
theorem dX1_add_66 : decode cX1_add 66 = .ok (.iconst 5, 1) := by decide +kernel
theorem dX1_add_67 : decode cX1_add 67 = .ok (.aaload, 1) := by decide +kernel
theorem dX1_add_68 : decode cX1_add 68 = .ok (.aload_n 0, 1) := by decide +kernel
theorem dX1_add_69 : decode cX1_add 69 = .ok (.getfield 16, 3) := by decide +kernel
theorem dX1_add_72 : decode cX1_add 72 = .ok (.iconst 0, 1) := by decide +kernel
theorem dX1_add_73 : decode cX1_add 73 = .ok (.iastore, 1) := by decide +kernel
theorem dX1_add_74 : decode cX1_add 74 = .ok (.aload_n 0, 1) := by decide +kernel
theorem dX1_add_75 : decode cX1_add 75 = .ok (.dup, 1) := by decide +kernel
theorem dX1_add_76 : decode cX1_add 76 = .ok (.getfield 16, 3) := by decide +kernel
theorem dX1_add_79 : decode cX1_add 79 = .ok (.iconst 1, 1) := by decide +kernel
theorem dX1_add_80 : decode cX1_add 80 = .ok (.iadd, 1) := by decide +kernel
theorem dX1_add_81 : decode cX1_add 81 = .ok (.putfield 16, 3) := by decide +kernel
theorem dX1_add_84 : decode cX1_add 84 = .ok (.aload_n 0, 1) := by decide +kernel
theorem dX1_add_85 : decode cX1_add 85 = .ok (.getfield 16, 3) := by decide +kernel
theorem dX1_add_88 : decode cX1_add 88 = .ok (.iconst 1, 1) := by decide +kernel
theorem dX1_add_89 : decode cX1_add 89 = .ok (.isub, 1) := by decide +kernel
theorem dX1_add_90 : decode cX1_add 90 = .ok (.ireturn, 1) := by decide +kernel
theorem dX1_allows_0 : decode cX1_allows 0 = .ok (.iload_n 2, 1) := by decide +kernel
theorem dX1_allows_1 : decode cX1_allows 1 = .ok (.tableswitch 90 1 5 #[35, 44, 53, 61, 85], 35) := by decide +kernel
theorem dX1_allows_36 : decode cX1_allows 36 = .ok (.iload_n 3, 1) := by decide +kernel
theorem dX1_allows_37 : decode cX1_allows 37 = .ok (.iconst 1, 1) := by decide +kernel
theorem dX1_allows_38 : decode cX1_allows 38 = .ok (.sipush 999, 3) := by decide +kernel
theorem dX1_allows_41 : decode cX1_allows 41 = .ok (.invokestatic 20, 3) := by decide +kernel
theorem dX1_allows_44 : decode cX1_allows 44 = .ok (.ireturn, 1) := by decide +kernel
theorem dX1_allows_45 : decode cX1_allows 45 = .ok (.iload_n 3, 1) := by decide +kernel
theorem dX1_allows_46 : decode cX1_allows 46 = .ok (.iconst 1, 1) := by decide +kernel
theorem dX1_allows_47 : decode cX1_allows 47 = .ok (.sipush 1023, 3) := by decide +kernel
theorem dX1_allows_50 : decode cX1_allows 50 = .ok (.invokestatic 20, 3) := by decide +kernel
theorem dX1_allows_53 : decode cX1_allows 53 = .ok (.ireturn, 1) := by decide +kernel
theorem dX1_allows_54 : decode cX1_allows 54 = .ok (.iload_n 3, 1) := by decide +kernel
theorem dX1_allows_55 : decode cX1_allows 55 = .ok (.iconst 0, 1) := by decide +kernel
theorem dX1_allows_56 : decode cX1_allows 56 = .ok (.bipush 99, 2) := by decide +kernel
theorem dX1_allows_58 : decode cX1_allows 58 = .ok (.invokestatic 20, 3) := by decide +kernel
theorem dX1_allows_61 : decode cX1_allows 61 = .ok (.ireturn, 1) := by decide +kernel
theorem dX1_allows_62 : decode cX1_allows 62 = .ok (.iload_n 3, 1) := by decide +kernel
theorem dX1_allows_63 : decode cX1_allows 63 = .ok (.iconst (-1), 1) := by decide +kernel
theorem dX1_allows_64 : decode cX1_allows 64 = .ok (.if_icmp .eq 16, 3) := by decide +kernel
theorem dX1_allows_67 : decode cX1_allows 67 = .ok (.aload_n 0, 1) := by decide +kernel
theorem dX1_allows_68 : decode cX1_allows 68 = .ok (.iload_n 3, 1) := by decide +kernel
theorem dX1_allows_69 : decode cX1_allows 69 = .ok (.invokevirtual 24, 3) := by decide +kernel
theorem dX1_allows_72 : decode cX1_allows 72 = .ok (.ifCond .eq 12, 3) := by decide +kernel
theorem dX1_allows_75 : decode cX1_allows 75 = .ok (.iload_n 3, 1) := by decide +kernel
theorem dX1_allows_76 : decode cX1_allows 76 = .ok (.iload_n 1, 1) := by decide +kernel
theorem dX1_allows_77 : decode cX1_allows 77 = .ok (.if_icmp .eq 7, 3) := by decide +kernel
theorem dX1_allows_80 : decode cX1_allows 80 = .ok (.iconst 1, 1) := by decide +kernel
theorem dX1_allows_81 : decode cX1_allows 81 = .ok (.goto 4, 3) := by decide +kernel
theorem dX1_allows_84 : decode cX1_allows 84 = .ok (.iconst 0, 1) := by decide +kernel
theorem dX1_allows_85 : decode cX1_allows 85 = .ok (.ireturn, 1) := by decide +kernel
theorem dX1_allows_86 : decode cX1_allows 86 = .ok (.iload_n 3, 1) := by decide +kernel
theorem dX1_allows_87 : decode cX1_allows 87 = .ok (.invokestatic 28, 3) := by decide +kernel
theorem dX1_allows_90 : decode cX1_allows 90 = .ok (.ireturn, 1) := by decide +kernel
theorem dX1_allows_91 : decode cX1_allows 91 = .ok (.iconst 0, 1) := by decide +kernel
theorem dX1_allows_92 : decode cX1_allows 92 = .ok (.ireturn, 1) := by decide +kernel
theorem dX1_isOf_0 : decode cX1_isOf 0 = .ok (.aload_n 0, 1) := by decide +kernel
theorem dX1_isOf_1 : decode cX1_isOf 1 = .ok (.getfield 11, 3) := by decide +kernel
theorem dX1_isOf_4 : decode cX1_isOf 4 = .ok (.iconst 0, 1) := by decide +kernel
theorem dX1_isOf_5 : decode cX1_isOf 5 = .ok (.aaload, 1) := by decide +kernel
theorem dX1_isOf_6 : decode cX1_isOf 6 = .ok (.iload_n 1, 1) := by decide +kernel
theorem dX1_isOf_7 : decode cX1_isOf 7 = .ok (.iaload, 1) := by decide +kernel
theorem dX1_isOf_8 : decode cX1_isOf 8 = .ok (.istore_n 3, 1) := by decide +kernel
theorem dX1_isOf_9 : decode cX1_isOf 9 = .ok (.iconst 0, 1) := by decide +kernel
theorem dX1_isOf_10 : decode cX1_isOf 10 = .ok (.istore 4, 2) := by decide +kernel
theorem dX1_isOf_12 : decode cX1_isOf 12 = .ok (.iload 4, 2) := by decide +kernel
theorem dX1_isOf_14 : decode cX1_isOf 14 = .ok (.bipush 7, 2) := by decide +kernel
theorem dX1_isOf_16 : decode cX1_isOf 16 = .ok (.if_icmp .gt 26, 3) := by decide +kernel
theorem dX1_isOf_19 : decode cX1_isOf 19 = .ok (.iload_n 3, 1) := by decide +kernel
theorem dX1_isOf_20 : decode cX1_isOf 20 = .ok (.ifCond .lt 22, 3) := by decide +kernel
theorem dX1_isOf_23 : decode cX1_isOf 23 = .ok (.iload_n 3, 1) := by decide +kernel
theorem dX1_isOf_24 : decode cX1_isOf 24 = .ok (.iload_n 2, 1) := by decide +kernel
theorem dX1_isOf_25 : decode cX1_isOf 25 = .ok (.if_icmp .ne 5, 3) := by decide +kernel
theorem dX1_isOf_28 : decode cX1_isOf 28 = .ok (.iconst 1, 1) := by decide +kernel
theorem dX1_isOf_29 : decode cX1_isOf 29 = .ok (.ireturn, 1) := by decide +kernel
theorem dX1_isOf_30 : decode cX1_isOf 30 = .ok (.getstatic 31, 3) := by decide +kernel
theorem dX1_isOf_33 : decode cX1_isOf 33 = .ok (.iload_n 3, 1) := by decide +kernel
theorem dX1_isOf_34 : decode cX1_isOf 34 = .ok (.iaload, 1) := by decide +kernel
theorem dX1_isOf_35 : decode cX1_isOf 35 = .ok (.istore_n 3, 1) := by decide +kernel
theorem dX1_isOf_36 : decode cX1_isOf 36 = .ok (.iinc 4 1, 3) := by decide +kernel
theorem dX1_isOf_39 : decode cX1_isOf 39 = .ok (.goto (-27), 3) := by decide +kernel
theorem dX1_isOf_42 : decode cX1_isOf 42 = .ok (.iconst 0, 1) := by decide +kernel
theorem dX1_isOf_43 : decode cX1_isOf 43 = .ok (.ireturn, 1) := by decide +kernel
theorem dX1_peopleSet_0 : decode cX1_peopleSet 0 = .ok (.iconst 0, 1) := by decide +kernel
theorem dX1_peopleSet_1 : decode cX1_peopleSet 1 = .ok (.istore_n 1, 1) := by decide +kernel
theorem dX1_peopleSet_2 : decode cX1_peopleSet 2 = .ok (.iconst 0, 1) := by decide +kernel
theorem dX1_peopleSet_3 : decode cX1_peopleSet 3 = .ok (.istore_n 2, 1) := by decide +kernel
theorem dX1_peopleSet_4 : decode cX1_peopleSet 4 = .ok (.iload_n 2, 1) := by decide +kernel
theorem dX1_peopleSet_5 : decode cX1_peopleSet 5 = .ok (.aload_n 0, 1) := by decide +kernel
theorem dX1_peopleSet_6 : decode cX1_peopleSet 6 = .ok (.getfield 16, 3) := by decide +kernel
theorem dX1_peopleSet_9 : decode cX1_peopleSet 9 = .ok (.if_icmp .ge 24, 3) := by decide +kernel
theorem dX1_peopleSet_12 : decode cX1_peopleSet 12 = .ok (.aload_n 0, 1) := by decide +kernel
theorem dX1_peopleSet_13 : decode cX1_peopleSet 13 = .ok (.iload_n 2, 1) := by decide +kernel
theorem dX1_peopleSet_14 : decode cX1_peopleSet 14 = .ok (.iconst 1, 1) := by decide +kernel
theorem dX1_peopleSet_15 : decode cX1_peopleSet 15 = .ok (.invokevirtual 35, 3) := by decide +kernel
theorem dX1_peopleSet_18 : decode cX1_peopleSet 18 = .ok (.ifCond .eq 9, 3) := by decide +kernel
theorem dX1_peopleSet_21 : decode cX1_peopleSet 21 = .ok (.iload_n 1, 1) := by decide +kernel
theorem dX1_peopleSet_22 : decode cX1_peopleSet 22 = .ok (.iconst 1, 1) := by decide +kernel
theorem dX1_peopleSet_23 : decode cX1_peopleSet 23 = .ok (.iload_n 2, 1) := by decide +kernel
theorem dX1_peopleSet_24 : decode cX1_peopleSet 24 = .ok (.ishl, 1) := by decide +kernel
theorem dX1_peopleSet_25 : decode cX1_peopleSet 25 = .ok (.ior, 1) := by decide +kernel
theorem dX1_peopleSet_26 : decode cX1_peopleSet 26 = .ok (.istore_n 1, 1) := by decide +kernel
theorem dX1_peopleSet_27 : decode cX1_peopleSet 27 = .ok (.iinc 2 1, 3) := by decide +kernel
theorem dX1_peopleSet_30 : decode cX1_peopleSet 30 = .ok (.goto (-26), 3) := by decide +kernel
theorem dX1_peopleSet_33 : decode cX1_peopleSet 33 = .ok (.iload_n 1, 1) := by decide +kernel
theorem dX1_peopleSet_34 : decode cX1_peopleSet 34 = .ok (.ireturn, 1) := by decide +kernel
theorem dX1_machineSet_0 : decode cX1_machineSet 0 = .ok (.iconst 1, 1) := by decide +kernel
theorem dX1_machineSet_1 : decode cX1_machineSet 1 = .ok (.aload_n 0, 1) := by decide +kernel
theorem dX1_machineSet_2 : decode cX1_machineSet 2 = .ok (.getfield 16, 3) := by decide +kernel
theorem dX1_machineSet_5 : decode cX1_machineSet 5 = .ok (.ishl, 1) := by decide +kernel
theorem dX1_machineSet_6 : decode cX1_machineSet 6 = .ok (.iconst 1, 1) := by decide +kernel
theorem dX1_machineSet_7 : decode cX1_machineSet 7 = .ok (.isub, 1) := by decide +kernel
theorem dX1_machineSet_8 : decode cX1_machineSet 8 = .ok (.aload_n 0, 1) := by decide +kernel
theorem dX1_machineSet_9 : decode cX1_machineSet 9 = .ok (.invokevirtual 39, 3) := by decide +kernel
theorem dX1_machineSet_12 : decode cX1_machineSet 12 = .ok (.iconst (-1), 1) := by decide +kernel
theorem dX1_machineSet_13 : decode cX1_machineSet 13 = .ok (.ixor, 1) := by decide +kernel
theorem dX1_machineSet_14 : decode cX1_machineSet 14 = .ok (.iand, 1) := by decide +kernel
theorem dX1_machineSet_15 : decode cX1_machineSet 15 = .ok (.ireturn, 1) := by decide +kernel
theorem dX1_become_0 : decode cX1_become 0 = .ok (.aload_n 0, 1) := by decide +kernel
theorem dX1_become_1 : decode cX1_become 1 = .ok (.aload_n 1, 1) := by decide +kernel
theorem dX1_become_2 : decode cX1_become 2 = .ok (.getfield 16, 3) := by decide +kernel
theorem dX1_become_5 : decode cX1_become 5 = .ok (.putfield 16, 3) := by decide +kernel
theorem dX1_become_8 : decode cX1_become 8 = .ok (.aload_n 0, 1) := by decide +kernel
theorem dX1_become_9 : decode cX1_become 9 = .ok (.aload_n 1, 1) := by decide +kernel
theorem dX1_become_10 : decode cX1_become 10 = .ok (.getfield 43, 3) := by decide +kernel
theorem dX1_become_13 : decode cX1_become 13 = .ok (.putfield 43, 3) := by decide +kernel
theorem dX1_become_16 : decode cX1_become 16 = .ok (.aload_n 0, 1) := by decide +kernel
theorem dX1_become_17 : decode cX1_become 17 = .ok (.aload_n 1, 1) := by decide +kernel
theorem dX1_become_18 : decode cX1_become 18 = .ok (.getfield 46, 3) := by decide +kernel
theorem dX1_become_21 : decode cX1_become 21 = .ok (.putfield 46, 3) := by decide +kernel
theorem dX1_become_24 : decode cX1_become 24 = .ok (.iconst 0, 1) := by decide +kernel
theorem dX1_become_25 : decode cX1_become 25 = .ok (.istore_n 2, 1) := by decide +kernel
theorem dX1_become_26 : decode cX1_become 26 = .ok (.iload_n 2, 1) := by decide +kernel
theorem dX1_become_27 : decode cX1_become 27 = .ok (.bipush 6, 2) := by decide +kernel
theorem dX1_become_29 : decode cX1_become 29 = .ok (.if_icmp .ge 30, 3) := by decide +kernel
theorem dX1_become_32 : decode cX1_become 32 = .ok (.aload_n 1, 1) := by decide +kernel
theorem dX1_become_33 : decode cX1_become 33 = .ok (.getfield 11, 3) := by decide +kernel
theorem dX1_become_36 : decode cX1_become 36 = .ok (.iload_n 2, 1) := by decide +kernel
theorem dX1_become_37 : decode cX1_become 37 = .ok (.aaload, 1) := by decide +kernel
theorem dX1_become_38 : decode cX1_become 38 = .ok (.iconst 0, 1) := by decide +kernel
theorem dX1_become_39 : decode cX1_become 39 = .ok (.aload_n 0, 1) := by decide +kernel
theorem dX1_become_40 : decode cX1_become 40 = .ok (.getfield 11, 3) := by decide +kernel
theorem dX1_become_43 : decode cX1_become 43 = .ok (.iload_n 2, 1) := by decide +kernel
theorem dX1_become_44 : decode cX1_become 44 = .ok (.aaload, 1) := by decide +kernel
theorem dX1_become_45 : decode cX1_become 45 = .ok (.iconst 0, 1) := by decide +kernel
theorem dX1_become_46 : decode cX1_become 46 = .ok (.aload_n 0, 1) := by decide +kernel
theorem dX1_become_47 : decode cX1_become 47 = .ok (.getfield 16, 3) := by decide +kernel
theorem dX1_become_50 : decode cX1_become 50 = .ok (.invokestatic 49, 3) := by decide +kernel
theorem dX1_become_53 : decode cX1_become 53 = .ok (.iinc 2 1, 3) := by decide +kernel
theorem dX1_become_56 : decode cX1_become 56 = .ok (.goto (-30), 3) := by decide +kernel
theorem dX1_become_59 : decode cX1_become 59 = .ok (.return_, 1) := by decide +kernel
theorem dX2_init_0 : decode cX2_init 0 = .ok (.aload_n 0, 1) := by decide +kernel
theorem dX2_init_1 : decode cX2_init 1 = .ok (.invokespecial 3, 3) := by decide +kernel
theorem dX2_init_4 : decode cX2_init 4 = .ok (.return_, 1) := by decide +kernel
theorem dX2_read_0 : decode cX2_read 0 = .ok (.aload_n 0, 1) := by decide +kernel
theorem dX2_read_1 : decode cX2_read 1 = .ok (.aload_n 1, 1) := by decide +kernel
theorem dX2_read_2 : decode cX2_read 2 = .ok (.putfield 9, 3) := by decide +kernel
theorem dX2_read_5 : decode cX2_read 5 = .ok (.aload_n 0, 1) := by decide +kernel
theorem dX2_read_6 : decode cX2_read 6 = .ok (.iload_n 2, 1) := by decide +kernel
theorem dX2_read_7 : decode cX2_read 7 = .ok (.putfield 15, 3) := by decide +kernel
theorem dX2_read_10 : decode cX2_read 10 = .ok (.aload_n 0, 1) := by decide +kernel
theorem dX2_read_11 : decode cX2_read 11 = .ok (.aload_n 3, 1) := by decide +kernel
theorem dX2_read_12 : decode cX2_read 12 = .ok (.putfield 19, 3) := by decide +kernel
theorem dX2_read_15 : decode cX2_read 15 = .ok (.aload_n 0, 1) := by decide +kernel
theorem dX2_read_16 : decode cX2_read 16 = .ok (.iconst 0, 1) := by decide +kernel
theorem dX2_read_17 : decode cX2_read 17 = .ok (.putfield 22, 3) := by decide +kernel
theorem dX2_read_20 : decode cX2_read 20 = .ok (.aload_n 0, 1) := by decide +kernel
theorem dX2_read_21 : decode cX2_read 21 = .ok (.iconst (-1), 1) := by decide +kernel
theorem dX2_read_22 : decode cX2_read 22 = .ok (.putfield 25, 3) := by decide +kernel
theorem dX2_read_25 : decode cX2_read 25 = .ok (.aload_n 0, 1) := by decide +kernel
theorem dX2_read_26 : decode cX2_read 26 = .ok (.invokevirtual 28, 3) := by decide +kernel
theorem dX2_read_29 : decode cX2_read 29 = .ok (.aload_n 0, 1) := by decide +kernel
theorem dX2_read_30 : decode cX2_read 30 = .ok (.iconst 0, 1) := by decide +kernel
theorem dX2_read_31 : decode cX2_read 31 = .ok (.invokevirtual 31, 3) := by decide +kernel
theorem dX2_read_34 : decode cX2_read 34 = .ok (.istore 4, 2) := by decide +kernel
theorem dX2_read_36 : decode cX2_read 36 = .ok (.aload_n 0, 1) := by decide +kernel
theorem dX2_read_37 : decode cX2_read 37 = .ok (.iconst 0, 1) := by decide +kernel
theorem dX2_read_38 : decode cX2_read 38 = .ok (.invokevirtual 35, 3) := by decide +kernel
theorem dX2_read_41 : decode cX2_read 41 = .ok (.iload 4, 2) := by decide +kernel
theorem dX2_read_43 : decode cX2_read 43 = .ok (.ireturn, 1) := by decide +kernel
theorem dX2_readText_0 : decode cX2_readText 0 = .ok (.aload_n 0, 1) := by decide +kernel
theorem dX2_readText_1 : decode cX2_readText 1 = .ok (.iload_n 1, 1) := by decide +kernel
theorem dX2_readText_2 : decode cX2_readText 2 = .ok (.invokevirtual 39, 3) := by decide +kernel
theorem dX2_readText_5 : decode cX2_readText 5 = .ok (.istore_n 2, 1) := by decide +kernel
theorem dX2_readText_6 : decode cX2_readText 6 = .ok (.aload_n 0, 1) := by decide +kernel
theorem dX2_readText_7 : decode cX2_readText 7 = .ok (.getfield 42, 3) := by decide +kernel
theorem dX2_readText_10 : decode cX2_readText 10 = .ok (.istore_n 3, 1) := by decide +kernel
theorem dX2_readText_11 : decode cX2_readText 11 = .ok (.iload_n 3, 1) := by decide +kernel
theorem dX2_readText_12 : decode cX2_readText 12 = .ok (.bipush 60, 2) := by decide +kernel
theorem dX2_readText_14 : decode cX2_readText 14 = .ok (.if_icmp .eq 11, 3) := by decide +kernel
theorem dX2_readText_17 : decode cX2_readText 17 = .ok (.iload_n 3, 1) := by decide +kernel
theorem dX2_readText_18 : decode cX2_readText 18 = .ok (.bipush 61, 2) := by decide +kernel
theorem dX2_readText_20 : decode cX2_readText 20 = .ok (.if_icmp .eq 5, 3) := by decide +kernel
theorem dX2_readText_23 : decode cX2_readText 23 = .ok (.iload_n 2, 1) := by decide +kernel
theorem dX2_readText_24 : decode cX2_readText 24 = .ok (.ireturn, 1) := by decide +kernel
theorem dX2_readText_25 : decode cX2_readText 25 = .ok (.aload_n 0, 1) := by decide +kernel
theorem dX2_readText_26 : decode cX2_readText 26 = .ok (.invokevirtual 28, 3) := by decide +kernel
theorem dX2_readText_29 : decode cX2_readText 29 = .ok (.aload_n 0, 1) := by decide +kernel
theorem dX2_readText_30 : decode cX2_readText 30 = .ok (.iload_n 1, 1) := by decide +kernel
theorem dX2_readText_31 : decode cX2_readText 31 = .ok (.invokevirtual 39, 3) := by decide +kernel
theorem dX2_readText_34 : decode cX2_readText 34 = .ok (.istore 4, 2) := by decide +kernel
theorem dX2_readText_36 : decode cX2_readText 36 = .ok (.iload_n 3, 1) := by decide +kernel
theorem dX2_readText_37 : decode cX2_readText 37 = .ok (.bipush 60, 2) := by decide +kernel
theorem dX2_readText_39 : decode cX2_readText 39 = .ok (.if_icmp .ne 17, 3) := by decide +kernel
theorem dX2_readText_42 : decode cX2_readText 42 = .ok (.iload_n 2, 1) := by decide +kernel
theorem dX2_readText_43 : decode cX2_readText 43 = .ok (.iload 4, 2) := by decide +kernel
theorem dX2_readText_45 : decode cX2_readText 45 = .ok (.if_icmp .ge 7, 3) := by decide +kernel
theorem dX2_readText_48 : decode cX2_readText 48 = .ok (.iconst 1, 1) := by decide +kernel
theorem dX2_readText_49 : decode cX2_readText 49 = .ok (.goto 18, 3) := by decide +kernel
theorem dX2_readText_52 : decode cX2_readText 52 = .ok (.iconst 0, 1) := by decide +kernel
theorem dX2_readText_53 : decode cX2_readText 53 = .ok (.goto 14, 3) := by decide +kernel
theorem dX2_readText_56 : decode cX2_readText 56 = .ok (.iload_n 2, 1) := by decide +kernel
theorem dX2_readText_57 : decode cX2_readText 57 = .ok (.iload 4, 2) := by decide +kernel
theorem dX2_readText_59 : decode cX2_readText 59 = .ok (.if_icmp .ne 7, 3) := by decide +kernel
theorem dX2_readText_62 : decode cX2_readText 62 = .ok (.iconst 1, 1) := by decide +kernel
theorem dX2_readText_63 : decode cX2_readText 63 = .ok (.goto 4, 3) := by decide +kernel
theorem dX2_readText_66 : decode cX2_readText 66 = .ok (.iconst 0, 1) := by decide +kernel
theorem dX2_readText_67 : decode cX2_readText 67 = .ok (.invokestatic 45, 3) := by decide +kernel
theorem dX2_readText_70 : decode cX2_readText 70 = .ok (.ireturn, 1) := by decide +kernel
theorem dX2_readSum_0 : decode cX2_readSum 0 = .ok (.aload_n 0, 1) := by decide +kernel
theorem dX2_readSum_1 : decode cX2_readSum 1 = .ok (.iload_n 1, 1) := by decide +kernel
theorem dX2_readSum_2 : decode cX2_readSum 2 = .ok (.invokevirtual 49, 3) := by decide +kernel
theorem dX2_readSum_5 : decode cX2_readSum 5 = .ok (.istore_n 2, 1) := by decide +kernel
theorem dX2_readSum_6 : decode cX2_readSum 6 = .ok (.iconst 0, 1) := by decide +kernel
theorem dX2_readSum_7 : decode cX2_readSum 7 = .ok (.istore_n 3, 1) := by decide +kernel
theorem dX2_readSum_8 : decode cX2_readSum 8 = .ok (.iload_n 3, 1) := by decide +kernel
theorem dX2_readSum_9 : decode cX2_readSum 9 = .ok (.bipush 80, 2) := by decide +kernel
theorem dX2_readSum_11 : decode cX2_readSum 11 = .ok (.if_icmp .ge 63, 3) := by decide +kernel
theorem dX2_readSum_14 : decode cX2_readSum 14 = .ok (.aload_n 0, 1) := by decide +kernel
theorem dX2_readSum_15 : decode cX2_readSum 15 = .ok (.getfield 42, 3) := by decide +kernel
theorem dX2_readSum_18 : decode cX2_readSum 18 = .ok (.bipush 43, 2) := by decide +kernel
theorem dX2_readSum_20 : decode cX2_readSum 20 = .ok (.if_icmp .eq 12, 3) := by decide +kernel
theorem dX2_readSum_23 : decode cX2_readSum 23 = .ok (.aload_n 0, 1) := by decide +kernel
theorem dX2_readSum_24 : decode cX2_readSum 24 = .ok (.getfield 42, 3) := by decide +kernel
theorem dX2_readSum_27 : decode cX2_readSum 27 = .ok (.bipush 45, 2) := by decide +kernel
theorem dX2_readSum_29 : decode cX2_readSum 29 = .ok (.if_icmp .ne 45, 3) := by decide +kernel
theorem dX2_readSum_32 : decode cX2_readSum 32 = .ok (.aload_n 0, 1) := by decide +kernel
theorem dX2_readSum_33 : decode cX2_readSum 33 = .ok (.getfield 42, 3) := by decide +kernel
theorem dX2_readSum_36 : decode cX2_readSum 36 = .ok (.istore 4, 2) := by decide +kernel
theorem dX2_readSum_38 : decode cX2_readSum 38 = .ok (.aload_n 0, 1) := by decide +kernel
theorem dX2_readSum_39 : decode cX2_readSum 39 = .ok (.invokevirtual 28, 3) := by decide +kernel
theorem dX2_readSum_42 : decode cX2_readSum 42 = .ok (.aload_n 0, 1) := by decide +kernel
theorem dX2_readSum_43 : decode cX2_readSum 43 = .ok (.iload_n 1, 1) := by decide +kernel
theorem dX2_readSum_44 : decode cX2_readSum 44 = .ok (.invokevirtual 49, 3) := by decide +kernel
theorem dX2_readSum_47 : decode cX2_readSum 47 = .ok (.istore 5, 2) := by decide +kernel
theorem dX2_readSum_49 : decode cX2_readSum 49 = .ok (.iload 4, 2) := by decide +kernel
theorem dX2_readSum_51 : decode cX2_readSum 51 = .ok (.bipush 43, 2) := by decide +kernel
theorem dX2_readSum_53 : decode cX2_readSum 53 = .ok (.if_icmp .ne 10, 3) := by decide +kernel
theorem dX2_readSum_56 : decode cX2_readSum 56 = .ok (.iload_n 2, 1) := by decide +kernel
theorem dX2_readSum_57 : decode cX2_readSum 57 = .ok (.iload 5, 2) := by decide +kernel
theorem dX2_readSum_59 : decode cX2_readSum 59 = .ok (.iadd, 1) := by decide +kernel
theorem dX2_readSum_60 : decode cX2_readSum 60 = .ok (.goto 7, 3) := by decide +kernel
theorem dX2_readSum_63 : decode cX2_readSum 63 = .ok (.iload_n 2, 1) := by decide +kernel
theorem dX2_readSum_64 : decode cX2_readSum 64 = .ok (.iload 5, 2) := by decide +kernel
theorem dX2_readSum_66 : decode cX2_readSum 66 = .ok (.isub, 1) := by decide +kernel
theorem dX2_readSum_67 : decode cX2_readSum 67 = .ok (.istore_n 2, 1) := by decide +kernel
theorem dX2_readSum_68 : decode cX2_readSum 68 = .ok (.iinc 3 1, 3) := by decide +kernel
theorem dX2_readSum_71 : decode cX2_readSum 71 = .ok (.goto (-63), 3) := by decide +kernel
theorem dX2_readSum_74 : decode cX2_readSum 74 = .ok (.iload_n 2, 1) := by decide +kernel
theorem dX2_readSum_75 : decode cX2_readSum 75 = .ok (.ireturn, 1) := by decide +kernel
theorem dX2_readTerm_0 : decode cX2_readTerm 0 = .ok (.aload_n 0, 1) := by decide +kernel
theorem dX2_readTerm_1 : decode cX2_readTerm 1 = .ok (.iload_n 1, 1) := by decide +kernel
theorem dX2_readTerm_2 : decode cX2_readTerm 2 = .ok (.invokevirtual 52, 3) := by decide +kernel
theorem dX2_readTerm_5 : decode cX2_readTerm 5 = .ok (.istore_n 2, 1) := by decide +kernel
theorem dX2_readTerm_6 : decode cX2_readTerm 6 = .ok (.iconst 0, 1) := by decide +kernel
theorem dX2_readTerm_7 : decode cX2_readTerm 7 = .ok (.istore_n 3, 1) := by decide +kernel
theorem dX2_readTerm_8 : decode cX2_readTerm 8 = .ok (.iload_n 3, 1) := by decide +kernel
theorem dX2_readTerm_9 : decode cX2_readTerm 9 = .ok (.bipush 80, 2) := by decide +kernel
theorem dX2_readTerm_11 : decode cX2_readTerm 11 = .ok (.if_icmp .ge 65, 3) := by decide +kernel
theorem dX2_readTerm_14 : decode cX2_readTerm 14 = .ok (.aload_n 0, 1) := by decide +kernel
theorem dX2_readTerm_15 : decode cX2_readTerm 15 = .ok (.getfield 42, 3) := by decide +kernel
theorem dX2_readTerm_18 : decode cX2_readTerm 18 = .ok (.bipush 42, 2) := by decide +kernel
theorem dX2_readTerm_20 : decode cX2_readTerm 20 = .ok (.if_icmp .eq 12, 3) := by decide +kernel
theorem dX2_readTerm_23 : decode cX2_readTerm 23 = .ok (.aload_n 0, 1) := by decide +kernel
theorem dX2_readTerm_24 : decode cX2_readTerm 24 = .ok (.getfield 42, 3) := by decide +kernel
theorem dX2_readTerm_27 : decode cX2_readTerm 27 = .ok (.bipush 47, 2) := by decide +kernel
theorem dX2_readTerm_29 : decode cX2_readTerm 29 = .ok (.if_icmp .ne 47, 3) := by decide +kernel
theorem dX2_readTerm_32 : decode cX2_readTerm 32 = .ok (.aload_n 0, 1) := by decide +kernel
theorem dX2_readTerm_33 : decode cX2_readTerm 33 = .ok (.getfield 42, 3) := by decide +kernel
theorem dX2_readTerm_36 : decode cX2_readTerm 36 = .ok (.istore 4, 2) := by decide +kernel
theorem dX2_readTerm_38 : decode cX2_readTerm 38 = .ok (.aload_n 0, 1) := by decide +kernel
theorem dX2_readTerm_39 : decode cX2_readTerm 39 = .ok (.invokevirtual 28, 3) := by decide +kernel
theorem dX2_readTerm_42 : decode cX2_readTerm 42 = .ok (.aload_n 0, 1) := by decide +kernel
theorem dX2_readTerm_43 : decode cX2_readTerm 43 = .ok (.iload_n 1, 1) := by decide +kernel
theorem dX2_readTerm_44 : decode cX2_readTerm 44 = .ok (.invokevirtual 52, 3) := by decide +kernel
theorem dX2_readTerm_47 : decode cX2_readTerm 47 = .ok (.istore 5, 2) := by decide +kernel
theorem dX2_readTerm_49 : decode cX2_readTerm 49 = .ok (.iload 4, 2) := by decide +kernel
theorem dX2_readTerm_51 : decode cX2_readTerm 51 = .ok (.bipush 42, 2) := by decide +kernel
theorem dX2_readTerm_53 : decode cX2_readTerm 53 = .ok (.if_icmp .ne 10, 3) := by decide +kernel
theorem dX2_readTerm_56 : decode cX2_readTerm 56 = .ok (.iload_n 2, 1) := by decide +kernel
theorem dX2_readTerm_57 : decode cX2_readTerm 57 = .ok (.iload 5, 2) := by decide +kernel
theorem dX2_readTerm_59 : decode cX2_readTerm 59 = .ok (.imul, 1) := by decide +kernel
theorem dX2_readTerm_60 : decode cX2_readTerm 60 = .ok (.goto 9, 3) := by decide +kernel
theorem dX2_readTerm_63 : decode cX2_readTerm 63 = .ok (.iload_n 2, 1) := by decide +kernel
theorem dX2_readTerm_64 : decode cX2_readTerm 64 = .ok (.iload 5, 2) := by decide +kernel
theorem dX2_readTerm_66 : decode cX2_readTerm 66 = .ok (.invokestatic 55, 3) := by decide +kernel
theorem dX2_readTerm_69 : decode cX2_readTerm 69 = .ok (.istore_n 2, 1) := by decide +kernel
theorem dX2_readTerm_70 : decode cX2_readTerm 70 = .ok (.iinc 3 1, 3) := by decide +kernel
theorem dX2_readTerm_73 : decode cX2_readTerm 73 = .ok (.goto (-65), 3) := by decide +kernel
theorem dX2_readTerm_76 : decode cX2_readTerm 76 = .ok (.iload_n 2, 1) := by decide +kernel
theorem dX2_readTerm_77 : decode cX2_readTerm 77 = .ok (.ireturn, 1) := by decide +kernel
theorem dX2_readOne_0 : decode cX2_readOne 0 = .ok (.aload_n 0, 1) := by decide +kernel
theorem dX2_readOne_1 : decode cX2_readOne 1 = .ok (.getfield 42, 3) := by decide +kernel
theorem dX2_readOne_4 : decode cX2_readOne 4 = .ok (.istore_n 2, 1) := by decide +kernel
theorem dX2_readOne_5 : decode cX2_readOne 5 = .ok (.aload_n 0, 1) := by decide +kernel
theorem dX2_readOne_6 : decode cX2_readOne 6 = .ok (.getfield 59, 3) := by decide +kernel
theorem dX2_readOne_9 : decode cX2_readOne 9 = .ok (.istore_n 3, 1) := by decide +kernel
theorem dX2_readOne_10 : decode cX2_readOne 10 = .ok (.iload_n 2, 1) := by decide +kernel
theorem dX2_readOne_11 : decode cX2_readOne 11 = .ok (.iconst 2, 1) := by decide +kernel
theorem dX2_readOne_12 : decode cX2_readOne 12 = .ok (.if_icmp .eq 8, 3) := by decide +kernel
theorem dX2_readOne_15 : decode cX2_readOne 15 = .ok (.iload_n 2, 1) := by decide +kernel
theorem dX2_readOne_16 : decode cX2_readOne 16 = .ok (.iconst 3, 1) := by decide +kernel
theorem dX2_readOne_17 : decode cX2_readOne 17 = .ok (.if_icmp .ne 9, 3) := by decide +kernel
theorem dX2_readOne_20 : decode cX2_readOne 20 = .ok (.aload_n 0, 1) := by decide +kernel
theorem dX2_readOne_21 : decode cX2_readOne 21 = .ok (.invokevirtual 28, 3) := by decide +kernel
theorem dX2_readOne_24 : decode cX2_readOne 24 = .ok (.iload_n 3, 1) := by decide +kernel
theorem dX2_readOne_25 : decode cX2_readOne 25 = .ok (.ireturn, 1) := by decide +kernel
theorem dX2_readOne_26 : decode cX2_readOne 26 = .ok (.iload_n 2, 1) := by decide +kernel
theorem dX2_readOne_27 : decode cX2_readOne 27 = .ok (.bipush 45, 2) := by decide +kernel
theorem dX2_readOne_29 : decode cX2_readOne 29 = .ok (.if_icmp .eq 9, 3) := by decide +kernel
theorem dX2_readOne_32 : decode cX2_readOne 32 = .ok (.iload_n 2, 1) := by decide +kernel
theorem dX2_readOne_33 : decode cX2_readOne 33 = .ok (.bipush 40, 2) := by decide +kernel
theorem dX2_readOne_35 : decode cX2_readOne 35 = .ok (.if_icmp .ne 9, 3) := by decide +kernel
theorem dX2_readOne_38 : decode cX2_readOne 38 = .ok (.iload_n 1, 1) := by decide +kernel
theorem dX2_readOne_39 : decode cX2_readOne 39 = .ok (.bipush 6, 2) := by decide +kernel
theorem dX2_readOne_41 : decode cX2_readOne 41 = .ok (.if_icmp .lt 9, 3) := by decide +kernel
theorem dX2_readOne_44 : decode cX2_readOne 44 = .ok (.aload_n 0, 1) := by decide +kernel
theorem dX2_readOne_45 : decode cX2_readOne 45 = .ok (.invokevirtual 62, 3) := by decide +kernel
theorem dX2_readOne_48 : decode cX2_readOne 48 = .ok (.iconst 0, 1) := by decide +kernel
theorem dX2_readOne_49 : decode cX2_readOne 49 = .ok (.ireturn, 1) := by decide +kernel
theorem dX2_readOne_50 : decode cX2_readOne 50 = .ok (.aload_n 0, 1) := by decide +kernel
theorem dX2_readOne_51 : decode cX2_readOne 51 = .ok (.invokevirtual 28, 3) := by decide +kernel
theorem dX2_readOne_54 : decode cX2_readOne 54 = .ok (.iload_n 2, 1) := by decide +kernel
theorem dX2_readOne_55 : decode cX2_readOne 55 = .ok (.bipush 45, 2) := by decide +kernel
theorem dX2_readOne_57 : decode cX2_readOne 57 = .ok (.if_icmp .ne 12, 3) := by decide +kernel
theorem dX2_readOne_60 : decode cX2_readOne 60 = .ok (.aload_n 0, 1) := by decide +kernel
theorem dX2_readOne_61 : decode cX2_readOne 61 = .ok (.iload_n 1, 1) := by decide +kernel
theorem dX2_readOne_62 : decode cX2_readOne 62 = .ok (.iconst 1, 1) := by decide +kernel
theorem dX2_readOne_63 : decode cX2_readOne 63 = .ok (.iadd, 1) := by decide +kernel
theorem dX2_readOne_64 : decode cX2_readOne 64 = .ok (.invokevirtual 52, 3) := by decide +kernel
theorem dX2_readOne_67 : decode cX2_readOne 67 = .ok (.ineg, 1) := by decide +kernel
theorem dX2_readOne_68 : decode cX2_readOne 68 = .ok (.ireturn, 1) := by decide +kernel
theorem dX2_readOne_69 : decode cX2_readOne 69 = .ok (.aload_n 0, 1) := by decide +kernel
theorem dX2_readOne_70 : decode cX2_readOne 70 = .ok (.iload_n 1, 1) := by decide +kernel
theorem dX2_readOne_71 : decode cX2_readOne 71 = .ok (.iconst 1, 1) := by decide +kernel
theorem dX2_readOne_72 : decode cX2_readOne 72 = .ok (.iadd, 1) := by decide +kernel
theorem dX2_readOne_73 : decode cX2_readOne 73 = .ok (.invokevirtual 31, 3) := by decide +kernel
theorem dX2_readOne_76 : decode cX2_readOne 76 = .ok (.istore_n 3, 1) := by decide +kernel
theorem dX2_readOne_77 : decode cX2_readOne 77 = .ok (.aload_n 0, 1) := by decide +kernel
theorem dX2_readOne_78 : decode cX2_readOne 78 = .ok (.bipush 41, 2) := by decide +kernel
theorem dX2_readOne_80 : decode cX2_readOne 80 = .ok (.invokevirtual 35, 3) := by decide +kernel
theorem dX2_readOne_83 : decode cX2_readOne 83 = .ok (.iload_n 3, 1) := by decide +kernel
theorem dX2_readOne_84 : decode cX2_readOne 84 = .ok (.ireturn, 1) := by decide +kernel
theorem dX2_take_0 : decode cX2_take 0 = .ok (.aload_n 0, 1) := by decide +kernel
theorem dX2_take_1 : decode cX2_take 1 = .ok (.getfield 42, 3) := by decide +kernel
theorem dX2_take_4 : decode cX2_take 4 = .ok (.iload_n 1, 1) := by decide +kernel
theorem dX2_take_5 : decode cX2_take 5 = .ok (.if_icmp .ne 10, 3) := by decide +kernel
theorem dX2_take_8 : decode cX2_take 8 = .ok (.aload_n 0, 1) := by decide +kernel
theorem dX2_take_9 : decode cX2_take 9 = .ok (.invokevirtual 28, 3) := by decide +kernel
theorem dX2_take_12 : decode cX2_take 12 = .ok (.goto 7, 3) := by decide +kernel
theorem dX2_take_15 : decode cX2_take 15 = .ok (.aload_n 0, 1) := by decide +kernel
theorem dX2_take_16 : decode cX2_take 16 = .ok (.invokevirtual 62, 3) := by decide +kernel
theorem dX2_take_19 : decode cX2_take 19 = .ok (.return_, 1) := by decide +kernel
theorem dX2_fail_0 : decode cX2_fail 0 = .ok (.aload_n 0, 1) := by decide +kernel
theorem dX2_fail_1 : decode cX2_fail 1 = .ok (.getfield 25, 3) := by decide +kernel
theorem dX2_fail_4 : decode cX2_fail 4 = .ok (.ifCond .ge 11, 3) := by decide +kernel
theorem dX2_fail_7 : decode cX2_fail 7 = .ok (.aload_n 0, 1) := by decide +kernel
theorem dX2_fail_8 : decode cX2_fail 8 = .ok (.aload_n 0, 1) := by decide +kernel
theorem dX2_fail_9 : decode cX2_fail 9 = .ok (.getfield 65, 3) := by decide +kernel
theorem dX2_fail_12 : decode cX2_fail 12 = .ok (.putfield 25, 3) := by decide +kernel
theorem dX2_fail_15 : decode cX2_fail 15 = .ok (.aload_n 0, 1) := by decide +kernel
theorem dX2_fail_16 : decode cX2_fail 16 = .ok (.iconst 1, 1) := by decide +kernel
theorem dX2_fail_17 : decode cX2_fail 17 = .ok (.putfield 42, 3) := by decide +kernel
theorem dX2_fail_20 : decode cX2_fail 20 = .ok (.return_, 1) := by decide +kernel
theorem dX2_step_0 : decode cX2_step 0 = .ok (.aload_n 0, 1) := by decide +kernel
theorem dX2_step_1 : decode cX2_step 1 = .ok (.getfield 22, 3) := by decide +kernel
theorem dX2_step_4 : decode cX2_step 4 = .ok (.aload_n 0, 1) := by decide +kernel
theorem dX2_step_5 : decode cX2_step 5 = .ok (.getfield 15, 3) := by decide +kernel
theorem dX2_step_8 : decode cX2_step 8 = .ok (.if_icmp .ge 30, 3) := by decide +kernel
theorem dX2_step_11 : decode cX2_step 11 = .ok (.aload_n 0, 1) := by decide +kernel
theorem dX2_step_12 : decode cX2_step 12 = .ok (.getfield 9, 3) := by decide +kernel
theorem dX2_step_15 : decode cX2_step 15 = .ok (.aload_n 0, 1) := by decide +kernel
theorem dX2_step_16 : decode cX2_step 16 = .ok (.getfield 22, 3) := by decide +kernel
theorem dX2_step_19 : decode cX2_step 19 = .ok (.iaload, 1) := by decide +kernel
theorem dX2_step_20 : decode cX2_step 20 = .ok (.bipush 32, 2) := by decide +kernel
theorem dX2_step_22 : decode cX2_step 22 = .ok (.if_icmp .ne 16, 3) := by decide +kernel
theorem dX2_step_25 : decode cX2_step 25 = .ok (.aload_n 0, 1) := by decide +kernel
theorem dX2_step_26 : decode cX2_step 26 = .ok (.dup, 1) := by decide +kernel
theorem dX2_step_27 : decode cX2_step 27 = .ok (.getfield 22, 3) := by decide +kernel
theorem dX2_step_30 : decode cX2_step 30 = .ok (.iconst 1, 1) := by decide +kernel
theorem dX2_step_31 : decode cX2_step 31 = .ok (.iadd, 1) := by decide +kernel
theorem dX2_step_32 : decode cX2_step 32 = .ok (.putfield 22, 3) := by decide +kernel
theorem dX2_step_35 : decode cX2_step 35 = .ok (.goto (-35), 3) := by decide +kernel
theorem dX2_step_38 : decode cX2_step 38 = .ok (.aload_n 0, 1) := by decide +kernel
theorem dX2_step_39 : decode cX2_step 39 = .ok (.aload_n 0, 1) := by decide +kernel
theorem dX2_step_40 : decode cX2_step 40 = .ok (.getfield 22, 3) := by decide +kernel
theorem dX2_step_43 : decode cX2_step 43 = .ok (.putfield 65, 3) := by decide +kernel
theorem dX2_step_46 : decode cX2_step 46 = .ok (.aload_n 0, 1) := by decide +kernel
theorem dX2_step_47 : decode cX2_step 47 = .ok (.getfield 22, 3) := by decide +kernel
theorem dX2_step_50 : decode cX2_step 50 = .ok (.aload_n 0, 1) := by decide +kernel
theorem dX2_step_51 : decode cX2_step 51 = .ok (.getfield 15, 3) := by decide +kernel
theorem dX2_step_54 : decode cX2_step 54 = .ok (.if_icmp .lt 9, 3) := by decide +kernel
theorem dX2_step_57 : decode cX2_step 57 = .ok (.aload_n 0, 1) := by decide +kernel
theorem dX2_step_58 : decode cX2_step 58 = .ok (.iconst 0, 1) := by decide +kernel
theorem dX2_step_59 : decode cX2_step 59 = .ok (.putfield 42, 3) := by decide +kernel
theorem dX2_step_62 : decode cX2_step 62 = .ok (.return_, 1) := by decide +kernel
theorem dX2_step_63 : decode cX2_step 63 = .ok (.aload_n 0, 1) := by decide +kernel
theorem dX2_step_64 : decode cX2_step 64 = .ok (.getfield 9, 3) := by decide +kernel
theorem dX2_step_67 : decode cX2_step 67 = .ok (.aload_n 0, 1) := by decide +kernel
theorem dX2_step_68 : decode cX2_step 68 = .ok (.getfield 22, 3) := by decide +kernel
theorem dX2_step_71 : decode cX2_step 71 = .ok (.iaload, 1) := by decide +kernel
theorem dX2_step_72 : decode cX2_step 72 = .ok (.istore_n 1, 1) := by decide +kernel
theorem dX2_step_73 : decode cX2_step 73 = .ok (.iload_n 1, 1) := by decide +kernel
theorem dX2_step_74 : decode cX2_step 74 = .ok (.invokestatic 68, 3) := by decide +kernel
theorem dX2_step_77 : decode cX2_step 77 = .ok (.ifCond .eq 8, 3) := by decide +kernel
theorem dX2_step_80 : decode cX2_step 80 = .ok (.aload_n 0, 1) := by decide +kernel
theorem dX2_step_81 : decode cX2_step 81 = .ok (.invokevirtual 72, 3) := by decide +kernel
theorem dX2_step_84 : decode cX2_step 84 = .ok (.return_, 1) := by decide +kernel
theorem dX2_step_85 : decode cX2_step 85 = .ok (.aload_n 0, 1) := by decide +kernel
theorem dX2_step_86 : decode cX2_step 86 = .ok (.dup, 1) := by decide +kernel
theorem dX2_step_87 : decode cX2_step 87 = .ok (.getfield 22, 3) := by decide +kernel
theorem dX2_step_90 : decode cX2_step 90 = .ok (.iconst 1, 1) := by decide +kernel
theorem dX2_step_91 : decode cX2_step 91 = .ok (.iadd, 1) := by decide +kernel
theorem dX2_step_92 : decode cX2_step 92 = .ok (.putfield 22, 3) := by decide +kernel
theorem dX2_step_95 : decode cX2_step 95 = .ok (.ldc 75, 2) := by decide +kernel
theorem dX2_step_97 : decode cX2_step 97 = .ok (.iload_n 1, 1) := by decide +kernel
theorem dX2_step_98 : decode cX2_step 98 = .ok (.i2c, 1) := by decide +kernel
theorem dX2_step_99 : decode cX2_step 99 = .ok (.invokevirtual 77, 3) := by decide +kernel
theorem dX2_step_102 : decode cX2_step 102 = .ok (.istore_n 2, 1) := by decide +kernel
theorem dX2_step_103 : decode cX2_step 103 = .ok (.iload_n 2, 1) := by decide +kernel
theorem dX2_step_104 : decode cX2_step 104 = .ok (.ifCond .lt 21, 3) := by decide +kernel
theorem dX2_step_107 : decode cX2_step 107 = .ok (.aload_n 0, 1) := by decide +kernel
theorem dX2_step_108 : decode cX2_step 108 = .ok (.iconst 3, 1) := by decide +kernel
theorem dX2_step_109 : decode cX2_step 109 = .ok (.putfield 42, 3) := by decide +kernel
theorem dX2_step_112 : decode cX2_step 112 = .ok (.aload_n 0, 1) := by decide +kernel
theorem dX2_step_113 : decode cX2_step 113 = .ok (.aload_n 0, 1) := by decide +kernel
theorem dX2_step_114 : decode cX2_step 114 = .ok (.getfield 19, 3) := by decide +kernel
theorem dX2_step_117 : decode cX2_step 117 = .ok (.iload_n 2, 1) := by decide +kernel
theorem dX2_step_118 : decode cX2_step 118 = .ok (.iaload, 1) := by decide +kernel
theorem dX2_step_119 : decode cX2_step 119 = .ok (.putfield 59, 3) := by decide +kernel
theorem dX2_step_122 : decode cX2_step 122 = .ok (.goto 19, 3) := by decide +kernel
theorem dX2_step_125 : decode cX2_step 125 = .ok (.aload_n 0, 1) := by decide +kernel
theorem dX2_step_126 : decode cX2_step 126 = .ok (.iload_n 1, 1) := by decide +kernel
theorem dX2_step_127 : decode cX2_step 127 = .ok (.invokestatic 82, 3) := by decide +kernel
theorem dX2_step_130 : decode cX2_step 130 = .ok (.ifCond .eq 7, 3) := by decide +kernel
theorem dX2_step_133 : decode cX2_step 133 = .ok (.iload_n 1, 1) := by decide +kernel
theorem dX2_step_134 : decode cX2_step 134 = .ok (.goto 4, 3) := by decide +kernel
theorem dX2_step_137 : decode cX2_step 137 = .ok (.iconst 1, 1) := by decide +kernel
theorem dX2_step_138 : decode cX2_step 138 = .ok (.putfield 42, 3) := by decide +kernel
theorem dX2_step_141 : decode cX2_step 141 = .ok (.return_, 1) := by decide +kernel
theorem dX2_stepNumber_0 : decode cX2_stepNumber 0 = .ok (.iconst 0, 1) := by decide +kernel
theorem dX2_stepNumber_1 : decode cX2_stepNumber 1 = .ok (.istore_n 1, 1) := by decide +kernel
theorem dX2_stepNumber_2 : decode cX2_stepNumber 2 = .ok (.aload_n 0, 1) := by decide +kernel
theorem dX2_stepNumber_3 : decode cX2_stepNumber 3 = .ok (.getfield 22, 3) := by decide +kernel
theorem dX2_stepNumber_6 : decode cX2_stepNumber 6 = .ok (.aload_n 0, 1) := by decide +kernel
theorem dX2_stepNumber_7 : decode cX2_stepNumber 7 = .ok (.getfield 15, 3) := by decide +kernel
theorem dX2_stepNumber_10 : decode cX2_stepNumber 10 = .ok (.if_icmp .ge 55, 3) := by decide +kernel
theorem dX2_stepNumber_13 : decode cX2_stepNumber 13 = .ok (.aload_n 0, 1) := by decide +kernel
theorem dX2_stepNumber_14 : decode cX2_stepNumber 14 = .ok (.getfield 9, 3) := by decide +kernel
theorem dX2_stepNumber_17 : decode cX2_stepNumber 17 = .ok (.aload_n 0, 1) := by decide +kernel
theorem dX2_stepNumber_18 : decode cX2_stepNumber 18 = .ok (.getfield 22, 3) := by decide +kernel
theorem dX2_stepNumber_21 : decode cX2_stepNumber 21 = .ok (.iaload, 1) := by decide +kernel
theorem dX2_stepNumber_22 : decode cX2_stepNumber 22 = .ok (.invokestatic 68, 3) := by decide +kernel
theorem dX2_stepNumber_25 : decode cX2_stepNumber 25 = .ok (.ifCond .eq 40, 3) := by decide +kernel
theorem dX2_stepNumber_28 : decode cX2_stepNumber 28 = .ok (.iload_n 1, 1) := by decide +kernel
theorem dX2_stepNumber_29 : decode cX2_stepNumber 29 = .ok (.bipush 10, 2) := by decide +kernel
theorem dX2_stepNumber_31 : decode cX2_stepNumber 31 = .ok (.imul, 1) := by decide +kernel
theorem dX2_stepNumber_32 : decode cX2_stepNumber 32 = .ok (.aload_n 0, 1) := by decide +kernel
theorem dX2_stepNumber_33 : decode cX2_stepNumber 33 = .ok (.getfield 9, 3) := by decide +kernel
theorem dX2_stepNumber_36 : decode cX2_stepNumber 36 = .ok (.aload_n 0, 1) := by decide +kernel
theorem dX2_stepNumber_37 : decode cX2_stepNumber 37 = .ok (.getfield 22, 3) := by decide +kernel
theorem dX2_stepNumber_40 : decode cX2_stepNumber 40 = .ok (.iaload, 1) := by decide +kernel
theorem dX2_stepNumber_41 : decode cX2_stepNumber 41 = .ok (.iadd, 1) := by decide +kernel
theorem dX2_stepNumber_42 : decode cX2_stepNumber 42 = .ok (.bipush 48, 2) := by decide +kernel
theorem dX2_stepNumber_44 : decode cX2_stepNumber 44 = .ok (.isub, 1) := by decide +kernel
theorem dX2_stepNumber_45 : decode cX2_stepNumber 45 = .ok (.sipush 10000, 3) := by decide +kernel
theorem dX2_stepNumber_48 : decode cX2_stepNumber 48 = .ok (.invokestatic 85, 3) := by decide +kernel
theorem dX2_stepNumber_51 : decode cX2_stepNumber 51 = .ok (.istore_n 1, 1) := by decide +kernel
theorem dX2_stepNumber_52 : decode cX2_stepNumber 52 = .ok (.aload_n 0, 1) := by decide +kernel
theorem dX2_stepNumber_53 : decode cX2_stepNumber 53 = .ok (.dup, 1) := by decide +kernel
theorem dX2_stepNumber_54 : decode cX2_stepNumber 54 = .ok (.getfield 22, 3) := by decide +kernel
theorem dX2_stepNumber_57 : decode cX2_stepNumber 57 = .ok (.iconst 1, 1) := by decide +kernel
theorem dX2_stepNumber_58 : decode cX2_stepNumber 58 = .ok (.iadd, 1) := by decide +kernel
theorem dX2_stepNumber_59 : decode cX2_stepNumber 59 = .ok (.putfield 22, 3) := by decide +kernel
theorem dX2_stepNumber_62 : decode cX2_stepNumber 62 = .ok (.goto (-60), 3) := by decide +kernel
theorem dX2_stepNumber_65 : decode cX2_stepNumber 65 = .ok (.aload_n 0, 1) := by decide +kernel
theorem dX2_stepNumber_66 : decode cX2_stepNumber 66 = .ok (.iload_n 1, 1) := by decide +kernel
theorem dX2_stepNumber_67 : decode cX2_stepNumber 67 = .ok (.sipush 9999, 3) := by decide +kernel
theorem dX2_stepNumber_70 : decode cX2_stepNumber 70 = .ok (.if_icmp .le 7, 3) := by decide +kernel
theorem dX2_stepNumber_73 : decode cX2_stepNumber 73 = .ok (.iconst 1, 1) := by decide +kernel
theorem dX2_stepNumber_74 : decode cX2_stepNumber 74 = .ok (.goto 4, 3) := by decide +kernel
theorem dX2_stepNumber_77 : decode cX2_stepNumber 77 = .ok (.iconst 2, 1) := by decide +kernel
theorem dX2_stepNumber_78 : decode cX2_stepNumber 78 = .ok (.putfield 42, 3) := by decide +kernel
theorem dX2_stepNumber_81 : decode cX2_stepNumber 81 = .ok (.aload_n 0, 1) := by decide +kernel
theorem dX2_stepNumber_82 : decode cX2_stepNumber 82 = .ok (.iload_n 1, 1) := by decide +kernel
theorem dX2_stepNumber_83 : decode cX2_stepNumber 83 = .ok (.putfield 59, 3) := by decide +kernel
theorem dX2_stepNumber_86 : decode cX2_stepNumber 86 = .ok (.return_, 1) := by decide +kernel
theorem dX2_isDigit_0 : decode cX2_isDigit 0 = .ok (.iload_n 0, 1) := by decide +kernel
theorem dX2_isDigit_1 : decode cX2_isDigit 1 = .ok (.bipush 48, 2) := by decide +kernel
theorem dX2_isDigit_3 : decode cX2_isDigit 3 = .ok (.if_icmp .lt 13, 3) := by decide +kernel
theorem dX2_isDigit_6 : decode cX2_isDigit 6 = .ok (.iload_n 0, 1) := by decide +kernel
theorem dX2_isDigit_7 : decode cX2_isDigit 7 = .ok (.bipush 57, 2) := by decide +kernel
theorem dX2_isDigit_9 : decode cX2_isDigit 9 = .ok (.if_icmp .gt 7, 3) := by decide +kernel
theorem dX2_isDigit_12 : decode cX2_isDigit 12 = .ok (.iconst 1, 1) := by decide +kernel
theorem dX2_isDigit_13 : decode cX2_isDigit 13 = .ok (.goto 4, 3) := by decide +kernel
theorem dX2_isDigit_16 : decode cX2_isDigit 16 = .ok (.iconst 0, 1) := by decide +kernel
theorem dX2_isDigit_17 : decode cX2_isDigit 17 = .ok (.ireturn, 1) := by decide +kernel
theorem dX2_isMark_0 : decode cX2_isMark 0 = .ok (.iload_n 0, 1) := by decide +kernel
theorem dX2_isMark_1 : decode cX2_isMark 1 = .ok (.bipush 40, 2) := by decide +kernel
theorem dX2_isMark_3 : decode cX2_isMark 3 = .ok (.if_icmp .lt 9, 3) := by decide +kernel
theorem dX2_isMark_6 : decode cX2_isMark 6 = .ok (.iload_n 0, 1) := by decide +kernel
theorem dX2_isMark_7 : decode cX2_isMark 7 = .ok (.bipush 43, 2) := by decide +kernel
theorem dX2_isMark_9 : decode cX2_isMark 9 = .ok (.if_icmp .le 27, 3) := by decide +kernel
theorem dX2_isMark_12 : decode cX2_isMark 12 = .ok (.iload_n 0, 1) := by decide +kernel
theorem dX2_isMark_13 : decode cX2_isMark 13 = .ok (.bipush 45, 2) := by decide +kernel
theorem dX2_isMark_15 : decode cX2_isMark 15 = .ok (.if_icmp .eq 21, 3) := by decide +kernel
theorem dX2_isMark_18 : decode cX2_isMark 18 = .ok (.iload_n 0, 1) := by decide +kernel
theorem dX2_isMark_19 : decode cX2_isMark 19 = .ok (.bipush 47, 2) := by decide +kernel
theorem dX2_isMark_21 : decode cX2_isMark 21 = .ok (.if_icmp .eq 15, 3) := by decide +kernel
theorem dX2_isMark_24 : decode cX2_isMark 24 = .ok (.iload_n 0, 1) := by decide +kernel
theorem dX2_isMark_25 : decode cX2_isMark 25 = .ok (.bipush 60, 2) := by decide +kernel
theorem dX2_isMark_27 : decode cX2_isMark 27 = .ok (.if_icmp .eq 9, 3) := by decide +kernel
theorem dX2_isMark_30 : decode cX2_isMark 30 = .ok (.iload_n 0, 1) := by decide +kernel
theorem dX2_isMark_31 : decode cX2_isMark 31 = .ok (.bipush 61, 2) := by decide +kernel
theorem dX2_isMark_33 : decode cX2_isMark 33 = .ok (.if_icmp .ne 7, 3) := by decide +kernel
theorem dX2_isMark_36 : decode cX2_isMark 36 = .ok (.iconst 1, 1) := by decide +kernel
theorem dX2_isMark_37 : decode cX2_isMark 37 = .ok (.goto 4, 3) := by decide +kernel
theorem dX2_isMark_40 : decode cX2_isMark 40 = .ok (.iconst 0, 1) := by decide +kernel
theorem dX2_isMark_41 : decode cX2_isMark 41 = .ok (.ireturn, 1) := by decide +kernel
theorem dX3_init_0 : decode cX3_init 0 = .ok (.aload_n 0, 1) := by decide +kernel
theorem dX3_init_1 : decode cX3_init 1 = .ok (.invokespecial 3, 3) := by decide +kernel
theorem dX3_init_4 : decode cX3_init 4 = .ok (.aload_n 0, 1) := by decide +kernel
theorem dX3_init_5 : decode cX3_init 5 = .ok (.new 9, 3) := by decide +kernel
theorem dX3_init_8 : decode cX3_init 8 = .ok (.dup, 1) := by decide +kernel
theorem dX3_init_9 : decode cX3_init 9 = .ok (.invokespecial 11, 3) := by decide +kernel
theorem dX3_init_12 : decode cX3_init 12 = .ok (.putfield 12, 3) := by decide +kernel
theorem dX3_init_15 : decode cX3_init 15 = .ok (.aload_n 0, 1) := by decide +kernel
theorem dX3_init_16 : decode cX3_init 16 = .ok (.new 18, 3) := by decide +kernel
theorem dX3_init_19 : decode cX3_init 19 = .ok (.dup, 1) := by decide +kernel
theorem dX3_init_20 : decode cX3_init 20 = .ok (.invokespecial 20, 3) := by decide +kernel
theorem dX3_init_23 : decode cX3_init 23 = .ok (.putfield 21, 3) := by decide +kernel
theorem dX3_init_26 : decode cX3_init 26 = .ok (.aload_n 0, 1) := by decide +kernel
theorem dX3_init_27 : decode cX3_init 27 = .ok (.new 25, 3) := by decide +kernel
theorem dX3_init_30 : decode cX3_init 30 = .ok (.dup, 1) := by decide +kernel
theorem dX3_init_31 : decode cX3_init 31 = .ok (.invokespecial 27, 3) := by decide +kernel
theorem dX3_init_34 : decode cX3_init 34 = .ok (.putfield 28, 3) := by decide +kernel
theorem dX3_init_37 : decode cX3_init 37 = .ok (.aload_n 0, 1) := by decide +kernel
theorem dX3_init_38 : decode cX3_init 38 = .ok (.bipush 10, 2) := by decide +kernel
theorem dX3_init_40 : decode cX3_init 40 = .ok (.newarray .int, 2) := by decide +kernel
theorem dX3_init_42 : decode cX3_init 42 = .ok (.putfield 32, 3) := by decide +kernel
theorem dX3_init_45 : decode cX3_init 45 = .ok (.aload_n 0, 1) := by decide +kernel
theorem dX3_init_46 : decode cX3_init 46 = .ok (.iconst 1, 1) := by decide +kernel
theorem dX3_init_47 : decode cX3_init 47 = .ok (.putfield 36, 3) := by decide +kernel
theorem dX3_init_50 : decode cX3_init 50 = .ok (.iconst 0, 1) := by decide +kernel
theorem dX3_init_51 : decode cX3_init 51 = .ok (.istore_n 1, 1) := by decide +kernel
theorem dX3_init_52 : decode cX3_init 52 = .ok (.iload_n 1, 1) := by decide +kernel
theorem dX3_init_53 : decode cX3_init 53 = .ok (.bipush 10, 2) := by decide +kernel
theorem dX3_init_55 : decode cX3_init 55 = .ok (.if_icmp .ge 16, 3) := by decide +kernel
theorem dX3_init_58 : decode cX3_init 58 = .ok (.aload_n 0, 1) := by decide +kernel
theorem dX3_init_59 : decode cX3_init 59 = .ok (.getfield 32, 3) := by decide +kernel
theorem dX3_init_62 : decode cX3_init 62 = .ok (.iload_n 1, 1) := by decide +kernel
theorem dX3_init_63 : decode cX3_init 63 = .ok (.iconst (-1), 1) := by decide +kernel
theorem dX3_init_64 : decode cX3_init 64 = .ok (.iastore, 1) := by decide +kernel
theorem dX3_init_65 : decode cX3_init 65 = .ok (.iinc 1 1, 3) := by decide +kernel
theorem dX3_init_68 : decode cX3_init 68 = .ok (.goto (-16), 3) := by decide +kernel
theorem dX3_init_71 : decode cX3_init 71 = .ok (.return_, 1) := by decide +kernel
theorem dX3_isSpeaking_0 : decode cX3_isSpeaking 0 = .ok (.aload_n 0, 1) := by decide +kernel
theorem dX3_isSpeaking_1 : decode cX3_isSpeaking 1 = .ok (.getfield 12, 3) := by decide +kernel
theorem dX3_isSpeaking_4 : decode cX3_isSpeaking 4 = .ok (.getfield 40, 3) := by decide +kernel
theorem dX3_isSpeaking_7 : decode cX3_isSpeaking 7 = .ok (.iconst 0, 1) := by decide +kernel
theorem dX3_isSpeaking_8 : decode cX3_isSpeaking 8 = .ok (.aaload, 1) := by decide +kernel
theorem dX3_isSpeaking_9 : decode cX3_isSpeaking 9 = .ok (.iload_n 1, 1) := by decide +kernel
theorem dX3_isSpeaking_10 : decode cX3_isSpeaking 10 = .ok (.iaload, 1) := by decide +kernel
theorem dX3_isSpeaking_11 : decode cX3_isSpeaking 11 = .ok (.tableswitch 153 1 7 #[41, 48, 41, 55, 79, 105, 129], 41) := by decide +kernel
theorem dX3_isSpeaking_52 : decode cX3_isSpeaking 52 = .ok (.aload_n 0, 1) := by decide +kernel
theorem dX3_isSpeaking_53 : decode cX3_isSpeaking 53 = .ok (.iload_n 1, 1) := by decide +kernel
theorem dX3_isSpeaking_54 : decode cX3_isSpeaking 54 = .ok (.iload_n 2, 1) := by decide +kernel
theorem dX3_isSpeaking_55 : decode cX3_isSpeaking 55 = .ok (.invokevirtual 44, 3) := by decide +kernel
theorem dX3_isSpeaking_58 : decode cX3_isSpeaking 58 = .ok (.ireturn, 1) := by decide +kernel
theorem dX3_isSpeaking_59 : decode cX3_isSpeaking 59 = .ok (.aload_n 0, 1) := by decide +kernel
theorem dX3_isSpeaking_60 : decode cX3_isSpeaking 60 = .ok (.iload_n 1, 1) := by decide +kernel
theorem dX3_isSpeaking_61 : decode cX3_isSpeaking 61 = .ok (.iload_n 2, 1) := by decide +kernel
theorem dX3_isSpeaking_62 : decode cX3_isSpeaking 62 = .ok (.invokevirtual 48, 3) := by decide +kernel
theorem dX3_isSpeaking_65 : decode cX3_isSpeaking 65 = .ok (.ireturn, 1) := by decide +kernel
theorem dX3_isSpeaking_66 : decode cX3_isSpeaking 66 = .ok (.aload_n 0, 1) := by decide +kernel
theorem dX3_isSpeaking_67 : decode cX3_isSpeaking 67 = .ok (.iload_n 1, 1) := by decide +kernel
theorem dX3_isSpeaking_68 : decode cX3_isSpeaking 68 = .ok (.iload_n 2, 1) := by decide +kernel
theorem dX3_isSpeaking_69 : decode cX3_isSpeaking 69 = .ok (.invokevirtual 48, 3) := by decide +kernel
theorem dX3_isSpeaking_72 : decode cX3_isSpeaking 72 = .ok (.ifCond .eq 16, 3) := by decide +kernel
theorem dX3_isSpeaking_75 : decode cX3_isSpeaking 75 = .ok (.aload_n 0, 1) := by decide +kernel
theorem dX3_isSpeaking_76 : decode cX3_isSpeaking 76 = .ok (.iload_n 1, 1) := by decide +kernel
theorem dX3_isSpeaking_77 : decode cX3_isSpeaking 77 = .ok (.iload_n 2, 1) := by decide +kernel
theorem dX3_isSpeaking_78 : decode cX3_isSpeaking 78 = .ok (.invokevirtual 51, 3) := by decide +kernel
theorem dX3_isSpeaking_81 : decode cX3_isSpeaking 81 = .ok (.ifCond .eq 7, 3) := by decide +kernel
theorem dX3_isSpeaking_84 : decode cX3_isSpeaking 84 = .ok (.iconst 1, 1) := by decide +kernel
theorem dX3_isSpeaking_85 : decode cX3_isSpeaking 85 = .ok (.goto 4, 3) := by decide +kernel
theorem dX3_isSpeaking_88 : decode cX3_isSpeaking 88 = .ok (.iconst 0, 1) := by decide +kernel
theorem dX3_isSpeaking_89 : decode cX3_isSpeaking 89 = .ok (.ireturn, 1) := by decide +kernel
theorem dX3_isSpeaking_90 : decode cX3_isSpeaking 90 = .ok (.iload_n 2, 1) := by decide +kernel
theorem dX3_isSpeaking_91 : decode cX3_isSpeaking 91 = .ok (.iconst 2, 1) := by decide +kernel
theorem dX3_isSpeaking_92 : decode cX3_isSpeaking 92 = .ok (.iload_n 1, 1) := by decide +kernel
theorem dX3_isSpeaking_93 : decode cX3_isSpeaking 93 = .ok (.imul, 1) := by decide +kernel
theorem dX3_isSpeaking_94 : decode cX3_isSpeaking 94 = .ok (.if_icmp .lt 20, 3) := by decide +kernel
theorem dX3_isSpeaking_97 : decode cX3_isSpeaking 97 = .ok (.aload_n 0, 1) := by decide +kernel
theorem dX3_isSpeaking_98 : decode cX3_isSpeaking 98 = .ok (.iload_n 1, 1) := by decide +kernel
theorem dX3_isSpeaking_99 : decode cX3_isSpeaking 99 = .ok (.iload_n 2, 1) := by decide +kernel
theorem dX3_isSpeaking_100 : decode cX3_isSpeaking 100 = .ok (.iconst 2, 1) := by decide +kernel
theorem dX3_isSpeaking_101 : decode cX3_isSpeaking 101 = .ok (.iload_n 1, 1) := by decide +kernel
theorem dX3_isSpeaking_102 : decode cX3_isSpeaking 102 = .ok (.imul, 1) := by decide +kernel
theorem dX3_isSpeaking_103 : decode cX3_isSpeaking 103 = .ok (.isub, 1) := by decide +kernel
theorem dX3_isSpeaking_104 : decode cX3_isSpeaking 104 = .ok (.invokevirtual 54, 3) := by decide +kernel
theorem dX3_isSpeaking_107 : decode cX3_isSpeaking 107 = .ok (.ifCond .eq 7, 3) := by decide +kernel
theorem dX3_isSpeaking_110 : decode cX3_isSpeaking 110 = .ok (.iconst 1, 1) := by decide +kernel
theorem dX3_isSpeaking_111 : decode cX3_isSpeaking 111 = .ok (.goto 4, 3) := by decide +kernel
theorem dX3_isSpeaking_114 : decode cX3_isSpeaking 114 = .ok (.iconst 0, 1) := by decide +kernel
theorem dX3_isSpeaking_115 : decode cX3_isSpeaking 115 = .ok (.ireturn, 1) := by decide +kernel
theorem dX3_isSpeaking_116 : decode cX3_isSpeaking 116 = .ok (.aload_n 0, 1) := by decide +kernel
theorem dX3_isSpeaking_117 : decode cX3_isSpeaking 117 = .ok (.iload_n 1, 1) := by decide +kernel
theorem dX3_isSpeaking_118 : decode cX3_isSpeaking 118 = .ok (.iload_n 2, 1) := by decide +kernel
theorem dX3_isSpeaking_119 : decode cX3_isSpeaking 119 = .ok (.invokevirtual 44, 3) := by decide +kernel
theorem dX3_isSpeaking_122 : decode cX3_isSpeaking 122 = .ok (.ifCond .ne 12, 3) := by decide +kernel
theorem dX3_isSpeaking_125 : decode cX3_isSpeaking 125 = .ok (.aload_n 0, 1) := by decide +kernel
theorem dX3_isSpeaking_126 : decode cX3_isSpeaking 126 = .ok (.iload_n 1, 1) := by decide +kernel
theorem dX3_isSpeaking_127 : decode cX3_isSpeaking 127 = .ok (.iload_n 2, 1) := by decide +kernel
theorem dX3_isSpeaking_128 : decode cX3_isSpeaking 128 = .ok (.invokevirtual 57, 3) := by decide +kernel
theorem dX3_isSpeaking_131 : decode cX3_isSpeaking 131 = .ok (.ifCond .eq 7, 3) := by decide +kernel
theorem dX3_isSpeaking_134 : decode cX3_isSpeaking 134 = .ok (.iconst 1, 1) := by decide +kernel
theorem dX3_isSpeaking_135 : decode cX3_isSpeaking 135 = .ok (.goto 4, 3) := by decide +kernel
theorem dX3_isSpeaking_138 : decode cX3_isSpeaking 138 = .ok (.iconst 0, 1) := by decide +kernel
theorem dX3_isSpeaking_139 : decode cX3_isSpeaking 139 = .ok (.ireturn, 1) := by decide +kernel
theorem dX3_isSpeaking_140 : decode cX3_isSpeaking 140 = .ok (.aload_n 0, 1) := by decide +kernel
theorem dX3_isSpeaking_141 : decode cX3_isSpeaking 141 = .ok (.iload_n 1, 1) := by decide +kernel
theorem dX3_isSpeaking_142 : decode cX3_isSpeaking 142 = .ok (.iload_n 2, 1) := by decide +kernel
theorem dX3_isSpeaking_143 : decode cX3_isSpeaking 143 = .ok (.invokevirtual 60, 3) := by decide +kernel
theorem dX3_isSpeaking_146 : decode cX3_isSpeaking 146 = .ok (.ifCond .eq 16, 3) := by decide +kernel
theorem dX3_isSpeaking_149 : decode cX3_isSpeaking 149 = .ok (.aload_n 0, 1) := by decide +kernel
theorem dX3_isSpeaking_150 : decode cX3_isSpeaking 150 = .ok (.iload_n 1, 1) := by decide +kernel
theorem dX3_isSpeaking_151 : decode cX3_isSpeaking 151 = .ok (.iload_n 2, 1) := by decide +kernel
theorem dX3_isSpeaking_152 : decode cX3_isSpeaking 152 = .ok (.invokevirtual 51, 3) := by decide +kernel
theorem dX3_isSpeaking_155 : decode cX3_isSpeaking 155 = .ok (.ifCond .eq 7, 3) := by decide +kernel
theorem dX3_isSpeaking_158 : decode cX3_isSpeaking 158 = .ok (.iconst 1, 1) := by decide +kernel
theorem dX3_isSpeaking_159 : decode cX3_isSpeaking 159 = .ok (.goto 4, 3) := by decide +kernel
theorem dX3_isSpeaking_162 : decode cX3_isSpeaking 162 = .ok (.iconst 0, 1) := by decide +kernel
theorem dX3_isSpeaking_163 : decode cX3_isSpeaking 163 = .ok (.ireturn, 1) := by decide +kernel
theorem dX3_isSpeaking_164 : decode cX3_isSpeaking 164 = .ok (.aload_n 0, 1) := by decide +kernel
theorem dX3_isSpeaking_165 : decode cX3_isSpeaking 165 = .ok (.iload_n 1, 1) := by decide +kernel
theorem dX3_isSpeaking_166 : decode cX3_isSpeaking 166 = .ok (.iload_n 2, 1) := by decide +kernel
theorem dX3_isSpeaking_167 : decode cX3_isSpeaking 167 = .ok (.invokevirtual 54, 3) := by decide +kernel
theorem dX3_isSpeaking_170 : decode cX3_isSpeaking 170 = .ok (.ireturn, 1) := by decide +kernel
theorem dX3_isAsName_0 : decode cX3_isAsName 0 = .ok (.iload_n 2, 1) := by decide +kernel
theorem dX3_isAsName_1 : decode cX3_isAsName 1 = .ok (.aload_n 0, 1) := by decide +kernel
theorem dX3_isAsName_2 : decode cX3_isAsName 2 = .ok (.getfield 12, 3) := by decide +kernel
theorem dX3_isAsName_5 : decode cX3_isAsName 5 = .ok (.getfield 40, 3) := by decide +kernel
theorem dX3_isAsName_8 : decode cX3_isAsName 8 = .ok (.iconst 1, 1) := by decide +kernel
theorem dX3_isAsName_9 : decode cX3_isAsName 9 = .ok (.aaload, 1) := by decide +kernel
theorem dX3_isAsName_10 : decode cX3_isAsName 10 = .ok (.iload_n 1, 1) := by decide +kernel
theorem dX3_isAsName_11 : decode cX3_isAsName 11 = .ok (.iaload, 1) := by decide +kernel
theorem dX3_isAsName_12 : decode cX3_isAsName 12 = .ok (.invokestatic 63, 3) := by decide +kernel
theorem dX3_isAsName_15 : decode cX3_isAsName 15 = .ok (.ifCond .ne 7, 3) := by decide +kernel
theorem dX3_isAsName_18 : decode cX3_isAsName 18 = .ok (.iconst 1, 1) := by decide +kernel
theorem dX3_isAsName_19 : decode cX3_isAsName 19 = .ok (.goto 4, 3) := by decide +kernel
theorem dX3_isAsName_22 : decode cX3_isAsName 22 = .ok (.iconst 0, 1) := by decide +kernel
theorem dX3_isAsName_23 : decode cX3_isAsName 23 = .ok (.ireturn, 1) := by decide +kernel
theorem dX3_isAsPerson_0 : decode cX3_isAsPerson 0 = .ok (.aload_n 0, 1) := by decide +kernel
theorem dX3_isAsPerson_1 : decode cX3_isAsPerson 1 = .ok (.iload_n 1, 1) := by decide +kernel
theorem dX3_isAsPerson_2 : decode cX3_isAsPerson 2 = .ok (.iload_n 2, 1) := by decide +kernel
theorem dX3_isAsPerson_3 : decode cX3_isAsPerson 3 = .ok (.invokevirtual 54, 3) := by decide +kernel
theorem dX3_isAsPerson_6 : decode cX3_isAsPerson 6 = .ok (.ifCond .eq 16, 3) := by decide +kernel
theorem dX3_isAsPerson_9 : decode cX3_isAsPerson 9 = .ok (.aload_n 0, 1) := by decide +kernel
theorem dX3_isAsPerson_10 : decode cX3_isAsPerson 10 = .ok (.iload_n 1, 1) := by decide +kernel
theorem dX3_isAsPerson_11 : decode cX3_isAsPerson 11 = .ok (.iload_n 2, 1) := by decide +kernel
theorem dX3_isAsPerson_12 : decode cX3_isAsPerson 12 = .ok (.invokevirtual 51, 3) := by decide +kernel
theorem dX3_isAsPerson_15 : decode cX3_isAsPerson 15 = .ok (.ifCond .eq 7, 3) := by decide +kernel
theorem dX3_isAsPerson_18 : decode cX3_isAsPerson 18 = .ok (.iconst 1, 1) := by decide +kernel
theorem dX3_isAsPerson_19 : decode cX3_isAsPerson 19 = .ok (.goto 4, 3) := by decide +kernel
theorem dX3_isAsPerson_22 : decode cX3_isAsPerson 22 = .ok (.iconst 0, 1) := by decide +kernel
theorem dX3_isAsPerson_23 : decode cX3_isAsPerson 23 = .ok (.ireturn, 1) := by decide +kernel
theorem dX3_isAsClock_0 : decode cX3_isAsClock 0 = .ok (.aload_n 0, 1) := by decide +kernel
theorem dX3_isAsClock_1 : decode cX3_isAsClock 1 = .ok (.getfield 12, 3) := by decide +kernel
theorem dX3_isAsClock_4 : decode cX3_isAsClock 4 = .ok (.getfield 40, 3) := by decide +kernel
theorem dX3_isAsClock_7 : decode cX3_isAsClock 7 = .ok (.iconst 1, 1) := by decide +kernel
theorem dX3_isAsClock_8 : decode cX3_isAsClock 8 = .ok (.aaload, 1) := by decide +kernel
theorem dX3_isAsClock_9 : decode cX3_isAsClock 9 = .ok (.iload_n 1, 1) := by decide +kernel
theorem dX3_isAsClock_10 : decode cX3_isAsClock 10 = .ok (.iaload, 1) := by decide +kernel
theorem dX3_isAsClock_11 : decode cX3_isAsClock 11 = .ok (.istore_n 3, 1) := by decide +kernel
theorem dX3_isAsClock_12 : decode cX3_isAsClock 12 = .ok (.bipush 7, 2) := by decide +kernel
theorem dX3_isAsClock_14 : decode cX3_isAsClock 14 = .ok (.iload_n 2, 1) := by decide +kernel
theorem dX3_isAsClock_15 : decode cX3_isAsClock 15 = .ok (.iload_n 3, 1) := by decide +kernel
theorem dX3_isAsClock_16 : decode cX3_isAsClock 16 = .ok (.invokestatic 67, 3) := by decide +kernel
theorem dX3_isAsClock_19 : decode cX3_isAsClock 19 = .ok (.imul, 1) := by decide +kernel
theorem dX3_isAsClock_20 : decode cX3_isAsClock 20 = .ok (.iconst 3, 1) := by decide +kernel
theorem dX3_isAsClock_21 : decode cX3_isAsClock 21 = .ok (.iload_n 1, 1) := by decide +kernel
theorem dX3_isAsClock_22 : decode cX3_isAsClock 22 = .ok (.imul, 1) := by decide +kernel
theorem dX3_isAsClock_23 : decode cX3_isAsClock 23 = .ok (.iadd, 1) := by decide +kernel
theorem dX3_isAsClock_24 : decode cX3_isAsClock 24 = .ok (.istore 4, 2) := by decide +kernel
theorem dX3_isAsClock_26 : decode cX3_isAsClock 26 = .ok (.iload 4, 2) := by decide +kernel
theorem dX3_isAsClock_28 : decode cX3_isAsClock 28 = .ok (.aload_n 0, 1) := by decide +kernel
theorem dX3_isAsClock_29 : decode cX3_isAsClock 29 = .ok (.getfield 12, 3) := by decide +kernel
theorem dX3_isAsClock_32 : decode cX3_isAsClock 32 = .ok (.getfield 40, 3) := by decide +kernel
theorem dX3_isAsClock_35 : decode cX3_isAsClock 35 = .ok (.iconst 3, 1) := by decide +kernel
theorem dX3_isAsClock_36 : decode cX3_isAsClock 36 = .ok (.aaload, 1) := by decide +kernel
theorem dX3_isAsClock_37 : decode cX3_isAsClock 37 = .ok (.iload_n 1, 1) := by decide +kernel
theorem dX3_isAsClock_38 : decode cX3_isAsClock 38 = .ok (.iaload, 1) := by decide +kernel
theorem dX3_isAsClock_39 : decode cX3_isAsClock 39 = .ok (.iconst 1, 1) := by decide +kernel
theorem dX3_isAsClock_40 : decode cX3_isAsClock 40 = .ok (.iadd, 1) := by decide +kernel
theorem dX3_isAsClock_41 : decode cX3_isAsClock 41 = .ok (.invokestatic 63, 3) := by decide +kernel
theorem dX3_isAsClock_44 : decode cX3_isAsClock 44 = .ok (.istore 5, 2) := by decide +kernel
theorem dX3_isAsClock_46 : decode cX3_isAsClock 46 = .ok (.iload_n 2, 1) := by decide +kernel
theorem dX3_isAsClock_47 : decode cX3_isAsClock 47 = .ok (.iload_n 3, 1) := by decide +kernel
theorem dX3_isAsClock_48 : decode cX3_isAsClock 48 = .ok (.invokestatic 63, 3) := by decide +kernel
theorem dX3_isAsClock_51 : decode cX3_isAsClock 51 = .ok (.iload_n 3, 1) := by decide +kernel
theorem dX3_isAsClock_52 : decode cX3_isAsClock 52 = .ok (.iconst 1, 1) := by decide +kernel
theorem dX3_isAsClock_53 : decode cX3_isAsClock 53 = .ok (.isub, 1) := by decide +kernel
theorem dX3_isAsClock_54 : decode cX3_isAsClock 54 = .ok (.iload 5, 2) := by decide +kernel
theorem dX3_isAsClock_56 : decode cX3_isAsClock 56 = .ok (.invokestatic 70, 3) := by decide +kernel
theorem dX3_isAsClock_59 : decode cX3_isAsClock 59 = .ok (.if_icmp .ne 7, 3) := by decide +kernel
theorem dX3_isAsClock_62 : decode cX3_isAsClock 62 = .ok (.iconst 1, 1) := by decide +kernel
theorem dX3_isAsClock_63 : decode cX3_isAsClock 63 = .ok (.goto 4, 3) := by decide +kernel
theorem dX3_isAsClock_66 : decode cX3_isAsClock 66 = .ok (.iconst 0, 1) := by decide +kernel
theorem dX3_isAsClock_67 : decode cX3_isAsClock 67 = .ok (.ireturn, 1) := by decide +kernel
theorem dX3_isAsHalf_0 : decode cX3_isAsHalf 0 = .ok (.iload_n 2, 1) := by decide +kernel
theorem dX3_isAsHalf_1 : decode cX3_isAsHalf 1 = .ok (.invokestatic 75, 3) := by decide +kernel
theorem dX3_isAsHalf_4 : decode cX3_isAsHalf 4 = .ok (.bipush 7, 2) := by decide +kernel
theorem dX3_isAsHalf_6 : decode cX3_isAsHalf 6 = .ok (.irem, 1) := by decide +kernel
theorem dX3_isAsHalf_7 : decode cX3_isAsHalf 7 = .ok (.bipush 6, 2) := by decide +kernel
theorem dX3_isAsHalf_9 : decode cX3_isAsHalf 9 = .ok (.if_icmp .ne 12, 3) := by decide +kernel
theorem dX3_isAsHalf_12 : decode cX3_isAsHalf 12 = .ok (.aload_n 0, 1) := by decide +kernel
theorem dX3_isAsHalf_13 : decode cX3_isAsHalf 13 = .ok (.iload_n 1, 1) := by decide +kernel
theorem dX3_isAsHalf_14 : decode cX3_isAsHalf 14 = .ok (.iload_n 2, 1) := by decide +kernel
theorem dX3_isAsHalf_15 : decode cX3_isAsHalf 15 = .ok (.invokevirtual 48, 3) := by decide +kernel
theorem dX3_isAsHalf_18 : decode cX3_isAsHalf 18 = .ok (.goto 9, 3) := by decide +kernel
theorem dX3_isAsHalf_21 : decode cX3_isAsHalf 21 = .ok (.aload_n 0, 1) := by decide +kernel
theorem dX3_isAsHalf_22 : decode cX3_isAsHalf 22 = .ok (.iload_n 1, 1) := by decide +kernel
theorem dX3_isAsHalf_23 : decode cX3_isAsHalf 23 = .ok (.iload_n 2, 1) := by decide +kernel
theorem dX3_isAsHalf_24 : decode cX3_isAsHalf 24 = .ok (.invokevirtual 54, 3) := by decide +kernel
theorem dX3_isAsHalf_27 : decode cX3_isAsHalf 27 = .ok (.ireturn, 1) := by decide +kernel
theorem dX3_isInHours_0 : decode cX3_isInHours 0 = .ok (.aload_n 0, 1) := by decide +kernel
theorem dX3_isInHours_1 : decode cX3_isInHours 1 = .ok (.getfield 12, 3) := by decide +kernel
theorem dX3_isInHours_4 : decode cX3_isInHours 4 = .ok (.getfield 40, 3) := by decide +kernel
theorem dX3_isInHours_7 : decode cX3_isInHours 7 = .ok (.iconst 2, 1) := by decide +kernel
theorem dX3_isInHours_8 : decode cX3_isInHours 8 = .ok (.aaload, 1) := by decide +kernel
theorem dX3_isInHours_9 : decode cX3_isInHours 9 = .ok (.iload_n 1, 1) := by decide +kernel
theorem dX3_isInHours_10 : decode cX3_isInHours 10 = .ok (.iaload, 1) := by decide +kernel
theorem dX3_isInHours_11 : decode cX3_isInHours 11 = .ok (.iload_n 2, 1) := by decide +kernel
theorem dX3_isInHours_12 : decode cX3_isInHours 12 = .ok (.invokestatic 79, 3) := by decide +kernel
theorem dX3_isInHours_15 : decode cX3_isInHours 15 = .ok (.invokestatic 82, 3) := by decide +kernel
theorem dX3_isInHours_18 : decode cX3_isInHours 18 = .ok (.ireturn, 1) := by decide +kernel
theorem dX3_isBehindLeader_0 : decode cX3_isBehindLeader 0 = .ok (.aload_n 0, 1) := by decide +kernel
theorem dX3_isBehindLeader_1 : decode cX3_isBehindLeader 1 = .ok (.getfield 12, 3) := by decide +kernel
theorem dX3_isBehindLeader_4 : decode cX3_isBehindLeader 4 = .ok (.getfield 40, 3) := by decide +kernel
theorem dX3_isBehindLeader_7 : decode cX3_isBehindLeader 7 = .ok (.iconst 4, 1) := by decide +kernel
theorem dX3_isBehindLeader_8 : decode cX3_isBehindLeader 8 = .ok (.aaload, 1) := by decide +kernel
theorem dX3_isBehindLeader_9 : decode cX3_isBehindLeader 9 = .ok (.iload_n 1, 1) := by decide +kernel
theorem dX3_isBehindLeader_10 : decode cX3_isBehindLeader 10 = .ok (.iaload, 1) := by decide +kernel
theorem dX3_isBehindLeader_11 : decode cX3_isBehindLeader 11 = .ok (.istore_n 3, 1) := by decide +kernel
theorem dX3_isBehindLeader_12 : decode cX3_isBehindLeader 12 = .ok (.iload_n 3, 1) := by decide +kernel
theorem dX3_isBehindLeader_13 : decode cX3_isBehindLeader 13 = .ok (.ifCond .lt 27, 3) := by decide +kernel
theorem dX3_isBehindLeader_16 : decode cX3_isBehindLeader 16 = .ok (.aload_n 0, 1) := by decide +kernel
theorem dX3_isBehindLeader_17 : decode cX3_isBehindLeader 17 = .ok (.getfield 21, 3) := by decide +kernel
theorem dX3_isBehindLeader_20 : decode cX3_isBehindLeader 20 = .ok (.iload_n 2, 1) := by decide +kernel
theorem dX3_isBehindLeader_21 : decode cX3_isBehindLeader 21 = .ok (.iconst 1, 1) := by decide +kernel
theorem dX3_isBehindLeader_22 : decode cX3_isBehindLeader 22 = .ok (.isub, 1) := by decide +kernel
theorem dX3_isBehindLeader_23 : decode cX3_isBehindLeader 23 = .ok (.iload_n 2, 1) := by decide +kernel
theorem dX3_isBehindLeader_24 : decode cX3_isBehindLeader 24 = .ok (.iconst 1, 1) := by decide +kernel
theorem dX3_isBehindLeader_25 : decode cX3_isBehindLeader 25 = .ok (.isub, 1) := by decide +kernel
theorem dX3_isBehindLeader_26 : decode cX3_isBehindLeader 26 = .ok (.invokevirtual 85, 3) := by decide +kernel
theorem dX3_isBehindLeader_29 : decode cX3_isBehindLeader 29 = .ok (.iload_n 3, 1) := by decide +kernel
theorem dX3_isBehindLeader_30 : decode cX3_isBehindLeader 30 = .ok (.invokestatic 82, 3) := by decide +kernel
theorem dX3_isBehindLeader_33 : decode cX3_isBehindLeader 33 = .ok (.ifCond .eq 7, 3) := by decide +kernel
theorem dX3_isBehindLeader_36 : decode cX3_isBehindLeader 36 = .ok (.iconst 1, 1) := by decide +kernel
theorem dX3_isBehindLeader_37 : decode cX3_isBehindLeader 37 = .ok (.goto 4, 3) := by decide +kernel
theorem dX3_isBehindLeader_40 : decode cX3_isBehindLeader 40 = .ok (.iconst 0, 1) := by decide +kernel
theorem dX3_isBehindLeader_41 : decode cX3_isBehindLeader 41 = .ok (.ireturn, 1) := by decide +kernel
theorem dX3_topicOf_0 : decode cX3_topicOf 0 = .ok (.aload_n 0, 1) := by decide +kernel
theorem dX3_topicOf_1 : decode cX3_topicOf 1 = .ok (.getfield 12, 3) := by decide +kernel
theorem dX3_topicOf_4 : decode cX3_topicOf 4 = .ok (.getfield 40, 3) := by decide +kernel
theorem dX3_topicOf_7 : decode cX3_topicOf 7 = .ok (.iconst 5, 1) := by decide +kernel
theorem dX3_topicOf_8 : decode cX3_topicOf 8 = .ok (.aaload, 1) := by decide +kernel
theorem dX3_topicOf_9 : decode cX3_topicOf 9 = .ok (.iload_n 1, 1) := by decide +kernel
theorem dX3_topicOf_10 : decode cX3_topicOf 10 = .ok (.iaload, 1) := by decide +kernel
theorem dX3_topicOf_11 : decode cX3_topicOf 11 = .ok (.istore_n 2, 1) := by decide +kernel
theorem dX3_topicOf_12 : decode cX3_topicOf 12 = .ok (.aload_n 0, 1) := by decide +kernel
theorem dX3_topicOf_13 : decode cX3_topicOf 13 = .ok (.getfield 12, 3) := by decide +kernel
theorem dX3_topicOf_16 : decode cX3_topicOf 16 = .ok (.getfield 40, 3) := by decide +kernel
theorem dX3_topicOf_19 : decode cX3_topicOf 19 = .ok (.iconst 0, 1) := by decide +kernel
theorem dX3_topicOf_20 : decode cX3_topicOf 20 = .ok (.aaload, 1) := by decide +kernel
theorem dX3_topicOf_21 : decode cX3_topicOf 21 = .ok (.iload_n 1, 1) := by decide +kernel
theorem dX3_topicOf_22 : decode cX3_topicOf 22 = .ok (.iaload, 1) := by decide +kernel
theorem dX3_topicOf_23 : decode cX3_topicOf 23 = .ok (.istore_n 3, 1) := by decide +kernel
theorem dX3_topicOf_24 : decode cX3_topicOf 24 = .ok (.iload_n 3, 1) := by decide +kernel
theorem dX3_topicOf_25 : decode cX3_topicOf 25 = .ok (.iconst 3, 1) := by decide +kernel
theorem dX3_topicOf_26 : decode cX3_topicOf 26 = .ok (.if_icmp .ne 19, 3) := by decide +kernel
theorem dX3_topicOf_29 : decode cX3_topicOf 29 = .ok (.iload_n 2, 1) := by decide +kernel
theorem dX3_topicOf_30 : decode cX3_topicOf 30 = .ok (.aload_n 0, 1) := by decide +kernel
theorem dX3_topicOf_31 : decode cX3_topicOf 31 = .ok (.getfield 21, 3) := by decide +kernel
theorem dX3_topicOf_34 : decode cX3_topicOf 34 = .ok (.iload_n 1, 1) := by decide +kernel
theorem dX3_topicOf_35 : decode cX3_topicOf 35 = .ok (.invokevirtual 88, 3) := by decide +kernel
theorem dX3_topicOf_38 : decode cX3_topicOf 38 = .ok (.iconst 3, 1) := by decide +kernel
theorem dX3_topicOf_39 : decode cX3_topicOf 39 = .ok (.irem, 1) := by decide +kernel
theorem dX3_topicOf_40 : decode cX3_topicOf 40 = .ok (.iadd, 1) := by decide +kernel
theorem dX3_topicOf_41 : decode cX3_topicOf 41 = .ok (.bipush 10, 2) := by decide +kernel
theorem dX3_topicOf_43 : decode cX3_topicOf 43 = .ok (.irem, 1) := by decide +kernel
theorem dX3_topicOf_44 : decode cX3_topicOf 44 = .ok (.ireturn, 1) := by decide +kernel
theorem dX3_topicOf_45 : decode cX3_topicOf 45 = .ok (.aload_n 0, 1) := by decide +kernel
theorem dX3_topicOf_46 : decode cX3_topicOf 46 = .ok (.getfield 12, 3) := by decide +kernel
theorem dX3_topicOf_49 : decode cX3_topicOf 49 = .ok (.getfield 40, 3) := by decide +kernel
theorem dX3_topicOf_52 : decode cX3_topicOf 52 = .ok (.iconst 4, 1) := by decide +kernel
theorem dX3_topicOf_53 : decode cX3_topicOf 53 = .ok (.aaload, 1) := by decide +kernel
theorem dX3_topicOf_54 : decode cX3_topicOf 54 = .ok (.iload_n 1, 1) := by decide +kernel
theorem dX3_topicOf_55 : decode cX3_topicOf 55 = .ok (.iaload, 1) := by decide +kernel
theorem dX3_topicOf_56 : decode cX3_topicOf 56 = .ok (.istore 4, 2) := by decide +kernel
theorem dX3_topicOf_58 : decode cX3_topicOf 58 = .ok (.iload_n 3, 1) := by decide +kernel
theorem dX3_topicOf_59 : decode cX3_topicOf 59 = .ok (.bipush 6, 2) := by decide +kernel
theorem dX3_topicOf_61 : decode cX3_topicOf 61 = .ok (.if_icmp .ne 39, 3) := by decide +kernel
theorem dX3_topicOf_64 : decode cX3_topicOf 64 = .ok (.iload 4, 2) := by decide +kernel
theorem dX3_topicOf_66 : decode cX3_topicOf 66 = .ok (.ifCond .lt 34, 3) := by decide +kernel
theorem dX3_topicOf_69 : decode cX3_topicOf 69 = .ok (.aload_n 0, 1) := by decide +kernel
theorem dX3_topicOf_70 : decode cX3_topicOf 70 = .ok (.getfield 21, 3) := by decide +kernel
theorem dX3_topicOf_73 : decode cX3_topicOf 73 = .ok (.iload 4, 2) := by decide +kernel
theorem dX3_topicOf_75 : decode cX3_topicOf 75 = .ok (.invokevirtual 91, 3) := by decide +kernel
theorem dX3_topicOf_78 : decode cX3_topicOf 78 = .ok (.istore 5, 2) := by decide +kernel
theorem dX3_topicOf_80 : decode cX3_topicOf 80 = .ok (.iload 5, 2) := by decide +kernel
theorem dX3_topicOf_82 : decode cX3_topicOf 82 = .ok (.ifCond .ge 7, 3) := by decide +kernel
theorem dX3_topicOf_85 : decode cX3_topicOf 85 = .ok (.iload_n 2, 1) := by decide +kernel
theorem dX3_topicOf_86 : decode cX3_topicOf 86 = .ok (.goto 13, 3) := by decide +kernel
theorem dX3_topicOf_89 : decode cX3_topicOf 89 = .ok (.aload_n 0, 1) := by decide +kernel
theorem dX3_topicOf_90 : decode cX3_topicOf 90 = .ok (.getfield 21, 3) := by decide +kernel
theorem dX3_topicOf_93 : decode cX3_topicOf 93 = .ok (.getfield 94, 3) := by decide +kernel
theorem dX3_topicOf_96 : decode cX3_topicOf 96 = .ok (.iload 5, 2) := by decide +kernel
theorem dX3_topicOf_98 : decode cX3_topicOf 98 = .ok (.iaload, 1) := by decide +kernel
theorem dX3_topicOf_99 : decode cX3_topicOf 99 = .ok (.ireturn, 1) := by decide +kernel
theorem dX3_topicOf_100 : decode cX3_topicOf 100 = .ok (.iload_n 2, 1) := by decide +kernel
theorem dX3_topicOf_101 : decode cX3_topicOf 101 = .ok (.ireturn, 1) := by decide +kernel
theorem dX3_passSecond_0 : decode cX3_passSecond 0 = .ok (.iconst 0, 1) := by decide +kernel
theorem dX3_passSecond_1 : decode cX3_passSecond 1 = .ok (.istore_n 1, 1) := by decide +kernel
theorem dX3_passSecond_2 : decode cX3_passSecond 2 = .ok (.iload_n 1, 1) := by decide +kernel
theorem dX3_passSecond_3 : decode cX3_passSecond 3 = .ok (.aload_n 0, 1) := by decide +kernel
theorem dX3_passSecond_4 : decode cX3_passSecond 4 = .ok (.getfield 12, 3) := by decide +kernel
theorem dX3_passSecond_7 : decode cX3_passSecond 7 = .ok (.getfield 97, 3) := by decide +kernel
theorem dX3_passSecond_10 : decode cX3_passSecond 10 = .ok (.if_icmp .ge 81, 3) := by decide +kernel
theorem dX3_passSecond_13 : decode cX3_passSecond 13 = .ok (.aload_n 0, 1) := by decide +kernel
theorem dX3_passSecond_14 : decode cX3_passSecond 14 = .ok (.getfield 12, 3) := by decide +kernel
theorem dX3_passSecond_17 : decode cX3_passSecond 17 = .ok (.getfield 100, 3) := by decide +kernel
theorem dX3_passSecond_20 : decode cX3_passSecond 20 = .ok (.iload_n 1, 1) := by decide +kernel
theorem dX3_passSecond_21 : decode cX3_passSecond 21 = .ok (.invokestatic 82, 3) := by decide +kernel
theorem dX3_passSecond_24 : decode cX3_passSecond 24 = .ok (.ifCond .ne 61, 3) := by decide +kernel
theorem dX3_passSecond_27 : decode cX3_passSecond 27 = .ok (.aload_n 0, 1) := by decide +kernel
theorem dX3_passSecond_28 : decode cX3_passSecond 28 = .ok (.iload_n 1, 1) := by decide +kernel
theorem dX3_passSecond_29 : decode cX3_passSecond 29 = .ok (.aload_n 0, 1) := by decide +kernel
theorem dX3_passSecond_30 : decode cX3_passSecond 30 = .ok (.getfield 21, 3) := by decide +kernel
theorem dX3_passSecond_33 : decode cX3_passSecond 33 = .ok (.getfield 103, 3) := by decide +kernel
theorem dX3_passSecond_36 : decode cX3_passSecond 36 = .ok (.invokevirtual 106, 3) := by decide +kernel
theorem dX3_passSecond_39 : decode cX3_passSecond 39 = .ok (.ifCond .ne 6, 3) := by decide +kernel
theorem dX3_passSecond_42 : decode cX3_passSecond 42 = .ok (.goto 43, 3) := by decide +kernel
theorem dX3_passSecond_45 : decode cX3_passSecond 45 = .ok (.aload_n 0, 1) := by decide +kernel
theorem dX3_passSecond_46 : decode cX3_passSecond 46 = .ok (.getfield 21, 3) := by decide +kernel
theorem dX3_passSecond_49 : decode cX3_passSecond 49 = .ok (.invokevirtual 109, 3) := by decide +kernel
theorem dX3_passSecond_52 : decode cX3_passSecond 52 = .ok (.ifCond .eq 19, 3) := by decide +kernel
theorem dX3_passSecond_55 : decode cX3_passSecond 55 = .ok (.aload_n 0, 1) := by decide +kernel
theorem dX3_passSecond_56 : decode cX3_passSecond 56 = .ok (.getfield 21, 3) := by decide +kernel
theorem dX3_passSecond_59 : decode cX3_passSecond 59 = .ok (.dup, 1) := by decide +kernel
theorem dX3_passSecond_60 : decode cX3_passSecond 60 = .ok (.getfield 113, 3) := by decide +kernel
theorem dX3_passSecond_63 : decode cX3_passSecond 63 = .ok (.iconst 1, 1) := by decide +kernel
theorem dX3_passSecond_64 : decode cX3_passSecond 64 = .ok (.iadd, 1) := by decide +kernel
theorem dX3_passSecond_65 : decode cX3_passSecond 65 = .ok (.putfield 113, 3) := by decide +kernel
theorem dX3_passSecond_68 : decode cX3_passSecond 68 = .ok (.goto 17, 3) := by decide +kernel
theorem dX3_passSecond_71 : decode cX3_passSecond 71 = .ok (.aload_n 0, 1) := by decide +kernel
theorem dX3_passSecond_72 : decode cX3_passSecond 72 = .ok (.getfield 21, 3) := by decide +kernel
theorem dX3_passSecond_75 : decode cX3_passSecond 75 = .ok (.iload_n 1, 1) := by decide +kernel
theorem dX3_passSecond_76 : decode cX3_passSecond 76 = .ok (.aload_n 0, 1) := by decide +kernel
theorem dX3_passSecond_77 : decode cX3_passSecond 77 = .ok (.iload_n 1, 1) := by decide +kernel
theorem dX3_passSecond_78 : decode cX3_passSecond 78 = .ok (.invokevirtual 116, 3) := by decide +kernel
theorem dX3_passSecond_81 : decode cX3_passSecond 81 = .ok (.invokevirtual 119, 3) := by decide +kernel
theorem dX3_passSecond_84 : decode cX3_passSecond 84 = .ok (.pop, 1) := by decide +kernel
theorem dX3_passSecond_85 : decode cX3_passSecond 85 = .ok (.iinc 1 1, 3) := by decide +kernel
theorem dX3_passSecond_88 : decode cX3_passSecond 88 = .ok (.goto (-86), 3) := by decide +kernel
theorem dX3_passSecond_91 : decode cX3_passSecond 91 = .ok (.aload_n 0, 1) := by decide +kernel
theorem dX3_passSecond_92 : decode cX3_passSecond 92 = .ok (.getfield 21, 3) := by decide +kernel
theorem dX3_passSecond_95 : decode cX3_passSecond 95 = .ok (.dup, 1) := by decide +kernel
theorem dX3_passSecond_96 : decode cX3_passSecond 96 = .ok (.getfield 103, 3) := by decide +kernel
theorem dX3_passSecond_99 : decode cX3_passSecond 99 = .ok (.iconst 1, 1) := by decide +kernel
theorem dX3_passSecond_100 : decode cX3_passSecond 100 = .ok (.iadd, 1) := by decide +kernel
theorem dX3_passSecond_101 : decode cX3_passSecond 101 = .ok (.putfield 103, 3) := by decide +kernel
theorem dX3_passSecond_104 : decode cX3_passSecond 104 = .ok (.return_, 1) := by decide +kernel
theorem dX3_draw_0 : decode cX3_draw 0 = .ok (.aload_n 0, 1) := by decide +kernel
theorem dX3_draw_1 : decode cX3_draw 1 = .ok (.aload_n 0, 1) := by decide +kernel
theorem dX3_draw_2 : decode cX3_draw 2 = .ok (.getfield 36, 3) := by decide +kernel
theorem dX3_draw_5 : decode cX3_draw 5 = .ok (.ldc 122, 2) := by decide +kernel
theorem dX3_draw_7 : decode cX3_draw 7 = .ok (.imul, 1) := by decide +kernel
theorem dX3_draw_8 : decode cX3_draw 8 = .ok (.sipush 12345, 3) := by decide +kernel
theorem dX3_draw_11 : decode cX3_draw 11 = .ok (.iadd, 1) := by decide +kernel
theorem dX3_draw_12 : decode cX3_draw 12 = .ok (.putfield 36, 3) := by decide +kernel
theorem dX3_draw_15 : decode cX3_draw 15 = .ok (.aload_n 0, 1) := by decide +kernel
theorem dX3_draw_16 : decode cX3_draw 16 = .ok (.getfield 36, 3) := by decide +kernel
theorem dX3_draw_19 : decode cX3_draw 19 = .ok (.bipush 8, 2) := by decide +kernel
theorem dX3_draw_21 : decode cX3_draw 21 = .ok (.iushr, 1) := by decide +kernel
theorem dX3_draw_22 : decode cX3_draw 22 = .ok (.ireturn, 1) := by decide +kernel
theorem dX3_become_0 : decode cX3_become 0 = .ok (.aload_n 0, 1) := by decide +kernel
theorem dX3_become_1 : decode cX3_become 1 = .ok (.getfield 12, 3) := by decide +kernel
theorem dX3_become_4 : decode cX3_become 4 = .ok (.aload_n 1, 1) := by decide +kernel
theorem dX3_become_5 : decode cX3_become 5 = .ok (.getfield 12, 3) := by decide +kernel
theorem dX3_become_8 : decode cX3_become 8 = .ok (.invokevirtual 123, 3) := by decide +kernel
theorem dX3_become_11 : decode cX3_become 11 = .ok (.aload_n 0, 1) := by decide +kernel
theorem dX3_become_12 : decode cX3_become 12 = .ok (.getfield 21, 3) := by decide +kernel
theorem dX3_become_15 : decode cX3_become 15 = .ok (.aload_n 1, 1) := by decide +kernel
theorem dX3_become_16 : decode cX3_become 16 = .ok (.getfield 21, 3) := by decide +kernel
theorem dX3_become_19 : decode cX3_become 19 = .ok (.invokevirtual 127, 3) := by decide +kernel
theorem dX3_become_22 : decode cX3_become 22 = .ok (.aload_n 0, 1) := by decide +kernel
theorem dX3_become_23 : decode cX3_become 23 = .ok (.getfield 28, 3) := by decide +kernel
theorem dX3_become_26 : decode cX3_become 26 = .ok (.aload_n 1, 1) := by decide +kernel
theorem dX3_become_27 : decode cX3_become 27 = .ok (.getfield 28, 3) := by decide +kernel
theorem dX3_become_30 : decode cX3_become 30 = .ok (.invokevirtual 130, 3) := by decide +kernel
theorem dX3_become_33 : decode cX3_become 33 = .ok (.aload_n 1, 1) := by decide +kernel
theorem dX3_become_34 : decode cX3_become 34 = .ok (.getfield 32, 3) := by decide +kernel
theorem dX3_become_37 : decode cX3_become 37 = .ok (.iconst 0, 1) := by decide +kernel
theorem dX3_become_38 : decode cX3_become 38 = .ok (.aload_n 0, 1) := by decide +kernel
theorem dX3_become_39 : decode cX3_become 39 = .ok (.getfield 32, 3) := by decide +kernel
theorem dX3_become_42 : decode cX3_become 42 = .ok (.iconst 0, 1) := by decide +kernel
theorem dX3_become_43 : decode cX3_become 43 = .ok (.bipush 10, 2) := by decide +kernel
theorem dX3_become_45 : decode cX3_become 45 = .ok (.invokestatic 133, 3) := by decide +kernel
theorem dX3_become_48 : decode cX3_become 48 = .ok (.aload_n 0, 1) := by decide +kernel
theorem dX3_become_49 : decode cX3_become 49 = .ok (.aload_n 1, 1) := by decide +kernel
theorem dX3_become_50 : decode cX3_become 50 = .ok (.getfield 36, 3) := by decide +kernel
theorem dX3_become_53 : decode cX3_become 53 = .ok (.putfield 36, 3) := by decide +kernel
theorem dX3_become_56 : decode cX3_become 56 = .ok (.return_, 1) := by decide +kernel
theorem dX4_init_0 : decode cX4_init 0 = .ok (.aload_n 0, 1) := by decide +kernel
theorem dX4_init_1 : decode cX4_init 1 = .ok (.invokespecial 3, 3) := by decide +kernel
theorem dX4_init_4 : decode cX4_init 4 = .ok (.aload_n 0, 1) := by decide +kernel
theorem dX4_init_5 : decode cX4_init 5 = .ok (.bipush 40, 2) := by decide +kernel
theorem dX4_init_7 : decode cX4_init 7 = .ok (.newarray .int, 2) := by decide +kernel
theorem dX4_init_9 : decode cX4_init 9 = .ok (.putfield 9, 3) := by decide +kernel
theorem dX4_init_12 : decode cX4_init 12 = .ok (.return_, 1) := by decide +kernel
theorem dX4_isMissing_0 : decode cX4_isMissing 0 = .ok (.aload_n 0, 1) := by decide +kernel
theorem dX4_isMissing_1 : decode cX4_isMissing 1 = .ok (.getfield 15, 3) := by decide +kernel
theorem dX4_isMissing_4 : decode cX4_isMissing 4 = .ok (.ifCond .ne 7, 3) := by decide +kernel
theorem dX4_isMissing_7 : decode cX4_isMissing 7 = .ok (.iconst 1, 1) := by decide +kernel
theorem dX4_isMissing_8 : decode cX4_isMissing 8 = .ok (.goto 4, 3) := by decide +kernel
theorem dX4_isMissing_11 : decode cX4_isMissing 11 = .ok (.iconst 0, 1) := by decide +kernel
theorem dX4_isMissing_12 : decode cX4_isMissing 12 = .ok (.ireturn, 1) := by decide +kernel
theorem dX4_begin_0 : decode cX4_begin 0 = .ok (.aload_n 0, 1) := by decide +kernel
theorem dX4_begin_1 : decode cX4_begin 1 = .ok (.iload_n 1, 1) := by decide +kernel
theorem dX4_begin_2 : decode cX4_begin 2 = .ok (.putfield 15, 3) := by decide +kernel
theorem dX4_begin_5 : decode cX4_begin 5 = .ok (.aload_n 0, 1) := by decide +kernel
theorem dX4_begin_6 : decode cX4_begin 6 = .ok (.iload_n 1, 1) := by decide +kernel
theorem dX4_begin_7 : decode cX4_begin 7 = .ok (.ifCond .ne 7, 3) := by decide +kernel
theorem dX4_begin_10 : decode cX4_begin 10 = .ok (.iconst 0, 1) := by decide +kernel
theorem dX4_begin_11 : decode cX4_begin 11 = .ok (.goto 4, 3) := by decide +kernel
theorem dX4_begin_14 : decode cX4_begin 14 = .ok (.iload_n 2, 1) := by decide +kernel
theorem dX4_begin_15 : decode cX4_begin 15 = .ok (.putfield 19, 3) := by decide +kernel
theorem dX4_begin_18 : decode cX4_begin 18 = .ok (.iconst 0, 1) := by decide +kernel
theorem dX4_begin_19 : decode cX4_begin 19 = .ok (.istore_n 3, 1) := by decide +kernel
theorem dX4_begin_20 : decode cX4_begin 20 = .ok (.iload_n 3, 1) := by decide +kernel
theorem dX4_begin_21 : decode cX4_begin 21 = .ok (.aload_n 0, 1) := by decide +kernel
theorem dX4_begin_22 : decode cX4_begin 22 = .ok (.getfield 19, 3) := by decide +kernel
theorem dX4_begin_25 : decode cX4_begin 25 = .ok (.if_icmp .ge 16, 3) := by decide +kernel
theorem dX4_begin_28 : decode cX4_begin 28 = .ok (.aload_n 0, 1) := by decide +kernel
theorem dX4_begin_29 : decode cX4_begin 29 = .ok (.getfield 9, 3) := by decide +kernel
theorem dX4_begin_32 : decode cX4_begin 32 = .ok (.iload_n 3, 1) := by decide +kernel
theorem dX4_begin_33 : decode cX4_begin 33 = .ok (.iconst 0, 1) := by decide +kernel
theorem dX4_begin_34 : decode cX4_begin 34 = .ok (.iastore, 1) := by decide +kernel
theorem dX4_begin_35 : decode cX4_begin 35 = .ok (.iinc 3 1, 3) := by decide +kernel
theorem dX4_begin_38 : decode cX4_begin 38 = .ok (.goto (-18), 3) := by decide +kernel
theorem dX4_begin_41 : decode cX4_begin 41 = .ok (.return_, 1) := by decide +kernel
theorem dX4_put_0 : decode cX4_put 0 = .ok (.aload_n 0, 1) := by decide +kernel
theorem dX4_put_1 : decode cX4_put 1 = .ok (.getfield 15, 3) := by decide +kernel
theorem dX4_put_4 : decode cX4_put 4 = .ok (.bipush 8, 2) := by decide +kernel
theorem dX4_put_6 : decode cX4_put 6 = .ok (.if_icmp .ne 14, 3) := by decide +kernel
theorem dX4_put_9 : decode cX4_put 9 = .ok (.aload_n 0, 1) := by decide +kernel
theorem dX4_put_10 : decode cX4_put 10 = .ok (.getfield 9, 3) := by decide +kernel
theorem dX4_put_13 : decode cX4_put 13 = .ok (.iload_n 1, 1) := by decide +kernel
theorem dX4_put_14 : decode cX4_put 14 = .ok (.iload_n 2, 1) := by decide +kernel
theorem dX4_put_15 : decode cX4_put 15 = .ok (.i2b, 1) := by decide +kernel
theorem dX4_put_16 : decode cX4_put 16 = .ok (.iastore, 1) := by decide +kernel
theorem dX4_put_17 : decode cX4_put 17 = .ok (.goto 30, 3) := by decide +kernel
theorem dX4_put_20 : decode cX4_put 20 = .ok (.aload_n 0, 1) := by decide +kernel
theorem dX4_put_21 : decode cX4_put 21 = .ok (.getfield 15, 3) := by decide +kernel
theorem dX4_put_24 : decode cX4_put 24 = .ok (.bipush 16, 2) := by decide +kernel
theorem dX4_put_26 : decode cX4_put 26 = .ok (.if_icmp .ne 14, 3) := by decide +kernel
theorem dX4_put_29 : decode cX4_put 29 = .ok (.aload_n 0, 1) := by decide +kernel
theorem dX4_put_30 : decode cX4_put 30 = .ok (.getfield 9, 3) := by decide +kernel
theorem dX4_put_33 : decode cX4_put 33 = .ok (.iload_n 1, 1) := by decide +kernel
theorem dX4_put_34 : decode cX4_put 34 = .ok (.iload_n 2, 1) := by decide +kernel
theorem dX4_put_35 : decode cX4_put 35 = .ok (.i2s, 1) := by decide +kernel
theorem dX4_put_36 : decode cX4_put 36 = .ok (.iastore, 1) := by decide +kernel
theorem dX4_put_37 : decode cX4_put 37 = .ok (.goto 10, 3) := by decide +kernel
theorem dX4_put_40 : decode cX4_put 40 = .ok (.aload_n 0, 1) := by decide +kernel
theorem dX4_put_41 : decode cX4_put 41 = .ok (.getfield 9, 3) := by decide +kernel
theorem dX4_put_44 : decode cX4_put 44 = .ok (.iload_n 1, 1) := by decide +kernel
theorem dX4_put_45 : decode cX4_put 45 = .ok (.iload_n 2, 1) := by decide +kernel
theorem dX4_put_46 : decode cX4_put 46 = .ok (.iastore, 1) := by decide +kernel
theorem dX4_put_47 : decode cX4_put 47 = .ok (.return_, 1) := by decide +kernel
theorem dX4_hasRange_0 : decode cX4_hasRange 0 = .ok (.iload_n 2, 1) := by decide +kernel
theorem dX4_hasRange_1 : decode cX4_hasRange 1 = .ok (.ifCond .lt 29, 3) := by decide +kernel
theorem dX4_hasRange_4 : decode cX4_hasRange 4 = .ok (.iload_n 2, 1) := by decide +kernel
theorem dX4_hasRange_5 : decode cX4_hasRange 5 = .ok (.aload_n 0, 1) := by decide +kernel
theorem dX4_hasRange_6 : decode cX4_hasRange 6 = .ok (.getfield 19, 3) := by decide +kernel
theorem dX4_hasRange_9 : decode cX4_hasRange 9 = .ok (.if_icmp .gt 21, 3) := by decide +kernel
theorem dX4_hasRange_12 : decode cX4_hasRange 12 = .ok (.iload_n 1, 1) := by decide +kernel
theorem dX4_hasRange_13 : decode cX4_hasRange 13 = .ok (.iconst 0, 1) := by decide +kernel
theorem dX4_hasRange_14 : decode cX4_hasRange 14 = .ok (.aload_n 0, 1) := by decide +kernel
theorem dX4_hasRange_15 : decode cX4_hasRange 15 = .ok (.getfield 19, 3) := by decide +kernel
theorem dX4_hasRange_18 : decode cX4_hasRange 18 = .ok (.iload_n 2, 1) := by decide +kernel
theorem dX4_hasRange_19 : decode cX4_hasRange 19 = .ok (.isub, 1) := by decide +kernel
theorem dX4_hasRange_20 : decode cX4_hasRange 20 = .ok (.invokestatic 22, 3) := by decide +kernel
theorem dX4_hasRange_23 : decode cX4_hasRange 23 = .ok (.ifCond .eq 7, 3) := by decide +kernel
theorem dX4_hasRange_26 : decode cX4_hasRange 26 = .ok (.iconst 1, 1) := by decide +kernel
theorem dX4_hasRange_27 : decode cX4_hasRange 27 = .ok (.goto 4, 3) := by decide +kernel
theorem dX4_hasRange_30 : decode cX4_hasRange 30 = .ok (.iconst 0, 1) := by decide +kernel
theorem dX4_hasRange_31 : decode cX4_hasRange 31 = .ok (.ireturn, 1) := by decide +kernel
theorem dX5_init_0 : decode cX5_init 0 = .ok (.aload_n 0, 1) := by decide +kernel
theorem dX5_init_1 : decode cX5_init 1 = .ok (.invokespecial 3, 3) := by decide +kernel
theorem dX5_init_4 : decode cX5_init 4 = .ok (.aload_n 0, 1) := by decide +kernel
theorem dX5_init_5 : decode cX5_init 5 = .ok (.bipush 8, 2) := by decide +kernel
theorem dX5_init_7 : decode cX5_init 7 = .ok (.newarray .int, 2) := by decide +kernel
theorem dX5_init_9 : decode cX5_init 9 = .ok (.putfield 9, 3) := by decide +kernel
theorem dX5_init_12 : decode cX5_init 12 = .ok (.return_, 1) := by decide +kernel
theorem dX5_gather_0 : decode cX5_gather 0 = .ok (.aload_n 0, 1) := by decide +kernel
theorem dX5_gather_1 : decode cX5_gather 1 = .ok (.aload_n 1, 1) := by decide +kernel
theorem dX5_gather_2 : decode cX5_gather 2 = .ok (.iload_n 2, 1) := by decide +kernel
theorem dX5_gather_3 : decode cX5_gather 3 = .ok (.invokevirtual 15, 3) := by decide +kernel
theorem dX5_gather_6 : decode cX5_gather 6 = .ok (.aload_n 0, 1) := by decide +kernel
theorem dX5_gather_7 : decode cX5_gather 7 = .ok (.aload_n 1, 1) := by decide +kernel
theorem dX5_gather_8 : decode cX5_gather 8 = .ok (.iload_n 2, 1) := by decide +kernel
theorem dX5_gather_9 : decode cX5_gather 9 = .ok (.invokevirtual 19, 3) := by decide +kernel
theorem dX5_gather_12 : decode cX5_gather 12 = .ok (.aload_n 0, 1) := by decide +kernel
theorem dX5_gather_13 : decode cX5_gather 13 = .ok (.getfield 9, 3) := by decide +kernel
theorem dX5_gather_16 : decode cX5_gather 16 = .ok (.iconst 3, 1) := by decide +kernel
theorem dX5_gather_17 : decode cX5_gather 17 = .ok (.aload_n 1, 1) := by decide +kernel
theorem dX5_gather_18 : decode cX5_gather 18 = .ok (.iload_n 2, 1) := by decide +kernel
theorem dX5_gather_19 : decode cX5_gather 19 = .ok (.invokevirtual 22, 3) := by decide +kernel
theorem dX5_gather_22 : decode cX5_gather 22 = .ok (.invokestatic 28, 3) := by decide +kernel
theorem dX5_gather_25 : decode cX5_gather 25 = .ok (.iastore, 1) := by decide +kernel
theorem dX5_gather_26 : decode cX5_gather 26 = .ok (.aload_n 0, 1) := by decide +kernel
theorem dX5_gather_27 : decode cX5_gather 27 = .ok (.getfield 9, 3) := by decide +kernel
theorem dX5_gather_30 : decode cX5_gather 30 = .ok (.bipush 6, 2) := by decide +kernel
theorem dX5_gather_32 : decode cX5_gather 32 = .ok (.aload_n 1, 1) := by decide +kernel
theorem dX5_gather_33 : decode cX5_gather 33 = .ok (.iload_n 2, 1) := by decide +kernel
theorem dX5_gather_34 : decode cX5_gather 34 = .ok (.invokestatic 33, 3) := by decide +kernel
theorem dX5_gather_37 : decode cX5_gather 37 = .ok (.iastore, 1) := by decide +kernel
theorem dX5_gather_38 : decode cX5_gather 38 = .ok (.aload_n 0, 1) := by decide +kernel
theorem dX5_gather_39 : decode cX5_gather 39 = .ok (.getfield 9, 3) := by decide +kernel
theorem dX5_gather_42 : decode cX5_gather 42 = .ok (.bipush 7, 2) := by decide +kernel
theorem dX5_gather_44 : decode cX5_gather 44 = .ok (.iload_n 2, 1) := by decide +kernel
theorem dX5_gather_45 : decode cX5_gather 45 = .ok (.iastore, 1) := by decide +kernel
theorem dX5_gather_46 : decode cX5_gather 46 = .ok (.return_, 1) := by decide +kernel
theorem dX5_gatherGaps_0 : decode cX5_gatherGaps 0 = .ok (.iconst 0, 1) := by decide +kernel
theorem dX5_gatherGaps_1 : decode cX5_gatherGaps 1 = .ok (.istore_n 3, 1) := by decide +kernel
theorem dX5_gatherGaps_2 : decode cX5_gatherGaps 2 = .ok (.iconst 0, 1) := by decide +kernel
theorem dX5_gatherGaps_3 : decode cX5_gatherGaps 3 = .ok (.istore 4, 2) := by decide +kernel
theorem dX5_gatherGaps_5 : decode cX5_gatherGaps 5 = .ok (.sipush 29999, 3) := by decide +kernel
theorem dX5_gatherGaps_8 : decode cX5_gatherGaps 8 = .ok (.istore 5, 2) := by decide +kernel
theorem dX5_gatherGaps_10 : decode cX5_gatherGaps 10 = .ok (.iconst 0, 1) := by decide +kernel
theorem dX5_gatherGaps_11 : decode cX5_gatherGaps 11 = .ok (.istore 6, 2) := by decide +kernel
theorem dX5_gatherGaps_13 : decode cX5_gatherGaps 13 = .ok (.iconst 0, 1) := by decide +kernel
theorem dX5_gatherGaps_14 : decode cX5_gatherGaps 14 = .ok (.istore 7, 2) := by decide +kernel
theorem dX5_gatherGaps_16 : decode cX5_gatherGaps 16 = .ok (.iload 7, 2) := by decide +kernel
theorem dX5_gatherGaps_18 : decode cX5_gatherGaps 18 = .ok (.aload_n 1, 1) := by decide +kernel
theorem dX5_gatherGaps_19 : decode cX5_gatherGaps 19 = .ok (.getfield 37, 3) := by decide +kernel
theorem dX5_gatherGaps_22 : decode cX5_gatherGaps 22 = .ok (.if_icmp .ge 67, 3) := by decide +kernel
theorem dX5_gatherGaps_25 : decode cX5_gatherGaps 25 = .ok (.aload_n 1, 1) := by decide +kernel
theorem dX5_gatherGaps_26 : decode cX5_gatherGaps 26 = .ok (.getfield 41, 3) := by decide +kernel
theorem dX5_gatherGaps_29 : decode cX5_gatherGaps 29 = .ok (.iload 7, 2) := by decide +kernel
theorem dX5_gatherGaps_31 : decode cX5_gatherGaps 31 = .ok (.iaload, 1) := by decide +kernel
theorem dX5_gatherGaps_32 : decode cX5_gatherGaps 32 = .ok (.iload_n 2, 1) := by decide +kernel
theorem dX5_gatherGaps_33 : decode cX5_gatherGaps 33 = .ok (.if_icmp .eq 6, 3) := by decide +kernel
theorem dX5_gatherGaps_36 : decode cX5_gatherGaps 36 = .ok (.goto 47, 3) := by decide +kernel
theorem dX5_gatherGaps_39 : decode cX5_gatherGaps 39 = .ok (.iload_n 3, 1) := by decide +kernel
theorem dX5_gatherGaps_40 : decode cX5_gatherGaps 40 = .ok (.ifCond .le 31, 3) := by decide +kernel
theorem dX5_gatherGaps_43 : decode cX5_gatherGaps 43 = .ok (.aload_n 1, 1) := by decide +kernel
theorem dX5_gatherGaps_44 : decode cX5_gatherGaps 44 = .ok (.getfield 44, 3) := by decide +kernel
theorem dX5_gatherGaps_47 : decode cX5_gatherGaps 47 = .ok (.iload 7, 2) := by decide +kernel
theorem dX5_gatherGaps_49 : decode cX5_gatherGaps 49 = .ok (.iaload, 1) := by decide +kernel
theorem dX5_gatherGaps_50 : decode cX5_gatherGaps 50 = .ok (.iload 6, 2) := by decide +kernel
theorem dX5_gatherGaps_52 : decode cX5_gatherGaps 52 = .ok (.isub, 1) := by decide +kernel
theorem dX5_gatherGaps_53 : decode cX5_gatherGaps 53 = .ok (.istore 8, 2) := by decide +kernel
theorem dX5_gatherGaps_55 : decode cX5_gatherGaps 55 = .ok (.iload 4, 2) := by decide +kernel
theorem dX5_gatherGaps_57 : decode cX5_gatherGaps 57 = .ok (.iload 8, 2) := by decide +kernel
theorem dX5_gatherGaps_59 : decode cX5_gatherGaps 59 = .ok (.iadd, 1) := by decide +kernel
theorem dX5_gatherGaps_60 : decode cX5_gatherGaps 60 = .ok (.istore 4, 2) := by decide +kernel
theorem dX5_gatherGaps_62 : decode cX5_gatherGaps 62 = .ok (.iload 5, 2) := by decide +kernel
theorem dX5_gatherGaps_64 : decode cX5_gatherGaps 64 = .ok (.iload 8, 2) := by decide +kernel
theorem dX5_gatherGaps_66 : decode cX5_gatherGaps 66 = .ok (.invokestatic 47, 3) := by decide +kernel
theorem dX5_gatherGaps_69 : decode cX5_gatherGaps 69 = .ok (.istore 5, 2) := by decide +kernel
theorem dX5_gatherGaps_71 : decode cX5_gatherGaps 71 = .ok (.aload_n 1, 1) := by decide +kernel
theorem dX5_gatherGaps_72 : decode cX5_gatherGaps 72 = .ok (.getfield 44, 3) := by decide +kernel
theorem dX5_gatherGaps_75 : decode cX5_gatherGaps 75 = .ok (.iload 7, 2) := by decide +kernel
theorem dX5_gatherGaps_77 : decode cX5_gatherGaps 77 = .ok (.iaload, 1) := by decide +kernel
theorem dX5_gatherGaps_78 : decode cX5_gatherGaps 78 = .ok (.istore 6, 2) := by decide +kernel
theorem dX5_gatherGaps_80 : decode cX5_gatherGaps 80 = .ok (.iinc 3 1, 3) := by decide +kernel
theorem dX5_gatherGaps_83 : decode cX5_gatherGaps 83 = .ok (.iinc 7 1, 3) := by decide +kernel
theorem dX5_gatherGaps_86 : decode cX5_gatherGaps 86 = .ok (.goto (-70), 3) := by decide +kernel
theorem dX5_gatherGaps_89 : decode cX5_gatherGaps 89 = .ok (.aload_n 0, 1) := by decide +kernel
theorem dX5_gatherGaps_90 : decode cX5_gatherGaps 90 = .ok (.getfield 9, 3) := by decide +kernel
theorem dX5_gatherGaps_93 : decode cX5_gatherGaps 93 = .ok (.iconst 0, 1) := by decide +kernel
theorem dX5_gatherGaps_94 : decode cX5_gatherGaps 94 = .ok (.iload_n 3, 1) := by decide +kernel
theorem dX5_gatherGaps_95 : decode cX5_gatherGaps 95 = .ok (.iastore, 1) := by decide +kernel
theorem dX5_gatherGaps_96 : decode cX5_gatherGaps 96 = .ok (.aload_n 0, 1) := by decide +kernel
theorem dX5_gatherGaps_97 : decode cX5_gatherGaps 97 = .ok (.getfield 9, 3) := by decide +kernel
theorem dX5_gatherGaps_100 : decode cX5_gatherGaps 100 = .ok (.iconst 1, 1) := by decide +kernel
theorem dX5_gatherGaps_101 : decode cX5_gatherGaps 101 = .ok (.iload_n 3, 1) := by decide +kernel
theorem dX5_gatherGaps_102 : decode cX5_gatherGaps 102 = .ok (.iconst 2, 1) := by decide +kernel
theorem dX5_gatherGaps_103 : decode cX5_gatherGaps 103 = .ok (.if_icmp .ge 7, 3) := by decide +kernel
theorem dX5_gatherGaps_106 : decode cX5_gatherGaps 106 = .ok (.iconst 0, 1) := by decide +kernel
theorem dX5_gatherGaps_107 : decode cX5_gatherGaps 107 = .ok (.goto 11, 3) := by decide +kernel
theorem dX5_gatherGaps_110 : decode cX5_gatherGaps 110 = .ok (.iload 4, 2) := by decide +kernel
theorem dX5_gatherGaps_112 : decode cX5_gatherGaps 112 = .ok (.iload_n 3, 1) := by decide +kernel
theorem dX5_gatherGaps_113 : decode cX5_gatherGaps 113 = .ok (.iconst 1, 1) := by decide +kernel
theorem dX5_gatherGaps_114 : decode cX5_gatherGaps 114 = .ok (.isub, 1) := by decide +kernel
theorem dX5_gatherGaps_115 : decode cX5_gatherGaps 115 = .ok (.invokestatic 53, 3) := by decide +kernel
theorem dX5_gatherGaps_118 : decode cX5_gatherGaps 118 = .ok (.iastore, 1) := by decide +kernel
theorem dX5_gatherGaps_119 : decode cX5_gatherGaps 119 = .ok (.aload_n 0, 1) := by decide +kernel
theorem dX5_gatherGaps_120 : decode cX5_gatherGaps 120 = .ok (.getfield 9, 3) := by decide +kernel
theorem dX5_gatherGaps_123 : decode cX5_gatherGaps 123 = .ok (.iconst 2, 1) := by decide +kernel
theorem dX5_gatherGaps_124 : decode cX5_gatherGaps 124 = .ok (.iload_n 3, 1) := by decide +kernel
theorem dX5_gatherGaps_125 : decode cX5_gatherGaps 125 = .ok (.iconst 2, 1) := by decide +kernel
theorem dX5_gatherGaps_126 : decode cX5_gatherGaps 126 = .ok (.if_icmp .ge 7, 3) := by decide +kernel
theorem dX5_gatherGaps_129 : decode cX5_gatherGaps 129 = .ok (.iconst 0, 1) := by decide +kernel
theorem dX5_gatherGaps_130 : decode cX5_gatherGaps 130 = .ok (.goto 5, 3) := by decide +kernel
theorem dX5_gatherGaps_133 : decode cX5_gatherGaps 133 = .ok (.iload 5, 2) := by decide +kernel
theorem dX5_gatherGaps_135 : decode cX5_gatherGaps 135 = .ok (.iastore, 1) := by decide +kernel
theorem dX5_gatherGaps_136 : decode cX5_gatherGaps 136 = .ok (.return_, 1) := by decide +kernel
theorem dX5_gatherFollowing_0 : decode cX5_gatherFollowing 0 = .ok (.iconst 0, 1) := by decide +kernel
theorem dX5_gatherFollowing_1 : decode cX5_gatherFollowing 1 = .ok (.istore_n 3, 1) := by decide +kernel
theorem dX5_gatherFollowing_2 : decode cX5_gatherFollowing 2 = .ok (.bipush 99, 2) := by decide +kernel
theorem dX5_gatherFollowing_4 : decode cX5_gatherFollowing 4 = .ok (.istore 4, 2) := by decide +kernel
theorem dX5_gatherFollowing_6 : decode cX5_gatherFollowing 6 = .ok (.iconst 0, 1) := by decide +kernel
theorem dX5_gatherFollowing_7 : decode cX5_gatherFollowing 7 = .ok (.istore 5, 2) := by decide +kernel
theorem dX5_gatherFollowing_9 : decode cX5_gatherFollowing 9 = .ok (.iload 5, 2) := by decide +kernel
theorem dX5_gatherFollowing_11 : decode cX5_gatherFollowing 11 = .ok (.aload_n 1, 1) := by decide +kernel
theorem dX5_gatherFollowing_12 : decode cX5_gatherFollowing 12 = .ok (.getfield 37, 3) := by decide +kernel
theorem dX5_gatherFollowing_15 : decode cX5_gatherFollowing 15 = .ok (.if_icmp .ge 59, 3) := by decide +kernel
theorem dX5_gatherFollowing_18 : decode cX5_gatherFollowing 18 = .ok (.aload_n 1, 1) := by decide +kernel
theorem dX5_gatherFollowing_19 : decode cX5_gatherFollowing 19 = .ok (.getfield 56, 3) := by decide +kernel
theorem dX5_gatherFollowing_22 : decode cX5_gatherFollowing 22 = .ok (.iload 5, 2) := by decide +kernel
theorem dX5_gatherFollowing_24 : decode cX5_gatherFollowing 24 = .ok (.iaload, 1) := by decide +kernel
theorem dX5_gatherFollowing_25 : decode cX5_gatherFollowing 25 = .ok (.istore 6, 2) := by decide +kernel
theorem dX5_gatherFollowing_27 : decode cX5_gatherFollowing 27 = .ok (.aload_n 1, 1) := by decide +kernel
theorem dX5_gatherFollowing_28 : decode cX5_gatherFollowing 28 = .ok (.getfield 41, 3) := by decide +kernel
theorem dX5_gatherFollowing_31 : decode cX5_gatherFollowing 31 = .ok (.iload 5, 2) := by decide +kernel
theorem dX5_gatherFollowing_33 : decode cX5_gatherFollowing 33 = .ok (.iaload, 1) := by decide +kernel
theorem dX5_gatherFollowing_34 : decode cX5_gatherFollowing 34 = .ok (.iload_n 2, 1) := by decide +kernel
theorem dX5_gatherFollowing_35 : decode cX5_gatherFollowing 35 = .ok (.if_icmp .ne 33, 3) := by decide +kernel
theorem dX5_gatherFollowing_38 : decode cX5_gatherFollowing 38 = .ok (.iload 6, 2) := by decide +kernel
theorem dX5_gatherFollowing_40 : decode cX5_gatherFollowing 40 = .ok (.ifCond .lt 28, 3) := by decide +kernel
theorem dX5_gatherFollowing_43 : decode cX5_gatherFollowing 43 = .ok (.iinc 3 1, 3) := by decide +kernel
theorem dX5_gatherFollowing_46 : decode cX5_gatherFollowing 46 = .ok (.iload 4, 2) := by decide +kernel
theorem dX5_gatherFollowing_48 : decode cX5_gatherFollowing 48 = .ok (.aload_n 1, 1) := by decide +kernel
theorem dX5_gatherFollowing_49 : decode cX5_gatherFollowing 49 = .ok (.getfield 44, 3) := by decide +kernel
theorem dX5_gatherFollowing_52 : decode cX5_gatherFollowing 52 = .ok (.iload 5, 2) := by decide +kernel
theorem dX5_gatherFollowing_54 : decode cX5_gatherFollowing 54 = .ok (.iaload, 1) := by decide +kernel
theorem dX5_gatherFollowing_55 : decode cX5_gatherFollowing 55 = .ok (.aload_n 1, 1) := by decide +kernel
theorem dX5_gatherFollowing_56 : decode cX5_gatherFollowing 56 = .ok (.getfield 44, 3) := by decide +kernel
theorem dX5_gatherFollowing_59 : decode cX5_gatherFollowing 59 = .ok (.iload 6, 2) := by decide +kernel
theorem dX5_gatherFollowing_61 : decode cX5_gatherFollowing 61 = .ok (.iaload, 1) := by decide +kernel
theorem dX5_gatherFollowing_62 : decode cX5_gatherFollowing 62 = .ok (.isub, 1) := by decide +kernel
theorem dX5_gatherFollowing_63 : decode cX5_gatherFollowing 63 = .ok (.invokestatic 47, 3) := by decide +kernel
theorem dX5_gatherFollowing_66 : decode cX5_gatherFollowing 66 = .ok (.istore 4, 2) := by decide +kernel
theorem dX5_gatherFollowing_68 : decode cX5_gatherFollowing 68 = .ok (.iinc 5 1, 3) := by decide +kernel
theorem dX5_gatherFollowing_71 : decode cX5_gatherFollowing 71 = .ok (.goto (-62), 3) := by decide +kernel
theorem dX5_gatherFollowing_74 : decode cX5_gatherFollowing 74 = .ok (.aload_n 0, 1) := by decide +kernel
theorem dX5_gatherFollowing_75 : decode cX5_gatherFollowing 75 = .ok (.getfield 9, 3) := by decide +kernel
theorem dX5_gatherFollowing_78 : decode cX5_gatherFollowing 78 = .ok (.iconst 4, 1) := by decide +kernel
theorem dX5_gatherFollowing_79 : decode cX5_gatherFollowing 79 = .ok (.iload_n 3, 1) := by decide +kernel
theorem dX5_gatherFollowing_80 : decode cX5_gatherFollowing 80 = .ok (.iastore, 1) := by decide +kernel
theorem dX5_gatherFollowing_81 : decode cX5_gatherFollowing 81 = .ok (.aload_n 0, 1) := by decide +kernel
theorem dX5_gatherFollowing_82 : decode cX5_gatherFollowing 82 = .ok (.getfield 9, 3) := by decide +kernel
theorem dX5_gatherFollowing_85 : decode cX5_gatherFollowing 85 = .ok (.iconst 5, 1) := by decide +kernel
theorem dX5_gatherFollowing_86 : decode cX5_gatherFollowing 86 = .ok (.iload 4, 2) := by decide +kernel
theorem dX5_gatherFollowing_88 : decode cX5_gatherFollowing 88 = .ok (.iastore, 1) := by decide +kernel
theorem dX5_gatherFollowing_89 : decode cX5_gatherFollowing 89 = .ok (.return_, 1) := by decide +kernel
theorem dX5_countTopics_0 : decode cX5_countTopics 0 = .ok (.iconst 0, 1) := by decide +kernel
theorem dX5_countTopics_1 : decode cX5_countTopics 1 = .ok (.istore_n 2, 1) := by decide +kernel
theorem dX5_countTopics_2 : decode cX5_countTopics 2 = .ok (.iconst 0, 1) := by decide +kernel
theorem dX5_countTopics_3 : decode cX5_countTopics 3 = .ok (.istore_n 3, 1) := by decide +kernel
theorem dX5_countTopics_4 : decode cX5_countTopics 4 = .ok (.iload_n 3, 1) := by decide +kernel
theorem dX5_countTopics_5 : decode cX5_countTopics 5 = .ok (.aload_n 0, 1) := by decide +kernel
theorem dX5_countTopics_6 : decode cX5_countTopics 6 = .ok (.getfield 37, 3) := by decide +kernel
theorem dX5_countTopics_9 : decode cX5_countTopics 9 = .ok (.if_icmp .ge 30, 3) := by decide +kernel
theorem dX5_countTopics_12 : decode cX5_countTopics 12 = .ok (.aload_n 0, 1) := by decide +kernel
theorem dX5_countTopics_13 : decode cX5_countTopics 13 = .ok (.getfield 41, 3) := by decide +kernel
theorem dX5_countTopics_16 : decode cX5_countTopics 16 = .ok (.iload_n 3, 1) := by decide +kernel
theorem dX5_countTopics_17 : decode cX5_countTopics 17 = .ok (.iaload, 1) := by decide +kernel
theorem dX5_countTopics_18 : decode cX5_countTopics 18 = .ok (.iload_n 1, 1) := by decide +kernel
theorem dX5_countTopics_19 : decode cX5_countTopics 19 = .ok (.if_icmp .ne 14, 3) := by decide +kernel
theorem dX5_countTopics_22 : decode cX5_countTopics 22 = .ok (.iload_n 2, 1) := by decide +kernel
theorem dX5_countTopics_23 : decode cX5_countTopics 23 = .ok (.iconst 1, 1) := by decide +kernel
theorem dX5_countTopics_24 : decode cX5_countTopics 24 = .ok (.aload_n 0, 1) := by decide +kernel
theorem dX5_countTopics_25 : decode cX5_countTopics 25 = .ok (.getfield 59, 3) := by decide +kernel
theorem dX5_countTopics_28 : decode cX5_countTopics 28 = .ok (.iload_n 3, 1) := by decide +kernel
theorem dX5_countTopics_29 : decode cX5_countTopics 29 = .ok (.iaload, 1) := by decide +kernel
theorem dX5_countTopics_30 : decode cX5_countTopics 30 = .ok (.ishl, 1) := by decide +kernel
theorem dX5_countTopics_31 : decode cX5_countTopics 31 = .ok (.ior, 1) := by decide +kernel
theorem dX5_countTopics_32 : decode cX5_countTopics 32 = .ok (.istore_n 2, 1) := by decide +kernel
theorem dX5_countTopics_33 : decode cX5_countTopics 33 = .ok (.iinc 3 1, 3) := by decide +kernel
theorem dX5_countTopics_36 : decode cX5_countTopics 36 = .ok (.goto (-32), 3) := by decide +kernel
theorem dX5_countTopics_39 : decode cX5_countTopics 39 = .ok (.iload_n 2, 1) := by decide +kernel
theorem dX5_countTopics_40 : decode cX5_countTopics 40 = .ok (.invokestatic 28, 3) := by decide +kernel
theorem dX5_countTopics_43 : decode cX5_countTopics 43 = .ok (.ireturn, 1) := by decide +kernel
theorem dX6_init_0 : decode cX6_init 0 = .ok (.aload_n 0, 1) := by decide +kernel
theorem dX6_init_1 : decode cX6_init 1 = .ok (.invokespecial 3, 3) := by decide +kernel
theorem dX6_init_4 : decode cX6_init 4 = .ok (.aload_n 0, 1) := by decide +kernel
theorem dX6_init_5 : decode cX6_init 5 = .ok (.bipush 6, 2) := by decide +kernel
theorem dX6_init_7 : decode cX6_init 7 = .ok (.bipush 80, 2) := by decide +kernel
theorem dX6_init_9 : decode cX6_init 9 = .ok (.multianewarray 9 2, 4) := by decide +kernel
theorem dX6_init_13 : decode cX6_init 13 = .ok (.putfield 11, 3) := by decide +kernel
theorem dX6_init_16 : decode cX6_init 16 = .ok (.aload_n 0, 1) := by decide +kernel
theorem dX6_init_17 : decode cX6_init 17 = .ok (.bipush 6, 2) := by decide +kernel
theorem dX6_init_19 : decode cX6_init 19 = .ok (.newarray .int, 2) := by decide +kernel
theorem dX6_init_21 : decode cX6_init 21 = .ok (.putfield 16, 3) := by decide +kernel
theorem dX6_init_24 : decode cX6_init 24 = .ok (.return_, 1) := by decide +kernel
theorem dX6_has_0 : decode cX6_has 0 = .ok (.iload_n 1, 1) := by decide +kernel
theorem dX6_has_1 : decode cX6_has 1 = .ok (.iconst 0, 1) := by decide +kernel
theorem dX6_has_2 : decode cX6_has 2 = .ok (.aload_n 0, 1) := by decide +kernel
theorem dX6_has_3 : decode cX6_has 3 = .ok (.getfield 20, 3) := by decide +kernel
theorem dX6_has_6 : decode cX6_has 6 = .ok (.iconst 1, 1) := by decide +kernel
theorem dX6_has_7 : decode cX6_has 7 = .ok (.isub, 1) := by decide +kernel
theorem dX6_has_8 : decode cX6_has 8 = .ok (.invokestatic 24, 3) := by decide +kernel
theorem dX6_has_11 : decode cX6_has 11 = .ok (.ireturn, 1) := by decide +kernel
theorem dX6_add_0 : decode cX6_add 0 = .ok (.aload_n 1, 1) := by decide +kernel
theorem dX6_add_1 : decode cX6_add 1 = .ok (.iconst 0, 1) := by decide +kernel
theorem dX6_add_2 : decode cX6_add 2 = .ok (.aload_n 0, 1) := by decide +kernel
theorem dX6_add_3 : decode cX6_add 3 = .ok (.getfield 11, 3) := by decide +kernel
theorem dX6_add_6 : decode cX6_add 6 = .ok (.aload_n 0, 1) := by decide +kernel
theorem dX6_add_7 : decode cX6_add 7 = .ok (.getfield 20, 3) := by decide +kernel
theorem dX6_add_10 : decode cX6_add 10 = .ok (.aaload, 1) := by decide +kernel
theorem dX6_add_11 : decode cX6_add 11 = .ok (.iconst 0, 1) := by decide +kernel
theorem dX6_add_12 : decode cX6_add 12 = .ok (.iload_n 2, 1) := by decide +kernel
theorem dX6_add_13 : decode cX6_add 13 = .ok (.invokestatic 28, 3) := by decide +kernel
theorem dX6_add_16 : decode cX6_add 16 = .ok (.aload_n 0, 1) := by decide +kernel
theorem dX6_add_17 : decode cX6_add 17 = .ok (.getfield 16, 3) := by decide +kernel
theorem dX6_add_20 : decode cX6_add 20 = .ok (.aload_n 0, 1) := by decide +kernel
theorem dX6_add_21 : decode cX6_add 21 = .ok (.getfield 20, 3) := by decide +kernel
theorem dX6_add_24 : decode cX6_add 24 = .ok (.iload_n 2, 1) := by decide +kernel
theorem dX6_add_25 : decode cX6_add 25 = .ok (.iastore, 1) := by decide +kernel
theorem dX6_add_26 : decode cX6_add 26 = .ok (.aload_n 0, 1) := by decide +kernel
theorem dX6_add_27 : decode cX6_add 27 = .ok (.dup, 1) := by decide +kernel
theorem dX6_add_28 : decode cX6_add 28 = .ok (.getfield 20, 3) := by decide +kernel
theorem dX6_add_31 : decode cX6_add 31 = .ok (.iconst 1, 1) := by decide +kernel
theorem dX6_add_32 : decode cX6_add 32 = .ok (.iadd, 1) := by decide +kernel
theorem dX6_add_33 : decode cX6_add 33 = .ok (.putfield 20, 3) := by decide +kernel
theorem dX6_add_36 : decode cX6_add 36 = .ok (.aload_n 0, 1) := by decide +kernel
theorem dX6_add_37 : decode cX6_add 37 = .ok (.getfield 20, 3) := by decide +kernel
theorem dX6_add_40 : decode cX6_add 40 = .ok (.iconst 1, 1) := by decide +kernel
theorem dX6_add_41 : decode cX6_add 41 = .ok (.isub, 1) := by decide +kernel
theorem dX6_add_42 : decode cX6_add 42 = .ok (.ireturn, 1) := by decide +kernel
theorem dX6_become_0 : decode cX6_become 0 = .ok (.aload_n 0, 1) := by decide +kernel
theorem dX6_become_1 : decode cX6_become 1 = .ok (.aload_n 1, 1) := by decide +kernel
theorem dX6_become_2 : decode cX6_become 2 = .ok (.getfield 20, 3) := by decide +kernel
theorem dX6_become_5 : decode cX6_become 5 = .ok (.putfield 20, 3) := by decide +kernel
theorem dX6_become_8 : decode cX6_become 8 = .ok (.iconst 0, 1) := by decide +kernel
theorem dX6_become_9 : decode cX6_become 9 = .ok (.istore_n 2, 1) := by decide +kernel
theorem dX6_become_10 : decode cX6_become 10 = .ok (.iload_n 2, 1) := by decide +kernel
theorem dX6_become_11 : decode cX6_become 11 = .ok (.aload_n 0, 1) := by decide +kernel
theorem dX6_become_12 : decode cX6_become 12 = .ok (.getfield 20, 3) := by decide +kernel
theorem dX6_become_15 : decode cX6_become 15 = .ok (.if_icmp .ge 44, 3) := by decide +kernel
theorem dX6_become_18 : decode cX6_become 18 = .ok (.aload_n 0, 1) := by decide +kernel
theorem dX6_become_19 : decode cX6_become 19 = .ok (.getfield 16, 3) := by decide +kernel
theorem dX6_become_22 : decode cX6_become 22 = .ok (.iload_n 2, 1) := by decide +kernel
theorem dX6_become_23 : decode cX6_become 23 = .ok (.aload_n 1, 1) := by decide +kernel
theorem dX6_become_24 : decode cX6_become 24 = .ok (.getfield 16, 3) := by decide +kernel
theorem dX6_become_27 : decode cX6_become 27 = .ok (.iload_n 2, 1) := by decide +kernel
theorem dX6_become_28 : decode cX6_become 28 = .ok (.iaload, 1) := by decide +kernel
theorem dX6_become_29 : decode cX6_become 29 = .ok (.iastore, 1) := by decide +kernel
theorem dX6_become_30 : decode cX6_become 30 = .ok (.aload_n 1, 1) := by decide +kernel
theorem dX6_become_31 : decode cX6_become 31 = .ok (.getfield 11, 3) := by decide +kernel
theorem dX6_become_34 : decode cX6_become 34 = .ok (.iload_n 2, 1) := by decide +kernel
theorem dX6_become_35 : decode cX6_become 35 = .ok (.aaload, 1) := by decide +kernel
theorem dX6_become_36 : decode cX6_become 36 = .ok (.iconst 0, 1) := by decide +kernel
theorem dX6_become_37 : decode cX6_become 37 = .ok (.aload_n 0, 1) := by decide +kernel
theorem dX6_become_38 : decode cX6_become 38 = .ok (.getfield 11, 3) := by decide +kernel
theorem dX6_become_41 : decode cX6_become 41 = .ok (.iload_n 2, 1) := by decide +kernel
theorem dX6_become_42 : decode cX6_become 42 = .ok (.aaload, 1) := by decide +kernel
theorem dX6_become_43 : decode cX6_become 43 = .ok (.iconst 0, 1) := by decide +kernel
theorem dX6_become_44 : decode cX6_become 44 = .ok (.aload_n 0, 1) := by decide +kernel
theorem dX6_become_45 : decode cX6_become 45 = .ok (.getfield 16, 3) := by decide +kernel
theorem dX6_become_48 : decode cX6_become 48 = .ok (.iload_n 2, 1) := by decide +kernel
theorem dX6_become_49 : decode cX6_become 49 = .ok (.iaload, 1) := by decide +kernel
theorem dX6_become_50 : decode cX6_become 50 = .ok (.invokestatic 28, 3) := by decide +kernel
theorem dX6_become_53 : decode cX6_become 53 = .ok (.iinc 2 1, 3) := by decide +kernel
theorem dX6_become_56 : decode cX6_become 56 = .ok (.goto (-46), 3) := by decide +kernel
theorem dX6_become_59 : decode cX6_become 59 = .ok (.return_, 1) := by decide +kernel
theorem dX7_init_0 : decode cX7_init 0 = .ok (.aload_n 0, 1) := by decide +kernel
theorem dX7_init_1 : decode cX7_init 1 = .ok (.invokespecial 3, 3) := by decide +kernel
theorem dX7_init_4 : decode cX7_init 4 = .ok (.aload_n 0, 1) := by decide +kernel
theorem dX7_init_5 : decode cX7_init 5 = .ok (.bipush 14, 2) := by decide +kernel
theorem dX7_init_7 : decode cX7_init 7 = .ok (.newarray .int, 2) := by decide +kernel
theorem dX7_init_9 : decode cX7_init 9 = .ok (.putfield 9, 3) := by decide +kernel
theorem dX7_init_12 : decode cX7_init 12 = .ok (.aload_n 0, 1) := by decide +kernel
theorem dX7_init_13 : decode cX7_init 13 = .ok (.bipush 14, 2) := by decide +kernel
theorem dX7_init_15 : decode cX7_init 15 = .ok (.bipush 14, 2) := by decide +kernel
theorem dX7_init_17 : decode cX7_init 17 = .ok (.multianewarray 15 2, 4) := by decide +kernel
theorem dX7_init_21 : decode cX7_init 21 = .ok (.putfield 17, 3) := by decide +kernel
theorem dX7_init_24 : decode cX7_init 24 = .ok (.return_, 1) := by decide +kernel
theorem dX7_gather_0 : decode cX7_gather 0 = .ok (.aload_n 0, 1) := by decide +kernel
theorem dX7_gather_1 : decode cX7_gather 1 = .ok (.iload_n 2, 1) := by decide +kernel
theorem dX7_gather_2 : decode cX7_gather 2 = .ok (.putfield 20, 3) := by decide +kernel
theorem dX7_gather_5 : decode cX7_gather 5 = .ok (.aload_n 0, 1) := by decide +kernel
theorem dX7_gather_6 : decode cX7_gather 6 = .ok (.aload_n 1, 1) := by decide +kernel
theorem dX7_gather_7 : decode cX7_gather 7 = .ok (.iload_n 3, 1) := by decide +kernel
theorem dX7_gather_8 : decode cX7_gather 8 = .ok (.invokevirtual 24, 3) := by decide +kernel
theorem dX7_gather_11 : decode cX7_gather 11 = .ok (.iconst 0, 1) := by decide +kernel
theorem dX7_gather_12 : decode cX7_gather 12 = .ok (.istore 5, 2) := by decide +kernel
theorem dX7_gather_14 : decode cX7_gather 14 = .ok (.iload 5, 2) := by decide +kernel
theorem dX7_gather_16 : decode cX7_gather 16 = .ok (.aload_n 0, 1) := by decide +kernel
theorem dX7_gather_17 : decode cX7_gather 17 = .ok (.getfield 20, 3) := by decide +kernel
theorem dX7_gather_20 : decode cX7_gather 20 = .ok (.if_icmp .ge 18, 3) := by decide +kernel
theorem dX7_gather_23 : decode cX7_gather 23 = .ok (.aload_n 0, 1) := by decide +kernel
theorem dX7_gather_24 : decode cX7_gather 24 = .ok (.getfield 9, 3) := by decide +kernel
theorem dX7_gather_27 : decode cX7_gather 27 = .ok (.iload 5, 2) := by decide +kernel
theorem dX7_gather_29 : decode cX7_gather 29 = .ok (.iload 5, 2) := by decide +kernel
theorem dX7_gather_31 : decode cX7_gather 31 = .ok (.iastore, 1) := by decide +kernel
theorem dX7_gather_32 : decode cX7_gather 32 = .ok (.iinc 5 1, 3) := by decide +kernel
theorem dX7_gather_35 : decode cX7_gather 35 = .ok (.goto (-21), 3) := by decide +kernel
theorem dX7_gather_38 : decode cX7_gather 38 = .ok (.iconst 0, 1) := by decide +kernel
theorem dX7_gather_39 : decode cX7_gather 39 = .ok (.istore 5, 2) := by decide +kernel
theorem dX7_gather_41 : decode cX7_gather 41 = .ok (.iload 5, 2) := by decide +kernel
theorem dX7_gather_43 : decode cX7_gather 43 = .ok (.aload_n 0, 1) := by decide +kernel
theorem dX7_gather_44 : decode cX7_gather 44 = .ok (.getfield 20, 3) := by decide +kernel
theorem dX7_gather_47 : decode cX7_gather 47 = .ok (.if_icmp .ge 73, 3) := by decide +kernel
theorem dX7_gather_50 : decode cX7_gather 50 = .ok (.iconst 0, 1) := by decide +kernel
theorem dX7_gather_51 : decode cX7_gather 51 = .ok (.istore 6, 2) := by decide +kernel
theorem dX7_gather_53 : decode cX7_gather 53 = .ok (.iload 6, 2) := by decide +kernel
theorem dX7_gather_55 : decode cX7_gather 55 = .ok (.iload 5, 2) := by decide +kernel
theorem dX7_gather_57 : decode cX7_gather 57 = .ok (.if_icmp .ge 57, 3) := by decide +kernel
theorem dX7_gather_60 : decode cX7_gather 60 = .ok (.aload_n 0, 1) := by decide +kernel
theorem dX7_gather_61 : decode cX7_gather 61 = .ok (.getfield 17, 3) := by decide +kernel
theorem dX7_gather_64 : decode cX7_gather 64 = .ok (.iload 5, 2) := by decide +kernel
theorem dX7_gather_66 : decode cX7_gather 66 = .ok (.aaload, 1) := by decide +kernel
theorem dX7_gather_67 : decode cX7_gather 67 = .ok (.iload 6, 2) := by decide +kernel
theorem dX7_gather_69 : decode cX7_gather 69 = .ok (.iaload, 1) := by decide +kernel
theorem dX7_gather_70 : decode cX7_gather 70 = .ok (.iload 4, 2) := by decide +kernel
theorem dX7_gather_72 : decode cX7_gather 72 = .ok (.if_icmp .ge 18, 3) := by decide +kernel
theorem dX7_gather_75 : decode cX7_gather 75 = .ok (.aload_n 0, 1) := by decide +kernel
theorem dX7_gather_76 : decode cX7_gather 76 = .ok (.getfield 17, 3) := by decide +kernel
theorem dX7_gather_79 : decode cX7_gather 79 = .ok (.iload 6, 2) := by decide +kernel
theorem dX7_gather_81 : decode cX7_gather 81 = .ok (.aaload, 1) := by decide +kernel
theorem dX7_gather_82 : decode cX7_gather 82 = .ok (.iload 5, 2) := by decide +kernel
theorem dX7_gather_84 : decode cX7_gather 84 = .ok (.iaload, 1) := by decide +kernel
theorem dX7_gather_85 : decode cX7_gather 85 = .ok (.iload 4, 2) := by decide +kernel
theorem dX7_gather_87 : decode cX7_gather 87 = .ok (.if_icmp .lt 21, 3) := by decide +kernel
theorem dX7_gather_90 : decode cX7_gather 90 = .ok (.aload_n 0, 1) := by decide +kernel
theorem dX7_gather_91 : decode cX7_gather 91 = .ok (.aload_n 0, 1) := by decide +kernel
theorem dX7_gather_92 : decode cX7_gather 92 = .ok (.getfield 9, 3) := by decide +kernel
theorem dX7_gather_95 : decode cX7_gather 95 = .ok (.iload 5, 2) := by decide +kernel
theorem dX7_gather_97 : decode cX7_gather 97 = .ok (.iaload, 1) := by decide +kernel
theorem dX7_gather_98 : decode cX7_gather 98 = .ok (.aload_n 0, 1) := by decide +kernel
theorem dX7_gather_99 : decode cX7_gather 99 = .ok (.getfield 9, 3) := by decide +kernel
theorem dX7_gather_102 : decode cX7_gather 102 = .ok (.iload 6, 2) := by decide +kernel
theorem dX7_gather_104 : decode cX7_gather 104 = .ok (.iaload, 1) := by decide +kernel
theorem dX7_gather_105 : decode cX7_gather 105 = .ok (.invokevirtual 28, 3) := by decide +kernel
theorem dX7_gather_108 : decode cX7_gather 108 = .ok (.iinc 6 1, 3) := by decide +kernel
theorem dX7_gather_111 : decode cX7_gather 111 = .ok (.goto (-58), 3) := by decide +kernel
theorem dX7_gather_114 : decode cX7_gather 114 = .ok (.iinc 5 1, 3) := by decide +kernel
theorem dX7_gather_117 : decode cX7_gather 117 = .ok (.goto (-76), 3) := by decide +kernel
theorem dX7_gather_120 : decode cX7_gather 120 = .ok (.return_, 1) := by decide +kernel
theorem dX7_gatherNear_0 : decode cX7_gatherNear 0 = .ok (.iconst 0, 1) := by decide +kernel
theorem dX7_gatherNear_1 : decode cX7_gatherNear 1 = .ok (.istore_n 3, 1) := by decide +kernel
theorem dX7_gatherNear_2 : decode cX7_gatherNear 2 = .ok (.iload_n 3, 1) := by decide +kernel
theorem dX7_gatherNear_3 : decode cX7_gatherNear 3 = .ok (.aload_n 0, 1) := by decide +kernel
theorem dX7_gatherNear_4 : decode cX7_gatherNear 4 = .ok (.getfield 20, 3) := by decide +kernel
theorem dX7_gatherNear_7 : decode cX7_gatherNear 7 = .ok (.if_icmp .ge 37, 3) := by decide +kernel
theorem dX7_gatherNear_10 : decode cX7_gatherNear 10 = .ok (.iconst 0, 1) := by decide +kernel
theorem dX7_gatherNear_11 : decode cX7_gatherNear 11 = .ok (.istore 4, 2) := by decide +kernel
theorem dX7_gatherNear_13 : decode cX7_gatherNear 13 = .ok (.iload 4, 2) := by decide +kernel
theorem dX7_gatherNear_15 : decode cX7_gatherNear 15 = .ok (.aload_n 0, 1) := by decide +kernel
theorem dX7_gatherNear_16 : decode cX7_gatherNear 16 = .ok (.getfield 20, 3) := by decide +kernel
theorem dX7_gatherNear_19 : decode cX7_gatherNear 19 = .ok (.if_icmp .ge 19, 3) := by decide +kernel
theorem dX7_gatherNear_22 : decode cX7_gatherNear 22 = .ok (.aload_n 0, 1) := by decide +kernel
theorem dX7_gatherNear_23 : decode cX7_gatherNear 23 = .ok (.getfield 17, 3) := by decide +kernel
theorem dX7_gatherNear_26 : decode cX7_gatherNear 26 = .ok (.iload_n 3, 1) := by decide +kernel
theorem dX7_gatherNear_27 : decode cX7_gatherNear 27 = .ok (.aaload, 1) := by decide +kernel
theorem dX7_gatherNear_28 : decode cX7_gatherNear 28 = .ok (.iload 4, 2) := by decide +kernel
theorem dX7_gatherNear_30 : decode cX7_gatherNear 30 = .ok (.iconst 0, 1) := by decide +kernel
theorem dX7_gatherNear_31 : decode cX7_gatherNear 31 = .ok (.iastore, 1) := by decide +kernel
theorem dX7_gatherNear_32 : decode cX7_gatherNear 32 = .ok (.iinc 4 1, 3) := by decide +kernel
theorem dX7_gatherNear_35 : decode cX7_gatherNear 35 = .ok (.goto (-22), 3) := by decide +kernel
theorem dX7_gatherNear_38 : decode cX7_gatherNear 38 = .ok (.iinc 3 1, 3) := by decide +kernel
theorem dX7_gatherNear_41 : decode cX7_gatherNear 41 = .ok (.goto (-39), 3) := by decide +kernel
theorem dX7_gatherNear_44 : decode cX7_gatherNear 44 = .ok (.iconst 0, 1) := by decide +kernel
theorem dX7_gatherNear_45 : decode cX7_gatherNear 45 = .ok (.istore_n 3, 1) := by decide +kernel
theorem dX7_gatherNear_46 : decode cX7_gatherNear 46 = .ok (.iload_n 3, 1) := by decide +kernel
theorem dX7_gatherNear_47 : decode cX7_gatherNear 47 = .ok (.aload_n 1, 1) := by decide +kernel
theorem dX7_gatherNear_48 : decode cX7_gatherNear 48 = .ok (.getfield 32, 3) := by decide +kernel
theorem dX7_gatherNear_51 : decode cX7_gatherNear 51 = .ok (.if_icmp .ge 62, 3) := by decide +kernel
theorem dX7_gatherNear_54 : decode cX7_gatherNear 54 = .ok (.aload_n 1, 1) := by decide +kernel
theorem dX7_gatherNear_55 : decode cX7_gatherNear 55 = .ok (.iload_n 3, 1) := by decide +kernel
theorem dX7_gatherNear_56 : decode cX7_gatherNear 56 = .ok (.iload_n 2, 1) := by decide +kernel
theorem dX7_gatherNear_57 : decode cX7_gatherNear 57 = .ok (.invokevirtual 35, 3) := by decide +kernel
theorem dX7_gatherNear_60 : decode cX7_gatherNear 60 = .ok (.istore 4, 2) := by decide +kernel
theorem dX7_gatherNear_62 : decode cX7_gatherNear 62 = .ok (.iconst 0, 1) := by decide +kernel
theorem dX7_gatherNear_63 : decode cX7_gatherNear 63 = .ok (.istore 5, 2) := by decide +kernel
theorem dX7_gatherNear_65 : decode cX7_gatherNear 65 = .ok (.iload 5, 2) := by decide +kernel
theorem dX7_gatherNear_67 : decode cX7_gatherNear 67 = .ok (.aload_n 0, 1) := by decide +kernel
theorem dX7_gatherNear_68 : decode cX7_gatherNear 68 = .ok (.getfield 20, 3) := by decide +kernel
theorem dX7_gatherNear_71 : decode cX7_gatherNear 71 = .ok (.if_icmp .ge 36, 3) := by decide +kernel
theorem dX7_gatherNear_74 : decode cX7_gatherNear 74 = .ok (.aload_n 0, 1) := by decide +kernel
theorem dX7_gatherNear_75 : decode cX7_gatherNear 75 = .ok (.getfield 17, 3) := by decide +kernel
theorem dX7_gatherNear_78 : decode cX7_gatherNear 78 = .ok (.aload_n 1, 1) := by decide +kernel
theorem dX7_gatherNear_79 : decode cX7_gatherNear 79 = .ok (.getfield 39, 3) := by decide +kernel
theorem dX7_gatherNear_82 : decode cX7_gatherNear 82 = .ok (.iload_n 3, 1) := by decide +kernel
theorem dX7_gatherNear_83 : decode cX7_gatherNear 83 = .ok (.iaload, 1) := by decide +kernel
theorem dX7_gatherNear_84 : decode cX7_gatherNear 84 = .ok (.aaload, 1) := by decide +kernel
theorem dX7_gatherNear_85 : decode cX7_gatherNear 85 = .ok (.iload 5, 2) := by decide +kernel
theorem dX7_gatherNear_87 : decode cX7_gatherNear 87 = .ok (.dup2, 1) := by decide +kernel
theorem dX7_gatherNear_88 : decode cX7_gatherNear 88 = .ok (.iaload, 1) := by decide +kernel
theorem dX7_gatherNear_89 : decode cX7_gatherNear 89 = .ok (.iload 4, 2) := by decide +kernel
theorem dX7_gatherNear_91 : decode cX7_gatherNear 91 = .ok (.iload 5, 2) := by decide +kernel
theorem dX7_gatherNear_93 : decode cX7_gatherNear 93 = .ok (.invokestatic 42, 3) := by decide +kernel
theorem dX7_gatherNear_96 : decode cX7_gatherNear 96 = .ok (.invokestatic 46, 3) := by decide +kernel
theorem dX7_gatherNear_99 : decode cX7_gatherNear 99 = .ok (.iadd, 1) := by decide +kernel
theorem dX7_gatherNear_100 : decode cX7_gatherNear 100 = .ok (.iastore, 1) := by decide +kernel
theorem dX7_gatherNear_101 : decode cX7_gatherNear 101 = .ok (.iinc 5 1, 3) := by decide +kernel
theorem dX7_gatherNear_104 : decode cX7_gatherNear 104 = .ok (.goto (-39), 3) := by decide +kernel
theorem dX7_gatherNear_107 : decode cX7_gatherNear 107 = .ok (.iinc 3 1, 3) := by decide +kernel
theorem dX7_gatherNear_110 : decode cX7_gatherNear 110 = .ok (.goto (-64), 3) := by decide +kernel
theorem dX7_gatherNear_113 : decode cX7_gatherNear 113 = .ok (.return_, 1) := by decide +kernel
theorem dX7_join_0 : decode cX7_join 0 = .ok (.iload_n 1, 1) := by decide +kernel
theorem dX7_join_1 : decode cX7_join 1 = .ok (.iload_n 2, 1) := by decide +kernel
theorem dX7_join_2 : decode cX7_join 2 = .ok (.invokestatic 50, 3) := by decide +kernel
theorem dX7_join_5 : decode cX7_join 5 = .ok (.istore_n 3, 1) := by decide +kernel
theorem dX7_join_6 : decode cX7_join 6 = .ok (.iconst 0, 1) := by decide +kernel
theorem dX7_join_7 : decode cX7_join 7 = .ok (.istore 4, 2) := by decide +kernel
theorem dX7_join_9 : decode cX7_join 9 = .ok (.iload 4, 2) := by decide +kernel
theorem dX7_join_11 : decode cX7_join 11 = .ok (.aload_n 0, 1) := by decide +kernel
theorem dX7_join_12 : decode cX7_join 12 = .ok (.getfield 20, 3) := by decide +kernel
theorem dX7_join_15 : decode cX7_join 15 = .ok (.if_icmp .ge 39, 3) := by decide +kernel
theorem dX7_join_18 : decode cX7_join 18 = .ok (.aload_n 0, 1) := by decide +kernel
theorem dX7_join_19 : decode cX7_join 19 = .ok (.getfield 9, 3) := by decide +kernel
theorem dX7_join_22 : decode cX7_join 22 = .ok (.iload 4, 2) := by decide +kernel
theorem dX7_join_24 : decode cX7_join 24 = .ok (.iaload, 1) := by decide +kernel
theorem dX7_join_25 : decode cX7_join 25 = .ok (.iload_n 1, 1) := by decide +kernel
theorem dX7_join_26 : decode cX7_join 26 = .ok (.if_icmp .eq 14, 3) := by decide +kernel
theorem dX7_join_29 : decode cX7_join 29 = .ok (.aload_n 0, 1) := by decide +kernel
theorem dX7_join_30 : decode cX7_join 30 = .ok (.getfield 9, 3) := by decide +kernel
theorem dX7_join_33 : decode cX7_join 33 = .ok (.iload 4, 2) := by decide +kernel
theorem dX7_join_35 : decode cX7_join 35 = .ok (.iaload, 1) := by decide +kernel
theorem dX7_join_36 : decode cX7_join 36 = .ok (.iload_n 2, 1) := by decide +kernel
theorem dX7_join_37 : decode cX7_join 37 = .ok (.if_icmp .ne 11, 3) := by decide +kernel
theorem dX7_join_40 : decode cX7_join 40 = .ok (.aload_n 0, 1) := by decide +kernel
theorem dX7_join_41 : decode cX7_join 41 = .ok (.getfield 9, 3) := by decide +kernel
theorem dX7_join_44 : decode cX7_join 44 = .ok (.iload 4, 2) := by decide +kernel
theorem dX7_join_46 : decode cX7_join 46 = .ok (.iload_n 3, 1) := by decide +kernel
theorem dX7_join_47 : decode cX7_join 47 = .ok (.iastore, 1) := by decide +kernel
theorem dX7_join_48 : decode cX7_join 48 = .ok (.iinc 4 1, 3) := by decide +kernel
theorem dX7_join_51 : decode cX7_join 51 = .ok (.goto (-42), 3) := by decide +kernel
theorem dX7_join_54 : decode cX7_join 54 = .ok (.return_, 1) := by decide +kernel
theorem dX7_groupSet_0 : decode cX7_groupSet 0 = .ok (.iconst 0, 1) := by decide +kernel
theorem dX7_groupSet_1 : decode cX7_groupSet 1 = .ok (.istore_n 2, 1) := by decide +kernel
theorem dX7_groupSet_2 : decode cX7_groupSet 2 = .ok (.iconst 0, 1) := by decide +kernel
theorem dX7_groupSet_3 : decode cX7_groupSet 3 = .ok (.istore_n 3, 1) := by decide +kernel
theorem dX7_groupSet_4 : decode cX7_groupSet 4 = .ok (.iload_n 3, 1) := by decide +kernel
theorem dX7_groupSet_5 : decode cX7_groupSet 5 = .ok (.aload_n 0, 1) := by decide +kernel
theorem dX7_groupSet_6 : decode cX7_groupSet 6 = .ok (.getfield 20, 3) := by decide +kernel
theorem dX7_groupSet_9 : decode cX7_groupSet 9 = .ok (.if_icmp .ge 25, 3) := by decide +kernel
theorem dX7_groupSet_12 : decode cX7_groupSet 12 = .ok (.aload_n 0, 1) := by decide +kernel
theorem dX7_groupSet_13 : decode cX7_groupSet 13 = .ok (.getfield 9, 3) := by decide +kernel
theorem dX7_groupSet_16 : decode cX7_groupSet 16 = .ok (.iload_n 3, 1) := by decide +kernel
theorem dX7_groupSet_17 : decode cX7_groupSet 17 = .ok (.iaload, 1) := by decide +kernel
theorem dX7_groupSet_18 : decode cX7_groupSet 18 = .ok (.iload_n 1, 1) := by decide +kernel
theorem dX7_groupSet_19 : decode cX7_groupSet 19 = .ok (.if_icmp .ne 9, 3) := by decide +kernel
theorem dX7_groupSet_22 : decode cX7_groupSet 22 = .ok (.iload_n 2, 1) := by decide +kernel
theorem dX7_groupSet_23 : decode cX7_groupSet 23 = .ok (.iconst 1, 1) := by decide +kernel
theorem dX7_groupSet_24 : decode cX7_groupSet 24 = .ok (.iload_n 3, 1) := by decide +kernel
theorem dX7_groupSet_25 : decode cX7_groupSet 25 = .ok (.ishl, 1) := by decide +kernel
theorem dX7_groupSet_26 : decode cX7_groupSet 26 = .ok (.ior, 1) := by decide +kernel
theorem dX7_groupSet_27 : decode cX7_groupSet 27 = .ok (.istore_n 2, 1) := by decide +kernel
theorem dX7_groupSet_28 : decode cX7_groupSet 28 = .ok (.iinc 3 1, 3) := by decide +kernel
theorem dX7_groupSet_31 : decode cX7_groupSet 31 = .ok (.goto (-27), 3) := by decide +kernel
theorem dX7_groupSet_34 : decode cX7_groupSet 34 = .ok (.iload_n 2, 1) := by decide +kernel
theorem dX7_groupSet_35 : decode cX7_groupSet 35 = .ok (.ireturn, 1) := by decide +kernel
theorem dX7_countGroups_0 : decode cX7_countGroups 0 = .ok (.iconst 0, 1) := by decide +kernel
theorem dX7_countGroups_1 : decode cX7_countGroups 1 = .ok (.istore_n 1, 1) := by decide +kernel
theorem dX7_countGroups_2 : decode cX7_countGroups 2 = .ok (.iconst 0, 1) := by decide +kernel
theorem dX7_countGroups_3 : decode cX7_countGroups 3 = .ok (.istore_n 2, 1) := by decide +kernel
theorem dX7_countGroups_4 : decode cX7_countGroups 4 = .ok (.iload_n 2, 1) := by decide +kernel
theorem dX7_countGroups_5 : decode cX7_countGroups 5 = .ok (.aload_n 0, 1) := by decide +kernel
theorem dX7_countGroups_6 : decode cX7_countGroups 6 = .ok (.getfield 20, 3) := by decide +kernel
theorem dX7_countGroups_9 : decode cX7_countGroups 9 = .ok (.if_icmp .ge 30, 3) := by decide +kernel
theorem dX7_countGroups_12 : decode cX7_countGroups 12 = .ok (.iload_n 1, 1) := by decide +kernel
theorem dX7_countGroups_13 : decode cX7_countGroups 13 = .ok (.aload_n 0, 1) := by decide +kernel
theorem dX7_countGroups_14 : decode cX7_countGroups 14 = .ok (.getfield 9, 3) := by decide +kernel
theorem dX7_countGroups_17 : decode cX7_countGroups 17 = .ok (.iload_n 2, 1) := by decide +kernel
theorem dX7_countGroups_18 : decode cX7_countGroups 18 = .ok (.iaload, 1) := by decide +kernel
theorem dX7_countGroups_19 : decode cX7_countGroups 19 = .ok (.iload_n 2, 1) := by decide +kernel
theorem dX7_countGroups_20 : decode cX7_countGroups 20 = .ok (.if_icmp .ne 7, 3) := by decide +kernel
theorem dX7_countGroups_23 : decode cX7_countGroups 23 = .ok (.iconst 1, 1) := by decide +kernel
theorem dX7_countGroups_24 : decode cX7_countGroups 24 = .ok (.goto 4, 3) := by decide +kernel
theorem dX7_countGroups_27 : decode cX7_countGroups 27 = .ok (.iconst 0, 1) := by decide +kernel
theorem dX7_countGroups_28 : decode cX7_countGroups 28 = .ok (.invokestatic 46, 3) := by decide +kernel
theorem dX7_countGroups_31 : decode cX7_countGroups 31 = .ok (.iadd, 1) := by decide +kernel
theorem dX7_countGroups_32 : decode cX7_countGroups 32 = .ok (.istore_n 1, 1) := by decide +kernel
theorem dX7_countGroups_33 : decode cX7_countGroups 33 = .ok (.iinc 2 1, 3) := by decide +kernel
theorem dX7_countGroups_36 : decode cX7_countGroups 36 = .ok (.goto (-32), 3) := by decide +kernel
theorem dX7_countGroups_39 : decode cX7_countGroups 39 = .ok (.iload_n 1, 1) := by decide +kernel
theorem dX7_countGroups_40 : decode cX7_countGroups 40 = .ok (.ireturn, 1) := by decide +kernel
theorem dJ6_bitCount_0f7a4_0 : decode cJ6_bitCount_0f7a4 0 = .ok (.iload_n 0, 1) := by decide +kernel
theorem dJ6_bitCount_0f7a4_1 : decode cJ6_bitCount_0f7a4 1 = .ok (.iload_n 0, 1) := by decide +kernel
theorem dJ6_bitCount_0f7a4_2 : decode cJ6_bitCount_0f7a4 2 = .ok (.iconst 1, 1) := by decide +kernel
theorem dJ6_bitCount_0f7a4_3 : decode cJ6_bitCount_0f7a4 3 = .ok (.iushr, 1) := by decide +kernel
theorem dJ6_bitCount_0f7a4_4 : decode cJ6_bitCount_0f7a4 4 = .ok (.ldc_w 265, 3) := by decide +kernel
theorem dJ6_bitCount_0f7a4_7 : decode cJ6_bitCount_0f7a4 7 = .ok (.iand, 1) := by decide +kernel
theorem dJ6_bitCount_0f7a4_8 : decode cJ6_bitCount_0f7a4 8 = .ok (.isub, 1) := by decide +kernel
theorem dJ6_bitCount_0f7a4_9 : decode cJ6_bitCount_0f7a4 9 = .ok (.istore_n 0, 1) := by decide +kernel
theorem dJ6_bitCount_0f7a4_10 : decode cJ6_bitCount_0f7a4 10 = .ok (.iload_n 0, 1) := by decide +kernel
theorem dJ6_bitCount_0f7a4_11 : decode cJ6_bitCount_0f7a4 11 = .ok (.ldc_w 266, 3) := by decide +kernel
theorem dJ6_bitCount_0f7a4_14 : decode cJ6_bitCount_0f7a4 14 = .ok (.iand, 1) := by decide +kernel
theorem dJ6_bitCount_0f7a4_15 : decode cJ6_bitCount_0f7a4 15 = .ok (.iload_n 0, 1) := by decide +kernel
theorem dJ6_bitCount_0f7a4_16 : decode cJ6_bitCount_0f7a4 16 = .ok (.iconst 2, 1) := by decide +kernel
theorem dJ6_bitCount_0f7a4_17 : decode cJ6_bitCount_0f7a4 17 = .ok (.iushr, 1) := by decide +kernel
theorem dJ6_bitCount_0f7a4_18 : decode cJ6_bitCount_0f7a4 18 = .ok (.ldc_w 266, 3) := by decide +kernel
theorem dJ6_bitCount_0f7a4_21 : decode cJ6_bitCount_0f7a4 21 = .ok (.iand, 1) := by decide +kernel
theorem dJ6_bitCount_0f7a4_22 : decode cJ6_bitCount_0f7a4 22 = .ok (.iadd, 1) := by decide +kernel
theorem dJ6_bitCount_0f7a4_23 : decode cJ6_bitCount_0f7a4 23 = .ok (.istore_n 0, 1) := by decide +kernel
theorem dJ6_bitCount_0f7a4_24 : decode cJ6_bitCount_0f7a4 24 = .ok (.iload_n 0, 1) := by decide +kernel
theorem dJ6_bitCount_0f7a4_25 : decode cJ6_bitCount_0f7a4 25 = .ok (.iload_n 0, 1) := by decide +kernel
theorem dJ6_bitCount_0f7a4_26 : decode cJ6_bitCount_0f7a4 26 = .ok (.iconst 4, 1) := by decide +kernel
theorem dJ6_bitCount_0f7a4_27 : decode cJ6_bitCount_0f7a4 27 = .ok (.iushr, 1) := by decide +kernel
theorem dJ6_bitCount_0f7a4_28 : decode cJ6_bitCount_0f7a4 28 = .ok (.iadd, 1) := by decide +kernel
theorem dJ6_bitCount_0f7a4_29 : decode cJ6_bitCount_0f7a4 29 = .ok (.ldc_w 267, 3) := by decide +kernel
theorem dJ6_bitCount_0f7a4_32 : decode cJ6_bitCount_0f7a4 32 = .ok (.iand, 1) := by decide +kernel
theorem dJ6_bitCount_0f7a4_33 : decode cJ6_bitCount_0f7a4 33 = .ok (.istore_n 0, 1) := by decide +kernel
theorem dJ6_bitCount_0f7a4_34 : decode cJ6_bitCount_0f7a4 34 = .ok (.iload_n 0, 1) := by decide +kernel
theorem dJ6_bitCount_0f7a4_35 : decode cJ6_bitCount_0f7a4 35 = .ok (.iload_n 0, 1) := by decide +kernel
theorem dJ6_bitCount_0f7a4_36 : decode cJ6_bitCount_0f7a4 36 = .ok (.bipush 8, 2) := by decide +kernel
theorem dJ6_bitCount_0f7a4_38 : decode cJ6_bitCount_0f7a4 38 = .ok (.iushr, 1) := by decide +kernel
theorem dJ6_bitCount_0f7a4_39 : decode cJ6_bitCount_0f7a4 39 = .ok (.iadd, 1) := by decide +kernel
theorem dJ6_bitCount_0f7a4_40 : decode cJ6_bitCount_0f7a4 40 = .ok (.istore_n 0, 1) := by decide +kernel
theorem dJ6_bitCount_0f7a4_41 : decode cJ6_bitCount_0f7a4 41 = .ok (.iload_n 0, 1) := by decide +kernel
theorem dJ6_bitCount_0f7a4_42 : decode cJ6_bitCount_0f7a4 42 = .ok (.iload_n 0, 1) := by decide +kernel
theorem dJ6_bitCount_0f7a4_43 : decode cJ6_bitCount_0f7a4 43 = .ok (.bipush 16, 2) := by decide +kernel
theorem dJ6_bitCount_0f7a4_45 : decode cJ6_bitCount_0f7a4 45 = .ok (.iushr, 1) := by decide +kernel
theorem dJ6_bitCount_0f7a4_46 : decode cJ6_bitCount_0f7a4 46 = .ok (.iadd, 1) := by decide +kernel
theorem dJ6_bitCount_0f7a4_47 : decode cJ6_bitCount_0f7a4 47 = .ok (.istore_n 0, 1) := by decide +kernel
theorem dJ6_bitCount_0f7a4_48 : decode cJ6_bitCount_0f7a4 48 = .ok (.iload_n 0, 1) := by decide +kernel
theorem dJ6_bitCount_0f7a4_49 : decode cJ6_bitCount_0f7a4 49 = .ok (.bipush 63, 2) := by decide +kernel
theorem dJ6_bitCount_0f7a4_51 : decode cJ6_bitCount_0f7a4 51 = .ok (.iand, 1) := by decide +kernel
theorem dJ6_bitCount_0f7a4_52 : decode cJ6_bitCount_0f7a4 52 = .ok (.ireturn, 1) := by decide +kernel
theorem dJ9_abs_067f4_0 : decode cJ9_abs_067f4 0 = .ok (.lload_n 0, 1) := by decide +kernel
theorem dJ9_abs_067f4_1 : decode cJ9_abs_067f4 1 = .ok (.lconst 0, 1) := by decide +kernel
theorem dJ9_abs_067f4_2 : decode cJ9_abs_067f4 2 = .ok (.lcmp, 1) := by decide +kernel
theorem dJ9_abs_067f4_3 : decode cJ9_abs_067f4 3 = .ok (.ifCond .ge 8, 3) := by decide +kernel
theorem dJ9_abs_067f4_6 : decode cJ9_abs_067f4 6 = .ok (.lload_n 0, 1) := by decide +kernel
theorem dJ9_abs_067f4_7 : decode cJ9_abs_067f4 7 = .ok (.lneg, 1) := by decide +kernel
theorem dJ9_abs_067f4_8 : decode cJ9_abs_067f4 8 = .ok (.goto 4, 3) := by decide +kernel
theorem dJ9_abs_067f4_11 : decode cJ9_abs_067f4 11 = .ok (.lload_n 0, 1) := by decide +kernel
theorem dJ9_abs_067f4_12 : decode cJ9_abs_067f4 12 = .ok (.lreturn, 1) := by decide +kernel
theorem dJ9_max_7cf53_0 : decode cJ9_max_7cf53 0 = .ok (.iload_n 0, 1) := by decide +kernel
theorem dJ9_max_7cf53_1 : decode cJ9_max_7cf53 1 = .ok (.iload_n 1, 1) := by decide +kernel
theorem dJ9_max_7cf53_2 : decode cJ9_max_7cf53 2 = .ok (.if_icmp .lt 7, 3) := by decide +kernel
theorem dJ9_max_7cf53_5 : decode cJ9_max_7cf53 5 = .ok (.iload_n 0, 1) := by decide +kernel
theorem dJ9_max_7cf53_6 : decode cJ9_max_7cf53 6 = .ok (.goto 4, 3) := by decide +kernel
theorem dJ9_max_7cf53_9 : decode cJ9_max_7cf53 9 = .ok (.iload_n 1, 1) := by decide +kernel
theorem dJ9_max_7cf53_10 : decode cJ9_max_7cf53 10 = .ok (.ireturn, 1) := by decide +kernel
theorem dJ9_min_7cf53_0 : decode cJ9_min_7cf53 0 = .ok (.iload_n 0, 1) := by decide +kernel
theorem dJ9_min_7cf53_1 : decode cJ9_min_7cf53 1 = .ok (.iload_n 1, 1) := by decide +kernel
theorem dJ9_min_7cf53_2 : decode cJ9_min_7cf53 2 = .ok (.if_icmp .gt 7, 3) := by decide +kernel
theorem dJ9_min_7cf53_5 : decode cJ9_min_7cf53 5 = .ok (.iload_n 0, 1) := by decide +kernel
theorem dJ9_min_7cf53_6 : decode cJ9_min_7cf53 6 = .ok (.goto 4, 3) := by decide +kernel
theorem dJ9_min_7cf53_9 : decode cJ9_min_7cf53 9 = .ok (.iload_n 1, 1) := by decide +kernel
theorem dJ9_min_7cf53_10 : decode cJ9_min_7cf53 10 = .ok (.ireturn, 1) := by decide +kernel
theorem dJ0_length_8abf5_0 : decode cJ0_length_8abf5 0 = .ok (.aload_n 0, 1) := by decide +kernel
theorem dJ0_length_8abf5_1 : decode cJ0_length_8abf5 1 = .ok (.getfield 9, 3) := by decide +kernel
theorem dJ0_length_8abf5_4 : decode cJ0_length_8abf5 4 = .ok (.arraylength, 1) := by decide +kernel
theorem dJ0_length_8abf5_5 : decode cJ0_length_8abf5 5 = .ok (.aload_n 0, 1) := by decide +kernel
theorem dJ0_length_8abf5_6 : decode cJ0_length_8abf5 6 = .ok (.invokevirtual 335, 3) := by decide +kernel
theorem dJ0_length_8abf5_9 : decode cJ0_length_8abf5 9 = .ok (.ishr, 1) := by decide +kernel
theorem dJ0_length_8abf5_10 : decode cJ0_length_8abf5 10 = .ok (.ireturn, 1) := by decide +kernel
theorem dJ0_indexOf_0f7a4_0 : decode cJ0_indexOf_0f7a4 0 = .ok (.aload_n 0, 1) := by decide +kernel
theorem dJ0_indexOf_0f7a4_1 : decode cJ0_indexOf_0f7a4 1 = .ok (.iload_n 1, 1) := by decide +kernel
theorem dJ0_indexOf_0f7a4_2 : decode cJ0_indexOf_0f7a4 2 = .ok (.iconst 0, 1) := by decide +kernel
theorem dJ0_indexOf_0f7a4_3 : decode cJ0_indexOf_0f7a4 3 = .ok (.invokevirtual 633, 3) := by decide +kernel
theorem dJ0_indexOf_0f7a4_6 : decode cJ0_indexOf_0f7a4 6 = .ok (.ireturn, 1) := by decide +kernel
theorem dJ0_indexOf_7cf53_0 : decode cJ0_indexOf_7cf53 0 = .ok (.aload_n 0, 1) := by decide +kernel
theorem dJ0_indexOf_7cf53_1 : decode cJ0_indexOf_7cf53 1 = .ok (.invokevirtual 492, 3) := by decide +kernel
theorem dJ0_indexOf_7cf53_4 : decode cJ0_indexOf_7cf53 4 = .ok (.ifCond .eq 19, 3) := by decide +kernel
theorem dJ0_indexOf_7cf53_7 : decode cJ0_indexOf_7cf53 7 = .ok (.aload_n 0, 1) := by decide +kernel
theorem dJ0_indexOf_7cf53_8 : decode cJ0_indexOf_7cf53 8 = .ok (.getfield 9, 3) := by decide +kernel
theorem dJ0_indexOf_7cf53_11 : decode cJ0_indexOf_7cf53 11 = .ok (.iload_n 1, 1) := by decide +kernel
theorem dJ0_indexOf_7cf53_12 : decode cJ0_indexOf_7cf53 12 = .ok (.iload_n 2, 1) := by decide +kernel
theorem dJ0_indexOf_7cf53_13 : decode cJ0_indexOf_7cf53 13 = .ok (.aload_n 0, 1) := by decide +kernel
theorem dJ0_indexOf_7cf53_14 : decode cJ0_indexOf_7cf53 14 = .ok (.invokevirtual 505, 3) := by decide +kernel
theorem dJ0_indexOf_7cf53_17 : decode cJ0_indexOf_7cf53 17 = .ok (.invokestatic 637, 3) := by decide +kernel
theorem dJ0_indexOf_7cf53_20 : decode cJ0_indexOf_7cf53 20 = .ok (.goto 16, 3) := by decide +kernel
theorem dJ0_indexOf_7cf53_23 : decode cJ0_indexOf_7cf53 23 = .ok (.aload_n 0, 1) := by decide +kernel
theorem dJ0_indexOf_7cf53_24 : decode cJ0_indexOf_7cf53 24 = .ok (.getfield 9, 3) := by decide +kernel
theorem dJ0_indexOf_7cf53_27 : decode cJ0_indexOf_7cf53 27 = .ok (.iload_n 1, 1) := by decide +kernel
theorem dJ0_indexOf_7cf53_28 : decode cJ0_indexOf_7cf53 28 = .ok (.iload_n 2, 1) := by decide +kernel
theorem dJ0_indexOf_7cf53_29 : decode cJ0_indexOf_7cf53 29 = .ok (.aload_n 0, 1) := by decide +kernel
theorem dJ0_indexOf_7cf53_30 : decode cJ0_indexOf_7cf53 30 = .ok (.invokevirtual 505, 3) := by decide +kernel
theorem dJ0_indexOf_7cf53_33 : decode cJ0_indexOf_7cf53 33 = .ok (.invokestatic 640, 3) := by decide +kernel
theorem dJ0_indexOf_7cf53_36 : decode cJ0_indexOf_7cf53 36 = .ok (.ireturn, 1) := by decide +kernel
theorem dJ0_coder_7d493_0 : decode cJ0_coder_7d493 0 = .ok (.getstatic 38, 3) := by decide +kernel
theorem dJ0_coder_7d493_3 : decode cJ0_coder_7d493 3 = .ok (.ifCond .eq 10, 3) := by decide +kernel
theorem dJ0_coder_7d493_6 : decode cJ0_coder_7d493 6 = .ok (.aload_n 0, 1) := by decide +kernel
theorem dJ0_coder_7d493_7 : decode cJ0_coder_7d493 7 = .ok (.getfield 15, 3) := by decide +kernel
theorem dJ0_coder_7d493_10 : decode cJ0_coder_7d493 10 = .ok (.goto 4, 3) := by decide +kernel
theorem dJ0_coder_7d493_13 : decode cJ0_coder_7d493 13 = .ok (.iconst 1, 1) := by decide +kernel
theorem dJ0_coder_7d493_14 : decode cJ0_coder_7d493 14 = .ok (.ireturn, 1) := by decide +kernel
theorem dJ0_isLatin1_aae02_0 : decode cJ0_isLatin1_aae02 0 = .ok (.getstatic 38, 3) := by decide +kernel
theorem dJ0_isLatin1_aae02_3 : decode cJ0_isLatin1_aae02 3 = .ok (.ifCond .eq 14, 3) := by decide +kernel
theorem dJ0_isLatin1_aae02_6 : decode cJ0_isLatin1_aae02 6 = .ok (.aload_n 0, 1) := by decide +kernel
theorem dJ0_isLatin1_aae02_7 : decode cJ0_isLatin1_aae02 7 = .ok (.getfield 15, 3) := by decide +kernel
theorem dJ0_isLatin1_aae02_10 : decode cJ0_isLatin1_aae02 10 = .ok (.ifCond .ne 7, 3) := by decide +kernel
theorem dJ0_isLatin1_aae02_13 : decode cJ0_isLatin1_aae02 13 = .ok (.iconst 1, 1) := by decide +kernel
theorem dJ0_isLatin1_aae02_14 : decode cJ0_isLatin1_aae02 14 = .ok (.goto 4, 3) := by decide +kernel
theorem dJ0_isLatin1_aae02_17 : decode cJ0_isLatin1_aae02 17 = .ok (.iconst 0, 1) := by decide +kernel
theorem dJ0_isLatin1_aae02_18 : decode cJ0_isLatin1_aae02 18 = .ok (.ireturn, 1) := by decide +kernel
theorem dJ1_canEncode_9a6ad_0 : decode cJ1_canEncode_9a6ad 0 = .ok (.iload_n 0, 1) := by decide +kernel
theorem dJ1_canEncode_9a6ad_1 : decode cJ1_canEncode_9a6ad 1 = .ok (.ifCond .lt 14, 3) := by decide +kernel
theorem dJ1_canEncode_9a6ad_4 : decode cJ1_canEncode_9a6ad 4 = .ok (.iload_n 0, 1) := by decide +kernel
theorem dJ1_canEncode_9a6ad_5 : decode cJ1_canEncode_9a6ad 5 = .ok (.sipush 255, 3) := by decide +kernel
theorem dJ1_canEncode_9a6ad_8 : decode cJ1_canEncode_9a6ad 8 = .ok (.if_icmp .gt 7, 3) := by decide +kernel
theorem dJ1_canEncode_9a6ad_11 : decode cJ1_canEncode_9a6ad 11 = .ok (.iconst 1, 1) := by decide +kernel
theorem dJ1_canEncode_9a6ad_12 : decode cJ1_canEncode_9a6ad 12 = .ok (.goto 4, 3) := by decide +kernel
theorem dJ1_canEncode_9a6ad_15 : decode cJ1_canEncode_9a6ad 15 = .ok (.iconst 0, 1) := by decide +kernel
theorem dJ1_canEncode_9a6ad_16 : decode cJ1_canEncode_9a6ad 16 = .ok (.ireturn, 1) := by decide +kernel
theorem dJ1_indexOf_4cfef_0 : decode cJ1_indexOf_4cfef 0 = .ok (.iload_n 1, 1) := by decide +kernel
theorem dJ1_indexOf_4cfef_1 : decode cJ1_indexOf_4cfef 1 = .ok (.invokestatic 88, 3) := by decide +kernel
theorem dJ1_indexOf_4cfef_4 : decode cJ1_indexOf_4cfef 4 = .ok (.ifCond .ne 5, 3) := by decide +kernel
theorem dJ1_indexOf_4cfef_7 : decode cJ1_indexOf_4cfef 7 = .ok (.iconst (-1), 1) := by decide +kernel
theorem dJ1_indexOf_4cfef_8 : decode cJ1_indexOf_4cfef 8 = .ok (.ireturn, 1) := by decide +kernel
theorem dJ1_indexOf_4cfef_9 : decode cJ1_indexOf_4cfef 9 = .ok (.iload_n 2, 1) := by decide +kernel
theorem dJ1_indexOf_4cfef_10 : decode cJ1_indexOf_4cfef 10 = .ok (.iconst 0, 1) := by decide +kernel
theorem dJ1_indexOf_4cfef_11 : decode cJ1_indexOf_4cfef 11 = .ok (.invokestatic 92, 3) := by decide +kernel
theorem dJ1_indexOf_4cfef_14 : decode cJ1_indexOf_4cfef 14 = .ok (.istore_n 2, 1) := by decide +kernel
theorem dJ1_indexOf_4cfef_15 : decode cJ1_indexOf_4cfef 15 = .ok (.iload_n 3, 1) := by decide +kernel
theorem dJ1_indexOf_4cfef_16 : decode cJ1_indexOf_4cfef 16 = .ok (.aload_n 0, 1) := by decide +kernel
theorem dJ1_indexOf_4cfef_17 : decode cJ1_indexOf_4cfef 17 = .ok (.arraylength, 1) := by decide +kernel
theorem dJ1_indexOf_4cfef_18 : decode cJ1_indexOf_4cfef 18 = .ok (.invokestatic 38, 3) := by decide +kernel
theorem dJ1_indexOf_4cfef_21 : decode cJ1_indexOf_4cfef 21 = .ok (.istore_n 3, 1) := by decide +kernel
theorem dJ1_indexOf_4cfef_22 : decode cJ1_indexOf_4cfef 22 = .ok (.iload_n 2, 1) := by decide +kernel
theorem dJ1_indexOf_4cfef_23 : decode cJ1_indexOf_4cfef 23 = .ok (.iload_n 3, 1) := by decide +kernel
theorem dJ1_indexOf_4cfef_24 : decode cJ1_indexOf_4cfef 24 = .ok (.if_icmp .lt 5, 3) := by decide +kernel
theorem dJ1_indexOf_4cfef_27 : decode cJ1_indexOf_4cfef 27 = .ok (.iconst (-1), 1) := by decide +kernel
theorem dJ1_indexOf_4cfef_28 : decode cJ1_indexOf_4cfef 28 = .ok (.ireturn, 1) := by decide +kernel
theorem dJ1_indexOf_4cfef_29 : decode cJ1_indexOf_4cfef 29 = .ok (.aload_n 0, 1) := by decide +kernel
theorem dJ1_indexOf_4cfef_30 : decode cJ1_indexOf_4cfef 30 = .ok (.iload_n 1, 1) := by decide +kernel
theorem dJ1_indexOf_4cfef_31 : decode cJ1_indexOf_4cfef 31 = .ok (.iload_n 2, 1) := by decide +kernel
theorem dJ1_indexOf_4cfef_32 : decode cJ1_indexOf_4cfef 32 = .ok (.iload_n 3, 1) := by decide +kernel
theorem dJ1_indexOf_4cfef_33 : decode cJ1_indexOf_4cfef 33 = .ok (.invokestatic 95, 3) := by decide +kernel
theorem dJ1_indexOf_4cfef_36 : decode cJ1_indexOf_4cfef 36 = .ok (.ireturn, 1) := by decide +kernel
theorem dJ1_indexOfChar_4cfef_0 : decode cJ1_indexOfChar_4cfef 0 = .ok (.iload_n 1, 1) := by decide +kernel
theorem dJ1_indexOfChar_4cfef_1 : decode cJ1_indexOfChar_4cfef 1 = .ok (.i2b, 1) := by decide +kernel
theorem dJ1_indexOfChar_4cfef_2 : decode cJ1_indexOfChar_4cfef 2 = .ok (.istore 4, 2) := by decide +kernel
theorem dJ1_indexOfChar_4cfef_4 : decode cJ1_indexOfChar_4cfef 4 = .ok (.iload_n 2, 1) := by decide +kernel
theorem dJ1_indexOfChar_4cfef_5 : decode cJ1_indexOfChar_4cfef 5 = .ok (.istore 5, 2) := by decide +kernel
theorem dJ1_indexOfChar_4cfef_7 : decode cJ1_indexOfChar_4cfef 7 = .ok (.iload 5, 2) := by decide +kernel
theorem dJ1_indexOfChar_4cfef_9 : decode cJ1_indexOfChar_4cfef 9 = .ok (.iload_n 3, 1) := by decide +kernel
theorem dJ1_indexOfChar_4cfef_10 : decode cJ1_indexOfChar_4cfef 10 = .ok (.if_icmp .ge 21, 3) := by decide +kernel
theorem dJ1_indexOfChar_4cfef_13 : decode cJ1_indexOfChar_4cfef 13 = .ok (.aload_n 0, 1) := by decide +kernel
theorem dJ1_indexOfChar_4cfef_14 : decode cJ1_indexOfChar_4cfef 14 = .ok (.iload 5, 2) := by decide +kernel
theorem dJ1_indexOfChar_4cfef_16 : decode cJ1_indexOfChar_4cfef 16 = .ok (.baload, 1) := by decide +kernel
theorem dJ1_indexOfChar_4cfef_17 : decode cJ1_indexOfChar_4cfef 17 = .ok (.iload 4, 2) := by decide +kernel
theorem dJ1_indexOfChar_4cfef_19 : decode cJ1_indexOfChar_4cfef 19 = .ok (.if_icmp .ne 6, 3) := by decide +kernel
theorem dJ1_indexOfChar_4cfef_22 : decode cJ1_indexOfChar_4cfef 22 = .ok (.iload 5, 2) := by decide +kernel
theorem dJ1_indexOfChar_4cfef_24 : decode cJ1_indexOfChar_4cfef 24 = .ok (.ireturn, 1) := by decide +kernel
theorem dJ1_indexOfChar_4cfef_25 : decode cJ1_indexOfChar_4cfef 25 = .ok (.iinc 5 1, 3) := by decide +kernel
theorem dJ1_indexOfChar_4cfef_28 : decode cJ1_indexOfChar_4cfef 28 = .ok (.goto (-21), 3) := by decide +kernel
theorem dJ1_indexOfChar_4cfef_31 : decode cJ1_indexOfChar_4cfef 31 = .ok (.iconst (-1), 1) := by decide +kernel
theorem dJ1_indexOfChar_4cfef_32 : decode cJ1_indexOfChar_4cfef 32 = .ok (.ireturn, 1) := by decide +kernel
end
section
theorem dX8_init_0 : decode cX8_init 0 = .ok (.aload_n 0, 1) := by decide +kernel
theorem dX8_init_1 : decode cX8_init 1 = .ok (.invokespecial 3, 3) := by decide +kernel
theorem dX8_init_4 : decode cX8_init 4 = .ok (.aload_n 0, 1) := by decide +kernel
theorem dX8_init_5 : decode cX8_init 5 = .ok (.new 9, 3) := by decide +kernel
theorem dX8_init_8 : decode cX8_init 8 = .ok (.dup, 1) := by decide +kernel
theorem dX8_init_9 : decode cX8_init 9 = .ok (.invokespecial 11, 3) := by decide +kernel
theorem dX8_init_12 : decode cX8_init 12 = .ok (.putfield 12, 3) := by decide +kernel
theorem dX8_init_15 : decode cX8_init 15 = .ok (.aload_n 0, 1) := by decide +kernel
theorem dX8_init_16 : decode cX8_init 16 = .ok (.new 9, 3) := by decide +kernel
theorem dX8_init_19 : decode cX8_init 19 = .ok (.dup, 1) := by decide +kernel
theorem dX8_init_20 : decode cX8_init 20 = .ok (.invokespecial 11, 3) := by decide +kernel
theorem dX8_init_23 : decode cX8_init 23 = .ok (.putfield 16, 3) := by decide +kernel
theorem dX8_init_26 : decode cX8_init 26 = .ok (.aload_n 0, 1) := by decide +kernel
theorem dX8_init_27 : decode cX8_init 27 = .ok (.iconst 0, 1) := by decide +kernel
theorem dX8_init_28 : decode cX8_init 28 = .ok (.putfield 19, 3) := by decide +kernel
theorem dX8_init_31 : decode cX8_init 31 = .ok (.aload_n 0, 1) := by decide +kernel
theorem dX8_init_32 : decode cX8_init 32 = .ok (.bipush 80, 2) := by decide +kernel
theorem dX8_init_34 : decode cX8_init 34 = .ok (.newarray .int, 2) := by decide +kernel
theorem dX8_init_36 : decode cX8_init 36 = .ok (.putfield 23, 3) := by decide +kernel
theorem dX8_init_39 : decode cX8_init 39 = .ok (.aload_n 0, 1) := by decide +kernel
theorem dX8_init_40 : decode cX8_init 40 = .ok (.iconst 0, 1) := by decide +kernel
theorem dX8_init_41 : decode cX8_init 41 = .ok (.putfield 27, 3) := by decide +kernel
theorem dX8_init_44 : decode cX8_init 44 = .ok (.aload_n 0, 1) := by decide +kernel
theorem dX8_init_45 : decode cX8_init 45 = .ok (.iconst 4, 1) := by decide +kernel
theorem dX8_init_46 : decode cX8_init 46 = .ok (.anewarray 31, 3) := by decide +kernel
theorem dX8_init_49 : decode cX8_init 49 = .ok (.putfield 33, 3) := by decide +kernel
theorem dX8_init_52 : decode cX8_init 52 = .ok (.iconst 0, 1) := by decide +kernel
theorem dX8_init_53 : decode cX8_init 53 = .ok (.istore_n 1, 1) := by decide +kernel
theorem dX8_init_54 : decode cX8_init 54 = .ok (.iload_n 1, 1) := by decide +kernel
theorem dX8_init_55 : decode cX8_init 55 = .ok (.iconst 4, 1) := by decide +kernel
theorem dX8_init_56 : decode cX8_init 56 = .ok (.if_icmp .ge 22, 3) := by decide +kernel
theorem dX8_init_59 : decode cX8_init 59 = .ok (.aload_n 0, 1) := by decide +kernel
theorem dX8_init_60 : decode cX8_init 60 = .ok (.getfield 33, 3) := by decide +kernel
theorem dX8_init_63 : decode cX8_init 63 = .ok (.iload_n 1, 1) := by decide +kernel
theorem dX8_init_64 : decode cX8_init 64 = .ok (.new 31, 3) := by decide +kernel
theorem dX8_init_67 : decode cX8_init 67 = .ok (.dup, 1) := by decide +kernel
theorem dX8_init_68 : decode cX8_init 68 = .ok (.invokespecial 37, 3) := by decide +kernel
theorem dX8_init_71 : decode cX8_init 71 = .ok (.aastore, 1) := by decide +kernel
theorem dX8_init_72 : decode cX8_init 72 = .ok (.iinc 1 1, 3) := by decide +kernel
theorem dX8_init_75 : decode cX8_init 75 = .ok (.goto (-21), 3) := by decide +kernel
theorem dX8_init_78 : decode cX8_init 78 = .ok (.aload_n 0, 1) := by decide +kernel
theorem dX8_init_79 : decode cX8_init 79 = .ok (.bipush 7, 2) := by decide +kernel
theorem dX8_init_81 : decode cX8_init 81 = .ok (.newarray .int, 2) := by decide +kernel
theorem dX8_init_83 : decode cX8_init 83 = .ok (.putfield 38, 3) := by decide +kernel
theorem dX8_init_86 : decode cX8_init 86 = .ok (.aload_n 0, 1) := by decide +kernel
theorem dX8_init_87 : decode cX8_init 87 = .ok (.new 41, 3) := by decide +kernel
theorem dX8_init_90 : decode cX8_init 90 = .ok (.dup, 1) := by decide +kernel
theorem dX8_init_91 : decode cX8_init 91 = .ok (.invokespecial 43, 3) := by decide +kernel
theorem dX8_init_94 : decode cX8_init 94 = .ok (.putfield 44, 3) := by decide +kernel
theorem dX8_init_97 : decode cX8_init 97 = .ok (.aload_n 0, 1) := by decide +kernel
theorem dX8_init_98 : decode cX8_init 98 = .ok (.new 48, 3) := by decide +kernel
theorem dX8_init_101 : decode cX8_init 101 = .ok (.dup, 1) := by decide +kernel
theorem dX8_init_102 : decode cX8_init 102 = .ok (.invokespecial 50, 3) := by decide +kernel
theorem dX8_init_105 : decode cX8_init 105 = .ok (.putfield 51, 3) := by decide +kernel
theorem dX8_init_108 : decode cX8_init 108 = .ok (.aload_n 0, 1) := by decide +kernel
theorem dX8_init_109 : decode cX8_init 109 = .ok (.new 55, 3) := by decide +kernel
theorem dX8_init_112 : decode cX8_init 112 = .ok (.dup, 1) := by decide +kernel
theorem dX8_init_113 : decode cX8_init 113 = .ok (.invokespecial 57, 3) := by decide +kernel
theorem dX8_init_116 : decode cX8_init 116 = .ok (.putfield 58, 3) := by decide +kernel
theorem dX8_init_119 : decode cX8_init 119 = .ok (.aload_n 0, 1) := by decide +kernel
theorem dX8_init_120 : decode cX8_init 120 = .ok (.bipush 14, 2) := by decide +kernel
theorem dX8_init_122 : decode cX8_init 122 = .ok (.newarray .int, 2) := by decide +kernel
theorem dX8_init_124 : decode cX8_init 124 = .ok (.putfield 62, 3) := by decide +kernel
theorem dX8_init_127 : decode cX8_init 127 = .ok (.return_, 1) := by decide +kernel
theorem dX8_name_0 : decode cX8_name 0 = .ok (.iload_n 1, 1) := by decide +kernel
theorem dX8_name_1 : decode cX8_name 1 = .ok (.iconst 0, 1) := by decide +kernel
theorem dX8_name_2 : decode cX8_name 2 = .ok (.bipush 7, 2) := by decide +kernel
theorem dX8_name_4 : decode cX8_name 4 = .ok (.invokestatic 65, 3) := by decide +kernel
theorem dX8_name_7 : decode cX8_name 7 = .ok (.ifCond .eq 14, 3) := by decide +kernel
theorem dX8_name_10 : decode cX8_name 10 = .ok (.iload_n 2, 1) := by decide +kernel
theorem dX8_name_11 : decode cX8_name 11 = .ok (.iconst 1, 1) := by decide +kernel
theorem dX8_name_12 : decode cX8_name 12 = .ok (.sipush 999, 3) := by decide +kernel
theorem dX8_name_15 : decode cX8_name 15 = .ok (.invokestatic 65, 3) := by decide +kernel
theorem dX8_name_18 : decode cX8_name 18 = .ok (.ifCond .ne 10, 3) := by decide +kernel
theorem dX8_name_21 : decode cX8_name 21 = .ok (.aload_n 0, 1) := by decide +kernel
theorem dX8_name_22 : decode cX8_name 22 = .ok (.ldc 69, 2) := by decide +kernel
theorem dX8_name_24 : decode cX8_name 24 = .ok (.invokevirtual 70, 3) := by decide +kernel
theorem dX8_name_27 : decode cX8_name 27 = .ok (.ireturn, 1) := by decide +kernel
theorem dX8_name_28 : decode cX8_name 28 = .ok (.aload_n 0, 1) := by decide +kernel
theorem dX8_name_29 : decode cX8_name 29 = .ok (.getfield 12, 3) := by decide +kernel
theorem dX8_name_32 : decode cX8_name 32 = .ok (.getfield 74, 3) := by decide +kernel
theorem dX8_name_35 : decode cX8_name 35 = .ok (.getfield 78, 3) := by decide +kernel
theorem dX8_name_38 : decode cX8_name 38 = .ok (.bipush 14, 2) := by decide +kernel
theorem dX8_name_40 : decode cX8_name 40 = .ok (.if_icmp .lt 10, 3) := by decide +kernel
theorem dX8_name_43 : decode cX8_name 43 = .ok (.aload_n 0, 1) := by decide +kernel
theorem dX8_name_44 : decode cX8_name 44 = .ok (.ldc 83, 2) := by decide +kernel
theorem dX8_name_46 : decode cX8_name 46 = .ok (.invokevirtual 70, 3) := by decide +kernel
theorem dX8_name_49 : decode cX8_name 49 = .ok (.ireturn, 1) := by decide +kernel
theorem dX8_name_50 : decode cX8_name 50 = .ok (.aload_n 0, 1) := by decide +kernel
theorem dX8_name_51 : decode cX8_name 51 = .ok (.getfield 12, 3) := by decide +kernel
theorem dX8_name_54 : decode cX8_name 54 = .ok (.getfield 74, 3) := by decide +kernel
theorem dX8_name_57 : decode cX8_name 57 = .ok (.iload_n 1, 1) := by decide +kernel
theorem dX8_name_58 : decode cX8_name 58 = .ok (.iload_n 2, 1) := by decide +kernel
theorem dX8_name_59 : decode cX8_name 59 = .ok (.invokevirtual 84, 3) := by decide +kernel
theorem dX8_name_62 : decode cX8_name 62 = .ok (.ireturn, 1) := by decide +kernel
theorem dX8_nameOf_0 : decode cX8_nameOf 0 = .ok (.aload_n 0, 1) := by decide +kernel
theorem dX8_nameOf_1 : decode cX8_nameOf 1 = .ok (.getfield 12, 3) := by decide +kernel
theorem dX8_nameOf_4 : decode cX8_nameOf 4 = .ok (.getfield 74, 3) := by decide +kernel
theorem dX8_nameOf_7 : decode cX8_nameOf 7 = .ok (.astore_n 3, 1) := by decide +kernel
theorem dX8_nameOf_8 : decode cX8_nameOf 8 = .ok (.aload_n 3, 1) := by decide +kernel
theorem dX8_nameOf_9 : decode cX8_nameOf 9 = .ok (.iload_n 1, 1) := by decide +kernel
theorem dX8_nameOf_10 : decode cX8_nameOf 10 = .ok (.invokevirtual 88, 3) := by decide +kernel
theorem dX8_nameOf_13 : decode cX8_nameOf 13 = .ok (.ifCond .eq 13, 3) := by decide +kernel
theorem dX8_nameOf_16 : decode cX8_nameOf 16 = .ok (.iload_n 2, 1) := by decide +kernel
theorem dX8_nameOf_17 : decode cX8_nameOf 17 = .ok (.iconst 0, 1) := by decide +kernel
theorem dX8_nameOf_18 : decode cX8_nameOf 18 = .ok (.bipush 7, 2) := by decide +kernel
theorem dX8_nameOf_20 : decode cX8_nameOf 20 = .ok (.invokestatic 65, 3) := by decide +kernel
theorem dX8_nameOf_23 : decode cX8_nameOf 23 = .ok (.ifCond .ne 10, 3) := by decide +kernel
theorem dX8_nameOf_26 : decode cX8_nameOf 26 = .ok (.aload_n 0, 1) := by decide +kernel
theorem dX8_nameOf_27 : decode cX8_nameOf 27 = .ok (.ldc 69, 2) := by decide +kernel
theorem dX8_nameOf_29 : decode cX8_nameOf 29 = .ok (.invokevirtual 70, 3) := by decide +kernel
theorem dX8_nameOf_32 : decode cX8_nameOf 32 = .ok (.ireturn, 1) := by decide +kernel
theorem dX8_nameOf_33 : decode cX8_nameOf 33 = .ok (.iload_n 2, 1) := by decide +kernel
theorem dX8_nameOf_34 : decode cX8_nameOf 34 = .ok (.bipush 6, 2) := by decide +kernel
theorem dX8_nameOf_36 : decode cX8_nameOf 36 = .ok (.if_icmp .ne 15, 3) := by decide +kernel
theorem dX8_nameOf_39 : decode cX8_nameOf 39 = .ok (.aload_n 3, 1) := by decide +kernel
theorem dX8_nameOf_40 : decode cX8_nameOf 40 = .ok (.getfield 92, 3) := by decide +kernel
theorem dX8_nameOf_43 : decode cX8_nameOf 43 = .ok (.iload_n 1, 1) := by decide +kernel
theorem dX8_nameOf_44 : decode cX8_nameOf 44 = .ok (.invokestatic 95, 3) := by decide +kernel
theorem dX8_nameOf_47 : decode cX8_nameOf 47 = .ok (.invokestatic 99, 3) := by decide +kernel
theorem dX8_nameOf_50 : decode cX8_nameOf 50 = .ok (.ireturn, 1) := by decide +kernel
theorem dX8_nameOf_51 : decode cX8_nameOf 51 = .ok (.iload_n 2, 1) := by decide +kernel
theorem dX8_nameOf_52 : decode cX8_nameOf 52 = .ok (.bipush 7, 2) := by decide +kernel
theorem dX8_nameOf_54 : decode cX8_nameOf 54 = .ok (.if_icmp .ne 13, 3) := by decide +kernel
theorem dX8_nameOf_57 : decode cX8_nameOf 57 = .ok (.aload_n 3, 1) := by decide +kernel
theorem dX8_nameOf_58 : decode cX8_nameOf 58 = .ok (.iload_n 1, 1) := by decide +kernel
theorem dX8_nameOf_59 : decode cX8_nameOf 59 = .ok (.iconst 1, 1) := by decide +kernel
theorem dX8_nameOf_60 : decode cX8_nameOf 60 = .ok (.invokevirtual 103, 3) := by decide +kernel
theorem dX8_nameOf_63 : decode cX8_nameOf 63 = .ok (.invokestatic 99, 3) := by decide +kernel
theorem dX8_nameOf_66 : decode cX8_nameOf 66 = .ok (.ireturn, 1) := by decide +kernel
theorem dX8_nameOf_67 : decode cX8_nameOf 67 = .ok (.aload_n 3, 1) := by decide +kernel
theorem dX8_nameOf_68 : decode cX8_nameOf 68 = .ok (.getfield 106, 3) := by decide +kernel
theorem dX8_nameOf_71 : decode cX8_nameOf 71 = .ok (.iload_n 2, 1) := by decide +kernel
theorem dX8_nameOf_72 : decode cX8_nameOf 72 = .ok (.aaload, 1) := by decide +kernel
theorem dX8_nameOf_73 : decode cX8_nameOf 73 = .ok (.iload_n 1, 1) := by decide +kernel
theorem dX8_nameOf_74 : decode cX8_nameOf 74 = .ok (.iaload, 1) := by decide +kernel
theorem dX8_nameOf_75 : decode cX8_nameOf 75 = .ok (.ireturn, 1) := by decide +kernel
theorem dX8_change_0 : decode cX8_change 0 = .ok (.aload_n 0, 1) := by decide +kernel
theorem dX8_change_1 : decode cX8_change 1 = .ok (.getfield 12, 3) := by decide +kernel
theorem dX8_change_4 : decode cX8_change 4 = .ok (.getfield 74, 3) := by decide +kernel
theorem dX8_change_7 : decode cX8_change 7 = .ok (.astore 4, 2) := by decide +kernel
theorem dX8_change_9 : decode cX8_change 9 = .ok (.aload 4, 2) := by decide +kernel
theorem dX8_change_11 : decode cX8_change 11 = .ok (.iload_n 1, 1) := by decide +kernel
theorem dX8_change_12 : decode cX8_change 12 = .ok (.invokevirtual 88, 3) := by decide +kernel
theorem dX8_change_15 : decode cX8_change 15 = .ok (.ifCond .eq 14, 3) := by decide +kernel
theorem dX8_change_18 : decode cX8_change 18 = .ok (.aload 4, 2) := by decide +kernel
theorem dX8_change_20 : decode cX8_change 20 = .ok (.iload_n 1, 1) := by decide +kernel
theorem dX8_change_21 : decode cX8_change 21 = .ok (.iload_n 2, 1) := by decide +kernel
theorem dX8_change_22 : decode cX8_change 22 = .ok (.iload_n 3, 1) := by decide +kernel
theorem dX8_change_23 : decode cX8_change 23 = .ok (.invokevirtual 110, 3) := by decide +kernel
theorem dX8_change_26 : decode cX8_change 26 = .ok (.ifCond .ne 10, 3) := by decide +kernel
theorem dX8_change_29 : decode cX8_change 29 = .ok (.aload_n 0, 1) := by decide +kernel
theorem dX8_change_30 : decode cX8_change 30 = .ok (.ldc 69, 2) := by decide +kernel
theorem dX8_change_32 : decode cX8_change 32 = .ok (.invokevirtual 70, 3) := by decide +kernel
theorem dX8_change_35 : decode cX8_change 35 = .ok (.ireturn, 1) := by decide +kernel
theorem dX8_change_36 : decode cX8_change 36 = .ok (.aload 4, 2) := by decide +kernel
theorem dX8_change_38 : decode cX8_change 38 = .ok (.getfield 106, 3) := by decide +kernel
theorem dX8_change_41 : decode cX8_change 41 = .ok (.iload_n 2, 1) := by decide +kernel
theorem dX8_change_42 : decode cX8_change 42 = .ok (.aaload, 1) := by decide +kernel
theorem dX8_change_43 : decode cX8_change 43 = .ok (.iload_n 1, 1) := by decide +kernel
theorem dX8_change_44 : decode cX8_change 44 = .ok (.iaload, 1) := by decide +kernel
theorem dX8_change_45 : decode cX8_change 45 = .ok (.istore 5, 2) := by decide +kernel
theorem dX8_change_47 : decode cX8_change 47 = .ok (.aload 4, 2) := by decide +kernel
theorem dX8_change_49 : decode cX8_change 49 = .ok (.getfield 106, 3) := by decide +kernel
theorem dX8_change_52 : decode cX8_change 52 = .ok (.iload_n 2, 1) := by decide +kernel
theorem dX8_change_53 : decode cX8_change 53 = .ok (.aaload, 1) := by decide +kernel
theorem dX8_change_54 : decode cX8_change 54 = .ok (.iload_n 1, 1) := by decide +kernel
theorem dX8_change_55 : decode cX8_change 55 = .ok (.iload_n 3, 1) := by decide +kernel
theorem dX8_change_56 : decode cX8_change 56 = .ok (.iastore, 1) := by decide +kernel
theorem dX8_change_57 : decode cX8_change 57 = .ok (.iload 5, 2) := by decide +kernel
theorem dX8_change_59 : decode cX8_change 59 = .ok (.ireturn, 1) := by decide +kernel
theorem dX8_shut_0 : decode cX8_shut 0 = .ok (.aload_n 0, 1) := by decide +kernel
theorem dX8_shut_1 : decode cX8_shut 1 = .ok (.getfield 12, 3) := by decide +kernel
theorem dX8_shut_4 : decode cX8_shut 4 = .ok (.getfield 74, 3) := by decide +kernel
theorem dX8_shut_7 : decode cX8_shut 7 = .ok (.astore_n 3, 1) := by decide +kernel
theorem dX8_shut_8 : decode cX8_shut 8 = .ok (.aload_n 3, 1) := by decide +kernel
theorem dX8_shut_9 : decode cX8_shut 9 = .ok (.iload_n 1, 1) := by decide +kernel
theorem dX8_shut_10 : decode cX8_shut 10 = .ok (.invokevirtual 88, 3) := by decide +kernel
theorem dX8_shut_13 : decode cX8_shut 13 = .ok (.ifCond .ne 10, 3) := by decide +kernel
theorem dX8_shut_16 : decode cX8_shut 16 = .ok (.aload_n 0, 1) := by decide +kernel
theorem dX8_shut_17 : decode cX8_shut 17 = .ok (.ldc 69, 2) := by decide +kernel
theorem dX8_shut_19 : decode cX8_shut 19 = .ok (.invokevirtual 70, 3) := by decide +kernel
theorem dX8_shut_22 : decode cX8_shut 22 = .ok (.ireturn, 1) := by decide +kernel
theorem dX8_shut_23 : decode cX8_shut 23 = .ok (.aload_n 3, 1) := by decide +kernel
theorem dX8_shut_24 : decode cX8_shut 24 = .ok (.getfield 92, 3) := by decide +kernel
theorem dX8_shut_27 : decode cX8_shut 27 = .ok (.iload_n 1, 1) := by decide +kernel
theorem dX8_shut_28 : decode cX8_shut 28 = .ok (.invokestatic 95, 3) := by decide +kernel
theorem dX8_shut_31 : decode cX8_shut 31 = .ok (.invokestatic 99, 3) := by decide +kernel
theorem dX8_shut_34 : decode cX8_shut 34 = .ok (.istore 4, 2) := by decide +kernel
theorem dX8_shut_36 : decode cX8_shut 36 = .ok (.aload_n 3, 1) := by decide +kernel
theorem dX8_shut_37 : decode cX8_shut 37 = .ok (.iload_n 2, 1) := by decide +kernel
theorem dX8_shut_38 : decode cX8_shut 38 = .ok (.ifCond .eq 14, 3) := by decide +kernel
theorem dX8_shut_41 : decode cX8_shut 41 = .ok (.aload_n 3, 1) := by decide +kernel
theorem dX8_shut_42 : decode cX8_shut 42 = .ok (.getfield 92, 3) := by decide +kernel
theorem dX8_shut_45 : decode cX8_shut 45 = .ok (.iconst 1, 1) := by decide +kernel
theorem dX8_shut_46 : decode cX8_shut 46 = .ok (.iload_n 1, 1) := by decide +kernel
theorem dX8_shut_47 : decode cX8_shut 47 = .ok (.ishl, 1) := by decide +kernel
theorem dX8_shut_48 : decode cX8_shut 48 = .ok (.ior, 1) := by decide +kernel
theorem dX8_shut_49 : decode cX8_shut 49 = .ok (.goto 13, 3) := by decide +kernel
theorem dX8_shut_52 : decode cX8_shut 52 = .ok (.aload_n 3, 1) := by decide +kernel
theorem dX8_shut_53 : decode cX8_shut 53 = .ok (.getfield 92, 3) := by decide +kernel
theorem dX8_shut_56 : decode cX8_shut 56 = .ok (.iconst 1, 1) := by decide +kernel
theorem dX8_shut_57 : decode cX8_shut 57 = .ok (.iload_n 1, 1) := by decide +kernel
theorem dX8_shut_58 : decode cX8_shut 58 = .ok (.ishl, 1) := by decide +kernel
theorem dX8_shut_59 : decode cX8_shut 59 = .ok (.iconst (-1), 1) := by decide +kernel
theorem dX8_shut_60 : decode cX8_shut 60 = .ok (.ixor, 1) := by decide +kernel
theorem dX8_shut_61 : decode cX8_shut 61 = .ok (.iand, 1) := by decide +kernel
theorem dX8_shut_62 : decode cX8_shut 62 = .ok (.putfield 92, 3) := by decide +kernel
theorem dX8_shut_65 : decode cX8_shut 65 = .ok (.iload 4, 2) := by decide +kernel
theorem dX8_shut_67 : decode cX8_shut 67 = .ok (.ireturn, 1) := by decide +kernel
theorem dX8_object_0 : decode cX8_object 0 = .ok (.aload_n 0, 1) := by decide +kernel
theorem dX8_object_1 : decode cX8_object 1 = .ok (.getfield 12, 3) := by decide +kernel
theorem dX8_object_4 : decode cX8_object 4 = .ok (.getfield 74, 3) := by decide +kernel
theorem dX8_object_7 : decode cX8_object 7 = .ok (.astore_n 1, 1) := by decide +kernel
theorem dX8_object_8 : decode cX8_object 8 = .ok (.aload_n 1, 1) := by decide +kernel
theorem dX8_object_9 : decode cX8_object 9 = .ok (.getfield 92, 3) := by decide +kernel
theorem dX8_object_12 : decode cX8_object 12 = .ok (.aload_n 1, 1) := by decide +kernel
theorem dX8_object_13 : decode cX8_object 13 = .ok (.invokevirtual 113, 3) := by decide +kernel
theorem dX8_object_16 : decode cX8_object 16 = .ok (.iand, 1) := by decide +kernel
theorem dX8_object_17 : decode cX8_object 17 = .ok (.istore_n 2, 1) := by decide +kernel
theorem dX8_object_18 : decode cX8_object 18 = .ok (.aload_n 1, 1) := by decide +kernel
theorem dX8_object_19 : decode cX8_object 19 = .ok (.dup, 1) := by decide +kernel
theorem dX8_object_20 : decode cX8_object 20 = .ok (.getfield 92, 3) := by decide +kernel
theorem dX8_object_23 : decode cX8_object 23 = .ok (.iload_n 2, 1) := by decide +kernel
theorem dX8_object_24 : decode cX8_object 24 = .ok (.iconst (-1), 1) := by decide +kernel
theorem dX8_object_25 : decode cX8_object 25 = .ok (.ixor, 1) := by decide +kernel
theorem dX8_object_26 : decode cX8_object 26 = .ok (.iand, 1) := by decide +kernel
theorem dX8_object_27 : decode cX8_object 27 = .ok (.putfield 92, 3) := by decide +kernel
theorem dX8_object_30 : decode cX8_object 30 = .ok (.iload_n 2, 1) := by decide +kernel
theorem dX8_object_31 : decode cX8_object 31 = .ok (.invokestatic 117, 3) := by decide +kernel
theorem dX8_object_34 : decode cX8_object 34 = .ok (.ireturn, 1) := by decide +kernel
theorem dX8_speaks_0 : decode cX8_speaks 0 = .ok (.aload_n 0, 1) := by decide +kernel
theorem dX8_speaks_1 : decode cX8_speaks 1 = .ok (.getfield 12, 3) := by decide +kernel
theorem dX8_speaks_4 : decode cX8_speaks 4 = .ok (.getfield 74, 3) := by decide +kernel
theorem dX8_speaks_7 : decode cX8_speaks 7 = .ok (.iload_n 1, 1) := by decide +kernel
theorem dX8_speaks_8 : decode cX8_speaks 8 = .ok (.invokevirtual 88, 3) := by decide +kernel
theorem dX8_speaks_11 : decode cX8_speaks 11 = .ok (.ifCond .eq 10, 3) := by decide +kernel
theorem dX8_speaks_14 : decode cX8_speaks 14 = .ok (.iload_n 2, 1) := by decide +kernel
theorem dX8_speaks_15 : decode cX8_speaks 15 = .ok (.invokestatic 122, 3) := by decide +kernel
theorem dX8_speaks_18 : decode cX8_speaks 18 = .ok (.ifCond .ne 10, 3) := by decide +kernel
theorem dX8_speaks_21 : decode cX8_speaks 21 = .ok (.aload_n 0, 1) := by decide +kernel
theorem dX8_speaks_22 : decode cX8_speaks 22 = .ok (.ldc 69, 2) := by decide +kernel
theorem dX8_speaks_24 : decode cX8_speaks 24 = .ok (.invokevirtual 70, 3) := by decide +kernel
theorem dX8_speaks_27 : decode cX8_speaks 27 = .ok (.ireturn, 1) := by decide +kernel
theorem dX8_speaks_28 : decode cX8_speaks 28 = .ok (.aload_n 0, 1) := by decide +kernel
theorem dX8_speaks_29 : decode cX8_speaks 29 = .ok (.getfield 12, 3) := by decide +kernel
theorem dX8_speaks_32 : decode cX8_speaks 32 = .ok (.iload_n 1, 1) := by decide +kernel
theorem dX8_speaks_33 : decode cX8_speaks 33 = .ok (.iload_n 2, 1) := by decide +kernel
theorem dX8_speaks_34 : decode cX8_speaks 34 = .ok (.invokevirtual 125, 3) := by decide +kernel
theorem dX8_speaks_37 : decode cX8_speaks 37 = .ok (.invokestatic 99, 3) := by decide +kernel
theorem dX8_speaks_40 : decode cX8_speaks 40 = .ok (.ireturn, 1) := by decide +kernel
theorem dX8_next_0 : decode cX8_next 0 = .ok (.aload_n 0, 1) := by decide +kernel
theorem dX8_next_1 : decode cX8_next 1 = .ok (.getfield 12, 3) := by decide +kernel
theorem dX8_next_4 : decode cX8_next 4 = .ok (.getfield 74, 3) := by decide +kernel
theorem dX8_next_7 : decode cX8_next 7 = .ok (.iload_n 1, 1) := by decide +kernel
theorem dX8_next_8 : decode cX8_next 8 = .ok (.invokevirtual 88, 3) := by decide +kernel
theorem dX8_next_11 : decode cX8_next 11 = .ok (.ifCond .eq 10, 3) := by decide +kernel
theorem dX8_next_14 : decode cX8_next 14 = .ok (.iload_n 2, 1) := by decide +kernel
theorem dX8_next_15 : decode cX8_next 15 = .ok (.invokestatic 122, 3) := by decide +kernel
theorem dX8_next_18 : decode cX8_next 18 = .ok (.ifCond .ne 10, 3) := by decide +kernel
theorem dX8_next_21 : decode cX8_next 21 = .ok (.aload_n 0, 1) := by decide +kernel
theorem dX8_next_22 : decode cX8_next 22 = .ok (.ldc 69, 2) := by decide +kernel
theorem dX8_next_24 : decode cX8_next 24 = .ok (.invokevirtual 70, 3) := by decide +kernel
theorem dX8_next_27 : decode cX8_next 27 = .ok (.ireturn, 1) := by decide +kernel
theorem dX8_next_28 : decode cX8_next 28 = .ok (.iload_n 2, 1) := by decide +kernel
theorem dX8_next_29 : decode cX8_next 29 = .ok (.sipush 2000, 3) := by decide +kernel
theorem dX8_next_32 : decode cX8_next 32 = .ok (.iadd, 1) := by decide +kernel
theorem dX8_next_33 : decode cX8_next 33 = .ok (.iconst 1, 1) := by decide +kernel
theorem dX8_next_34 : decode cX8_next 34 = .ok (.isub, 1) := by decide +kernel
theorem dX8_next_35 : decode cX8_next 35 = .ok (.sipush 29999, 3) := by decide +kernel
theorem dX8_next_38 : decode cX8_next 38 = .ok (.invokestatic 128, 3) := by decide +kernel
theorem dX8_next_41 : decode cX8_next 41 = .ok (.istore_n 3, 1) := by decide +kernel
theorem dX8_next_42 : decode cX8_next 42 = .ok (.iload_n 2, 1) := by decide +kernel
theorem dX8_next_43 : decode cX8_next 43 = .ok (.istore 4, 2) := by decide +kernel
theorem dX8_next_45 : decode cX8_next 45 = .ok (.iload 4, 2) := by decide +kernel
theorem dX8_next_47 : decode cX8_next 47 = .ok (.iload_n 3, 1) := by decide +kernel
theorem dX8_next_48 : decode cX8_next 48 = .ok (.if_icmp .gt 25, 3) := by decide +kernel
theorem dX8_next_51 : decode cX8_next 51 = .ok (.aload_n 0, 1) := by decide +kernel
theorem dX8_next_52 : decode cX8_next 52 = .ok (.getfield 12, 3) := by decide +kernel
theorem dX8_next_55 : decode cX8_next 55 = .ok (.iload_n 1, 1) := by decide +kernel
theorem dX8_next_56 : decode cX8_next 56 = .ok (.iload 4, 2) := by decide +kernel
theorem dX8_next_58 : decode cX8_next 58 = .ok (.invokevirtual 125, 3) := by decide +kernel
theorem dX8_next_61 : decode cX8_next 61 = .ok (.ifCond .eq 6, 3) := by decide +kernel
theorem dX8_next_64 : decode cX8_next 64 = .ok (.iload 4, 2) := by decide +kernel
theorem dX8_next_66 : decode cX8_next 66 = .ok (.ireturn, 1) := by decide +kernel
theorem dX8_next_67 : decode cX8_next 67 = .ok (.iinc 4 1, 3) := by decide +kernel
theorem dX8_next_70 : decode cX8_next 70 = .ok (.goto (-25), 3) := by decide +kernel
theorem dX8_next_73 : decode cX8_next 73 = .ok (.aload_n 0, 1) := by decide +kernel
theorem dX8_next_74 : decode cX8_next 74 = .ok (.ldc 133, 2) := by decide +kernel
theorem dX8_next_76 : decode cX8_next 76 = .ok (.invokevirtual 70, 3) := by decide +kernel
theorem dX8_next_79 : decode cX8_next 79 = .ok (.ireturn, 1) := by decide +kernel
theorem dX8_go_0 : decode cX8_go 0 = .ok (.iload_n 1, 1) := by decide +kernel
theorem dX8_go_1 : decode cX8_go 1 = .ok (.iconst 1, 1) := by decide +kernel
theorem dX8_go_2 : decode cX8_go 2 = .ok (.sipush 999, 3) := by decide +kernel
theorem dX8_go_5 : decode cX8_go 5 = .ok (.invokestatic 65, 3) := by decide +kernel
theorem dX8_go_8 : decode cX8_go 8 = .ok (.ifCond .ne 10, 3) := by decide +kernel
theorem dX8_go_11 : decode cX8_go 11 = .ok (.aload_n 0, 1) := by decide +kernel
theorem dX8_go_12 : decode cX8_go 12 = .ok (.ldc 69, 2) := by decide +kernel
theorem dX8_go_14 : decode cX8_go 14 = .ok (.invokevirtual 70, 3) := by decide +kernel
theorem dX8_go_17 : decode cX8_go 17 = .ok (.ireturn, 1) := by decide +kernel
theorem dX8_go_18 : decode cX8_go 18 = .ok (.aload_n 0, 1) := by decide +kernel
theorem dX8_go_19 : decode cX8_go 19 = .ok (.getfield 12, 3) := by decide +kernel
theorem dX8_go_22 : decode cX8_go 22 = .ok (.getfield 134, 3) := by decide +kernel
theorem dX8_go_25 : decode cX8_go 25 = .ok (.getfield 138, 3) := by decide +kernel
theorem dX8_go_28 : decode cX8_go 28 = .ok (.iload_n 1, 1) := by decide +kernel
theorem dX8_go_29 : decode cX8_go 29 = .ok (.iadd, 1) := by decide +kernel
theorem dX8_go_30 : decode cX8_go 30 = .ok (.sipush 29999, 3) := by decide +kernel
theorem dX8_go_33 : decode cX8_go 33 = .ok (.if_icmp .le 10, 3) := by decide +kernel
theorem dX8_go_36 : decode cX8_go 36 = .ok (.aload_n 0, 1) := by decide +kernel
theorem dX8_go_37 : decode cX8_go 37 = .ok (.ldc 143, 2) := by decide +kernel
theorem dX8_go_39 : decode cX8_go 39 = .ok (.invokevirtual 70, 3) := by decide +kernel
theorem dX8_go_42 : decode cX8_go 42 = .ok (.ireturn, 1) := by decide +kernel
theorem dX8_go_43 : decode cX8_go 43 = .ok (.iconst 0, 1) := by decide +kernel
theorem dX8_go_44 : decode cX8_go 44 = .ok (.istore_n 2, 1) := by decide +kernel
theorem dX8_go_45 : decode cX8_go 45 = .ok (.iload_n 2, 1) := by decide +kernel
theorem dX8_go_46 : decode cX8_go 46 = .ok (.iload_n 1, 1) := by decide +kernel
theorem dX8_go_47 : decode cX8_go 47 = .ok (.if_icmp .ge 16, 3) := by decide +kernel
theorem dX8_go_50 : decode cX8_go 50 = .ok (.aload_n 0, 1) := by decide +kernel
theorem dX8_go_51 : decode cX8_go 51 = .ok (.getfield 12, 3) := by decide +kernel
theorem dX8_go_54 : decode cX8_go 54 = .ok (.invokevirtual 144, 3) := by decide +kernel
theorem dX8_go_57 : decode cX8_go 57 = .ok (.iinc 2 1, 3) := by decide +kernel
theorem dX8_go_60 : decode cX8_go 60 = .ok (.goto (-15), 3) := by decide +kernel
theorem dX8_go_63 : decode cX8_go 63 = .ok (.aload_n 0, 1) := by decide +kernel
theorem dX8_go_64 : decode cX8_go 64 = .ok (.getfield 12, 3) := by decide +kernel
theorem dX8_go_67 : decode cX8_go 67 = .ok (.getfield 134, 3) := by decide +kernel
theorem dX8_go_70 : decode cX8_go 70 = .ok (.getfield 138, 3) := by decide +kernel
theorem dX8_go_73 : decode cX8_go 73 = .ok (.ireturn, 1) := by decide +kernel
theorem dX8_say_0 : decode cX8_say 0 = .ok (.aload_n 0, 1) := by decide +kernel
theorem dX8_say_1 : decode cX8_say 1 = .ok (.getfield 12, 3) := by decide +kernel
theorem dX8_say_4 : decode cX8_say 4 = .ok (.getfield 74, 3) := by decide +kernel
theorem dX8_say_7 : decode cX8_say 7 = .ok (.iload_n 1, 1) := by decide +kernel
theorem dX8_say_8 : decode cX8_say 8 = .ok (.invokevirtual 88, 3) := by decide +kernel
theorem dX8_say_11 : decode cX8_say 11 = .ok (.ifCond .eq 10, 3) := by decide +kernel
theorem dX8_say_14 : decode cX8_say 14 = .ok (.iload_n 2, 1) := by decide +kernel
theorem dX8_say_15 : decode cX8_say 15 = .ok (.invokestatic 147, 3) := by decide +kernel
theorem dX8_say_18 : decode cX8_say 18 = .ok (.ifCond .ne 10, 3) := by decide +kernel
theorem dX8_say_21 : decode cX8_say 21 = .ok (.aload_n 0, 1) := by decide +kernel
theorem dX8_say_22 : decode cX8_say 22 = .ok (.ldc 69, 2) := by decide +kernel
theorem dX8_say_24 : decode cX8_say 24 = .ok (.invokevirtual 70, 3) := by decide +kernel
theorem dX8_say_27 : decode cX8_say 27 = .ok (.ireturn, 1) := by decide +kernel
theorem dX8_say_28 : decode cX8_say 28 = .ok (.aload_n 0, 1) := by decide +kernel
theorem dX8_say_29 : decode cX8_say 29 = .ok (.getfield 12, 3) := by decide +kernel
theorem dX8_say_32 : decode cX8_say 32 = .ok (.getfield 134, 3) := by decide +kernel
theorem dX8_say_35 : decode cX8_say 35 = .ok (.invokevirtual 150, 3) := by decide +kernel
theorem dX8_say_38 : decode cX8_say 38 = .ok (.ifCond .eq 10, 3) := by decide +kernel
theorem dX8_say_41 : decode cX8_say 41 = .ok (.aload_n 0, 1) := by decide +kernel
theorem dX8_say_42 : decode cX8_say 42 = .ok (.ldc 83, 2) := by decide +kernel
theorem dX8_say_44 : decode cX8_say 44 = .ok (.invokevirtual 70, 3) := by decide +kernel
theorem dX8_say_47 : decode cX8_say 47 = .ok (.ireturn, 1) := by decide +kernel
theorem dX8_say_48 : decode cX8_say 48 = .ok (.aload_n 0, 1) := by decide +kernel
theorem dX8_say_49 : decode cX8_say 49 = .ok (.getfield 12, 3) := by decide +kernel
theorem dX8_say_52 : decode cX8_say 52 = .ok (.getfield 134, 3) := by decide +kernel
theorem dX8_say_55 : decode cX8_say 55 = .ok (.iload_n 1, 1) := by decide +kernel
theorem dX8_say_56 : decode cX8_say 56 = .ok (.iload_n 2, 1) := by decide +kernel
theorem dX8_say_57 : decode cX8_say 57 = .ok (.invokevirtual 154, 3) := by decide +kernel
theorem dX8_say_60 : decode cX8_say 60 = .ok (.ireturn, 1) := by decide +kernel
theorem dX8_wordOf_0 : decode cX8_wordOf 0 = .ok (.aload_n 0, 1) := by decide +kernel
theorem dX8_wordOf_1 : decode cX8_wordOf 1 = .ok (.getfield 12, 3) := by decide +kernel
theorem dX8_wordOf_4 : decode cX8_wordOf 4 = .ok (.getfield 134, 3) := by decide +kernel
theorem dX8_wordOf_7 : decode cX8_wordOf 7 = .ok (.astore_n 3, 1) := by decide +kernel
theorem dX8_wordOf_8 : decode cX8_wordOf 8 = .ok (.aload_n 3, 1) := by decide +kernel
theorem dX8_wordOf_9 : decode cX8_wordOf 9 = .ok (.iload_n 1, 1) := by decide +kernel
theorem dX8_wordOf_10 : decode cX8_wordOf 10 = .ok (.invokevirtual 155, 3) := by decide +kernel
theorem dX8_wordOf_13 : decode cX8_wordOf 13 = .ok (.ifCond .ne 10, 3) := by decide +kernel
theorem dX8_wordOf_16 : decode cX8_wordOf 16 = .ok (.aload_n 0, 1) := by decide +kernel
theorem dX8_wordOf_17 : decode cX8_wordOf 17 = .ok (.ldc 69, 2) := by decide +kernel
theorem dX8_wordOf_19 : decode cX8_wordOf 19 = .ok (.invokevirtual 70, 3) := by decide +kernel
theorem dX8_wordOf_22 : decode cX8_wordOf 22 = .ok (.ireturn, 1) := by decide +kernel
theorem dX8_wordOf_23 : decode cX8_wordOf 23 = .ok (.iload_n 2, 1) := by decide +kernel
theorem dX8_wordOf_24 : decode cX8_wordOf 24 = .ok (.tableswitch 60 0 3 #[32, 39, 46, 53], 32) := by decide +kernel
theorem dX8_wordOf_56 : decode cX8_wordOf 56 = .ok (.aload_n 3, 1) := by decide +kernel
theorem dX8_wordOf_57 : decode cX8_wordOf 57 = .ok (.getfield 156, 3) := by decide +kernel
theorem dX8_wordOf_60 : decode cX8_wordOf 60 = .ok (.iload_n 1, 1) := by decide +kernel
theorem dX8_wordOf_61 : decode cX8_wordOf 61 = .ok (.iaload, 1) := by decide +kernel
theorem dX8_wordOf_62 : decode cX8_wordOf 62 = .ok (.ireturn, 1) := by decide +kernel
theorem dX8_wordOf_63 : decode cX8_wordOf 63 = .ok (.aload_n 3, 1) := by decide +kernel
theorem dX8_wordOf_64 : decode cX8_wordOf 64 = .ok (.getfield 159, 3) := by decide +kernel
theorem dX8_wordOf_67 : decode cX8_wordOf 67 = .ok (.iload_n 1, 1) := by decide +kernel
theorem dX8_wordOf_68 : decode cX8_wordOf 68 = .ok (.iaload, 1) := by decide +kernel
theorem dX8_wordOf_69 : decode cX8_wordOf 69 = .ok (.ireturn, 1) := by decide +kernel
theorem dX8_wordOf_70 : decode cX8_wordOf 70 = .ok (.aload_n 3, 1) := by decide +kernel
theorem dX8_wordOf_71 : decode cX8_wordOf 71 = .ok (.getfield 162, 3) := by decide +kernel
theorem dX8_wordOf_74 : decode cX8_wordOf 74 = .ok (.iload_n 1, 1) := by decide +kernel
theorem dX8_wordOf_75 : decode cX8_wordOf 75 = .ok (.iaload, 1) := by decide +kernel
theorem dX8_wordOf_76 : decode cX8_wordOf 76 = .ok (.ireturn, 1) := by decide +kernel
theorem dX8_wordOf_77 : decode cX8_wordOf 77 = .ok (.aload_n 3, 1) := by decide +kernel
theorem dX8_wordOf_78 : decode cX8_wordOf 78 = .ok (.getfield 165, 3) := by decide +kernel
theorem dX8_wordOf_81 : decode cX8_wordOf 81 = .ok (.iload_n 1, 1) := by decide +kernel
theorem dX8_wordOf_82 : decode cX8_wordOf 82 = .ok (.iaload, 1) := by decide +kernel
theorem dX8_wordOf_83 : decode cX8_wordOf 83 = .ok (.ireturn, 1) := by decide +kernel
theorem dX8_wordOf_84 : decode cX8_wordOf 84 = .ok (.aload_n 0, 1) := by decide +kernel
theorem dX8_wordOf_85 : decode cX8_wordOf 85 = .ok (.ldc 69, 2) := by decide +kernel
theorem dX8_wordOf_87 : decode cX8_wordOf 87 = .ok (.invokevirtual 70, 3) := by decide +kernel
theorem dX8_wordOf_90 : decode cX8_wordOf 90 = .ok (.ireturn, 1) := by decide +kernel
theorem dX8_below_0 : decode cX8_below 0 = .ok (.aload_n 0, 1) := by decide +kernel
theorem dX8_below_1 : decode cX8_below 1 = .ok (.getfield 12, 3) := by decide +kernel
theorem dX8_below_4 : decode cX8_below 4 = .ok (.getfield 134, 3) := by decide +kernel
theorem dX8_below_7 : decode cX8_below 7 = .ok (.iload_n 1, 1) := by decide +kernel
theorem dX8_below_8 : decode cX8_below 8 = .ok (.invokevirtual 155, 3) := by decide +kernel
theorem dX8_below_11 : decode cX8_below 11 = .ok (.ifCond .ne 10, 3) := by decide +kernel
theorem dX8_below_14 : decode cX8_below 14 = .ok (.aload_n 0, 1) := by decide +kernel
theorem dX8_below_15 : decode cX8_below 15 = .ok (.ldc 69, 2) := by decide +kernel
theorem dX8_below_17 : decode cX8_below 17 = .ok (.invokevirtual 70, 3) := by decide +kernel
theorem dX8_below_20 : decode cX8_below 20 = .ok (.ireturn, 1) := by decide +kernel
theorem dX8_below_21 : decode cX8_below 21 = .ok (.aload_n 0, 1) := by decide +kernel
theorem dX8_below_22 : decode cX8_below 22 = .ok (.getfield 12, 3) := by decide +kernel
theorem dX8_below_25 : decode cX8_below 25 = .ok (.getfield 134, 3) := by decide +kernel
theorem dX8_below_28 : decode cX8_below 28 = .ok (.iload_n 1, 1) := by decide +kernel
theorem dX8_below_29 : decode cX8_below 29 = .ok (.invokevirtual 168, 3) := by decide +kernel
theorem dX8_below_32 : decode cX8_below 32 = .ok (.ireturn, 1) := by decide +kernel
theorem dX8_sign_0 : decode cX8_sign 0 = .ok (.aload_n 0, 1) := by decide +kernel
theorem dX8_sign_1 : decode cX8_sign 1 = .ok (.getfield 12, 3) := by decide +kernel
theorem dX8_sign_4 : decode cX8_sign 4 = .ok (.getfield 74, 3) := by decide +kernel
theorem dX8_sign_7 : decode cX8_sign 7 = .ok (.iload_n 1, 1) := by decide +kernel
theorem dX8_sign_8 : decode cX8_sign 8 = .ok (.invokevirtual 88, 3) := by decide +kernel
theorem dX8_sign_11 : decode cX8_sign 11 = .ok (.ifCond .eq 13, 3) := by decide +kernel
theorem dX8_sign_14 : decode cX8_sign 14 = .ok (.iload_n 2, 1) := by decide +kernel
theorem dX8_sign_15 : decode cX8_sign 15 = .ok (.iconst 0, 1) := by decide +kernel
theorem dX8_sign_16 : decode cX8_sign 16 = .ok (.bipush 6, 2) := by decide +kernel
theorem dX8_sign_18 : decode cX8_sign 18 = .ok (.invokestatic 65, 3) := by decide +kernel
theorem dX8_sign_21 : decode cX8_sign 21 = .ok (.ifCond .ne 10, 3) := by decide +kernel
theorem dX8_sign_24 : decode cX8_sign 24 = .ok (.aload_n 0, 1) := by decide +kernel
theorem dX8_sign_25 : decode cX8_sign 25 = .ok (.ldc 69, 2) := by decide +kernel
theorem dX8_sign_27 : decode cX8_sign 27 = .ok (.invokevirtual 70, 3) := by decide +kernel
theorem dX8_sign_30 : decode cX8_sign 30 = .ok (.ireturn, 1) := by decide +kernel
theorem dX8_sign_31 : decode cX8_sign 31 = .ok (.aload_n 0, 1) := by decide +kernel
theorem dX8_sign_32 : decode cX8_sign 32 = .ok (.getfield 44, 3) := by decide +kernel
theorem dX8_sign_35 : decode cX8_sign 35 = .ok (.aload_n 0, 1) := by decide +kernel
theorem dX8_sign_36 : decode cX8_sign 36 = .ok (.getfield 12, 3) := by decide +kernel
theorem dX8_sign_39 : decode cX8_sign 39 = .ok (.getfield 134, 3) := by decide +kernel
theorem dX8_sign_42 : decode cX8_sign 42 = .ok (.iload_n 1, 1) := by decide +kernel
theorem dX8_sign_43 : decode cX8_sign 43 = .ok (.invokevirtual 171, 3) := by decide +kernel
theorem dX8_sign_46 : decode cX8_sign 46 = .ok (.aload_n 0, 1) := by decide +kernel
theorem dX8_sign_47 : decode cX8_sign 47 = .ok (.getfield 44, 3) := by decide +kernel
theorem dX8_sign_50 : decode cX8_sign 50 = .ok (.getfield 175, 3) := by decide +kernel
theorem dX8_sign_53 : decode cX8_sign 53 = .ok (.iload_n 2, 1) := by decide +kernel
theorem dX8_sign_54 : decode cX8_sign 54 = .ok (.iaload, 1) := by decide +kernel
theorem dX8_sign_55 : decode cX8_sign 55 = .ok (.ireturn, 1) := by decide +kernel
theorem dX8_hours_0 : decode cX8_hours 0 = .ok (.aload_n 0, 1) := by decide +kernel
theorem dX8_hours_1 : decode cX8_hours 1 = .ok (.getfield 12, 3) := by decide +kernel
theorem dX8_hours_4 : decode cX8_hours 4 = .ok (.getfield 74, 3) := by decide +kernel
theorem dX8_hours_7 : decode cX8_hours 7 = .ok (.iload_n 1, 1) := by decide +kernel
theorem dX8_hours_8 : decode cX8_hours 8 = .ok (.invokevirtual 88, 3) := by decide +kernel
theorem dX8_hours_11 : decode cX8_hours 11 = .ok (.ifCond .ne 10, 3) := by decide +kernel
theorem dX8_hours_14 : decode cX8_hours 14 = .ok (.aload_n 0, 1) := by decide +kernel
theorem dX8_hours_15 : decode cX8_hours 15 = .ok (.ldc 69, 2) := by decide +kernel
theorem dX8_hours_17 : decode cX8_hours 17 = .ok (.invokevirtual 70, 3) := by decide +kernel
theorem dX8_hours_20 : decode cX8_hours 20 = .ok (.ireturn, 1) := by decide +kernel
theorem dX8_hours_21 : decode cX8_hours 21 = .ok (.aload_n 0, 1) := by decide +kernel
theorem dX8_hours_22 : decode cX8_hours 22 = .ok (.getfield 12, 3) := by decide +kernel
theorem dX8_hours_25 : decode cX8_hours 25 = .ok (.getfield 134, 3) := by decide +kernel
theorem dX8_hours_28 : decode cX8_hours 28 = .ok (.iload_n 1, 1) := by decide +kernel
theorem dX8_hours_29 : decode cX8_hours 29 = .ok (.invokevirtual 178, 3) := by decide +kernel
theorem dX8_hours_32 : decode cX8_hours 32 = .ok (.ireturn, 1) := by decide +kernel
theorem dX8_feed_0 : decode cX8_feed 0 = .ok (.iload_n 2, 1) := by decide +kernel
theorem dX8_feed_1 : decode cX8_feed 1 = .ok (.iconst 1, 1) := by decide +kernel
theorem dX8_feed_2 : decode cX8_feed 2 = .ok (.iconst 4, 1) := by decide +kernel
theorem dX8_feed_3 : decode cX8_feed 3 = .ok (.invokestatic 65, 3) := by decide +kernel
theorem dX8_feed_6 : decode cX8_feed 6 = .ok (.ifCond .ne 10, 3) := by decide +kernel
theorem dX8_feed_9 : decode cX8_feed 9 = .ok (.aload_n 0, 1) := by decide +kernel
theorem dX8_feed_10 : decode cX8_feed 10 = .ok (.ldc 69, 2) := by decide +kernel
theorem dX8_feed_12 : decode cX8_feed 12 = .ok (.invokevirtual 70, 3) := by decide +kernel
theorem dX8_feed_15 : decode cX8_feed 15 = .ok (.ireturn, 1) := by decide +kernel
theorem dX8_feed_16 : decode cX8_feed 16 = .ok (.aload_n 0, 1) := by decide +kernel
theorem dX8_feed_17 : decode cX8_feed 17 = .ok (.getfield 27, 3) := by decide +kernel
theorem dX8_feed_20 : decode cX8_feed 20 = .ok (.iload_n 2, 1) := by decide +kernel
theorem dX8_feed_21 : decode cX8_feed 21 = .ok (.iadd, 1) := by decide +kernel
theorem dX8_feed_22 : decode cX8_feed 22 = .ok (.bipush 80, 2) := by decide +kernel
theorem dX8_feed_24 : decode cX8_feed 24 = .ok (.if_icmp .le 10, 3) := by decide +kernel
theorem dX8_feed_27 : decode cX8_feed 27 = .ok (.aload_n 0, 1) := by decide +kernel
theorem dX8_feed_28 : decode cX8_feed 28 = .ok (.ldc 83, 2) := by decide +kernel
theorem dX8_feed_30 : decode cX8_feed 30 = .ok (.invokevirtual 70, 3) := by decide +kernel
theorem dX8_feed_33 : decode cX8_feed 33 = .ok (.ireturn, 1) := by decide +kernel
theorem dX8_feed_34 : decode cX8_feed 34 = .ok (.iload_n 2, 1) := by decide +kernel
theorem dX8_feed_35 : decode cX8_feed 35 = .ok (.iconst 1, 1) := by decide +kernel
theorem dX8_feed_36 : decode cX8_feed 36 = .ok (.isub, 1) := by decide +kernel
theorem dX8_feed_37 : decode cX8_feed 37 = .ok (.istore_n 3, 1) := by decide +kernel
theorem dX8_feed_38 : decode cX8_feed 38 = .ok (.iload_n 3, 1) := by decide +kernel
theorem dX8_feed_39 : decode cX8_feed 39 = .ok (.ifCond .lt 38, 3) := by decide +kernel
theorem dX8_feed_42 : decode cX8_feed 42 = .ok (.aload_n 0, 1) := by decide +kernel
theorem dX8_feed_43 : decode cX8_feed 43 = .ok (.getfield 23, 3) := by decide +kernel
theorem dX8_feed_46 : decode cX8_feed 46 = .ok (.aload_n 0, 1) := by decide +kernel
theorem dX8_feed_47 : decode cX8_feed 47 = .ok (.getfield 27, 3) := by decide +kernel
theorem dX8_feed_50 : decode cX8_feed 50 = .ok (.iload_n 1, 1) := by decide +kernel
theorem dX8_feed_51 : decode cX8_feed 51 = .ok (.bipush 8, 2) := by decide +kernel
theorem dX8_feed_53 : decode cX8_feed 53 = .ok (.iload_n 3, 1) := by decide +kernel
theorem dX8_feed_54 : decode cX8_feed 54 = .ok (.imul, 1) := by decide +kernel
theorem dX8_feed_55 : decode cX8_feed 55 = .ok (.iushr, 1) := by decide +kernel
theorem dX8_feed_56 : decode cX8_feed 56 = .ok (.sipush 255, 3) := by decide +kernel
theorem dX8_feed_59 : decode cX8_feed 59 = .ok (.iand, 1) := by decide +kernel
theorem dX8_feed_60 : decode cX8_feed 60 = .ok (.iastore, 1) := by decide +kernel
theorem dX8_feed_61 : decode cX8_feed 61 = .ok (.aload_n 0, 1) := by decide +kernel
theorem dX8_feed_62 : decode cX8_feed 62 = .ok (.dup, 1) := by decide +kernel
theorem dX8_feed_63 : decode cX8_feed 63 = .ok (.getfield 27, 3) := by decide +kernel
theorem dX8_feed_66 : decode cX8_feed 66 = .ok (.iconst 1, 1) := by decide +kernel
theorem dX8_feed_67 : decode cX8_feed 67 = .ok (.iadd, 1) := by decide +kernel
theorem dX8_feed_68 : decode cX8_feed 68 = .ok (.putfield 27, 3) := by decide +kernel
theorem dX8_feed_71 : decode cX8_feed 71 = .ok (.iinc 3 (-1), 3) := by decide +kernel
theorem dX8_feed_74 : decode cX8_feed 74 = .ok (.goto (-36), 3) := by decide +kernel
theorem dX8_feed_77 : decode cX8_feed 77 = .ok (.aload_n 0, 1) := by decide +kernel
theorem dX8_feed_78 : decode cX8_feed 78 = .ok (.getfield 27, 3) := by decide +kernel
theorem dX8_feed_81 : decode cX8_feed 81 = .ok (.ireturn, 1) := by decide +kernel
theorem dX8_wipe_0 : decode cX8_wipe 0 = .ok (.aload_n 0, 1) := by decide +kernel
theorem dX8_wipe_1 : decode cX8_wipe 1 = .ok (.getfield 27, 3) := by decide +kernel
theorem dX8_wipe_4 : decode cX8_wipe 4 = .ok (.istore_n 1, 1) := by decide +kernel
theorem dX8_wipe_5 : decode cX8_wipe 5 = .ok (.aload_n 0, 1) := by decide +kernel
theorem dX8_wipe_6 : decode cX8_wipe 6 = .ok (.iconst 0, 1) := by decide +kernel
theorem dX8_wipe_7 : decode cX8_wipe 7 = .ok (.putfield 27, 3) := by decide +kernel
theorem dX8_wipe_10 : decode cX8_wipe 10 = .ok (.iload_n 1, 1) := by decide +kernel
theorem dX8_wipe_11 : decode cX8_wipe 11 = .ok (.ireturn, 1) := by decide +kernel
theorem dX8_text_0 : decode cX8_text 0 = .ok (.aload_n 0, 1) := by decide +kernel
theorem dX8_text_1 : decode cX8_text 1 = .ok (.getfield 12, 3) := by decide +kernel
theorem dX8_text_4 : decode cX8_text 4 = .ok (.getfield 181, 3) := by decide +kernel
theorem dX8_text_7 : decode cX8_text 7 = .ok (.getfield 185, 3) := by decide +kernel
theorem dX8_text_10 : decode cX8_text 10 = .ok (.bipush 6, 2) := by decide +kernel
theorem dX8_text_12 : decode cX8_text 12 = .ok (.if_icmp .lt 10, 3) := by decide +kernel
theorem dX8_text_15 : decode cX8_text 15 = .ok (.aload_n 0, 1) := by decide +kernel
theorem dX8_text_16 : decode cX8_text 16 = .ok (.ldc 83, 2) := by decide +kernel
theorem dX8_text_18 : decode cX8_text 18 = .ok (.invokevirtual 70, 3) := by decide +kernel
theorem dX8_text_21 : decode cX8_text 21 = .ok (.ireturn, 1) := by decide +kernel
theorem dX8_text_22 : decode cX8_text 22 = .ok (.aload_n 0, 1) := by decide +kernel
theorem dX8_text_23 : decode cX8_text 23 = .ok (.getfield 51, 3) := by decide +kernel
theorem dX8_text_26 : decode cX8_text 26 = .ok (.aload_n 0, 1) := by decide +kernel
theorem dX8_text_27 : decode cX8_text 27 = .ok (.getfield 23, 3) := by decide +kernel
theorem dX8_text_30 : decode cX8_text 30 = .ok (.aload_n 0, 1) := by decide +kernel
theorem dX8_text_31 : decode cX8_text 31 = .ok (.getfield 27, 3) := by decide +kernel
theorem dX8_text_34 : decode cX8_text 34 = .ok (.aload_n 0, 1) := by decide +kernel
theorem dX8_text_35 : decode cX8_text 35 = .ok (.getfield 44, 3) := by decide +kernel
theorem dX8_text_38 : decode cX8_text 38 = .ok (.getfield 175, 3) := by decide +kernel
theorem dX8_text_41 : decode cX8_text 41 = .ok (.invokevirtual 188, 3) := by decide +kernel
theorem dX8_text_44 : decode cX8_text 44 = .ok (.pop, 1) := by decide +kernel
theorem dX8_text_45 : decode cX8_text 45 = .ok (.aload_n 0, 1) := by decide +kernel
theorem dX8_text_46 : decode cX8_text 46 = .ok (.getfield 27, 3) := by decide +kernel
theorem dX8_text_49 : decode cX8_text 49 = .ok (.istore_n 1, 1) := by decide +kernel
theorem dX8_text_50 : decode cX8_text 50 = .ok (.aload_n 0, 1) := by decide +kernel
theorem dX8_text_51 : decode cX8_text 51 = .ok (.iconst 0, 1) := by decide +kernel
theorem dX8_text_52 : decode cX8_text 52 = .ok (.putfield 27, 3) := by decide +kernel
theorem dX8_text_55 : decode cX8_text 55 = .ok (.aload_n 0, 1) := by decide +kernel
theorem dX8_text_56 : decode cX8_text 56 = .ok (.getfield 51, 3) := by decide +kernel
theorem dX8_text_59 : decode cX8_text 59 = .ok (.getfield 192, 3) := by decide +kernel
theorem dX8_text_62 : decode cX8_text 62 = .ok (.ifCond .lt 13, 3) := by decide +kernel
theorem dX8_text_65 : decode cX8_text 65 = .ok (.iconst (-1), 1) := by decide +kernel
theorem dX8_text_66 : decode cX8_text 66 = .ok (.aload_n 0, 1) := by decide +kernel
theorem dX8_text_67 : decode cX8_text 67 = .ok (.getfield 51, 3) := by decide +kernel
theorem dX8_text_70 : decode cX8_text 70 = .ok (.getfield 192, 3) := by decide +kernel
theorem dX8_text_73 : decode cX8_text 73 = .ok (.isub, 1) := by decide +kernel
theorem dX8_text_74 : decode cX8_text 74 = .ok (.ireturn, 1) := by decide +kernel
theorem dX8_text_75 : decode cX8_text 75 = .ok (.aload_n 0, 1) := by decide +kernel
theorem dX8_text_76 : decode cX8_text 76 = .ok (.getfield 12, 3) := by decide +kernel
theorem dX8_text_79 : decode cX8_text 79 = .ok (.getfield 181, 3) := by decide +kernel
theorem dX8_text_82 : decode cX8_text 82 = .ok (.aload_n 0, 1) := by decide +kernel
theorem dX8_text_83 : decode cX8_text 83 = .ok (.getfield 23, 3) := by decide +kernel
theorem dX8_text_86 : decode cX8_text 86 = .ok (.iload_n 1, 1) := by decide +kernel
theorem dX8_text_87 : decode cX8_text 87 = .ok (.invokevirtual 195, 3) := by decide +kernel
theorem dX8_text_90 : decode cX8_text 90 = .ok (.ireturn, 1) := by decide +kernel
theorem dX8_score_0 : decode cX8_score 0 = .ok (.aload_n 0, 1) := by decide +kernel
theorem dX8_score_1 : decode cX8_score 1 = .ok (.getfield 12, 3) := by decide +kernel
theorem dX8_score_4 : decode cX8_score 4 = .ok (.getfield 181, 3) := by decide +kernel
theorem dX8_score_7 : decode cX8_score 7 = .ok (.iload_n 1, 1) := by decide +kernel
theorem dX8_score_8 : decode cX8_score 8 = .ok (.invokevirtual 198, 3) := by decide +kernel
theorem dX8_score_11 : decode cX8_score 11 = .ok (.ifCond .eq 17, 3) := by decide +kernel
theorem dX8_score_14 : decode cX8_score 14 = .ok (.aload_n 0, 1) := by decide +kernel
theorem dX8_score_15 : decode cX8_score 15 = .ok (.getfield 12, 3) := by decide +kernel
theorem dX8_score_18 : decode cX8_score 18 = .ok (.getfield 74, 3) := by decide +kernel
theorem dX8_score_21 : decode cX8_score 21 = .ok (.iload_n 2, 1) := by decide +kernel
theorem dX8_score_22 : decode cX8_score 22 = .ok (.invokevirtual 88, 3) := by decide +kernel
theorem dX8_score_25 : decode cX8_score 25 = .ok (.ifCond .ne 10, 3) := by decide +kernel
theorem dX8_score_28 : decode cX8_score 28 = .ok (.aload_n 0, 1) := by decide +kernel
theorem dX8_score_29 : decode cX8_score 29 = .ok (.ldc 69, 2) := by decide +kernel
theorem dX8_score_31 : decode cX8_score 31 = .ok (.invokevirtual 70, 3) := by decide +kernel
theorem dX8_score_34 : decode cX8_score 34 = .ok (.ireturn, 1) := by decide +kernel
theorem dX8_score_35 : decode cX8_score 35 = .ok (.aload_n 0, 1) := by decide +kernel
theorem dX8_score_36 : decode cX8_score 36 = .ok (.iload_n 1, 1) := by decide +kernel
theorem dX8_score_37 : decode cX8_score 37 = .ok (.iload_n 2, 1) := by decide +kernel
theorem dX8_score_38 : decode cX8_score 38 = .ok (.invokevirtual 199, 3) := by decide +kernel
theorem dX8_score_41 : decode cX8_score 41 = .ok (.ireturn, 1) := by decide +kernel
theorem dX8_found_0 : decode cX8_found 0 = .ok (.aload_n 0, 1) := by decide +kernel
theorem dX8_found_1 : decode cX8_found 1 = .ok (.getfield 12, 3) := by decide +kernel
theorem dX8_found_4 : decode cX8_found 4 = .ok (.getfield 181, 3) := by decide +kernel
theorem dX8_found_7 : decode cX8_found 7 = .ok (.iload_n 1, 1) := by decide +kernel
theorem dX8_found_8 : decode cX8_found 8 = .ok (.invokevirtual 198, 3) := by decide +kernel
theorem dX8_found_11 : decode cX8_found 11 = .ok (.ifCond .eq 12, 3) := by decide +kernel
theorem dX8_found_14 : decode cX8_found 14 = .ok (.iload_n 3, 1) := by decide +kernel
theorem dX8_found_15 : decode cX8_found 15 = .ok (.iconst 0, 1) := by decide +kernel
theorem dX8_found_16 : decode cX8_found 16 = .ok (.iconst 2, 1) := by decide +kernel
theorem dX8_found_17 : decode cX8_found 17 = .ok (.invokestatic 65, 3) := by decide +kernel
theorem dX8_found_20 : decode cX8_found 20 = .ok (.ifCond .ne 10, 3) := by decide +kernel
theorem dX8_found_23 : decode cX8_found 23 = .ok (.aload_n 0, 1) := by decide +kernel
theorem dX8_found_24 : decode cX8_found 24 = .ok (.ldc 69, 2) := by decide +kernel
theorem dX8_found_26 : decode cX8_found 26 = .ok (.invokevirtual 70, 3) := by decide +kernel
theorem dX8_found_29 : decode cX8_found 29 = .ok (.ireturn, 1) := by decide +kernel
theorem dX8_found_30 : decode cX8_found 30 = .ok (.aload_n 0, 1) := by decide +kernel
theorem dX8_found_31 : decode cX8_found 31 = .ok (.iload_n 1, 1) := by decide +kernel
theorem dX8_found_32 : decode cX8_found 32 = .ok (.invokevirtual 202, 3) := by decide +kernel
theorem dX8_found_35 : decode cX8_found 35 = .ok (.iload_n 3, 1) := by decide +kernel
theorem dX8_found_36 : decode cX8_found 36 = .ok (.ifCond .ne 9, 3) := by decide +kernel
theorem dX8_found_39 : decode cX8_found 39 = .ok (.aload_n 0, 1) := by decide +kernel
theorem dX8_found_40 : decode cX8_found 40 = .ok (.iload_n 2, 1) := by decide +kernel
theorem dX8_found_41 : decode cX8_found 41 = .ok (.invokevirtual 206, 3) := by decide +kernel
theorem dX8_found_44 : decode cX8_found 44 = .ok (.ireturn, 1) := by decide +kernel
theorem dX8_found_45 : decode cX8_found 45 = .ok (.iload_n 3, 1) := by decide +kernel
theorem dX8_found_46 : decode cX8_found 46 = .ok (.iconst 1, 1) := by decide +kernel
theorem dX8_found_47 : decode cX8_found 47 = .ok (.if_icmp .ne 11, 3) := by decide +kernel
theorem dX8_found_50 : decode cX8_found 50 = .ok (.aload_n 0, 1) := by decide +kernel
theorem dX8_found_51 : decode cX8_found 51 = .ok (.iload_n 2, 1) := by decide +kernel
theorem dX8_found_52 : decode cX8_found 52 = .ok (.invokevirtual 209, 3) := by decide +kernel
theorem dX8_found_55 : decode cX8_found 55 = .ok (.goto 8, 3) := by decide +kernel
theorem dX8_found_58 : decode cX8_found 58 = .ok (.aload_n 0, 1) := by decide +kernel
theorem dX8_found_59 : decode cX8_found 59 = .ok (.iload_n 2, 1) := by decide +kernel
theorem dX8_found_60 : decode cX8_found 60 = .ok (.invokevirtual 212, 3) := by decide +kernel
theorem dX8_found_63 : decode cX8_found 63 = .ok (.ireturn, 1) := by decide +kernel
theorem dX8_line_0 : decode cX8_line 0 = .ok (.aload_n 0, 1) := by decide +kernel
theorem dX8_line_1 : decode cX8_line 1 = .ok (.getfield 12, 3) := by decide +kernel
theorem dX8_line_4 : decode cX8_line 4 = .ok (.getfield 181, 3) := by decide +kernel
theorem dX8_line_7 : decode cX8_line 7 = .ok (.iload_n 1, 1) := by decide +kernel
theorem dX8_line_8 : decode cX8_line 8 = .ok (.invokevirtual 198, 3) := by decide +kernel
theorem dX8_line_11 : decode cX8_line 11 = .ok (.ifCond .eq 27, 3) := by decide +kernel
theorem dX8_line_14 : decode cX8_line 14 = .ok (.iload_n 2, 1) := by decide +kernel
theorem dX8_line_15 : decode cX8_line 15 = .ok (.iconst 0, 1) := by decide +kernel
theorem dX8_line_16 : decode cX8_line 16 = .ok (.bipush 99, 2) := by decide +kernel
theorem dX8_line_18 : decode cX8_line 18 = .ok (.invokestatic 65, 3) := by decide +kernel
theorem dX8_line_21 : decode cX8_line 21 = .ok (.ifCond .eq 17, 3) := by decide +kernel
theorem dX8_line_24 : decode cX8_line 24 = .ok (.iload_n 3, 1) := by decide +kernel
theorem dX8_line_25 : decode cX8_line 25 = .ok (.iconst 0, 1) := by decide +kernel
theorem dX8_line_26 : decode cX8_line 26 = .ok (.bipush 99, 2) := by decide +kernel
theorem dX8_line_28 : decode cX8_line 28 = .ok (.invokestatic 65, 3) := by decide +kernel
theorem dX8_line_31 : decode cX8_line 31 = .ok (.ifCond .eq 7, 3) := by decide +kernel
theorem dX8_line_34 : decode cX8_line 34 = .ok (.iconst 1, 1) := by decide +kernel
theorem dX8_line_35 : decode cX8_line 35 = .ok (.goto 4, 3) := by decide +kernel
theorem dX8_line_38 : decode cX8_line 38 = .ok (.iconst 0, 1) := by decide +kernel
theorem dX8_line_39 : decode cX8_line 39 = .ok (.istore 5, 2) := by decide +kernel
theorem dX8_line_41 : decode cX8_line 41 = .ok (.iload 5, 2) := by decide +kernel
theorem dX8_line_43 : decode cX8_line 43 = .ok (.ifCond .eq 13, 3) := by decide +kernel
theorem dX8_line_46 : decode cX8_line 46 = .ok (.iload 4, 2) := by decide +kernel
theorem dX8_line_48 : decode cX8_line 48 = .ok (.iconst 0, 1) := by decide +kernel
theorem dX8_line_49 : decode cX8_line 49 = .ok (.iconst 1, 1) := by decide +kernel
theorem dX8_line_50 : decode cX8_line 50 = .ok (.invokestatic 65, 3) := by decide +kernel
theorem dX8_line_53 : decode cX8_line 53 = .ok (.ifCond .ne 10, 3) := by decide +kernel
theorem dX8_line_56 : decode cX8_line 56 = .ok (.aload_n 0, 1) := by decide +kernel
theorem dX8_line_57 : decode cX8_line 57 = .ok (.ldc 69, 2) := by decide +kernel
theorem dX8_line_59 : decode cX8_line 59 = .ok (.invokevirtual 70, 3) := by decide +kernel
theorem dX8_line_62 : decode cX8_line 62 = .ok (.ireturn, 1) := by decide +kernel
theorem dX8_line_63 : decode cX8_line 63 = .ok (.aload_n 0, 1) := by decide +kernel
theorem dX8_line_64 : decode cX8_line 64 = .ok (.iload_n 1, 1) := by decide +kernel
theorem dX8_line_65 : decode cX8_line 65 = .ok (.invokevirtual 202, 3) := by decide +kernel
theorem dX8_line_68 : decode cX8_line 68 = .ok (.sipush (-200), 3) := by decide +kernel
theorem dX8_line_71 : decode cX8_line 71 = .ok (.istore 6, 2) := by decide +kernel
theorem dX8_line_73 : decode cX8_line 73 = .ok (.aload_n 0, 1) := by decide +kernel
theorem dX8_line_74 : decode cX8_line 74 = .ok (.iload 6, 2) := by decide +kernel
theorem dX8_line_76 : decode cX8_line 76 = .ok (.iload_n 2, 1) := by decide +kernel
theorem dX8_line_77 : decode cX8_line 77 = .ok (.iload_n 3, 1) := by decide +kernel
theorem dX8_line_78 : decode cX8_line 78 = .ok (.invokevirtual 215, 3) := by decide +kernel
theorem dX8_line_81 : decode cX8_line 81 = .ok (.istore 7, 2) := by decide +kernel
theorem dX8_line_83 : decode cX8_line 83 = .ok (.sipush (-199), 3) := by decide +kernel
theorem dX8_line_86 : decode cX8_line 86 = .ok (.istore 8, 2) := by decide +kernel
theorem dX8_line_88 : decode cX8_line 88 = .ok (.iload 8, 2) := by decide +kernel
theorem dX8_line_90 : decode cX8_line 90 = .ok (.sipush 200, 3) := by decide +kernel
theorem dX8_line_93 : decode cX8_line 93 = .ok (.if_icmp .gt 34, 3) := by decide +kernel
theorem dX8_line_96 : decode cX8_line 96 = .ok (.aload_n 0, 1) := by decide +kernel
theorem dX8_line_97 : decode cX8_line 97 = .ok (.iload 8, 2) := by decide +kernel
theorem dX8_line_99 : decode cX8_line 99 = .ok (.iload_n 2, 1) := by decide +kernel
theorem dX8_line_100 : decode cX8_line 100 = .ok (.iload_n 3, 1) := by decide +kernel
theorem dX8_line_101 : decode cX8_line 101 = .ok (.invokevirtual 215, 3) := by decide +kernel
theorem dX8_line_104 : decode cX8_line 104 = .ok (.istore 9, 2) := by decide +kernel
theorem dX8_line_106 : decode cX8_line 106 = .ok (.iload 9, 2) := by decide +kernel
theorem dX8_line_108 : decode cX8_line 108 = .ok (.iload 7, 2) := by decide +kernel
theorem dX8_line_110 : decode cX8_line 110 = .ok (.if_icmp .ge 11, 3) := by decide +kernel
theorem dX8_line_113 : decode cX8_line 113 = .ok (.iload 9, 2) := by decide +kernel
theorem dX8_line_115 : decode cX8_line 115 = .ok (.istore 7, 2) := by decide +kernel
theorem dX8_line_117 : decode cX8_line 117 = .ok (.iload 8, 2) := by decide +kernel
theorem dX8_line_119 : decode cX8_line 119 = .ok (.istore 6, 2) := by decide +kernel
theorem dX8_line_121 : decode cX8_line 121 = .ok (.iinc 8 1, 3) := by decide +kernel
theorem dX8_line_124 : decode cX8_line 124 = .ok (.goto (-36), 3) := by decide +kernel
theorem dX8_line_127 : decode cX8_line 127 = .ok (.iload 4, 2) := by decide +kernel
theorem dX8_line_129 : decode cX8_line 129 = .ok (.ifCond .ne 8, 3) := by decide +kernel
theorem dX8_line_132 : decode cX8_line 132 = .ok (.iload 6, 2) := by decide +kernel
theorem dX8_line_134 : decode cX8_line 134 = .ok (.goto 5, 3) := by decide +kernel
theorem dX8_line_137 : decode cX8_line 137 = .ok (.iload 7, 2) := by decide +kernel
theorem dX8_line_139 : decode cX8_line 139 = .ok (.ireturn, 1) := by decide +kernel
theorem dX8_shutAll_0 : decode cX8_shutAll 0 = .ok (.aload_n 0, 1) := by decide +kernel
theorem dX8_shutAll_1 : decode cX8_shutAll 1 = .ok (.getfield 12, 3) := by decide +kernel
theorem dX8_shutAll_4 : decode cX8_shutAll 4 = .ok (.getfield 181, 3) := by decide +kernel
theorem dX8_shutAll_7 : decode cX8_shutAll 7 = .ok (.iload_n 1, 1) := by decide +kernel
theorem dX8_shutAll_8 : decode cX8_shutAll 8 = .ok (.invokevirtual 198, 3) := by decide +kernel
theorem dX8_shutAll_11 : decode cX8_shutAll 11 = .ok (.ifCond .ne 10, 3) := by decide +kernel
theorem dX8_shutAll_14 : decode cX8_shutAll 14 = .ok (.aload_n 0, 1) := by decide +kernel
theorem dX8_shutAll_15 : decode cX8_shutAll 15 = .ok (.ldc 69, 2) := by decide +kernel
theorem dX8_shutAll_17 : decode cX8_shutAll 17 = .ok (.invokevirtual 70, 3) := by decide +kernel
theorem dX8_shutAll_20 : decode cX8_shutAll 20 = .ok (.ireturn, 1) := by decide +kernel
theorem dX8_shutAll_21 : decode cX8_shutAll 21 = .ok (.aload_n 0, 1) := by decide +kernel
theorem dX8_shutAll_22 : decode cX8_shutAll 22 = .ok (.iload_n 1, 1) := by decide +kernel
theorem dX8_shutAll_23 : decode cX8_shutAll 23 = .ok (.invokevirtual 202, 3) := by decide +kernel
theorem dX8_shutAll_26 : decode cX8_shutAll 26 = .ok (.aload_n 0, 1) := by decide +kernel
theorem dX8_shutAll_27 : decode cX8_shutAll 27 = .ok (.iload_n 2, 1) := by decide +kernel
theorem dX8_shutAll_28 : decode cX8_shutAll 28 = .ok (.invokevirtual 206, 3) := by decide +kernel
theorem dX8_shutAll_31 : decode cX8_shutAll 31 = .ok (.aload_n 0, 1) := by decide +kernel
theorem dX8_shutAll_32 : decode cX8_shutAll 32 = .ok (.getfield 12, 3) := by decide +kernel
theorem dX8_shutAll_35 : decode cX8_shutAll 35 = .ok (.getfield 74, 3) := by decide +kernel
theorem dX8_shutAll_38 : decode cX8_shutAll 38 = .ok (.getfield 92, 3) := by decide +kernel
theorem dX8_shutAll_41 : decode cX8_shutAll 41 = .ok (.iconst (-1), 1) := by decide +kernel
theorem dX8_shutAll_42 : decode cX8_shutAll 42 = .ok (.ixor, 1) := by decide +kernel
theorem dX8_shutAll_43 : decode cX8_shutAll 43 = .ok (.iand, 1) := by decide +kernel
theorem dX8_shutAll_44 : decode cX8_shutAll 44 = .ok (.istore_n 3, 1) := by decide +kernel
theorem dX8_shutAll_45 : decode cX8_shutAll 45 = .ok (.aload_n 0, 1) := by decide +kernel
theorem dX8_shutAll_46 : decode cX8_shutAll 46 = .ok (.getfield 12, 3) := by decide +kernel
theorem dX8_shutAll_49 : decode cX8_shutAll 49 = .ok (.getfield 74, 3) := by decide +kernel
theorem dX8_shutAll_52 : decode cX8_shutAll 52 = .ok (.dup, 1) := by decide +kernel
theorem dX8_shutAll_53 : decode cX8_shutAll 53 = .ok (.getfield 92, 3) := by decide +kernel
theorem dX8_shutAll_56 : decode cX8_shutAll 56 = .ok (.iload_n 3, 1) := by decide +kernel
theorem dX8_shutAll_57 : decode cX8_shutAll 57 = .ok (.ior, 1) := by decide +kernel
theorem dX8_shutAll_58 : decode cX8_shutAll 58 = .ok (.putfield 92, 3) := by decide +kernel
theorem dX8_shutAll_61 : decode cX8_shutAll 61 = .ok (.iload_n 3, 1) := by decide +kernel
theorem dX8_shutAll_62 : decode cX8_shutAll 62 = .ok (.invokestatic 117, 3) := by decide +kernel
theorem dX8_shutAll_65 : decode cX8_shutAll 65 = .ok (.ireturn, 1) := by decide +kernel
theorem dX8_ask_0 : decode cX8_ask 0 = .ok (.aload_n 0, 1) := by decide +kernel
theorem dX8_ask_1 : decode cX8_ask 1 = .ok (.getfield 12, 3) := by decide +kernel
theorem dX8_ask_4 : decode cX8_ask 4 = .ok (.getfield 181, 3) := by decide +kernel
theorem dX8_ask_7 : decode cX8_ask 7 = .ok (.iload_n 1, 1) := by decide +kernel
theorem dX8_ask_8 : decode cX8_ask 8 = .ok (.invokevirtual 198, 3) := by decide +kernel
theorem dX8_ask_11 : decode cX8_ask 11 = .ok (.ifCond .eq 16, 3) := by decide +kernel
theorem dX8_ask_14 : decode cX8_ask 14 = .ok (.iload_n 2, 1) := by decide +kernel
theorem dX8_ask_15 : decode cX8_ask 15 = .ok (.sipush (-9999), 3) := by decide +kernel
theorem dX8_ask_18 : decode cX8_ask 18 = .ok (.sipush 9999, 3) := by decide +kernel
theorem dX8_ask_21 : decode cX8_ask 21 = .ok (.invokestatic 65, 3) := by decide +kernel
theorem dX8_ask_24 : decode cX8_ask 24 = .ok (.ifCond .ne 10, 3) := by decide +kernel
theorem dX8_ask_27 : decode cX8_ask 27 = .ok (.aload_n 0, 1) := by decide +kernel
theorem dX8_ask_28 : decode cX8_ask 28 = .ok (.ldc 69, 2) := by decide +kernel
theorem dX8_ask_30 : decode cX8_ask 30 = .ok (.invokevirtual 70, 3) := by decide +kernel
theorem dX8_ask_33 : decode cX8_ask 33 = .ok (.ireturn, 1) := by decide +kernel
theorem dX8_ask_34 : decode cX8_ask 34 = .ok (.iconst (-1), 1) := by decide +kernel
theorem dX8_ask_35 : decode cX8_ask 35 = .ok (.istore_n 3, 1) := by decide +kernel
theorem dX8_ask_36 : decode cX8_ask 36 = .ok (.lconst 0, 1) := by decide +kernel
theorem dX8_ask_37 : decode cX8_ask 37 = .ok (.lstore 4, 2) := by decide +kernel
theorem dX8_ask_39 : decode cX8_ask 39 = .ok (.iconst 0, 1) := by decide +kernel
theorem dX8_ask_40 : decode cX8_ask 40 = .ok (.istore 6, 2) := by decide +kernel
theorem dX8_ask_42 : decode cX8_ask 42 = .ok (.iload 6, 2) := by decide +kernel
theorem dX8_ask_44 : decode cX8_ask 44 = .ok (.aload_n 0, 1) := by decide +kernel
theorem dX8_ask_45 : decode cX8_ask 45 = .ok (.getfield 12, 3) := by decide +kernel
theorem dX8_ask_48 : decode cX8_ask 48 = .ok (.getfield 74, 3) := by decide +kernel
theorem dX8_ask_51 : decode cX8_ask 51 = .ok (.getfield 78, 3) := by decide +kernel
theorem dX8_ask_54 : decode cX8_ask 54 = .ok (.if_icmp .ge 65, 3) := by decide +kernel
theorem dX8_ask_57 : decode cX8_ask 57 = .ok (.aload_n 0, 1) := by decide +kernel
theorem dX8_ask_58 : decode cX8_ask 58 = .ok (.getfield 12, 3) := by decide +kernel
theorem dX8_ask_61 : decode cX8_ask 61 = .ok (.getfield 74, 3) := by decide +kernel
theorem dX8_ask_64 : decode cX8_ask 64 = .ok (.getfield 219, 3) := by decide +kernel
theorem dX8_ask_67 : decode cX8_ask 67 = .ok (.iload 6, 2) := by decide +kernel
theorem dX8_ask_69 : decode cX8_ask 69 = .ok (.invokestatic 95, 3) := by decide +kernel
theorem dX8_ask_72 : decode cX8_ask 72 = .ok (.ifCond .eq 6, 3) := by decide +kernel
theorem dX8_ask_75 : decode cX8_ask 75 = .ok (.goto 38, 3) := by decide +kernel
theorem dX8_ask_78 : decode cX8_ask 78 = .ok (.aload_n 0, 1) := by decide +kernel
theorem dX8_ask_79 : decode cX8_ask 79 = .ok (.iload_n 1, 1) := by decide +kernel
theorem dX8_ask_80 : decode cX8_ask 80 = .ok (.iload 6, 2) := by decide +kernel
theorem dX8_ask_82 : decode cX8_ask 82 = .ok (.invokevirtual 199, 3) := by decide +kernel
theorem dX8_ask_85 : decode cX8_ask 85 = .ok (.i2l, 1) := by decide +kernel
theorem dX8_ask_86 : decode cX8_ask 86 = .ok (.iload_n 2, 1) := by decide +kernel
theorem dX8_ask_87 : decode cX8_ask 87 = .ok (.i2l, 1) := by decide +kernel
theorem dX8_ask_88 : decode cX8_ask 88 = .ok (.lsub, 1) := by decide +kernel
theorem dX8_ask_89 : decode cX8_ask 89 = .ok (.invokestatic 222, 3) := by decide +kernel
theorem dX8_ask_92 : decode cX8_ask 92 = .ok (.lstore 7, 2) := by decide +kernel
theorem dX8_ask_94 : decode cX8_ask 94 = .ok (.iload_n 3, 1) := by decide +kernel
theorem dX8_ask_95 : decode cX8_ask 95 = .ok (.ifCond .lt 11, 3) := by decide +kernel
theorem dX8_ask_98 : decode cX8_ask 98 = .ok (.lload 7, 2) := by decide +kernel
theorem dX8_ask_100 : decode cX8_ask 100 = .ok (.lload 4, 2) := by decide +kernel
theorem dX8_ask_102 : decode cX8_ask 102 = .ok (.lcmp, 1) := by decide +kernel
theorem dX8_ask_103 : decode cX8_ask 103 = .ok (.ifCond .ge 10, 3) := by decide +kernel
theorem dX8_ask_106 : decode cX8_ask 106 = .ok (.iload 6, 2) := by decide +kernel
theorem dX8_ask_108 : decode cX8_ask 108 = .ok (.istore_n 3, 1) := by decide +kernel
theorem dX8_ask_109 : decode cX8_ask 109 = .ok (.lload 7, 2) := by decide +kernel
theorem dX8_ask_111 : decode cX8_ask 111 = .ok (.lstore 4, 2) := by decide +kernel
theorem dX8_ask_113 : decode cX8_ask 113 = .ok (.iinc 6 1, 3) := by decide +kernel
theorem dX8_ask_116 : decode cX8_ask 116 = .ok (.goto (-74), 3) := by decide +kernel
theorem dX8_ask_119 : decode cX8_ask 119 = .ok (.iload_n 3, 1) := by decide +kernel
theorem dX8_ask_120 : decode cX8_ask 120 = .ok (.ifCond .ge 12, 3) := by decide +kernel
theorem dX8_ask_123 : decode cX8_ask 123 = .ok (.aload_n 0, 1) := by decide +kernel
theorem dX8_ask_124 : decode cX8_ask 124 = .ok (.ldc 133, 2) := by decide +kernel
theorem dX8_ask_126 : decode cX8_ask 126 = .ok (.invokevirtual 70, 3) := by decide +kernel
theorem dX8_ask_129 : decode cX8_ask 129 = .ok (.goto 4, 3) := by decide +kernel
theorem dX8_ask_132 : decode cX8_ask 132 = .ok (.iload_n 3, 1) := by decide +kernel
theorem dX8_ask_133 : decode cX8_ask 133 = .ok (.ireturn, 1) := by decide +kernel
theorem dX8_asked_0 : decode cX8_asked 0 = .ok (.aload_n 0, 1) := by decide +kernel
theorem dX8_asked_1 : decode cX8_asked 1 = .ok (.getfield 12, 3) := by decide +kernel
theorem dX8_asked_4 : decode cX8_asked 4 = .ok (.getfield 74, 3) := by decide +kernel
theorem dX8_asked_7 : decode cX8_asked 7 = .ok (.astore_n 2, 1) := by decide +kernel
theorem dX8_asked_8 : decode cX8_asked 8 = .ok (.aload_n 2, 1) := by decide +kernel
theorem dX8_asked_9 : decode cX8_asked 9 = .ok (.iload_n 1, 1) := by decide +kernel
theorem dX8_asked_10 : decode cX8_asked 10 = .ok (.invokevirtual 88, 3) := by decide +kernel
theorem dX8_asked_13 : decode cX8_asked 13 = .ok (.ifCond .ne 10, 3) := by decide +kernel
theorem dX8_asked_16 : decode cX8_asked 16 = .ok (.aload_n 0, 1) := by decide +kernel
theorem dX8_asked_17 : decode cX8_asked 17 = .ok (.ldc 69, 2) := by decide +kernel
theorem dX8_asked_19 : decode cX8_asked 19 = .ok (.invokevirtual 70, 3) := by decide +kernel
theorem dX8_asked_22 : decode cX8_asked 22 = .ok (.ireturn, 1) := by decide +kernel
theorem dX8_asked_23 : decode cX8_asked 23 = .ok (.aload_n 2, 1) := by decide +kernel
theorem dX8_asked_24 : decode cX8_asked 24 = .ok (.getfield 219, 3) := by decide +kernel
theorem dX8_asked_27 : decode cX8_asked 27 = .ok (.iload_n 1, 1) := by decide +kernel
theorem dX8_asked_28 : decode cX8_asked 28 = .ok (.invokestatic 95, 3) := by decide +kernel
theorem dX8_asked_31 : decode cX8_asked 31 = .ok (.ifCond .eq 10, 3) := by decide +kernel
theorem dX8_asked_34 : decode cX8_asked 34 = .ok (.aload_n 0, 1) := by decide +kernel
theorem dX8_asked_35 : decode cX8_asked 35 = .ok (.ldc 143, 2) := by decide +kernel
theorem dX8_asked_37 : decode cX8_asked 37 = .ok (.invokevirtual 70, 3) := by decide +kernel
theorem dX8_asked_40 : decode cX8_asked 40 = .ok (.ireturn, 1) := by decide +kernel
theorem dX8_asked_41 : decode cX8_asked 41 = .ok (.aload_n 2, 1) := by decide +kernel
theorem dX8_asked_42 : decode cX8_asked 42 = .ok (.dup, 1) := by decide +kernel
theorem dX8_asked_43 : decode cX8_asked 43 = .ok (.getfield 219, 3) := by decide +kernel
theorem dX8_asked_46 : decode cX8_asked 46 = .ok (.iconst 1, 1) := by decide +kernel
theorem dX8_asked_47 : decode cX8_asked 47 = .ok (.iload_n 1, 1) := by decide +kernel
theorem dX8_asked_48 : decode cX8_asked 48 = .ok (.ishl, 1) := by decide +kernel
theorem dX8_asked_49 : decode cX8_asked 49 = .ok (.ior, 1) := by decide +kernel
theorem dX8_asked_50 : decode cX8_asked 50 = .ok (.putfield 219, 3) := by decide +kernel
theorem dX8_asked_53 : decode cX8_asked 53 = .ok (.aload_n 2, 1) := by decide +kernel
theorem dX8_asked_54 : decode cX8_asked 54 = .ok (.getfield 219, 3) := by decide +kernel
theorem dX8_asked_57 : decode cX8_asked 57 = .ok (.invokestatic 117, 3) := by decide +kernel
theorem dX8_asked_60 : decode cX8_asked 60 = .ok (.ireturn, 1) := by decide +kernel
theorem dX8_together_0 : decode cX8_together 0 = .ok (.aload_n 0, 1) := by decide +kernel
theorem dX8_together_1 : decode cX8_together 1 = .ok (.iload_n 1, 1) := by decide +kernel
theorem dX8_together_2 : decode cX8_together 2 = .ok (.iload_n 2, 1) := by decide +kernel
theorem dX8_together_3 : decode cX8_together 3 = .ok (.invokevirtual 226, 3) := by decide +kernel
theorem dX8_together_6 : decode cX8_together 6 = .ok (.ifCond .eq 10, 3) := by decide +kernel
theorem dX8_together_9 : decode cX8_together 9 = .ok (.iload_n 3, 1) := by decide +kernel
theorem dX8_together_10 : decode cX8_together 10 = .ok (.invokestatic 229, 3) := by decide +kernel
theorem dX8_together_13 : decode cX8_together 13 = .ok (.ifCond .ne 10, 3) := by decide +kernel
theorem dX8_together_16 : decode cX8_together 16 = .ok (.aload_n 0, 1) := by decide +kernel
theorem dX8_together_17 : decode cX8_together 17 = .ok (.ldc 69, 2) := by decide +kernel
theorem dX8_together_19 : decode cX8_together 19 = .ok (.invokevirtual 70, 3) := by decide +kernel
theorem dX8_together_22 : decode cX8_together 22 = .ok (.ireturn, 1) := by decide +kernel
theorem dX8_together_23 : decode cX8_together 23 = .ok (.aload_n 0, 1) := by decide +kernel
theorem dX8_together_24 : decode cX8_together 24 = .ok (.getfield 12, 3) := by decide +kernel
theorem dX8_together_27 : decode cX8_together 27 = .ok (.getfield 134, 3) := by decide +kernel
theorem dX8_together_30 : decode cX8_together 30 = .ok (.iload_n 1, 1) := by decide +kernel
theorem dX8_together_31 : decode cX8_together 31 = .ok (.iload_n 2, 1) := by decide +kernel
theorem dX8_together_32 : decode cX8_together 32 = .ok (.iload_n 3, 1) := by decide +kernel
theorem dX8_together_33 : decode cX8_together 33 = .ok (.invokevirtual 232, 3) := by decide +kernel
theorem dX8_together_36 : decode cX8_together 36 = .ok (.ireturn, 1) := by decide +kernel
theorem dX8_group_0 : decode cX8_group 0 = .ok (.aload_n 0, 1) := by decide +kernel
theorem dX8_group_1 : decode cX8_group 1 = .ok (.getfield 12, 3) := by decide +kernel
theorem dX8_group_4 : decode cX8_group 4 = .ok (.getfield 74, 3) := by decide +kernel
theorem dX8_group_7 : decode cX8_group 7 = .ok (.iload_n 1, 1) := by decide +kernel
theorem dX8_group_8 : decode cX8_group 8 = .ok (.invokevirtual 88, 3) := by decide +kernel
theorem dX8_group_11 : decode cX8_group 11 = .ok (.ifCond .eq 24, 3) := by decide +kernel
theorem dX8_group_14 : decode cX8_group 14 = .ok (.iload_n 2, 1) := by decide +kernel
theorem dX8_group_15 : decode cX8_group 15 = .ok (.invokestatic 229, 3) := by decide +kernel
theorem dX8_group_18 : decode cX8_group 18 = .ok (.ifCond .eq 17, 3) := by decide +kernel
theorem dX8_group_21 : decode cX8_group 21 = .ok (.iload_n 3, 1) := by decide +kernel
theorem dX8_group_22 : decode cX8_group 22 = .ok (.iconst 1, 1) := by decide +kernel
theorem dX8_group_23 : decode cX8_group 23 = .ok (.bipush 99, 2) := by decide +kernel
theorem dX8_group_25 : decode cX8_group 25 = .ok (.invokestatic 65, 3) := by decide +kernel
theorem dX8_group_28 : decode cX8_group 28 = .ok (.ifCond .eq 7, 3) := by decide +kernel
theorem dX8_group_31 : decode cX8_group 31 = .ok (.iconst 1, 1) := by decide +kernel
theorem dX8_group_32 : decode cX8_group 32 = .ok (.goto 4, 3) := by decide +kernel
theorem dX8_group_35 : decode cX8_group 35 = .ok (.iconst 0, 1) := by decide +kernel
theorem dX8_group_36 : decode cX8_group 36 = .ok (.istore 5, 2) := by decide +kernel
theorem dX8_group_38 : decode cX8_group 38 = .ok (.iload 5, 2) := by decide +kernel
theorem dX8_group_40 : decode cX8_group 40 = .ok (.ifCond .eq 13, 3) := by decide +kernel
theorem dX8_group_43 : decode cX8_group 43 = .ok (.iload 4, 2) := by decide +kernel
theorem dX8_group_45 : decode cX8_group 45 = .ok (.iconst 0, 1) := by decide +kernel
theorem dX8_group_46 : decode cX8_group 46 = .ok (.iconst 2, 1) := by decide +kernel
theorem dX8_group_47 : decode cX8_group 47 = .ok (.invokestatic 65, 3) := by decide +kernel
theorem dX8_group_50 : decode cX8_group 50 = .ok (.ifCond .ne 10, 3) := by decide +kernel
theorem dX8_group_53 : decode cX8_group 53 = .ok (.aload_n 0, 1) := by decide +kernel
theorem dX8_group_54 : decode cX8_group 54 = .ok (.ldc 69, 2) := by decide +kernel
theorem dX8_group_56 : decode cX8_group 56 = .ok (.invokevirtual 70, 3) := by decide +kernel
theorem dX8_group_59 : decode cX8_group 59 = .ok (.ireturn, 1) := by decide +kernel
theorem dX8_group_60 : decode cX8_group 60 = .ok (.aload_n 0, 1) := by decide +kernel
theorem dX8_group_61 : decode cX8_group 61 = .ok (.getfield 58, 3) := by decide +kernel
theorem dX8_group_64 : decode cX8_group 64 = .ok (.aload_n 0, 1) := by decide +kernel
theorem dX8_group_65 : decode cX8_group 65 = .ok (.getfield 12, 3) := by decide +kernel
theorem dX8_group_68 : decode cX8_group 68 = .ok (.getfield 134, 3) := by decide +kernel
theorem dX8_group_71 : decode cX8_group 71 = .ok (.aload_n 0, 1) := by decide +kernel
theorem dX8_group_72 : decode cX8_group 72 = .ok (.getfield 12, 3) := by decide +kernel
theorem dX8_group_75 : decode cX8_group 75 = .ok (.getfield 74, 3) := by decide +kernel
theorem dX8_group_78 : decode cX8_group 78 = .ok (.getfield 78, 3) := by decide +kernel
theorem dX8_group_81 : decode cX8_group 81 = .ok (.iload_n 2, 1) := by decide +kernel
theorem dX8_group_82 : decode cX8_group 82 = .ok (.iload_n 3, 1) := by decide +kernel
theorem dX8_group_83 : decode cX8_group 83 = .ok (.invokevirtual 235, 3) := by decide +kernel
theorem dX8_group_86 : decode cX8_group 86 = .ok (.iload 4, 2) := by decide +kernel
theorem dX8_group_88 : decode cX8_group 88 = .ok (.ifCond .ne 13, 3) := by decide +kernel
theorem dX8_group_91 : decode cX8_group 91 = .ok (.aload_n 0, 1) := by decide +kernel
theorem dX8_group_92 : decode cX8_group 92 = .ok (.getfield 58, 3) := by decide +kernel
theorem dX8_group_95 : decode cX8_group 95 = .ok (.getfield 238, 3) := by decide +kernel
theorem dX8_group_98 : decode cX8_group 98 = .ok (.iload_n 1, 1) := by decide +kernel
theorem dX8_group_99 : decode cX8_group 99 = .ok (.iaload, 1) := by decide +kernel
theorem dX8_group_100 : decode cX8_group 100 = .ok (.ireturn, 1) := by decide +kernel
theorem dX8_group_101 : decode cX8_group 101 = .ok (.aload_n 0, 1) := by decide +kernel
theorem dX8_group_102 : decode cX8_group 102 = .ok (.getfield 58, 3) := by decide +kernel
theorem dX8_group_105 : decode cX8_group 105 = .ok (.aload_n 0, 1) := by decide +kernel
theorem dX8_group_106 : decode cX8_group 106 = .ok (.getfield 58, 3) := by decide +kernel
theorem dX8_group_109 : decode cX8_group 109 = .ok (.getfield 238, 3) := by decide +kernel
theorem dX8_group_112 : decode cX8_group 112 = .ok (.iload_n 1, 1) := by decide +kernel
theorem dX8_group_113 : decode cX8_group 113 = .ok (.iaload, 1) := by decide +kernel
theorem dX8_group_114 : decode cX8_group 114 = .ok (.invokevirtual 241, 3) := by decide +kernel
theorem dX8_group_117 : decode cX8_group 117 = .ok (.istore 6, 2) := by decide +kernel
theorem dX8_group_119 : decode cX8_group 119 = .ok (.iload 4, 2) := by decide +kernel
theorem dX8_group_121 : decode cX8_group 121 = .ok (.iconst 1, 1) := by decide +kernel
theorem dX8_group_122 : decode cX8_group 122 = .ok (.if_icmp .ne 11, 3) := by decide +kernel
theorem dX8_group_125 : decode cX8_group 125 = .ok (.iload 6, 2) := by decide +kernel
theorem dX8_group_127 : decode cX8_group 127 = .ok (.invokestatic 117, 3) := by decide +kernel
theorem dX8_group_130 : decode cX8_group 130 = .ok (.goto 5, 3) := by decide +kernel
theorem dX8_group_133 : decode cX8_group 133 = .ok (.iload 6, 2) := by decide +kernel
theorem dX8_group_135 : decode cX8_group 135 = .ok (.ireturn, 1) := by decide +kernel
theorem dX8_groups_0 : decode cX8_groups 0 = .ok (.iload_n 1, 1) := by decide +kernel
theorem dX8_groups_1 : decode cX8_groups 1 = .ok (.invokestatic 229, 3) := by decide +kernel
theorem dX8_groups_4 : decode cX8_groups 4 = .ok (.ifCond .eq 13, 3) := by decide +kernel
theorem dX8_groups_7 : decode cX8_groups 7 = .ok (.iload_n 2, 1) := by decide +kernel
theorem dX8_groups_8 : decode cX8_groups 8 = .ok (.iconst 1, 1) := by decide +kernel
theorem dX8_groups_9 : decode cX8_groups 9 = .ok (.bipush 99, 2) := by decide +kernel
theorem dX8_groups_11 : decode cX8_groups 11 = .ok (.invokestatic 65, 3) := by decide +kernel
theorem dX8_groups_14 : decode cX8_groups 14 = .ok (.ifCond .ne 10, 3) := by decide +kernel
theorem dX8_groups_17 : decode cX8_groups 17 = .ok (.aload_n 0, 1) := by decide +kernel
theorem dX8_groups_18 : decode cX8_groups 18 = .ok (.ldc 69, 2) := by decide +kernel
theorem dX8_groups_20 : decode cX8_groups 20 = .ok (.invokevirtual 70, 3) := by decide +kernel
theorem dX8_groups_23 : decode cX8_groups 23 = .ok (.ireturn, 1) := by decide +kernel
theorem dX8_groups_24 : decode cX8_groups 24 = .ok (.aload_n 0, 1) := by decide +kernel
theorem dX8_groups_25 : decode cX8_groups 25 = .ok (.getfield 58, 3) := by decide +kernel
theorem dX8_groups_28 : decode cX8_groups 28 = .ok (.aload_n 0, 1) := by decide +kernel
theorem dX8_groups_29 : decode cX8_groups 29 = .ok (.getfield 12, 3) := by decide +kernel
theorem dX8_groups_32 : decode cX8_groups 32 = .ok (.getfield 134, 3) := by decide +kernel
theorem dX8_groups_35 : decode cX8_groups 35 = .ok (.aload_n 0, 1) := by decide +kernel
theorem dX8_groups_36 : decode cX8_groups 36 = .ok (.getfield 12, 3) := by decide +kernel
theorem dX8_groups_39 : decode cX8_groups 39 = .ok (.getfield 74, 3) := by decide +kernel
theorem dX8_groups_42 : decode cX8_groups 42 = .ok (.getfield 78, 3) := by decide +kernel
theorem dX8_groups_45 : decode cX8_groups 45 = .ok (.iload_n 1, 1) := by decide +kernel
theorem dX8_groups_46 : decode cX8_groups 46 = .ok (.iload_n 2, 1) := by decide +kernel
theorem dX8_groups_47 : decode cX8_groups 47 = .ok (.invokevirtual 235, 3) := by decide +kernel
theorem dX8_groups_50 : decode cX8_groups 50 = .ok (.aload_n 0, 1) := by decide +kernel
theorem dX8_groups_51 : decode cX8_groups 51 = .ok (.getfield 58, 3) := by decide +kernel
theorem dX8_groups_54 : decode cX8_groups 54 = .ok (.invokevirtual 244, 3) := by decide +kernel
theorem dX8_groups_57 : decode cX8_groups 57 = .ok (.ireturn, 1) := by decide +kernel
theorem dX8_club_0 : decode cX8_club 0 = .ok (.iload_n 1, 1) := by decide +kernel
theorem dX8_club_1 : decode cX8_club 1 = .ok (.invokestatic 122, 3) := by decide +kernel
theorem dX8_club_4 : decode cX8_club 4 = .ok (.ifCond .eq 10, 3) := by decide +kernel
theorem dX8_club_7 : decode cX8_club 7 = .ok (.iload_n 2, 1) := by decide +kernel
theorem dX8_club_8 : decode cX8_club 8 = .ok (.invokestatic 229, 3) := by decide +kernel
theorem dX8_club_11 : decode cX8_club 11 = .ok (.ifCond .ne 10, 3) := by decide +kernel
theorem dX8_club_14 : decode cX8_club 14 = .ok (.aload_n 0, 1) := by decide +kernel
theorem dX8_club_15 : decode cX8_club 15 = .ok (.ldc 69, 2) := by decide +kernel
theorem dX8_club_17 : decode cX8_club 17 = .ok (.invokevirtual 70, 3) := by decide +kernel
theorem dX8_club_20 : decode cX8_club 20 = .ok (.ireturn, 1) := by decide +kernel
theorem dX8_club_21 : decode cX8_club 21 = .ok (.aload_n 0, 1) := by decide +kernel
theorem dX8_club_22 : decode cX8_club 22 = .ok (.getfield 12, 3) := by decide +kernel
theorem dX8_club_25 : decode cX8_club 25 = .ok (.getfield 134, 3) := by decide +kernel
theorem dX8_club_28 : decode cX8_club 28 = .ok (.iload_n 1, 1) := by decide +kernel
theorem dX8_club_29 : decode cX8_club 29 = .ok (.iload_n 1, 1) := by decide +kernel
theorem dX8_club_30 : decode cX8_club 30 = .ok (.iload_n 2, 1) := by decide +kernel
theorem dX8_club_31 : decode cX8_club 31 = .ok (.iadd, 1) := by decide +kernel
theorem dX8_club_32 : decode cX8_club 32 = .ok (.invokevirtual 247, 3) := by decide +kernel
theorem dX8_club_35 : decode cX8_club 35 = .ok (.ireturn, 1) := by decide +kernel
theorem dX8_apart_0 : decode cX8_apart 0 = .ok (.aload_n 0, 1) := by decide +kernel
theorem dX8_apart_1 : decode cX8_apart 1 = .ok (.iload_n 1, 1) := by decide +kernel
theorem dX8_apart_2 : decode cX8_apart 2 = .ok (.iload_n 2, 1) := by decide +kernel
theorem dX8_apart_3 : decode cX8_apart 3 = .ok (.invokevirtual 226, 3) := by decide +kernel
theorem dX8_apart_6 : decode cX8_apart 6 = .ok (.ifCond .ne 10, 3) := by decide +kernel
theorem dX8_apart_9 : decode cX8_apart 9 = .ok (.aload_n 0, 1) := by decide +kernel
theorem dX8_apart_10 : decode cX8_apart 10 = .ok (.ldc 69, 2) := by decide +kernel
theorem dX8_apart_12 : decode cX8_apart 12 = .ok (.invokevirtual 70, 3) := by decide +kernel
theorem dX8_apart_15 : decode cX8_apart 15 = .ok (.ireturn, 1) := by decide +kernel
theorem dX8_apart_16 : decode cX8_apart 16 = .ok (.aload_n 0, 1) := by decide +kernel
theorem dX8_apart_17 : decode cX8_apart 17 = .ok (.getfield 12, 3) := by decide +kernel
theorem dX8_apart_20 : decode cX8_apart 20 = .ok (.getfield 134, 3) := by decide +kernel
theorem dX8_apart_23 : decode cX8_apart 23 = .ok (.iload_n 1, 1) := by decide +kernel
theorem dX8_apart_24 : decode cX8_apart 24 = .ok (.invokevirtual 178, 3) := by decide +kernel
theorem dX8_apart_27 : decode cX8_apart 27 = .ok (.aload_n 0, 1) := by decide +kernel
theorem dX8_apart_28 : decode cX8_apart 28 = .ok (.getfield 12, 3) := by decide +kernel
theorem dX8_apart_31 : decode cX8_apart 31 = .ok (.getfield 134, 3) := by decide +kernel
theorem dX8_apart_34 : decode cX8_apart 34 = .ok (.iload_n 2, 1) := by decide +kernel
theorem dX8_apart_35 : decode cX8_apart 35 = .ok (.invokevirtual 178, 3) := by decide +kernel
theorem dX8_apart_38 : decode cX8_apart 38 = .ok (.ixor, 1) := by decide +kernel
theorem dX8_apart_39 : decode cX8_apart 39 = .ok (.invokestatic 117, 3) := by decide +kernel
theorem dX8_apart_42 : decode cX8_apart 42 = .ok (.ireturn, 1) := by decide +kernel
theorem dX8_counts_0 : decode cX8_counts 0 = .ok (.iload_n 1, 1) := by decide +kernel
theorem dX8_counts_1 : decode cX8_counts 1 = .ok (.iconst (-1), 1) := by decide +kernel
theorem dX8_counts_2 : decode cX8_counts 2 = .ok (.bipush 9, 2) := by decide +kernel
theorem dX8_counts_4 : decode cX8_counts 4 = .ok (.invokestatic 65, 3) := by decide +kernel
theorem dX8_counts_7 : decode cX8_counts 7 = .ok (.ifCond .eq 17, 3) := by decide +kernel
theorem dX8_counts_10 : decode cX8_counts 10 = .ok (.aload_n 0, 1) := by decide +kernel
theorem dX8_counts_11 : decode cX8_counts 11 = .ok (.getfield 12, 3) := by decide +kernel
theorem dX8_counts_14 : decode cX8_counts 14 = .ok (.getfield 74, 3) := by decide +kernel
theorem dX8_counts_17 : decode cX8_counts 17 = .ok (.iload_n 2, 1) := by decide +kernel
theorem dX8_counts_18 : decode cX8_counts 18 = .ok (.invokevirtual 250, 3) := by decide +kernel
theorem dX8_counts_21 : decode cX8_counts 21 = .ok (.ifCond .ne 10, 3) := by decide +kernel
theorem dX8_counts_24 : decode cX8_counts 24 = .ok (.aload_n 0, 1) := by decide +kernel
theorem dX8_counts_25 : decode cX8_counts 25 = .ok (.ldc 69, 2) := by decide +kernel
theorem dX8_counts_27 : decode cX8_counts 27 = .ok (.invokevirtual 70, 3) := by decide +kernel
theorem dX8_counts_30 : decode cX8_counts 30 = .ok (.ireturn, 1) := by decide +kernel
theorem dX8_counts_31 : decode cX8_counts 31 = .ok (.aload_n 0, 1) := by decide +kernel
theorem dX8_counts_32 : decode cX8_counts 32 = .ok (.getfield 12, 3) := by decide +kernel
theorem dX8_counts_35 : decode cX8_counts 35 = .ok (.getfield 134, 3) := by decide +kernel
theorem dX8_counts_38 : decode cX8_counts 38 = .ok (.iload_n 1, 1) := by decide +kernel
theorem dX8_counts_39 : decode cX8_counts 39 = .ok (.iload_n 2, 1) := by decide +kernel
theorem dX8_counts_40 : decode cX8_counts 40 = .ok (.invokevirtual 253, 3) := by decide +kernel
theorem dX8_counts_43 : decode cX8_counts 43 = .ok (.ireturn, 1) := by decide +kernel
theorem dX8_most_0 : decode cX8_most 0 = .ok (.aload_n 0, 1) := by decide +kernel
theorem dX8_most_1 : decode cX8_most 1 = .ok (.getfield 12, 3) := by decide +kernel
theorem dX8_most_4 : decode cX8_most 4 = .ok (.getfield 74, 3) := by decide +kernel
theorem dX8_most_7 : decode cX8_most 7 = .ok (.iload_n 1, 1) := by decide +kernel
theorem dX8_most_8 : decode cX8_most 8 = .ok (.invokevirtual 250, 3) := by decide +kernel
theorem dX8_most_11 : decode cX8_most 11 = .ok (.ifCond .ne 10, 3) := by decide +kernel
theorem dX8_most_14 : decode cX8_most 14 = .ok (.aload_n 0, 1) := by decide +kernel
theorem dX8_most_15 : decode cX8_most 15 = .ok (.ldc 69, 2) := by decide +kernel
theorem dX8_most_17 : decode cX8_most 17 = .ok (.invokevirtual 70, 3) := by decide +kernel
theorem dX8_most_20 : decode cX8_most 20 = .ok (.ireturn, 1) := by decide +kernel
theorem dX8_most_21 : decode cX8_most 21 = .ok (.iconst (-1), 1) := by decide +kernel
theorem dX8_most_22 : decode cX8_most 22 = .ok (.istore_n 2, 1) := by decide +kernel
theorem dX8_most_23 : decode cX8_most 23 = .ok (.iconst 0, 1) := by decide +kernel
theorem dX8_most_24 : decode cX8_most 24 = .ok (.istore_n 3, 1) := by decide +kernel
theorem dX8_most_25 : decode cX8_most 25 = .ok (.iconst 0, 1) := by decide +kernel
theorem dX8_most_26 : decode cX8_most 26 = .ok (.istore 4, 2) := by decide +kernel
theorem dX8_most_28 : decode cX8_most 28 = .ok (.iload 4, 2) := by decide +kernel
theorem dX8_most_30 : decode cX8_most 30 = .ok (.bipush 9, 2) := by decide +kernel
theorem dX8_most_32 : decode cX8_most 32 = .ok (.if_icmp .gt 36, 3) := by decide +kernel
theorem dX8_most_35 : decode cX8_most 35 = .ok (.aload_n 0, 1) := by decide +kernel
theorem dX8_most_36 : decode cX8_most 36 = .ok (.getfield 12, 3) := by decide +kernel
theorem dX8_most_39 : decode cX8_most 39 = .ok (.getfield 134, 3) := by decide +kernel
theorem dX8_most_42 : decode cX8_most 42 = .ok (.iload 4, 2) := by decide +kernel
theorem dX8_most_44 : decode cX8_most 44 = .ok (.iload_n 1, 1) := by decide +kernel
theorem dX8_most_45 : decode cX8_most 45 = .ok (.invokevirtual 253, 3) := by decide +kernel
theorem dX8_most_48 : decode cX8_most 48 = .ok (.istore 5, 2) := by decide +kernel
theorem dX8_most_50 : decode cX8_most 50 = .ok (.iload 5, 2) := by decide +kernel
theorem dX8_most_52 : decode cX8_most 52 = .ok (.iload_n 3, 1) := by decide +kernel
theorem dX8_most_53 : decode cX8_most 53 = .ok (.if_icmp .le 9, 3) := by decide +kernel
theorem dX8_most_56 : decode cX8_most 56 = .ok (.iload 4, 2) := by decide +kernel
theorem dX8_most_58 : decode cX8_most 58 = .ok (.istore_n 2, 1) := by decide +kernel
theorem dX8_most_59 : decode cX8_most 59 = .ok (.iload 5, 2) := by decide +kernel
theorem dX8_most_61 : decode cX8_most 61 = .ok (.istore_n 3, 1) := by decide +kernel
theorem dX8_most_62 : decode cX8_most 62 = .ok (.iinc 4 1, 3) := by decide +kernel
theorem dX8_most_65 : decode cX8_most 65 = .ok (.goto (-37), 3) := by decide +kernel
theorem dX8_most_68 : decode cX8_most 68 = .ok (.iload_n 2, 1) := by decide +kernel
theorem dX8_most_69 : decode cX8_most 69 = .ok (.ifCond .ge 12, 3) := by decide +kernel
theorem dX8_most_72 : decode cX8_most 72 = .ok (.aload_n 0, 1) := by decide +kernel
theorem dX8_most_73 : decode cX8_most 73 = .ok (.ldc 133, 2) := by decide +kernel
theorem dX8_most_75 : decode cX8_most 75 = .ok (.invokevirtual 70, 3) := by decide +kernel
theorem dX8_most_78 : decode cX8_most 78 = .ok (.goto 4, 3) := by decide +kernel
theorem dX8_most_81 : decode cX8_most 81 = .ok (.iload_n 2, 1) := by decide +kernel
theorem dX8_most_82 : decode cX8_most 82 = .ok (.ireturn, 1) := by decide +kernel
theorem dX8_first_0 : decode cX8_first 0 = .ok (.iload_n 1, 1) := by decide +kernel
theorem dX8_first_1 : decode cX8_first 1 = .ok (.invokestatic 147, 3) := by decide +kernel
theorem dX8_first_4 : decode cX8_first 4 = .ok (.ifCond .ne 10, 3) := by decide +kernel
theorem dX8_first_7 : decode cX8_first 7 = .ok (.aload_n 0, 1) := by decide +kernel
theorem dX8_first_8 : decode cX8_first 8 = .ok (.ldc 69, 2) := by decide +kernel
theorem dX8_first_10 : decode cX8_first 10 = .ok (.invokevirtual 70, 3) := by decide +kernel
theorem dX8_first_13 : decode cX8_first 13 = .ok (.ireturn, 1) := by decide +kernel
theorem dX8_first_14 : decode cX8_first 14 = .ok (.aload_n 0, 1) := by decide +kernel
theorem dX8_first_15 : decode cX8_first 15 = .ok (.getfield 12, 3) := by decide +kernel
theorem dX8_first_18 : decode cX8_first 18 = .ok (.getfield 134, 3) := by decide +kernel
theorem dX8_first_21 : decode cX8_first 21 = .ok (.iload_n 1, 1) := by decide +kernel
theorem dX8_first_22 : decode cX8_first 22 = .ok (.invokevirtual 256, 3) := by decide +kernel
theorem dX8_first_25 : decode cX8_first 25 = .ok (.istore_n 2, 1) := by decide +kernel
theorem dX8_first_26 : decode cX8_first 26 = .ok (.iload_n 2, 1) := by decide +kernel
theorem dX8_first_27 : decode cX8_first 27 = .ok (.ifCond .ge 12, 3) := by decide +kernel
theorem dX8_first_30 : decode cX8_first 30 = .ok (.aload_n 0, 1) := by decide +kernel
theorem dX8_first_31 : decode cX8_first 31 = .ok (.ldc 133, 2) := by decide +kernel
theorem dX8_first_33 : decode cX8_first 33 = .ok (.invokevirtual 70, 3) := by decide +kernel
theorem dX8_first_36 : decode cX8_first 36 = .ok (.goto 4, 3) := by decide +kernel
theorem dX8_first_39 : decode cX8_first 39 = .ok (.iload_n 2, 1) := by decide +kernel
theorem dX8_first_40 : decode cX8_first 40 = .ok (.ireturn, 1) := by decide +kernel
theorem dX8_many_0 : decode cX8_many 0 = .ok (.aload_n 0, 1) := by decide +kernel
theorem dX8_many_1 : decode cX8_many 1 = .ok (.getfield 12, 3) := by decide +kernel
theorem dX8_many_4 : decode cX8_many 4 = .ok (.getfield 74, 3) := by decide +kernel
theorem dX8_many_7 : decode cX8_many 7 = .ok (.iload_n 1, 1) := by decide +kernel
theorem dX8_many_8 : decode cX8_many 8 = .ok (.invokevirtual 250, 3) := by decide +kernel
theorem dX8_many_11 : decode cX8_many 11 = .ok (.ifCond .eq 17, 3) := by decide +kernel
theorem dX8_many_14 : decode cX8_many 14 = .ok (.aload_n 0, 1) := by decide +kernel
theorem dX8_many_15 : decode cX8_many 15 = .ok (.getfield 12, 3) := by decide +kernel
theorem dX8_many_18 : decode cX8_many 18 = .ok (.getfield 74, 3) := by decide +kernel
theorem dX8_many_21 : decode cX8_many 21 = .ok (.iload_n 2, 1) := by decide +kernel
theorem dX8_many_22 : decode cX8_many 22 = .ok (.invokevirtual 250, 3) := by decide +kernel
theorem dX8_many_25 : decode cX8_many 25 = .ok (.ifCond .ne 10, 3) := by decide +kernel
theorem dX8_many_28 : decode cX8_many 28 = .ok (.aload_n 0, 1) := by decide +kernel
theorem dX8_many_29 : decode cX8_many 29 = .ok (.ldc 69, 2) := by decide +kernel
theorem dX8_many_31 : decode cX8_many 31 = .ok (.invokevirtual 70, 3) := by decide +kernel
theorem dX8_many_34 : decode cX8_many 34 = .ok (.ireturn, 1) := by decide +kernel
theorem dX8_many_35 : decode cX8_many 35 = .ok (.iload_n 1, 1) := by decide +kernel
theorem dX8_many_36 : decode cX8_many 36 = .ok (.iload_n 2, 1) := by decide +kernel
theorem dX8_many_37 : decode cX8_many 37 = .ok (.iand, 1) := by decide +kernel
theorem dX8_many_38 : decode cX8_many 38 = .ok (.invokestatic 117, 3) := by decide +kernel
theorem dX8_many_41 : decode cX8_many 41 = .ok (.istore_n 3, 1) := by decide +kernel
theorem dX8_many_42 : decode cX8_many 42 = .ok (.iload_n 3, 1) := by decide +kernel
theorem dX8_many_43 : decode cX8_many 43 = .ok (.ifCond .ne 10, 3) := by decide +kernel
theorem dX8_many_46 : decode cX8_many 46 = .ok (.aload_n 0, 1) := by decide +kernel
theorem dX8_many_47 : decode cX8_many 47 = .ok (.ldc 133, 2) := by decide +kernel
theorem dX8_many_49 : decode cX8_many 49 = .ok (.invokevirtual 70, 3) := by decide +kernel
theorem dX8_many_52 : decode cX8_many 52 = .ok (.ireturn, 1) := by decide +kernel
theorem dX8_many_53 : decode cX8_many 53 = .ok (.iload_n 1, 1) := by decide +kernel
theorem dX8_many_54 : decode cX8_many 54 = .ok (.invokestatic 117, 3) := by decide +kernel
theorem dX8_many_57 : decode cX8_many 57 = .ok (.iload_n 2, 1) := by decide +kernel
theorem dX8_many_58 : decode cX8_many 58 = .ok (.invokestatic 117, 3) := by decide +kernel
theorem dX8_many_61 : decode cX8_many 61 = .ok (.imul, 1) := by decide +kernel
theorem dX8_many_62 : decode cX8_many 62 = .ok (.iload_n 3, 1) := by decide +kernel
theorem dX8_many_63 : decode cX8_many 63 = .ok (.invokestatic 259, 3) := by decide +kernel
theorem dX8_many_66 : decode cX8_many 66 = .ok (.ireturn, 1) := by decide +kernel
theorem dX8_sold_0 : decode cX8_sold 0 = .ok (.aload_n 0, 1) := by decide +kernel
theorem dX8_sold_1 : decode cX8_sold 1 = .ok (.getfield 12, 3) := by decide +kernel
theorem dX8_sold_4 : decode cX8_sold 4 = .ok (.getfield 74, 3) := by decide +kernel
theorem dX8_sold_7 : decode cX8_sold 7 = .ok (.iload_n 1, 1) := by decide +kernel
theorem dX8_sold_8 : decode cX8_sold 8 = .ok (.invokevirtual 88, 3) := by decide +kernel
theorem dX8_sold_11 : decode cX8_sold 11 = .ok (.ifCond .ne 10, 3) := by decide +kernel
theorem dX8_sold_14 : decode cX8_sold 14 = .ok (.aload_n 0, 1) := by decide +kernel
theorem dX8_sold_15 : decode cX8_sold 15 = .ok (.ldc 69, 2) := by decide +kernel
theorem dX8_sold_17 : decode cX8_sold 17 = .ok (.invokevirtual 70, 3) := by decide +kernel
theorem dX8_sold_20 : decode cX8_sold 20 = .ok (.ireturn, 1) := by decide +kernel
theorem dX8_sold_21 : decode cX8_sold 21 = .ok (.aload_n 0, 1) := by decide +kernel
theorem dX8_sold_22 : decode cX8_sold 22 = .ok (.getfield 12, 3) := by decide +kernel
theorem dX8_sold_25 : decode cX8_sold 25 = .ok (.getfield 134, 3) := by decide +kernel
theorem dX8_sold_28 : decode cX8_sold 28 = .ok (.iload_n 1, 1) := by decide +kernel
theorem dX8_sold_29 : decode cX8_sold 29 = .ok (.invokevirtual 262, 3) := by decide +kernel
theorem dX8_sold_32 : decode cX8_sold 32 = .ok (.istore_n 2, 1) := by decide +kernel
theorem dX8_sold_33 : decode cX8_sold 33 = .ok (.iload_n 2, 1) := by decide +kernel
theorem dX8_sold_34 : decode cX8_sold 34 = .ok (.iconst 1, 1) := by decide +kernel
theorem dX8_sold_35 : decode cX8_sold 35 = .ok (.if_icmp .ge 12, 3) := by decide +kernel
theorem dX8_sold_38 : decode cX8_sold 38 = .ok (.aload_n 0, 1) := by decide +kernel
theorem dX8_sold_39 : decode cX8_sold 39 = .ok (.ldc 133, 2) := by decide +kernel
theorem dX8_sold_41 : decode cX8_sold 41 = .ok (.invokevirtual 70, 3) := by decide +kernel
theorem dX8_sold_44 : decode cX8_sold 44 = .ok (.goto 4, 3) := by decide +kernel
theorem dX8_sold_47 : decode cX8_sold 47 = .ok (.iload_n 2, 1) := by decide +kernel
theorem dX8_sold_48 : decode cX8_sold 48 = .ok (.ireturn, 1) := by decide +kernel
theorem dX8_seed_0 : decode cX8_seed 0 = .ok (.aload_n 0, 1) := by decide +kernel
theorem dX8_seed_1 : decode cX8_seed 1 = .ok (.getfield 12, 3) := by decide +kernel
theorem dX8_seed_4 : decode cX8_seed 4 = .ok (.getfield 265, 3) := by decide +kernel
theorem dX8_seed_7 : decode cX8_seed 7 = .ok (.istore_n 2, 1) := by decide +kernel
theorem dX8_seed_8 : decode cX8_seed 8 = .ok (.aload_n 0, 1) := by decide +kernel
theorem dX8_seed_9 : decode cX8_seed 9 = .ok (.getfield 12, 3) := by decide +kernel
theorem dX8_seed_12 : decode cX8_seed 12 = .ok (.iload_n 1, 1) := by decide +kernel
theorem dX8_seed_13 : decode cX8_seed 13 = .ok (.putfield 265, 3) := by decide +kernel
theorem dX8_seed_16 : decode cX8_seed 16 = .ok (.iload_n 2, 1) := by decide +kernel
theorem dX8_seed_17 : decode cX8_seed 17 = .ok (.ireturn, 1) := by decide +kernel
theorem dX8_sample_0 : decode cX8_sample 0 = .ok (.iload_n 1, 1) := by decide +kernel
theorem dX8_sample_1 : decode cX8_sample 1 = .ok (.iconst 1, 1) := by decide +kernel
theorem dX8_sample_2 : decode cX8_sample 2 = .ok (.bipush 99, 2) := by decide +kernel
theorem dX8_sample_4 : decode cX8_sample 4 = .ok (.invokestatic 65, 3) := by decide +kernel
theorem dX8_sample_7 : decode cX8_sample 7 = .ok (.ifCond .ne 10, 3) := by decide +kernel
theorem dX8_sample_10 : decode cX8_sample 10 = .ok (.aload_n 0, 1) := by decide +kernel
theorem dX8_sample_11 : decode cX8_sample 11 = .ok (.ldc 69, 2) := by decide +kernel
theorem dX8_sample_13 : decode cX8_sample 13 = .ok (.invokevirtual 70, 3) := by decide +kernel
theorem dX8_sample_16 : decode cX8_sample 16 = .ok (.ireturn, 1) := by decide +kernel
theorem dX8_sample_17 : decode cX8_sample 17 = .ok (.aload_n 0, 1) := by decide +kernel
theorem dX8_sample_18 : decode cX8_sample 18 = .ok (.getfield 12, 3) := by decide +kernel
theorem dX8_sample_21 : decode cX8_sample 21 = .ok (.getfield 74, 3) := by decide +kernel
theorem dX8_sample_24 : decode cX8_sample 24 = .ok (.getfield 78, 3) := by decide +kernel
theorem dX8_sample_27 : decode cX8_sample 27 = .ok (.ifCond .ne 10, 3) := by decide +kernel
theorem dX8_sample_30 : decode cX8_sample 30 = .ok (.aload_n 0, 1) := by decide +kernel
theorem dX8_sample_31 : decode cX8_sample 31 = .ok (.ldc 133, 2) := by decide +kernel
theorem dX8_sample_33 : decode cX8_sample 33 = .ok (.invokevirtual 70, 3) := by decide +kernel
theorem dX8_sample_36 : decode cX8_sample 36 = .ok (.ireturn, 1) := by decide +kernel
theorem dX8_sample_37 : decode cX8_sample 37 = .ok (.iconst 0, 1) := by decide +kernel
theorem dX8_sample_38 : decode cX8_sample 38 = .ok (.istore_n 2, 1) := by decide +kernel
theorem dX8_sample_39 : decode cX8_sample 39 = .ok (.iconst 0, 1) := by decide +kernel
theorem dX8_sample_40 : decode cX8_sample 40 = .ok (.istore_n 3, 1) := by decide +kernel
theorem dX8_sample_41 : decode cX8_sample 41 = .ok (.iload_n 3, 1) := by decide +kernel
theorem dX8_sample_42 : decode cX8_sample 42 = .ok (.iload_n 1, 1) := by decide +kernel
theorem dX8_sample_43 : decode cX8_sample 43 = .ok (.if_icmp .ge 50, 3) := by decide +kernel
theorem dX8_sample_46 : decode cX8_sample 46 = .ok (.aload_n 0, 1) := by decide +kernel
theorem dX8_sample_47 : decode cX8_sample 47 = .ok (.getfield 12, 3) := by decide +kernel
theorem dX8_sample_50 : decode cX8_sample 50 = .ok (.invokevirtual 268, 3) := by decide +kernel
theorem dX8_sample_53 : decode cX8_sample 53 = .ok (.aload_n 0, 1) := by decide +kernel
theorem dX8_sample_54 : decode cX8_sample 54 = .ok (.getfield 12, 3) := by decide +kernel
theorem dX8_sample_57 : decode cX8_sample 57 = .ok (.getfield 74, 3) := by decide +kernel
theorem dX8_sample_60 : decode cX8_sample 60 = .ok (.getfield 78, 3) := by decide +kernel
theorem dX8_sample_63 : decode cX8_sample 63 = .ok (.invokestatic 271, 3) := by decide +kernel
theorem dX8_sample_66 : decode cX8_sample 66 = .ok (.istore 4, 2) := by decide +kernel
theorem dX8_sample_68 : decode cX8_sample 68 = .ok (.aload_n 0, 1) := by decide +kernel
theorem dX8_sample_69 : decode cX8_sample 69 = .ok (.getfield 12, 3) := by decide +kernel
theorem dX8_sample_72 : decode cX8_sample 72 = .ok (.getfield 74, 3) := by decide +kernel
theorem dX8_sample_75 : decode cX8_sample 75 = .ok (.iload 4, 2) := by decide +kernel
theorem dX8_sample_77 : decode cX8_sample 77 = .ok (.iconst 1, 1) := by decide +kernel
theorem dX8_sample_78 : decode cX8_sample 78 = .ok (.invokevirtual 103, 3) := by decide +kernel
theorem dX8_sample_81 : decode cX8_sample 81 = .ok (.ifCond .ne 6, 3) := by decide +kernel
theorem dX8_sample_84 : decode cX8_sample 84 = .ok (.iinc 2 1, 3) := by decide +kernel
theorem dX8_sample_87 : decode cX8_sample 87 = .ok (.iinc 3 1, 3) := by decide +kernel
theorem dX8_sample_90 : decode cX8_sample 90 = .ok (.goto (-49), 3) := by decide +kernel
theorem dX8_sample_93 : decode cX8_sample 93 = .ok (.iload_n 2, 1) := by decide +kernel
theorem dX8_sample_94 : decode cX8_sample 94 = .ok (.ireturn, 1) := by decide +kernel
theorem dX8_hold_0 : decode cX8_hold 0 = .ok (.iload_n 1, 1) := by decide +kernel
theorem dX8_hold_1 : decode cX8_hold 1 = .ok (.invokestatic 274, 3) := by decide +kernel
theorem dX8_hold_4 : decode cX8_hold 4 = .ok (.ifCond .eq 22, 3) := by decide +kernel
theorem dX8_hold_7 : decode cX8_hold 7 = .ok (.iload_n 2, 1) := by decide +kernel
theorem dX8_hold_8 : decode cX8_hold 8 = .ok (.iconst (-1), 1) := by decide +kernel
theorem dX8_hold_9 : decode cX8_hold 9 = .ok (.if_icmp .eq 24, 3) := by decide +kernel
theorem dX8_hold_12 : decode cX8_hold 12 = .ok (.aload_n 0, 1) := by decide +kernel
theorem dX8_hold_13 : decode cX8_hold 13 = .ok (.getfield 12, 3) := by decide +kernel
theorem dX8_hold_16 : decode cX8_hold 16 = .ok (.getfield 74, 3) := by decide +kernel
theorem dX8_hold_19 : decode cX8_hold 19 = .ok (.iload_n 2, 1) := by decide +kernel
theorem dX8_hold_20 : decode cX8_hold 20 = .ok (.invokevirtual 88, 3) := by decide +kernel
theorem dX8_hold_23 : decode cX8_hold 23 = .ok (.ifCond .ne 10, 3) := by decide +kernel
theorem dX8_hold_26 : decode cX8_hold 26 = .ok (.aload_n 0, 1) := by decide +kernel
theorem dX8_hold_27 : decode cX8_hold 27 = .ok (.ldc 69, 2) := by decide +kernel
theorem dX8_hold_29 : decode cX8_hold 29 = .ok (.invokevirtual 70, 3) := by decide +kernel
theorem dX8_hold_32 : decode cX8_hold 32 = .ok (.ireturn, 1) := by decide +kernel
theorem dX8_hold_33 : decode cX8_hold 33 = .ok (.aload_n 0, 1) := by decide +kernel
theorem dX8_hold_34 : decode cX8_hold 34 = .ok (.getfield 12, 3) := by decide +kernel
theorem dX8_hold_37 : decode cX8_hold 37 = .ok (.getfield 277, 3) := by decide +kernel
theorem dX8_hold_40 : decode cX8_hold 40 = .ok (.iload_n 1, 1) := by decide +kernel
theorem dX8_hold_41 : decode cX8_hold 41 = .ok (.iload_n 2, 1) := by decide +kernel
theorem dX8_hold_42 : decode cX8_hold 42 = .ok (.iastore, 1) := by decide +kernel
theorem dX8_hold_43 : decode cX8_hold 43 = .ok (.iconst 1, 1) := by decide +kernel
theorem dX8_hold_44 : decode cX8_hold 44 = .ok (.ireturn, 1) := by decide +kernel
theorem dX8_as_0 : decode cX8_as 0 = .ok (.iload_n 1, 1) := by decide +kernel
theorem dX8_as_1 : decode cX8_as 1 = .ok (.invokestatic 274, 3) := by decide +kernel
theorem dX8_as_4 : decode cX8_as 4 = .ok (.ifCond .eq 13, 3) := by decide +kernel
theorem dX8_as_7 : decode cX8_as 7 = .ok (.iload_n 2, 1) := by decide +kernel
theorem dX8_as_8 : decode cX8_as 8 = .ok (.iconst 0, 1) := by decide +kernel
theorem dX8_as_9 : decode cX8_as 9 = .ok (.bipush 7, 2) := by decide +kernel
theorem dX8_as_11 : decode cX8_as 11 = .ok (.invokestatic 65, 3) := by decide +kernel
theorem dX8_as_14 : decode cX8_as 14 = .ok (.ifCond .ne 10, 3) := by decide +kernel
theorem dX8_as_17 : decode cX8_as 17 = .ok (.aload_n 0, 1) := by decide +kernel
theorem dX8_as_18 : decode cX8_as 18 = .ok (.ldc 69, 2) := by decide +kernel
theorem dX8_as_20 : decode cX8_as 20 = .ok (.invokevirtual 70, 3) := by decide +kernel
theorem dX8_as_23 : decode cX8_as 23 = .ok (.ireturn, 1) := by decide +kernel
theorem dX8_as_24 : decode cX8_as 24 = .ok (.aload_n 0, 1) := by decide +kernel
theorem dX8_as_25 : decode cX8_as 25 = .ok (.getfield 12, 3) := by decide +kernel
theorem dX8_as_28 : decode cX8_as 28 = .ok (.getfield 277, 3) := by decide +kernel
theorem dX8_as_31 : decode cX8_as 31 = .ok (.iload_n 1, 1) := by decide +kernel
theorem dX8_as_32 : decode cX8_as 32 = .ok (.iaload, 1) := by decide +kernel
theorem dX8_as_33 : decode cX8_as 33 = .ok (.istore_n 3, 1) := by decide +kernel
theorem dX8_as_34 : decode cX8_as 34 = .ok (.iload_n 3, 1) := by decide +kernel
theorem dX8_as_35 : decode cX8_as 35 = .ok (.ifCond .ge 11, 3) := by decide +kernel
theorem dX8_as_38 : decode cX8_as 38 = .ok (.aload_n 0, 1) := by decide +kernel
theorem dX8_as_39 : decode cX8_as 39 = .ok (.ldc_w 280, 3) := by decide +kernel
theorem dX8_as_42 : decode cX8_as 42 = .ok (.invokevirtual 70, 3) := by decide +kernel
theorem dX8_as_45 : decode cX8_as 45 = .ok (.ireturn, 1) := by decide +kernel
theorem dX8_as_46 : decode cX8_as 46 = .ok (.aload_n 0, 1) := by decide +kernel
theorem dX8_as_47 : decode cX8_as 47 = .ok (.getfield 12, 3) := by decide +kernel
theorem dX8_as_50 : decode cX8_as 50 = .ok (.getfield 74, 3) := by decide +kernel
theorem dX8_as_53 : decode cX8_as 53 = .ok (.iload_n 3, 1) := by decide +kernel
theorem dX8_as_54 : decode cX8_as 54 = .ok (.iload_n 2, 1) := by decide +kernel
theorem dX8_as_55 : decode cX8_as 55 = .ok (.invokevirtual 103, 3) := by decide +kernel
theorem dX8_as_58 : decode cX8_as 58 = .ok (.ifCond .eq 7, 3) := by decide +kernel
theorem dX8_as_61 : decode cX8_as 61 = .ok (.iload_n 3, 1) := by decide +kernel
theorem dX8_as_62 : decode cX8_as 62 = .ok (.goto 10, 3) := by decide +kernel
theorem dX8_as_65 : decode cX8_as 65 = .ok (.aload_n 0, 1) := by decide +kernel
theorem dX8_as_66 : decode cX8_as 66 = .ok (.ldc_w 281, 3) := by decide +kernel
theorem dX8_as_69 : decode cX8_as 69 = .ok (.invokevirtual 70, 3) := by decide +kernel
theorem dX8_as_72 : decode cX8_as 72 = .ok (.ireturn, 1) := by decide +kernel
theorem dX8_sheet_0 : decode cX8_sheet 0 = .ok (.iload_n 2, 1) := by decide +kernel
theorem dX8_sheet_1 : decode cX8_sheet 1 = .ok (.ifCond .eq 21, 3) := by decide +kernel
theorem dX8_sheet_4 : decode cX8_sheet 4 = .ok (.iload_n 2, 1) := by decide +kernel
theorem dX8_sheet_5 : decode cX8_sheet 5 = .ok (.bipush 8, 2) := by decide +kernel
theorem dX8_sheet_7 : decode cX8_sheet 7 = .ok (.if_icmp .eq 15, 3) := by decide +kernel
theorem dX8_sheet_10 : decode cX8_sheet 10 = .ok (.iload_n 2, 1) := by decide +kernel
theorem dX8_sheet_11 : decode cX8_sheet 11 = .ok (.bipush 16, 2) := by decide +kernel
theorem dX8_sheet_13 : decode cX8_sheet 13 = .ok (.if_icmp .eq 9, 3) := by decide +kernel
theorem dX8_sheet_16 : decode cX8_sheet 16 = .ok (.iload_n 2, 1) := by decide +kernel
theorem dX8_sheet_17 : decode cX8_sheet 17 = .ok (.bipush 32, 2) := by decide +kernel
theorem dX8_sheet_19 : decode cX8_sheet 19 = .ok (.if_icmp .ne 7, 3) := by decide +kernel
theorem dX8_sheet_22 : decode cX8_sheet 22 = .ok (.iconst 1, 1) := by decide +kernel
theorem dX8_sheet_23 : decode cX8_sheet 23 = .ok (.goto 4, 3) := by decide +kernel
theorem dX8_sheet_26 : decode cX8_sheet 26 = .ok (.iconst 0, 1) := by decide +kernel
theorem dX8_sheet_27 : decode cX8_sheet 27 = .ok (.istore 4, 2) := by decide +kernel
theorem dX8_sheet_29 : decode cX8_sheet 29 = .ok (.iload_n 1, 1) := by decide +kernel
theorem dX8_sheet_30 : decode cX8_sheet 30 = .ok (.invokestatic 282, 3) := by decide +kernel
theorem dX8_sheet_33 : decode cX8_sheet 33 = .ok (.ifCond .eq 8, 3) := by decide +kernel
theorem dX8_sheet_36 : decode cX8_sheet 36 = .ok (.iload 4, 2) := by decide +kernel
theorem dX8_sheet_38 : decode cX8_sheet 38 = .ok (.ifCond .ne 10, 3) := by decide +kernel
theorem dX8_sheet_41 : decode cX8_sheet 41 = .ok (.aload_n 0, 1) := by decide +kernel
theorem dX8_sheet_42 : decode cX8_sheet 42 = .ok (.ldc 69, 2) := by decide +kernel
theorem dX8_sheet_44 : decode cX8_sheet 44 = .ok (.invokevirtual 70, 3) := by decide +kernel
theorem dX8_sheet_47 : decode cX8_sheet 47 = .ok (.ireturn, 1) := by decide +kernel
theorem dX8_sheet_48 : decode cX8_sheet 48 = .ok (.iload_n 3, 1) := by decide +kernel
theorem dX8_sheet_49 : decode cX8_sheet 49 = .ok (.ifCond .ge 11, 3) := by decide +kernel
theorem dX8_sheet_52 : decode cX8_sheet 52 = .ok (.aload_n 0, 1) := by decide +kernel
theorem dX8_sheet_53 : decode cX8_sheet 53 = .ok (.ldc_w 285, 3) := by decide +kernel
theorem dX8_sheet_56 : decode cX8_sheet 56 = .ok (.invokevirtual 70, 3) := by decide +kernel
theorem dX8_sheet_59 : decode cX8_sheet 59 = .ok (.ireturn, 1) := by decide +kernel
theorem dX8_sheet_60 : decode cX8_sheet 60 = .ok (.iload_n 3, 1) := by decide +kernel
theorem dX8_sheet_61 : decode cX8_sheet 61 = .ok (.bipush 40, 2) := by decide +kernel
theorem dX8_sheet_63 : decode cX8_sheet 63 = .ok (.if_icmp .le 10, 3) := by decide +kernel
theorem dX8_sheet_66 : decode cX8_sheet 66 = .ok (.aload_n 0, 1) := by decide +kernel
theorem dX8_sheet_67 : decode cX8_sheet 67 = .ok (.ldc 69, 2) := by decide +kernel
theorem dX8_sheet_69 : decode cX8_sheet 69 = .ok (.invokevirtual 70, 3) := by decide +kernel
theorem dX8_sheet_72 : decode cX8_sheet 72 = .ok (.ireturn, 1) := by decide +kernel
theorem dX8_sheet_73 : decode cX8_sheet 73 = .ok (.aload_n 0, 1) := by decide +kernel
theorem dX8_sheet_74 : decode cX8_sheet 74 = .ok (.getfield 33, 3) := by decide +kernel
theorem dX8_sheet_77 : decode cX8_sheet 77 = .ok (.iload_n 1, 1) := by decide +kernel
theorem dX8_sheet_78 : decode cX8_sheet 78 = .ok (.aaload, 1) := by decide +kernel
theorem dX8_sheet_79 : decode cX8_sheet 79 = .ok (.iload_n 2, 1) := by decide +kernel
theorem dX8_sheet_80 : decode cX8_sheet 80 = .ok (.iload_n 3, 1) := by decide +kernel
theorem dX8_sheet_81 : decode cX8_sheet 81 = .ok (.invokevirtual 286, 3) := by decide +kernel
theorem dX8_sheet_84 : decode cX8_sheet 84 = .ok (.aload_n 0, 1) := by decide +kernel
theorem dX8_sheet_85 : decode cX8_sheet 85 = .ok (.getfield 33, 3) := by decide +kernel
theorem dX8_sheet_88 : decode cX8_sheet 88 = .ok (.iload_n 1, 1) := by decide +kernel
theorem dX8_sheet_89 : decode cX8_sheet 89 = .ok (.aaload, 1) := by decide +kernel
theorem dX8_sheet_90 : decode cX8_sheet 90 = .ok (.getfield 290, 3) := by decide +kernel
theorem dX8_sheet_93 : decode cX8_sheet 93 = .ok (.ireturn, 1) := by decide +kernel
theorem dX8_write_0 : decode cX8_write 0 = .ok (.iload_n 1, 1) := by decide +kernel
theorem dX8_write_1 : decode cX8_write 1 = .ok (.invokestatic 282, 3) := by decide +kernel
theorem dX8_write_4 : decode cX8_write 4 = .ok (.ifCond .ne 10, 3) := by decide +kernel
theorem dX8_write_7 : decode cX8_write 7 = .ok (.aload_n 0, 1) := by decide +kernel
theorem dX8_write_8 : decode cX8_write 8 = .ok (.ldc 69, 2) := by decide +kernel
theorem dX8_write_10 : decode cX8_write 10 = .ok (.invokevirtual 70, 3) := by decide +kernel
theorem dX8_write_13 : decode cX8_write 13 = .ok (.ireturn, 1) := by decide +kernel
theorem dX8_write_14 : decode cX8_write 14 = .ok (.aload_n 0, 1) := by decide +kernel
theorem dX8_write_15 : decode cX8_write 15 = .ok (.getfield 33, 3) := by decide +kernel
theorem dX8_write_18 : decode cX8_write 18 = .ok (.iload_n 1, 1) := by decide +kernel
theorem dX8_write_19 : decode cX8_write 19 = .ok (.aaload, 1) := by decide +kernel
theorem dX8_write_20 : decode cX8_write 20 = .ok (.astore 4, 2) := by decide +kernel
theorem dX8_write_22 : decode cX8_write 22 = .ok (.aload 4, 2) := by decide +kernel
theorem dX8_write_24 : decode cX8_write 24 = .ok (.invokevirtual 291, 3) := by decide +kernel
theorem dX8_write_27 : decode cX8_write 27 = .ok (.ifCond .eq 11, 3) := by decide +kernel
theorem dX8_write_30 : decode cX8_write 30 = .ok (.aload_n 0, 1) := by decide +kernel
theorem dX8_write_31 : decode cX8_write 31 = .ok (.ldc_w 280, 3) := by decide +kernel
theorem dX8_write_34 : decode cX8_write 34 = .ok (.invokevirtual 70, 3) := by decide +kernel
theorem dX8_write_37 : decode cX8_write 37 = .ok (.ireturn, 1) := by decide +kernel
theorem dX8_write_38 : decode cX8_write 38 = .ok (.iload_n 2, 1) := by decide +kernel
theorem dX8_write_39 : decode cX8_write 39 = .ok (.iconst 0, 1) := by decide +kernel
theorem dX8_write_40 : decode cX8_write 40 = .ok (.aload 4, 2) := by decide +kernel
theorem dX8_write_42 : decode cX8_write 42 = .ok (.getfield 290, 3) := by decide +kernel
theorem dX8_write_45 : decode cX8_write 45 = .ok (.iconst 1, 1) := by decide +kernel
theorem dX8_write_46 : decode cX8_write 46 = .ok (.isub, 1) := by decide +kernel
theorem dX8_write_47 : decode cX8_write 47 = .ok (.invokestatic 65, 3) := by decide +kernel
theorem dX8_write_50 : decode cX8_write 50 = .ok (.ifCond .ne 10, 3) := by decide +kernel
theorem dX8_write_53 : decode cX8_write 53 = .ok (.aload_n 0, 1) := by decide +kernel
theorem dX8_write_54 : decode cX8_write 54 = .ok (.ldc 69, 2) := by decide +kernel
theorem dX8_write_56 : decode cX8_write 56 = .ok (.invokevirtual 70, 3) := by decide +kernel
theorem dX8_write_59 : decode cX8_write 59 = .ok (.ireturn, 1) := by decide +kernel
theorem dX8_write_60 : decode cX8_write 60 = .ok (.aload 4, 2) := by decide +kernel
theorem dX8_write_62 : decode cX8_write 62 = .ok (.iload_n 2, 1) := by decide +kernel
theorem dX8_write_63 : decode cX8_write 63 = .ok (.iload_n 3, 1) := by decide +kernel
theorem dX8_write_64 : decode cX8_write 64 = .ok (.invokevirtual 294, 3) := by decide +kernel
theorem dX8_write_67 : decode cX8_write 67 = .ok (.iconst 1, 1) := by decide +kernel
theorem dX8_write_68 : decode cX8_write 68 = .ok (.ireturn, 1) := by decide +kernel
theorem dX8_copy_0 : decode cX8_copy 0 = .ok (.iload_n 1, 1) := by decide +kernel
theorem dX8_copy_1 : decode cX8_copy 1 = .ok (.invokestatic 282, 3) := by decide +kernel
theorem dX8_copy_4 : decode cX8_copy 4 = .ok (.ifCond .eq 10, 3) := by decide +kernel
theorem dX8_copy_7 : decode cX8_copy 7 = .ok (.iload_n 3, 1) := by decide +kernel
theorem dX8_copy_8 : decode cX8_copy 8 = .ok (.invokestatic 282, 3) := by decide +kernel
theorem dX8_copy_11 : decode cX8_copy 11 = .ok (.ifCond .ne 10, 3) := by decide +kernel
theorem dX8_copy_14 : decode cX8_copy 14 = .ok (.aload_n 0, 1) := by decide +kernel
theorem dX8_copy_15 : decode cX8_copy 15 = .ok (.ldc 69, 2) := by decide +kernel
theorem dX8_copy_17 : decode cX8_copy 17 = .ok (.invokevirtual 70, 3) := by decide +kernel
theorem dX8_copy_20 : decode cX8_copy 20 = .ok (.ireturn, 1) := by decide +kernel
theorem dX8_copy_21 : decode cX8_copy 21 = .ok (.aload_n 0, 1) := by decide +kernel
theorem dX8_copy_22 : decode cX8_copy 22 = .ok (.getfield 33, 3) := by decide +kernel
theorem dX8_copy_25 : decode cX8_copy 25 = .ok (.iload_n 1, 1) := by decide +kernel
theorem dX8_copy_26 : decode cX8_copy 26 = .ok (.aaload, 1) := by decide +kernel
theorem dX8_copy_27 : decode cX8_copy 27 = .ok (.astore 6, 2) := by decide +kernel
theorem dX8_copy_29 : decode cX8_copy 29 = .ok (.aload_n 0, 1) := by decide +kernel
theorem dX8_copy_30 : decode cX8_copy 30 = .ok (.getfield 33, 3) := by decide +kernel
theorem dX8_copy_33 : decode cX8_copy 33 = .ok (.iload_n 3, 1) := by decide +kernel
theorem dX8_copy_34 : decode cX8_copy 34 = .ok (.aaload, 1) := by decide +kernel
theorem dX8_copy_35 : decode cX8_copy 35 = .ok (.astore 7, 2) := by decide +kernel
theorem dX8_copy_37 : decode cX8_copy 37 = .ok (.aload 6, 2) := by decide +kernel
theorem dX8_copy_39 : decode cX8_copy 39 = .ok (.invokevirtual 291, 3) := by decide +kernel
theorem dX8_copy_42 : decode cX8_copy 42 = .ok (.ifCond .ne 11, 3) := by decide +kernel
theorem dX8_copy_45 : decode cX8_copy 45 = .ok (.aload 7, 2) := by decide +kernel
theorem dX8_copy_47 : decode cX8_copy 47 = .ok (.invokevirtual 291, 3) := by decide +kernel
theorem dX8_copy_50 : decode cX8_copy 50 = .ok (.ifCond .eq 11, 3) := by decide +kernel
theorem dX8_copy_53 : decode cX8_copy 53 = .ok (.aload_n 0, 1) := by decide +kernel
theorem dX8_copy_54 : decode cX8_copy 54 = .ok (.ldc_w 280, 3) := by decide +kernel
theorem dX8_copy_57 : decode cX8_copy 57 = .ok (.invokevirtual 70, 3) := by decide +kernel
theorem dX8_copy_60 : decode cX8_copy 60 = .ok (.ireturn, 1) := by decide +kernel
theorem dX8_copy_61 : decode cX8_copy 61 = .ok (.aload 6, 2) := by decide +kernel
theorem dX8_copy_63 : decode cX8_copy 63 = .ok (.getfield 297, 3) := by decide +kernel
theorem dX8_copy_66 : decode cX8_copy 66 = .ok (.aload 7, 2) := by decide +kernel
theorem dX8_copy_68 : decode cX8_copy 68 = .ok (.getfield 297, 3) := by decide +kernel
theorem dX8_copy_71 : decode cX8_copy 71 = .ok (.if_icmp .eq 11, 3) := by decide +kernel
theorem dX8_copy_74 : decode cX8_copy 74 = .ok (.aload_n 0, 1) := by decide +kernel
theorem dX8_copy_75 : decode cX8_copy 75 = .ok (.ldc_w 281, 3) := by decide +kernel
theorem dX8_copy_78 : decode cX8_copy 78 = .ok (.invokevirtual 70, 3) := by decide +kernel
theorem dX8_copy_81 : decode cX8_copy 81 = .ok (.ireturn, 1) := by decide +kernel
theorem dX8_copy_82 : decode cX8_copy 82 = .ok (.aload 6, 2) := by decide +kernel
theorem dX8_copy_84 : decode cX8_copy 84 = .ok (.iload_n 2, 1) := by decide +kernel
theorem dX8_copy_85 : decode cX8_copy 85 = .ok (.iload 5, 2) := by decide +kernel
theorem dX8_copy_87 : decode cX8_copy 87 = .ok (.invokevirtual 300, 3) := by decide +kernel
theorem dX8_copy_90 : decode cX8_copy 90 = .ok (.ifCond .eq 15, 3) := by decide +kernel
theorem dX8_copy_93 : decode cX8_copy 93 = .ok (.aload 7, 2) := by decide +kernel
theorem dX8_copy_95 : decode cX8_copy 95 = .ok (.iload 4, 2) := by decide +kernel
theorem dX8_copy_97 : decode cX8_copy 97 = .ok (.iload 5, 2) := by decide +kernel
theorem dX8_copy_99 : decode cX8_copy 99 = .ok (.invokevirtual 300, 3) := by decide +kernel
theorem dX8_copy_102 : decode cX8_copy 102 = .ok (.ifCond .ne 10, 3) := by decide +kernel
theorem dX8_copy_105 : decode cX8_copy 105 = .ok (.aload_n 0, 1) := by decide +kernel
theorem dX8_copy_106 : decode cX8_copy 106 = .ok (.ldc 69, 2) := by decide +kernel
theorem dX8_copy_108 : decode cX8_copy 108 = .ok (.invokevirtual 70, 3) := by decide +kernel
theorem dX8_copy_111 : decode cX8_copy 111 = .ok (.ireturn, 1) := by decide +kernel
theorem dX8_copy_112 : decode cX8_copy 112 = .ok (.aload 6, 2) := by decide +kernel
theorem dX8_copy_114 : decode cX8_copy 114 = .ok (.getfield 303, 3) := by decide +kernel
theorem dX8_copy_117 : decode cX8_copy 117 = .ok (.iload_n 2, 1) := by decide +kernel
theorem dX8_copy_118 : decode cX8_copy 118 = .ok (.aload 7, 2) := by decide +kernel
theorem dX8_copy_120 : decode cX8_copy 120 = .ok (.getfield 303, 3) := by decide +kernel
theorem dX8_copy_123 : decode cX8_copy 123 = .ok (.iload 4, 2) := by decide +kernel
theorem dX8_copy_125 : decode cX8_copy 125 = .ok (.iload 5, 2) := by decide +kernel
theorem dX8_copy_127 : decode cX8_copy 127 = .ok (.invokestatic 306, 3) := by decide +kernel
theorem dX8_copy_130 : decode cX8_copy 130 = .ok (.iload 5, 2) := by decide +kernel
theorem dX8_copy_132 : decode cX8_copy 132 = .ok (.ireturn, 1) := by decide +kernel
theorem dX8_load_0 : decode cX8_load 0 = .ok (.iload_n 1, 1) := by decide +kernel
theorem dX8_load_1 : decode cX8_load 1 = .ok (.invokestatic 282, 3) := by decide +kernel
theorem dX8_load_4 : decode cX8_load 4 = .ok (.ifCond .ne 10, 3) := by decide +kernel
theorem dX8_load_7 : decode cX8_load 7 = .ok (.aload_n 0, 1) := by decide +kernel
theorem dX8_load_8 : decode cX8_load 8 = .ok (.ldc 69, 2) := by decide +kernel
theorem dX8_load_10 : decode cX8_load 10 = .ok (.invokevirtual 70, 3) := by decide +kernel
theorem dX8_load_13 : decode cX8_load 13 = .ok (.ireturn, 1) := by decide +kernel
theorem dX8_load_14 : decode cX8_load 14 = .ok (.aload_n 0, 1) := by decide +kernel
theorem dX8_load_15 : decode cX8_load 15 = .ok (.getfield 33, 3) := by decide +kernel
theorem dX8_load_18 : decode cX8_load 18 = .ok (.iload_n 1, 1) := by decide +kernel
theorem dX8_load_19 : decode cX8_load 19 = .ok (.aaload, 1) := by decide +kernel
theorem dX8_load_20 : decode cX8_load 20 = .ok (.astore_n 2, 1) := by decide +kernel
theorem dX8_load_21 : decode cX8_load 21 = .ok (.aload_n 2, 1) := by decide +kernel
theorem dX8_load_22 : decode cX8_load 22 = .ok (.invokevirtual 291, 3) := by decide +kernel
theorem dX8_load_25 : decode cX8_load 25 = .ok (.ifCond .eq 11, 3) := by decide +kernel
theorem dX8_load_28 : decode cX8_load 28 = .ok (.aload_n 0, 1) := by decide +kernel
theorem dX8_load_29 : decode cX8_load 29 = .ok (.ldc_w 280, 3) := by decide +kernel
theorem dX8_load_32 : decode cX8_load 32 = .ok (.invokevirtual 70, 3) := by decide +kernel
theorem dX8_load_35 : decode cX8_load 35 = .ok (.ireturn, 1) := by decide +kernel
theorem dX8_load_36 : decode cX8_load 36 = .ok (.iconst 0, 1) := by decide +kernel
theorem dX8_load_37 : decode cX8_load 37 = .ok (.istore_n 3, 1) := by decide +kernel
theorem dX8_load_38 : decode cX8_load 38 = .ok (.iconst 0, 1) := by decide +kernel
theorem dX8_load_39 : decode cX8_load 39 = .ok (.istore 4, 2) := by decide +kernel
theorem dX8_load_41 : decode cX8_load 41 = .ok (.iload 4, 2) := by decide +kernel
theorem dX8_load_43 : decode cX8_load 43 = .ok (.iconst 1, 1) := by decide +kernel
theorem dX8_load_44 : decode cX8_load 44 = .ok (.iadd, 1) := by decide +kernel
theorem dX8_load_45 : decode cX8_load 45 = .ok (.aload_n 2, 1) := by decide +kernel
theorem dX8_load_46 : decode cX8_load 46 = .ok (.getfield 290, 3) := by decide +kernel
theorem dX8_load_49 : decode cX8_load 49 = .ok (.if_icmp .ge 86, 3) := by decide +kernel
theorem dX8_load_52 : decode cX8_load 52 = .ok (.aload_n 2, 1) := by decide +kernel
theorem dX8_load_53 : decode cX8_load 53 = .ok (.getfield 303, 3) := by decide +kernel
theorem dX8_load_56 : decode cX8_load 56 = .ok (.iload 4, 2) := by decide +kernel
theorem dX8_load_58 : decode cX8_load 58 = .ok (.iaload, 1) := by decide +kernel
theorem dX8_load_59 : decode cX8_load 59 = .ok (.istore 5, 2) := by decide +kernel
theorem dX8_load_61 : decode cX8_load 61 = .ok (.aload_n 2, 1) := by decide +kernel
theorem dX8_load_62 : decode cX8_load 62 = .ok (.getfield 303, 3) := by decide +kernel
theorem dX8_load_65 : decode cX8_load 65 = .ok (.iload 4, 2) := by decide +kernel
theorem dX8_load_67 : decode cX8_load 67 = .ok (.iconst 1, 1) := by decide +kernel
theorem dX8_load_68 : decode cX8_load 68 = .ok (.iadd, 1) := by decide +kernel
theorem dX8_load_69 : decode cX8_load 69 = .ok (.iaload, 1) := by decide +kernel
theorem dX8_load_70 : decode cX8_load 70 = .ok (.istore 6, 2) := by decide +kernel
theorem dX8_load_72 : decode cX8_load 72 = .ok (.aload_n 0, 1) := by decide +kernel
theorem dX8_load_73 : decode cX8_load 73 = .ok (.getfield 12, 3) := by decide +kernel
theorem dX8_load_76 : decode cX8_load 76 = .ok (.getfield 74, 3) := by decide +kernel
theorem dX8_load_79 : decode cX8_load 79 = .ok (.iload 5, 2) := by decide +kernel
theorem dX8_load_81 : decode cX8_load 81 = .ok (.invokevirtual 88, 3) := by decide +kernel
theorem dX8_load_84 : decode cX8_load 84 = .ok (.ifCond .eq 51, 3) := by decide +kernel
theorem dX8_load_87 : decode cX8_load 87 = .ok (.iload 6, 2) := by decide +kernel
theorem dX8_load_89 : decode cX8_load 89 = .ok (.invokestatic 147, 3) := by decide +kernel
theorem dX8_load_92 : decode cX8_load 92 = .ok (.ifCond .eq 43, 3) := by decide +kernel
theorem dX8_load_95 : decode cX8_load 95 = .ok (.aload_n 0, 1) := by decide +kernel
theorem dX8_load_96 : decode cX8_load 96 = .ok (.getfield 12, 3) := by decide +kernel
theorem dX8_load_99 : decode cX8_load 99 = .ok (.getfield 134, 3) := by decide +kernel
theorem dX8_load_102 : decode cX8_load 102 = .ok (.invokevirtual 150, 3) := by decide +kernel
theorem dX8_load_105 : decode cX8_load 105 = .ok (.ifCond .eq 6, 3) := by decide +kernel
theorem dX8_load_108 : decode cX8_load 108 = .ok (.goto 27, 3) := by decide +kernel
theorem dX8_load_111 : decode cX8_load 111 = .ok (.aload_n 0, 1) := by decide +kernel
theorem dX8_load_112 : decode cX8_load 112 = .ok (.getfield 12, 3) := by decide +kernel
theorem dX8_load_115 : decode cX8_load 115 = .ok (.getfield 134, 3) := by decide +kernel
theorem dX8_load_118 : decode cX8_load 118 = .ok (.iload 5, 2) := by decide +kernel
theorem dX8_load_120 : decode cX8_load 120 = .ok (.iload 6, 2) := by decide +kernel
theorem dX8_load_122 : decode cX8_load 122 = .ok (.invokevirtual 154, 3) := by decide +kernel
theorem dX8_load_125 : decode cX8_load 125 = .ok (.pop, 1) := by decide +kernel
theorem dX8_load_126 : decode cX8_load 126 = .ok (.iinc 3 1, 3) := by decide +kernel
theorem dX8_load_129 : decode cX8_load 129 = .ok (.iinc 4 2, 3) := by decide +kernel
theorem dX8_load_132 : decode cX8_load 132 = .ok (.goto (-91), 3) := by decide +kernel
theorem dX8_load_135 : decode cX8_load 135 = .ok (.iload_n 3, 1) := by decide +kernel
theorem dX8_load_136 : decode cX8_load 136 = .ok (.ireturn, 1) := by decide +kernel
theorem dX8_judge_0 : decode cX8_judge 0 = .ok (.iload_n 1, 1) := by decide +kernel
theorem dX8_judge_1 : decode cX8_judge 1 = .ok (.invokestatic 282, 3) := by decide +kernel
theorem dX8_judge_4 : decode cX8_judge 4 = .ok (.ifCond .ne 10, 3) := by decide +kernel
theorem dX8_judge_7 : decode cX8_judge 7 = .ok (.aload_n 0, 1) := by decide +kernel
theorem dX8_judge_8 : decode cX8_judge 8 = .ok (.ldc 69, 2) := by decide +kernel
theorem dX8_judge_10 : decode cX8_judge 10 = .ok (.invokevirtual 70, 3) := by decide +kernel
theorem dX8_judge_13 : decode cX8_judge 13 = .ok (.ireturn, 1) := by decide +kernel
theorem dX8_judge_14 : decode cX8_judge 14 = .ok (.aload_n 0, 1) := by decide +kernel
theorem dX8_judge_15 : decode cX8_judge 15 = .ok (.getfield 33, 3) := by decide +kernel
theorem dX8_judge_18 : decode cX8_judge 18 = .ok (.iload_n 1, 1) := by decide +kernel
theorem dX8_judge_19 : decode cX8_judge 19 = .ok (.aaload, 1) := by decide +kernel
theorem dX8_judge_20 : decode cX8_judge 20 = .ok (.astore_n 2, 1) := by decide +kernel
theorem dX8_judge_21 : decode cX8_judge 21 = .ok (.aload_n 2, 1) := by decide +kernel
theorem dX8_judge_22 : decode cX8_judge 22 = .ok (.invokevirtual 291, 3) := by decide +kernel
theorem dX8_judge_25 : decode cX8_judge 25 = .ok (.ifCond .eq 11, 3) := by decide +kernel
theorem dX8_judge_28 : decode cX8_judge 28 = .ok (.aload_n 0, 1) := by decide +kernel
theorem dX8_judge_29 : decode cX8_judge 29 = .ok (.ldc_w 280, 3) := by decide +kernel
theorem dX8_judge_32 : decode cX8_judge 32 = .ok (.invokevirtual 70, 3) := by decide +kernel
theorem dX8_judge_35 : decode cX8_judge 35 = .ok (.ireturn, 1) := by decide +kernel
theorem dX8_judge_36 : decode cX8_judge 36 = .ok (.aload_n 0, 1) := by decide +kernel
theorem dX8_judge_37 : decode cX8_judge 37 = .ok (.getfield 12, 3) := by decide +kernel
theorem dX8_judge_40 : decode cX8_judge 40 = .ok (.getfield 134, 3) := by decide +kernel
theorem dX8_judge_43 : decode cX8_judge 43 = .ok (.astore_n 3, 1) := by decide +kernel
theorem dX8_judge_44 : decode cX8_judge 44 = .ok (.aload_n 2, 1) := by decide +kernel
theorem dX8_judge_45 : decode cX8_judge 45 = .ok (.getfield 290, 3) := by decide +kernel
theorem dX8_judge_48 : decode cX8_judge 48 = .ok (.aload_n 3, 1) := by decide +kernel
theorem dX8_judge_49 : decode cX8_judge 49 = .ok (.getfield 312, 3) := by decide +kernel
theorem dX8_judge_52 : decode cX8_judge 52 = .ok (.invokestatic 128, 3) := by decide +kernel
theorem dX8_judge_55 : decode cX8_judge 55 = .ok (.istore 4, 2) := by decide +kernel
theorem dX8_judge_57 : decode cX8_judge 57 = .ok (.iconst 0, 1) := by decide +kernel
theorem dX8_judge_58 : decode cX8_judge 58 = .ok (.istore 5, 2) := by decide +kernel
theorem dX8_judge_60 : decode cX8_judge 60 = .ok (.iload 5, 2) := by decide +kernel
theorem dX8_judge_62 : decode cX8_judge 62 = .ok (.iload 4, 2) := by decide +kernel
theorem dX8_judge_64 : decode cX8_judge 64 = .ok (.if_icmp .ge 26, 3) := by decide +kernel
theorem dX8_judge_67 : decode cX8_judge 67 = .ok (.aload_n 2, 1) := by decide +kernel
theorem dX8_judge_68 : decode cX8_judge 68 = .ok (.getfield 303, 3) := by decide +kernel
theorem dX8_judge_71 : decode cX8_judge 71 = .ok (.iload 5, 2) := by decide +kernel
theorem dX8_judge_73 : decode cX8_judge 73 = .ok (.iaload, 1) := by decide +kernel
theorem dX8_judge_74 : decode cX8_judge 74 = .ok (.aload_n 3, 1) := by decide +kernel
theorem dX8_judge_75 : decode cX8_judge 75 = .ok (.getfield 159, 3) := by decide +kernel
theorem dX8_judge_78 : decode cX8_judge 78 = .ok (.iload 5, 2) := by decide +kernel
theorem dX8_judge_80 : decode cX8_judge 80 = .ok (.iaload, 1) := by decide +kernel
theorem dX8_judge_81 : decode cX8_judge 81 = .ok (.if_icmp .ne 9, 3) := by decide +kernel
theorem dX8_judge_84 : decode cX8_judge 84 = .ok (.iinc 5 1, 3) := by decide +kernel
theorem dX8_judge_87 : decode cX8_judge 87 = .ok (.goto (-27), 3) := by decide +kernel
theorem dX8_judge_90 : decode cX8_judge 90 = .ok (.iload 5, 2) := by decide +kernel
theorem dX8_judge_92 : decode cX8_judge 92 = .ok (.aload_n 2, 1) := by decide +kernel
theorem dX8_judge_93 : decode cX8_judge 93 = .ok (.getfield 290, 3) := by decide +kernel
theorem dX8_judge_96 : decode cX8_judge 96 = .ok (.if_icmp .ne 16, 3) := by decide +kernel
theorem dX8_judge_99 : decode cX8_judge 99 = .ok (.iload 5, 2) := by decide +kernel
theorem dX8_judge_101 : decode cX8_judge 101 = .ok (.aload_n 3, 1) := by decide +kernel
theorem dX8_judge_102 : decode cX8_judge 102 = .ok (.getfield 312, 3) := by decide +kernel
theorem dX8_judge_105 : decode cX8_judge 105 = .ok (.if_icmp .ne 7, 3) := by decide +kernel
theorem dX8_judge_108 : decode cX8_judge 108 = .ok (.iconst 1, 1) := by decide +kernel
theorem dX8_judge_109 : decode cX8_judge 109 = .ok (.goto 4, 3) := by decide +kernel
theorem dX8_judge_112 : decode cX8_judge 112 = .ok (.iconst 0, 1) := by decide +kernel
theorem dX8_judge_113 : decode cX8_judge 113 = .ok (.istore 6, 2) := by decide +kernel
theorem dX8_judge_115 : decode cX8_judge 115 = .ok (.iload 6, 2) := by decide +kernel
theorem dX8_judge_117 : decode cX8_judge 117 = .ok (.ifCond .eq 7, 3) := by decide +kernel
theorem dX8_judge_120 : decode cX8_judge 120 = .ok (.iconst 0, 1) := by decide +kernel
theorem dX8_judge_121 : decode cX8_judge 121 = .ok (.goto 7, 3) := by decide +kernel
theorem dX8_judge_124 : decode cX8_judge 124 = .ok (.iload 5, 2) := by decide +kernel
theorem dX8_judge_126 : decode cX8_judge 126 = .ok (.iconst 1, 1) := by decide +kernel
theorem dX8_judge_127 : decode cX8_judge 127 = .ok (.iadd, 1) := by decide +kernel
theorem dX8_judge_128 : decode cX8_judge 128 = .ok (.ireturn, 1) := by decide +kernel
theorem dX8_image_0 : decode cX8_image 0 = .ok (.aload_n 0, 1) := by decide +kernel
theorem dX8_image_1 : decode cX8_image 1 = .ok (.getfield 16, 3) := by decide +kernel
theorem dX8_image_4 : decode cX8_image 4 = .ok (.aload_n 0, 1) := by decide +kernel
theorem dX8_image_5 : decode cX8_image 5 = .ok (.getfield 12, 3) := by decide +kernel
theorem dX8_image_8 : decode cX8_image 8 = .ok (.invokevirtual 313, 3) := by decide +kernel
theorem dX8_image_11 : decode cX8_image 11 = .ok (.aload_n 0, 1) := by decide +kernel
theorem dX8_image_12 : decode cX8_image 12 = .ok (.iconst 1, 1) := by decide +kernel
theorem dX8_image_13 : decode cX8_image 13 = .ok (.putfield 19, 3) := by decide +kernel
theorem dX8_image_16 : decode cX8_image 16 = .ok (.iconst 1, 1) := by decide +kernel
theorem dX8_image_17 : decode cX8_image 17 = .ok (.ireturn, 1) := by decide +kernel
theorem dX8_undo_0 : decode cX8_undo 0 = .ok (.aload_n 0, 1) := by decide +kernel
theorem dX8_undo_1 : decode cX8_undo 1 = .ok (.getfield 19, 3) := by decide +kernel
theorem dX8_undo_4 : decode cX8_undo 4 = .ok (.ifCond .ne 10, 3) := by decide +kernel
theorem dX8_undo_7 : decode cX8_undo 7 = .ok (.aload_n 0, 1) := by decide +kernel
theorem dX8_undo_8 : decode cX8_undo 8 = .ok (.ldc 133, 2) := by decide +kernel
theorem dX8_undo_10 : decode cX8_undo 10 = .ok (.invokevirtual 70, 3) := by decide +kernel
theorem dX8_undo_13 : decode cX8_undo 13 = .ok (.ireturn, 1) := by decide +kernel
theorem dX8_undo_14 : decode cX8_undo 14 = .ok (.aload_n 0, 1) := by decide +kernel
theorem dX8_undo_15 : decode cX8_undo 15 = .ok (.getfield 12, 3) := by decide +kernel
theorem dX8_undo_18 : decode cX8_undo 18 = .ok (.aload_n 0, 1) := by decide +kernel
theorem dX8_undo_19 : decode cX8_undo 19 = .ok (.getfield 16, 3) := by decide +kernel
theorem dX8_undo_22 : decode cX8_undo 22 = .ok (.invokevirtual 313, 3) := by decide +kernel
theorem dX8_undo_25 : decode cX8_undo 25 = .ok (.aload_n 0, 1) := by decide +kernel
theorem dX8_undo_26 : decode cX8_undo 26 = .ok (.getfield 12, 3) := by decide +kernel
theorem dX8_undo_29 : decode cX8_undo 29 = .ok (.getfield 134, 3) := by decide +kernel
theorem dX8_undo_32 : decode cX8_undo 32 = .ok (.getfield 138, 3) := by decide +kernel
theorem dX8_undo_35 : decode cX8_undo 35 = .ok (.ireturn, 1) := by decide +kernel
theorem dX8_tear_0 : decode cX8_tear 0 = .ok (.aload_n 0, 1) := by decide +kernel
theorem dX8_tear_1 : decode cX8_tear 1 = .ok (.getfield 19, 3) := by decide +kernel
theorem dX8_tear_4 : decode cX8_tear 4 = .ok (.invokestatic 99, 3) := by decide +kernel
theorem dX8_tear_7 : decode cX8_tear 7 = .ok (.istore_n 1, 1) := by decide +kernel
theorem dX8_tear_8 : decode cX8_tear 8 = .ok (.aload_n 0, 1) := by decide +kernel
theorem dX8_tear_9 : decode cX8_tear 9 = .ok (.iconst 0, 1) := by decide +kernel
theorem dX8_tear_10 : decode cX8_tear 10 = .ok (.putfield 19, 3) := by decide +kernel
theorem dX8_tear_13 : decode cX8_tear 13 = .ok (.iload_n 1, 1) := by decide +kernel
theorem dX8_tear_14 : decode cX8_tear 14 = .ok (.ireturn, 1) := by decide +kernel
theorem dX8_count_0 : decode cX8_count 0 = .ok (.iload_n 1, 1) := by decide +kernel
theorem dX8_count_1 : decode cX8_count 1 = .ok (.tableswitch 147 0 8 #[51, 62, 73, 84, 95, 106, 111, 125, 139], 51) := by decide +kernel
theorem dX8_count_52 : decode cX8_count 52 = .ok (.aload_n 0, 1) := by decide +kernel
theorem dX8_count_53 : decode cX8_count 53 = .ok (.getfield 12, 3) := by decide +kernel
theorem dX8_count_56 : decode cX8_count 56 = .ok (.getfield 74, 3) := by decide +kernel
theorem dX8_count_59 : decode cX8_count 59 = .ok (.getfield 78, 3) := by decide +kernel
theorem dX8_count_62 : decode cX8_count 62 = .ok (.ireturn, 1) := by decide +kernel
theorem dX8_count_63 : decode cX8_count 63 = .ok (.aload_n 0, 1) := by decide +kernel
theorem dX8_count_64 : decode cX8_count 64 = .ok (.getfield 12, 3) := by decide +kernel
theorem dX8_count_67 : decode cX8_count 67 = .ok (.getfield 134, 3) := by decide +kernel
theorem dX8_count_70 : decode cX8_count 70 = .ok (.getfield 138, 3) := by decide +kernel
theorem dX8_count_73 : decode cX8_count 73 = .ok (.ireturn, 1) := by decide +kernel
theorem dX8_count_74 : decode cX8_count 74 = .ok (.aload_n 0, 1) := by decide +kernel
theorem dX8_count_75 : decode cX8_count 75 = .ok (.getfield 12, 3) := by decide +kernel
theorem dX8_count_78 : decode cX8_count 78 = .ok (.getfield 134, 3) := by decide +kernel
theorem dX8_count_81 : decode cX8_count 81 = .ok (.getfield 312, 3) := by decide +kernel
theorem dX8_count_84 : decode cX8_count 84 = .ok (.ireturn, 1) := by decide +kernel
theorem dX8_count_85 : decode cX8_count 85 = .ok (.aload_n 0, 1) := by decide +kernel
theorem dX8_count_86 : decode cX8_count 86 = .ok (.getfield 12, 3) := by decide +kernel
theorem dX8_count_89 : decode cX8_count 89 = .ok (.getfield 134, 3) := by decide +kernel
theorem dX8_count_92 : decode cX8_count 92 = .ok (.getfield 317, 3) := by decide +kernel
theorem dX8_count_95 : decode cX8_count 95 = .ok (.ireturn, 1) := by decide +kernel
theorem dX8_count_96 : decode cX8_count 96 = .ok (.aload_n 0, 1) := by decide +kernel
theorem dX8_count_97 : decode cX8_count 97 = .ok (.getfield 12, 3) := by decide +kernel
theorem dX8_count_100 : decode cX8_count 100 = .ok (.getfield 181, 3) := by decide +kernel
theorem dX8_count_103 : decode cX8_count 103 = .ok (.getfield 185, 3) := by decide +kernel
theorem dX8_count_106 : decode cX8_count 106 = .ok (.ireturn, 1) := by decide +kernel
theorem dX8_count_107 : decode cX8_count 107 = .ok (.aload_n 0, 1) := by decide +kernel
theorem dX8_count_108 : decode cX8_count 108 = .ok (.getfield 27, 3) := by decide +kernel
theorem dX8_count_111 : decode cX8_count 111 = .ok (.ireturn, 1) := by decide +kernel
theorem dX8_count_112 : decode cX8_count 112 = .ok (.aload_n 0, 1) := by decide +kernel
theorem dX8_count_113 : decode cX8_count 113 = .ok (.getfield 12, 3) := by decide +kernel
theorem dX8_count_116 : decode cX8_count 116 = .ok (.getfield 74, 3) := by decide +kernel
theorem dX8_count_119 : decode cX8_count 119 = .ok (.getfield 92, 3) := by decide +kernel
theorem dX8_count_122 : decode cX8_count 122 = .ok (.invokestatic 117, 3) := by decide +kernel
theorem dX8_count_125 : decode cX8_count 125 = .ok (.ireturn, 1) := by decide +kernel
theorem dX8_count_126 : decode cX8_count 126 = .ok (.aload_n 0, 1) := by decide +kernel
theorem dX8_count_127 : decode cX8_count 127 = .ok (.getfield 12, 3) := by decide +kernel
theorem dX8_count_130 : decode cX8_count 130 = .ok (.getfield 74, 3) := by decide +kernel
theorem dX8_count_133 : decode cX8_count 133 = .ok (.getfield 219, 3) := by decide +kernel
theorem dX8_count_136 : decode cX8_count 136 = .ok (.invokestatic 117, 3) := by decide +kernel
theorem dX8_count_139 : decode cX8_count 139 = .ok (.ireturn, 1) := by decide +kernel
theorem dX8_count_140 : decode cX8_count 140 = .ok (.aload_n 0, 1) := by decide +kernel
theorem dX8_count_141 : decode cX8_count 141 = .ok (.getfield 12, 3) := by decide +kernel
theorem dX8_count_144 : decode cX8_count 144 = .ok (.getfield 265, 3) := by decide +kernel
theorem dX8_count_147 : decode cX8_count 147 = .ok (.ireturn, 1) := by decide +kernel
theorem dX8_count_148 : decode cX8_count 148 = .ok (.aload_n 0, 1) := by decide +kernel
theorem dX8_count_149 : decode cX8_count 149 = .ok (.ldc 69, 2) := by decide +kernel
theorem dX8_count_151 : decode cX8_count 151 = .ok (.invokevirtual 70, 3) := by decide +kernel
theorem dX8_count_154 : decode cX8_count 154 = .ok (.ireturn, 1) := by decide +kernel
theorem dX8_status_0 : decode cX8_status 0 = .ok (.iload_n 1, 1) := by decide +kernel
theorem dX8_status_1 : decode cX8_status 1 = .ok (.iconst (-1), 1) := by decide +kernel
theorem dX8_status_2 : decode cX8_status 2 = .ok (.bipush 6, 2) := by decide +kernel
theorem dX8_status_4 : decode cX8_status 4 = .ok (.invokestatic 65, 3) := by decide +kernel
theorem dX8_status_7 : decode cX8_status 7 = .ok (.ifCond .ne 10, 3) := by decide +kernel
theorem dX8_status_10 : decode cX8_status 10 = .ok (.aload_n 0, 1) := by decide +kernel
theorem dX8_status_11 : decode cX8_status 11 = .ok (.ldc 69, 2) := by decide +kernel
theorem dX8_status_13 : decode cX8_status 13 = .ok (.invokevirtual 70, 3) := by decide +kernel
theorem dX8_status_16 : decode cX8_status 16 = .ok (.ireturn, 1) := by decide +kernel
theorem dX8_status_17 : decode cX8_status 17 = .ok (.iload_n 1, 1) := by decide +kernel
theorem dX8_status_18 : decode cX8_status 18 = .ok (.ifCond .lt 10, 3) := by decide +kernel
theorem dX8_status_21 : decode cX8_status 21 = .ok (.aload_n 0, 1) := by decide +kernel
theorem dX8_status_22 : decode cX8_status 22 = .ok (.getfield 38, 3) := by decide +kernel
theorem dX8_status_25 : decode cX8_status 25 = .ok (.iload_n 1, 1) := by decide +kernel
theorem dX8_status_26 : decode cX8_status 26 = .ok (.iaload, 1) := by decide +kernel
theorem dX8_status_27 : decode cX8_status 27 = .ok (.ireturn, 1) := by decide +kernel
theorem dX8_status_28 : decode cX8_status 28 = .ok (.iconst 0, 1) := by decide +kernel
theorem dX8_status_29 : decode cX8_status 29 = .ok (.istore_n 2, 1) := by decide +kernel
theorem dX8_status_30 : decode cX8_status 30 = .ok (.iconst 0, 1) := by decide +kernel
theorem dX8_status_31 : decode cX8_status 31 = .ok (.istore_n 3, 1) := by decide +kernel
theorem dX8_status_32 : decode cX8_status 32 = .ok (.iload_n 3, 1) := by decide +kernel
theorem dX8_status_33 : decode cX8_status 33 = .ok (.bipush 7, 2) := by decide +kernel
theorem dX8_status_35 : decode cX8_status 35 = .ok (.if_icmp .ge 18, 3) := by decide +kernel
theorem dX8_status_38 : decode cX8_status 38 = .ok (.iload_n 2, 1) := by decide +kernel
theorem dX8_status_39 : decode cX8_status 39 = .ok (.aload_n 0, 1) := by decide +kernel
theorem dX8_status_40 : decode cX8_status 40 = .ok (.getfield 38, 3) := by decide +kernel
theorem dX8_status_43 : decode cX8_status 43 = .ok (.iload_n 3, 1) := by decide +kernel
theorem dX8_status_44 : decode cX8_status 44 = .ok (.iaload, 1) := by decide +kernel
theorem dX8_status_45 : decode cX8_status 45 = .ok (.iadd, 1) := by decide +kernel
theorem dX8_status_46 : decode cX8_status 46 = .ok (.istore_n 2, 1) := by decide +kernel
theorem dX8_status_47 : decode cX8_status 47 = .ok (.iinc 3 1, 3) := by decide +kernel
theorem dX8_status_50 : decode cX8_status 50 = .ok (.goto (-18), 3) := by decide +kernel
theorem dX8_status_53 : decode cX8_status 53 = .ok (.iload_n 2, 1) := by decide +kernel
theorem dX8_status_54 : decode cX8_status 54 = .ok (.ireturn, 1) := by decide +kernel
theorem dX8_tellFinding_0 : decode cX8_tellFinding 0 = .ok (.ldc 69, 2) := by decide +kernel
theorem dX8_tellFinding_2 : decode cX8_tellFinding 2 = .ok (.iload_n 1, 1) := by decide +kernel
theorem dX8_tellFinding_3 : decode cX8_tellFinding 3 = .ok (.isub, 1) := by decide +kernel
theorem dX8_tellFinding_4 : decode cX8_tellFinding 4 = .ok (.istore_n 2, 1) := by decide +kernel
theorem dX8_tellFinding_5 : decode cX8_tellFinding 5 = .ok (.iload_n 2, 1) := by decide +kernel
theorem dX8_tellFinding_6 : decode cX8_tellFinding 6 = .ok (.iconst 0, 1) := by decide +kernel
theorem dX8_tellFinding_7 : decode cX8_tellFinding 7 = .ok (.bipush 6, 2) := by decide +kernel
theorem dX8_tellFinding_9 : decode cX8_tellFinding 9 = .ok (.invokestatic 65, 3) := by decide +kernel
theorem dX8_tellFinding_12 : decode cX8_tellFinding 12 = .ok (.ifCond .eq 13, 3) := by decide +kernel
theorem dX8_tellFinding_15 : decode cX8_tellFinding 15 = .ok (.aload_n 0, 1) := by decide +kernel
theorem dX8_tellFinding_16 : decode cX8_tellFinding 16 = .ok (.getfield 38, 3) := by decide +kernel
theorem dX8_tellFinding_19 : decode cX8_tellFinding 19 = .ok (.iload_n 2, 1) := by decide +kernel
theorem dX8_tellFinding_20 : decode cX8_tellFinding 20 = .ok (.dup2, 1) := by decide +kernel
theorem dX8_tellFinding_21 : decode cX8_tellFinding 21 = .ok (.iaload, 1) := by decide +kernel
theorem dX8_tellFinding_22 : decode cX8_tellFinding 22 = .ok (.iconst 1, 1) := by decide +kernel
theorem dX8_tellFinding_23 : decode cX8_tellFinding 23 = .ok (.iadd, 1) := by decide +kernel
theorem dX8_tellFinding_24 : decode cX8_tellFinding 24 = .ok (.iastore, 1) := by decide +kernel
theorem dX8_tellFinding_25 : decode cX8_tellFinding 25 = .ok (.iload_n 1, 1) := by decide +kernel
theorem dX8_tellFinding_26 : decode cX8_tellFinding 26 = .ok (.ireturn, 1) := by decide +kernel
theorem dX8_areTwoNames_0 : decode cX8_areTwoNames 0 = .ok (.aload_n 0, 1) := by decide +kernel
theorem dX8_areTwoNames_1 : decode cX8_areTwoNames 1 = .ok (.getfield 12, 3) := by decide +kernel
theorem dX8_areTwoNames_4 : decode cX8_areTwoNames 4 = .ok (.getfield 74, 3) := by decide +kernel
theorem dX8_areTwoNames_7 : decode cX8_areTwoNames 7 = .ok (.iload_n 1, 1) := by decide +kernel
theorem dX8_areTwoNames_8 : decode cX8_areTwoNames 8 = .ok (.invokevirtual 88, 3) := by decide +kernel
theorem dX8_areTwoNames_11 : decode cX8_areTwoNames 11 = .ok (.ifCond .eq 26, 3) := by decide +kernel
theorem dX8_areTwoNames_14 : decode cX8_areTwoNames 14 = .ok (.aload_n 0, 1) := by decide +kernel
theorem dX8_areTwoNames_15 : decode cX8_areTwoNames 15 = .ok (.getfield 12, 3) := by decide +kernel
theorem dX8_areTwoNames_18 : decode cX8_areTwoNames 18 = .ok (.getfield 74, 3) := by decide +kernel
theorem dX8_areTwoNames_21 : decode cX8_areTwoNames 21 = .ok (.iload_n 2, 1) := by decide +kernel
theorem dX8_areTwoNames_22 : decode cX8_areTwoNames 22 = .ok (.invokevirtual 88, 3) := by decide +kernel
theorem dX8_areTwoNames_25 : decode cX8_areTwoNames 25 = .ok (.ifCond .eq 12, 3) := by decide +kernel
theorem dX8_areTwoNames_28 : decode cX8_areTwoNames 28 = .ok (.iload_n 1, 1) := by decide +kernel
theorem dX8_areTwoNames_29 : decode cX8_areTwoNames 29 = .ok (.iload_n 2, 1) := by decide +kernel
theorem dX8_areTwoNames_30 : decode cX8_areTwoNames 30 = .ok (.if_icmp .eq 7, 3) := by decide +kernel
theorem dX8_areTwoNames_33 : decode cX8_areTwoNames 33 = .ok (.iconst 1, 1) := by decide +kernel
theorem dX8_areTwoNames_34 : decode cX8_areTwoNames 34 = .ok (.goto 4, 3) := by decide +kernel
theorem dX8_areTwoNames_37 : decode cX8_areTwoNames 37 = .ok (.iconst 0, 1) := by decide +kernel
theorem dX8_areTwoNames_38 : decode cX8_areTwoNames 38 = .ok (.ireturn, 1) := by decide +kernel
theorem dX8_scoreOf_0 : decode cX8_scoreOf 0 = .ok (.aload_n 0, 1) := by decide +kernel
theorem dX8_scoreOf_1 : decode cX8_scoreOf 1 = .ok (.getfield 44, 3) := by decide +kernel
theorem dX8_scoreOf_4 : decode cX8_scoreOf 4 = .ok (.aload_n 0, 1) := by decide +kernel
theorem dX8_scoreOf_5 : decode cX8_scoreOf 5 = .ok (.getfield 12, 3) := by decide +kernel
theorem dX8_scoreOf_8 : decode cX8_scoreOf 8 = .ok (.getfield 134, 3) := by decide +kernel
theorem dX8_scoreOf_11 : decode cX8_scoreOf 11 = .ok (.iload_n 2, 1) := by decide +kernel
theorem dX8_scoreOf_12 : decode cX8_scoreOf 12 = .ok (.invokevirtual 171, 3) := by decide +kernel
theorem dX8_scoreOf_15 : decode cX8_scoreOf 15 = .ok (.aload_n 0, 1) := by decide +kernel
theorem dX8_scoreOf_16 : decode cX8_scoreOf 16 = .ok (.getfield 51, 3) := by decide +kernel
theorem dX8_scoreOf_19 : decode cX8_scoreOf 19 = .ok (.aload_n 0, 1) := by decide +kernel
theorem dX8_scoreOf_20 : decode cX8_scoreOf 20 = .ok (.getfield 12, 3) := by decide +kernel
theorem dX8_scoreOf_23 : decode cX8_scoreOf 23 = .ok (.getfield 181, 3) := by decide +kernel
theorem dX8_scoreOf_26 : decode cX8_scoreOf 26 = .ok (.getfield 320, 3) := by decide +kernel
theorem dX8_scoreOf_29 : decode cX8_scoreOf 29 = .ok (.iload_n 1, 1) := by decide +kernel
theorem dX8_scoreOf_30 : decode cX8_scoreOf 30 = .ok (.aaload, 1) := by decide +kernel
theorem dX8_scoreOf_31 : decode cX8_scoreOf 31 = .ok (.aload_n 0, 1) := by decide +kernel
theorem dX8_scoreOf_32 : decode cX8_scoreOf 32 = .ok (.getfield 12, 3) := by decide +kernel
theorem dX8_scoreOf_35 : decode cX8_scoreOf 35 = .ok (.getfield 181, 3) := by decide +kernel
theorem dX8_scoreOf_38 : decode cX8_scoreOf 38 = .ok (.getfield 323, 3) := by decide +kernel
theorem dX8_scoreOf_41 : decode cX8_scoreOf 41 = .ok (.iload_n 1, 1) := by decide +kernel
theorem dX8_scoreOf_42 : decode cX8_scoreOf 42 = .ok (.iaload, 1) := by decide +kernel
theorem dX8_scoreOf_43 : decode cX8_scoreOf 43 = .ok (.aload_n 0, 1) := by decide +kernel
theorem dX8_scoreOf_44 : decode cX8_scoreOf 44 = .ok (.getfield 44, 3) := by decide +kernel
theorem dX8_scoreOf_47 : decode cX8_scoreOf 47 = .ok (.getfield 175, 3) := by decide +kernel
theorem dX8_scoreOf_50 : decode cX8_scoreOf 50 = .ok (.invokevirtual 188, 3) := by decide +kernel
theorem dX8_scoreOf_53 : decode cX8_scoreOf 53 = .ok (.ireturn, 1) := by decide +kernel
theorem dX8_gatherScores_0 : decode cX8_gatherScores 0 = .ok (.iconst 0, 1) := by decide +kernel
theorem dX8_gatherScores_1 : decode cX8_gatherScores 1 = .ok (.istore_n 2, 1) := by decide +kernel
theorem dX8_gatherScores_2 : decode cX8_gatherScores 2 = .ok (.iload_n 2, 1) := by decide +kernel
theorem dX8_gatherScores_3 : decode cX8_gatherScores 3 = .ok (.aload_n 0, 1) := by decide +kernel
theorem dX8_gatherScores_4 : decode cX8_gatherScores 4 = .ok (.getfield 12, 3) := by decide +kernel
theorem dX8_gatherScores_7 : decode cX8_gatherScores 7 = .ok (.getfield 74, 3) := by decide +kernel
theorem dX8_gatherScores_10 : decode cX8_gatherScores 10 = .ok (.getfield 78, 3) := by decide +kernel
theorem dX8_gatherScores_13 : decode cX8_gatherScores 13 = .ok (.if_icmp .ge 21, 3) := by decide +kernel
theorem dX8_gatherScores_16 : decode cX8_gatherScores 16 = .ok (.aload_n 0, 1) := by decide +kernel
theorem dX8_gatherScores_17 : decode cX8_gatherScores 17 = .ok (.getfield 62, 3) := by decide +kernel
theorem dX8_gatherScores_20 : decode cX8_gatherScores 20 = .ok (.iload_n 2, 1) := by decide +kernel
theorem dX8_gatherScores_21 : decode cX8_gatherScores 21 = .ok (.aload_n 0, 1) := by decide +kernel
theorem dX8_gatherScores_22 : decode cX8_gatherScores 22 = .ok (.iload_n 1, 1) := by decide +kernel
theorem dX8_gatherScores_23 : decode cX8_gatherScores 23 = .ok (.iload_n 2, 1) := by decide +kernel
theorem dX8_gatherScores_24 : decode cX8_gatherScores 24 = .ok (.invokevirtual 199, 3) := by decide +kernel
theorem dX8_gatherScores_27 : decode cX8_gatherScores 27 = .ok (.iastore, 1) := by decide +kernel
theorem dX8_gatherScores_28 : decode cX8_gatherScores 28 = .ok (.iinc 2 1, 3) := by decide +kernel
theorem dX8_gatherScores_31 : decode cX8_gatherScores 31 = .ok (.goto (-29), 3) := by decide +kernel
theorem dX8_gatherScores_34 : decode cX8_gatherScores 34 = .ok (.return_, 1) := by decide +kernel
theorem dX8_foundSet_0 : decode cX8_foundSet 0 = .ok (.iconst 0, 1) := by decide +kernel
theorem dX8_foundSet_1 : decode cX8_foundSet 1 = .ok (.istore_n 2, 1) := by decide +kernel
theorem dX8_foundSet_2 : decode cX8_foundSet 2 = .ok (.iconst 0, 1) := by decide +kernel
theorem dX8_foundSet_3 : decode cX8_foundSet 3 = .ok (.istore_n 3, 1) := by decide +kernel
theorem dX8_foundSet_4 : decode cX8_foundSet 4 = .ok (.iload_n 3, 1) := by decide +kernel
theorem dX8_foundSet_5 : decode cX8_foundSet 5 = .ok (.aload_n 0, 1) := by decide +kernel
theorem dX8_foundSet_6 : decode cX8_foundSet 6 = .ok (.getfield 12, 3) := by decide +kernel
theorem dX8_foundSet_9 : decode cX8_foundSet 9 = .ok (.getfield 74, 3) := by decide +kernel
theorem dX8_foundSet_12 : decode cX8_foundSet 12 = .ok (.getfield 78, 3) := by decide +kernel
theorem dX8_foundSet_15 : decode cX8_foundSet 15 = .ok (.if_icmp .ge 25, 3) := by decide +kernel
theorem dX8_foundSet_18 : decode cX8_foundSet 18 = .ok (.aload_n 0, 1) := by decide +kernel
theorem dX8_foundSet_19 : decode cX8_foundSet 19 = .ok (.getfield 62, 3) := by decide +kernel
theorem dX8_foundSet_22 : decode cX8_foundSet 22 = .ok (.iload_n 3, 1) := by decide +kernel
theorem dX8_foundSet_23 : decode cX8_foundSet 23 = .ok (.iaload, 1) := by decide +kernel
theorem dX8_foundSet_24 : decode cX8_foundSet 24 = .ok (.iload_n 1, 1) := by decide +kernel
theorem dX8_foundSet_25 : decode cX8_foundSet 25 = .ok (.if_icmp .lt 9, 3) := by decide +kernel
theorem dX8_foundSet_28 : decode cX8_foundSet 28 = .ok (.iload_n 2, 1) := by decide +kernel
theorem dX8_foundSet_29 : decode cX8_foundSet 29 = .ok (.iconst 1, 1) := by decide +kernel
theorem dX8_foundSet_30 : decode cX8_foundSet 30 = .ok (.iload_n 3, 1) := by decide +kernel
theorem dX8_foundSet_31 : decode cX8_foundSet 31 = .ok (.ishl, 1) := by decide +kernel
theorem dX8_foundSet_32 : decode cX8_foundSet 32 = .ok (.ior, 1) := by decide +kernel
theorem dX8_foundSet_33 : decode cX8_foundSet 33 = .ok (.istore_n 2, 1) := by decide +kernel
theorem dX8_foundSet_34 : decode cX8_foundSet 34 = .ok (.iinc 3 1, 3) := by decide +kernel
theorem dX8_foundSet_37 : decode cX8_foundSet 37 = .ok (.goto (-33), 3) := by decide +kernel
theorem dX8_foundSet_40 : decode cX8_foundSet 40 = .ok (.iload_n 2, 1) := by decide +kernel
theorem dX8_foundSet_41 : decode cX8_foundSet 41 = .ok (.ireturn, 1) := by decide +kernel
theorem dX8_wrongedSet_0 : decode cX8_wrongedSet 0 = .ok (.aload_n 0, 1) := by decide +kernel
theorem dX8_wrongedSet_1 : decode cX8_wrongedSet 1 = .ok (.iload_n 1, 1) := by decide +kernel
theorem dX8_wrongedSet_2 : decode cX8_wrongedSet 2 = .ok (.invokevirtual 206, 3) := by decide +kernel
theorem dX8_wrongedSet_5 : decode cX8_wrongedSet 5 = .ok (.aload_n 0, 1) := by decide +kernel
theorem dX8_wrongedSet_6 : decode cX8_wrongedSet 6 = .ok (.getfield 12, 3) := by decide +kernel
theorem dX8_wrongedSet_9 : decode cX8_wrongedSet 9 = .ok (.getfield 74, 3) := by decide +kernel
theorem dX8_wrongedSet_12 : decode cX8_wrongedSet 12 = .ok (.invokevirtual 113, 3) := by decide +kernel
theorem dX8_wrongedSet_15 : decode cX8_wrongedSet 15 = .ok (.iand, 1) := by decide +kernel
theorem dX8_wrongedSet_16 : decode cX8_wrongedSet 16 = .ok (.ireturn, 1) := by decide +kernel
theorem dX8_missedSet_0 : decode cX8_missedSet 0 = .ok (.aload_n 0, 1) := by decide +kernel
theorem dX8_missedSet_1 : decode cX8_missedSet 1 = .ok (.getfield 12, 3) := by decide +kernel
theorem dX8_missedSet_4 : decode cX8_missedSet 4 = .ok (.getfield 74, 3) := by decide +kernel
theorem dX8_missedSet_7 : decode cX8_missedSet 7 = .ok (.invokevirtual 326, 3) := by decide +kernel
theorem dX8_missedSet_10 : decode cX8_missedSet 10 = .ok (.aload_n 0, 1) := by decide +kernel
theorem dX8_missedSet_11 : decode cX8_missedSet 11 = .ok (.iload_n 1, 1) := by decide +kernel
theorem dX8_missedSet_12 : decode cX8_missedSet 12 = .ok (.invokevirtual 206, 3) := by decide +kernel
theorem dX8_missedSet_15 : decode cX8_missedSet 15 = .ok (.iconst (-1), 1) := by decide +kernel
theorem dX8_missedSet_16 : decode cX8_missedSet 16 = .ok (.ixor, 1) := by decide +kernel
theorem dX8_missedSet_17 : decode cX8_missedSet 17 = .ok (.iand, 1) := by decide +kernel
theorem dX8_missedSet_18 : decode cX8_missedSet 18 = .ok (.ireturn, 1) := by decide +kernel
theorem dX8_lineSum_0 : decode cX8_lineSum 0 = .ok (.iload_n 2, 1) := by decide +kernel
theorem dX8_lineSum_1 : decode cX8_lineSum 1 = .ok (.aload_n 0, 1) := by decide +kernel
theorem dX8_lineSum_2 : decode cX8_lineSum 2 = .ok (.iload_n 1, 1) := by decide +kernel
theorem dX8_lineSum_3 : decode cX8_lineSum 3 = .ok (.invokevirtual 209, 3) := by decide +kernel
theorem dX8_lineSum_6 : decode cX8_lineSum 6 = .ok (.invokestatic 117, 3) := by decide +kernel
theorem dX8_lineSum_9 : decode cX8_lineSum 9 = .ok (.imul, 1) := by decide +kernel
theorem dX8_lineSum_10 : decode cX8_lineSum 10 = .ok (.iload_n 3, 1) := by decide +kernel
theorem dX8_lineSum_11 : decode cX8_lineSum 11 = .ok (.aload_n 0, 1) := by decide +kernel
theorem dX8_lineSum_12 : decode cX8_lineSum 12 = .ok (.iload_n 1, 1) := by decide +kernel
theorem dX8_lineSum_13 : decode cX8_lineSum 13 = .ok (.invokevirtual 212, 3) := by decide +kernel
theorem dX8_lineSum_16 : decode cX8_lineSum 16 = .ok (.invokestatic 117, 3) := by decide +kernel
theorem dX8_lineSum_19 : decode cX8_lineSum 19 = .ok (.imul, 1) := by decide +kernel
theorem dX8_lineSum_20 : decode cX8_lineSum 20 = .ok (.iadd, 1) := by decide +kernel
theorem dX8_lineSum_21 : decode cX8_lineSum 21 = .ok (.ireturn, 1) := by decide +kernel
theorem dX8_isWithin_0 : decode cX8_isWithin 0 = .ok (.iload_n 0, 1) := by decide +kernel
theorem dX8_isWithin_1 : decode cX8_isWithin 1 = .ok (.iload_n 1, 1) := by decide +kernel
theorem dX8_isWithin_2 : decode cX8_isWithin 2 = .ok (.if_icmp .lt 12, 3) := by decide +kernel
theorem dX8_isWithin_5 : decode cX8_isWithin 5 = .ok (.iload_n 0, 1) := by decide +kernel
theorem dX8_isWithin_6 : decode cX8_isWithin 6 = .ok (.iload_n 2, 1) := by decide +kernel
theorem dX8_isWithin_7 : decode cX8_isWithin 7 = .ok (.if_icmp .gt 7, 3) := by decide +kernel
theorem dX8_isWithin_10 : decode cX8_isWithin 10 = .ok (.iconst 1, 1) := by decide +kernel
theorem dX8_isWithin_11 : decode cX8_isWithin 11 = .ok (.goto 4, 3) := by decide +kernel
theorem dX8_isWithin_14 : decode cX8_isWithin 14 = .ok (.iconst 0, 1) := by decide +kernel
theorem dX8_isWithin_15 : decode cX8_isWithin 15 = .ok (.ireturn, 1) := by decide +kernel
theorem dX8_isSecond_0 : decode cX8_isSecond 0 = .ok (.iload_n 0, 1) := by decide +kernel
theorem dX8_isSecond_1 : decode cX8_isSecond 1 = .ok (.iconst 0, 1) := by decide +kernel
theorem dX8_isSecond_2 : decode cX8_isSecond 2 = .ok (.sipush 29999, 3) := by decide +kernel
theorem dX8_isSecond_5 : decode cX8_isSecond 5 = .ok (.invokestatic 65, 3) := by decide +kernel
theorem dX8_isSecond_8 : decode cX8_isSecond 8 = .ok (.ireturn, 1) := by decide +kernel
theorem dX8_isTopic_0 : decode cX8_isTopic 0 = .ok (.iload_n 0, 1) := by decide +kernel
theorem dX8_isTopic_1 : decode cX8_isTopic 1 = .ok (.iconst 0, 1) := by decide +kernel
theorem dX8_isTopic_2 : decode cX8_isTopic 2 = .ok (.bipush 9, 2) := by decide +kernel
theorem dX8_isTopic_4 : decode cX8_isTopic 4 = .ok (.invokestatic 65, 3) := by decide +kernel
theorem dX8_isTopic_7 : decode cX8_isTopic 7 = .ok (.ireturn, 1) := by decide +kernel
theorem dX8_isSpan_0 : decode cX8_isSpan 0 = .ok (.iload_n 0, 1) := by decide +kernel
theorem dX8_isSpan_1 : decode cX8_isSpan 1 = .ok (.iconst 0, 1) := by decide +kernel
theorem dX8_isSpan_2 : decode cX8_isSpan 2 = .ok (.bipush 99, 2) := by decide +kernel
theorem dX8_isSpan_4 : decode cX8_isSpan 4 = .ok (.invokestatic 65, 3) := by decide +kernel
theorem dX8_isSpan_7 : decode cX8_isSpan 7 = .ok (.ireturn, 1) := by decide +kernel
theorem dX8_isSpot_0 : decode cX8_isSpot 0 = .ok (.iload_n 0, 1) := by decide +kernel
theorem dX8_isSpot_1 : decode cX8_isSpot 1 = .ok (.iconst 0, 1) := by decide +kernel
theorem dX8_isSpot_2 : decode cX8_isSpot 2 = .ok (.bipush 9, 2) := by decide +kernel
theorem dX8_isSpot_4 : decode cX8_isSpot 4 = .ok (.invokestatic 65, 3) := by decide +kernel
theorem dX8_isSpot_7 : decode cX8_isSpot 7 = .ok (.ireturn, 1) := by decide +kernel
theorem dX8_isSheet_0 : decode cX8_isSheet 0 = .ok (.iload_n 0, 1) := by decide +kernel
theorem dX8_isSheet_1 : decode cX8_isSheet 1 = .ok (.iconst 0, 1) := by decide +kernel
theorem dX8_isSheet_2 : decode cX8_isSheet 2 = .ok (.iconst 3, 1) := by decide +kernel
theorem dX8_isSheet_3 : decode cX8_isSheet 3 = .ok (.invokestatic 65, 3) := by decide +kernel
theorem dX8_isSheet_6 : decode cX8_isSheet 6 = .ok (.ireturn, 1) := by decide +kernel
theorem dX8_hasBit_0 : decode cX8_hasBit 0 = .ok (.iload_n 0, 1) := by decide +kernel
theorem dX8_hasBit_1 : decode cX8_hasBit 1 = .ok (.iload_n 1, 1) := by decide +kernel
theorem dX8_hasBit_2 : decode cX8_hasBit 2 = .ok (.iushr, 1) := by decide +kernel
theorem dX8_hasBit_3 : decode cX8_hasBit 3 = .ok (.iconst 1, 1) := by decide +kernel
theorem dX8_hasBit_4 : decode cX8_hasBit 4 = .ok (.iand, 1) := by decide +kernel
theorem dX8_hasBit_5 : decode cX8_hasBit 5 = .ok (.ifCond .eq 7, 3) := by decide +kernel
theorem dX8_hasBit_8 : decode cX8_hasBit 8 = .ok (.iconst 1, 1) := by decide +kernel
theorem dX8_hasBit_9 : decode cX8_hasBit 9 = .ok (.goto 4, 3) := by decide +kernel
theorem dX8_hasBit_12 : decode cX8_hasBit 12 = .ok (.iconst 0, 1) := by decide +kernel
theorem dX8_hasBit_13 : decode cX8_hasBit 13 = .ok (.ireturn, 1) := by decide +kernel
theorem dX8_asInt_0 : decode cX8_asInt 0 = .ok (.iload_n 0, 1) := by decide +kernel
theorem dX8_asInt_1 : decode cX8_asInt 1 = .ok (.ifCond .eq 7, 3) := by decide +kernel
theorem dX8_asInt_4 : decode cX8_asInt 4 = .ok (.iconst 1, 1) := by decide +kernel
theorem dX8_asInt_5 : decode cX8_asInt 5 = .ok (.goto 4, 3) := by decide +kernel
theorem dX8_asInt_8 : decode cX8_asInt 8 = .ok (.iconst 0, 1) := by decide +kernel
theorem dX8_asInt_9 : decode cX8_asInt 9 = .ok (.ireturn, 1) := by decide +kernel
theorem dX8_cut_0 : decode cX8_cut 0 = .ok (.iload_n 1, 1) := by decide +kernel
theorem dX8_cut_1 : decode cX8_cut 1 = .ok (.ifCond .ne 7, 3) := by decide +kernel
theorem dX8_cut_4 : decode cX8_cut 4 = .ok (.iconst 0, 1) := by decide +kernel
theorem dX8_cut_5 : decode cX8_cut 5 = .ok (.goto 6, 3) := by decide +kernel
theorem dX8_cut_8 : decode cX8_cut 8 = .ok (.iload_n 0, 1) := by decide +kernel
theorem dX8_cut_9 : decode cX8_cut 9 = .ok (.iload_n 1, 1) := by decide +kernel
theorem dX8_cut_10 : decode cX8_cut 10 = .ok (.idiv, 1) := by decide +kernel
theorem dX8_cut_11 : decode cX8_cut 11 = .ok (.ireturn, 1) := by decide +kernel
theorem dX8_rest_0 : decode cX8_rest 0 = .ok (.iload_n 1, 1) := by decide +kernel
theorem dX8_rest_1 : decode cX8_rest 1 = .ok (.ifCond .ne 7, 3) := by decide +kernel
theorem dX8_rest_4 : decode cX8_rest 4 = .ok (.iconst 0, 1) := by decide +kernel
theorem dX8_rest_5 : decode cX8_rest 5 = .ok (.goto 6, 3) := by decide +kernel
theorem dX8_rest_8 : decode cX8_rest 8 = .ok (.iload_n 0, 1) := by decide +kernel
theorem dX8_rest_9 : decode cX8_rest 9 = .ok (.iload_n 1, 1) := by decide +kernel
theorem dX8_rest_10 : decode cX8_rest 10 = .ok (.irem, 1) := by decide +kernel
theorem dX8_rest_11 : decode cX8_rest 11 = .ok (.ireturn, 1) := by decide +kernel
theorem dX8_hourOf_0 : decode cX8_hourOf 0 = .ok (.iload_n 0, 1) := by decide +kernel
theorem dX8_hourOf_1 : decode cX8_hourOf 1 = .ok (.bipush 100, 2) := by decide +kernel
theorem dX8_hourOf_3 : decode cX8_hourOf 3 = .ok (.idiv, 1) := by decide +kernel
theorem dX8_hourOf_4 : decode cX8_hourOf 4 = .ok (.bipush 10, 2) := by decide +kernel
theorem dX8_hourOf_6 : decode cX8_hourOf 6 = .ok (.irem, 1) := by decide +kernel
theorem dX8_hourOf_7 : decode cX8_hourOf 7 = .ok (.ireturn, 1) := by decide +kernel
theorem dX8_dayOf_0 : decode cX8_dayOf 0 = .ok (.iload_n 0, 1) := by decide +kernel
theorem dX8_dayOf_1 : decode cX8_dayOf 1 = .ok (.sipush 1000, 3) := by decide +kernel
theorem dX8_dayOf_4 : decode cX8_dayOf 4 = .ok (.idiv, 1) := by decide +kernel
theorem dX8_dayOf_5 : decode cX8_dayOf 5 = .ok (.ireturn, 1) := by decide +kernel
end
section
theorem dX9_init_0 : decode cX9_init 0 = .ok (.aload_n 0, 1) := by decide +kernel
theorem dX9_init_1 : decode cX9_init 1 = .ok (.invokespecial 3, 3) := by decide +kernel
theorem dX9_init_4 : decode cX9_init 4 = .ok (.aload_n 0, 1) := by decide +kernel
theorem dX9_init_5 : decode cX9_init 5 = .ok (.sipush 1214, 3) := by decide +kernel
theorem dX9_init_8 : decode cX9_init 8 = .ok (.newarray .int, 2) := by decide +kernel
theorem dX9_init_10 : decode cX9_init 10 = .ok (.putfield 9, 3) := by decide +kernel
theorem dX9_init_13 : decode cX9_init 13 = .ok (.aload_n 0, 1) := by decide +kernel
theorem dX9_init_14 : decode cX9_init 14 = .ok (.sipush 1214, 3) := by decide +kernel
theorem dX9_init_17 : decode cX9_init 17 = .ok (.newarray .int, 2) := by decide +kernel
theorem dX9_init_19 : decode cX9_init 19 = .ok (.putfield 13, 3) := by decide +kernel
theorem dX9_init_22 : decode cX9_init 22 = .ok (.aload_n 0, 1) := by decide +kernel
theorem dX9_init_23 : decode cX9_init 23 = .ok (.bipush 7, 2) := by decide +kernel
theorem dX9_init_25 : decode cX9_init 25 = .ok (.newarray .int, 2) := by decide +kernel
theorem dX9_init_27 : decode cX9_init 27 = .ok (.putfield 16, 3) := by decide +kernel
theorem dX9_init_30 : decode cX9_init 30 = .ok (.aload_n 0, 1) := by decide +kernel
theorem dX9_init_31 : decode cX9_init 31 = .ok (.sipush 200, 3) := by decide +kernel
theorem dX9_init_34 : decode cX9_init 34 = .ok (.newarray .boolean, 2) := by decide +kernel
theorem dX9_init_36 : decode cX9_init 36 = .ok (.putfield 19, 3) := by decide +kernel
theorem dX9_init_39 : decode cX9_init 39 = .ok (.aload_n 0, 1) := by decide +kernel
theorem dX9_init_40 : decode cX9_init 40 = .ok (.bipush 80, 2) := by decide +kernel
theorem dX9_init_42 : decode cX9_init 42 = .ok (.newarray .int, 2) := by decide +kernel
theorem dX9_init_44 : decode cX9_init 44 = .ok (.putfield 23, 3) := by decide +kernel
theorem dX9_init_47 : decode cX9_init 47 = .ok (.aload_n 0, 1) := by decide +kernel
theorem dX9_init_48 : decode cX9_init 48 = .ok (.bipush 80, 2) := by decide +kernel
theorem dX9_init_50 : decode cX9_init 50 = .ok (.newarray .int, 2) := by decide +kernel
theorem dX9_init_52 : decode cX9_init 52 = .ok (.putfield 26, 3) := by decide +kernel
theorem dX9_init_55 : decode cX9_init 55 = .ok (.aload_n 0, 1) := by decide +kernel
theorem dX9_init_56 : decode cX9_init 56 = .ok (.bipush 80, 2) := by decide +kernel
theorem dX9_init_58 : decode cX9_init 58 = .ok (.newarray .int, 2) := by decide +kernel
theorem dX9_init_60 : decode cX9_init 60 = .ok (.putfield 29, 3) := by decide +kernel
theorem dX9_init_63 : decode cX9_init 63 = .ok (.aload_n 0, 1) := by decide +kernel
theorem dX9_init_64 : decode cX9_init 64 = .ok (.bipush 14, 2) := by decide +kernel
theorem dX9_init_66 : decode cX9_init 66 = .ok (.newarray .int, 2) := by decide +kernel
theorem dX9_init_68 : decode cX9_init 68 = .ok (.putfield 32, 3) := by decide +kernel
theorem dX9_init_71 : decode cX9_init 71 = .ok (.aload_n 0, 1) := by decide +kernel
theorem dX9_init_72 : decode cX9_init 72 = .ok (.bipush 14, 2) := by decide +kernel
theorem dX9_init_74 : decode cX9_init 74 = .ok (.newarray .int, 2) := by decide +kernel
theorem dX9_init_76 : decode cX9_init 76 = .ok (.putfield 35, 3) := by decide +kernel
theorem dX9_init_79 : decode cX9_init 79 = .ok (.aload_n 0, 1) := by decide +kernel
theorem dX9_init_80 : decode cX9_init 80 = .ok (.iconst 4, 1) := by decide +kernel
theorem dX9_init_81 : decode cX9_init 81 = .ok (.newarray .int, 2) := by decide +kernel
theorem dX9_init_83 : decode cX9_init 83 = .ok (.putfield 38, 3) := by decide +kernel
theorem dX9_init_86 : decode cX9_init 86 = .ok (.aload_n 0, 1) := by decide +kernel
theorem dX9_init_87 : decode cX9_init 87 = .ok (.iconst 4, 1) := by decide +kernel
theorem dX9_init_88 : decode cX9_init 88 = .ok (.newarray .int, 2) := by decide +kernel
theorem dX9_init_90 : decode cX9_init 90 = .ok (.putfield 41, 3) := by decide +kernel
theorem dX9_init_93 : decode cX9_init 93 = .ok (.aload_n 0, 1) := by decide +kernel
theorem dX9_init_94 : decode cX9_init 94 = .ok (.sipush 160, 3) := by decide +kernel
theorem dX9_init_97 : decode cX9_init 97 = .ok (.newarray .int, 2) := by decide +kernel
theorem dX9_init_99 : decode cX9_init 99 = .ok (.putfield 44, 3) := by decide +kernel
theorem dX9_init_102 : decode cX9_init 102 = .ok (.aload_n 0, 1) := by decide +kernel
theorem dX9_init_103 : decode cX9_init 103 = .ok (.getfield 9, 3) := by decide +kernel
theorem dX9_init_106 : decode cX9_init 106 = .ok (.iconst 5, 1) := by decide +kernel
theorem dX9_init_107 : decode cX9_init 107 = .ok (.iconst 1, 1) := by decide +kernel
theorem dX9_init_108 : decode cX9_init 108 = .ok (.iastore, 1) := by decide +kernel
theorem dX9_init_109 : decode cX9_init 109 = .ok (.iconst 0, 1) := by decide +kernel
theorem dX9_init_110 : decode cX9_init 110 = .ok (.istore_n 1, 1) := by decide +kernel
theorem dX9_init_111 : decode cX9_init 111 = .ok (.iload_n 1, 1) := by decide +kernel
theorem dX9_init_112 : decode cX9_init 112 = .ok (.bipush 10, 2) := by decide +kernel
theorem dX9_init_114 : decode cX9_init 114 = .ok (.if_icmp .ge 20, 3) := by decide +kernel
theorem dX9_init_117 : decode cX9_init 117 = .ok (.aload_n 0, 1) := by decide +kernel
theorem dX9_init_118 : decode cX9_init 118 = .ok (.getfield 9, 3) := by decide +kernel
theorem dX9_init_121 : decode cX9_init 121 = .ok (.sipush 1204, 3) := by decide +kernel
theorem dX9_init_124 : decode cX9_init 124 = .ok (.iload_n 1, 1) := by decide +kernel
theorem dX9_init_125 : decode cX9_init 125 = .ok (.iadd, 1) := by decide +kernel
theorem dX9_init_126 : decode cX9_init 126 = .ok (.iconst (-1), 1) := by decide +kernel
theorem dX9_init_127 : decode cX9_init 127 = .ok (.iastore, 1) := by decide +kernel
theorem dX9_init_128 : decode cX9_init 128 = .ok (.iinc 1 1, 3) := by decide +kernel
theorem dX9_init_131 : decode cX9_init 131 = .ok (.goto (-20), 3) := by decide +kernel
theorem dX9_init_134 : decode cX9_init 134 = .ok (.return_, 1) := by decide +kernel
theorem dX9_finds_0 : decode cX9_finds 0 = .ok (.aload_n 0, 1) := by decide +kernel
theorem dX9_finds_1 : decode cX9_finds 1 = .ok (.getfield 16, 3) := by decide +kernel
theorem dX9_finds_4 : decode cX9_finds 4 = .ok (.ldc 47, 2) := by decide +kernel
theorem dX9_finds_6 : decode cX9_finds 6 = .ok (.iload_n 1, 1) := by decide +kernel
theorem dX9_finds_7 : decode cX9_finds 7 = .ok (.isub, 1) := by decide +kernel
theorem dX9_finds_8 : decode cX9_finds 8 = .ok (.dup2, 1) := by decide +kernel
theorem dX9_finds_9 : decode cX9_finds 9 = .ok (.iaload, 1) := by decide +kernel
theorem dX9_finds_10 : decode cX9_finds 10 = .ok (.iconst 1, 1) := by decide +kernel
theorem dX9_finds_11 : decode cX9_finds 11 = .ok (.iadd, 1) := by decide +kernel
theorem dX9_finds_12 : decode cX9_finds 12 = .ok (.iastore, 1) := by decide +kernel
theorem dX9_finds_13 : decode cX9_finds 13 = .ok (.iload_n 1, 1) := by decide +kernel
theorem dX9_finds_14 : decode cX9_finds 14 = .ok (.ireturn, 1) := by decide +kernel
theorem dX9_in_0 : decode cX9_in 0 = .ok (.lload_n 0, 1) := by decide +kernel
theorem dX9_in_1 : decode cX9_in 1 = .ok (.lload_n 2, 1) := by decide +kernel
theorem dX9_in_2 : decode cX9_in 2 = .ok (.lcmp, 1) := by decide +kernel
theorem dX9_in_3 : decode cX9_in 3 = .ok (.ifCond .lt 14, 3) := by decide +kernel
theorem dX9_in_6 : decode cX9_in 6 = .ok (.lload_n 0, 1) := by decide +kernel
theorem dX9_in_7 : decode cX9_in 7 = .ok (.lload 4, 2) := by decide +kernel
theorem dX9_in_9 : decode cX9_in 9 = .ok (.lcmp, 1) := by decide +kernel
theorem dX9_in_10 : decode cX9_in 10 = .ok (.ifCond .gt 7, 3) := by decide +kernel
theorem dX9_in_13 : decode cX9_in 13 = .ok (.iconst 1, 1) := by decide +kernel
theorem dX9_in_14 : decode cX9_in 14 = .ok (.goto 4, 3) := by decide +kernel
theorem dX9_in_17 : decode cX9_in 17 = .ok (.iconst 0, 1) := by decide +kernel
theorem dX9_in_18 : decode cX9_in 18 = .ok (.ireturn, 1) := by decide +kernel
theorem dX9_has_0 : decode cX9_has 0 = .ok (.iload_n 0, 1) := by decide +kernel
theorem dX9_has_1 : decode cX9_has 1 = .ok (.iload_n 1, 1) := by decide +kernel
theorem dX9_has_2 : decode cX9_has 2 = .ok (.ishr, 1) := by decide +kernel
theorem dX9_has_3 : decode cX9_has 3 = .ok (.iconst 1, 1) := by decide +kernel
theorem dX9_has_4 : decode cX9_has 4 = .ok (.iand, 1) := by decide +kernel
theorem dX9_has_5 : decode cX9_has 5 = .ok (.iconst 1, 1) := by decide +kernel
theorem dX9_has_6 : decode cX9_has 6 = .ok (.if_icmp .ne 7, 3) := by decide +kernel
theorem dX9_has_9 : decode cX9_has 9 = .ok (.iconst 1, 1) := by decide +kernel
theorem dX9_has_10 : decode cX9_has 10 = .ok (.goto 4, 3) := by decide +kernel
theorem dX9_has_13 : decode cX9_has 13 = .ok (.iconst 0, 1) := by decide +kernel
theorem dX9_has_14 : decode cX9_has 14 = .ok (.ireturn, 1) := by decide +kernel
theorem dX9_many_0 : decode cX9_many 0 = .ok (.iconst 0, 1) := by decide +kernel
theorem dX9_many_1 : decode cX9_many 1 = .ok (.istore_n 1, 1) := by decide +kernel
theorem dX9_many_2 : decode cX9_many 2 = .ok (.iconst 0, 1) := by decide +kernel
theorem dX9_many_3 : decode cX9_many 3 = .ok (.istore_n 2, 1) := by decide +kernel
theorem dX9_many_4 : decode cX9_many 4 = .ok (.iload_n 2, 1) := by decide +kernel
theorem dX9_many_5 : decode cX9_many 5 = .ok (.bipush 14, 2) := by decide +kernel
theorem dX9_many_7 : decode cX9_many 7 = .ok (.if_icmp .ge 17, 3) := by decide +kernel
theorem dX9_many_10 : decode cX9_many 10 = .ok (.iload_n 1, 1) := by decide +kernel
theorem dX9_many_11 : decode cX9_many 11 = .ok (.iload_n 0, 1) := by decide +kernel
theorem dX9_many_12 : decode cX9_many 12 = .ok (.iload_n 2, 1) := by decide +kernel
theorem dX9_many_13 : decode cX9_many 13 = .ok (.ishr, 1) := by decide +kernel
theorem dX9_many_14 : decode cX9_many 14 = .ok (.iconst 1, 1) := by decide +kernel
theorem dX9_many_15 : decode cX9_many 15 = .ok (.iand, 1) := by decide +kernel
theorem dX9_many_16 : decode cX9_many 16 = .ok (.iadd, 1) := by decide +kernel
theorem dX9_many_17 : decode cX9_many 17 = .ok (.istore_n 1, 1) := by decide +kernel
theorem dX9_many_18 : decode cX9_many 18 = .ok (.iinc 2 1, 3) := by decide +kernel
theorem dX9_many_21 : decode cX9_many 21 = .ok (.goto (-17), 3) := by decide +kernel
theorem dX9_many_24 : decode cX9_many 24 = .ok (.iload_n 1, 1) := by decide +kernel
theorem dX9_many_25 : decode cX9_many 25 = .ok (.ireturn, 1) := by decide +kernel
theorem dX9_of_0 : decode cX9_of 0 = .ok (.aload_n 0, 1) := by decide +kernel
theorem dX9_of_1 : decode cX9_of 1 = .ok (.getfield 9, 3) := by decide +kernel
theorem dX9_of_4 : decode cX9_of 4 = .ok (.bipush 6, 2) := by decide +kernel
theorem dX9_of_6 : decode cX9_of 6 = .ok (.bipush 8, 2) := by decide +kernel
theorem dX9_of_8 : decode cX9_of 8 = .ok (.iload_n 1, 1) := by decide +kernel
theorem dX9_of_9 : decode cX9_of 9 = .ok (.imul, 1) := by decide +kernel
theorem dX9_of_10 : decode cX9_of 10 = .ok (.iadd, 1) := by decide +kernel
theorem dX9_of_11 : decode cX9_of 11 = .ok (.iload_n 2, 1) := by decide +kernel
theorem dX9_of_12 : decode cX9_of 12 = .ok (.iadd, 1) := by decide +kernel
theorem dX9_of_13 : decode cX9_of 13 = .ok (.iaload, 1) := by decide +kernel
theorem dX9_of_14 : decode cX9_of 14 = .ok (.ireturn, 1) := by decide +kernel
theorem dX9_word_0 : decode cX9_word 0 = .ok (.aload_n 0, 1) := by decide +kernel
theorem dX9_word_1 : decode cX9_word 1 = .ok (.getfield 9, 3) := by decide +kernel
theorem dX9_word_4 : decode cX9_word 4 = .ok (.bipush 118, 2) := by decide +kernel
theorem dX9_word_6 : decode cX9_word 6 = .ok (.iconst 3, 1) := by decide +kernel
theorem dX9_word_7 : decode cX9_word 7 = .ok (.iload_n 1, 1) := by decide +kernel
theorem dX9_word_8 : decode cX9_word 8 = .ok (.imul, 1) := by decide +kernel
theorem dX9_word_9 : decode cX9_word 9 = .ok (.iadd, 1) := by decide +kernel
theorem dX9_word_10 : decode cX9_word 10 = .ok (.iload_n 2, 1) := by decide +kernel
theorem dX9_word_11 : decode cX9_word 11 = .ok (.iadd, 1) := by decide +kernel
theorem dX9_word_12 : decode cX9_word 12 = .ok (.iaload, 1) := by decide +kernel
theorem dX9_word_13 : decode cX9_word 13 = .ok (.ireturn, 1) := by decide +kernel
theorem dX9_isName_0 : decode cX9_isName 0 = .ok (.iload_n 1, 1) := by decide +kernel
theorem dX9_isName_1 : decode cX9_isName 1 = .ok (.i2l, 1) := by decide +kernel
theorem dX9_isName_2 : decode cX9_isName 2 = .ok (.lconst 0, 1) := by decide +kernel
theorem dX9_isName_3 : decode cX9_isName 3 = .ok (.aload_n 0, 1) := by decide +kernel
theorem dX9_isName_4 : decode cX9_isName 4 = .ok (.getfield 9, 3) := by decide +kernel
theorem dX9_isName_7 : decode cX9_isName 7 = .ok (.iconst 0, 1) := by decide +kernel
theorem dX9_isName_8 : decode cX9_isName 8 = .ok (.iaload, 1) := by decide +kernel
theorem dX9_isName_9 : decode cX9_isName 9 = .ok (.iconst 1, 1) := by decide +kernel
theorem dX9_isName_10 : decode cX9_isName 10 = .ok (.isub, 1) := by decide +kernel
theorem dX9_isName_11 : decode cX9_isName 11 = .ok (.i2l, 1) := by decide +kernel
theorem dX9_isName_12 : decode cX9_isName 12 = .ok (.invokestatic 48, 3) := by decide +kernel
theorem dX9_isName_15 : decode cX9_isName 15 = .ok (.ireturn, 1) := by decide +kernel
theorem dX9_isWord_0 : decode cX9_isWord 0 = .ok (.iload_n 1, 1) := by decide +kernel
theorem dX9_isWord_1 : decode cX9_isWord 1 = .ok (.i2l, 1) := by decide +kernel
theorem dX9_isWord_2 : decode cX9_isWord 2 = .ok (.lconst 0, 1) := by decide +kernel
theorem dX9_isWord_3 : decode cX9_isWord 3 = .ok (.aload_n 0, 1) := by decide +kernel
theorem dX9_isWord_4 : decode cX9_isWord 4 = .ok (.getfield 9, 3) := by decide +kernel
theorem dX9_isWord_7 : decode cX9_isWord 7 = .ok (.iconst 2, 1) := by decide +kernel
theorem dX9_isWord_8 : decode cX9_isWord 8 = .ok (.iaload, 1) := by decide +kernel
theorem dX9_isWord_9 : decode cX9_isWord 9 = .ok (.iconst 1, 1) := by decide +kernel
theorem dX9_isWord_10 : decode cX9_isWord 10 = .ok (.isub, 1) := by decide +kernel
theorem dX9_isWord_11 : decode cX9_isWord 11 = .ok (.i2l, 1) := by decide +kernel
theorem dX9_isWord_12 : decode cX9_isWord 12 = .ok (.invokestatic 48, 3) := by decide +kernel
theorem dX9_isWord_15 : decode cX9_isWord 15 = .ok (.ireturn, 1) := by decide +kernel
theorem dX9_every_0 : decode cX9_every 0 = .ok (.iconst 1, 1) := by decide +kernel
theorem dX9_every_1 : decode cX9_every 1 = .ok (.aload_n 0, 1) := by decide +kernel
theorem dX9_every_2 : decode cX9_every 2 = .ok (.getfield 9, 3) := by decide +kernel
theorem dX9_every_5 : decode cX9_every 5 = .ok (.iconst 0, 1) := by decide +kernel
theorem dX9_every_6 : decode cX9_every 6 = .ok (.iaload, 1) := by decide +kernel
theorem dX9_every_7 : decode cX9_every 7 = .ok (.ishl, 1) := by decide +kernel
theorem dX9_every_8 : decode cX9_every 8 = .ok (.iconst 1, 1) := by decide +kernel
theorem dX9_every_9 : decode cX9_every 9 = .ok (.isub, 1) := by decide +kernel
theorem dX9_every_10 : decode cX9_every 10 = .ok (.ireturn, 1) := by decide +kernel
theorem dX9_isSet_0 : decode cX9_isSet 0 = .ok (.iload_n 1, 1) := by decide +kernel
theorem dX9_isSet_1 : decode cX9_isSet 1 = .ok (.i2l, 1) := by decide +kernel
theorem dX9_isSet_2 : decode cX9_isSet 2 = .ok (.lconst 0, 1) := by decide +kernel
theorem dX9_isSet_3 : decode cX9_isSet 3 = .ok (.aload_n 0, 1) := by decide +kernel
theorem dX9_isSet_4 : decode cX9_isSet 4 = .ok (.invokevirtual 52, 3) := by decide +kernel
theorem dX9_isSet_7 : decode cX9_isSet 7 = .ok (.i2l, 1) := by decide +kernel
theorem dX9_isSet_8 : decode cX9_isSet 8 = .ok (.invokestatic 48, 3) := by decide +kernel
theorem dX9_isSet_11 : decode cX9_isSet 11 = .ok (.ireturn, 1) := by decide +kernel
theorem dX9_isSecond_0 : decode cX9_isSecond 0 = .ok (.iload_n 0, 1) := by decide +kernel
theorem dX9_isSecond_1 : decode cX9_isSecond 1 = .ok (.i2l, 1) := by decide +kernel
theorem dX9_isSecond_2 : decode cX9_isSecond 2 = .ok (.lconst 0, 1) := by decide +kernel
theorem dX9_isSecond_3 : decode cX9_isSecond 3 = .ok (.ldc2_w 56, 3) := by decide +kernel
theorem dX9_isSecond_6 : decode cX9_isSecond 6 = .ok (.invokestatic 48, 3) := by decide +kernel
theorem dX9_isSecond_9 : decode cX9_isSecond 9 = .ok (.ireturn, 1) := by decide +kernel
theorem dX9_isTopic_0 : decode cX9_isTopic 0 = .ok (.iload_n 0, 1) := by decide +kernel
theorem dX9_isTopic_1 : decode cX9_isTopic 1 = .ok (.i2l, 1) := by decide +kernel
theorem dX9_isTopic_2 : decode cX9_isTopic 2 = .ok (.lconst 0, 1) := by decide +kernel
theorem dX9_isTopic_3 : decode cX9_isTopic 3 = .ok (.ldc2_w 58, 3) := by decide +kernel
theorem dX9_isTopic_6 : decode cX9_isTopic 6 = .ok (.invokestatic 48, 3) := by decide +kernel
theorem dX9_isTopic_9 : decode cX9_isTopic 9 = .ok (.ireturn, 1) := by decide +kernel
theorem dX9_name_0 : decode cX9_name 0 = .ok (.iload_n 1, 1) := by decide +kernel
theorem dX9_name_1 : decode cX9_name 1 = .ok (.i2l, 1) := by decide +kernel
theorem dX9_name_2 : decode cX9_name 2 = .ok (.lconst 0, 1) := by decide +kernel
theorem dX9_name_3 : decode cX9_name 3 = .ok (.ldc2_w 60, 3) := by decide +kernel
theorem dX9_name_6 : decode cX9_name 6 = .ok (.invokestatic 48, 3) := by decide +kernel
theorem dX9_name_9 : decode cX9_name 9 = .ok (.ifCond .eq 15, 3) := by decide +kernel
theorem dX9_name_12 : decode cX9_name 12 = .ok (.iload_n 2, 1) := by decide +kernel
theorem dX9_name_13 : decode cX9_name 13 = .ok (.i2l, 1) := by decide +kernel
theorem dX9_name_14 : decode cX9_name 14 = .ok (.lconst 1, 1) := by decide +kernel
theorem dX9_name_15 : decode cX9_name 15 = .ok (.ldc2_w 62, 3) := by decide +kernel
theorem dX9_name_18 : decode cX9_name 18 = .ok (.invokestatic 48, 3) := by decide +kernel
theorem dX9_name_21 : decode cX9_name 21 = .ok (.ifCond .ne 10, 3) := by decide +kernel
theorem dX9_name_24 : decode cX9_name 24 = .ok (.aload_n 0, 1) := by decide +kernel
theorem dX9_name_25 : decode cX9_name 25 = .ok (.ldc 47, 2) := by decide +kernel
theorem dX9_name_27 : decode cX9_name 27 = .ok (.invokevirtual 64, 3) := by decide +kernel
theorem dX9_name_30 : decode cX9_name 30 = .ok (.ireturn, 1) := by decide +kernel
theorem dX9_name_31 : decode cX9_name 31 = .ok (.aload_n 0, 1) := by decide +kernel
theorem dX9_name_32 : decode cX9_name 32 = .ok (.getfield 9, 3) := by decide +kernel
theorem dX9_name_35 : decode cX9_name 35 = .ok (.iconst 0, 1) := by decide +kernel
theorem dX9_name_36 : decode cX9_name 36 = .ok (.iaload, 1) := by decide +kernel
theorem dX9_name_37 : decode cX9_name 37 = .ok (.istore_n 3, 1) := by decide +kernel
theorem dX9_name_38 : decode cX9_name 38 = .ok (.iload_n 3, 1) := by decide +kernel
theorem dX9_name_39 : decode cX9_name 39 = .ok (.bipush 14, 2) := by decide +kernel
theorem dX9_name_41 : decode cX9_name 41 = .ok (.if_icmp .ne 10, 3) := by decide +kernel
theorem dX9_name_44 : decode cX9_name 44 = .ok (.aload_n 0, 1) := by decide +kernel
theorem dX9_name_45 : decode cX9_name 45 = .ok (.ldc 68, 2) := by decide +kernel
theorem dX9_name_47 : decode cX9_name 47 = .ok (.invokevirtual 64, 3) := by decide +kernel
theorem dX9_name_50 : decode cX9_name 50 = .ok (.ireturn, 1) := by decide +kernel
theorem dX9_name_51 : decode cX9_name 51 = .ok (.bipush 6, 2) := by decide +kernel
theorem dX9_name_53 : decode cX9_name 53 = .ok (.bipush 8, 2) := by decide +kernel
theorem dX9_name_55 : decode cX9_name 55 = .ok (.iload_n 3, 1) := by decide +kernel
theorem dX9_name_56 : decode cX9_name 56 = .ok (.imul, 1) := by decide +kernel
theorem dX9_name_57 : decode cX9_name 57 = .ok (.iadd, 1) := by decide +kernel
theorem dX9_name_58 : decode cX9_name 58 = .ok (.istore 4, 2) := by decide +kernel
theorem dX9_name_60 : decode cX9_name 60 = .ok (.aload_n 0, 1) := by decide +kernel
theorem dX9_name_61 : decode cX9_name 61 = .ok (.getfield 9, 3) := by decide +kernel
theorem dX9_name_64 : decode cX9_name 64 = .ok (.iload 4, 2) := by decide +kernel
theorem dX9_name_66 : decode cX9_name 66 = .ok (.iload_n 1, 1) := by decide +kernel
theorem dX9_name_67 : decode cX9_name 67 = .ok (.iastore, 1) := by decide +kernel
theorem dX9_name_68 : decode cX9_name 68 = .ok (.aload_n 0, 1) := by decide +kernel
theorem dX9_name_69 : decode cX9_name 69 = .ok (.getfield 9, 3) := by decide +kernel
theorem dX9_name_72 : decode cX9_name 72 = .ok (.iload 4, 2) := by decide +kernel
theorem dX9_name_74 : decode cX9_name 74 = .ok (.iconst 1, 1) := by decide +kernel
theorem dX9_name_75 : decode cX9_name 75 = .ok (.iadd, 1) := by decide +kernel
theorem dX9_name_76 : decode cX9_name 76 = .ok (.iload_n 2, 1) := by decide +kernel
theorem dX9_name_77 : decode cX9_name 77 = .ok (.iastore, 1) := by decide +kernel
theorem dX9_name_78 : decode cX9_name 78 = .ok (.aload_n 0, 1) := by decide +kernel
theorem dX9_name_79 : decode cX9_name 79 = .ok (.getfield 9, 3) := by decide +kernel
theorem dX9_name_82 : decode cX9_name 82 = .ok (.iload 4, 2) := by decide +kernel
theorem dX9_name_84 : decode cX9_name 84 = .ok (.iconst 2, 1) := by decide +kernel
theorem dX9_name_85 : decode cX9_name 85 = .ok (.iadd, 1) := by decide +kernel
theorem dX9_name_86 : decode cX9_name 86 = .ok (.sipush 1023, 3) := by decide +kernel
theorem dX9_name_89 : decode cX9_name 89 = .ok (.iastore, 1) := by decide +kernel
theorem dX9_name_90 : decode cX9_name 90 = .ok (.aload_n 0, 1) := by decide +kernel
theorem dX9_name_91 : decode cX9_name 91 = .ok (.getfield 9, 3) := by decide +kernel
theorem dX9_name_94 : decode cX9_name 94 = .ok (.iload 4, 2) := by decide +kernel
theorem dX9_name_96 : decode cX9_name 96 = .ok (.iconst 3, 1) := by decide +kernel
theorem dX9_name_97 : decode cX9_name 97 = .ok (.iadd, 1) := by decide +kernel
theorem dX9_name_98 : decode cX9_name 98 = .ok (.iconst 0, 1) := by decide +kernel
theorem dX9_name_99 : decode cX9_name 99 = .ok (.iastore, 1) := by decide +kernel
theorem dX9_name_100 : decode cX9_name 100 = .ok (.aload_n 0, 1) := by decide +kernel
theorem dX9_name_101 : decode cX9_name 101 = .ok (.getfield 9, 3) := by decide +kernel
theorem dX9_name_104 : decode cX9_name 104 = .ok (.iload 4, 2) := by decide +kernel
theorem dX9_name_106 : decode cX9_name 106 = .ok (.iconst 4, 1) := by decide +kernel
theorem dX9_name_107 : decode cX9_name 107 = .ok (.iadd, 1) := by decide +kernel
theorem dX9_name_108 : decode cX9_name 108 = .ok (.iconst (-1), 1) := by decide +kernel
theorem dX9_name_109 : decode cX9_name 109 = .ok (.iastore, 1) := by decide +kernel
theorem dX9_name_110 : decode cX9_name 110 = .ok (.aload_n 0, 1) := by decide +kernel
theorem dX9_name_111 : decode cX9_name 111 = .ok (.getfield 9, 3) := by decide +kernel
theorem dX9_name_114 : decode cX9_name 114 = .ok (.iload 4, 2) := by decide +kernel
theorem dX9_name_116 : decode cX9_name 116 = .ok (.iconst 5, 1) := by decide +kernel
theorem dX9_name_117 : decode cX9_name 117 = .ok (.iadd, 1) := by decide +kernel
theorem dX9_name_118 : decode cX9_name 118 = .ok (.iconst 0, 1) := by decide +kernel
theorem dX9_name_119 : decode cX9_name 119 = .ok (.iastore, 1) := by decide +kernel
theorem dX9_name_120 : decode cX9_name 120 = .ok (.aload_n 0, 1) := by decide +kernel
theorem dX9_name_121 : decode cX9_name 121 = .ok (.getfield 9, 3) := by decide +kernel
theorem dX9_name_124 : decode cX9_name 124 = .ok (.iload 4, 2) := by decide +kernel
theorem dX9_name_126 : decode cX9_name 126 = .ok (.bipush 6, 2) := by decide +kernel
theorem dX9_name_128 : decode cX9_name 128 = .ok (.iadd, 1) := by decide +kernel
theorem dX9_name_129 : decode cX9_name 129 = .ok (.iconst 0, 1) := by decide +kernel
theorem dX9_name_130 : decode cX9_name 130 = .ok (.iastore, 1) := by decide +kernel
theorem dX9_name_131 : decode cX9_name 131 = .ok (.aload_n 0, 1) := by decide +kernel
theorem dX9_name_132 : decode cX9_name 132 = .ok (.getfield 9, 3) := by decide +kernel
theorem dX9_name_135 : decode cX9_name 135 = .ok (.iload 4, 2) := by decide +kernel
theorem dX9_name_137 : decode cX9_name 137 = .ok (.bipush 7, 2) := by decide +kernel
theorem dX9_name_139 : decode cX9_name 139 = .ok (.iadd, 1) := by decide +kernel
theorem dX9_name_140 : decode cX9_name 140 = .ok (.iconst 0, 1) := by decide +kernel
theorem dX9_name_141 : decode cX9_name 141 = .ok (.iastore, 1) := by decide +kernel
theorem dX9_name_142 : decode cX9_name 142 = .ok (.aload_n 0, 1) := by decide +kernel
theorem dX9_name_143 : decode cX9_name 143 = .ok (.getfield 9, 3) := by decide +kernel
theorem dX9_name_146 : decode cX9_name 146 = .ok (.iconst 0, 1) := by decide +kernel
theorem dX9_name_147 : decode cX9_name 147 = .ok (.dup2, 1) := by decide +kernel
theorem dX9_name_148 : decode cX9_name 148 = .ok (.iaload, 1) := by decide +kernel
theorem dX9_name_149 : decode cX9_name 149 = .ok (.iconst 1, 1) := by decide +kernel
theorem dX9_name_150 : decode cX9_name 150 = .ok (.iadd, 1) := by decide +kernel
theorem dX9_name_151 : decode cX9_name 151 = .ok (.iastore, 1) := by decide +kernel
theorem dX9_name_152 : decode cX9_name 152 = .ok (.iload_n 3, 1) := by decide +kernel
theorem dX9_name_153 : decode cX9_name 153 = .ok (.ireturn, 1) := by decide +kernel
theorem dX9_isPerson_0 : decode cX9_isPerson 0 = .ok (.aload_n 0, 1) := by decide +kernel
theorem dX9_isPerson_1 : decode cX9_isPerson 1 = .ok (.iload_n 1, 1) := by decide +kernel
theorem dX9_isPerson_2 : decode cX9_isPerson 2 = .ok (.iconst 0, 1) := by decide +kernel
theorem dX9_isPerson_3 : decode cX9_isPerson 3 = .ok (.invokevirtual 69, 3) := by decide +kernel
theorem dX9_isPerson_6 : decode cX9_isPerson 6 = .ok (.istore_n 2, 1) := by decide +kernel
theorem dX9_isPerson_7 : decode cX9_isPerson 7 = .ok (.iload_n 2, 1) := by decide +kernel
theorem dX9_isPerson_8 : decode cX9_isPerson 8 = .ok (.iconst 1, 1) := by decide +kernel
theorem dX9_isPerson_9 : decode cX9_isPerson 9 = .ok (.if_icmp .eq 14, 3) := by decide +kernel
theorem dX9_isPerson_12 : decode cX9_isPerson 12 = .ok (.iload_n 2, 1) := by decide +kernel
theorem dX9_isPerson_13 : decode cX9_isPerson 13 = .ok (.iconst 3, 1) := by decide +kernel
theorem dX9_isPerson_14 : decode cX9_isPerson 14 = .ok (.if_icmp .eq 9, 3) := by decide +kernel
theorem dX9_isPerson_17 : decode cX9_isPerson 17 = .ok (.iload_n 2, 1) := by decide +kernel
theorem dX9_isPerson_18 : decode cX9_isPerson 18 = .ok (.bipush 6, 2) := by decide +kernel
theorem dX9_isPerson_20 : decode cX9_isPerson 20 = .ok (.if_icmp .ne 7, 3) := by decide +kernel
theorem dX9_isPerson_23 : decode cX9_isPerson 23 = .ok (.iconst 1, 1) := by decide +kernel
theorem dX9_isPerson_24 : decode cX9_isPerson 24 = .ok (.goto 4, 3) := by decide +kernel
theorem dX9_isPerson_27 : decode cX9_isPerson 27 = .ok (.iconst 0, 1) := by decide +kernel
theorem dX9_isPerson_28 : decode cX9_isPerson 28 = .ok (.ireturn, 1) := by decide +kernel
theorem dX9_nameOf_0 : decode cX9_nameOf 0 = .ok (.aload_n 0, 1) := by decide +kernel
theorem dX9_nameOf_1 : decode cX9_nameOf 1 = .ok (.iload_n 1, 1) := by decide +kernel
theorem dX9_nameOf_2 : decode cX9_nameOf 2 = .ok (.invokevirtual 73, 3) := by decide +kernel
theorem dX9_nameOf_5 : decode cX9_nameOf 5 = .ok (.ifCond .eq 15, 3) := by decide +kernel
theorem dX9_nameOf_8 : decode cX9_nameOf 8 = .ok (.iload_n 2, 1) := by decide +kernel
theorem dX9_nameOf_9 : decode cX9_nameOf 9 = .ok (.i2l, 1) := by decide +kernel
theorem dX9_nameOf_10 : decode cX9_nameOf 10 = .ok (.lconst 0, 1) := by decide +kernel
theorem dX9_nameOf_11 : decode cX9_nameOf 11 = .ok (.ldc2_w 60, 3) := by decide +kernel
theorem dX9_nameOf_14 : decode cX9_nameOf 14 = .ok (.invokestatic 48, 3) := by decide +kernel
theorem dX9_nameOf_17 : decode cX9_nameOf 17 = .ok (.ifCond .ne 10, 3) := by decide +kernel
theorem dX9_nameOf_20 : decode cX9_nameOf 20 = .ok (.aload_n 0, 1) := by decide +kernel
theorem dX9_nameOf_21 : decode cX9_nameOf 21 = .ok (.ldc 47, 2) := by decide +kernel
theorem dX9_nameOf_23 : decode cX9_nameOf 23 = .ok (.invokevirtual 64, 3) := by decide +kernel
theorem dX9_nameOf_26 : decode cX9_nameOf 26 = .ok (.ireturn, 1) := by decide +kernel
theorem dX9_nameOf_27 : decode cX9_nameOf 27 = .ok (.iload_n 2, 1) := by decide +kernel
theorem dX9_nameOf_28 : decode cX9_nameOf 28 = .ok (.bipush 7, 2) := by decide +kernel
theorem dX9_nameOf_30 : decode cX9_nameOf 30 = .ok (.if_icmp .ge 12, 3) := by decide +kernel
theorem dX9_nameOf_33 : decode cX9_nameOf 33 = .ok (.aload_n 0, 1) := by decide +kernel
theorem dX9_nameOf_34 : decode cX9_nameOf 34 = .ok (.iload_n 1, 1) := by decide +kernel
theorem dX9_nameOf_35 : decode cX9_nameOf 35 = .ok (.iload_n 2, 1) := by decide +kernel
theorem dX9_nameOf_36 : decode cX9_nameOf 36 = .ok (.invokevirtual 69, 3) := by decide +kernel
theorem dX9_nameOf_39 : decode cX9_nameOf 39 = .ok (.goto 16, 3) := by decide +kernel
theorem dX9_nameOf_42 : decode cX9_nameOf 42 = .ok (.aload_n 0, 1) := by decide +kernel
theorem dX9_nameOf_43 : decode cX9_nameOf 43 = .ok (.iload_n 1, 1) := by decide +kernel
theorem dX9_nameOf_44 : decode cX9_nameOf 44 = .ok (.invokevirtual 77, 3) := by decide +kernel
theorem dX9_nameOf_47 : decode cX9_nameOf 47 = .ok (.ifCond .eq 7, 3) := by decide +kernel
theorem dX9_nameOf_50 : decode cX9_nameOf 50 = .ok (.iconst 1, 1) := by decide +kernel
theorem dX9_nameOf_51 : decode cX9_nameOf 51 = .ok (.goto 4, 3) := by decide +kernel
theorem dX9_nameOf_54 : decode cX9_nameOf 54 = .ok (.iconst 0, 1) := by decide +kernel
theorem dX9_nameOf_55 : decode cX9_nameOf 55 = .ok (.ireturn, 1) := by decide +kernel
theorem dX9_may_0 : decode cX9_may 0 = .ok (.iload_n 2, 1) := by decide +kernel
theorem dX9_may_1 : decode cX9_may 1 = .ok (.tableswitch 85 1 4 #[31, 41, 51, 61], 31) := by decide +kernel
theorem dX9_may_32 : decode cX9_may 32 = .ok (.iload_n 3, 1) := by decide +kernel
theorem dX9_may_33 : decode cX9_may 33 = .ok (.i2l, 1) := by decide +kernel
theorem dX9_may_34 : decode cX9_may 34 = .ok (.lconst 1, 1) := by decide +kernel
theorem dX9_may_35 : decode cX9_may 35 = .ok (.ldc2_w 62, 3) := by decide +kernel
theorem dX9_may_38 : decode cX9_may 38 = .ok (.invokestatic 48, 3) := by decide +kernel
theorem dX9_may_41 : decode cX9_may 41 = .ok (.ireturn, 1) := by decide +kernel
theorem dX9_may_42 : decode cX9_may 42 = .ok (.iload_n 3, 1) := by decide +kernel
theorem dX9_may_43 : decode cX9_may 43 = .ok (.i2l, 1) := by decide +kernel
theorem dX9_may_44 : decode cX9_may 44 = .ok (.lconst 1, 1) := by decide +kernel
theorem dX9_may_45 : decode cX9_may 45 = .ok (.ldc2_w 80, 3) := by decide +kernel
theorem dX9_may_48 : decode cX9_may 48 = .ok (.invokestatic 48, 3) := by decide +kernel
theorem dX9_may_51 : decode cX9_may 51 = .ok (.ireturn, 1) := by decide +kernel
theorem dX9_may_52 : decode cX9_may 52 = .ok (.iload_n 3, 1) := by decide +kernel
theorem dX9_may_53 : decode cX9_may 53 = .ok (.i2l, 1) := by decide +kernel
theorem dX9_may_54 : decode cX9_may 54 = .ok (.lconst 0, 1) := by decide +kernel
theorem dX9_may_55 : decode cX9_may 55 = .ok (.ldc2_w 82, 3) := by decide +kernel
theorem dX9_may_58 : decode cX9_may 58 = .ok (.invokestatic 48, 3) := by decide +kernel
theorem dX9_may_61 : decode cX9_may 61 = .ok (.ireturn, 1) := by decide +kernel
theorem dX9_may_62 : decode cX9_may 62 = .ok (.iload_n 3, 1) := by decide +kernel
theorem dX9_may_63 : decode cX9_may 63 = .ok (.iload_n 1, 1) := by decide +kernel
theorem dX9_may_64 : decode cX9_may 64 = .ok (.if_icmp .eq 20, 3) := by decide +kernel
theorem dX9_may_67 : decode cX9_may 67 = .ok (.iload_n 3, 1) := by decide +kernel
theorem dX9_may_68 : decode cX9_may 68 = .ok (.iconst (-1), 1) := by decide +kernel
theorem dX9_may_69 : decode cX9_may 69 = .ok (.if_icmp .eq 11, 3) := by decide +kernel
theorem dX9_may_72 : decode cX9_may 72 = .ok (.aload_n 0, 1) := by decide +kernel
theorem dX9_may_73 : decode cX9_may 73 = .ok (.iload_n 3, 1) := by decide +kernel
theorem dX9_may_74 : decode cX9_may 74 = .ok (.invokevirtual 73, 3) := by decide +kernel
theorem dX9_may_77 : decode cX9_may 77 = .ok (.ifCond .eq 7, 3) := by decide +kernel
theorem dX9_may_80 : decode cX9_may 80 = .ok (.iconst 1, 1) := by decide +kernel
theorem dX9_may_81 : decode cX9_may 81 = .ok (.goto 4, 3) := by decide +kernel
theorem dX9_may_84 : decode cX9_may 84 = .ok (.iconst 0, 1) := by decide +kernel
theorem dX9_may_85 : decode cX9_may 85 = .ok (.ireturn, 1) := by decide +kernel
theorem dX9_may_86 : decode cX9_may 86 = .ok (.iload_n 2, 1) := by decide +kernel
theorem dX9_may_87 : decode cX9_may 87 = .ok (.iconst 5, 1) := by decide +kernel
theorem dX9_may_88 : decode cX9_may 88 = .ok (.if_icmp .ne 14, 3) := by decide +kernel
theorem dX9_may_91 : decode cX9_may 91 = .ok (.iload_n 3, 1) := by decide +kernel
theorem dX9_may_92 : decode cX9_may 92 = .ok (.invokestatic 84, 3) := by decide +kernel
theorem dX9_may_95 : decode cX9_may 95 = .ok (.ifCond .eq 7, 3) := by decide +kernel
theorem dX9_may_98 : decode cX9_may 98 = .ok (.iconst 1, 1) := by decide +kernel
theorem dX9_may_99 : decode cX9_may 99 = .ok (.goto 4, 3) := by decide +kernel
theorem dX9_may_102 : decode cX9_may 102 = .ok (.iconst 0, 1) := by decide +kernel
theorem dX9_may_103 : decode cX9_may 103 = .ok (.ireturn, 1) := by decide +kernel
theorem dX9_becomes_0 : decode cX9_becomes 0 = .ok (.aload_n 0, 1) := by decide +kernel
theorem dX9_becomes_1 : decode cX9_becomes 1 = .ok (.getfield 9, 3) := by decide +kernel
theorem dX9_becomes_4 : decode cX9_becomes 4 = .ok (.iload_n 1, 1) := by decide +kernel
theorem dX9_becomes_5 : decode cX9_becomes 5 = .ok (.iaload, 1) := by decide +kernel
theorem dX9_becomes_6 : decode cX9_becomes 6 = .ok (.istore_n 3, 1) := by decide +kernel
theorem dX9_becomes_7 : decode cX9_becomes 7 = .ok (.aload_n 0, 1) := by decide +kernel
theorem dX9_becomes_8 : decode cX9_becomes 8 = .ok (.getfield 9, 3) := by decide +kernel
theorem dX9_becomes_11 : decode cX9_becomes 11 = .ok (.iload_n 1, 1) := by decide +kernel
theorem dX9_becomes_12 : decode cX9_becomes 12 = .ok (.iload_n 2, 1) := by decide +kernel
theorem dX9_becomes_13 : decode cX9_becomes 13 = .ok (.iastore, 1) := by decide +kernel
theorem dX9_becomes_14 : decode cX9_becomes 14 = .ok (.iload_n 3, 1) := by decide +kernel
theorem dX9_becomes_15 : decode cX9_becomes 15 = .ok (.ireturn, 1) := by decide +kernel
theorem dX9_change_0 : decode cX9_change 0 = .ok (.aload_n 0, 1) := by decide +kernel
theorem dX9_change_1 : decode cX9_change 1 = .ok (.iload_n 1, 1) := by decide +kernel
theorem dX9_change_2 : decode cX9_change 2 = .ok (.invokevirtual 73, 3) := by decide +kernel
theorem dX9_change_5 : decode cX9_change 5 = .ok (.ifCond .eq 30, 3) := by decide +kernel
theorem dX9_change_8 : decode cX9_change 8 = .ok (.aload_n 0, 1) := by decide +kernel
theorem dX9_change_9 : decode cX9_change 9 = .ok (.iload_n 1, 1) := by decide +kernel
theorem dX9_change_10 : decode cX9_change 10 = .ok (.iload_n 2, 1) := by decide +kernel
theorem dX9_change_11 : decode cX9_change 11 = .ok (.iload_n 3, 1) := by decide +kernel
theorem dX9_change_12 : decode cX9_change 12 = .ok (.invokevirtual 87, 3) := by decide +kernel
theorem dX9_change_15 : decode cX9_change 15 = .ok (.ifCond .eq 20, 3) := by decide +kernel
theorem dX9_change_18 : decode cX9_change 18 = .ok (.aload_n 0, 1) := by decide +kernel
theorem dX9_change_19 : decode cX9_change 19 = .ok (.bipush 6, 2) := by decide +kernel
theorem dX9_change_21 : decode cX9_change 21 = .ok (.bipush 8, 2) := by decide +kernel
theorem dX9_change_23 : decode cX9_change 23 = .ok (.iload_n 1, 1) := by decide +kernel
theorem dX9_change_24 : decode cX9_change 24 = .ok (.imul, 1) := by decide +kernel
theorem dX9_change_25 : decode cX9_change 25 = .ok (.iadd, 1) := by decide +kernel
theorem dX9_change_26 : decode cX9_change 26 = .ok (.iload_n 2, 1) := by decide +kernel
theorem dX9_change_27 : decode cX9_change 27 = .ok (.iadd, 1) := by decide +kernel
theorem dX9_change_28 : decode cX9_change 28 = .ok (.iload_n 3, 1) := by decide +kernel
theorem dX9_change_29 : decode cX9_change 29 = .ok (.invokevirtual 91, 3) := by decide +kernel
theorem dX9_change_32 : decode cX9_change 32 = .ok (.goto 9, 3) := by decide +kernel
theorem dX9_change_35 : decode cX9_change 35 = .ok (.aload_n 0, 1) := by decide +kernel
theorem dX9_change_36 : decode cX9_change 36 = .ok (.ldc 47, 2) := by decide +kernel
theorem dX9_change_38 : decode cX9_change 38 = .ok (.invokevirtual 64, 3) := by decide +kernel
theorem dX9_change_41 : decode cX9_change 41 = .ok (.ireturn, 1) := by decide +kernel
theorem dX9_shut_0 : decode cX9_shut 0 = .ok (.aload_n 0, 1) := by decide +kernel
theorem dX9_shut_1 : decode cX9_shut 1 = .ok (.iload_n 1, 1) := by decide +kernel
theorem dX9_shut_2 : decode cX9_shut 2 = .ok (.invokevirtual 73, 3) := by decide +kernel
theorem dX9_shut_5 : decode cX9_shut 5 = .ok (.ifCond .eq 29, 3) := by decide +kernel
theorem dX9_shut_8 : decode cX9_shut 8 = .ok (.aload_n 0, 1) := by decide +kernel
theorem dX9_shut_9 : decode cX9_shut 9 = .ok (.bipush 6, 2) := by decide +kernel
theorem dX9_shut_11 : decode cX9_shut 11 = .ok (.bipush 8, 2) := by decide +kernel
theorem dX9_shut_13 : decode cX9_shut 13 = .ok (.iload_n 1, 1) := by decide +kernel
theorem dX9_shut_14 : decode cX9_shut 14 = .ok (.imul, 1) := by decide +kernel
theorem dX9_shut_15 : decode cX9_shut 15 = .ok (.iadd, 1) := by decide +kernel
theorem dX9_shut_16 : decode cX9_shut 16 = .ok (.bipush 6, 2) := by decide +kernel
theorem dX9_shut_18 : decode cX9_shut 18 = .ok (.iadd, 1) := by decide +kernel
theorem dX9_shut_19 : decode cX9_shut 19 = .ok (.iload_n 2, 1) := by decide +kernel
theorem dX9_shut_20 : decode cX9_shut 20 = .ok (.ifCond .eq 7, 3) := by decide +kernel
theorem dX9_shut_23 : decode cX9_shut 23 = .ok (.iconst 1, 1) := by decide +kernel
theorem dX9_shut_24 : decode cX9_shut 24 = .ok (.goto 4, 3) := by decide +kernel
theorem dX9_shut_27 : decode cX9_shut 27 = .ok (.iconst 0, 1) := by decide +kernel
theorem dX9_shut_28 : decode cX9_shut 28 = .ok (.invokevirtual 91, 3) := by decide +kernel
theorem dX9_shut_31 : decode cX9_shut 31 = .ok (.goto 9, 3) := by decide +kernel
theorem dX9_shut_34 : decode cX9_shut 34 = .ok (.aload_n 0, 1) := by decide +kernel
theorem dX9_shut_35 : decode cX9_shut 35 = .ok (.ldc 47, 2) := by decide +kernel
theorem dX9_shut_37 : decode cX9_shut 37 = .ok (.invokevirtual 64, 3) := by decide +kernel
theorem dX9_shut_40 : decode cX9_shut 40 = .ok (.ireturn, 1) := by decide +kernel
theorem dX9_object_0 : decode cX9_object 0 = .ok (.iconst 0, 1) := by decide +kernel
theorem dX9_object_1 : decode cX9_object 1 = .ok (.istore_n 1, 1) := by decide +kernel
theorem dX9_object_2 : decode cX9_object 2 = .ok (.iconst 0, 1) := by decide +kernel
theorem dX9_object_3 : decode cX9_object 3 = .ok (.istore_n 2, 1) := by decide +kernel
theorem dX9_object_4 : decode cX9_object 4 = .ok (.iload_n 2, 1) := by decide +kernel
theorem dX9_object_5 : decode cX9_object 5 = .ok (.aload_n 0, 1) := by decide +kernel
theorem dX9_object_6 : decode cX9_object 6 = .ok (.getfield 9, 3) := by decide +kernel
theorem dX9_object_9 : decode cX9_object 9 = .ok (.iconst 0, 1) := by decide +kernel
theorem dX9_object_10 : decode cX9_object 10 = .ok (.iaload, 1) := by decide +kernel
theorem dX9_object_11 : decode cX9_object 11 = .ok (.if_icmp .ge 39, 3) := by decide +kernel
theorem dX9_object_14 : decode cX9_object 14 = .ok (.iload_n 1, 1) := by decide +kernel
theorem dX9_object_15 : decode cX9_object 15 = .ok (.aload_n 0, 1) := by decide +kernel
theorem dX9_object_16 : decode cX9_object 16 = .ok (.iload_n 2, 1) := by decide +kernel
theorem dX9_object_17 : decode cX9_object 17 = .ok (.invokevirtual 77, 3) := by decide +kernel
theorem dX9_object_20 : decode cX9_object 20 = .ok (.ifCond .eq 21, 3) := by decide +kernel
theorem dX9_object_23 : decode cX9_object 23 = .ok (.aload_n 0, 1) := by decide +kernel
theorem dX9_object_24 : decode cX9_object 24 = .ok (.bipush 6, 2) := by decide +kernel
theorem dX9_object_26 : decode cX9_object 26 = .ok (.bipush 8, 2) := by decide +kernel
theorem dX9_object_28 : decode cX9_object 28 = .ok (.iload_n 2, 1) := by decide +kernel
theorem dX9_object_29 : decode cX9_object 29 = .ok (.imul, 1) := by decide +kernel
theorem dX9_object_30 : decode cX9_object 30 = .ok (.iadd, 1) := by decide +kernel
theorem dX9_object_31 : decode cX9_object 31 = .ok (.bipush 6, 2) := by decide +kernel
theorem dX9_object_33 : decode cX9_object 33 = .ok (.iadd, 1) := by decide +kernel
theorem dX9_object_34 : decode cX9_object 34 = .ok (.iconst 0, 1) := by decide +kernel
theorem dX9_object_35 : decode cX9_object 35 = .ok (.invokevirtual 91, 3) := by decide +kernel
theorem dX9_object_38 : decode cX9_object 38 = .ok (.goto 4, 3) := by decide +kernel
theorem dX9_object_41 : decode cX9_object 41 = .ok (.iconst 0, 1) := by decide +kernel
theorem dX9_object_42 : decode cX9_object 42 = .ok (.iadd, 1) := by decide +kernel
theorem dX9_object_43 : decode cX9_object 43 = .ok (.istore_n 1, 1) := by decide +kernel
theorem dX9_object_44 : decode cX9_object 44 = .ok (.iinc 2 1, 3) := by decide +kernel
theorem dX9_object_47 : decode cX9_object 47 = .ok (.goto (-43), 3) := by decide +kernel
theorem dX9_object_50 : decode cX9_object 50 = .ok (.iload_n 1, 1) := by decide +kernel
theorem dX9_object_51 : decode cX9_object 51 = .ok (.ireturn, 1) := by decide +kernel
theorem dX9_hourOf_0 : decode cX9_hourOf 0 = .ok (.iload_n 0, 1) := by decide +kernel
theorem dX9_hourOf_1 : decode cX9_hourOf 1 = .ok (.bipush 100, 2) := by decide +kernel
theorem dX9_hourOf_3 : decode cX9_hourOf 3 = .ok (.idiv, 1) := by decide +kernel
theorem dX9_hourOf_4 : decode cX9_hourOf 4 = .ok (.bipush 10, 2) := by decide +kernel
theorem dX9_hourOf_6 : decode cX9_hourOf 6 = .ok (.irem, 1) := by decide +kernel
theorem dX9_hourOf_7 : decode cX9_hourOf 7 = .ok (.ireturn, 1) := by decide +kernel
theorem dX9_isAwake_0 : decode cX9_isAwake 0 = .ok (.aload_n 0, 1) := by decide +kernel
theorem dX9_isAwake_1 : decode cX9_isAwake 1 = .ok (.iload_n 1, 1) := by decide +kernel
theorem dX9_isAwake_2 : decode cX9_isAwake 2 = .ok (.iconst 2, 1) := by decide +kernel
theorem dX9_isAwake_3 : decode cX9_isAwake 3 = .ok (.invokevirtual 69, 3) := by decide +kernel
theorem dX9_isAwake_6 : decode cX9_isAwake 6 = .ok (.iload_n 2, 1) := by decide +kernel
theorem dX9_isAwake_7 : decode cX9_isAwake 7 = .ok (.invokestatic 94, 3) := by decide +kernel
theorem dX9_isAwake_10 : decode cX9_isAwake 10 = .ok (.invokestatic 97, 3) := by decide +kernel
theorem dX9_isAwake_13 : decode cX9_isAwake 13 = .ok (.ireturn, 1) := by decide +kernel
theorem dX9_byGap_0 : decode cX9_byGap 0 = .ok (.iload_n 2, 1) := by decide +kernel
theorem dX9_byGap_1 : decode cX9_byGap 1 = .ok (.aload_n 0, 1) := by decide +kernel
theorem dX9_byGap_2 : decode cX9_byGap 2 = .ok (.iload_n 1, 1) := by decide +kernel
theorem dX9_byGap_3 : decode cX9_byGap 3 = .ok (.iconst 1, 1) := by decide +kernel
theorem dX9_byGap_4 : decode cX9_byGap 4 = .ok (.invokevirtual 69, 3) := by decide +kernel
theorem dX9_byGap_7 : decode cX9_byGap 7 = .ok (.irem, 1) := by decide +kernel
theorem dX9_byGap_8 : decode cX9_byGap 8 = .ok (.ifCond .ne 7, 3) := by decide +kernel
theorem dX9_byGap_11 : decode cX9_byGap 11 = .ok (.iconst 1, 1) := by decide +kernel
theorem dX9_byGap_12 : decode cX9_byGap 12 = .ok (.goto 4, 3) := by decide +kernel
theorem dX9_byGap_15 : decode cX9_byGap 15 = .ok (.iconst 0, 1) := by decide +kernel
theorem dX9_byGap_16 : decode cX9_byGap 16 = .ok (.ireturn, 1) := by decide +kernel
theorem dX9_byClock_0 : decode cX9_byClock 0 = .ok (.aload_n 0, 1) := by decide +kernel
theorem dX9_byClock_1 : decode cX9_byClock 1 = .ok (.iload_n 1, 1) := by decide +kernel
theorem dX9_byClock_2 : decode cX9_byClock 2 = .ok (.iconst 1, 1) := by decide +kernel
theorem dX9_byClock_3 : decode cX9_byClock 3 = .ok (.invokevirtual 69, 3) := by decide +kernel
theorem dX9_byClock_6 : decode cX9_byClock 6 = .ok (.istore_n 3, 1) := by decide +kernel
theorem dX9_byClock_7 : decode cX9_byClock 7 = .ok (.bipush 7, 2) := by decide +kernel
theorem dX9_byClock_9 : decode cX9_byClock 9 = .ok (.iload_n 2, 1) := by decide +kernel
theorem dX9_byClock_10 : decode cX9_byClock 10 = .ok (.iload_n 3, 1) := by decide +kernel
theorem dX9_byClock_11 : decode cX9_byClock 11 = .ok (.idiv, 1) := by decide +kernel
theorem dX9_byClock_12 : decode cX9_byClock 12 = .ok (.imul, 1) := by decide +kernel
theorem dX9_byClock_13 : decode cX9_byClock 13 = .ok (.iconst 3, 1) := by decide +kernel
theorem dX9_byClock_14 : decode cX9_byClock 14 = .ok (.iload_n 1, 1) := by decide +kernel
theorem dX9_byClock_15 : decode cX9_byClock 15 = .ok (.imul, 1) := by decide +kernel
theorem dX9_byClock_16 : decode cX9_byClock 16 = .ok (.iadd, 1) := by decide +kernel
theorem dX9_byClock_17 : decode cX9_byClock 17 = .ok (.aload_n 0, 1) := by decide +kernel
theorem dX9_byClock_18 : decode cX9_byClock 18 = .ok (.iload_n 1, 1) := by decide +kernel
theorem dX9_byClock_19 : decode cX9_byClock 19 = .ok (.iconst 3, 1) := by decide +kernel
theorem dX9_byClock_20 : decode cX9_byClock 20 = .ok (.invokevirtual 69, 3) := by decide +kernel
theorem dX9_byClock_23 : decode cX9_byClock 23 = .ok (.iconst 1, 1) := by decide +kernel
theorem dX9_byClock_24 : decode cX9_byClock 24 = .ok (.iadd, 1) := by decide +kernel
theorem dX9_byClock_25 : decode cX9_byClock 25 = .ok (.irem, 1) := by decide +kernel
theorem dX9_byClock_26 : decode cX9_byClock 26 = .ok (.istore 4, 2) := by decide +kernel
theorem dX9_byClock_28 : decode cX9_byClock 28 = .ok (.iload_n 2, 1) := by decide +kernel
theorem dX9_byClock_29 : decode cX9_byClock 29 = .ok (.iload_n 3, 1) := by decide +kernel
theorem dX9_byClock_30 : decode cX9_byClock 30 = .ok (.irem, 1) := by decide +kernel
theorem dX9_byClock_31 : decode cX9_byClock 31 = .ok (.iload 4, 2) := by decide +kernel
theorem dX9_byClock_33 : decode cX9_byClock 33 = .ok (.iload_n 3, 1) := by decide +kernel
theorem dX9_byClock_34 : decode cX9_byClock 34 = .ok (.if_icmp .ge 8, 3) := by decide +kernel
theorem dX9_byClock_37 : decode cX9_byClock 37 = .ok (.iload 4, 2) := by decide +kernel
theorem dX9_byClock_39 : decode cX9_byClock 39 = .ok (.goto 6, 3) := by decide +kernel
theorem dX9_byClock_42 : decode cX9_byClock 42 = .ok (.iload_n 3, 1) := by decide +kernel
theorem dX9_byClock_43 : decode cX9_byClock 43 = .ok (.iconst 1, 1) := by decide +kernel
theorem dX9_byClock_44 : decode cX9_byClock 44 = .ok (.isub, 1) := by decide +kernel
theorem dX9_byClock_45 : decode cX9_byClock 45 = .ok (.if_icmp .ne 7, 3) := by decide +kernel
theorem dX9_byClock_48 : decode cX9_byClock 48 = .ok (.iconst 1, 1) := by decide +kernel
theorem dX9_byClock_49 : decode cX9_byClock 49 = .ok (.goto 4, 3) := by decide +kernel
theorem dX9_byClock_52 : decode cX9_byClock 52 = .ok (.iconst 0, 1) := by decide +kernel
theorem dX9_byClock_53 : decode cX9_byClock 53 = .ok (.ireturn, 1) := by decide +kernel
theorem dX9_isLed_0 : decode cX9_isLed 0 = .ok (.iconst 0, 1) := by decide +kernel
theorem dX9_isLed_1 : decode cX9_isLed 1 = .ok (.istore_n 3, 1) := by decide +kernel
theorem dX9_isLed_2 : decode cX9_isLed 2 = .ok (.iload_n 3, 1) := by decide +kernel
theorem dX9_isLed_3 : decode cX9_isLed 3 = .ok (.aload_n 0, 1) := by decide +kernel
theorem dX9_isLed_4 : decode cX9_isLed 4 = .ok (.getfield 9, 3) := by decide +kernel
theorem dX9_isLed_7 : decode cX9_isLed 7 = .ok (.iconst 2, 1) := by decide +kernel
theorem dX9_isLed_8 : decode cX9_isLed 8 = .ok (.iaload, 1) := by decide +kernel
theorem dX9_isLed_9 : decode cX9_isLed 9 = .ok (.if_icmp .ge 31, 3) := by decide +kernel
theorem dX9_isLed_12 : decode cX9_isLed 12 = .ok (.aload_n 0, 1) := by decide +kernel
theorem dX9_isLed_13 : decode cX9_isLed 13 = .ok (.iload_n 3, 1) := by decide +kernel
theorem dX9_isLed_14 : decode cX9_isLed 14 = .ok (.iconst 1, 1) := by decide +kernel
theorem dX9_isLed_15 : decode cX9_isLed 15 = .ok (.invokevirtual 101, 3) := by decide +kernel
theorem dX9_isLed_18 : decode cX9_isLed 18 = .ok (.iload_n 1, 1) := by decide +kernel
theorem dX9_isLed_19 : decode cX9_isLed 19 = .ok (.if_icmp .ne 15, 3) := by decide +kernel
theorem dX9_isLed_22 : decode cX9_isLed 22 = .ok (.aload_n 0, 1) := by decide +kernel
theorem dX9_isLed_23 : decode cX9_isLed 23 = .ok (.iload_n 3, 1) := by decide +kernel
theorem dX9_isLed_24 : decode cX9_isLed 24 = .ok (.iconst 0, 1) := by decide +kernel
theorem dX9_isLed_25 : decode cX9_isLed 25 = .ok (.invokevirtual 101, 3) := by decide +kernel
theorem dX9_isLed_28 : decode cX9_isLed 28 = .ok (.iload_n 2, 1) := by decide +kernel
theorem dX9_isLed_29 : decode cX9_isLed 29 = .ok (.if_icmp .ne 5, 3) := by decide +kernel
theorem dX9_isLed_32 : decode cX9_isLed 32 = .ok (.iconst 1, 1) := by decide +kernel
theorem dX9_isLed_33 : decode cX9_isLed 33 = .ok (.ireturn, 1) := by decide +kernel
theorem dX9_isLed_34 : decode cX9_isLed 34 = .ok (.iinc 3 1, 3) := by decide +kernel
theorem dX9_isLed_37 : decode cX9_isLed 37 = .ok (.goto (-35), 3) := by decide +kernel
theorem dX9_isLed_40 : decode cX9_isLed 40 = .ok (.iconst 0, 1) := by decide +kernel
theorem dX9_isLed_41 : decode cX9_isLed 41 = .ok (.ireturn, 1) := by decide +kernel
theorem dX9_doesSpeak_0 : decode cX9_doesSpeak 0 = .ok (.aload_n 0, 1) := by decide +kernel
theorem dX9_doesSpeak_1 : decode cX9_doesSpeak 1 = .ok (.iload_n 1, 1) := by decide +kernel
theorem dX9_doesSpeak_2 : decode cX9_doesSpeak 2 = .ok (.iconst 0, 1) := by decide +kernel
theorem dX9_doesSpeak_3 : decode cX9_doesSpeak 3 = .ok (.invokevirtual 69, 3) := by decide +kernel
theorem dX9_doesSpeak_6 : decode cX9_doesSpeak 6 = .ok (.tableswitch 181 0 6 #[42, 49, 73, 49, 80, 104, 132], 42) := by decide +kernel
theorem dX9_doesSpeak_48 : decode cX9_doesSpeak 48 = .ok (.aload_n 0, 1) := by decide +kernel
theorem dX9_doesSpeak_49 : decode cX9_doesSpeak 49 = .ok (.iload_n 1, 1) := by decide +kernel
theorem dX9_doesSpeak_50 : decode cX9_doesSpeak 50 = .ok (.iload_n 2, 1) := by decide +kernel
theorem dX9_doesSpeak_51 : decode cX9_doesSpeak 51 = .ok (.invokevirtual 104, 3) := by decide +kernel
theorem dX9_doesSpeak_54 : decode cX9_doesSpeak 54 = .ok (.ireturn, 1) := by decide +kernel
theorem dX9_doesSpeak_55 : decode cX9_doesSpeak 55 = .ok (.aload_n 0, 1) := by decide +kernel
theorem dX9_doesSpeak_56 : decode cX9_doesSpeak 56 = .ok (.iload_n 1, 1) := by decide +kernel
theorem dX9_doesSpeak_57 : decode cX9_doesSpeak 57 = .ok (.iload_n 2, 1) := by decide +kernel
theorem dX9_doesSpeak_58 : decode cX9_doesSpeak 58 = .ok (.invokevirtual 104, 3) := by decide +kernel
theorem dX9_doesSpeak_61 : decode cX9_doesSpeak 61 = .ok (.ifCond .eq 16, 3) := by decide +kernel
theorem dX9_doesSpeak_64 : decode cX9_doesSpeak 64 = .ok (.aload_n 0, 1) := by decide +kernel
theorem dX9_doesSpeak_65 : decode cX9_doesSpeak 65 = .ok (.iload_n 1, 1) := by decide +kernel
theorem dX9_doesSpeak_66 : decode cX9_doesSpeak 66 = .ok (.iload_n 2, 1) := by decide +kernel
theorem dX9_doesSpeak_67 : decode cX9_doesSpeak 67 = .ok (.invokevirtual 107, 3) := by decide +kernel
theorem dX9_doesSpeak_70 : decode cX9_doesSpeak 70 = .ok (.ifCond .eq 7, 3) := by decide +kernel
theorem dX9_doesSpeak_73 : decode cX9_doesSpeak 73 = .ok (.iconst 1, 1) := by decide +kernel
theorem dX9_doesSpeak_74 : decode cX9_doesSpeak 74 = .ok (.goto 4, 3) := by decide +kernel
theorem dX9_doesSpeak_77 : decode cX9_doesSpeak 77 = .ok (.iconst 0, 1) := by decide +kernel
theorem dX9_doesSpeak_78 : decode cX9_doesSpeak 78 = .ok (.ireturn, 1) := by decide +kernel
theorem dX9_doesSpeak_79 : decode cX9_doesSpeak 79 = .ok (.aload_n 0, 1) := by decide +kernel
theorem dX9_doesSpeak_80 : decode cX9_doesSpeak 80 = .ok (.iload_n 1, 1) := by decide +kernel
theorem dX9_doesSpeak_81 : decode cX9_doesSpeak 81 = .ok (.iload_n 2, 1) := by decide +kernel
theorem dX9_doesSpeak_82 : decode cX9_doesSpeak 82 = .ok (.invokevirtual 110, 3) := by decide +kernel
theorem dX9_doesSpeak_85 : decode cX9_doesSpeak 85 = .ok (.ireturn, 1) := by decide +kernel
theorem dX9_doesSpeak_86 : decode cX9_doesSpeak 86 = .ok (.aload_n 0, 1) := by decide +kernel
theorem dX9_doesSpeak_87 : decode cX9_doesSpeak 87 = .ok (.iload_n 1, 1) := by decide +kernel
theorem dX9_doesSpeak_88 : decode cX9_doesSpeak 88 = .ok (.iload_n 2, 1) := by decide +kernel
theorem dX9_doesSpeak_89 : decode cX9_doesSpeak 89 = .ok (.invokevirtual 110, 3) := by decide +kernel
theorem dX9_doesSpeak_92 : decode cX9_doesSpeak 92 = .ok (.ifCond .eq 16, 3) := by decide +kernel
theorem dX9_doesSpeak_95 : decode cX9_doesSpeak 95 = .ok (.aload_n 0, 1) := by decide +kernel
theorem dX9_doesSpeak_96 : decode cX9_doesSpeak 96 = .ok (.iload_n 1, 1) := by decide +kernel
theorem dX9_doesSpeak_97 : decode cX9_doesSpeak 97 = .ok (.iload_n 2, 1) := by decide +kernel
theorem dX9_doesSpeak_98 : decode cX9_doesSpeak 98 = .ok (.invokevirtual 107, 3) := by decide +kernel
theorem dX9_doesSpeak_101 : decode cX9_doesSpeak 101 = .ok (.ifCond .eq 7, 3) := by decide +kernel
theorem dX9_doesSpeak_104 : decode cX9_doesSpeak 104 = .ok (.iconst 1, 1) := by decide +kernel
theorem dX9_doesSpeak_105 : decode cX9_doesSpeak 105 = .ok (.goto 4, 3) := by decide +kernel
theorem dX9_doesSpeak_108 : decode cX9_doesSpeak 108 = .ok (.iconst 0, 1) := by decide +kernel
theorem dX9_doesSpeak_109 : decode cX9_doesSpeak 109 = .ok (.ireturn, 1) := by decide +kernel
theorem dX9_doesSpeak_110 : decode cX9_doesSpeak 110 = .ok (.iload_n 2, 1) := by decide +kernel
theorem dX9_doesSpeak_111 : decode cX9_doesSpeak 111 = .ok (.iconst 2, 1) := by decide +kernel
theorem dX9_doesSpeak_112 : decode cX9_doesSpeak 112 = .ok (.iload_n 1, 1) := by decide +kernel
theorem dX9_doesSpeak_113 : decode cX9_doesSpeak 113 = .ok (.imul, 1) := by decide +kernel
theorem dX9_doesSpeak_114 : decode cX9_doesSpeak 114 = .ok (.if_icmp .lt 22, 3) := by decide +kernel
theorem dX9_doesSpeak_117 : decode cX9_doesSpeak 117 = .ok (.iload_n 2, 1) := by decide +kernel
theorem dX9_doesSpeak_118 : decode cX9_doesSpeak 118 = .ok (.iconst 2, 1) := by decide +kernel
theorem dX9_doesSpeak_119 : decode cX9_doesSpeak 119 = .ok (.iload_n 1, 1) := by decide +kernel
theorem dX9_doesSpeak_120 : decode cX9_doesSpeak 120 = .ok (.imul, 1) := by decide +kernel
theorem dX9_doesSpeak_121 : decode cX9_doesSpeak 121 = .ok (.isub, 1) := by decide +kernel
theorem dX9_doesSpeak_122 : decode cX9_doesSpeak 122 = .ok (.aload_n 0, 1) := by decide +kernel
theorem dX9_doesSpeak_123 : decode cX9_doesSpeak 123 = .ok (.iload_n 1, 1) := by decide +kernel
theorem dX9_doesSpeak_124 : decode cX9_doesSpeak 124 = .ok (.iconst 1, 1) := by decide +kernel
theorem dX9_doesSpeak_125 : decode cX9_doesSpeak 125 = .ok (.invokevirtual 69, 3) := by decide +kernel
theorem dX9_doesSpeak_128 : decode cX9_doesSpeak 128 = .ok (.irem, 1) := by decide +kernel
theorem dX9_doesSpeak_129 : decode cX9_doesSpeak 129 = .ok (.ifCond .ne 7, 3) := by decide +kernel
theorem dX9_doesSpeak_132 : decode cX9_doesSpeak 132 = .ok (.iconst 1, 1) := by decide +kernel
theorem dX9_doesSpeak_133 : decode cX9_doesSpeak 133 = .ok (.goto 4, 3) := by decide +kernel
theorem dX9_doesSpeak_136 : decode cX9_doesSpeak 136 = .ok (.iconst 0, 1) := by decide +kernel
theorem dX9_doesSpeak_137 : decode cX9_doesSpeak 137 = .ok (.ireturn, 1) := by decide +kernel
theorem dX9_doesSpeak_138 : decode cX9_doesSpeak 138 = .ok (.aload_n 0, 1) := by decide +kernel
theorem dX9_doesSpeak_139 : decode cX9_doesSpeak 139 = .ok (.iload_n 1, 1) := by decide +kernel
theorem dX9_doesSpeak_140 : decode cX9_doesSpeak 140 = .ok (.iload_n 2, 1) := by decide +kernel
theorem dX9_doesSpeak_141 : decode cX9_doesSpeak 141 = .ok (.invokevirtual 104, 3) := by decide +kernel
theorem dX9_doesSpeak_144 : decode cX9_doesSpeak 144 = .ok (.ifCond .eq 12, 3) := by decide +kernel
theorem dX9_doesSpeak_147 : decode cX9_doesSpeak 147 = .ok (.aload_n 0, 1) := by decide +kernel
theorem dX9_doesSpeak_148 : decode cX9_doesSpeak 148 = .ok (.iload_n 1, 1) := by decide +kernel
theorem dX9_doesSpeak_149 : decode cX9_doesSpeak 149 = .ok (.iload_n 2, 1) := by decide +kernel
theorem dX9_doesSpeak_150 : decode cX9_doesSpeak 150 = .ok (.invokevirtual 107, 3) := by decide +kernel
theorem dX9_doesSpeak_153 : decode cX9_doesSpeak 153 = .ok (.ifCond .ne 28, 3) := by decide +kernel
theorem dX9_doesSpeak_156 : decode cX9_doesSpeak 156 = .ok (.aload_n 0, 1) := by decide +kernel
theorem dX9_doesSpeak_157 : decode cX9_doesSpeak 157 = .ok (.iload_n 1, 1) := by decide +kernel
theorem dX9_doesSpeak_158 : decode cX9_doesSpeak 158 = .ok (.iconst 4, 1) := by decide +kernel
theorem dX9_doesSpeak_159 : decode cX9_doesSpeak 159 = .ok (.invokevirtual 69, 3) := by decide +kernel
theorem dX9_doesSpeak_162 : decode cX9_doesSpeak 162 = .ok (.ifCond .lt 23, 3) := by decide +kernel
theorem dX9_doesSpeak_165 : decode cX9_doesSpeak 165 = .ok (.aload_n 0, 1) := by decide +kernel
theorem dX9_doesSpeak_166 : decode cX9_doesSpeak 166 = .ok (.aload_n 0, 1) := by decide +kernel
theorem dX9_doesSpeak_167 : decode cX9_doesSpeak 167 = .ok (.iload_n 1, 1) := by decide +kernel
theorem dX9_doesSpeak_168 : decode cX9_doesSpeak 168 = .ok (.iconst 4, 1) := by decide +kernel
theorem dX9_doesSpeak_169 : decode cX9_doesSpeak 169 = .ok (.invokevirtual 69, 3) := by decide +kernel
theorem dX9_doesSpeak_172 : decode cX9_doesSpeak 172 = .ok (.iload_n 2, 1) := by decide +kernel
theorem dX9_doesSpeak_173 : decode cX9_doesSpeak 173 = .ok (.iconst 1, 1) := by decide +kernel
theorem dX9_doesSpeak_174 : decode cX9_doesSpeak 174 = .ok (.isub, 1) := by decide +kernel
theorem dX9_doesSpeak_175 : decode cX9_doesSpeak 175 = .ok (.invokevirtual 113, 3) := by decide +kernel
theorem dX9_doesSpeak_178 : decode cX9_doesSpeak 178 = .ok (.ifCond .eq 7, 3) := by decide +kernel
theorem dX9_doesSpeak_181 : decode cX9_doesSpeak 181 = .ok (.iconst 1, 1) := by decide +kernel
theorem dX9_doesSpeak_182 : decode cX9_doesSpeak 182 = .ok (.goto 4, 3) := by decide +kernel
theorem dX9_doesSpeak_185 : decode cX9_doesSpeak 185 = .ok (.iconst 0, 1) := by decide +kernel
theorem dX9_doesSpeak_186 : decode cX9_doesSpeak 186 = .ok (.ireturn, 1) := by decide +kernel
theorem dX9_doesSpeak_187 : decode cX9_doesSpeak 187 = .ok (.aload_n 0, 1) := by decide +kernel
theorem dX9_doesSpeak_188 : decode cX9_doesSpeak 188 = .ok (.iload_n 1, 1) := by decide +kernel
theorem dX9_doesSpeak_189 : decode cX9_doesSpeak 189 = .ok (.iload_n 2, 1) := by decide +kernel
theorem dX9_doesSpeak_190 : decode cX9_doesSpeak 190 = .ok (.invokevirtual 107, 3) := by decide +kernel
theorem dX9_doesSpeak_193 : decode cX9_doesSpeak 193 = .ok (.ifCond .eq 41, 3) := by decide +kernel
theorem dX9_doesSpeak_196 : decode cX9_doesSpeak 196 = .ok (.iload_n 2, 1) := by decide +kernel
theorem dX9_doesSpeak_197 : decode cX9_doesSpeak 197 = .ok (.sipush 1000, 3) := by decide +kernel
theorem dX9_doesSpeak_200 : decode cX9_doesSpeak 200 = .ok (.idiv, 1) := by decide +kernel
theorem dX9_doesSpeak_201 : decode cX9_doesSpeak 201 = .ok (.bipush 7, 2) := by decide +kernel
theorem dX9_doesSpeak_203 : decode cX9_doesSpeak 203 = .ok (.irem, 1) := by decide +kernel
theorem dX9_doesSpeak_204 : decode cX9_doesSpeak 204 = .ok (.bipush 6, 2) := by decide +kernel
theorem dX9_doesSpeak_206 : decode cX9_doesSpeak 206 = .ok (.if_icmp .ne 15, 3) := by decide +kernel
theorem dX9_doesSpeak_209 : decode cX9_doesSpeak 209 = .ok (.aload_n 0, 1) := by decide +kernel
theorem dX9_doesSpeak_210 : decode cX9_doesSpeak 210 = .ok (.iload_n 1, 1) := by decide +kernel
theorem dX9_doesSpeak_211 : decode cX9_doesSpeak 211 = .ok (.iload_n 2, 1) := by decide +kernel
theorem dX9_doesSpeak_212 : decode cX9_doesSpeak 212 = .ok (.invokevirtual 110, 3) := by decide +kernel
theorem dX9_doesSpeak_215 : decode cX9_doesSpeak 215 = .ok (.ifCond .eq 19, 3) := by decide +kernel
theorem dX9_doesSpeak_218 : decode cX9_doesSpeak 218 = .ok (.goto 12, 3) := by decide +kernel
theorem dX9_doesSpeak_221 : decode cX9_doesSpeak 221 = .ok (.aload_n 0, 1) := by decide +kernel
theorem dX9_doesSpeak_222 : decode cX9_doesSpeak 222 = .ok (.iload_n 1, 1) := by decide +kernel
theorem dX9_doesSpeak_223 : decode cX9_doesSpeak 223 = .ok (.iload_n 2, 1) := by decide +kernel
theorem dX9_doesSpeak_224 : decode cX9_doesSpeak 224 = .ok (.invokevirtual 104, 3) := by decide +kernel
theorem dX9_doesSpeak_227 : decode cX9_doesSpeak 227 = .ok (.ifCond .eq 7, 3) := by decide +kernel
theorem dX9_doesSpeak_230 : decode cX9_doesSpeak 230 = .ok (.iconst 1, 1) := by decide +kernel
theorem dX9_doesSpeak_231 : decode cX9_doesSpeak 231 = .ok (.goto 4, 3) := by decide +kernel
theorem dX9_doesSpeak_234 : decode cX9_doesSpeak 234 = .ok (.iconst 0, 1) := by decide +kernel
theorem dX9_doesSpeak_235 : decode cX9_doesSpeak 235 = .ok (.ireturn, 1) := by decide +kernel
theorem dX9_speaks_0 : decode cX9_speaks 0 = .ok (.aload_n 0, 1) := by decide +kernel
theorem dX9_speaks_1 : decode cX9_speaks 1 = .ok (.iload_n 1, 1) := by decide +kernel
theorem dX9_speaks_2 : decode cX9_speaks 2 = .ok (.invokevirtual 73, 3) := by decide +kernel
theorem dX9_speaks_5 : decode cX9_speaks 5 = .ok (.ifCond .eq 10, 3) := by decide +kernel
theorem dX9_speaks_8 : decode cX9_speaks 8 = .ok (.iload_n 2, 1) := by decide +kernel
theorem dX9_speaks_9 : decode cX9_speaks 9 = .ok (.invokestatic 116, 3) := by decide +kernel
theorem dX9_speaks_12 : decode cX9_speaks 12 = .ok (.ifCond .ne 10, 3) := by decide +kernel
theorem dX9_speaks_15 : decode cX9_speaks 15 = .ok (.aload_n 0, 1) := by decide +kernel
theorem dX9_speaks_16 : decode cX9_speaks 16 = .ok (.ldc 47, 2) := by decide +kernel
theorem dX9_speaks_18 : decode cX9_speaks 18 = .ok (.invokevirtual 64, 3) := by decide +kernel
theorem dX9_speaks_21 : decode cX9_speaks 21 = .ok (.ireturn, 1) := by decide +kernel
theorem dX9_speaks_22 : decode cX9_speaks 22 = .ok (.aload_n 0, 1) := by decide +kernel
theorem dX9_speaks_23 : decode cX9_speaks 23 = .ok (.iload_n 1, 1) := by decide +kernel
theorem dX9_speaks_24 : decode cX9_speaks 24 = .ok (.iload_n 2, 1) := by decide +kernel
theorem dX9_speaks_25 : decode cX9_speaks 25 = .ok (.invokevirtual 119, 3) := by decide +kernel
theorem dX9_speaks_28 : decode cX9_speaks 28 = .ok (.ifCond .eq 7, 3) := by decide +kernel
theorem dX9_speaks_31 : decode cX9_speaks 31 = .ok (.iconst 1, 1) := by decide +kernel
theorem dX9_speaks_32 : decode cX9_speaks 32 = .ok (.goto 4, 3) := by decide +kernel
theorem dX9_speaks_35 : decode cX9_speaks 35 = .ok (.iconst 0, 1) := by decide +kernel
theorem dX9_speaks_36 : decode cX9_speaks 36 = .ok (.ireturn, 1) := by decide +kernel
theorem dX9_next_0 : decode cX9_next 0 = .ok (.aload_n 0, 1) := by decide +kernel
theorem dX9_next_1 : decode cX9_next 1 = .ok (.iload_n 1, 1) := by decide +kernel
theorem dX9_next_2 : decode cX9_next 2 = .ok (.invokevirtual 73, 3) := by decide +kernel
theorem dX9_next_5 : decode cX9_next 5 = .ok (.ifCond .eq 10, 3) := by decide +kernel
theorem dX9_next_8 : decode cX9_next 8 = .ok (.iload_n 2, 1) := by decide +kernel
theorem dX9_next_9 : decode cX9_next 9 = .ok (.invokestatic 116, 3) := by decide +kernel
theorem dX9_next_12 : decode cX9_next 12 = .ok (.ifCond .ne 10, 3) := by decide +kernel
theorem dX9_next_15 : decode cX9_next 15 = .ok (.aload_n 0, 1) := by decide +kernel
theorem dX9_next_16 : decode cX9_next 16 = .ok (.ldc 47, 2) := by decide +kernel
theorem dX9_next_18 : decode cX9_next 18 = .ok (.invokevirtual 64, 3) := by decide +kernel
theorem dX9_next_21 : decode cX9_next 21 = .ok (.ireturn, 1) := by decide +kernel
theorem dX9_next_22 : decode cX9_next 22 = .ok (.iload_n 2, 1) := by decide +kernel
theorem dX9_next_23 : decode cX9_next 23 = .ok (.istore_n 3, 1) := by decide +kernel
theorem dX9_next_24 : decode cX9_next 24 = .ok (.iload_n 3, 1) := by decide +kernel
theorem dX9_next_25 : decode cX9_next 25 = .ok (.iload_n 2, 1) := by decide +kernel
theorem dX9_next_26 : decode cX9_next 26 = .ok (.sipush 2000, 3) := by decide +kernel
theorem dX9_next_29 : decode cX9_next 29 = .ok (.iadd, 1) := by decide +kernel
theorem dX9_next_30 : decode cX9_next 30 = .ok (.if_icmp .ge 27, 3) := by decide +kernel
theorem dX9_next_33 : decode cX9_next 33 = .ok (.iload_n 3, 1) := by decide +kernel
theorem dX9_next_34 : decode cX9_next 34 = .ok (.sipush 29999, 3) := by decide +kernel
theorem dX9_next_37 : decode cX9_next 37 = .ok (.if_icmp .gt 20, 3) := by decide +kernel
theorem dX9_next_40 : decode cX9_next 40 = .ok (.aload_n 0, 1) := by decide +kernel
theorem dX9_next_41 : decode cX9_next 41 = .ok (.iload_n 1, 1) := by decide +kernel
theorem dX9_next_42 : decode cX9_next 42 = .ok (.iload_n 3, 1) := by decide +kernel
theorem dX9_next_43 : decode cX9_next 43 = .ok (.invokevirtual 119, 3) := by decide +kernel
theorem dX9_next_46 : decode cX9_next 46 = .ok (.ifCond .eq 5, 3) := by decide +kernel
theorem dX9_next_49 : decode cX9_next 49 = .ok (.iload_n 3, 1) := by decide +kernel
theorem dX9_next_50 : decode cX9_next 50 = .ok (.ireturn, 1) := by decide +kernel
theorem dX9_next_51 : decode cX9_next 51 = .ok (.iinc 3 1, 3) := by decide +kernel
theorem dX9_next_54 : decode cX9_next 54 = .ok (.goto (-30), 3) := by decide +kernel
theorem dX9_next_57 : decode cX9_next 57 = .ok (.aload_n 0, 1) := by decide +kernel
theorem dX9_next_58 : decode cX9_next 58 = .ok (.ldc 122, 2) := by decide +kernel
theorem dX9_next_60 : decode cX9_next 60 = .ok (.invokevirtual 64, 3) := by decide +kernel
theorem dX9_next_63 : decode cX9_next 63 = .ok (.ireturn, 1) := by decide +kernel
theorem dX9_wordsOf_0 : decode cX9_wordsOf 0 = .ok (.iconst 0, 1) := by decide +kernel
theorem dX9_wordsOf_1 : decode cX9_wordsOf 1 = .ok (.istore_n 2, 1) := by decide +kernel
theorem dX9_wordsOf_2 : decode cX9_wordsOf 2 = .ok (.iconst 0, 1) := by decide +kernel
theorem dX9_wordsOf_3 : decode cX9_wordsOf 3 = .ok (.istore_n 3, 1) := by decide +kernel
theorem dX9_wordsOf_4 : decode cX9_wordsOf 4 = .ok (.iload_n 3, 1) := by decide +kernel
theorem dX9_wordsOf_5 : decode cX9_wordsOf 5 = .ok (.aload_n 0, 1) := by decide +kernel
theorem dX9_wordsOf_6 : decode cX9_wordsOf 6 = .ok (.getfield 9, 3) := by decide +kernel
theorem dX9_wordsOf_9 : decode cX9_wordsOf 9 = .ok (.iconst 2, 1) := by decide +kernel
theorem dX9_wordsOf_10 : decode cX9_wordsOf 10 = .ok (.iaload, 1) := by decide +kernel
theorem dX9_wordsOf_11 : decode cX9_wordsOf 11 = .ok (.if_icmp .ge 27, 3) := by decide +kernel
theorem dX9_wordsOf_14 : decode cX9_wordsOf 14 = .ok (.iload_n 2, 1) := by decide +kernel
theorem dX9_wordsOf_15 : decode cX9_wordsOf 15 = .ok (.aload_n 0, 1) := by decide +kernel
theorem dX9_wordsOf_16 : decode cX9_wordsOf 16 = .ok (.iload_n 3, 1) := by decide +kernel
theorem dX9_wordsOf_17 : decode cX9_wordsOf 17 = .ok (.iconst 1, 1) := by decide +kernel
theorem dX9_wordsOf_18 : decode cX9_wordsOf 18 = .ok (.invokevirtual 101, 3) := by decide +kernel
theorem dX9_wordsOf_21 : decode cX9_wordsOf 21 = .ok (.iload_n 1, 1) := by decide +kernel
theorem dX9_wordsOf_22 : decode cX9_wordsOf 22 = .ok (.if_icmp .ne 7, 3) := by decide +kernel
theorem dX9_wordsOf_25 : decode cX9_wordsOf 25 = .ok (.iconst 1, 1) := by decide +kernel
theorem dX9_wordsOf_26 : decode cX9_wordsOf 26 = .ok (.goto 4, 3) := by decide +kernel
theorem dX9_wordsOf_29 : decode cX9_wordsOf 29 = .ok (.iconst 0, 1) := by decide +kernel
theorem dX9_wordsOf_30 : decode cX9_wordsOf 30 = .ok (.iadd, 1) := by decide +kernel
theorem dX9_wordsOf_31 : decode cX9_wordsOf 31 = .ok (.istore_n 2, 1) := by decide +kernel
theorem dX9_wordsOf_32 : decode cX9_wordsOf 32 = .ok (.iinc 3 1, 3) := by decide +kernel
theorem dX9_wordsOf_35 : decode cX9_wordsOf 35 = .ok (.goto (-31), 3) := by decide +kernel
theorem dX9_wordsOf_38 : decode cX9_wordsOf 38 = .ok (.iload_n 2, 1) := by decide +kernel
theorem dX9_wordsOf_39 : decode cX9_wordsOf 39 = .ok (.ireturn, 1) := by decide +kernel
theorem dX9_tellsNow_0 : decode cX9_tellsNow 0 = .ok (.aload_n 0, 1) := by decide +kernel
theorem dX9_tellsNow_1 : decode cX9_tellsNow 1 = .ok (.iload_n 1, 1) := by decide +kernel
theorem dX9_tellsNow_2 : decode cX9_tellsNow 2 = .ok (.iconst 5, 1) := by decide +kernel
theorem dX9_tellsNow_3 : decode cX9_tellsNow 3 = .ok (.invokevirtual 69, 3) := by decide +kernel
theorem dX9_tellsNow_6 : decode cX9_tellsNow 6 = .ok (.istore_n 2, 1) := by decide +kernel
theorem dX9_tellsNow_7 : decode cX9_tellsNow 7 = .ok (.aload_n 0, 1) := by decide +kernel
theorem dX9_tellsNow_8 : decode cX9_tellsNow 8 = .ok (.iload_n 1, 1) := by decide +kernel
theorem dX9_tellsNow_9 : decode cX9_tellsNow 9 = .ok (.iconst 0, 1) := by decide +kernel
theorem dX9_tellsNow_10 : decode cX9_tellsNow 10 = .ok (.invokevirtual 69, 3) := by decide +kernel
theorem dX9_tellsNow_13 : decode cX9_tellsNow 13 = .ok (.iconst 3, 1) := by decide +kernel
theorem dX9_tellsNow_14 : decode cX9_tellsNow 14 = .ok (.if_icmp .ne 16, 3) := by decide +kernel
theorem dX9_tellsNow_17 : decode cX9_tellsNow 17 = .ok (.iload_n 2, 1) := by decide +kernel
theorem dX9_tellsNow_18 : decode cX9_tellsNow 18 = .ok (.aload_n 0, 1) := by decide +kernel
theorem dX9_tellsNow_19 : decode cX9_tellsNow 19 = .ok (.iload_n 1, 1) := by decide +kernel
theorem dX9_tellsNow_20 : decode cX9_tellsNow 20 = .ok (.invokevirtual 123, 3) := by decide +kernel
theorem dX9_tellsNow_23 : decode cX9_tellsNow 23 = .ok (.iconst 3, 1) := by decide +kernel
theorem dX9_tellsNow_24 : decode cX9_tellsNow 24 = .ok (.irem, 1) := by decide +kernel
theorem dX9_tellsNow_25 : decode cX9_tellsNow 25 = .ok (.iadd, 1) := by decide +kernel
theorem dX9_tellsNow_26 : decode cX9_tellsNow 26 = .ok (.bipush 10, 2) := by decide +kernel
theorem dX9_tellsNow_28 : decode cX9_tellsNow 28 = .ok (.irem, 1) := by decide +kernel
theorem dX9_tellsNow_29 : decode cX9_tellsNow 29 = .ok (.ireturn, 1) := by decide +kernel
theorem dX9_tellsNow_30 : decode cX9_tellsNow 30 = .ok (.aload_n 0, 1) := by decide +kernel
theorem dX9_tellsNow_31 : decode cX9_tellsNow 31 = .ok (.iload_n 1, 1) := by decide +kernel
theorem dX9_tellsNow_32 : decode cX9_tellsNow 32 = .ok (.iconst 0, 1) := by decide +kernel
theorem dX9_tellsNow_33 : decode cX9_tellsNow 33 = .ok (.invokevirtual 69, 3) := by decide +kernel
theorem dX9_tellsNow_36 : decode cX9_tellsNow 36 = .ok (.bipush 6, 2) := by decide +kernel
theorem dX9_tellsNow_38 : decode cX9_tellsNow 38 = .ok (.if_icmp .ne 12, 3) := by decide +kernel
theorem dX9_tellsNow_41 : decode cX9_tellsNow 41 = .ok (.aload_n 0, 1) := by decide +kernel
theorem dX9_tellsNow_42 : decode cX9_tellsNow 42 = .ok (.iload_n 1, 1) := by decide +kernel
theorem dX9_tellsNow_43 : decode cX9_tellsNow 43 = .ok (.iconst 4, 1) := by decide +kernel
theorem dX9_tellsNow_44 : decode cX9_tellsNow 44 = .ok (.invokevirtual 69, 3) := by decide +kernel
theorem dX9_tellsNow_47 : decode cX9_tellsNow 47 = .ok (.ifCond .ge 5, 3) := by decide +kernel
theorem dX9_tellsNow_50 : decode cX9_tellsNow 50 = .ok (.iload_n 2, 1) := by decide +kernel
theorem dX9_tellsNow_51 : decode cX9_tellsNow 51 = .ok (.ireturn, 1) := by decide +kernel
theorem dX9_tellsNow_52 : decode cX9_tellsNow 52 = .ok (.aload_n 0, 1) := by decide +kernel
theorem dX9_tellsNow_53 : decode cX9_tellsNow 53 = .ok (.getfield 9, 3) := by decide +kernel
theorem dX9_tellsNow_56 : decode cX9_tellsNow 56 = .ok (.iconst 2, 1) := by decide +kernel
theorem dX9_tellsNow_57 : decode cX9_tellsNow 57 = .ok (.iaload, 1) := by decide +kernel
theorem dX9_tellsNow_58 : decode cX9_tellsNow 58 = .ok (.iconst 1, 1) := by decide +kernel
theorem dX9_tellsNow_59 : decode cX9_tellsNow 59 = .ok (.isub, 1) := by decide +kernel
theorem dX9_tellsNow_60 : decode cX9_tellsNow 60 = .ok (.istore_n 3, 1) := by decide +kernel
theorem dX9_tellsNow_61 : decode cX9_tellsNow 61 = .ok (.iload_n 3, 1) := by decide +kernel
theorem dX9_tellsNow_62 : decode cX9_tellsNow 62 = .ok (.ifCond .lt 31, 3) := by decide +kernel
theorem dX9_tellsNow_65 : decode cX9_tellsNow 65 = .ok (.aload_n 0, 1) := by decide +kernel
theorem dX9_tellsNow_66 : decode cX9_tellsNow 66 = .ok (.iload_n 3, 1) := by decide +kernel
theorem dX9_tellsNow_67 : decode cX9_tellsNow 67 = .ok (.iconst 1, 1) := by decide +kernel
theorem dX9_tellsNow_68 : decode cX9_tellsNow 68 = .ok (.invokevirtual 101, 3) := by decide +kernel
theorem dX9_tellsNow_71 : decode cX9_tellsNow 71 = .ok (.aload_n 0, 1) := by decide +kernel
theorem dX9_tellsNow_72 : decode cX9_tellsNow 72 = .ok (.iload_n 1, 1) := by decide +kernel
theorem dX9_tellsNow_73 : decode cX9_tellsNow 73 = .ok (.iconst 4, 1) := by decide +kernel
theorem dX9_tellsNow_74 : decode cX9_tellsNow 74 = .ok (.invokevirtual 69, 3) := by decide +kernel
theorem dX9_tellsNow_77 : decode cX9_tellsNow 77 = .ok (.if_icmp .ne 10, 3) := by decide +kernel
theorem dX9_tellsNow_80 : decode cX9_tellsNow 80 = .ok (.aload_n 0, 1) := by decide +kernel
theorem dX9_tellsNow_81 : decode cX9_tellsNow 81 = .ok (.iload_n 3, 1) := by decide +kernel
theorem dX9_tellsNow_82 : decode cX9_tellsNow 82 = .ok (.iconst 2, 1) := by decide +kernel
theorem dX9_tellsNow_83 : decode cX9_tellsNow 83 = .ok (.invokevirtual 101, 3) := by decide +kernel
theorem dX9_tellsNow_86 : decode cX9_tellsNow 86 = .ok (.ireturn, 1) := by decide +kernel
theorem dX9_tellsNow_87 : decode cX9_tellsNow 87 = .ok (.iinc 3 (-1), 3) := by decide +kernel
theorem dX9_tellsNow_90 : decode cX9_tellsNow 90 = .ok (.goto (-29), 3) := by decide +kernel
theorem dX9_tellsNow_93 : decode cX9_tellsNow 93 = .ok (.iload_n 2, 1) := by decide +kernel
theorem dX9_tellsNow_94 : decode cX9_tellsNow 94 = .ok (.ireturn, 1) := by decide +kernel
theorem dX9_isSaid_0 : decode cX9_isSaid 0 = .ok (.aload_n 0, 1) := by decide +kernel
theorem dX9_isSaid_1 : decode cX9_isSaid 1 = .ok (.getfield 9, 3) := by decide +kernel
theorem dX9_isSaid_4 : decode cX9_isSaid 4 = .ok (.iconst 2, 1) := by decide +kernel
theorem dX9_isSaid_5 : decode cX9_isSaid 5 = .ok (.iaload, 1) := by decide +kernel
theorem dX9_isSaid_6 : decode cX9_isSaid 6 = .ok (.sipush 200, 3) := by decide +kernel
theorem dX9_isSaid_9 : decode cX9_isSaid 9 = .ok (.if_icmp .ne 5, 3) := by decide +kernel
theorem dX9_isSaid_12 : decode cX9_isSaid 12 = .ok (.iconst 0, 1) := by decide +kernel
theorem dX9_isSaid_13 : decode cX9_isSaid 13 = .ok (.ireturn, 1) := by decide +kernel
theorem dX9_isSaid_14 : decode cX9_isSaid 14 = .ok (.bipush 118, 2) := by decide +kernel
theorem dX9_isSaid_16 : decode cX9_isSaid 16 = .ok (.iconst 3, 1) := by decide +kernel
theorem dX9_isSaid_17 : decode cX9_isSaid 17 = .ok (.aload_n 0, 1) := by decide +kernel
theorem dX9_isSaid_18 : decode cX9_isSaid 18 = .ok (.getfield 9, 3) := by decide +kernel
theorem dX9_isSaid_21 : decode cX9_isSaid 21 = .ok (.iconst 2, 1) := by decide +kernel
theorem dX9_isSaid_22 : decode cX9_isSaid 22 = .ok (.iaload, 1) := by decide +kernel
theorem dX9_isSaid_23 : decode cX9_isSaid 23 = .ok (.imul, 1) := by decide +kernel
theorem dX9_isSaid_24 : decode cX9_isSaid 24 = .ok (.iadd, 1) := by decide +kernel
theorem dX9_isSaid_25 : decode cX9_isSaid 25 = .ok (.istore_n 3, 1) := by decide +kernel
theorem dX9_isSaid_26 : decode cX9_isSaid 26 = .ok (.aload_n 0, 1) := by decide +kernel
theorem dX9_isSaid_27 : decode cX9_isSaid 27 = .ok (.getfield 9, 3) := by decide +kernel
theorem dX9_isSaid_30 : decode cX9_isSaid 30 = .ok (.iload_n 3, 1) := by decide +kernel
theorem dX9_isSaid_31 : decode cX9_isSaid 31 = .ok (.aload_n 0, 1) := by decide +kernel
theorem dX9_isSaid_32 : decode cX9_isSaid 32 = .ok (.getfield 9, 3) := by decide +kernel
theorem dX9_isSaid_35 : decode cX9_isSaid 35 = .ok (.iconst 1, 1) := by decide +kernel
theorem dX9_isSaid_36 : decode cX9_isSaid 36 = .ok (.iaload, 1) := by decide +kernel
theorem dX9_isSaid_37 : decode cX9_isSaid 37 = .ok (.iastore, 1) := by decide +kernel
theorem dX9_isSaid_38 : decode cX9_isSaid 38 = .ok (.aload_n 0, 1) := by decide +kernel
theorem dX9_isSaid_39 : decode cX9_isSaid 39 = .ok (.getfield 9, 3) := by decide +kernel
theorem dX9_isSaid_42 : decode cX9_isSaid 42 = .ok (.iload_n 3, 1) := by decide +kernel
theorem dX9_isSaid_43 : decode cX9_isSaid 43 = .ok (.iconst 1, 1) := by decide +kernel
theorem dX9_isSaid_44 : decode cX9_isSaid 44 = .ok (.iadd, 1) := by decide +kernel
theorem dX9_isSaid_45 : decode cX9_isSaid 45 = .ok (.iload_n 1, 1) := by decide +kernel
theorem dX9_isSaid_46 : decode cX9_isSaid 46 = .ok (.iastore, 1) := by decide +kernel
theorem dX9_isSaid_47 : decode cX9_isSaid 47 = .ok (.aload_n 0, 1) := by decide +kernel
theorem dX9_isSaid_48 : decode cX9_isSaid 48 = .ok (.getfield 9, 3) := by decide +kernel
theorem dX9_isSaid_51 : decode cX9_isSaid 51 = .ok (.iload_n 3, 1) := by decide +kernel
theorem dX9_isSaid_52 : decode cX9_isSaid 52 = .ok (.iconst 2, 1) := by decide +kernel
theorem dX9_isSaid_53 : decode cX9_isSaid 53 = .ok (.iadd, 1) := by decide +kernel
theorem dX9_isSaid_54 : decode cX9_isSaid 54 = .ok (.iload_n 2, 1) := by decide +kernel
theorem dX9_isSaid_55 : decode cX9_isSaid 55 = .ok (.iastore, 1) := by decide +kernel
theorem dX9_isSaid_56 : decode cX9_isSaid 56 = .ok (.aload_n 0, 1) := by decide +kernel
theorem dX9_isSaid_57 : decode cX9_isSaid 57 = .ok (.getfield 9, 3) := by decide +kernel
theorem dX9_isSaid_60 : decode cX9_isSaid 60 = .ok (.iconst 2, 1) := by decide +kernel
theorem dX9_isSaid_61 : decode cX9_isSaid 61 = .ok (.dup2, 1) := by decide +kernel
theorem dX9_isSaid_62 : decode cX9_isSaid 62 = .ok (.iaload, 1) := by decide +kernel
theorem dX9_isSaid_63 : decode cX9_isSaid 63 = .ok (.iconst 1, 1) := by decide +kernel
theorem dX9_isSaid_64 : decode cX9_isSaid 64 = .ok (.iadd, 1) := by decide +kernel
theorem dX9_isSaid_65 : decode cX9_isSaid 65 = .ok (.iastore, 1) := by decide +kernel
theorem dX9_isSaid_66 : decode cX9_isSaid 66 = .ok (.iconst 1, 1) := by decide +kernel
theorem dX9_isSaid_67 : decode cX9_isSaid 67 = .ok (.ireturn, 1) := by decide +kernel
theorem dX9_go_0 : decode cX9_go 0 = .ok (.iload_n 1, 1) := by decide +kernel
theorem dX9_go_1 : decode cX9_go 1 = .ok (.i2l, 1) := by decide +kernel
theorem dX9_go_2 : decode cX9_go 2 = .ok (.lconst 1, 1) := by decide +kernel
theorem dX9_go_3 : decode cX9_go 3 = .ok (.ldc2_w 62, 3) := by decide +kernel
theorem dX9_go_6 : decode cX9_go 6 = .ok (.invokestatic 48, 3) := by decide +kernel
theorem dX9_go_9 : decode cX9_go 9 = .ok (.ifCond .ne 10, 3) := by decide +kernel
theorem dX9_go_12 : decode cX9_go 12 = .ok (.aload_n 0, 1) := by decide +kernel
theorem dX9_go_13 : decode cX9_go 13 = .ok (.ldc 47, 2) := by decide +kernel
theorem dX9_go_15 : decode cX9_go 15 = .ok (.invokevirtual 64, 3) := by decide +kernel
theorem dX9_go_18 : decode cX9_go 18 = .ok (.ireturn, 1) := by decide +kernel
theorem dX9_go_19 : decode cX9_go 19 = .ok (.aload_n 0, 1) := by decide +kernel
theorem dX9_go_20 : decode cX9_go 20 = .ok (.getfield 9, 3) := by decide +kernel
theorem dX9_go_23 : decode cX9_go 23 = .ok (.iconst 1, 1) := by decide +kernel
theorem dX9_go_24 : decode cX9_go 24 = .ok (.iaload, 1) := by decide +kernel
theorem dX9_go_25 : decode cX9_go 25 = .ok (.iload_n 1, 1) := by decide +kernel
theorem dX9_go_26 : decode cX9_go 26 = .ok (.iadd, 1) := by decide +kernel
theorem dX9_go_27 : decode cX9_go 27 = .ok (.sipush 29999, 3) := by decide +kernel
theorem dX9_go_30 : decode cX9_go 30 = .ok (.if_icmp .le 10, 3) := by decide +kernel
theorem dX9_go_33 : decode cX9_go 33 = .ok (.aload_n 0, 1) := by decide +kernel
theorem dX9_go_34 : decode cX9_go 34 = .ok (.ldc 126, 2) := by decide +kernel
theorem dX9_go_36 : decode cX9_go 36 = .ok (.invokevirtual 64, 3) := by decide +kernel
theorem dX9_go_39 : decode cX9_go 39 = .ok (.ireturn, 1) := by decide +kernel
theorem dX9_go_40 : decode cX9_go 40 = .ok (.iconst 0, 1) := by decide +kernel
theorem dX9_go_41 : decode cX9_go 41 = .ok (.istore_n 2, 1) := by decide +kernel
theorem dX9_go_42 : decode cX9_go 42 = .ok (.iload_n 2, 1) := by decide +kernel
theorem dX9_go_43 : decode cX9_go 43 = .ok (.iload_n 1, 1) := by decide +kernel
theorem dX9_go_44 : decode cX9_go 44 = .ok (.if_icmp .ge 92, 3) := by decide +kernel
theorem dX9_go_47 : decode cX9_go 47 = .ok (.iconst 0, 1) := by decide +kernel
theorem dX9_go_48 : decode cX9_go 48 = .ok (.istore_n 3, 1) := by decide +kernel
theorem dX9_go_49 : decode cX9_go 49 = .ok (.iload_n 3, 1) := by decide +kernel
theorem dX9_go_50 : decode cX9_go 50 = .ok (.aload_n 0, 1) := by decide +kernel
theorem dX9_go_51 : decode cX9_go 51 = .ok (.getfield 9, 3) := by decide +kernel
theorem dX9_go_54 : decode cX9_go 54 = .ok (.iconst 0, 1) := by decide +kernel
theorem dX9_go_55 : decode cX9_go 55 = .ok (.iaload, 1) := by decide +kernel
theorem dX9_go_56 : decode cX9_go 56 = .ok (.if_icmp .ge 64, 3) := by decide +kernel
theorem dX9_go_59 : decode cX9_go 59 = .ok (.aload_n 0, 1) := by decide +kernel
theorem dX9_go_60 : decode cX9_go 60 = .ok (.iload_n 3, 1) := by decide +kernel
theorem dX9_go_61 : decode cX9_go 61 = .ok (.bipush 6, 2) := by decide +kernel
theorem dX9_go_63 : decode cX9_go 63 = .ok (.invokevirtual 69, 3) := by decide +kernel
theorem dX9_go_66 : decode cX9_go 66 = .ok (.iconst 1, 1) := by decide +kernel
theorem dX9_go_67 : decode cX9_go 67 = .ok (.if_icmp .eq 47, 3) := by decide +kernel
theorem dX9_go_70 : decode cX9_go 70 = .ok (.aload_n 0, 1) := by decide +kernel
theorem dX9_go_71 : decode cX9_go 71 = .ok (.iload_n 3, 1) := by decide +kernel
theorem dX9_go_72 : decode cX9_go 72 = .ok (.aload_n 0, 1) := by decide +kernel
theorem dX9_go_73 : decode cX9_go 73 = .ok (.getfield 9, 3) := by decide +kernel
theorem dX9_go_76 : decode cX9_go 76 = .ok (.iconst 1, 1) := by decide +kernel
theorem dX9_go_77 : decode cX9_go 77 = .ok (.iaload, 1) := by decide +kernel
theorem dX9_go_78 : decode cX9_go 78 = .ok (.invokevirtual 119, 3) := by decide +kernel
theorem dX9_go_81 : decode cX9_go 81 = .ok (.ifCond .ne 6, 3) := by decide +kernel
theorem dX9_go_84 : decode cX9_go 84 = .ok (.goto 30, 3) := by decide +kernel
theorem dX9_go_87 : decode cX9_go 87 = .ok (.aload_n 0, 1) := by decide +kernel
theorem dX9_go_88 : decode cX9_go 88 = .ok (.getfield 9, 3) := by decide +kernel
theorem dX9_go_91 : decode cX9_go 91 = .ok (.iconst 3, 1) := by decide +kernel
theorem dX9_go_92 : decode cX9_go 92 = .ok (.dup2, 1) := by decide +kernel
theorem dX9_go_93 : decode cX9_go 93 = .ok (.iaload, 1) := by decide +kernel
theorem dX9_go_94 : decode cX9_go 94 = .ok (.aload_n 0, 1) := by decide +kernel
theorem dX9_go_95 : decode cX9_go 95 = .ok (.iload_n 3, 1) := by decide +kernel
theorem dX9_go_96 : decode cX9_go 96 = .ok (.aload_n 0, 1) := by decide +kernel
theorem dX9_go_97 : decode cX9_go 97 = .ok (.iload_n 3, 1) := by decide +kernel
theorem dX9_go_98 : decode cX9_go 98 = .ok (.invokevirtual 127, 3) := by decide +kernel
theorem dX9_go_101 : decode cX9_go 101 = .ok (.invokevirtual 130, 3) := by decide +kernel
theorem dX9_go_104 : decode cX9_go 104 = .ok (.ifCond .eq 7, 3) := by decide +kernel
theorem dX9_go_107 : decode cX9_go 107 = .ok (.iconst 0, 1) := by decide +kernel
theorem dX9_go_108 : decode cX9_go 108 = .ok (.goto 4, 3) := by decide +kernel
theorem dX9_go_111 : decode cX9_go 111 = .ok (.iconst 1, 1) := by decide +kernel
theorem dX9_go_112 : decode cX9_go 112 = .ok (.iadd, 1) := by decide +kernel
theorem dX9_go_113 : decode cX9_go 113 = .ok (.iastore, 1) := by decide +kernel
theorem dX9_go_114 : decode cX9_go 114 = .ok (.iinc 3 1, 3) := by decide +kernel
theorem dX9_go_117 : decode cX9_go 117 = .ok (.goto (-68), 3) := by decide +kernel
theorem dX9_go_120 : decode cX9_go 120 = .ok (.aload_n 0, 1) := by decide +kernel
theorem dX9_go_121 : decode cX9_go 121 = .ok (.getfield 9, 3) := by decide +kernel
theorem dX9_go_124 : decode cX9_go 124 = .ok (.iconst 1, 1) := by decide +kernel
theorem dX9_go_125 : decode cX9_go 125 = .ok (.dup2, 1) := by decide +kernel
theorem dX9_go_126 : decode cX9_go 126 = .ok (.iaload, 1) := by decide +kernel
theorem dX9_go_127 : decode cX9_go 127 = .ok (.iconst 1, 1) := by decide +kernel
theorem dX9_go_128 : decode cX9_go 128 = .ok (.iadd, 1) := by decide +kernel
theorem dX9_go_129 : decode cX9_go 129 = .ok (.iastore, 1) := by decide +kernel
theorem dX9_go_130 : decode cX9_go 130 = .ok (.iinc 2 1, 3) := by decide +kernel
theorem dX9_go_133 : decode cX9_go 133 = .ok (.goto (-91), 3) := by decide +kernel
theorem dX9_go_136 : decode cX9_go 136 = .ok (.aload_n 0, 1) := by decide +kernel
theorem dX9_go_137 : decode cX9_go 137 = .ok (.getfield 9, 3) := by decide +kernel
theorem dX9_go_140 : decode cX9_go 140 = .ok (.iconst 1, 1) := by decide +kernel
theorem dX9_go_141 : decode cX9_go 141 = .ok (.iaload, 1) := by decide +kernel
theorem dX9_go_142 : decode cX9_go 142 = .ok (.ireturn, 1) := by decide +kernel
theorem dX9_say_0 : decode cX9_say 0 = .ok (.aload_n 0, 1) := by decide +kernel
theorem dX9_say_1 : decode cX9_say 1 = .ok (.iload_n 1, 1) := by decide +kernel
theorem dX9_say_2 : decode cX9_say 2 = .ok (.invokevirtual 73, 3) := by decide +kernel
theorem dX9_say_5 : decode cX9_say 5 = .ok (.ifCond .eq 10, 3) := by decide +kernel
theorem dX9_say_8 : decode cX9_say 8 = .ok (.iload_n 2, 1) := by decide +kernel
theorem dX9_say_9 : decode cX9_say 9 = .ok (.invokestatic 84, 3) := by decide +kernel
theorem dX9_say_12 : decode cX9_say 12 = .ok (.ifCond .ne 10, 3) := by decide +kernel
theorem dX9_say_15 : decode cX9_say 15 = .ok (.aload_n 0, 1) := by decide +kernel
theorem dX9_say_16 : decode cX9_say 16 = .ok (.ldc 47, 2) := by decide +kernel
theorem dX9_say_18 : decode cX9_say 18 = .ok (.invokevirtual 64, 3) := by decide +kernel
theorem dX9_say_21 : decode cX9_say 21 = .ok (.ireturn, 1) := by decide +kernel
theorem dX9_say_22 : decode cX9_say 22 = .ok (.aload_n 0, 1) := by decide +kernel
theorem dX9_say_23 : decode cX9_say 23 = .ok (.iload_n 1, 1) := by decide +kernel
theorem dX9_say_24 : decode cX9_say 24 = .ok (.iload_n 2, 1) := by decide +kernel
theorem dX9_say_25 : decode cX9_say 25 = .ok (.invokevirtual 130, 3) := by decide +kernel
theorem dX9_say_28 : decode cX9_say 28 = .ok (.ifCond .eq 14, 3) := by decide +kernel
theorem dX9_say_31 : decode cX9_say 31 = .ok (.aload_n 0, 1) := by decide +kernel
theorem dX9_say_32 : decode cX9_say 32 = .ok (.getfield 9, 3) := by decide +kernel
theorem dX9_say_35 : decode cX9_say 35 = .ok (.iconst 2, 1) := by decide +kernel
theorem dX9_say_36 : decode cX9_say 36 = .ok (.iaload, 1) := by decide +kernel
theorem dX9_say_37 : decode cX9_say 37 = .ok (.iconst 1, 1) := by decide +kernel
theorem dX9_say_38 : decode cX9_say 38 = .ok (.isub, 1) := by decide +kernel
theorem dX9_say_39 : decode cX9_say 39 = .ok (.goto 9, 3) := by decide +kernel
theorem dX9_say_42 : decode cX9_say 42 = .ok (.aload_n 0, 1) := by decide +kernel
theorem dX9_say_43 : decode cX9_say 43 = .ok (.ldc 68, 2) := by decide +kernel
theorem dX9_say_45 : decode cX9_say 45 = .ok (.invokevirtual 64, 3) := by decide +kernel
theorem dX9_say_48 : decode cX9_say 48 = .ok (.ireturn, 1) := by decide +kernel
theorem dX9_follows_0 : decode cX9_follows 0 = .ok (.iload_n 1, 1) := by decide +kernel
theorem dX9_follows_1 : decode cX9_follows 1 = .ok (.iconst 1, 1) := by decide +kernel
theorem dX9_follows_2 : decode cX9_follows 2 = .ok (.isub, 1) := by decide +kernel
theorem dX9_follows_3 : decode cX9_follows 3 = .ok (.istore_n 2, 1) := by decide +kernel
theorem dX9_follows_4 : decode cX9_follows 4 = .ok (.iload_n 2, 1) := by decide +kernel
theorem dX9_follows_5 : decode cX9_follows 5 = .ok (.ifCond .lt 50, 3) := by decide +kernel
theorem dX9_follows_8 : decode cX9_follows 8 = .ok (.aload_n 0, 1) := by decide +kernel
theorem dX9_follows_9 : decode cX9_follows 9 = .ok (.iload_n 2, 1) := by decide +kernel
theorem dX9_follows_10 : decode cX9_follows 10 = .ok (.iconst 1, 1) := by decide +kernel
theorem dX9_follows_11 : decode cX9_follows 11 = .ok (.invokevirtual 101, 3) := by decide +kernel
theorem dX9_follows_14 : decode cX9_follows 14 = .ok (.aload_n 0, 1) := by decide +kernel
theorem dX9_follows_15 : decode cX9_follows 15 = .ok (.iload_n 1, 1) := by decide +kernel
theorem dX9_follows_16 : decode cX9_follows 16 = .ok (.iconst 1, 1) := by decide +kernel
theorem dX9_follows_17 : decode cX9_follows 17 = .ok (.invokevirtual 101, 3) := by decide +kernel
theorem dX9_follows_20 : decode cX9_follows 20 = .ok (.if_icmp .eq 29, 3) := by decide +kernel
theorem dX9_follows_23 : decode cX9_follows 23 = .ok (.aload_n 0, 1) := by decide +kernel
theorem dX9_follows_24 : decode cX9_follows 24 = .ok (.iload_n 1, 1) := by decide +kernel
theorem dX9_follows_25 : decode cX9_follows 25 = .ok (.iconst 0, 1) := by decide +kernel
theorem dX9_follows_26 : decode cX9_follows 26 = .ok (.invokevirtual 101, 3) := by decide +kernel
theorem dX9_follows_29 : decode cX9_follows 29 = .ok (.aload_n 0, 1) := by decide +kernel
theorem dX9_follows_30 : decode cX9_follows 30 = .ok (.iload_n 2, 1) := by decide +kernel
theorem dX9_follows_31 : decode cX9_follows 31 = .ok (.iconst 0, 1) := by decide +kernel
theorem dX9_follows_32 : decode cX9_follows 32 = .ok (.invokevirtual 101, 3) := by decide +kernel
theorem dX9_follows_35 : decode cX9_follows 35 = .ok (.isub, 1) := by decide +kernel
theorem dX9_follows_36 : decode cX9_follows 36 = .ok (.i2l, 1) := by decide +kernel
theorem dX9_follows_37 : decode cX9_follows 37 = .ok (.lconst 1, 1) := by decide +kernel
theorem dX9_follows_38 : decode cX9_follows 38 = .ok (.ldc2_w 58, 3) := by decide +kernel
theorem dX9_follows_41 : decode cX9_follows 41 = .ok (.invokestatic 48, 3) := by decide +kernel
theorem dX9_follows_44 : decode cX9_follows 44 = .ok (.ifCond .eq 5, 3) := by decide +kernel
theorem dX9_follows_47 : decode cX9_follows 47 = .ok (.iload_n 2, 1) := by decide +kernel
theorem dX9_follows_48 : decode cX9_follows 48 = .ok (.ireturn, 1) := by decide +kernel
theorem dX9_follows_49 : decode cX9_follows 49 = .ok (.iinc 2 (-1), 3) := by decide +kernel
theorem dX9_follows_52 : decode cX9_follows 52 = .ok (.goto (-48), 3) := by decide +kernel
theorem dX9_follows_55 : decode cX9_follows 55 = .ok (.iconst (-1), 1) := by decide +kernel
theorem dX9_follows_56 : decode cX9_follows 56 = .ok (.ireturn, 1) := by decide +kernel
theorem dX9_wordOf_0 : decode cX9_wordOf 0 = .ok (.aload_n 0, 1) := by decide +kernel
theorem dX9_wordOf_1 : decode cX9_wordOf 1 = .ok (.iload_n 1, 1) := by decide +kernel
theorem dX9_wordOf_2 : decode cX9_wordOf 2 = .ok (.invokevirtual 133, 3) := by decide +kernel
theorem dX9_wordOf_5 : decode cX9_wordOf 5 = .ok (.ifCond .eq 15, 3) := by decide +kernel
theorem dX9_wordOf_8 : decode cX9_wordOf 8 = .ok (.iload_n 2, 1) := by decide +kernel
theorem dX9_wordOf_9 : decode cX9_wordOf 9 = .ok (.i2l, 1) := by decide +kernel
theorem dX9_wordOf_10 : decode cX9_wordOf 10 = .ok (.lconst 0, 1) := by decide +kernel
theorem dX9_wordOf_11 : decode cX9_wordOf 11 = .ok (.ldc2_w 136, 3) := by decide +kernel
theorem dX9_wordOf_14 : decode cX9_wordOf 14 = .ok (.invokestatic 48, 3) := by decide +kernel
theorem dX9_wordOf_17 : decode cX9_wordOf 17 = .ok (.ifCond .ne 10, 3) := by decide +kernel
theorem dX9_wordOf_20 : decode cX9_wordOf 20 = .ok (.aload_n 0, 1) := by decide +kernel
theorem dX9_wordOf_21 : decode cX9_wordOf 21 = .ok (.ldc 47, 2) := by decide +kernel
theorem dX9_wordOf_23 : decode cX9_wordOf 23 = .ok (.invokevirtual 64, 3) := by decide +kernel
theorem dX9_wordOf_26 : decode cX9_wordOf 26 = .ok (.ireturn, 1) := by decide +kernel
theorem dX9_wordOf_27 : decode cX9_wordOf 27 = .ok (.iload_n 2, 1) := by decide +kernel
theorem dX9_wordOf_28 : decode cX9_wordOf 28 = .ok (.iconst 3, 1) := by decide +kernel
theorem dX9_wordOf_29 : decode cX9_wordOf 29 = .ok (.if_icmp .ge 12, 3) := by decide +kernel
theorem dX9_wordOf_32 : decode cX9_wordOf 32 = .ok (.aload_n 0, 1) := by decide +kernel
theorem dX9_wordOf_33 : decode cX9_wordOf 33 = .ok (.iload_n 1, 1) := by decide +kernel
theorem dX9_wordOf_34 : decode cX9_wordOf 34 = .ok (.iload_n 2, 1) := by decide +kernel
theorem dX9_wordOf_35 : decode cX9_wordOf 35 = .ok (.invokevirtual 101, 3) := by decide +kernel
theorem dX9_wordOf_38 : decode cX9_wordOf 38 = .ok (.goto 8, 3) := by decide +kernel
theorem dX9_wordOf_41 : decode cX9_wordOf 41 = .ok (.aload_n 0, 1) := by decide +kernel
theorem dX9_wordOf_42 : decode cX9_wordOf 42 = .ok (.iload_n 1, 1) := by decide +kernel
theorem dX9_wordOf_43 : decode cX9_wordOf 43 = .ok (.invokevirtual 138, 3) := by decide +kernel
theorem dX9_wordOf_46 : decode cX9_wordOf 46 = .ok (.ireturn, 1) := by decide +kernel
theorem dX9_below_0 : decode cX9_below 0 = .ok (.aload_n 0, 1) := by decide +kernel
theorem dX9_below_1 : decode cX9_below 1 = .ok (.iload_n 1, 1) := by decide +kernel
theorem dX9_below_2 : decode cX9_below 2 = .ok (.invokevirtual 133, 3) := by decide +kernel
theorem dX9_below_5 : decode cX9_below 5 = .ok (.ifCond .ne 10, 3) := by decide +kernel
theorem dX9_below_8 : decode cX9_below 8 = .ok (.aload_n 0, 1) := by decide +kernel
theorem dX9_below_9 : decode cX9_below 9 = .ok (.ldc 47, 2) := by decide +kernel
theorem dX9_below_11 : decode cX9_below 11 = .ok (.invokevirtual 64, 3) := by decide +kernel
theorem dX9_below_14 : decode cX9_below 14 = .ok (.ireturn, 1) := by decide +kernel
theorem dX9_below_15 : decode cX9_below 15 = .ok (.iconst 0, 1) := by decide +kernel
theorem dX9_below_16 : decode cX9_below 16 = .ok (.istore_n 2, 1) := by decide +kernel
theorem dX9_below_17 : decode cX9_below 17 = .ok (.iload_n 1, 1) := by decide +kernel
theorem dX9_below_18 : decode cX9_below 18 = .ok (.istore_n 3, 1) := by decide +kernel
theorem dX9_below_19 : decode cX9_below 19 = .ok (.iload_n 3, 1) := by decide +kernel
theorem dX9_below_20 : decode cX9_below 20 = .ok (.aload_n 0, 1) := by decide +kernel
theorem dX9_below_21 : decode cX9_below 21 = .ok (.getfield 9, 3) := by decide +kernel
theorem dX9_below_24 : decode cX9_below 24 = .ok (.iconst 2, 1) := by decide +kernel
theorem dX9_below_25 : decode cX9_below 25 = .ok (.iaload, 1) := by decide +kernel
theorem dX9_below_26 : decode cX9_below 26 = .ok (.if_icmp .ge 75, 3) := by decide +kernel
theorem dX9_below_29 : decode cX9_below 29 = .ok (.iload_n 3, 1) := by decide +kernel
theorem dX9_below_30 : decode cX9_below 30 = .ok (.iload_n 1, 1) := by decide +kernel
theorem dX9_below_31 : decode cX9_below 31 = .ok (.if_icmp .ne 7, 3) := by decide +kernel
theorem dX9_below_34 : decode cX9_below 34 = .ok (.iconst (-1), 1) := by decide +kernel
theorem dX9_below_35 : decode cX9_below 35 = .ok (.goto 8, 3) := by decide +kernel
theorem dX9_below_38 : decode cX9_below 38 = .ok (.aload_n 0, 1) := by decide +kernel
theorem dX9_below_39 : decode cX9_below 39 = .ok (.iload_n 3, 1) := by decide +kernel
theorem dX9_below_40 : decode cX9_below 40 = .ok (.invokevirtual 138, 3) := by decide +kernel
theorem dX9_below_43 : decode cX9_below 43 = .ok (.istore 4, 2) := by decide +kernel
theorem dX9_below_45 : decode cX9_below 45 = .ok (.aload_n 0, 1) := by decide +kernel
theorem dX9_below_46 : decode cX9_below 46 = .ok (.getfield 19, 3) := by decide +kernel
theorem dX9_below_49 : decode cX9_below 49 = .ok (.iload_n 3, 1) := by decide +kernel
theorem dX9_below_50 : decode cX9_below 50 = .ok (.iload 4, 2) := by decide +kernel
theorem dX9_below_52 : decode cX9_below 52 = .ok (.iload_n 1, 1) := by decide +kernel
theorem dX9_below_53 : decode cX9_below 53 = .ok (.if_icmp .eq 19, 3) := by decide +kernel
theorem dX9_below_56 : decode cX9_below 56 = .ok (.iload 4, 2) := by decide +kernel
theorem dX9_below_58 : decode cX9_below 58 = .ok (.iload_n 1, 1) := by decide +kernel
theorem dX9_below_59 : decode cX9_below 59 = .ok (.if_icmp .le 17, 3) := by decide +kernel
theorem dX9_below_62 : decode cX9_below 62 = .ok (.aload_n 0, 1) := by decide +kernel
theorem dX9_below_63 : decode cX9_below 63 = .ok (.getfield 19, 3) := by decide +kernel
theorem dX9_below_66 : decode cX9_below 66 = .ok (.iload 4, 2) := by decide +kernel
theorem dX9_below_68 : decode cX9_below 68 = .ok (.baload, 1) := by decide +kernel
theorem dX9_below_69 : decode cX9_below 69 = .ok (.ifCond .eq 7, 3) := by decide +kernel
theorem dX9_below_72 : decode cX9_below 72 = .ok (.iconst 1, 1) := by decide +kernel
theorem dX9_below_73 : decode cX9_below 73 = .ok (.goto 4, 3) := by decide +kernel
theorem dX9_below_76 : decode cX9_below 76 = .ok (.iconst 0, 1) := by decide +kernel
theorem dX9_below_77 : decode cX9_below 77 = .ok (.bastore, 1) := by decide +kernel
theorem dX9_below_78 : decode cX9_below 78 = .ok (.iload_n 2, 1) := by decide +kernel
theorem dX9_below_79 : decode cX9_below 79 = .ok (.aload_n 0, 1) := by decide +kernel
theorem dX9_below_80 : decode cX9_below 80 = .ok (.getfield 19, 3) := by decide +kernel
theorem dX9_below_83 : decode cX9_below 83 = .ok (.iload_n 3, 1) := by decide +kernel
theorem dX9_below_84 : decode cX9_below 84 = .ok (.baload, 1) := by decide +kernel
theorem dX9_below_85 : decode cX9_below 85 = .ok (.ifCond .eq 7, 3) := by decide +kernel
theorem dX9_below_88 : decode cX9_below 88 = .ok (.iconst 1, 1) := by decide +kernel
theorem dX9_below_89 : decode cX9_below 89 = .ok (.goto 4, 3) := by decide +kernel
theorem dX9_below_92 : decode cX9_below 92 = .ok (.iconst 0, 1) := by decide +kernel
theorem dX9_below_93 : decode cX9_below 93 = .ok (.iadd, 1) := by decide +kernel
theorem dX9_below_94 : decode cX9_below 94 = .ok (.istore_n 2, 1) := by decide +kernel
theorem dX9_below_95 : decode cX9_below 95 = .ok (.iinc 3 1, 3) := by decide +kernel
theorem dX9_below_98 : decode cX9_below 98 = .ok (.goto (-79), 3) := by decide +kernel
theorem dX9_below_101 : decode cX9_below 101 = .ok (.iload_n 2, 1) := by decide +kernel
theorem dX9_below_102 : decode cX9_below 102 = .ok (.ireturn, 1) := by decide +kernel
theorem dX9_hoursOf_0 : decode cX9_hoursOf 0 = .ok (.iconst 0, 1) := by decide +kernel
theorem dX9_hoursOf_1 : decode cX9_hoursOf 1 = .ok (.istore_n 2, 1) := by decide +kernel
theorem dX9_hoursOf_2 : decode cX9_hoursOf 2 = .ok (.iconst 0, 1) := by decide +kernel
theorem dX9_hoursOf_3 : decode cX9_hoursOf 3 = .ok (.istore_n 3, 1) := by decide +kernel
theorem dX9_hoursOf_4 : decode cX9_hoursOf 4 = .ok (.iload_n 3, 1) := by decide +kernel
theorem dX9_hoursOf_5 : decode cX9_hoursOf 5 = .ok (.aload_n 0, 1) := by decide +kernel
theorem dX9_hoursOf_6 : decode cX9_hoursOf 6 = .ok (.getfield 9, 3) := by decide +kernel
theorem dX9_hoursOf_9 : decode cX9_hoursOf 9 = .ok (.iconst 2, 1) := by decide +kernel
theorem dX9_hoursOf_10 : decode cX9_hoursOf 10 = .ok (.iaload, 1) := by decide +kernel
theorem dX9_hoursOf_11 : decode cX9_hoursOf 11 = .ok (.if_icmp .ge 37, 3) := by decide +kernel
theorem dX9_hoursOf_14 : decode cX9_hoursOf 14 = .ok (.iload_n 2, 1) := by decide +kernel
theorem dX9_hoursOf_15 : decode cX9_hoursOf 15 = .ok (.aload_n 0, 1) := by decide +kernel
theorem dX9_hoursOf_16 : decode cX9_hoursOf 16 = .ok (.iload_n 3, 1) := by decide +kernel
theorem dX9_hoursOf_17 : decode cX9_hoursOf 17 = .ok (.iconst 1, 1) := by decide +kernel
theorem dX9_hoursOf_18 : decode cX9_hoursOf 18 = .ok (.invokevirtual 101, 3) := by decide +kernel
theorem dX9_hoursOf_21 : decode cX9_hoursOf 21 = .ok (.iload_n 1, 1) := by decide +kernel
theorem dX9_hoursOf_22 : decode cX9_hoursOf 22 = .ok (.if_icmp .ne 17, 3) := by decide +kernel
theorem dX9_hoursOf_25 : decode cX9_hoursOf 25 = .ok (.iconst 1, 1) := by decide +kernel
theorem dX9_hoursOf_26 : decode cX9_hoursOf 26 = .ok (.aload_n 0, 1) := by decide +kernel
theorem dX9_hoursOf_27 : decode cX9_hoursOf 27 = .ok (.iload_n 3, 1) := by decide +kernel
theorem dX9_hoursOf_28 : decode cX9_hoursOf 28 = .ok (.iconst 0, 1) := by decide +kernel
theorem dX9_hoursOf_29 : decode cX9_hoursOf 29 = .ok (.invokevirtual 101, 3) := by decide +kernel
theorem dX9_hoursOf_32 : decode cX9_hoursOf 32 = .ok (.invokestatic 94, 3) := by decide +kernel
theorem dX9_hoursOf_35 : decode cX9_hoursOf 35 = .ok (.ishl, 1) := by decide +kernel
theorem dX9_hoursOf_36 : decode cX9_hoursOf 36 = .ok (.goto 4, 3) := by decide +kernel
theorem dX9_hoursOf_39 : decode cX9_hoursOf 39 = .ok (.iconst 0, 1) := by decide +kernel
theorem dX9_hoursOf_40 : decode cX9_hoursOf 40 = .ok (.ior, 1) := by decide +kernel
theorem dX9_hoursOf_41 : decode cX9_hoursOf 41 = .ok (.istore_n 2, 1) := by decide +kernel
theorem dX9_hoursOf_42 : decode cX9_hoursOf 42 = .ok (.iinc 3 1, 3) := by decide +kernel
theorem dX9_hoursOf_45 : decode cX9_hoursOf 45 = .ok (.goto (-41), 3) := by decide +kernel
theorem dX9_hoursOf_48 : decode cX9_hoursOf 48 = .ok (.iload_n 2, 1) := by decide +kernel
theorem dX9_hoursOf_49 : decode cX9_hoursOf 49 = .ok (.ireturn, 1) := by decide +kernel
theorem dX9_gapOf_0 : decode cX9_gapOf 0 = .ok (.iconst 0, 1) := by decide +kernel
theorem dX9_gapOf_1 : decode cX9_gapOf 1 = .ok (.istore_n 3, 1) := by decide +kernel
theorem dX9_gapOf_2 : decode cX9_gapOf 2 = .ok (.iconst 0, 1) := by decide +kernel
theorem dX9_gapOf_3 : decode cX9_gapOf 3 = .ok (.istore 4, 2) := by decide +kernel
theorem dX9_gapOf_5 : decode cX9_gapOf 5 = .ok (.iconst 0, 1) := by decide +kernel
theorem dX9_gapOf_6 : decode cX9_gapOf 6 = .ok (.istore 5, 2) := by decide +kernel
theorem dX9_gapOf_8 : decode cX9_gapOf 8 = .ok (.iconst (-1), 1) := by decide +kernel
theorem dX9_gapOf_9 : decode cX9_gapOf 9 = .ok (.istore 6, 2) := by decide +kernel
theorem dX9_gapOf_11 : decode cX9_gapOf 11 = .ok (.iconst 0, 1) := by decide +kernel
theorem dX9_gapOf_12 : decode cX9_gapOf 12 = .ok (.istore 7, 2) := by decide +kernel
theorem dX9_gapOf_14 : decode cX9_gapOf 14 = .ok (.iload 7, 2) := by decide +kernel
theorem dX9_gapOf_16 : decode cX9_gapOf 16 = .ok (.aload_n 0, 1) := by decide +kernel
theorem dX9_gapOf_17 : decode cX9_gapOf 17 = .ok (.getfield 9, 3) := by decide +kernel
theorem dX9_gapOf_20 : decode cX9_gapOf 20 = .ok (.iconst 2, 1) := by decide +kernel
theorem dX9_gapOf_21 : decode cX9_gapOf 21 = .ok (.iaload, 1) := by decide +kernel
theorem dX9_gapOf_22 : decode cX9_gapOf 22 = .ok (.if_icmp .ge 78, 3) := by decide +kernel
theorem dX9_gapOf_25 : decode cX9_gapOf 25 = .ok (.aload_n 0, 1) := by decide +kernel
theorem dX9_gapOf_26 : decode cX9_gapOf 26 = .ok (.iload 7, 2) := by decide +kernel
theorem dX9_gapOf_28 : decode cX9_gapOf 28 = .ok (.iconst 1, 1) := by decide +kernel
theorem dX9_gapOf_29 : decode cX9_gapOf 29 = .ok (.invokevirtual 101, 3) := by decide +kernel
theorem dX9_gapOf_32 : decode cX9_gapOf 32 = .ok (.iload_n 1, 1) := by decide +kernel
theorem dX9_gapOf_33 : decode cX9_gapOf 33 = .ok (.if_icmp .eq 6, 3) := by decide +kernel
theorem dX9_gapOf_36 : decode cX9_gapOf 36 = .ok (.goto 58, 3) := by decide +kernel
theorem dX9_gapOf_39 : decode cX9_gapOf 39 = .ok (.aload_n 0, 1) := by decide +kernel
theorem dX9_gapOf_40 : decode cX9_gapOf 40 = .ok (.iload 7, 2) := by decide +kernel
theorem dX9_gapOf_42 : decode cX9_gapOf 42 = .ok (.iconst 0, 1) := by decide +kernel
theorem dX9_gapOf_43 : decode cX9_gapOf 43 = .ok (.invokevirtual 101, 3) := by decide +kernel
theorem dX9_gapOf_46 : decode cX9_gapOf 46 = .ok (.iload 6, 2) := by decide +kernel
theorem dX9_gapOf_48 : decode cX9_gapOf 48 = .ok (.isub, 1) := by decide +kernel
theorem dX9_gapOf_49 : decode cX9_gapOf 49 = .ok (.istore 8, 2) := by decide +kernel
theorem dX9_gapOf_51 : decode cX9_gapOf 51 = .ok (.iload 6, 2) := by decide +kernel
theorem dX9_gapOf_53 : decode cX9_gapOf 53 = .ok (.ifCond .lt 32, 3) := by decide +kernel
theorem dX9_gapOf_56 : decode cX9_gapOf 56 = .ok (.iload 4, 2) := by decide +kernel
theorem dX9_gapOf_58 : decode cX9_gapOf 58 = .ok (.ifCond .eq 10, 3) := by decide +kernel
theorem dX9_gapOf_61 : decode cX9_gapOf 61 = .ok (.iload 8, 2) := by decide +kernel
theorem dX9_gapOf_63 : decode cX9_gapOf 63 = .ok (.iload 5, 2) := by decide +kernel
theorem dX9_gapOf_65 : decode cX9_gapOf 65 = .ok (.if_icmp .ge 8, 3) := by decide +kernel
theorem dX9_gapOf_68 : decode cX9_gapOf 68 = .ok (.iload 8, 2) := by decide +kernel
theorem dX9_gapOf_70 : decode cX9_gapOf 70 = .ok (.goto 5, 3) := by decide +kernel
theorem dX9_gapOf_73 : decode cX9_gapOf 73 = .ok (.iload 5, 2) := by decide +kernel
theorem dX9_gapOf_75 : decode cX9_gapOf 75 = .ok (.istore 5, 2) := by decide +kernel
theorem dX9_gapOf_77 : decode cX9_gapOf 77 = .ok (.iload_n 3, 1) := by decide +kernel
theorem dX9_gapOf_78 : decode cX9_gapOf 78 = .ok (.iload 8, 2) := by decide +kernel
theorem dX9_gapOf_80 : decode cX9_gapOf 80 = .ok (.iadd, 1) := by decide +kernel
theorem dX9_gapOf_81 : decode cX9_gapOf 81 = .ok (.istore_n 3, 1) := by decide +kernel
theorem dX9_gapOf_82 : decode cX9_gapOf 82 = .ok (.iinc 4 1, 3) := by decide +kernel
theorem dX9_gapOf_85 : decode cX9_gapOf 85 = .ok (.aload_n 0, 1) := by decide +kernel
theorem dX9_gapOf_86 : decode cX9_gapOf 86 = .ok (.iload 7, 2) := by decide +kernel
theorem dX9_gapOf_88 : decode cX9_gapOf 88 = .ok (.iconst 0, 1) := by decide +kernel
theorem dX9_gapOf_89 : decode cX9_gapOf 89 = .ok (.invokevirtual 101, 3) := by decide +kernel
theorem dX9_gapOf_92 : decode cX9_gapOf 92 = .ok (.istore 6, 2) := by decide +kernel
theorem dX9_gapOf_94 : decode cX9_gapOf 94 = .ok (.iinc 7 1, 3) := by decide +kernel
theorem dX9_gapOf_97 : decode cX9_gapOf 97 = .ok (.goto (-83), 3) := by decide +kernel
theorem dX9_gapOf_100 : decode cX9_gapOf 100 = .ok (.iload 4, 2) := by decide +kernel
theorem dX9_gapOf_102 : decode cX9_gapOf 102 = .ok (.ifCond .ne 7, 3) := by decide +kernel
theorem dX9_gapOf_105 : decode cX9_gapOf 105 = .ok (.iconst 0, 1) := by decide +kernel
theorem dX9_gapOf_106 : decode cX9_gapOf 106 = .ok (.goto 16, 3) := by decide +kernel
theorem dX9_gapOf_109 : decode cX9_gapOf 109 = .ok (.iload_n 2, 1) := by decide +kernel
theorem dX9_gapOf_110 : decode cX9_gapOf 110 = .ok (.ifCond .eq 8, 3) := by decide +kernel
theorem dX9_gapOf_113 : decode cX9_gapOf 113 = .ok (.iload 5, 2) := by decide +kernel
theorem dX9_gapOf_115 : decode cX9_gapOf 115 = .ok (.goto 7, 3) := by decide +kernel
theorem dX9_gapOf_118 : decode cX9_gapOf 118 = .ok (.iload_n 3, 1) := by decide +kernel
theorem dX9_gapOf_119 : decode cX9_gapOf 119 = .ok (.iload 4, 2) := by decide +kernel
theorem dX9_gapOf_121 : decode cX9_gapOf 121 = .ok (.idiv, 1) := by decide +kernel
theorem dX9_gapOf_122 : decode cX9_gapOf 122 = .ok (.ireturn, 1) := by decide +kernel
theorem dX9_followOf_0 : decode cX9_followOf 0 = .ok (.iconst 0, 1) := by decide +kernel
theorem dX9_followOf_1 : decode cX9_followOf 1 = .ok (.istore_n 3, 1) := by decide +kernel
theorem dX9_followOf_2 : decode cX9_followOf 2 = .ok (.bipush 99, 2) := by decide +kernel
theorem dX9_followOf_4 : decode cX9_followOf 4 = .ok (.istore 4, 2) := by decide +kernel
theorem dX9_followOf_6 : decode cX9_followOf 6 = .ok (.iconst 0, 1) := by decide +kernel
theorem dX9_followOf_7 : decode cX9_followOf 7 = .ok (.istore 5, 2) := by decide +kernel
theorem dX9_followOf_9 : decode cX9_followOf 9 = .ok (.iload 5, 2) := by decide +kernel
theorem dX9_followOf_11 : decode cX9_followOf 11 = .ok (.aload_n 0, 1) := by decide +kernel
theorem dX9_followOf_12 : decode cX9_followOf 12 = .ok (.getfield 9, 3) := by decide +kernel
theorem dX9_followOf_15 : decode cX9_followOf 15 = .ok (.iconst 2, 1) := by decide +kernel
theorem dX9_followOf_16 : decode cX9_followOf 16 = .ok (.iaload, 1) := by decide +kernel
theorem dX9_followOf_17 : decode cX9_followOf 17 = .ok (.if_icmp .ge 76, 3) := by decide +kernel
theorem dX9_followOf_20 : decode cX9_followOf 20 = .ok (.aload_n 0, 1) := by decide +kernel
theorem dX9_followOf_21 : decode cX9_followOf 21 = .ok (.iload 5, 2) := by decide +kernel
theorem dX9_followOf_23 : decode cX9_followOf 23 = .ok (.iconst 1, 1) := by decide +kernel
theorem dX9_followOf_24 : decode cX9_followOf 24 = .ok (.invokevirtual 101, 3) := by decide +kernel
theorem dX9_followOf_27 : decode cX9_followOf 27 = .ok (.iload_n 1, 1) := by decide +kernel
theorem dX9_followOf_28 : decode cX9_followOf 28 = .ok (.if_icmp .ne 12, 3) := by decide +kernel
theorem dX9_followOf_31 : decode cX9_followOf 31 = .ok (.aload_n 0, 1) := by decide +kernel
theorem dX9_followOf_32 : decode cX9_followOf 32 = .ok (.iload 5, 2) := by decide +kernel
theorem dX9_followOf_34 : decode cX9_followOf 34 = .ok (.invokevirtual 138, 3) := by decide +kernel
theorem dX9_followOf_37 : decode cX9_followOf 37 = .ok (.goto 4, 3) := by decide +kernel
theorem dX9_followOf_40 : decode cX9_followOf 40 = .ok (.iconst (-1), 1) := by decide +kernel
theorem dX9_followOf_41 : decode cX9_followOf 41 = .ok (.istore 6, 2) := by decide +kernel
theorem dX9_followOf_43 : decode cX9_followOf 43 = .ok (.iload 6, 2) := by decide +kernel
theorem dX9_followOf_45 : decode cX9_followOf 45 = .ok (.ifCond .ge 6, 3) := by decide +kernel
theorem dX9_followOf_48 : decode cX9_followOf 48 = .ok (.goto 39, 3) := by decide +kernel
theorem dX9_followOf_51 : decode cX9_followOf 51 = .ok (.iinc 3 1, 3) := by decide +kernel
theorem dX9_followOf_54 : decode cX9_followOf 54 = .ok (.aload_n 0, 1) := by decide +kernel
theorem dX9_followOf_55 : decode cX9_followOf 55 = .ok (.iload 5, 2) := by decide +kernel
theorem dX9_followOf_57 : decode cX9_followOf 57 = .ok (.iconst 0, 1) := by decide +kernel
theorem dX9_followOf_58 : decode cX9_followOf 58 = .ok (.invokevirtual 101, 3) := by decide +kernel
theorem dX9_followOf_61 : decode cX9_followOf 61 = .ok (.aload_n 0, 1) := by decide +kernel
theorem dX9_followOf_62 : decode cX9_followOf 62 = .ok (.iload 6, 2) := by decide +kernel
theorem dX9_followOf_64 : decode cX9_followOf 64 = .ok (.iconst 0, 1) := by decide +kernel
theorem dX9_followOf_65 : decode cX9_followOf 65 = .ok (.invokevirtual 101, 3) := by decide +kernel
theorem dX9_followOf_68 : decode cX9_followOf 68 = .ok (.isub, 1) := by decide +kernel
theorem dX9_followOf_69 : decode cX9_followOf 69 = .ok (.istore 7, 2) := by decide +kernel
theorem dX9_followOf_71 : decode cX9_followOf 71 = .ok (.iload 7, 2) := by decide +kernel
theorem dX9_followOf_73 : decode cX9_followOf 73 = .ok (.iload 4, 2) := by decide +kernel
theorem dX9_followOf_75 : decode cX9_followOf 75 = .ok (.if_icmp .ge 8, 3) := by decide +kernel
theorem dX9_followOf_78 : decode cX9_followOf 78 = .ok (.iload 7, 2) := by decide +kernel
theorem dX9_followOf_80 : decode cX9_followOf 80 = .ok (.goto 5, 3) := by decide +kernel
theorem dX9_followOf_83 : decode cX9_followOf 83 = .ok (.iload 4, 2) := by decide +kernel
theorem dX9_followOf_85 : decode cX9_followOf 85 = .ok (.istore 4, 2) := by decide +kernel
theorem dX9_followOf_87 : decode cX9_followOf 87 = .ok (.iinc 5 1, 3) := by decide +kernel
theorem dX9_followOf_90 : decode cX9_followOf 90 = .ok (.goto (-81), 3) := by decide +kernel
theorem dX9_followOf_93 : decode cX9_followOf 93 = .ok (.iload_n 2, 1) := by decide +kernel
theorem dX9_followOf_94 : decode cX9_followOf 94 = .ok (.ifCond .eq 8, 3) := by decide +kernel
theorem dX9_followOf_97 : decode cX9_followOf 97 = .ok (.iload 4, 2) := by decide +kernel
theorem dX9_followOf_99 : decode cX9_followOf 99 = .ok (.goto 4, 3) := by decide +kernel
theorem dX9_followOf_102 : decode cX9_followOf 102 = .ok (.iload_n 3, 1) := by decide +kernel
theorem dX9_followOf_103 : decode cX9_followOf 103 = .ok (.ireturn, 1) := by decide +kernel
theorem dX9_signOf_0 : decode cX9_signOf 0 = .ok (.iconst 0, 1) := by decide +kernel
theorem dX9_signOf_1 : decode cX9_signOf 1 = .ok (.istore_n 3, 1) := by decide +kernel
theorem dX9_signOf_2 : decode cX9_signOf 2 = .ok (.iload_n 2, 1) := by decide +kernel
theorem dX9_signOf_3 : decode cX9_signOf 3 = .ok (.tableswitch 140 0 6 #[41, 47, 47, 63, 72, 72, 88], 41) := by decide +kernel
theorem dX9_signOf_44 : decode cX9_signOf 44 = .ok (.aload_n 0, 1) := by decide +kernel
theorem dX9_signOf_45 : decode cX9_signOf 45 = .ok (.iload_n 1, 1) := by decide +kernel
theorem dX9_signOf_46 : decode cX9_signOf 46 = .ok (.invokevirtual 123, 3) := by decide +kernel
theorem dX9_signOf_49 : decode cX9_signOf 49 = .ok (.ireturn, 1) := by decide +kernel
theorem dX9_signOf_50 : decode cX9_signOf 50 = .ok (.aload_n 0, 1) := by decide +kernel
theorem dX9_signOf_51 : decode cX9_signOf 51 = .ok (.iload_n 1, 1) := by decide +kernel
theorem dX9_signOf_52 : decode cX9_signOf 52 = .ok (.iload_n 2, 1) := by decide +kernel
theorem dX9_signOf_53 : decode cX9_signOf 53 = .ok (.iconst 2, 1) := by decide +kernel
theorem dX9_signOf_54 : decode cX9_signOf 54 = .ok (.if_icmp .ne 7, 3) := by decide +kernel
theorem dX9_signOf_57 : decode cX9_signOf 57 = .ok (.iconst 1, 1) := by decide +kernel
theorem dX9_signOf_58 : decode cX9_signOf 58 = .ok (.goto 4, 3) := by decide +kernel
theorem dX9_signOf_61 : decode cX9_signOf 61 = .ok (.iconst 0, 1) := by decide +kernel
theorem dX9_signOf_62 : decode cX9_signOf 62 = .ok (.invokevirtual 141, 3) := by decide +kernel
theorem dX9_signOf_65 : decode cX9_signOf 65 = .ok (.ireturn, 1) := by decide +kernel
theorem dX9_signOf_66 : decode cX9_signOf 66 = .ok (.aload_n 0, 1) := by decide +kernel
theorem dX9_signOf_67 : decode cX9_signOf 67 = .ok (.iload_n 1, 1) := by decide +kernel
theorem dX9_signOf_68 : decode cX9_signOf 68 = .ok (.invokevirtual 145, 3) := by decide +kernel
theorem dX9_signOf_71 : decode cX9_signOf 71 = .ok (.invokestatic 148, 3) := by decide +kernel
theorem dX9_signOf_74 : decode cX9_signOf 74 = .ok (.ireturn, 1) := by decide +kernel
theorem dX9_signOf_75 : decode cX9_signOf 75 = .ok (.aload_n 0, 1) := by decide +kernel
theorem dX9_signOf_76 : decode cX9_signOf 76 = .ok (.iload_n 1, 1) := by decide +kernel
theorem dX9_signOf_77 : decode cX9_signOf 77 = .ok (.iload_n 2, 1) := by decide +kernel
theorem dX9_signOf_78 : decode cX9_signOf 78 = .ok (.iconst 5, 1) := by decide +kernel
theorem dX9_signOf_79 : decode cX9_signOf 79 = .ok (.if_icmp .ne 7, 3) := by decide +kernel
theorem dX9_signOf_82 : decode cX9_signOf 82 = .ok (.iconst 1, 1) := by decide +kernel
theorem dX9_signOf_83 : decode cX9_signOf 83 = .ok (.goto 4, 3) := by decide +kernel
theorem dX9_signOf_86 : decode cX9_signOf 86 = .ok (.iconst 0, 1) := by decide +kernel
theorem dX9_signOf_87 : decode cX9_signOf 87 = .ok (.invokevirtual 151, 3) := by decide +kernel
theorem dX9_signOf_90 : decode cX9_signOf 90 = .ok (.ireturn, 1) := by decide +kernel
theorem dX9_signOf_91 : decode cX9_signOf 91 = .ok (.iconst 0, 1) := by decide +kernel
theorem dX9_signOf_92 : decode cX9_signOf 92 = .ok (.istore 4, 2) := by decide +kernel
theorem dX9_signOf_94 : decode cX9_signOf 94 = .ok (.iload 4, 2) := by decide +kernel
theorem dX9_signOf_96 : decode cX9_signOf 96 = .ok (.aload_n 0, 1) := by decide +kernel
theorem dX9_signOf_97 : decode cX9_signOf 97 = .ok (.getfield 9, 3) := by decide +kernel
theorem dX9_signOf_100 : decode cX9_signOf 100 = .ok (.iconst 2, 1) := by decide +kernel
theorem dX9_signOf_101 : decode cX9_signOf 101 = .ok (.iaload, 1) := by decide +kernel
theorem dX9_signOf_102 : decode cX9_signOf 102 = .ok (.if_icmp .ge 36, 3) := by decide +kernel
theorem dX9_signOf_105 : decode cX9_signOf 105 = .ok (.iload_n 3, 1) := by decide +kernel
theorem dX9_signOf_106 : decode cX9_signOf 106 = .ok (.aload_n 0, 1) := by decide +kernel
theorem dX9_signOf_107 : decode cX9_signOf 107 = .ok (.iload 4, 2) := by decide +kernel
theorem dX9_signOf_109 : decode cX9_signOf 109 = .ok (.iconst 1, 1) := by decide +kernel
theorem dX9_signOf_110 : decode cX9_signOf 110 = .ok (.invokevirtual 101, 3) := by decide +kernel
theorem dX9_signOf_113 : decode cX9_signOf 113 = .ok (.iload_n 1, 1) := by decide +kernel
theorem dX9_signOf_114 : decode cX9_signOf 114 = .ok (.if_icmp .ne 15, 3) := by decide +kernel
theorem dX9_signOf_117 : decode cX9_signOf 117 = .ok (.iconst 1, 1) := by decide +kernel
theorem dX9_signOf_118 : decode cX9_signOf 118 = .ok (.aload_n 0, 1) := by decide +kernel
theorem dX9_signOf_119 : decode cX9_signOf 119 = .ok (.iload 4, 2) := by decide +kernel
theorem dX9_signOf_121 : decode cX9_signOf 121 = .ok (.iconst 2, 1) := by decide +kernel
theorem dX9_signOf_122 : decode cX9_signOf 122 = .ok (.invokevirtual 101, 3) := by decide +kernel
theorem dX9_signOf_125 : decode cX9_signOf 125 = .ok (.ishl, 1) := by decide +kernel
theorem dX9_signOf_126 : decode cX9_signOf 126 = .ok (.goto 4, 3) := by decide +kernel
theorem dX9_signOf_129 : decode cX9_signOf 129 = .ok (.iconst 0, 1) := by decide +kernel
theorem dX9_signOf_130 : decode cX9_signOf 130 = .ok (.ior, 1) := by decide +kernel
theorem dX9_signOf_131 : decode cX9_signOf 131 = .ok (.istore_n 3, 1) := by decide +kernel
theorem dX9_signOf_132 : decode cX9_signOf 132 = .ok (.iinc 4 1, 3) := by decide +kernel
theorem dX9_signOf_135 : decode cX9_signOf 135 = .ok (.goto (-41), 3) := by decide +kernel
theorem dX9_signOf_138 : decode cX9_signOf 138 = .ok (.iload_n 3, 1) := by decide +kernel
theorem dX9_signOf_139 : decode cX9_signOf 139 = .ok (.invokestatic 148, 3) := by decide +kernel
theorem dX9_signOf_142 : decode cX9_signOf 142 = .ok (.ireturn, 1) := by decide +kernel
theorem dX9_signOf_143 : decode cX9_signOf 143 = .ok (.iload_n 1, 1) := by decide +kernel
theorem dX9_signOf_144 : decode cX9_signOf 144 = .ok (.ireturn, 1) := by decide +kernel
theorem dX9_sign_0 : decode cX9_sign 0 = .ok (.aload_n 0, 1) := by decide +kernel
theorem dX9_sign_1 : decode cX9_sign 1 = .ok (.iload_n 1, 1) := by decide +kernel
theorem dX9_sign_2 : decode cX9_sign 2 = .ok (.invokevirtual 73, 3) := by decide +kernel
theorem dX9_sign_5 : decode cX9_sign 5 = .ok (.ifCond .eq 24, 3) := by decide +kernel
theorem dX9_sign_8 : decode cX9_sign 8 = .ok (.iload_n 2, 1) := by decide +kernel
theorem dX9_sign_9 : decode cX9_sign 9 = .ok (.i2l, 1) := by decide +kernel
theorem dX9_sign_10 : decode cX9_sign 10 = .ok (.lconst 0, 1) := by decide +kernel
theorem dX9_sign_11 : decode cX9_sign 11 = .ok (.ldc2_w 154, 3) := by decide +kernel
theorem dX9_sign_14 : decode cX9_sign 14 = .ok (.invokestatic 48, 3) := by decide +kernel
theorem dX9_sign_17 : decode cX9_sign 17 = .ok (.ifCond .eq 12, 3) := by decide +kernel
theorem dX9_sign_20 : decode cX9_sign 20 = .ok (.aload_n 0, 1) := by decide +kernel
theorem dX9_sign_21 : decode cX9_sign 21 = .ok (.iload_n 1, 1) := by decide +kernel
theorem dX9_sign_22 : decode cX9_sign 22 = .ok (.iload_n 2, 1) := by decide +kernel
theorem dX9_sign_23 : decode cX9_sign 23 = .ok (.invokevirtual 156, 3) := by decide +kernel
theorem dX9_sign_26 : decode cX9_sign 26 = .ok (.goto 9, 3) := by decide +kernel
theorem dX9_sign_29 : decode cX9_sign 29 = .ok (.aload_n 0, 1) := by decide +kernel
theorem dX9_sign_30 : decode cX9_sign 30 = .ok (.ldc 47, 2) := by decide +kernel
theorem dX9_sign_32 : decode cX9_sign 32 = .ok (.invokevirtual 64, 3) := by decide +kernel
theorem dX9_sign_35 : decode cX9_sign 35 = .ok (.ireturn, 1) := by decide +kernel
theorem dX9_hours_0 : decode cX9_hours 0 = .ok (.aload_n 0, 1) := by decide +kernel
theorem dX9_hours_1 : decode cX9_hours 1 = .ok (.iload_n 1, 1) := by decide +kernel
theorem dX9_hours_2 : decode cX9_hours 2 = .ok (.invokevirtual 73, 3) := by decide +kernel
theorem dX9_hours_5 : decode cX9_hours 5 = .ok (.ifCond .eq 11, 3) := by decide +kernel
theorem dX9_hours_8 : decode cX9_hours 8 = .ok (.aload_n 0, 1) := by decide +kernel
theorem dX9_hours_9 : decode cX9_hours 9 = .ok (.iload_n 1, 1) := by decide +kernel
theorem dX9_hours_10 : decode cX9_hours 10 = .ok (.invokevirtual 145, 3) := by decide +kernel
theorem dX9_hours_13 : decode cX9_hours 13 = .ok (.goto 9, 3) := by decide +kernel
theorem dX9_hours_16 : decode cX9_hours 16 = .ok (.aload_n 0, 1) := by decide +kernel
theorem dX9_hours_17 : decode cX9_hours 17 = .ok (.ldc 47, 2) := by decide +kernel
theorem dX9_hours_19 : decode cX9_hours 19 = .ok (.invokevirtual 64, 3) := by decide +kernel
theorem dX9_hours_22 : decode cX9_hours 22 = .ok (.ireturn, 1) := by decide +kernel
theorem dX9_feed_0 : decode cX9_feed 0 = .ok (.iload_n 2, 1) := by decide +kernel
theorem dX9_feed_1 : decode cX9_feed 1 = .ok (.i2l, 1) := by decide +kernel
theorem dX9_feed_2 : decode cX9_feed 2 = .ok (.lconst 1, 1) := by decide +kernel
theorem dX9_feed_3 : decode cX9_feed 3 = .ok (.ldc2_w 159, 3) := by decide +kernel
theorem dX9_feed_6 : decode cX9_feed 6 = .ok (.invokestatic 48, 3) := by decide +kernel
theorem dX9_feed_9 : decode cX9_feed 9 = .ok (.ifCond .ne 10, 3) := by decide +kernel
theorem dX9_feed_12 : decode cX9_feed 12 = .ok (.aload_n 0, 1) := by decide +kernel
theorem dX9_feed_13 : decode cX9_feed 13 = .ok (.ldc 47, 2) := by decide +kernel
theorem dX9_feed_15 : decode cX9_feed 15 = .ok (.invokevirtual 64, 3) := by decide +kernel
theorem dX9_feed_18 : decode cX9_feed 18 = .ok (.ireturn, 1) := by decide +kernel
theorem dX9_feed_19 : decode cX9_feed 19 = .ok (.aload_n 0, 1) := by decide +kernel
theorem dX9_feed_20 : decode cX9_feed 20 = .ok (.getfield 161, 3) := by decide +kernel
theorem dX9_feed_23 : decode cX9_feed 23 = .ok (.iload_n 2, 1) := by decide +kernel
theorem dX9_feed_24 : decode cX9_feed 24 = .ok (.iadd, 1) := by decide +kernel
theorem dX9_feed_25 : decode cX9_feed 25 = .ok (.bipush 80, 2) := by decide +kernel
theorem dX9_feed_27 : decode cX9_feed 27 = .ok (.if_icmp .le 10, 3) := by decide +kernel
theorem dX9_feed_30 : decode cX9_feed 30 = .ok (.aload_n 0, 1) := by decide +kernel
theorem dX9_feed_31 : decode cX9_feed 31 = .ok (.ldc 68, 2) := by decide +kernel
theorem dX9_feed_33 : decode cX9_feed 33 = .ok (.invokevirtual 64, 3) := by decide +kernel
theorem dX9_feed_36 : decode cX9_feed 36 = .ok (.ireturn, 1) := by decide +kernel
theorem dX9_feed_37 : decode cX9_feed 37 = .ok (.iload_n 2, 1) := by decide +kernel
theorem dX9_feed_38 : decode cX9_feed 38 = .ok (.iconst 1, 1) := by decide +kernel
theorem dX9_feed_39 : decode cX9_feed 39 = .ok (.isub, 1) := by decide +kernel
theorem dX9_feed_40 : decode cX9_feed 40 = .ok (.istore_n 3, 1) := by decide +kernel
theorem dX9_feed_41 : decode cX9_feed 41 = .ok (.iload_n 3, 1) := by decide +kernel
theorem dX9_feed_42 : decode cX9_feed 42 = .ok (.ifCond .lt 38, 3) := by decide +kernel
theorem dX9_feed_45 : decode cX9_feed 45 = .ok (.aload_n 0, 1) := by decide +kernel
theorem dX9_feed_46 : decode cX9_feed 46 = .ok (.getfield 23, 3) := by decide +kernel
theorem dX9_feed_49 : decode cX9_feed 49 = .ok (.aload_n 0, 1) := by decide +kernel
theorem dX9_feed_50 : decode cX9_feed 50 = .ok (.getfield 161, 3) := by decide +kernel
theorem dX9_feed_53 : decode cX9_feed 53 = .ok (.iload_n 1, 1) := by decide +kernel
theorem dX9_feed_54 : decode cX9_feed 54 = .ok (.bipush 8, 2) := by decide +kernel
theorem dX9_feed_56 : decode cX9_feed 56 = .ok (.iload_n 3, 1) := by decide +kernel
theorem dX9_feed_57 : decode cX9_feed 57 = .ok (.imul, 1) := by decide +kernel
theorem dX9_feed_58 : decode cX9_feed 58 = .ok (.ishr, 1) := by decide +kernel
theorem dX9_feed_59 : decode cX9_feed 59 = .ok (.sipush 255, 3) := by decide +kernel
theorem dX9_feed_62 : decode cX9_feed 62 = .ok (.iand, 1) := by decide +kernel
theorem dX9_feed_63 : decode cX9_feed 63 = .ok (.iastore, 1) := by decide +kernel
theorem dX9_feed_64 : decode cX9_feed 64 = .ok (.aload_n 0, 1) := by decide +kernel
theorem dX9_feed_65 : decode cX9_feed 65 = .ok (.dup, 1) := by decide +kernel
theorem dX9_feed_66 : decode cX9_feed 66 = .ok (.getfield 161, 3) := by decide +kernel
theorem dX9_feed_69 : decode cX9_feed 69 = .ok (.iconst 1, 1) := by decide +kernel
theorem dX9_feed_70 : decode cX9_feed 70 = .ok (.iadd, 1) := by decide +kernel
theorem dX9_feed_71 : decode cX9_feed 71 = .ok (.putfield 161, 3) := by decide +kernel
theorem dX9_feed_74 : decode cX9_feed 74 = .ok (.iinc 3 (-1), 3) := by decide +kernel
theorem dX9_feed_77 : decode cX9_feed 77 = .ok (.goto (-36), 3) := by decide +kernel
theorem dX9_feed_80 : decode cX9_feed 80 = .ok (.aload_n 0, 1) := by decide +kernel
theorem dX9_feed_81 : decode cX9_feed 81 = .ok (.getfield 161, 3) := by decide +kernel
theorem dX9_feed_84 : decode cX9_feed 84 = .ok (.ireturn, 1) := by decide +kernel
theorem dX9_wipe_0 : decode cX9_wipe 0 = .ok (.aload_n 0, 1) := by decide +kernel
theorem dX9_wipe_1 : decode cX9_wipe 1 = .ok (.getfield 161, 3) := by decide +kernel
theorem dX9_wipe_4 : decode cX9_wipe 4 = .ok (.istore_n 1, 1) := by decide +kernel
theorem dX9_wipe_5 : decode cX9_wipe 5 = .ok (.aload_n 0, 1) := by decide +kernel
theorem dX9_wipe_6 : decode cX9_wipe 6 = .ok (.iconst 0, 1) := by decide +kernel
theorem dX9_wipe_7 : decode cX9_wipe 7 = .ok (.putfield 161, 3) := by decide +kernel
theorem dX9_wipe_10 : decode cX9_wipe 10 = .ok (.iload_n 1, 1) := by decide +kernel
theorem dX9_wipe_11 : decode cX9_wipe 11 = .ok (.ireturn, 1) := by decide +kernel
theorem dX9_isDigit_0 : decode cX9_isDigit 0 = .ok (.iload_n 0, 1) := by decide +kernel
theorem dX9_isDigit_1 : decode cX9_isDigit 1 = .ok (.i2l, 1) := by decide +kernel
theorem dX9_isDigit_2 : decode cX9_isDigit 2 = .ok (.ldc2_w 165, 3) := by decide +kernel
theorem dX9_isDigit_5 : decode cX9_isDigit 5 = .ok (.ldc2_w 167, 3) := by decide +kernel
theorem dX9_isDigit_8 : decode cX9_isDigit 8 = .ok (.invokestatic 48, 3) := by decide +kernel
theorem dX9_isDigit_11 : decode cX9_isDigit 11 = .ok (.ireturn, 1) := by decide +kernel
theorem dX9_letterOf_0 : decode cX9_letterOf 0 = .ok (.iload_n 0, 1) := by decide +kernel
theorem dX9_letterOf_1 : decode cX9_letterOf 1 = .ok (.tableswitch 105 102 119 #[95, 89, 93, 105, 105, 105, 91, 105, 102, 105, 105, 97, 105, 105, 99, 105, 105, 87], 87) := by decide +kernel
theorem dX9_letterOf_88 : decode cX9_letterOf 88 = .ok (.iconst 0, 1) := by decide +kernel
theorem dX9_letterOf_89 : decode cX9_letterOf 89 = .ok (.ireturn, 1) := by decide +kernel
theorem dX9_letterOf_90 : decode cX9_letterOf 90 = .ok (.iconst 1, 1) := by decide +kernel
theorem dX9_letterOf_91 : decode cX9_letterOf 91 = .ok (.ireturn, 1) := by decide +kernel
theorem dX9_letterOf_92 : decode cX9_letterOf 92 = .ok (.iconst 2, 1) := by decide +kernel
theorem dX9_letterOf_93 : decode cX9_letterOf 93 = .ok (.ireturn, 1) := by decide +kernel
theorem dX9_letterOf_94 : decode cX9_letterOf 94 = .ok (.iconst 3, 1) := by decide +kernel
theorem dX9_letterOf_95 : decode cX9_letterOf 95 = .ok (.ireturn, 1) := by decide +kernel
theorem dX9_letterOf_96 : decode cX9_letterOf 96 = .ok (.iconst 4, 1) := by decide +kernel
theorem dX9_letterOf_97 : decode cX9_letterOf 97 = .ok (.ireturn, 1) := by decide +kernel
theorem dX9_letterOf_98 : decode cX9_letterOf 98 = .ok (.iconst 5, 1) := by decide +kernel
theorem dX9_letterOf_99 : decode cX9_letterOf 99 = .ok (.ireturn, 1) := by decide +kernel
theorem dX9_letterOf_100 : decode cX9_letterOf 100 = .ok (.bipush 6, 2) := by decide +kernel
theorem dX9_letterOf_102 : decode cX9_letterOf 102 = .ok (.ireturn, 1) := by decide +kernel
theorem dX9_letterOf_103 : decode cX9_letterOf 103 = .ok (.bipush 7, 2) := by decide +kernel
theorem dX9_letterOf_105 : decode cX9_letterOf 105 = .ok (.ireturn, 1) := by decide +kernel
theorem dX9_letterOf_106 : decode cX9_letterOf 106 = .ok (.iconst (-1), 1) := by decide +kernel
theorem dX9_letterOf_107 : decode cX9_letterOf 107 = .ok (.ireturn, 1) := by decide +kernel
theorem dX9_next__0 : decode cX9_next_ 0 = .ok (.aload_n 0, 1) := by decide +kernel
theorem dX9_next__1 : decode cX9_next_ 1 = .ok (.aload_n 0, 1) := by decide +kernel
theorem dX9_next__2 : decode cX9_next_ 2 = .ok (.getfield 169, 3) := by decide +kernel
theorem dX9_next__5 : decode cX9_next_ 5 = .ok (.putfield 172, 3) := by decide +kernel
theorem dX9_next__8 : decode cX9_next_ 8 = .ok (.aload_n 0, 1) := by decide +kernel
theorem dX9_next__9 : decode cX9_next_ 9 = .ok (.getfield 172, 3) := by decide +kernel
theorem dX9_next__12 : decode cX9_next_ 12 = .ok (.aload_n 0, 1) := by decide +kernel
theorem dX9_next__13 : decode cX9_next_ 13 = .ok (.getfield 161, 3) := by decide +kernel
theorem dX9_next__16 : decode cX9_next_ 16 = .ok (.if_icmp .ge 30, 3) := by decide +kernel
theorem dX9_next__19 : decode cX9_next_ 19 = .ok (.aload_n 0, 1) := by decide +kernel
theorem dX9_next__20 : decode cX9_next_ 20 = .ok (.getfield 23, 3) := by decide +kernel
theorem dX9_next__23 : decode cX9_next_ 23 = .ok (.aload_n 0, 1) := by decide +kernel
theorem dX9_next__24 : decode cX9_next_ 24 = .ok (.getfield 172, 3) := by decide +kernel
theorem dX9_next__27 : decode cX9_next_ 27 = .ok (.iaload, 1) := by decide +kernel
theorem dX9_next__28 : decode cX9_next_ 28 = .ok (.bipush 32, 2) := by decide +kernel
theorem dX9_next__30 : decode cX9_next_ 30 = .ok (.if_icmp .ne 16, 3) := by decide +kernel
theorem dX9_next__33 : decode cX9_next_ 33 = .ok (.aload_n 0, 1) := by decide +kernel
theorem dX9_next__34 : decode cX9_next_ 34 = .ok (.dup, 1) := by decide +kernel
theorem dX9_next__35 : decode cX9_next_ 35 = .ok (.getfield 172, 3) := by decide +kernel
theorem dX9_next__38 : decode cX9_next_ 38 = .ok (.iconst 1, 1) := by decide +kernel
theorem dX9_next__39 : decode cX9_next_ 39 = .ok (.iadd, 1) := by decide +kernel
theorem dX9_next__40 : decode cX9_next_ 40 = .ok (.putfield 172, 3) := by decide +kernel
theorem dX9_next__43 : decode cX9_next_ 43 = .ok (.goto (-35), 3) := by decide +kernel
theorem dX9_next__46 : decode cX9_next_ 46 = .ok (.aload_n 0, 1) := by decide +kernel
theorem dX9_next__47 : decode cX9_next_ 47 = .ok (.aload_n 0, 1) := by decide +kernel
theorem dX9_next__48 : decode cX9_next_ 48 = .ok (.getfield 172, 3) := by decide +kernel
theorem dX9_next__51 : decode cX9_next_ 51 = .ok (.putfield 169, 3) := by decide +kernel
theorem dX9_next__54 : decode cX9_next_ 54 = .ok (.aload_n 0, 1) := by decide +kernel
theorem dX9_next__55 : decode cX9_next_ 55 = .ok (.iconst 0, 1) := by decide +kernel
theorem dX9_next__56 : decode cX9_next_ 56 = .ok (.putfield 175, 3) := by decide +kernel
theorem dX9_next__59 : decode cX9_next_ 59 = .ok (.aload_n 0, 1) := by decide +kernel
theorem dX9_next__60 : decode cX9_next_ 60 = .ok (.iconst (-1), 1) := by decide +kernel
theorem dX9_next__61 : decode cX9_next_ 61 = .ok (.putfield 178, 3) := by decide +kernel
theorem dX9_next__64 : decode cX9_next_ 64 = .ok (.aload_n 0, 1) := by decide +kernel
theorem dX9_next__65 : decode cX9_next_ 65 = .ok (.getfield 172, 3) := by decide +kernel
theorem dX9_next__68 : decode cX9_next_ 68 = .ok (.aload_n 0, 1) := by decide +kernel
theorem dX9_next__69 : decode cX9_next_ 69 = .ok (.getfield 161, 3) := by decide +kernel
theorem dX9_next__72 : decode cX9_next_ 72 = .ok (.if_icmp .ne 4, 3) := by decide +kernel
theorem dX9_next__75 : decode cX9_next_ 75 = .ok (.return_, 1) := by decide +kernel
theorem dX9_next__76 : decode cX9_next_ 76 = .ok (.aload_n 0, 1) := by decide +kernel
theorem dX9_next__77 : decode cX9_next_ 77 = .ok (.aload_n 0, 1) := by decide +kernel
theorem dX9_next__78 : decode cX9_next_ 78 = .ok (.getfield 23, 3) := by decide +kernel
theorem dX9_next__81 : decode cX9_next_ 81 = .ok (.aload_n 0, 1) := by decide +kernel
theorem dX9_next__82 : decode cX9_next_ 82 = .ok (.getfield 172, 3) := by decide +kernel
theorem dX9_next__85 : decode cX9_next_ 85 = .ok (.iaload, 1) := by decide +kernel
theorem dX9_next__86 : decode cX9_next_ 86 = .ok (.invokestatic 181, 3) := by decide +kernel
theorem dX9_next__89 : decode cX9_next_ 89 = .ok (.ifCond .eq 8, 3) := by decide +kernel
theorem dX9_next__92 : decode cX9_next_ 92 = .ok (.bipush 48, 2) := by decide +kernel
theorem dX9_next__94 : decode cX9_next_ 94 = .ok (.goto 12, 3) := by decide +kernel
theorem dX9_next__97 : decode cX9_next_ 97 = .ok (.aload_n 0, 1) := by decide +kernel
theorem dX9_next__98 : decode cX9_next_ 98 = .ok (.getfield 23, 3) := by decide +kernel
theorem dX9_next__101 : decode cX9_next_ 101 = .ok (.aload_n 0, 1) := by decide +kernel
theorem dX9_next__102 : decode cX9_next_ 102 = .ok (.getfield 172, 3) := by decide +kernel
theorem dX9_next__105 : decode cX9_next_ 105 = .ok (.iaload, 1) := by decide +kernel
theorem dX9_next__106 : decode cX9_next_ 106 = .ok (.putfield 178, 3) := by decide +kernel
theorem dX9_next__109 : decode cX9_next_ 109 = .ok (.aload_n 0, 1) := by decide +kernel
theorem dX9_next__110 : decode cX9_next_ 110 = .ok (.getfield 178, 3) := by decide +kernel
theorem dX9_next__113 : decode cX9_next_ 113 = .ok (.bipush 48, 2) := by decide +kernel
theorem dX9_next__115 : decode cX9_next_ 115 = .ok (.if_icmp .eq 13, 3) := by decide +kernel
theorem dX9_next__118 : decode cX9_next_ 118 = .ok (.aload_n 0, 1) := by decide +kernel
theorem dX9_next__119 : decode cX9_next_ 119 = .ok (.dup, 1) := by decide +kernel
theorem dX9_next__120 : decode cX9_next_ 120 = .ok (.getfield 169, 3) := by decide +kernel
theorem dX9_next__123 : decode cX9_next_ 123 = .ok (.iconst 1, 1) := by decide +kernel
theorem dX9_next__124 : decode cX9_next_ 124 = .ok (.iadd, 1) := by decide +kernel
theorem dX9_next__125 : decode cX9_next_ 125 = .ok (.putfield 169, 3) := by decide +kernel
theorem dX9_next__128 : decode cX9_next_ 128 = .ok (.aload_n 0, 1) := by decide +kernel
theorem dX9_next__129 : decode cX9_next_ 129 = .ok (.getfield 178, 3) := by decide +kernel
theorem dX9_next__132 : decode cX9_next_ 132 = .ok (.bipush 48, 2) := by decide +kernel
theorem dX9_next__134 : decode cX9_next_ 134 = .ok (.if_icmp .ne 83, 3) := by decide +kernel
theorem dX9_next__137 : decode cX9_next_ 137 = .ok (.aload_n 0, 1) := by decide +kernel
theorem dX9_next__138 : decode cX9_next_ 138 = .ok (.getfield 169, 3) := by decide +kernel
theorem dX9_next__141 : decode cX9_next_ 141 = .ok (.aload_n 0, 1) := by decide +kernel
theorem dX9_next__142 : decode cX9_next_ 142 = .ok (.getfield 161, 3) := by decide +kernel
theorem dX9_next__145 : decode cX9_next_ 145 = .ok (.if_icmp .ge 72, 3) := by decide +kernel
theorem dX9_next__148 : decode cX9_next_ 148 = .ok (.aload_n 0, 1) := by decide +kernel
theorem dX9_next__149 : decode cX9_next_ 149 = .ok (.getfield 23, 3) := by decide +kernel
theorem dX9_next__152 : decode cX9_next_ 152 = .ok (.aload_n 0, 1) := by decide +kernel
theorem dX9_next__153 : decode cX9_next_ 153 = .ok (.getfield 169, 3) := by decide +kernel
theorem dX9_next__156 : decode cX9_next_ 156 = .ok (.iaload, 1) := by decide +kernel
theorem dX9_next__157 : decode cX9_next_ 157 = .ok (.invokestatic 181, 3) := by decide +kernel
theorem dX9_next__160 : decode cX9_next_ 160 = .ok (.ifCond .eq 57, 3) := by decide +kernel
theorem dX9_next__163 : decode cX9_next_ 163 = .ok (.aload_n 0, 1) := by decide +kernel
theorem dX9_next__164 : decode cX9_next_ 164 = .ok (.aload_n 0, 1) := by decide +kernel
theorem dX9_next__165 : decode cX9_next_ 165 = .ok (.getfield 175, 3) := by decide +kernel
theorem dX9_next__168 : decode cX9_next_ 168 = .ok (.sipush 9999, 3) := by decide +kernel
theorem dX9_next__171 : decode cX9_next_ 171 = .ok (.if_icmp .le 10, 3) := by decide +kernel
theorem dX9_next__174 : decode cX9_next_ 174 = .ok (.aload_n 0, 1) := by decide +kernel
theorem dX9_next__175 : decode cX9_next_ 175 = .ok (.getfield 175, 3) := by decide +kernel
theorem dX9_next__178 : decode cX9_next_ 178 = .ok (.goto 23, 3) := by decide +kernel
theorem dX9_next__181 : decode cX9_next_ 181 = .ok (.bipush 10, 2) := by decide +kernel
theorem dX9_next__183 : decode cX9_next_ 183 = .ok (.aload_n 0, 1) := by decide +kernel
theorem dX9_next__184 : decode cX9_next_ 184 = .ok (.getfield 175, 3) := by decide +kernel
theorem dX9_next__187 : decode cX9_next_ 187 = .ok (.imul, 1) := by decide +kernel
theorem dX9_next__188 : decode cX9_next_ 188 = .ok (.aload_n 0, 1) := by decide +kernel
theorem dX9_next__189 : decode cX9_next_ 189 = .ok (.getfield 23, 3) := by decide +kernel
theorem dX9_next__192 : decode cX9_next_ 192 = .ok (.aload_n 0, 1) := by decide +kernel
theorem dX9_next__193 : decode cX9_next_ 193 = .ok (.getfield 169, 3) := by decide +kernel
theorem dX9_next__196 : decode cX9_next_ 196 = .ok (.iaload, 1) := by decide +kernel
theorem dX9_next__197 : decode cX9_next_ 197 = .ok (.iadd, 1) := by decide +kernel
theorem dX9_next__198 : decode cX9_next_ 198 = .ok (.bipush 48, 2) := by decide +kernel
theorem dX9_next__200 : decode cX9_next_ 200 = .ok (.isub, 1) := by decide +kernel
theorem dX9_next__201 : decode cX9_next_ 201 = .ok (.putfield 175, 3) := by decide +kernel
theorem dX9_next__204 : decode cX9_next_ 204 = .ok (.aload_n 0, 1) := by decide +kernel
theorem dX9_next__205 : decode cX9_next_ 205 = .ok (.dup, 1) := by decide +kernel
theorem dX9_next__206 : decode cX9_next_ 206 = .ok (.getfield 169, 3) := by decide +kernel
theorem dX9_next__209 : decode cX9_next_ 209 = .ok (.iconst 1, 1) := by decide +kernel
theorem dX9_next__210 : decode cX9_next_ 210 = .ok (.iadd, 1) := by decide +kernel
theorem dX9_next__211 : decode cX9_next_ 211 = .ok (.putfield 169, 3) := by decide +kernel
theorem dX9_next__214 : decode cX9_next_ 214 = .ok (.goto (-86), 3) := by decide +kernel
theorem dX9_next__217 : decode cX9_next_ 217 = .ok (.return_, 1) := by decide +kernel
theorem dX9_isSign_0 : decode cX9_isSign 0 = .ok (.aload_n 0, 1) := by decide +kernel
theorem dX9_isSign_1 : decode cX9_isSign 1 = .ok (.getfield 184, 3) := by decide +kernel
theorem dX9_isSign_4 : decode cX9_isSign 4 = .ok (.ifCond .ne 21, 3) := by decide +kernel
theorem dX9_isSign_7 : decode cX9_isSign 7 = .ok (.aload_n 0, 1) := by decide +kernel
theorem dX9_isSign_8 : decode cX9_isSign 8 = .ok (.getfield 178, 3) := by decide +kernel
theorem dX9_isSign_11 : decode cX9_isSign 11 = .ok (.iload_n 1, 1) := by decide +kernel
theorem dX9_isSign_12 : decode cX9_isSign 12 = .ok (.if_icmp .ne 13, 3) := by decide +kernel
theorem dX9_isSign_15 : decode cX9_isSign 15 = .ok (.iload_n 1, 1) := by decide +kernel
theorem dX9_isSign_16 : decode cX9_isSign 16 = .ok (.bipush 48, 2) := by decide +kernel
theorem dX9_isSign_18 : decode cX9_isSign 18 = .ok (.if_icmp .eq 7, 3) := by decide +kernel
theorem dX9_isSign_21 : decode cX9_isSign 21 = .ok (.iconst 1, 1) := by decide +kernel
theorem dX9_isSign_22 : decode cX9_isSign 22 = .ok (.goto 4, 3) := by decide +kernel
theorem dX9_isSign_25 : decode cX9_isSign 25 = .ok (.iconst 0, 1) := by decide +kernel
theorem dX9_isSign_26 : decode cX9_isSign 26 = .ok (.ireturn, 1) := by decide +kernel
theorem dX9_puts_0 : decode cX9_puts 0 = .ok (.aload_n 0, 1) := by decide +kernel
theorem dX9_puts_1 : decode cX9_puts 1 = .ok (.getfield 184, 3) := by decide +kernel
theorem dX9_puts_4 : decode cX9_puts 4 = .ok (.ifCond .eq 4, 3) := by decide +kernel
theorem dX9_puts_7 : decode cX9_puts 7 = .ok (.return_, 1) := by decide +kernel
theorem dX9_puts_8 : decode cX9_puts 8 = .ok (.aload_n 0, 1) := by decide +kernel
theorem dX9_puts_9 : decode cX9_puts 9 = .ok (.getfield 26, 3) := by decide +kernel
theorem dX9_puts_12 : decode cX9_puts 12 = .ok (.aload_n 0, 1) := by decide +kernel
theorem dX9_puts_13 : decode cX9_puts 13 = .ok (.getfield 188, 3) := by decide +kernel
theorem dX9_puts_16 : decode cX9_puts 16 = .ok (.iload_n 1, 1) := by decide +kernel
theorem dX9_puts_17 : decode cX9_puts 17 = .ok (.iastore, 1) := by decide +kernel
theorem dX9_puts_18 : decode cX9_puts 18 = .ok (.aload_n 0, 1) := by decide +kernel
theorem dX9_puts_19 : decode cX9_puts 19 = .ok (.dup, 1) := by decide +kernel
theorem dX9_puts_20 : decode cX9_puts 20 = .ok (.getfield 188, 3) := by decide +kernel
theorem dX9_puts_23 : decode cX9_puts 23 = .ok (.iconst 1, 1) := by decide +kernel
theorem dX9_puts_24 : decode cX9_puts 24 = .ok (.iadd, 1) := by decide +kernel
theorem dX9_puts_25 : decode cX9_puts 25 = .ok (.putfield 188, 3) := by decide +kernel
theorem dX9_puts_28 : decode cX9_puts 28 = .ok (.return_, 1) := by decide +kernel
theorem dX9_whole_0 : decode cX9_whole 0 = .ok (.aload_n 0, 1) := by decide +kernel
theorem dX9_whole_1 : decode cX9_whole 1 = .ok (.invokevirtual 191, 3) := by decide +kernel
theorem dX9_whole_4 : decode cX9_whole 4 = .ok (.aload_n 0, 1) := by decide +kernel
theorem dX9_whole_5 : decode cX9_whole 5 = .ok (.bipush 60, 2) := by decide +kernel
theorem dX9_whole_7 : decode cX9_whole 7 = .ok (.invokevirtual 194, 3) := by decide +kernel
theorem dX9_whole_10 : decode cX9_whole 10 = .ok (.ifCond .ne 12, 3) := by decide +kernel
theorem dX9_whole_13 : decode cX9_whole 13 = .ok (.aload_n 0, 1) := by decide +kernel
theorem dX9_whole_14 : decode cX9_whole 14 = .ok (.bipush 61, 2) := by decide +kernel
theorem dX9_whole_16 : decode cX9_whole 16 = .ok (.invokevirtual 194, 3) := by decide +kernel
theorem dX9_whole_19 : decode cX9_whole 19 = .ok (.ifCond .eq 25, 3) := by decide +kernel
theorem dX9_whole_22 : decode cX9_whole 22 = .ok (.aload_n 0, 1) := by decide +kernel
theorem dX9_whole_23 : decode cX9_whole 23 = .ok (.getfield 178, 3) := by decide +kernel
theorem dX9_whole_26 : decode cX9_whole 26 = .ok (.istore_n 1, 1) := by decide +kernel
theorem dX9_whole_27 : decode cX9_whole 27 = .ok (.aload_n 0, 1) := by decide +kernel
theorem dX9_whole_28 : decode cX9_whole 28 = .ok (.invokevirtual 197, 3) := by decide +kernel
theorem dX9_whole_31 : decode cX9_whole 31 = .ok (.aload_n 0, 1) := by decide +kernel
theorem dX9_whole_32 : decode cX9_whole 32 = .ok (.invokevirtual 191, 3) := by decide +kernel
theorem dX9_whole_35 : decode cX9_whole 35 = .ok (.aload_n 0, 1) := by decide +kernel
theorem dX9_whole_36 : decode cX9_whole 36 = .ok (.sipush 20000, 3) := by decide +kernel
theorem dX9_whole_39 : decode cX9_whole 39 = .ok (.iload_n 1, 1) := by decide +kernel
theorem dX9_whole_40 : decode cX9_whole 40 = .ok (.iadd, 1) := by decide +kernel
theorem dX9_whole_41 : decode cX9_whole 41 = .ok (.invokevirtual 200, 3) := by decide +kernel
theorem dX9_whole_44 : decode cX9_whole 44 = .ok (.return_, 1) := by decide +kernel
theorem dX9_sum_0 : decode cX9_sum 0 = .ok (.aload_n 0, 1) := by decide +kernel
theorem dX9_sum_1 : decode cX9_sum 1 = .ok (.invokevirtual 204, 3) := by decide +kernel
theorem dX9_sum_4 : decode cX9_sum 4 = .ok (.aload_n 0, 1) := by decide +kernel
theorem dX9_sum_5 : decode cX9_sum 5 = .ok (.bipush 43, 2) := by decide +kernel
theorem dX9_sum_7 : decode cX9_sum 7 = .ok (.invokevirtual 194, 3) := by decide +kernel
theorem dX9_sum_10 : decode cX9_sum 10 = .ok (.ifCond .ne 12, 3) := by decide +kernel
theorem dX9_sum_13 : decode cX9_sum 13 = .ok (.aload_n 0, 1) := by decide +kernel
theorem dX9_sum_14 : decode cX9_sum 14 = .ok (.bipush 45, 2) := by decide +kernel
theorem dX9_sum_16 : decode cX9_sum 16 = .ok (.invokevirtual 194, 3) := by decide +kernel
theorem dX9_sum_19 : decode cX9_sum 19 = .ok (.ifCond .eq 28, 3) := by decide +kernel
theorem dX9_sum_22 : decode cX9_sum 22 = .ok (.aload_n 0, 1) := by decide +kernel
theorem dX9_sum_23 : decode cX9_sum 23 = .ok (.getfield 178, 3) := by decide +kernel
theorem dX9_sum_26 : decode cX9_sum 26 = .ok (.istore_n 1, 1) := by decide +kernel
theorem dX9_sum_27 : decode cX9_sum 27 = .ok (.aload_n 0, 1) := by decide +kernel
theorem dX9_sum_28 : decode cX9_sum 28 = .ok (.invokevirtual 197, 3) := by decide +kernel
theorem dX9_sum_31 : decode cX9_sum 31 = .ok (.aload_n 0, 1) := by decide +kernel
theorem dX9_sum_32 : decode cX9_sum 32 = .ok (.invokevirtual 204, 3) := by decide +kernel
theorem dX9_sum_35 : decode cX9_sum 35 = .ok (.aload_n 0, 1) := by decide +kernel
theorem dX9_sum_36 : decode cX9_sum 36 = .ok (.sipush 20000, 3) := by decide +kernel
theorem dX9_sum_39 : decode cX9_sum 39 = .ok (.iload_n 1, 1) := by decide +kernel
theorem dX9_sum_40 : decode cX9_sum 40 = .ok (.iadd, 1) := by decide +kernel
theorem dX9_sum_41 : decode cX9_sum 41 = .ok (.invokevirtual 200, 3) := by decide +kernel
theorem dX9_sum_44 : decode cX9_sum 44 = .ok (.goto (-40), 3) := by decide +kernel
theorem dX9_sum_47 : decode cX9_sum 47 = .ok (.return_, 1) := by decide +kernel
theorem dX9_term_0 : decode cX9_term 0 = .ok (.aload_n 0, 1) := by decide +kernel
theorem dX9_term_1 : decode cX9_term 1 = .ok (.invokevirtual 207, 3) := by decide +kernel
theorem dX9_term_4 : decode cX9_term 4 = .ok (.aload_n 0, 1) := by decide +kernel
theorem dX9_term_5 : decode cX9_term 5 = .ok (.bipush 42, 2) := by decide +kernel
theorem dX9_term_7 : decode cX9_term 7 = .ok (.invokevirtual 194, 3) := by decide +kernel
theorem dX9_term_10 : decode cX9_term 10 = .ok (.ifCond .ne 12, 3) := by decide +kernel
theorem dX9_term_13 : decode cX9_term 13 = .ok (.aload_n 0, 1) := by decide +kernel
theorem dX9_term_14 : decode cX9_term 14 = .ok (.bipush 47, 2) := by decide +kernel
theorem dX9_term_16 : decode cX9_term 16 = .ok (.invokevirtual 194, 3) := by decide +kernel
theorem dX9_term_19 : decode cX9_term 19 = .ok (.ifCond .eq 28, 3) := by decide +kernel
theorem dX9_term_22 : decode cX9_term 22 = .ok (.aload_n 0, 1) := by decide +kernel
theorem dX9_term_23 : decode cX9_term 23 = .ok (.getfield 178, 3) := by decide +kernel
theorem dX9_term_26 : decode cX9_term 26 = .ok (.istore_n 1, 1) := by decide +kernel
theorem dX9_term_27 : decode cX9_term 27 = .ok (.aload_n 0, 1) := by decide +kernel
theorem dX9_term_28 : decode cX9_term 28 = .ok (.invokevirtual 197, 3) := by decide +kernel
theorem dX9_term_31 : decode cX9_term 31 = .ok (.aload_n 0, 1) := by decide +kernel
theorem dX9_term_32 : decode cX9_term 32 = .ok (.invokevirtual 207, 3) := by decide +kernel
theorem dX9_term_35 : decode cX9_term 35 = .ok (.aload_n 0, 1) := by decide +kernel
theorem dX9_term_36 : decode cX9_term 36 = .ok (.sipush 20000, 3) := by decide +kernel
theorem dX9_term_39 : decode cX9_term 39 = .ok (.iload_n 1, 1) := by decide +kernel
theorem dX9_term_40 : decode cX9_term 40 = .ok (.iadd, 1) := by decide +kernel
theorem dX9_term_41 : decode cX9_term 41 = .ok (.invokevirtual 200, 3) := by decide +kernel
theorem dX9_term_44 : decode cX9_term 44 = .ok (.goto (-40), 3) := by decide +kernel
theorem dX9_term_47 : decode cX9_term 47 = .ok (.return_, 1) := by decide +kernel
theorem dX9_one_0 : decode cX9_one 0 = .ok (.aload_n 0, 1) := by decide +kernel
theorem dX9_one_1 : decode cX9_one 1 = .ok (.getfield 184, 3) := by decide +kernel
theorem dX9_one_4 : decode cX9_one 4 = .ok (.ifCond .eq 4, 3) := by decide +kernel
theorem dX9_one_7 : decode cX9_one 7 = .ok (.return_, 1) := by decide +kernel
theorem dX9_one_8 : decode cX9_one 8 = .ok (.aload_n 0, 1) := by decide +kernel
theorem dX9_one_9 : decode cX9_one 9 = .ok (.getfield 178, 3) := by decide +kernel
theorem dX9_one_12 : decode cX9_one 12 = .ok (.bipush 48, 2) := by decide +kernel
theorem dX9_one_14 : decode cX9_one 14 = .ok (.if_icmp .ne 44, 3) := by decide +kernel
theorem dX9_one_17 : decode cX9_one 17 = .ok (.aload_n 0, 1) := by decide +kernel
theorem dX9_one_18 : decode cX9_one 18 = .ok (.aload_n 0, 1) := by decide +kernel
theorem dX9_one_19 : decode cX9_one 19 = .ok (.getfield 175, 3) := by decide +kernel
theorem dX9_one_22 : decode cX9_one 22 = .ok (.sipush 9999, 3) := by decide +kernel
theorem dX9_one_25 : decode cX9_one 25 = .ok (.if_icmp .le 7, 3) := by decide +kernel
theorem dX9_one_28 : decode cX9_one 28 = .ok (.iconst 1, 1) := by decide +kernel
theorem dX9_one_29 : decode cX9_one 29 = .ok (.goto 4, 3) := by decide +kernel
theorem dX9_one_32 : decode cX9_one 32 = .ok (.iconst 0, 1) := by decide +kernel
theorem dX9_one_33 : decode cX9_one 33 = .ok (.putfield 184, 3) := by decide +kernel
theorem dX9_one_36 : decode cX9_one 36 = .ok (.aload_n 0, 1) := by decide +kernel
theorem dX9_one_37 : decode cX9_one 37 = .ok (.aload_n 0, 1) := by decide +kernel
theorem dX9_one_38 : decode cX9_one 38 = .ok (.getfield 175, 3) := by decide +kernel
theorem dX9_one_41 : decode cX9_one 41 = .ok (.invokevirtual 200, 3) := by decide +kernel
theorem dX9_one_44 : decode cX9_one 44 = .ok (.aload_n 0, 1) := by decide +kernel
theorem dX9_one_45 : decode cX9_one 45 = .ok (.getfield 184, 3) := by decide +kernel
theorem dX9_one_48 : decode cX9_one 48 = .ok (.ifCond .ne 174, 3) := by decide +kernel
theorem dX9_one_51 : decode cX9_one 51 = .ok (.aload_n 0, 1) := by decide +kernel
theorem dX9_one_52 : decode cX9_one 52 = .ok (.invokevirtual 197, 3) := by decide +kernel
theorem dX9_one_55 : decode cX9_one 55 = .ok (.goto 167, 3) := by decide +kernel
theorem dX9_one_58 : decode cX9_one 58 = .ok (.aload_n 0, 1) := by decide +kernel
theorem dX9_one_59 : decode cX9_one 59 = .ok (.getfield 178, 3) := by decide +kernel
theorem dX9_one_62 : decode cX9_one 62 = .ok (.invokestatic 210, 3) := by decide +kernel
theorem dX9_one_65 : decode cX9_one 65 = .ok (.ifCond .lt 25, 3) := by decide +kernel
theorem dX9_one_68 : decode cX9_one 68 = .ok (.aload_n 0, 1) := by decide +kernel
theorem dX9_one_69 : decode cX9_one 69 = .ok (.sipush 10000, 3) := by decide +kernel
theorem dX9_one_72 : decode cX9_one 72 = .ok (.aload_n 0, 1) := by decide +kernel
theorem dX9_one_73 : decode cX9_one 73 = .ok (.getfield 178, 3) := by decide +kernel
theorem dX9_one_76 : decode cX9_one 76 = .ok (.invokestatic 210, 3) := by decide +kernel
theorem dX9_one_79 : decode cX9_one 79 = .ok (.iadd, 1) := by decide +kernel
theorem dX9_one_80 : decode cX9_one 80 = .ok (.invokevirtual 200, 3) := by decide +kernel
theorem dX9_one_83 : decode cX9_one 83 = .ok (.aload_n 0, 1) := by decide +kernel
theorem dX9_one_84 : decode cX9_one 84 = .ok (.invokevirtual 197, 3) := by decide +kernel
theorem dX9_one_87 : decode cX9_one 87 = .ok (.goto 135, 3) := by decide +kernel
theorem dX9_one_90 : decode cX9_one 90 = .ok (.aload_n 0, 1) := by decide +kernel
theorem dX9_one_91 : decode cX9_one 91 = .ok (.getfield 178, 3) := by decide +kernel
theorem dX9_one_94 : decode cX9_one 94 = .ok (.bipush 45, 2) := by decide +kernel
theorem dX9_one_96 : decode cX9_one 96 = .ok (.if_icmp .eq 12, 3) := by decide +kernel
theorem dX9_one_99 : decode cX9_one 99 = .ok (.aload_n 0, 1) := by decide +kernel
theorem dX9_one_100 : decode cX9_one 100 = .ok (.getfield 178, 3) := by decide +kernel
theorem dX9_one_103 : decode cX9_one 103 = .ok (.bipush 40, 2) := by decide +kernel
theorem dX9_one_105 : decode cX9_one 105 = .ok (.if_icmp .ne 112, 3) := by decide +kernel
theorem dX9_one_108 : decode cX9_one 108 = .ok (.aload_n 0, 1) := by decide +kernel
theorem dX9_one_109 : decode cX9_one 109 = .ok (.getfield 213, 3) := by decide +kernel
theorem dX9_one_112 : decode cX9_one 112 = .ok (.bipush 6, 2) := by decide +kernel
theorem dX9_one_114 : decode cX9_one 114 = .ok (.if_icmp .ge 103, 3) := by decide +kernel
theorem dX9_one_117 : decode cX9_one 117 = .ok (.aload_n 0, 1) := by decide +kernel
theorem dX9_one_118 : decode cX9_one 118 = .ok (.getfield 178, 3) := by decide +kernel
theorem dX9_one_121 : decode cX9_one 121 = .ok (.bipush 45, 2) := by decide +kernel
theorem dX9_one_123 : decode cX9_one 123 = .ok (.if_icmp .ne 7, 3) := by decide +kernel
theorem dX9_one_126 : decode cX9_one 126 = .ok (.iconst 1, 1) := by decide +kernel
theorem dX9_one_127 : decode cX9_one 127 = .ok (.goto 4, 3) := by decide +kernel
theorem dX9_one_130 : decode cX9_one 130 = .ok (.iconst 0, 1) := by decide +kernel
theorem dX9_one_131 : decode cX9_one 131 = .ok (.istore_n 1, 1) := by decide +kernel
theorem dX9_one_132 : decode cX9_one 132 = .ok (.aload_n 0, 1) := by decide +kernel
theorem dX9_one_133 : decode cX9_one 133 = .ok (.dup, 1) := by decide +kernel
theorem dX9_one_134 : decode cX9_one 134 = .ok (.getfield 213, 3) := by decide +kernel
theorem dX9_one_137 : decode cX9_one 137 = .ok (.iconst 1, 1) := by decide +kernel
theorem dX9_one_138 : decode cX9_one 138 = .ok (.iadd, 1) := by decide +kernel
theorem dX9_one_139 : decode cX9_one 139 = .ok (.putfield 213, 3) := by decide +kernel
theorem dX9_one_142 : decode cX9_one 142 = .ok (.aload_n 0, 1) := by decide +kernel
theorem dX9_one_143 : decode cX9_one 143 = .ok (.invokevirtual 197, 3) := by decide +kernel
theorem dX9_one_146 : decode cX9_one 146 = .ok (.iload_n 1, 1) := by decide +kernel
theorem dX9_one_147 : decode cX9_one 147 = .ok (.ifCond .eq 17, 3) := by decide +kernel
theorem dX9_one_150 : decode cX9_one 150 = .ok (.aload_n 0, 1) := by decide +kernel
theorem dX9_one_151 : decode cX9_one 151 = .ok (.invokevirtual 207, 3) := by decide +kernel
theorem dX9_one_154 : decode cX9_one 154 = .ok (.aload_n 0, 1) := by decide +kernel
theorem dX9_one_155 : decode cX9_one 155 = .ok (.sipush 20256, 3) := by decide +kernel
theorem dX9_one_158 : decode cX9_one 158 = .ok (.invokevirtual 200, 3) := by decide +kernel
theorem dX9_one_161 : decode cX9_one 161 = .ok (.goto 43, 3) := by decide +kernel
theorem dX9_one_164 : decode cX9_one 164 = .ok (.aload_n 0, 1) := by decide +kernel
theorem dX9_one_165 : decode cX9_one 165 = .ok (.invokevirtual 216, 3) := by decide +kernel
theorem dX9_one_168 : decode cX9_one 168 = .ok (.aload_n 0, 1) := by decide +kernel
theorem dX9_one_169 : decode cX9_one 169 = .ok (.aload_n 0, 1) := by decide +kernel
theorem dX9_one_170 : decode cX9_one 170 = .ok (.getfield 184, 3) := by decide +kernel
theorem dX9_one_173 : decode cX9_one 173 = .ok (.ifCond .ne 12, 3) := by decide +kernel
theorem dX9_one_176 : decode cX9_one 176 = .ok (.aload_n 0, 1) := by decide +kernel
theorem dX9_one_177 : decode cX9_one 177 = .ok (.getfield 178, 3) := by decide +kernel
theorem dX9_one_180 : decode cX9_one 180 = .ok (.bipush 41, 2) := by decide +kernel
theorem dX9_one_182 : decode cX9_one 182 = .ok (.if_icmp .eq 7, 3) := by decide +kernel
theorem dX9_one_185 : decode cX9_one 185 = .ok (.iconst 1, 1) := by decide +kernel
theorem dX9_one_186 : decode cX9_one 186 = .ok (.goto 4, 3) := by decide +kernel
theorem dX9_one_189 : decode cX9_one 189 = .ok (.iconst 0, 1) := by decide +kernel
theorem dX9_one_190 : decode cX9_one 190 = .ok (.putfield 184, 3) := by decide +kernel
theorem dX9_one_193 : decode cX9_one 193 = .ok (.aload_n 0, 1) := by decide +kernel
theorem dX9_one_194 : decode cX9_one 194 = .ok (.getfield 184, 3) := by decide +kernel
theorem dX9_one_197 : decode cX9_one 197 = .ok (.ifCond .ne 7, 3) := by decide +kernel
theorem dX9_one_200 : decode cX9_one 200 = .ok (.aload_n 0, 1) := by decide +kernel
theorem dX9_one_201 : decode cX9_one 201 = .ok (.invokevirtual 197, 3) := by decide +kernel
theorem dX9_one_204 : decode cX9_one 204 = .ok (.aload_n 0, 1) := by decide +kernel
theorem dX9_one_205 : decode cX9_one 205 = .ok (.dup, 1) := by decide +kernel
theorem dX9_one_206 : decode cX9_one 206 = .ok (.getfield 213, 3) := by decide +kernel
theorem dX9_one_209 : decode cX9_one 209 = .ok (.iconst 1, 1) := by decide +kernel
theorem dX9_one_210 : decode cX9_one 210 = .ok (.isub, 1) := by decide +kernel
theorem dX9_one_211 : decode cX9_one 211 = .ok (.putfield 213, 3) := by decide +kernel
theorem dX9_one_214 : decode cX9_one 214 = .ok (.goto 8, 3) := by decide +kernel
theorem dX9_one_217 : decode cX9_one 217 = .ok (.aload_n 0, 1) := by decide +kernel
theorem dX9_one_218 : decode cX9_one 218 = .ok (.iconst 1, 1) := by decide +kernel
theorem dX9_one_219 : decode cX9_one 219 = .ok (.putfield 184, 3) := by decide +kernel
theorem dX9_one_222 : decode cX9_one 222 = .ok (.return_, 1) := by decide +kernel
theorem dX9_text_0 : decode cX9_text 0 = .ok (.aload_n 0, 1) := by decide +kernel
theorem dX9_text_1 : decode cX9_text 1 = .ok (.getfield 9, 3) := by decide +kernel
theorem dX9_text_4 : decode cX9_text 4 = .ok (.iconst 4, 1) := by decide +kernel
theorem dX9_text_5 : decode cX9_text 5 = .ok (.iaload, 1) := by decide +kernel
theorem dX9_text_6 : decode cX9_text 6 = .ok (.bipush 6, 2) := by decide +kernel
theorem dX9_text_8 : decode cX9_text 8 = .ok (.if_icmp .ne 10, 3) := by decide +kernel
theorem dX9_text_11 : decode cX9_text 11 = .ok (.aload_n 0, 1) := by decide +kernel
theorem dX9_text_12 : decode cX9_text 12 = .ok (.ldc 68, 2) := by decide +kernel
theorem dX9_text_14 : decode cX9_text 14 = .ok (.invokevirtual 64, 3) := by decide +kernel
theorem dX9_text_17 : decode cX9_text 17 = .ok (.ireturn, 1) := by decide +kernel
theorem dX9_text_18 : decode cX9_text 18 = .ok (.aload_n 0, 1) := by decide +kernel
theorem dX9_text_19 : decode cX9_text 19 = .ok (.iconst 0, 1) := by decide +kernel
theorem dX9_text_20 : decode cX9_text 20 = .ok (.putfield 169, 3) := by decide +kernel
theorem dX9_text_23 : decode cX9_text 23 = .ok (.aload_n 0, 1) := by decide +kernel
theorem dX9_text_24 : decode cX9_text 24 = .ok (.iconst 0, 1) := by decide +kernel
theorem dX9_text_25 : decode cX9_text 25 = .ok (.putfield 188, 3) := by decide +kernel
theorem dX9_text_28 : decode cX9_text 28 = .ok (.aload_n 0, 1) := by decide +kernel
theorem dX9_text_29 : decode cX9_text 29 = .ok (.iconst 0, 1) := by decide +kernel
theorem dX9_text_30 : decode cX9_text 30 = .ok (.putfield 213, 3) := by decide +kernel
theorem dX9_text_33 : decode cX9_text 33 = .ok (.aload_n 0, 1) := by decide +kernel
theorem dX9_text_34 : decode cX9_text 34 = .ok (.iconst 0, 1) := by decide +kernel
theorem dX9_text_35 : decode cX9_text 35 = .ok (.putfield 184, 3) := by decide +kernel
theorem dX9_text_38 : decode cX9_text 38 = .ok (.aload_n 0, 1) := by decide +kernel
theorem dX9_text_39 : decode cX9_text 39 = .ok (.invokevirtual 197, 3) := by decide +kernel
theorem dX9_text_42 : decode cX9_text 42 = .ok (.aload_n 0, 1) := by decide +kernel
theorem dX9_text_43 : decode cX9_text 43 = .ok (.invokevirtual 216, 3) := by decide +kernel
theorem dX9_text_46 : decode cX9_text 46 = .ok (.aload_n 0, 1) := by decide +kernel
theorem dX9_text_47 : decode cX9_text 47 = .ok (.aload_n 0, 1) := by decide +kernel
theorem dX9_text_48 : decode cX9_text 48 = .ok (.getfield 184, 3) := by decide +kernel
theorem dX9_text_51 : decode cX9_text 51 = .ok (.ifCond .ne 11, 3) := by decide +kernel
theorem dX9_text_54 : decode cX9_text 54 = .ok (.aload_n 0, 1) := by decide +kernel
theorem dX9_text_55 : decode cX9_text 55 = .ok (.getfield 178, 3) := by decide +kernel
theorem dX9_text_58 : decode cX9_text 58 = .ok (.iconst (-1), 1) := by decide +kernel
theorem dX9_text_59 : decode cX9_text 59 = .ok (.if_icmp .eq 7, 3) := by decide +kernel
theorem dX9_text_62 : decode cX9_text 62 = .ok (.iconst 1, 1) := by decide +kernel
theorem dX9_text_63 : decode cX9_text 63 = .ok (.goto 4, 3) := by decide +kernel
theorem dX9_text_66 : decode cX9_text 66 = .ok (.iconst 0, 1) := by decide +kernel
theorem dX9_text_67 : decode cX9_text 67 = .ok (.putfield 184, 3) := by decide +kernel
theorem dX9_text_70 : decode cX9_text 70 = .ok (.aload_n 0, 1) := by decide +kernel
theorem dX9_text_71 : decode cX9_text 71 = .ok (.getfield 172, 3) := by decide +kernel
theorem dX9_text_74 : decode cX9_text 74 = .ok (.istore_n 1, 1) := by decide +kernel
theorem dX9_text_75 : decode cX9_text 75 = .ok (.aload_n 0, 1) := by decide +kernel
theorem dX9_text_76 : decode cX9_text 76 = .ok (.iconst 0, 1) := by decide +kernel
theorem dX9_text_77 : decode cX9_text 77 = .ok (.putfield 161, 3) := by decide +kernel
theorem dX9_text_80 : decode cX9_text 80 = .ok (.aload_n 0, 1) := by decide +kernel
theorem dX9_text_81 : decode cX9_text 81 = .ok (.getfield 184, 3) := by decide +kernel
theorem dX9_text_84 : decode cX9_text 84 = .ok (.ifCond .eq 7, 3) := by decide +kernel
theorem dX9_text_87 : decode cX9_text 87 = .ok (.iconst (-1), 1) := by decide +kernel
theorem dX9_text_88 : decode cX9_text 88 = .ok (.iload_n 1, 1) := by decide +kernel
theorem dX9_text_89 : decode cX9_text 89 = .ok (.isub, 1) := by decide +kernel
theorem dX9_text_90 : decode cX9_text 90 = .ok (.ireturn, 1) := by decide +kernel
theorem dX9_text_91 : decode cX9_text 91 = .ok (.sipush 718, 3) := by decide +kernel
theorem dX9_text_94 : decode cX9_text 94 = .ok (.bipush 81, 2) := by decide +kernel
theorem dX9_text_96 : decode cX9_text 96 = .ok (.aload_n 0, 1) := by decide +kernel
theorem dX9_text_97 : decode cX9_text 97 = .ok (.getfield 9, 3) := by decide +kernel
theorem dX9_text_100 : decode cX9_text 100 = .ok (.iconst 4, 1) := by decide +kernel
theorem dX9_text_101 : decode cX9_text 101 = .ok (.iaload, 1) := by decide +kernel
theorem dX9_text_102 : decode cX9_text 102 = .ok (.imul, 1) := by decide +kernel
theorem dX9_text_103 : decode cX9_text 103 = .ok (.iadd, 1) := by decide +kernel
theorem dX9_text_104 : decode cX9_text 104 = .ok (.istore_n 2, 1) := by decide +kernel
theorem dX9_text_105 : decode cX9_text 105 = .ok (.aload_n 0, 1) := by decide +kernel
theorem dX9_text_106 : decode cX9_text 106 = .ok (.getfield 9, 3) := by decide +kernel
theorem dX9_text_109 : decode cX9_text 109 = .ok (.iload_n 2, 1) := by decide +kernel
theorem dX9_text_110 : decode cX9_text 110 = .ok (.aload_n 0, 1) := by decide +kernel
theorem dX9_text_111 : decode cX9_text 111 = .ok (.getfield 188, 3) := by decide +kernel
theorem dX9_text_114 : decode cX9_text 114 = .ok (.iastore, 1) := by decide +kernel
theorem dX9_text_115 : decode cX9_text 115 = .ok (.iconst 0, 1) := by decide +kernel
theorem dX9_text_116 : decode cX9_text 116 = .ok (.istore_n 3, 1) := by decide +kernel
theorem dX9_text_117 : decode cX9_text 117 = .ok (.iload_n 3, 1) := by decide +kernel
theorem dX9_text_118 : decode cX9_text 118 = .ok (.aload_n 0, 1) := by decide +kernel
theorem dX9_text_119 : decode cX9_text 119 = .ok (.getfield 188, 3) := by decide +kernel
theorem dX9_text_122 : decode cX9_text 122 = .ok (.if_icmp .ge 25, 3) := by decide +kernel
theorem dX9_text_125 : decode cX9_text 125 = .ok (.aload_n 0, 1) := by decide +kernel
theorem dX9_text_126 : decode cX9_text 126 = .ok (.getfield 9, 3) := by decide +kernel
theorem dX9_text_129 : decode cX9_text 129 = .ok (.iload_n 2, 1) := by decide +kernel
theorem dX9_text_130 : decode cX9_text 130 = .ok (.iconst 1, 1) := by decide +kernel
theorem dX9_text_131 : decode cX9_text 131 = .ok (.iadd, 1) := by decide +kernel
theorem dX9_text_132 : decode cX9_text 132 = .ok (.iload_n 3, 1) := by decide +kernel
theorem dX9_text_133 : decode cX9_text 133 = .ok (.iadd, 1) := by decide +kernel
theorem dX9_text_134 : decode cX9_text 134 = .ok (.aload_n 0, 1) := by decide +kernel
theorem dX9_text_135 : decode cX9_text 135 = .ok (.getfield 26, 3) := by decide +kernel
theorem dX9_text_138 : decode cX9_text 138 = .ok (.iload_n 3, 1) := by decide +kernel
theorem dX9_text_139 : decode cX9_text 139 = .ok (.iaload, 1) := by decide +kernel
theorem dX9_text_140 : decode cX9_text 140 = .ok (.iastore, 1) := by decide +kernel
theorem dX9_text_141 : decode cX9_text 141 = .ok (.iinc 3 1, 3) := by decide +kernel
theorem dX9_text_144 : decode cX9_text 144 = .ok (.goto (-27), 3) := by decide +kernel
theorem dX9_text_147 : decode cX9_text 147 = .ok (.aload_n 0, 1) := by decide +kernel
theorem dX9_text_148 : decode cX9_text 148 = .ok (.getfield 9, 3) := by decide +kernel
theorem dX9_text_151 : decode cX9_text 151 = .ok (.iconst 4, 1) := by decide +kernel
theorem dX9_text_152 : decode cX9_text 152 = .ok (.dup2, 1) := by decide +kernel
theorem dX9_text_153 : decode cX9_text 153 = .ok (.iaload, 1) := by decide +kernel
theorem dX9_text_154 : decode cX9_text 154 = .ok (.iconst 1, 1) := by decide +kernel
theorem dX9_text_155 : decode cX9_text 155 = .ok (.iadd, 1) := by decide +kernel
theorem dX9_text_156 : decode cX9_text 156 = .ok (.iastore, 1) := by decide +kernel
theorem dX9_text_157 : decode cX9_text 157 = .ok (.aload_n 0, 1) := by decide +kernel
theorem dX9_text_158 : decode cX9_text 158 = .ok (.getfield 9, 3) := by decide +kernel
theorem dX9_text_161 : decode cX9_text 161 = .ok (.iconst 4, 1) := by decide +kernel
theorem dX9_text_162 : decode cX9_text 162 = .ok (.iaload, 1) := by decide +kernel
theorem dX9_text_163 : decode cX9_text 163 = .ok (.iconst 1, 1) := by decide +kernel
theorem dX9_text_164 : decode cX9_text 164 = .ok (.isub, 1) := by decide +kernel
theorem dX9_text_165 : decode cX9_text 165 = .ok (.ireturn, 1) := by decide +kernel
theorem dX9_joined_0 : decode cX9_joined 0 = .ok (.iload_n 0, 1) := by decide +kernel
theorem dX9_joined_1 : decode cX9_joined 1 = .ok (.lookupswitch 85 #[(42, 81), (43, 73), (45, 77), (60, 51), (61, 62)], 51) := by decide +kernel
theorem dX9_joined_52 : decode cX9_joined 52 = .ok (.iload_n 1, 1) := by decide +kernel
theorem dX9_joined_53 : decode cX9_joined 53 = .ok (.iload_n 2, 1) := by decide +kernel
theorem dX9_joined_54 : decode cX9_joined 54 = .ok (.if_icmp .ge 7, 3) := by decide +kernel
theorem dX9_joined_57 : decode cX9_joined 57 = .ok (.iconst 1, 1) := by decide +kernel
theorem dX9_joined_58 : decode cX9_joined 58 = .ok (.goto 4, 3) := by decide +kernel
theorem dX9_joined_61 : decode cX9_joined 61 = .ok (.iconst 0, 1) := by decide +kernel
theorem dX9_joined_62 : decode cX9_joined 62 = .ok (.ireturn, 1) := by decide +kernel
theorem dX9_joined_63 : decode cX9_joined 63 = .ok (.iload_n 1, 1) := by decide +kernel
theorem dX9_joined_64 : decode cX9_joined 64 = .ok (.iload_n 2, 1) := by decide +kernel
theorem dX9_joined_65 : decode cX9_joined 65 = .ok (.if_icmp .ne 7, 3) := by decide +kernel
theorem dX9_joined_68 : decode cX9_joined 68 = .ok (.iconst 1, 1) := by decide +kernel
theorem dX9_joined_69 : decode cX9_joined 69 = .ok (.goto 4, 3) := by decide +kernel
theorem dX9_joined_72 : decode cX9_joined 72 = .ok (.iconst 0, 1) := by decide +kernel
theorem dX9_joined_73 : decode cX9_joined 73 = .ok (.ireturn, 1) := by decide +kernel
theorem dX9_joined_74 : decode cX9_joined 74 = .ok (.iload_n 1, 1) := by decide +kernel
theorem dX9_joined_75 : decode cX9_joined 75 = .ok (.iload_n 2, 1) := by decide +kernel
theorem dX9_joined_76 : decode cX9_joined 76 = .ok (.iadd, 1) := by decide +kernel
theorem dX9_joined_77 : decode cX9_joined 77 = .ok (.ireturn, 1) := by decide +kernel
theorem dX9_joined_78 : decode cX9_joined 78 = .ok (.iload_n 1, 1) := by decide +kernel
theorem dX9_joined_79 : decode cX9_joined 79 = .ok (.iload_n 2, 1) := by decide +kernel
theorem dX9_joined_80 : decode cX9_joined 80 = .ok (.isub, 1) := by decide +kernel
theorem dX9_joined_81 : decode cX9_joined 81 = .ok (.ireturn, 1) := by decide +kernel
theorem dX9_joined_82 : decode cX9_joined 82 = .ok (.iload_n 1, 1) := by decide +kernel
theorem dX9_joined_83 : decode cX9_joined 83 = .ok (.iload_n 2, 1) := by decide +kernel
theorem dX9_joined_84 : decode cX9_joined 84 = .ok (.imul, 1) := by decide +kernel
theorem dX9_joined_85 : decode cX9_joined 85 = .ok (.ireturn, 1) := by decide +kernel
theorem dX9_joined_86 : decode cX9_joined 86 = .ok (.iload_n 2, 1) := by decide +kernel
theorem dX9_joined_87 : decode cX9_joined 87 = .ok (.ifCond .ne 7, 3) := by decide +kernel
theorem dX9_joined_90 : decode cX9_joined 90 = .ok (.iconst 0, 1) := by decide +kernel
theorem dX9_joined_91 : decode cX9_joined 91 = .ok (.goto 6, 3) := by decide +kernel
theorem dX9_joined_94 : decode cX9_joined 94 = .ok (.iload_n 1, 1) := by decide +kernel
theorem dX9_joined_95 : decode cX9_joined 95 = .ok (.iload_n 2, 1) := by decide +kernel
theorem dX9_joined_96 : decode cX9_joined 96 = .ok (.idiv, 1) := by decide +kernel
theorem dX9_joined_97 : decode cX9_joined 97 = .ok (.ireturn, 1) := by decide +kernel
theorem dX9_scoreOf_0 : decode cX9_scoreOf 0 = .ok (.sipush 718, 3) := by decide +kernel
theorem dX9_scoreOf_3 : decode cX9_scoreOf 3 = .ok (.bipush 81, 2) := by decide +kernel
theorem dX9_scoreOf_5 : decode cX9_scoreOf 5 = .ok (.iload_n 1, 1) := by decide +kernel
theorem dX9_scoreOf_6 : decode cX9_scoreOf 6 = .ok (.imul, 1) := by decide +kernel
theorem dX9_scoreOf_7 : decode cX9_scoreOf 7 = .ok (.iadd, 1) := by decide +kernel
theorem dX9_scoreOf_8 : decode cX9_scoreOf 8 = .ok (.istore_n 3, 1) := by decide +kernel
theorem dX9_scoreOf_9 : decode cX9_scoreOf 9 = .ok (.iconst 0, 1) := by decide +kernel
theorem dX9_scoreOf_10 : decode cX9_scoreOf 10 = .ok (.istore 4, 2) := by decide +kernel
theorem dX9_scoreOf_12 : decode cX9_scoreOf 12 = .ok (.iconst 1, 1) := by decide +kernel
theorem dX9_scoreOf_13 : decode cX9_scoreOf 13 = .ok (.istore 5, 2) := by decide +kernel
theorem dX9_scoreOf_15 : decode cX9_scoreOf 15 = .ok (.iload 5, 2) := by decide +kernel
theorem dX9_scoreOf_17 : decode cX9_scoreOf 17 = .ok (.aload_n 0, 1) := by decide +kernel
theorem dX9_scoreOf_18 : decode cX9_scoreOf 18 = .ok (.getfield 9, 3) := by decide +kernel
theorem dX9_scoreOf_21 : decode cX9_scoreOf 21 = .ok (.iload_n 3, 1) := by decide +kernel
theorem dX9_scoreOf_22 : decode cX9_scoreOf 22 = .ok (.iaload, 1) := by decide +kernel
theorem dX9_scoreOf_23 : decode cX9_scoreOf 23 = .ok (.if_icmp .gt 132, 3) := by decide +kernel
theorem dX9_scoreOf_26 : decode cX9_scoreOf 26 = .ok (.aload_n 0, 1) := by decide +kernel
theorem dX9_scoreOf_27 : decode cX9_scoreOf 27 = .ok (.getfield 9, 3) := by decide +kernel
theorem dX9_scoreOf_30 : decode cX9_scoreOf 30 = .ok (.iload_n 3, 1) := by decide +kernel
theorem dX9_scoreOf_31 : decode cX9_scoreOf 31 = .ok (.iload 5, 2) := by decide +kernel
theorem dX9_scoreOf_33 : decode cX9_scoreOf 33 = .ok (.iadd, 1) := by decide +kernel
theorem dX9_scoreOf_34 : decode cX9_scoreOf 34 = .ok (.iaload, 1) := by decide +kernel
theorem dX9_scoreOf_35 : decode cX9_scoreOf 35 = .ok (.istore 6, 2) := by decide +kernel
theorem dX9_scoreOf_37 : decode cX9_scoreOf 37 = .ok (.iload 6, 2) := by decide +kernel
theorem dX9_scoreOf_39 : decode cX9_scoreOf 39 = .ok (.sipush 20000, 3) := by decide +kernel
theorem dX9_scoreOf_42 : decode cX9_scoreOf 42 = .ok (.if_icmp .ge 40, 3) := by decide +kernel
theorem dX9_scoreOf_45 : decode cX9_scoreOf 45 = .ok (.aload_n 0, 1) := by decide +kernel
theorem dX9_scoreOf_46 : decode cX9_scoreOf 46 = .ok (.getfield 29, 3) := by decide +kernel
theorem dX9_scoreOf_49 : decode cX9_scoreOf 49 = .ok (.iload 4, 2) := by decide +kernel
theorem dX9_scoreOf_51 : decode cX9_scoreOf 51 = .ok (.iload 6, 2) := by decide +kernel
theorem dX9_scoreOf_53 : decode cX9_scoreOf 53 = .ok (.sipush 10000, 3) := by decide +kernel
theorem dX9_scoreOf_56 : decode cX9_scoreOf 56 = .ok (.if_icmp .ge 8, 3) := by decide +kernel
theorem dX9_scoreOf_59 : decode cX9_scoreOf 59 = .ok (.iload 6, 2) := by decide +kernel
theorem dX9_scoreOf_61 : decode cX9_scoreOf 61 = .ok (.goto 14, 3) := by decide +kernel
theorem dX9_scoreOf_64 : decode cX9_scoreOf 64 = .ok (.aload_n 0, 1) := by decide +kernel
theorem dX9_scoreOf_65 : decode cX9_scoreOf 65 = .ok (.iload_n 2, 1) := by decide +kernel
theorem dX9_scoreOf_66 : decode cX9_scoreOf 66 = .ok (.iload 6, 2) := by decide +kernel
theorem dX9_scoreOf_68 : decode cX9_scoreOf 68 = .ok (.sipush 10000, 3) := by decide +kernel
theorem dX9_scoreOf_71 : decode cX9_scoreOf 71 = .ok (.isub, 1) := by decide +kernel
theorem dX9_scoreOf_72 : decode cX9_scoreOf 72 = .ok (.invokevirtual 156, 3) := by decide +kernel
theorem dX9_scoreOf_75 : decode cX9_scoreOf 75 = .ok (.iastore, 1) := by decide +kernel
theorem dX9_scoreOf_76 : decode cX9_scoreOf 76 = .ok (.iinc 4 1, 3) := by decide +kernel
theorem dX9_scoreOf_79 : decode cX9_scoreOf 79 = .ok (.goto 70, 3) := by decide +kernel
theorem dX9_scoreOf_82 : decode cX9_scoreOf 82 = .ok (.iload 6, 2) := by decide +kernel
theorem dX9_scoreOf_84 : decode cX9_scoreOf 84 = .ok (.sipush 20256, 3) := by decide +kernel
theorem dX9_scoreOf_87 : decode cX9_scoreOf 87 = .ok (.if_icmp .ne 25, 3) := by decide +kernel
theorem dX9_scoreOf_90 : decode cX9_scoreOf 90 = .ok (.aload_n 0, 1) := by decide +kernel
theorem dX9_scoreOf_91 : decode cX9_scoreOf 91 = .ok (.getfield 29, 3) := by decide +kernel
theorem dX9_scoreOf_94 : decode cX9_scoreOf 94 = .ok (.iload 4, 2) := by decide +kernel
theorem dX9_scoreOf_96 : decode cX9_scoreOf 96 = .ok (.iconst 1, 1) := by decide +kernel
theorem dX9_scoreOf_97 : decode cX9_scoreOf 97 = .ok (.isub, 1) := by decide +kernel
theorem dX9_scoreOf_98 : decode cX9_scoreOf 98 = .ok (.aload_n 0, 1) := by decide +kernel
theorem dX9_scoreOf_99 : decode cX9_scoreOf 99 = .ok (.getfield 29, 3) := by decide +kernel
theorem dX9_scoreOf_102 : decode cX9_scoreOf 102 = .ok (.iload 4, 2) := by decide +kernel
theorem dX9_scoreOf_104 : decode cX9_scoreOf 104 = .ok (.iconst 1, 1) := by decide +kernel
theorem dX9_scoreOf_105 : decode cX9_scoreOf 105 = .ok (.isub, 1) := by decide +kernel
theorem dX9_scoreOf_106 : decode cX9_scoreOf 106 = .ok (.iaload, 1) := by decide +kernel
theorem dX9_scoreOf_107 : decode cX9_scoreOf 107 = .ok (.ineg, 1) := by decide +kernel
theorem dX9_scoreOf_108 : decode cX9_scoreOf 108 = .ok (.iastore, 1) := by decide +kernel
theorem dX9_scoreOf_109 : decode cX9_scoreOf 109 = .ok (.goto 40, 3) := by decide +kernel
theorem dX9_scoreOf_112 : decode cX9_scoreOf 112 = .ok (.iinc 4 (-1), 3) := by decide +kernel
theorem dX9_scoreOf_115 : decode cX9_scoreOf 115 = .ok (.aload_n 0, 1) := by decide +kernel
theorem dX9_scoreOf_116 : decode cX9_scoreOf 116 = .ok (.getfield 29, 3) := by decide +kernel
theorem dX9_scoreOf_119 : decode cX9_scoreOf 119 = .ok (.iload 4, 2) := by decide +kernel
theorem dX9_scoreOf_121 : decode cX9_scoreOf 121 = .ok (.iconst 1, 1) := by decide +kernel
theorem dX9_scoreOf_122 : decode cX9_scoreOf 122 = .ok (.isub, 1) := by decide +kernel
theorem dX9_scoreOf_123 : decode cX9_scoreOf 123 = .ok (.iload 6, 2) := by decide +kernel
theorem dX9_scoreOf_125 : decode cX9_scoreOf 125 = .ok (.sipush 20000, 3) := by decide +kernel
theorem dX9_scoreOf_128 : decode cX9_scoreOf 128 = .ok (.isub, 1) := by decide +kernel
theorem dX9_scoreOf_129 : decode cX9_scoreOf 129 = .ok (.aload_n 0, 1) := by decide +kernel
theorem dX9_scoreOf_130 : decode cX9_scoreOf 130 = .ok (.getfield 29, 3) := by decide +kernel
theorem dX9_scoreOf_133 : decode cX9_scoreOf 133 = .ok (.iload 4, 2) := by decide +kernel
theorem dX9_scoreOf_135 : decode cX9_scoreOf 135 = .ok (.iconst 1, 1) := by decide +kernel
theorem dX9_scoreOf_136 : decode cX9_scoreOf 136 = .ok (.isub, 1) := by decide +kernel
theorem dX9_scoreOf_137 : decode cX9_scoreOf 137 = .ok (.iaload, 1) := by decide +kernel
theorem dX9_scoreOf_138 : decode cX9_scoreOf 138 = .ok (.aload_n 0, 1) := by decide +kernel
theorem dX9_scoreOf_139 : decode cX9_scoreOf 139 = .ok (.getfield 29, 3) := by decide +kernel
theorem dX9_scoreOf_142 : decode cX9_scoreOf 142 = .ok (.iload 4, 2) := by decide +kernel
theorem dX9_scoreOf_144 : decode cX9_scoreOf 144 = .ok (.iaload, 1) := by decide +kernel
theorem dX9_scoreOf_145 : decode cX9_scoreOf 145 = .ok (.invokestatic 219, 3) := by decide +kernel
theorem dX9_scoreOf_148 : decode cX9_scoreOf 148 = .ok (.iastore, 1) := by decide +kernel
theorem dX9_scoreOf_149 : decode cX9_scoreOf 149 = .ok (.iinc 5 1, 3) := by decide +kernel
theorem dX9_scoreOf_152 : decode cX9_scoreOf 152 = .ok (.goto (-137), 3) := by decide +kernel
theorem dX9_scoreOf_155 : decode cX9_scoreOf 155 = .ok (.aload_n 0, 1) := by decide +kernel
theorem dX9_scoreOf_156 : decode cX9_scoreOf 156 = .ok (.getfield 29, 3) := by decide +kernel
theorem dX9_scoreOf_159 : decode cX9_scoreOf 159 = .ok (.iconst 0, 1) := by decide +kernel
theorem dX9_scoreOf_160 : decode cX9_scoreOf 160 = .ok (.iaload, 1) := by decide +kernel
theorem dX9_scoreOf_161 : decode cX9_scoreOf 161 = .ok (.ireturn, 1) := by decide +kernel
theorem dX9_isText_0 : decode cX9_isText 0 = .ok (.iload_n 1, 1) := by decide +kernel
theorem dX9_isText_1 : decode cX9_isText 1 = .ok (.i2l, 1) := by decide +kernel
theorem dX9_isText_2 : decode cX9_isText 2 = .ok (.lconst 0, 1) := by decide +kernel
theorem dX9_isText_3 : decode cX9_isText 3 = .ok (.aload_n 0, 1) := by decide +kernel
theorem dX9_isText_4 : decode cX9_isText 4 = .ok (.getfield 9, 3) := by decide +kernel
theorem dX9_isText_7 : decode cX9_isText 7 = .ok (.iconst 4, 1) := by decide +kernel
theorem dX9_isText_8 : decode cX9_isText 8 = .ok (.iaload, 1) := by decide +kernel
theorem dX9_isText_9 : decode cX9_isText 9 = .ok (.iconst 1, 1) := by decide +kernel
theorem dX9_isText_10 : decode cX9_isText 10 = .ok (.isub, 1) := by decide +kernel
theorem dX9_isText_11 : decode cX9_isText 11 = .ok (.i2l, 1) := by decide +kernel
theorem dX9_isText_12 : decode cX9_isText 12 = .ok (.invokestatic 48, 3) := by decide +kernel
theorem dX9_isText_15 : decode cX9_isText 15 = .ok (.ireturn, 1) := by decide +kernel
theorem dX9_score_0 : decode cX9_score 0 = .ok (.aload_n 0, 1) := by decide +kernel
theorem dX9_score_1 : decode cX9_score 1 = .ok (.iload_n 1, 1) := by decide +kernel
theorem dX9_score_2 : decode cX9_score 2 = .ok (.invokevirtual 223, 3) := by decide +kernel
theorem dX9_score_5 : decode cX9_score 5 = .ok (.ifCond .eq 20, 3) := by decide +kernel
theorem dX9_score_8 : decode cX9_score 8 = .ok (.aload_n 0, 1) := by decide +kernel
theorem dX9_score_9 : decode cX9_score 9 = .ok (.iload_n 2, 1) := by decide +kernel
theorem dX9_score_10 : decode cX9_score 10 = .ok (.invokevirtual 73, 3) := by decide +kernel
theorem dX9_score_13 : decode cX9_score 13 = .ok (.ifCond .eq 12, 3) := by decide +kernel
theorem dX9_score_16 : decode cX9_score 16 = .ok (.aload_n 0, 1) := by decide +kernel
theorem dX9_score_17 : decode cX9_score 17 = .ok (.iload_n 1, 1) := by decide +kernel
theorem dX9_score_18 : decode cX9_score 18 = .ok (.iload_n 2, 1) := by decide +kernel
theorem dX9_score_19 : decode cX9_score 19 = .ok (.invokevirtual 226, 3) := by decide +kernel
theorem dX9_score_22 : decode cX9_score 22 = .ok (.goto 9, 3) := by decide +kernel
theorem dX9_score_25 : decode cX9_score 25 = .ok (.aload_n 0, 1) := by decide +kernel
theorem dX9_score_26 : decode cX9_score 26 = .ok (.ldc 47, 2) := by decide +kernel
theorem dX9_score_28 : decode cX9_score 28 = .ok (.invokevirtual 64, 3) := by decide +kernel
theorem dX9_score_31 : decode cX9_score 31 = .ok (.ireturn, 1) := by decide +kernel
theorem dX9_findScores_0 : decode cX9_findScores 0 = .ok (.iconst 0, 1) := by decide +kernel
theorem dX9_findScores_1 : decode cX9_findScores 1 = .ok (.istore_n 2, 1) := by decide +kernel
theorem dX9_findScores_2 : decode cX9_findScores 2 = .ok (.iload_n 2, 1) := by decide +kernel
theorem dX9_findScores_3 : decode cX9_findScores 3 = .ok (.aload_n 0, 1) := by decide +kernel
theorem dX9_findScores_4 : decode cX9_findScores 4 = .ok (.getfield 9, 3) := by decide +kernel
theorem dX9_findScores_7 : decode cX9_findScores 7 = .ok (.iconst 0, 1) := by decide +kernel
theorem dX9_findScores_8 : decode cX9_findScores 8 = .ok (.iaload, 1) := by decide +kernel
theorem dX9_findScores_9 : decode cX9_findScores 9 = .ok (.if_icmp .ge 21, 3) := by decide +kernel
theorem dX9_findScores_12 : decode cX9_findScores 12 = .ok (.aload_n 0, 1) := by decide +kernel
theorem dX9_findScores_13 : decode cX9_findScores 13 = .ok (.getfield 32, 3) := by decide +kernel
theorem dX9_findScores_16 : decode cX9_findScores 16 = .ok (.iload_n 2, 1) := by decide +kernel
theorem dX9_findScores_17 : decode cX9_findScores 17 = .ok (.aload_n 0, 1) := by decide +kernel
theorem dX9_findScores_18 : decode cX9_findScores 18 = .ok (.iload_n 1, 1) := by decide +kernel
theorem dX9_findScores_19 : decode cX9_findScores 19 = .ok (.iload_n 2, 1) := by decide +kernel
theorem dX9_findScores_20 : decode cX9_findScores 20 = .ok (.invokevirtual 226, 3) := by decide +kernel
theorem dX9_findScores_23 : decode cX9_findScores 23 = .ok (.iastore, 1) := by decide +kernel
theorem dX9_findScores_24 : decode cX9_findScores 24 = .ok (.iinc 2 1, 3) := by decide +kernel
theorem dX9_findScores_27 : decode cX9_findScores 27 = .ok (.goto (-25), 3) := by decide +kernel
theorem dX9_findScores_30 : decode cX9_findScores 30 = .ok (.return_, 1) := by decide +kernel
end
section
theorem dX9_people_0 : decode cX9_people 0 = .ok (.iconst 0, 1) := by decide +kernel
theorem dX9_people_1 : decode cX9_people 1 = .ok (.istore_n 1, 1) := by decide +kernel
theorem dX9_people_2 : decode cX9_people 2 = .ok (.iconst 0, 1) := by decide +kernel
theorem dX9_people_3 : decode cX9_people 3 = .ok (.istore_n 2, 1) := by decide +kernel
theorem dX9_people_4 : decode cX9_people 4 = .ok (.iload_n 2, 1) := by decide +kernel
theorem dX9_people_5 : decode cX9_people 5 = .ok (.aload_n 0, 1) := by decide +kernel
theorem dX9_people_6 : decode cX9_people 6 = .ok (.getfield 9, 3) := by decide +kernel
theorem dX9_people_9 : decode cX9_people 9 = .ok (.iconst 0, 1) := by decide +kernel
theorem dX9_people_10 : decode cX9_people 10 = .ok (.iaload, 1) := by decide +kernel
theorem dX9_people_11 : decode cX9_people 11 = .ok (.if_icmp .ge 27, 3) := by decide +kernel
theorem dX9_people_14 : decode cX9_people 14 = .ok (.iload_n 1, 1) := by decide +kernel
theorem dX9_people_15 : decode cX9_people 15 = .ok (.aload_n 0, 1) := by decide +kernel
theorem dX9_people_16 : decode cX9_people 16 = .ok (.iload_n 2, 1) := by decide +kernel
theorem dX9_people_17 : decode cX9_people 17 = .ok (.invokevirtual 77, 3) := by decide +kernel
theorem dX9_people_20 : decode cX9_people 20 = .ok (.ifCond .eq 9, 3) := by decide +kernel
theorem dX9_people_23 : decode cX9_people 23 = .ok (.iconst 1, 1) := by decide +kernel
theorem dX9_people_24 : decode cX9_people 24 = .ok (.iload_n 2, 1) := by decide +kernel
theorem dX9_people_25 : decode cX9_people 25 = .ok (.ishl, 1) := by decide +kernel
theorem dX9_people_26 : decode cX9_people 26 = .ok (.goto 4, 3) := by decide +kernel
theorem dX9_people_29 : decode cX9_people 29 = .ok (.iconst 0, 1) := by decide +kernel
theorem dX9_people_30 : decode cX9_people 30 = .ok (.ior, 1) := by decide +kernel
theorem dX9_people_31 : decode cX9_people 31 = .ok (.istore_n 1, 1) := by decide +kernel
theorem dX9_people_32 : decode cX9_people 32 = .ok (.iinc 2 1, 3) := by decide +kernel
theorem dX9_people_35 : decode cX9_people 35 = .ok (.goto (-31), 3) := by decide +kernel
theorem dX9_people_38 : decode cX9_people 38 = .ok (.iload_n 1, 1) := by decide +kernel
theorem dX9_people_39 : decode cX9_people 39 = .ok (.ireturn, 1) := by decide +kernel
theorem dX9_foundBy_0 : decode cX9_foundBy 0 = .ok (.iconst 0, 1) := by decide +kernel
theorem dX9_foundBy_1 : decode cX9_foundBy 1 = .ok (.istore_n 2, 1) := by decide +kernel
theorem dX9_foundBy_2 : decode cX9_foundBy 2 = .ok (.iconst 0, 1) := by decide +kernel
theorem dX9_foundBy_3 : decode cX9_foundBy 3 = .ok (.istore_n 3, 1) := by decide +kernel
theorem dX9_foundBy_4 : decode cX9_foundBy 4 = .ok (.iload_n 3, 1) := by decide +kernel
theorem dX9_foundBy_5 : decode cX9_foundBy 5 = .ok (.aload_n 0, 1) := by decide +kernel
theorem dX9_foundBy_6 : decode cX9_foundBy 6 = .ok (.getfield 9, 3) := by decide +kernel
theorem dX9_foundBy_9 : decode cX9_foundBy 9 = .ok (.iconst 0, 1) := by decide +kernel
theorem dX9_foundBy_10 : decode cX9_foundBy 10 = .ok (.iaload, 1) := by decide +kernel
theorem dX9_foundBy_11 : decode cX9_foundBy 11 = .ok (.if_icmp .ge 29, 3) := by decide +kernel
theorem dX9_foundBy_14 : decode cX9_foundBy 14 = .ok (.iload_n 2, 1) := by decide +kernel
theorem dX9_foundBy_15 : decode cX9_foundBy 15 = .ok (.aload_n 0, 1) := by decide +kernel
theorem dX9_foundBy_16 : decode cX9_foundBy 16 = .ok (.getfield 32, 3) := by decide +kernel
theorem dX9_foundBy_19 : decode cX9_foundBy 19 = .ok (.iload_n 3, 1) := by decide +kernel
theorem dX9_foundBy_20 : decode cX9_foundBy 20 = .ok (.iaload, 1) := by decide +kernel
theorem dX9_foundBy_21 : decode cX9_foundBy 21 = .ok (.iload_n 1, 1) := by decide +kernel
theorem dX9_foundBy_22 : decode cX9_foundBy 22 = .ok (.if_icmp .lt 9, 3) := by decide +kernel
theorem dX9_foundBy_25 : decode cX9_foundBy 25 = .ok (.iconst 1, 1) := by decide +kernel
theorem dX9_foundBy_26 : decode cX9_foundBy 26 = .ok (.iload_n 3, 1) := by decide +kernel
theorem dX9_foundBy_27 : decode cX9_foundBy 27 = .ok (.ishl, 1) := by decide +kernel
theorem dX9_foundBy_28 : decode cX9_foundBy 28 = .ok (.goto 4, 3) := by decide +kernel
theorem dX9_foundBy_31 : decode cX9_foundBy 31 = .ok (.iconst 0, 1) := by decide +kernel
theorem dX9_foundBy_32 : decode cX9_foundBy 32 = .ok (.ior, 1) := by decide +kernel
theorem dX9_foundBy_33 : decode cX9_foundBy 33 = .ok (.istore_n 2, 1) := by decide +kernel
theorem dX9_foundBy_34 : decode cX9_foundBy 34 = .ok (.iinc 3 1, 3) := by decide +kernel
theorem dX9_foundBy_37 : decode cX9_foundBy 37 = .ok (.goto (-33), 3) := by decide +kernel
theorem dX9_foundBy_40 : decode cX9_foundBy 40 = .ok (.iload_n 2, 1) := by decide +kernel
theorem dX9_foundBy_41 : decode cX9_foundBy 41 = .ok (.ireturn, 1) := by decide +kernel
theorem dX9_found_0 : decode cX9_found 0 = .ok (.aload_n 0, 1) := by decide +kernel
theorem dX9_found_1 : decode cX9_found 1 = .ok (.iload_n 1, 1) := by decide +kernel
theorem dX9_found_2 : decode cX9_found 2 = .ok (.invokevirtual 223, 3) := by decide +kernel
theorem dX9_found_5 : decode cX9_found 5 = .ok (.ifCond .eq 15, 3) := by decide +kernel
theorem dX9_found_8 : decode cX9_found 8 = .ok (.iload_n 3, 1) := by decide +kernel
theorem dX9_found_9 : decode cX9_found 9 = .ok (.i2l, 1) := by decide +kernel
theorem dX9_found_10 : decode cX9_found 10 = .ok (.lconst 0, 1) := by decide +kernel
theorem dX9_found_11 : decode cX9_found 11 = .ok (.ldc2_w 229, 3) := by decide +kernel
theorem dX9_found_14 : decode cX9_found 14 = .ok (.invokestatic 48, 3) := by decide +kernel
theorem dX9_found_17 : decode cX9_found 17 = .ok (.ifCond .ne 10, 3) := by decide +kernel
theorem dX9_found_20 : decode cX9_found 20 = .ok (.aload_n 0, 1) := by decide +kernel
theorem dX9_found_21 : decode cX9_found 21 = .ok (.ldc 47, 2) := by decide +kernel
theorem dX9_found_23 : decode cX9_found 23 = .ok (.invokevirtual 64, 3) := by decide +kernel
theorem dX9_found_26 : decode cX9_found 26 = .ok (.ireturn, 1) := by decide +kernel
theorem dX9_found_27 : decode cX9_found 27 = .ok (.aload_n 0, 1) := by decide +kernel
theorem dX9_found_28 : decode cX9_found 28 = .ok (.iload_n 1, 1) := by decide +kernel
theorem dX9_found_29 : decode cX9_found 29 = .ok (.invokevirtual 231, 3) := by decide +kernel
theorem dX9_found_32 : decode cX9_found 32 = .ok (.aload_n 0, 1) := by decide +kernel
theorem dX9_found_33 : decode cX9_found 33 = .ok (.iload_n 2, 1) := by decide +kernel
theorem dX9_found_34 : decode cX9_found 34 = .ok (.invokevirtual 234, 3) := by decide +kernel
theorem dX9_found_37 : decode cX9_found 37 = .ok (.istore 4, 2) := by decide +kernel
theorem dX9_found_39 : decode cX9_found 39 = .ok (.iload_n 3, 1) := by decide +kernel
theorem dX9_found_40 : decode cX9_found 40 = .ok (.ifCond .ne 8, 3) := by decide +kernel
theorem dX9_found_43 : decode cX9_found 43 = .ok (.iload 4, 2) := by decide +kernel
theorem dX9_found_45 : decode cX9_found 45 = .ok (.goto 34, 3) := by decide +kernel
theorem dX9_found_48 : decode cX9_found 48 = .ok (.iload_n 3, 1) := by decide +kernel
theorem dX9_found_49 : decode cX9_found 49 = .ok (.iconst 1, 1) := by decide +kernel
theorem dX9_found_50 : decode cX9_found 50 = .ok (.if_icmp .ne 13, 3) := by decide +kernel
theorem dX9_found_53 : decode cX9_found 53 = .ok (.iload 4, 2) := by decide +kernel
theorem dX9_found_55 : decode cX9_found 55 = .ok (.aload_n 0, 1) := by decide +kernel
theorem dX9_found_56 : decode cX9_found 56 = .ok (.invokevirtual 237, 3) := by decide +kernel
theorem dX9_found_59 : decode cX9_found 59 = .ok (.iand, 1) := by decide +kernel
theorem dX9_found_60 : decode cX9_found 60 = .ok (.goto 19, 3) := by decide +kernel
theorem dX9_found_63 : decode cX9_found 63 = .ok (.aload_n 0, 1) := by decide +kernel
theorem dX9_found_64 : decode cX9_found 64 = .ok (.invokevirtual 52, 3) := by decide +kernel
theorem dX9_found_67 : decode cX9_found 67 = .ok (.iload 4, 2) := by decide +kernel
theorem dX9_found_69 : decode cX9_found 69 = .ok (.iconst (-1), 1) := by decide +kernel
theorem dX9_found_70 : decode cX9_found 70 = .ok (.ixor, 1) := by decide +kernel
theorem dX9_found_71 : decode cX9_found 71 = .ok (.iand, 1) := by decide +kernel
theorem dX9_found_72 : decode cX9_found 72 = .ok (.aload_n 0, 1) := by decide +kernel
theorem dX9_found_73 : decode cX9_found 73 = .ok (.invokevirtual 237, 3) := by decide +kernel
theorem dX9_found_76 : decode cX9_found 76 = .ok (.iconst (-1), 1) := by decide +kernel
theorem dX9_found_77 : decode cX9_found 77 = .ok (.ixor, 1) := by decide +kernel
theorem dX9_found_78 : decode cX9_found 78 = .ok (.iand, 1) := by decide +kernel
theorem dX9_found_79 : decode cX9_found 79 = .ok (.ireturn, 1) := by decide +kernel
theorem dX9_line_0 : decode cX9_line 0 = .ok (.aload_n 0, 1) := by decide +kernel
theorem dX9_line_1 : decode cX9_line 1 = .ok (.iload_n 1, 1) := by decide +kernel
theorem dX9_line_2 : decode cX9_line 2 = .ok (.invokevirtual 223, 3) := by decide +kernel
theorem dX9_line_5 : decode cX9_line 5 = .ok (.ifCond .eq 38, 3) := by decide +kernel
theorem dX9_line_8 : decode cX9_line 8 = .ok (.iload_n 2, 1) := by decide +kernel
theorem dX9_line_9 : decode cX9_line 9 = .ok (.i2l, 1) := by decide +kernel
theorem dX9_line_10 : decode cX9_line 10 = .ok (.lconst 0, 1) := by decide +kernel
theorem dX9_line_11 : decode cX9_line 11 = .ok (.ldc2_w 82, 3) := by decide +kernel
theorem dX9_line_14 : decode cX9_line 14 = .ok (.invokestatic 48, 3) := by decide +kernel
theorem dX9_line_17 : decode cX9_line 17 = .ok (.ifCond .eq 26, 3) := by decide +kernel
theorem dX9_line_20 : decode cX9_line 20 = .ok (.iload_n 3, 1) := by decide +kernel
theorem dX9_line_21 : decode cX9_line 21 = .ok (.i2l, 1) := by decide +kernel
theorem dX9_line_22 : decode cX9_line 22 = .ok (.lconst 0, 1) := by decide +kernel
theorem dX9_line_23 : decode cX9_line 23 = .ok (.ldc2_w 82, 3) := by decide +kernel
theorem dX9_line_26 : decode cX9_line 26 = .ok (.invokestatic 48, 3) := by decide +kernel
theorem dX9_line_29 : decode cX9_line 29 = .ok (.ifCond .eq 14, 3) := by decide +kernel
theorem dX9_line_32 : decode cX9_line 32 = .ok (.iload 4, 2) := by decide +kernel
theorem dX9_line_34 : decode cX9_line 34 = .ok (.i2l, 1) := by decide +kernel
theorem dX9_line_35 : decode cX9_line 35 = .ok (.lconst 0, 1) := by decide +kernel
theorem dX9_line_36 : decode cX9_line 36 = .ok (.lconst 1, 1) := by decide +kernel
theorem dX9_line_37 : decode cX9_line 37 = .ok (.invokestatic 48, 3) := by decide +kernel
theorem dX9_line_40 : decode cX9_line 40 = .ok (.ifCond .ne 10, 3) := by decide +kernel
theorem dX9_line_43 : decode cX9_line 43 = .ok (.aload_n 0, 1) := by decide +kernel
theorem dX9_line_44 : decode cX9_line 44 = .ok (.ldc 47, 2) := by decide +kernel
theorem dX9_line_46 : decode cX9_line 46 = .ok (.invokevirtual 64, 3) := by decide +kernel
theorem dX9_line_49 : decode cX9_line 49 = .ok (.ireturn, 1) := by decide +kernel
theorem dX9_line_50 : decode cX9_line 50 = .ok (.aload_n 0, 1) := by decide +kernel
theorem dX9_line_51 : decode cX9_line 51 = .ok (.iload_n 1, 1) := by decide +kernel
theorem dX9_line_52 : decode cX9_line 52 = .ok (.invokevirtual 231, 3) := by decide +kernel
theorem dX9_line_55 : decode cX9_line 55 = .ok (.sipush (-201), 3) := by decide +kernel
theorem dX9_line_58 : decode cX9_line 58 = .ok (.istore 5, 2) := by decide +kernel
theorem dX9_line_60 : decode cX9_line 60 = .ok (.iconst 0, 1) := by decide +kernel
theorem dX9_line_61 : decode cX9_line 61 = .ok (.istore 6, 2) := by decide +kernel
theorem dX9_line_63 : decode cX9_line 63 = .ok (.sipush (-200), 3) := by decide +kernel
theorem dX9_line_66 : decode cX9_line 66 = .ok (.istore 7, 2) := by decide +kernel
theorem dX9_line_68 : decode cX9_line 68 = .ok (.iload 7, 2) := by decide +kernel
theorem dX9_line_70 : decode cX9_line 70 = .ok (.sipush 200, 3) := by decide +kernel
theorem dX9_line_73 : decode cX9_line 73 = .ok (.if_icmp .gt 79, 3) := by decide +kernel
theorem dX9_line_76 : decode cX9_line 76 = .ok (.aload_n 0, 1) := by decide +kernel
theorem dX9_line_77 : decode cX9_line 77 = .ok (.iload 7, 2) := by decide +kernel
theorem dX9_line_79 : decode cX9_line 79 = .ok (.invokevirtual 234, 3) := by decide +kernel
theorem dX9_line_82 : decode cX9_line 82 = .ok (.istore 8, 2) := by decide +kernel
theorem dX9_line_84 : decode cX9_line 84 = .ok (.iload_n 2, 1) := by decide +kernel
theorem dX9_line_85 : decode cX9_line 85 = .ok (.iload 8, 2) := by decide +kernel
theorem dX9_line_87 : decode cX9_line 87 = .ok (.aload_n 0, 1) := by decide +kernel
theorem dX9_line_88 : decode cX9_line 88 = .ok (.invokevirtual 237, 3) := by decide +kernel
theorem dX9_line_91 : decode cX9_line 91 = .ok (.iand, 1) := by decide +kernel
theorem dX9_line_92 : decode cX9_line 92 = .ok (.invokestatic 148, 3) := by decide +kernel
theorem dX9_line_95 : decode cX9_line 95 = .ok (.imul, 1) := by decide +kernel
theorem dX9_line_96 : decode cX9_line 96 = .ok (.iload_n 3, 1) := by decide +kernel
theorem dX9_line_97 : decode cX9_line 97 = .ok (.aload_n 0, 1) := by decide +kernel
theorem dX9_line_98 : decode cX9_line 98 = .ok (.invokevirtual 52, 3) := by decide +kernel
theorem dX9_line_101 : decode cX9_line 101 = .ok (.iload 8, 2) := by decide +kernel
theorem dX9_line_103 : decode cX9_line 103 = .ok (.iconst (-1), 1) := by decide +kernel
theorem dX9_line_104 : decode cX9_line 104 = .ok (.ixor, 1) := by decide +kernel
theorem dX9_line_105 : decode cX9_line 105 = .ok (.iand, 1) := by decide +kernel
theorem dX9_line_106 : decode cX9_line 106 = .ok (.aload_n 0, 1) := by decide +kernel
theorem dX9_line_107 : decode cX9_line 107 = .ok (.invokevirtual 237, 3) := by decide +kernel
theorem dX9_line_110 : decode cX9_line 110 = .ok (.iconst (-1), 1) := by decide +kernel
theorem dX9_line_111 : decode cX9_line 111 = .ok (.ixor, 1) := by decide +kernel
theorem dX9_line_112 : decode cX9_line 112 = .ok (.iand, 1) := by decide +kernel
theorem dX9_line_113 : decode cX9_line 113 = .ok (.invokestatic 148, 3) := by decide +kernel
theorem dX9_line_116 : decode cX9_line 116 = .ok (.imul, 1) := by decide +kernel
theorem dX9_line_117 : decode cX9_line 117 = .ok (.iadd, 1) := by decide +kernel
theorem dX9_line_118 : decode cX9_line 118 = .ok (.istore 9, 2) := by decide +kernel
theorem dX9_line_120 : decode cX9_line 120 = .ok (.iload 5, 2) := by decide +kernel
theorem dX9_line_122 : decode cX9_line 122 = .ok (.sipush (-200), 3) := by decide +kernel
theorem dX9_line_125 : decode cX9_line 125 = .ok (.if_icmp .lt 13, 3) := by decide +kernel
theorem dX9_line_128 : decode cX9_line 128 = .ok (.iload 9, 2) := by decide +kernel
theorem dX9_line_130 : decode cX9_line 130 = .ok (.iload 6, 2) := by decide +kernel
theorem dX9_line_132 : decode cX9_line 132 = .ok (.if_icmp .lt 6, 3) := by decide +kernel
theorem dX9_line_135 : decode cX9_line 135 = .ok (.goto 11, 3) := by decide +kernel
theorem dX9_line_138 : decode cX9_line 138 = .ok (.iload 7, 2) := by decide +kernel
theorem dX9_line_140 : decode cX9_line 140 = .ok (.istore 5, 2) := by decide +kernel
theorem dX9_line_142 : decode cX9_line 142 = .ok (.iload 9, 2) := by decide +kernel
theorem dX9_line_144 : decode cX9_line 144 = .ok (.istore 6, 2) := by decide +kernel
theorem dX9_line_146 : decode cX9_line 146 = .ok (.iinc 7 1, 3) := by decide +kernel
theorem dX9_line_149 : decode cX9_line 149 = .ok (.goto (-81), 3) := by decide +kernel
theorem dX9_line_152 : decode cX9_line 152 = .ok (.iload 4, 2) := by decide +kernel
theorem dX9_line_154 : decode cX9_line 154 = .ok (.ifCond .ne 8, 3) := by decide +kernel
theorem dX9_line_157 : decode cX9_line 157 = .ok (.iload 5, 2) := by decide +kernel
theorem dX9_line_159 : decode cX9_line 159 = .ok (.goto 5, 3) := by decide +kernel
theorem dX9_line_162 : decode cX9_line 162 = .ok (.iload 6, 2) := by decide +kernel
theorem dX9_line_164 : decode cX9_line 164 = .ok (.ireturn, 1) := by decide +kernel
theorem dX9_shutAll_0 : decode cX9_shutAll 0 = .ok (.aload_n 0, 1) := by decide +kernel
theorem dX9_shutAll_1 : decode cX9_shutAll 1 = .ok (.iload_n 1, 1) := by decide +kernel
theorem dX9_shutAll_2 : decode cX9_shutAll 2 = .ok (.invokevirtual 223, 3) := by decide +kernel
theorem dX9_shutAll_5 : decode cX9_shutAll 5 = .ok (.ifCond .ne 10, 3) := by decide +kernel
theorem dX9_shutAll_8 : decode cX9_shutAll 8 = .ok (.aload_n 0, 1) := by decide +kernel
theorem dX9_shutAll_9 : decode cX9_shutAll 9 = .ok (.ldc 47, 2) := by decide +kernel
theorem dX9_shutAll_11 : decode cX9_shutAll 11 = .ok (.invokevirtual 64, 3) := by decide +kernel
theorem dX9_shutAll_14 : decode cX9_shutAll 14 = .ok (.ireturn, 1) := by decide +kernel
theorem dX9_shutAll_15 : decode cX9_shutAll 15 = .ok (.aload_n 0, 1) := by decide +kernel
theorem dX9_shutAll_16 : decode cX9_shutAll 16 = .ok (.iload_n 1, 1) := by decide +kernel
theorem dX9_shutAll_17 : decode cX9_shutAll 17 = .ok (.invokevirtual 231, 3) := by decide +kernel
theorem dX9_shutAll_20 : decode cX9_shutAll 20 = .ok (.aload_n 0, 1) := by decide +kernel
theorem dX9_shutAll_21 : decode cX9_shutAll 21 = .ok (.iload_n 2, 1) := by decide +kernel
theorem dX9_shutAll_22 : decode cX9_shutAll 22 = .ok (.invokevirtual 234, 3) := by decide +kernel
theorem dX9_shutAll_25 : decode cX9_shutAll 25 = .ok (.istore_n 3, 1) := by decide +kernel
theorem dX9_shutAll_26 : decode cX9_shutAll 26 = .ok (.iconst 0, 1) := by decide +kernel
theorem dX9_shutAll_27 : decode cX9_shutAll 27 = .ok (.istore 4, 2) := by decide +kernel
theorem dX9_shutAll_29 : decode cX9_shutAll 29 = .ok (.iconst 0, 1) := by decide +kernel
theorem dX9_shutAll_30 : decode cX9_shutAll 30 = .ok (.istore 5, 2) := by decide +kernel
theorem dX9_shutAll_32 : decode cX9_shutAll 32 = .ok (.iload 5, 2) := by decide +kernel
theorem dX9_shutAll_34 : decode cX9_shutAll 34 = .ok (.aload_n 0, 1) := by decide +kernel
theorem dX9_shutAll_35 : decode cX9_shutAll 35 = .ok (.getfield 9, 3) := by decide +kernel
theorem dX9_shutAll_38 : decode cX9_shutAll 38 = .ok (.iconst 0, 1) := by decide +kernel
theorem dX9_shutAll_39 : decode cX9_shutAll 39 = .ok (.iaload, 1) := by decide +kernel
theorem dX9_shutAll_40 : decode cX9_shutAll 40 = .ok (.if_icmp .ge 45, 3) := by decide +kernel
theorem dX9_shutAll_43 : decode cX9_shutAll 43 = .ok (.iload 4, 2) := by decide +kernel
theorem dX9_shutAll_45 : decode cX9_shutAll 45 = .ok (.iload_n 3, 1) := by decide +kernel
theorem dX9_shutAll_46 : decode cX9_shutAll 46 = .ok (.iload 5, 2) := by decide +kernel
theorem dX9_shutAll_48 : decode cX9_shutAll 48 = .ok (.invokestatic 97, 3) := by decide +kernel
theorem dX9_shutAll_51 : decode cX9_shutAll 51 = .ok (.ifCond .eq 24, 3) := by decide +kernel
theorem dX9_shutAll_54 : decode cX9_shutAll 54 = .ok (.iconst 1, 1) := by decide +kernel
theorem dX9_shutAll_55 : decode cX9_shutAll 55 = .ok (.aload_n 0, 1) := by decide +kernel
theorem dX9_shutAll_56 : decode cX9_shutAll 56 = .ok (.bipush 6, 2) := by decide +kernel
theorem dX9_shutAll_58 : decode cX9_shutAll 58 = .ok (.bipush 8, 2) := by decide +kernel
theorem dX9_shutAll_60 : decode cX9_shutAll 60 = .ok (.iload 5, 2) := by decide +kernel
theorem dX9_shutAll_62 : decode cX9_shutAll 62 = .ok (.imul, 1) := by decide +kernel
theorem dX9_shutAll_63 : decode cX9_shutAll 63 = .ok (.iadd, 1) := by decide +kernel
theorem dX9_shutAll_64 : decode cX9_shutAll 64 = .ok (.bipush 6, 2) := by decide +kernel
theorem dX9_shutAll_66 : decode cX9_shutAll 66 = .ok (.iadd, 1) := by decide +kernel
theorem dX9_shutAll_67 : decode cX9_shutAll 67 = .ok (.iconst 1, 1) := by decide +kernel
theorem dX9_shutAll_68 : decode cX9_shutAll 68 = .ok (.invokevirtual 91, 3) := by decide +kernel
theorem dX9_shutAll_71 : decode cX9_shutAll 71 = .ok (.isub, 1) := by decide +kernel
theorem dX9_shutAll_72 : decode cX9_shutAll 72 = .ok (.goto 4, 3) := by decide +kernel
theorem dX9_shutAll_75 : decode cX9_shutAll 75 = .ok (.iconst 0, 1) := by decide +kernel
theorem dX9_shutAll_76 : decode cX9_shutAll 76 = .ok (.iadd, 1) := by decide +kernel
theorem dX9_shutAll_77 : decode cX9_shutAll 77 = .ok (.istore 4, 2) := by decide +kernel
theorem dX9_shutAll_79 : decode cX9_shutAll 79 = .ok (.iinc 5 1, 3) := by decide +kernel
theorem dX9_shutAll_82 : decode cX9_shutAll 82 = .ok (.goto (-50), 3) := by decide +kernel
theorem dX9_shutAll_85 : decode cX9_shutAll 85 = .ok (.iload 4, 2) := by decide +kernel
theorem dX9_shutAll_87 : decode cX9_shutAll 87 = .ok (.ireturn, 1) := by decide +kernel
theorem dX9_ask_0 : decode cX9_ask 0 = .ok (.aload_n 0, 1) := by decide +kernel
theorem dX9_ask_1 : decode cX9_ask 1 = .ok (.iload_n 1, 1) := by decide +kernel
theorem dX9_ask_2 : decode cX9_ask 2 = .ok (.invokevirtual 223, 3) := by decide +kernel
theorem dX9_ask_5 : decode cX9_ask 5 = .ok (.ifCond .eq 17, 3) := by decide +kernel
theorem dX9_ask_8 : decode cX9_ask 8 = .ok (.iload_n 2, 1) := by decide +kernel
theorem dX9_ask_9 : decode cX9_ask 9 = .ok (.i2l, 1) := by decide +kernel
theorem dX9_ask_10 : decode cX9_ask 10 = .ok (.ldc2_w 240, 3) := by decide +kernel
theorem dX9_ask_13 : decode cX9_ask 13 = .ok (.ldc2_w 242, 3) := by decide +kernel
theorem dX9_ask_16 : decode cX9_ask 16 = .ok (.invokestatic 48, 3) := by decide +kernel
theorem dX9_ask_19 : decode cX9_ask 19 = .ok (.ifCond .ne 10, 3) := by decide +kernel
theorem dX9_ask_22 : decode cX9_ask 22 = .ok (.aload_n 0, 1) := by decide +kernel
theorem dX9_ask_23 : decode cX9_ask 23 = .ok (.ldc 47, 2) := by decide +kernel
theorem dX9_ask_25 : decode cX9_ask 25 = .ok (.invokevirtual 64, 3) := by decide +kernel
theorem dX9_ask_28 : decode cX9_ask 28 = .ok (.ireturn, 1) := by decide +kernel
theorem dX9_ask_29 : decode cX9_ask 29 = .ok (.iconst (-1), 1) := by decide +kernel
theorem dX9_ask_30 : decode cX9_ask 30 = .ok (.istore_n 3, 1) := by decide +kernel
theorem dX9_ask_31 : decode cX9_ask 31 = .ok (.lconst 0, 1) := by decide +kernel
theorem dX9_ask_32 : decode cX9_ask 32 = .ok (.lstore 4, 2) := by decide +kernel
theorem dX9_ask_34 : decode cX9_ask 34 = .ok (.iconst 0, 1) := by decide +kernel
theorem dX9_ask_35 : decode cX9_ask 35 = .ok (.istore 6, 2) := by decide +kernel
theorem dX9_ask_37 : decode cX9_ask 37 = .ok (.iload 6, 2) := by decide +kernel
theorem dX9_ask_39 : decode cX9_ask 39 = .ok (.aload_n 0, 1) := by decide +kernel
theorem dX9_ask_40 : decode cX9_ask 40 = .ok (.getfield 9, 3) := by decide +kernel
theorem dX9_ask_43 : decode cX9_ask 43 = .ok (.iconst 0, 1) := by decide +kernel
theorem dX9_ask_44 : decode cX9_ask 44 = .ok (.iaload, 1) := by decide +kernel
theorem dX9_ask_45 : decode cX9_ask 45 = .ok (.if_icmp .ge 76, 3) := by decide +kernel
theorem dX9_ask_48 : decode cX9_ask 48 = .ok (.aload_n 0, 1) := by decide +kernel
theorem dX9_ask_49 : decode cX9_ask 49 = .ok (.iload 6, 2) := by decide +kernel
theorem dX9_ask_51 : decode cX9_ask 51 = .ok (.bipush 7, 2) := by decide +kernel
theorem dX9_ask_53 : decode cX9_ask 53 = .ok (.invokevirtual 69, 3) := by decide +kernel
theorem dX9_ask_56 : decode cX9_ask 56 = .ok (.iconst 1, 1) := by decide +kernel
theorem dX9_ask_57 : decode cX9_ask 57 = .ok (.if_icmp .ne 6, 3) := by decide +kernel
theorem dX9_ask_60 : decode cX9_ask 60 = .ok (.goto 55, 3) := by decide +kernel
theorem dX9_ask_63 : decode cX9_ask 63 = .ok (.aload_n 0, 1) := by decide +kernel
theorem dX9_ask_64 : decode cX9_ask 64 = .ok (.iload_n 1, 1) := by decide +kernel
theorem dX9_ask_65 : decode cX9_ask 65 = .ok (.iload 6, 2) := by decide +kernel
theorem dX9_ask_67 : decode cX9_ask 67 = .ok (.invokevirtual 226, 3) := by decide +kernel
theorem dX9_ask_70 : decode cX9_ask 70 = .ok (.i2l, 1) := by decide +kernel
theorem dX9_ask_71 : decode cX9_ask 71 = .ok (.iload_n 2, 1) := by decide +kernel
theorem dX9_ask_72 : decode cX9_ask 72 = .ok (.i2l, 1) := by decide +kernel
theorem dX9_ask_73 : decode cX9_ask 73 = .ok (.lsub, 1) := by decide +kernel
theorem dX9_ask_74 : decode cX9_ask 74 = .ok (.lstore 7, 2) := by decide +kernel
theorem dX9_ask_76 : decode cX9_ask 76 = .ok (.lload 7, 2) := by decide +kernel
theorem dX9_ask_78 : decode cX9_ask 78 = .ok (.lconst 0, 1) := by decide +kernel
theorem dX9_ask_79 : decode cX9_ask 79 = .ok (.lcmp, 1) := by decide +kernel
theorem dX9_ask_80 : decode cX9_ask 80 = .ok (.ifCond .ge 9, 3) := by decide +kernel
theorem dX9_ask_83 : decode cX9_ask 83 = .ok (.lload 7, 2) := by decide +kernel
theorem dX9_ask_85 : decode cX9_ask 85 = .ok (.lneg, 1) := by decide +kernel
theorem dX9_ask_86 : decode cX9_ask 86 = .ok (.goto 5, 3) := by decide +kernel
theorem dX9_ask_89 : decode cX9_ask 89 = .ok (.lload 7, 2) := by decide +kernel
theorem dX9_ask_91 : decode cX9_ask 91 = .ok (.lstore 7, 2) := by decide +kernel
theorem dX9_ask_93 : decode cX9_ask 93 = .ok (.iload_n 3, 1) := by decide +kernel
theorem dX9_ask_94 : decode cX9_ask 94 = .ok (.ifCond .lt 14, 3) := by decide +kernel
theorem dX9_ask_97 : decode cX9_ask 97 = .ok (.lload 7, 2) := by decide +kernel
theorem dX9_ask_99 : decode cX9_ask 99 = .ok (.lload 4, 2) := by decide +kernel
theorem dX9_ask_101 : decode cX9_ask 101 = .ok (.lcmp, 1) := by decide +kernel
theorem dX9_ask_102 : decode cX9_ask 102 = .ok (.ifCond .lt 6, 3) := by decide +kernel
theorem dX9_ask_105 : decode cX9_ask 105 = .ok (.goto 10, 3) := by decide +kernel
theorem dX9_ask_108 : decode cX9_ask 108 = .ok (.iload 6, 2) := by decide +kernel
theorem dX9_ask_110 : decode cX9_ask 110 = .ok (.istore_n 3, 1) := by decide +kernel
theorem dX9_ask_111 : decode cX9_ask 111 = .ok (.lload 7, 2) := by decide +kernel
theorem dX9_ask_113 : decode cX9_ask 113 = .ok (.lstore 4, 2) := by decide +kernel
theorem dX9_ask_115 : decode cX9_ask 115 = .ok (.iinc 6 1, 3) := by decide +kernel
theorem dX9_ask_118 : decode cX9_ask 118 = .ok (.goto (-81), 3) := by decide +kernel
theorem dX9_ask_121 : decode cX9_ask 121 = .ok (.iload_n 3, 1) := by decide +kernel
theorem dX9_ask_122 : decode cX9_ask 122 = .ok (.ifCond .ge 12, 3) := by decide +kernel
theorem dX9_ask_125 : decode cX9_ask 125 = .ok (.aload_n 0, 1) := by decide +kernel
theorem dX9_ask_126 : decode cX9_ask 126 = .ok (.ldc 122, 2) := by decide +kernel
theorem dX9_ask_128 : decode cX9_ask 128 = .ok (.invokevirtual 64, 3) := by decide +kernel
theorem dX9_ask_131 : decode cX9_ask 131 = .ok (.goto 4, 3) := by decide +kernel
theorem dX9_ask_134 : decode cX9_ask 134 = .ok (.iload_n 3, 1) := by decide +kernel
theorem dX9_ask_135 : decode cX9_ask 135 = .ok (.ireturn, 1) := by decide +kernel
theorem dX9_howMany_0 : decode cX9_howMany 0 = .ok (.iconst 0, 1) := by decide +kernel
theorem dX9_howMany_1 : decode cX9_howMany 1 = .ok (.istore_n 2, 1) := by decide +kernel
theorem dX9_howMany_2 : decode cX9_howMany 2 = .ok (.iconst 0, 1) := by decide +kernel
theorem dX9_howMany_3 : decode cX9_howMany 3 = .ok (.istore_n 3, 1) := by decide +kernel
theorem dX9_howMany_4 : decode cX9_howMany 4 = .ok (.iload_n 3, 1) := by decide +kernel
theorem dX9_howMany_5 : decode cX9_howMany 5 = .ok (.aload_n 0, 1) := by decide +kernel
theorem dX9_howMany_6 : decode cX9_howMany 6 = .ok (.getfield 9, 3) := by decide +kernel
theorem dX9_howMany_9 : decode cX9_howMany 9 = .ok (.iconst 0, 1) := by decide +kernel
theorem dX9_howMany_10 : decode cX9_howMany 10 = .ok (.iaload, 1) := by decide +kernel
theorem dX9_howMany_11 : decode cX9_howMany 11 = .ok (.if_icmp .ge 18, 3) := by decide +kernel
theorem dX9_howMany_14 : decode cX9_howMany 14 = .ok (.iload_n 2, 1) := by decide +kernel
theorem dX9_howMany_15 : decode cX9_howMany 15 = .ok (.aload_n 0, 1) := by decide +kernel
theorem dX9_howMany_16 : decode cX9_howMany 16 = .ok (.iload_n 3, 1) := by decide +kernel
theorem dX9_howMany_17 : decode cX9_howMany 17 = .ok (.iload_n 1, 1) := by decide +kernel
theorem dX9_howMany_18 : decode cX9_howMany 18 = .ok (.invokevirtual 69, 3) := by decide +kernel
theorem dX9_howMany_21 : decode cX9_howMany 21 = .ok (.iadd, 1) := by decide +kernel
theorem dX9_howMany_22 : decode cX9_howMany 22 = .ok (.istore_n 2, 1) := by decide +kernel
theorem dX9_howMany_23 : decode cX9_howMany 23 = .ok (.iinc 3 1, 3) := by decide +kernel
theorem dX9_howMany_26 : decode cX9_howMany 26 = .ok (.goto (-22), 3) := by decide +kernel
theorem dX9_howMany_29 : decode cX9_howMany 29 = .ok (.iload_n 2, 1) := by decide +kernel
theorem dX9_howMany_30 : decode cX9_howMany 30 = .ok (.ireturn, 1) := by decide +kernel
theorem dX9_asked_0 : decode cX9_asked 0 = .ok (.aload_n 0, 1) := by decide +kernel
theorem dX9_asked_1 : decode cX9_asked 1 = .ok (.iload_n 1, 1) := by decide +kernel
theorem dX9_asked_2 : decode cX9_asked 2 = .ok (.invokevirtual 73, 3) := by decide +kernel
theorem dX9_asked_5 : decode cX9_asked 5 = .ok (.ifCond .ne 10, 3) := by decide +kernel
theorem dX9_asked_8 : decode cX9_asked 8 = .ok (.aload_n 0, 1) := by decide +kernel
theorem dX9_asked_9 : decode cX9_asked 9 = .ok (.ldc 47, 2) := by decide +kernel
theorem dX9_asked_11 : decode cX9_asked 11 = .ok (.invokevirtual 64, 3) := by decide +kernel
theorem dX9_asked_14 : decode cX9_asked 14 = .ok (.ireturn, 1) := by decide +kernel
theorem dX9_asked_15 : decode cX9_asked 15 = .ok (.aload_n 0, 1) := by decide +kernel
theorem dX9_asked_16 : decode cX9_asked 16 = .ok (.bipush 6, 2) := by decide +kernel
theorem dX9_asked_18 : decode cX9_asked 18 = .ok (.bipush 8, 2) := by decide +kernel
theorem dX9_asked_20 : decode cX9_asked 20 = .ok (.iload_n 1, 1) := by decide +kernel
theorem dX9_asked_21 : decode cX9_asked 21 = .ok (.imul, 1) := by decide +kernel
theorem dX9_asked_22 : decode cX9_asked 22 = .ok (.iadd, 1) := by decide +kernel
theorem dX9_asked_23 : decode cX9_asked 23 = .ok (.bipush 7, 2) := by decide +kernel
theorem dX9_asked_25 : decode cX9_asked 25 = .ok (.iadd, 1) := by decide +kernel
theorem dX9_asked_26 : decode cX9_asked 26 = .ok (.iconst 1, 1) := by decide +kernel
theorem dX9_asked_27 : decode cX9_asked 27 = .ok (.invokevirtual 91, 3) := by decide +kernel
theorem dX9_asked_30 : decode cX9_asked 30 = .ok (.iconst 1, 1) := by decide +kernel
theorem dX9_asked_31 : decode cX9_asked 31 = .ok (.if_icmp .ne 10, 3) := by decide +kernel
theorem dX9_asked_34 : decode cX9_asked 34 = .ok (.aload_n 0, 1) := by decide +kernel
theorem dX9_asked_35 : decode cX9_asked 35 = .ok (.ldc 126, 2) := by decide +kernel
theorem dX9_asked_37 : decode cX9_asked 37 = .ok (.invokevirtual 64, 3) := by decide +kernel
theorem dX9_asked_40 : decode cX9_asked 40 = .ok (.ireturn, 1) := by decide +kernel
theorem dX9_asked_41 : decode cX9_asked 41 = .ok (.aload_n 0, 1) := by decide +kernel
theorem dX9_asked_42 : decode cX9_asked 42 = .ok (.bipush 7, 2) := by decide +kernel
theorem dX9_asked_44 : decode cX9_asked 44 = .ok (.invokevirtual 244, 3) := by decide +kernel
theorem dX9_asked_47 : decode cX9_asked 47 = .ok (.ireturn, 1) := by decide +kernel
theorem dX9_isNear_0 : decode cX9_isNear 0 = .ok (.iconst 0, 1) := by decide +kernel
theorem dX9_isNear_1 : decode cX9_isNear 1 = .ok (.istore 4, 2) := by decide +kernel
theorem dX9_isNear_3 : decode cX9_isNear 3 = .ok (.iload 4, 2) := by decide +kernel
theorem dX9_isNear_5 : decode cX9_isNear 5 = .ok (.aload_n 0, 1) := by decide +kernel
theorem dX9_isNear_6 : decode cX9_isNear 6 = .ok (.getfield 9, 3) := by decide +kernel
theorem dX9_isNear_9 : decode cX9_isNear 9 = .ok (.iconst 2, 1) := by decide +kernel
theorem dX9_isNear_10 : decode cX9_isNear 10 = .ok (.iaload, 1) := by decide +kernel
theorem dX9_isNear_11 : decode cX9_isNear 11 = .ok (.if_icmp .ge 43, 3) := by decide +kernel
theorem dX9_isNear_14 : decode cX9_isNear 14 = .ok (.aload_n 0, 1) := by decide +kernel
theorem dX9_isNear_15 : decode cX9_isNear 15 = .ok (.iload 4, 2) := by decide +kernel
theorem dX9_isNear_17 : decode cX9_isNear 17 = .ok (.iconst 1, 1) := by decide +kernel
theorem dX9_isNear_18 : decode cX9_isNear 18 = .ok (.invokevirtual 101, 3) := by decide +kernel
theorem dX9_isNear_21 : decode cX9_isNear 21 = .ok (.iload_n 1, 1) := by decide +kernel
theorem dX9_isNear_22 : decode cX9_isNear 22 = .ok (.if_icmp .ne 26, 3) := by decide +kernel
theorem dX9_isNear_25 : decode cX9_isNear 25 = .ok (.aload_n 0, 1) := by decide +kernel
theorem dX9_isNear_26 : decode cX9_isNear 26 = .ok (.iload 4, 2) := by decide +kernel
theorem dX9_isNear_28 : decode cX9_isNear 28 = .ok (.iconst 0, 1) := by decide +kernel
theorem dX9_isNear_29 : decode cX9_isNear 29 = .ok (.invokevirtual 101, 3) := by decide +kernel
theorem dX9_isNear_32 : decode cX9_isNear 32 = .ok (.iload_n 2, 1) := by decide +kernel
theorem dX9_isNear_33 : decode cX9_isNear 33 = .ok (.isub, 1) := by decide +kernel
theorem dX9_isNear_34 : decode cX9_isNear 34 = .ok (.i2l, 1) := by decide +kernel
theorem dX9_isNear_35 : decode cX9_isNear 35 = .ok (.iload_n 3, 1) := by decide +kernel
theorem dX9_isNear_36 : decode cX9_isNear 36 = .ok (.ineg, 1) := by decide +kernel
theorem dX9_isNear_37 : decode cX9_isNear 37 = .ok (.i2l, 1) := by decide +kernel
theorem dX9_isNear_38 : decode cX9_isNear 38 = .ok (.iload_n 3, 1) := by decide +kernel
theorem dX9_isNear_39 : decode cX9_isNear 39 = .ok (.i2l, 1) := by decide +kernel
theorem dX9_isNear_40 : decode cX9_isNear 40 = .ok (.invokestatic 48, 3) := by decide +kernel
theorem dX9_isNear_43 : decode cX9_isNear 43 = .ok (.ifCond .eq 5, 3) := by decide +kernel
theorem dX9_isNear_46 : decode cX9_isNear 46 = .ok (.iconst 1, 1) := by decide +kernel
theorem dX9_isNear_47 : decode cX9_isNear 47 = .ok (.ireturn, 1) := by decide +kernel
theorem dX9_isNear_48 : decode cX9_isNear 48 = .ok (.iinc 4 1, 3) := by decide +kernel
theorem dX9_isNear_51 : decode cX9_isNear 51 = .ok (.goto (-48), 3) := by decide +kernel
theorem dX9_isNear_54 : decode cX9_isNear 54 = .ok (.iconst 0, 1) := by decide +kernel
theorem dX9_isNear_55 : decode cX9_isNear 55 = .ok (.ireturn, 1) := by decide +kernel
theorem dX9_togetherOf_0 : decode cX9_togetherOf 0 = .ok (.iconst 0, 1) := by decide +kernel
theorem dX9_togetherOf_1 : decode cX9_togetherOf 1 = .ok (.istore 4, 2) := by decide +kernel
theorem dX9_togetherOf_3 : decode cX9_togetherOf 3 = .ok (.iconst 0, 1) := by decide +kernel
theorem dX9_togetherOf_4 : decode cX9_togetherOf 4 = .ok (.istore 5, 2) := by decide +kernel
theorem dX9_togetherOf_6 : decode cX9_togetherOf 6 = .ok (.iload 5, 2) := by decide +kernel
theorem dX9_togetherOf_8 : decode cX9_togetherOf 8 = .ok (.aload_n 0, 1) := by decide +kernel
theorem dX9_togetherOf_9 : decode cX9_togetherOf 9 = .ok (.getfield 9, 3) := by decide +kernel
theorem dX9_togetherOf_12 : decode cX9_togetherOf 12 = .ok (.iconst 2, 1) := by decide +kernel
theorem dX9_togetherOf_13 : decode cX9_togetherOf 13 = .ok (.iaload, 1) := by decide +kernel
theorem dX9_togetherOf_14 : decode cX9_togetherOf 14 = .ok (.if_icmp .ge 46, 3) := by decide +kernel
theorem dX9_togetherOf_17 : decode cX9_togetherOf 17 = .ok (.iload 4, 2) := by decide +kernel
theorem dX9_togetherOf_19 : decode cX9_togetherOf 19 = .ok (.aload_n 0, 1) := by decide +kernel
theorem dX9_togetherOf_20 : decode cX9_togetherOf 20 = .ok (.iload 5, 2) := by decide +kernel
theorem dX9_togetherOf_22 : decode cX9_togetherOf 22 = .ok (.iconst 1, 1) := by decide +kernel
theorem dX9_togetherOf_23 : decode cX9_togetherOf 23 = .ok (.invokevirtual 101, 3) := by decide +kernel
theorem dX9_togetherOf_26 : decode cX9_togetherOf 26 = .ok (.iload_n 1, 1) := by decide +kernel
theorem dX9_togetherOf_27 : decode cX9_togetherOf 27 = .ok (.if_icmp .ne 23, 3) := by decide +kernel
theorem dX9_togetherOf_30 : decode cX9_togetherOf 30 = .ok (.aload_n 0, 1) := by decide +kernel
theorem dX9_togetherOf_31 : decode cX9_togetherOf 31 = .ok (.iload_n 2, 1) := by decide +kernel
theorem dX9_togetherOf_32 : decode cX9_togetherOf 32 = .ok (.aload_n 0, 1) := by decide +kernel
theorem dX9_togetherOf_33 : decode cX9_togetherOf 33 = .ok (.iload 5, 2) := by decide +kernel
theorem dX9_togetherOf_35 : decode cX9_togetherOf 35 = .ok (.iconst 0, 1) := by decide +kernel
theorem dX9_togetherOf_36 : decode cX9_togetherOf 36 = .ok (.invokevirtual 101, 3) := by decide +kernel
theorem dX9_togetherOf_39 : decode cX9_togetherOf 39 = .ok (.iload_n 3, 1) := by decide +kernel
theorem dX9_togetherOf_40 : decode cX9_togetherOf 40 = .ok (.invokevirtual 247, 3) := by decide +kernel
theorem dX9_togetherOf_43 : decode cX9_togetherOf 43 = .ok (.ifCond .eq 7, 3) := by decide +kernel
theorem dX9_togetherOf_46 : decode cX9_togetherOf 46 = .ok (.iconst 1, 1) := by decide +kernel
theorem dX9_togetherOf_47 : decode cX9_togetherOf 47 = .ok (.goto 4, 3) := by decide +kernel
theorem dX9_togetherOf_50 : decode cX9_togetherOf 50 = .ok (.iconst 0, 1) := by decide +kernel
theorem dX9_togetherOf_51 : decode cX9_togetherOf 51 = .ok (.iadd, 1) := by decide +kernel
theorem dX9_togetherOf_52 : decode cX9_togetherOf 52 = .ok (.istore 4, 2) := by decide +kernel
theorem dX9_togetherOf_54 : decode cX9_togetherOf 54 = .ok (.iinc 5 1, 3) := by decide +kernel
theorem dX9_togetherOf_57 : decode cX9_togetherOf 57 = .ok (.goto (-51), 3) := by decide +kernel
theorem dX9_togetherOf_60 : decode cX9_togetherOf 60 = .ok (.iload 4, 2) := by decide +kernel
theorem dX9_togetherOf_62 : decode cX9_togetherOf 62 = .ok (.ireturn, 1) := by decide +kernel
theorem dX9_areTwo_0 : decode cX9_areTwo 0 = .ok (.aload_n 0, 1) := by decide +kernel
theorem dX9_areTwo_1 : decode cX9_areTwo 1 = .ok (.iload_n 1, 1) := by decide +kernel
theorem dX9_areTwo_2 : decode cX9_areTwo 2 = .ok (.invokevirtual 73, 3) := by decide +kernel
theorem dX9_areTwo_5 : decode cX9_areTwo 5 = .ok (.ifCond .eq 20, 3) := by decide +kernel
theorem dX9_areTwo_8 : decode cX9_areTwo 8 = .ok (.aload_n 0, 1) := by decide +kernel
theorem dX9_areTwo_9 : decode cX9_areTwo 9 = .ok (.iload_n 2, 1) := by decide +kernel
theorem dX9_areTwo_10 : decode cX9_areTwo 10 = .ok (.invokevirtual 73, 3) := by decide +kernel
theorem dX9_areTwo_13 : decode cX9_areTwo 13 = .ok (.ifCond .eq 12, 3) := by decide +kernel
theorem dX9_areTwo_16 : decode cX9_areTwo 16 = .ok (.iload_n 1, 1) := by decide +kernel
theorem dX9_areTwo_17 : decode cX9_areTwo 17 = .ok (.iload_n 2, 1) := by decide +kernel
theorem dX9_areTwo_18 : decode cX9_areTwo 18 = .ok (.if_icmp .eq 7, 3) := by decide +kernel
theorem dX9_areTwo_21 : decode cX9_areTwo 21 = .ok (.iconst 1, 1) := by decide +kernel
theorem dX9_areTwo_22 : decode cX9_areTwo 22 = .ok (.goto 4, 3) := by decide +kernel
theorem dX9_areTwo_25 : decode cX9_areTwo 25 = .ok (.iconst 0, 1) := by decide +kernel
theorem dX9_areTwo_26 : decode cX9_areTwo 26 = .ok (.ireturn, 1) := by decide +kernel
theorem dX9_together_0 : decode cX9_together 0 = .ok (.aload_n 0, 1) := by decide +kernel
theorem dX9_together_1 : decode cX9_together 1 = .ok (.iload_n 1, 1) := by decide +kernel
theorem dX9_together_2 : decode cX9_together 2 = .ok (.iload_n 2, 1) := by decide +kernel
theorem dX9_together_3 : decode cX9_together 3 = .ok (.invokevirtual 250, 3) := by decide +kernel
theorem dX9_together_6 : decode cX9_together 6 = .ok (.ifCond .eq 25, 3) := by decide +kernel
theorem dX9_together_9 : decode cX9_together 9 = .ok (.iload_n 3, 1) := by decide +kernel
theorem dX9_together_10 : decode cX9_together 10 = .ok (.i2l, 1) := by decide +kernel
theorem dX9_together_11 : decode cX9_together 11 = .ok (.lconst 0, 1) := by decide +kernel
theorem dX9_together_12 : decode cX9_together 12 = .ok (.ldc2_w 82, 3) := by decide +kernel
theorem dX9_together_15 : decode cX9_together 15 = .ok (.invokestatic 48, 3) := by decide +kernel
theorem dX9_together_18 : decode cX9_together 18 = .ok (.ifCond .eq 13, 3) := by decide +kernel
theorem dX9_together_21 : decode cX9_together 21 = .ok (.aload_n 0, 1) := by decide +kernel
theorem dX9_together_22 : decode cX9_together 22 = .ok (.iload_n 1, 1) := by decide +kernel
theorem dX9_together_23 : decode cX9_together 23 = .ok (.iload_n 2, 1) := by decide +kernel
theorem dX9_together_24 : decode cX9_together 24 = .ok (.iload_n 3, 1) := by decide +kernel
theorem dX9_together_25 : decode cX9_together 25 = .ok (.invokevirtual 253, 3) := by decide +kernel
theorem dX9_together_28 : decode cX9_together 28 = .ok (.goto 9, 3) := by decide +kernel
theorem dX9_together_31 : decode cX9_together 31 = .ok (.aload_n 0, 1) := by decide +kernel
theorem dX9_together_32 : decode cX9_together 32 = .ok (.ldc 47, 2) := by decide +kernel
theorem dX9_together_34 : decode cX9_together 34 = .ok (.invokevirtual 64, 3) := by decide +kernel
theorem dX9_together_37 : decode cX9_together 37 = .ok (.ireturn, 1) := by decide +kernel
theorem dX9_findGroups_0 : decode cX9_findGroups 0 = .ok (.iconst 0, 1) := by decide +kernel
theorem dX9_findGroups_1 : decode cX9_findGroups 1 = .ok (.istore_n 3, 1) := by decide +kernel
theorem dX9_findGroups_2 : decode cX9_findGroups 2 = .ok (.iload_n 3, 1) := by decide +kernel
theorem dX9_findGroups_3 : decode cX9_findGroups 3 = .ok (.aload_n 0, 1) := by decide +kernel
theorem dX9_findGroups_4 : decode cX9_findGroups 4 = .ok (.getfield 9, 3) := by decide +kernel
theorem dX9_findGroups_7 : decode cX9_findGroups 7 = .ok (.iconst 0, 1) := by decide +kernel
theorem dX9_findGroups_8 : decode cX9_findGroups 8 = .ok (.iaload, 1) := by decide +kernel
theorem dX9_findGroups_9 : decode cX9_findGroups 9 = .ok (.if_icmp .ge 16, 3) := by decide +kernel
theorem dX9_findGroups_12 : decode cX9_findGroups 12 = .ok (.aload_n 0, 1) := by decide +kernel
theorem dX9_findGroups_13 : decode cX9_findGroups 13 = .ok (.getfield 35, 3) := by decide +kernel
theorem dX9_findGroups_16 : decode cX9_findGroups 16 = .ok (.iload_n 3, 1) := by decide +kernel
theorem dX9_findGroups_17 : decode cX9_findGroups 17 = .ok (.iload_n 3, 1) := by decide +kernel
theorem dX9_findGroups_18 : decode cX9_findGroups 18 = .ok (.iastore, 1) := by decide +kernel
theorem dX9_findGroups_19 : decode cX9_findGroups 19 = .ok (.iinc 3 1, 3) := by decide +kernel
theorem dX9_findGroups_22 : decode cX9_findGroups 22 = .ok (.goto (-20), 3) := by decide +kernel
theorem dX9_findGroups_25 : decode cX9_findGroups 25 = .ok (.iconst 0, 1) := by decide +kernel
theorem dX9_findGroups_26 : decode cX9_findGroups 26 = .ok (.istore_n 3, 1) := by decide +kernel
theorem dX9_findGroups_27 : decode cX9_findGroups 27 = .ok (.iload_n 3, 1) := by decide +kernel
theorem dX9_findGroups_28 : decode cX9_findGroups 28 = .ok (.aload_n 0, 1) := by decide +kernel
theorem dX9_findGroups_29 : decode cX9_findGroups 29 = .ok (.getfield 9, 3) := by decide +kernel
theorem dX9_findGroups_32 : decode cX9_findGroups 32 = .ok (.iconst 0, 1) := by decide +kernel
theorem dX9_findGroups_33 : decode cX9_findGroups 33 = .ok (.iaload, 1) := by decide +kernel
theorem dX9_findGroups_34 : decode cX9_findGroups 34 = .ok (.if_icmp .ge 186, 3) := by decide +kernel
theorem dX9_findGroups_37 : decode cX9_findGroups 37 = .ok (.iconst 0, 1) := by decide +kernel
theorem dX9_findGroups_38 : decode cX9_findGroups 38 = .ok (.istore 4, 2) := by decide +kernel
theorem dX9_findGroups_40 : decode cX9_findGroups 40 = .ok (.iload 4, 2) := by decide +kernel
theorem dX9_findGroups_42 : decode cX9_findGroups 42 = .ok (.iload_n 3, 1) := by decide +kernel
theorem dX9_findGroups_43 : decode cX9_findGroups 43 = .ok (.if_icmp .ge 171, 3) := by decide +kernel
theorem dX9_findGroups_46 : decode cX9_findGroups 46 = .ok (.aload_n 0, 1) := by decide +kernel
theorem dX9_findGroups_47 : decode cX9_findGroups 47 = .ok (.getfield 35, 3) := by decide +kernel
theorem dX9_findGroups_50 : decode cX9_findGroups 50 = .ok (.iload_n 3, 1) := by decide +kernel
theorem dX9_findGroups_51 : decode cX9_findGroups 51 = .ok (.iaload, 1) := by decide +kernel
theorem dX9_findGroups_52 : decode cX9_findGroups 52 = .ok (.aload_n 0, 1) := by decide +kernel
theorem dX9_findGroups_53 : decode cX9_findGroups 53 = .ok (.getfield 35, 3) := by decide +kernel
theorem dX9_findGroups_56 : decode cX9_findGroups 56 = .ok (.iload 4, 2) := by decide +kernel
theorem dX9_findGroups_58 : decode cX9_findGroups 58 = .ok (.iaload, 1) := by decide +kernel
theorem dX9_findGroups_59 : decode cX9_findGroups 59 = .ok (.if_icmp .eq 149, 3) := by decide +kernel
theorem dX9_findGroups_62 : decode cX9_findGroups 62 = .ok (.aload_n 0, 1) := by decide +kernel
theorem dX9_findGroups_63 : decode cX9_findGroups 63 = .ok (.iload_n 3, 1) := by decide +kernel
theorem dX9_findGroups_64 : decode cX9_findGroups 64 = .ok (.iload 4, 2) := by decide +kernel
theorem dX9_findGroups_66 : decode cX9_findGroups 66 = .ok (.iload_n 1, 1) := by decide +kernel
theorem dX9_findGroups_67 : decode cX9_findGroups 67 = .ok (.invokevirtual 253, 3) := by decide +kernel
theorem dX9_findGroups_70 : decode cX9_findGroups 70 = .ok (.iload_n 2, 1) := by decide +kernel
theorem dX9_findGroups_71 : decode cX9_findGroups 71 = .ok (.if_icmp .ge 18, 3) := by decide +kernel
theorem dX9_findGroups_74 : decode cX9_findGroups 74 = .ok (.aload_n 0, 1) := by decide +kernel
theorem dX9_findGroups_75 : decode cX9_findGroups 75 = .ok (.iload 4, 2) := by decide +kernel
theorem dX9_findGroups_77 : decode cX9_findGroups 77 = .ok (.iload_n 3, 1) := by decide +kernel
theorem dX9_findGroups_78 : decode cX9_findGroups 78 = .ok (.iload_n 1, 1) := by decide +kernel
theorem dX9_findGroups_79 : decode cX9_findGroups 79 = .ok (.invokevirtual 253, 3) := by decide +kernel
theorem dX9_findGroups_82 : decode cX9_findGroups 82 = .ok (.iload_n 2, 1) := by decide +kernel
theorem dX9_findGroups_83 : decode cX9_findGroups 83 = .ok (.if_icmp .ge 6, 3) := by decide +kernel
theorem dX9_findGroups_86 : decode cX9_findGroups 86 = .ok (.goto 122, 3) := by decide +kernel
theorem dX9_findGroups_89 : decode cX9_findGroups 89 = .ok (.aload_n 0, 1) := by decide +kernel
theorem dX9_findGroups_90 : decode cX9_findGroups 90 = .ok (.getfield 35, 3) := by decide +kernel
theorem dX9_findGroups_93 : decode cX9_findGroups 93 = .ok (.iload_n 3, 1) := by decide +kernel
theorem dX9_findGroups_94 : decode cX9_findGroups 94 = .ok (.iaload, 1) := by decide +kernel
theorem dX9_findGroups_95 : decode cX9_findGroups 95 = .ok (.aload_n 0, 1) := by decide +kernel
theorem dX9_findGroups_96 : decode cX9_findGroups 96 = .ok (.getfield 35, 3) := by decide +kernel
theorem dX9_findGroups_99 : decode cX9_findGroups 99 = .ok (.iload 4, 2) := by decide +kernel
theorem dX9_findGroups_101 : decode cX9_findGroups 101 = .ok (.iaload, 1) := by decide +kernel
theorem dX9_findGroups_102 : decode cX9_findGroups 102 = .ok (.if_icmp .ge 12, 3) := by decide +kernel
theorem dX9_findGroups_105 : decode cX9_findGroups 105 = .ok (.aload_n 0, 1) := by decide +kernel
theorem dX9_findGroups_106 : decode cX9_findGroups 106 = .ok (.getfield 35, 3) := by decide +kernel
theorem dX9_findGroups_109 : decode cX9_findGroups 109 = .ok (.iload_n 3, 1) := by decide +kernel
theorem dX9_findGroups_110 : decode cX9_findGroups 110 = .ok (.iaload, 1) := by decide +kernel
theorem dX9_findGroups_111 : decode cX9_findGroups 111 = .ok (.goto 10, 3) := by decide +kernel
theorem dX9_findGroups_114 : decode cX9_findGroups 114 = .ok (.aload_n 0, 1) := by decide +kernel
theorem dX9_findGroups_115 : decode cX9_findGroups 115 = .ok (.getfield 35, 3) := by decide +kernel
theorem dX9_findGroups_118 : decode cX9_findGroups 118 = .ok (.iload 4, 2) := by decide +kernel
theorem dX9_findGroups_120 : decode cX9_findGroups 120 = .ok (.iaload, 1) := by decide +kernel
theorem dX9_findGroups_121 : decode cX9_findGroups 121 = .ok (.istore 5, 2) := by decide +kernel
theorem dX9_findGroups_123 : decode cX9_findGroups 123 = .ok (.aload_n 0, 1) := by decide +kernel
theorem dX9_findGroups_124 : decode cX9_findGroups 124 = .ok (.getfield 35, 3) := by decide +kernel
theorem dX9_findGroups_127 : decode cX9_findGroups 127 = .ok (.iload_n 3, 1) := by decide +kernel
theorem dX9_findGroups_128 : decode cX9_findGroups 128 = .ok (.iaload, 1) := by decide +kernel
theorem dX9_findGroups_129 : decode cX9_findGroups 129 = .ok (.aload_n 0, 1) := by decide +kernel
theorem dX9_findGroups_130 : decode cX9_findGroups 130 = .ok (.getfield 35, 3) := by decide +kernel
theorem dX9_findGroups_133 : decode cX9_findGroups 133 = .ok (.iload 4, 2) := by decide +kernel
theorem dX9_findGroups_135 : decode cX9_findGroups 135 = .ok (.iaload, 1) := by decide +kernel
theorem dX9_findGroups_136 : decode cX9_findGroups 136 = .ok (.if_icmp .ge 13, 3) := by decide +kernel
theorem dX9_findGroups_139 : decode cX9_findGroups 139 = .ok (.aload_n 0, 1) := by decide +kernel
theorem dX9_findGroups_140 : decode cX9_findGroups 140 = .ok (.getfield 35, 3) := by decide +kernel
theorem dX9_findGroups_143 : decode cX9_findGroups 143 = .ok (.iload 4, 2) := by decide +kernel
theorem dX9_findGroups_145 : decode cX9_findGroups 145 = .ok (.iaload, 1) := by decide +kernel
theorem dX9_findGroups_146 : decode cX9_findGroups 146 = .ok (.goto 9, 3) := by decide +kernel
theorem dX9_findGroups_149 : decode cX9_findGroups 149 = .ok (.aload_n 0, 1) := by decide +kernel
theorem dX9_findGroups_150 : decode cX9_findGroups 150 = .ok (.getfield 35, 3) := by decide +kernel
theorem dX9_findGroups_153 : decode cX9_findGroups 153 = .ok (.iload_n 3, 1) := by decide +kernel
theorem dX9_findGroups_154 : decode cX9_findGroups 154 = .ok (.iaload, 1) := by decide +kernel
theorem dX9_findGroups_155 : decode cX9_findGroups 155 = .ok (.istore 6, 2) := by decide +kernel
theorem dX9_findGroups_157 : decode cX9_findGroups 157 = .ok (.iconst 0, 1) := by decide +kernel
theorem dX9_findGroups_158 : decode cX9_findGroups 158 = .ok (.istore 7, 2) := by decide +kernel
theorem dX9_findGroups_160 : decode cX9_findGroups 160 = .ok (.iload 7, 2) := by decide +kernel
theorem dX9_findGroups_162 : decode cX9_findGroups 162 = .ok (.aload_n 0, 1) := by decide +kernel
theorem dX9_findGroups_163 : decode cX9_findGroups 163 = .ok (.getfield 9, 3) := by decide +kernel
theorem dX9_findGroups_166 : decode cX9_findGroups 166 = .ok (.iconst 0, 1) := by decide +kernel
theorem dX9_findGroups_167 : decode cX9_findGroups 167 = .ok (.iaload, 1) := by decide +kernel
theorem dX9_findGroups_168 : decode cX9_findGroups 168 = .ok (.if_icmp .ge 40, 3) := by decide +kernel
theorem dX9_findGroups_171 : decode cX9_findGroups 171 = .ok (.aload_n 0, 1) := by decide +kernel
theorem dX9_findGroups_172 : decode cX9_findGroups 172 = .ok (.getfield 35, 3) := by decide +kernel
theorem dX9_findGroups_175 : decode cX9_findGroups 175 = .ok (.iload 7, 2) := by decide +kernel
theorem dX9_findGroups_177 : decode cX9_findGroups 177 = .ok (.aload_n 0, 1) := by decide +kernel
theorem dX9_findGroups_178 : decode cX9_findGroups 178 = .ok (.getfield 35, 3) := by decide +kernel
theorem dX9_findGroups_181 : decode cX9_findGroups 181 = .ok (.iload 7, 2) := by decide +kernel
theorem dX9_findGroups_183 : decode cX9_findGroups 183 = .ok (.iaload, 1) := by decide +kernel
theorem dX9_findGroups_184 : decode cX9_findGroups 184 = .ok (.iload 6, 2) := by decide +kernel
theorem dX9_findGroups_186 : decode cX9_findGroups 186 = .ok (.if_icmp .ne 8, 3) := by decide +kernel
theorem dX9_findGroups_189 : decode cX9_findGroups 189 = .ok (.iload 5, 2) := by decide +kernel
theorem dX9_findGroups_191 : decode cX9_findGroups 191 = .ok (.goto 10, 3) := by decide +kernel
theorem dX9_findGroups_194 : decode cX9_findGroups 194 = .ok (.aload_n 0, 1) := by decide +kernel
theorem dX9_findGroups_195 : decode cX9_findGroups 195 = .ok (.getfield 35, 3) := by decide +kernel
theorem dX9_findGroups_198 : decode cX9_findGroups 198 = .ok (.iload 7, 2) := by decide +kernel
theorem dX9_findGroups_200 : decode cX9_findGroups 200 = .ok (.iaload, 1) := by decide +kernel
theorem dX9_findGroups_201 : decode cX9_findGroups 201 = .ok (.iastore, 1) := by decide +kernel
theorem dX9_findGroups_202 : decode cX9_findGroups 202 = .ok (.iinc 7 1, 3) := by decide +kernel
theorem dX9_findGroups_205 : decode cX9_findGroups 205 = .ok (.goto (-45), 3) := by decide +kernel
theorem dX9_findGroups_208 : decode cX9_findGroups 208 = .ok (.iinc 4 1, 3) := by decide +kernel
theorem dX9_findGroups_211 : decode cX9_findGroups 211 = .ok (.goto (-171), 3) := by decide +kernel
theorem dX9_findGroups_214 : decode cX9_findGroups 214 = .ok (.iinc 3 1, 3) := by decide +kernel
theorem dX9_findGroups_217 : decode cX9_findGroups 217 = .ok (.goto (-190), 3) := by decide +kernel
theorem dX9_findGroups_220 : decode cX9_findGroups 220 = .ok (.return_, 1) := by decide +kernel
theorem dX9_isGroup_0 : decode cX9_isGroup 0 = .ok (.iload_n 0, 1) := by decide +kernel
theorem dX9_isGroup_1 : decode cX9_isGroup 1 = .ok (.i2l, 1) := by decide +kernel
theorem dX9_isGroup_2 : decode cX9_isGroup 2 = .ok (.lconst 0, 1) := by decide +kernel
theorem dX9_isGroup_3 : decode cX9_isGroup 3 = .ok (.ldc2_w 82, 3) := by decide +kernel
theorem dX9_isGroup_6 : decode cX9_isGroup 6 = .ok (.invokestatic 48, 3) := by decide +kernel
theorem dX9_isGroup_9 : decode cX9_isGroup 9 = .ok (.ifCond .eq 19, 3) := by decide +kernel
theorem dX9_isGroup_12 : decode cX9_isGroup 12 = .ok (.iload_n 1, 1) := by decide +kernel
theorem dX9_isGroup_13 : decode cX9_isGroup 13 = .ok (.i2l, 1) := by decide +kernel
theorem dX9_isGroup_14 : decode cX9_isGroup 14 = .ok (.lconst 1, 1) := by decide +kernel
theorem dX9_isGroup_15 : decode cX9_isGroup 15 = .ok (.ldc2_w 82, 3) := by decide +kernel
theorem dX9_isGroup_18 : decode cX9_isGroup 18 = .ok (.invokestatic 48, 3) := by decide +kernel
theorem dX9_isGroup_21 : decode cX9_isGroup 21 = .ok (.ifCond .eq 7, 3) := by decide +kernel
theorem dX9_isGroup_24 : decode cX9_isGroup 24 = .ok (.iconst 1, 1) := by decide +kernel
theorem dX9_isGroup_25 : decode cX9_isGroup 25 = .ok (.goto 4, 3) := by decide +kernel
theorem dX9_isGroup_28 : decode cX9_isGroup 28 = .ok (.iconst 0, 1) := by decide +kernel
theorem dX9_isGroup_29 : decode cX9_isGroup 29 = .ok (.ireturn, 1) := by decide +kernel
theorem dX9_group_0 : decode cX9_group 0 = .ok (.aload_n 0, 1) := by decide +kernel
theorem dX9_group_1 : decode cX9_group 1 = .ok (.iload_n 1, 1) := by decide +kernel
theorem dX9_group_2 : decode cX9_group 2 = .ok (.invokevirtual 73, 3) := by decide +kernel
theorem dX9_group_5 : decode cX9_group 5 = .ok (.ifCond .eq 24, 3) := by decide +kernel
theorem dX9_group_8 : decode cX9_group 8 = .ok (.iload_n 2, 1) := by decide +kernel
theorem dX9_group_9 : decode cX9_group 9 = .ok (.iload_n 3, 1) := by decide +kernel
theorem dX9_group_10 : decode cX9_group 10 = .ok (.invokestatic 256, 3) := by decide +kernel
theorem dX9_group_13 : decode cX9_group 13 = .ok (.ifCond .eq 16, 3) := by decide +kernel
theorem dX9_group_16 : decode cX9_group 16 = .ok (.iload 4, 2) := by decide +kernel
theorem dX9_group_18 : decode cX9_group 18 = .ok (.i2l, 1) := by decide +kernel
theorem dX9_group_19 : decode cX9_group 19 = .ok (.lconst 0, 1) := by decide +kernel
theorem dX9_group_20 : decode cX9_group 20 = .ok (.ldc2_w 229, 3) := by decide +kernel
theorem dX9_group_23 : decode cX9_group 23 = .ok (.invokestatic 48, 3) := by decide +kernel
theorem dX9_group_26 : decode cX9_group 26 = .ok (.ifCond .ne 10, 3) := by decide +kernel
theorem dX9_group_29 : decode cX9_group 29 = .ok (.aload_n 0, 1) := by decide +kernel
theorem dX9_group_30 : decode cX9_group 30 = .ok (.ldc 47, 2) := by decide +kernel
theorem dX9_group_32 : decode cX9_group 32 = .ok (.invokevirtual 64, 3) := by decide +kernel
theorem dX9_group_35 : decode cX9_group 35 = .ok (.ireturn, 1) := by decide +kernel
theorem dX9_group_36 : decode cX9_group 36 = .ok (.aload_n 0, 1) := by decide +kernel
theorem dX9_group_37 : decode cX9_group 37 = .ok (.iload_n 2, 1) := by decide +kernel
theorem dX9_group_38 : decode cX9_group 38 = .ok (.iload_n 3, 1) := by decide +kernel
theorem dX9_group_39 : decode cX9_group 39 = .ok (.invokevirtual 259, 3) := by decide +kernel
theorem dX9_group_42 : decode cX9_group 42 = .ok (.iconst 0, 1) := by decide +kernel
theorem dX9_group_43 : decode cX9_group 43 = .ok (.istore 5, 2) := by decide +kernel
theorem dX9_group_45 : decode cX9_group 45 = .ok (.iconst 0, 1) := by decide +kernel
theorem dX9_group_46 : decode cX9_group 46 = .ok (.istore 6, 2) := by decide +kernel
theorem dX9_group_48 : decode cX9_group 48 = .ok (.iload 6, 2) := by decide +kernel
theorem dX9_group_50 : decode cX9_group 50 = .ok (.aload_n 0, 1) := by decide +kernel
theorem dX9_group_51 : decode cX9_group 51 = .ok (.getfield 9, 3) := by decide +kernel
theorem dX9_group_54 : decode cX9_group 54 = .ok (.iconst 0, 1) := by decide +kernel
theorem dX9_group_55 : decode cX9_group 55 = .ok (.iaload, 1) := by decide +kernel
theorem dX9_group_56 : decode cX9_group 56 = .ok (.if_icmp .ge 38, 3) := by decide +kernel
theorem dX9_group_59 : decode cX9_group 59 = .ok (.iload 5, 2) := by decide +kernel
theorem dX9_group_61 : decode cX9_group 61 = .ok (.aload_n 0, 1) := by decide +kernel
theorem dX9_group_62 : decode cX9_group 62 = .ok (.getfield 35, 3) := by decide +kernel
theorem dX9_group_65 : decode cX9_group 65 = .ok (.iload 6, 2) := by decide +kernel
theorem dX9_group_67 : decode cX9_group 67 = .ok (.iaload, 1) := by decide +kernel
theorem dX9_group_68 : decode cX9_group 68 = .ok (.aload_n 0, 1) := by decide +kernel
theorem dX9_group_69 : decode cX9_group 69 = .ok (.getfield 35, 3) := by decide +kernel
theorem dX9_group_72 : decode cX9_group 72 = .ok (.iload_n 1, 1) := by decide +kernel
theorem dX9_group_73 : decode cX9_group 73 = .ok (.iaload, 1) := by decide +kernel
theorem dX9_group_74 : decode cX9_group 74 = .ok (.if_icmp .ne 10, 3) := by decide +kernel
theorem dX9_group_77 : decode cX9_group 77 = .ok (.iconst 1, 1) := by decide +kernel
theorem dX9_group_78 : decode cX9_group 78 = .ok (.iload 6, 2) := by decide +kernel
theorem dX9_group_80 : decode cX9_group 80 = .ok (.ishl, 1) := by decide +kernel
theorem dX9_group_81 : decode cX9_group 81 = .ok (.goto 4, 3) := by decide +kernel
theorem dX9_group_84 : decode cX9_group 84 = .ok (.iconst 0, 1) := by decide +kernel
theorem dX9_group_85 : decode cX9_group 85 = .ok (.ior, 1) := by decide +kernel
theorem dX9_group_86 : decode cX9_group 86 = .ok (.istore 5, 2) := by decide +kernel
theorem dX9_group_88 : decode cX9_group 88 = .ok (.iinc 6 1, 3) := by decide +kernel
theorem dX9_group_91 : decode cX9_group 91 = .ok (.goto (-43), 3) := by decide +kernel
theorem dX9_group_94 : decode cX9_group 94 = .ok (.iload 4, 2) := by decide +kernel
theorem dX9_group_96 : decode cX9_group 96 = .ok (.ifCond .ne 12, 3) := by decide +kernel
theorem dX9_group_99 : decode cX9_group 99 = .ok (.aload_n 0, 1) := by decide +kernel
theorem dX9_group_100 : decode cX9_group 100 = .ok (.getfield 35, 3) := by decide +kernel
theorem dX9_group_103 : decode cX9_group 103 = .ok (.iload_n 1, 1) := by decide +kernel
theorem dX9_group_104 : decode cX9_group 104 = .ok (.iaload, 1) := by decide +kernel
theorem dX9_group_105 : decode cX9_group 105 = .ok (.goto 19, 3) := by decide +kernel
theorem dX9_group_108 : decode cX9_group 108 = .ok (.iload 4, 2) := by decide +kernel
theorem dX9_group_110 : decode cX9_group 110 = .ok (.iconst 1, 1) := by decide +kernel
theorem dX9_group_111 : decode cX9_group 111 = .ok (.if_icmp .ne 11, 3) := by decide +kernel
theorem dX9_group_114 : decode cX9_group 114 = .ok (.iload 5, 2) := by decide +kernel
theorem dX9_group_116 : decode cX9_group 116 = .ok (.invokestatic 148, 3) := by decide +kernel
theorem dX9_group_119 : decode cX9_group 119 = .ok (.goto 5, 3) := by decide +kernel
theorem dX9_group_122 : decode cX9_group 122 = .ok (.iload 5, 2) := by decide +kernel
theorem dX9_group_124 : decode cX9_group 124 = .ok (.ireturn, 1) := by decide +kernel
theorem dX9_groups_0 : decode cX9_groups 0 = .ok (.iload_n 1, 1) := by decide +kernel
theorem dX9_groups_1 : decode cX9_groups 1 = .ok (.iload_n 2, 1) := by decide +kernel
theorem dX9_groups_2 : decode cX9_groups 2 = .ok (.invokestatic 256, 3) := by decide +kernel
theorem dX9_groups_5 : decode cX9_groups 5 = .ok (.ifCond .ne 10, 3) := by decide +kernel
theorem dX9_groups_8 : decode cX9_groups 8 = .ok (.aload_n 0, 1) := by decide +kernel
theorem dX9_groups_9 : decode cX9_groups 9 = .ok (.ldc 47, 2) := by decide +kernel
theorem dX9_groups_11 : decode cX9_groups 11 = .ok (.invokevirtual 64, 3) := by decide +kernel
theorem dX9_groups_14 : decode cX9_groups 14 = .ok (.ireturn, 1) := by decide +kernel
theorem dX9_groups_15 : decode cX9_groups 15 = .ok (.aload_n 0, 1) := by decide +kernel
theorem dX9_groups_16 : decode cX9_groups 16 = .ok (.iload_n 1, 1) := by decide +kernel
theorem dX9_groups_17 : decode cX9_groups 17 = .ok (.iload_n 2, 1) := by decide +kernel
theorem dX9_groups_18 : decode cX9_groups 18 = .ok (.invokevirtual 259, 3) := by decide +kernel
theorem dX9_groups_21 : decode cX9_groups 21 = .ok (.iconst 0, 1) := by decide +kernel
theorem dX9_groups_22 : decode cX9_groups 22 = .ok (.istore_n 3, 1) := by decide +kernel
theorem dX9_groups_23 : decode cX9_groups 23 = .ok (.iconst 0, 1) := by decide +kernel
theorem dX9_groups_24 : decode cX9_groups 24 = .ok (.istore 4, 2) := by decide +kernel
theorem dX9_groups_26 : decode cX9_groups 26 = .ok (.iload 4, 2) := by decide +kernel
theorem dX9_groups_28 : decode cX9_groups 28 = .ok (.aload_n 0, 1) := by decide +kernel
theorem dX9_groups_29 : decode cX9_groups 29 = .ok (.getfield 9, 3) := by decide +kernel
theorem dX9_groups_32 : decode cX9_groups 32 = .ok (.iconst 0, 1) := by decide +kernel
theorem dX9_groups_33 : decode cX9_groups 33 = .ok (.iaload, 1) := by decide +kernel
theorem dX9_groups_34 : decode cX9_groups 34 = .ok (.if_icmp .ge 29, 3) := by decide +kernel
theorem dX9_groups_37 : decode cX9_groups 37 = .ok (.iload_n 3, 1) := by decide +kernel
theorem dX9_groups_38 : decode cX9_groups 38 = .ok (.aload_n 0, 1) := by decide +kernel
theorem dX9_groups_39 : decode cX9_groups 39 = .ok (.getfield 35, 3) := by decide +kernel
theorem dX9_groups_42 : decode cX9_groups 42 = .ok (.iload 4, 2) := by decide +kernel
theorem dX9_groups_44 : decode cX9_groups 44 = .ok (.iaload, 1) := by decide +kernel
theorem dX9_groups_45 : decode cX9_groups 45 = .ok (.iload 4, 2) := by decide +kernel
theorem dX9_groups_47 : decode cX9_groups 47 = .ok (.if_icmp .ne 7, 3) := by decide +kernel
theorem dX9_groups_50 : decode cX9_groups 50 = .ok (.iconst 1, 1) := by decide +kernel
theorem dX9_groups_51 : decode cX9_groups 51 = .ok (.goto 4, 3) := by decide +kernel
theorem dX9_groups_54 : decode cX9_groups 54 = .ok (.iconst 0, 1) := by decide +kernel
theorem dX9_groups_55 : decode cX9_groups 55 = .ok (.iadd, 1) := by decide +kernel
theorem dX9_groups_56 : decode cX9_groups 56 = .ok (.istore_n 3, 1) := by decide +kernel
theorem dX9_groups_57 : decode cX9_groups 57 = .ok (.iinc 4 1, 3) := by decide +kernel
theorem dX9_groups_60 : decode cX9_groups 60 = .ok (.goto (-34), 3) := by decide +kernel
theorem dX9_groups_63 : decode cX9_groups 63 = .ok (.iload_n 3, 1) := by decide +kernel
theorem dX9_groups_64 : decode cX9_groups 64 = .ok (.ireturn, 1) := by decide +kernel
theorem dX9_club_0 : decode cX9_club 0 = .ok (.iload_n 1, 1) := by decide +kernel
theorem dX9_club_1 : decode cX9_club 1 = .ok (.invokestatic 116, 3) := by decide +kernel
theorem dX9_club_4 : decode cX9_club 4 = .ok (.ifCond .eq 15, 3) := by decide +kernel
theorem dX9_club_7 : decode cX9_club 7 = .ok (.iload_n 2, 1) := by decide +kernel
theorem dX9_club_8 : decode cX9_club 8 = .ok (.i2l, 1) := by decide +kernel
theorem dX9_club_9 : decode cX9_club 9 = .ok (.lconst 0, 1) := by decide +kernel
theorem dX9_club_10 : decode cX9_club 10 = .ok (.ldc2_w 82, 3) := by decide +kernel
theorem dX9_club_13 : decode cX9_club 13 = .ok (.invokestatic 48, 3) := by decide +kernel
theorem dX9_club_16 : decode cX9_club 16 = .ok (.ifCond .ne 10, 3) := by decide +kernel
theorem dX9_club_19 : decode cX9_club 19 = .ok (.aload_n 0, 1) := by decide +kernel
theorem dX9_club_20 : decode cX9_club 20 = .ok (.ldc 47, 2) := by decide +kernel
theorem dX9_club_22 : decode cX9_club 22 = .ok (.invokevirtual 64, 3) := by decide +kernel
theorem dX9_club_25 : decode cX9_club 25 = .ok (.ireturn, 1) := by decide +kernel
theorem dX9_club_26 : decode cX9_club 26 = .ok (.iconst 0, 1) := by decide +kernel
theorem dX9_club_27 : decode cX9_club 27 = .ok (.istore_n 3, 1) := by decide +kernel
theorem dX9_club_28 : decode cX9_club 28 = .ok (.iconst 0, 1) := by decide +kernel
theorem dX9_club_29 : decode cX9_club 29 = .ok (.istore 4, 2) := by decide +kernel
theorem dX9_club_31 : decode cX9_club 31 = .ok (.iload 4, 2) := by decide +kernel
theorem dX9_club_33 : decode cX9_club 33 = .ok (.aload_n 0, 1) := by decide +kernel
theorem dX9_club_34 : decode cX9_club 34 = .ok (.getfield 9, 3) := by decide +kernel
theorem dX9_club_37 : decode cX9_club 37 = .ok (.iconst 2, 1) := by decide +kernel
theorem dX9_club_38 : decode cX9_club 38 = .ok (.iaload, 1) := by decide +kernel
theorem dX9_club_39 : decode cX9_club 39 = .ok (.if_icmp .ge 44, 3) := by decide +kernel
theorem dX9_club_42 : decode cX9_club 42 = .ok (.iload_n 3, 1) := by decide +kernel
theorem dX9_club_43 : decode cX9_club 43 = .ok (.aload_n 0, 1) := by decide +kernel
theorem dX9_club_44 : decode cX9_club 44 = .ok (.iload 4, 2) := by decide +kernel
theorem dX9_club_46 : decode cX9_club 46 = .ok (.iconst 0, 1) := by decide +kernel
theorem dX9_club_47 : decode cX9_club 47 = .ok (.invokevirtual 101, 3) := by decide +kernel
theorem dX9_club_50 : decode cX9_club 50 = .ok (.iload_n 1, 1) := by decide +kernel
theorem dX9_club_51 : decode cX9_club 51 = .ok (.isub, 1) := by decide +kernel
theorem dX9_club_52 : decode cX9_club 52 = .ok (.i2l, 1) := by decide +kernel
theorem dX9_club_53 : decode cX9_club 53 = .ok (.lconst 0, 1) := by decide +kernel
theorem dX9_club_54 : decode cX9_club 54 = .ok (.iload_n 2, 1) := by decide +kernel
theorem dX9_club_55 : decode cX9_club 55 = .ok (.i2l, 1) := by decide +kernel
theorem dX9_club_56 : decode cX9_club 56 = .ok (.invokestatic 48, 3) := by decide +kernel
theorem dX9_club_59 : decode cX9_club 59 = .ok (.ifCond .eq 15, 3) := by decide +kernel
theorem dX9_club_62 : decode cX9_club 62 = .ok (.iconst 1, 1) := by decide +kernel
theorem dX9_club_63 : decode cX9_club 63 = .ok (.aload_n 0, 1) := by decide +kernel
theorem dX9_club_64 : decode cX9_club 64 = .ok (.iload 4, 2) := by decide +kernel
theorem dX9_club_66 : decode cX9_club 66 = .ok (.iconst 1, 1) := by decide +kernel
theorem dX9_club_67 : decode cX9_club 67 = .ok (.invokevirtual 101, 3) := by decide +kernel
theorem dX9_club_70 : decode cX9_club 70 = .ok (.ishl, 1) := by decide +kernel
theorem dX9_club_71 : decode cX9_club 71 = .ok (.goto 4, 3) := by decide +kernel
theorem dX9_club_74 : decode cX9_club 74 = .ok (.iconst 0, 1) := by decide +kernel
theorem dX9_club_75 : decode cX9_club 75 = .ok (.ior, 1) := by decide +kernel
theorem dX9_club_76 : decode cX9_club 76 = .ok (.istore_n 3, 1) := by decide +kernel
theorem dX9_club_77 : decode cX9_club 77 = .ok (.iinc 4 1, 3) := by decide +kernel
theorem dX9_club_80 : decode cX9_club 80 = .ok (.goto (-49), 3) := by decide +kernel
theorem dX9_club_83 : decode cX9_club 83 = .ok (.iload_n 3, 1) := by decide +kernel
theorem dX9_club_84 : decode cX9_club 84 = .ok (.ireturn, 1) := by decide +kernel
theorem dX9_apart_0 : decode cX9_apart 0 = .ok (.aload_n 0, 1) := by decide +kernel
theorem dX9_apart_1 : decode cX9_apart 1 = .ok (.iload_n 1, 1) := by decide +kernel
theorem dX9_apart_2 : decode cX9_apart 2 = .ok (.iload_n 2, 1) := by decide +kernel
theorem dX9_apart_3 : decode cX9_apart 3 = .ok (.invokevirtual 250, 3) := by decide +kernel
theorem dX9_apart_6 : decode cX9_apart 6 = .ok (.ifCond .eq 20, 3) := by decide +kernel
theorem dX9_apart_9 : decode cX9_apart 9 = .ok (.aload_n 0, 1) := by decide +kernel
theorem dX9_apart_10 : decode cX9_apart 10 = .ok (.iload_n 1, 1) := by decide +kernel
theorem dX9_apart_11 : decode cX9_apart 11 = .ok (.invokevirtual 145, 3) := by decide +kernel
theorem dX9_apart_14 : decode cX9_apart 14 = .ok (.aload_n 0, 1) := by decide +kernel
theorem dX9_apart_15 : decode cX9_apart 15 = .ok (.iload_n 2, 1) := by decide +kernel
theorem dX9_apart_16 : decode cX9_apart 16 = .ok (.invokevirtual 145, 3) := by decide +kernel
theorem dX9_apart_19 : decode cX9_apart 19 = .ok (.ixor, 1) := by decide +kernel
theorem dX9_apart_20 : decode cX9_apart 20 = .ok (.invokestatic 148, 3) := by decide +kernel
theorem dX9_apart_23 : decode cX9_apart 23 = .ok (.goto 9, 3) := by decide +kernel
theorem dX9_apart_26 : decode cX9_apart 26 = .ok (.aload_n 0, 1) := by decide +kernel
theorem dX9_apart_27 : decode cX9_apart 27 = .ok (.ldc 47, 2) := by decide +kernel
theorem dX9_apart_29 : decode cX9_apart 29 = .ok (.invokevirtual 64, 3) := by decide +kernel
theorem dX9_apart_32 : decode cX9_apart 32 = .ok (.ireturn, 1) := by decide +kernel
theorem dX9_countOf_0 : decode cX9_countOf 0 = .ok (.iconst 0, 1) := by decide +kernel
theorem dX9_countOf_1 : decode cX9_countOf 1 = .ok (.istore_n 3, 1) := by decide +kernel
theorem dX9_countOf_2 : decode cX9_countOf 2 = .ok (.iconst 0, 1) := by decide +kernel
theorem dX9_countOf_3 : decode cX9_countOf 3 = .ok (.istore 4, 2) := by decide +kernel
theorem dX9_countOf_5 : decode cX9_countOf 5 = .ok (.iload 4, 2) := by decide +kernel
theorem dX9_countOf_7 : decode cX9_countOf 7 = .ok (.aload_n 0, 1) := by decide +kernel
theorem dX9_countOf_8 : decode cX9_countOf 8 = .ok (.getfield 9, 3) := by decide +kernel
theorem dX9_countOf_11 : decode cX9_countOf 11 = .ok (.iconst 2, 1) := by decide +kernel
theorem dX9_countOf_12 : decode cX9_countOf 12 = .ok (.iaload, 1) := by decide +kernel
theorem dX9_countOf_13 : decode cX9_countOf 13 = .ok (.if_icmp .ge 46, 3) := by decide +kernel
theorem dX9_countOf_16 : decode cX9_countOf 16 = .ok (.iload_n 3, 1) := by decide +kernel
theorem dX9_countOf_17 : decode cX9_countOf 17 = .ok (.iload_n 2, 1) := by decide +kernel
theorem dX9_countOf_18 : decode cX9_countOf 18 = .ok (.aload_n 0, 1) := by decide +kernel
theorem dX9_countOf_19 : decode cX9_countOf 19 = .ok (.iload 4, 2) := by decide +kernel
theorem dX9_countOf_21 : decode cX9_countOf 21 = .ok (.iconst 1, 1) := by decide +kernel
theorem dX9_countOf_22 : decode cX9_countOf 22 = .ok (.invokevirtual 101, 3) := by decide +kernel
theorem dX9_countOf_25 : decode cX9_countOf 25 = .ok (.invokestatic 97, 3) := by decide +kernel
theorem dX9_countOf_28 : decode cX9_countOf 28 = .ok (.ifCond .ne 22, 3) := by decide +kernel
theorem dX9_countOf_31 : decode cX9_countOf 31 = .ok (.iload_n 1, 1) := by decide +kernel
theorem dX9_countOf_32 : decode cX9_countOf 32 = .ok (.ifCond .lt 14, 3) := by decide +kernel
theorem dX9_countOf_35 : decode cX9_countOf 35 = .ok (.aload_n 0, 1) := by decide +kernel
theorem dX9_countOf_36 : decode cX9_countOf 36 = .ok (.iload 4, 2) := by decide +kernel
theorem dX9_countOf_38 : decode cX9_countOf 38 = .ok (.iconst 2, 1) := by decide +kernel
theorem dX9_countOf_39 : decode cX9_countOf 39 = .ok (.invokevirtual 101, 3) := by decide +kernel
theorem dX9_countOf_42 : decode cX9_countOf 42 = .ok (.iload_n 1, 1) := by decide +kernel
theorem dX9_countOf_43 : decode cX9_countOf 43 = .ok (.if_icmp .ne 7, 3) := by decide +kernel
theorem dX9_countOf_46 : decode cX9_countOf 46 = .ok (.iconst 1, 1) := by decide +kernel
theorem dX9_countOf_47 : decode cX9_countOf 47 = .ok (.goto 4, 3) := by decide +kernel
theorem dX9_countOf_50 : decode cX9_countOf 50 = .ok (.iconst 0, 1) := by decide +kernel
theorem dX9_countOf_51 : decode cX9_countOf 51 = .ok (.iadd, 1) := by decide +kernel
theorem dX9_countOf_52 : decode cX9_countOf 52 = .ok (.istore_n 3, 1) := by decide +kernel
theorem dX9_countOf_53 : decode cX9_countOf 53 = .ok (.iinc 4 1, 3) := by decide +kernel
theorem dX9_countOf_56 : decode cX9_countOf 56 = .ok (.goto (-51), 3) := by decide +kernel
theorem dX9_countOf_59 : decode cX9_countOf 59 = .ok (.iload_n 3, 1) := by decide +kernel
theorem dX9_countOf_60 : decode cX9_countOf 60 = .ok (.ireturn, 1) := by decide +kernel
theorem dX9_counts_0 : decode cX9_counts 0 = .ok (.iload_n 1, 1) := by decide +kernel
theorem dX9_counts_1 : decode cX9_counts 1 = .ok (.i2l, 1) := by decide +kernel
theorem dX9_counts_2 : decode cX9_counts 2 = .ok (.ldc2_w 263, 3) := by decide +kernel
theorem dX9_counts_5 : decode cX9_counts 5 = .ok (.ldc2_w 58, 3) := by decide +kernel
theorem dX9_counts_8 : decode cX9_counts 8 = .ok (.invokestatic 48, 3) := by decide +kernel
theorem dX9_counts_11 : decode cX9_counts 11 = .ok (.ifCond .eq 20, 3) := by decide +kernel
theorem dX9_counts_14 : decode cX9_counts 14 = .ok (.aload_n 0, 1) := by decide +kernel
theorem dX9_counts_15 : decode cX9_counts 15 = .ok (.iload_n 2, 1) := by decide +kernel
theorem dX9_counts_16 : decode cX9_counts 16 = .ok (.invokevirtual 265, 3) := by decide +kernel
theorem dX9_counts_19 : decode cX9_counts 19 = .ok (.ifCond .eq 12, 3) := by decide +kernel
theorem dX9_counts_22 : decode cX9_counts 22 = .ok (.aload_n 0, 1) := by decide +kernel
theorem dX9_counts_23 : decode cX9_counts 23 = .ok (.iload_n 1, 1) := by decide +kernel
theorem dX9_counts_24 : decode cX9_counts 24 = .ok (.iload_n 2, 1) := by decide +kernel
theorem dX9_counts_25 : decode cX9_counts 25 = .ok (.invokevirtual 268, 3) := by decide +kernel
theorem dX9_counts_28 : decode cX9_counts 28 = .ok (.goto 9, 3) := by decide +kernel
theorem dX9_counts_31 : decode cX9_counts 31 = .ok (.aload_n 0, 1) := by decide +kernel
theorem dX9_counts_32 : decode cX9_counts 32 = .ok (.ldc 47, 2) := by decide +kernel
theorem dX9_counts_34 : decode cX9_counts 34 = .ok (.invokevirtual 64, 3) := by decide +kernel
theorem dX9_counts_37 : decode cX9_counts 37 = .ok (.ireturn, 1) := by decide +kernel
theorem dX9_most_0 : decode cX9_most 0 = .ok (.aload_n 0, 1) := by decide +kernel
theorem dX9_most_1 : decode cX9_most 1 = .ok (.iload_n 1, 1) := by decide +kernel
theorem dX9_most_2 : decode cX9_most 2 = .ok (.invokevirtual 265, 3) := by decide +kernel
theorem dX9_most_5 : decode cX9_most 5 = .ok (.ifCond .ne 10, 3) := by decide +kernel
theorem dX9_most_8 : decode cX9_most 8 = .ok (.aload_n 0, 1) := by decide +kernel
theorem dX9_most_9 : decode cX9_most 9 = .ok (.ldc 47, 2) := by decide +kernel
theorem dX9_most_11 : decode cX9_most 11 = .ok (.invokevirtual 64, 3) := by decide +kernel
theorem dX9_most_14 : decode cX9_most 14 = .ok (.ireturn, 1) := by decide +kernel
theorem dX9_most_15 : decode cX9_most 15 = .ok (.aload_n 0, 1) := by decide +kernel
theorem dX9_most_16 : decode cX9_most 16 = .ok (.iconst (-1), 1) := by decide +kernel
theorem dX9_most_17 : decode cX9_most 17 = .ok (.iload_n 1, 1) := by decide +kernel
theorem dX9_most_18 : decode cX9_most 18 = .ok (.invokevirtual 268, 3) := by decide +kernel
theorem dX9_most_21 : decode cX9_most 21 = .ok (.ifCond .ne 10, 3) := by decide +kernel
theorem dX9_most_24 : decode cX9_most 24 = .ok (.aload_n 0, 1) := by decide +kernel
theorem dX9_most_25 : decode cX9_most 25 = .ok (.ldc 122, 2) := by decide +kernel
theorem dX9_most_27 : decode cX9_most 27 = .ok (.invokevirtual 64, 3) := by decide +kernel
theorem dX9_most_30 : decode cX9_most 30 = .ok (.ireturn, 1) := by decide +kernel
theorem dX9_most_31 : decode cX9_most 31 = .ok (.iconst 0, 1) := by decide +kernel
theorem dX9_most_32 : decode cX9_most 32 = .ok (.istore_n 2, 1) := by decide +kernel
theorem dX9_most_33 : decode cX9_most 33 = .ok (.iconst 1, 1) := by decide +kernel
theorem dX9_most_34 : decode cX9_most 34 = .ok (.istore_n 3, 1) := by decide +kernel
theorem dX9_most_35 : decode cX9_most 35 = .ok (.iload_n 3, 1) := by decide +kernel
theorem dX9_most_36 : decode cX9_most 36 = .ok (.bipush 10, 2) := by decide +kernel
theorem dX9_most_38 : decode cX9_most 38 = .ok (.if_icmp .ge 30, 3) := by decide +kernel
theorem dX9_most_41 : decode cX9_most 41 = .ok (.aload_n 0, 1) := by decide +kernel
theorem dX9_most_42 : decode cX9_most 42 = .ok (.iload_n 3, 1) := by decide +kernel
theorem dX9_most_43 : decode cX9_most 43 = .ok (.iload_n 1, 1) := by decide +kernel
theorem dX9_most_44 : decode cX9_most 44 = .ok (.invokevirtual 268, 3) := by decide +kernel
theorem dX9_most_47 : decode cX9_most 47 = .ok (.aload_n 0, 1) := by decide +kernel
theorem dX9_most_48 : decode cX9_most 48 = .ok (.iload_n 2, 1) := by decide +kernel
theorem dX9_most_49 : decode cX9_most 49 = .ok (.iload_n 1, 1) := by decide +kernel
theorem dX9_most_50 : decode cX9_most 50 = .ok (.invokevirtual 268, 3) := by decide +kernel
theorem dX9_most_53 : decode cX9_most 53 = .ok (.if_icmp .le 7, 3) := by decide +kernel
theorem dX9_most_56 : decode cX9_most 56 = .ok (.iload_n 3, 1) := by decide +kernel
theorem dX9_most_57 : decode cX9_most 57 = .ok (.goto 4, 3) := by decide +kernel
theorem dX9_most_60 : decode cX9_most 60 = .ok (.iload_n 2, 1) := by decide +kernel
theorem dX9_most_61 : decode cX9_most 61 = .ok (.istore_n 2, 1) := by decide +kernel
theorem dX9_most_62 : decode cX9_most 62 = .ok (.iinc 3 1, 3) := by decide +kernel
theorem dX9_most_65 : decode cX9_most 65 = .ok (.goto (-30), 3) := by decide +kernel
theorem dX9_most_68 : decode cX9_most 68 = .ok (.iload_n 2, 1) := by decide +kernel
theorem dX9_most_69 : decode cX9_most 69 = .ok (.ireturn, 1) := by decide +kernel
theorem dX9_first_0 : decode cX9_first 0 = .ok (.iload_n 1, 1) := by decide +kernel
theorem dX9_first_1 : decode cX9_first 1 = .ok (.invokestatic 84, 3) := by decide +kernel
theorem dX9_first_4 : decode cX9_first 4 = .ok (.ifCond .ne 10, 3) := by decide +kernel
theorem dX9_first_7 : decode cX9_first 7 = .ok (.aload_n 0, 1) := by decide +kernel
theorem dX9_first_8 : decode cX9_first 8 = .ok (.ldc 47, 2) := by decide +kernel
theorem dX9_first_10 : decode cX9_first 10 = .ok (.invokevirtual 64, 3) := by decide +kernel
theorem dX9_first_13 : decode cX9_first 13 = .ok (.ireturn, 1) := by decide +kernel
theorem dX9_first_14 : decode cX9_first 14 = .ok (.iconst 0, 1) := by decide +kernel
theorem dX9_first_15 : decode cX9_first 15 = .ok (.istore_n 2, 1) := by decide +kernel
theorem dX9_first_16 : decode cX9_first 16 = .ok (.iload_n 2, 1) := by decide +kernel
theorem dX9_first_17 : decode cX9_first 17 = .ok (.aload_n 0, 1) := by decide +kernel
theorem dX9_first_18 : decode cX9_first 18 = .ok (.getfield 9, 3) := by decide +kernel
theorem dX9_first_21 : decode cX9_first 21 = .ok (.iconst 2, 1) := by decide +kernel
theorem dX9_first_22 : decode cX9_first 22 = .ok (.iaload, 1) := by decide +kernel
theorem dX9_first_23 : decode cX9_first 23 = .ok (.if_icmp .ge 21, 3) := by decide +kernel
theorem dX9_first_26 : decode cX9_first 26 = .ok (.aload_n 0, 1) := by decide +kernel
theorem dX9_first_27 : decode cX9_first 27 = .ok (.iload_n 2, 1) := by decide +kernel
theorem dX9_first_28 : decode cX9_first 28 = .ok (.iconst 2, 1) := by decide +kernel
theorem dX9_first_29 : decode cX9_first 29 = .ok (.invokevirtual 101, 3) := by decide +kernel
theorem dX9_first_32 : decode cX9_first 32 = .ok (.iload_n 1, 1) := by decide +kernel
theorem dX9_first_33 : decode cX9_first 33 = .ok (.if_icmp .ne 5, 3) := by decide +kernel
theorem dX9_first_36 : decode cX9_first 36 = .ok (.iload_n 2, 1) := by decide +kernel
theorem dX9_first_37 : decode cX9_first 37 = .ok (.ireturn, 1) := by decide +kernel
theorem dX9_first_38 : decode cX9_first 38 = .ok (.iinc 2 1, 3) := by decide +kernel
theorem dX9_first_41 : decode cX9_first 41 = .ok (.goto (-25), 3) := by decide +kernel
theorem dX9_first_44 : decode cX9_first 44 = .ok (.aload_n 0, 1) := by decide +kernel
theorem dX9_first_45 : decode cX9_first 45 = .ok (.ldc 122, 2) := by decide +kernel
theorem dX9_first_47 : decode cX9_first 47 = .ok (.invokevirtual 64, 3) := by decide +kernel
theorem dX9_first_50 : decode cX9_first 50 = .ok (.ireturn, 1) := by decide +kernel
theorem dX9_many__0 : decode cX9_many_ 0 = .ok (.aload_n 0, 1) := by decide +kernel
theorem dX9_many__1 : decode cX9_many_ 1 = .ok (.iload_n 1, 1) := by decide +kernel
theorem dX9_many__2 : decode cX9_many_ 2 = .ok (.invokevirtual 265, 3) := by decide +kernel
theorem dX9_many__5 : decode cX9_many_ 5 = .ok (.ifCond .eq 11, 3) := by decide +kernel
theorem dX9_many__8 : decode cX9_many_ 8 = .ok (.aload_n 0, 1) := by decide +kernel
theorem dX9_many__9 : decode cX9_many_ 9 = .ok (.iload_n 2, 1) := by decide +kernel
theorem dX9_many__10 : decode cX9_many_ 10 = .ok (.invokevirtual 265, 3) := by decide +kernel
theorem dX9_many__13 : decode cX9_many_ 13 = .ok (.ifCond .ne 10, 3) := by decide +kernel
theorem dX9_many__16 : decode cX9_many_ 16 = .ok (.aload_n 0, 1) := by decide +kernel
theorem dX9_many__17 : decode cX9_many_ 17 = .ok (.ldc 47, 2) := by decide +kernel
theorem dX9_many__19 : decode cX9_many_ 19 = .ok (.invokevirtual 64, 3) := by decide +kernel
theorem dX9_many__22 : decode cX9_many_ 22 = .ok (.ireturn, 1) := by decide +kernel
theorem dX9_many__23 : decode cX9_many_ 23 = .ok (.iload_n 1, 1) := by decide +kernel
theorem dX9_many__24 : decode cX9_many_ 24 = .ok (.iload_n 2, 1) := by decide +kernel
theorem dX9_many__25 : decode cX9_many_ 25 = .ok (.iand, 1) := by decide +kernel
theorem dX9_many__26 : decode cX9_many_ 26 = .ok (.ifCond .ne 12, 3) := by decide +kernel
theorem dX9_many__29 : decode cX9_many_ 29 = .ok (.aload_n 0, 1) := by decide +kernel
theorem dX9_many__30 : decode cX9_many_ 30 = .ok (.ldc 122, 2) := by decide +kernel
theorem dX9_many__32 : decode cX9_many_ 32 = .ok (.invokevirtual 64, 3) := by decide +kernel
theorem dX9_many__35 : decode cX9_many_ 35 = .ok (.goto 19, 3) := by decide +kernel
theorem dX9_many__38 : decode cX9_many_ 38 = .ok (.iload_n 1, 1) := by decide +kernel
theorem dX9_many__39 : decode cX9_many_ 39 = .ok (.invokestatic 148, 3) := by decide +kernel
theorem dX9_many__42 : decode cX9_many_ 42 = .ok (.iload_n 2, 1) := by decide +kernel
theorem dX9_many__43 : decode cX9_many_ 43 = .ok (.invokestatic 148, 3) := by decide +kernel
theorem dX9_many__46 : decode cX9_many_ 46 = .ok (.imul, 1) := by decide +kernel
theorem dX9_many__47 : decode cX9_many_ 47 = .ok (.iload_n 1, 1) := by decide +kernel
theorem dX9_many__48 : decode cX9_many_ 48 = .ok (.iload_n 2, 1) := by decide +kernel
theorem dX9_many__49 : decode cX9_many_ 49 = .ok (.iand, 1) := by decide +kernel
theorem dX9_many__50 : decode cX9_many_ 50 = .ok (.invokestatic 148, 3) := by decide +kernel
theorem dX9_many__53 : decode cX9_many_ 53 = .ok (.idiv, 1) := by decide +kernel
theorem dX9_many__54 : decode cX9_many_ 54 = .ok (.ireturn, 1) := by decide +kernel
theorem dX9_sold_0 : decode cX9_sold 0 = .ok (.aload_n 0, 1) := by decide +kernel
theorem dX9_sold_1 : decode cX9_sold 1 = .ok (.iload_n 1, 1) := by decide +kernel
theorem dX9_sold_2 : decode cX9_sold 2 = .ok (.invokevirtual 73, 3) := by decide +kernel
theorem dX9_sold_5 : decode cX9_sold 5 = .ok (.ifCond .ne 10, 3) := by decide +kernel
theorem dX9_sold_8 : decode cX9_sold 8 = .ok (.aload_n 0, 1) := by decide +kernel
theorem dX9_sold_9 : decode cX9_sold 9 = .ok (.ldc 47, 2) := by decide +kernel
theorem dX9_sold_11 : decode cX9_sold 11 = .ok (.invokevirtual 64, 3) := by decide +kernel
theorem dX9_sold_14 : decode cX9_sold 14 = .ok (.ireturn, 1) := by decide +kernel
theorem dX9_sold_15 : decode cX9_sold 15 = .ok (.aload_n 0, 1) := by decide +kernel
theorem dX9_sold_16 : decode cX9_sold 16 = .ok (.iload_n 1, 1) := by decide +kernel
theorem dX9_sold_17 : decode cX9_sold 17 = .ok (.invokevirtual 123, 3) := by decide +kernel
theorem dX9_sold_20 : decode cX9_sold 20 = .ok (.istore_n 2, 1) := by decide +kernel
theorem dX9_sold_21 : decode cX9_sold 21 = .ok (.iload_n 2, 1) := by decide +kernel
theorem dX9_sold_22 : decode cX9_sold 22 = .ok (.iconst 2, 1) := by decide +kernel
theorem dX9_sold_23 : decode cX9_sold 23 = .ok (.if_icmp .ge 10, 3) := by decide +kernel
theorem dX9_sold_26 : decode cX9_sold 26 = .ok (.aload_n 0, 1) := by decide +kernel
theorem dX9_sold_27 : decode cX9_sold 27 = .ok (.ldc 122, 2) := by decide +kernel
theorem dX9_sold_29 : decode cX9_sold 29 = .ok (.invokevirtual 64, 3) := by decide +kernel
theorem dX9_sold_32 : decode cX9_sold 32 = .ok (.ireturn, 1) := by decide +kernel
theorem dX9_sold_33 : decode cX9_sold 33 = .ok (.lconst 0, 1) := by decide +kernel
theorem dX9_sold_34 : decode cX9_sold 34 = .ok (.lstore_n 3, 1) := by decide +kernel
theorem dX9_sold_35 : decode cX9_sold 35 = .ok (.iconst 0, 1) := by decide +kernel
theorem dX9_sold_36 : decode cX9_sold 36 = .ok (.istore 5, 2) := by decide +kernel
theorem dX9_sold_38 : decode cX9_sold 38 = .ok (.iload 5, 2) := by decide +kernel
theorem dX9_sold_40 : decode cX9_sold 40 = .ok (.aload_n 0, 1) := by decide +kernel
theorem dX9_sold_41 : decode cX9_sold 41 = .ok (.getfield 9, 3) := by decide +kernel
theorem dX9_sold_44 : decode cX9_sold 44 = .ok (.iconst 2, 1) := by decide +kernel
theorem dX9_sold_45 : decode cX9_sold 45 = .ok (.iaload, 1) := by decide +kernel
theorem dX9_sold_46 : decode cX9_sold 46 = .ok (.if_icmp .ge 38, 3) := by decide +kernel
theorem dX9_sold_49 : decode cX9_sold 49 = .ok (.lload_n 3, 1) := by decide +kernel
theorem dX9_sold_50 : decode cX9_sold 50 = .ok (.aload_n 0, 1) := by decide +kernel
theorem dX9_sold_51 : decode cX9_sold 51 = .ok (.iload 5, 2) := by decide +kernel
theorem dX9_sold_53 : decode cX9_sold 53 = .ok (.iconst 1, 1) := by decide +kernel
theorem dX9_sold_54 : decode cX9_sold 54 = .ok (.invokevirtual 101, 3) := by decide +kernel
theorem dX9_sold_57 : decode cX9_sold 57 = .ok (.iload_n 1, 1) := by decide +kernel
theorem dX9_sold_58 : decode cX9_sold 58 = .ok (.if_icmp .ne 17, 3) := by decide +kernel
theorem dX9_sold_61 : decode cX9_sold 61 = .ok (.aload_n 0, 1) := by decide +kernel
theorem dX9_sold_62 : decode cX9_sold 62 = .ok (.iload 5, 2) := by decide +kernel
theorem dX9_sold_64 : decode cX9_sold 64 = .ok (.iconst 0, 1) := by decide +kernel
theorem dX9_sold_65 : decode cX9_sold 65 = .ok (.invokevirtual 101, 3) := by decide +kernel
theorem dX9_sold_68 : decode cX9_sold 68 = .ok (.invokestatic 94, 3) := by decide +kernel
theorem dX9_sold_71 : decode cX9_sold 71 = .ok (.i2l, 1) := by decide +kernel
theorem dX9_sold_72 : decode cX9_sold 72 = .ok (.goto 4, 3) := by decide +kernel
theorem dX9_sold_75 : decode cX9_sold 75 = .ok (.lconst 0, 1) := by decide +kernel
theorem dX9_sold_76 : decode cX9_sold 76 = .ok (.ladd, 1) := by decide +kernel
theorem dX9_sold_77 : decode cX9_sold 77 = .ok (.lstore_n 3, 1) := by decide +kernel
theorem dX9_sold_78 : decode cX9_sold 78 = .ok (.iinc 5 1, 3) := by decide +kernel
theorem dX9_sold_81 : decode cX9_sold 81 = .ok (.goto (-43), 3) := by decide +kernel
theorem dX9_sold_84 : decode cX9_sold 84 = .ok (.iconst 0, 1) := by decide +kernel
theorem dX9_sold_85 : decode cX9_sold 85 = .ok (.istore 5, 2) := by decide +kernel
theorem dX9_sold_87 : decode cX9_sold 87 = .ok (.lconst 0, 1) := by decide +kernel
theorem dX9_sold_88 : decode cX9_sold 88 = .ok (.lstore 6, 2) := by decide +kernel
theorem dX9_sold_90 : decode cX9_sold 90 = .ok (.lconst 1, 1) := by decide +kernel
theorem dX9_sold_91 : decode cX9_sold 91 = .ok (.lstore 8, 2) := by decide +kernel
theorem dX9_sold_93 : decode cX9_sold 93 = .ok (.lconst 0, 1) := by decide +kernel
theorem dX9_sold_94 : decode cX9_sold 94 = .ok (.lstore 10, 2) := by decide +kernel
theorem dX9_sold_96 : decode cX9_sold 96 = .ok (.iconst 0, 1) := by decide +kernel
theorem dX9_sold_97 : decode cX9_sold 97 = .ok (.istore 12, 2) := by decide +kernel
theorem dX9_sold_99 : decode cX9_sold 99 = .ok (.iconst 0, 1) := by decide +kernel
theorem dX9_sold_100 : decode cX9_sold 100 = .ok (.istore 13, 2) := by decide +kernel
theorem dX9_sold_102 : decode cX9_sold 102 = .ok (.iload 13, 2) := by decide +kernel
theorem dX9_sold_104 : decode cX9_sold 104 = .ok (.aload_n 0, 1) := by decide +kernel
theorem dX9_sold_105 : decode cX9_sold 105 = .ok (.getfield 9, 3) := by decide +kernel
theorem dX9_sold_108 : decode cX9_sold 108 = .ok (.iconst 2, 1) := by decide +kernel
theorem dX9_sold_109 : decode cX9_sold 109 = .ok (.iaload, 1) := by decide +kernel
theorem dX9_sold_110 : decode cX9_sold 110 = .ok (.if_icmp .ge 122, 3) := by decide +kernel
theorem dX9_sold_113 : decode cX9_sold 113 = .ok (.iload 12, 2) := by decide +kernel
theorem dX9_sold_115 : decode cX9_sold 115 = .ok (.iload_n 2, 1) := by decide +kernel
theorem dX9_sold_116 : decode cX9_sold 116 = .ok (.iconst 1, 1) := by decide +kernel
theorem dX9_sold_117 : decode cX9_sold 117 = .ok (.isub, 1) := by decide +kernel
theorem dX9_sold_118 : decode cX9_sold 118 = .ok (.if_icmp .ge 114, 3) := by decide +kernel
theorem dX9_sold_121 : decode cX9_sold 121 = .ok (.aload_n 0, 1) := by decide +kernel
theorem dX9_sold_122 : decode cX9_sold 122 = .ok (.iload 13, 2) := by decide +kernel
theorem dX9_sold_124 : decode cX9_sold 124 = .ok (.iconst 1, 1) := by decide +kernel
theorem dX9_sold_125 : decode cX9_sold 125 = .ok (.invokevirtual 101, 3) := by decide +kernel
theorem dX9_sold_128 : decode cX9_sold 128 = .ok (.iload_n 1, 1) := by decide +kernel
theorem dX9_sold_129 : decode cX9_sold 129 = .ok (.if_icmp .eq 6, 3) := by decide +kernel
theorem dX9_sold_132 : decode cX9_sold 132 = .ok (.goto 94, 3) := by decide +kernel
theorem dX9_sold_135 : decode cX9_sold 135 = .ok (.lload 10, 2) := by decide +kernel
theorem dX9_sold_137 : decode cX9_sold 137 = .ok (.aload_n 0, 1) := by decide +kernel
theorem dX9_sold_138 : decode cX9_sold 138 = .ok (.iload 13, 2) := by decide +kernel
theorem dX9_sold_140 : decode cX9_sold 140 = .ok (.iconst 0, 1) := by decide +kernel
theorem dX9_sold_141 : decode cX9_sold 141 = .ok (.invokevirtual 101, 3) := by decide +kernel
theorem dX9_sold_144 : decode cX9_sold 144 = .ok (.invokestatic 94, 3) := by decide +kernel
theorem dX9_sold_147 : decode cX9_sold 147 = .ok (.i2l, 1) := by decide +kernel
theorem dX9_sold_148 : decode cX9_sold 148 = .ok (.ladd, 1) := by decide +kernel
theorem dX9_sold_149 : decode cX9_sold 149 = .ok (.lstore 10, 2) := by decide +kernel
theorem dX9_sold_151 : decode cX9_sold 151 = .ok (.iinc 12 1, 3) := by decide +kernel
theorem dX9_sold_154 : decode cX9_sold 154 = .ok (.lload 10, 2) := by decide +kernel
theorem dX9_sold_156 : decode cX9_sold 156 = .ok (.lload 10, 2) := by decide +kernel
theorem dX9_sold_158 : decode cX9_sold 158 = .ok (.lmul, 1) := by decide +kernel
theorem dX9_sold_159 : decode cX9_sold 159 = .ok (.iload_n 2, 1) := by decide +kernel
theorem dX9_sold_160 : decode cX9_sold 160 = .ok (.iload 12, 2) := by decide +kernel
theorem dX9_sold_162 : decode cX9_sold 162 = .ok (.isub, 1) := by decide +kernel
theorem dX9_sold_163 : decode cX9_sold 163 = .ok (.i2l, 1) := by decide +kernel
theorem dX9_sold_164 : decode cX9_sold 164 = .ok (.lmul, 1) := by decide +kernel
theorem dX9_sold_165 : decode cX9_sold 165 = .ok (.lload_n 3, 1) := by decide +kernel
theorem dX9_sold_166 : decode cX9_sold 166 = .ok (.lload 10, 2) := by decide +kernel
theorem dX9_sold_168 : decode cX9_sold 168 = .ok (.lsub, 1) := by decide +kernel
theorem dX9_sold_169 : decode cX9_sold 169 = .ok (.lload_n 3, 1) := by decide +kernel
theorem dX9_sold_170 : decode cX9_sold 170 = .ok (.lload 10, 2) := by decide +kernel
theorem dX9_sold_172 : decode cX9_sold 172 = .ok (.lsub, 1) := by decide +kernel
theorem dX9_sold_173 : decode cX9_sold 173 = .ok (.lmul, 1) := by decide +kernel
theorem dX9_sold_174 : decode cX9_sold 174 = .ok (.iload 12, 2) := by decide +kernel
theorem dX9_sold_176 : decode cX9_sold 176 = .ok (.i2l, 1) := by decide +kernel
theorem dX9_sold_177 : decode cX9_sold 177 = .ok (.lmul, 1) := by decide +kernel
theorem dX9_sold_178 : decode cX9_sold 178 = .ok (.ladd, 1) := by decide +kernel
theorem dX9_sold_179 : decode cX9_sold 179 = .ok (.lstore 14, 2) := by decide +kernel
theorem dX9_sold_181 : decode cX9_sold 181 = .ok (.iload 12, 2) := by decide +kernel
theorem dX9_sold_183 : decode cX9_sold 183 = .ok (.i2l, 1) := by decide +kernel
theorem dX9_sold_184 : decode cX9_sold 184 = .ok (.iload_n 2, 1) := by decide +kernel
theorem dX9_sold_185 : decode cX9_sold 185 = .ok (.iload 12, 2) := by decide +kernel
theorem dX9_sold_187 : decode cX9_sold 187 = .ok (.isub, 1) := by decide +kernel
theorem dX9_sold_188 : decode cX9_sold 188 = .ok (.i2l, 1) := by decide +kernel
theorem dX9_sold_189 : decode cX9_sold 189 = .ok (.lmul, 1) := by decide +kernel
theorem dX9_sold_190 : decode cX9_sold 190 = .ok (.lstore 16, 2) := by decide +kernel
theorem dX9_sold_192 : decode cX9_sold 192 = .ok (.iload 5, 2) := by decide +kernel
theorem dX9_sold_194 : decode cX9_sold 194 = .ok (.ifCond .le 20, 3) := by decide +kernel
theorem dX9_sold_197 : decode cX9_sold 197 = .ok (.lload 14, 2) := by decide +kernel
theorem dX9_sold_199 : decode cX9_sold 199 = .ok (.lload 8, 2) := by decide +kernel
theorem dX9_sold_201 : decode cX9_sold 201 = .ok (.lmul, 1) := by decide +kernel
theorem dX9_sold_202 : decode cX9_sold 202 = .ok (.lload 6, 2) := by decide +kernel
theorem dX9_sold_204 : decode cX9_sold 204 = .ok (.lload 16, 2) := by decide +kernel
theorem dX9_sold_206 : decode cX9_sold 206 = .ok (.lmul, 1) := by decide +kernel
theorem dX9_sold_207 : decode cX9_sold 207 = .ok (.lcmp, 1) := by decide +kernel
theorem dX9_sold_208 : decode cX9_sold 208 = .ok (.ifCond .gt 6, 3) := by decide +kernel
theorem dX9_sold_211 : decode cX9_sold 211 = .ok (.goto 15, 3) := by decide +kernel
theorem dX9_sold_214 : decode cX9_sold 214 = .ok (.iload 12, 2) := by decide +kernel
theorem dX9_sold_216 : decode cX9_sold 216 = .ok (.istore 5, 2) := by decide +kernel
theorem dX9_sold_218 : decode cX9_sold 218 = .ok (.lload 14, 2) := by decide +kernel
theorem dX9_sold_220 : decode cX9_sold 220 = .ok (.lstore 6, 2) := by decide +kernel
theorem dX9_sold_222 : decode cX9_sold 222 = .ok (.lload 16, 2) := by decide +kernel
theorem dX9_sold_224 : decode cX9_sold 224 = .ok (.lstore 8, 2) := by decide +kernel
theorem dX9_sold_226 : decode cX9_sold 226 = .ok (.iinc 13 1, 3) := by decide +kernel
theorem dX9_sold_229 : decode cX9_sold 229 = .ok (.goto (-127), 3) := by decide +kernel
theorem dX9_sold_232 : decode cX9_sold 232 = .ok (.iload 5, 2) := by decide +kernel
theorem dX9_sold_234 : decode cX9_sold 234 = .ok (.ireturn, 1) := by decide +kernel
theorem dX9_seed_0 : decode cX9_seed 0 = .ok (.aload_n 0, 1) := by decide +kernel
theorem dX9_seed_1 : decode cX9_seed 1 = .ok (.getfield 9, 3) := by decide +kernel
theorem dX9_seed_4 : decode cX9_seed 4 = .ok (.iconst 5, 1) := by decide +kernel
theorem dX9_seed_5 : decode cX9_seed 5 = .ok (.iaload, 1) := by decide +kernel
theorem dX9_seed_6 : decode cX9_seed 6 = .ok (.istore_n 2, 1) := by decide +kernel
theorem dX9_seed_7 : decode cX9_seed 7 = .ok (.aload_n 0, 1) := by decide +kernel
theorem dX9_seed_8 : decode cX9_seed 8 = .ok (.getfield 9, 3) := by decide +kernel
theorem dX9_seed_11 : decode cX9_seed 11 = .ok (.iconst 5, 1) := by decide +kernel
theorem dX9_seed_12 : decode cX9_seed 12 = .ok (.iload_n 1, 1) := by decide +kernel
theorem dX9_seed_13 : decode cX9_seed 13 = .ok (.iastore, 1) := by decide +kernel
theorem dX9_seed_14 : decode cX9_seed 14 = .ok (.iload_n 2, 1) := by decide +kernel
theorem dX9_seed_15 : decode cX9_seed 15 = .ok (.ireturn, 1) := by decide +kernel
theorem dX9_sample_0 : decode cX9_sample 0 = .ok (.iload_n 1, 1) := by decide +kernel
theorem dX9_sample_1 : decode cX9_sample 1 = .ok (.i2l, 1) := by decide +kernel
theorem dX9_sample_2 : decode cX9_sample 2 = .ok (.lconst 1, 1) := by decide +kernel
theorem dX9_sample_3 : decode cX9_sample 3 = .ok (.ldc2_w 82, 3) := by decide +kernel
theorem dX9_sample_6 : decode cX9_sample 6 = .ok (.invokestatic 48, 3) := by decide +kernel
theorem dX9_sample_9 : decode cX9_sample 9 = .ok (.ifCond .ne 10, 3) := by decide +kernel
theorem dX9_sample_12 : decode cX9_sample 12 = .ok (.aload_n 0, 1) := by decide +kernel
theorem dX9_sample_13 : decode cX9_sample 13 = .ok (.ldc 47, 2) := by decide +kernel
theorem dX9_sample_15 : decode cX9_sample 15 = .ok (.invokevirtual 64, 3) := by decide +kernel
theorem dX9_sample_18 : decode cX9_sample 18 = .ok (.ireturn, 1) := by decide +kernel
theorem dX9_sample_19 : decode cX9_sample 19 = .ok (.aload_n 0, 1) := by decide +kernel
theorem dX9_sample_20 : decode cX9_sample 20 = .ok (.getfield 9, 3) := by decide +kernel
theorem dX9_sample_23 : decode cX9_sample 23 = .ok (.iconst 0, 1) := by decide +kernel
theorem dX9_sample_24 : decode cX9_sample 24 = .ok (.iaload, 1) := by decide +kernel
theorem dX9_sample_25 : decode cX9_sample 25 = .ok (.ifCond .ne 10, 3) := by decide +kernel
theorem dX9_sample_28 : decode cX9_sample 28 = .ok (.aload_n 0, 1) := by decide +kernel
theorem dX9_sample_29 : decode cX9_sample 29 = .ok (.ldc 122, 2) := by decide +kernel
theorem dX9_sample_31 : decode cX9_sample 31 = .ok (.invokevirtual 64, 3) := by decide +kernel
theorem dX9_sample_34 : decode cX9_sample 34 = .ok (.ireturn, 1) := by decide +kernel
theorem dX9_sample_35 : decode cX9_sample 35 = .ok (.iconst 0, 1) := by decide +kernel
theorem dX9_sample_36 : decode cX9_sample 36 = .ok (.istore_n 2, 1) := by decide +kernel
theorem dX9_sample_37 : decode cX9_sample 37 = .ok (.iconst 0, 1) := by decide +kernel
theorem dX9_sample_38 : decode cX9_sample 38 = .ok (.istore_n 3, 1) := by decide +kernel
theorem dX9_sample_39 : decode cX9_sample 39 = .ok (.iload_n 3, 1) := by decide +kernel
theorem dX9_sample_40 : decode cX9_sample 40 = .ok (.iload_n 1, 1) := by decide +kernel
theorem dX9_sample_41 : decode cX9_sample 41 = .ok (.if_icmp .ge 60, 3) := by decide +kernel
theorem dX9_sample_44 : decode cX9_sample 44 = .ok (.aload_n 0, 1) := by decide +kernel
theorem dX9_sample_45 : decode cX9_sample 45 = .ok (.getfield 9, 3) := by decide +kernel
theorem dX9_sample_48 : decode cX9_sample 48 = .ok (.iconst 5, 1) := by decide +kernel
theorem dX9_sample_49 : decode cX9_sample 49 = .ok (.aload_n 0, 1) := by decide +kernel
theorem dX9_sample_50 : decode cX9_sample 50 = .ok (.getfield 9, 3) := by decide +kernel
theorem dX9_sample_53 : decode cX9_sample 53 = .ok (.iconst 5, 1) := by decide +kernel
theorem dX9_sample_54 : decode cX9_sample 54 = .ok (.iaload, 1) := by decide +kernel
theorem dX9_sample_55 : decode cX9_sample 55 = .ok (.ldc_w 271, 3) := by decide +kernel
theorem dX9_sample_58 : decode cX9_sample 58 = .ok (.imul, 1) := by decide +kernel
theorem dX9_sample_59 : decode cX9_sample 59 = .ok (.sipush 12345, 3) := by decide +kernel
theorem dX9_sample_62 : decode cX9_sample 62 = .ok (.iadd, 1) := by decide +kernel
theorem dX9_sample_63 : decode cX9_sample 63 = .ok (.iastore, 1) := by decide +kernel
theorem dX9_sample_64 : decode cX9_sample 64 = .ok (.iload_n 2, 1) := by decide +kernel
theorem dX9_sample_65 : decode cX9_sample 65 = .ok (.aload_n 0, 1) := by decide +kernel
theorem dX9_sample_66 : decode cX9_sample 66 = .ok (.aload_n 0, 1) := by decide +kernel
theorem dX9_sample_67 : decode cX9_sample 67 = .ok (.getfield 9, 3) := by decide +kernel
theorem dX9_sample_70 : decode cX9_sample 70 = .ok (.iconst 5, 1) := by decide +kernel
theorem dX9_sample_71 : decode cX9_sample 71 = .ok (.iaload, 1) := by decide +kernel
theorem dX9_sample_72 : decode cX9_sample 72 = .ok (.bipush 8, 2) := by decide +kernel
theorem dX9_sample_74 : decode cX9_sample 74 = .ok (.iushr, 1) := by decide +kernel
theorem dX9_sample_75 : decode cX9_sample 75 = .ok (.aload_n 0, 1) := by decide +kernel
theorem dX9_sample_76 : decode cX9_sample 76 = .ok (.getfield 9, 3) := by decide +kernel
theorem dX9_sample_79 : decode cX9_sample 79 = .ok (.iconst 0, 1) := by decide +kernel
theorem dX9_sample_80 : decode cX9_sample 80 = .ok (.iaload, 1) := by decide +kernel
theorem dX9_sample_81 : decode cX9_sample 81 = .ok (.irem, 1) := by decide +kernel
theorem dX9_sample_82 : decode cX9_sample 82 = .ok (.invokevirtual 77, 3) := by decide +kernel
theorem dX9_sample_85 : decode cX9_sample 85 = .ok (.ifCond .eq 7, 3) := by decide +kernel
theorem dX9_sample_88 : decode cX9_sample 88 = .ok (.iconst 0, 1) := by decide +kernel
theorem dX9_sample_89 : decode cX9_sample 89 = .ok (.goto 4, 3) := by decide +kernel
theorem dX9_sample_92 : decode cX9_sample 92 = .ok (.iconst 1, 1) := by decide +kernel
theorem dX9_sample_93 : decode cX9_sample 93 = .ok (.iadd, 1) := by decide +kernel
theorem dX9_sample_94 : decode cX9_sample 94 = .ok (.istore_n 2, 1) := by decide +kernel
theorem dX9_sample_95 : decode cX9_sample 95 = .ok (.iinc 3 1, 3) := by decide +kernel
theorem dX9_sample_98 : decode cX9_sample 98 = .ok (.goto (-59), 3) := by decide +kernel
theorem dX9_sample_101 : decode cX9_sample 101 = .ok (.iload_n 2, 1) := by decide +kernel
theorem dX9_sample_102 : decode cX9_sample 102 = .ok (.ireturn, 1) := by decide +kernel
theorem dX9_hold_0 : decode cX9_hold 0 = .ok (.iload_n 1, 1) := by decide +kernel
theorem dX9_hold_1 : decode cX9_hold 1 = .ok (.i2l, 1) := by decide +kernel
theorem dX9_hold_2 : decode cX9_hold 2 = .ok (.lconst 0, 1) := by decide +kernel
theorem dX9_hold_3 : decode cX9_hold 3 = .ok (.ldc2_w 58, 3) := by decide +kernel
theorem dX9_hold_6 : decode cX9_hold 6 = .ok (.invokestatic 48, 3) := by decide +kernel
theorem dX9_hold_9 : decode cX9_hold 9 = .ok (.ifCond .eq 16, 3) := by decide +kernel
theorem dX9_hold_12 : decode cX9_hold 12 = .ok (.iload_n 2, 1) := by decide +kernel
theorem dX9_hold_13 : decode cX9_hold 13 = .ok (.iconst (-1), 1) := by decide +kernel
theorem dX9_hold_14 : decode cX9_hold 14 = .ok (.if_icmp .eq 18, 3) := by decide +kernel
theorem dX9_hold_17 : decode cX9_hold 17 = .ok (.aload_n 0, 1) := by decide +kernel
theorem dX9_hold_18 : decode cX9_hold 18 = .ok (.iload_n 2, 1) := by decide +kernel
theorem dX9_hold_19 : decode cX9_hold 19 = .ok (.invokevirtual 73, 3) := by decide +kernel
theorem dX9_hold_22 : decode cX9_hold 22 = .ok (.ifCond .ne 10, 3) := by decide +kernel
theorem dX9_hold_25 : decode cX9_hold 25 = .ok (.aload_n 0, 1) := by decide +kernel
theorem dX9_hold_26 : decode cX9_hold 26 = .ok (.ldc 47, 2) := by decide +kernel
theorem dX9_hold_28 : decode cX9_hold 28 = .ok (.invokevirtual 64, 3) := by decide +kernel
theorem dX9_hold_31 : decode cX9_hold 31 = .ok (.ireturn, 1) := by decide +kernel
theorem dX9_hold_32 : decode cX9_hold 32 = .ok (.aload_n 0, 1) := by decide +kernel
theorem dX9_hold_33 : decode cX9_hold 33 = .ok (.getfield 9, 3) := by decide +kernel
theorem dX9_hold_36 : decode cX9_hold 36 = .ok (.sipush 1204, 3) := by decide +kernel
theorem dX9_hold_39 : decode cX9_hold 39 = .ok (.iload_n 1, 1) := by decide +kernel
theorem dX9_hold_40 : decode cX9_hold 40 = .ok (.iadd, 1) := by decide +kernel
theorem dX9_hold_41 : decode cX9_hold 41 = .ok (.iload_n 2, 1) := by decide +kernel
theorem dX9_hold_42 : decode cX9_hold 42 = .ok (.iastore, 1) := by decide +kernel
theorem dX9_hold_43 : decode cX9_hold 43 = .ok (.iconst 1, 1) := by decide +kernel
theorem dX9_hold_44 : decode cX9_hold 44 = .ok (.ireturn, 1) := by decide +kernel
theorem dX9_above_0 : decode cX9_above 0 = .ok (.iload_n 0, 1) := by decide +kernel
theorem dX9_above_1 : decode cX9_above 1 = .ok (.ifCond .ne 7, 3) := by decide +kernel
theorem dX9_above_4 : decode cX9_above 4 = .ok (.iconst (-1), 1) := by decide +kernel
theorem dX9_above_5 : decode cX9_above 5 = .ok (.goto 38, 3) := by decide +kernel
theorem dX9_above_8 : decode cX9_above 8 = .ok (.iload_n 0, 1) := by decide +kernel
theorem dX9_above_9 : decode cX9_above 9 = .ok (.iconst 3, 1) := by decide +kernel
theorem dX9_above_10 : decode cX9_above 10 = .ok (.if_icmp .eq 9, 3) := by decide +kernel
theorem dX9_above_13 : decode cX9_above 13 = .ok (.iload_n 0, 1) := by decide +kernel
theorem dX9_above_14 : decode cX9_above 14 = .ok (.bipush 6, 2) := by decide +kernel
theorem dX9_above_16 : decode cX9_above 16 = .ok (.if_icmp .ne 7, 3) := by decide +kernel
theorem dX9_above_19 : decode cX9_above 19 = .ok (.iconst 1, 1) := by decide +kernel
theorem dX9_above_20 : decode cX9_above 20 = .ok (.goto 23, 3) := by decide +kernel
theorem dX9_above_23 : decode cX9_above 23 = .ok (.iload_n 0, 1) := by decide +kernel
theorem dX9_above_24 : decode cX9_above 24 = .ok (.iconst 4, 1) := by decide +kernel
theorem dX9_above_25 : decode cX9_above 25 = .ok (.if_icmp .ne 7, 3) := by decide +kernel
theorem dX9_above_28 : decode cX9_above 28 = .ok (.iconst 2, 1) := by decide +kernel
theorem dX9_above_29 : decode cX9_above 29 = .ok (.goto 14, 3) := by decide +kernel
theorem dX9_above_32 : decode cX9_above 32 = .ok (.iload_n 0, 1) := by decide +kernel
theorem dX9_above_33 : decode cX9_above 33 = .ok (.bipush 7, 2) := by decide +kernel
theorem dX9_above_35 : decode cX9_above 35 = .ok (.if_icmp .ne 7, 3) := by decide +kernel
theorem dX9_above_38 : decode cX9_above 38 = .ok (.iconst 4, 1) := by decide +kernel
theorem dX9_above_39 : decode cX9_above 39 = .ok (.goto 4, 3) := by decide +kernel
theorem dX9_above_42 : decode cX9_above 42 = .ok (.iconst 0, 1) := by decide +kernel
theorem dX9_above_43 : decode cX9_above 43 = .ok (.ireturn, 1) := by decide +kernel
theorem dX9_as_0 : decode cX9_as 0 = .ok (.iload_n 1, 1) := by decide +kernel
theorem dX9_as_1 : decode cX9_as 1 = .ok (.i2l, 1) := by decide +kernel
theorem dX9_as_2 : decode cX9_as 2 = .ok (.lconst 0, 1) := by decide +kernel
theorem dX9_as_3 : decode cX9_as 3 = .ok (.ldc2_w 58, 3) := by decide +kernel
theorem dX9_as_6 : decode cX9_as 6 = .ok (.invokestatic 48, 3) := by decide +kernel
theorem dX9_as_9 : decode cX9_as 9 = .ok (.ifCond .eq 15, 3) := by decide +kernel
theorem dX9_as_12 : decode cX9_as 12 = .ok (.iload_n 2, 1) := by decide +kernel
theorem dX9_as_13 : decode cX9_as 13 = .ok (.i2l, 1) := by decide +kernel
theorem dX9_as_14 : decode cX9_as 14 = .ok (.lconst 0, 1) := by decide +kernel
theorem dX9_as_15 : decode cX9_as 15 = .ok (.ldc2_w 60, 3) := by decide +kernel
theorem dX9_as_18 : decode cX9_as 18 = .ok (.invokestatic 48, 3) := by decide +kernel
theorem dX9_as_21 : decode cX9_as 21 = .ok (.ifCond .ne 10, 3) := by decide +kernel
theorem dX9_as_24 : decode cX9_as 24 = .ok (.aload_n 0, 1) := by decide +kernel
theorem dX9_as_25 : decode cX9_as 25 = .ok (.ldc 47, 2) := by decide +kernel
theorem dX9_as_27 : decode cX9_as 27 = .ok (.invokevirtual 64, 3) := by decide +kernel
theorem dX9_as_30 : decode cX9_as 30 = .ok (.ireturn, 1) := by decide +kernel
theorem dX9_as_31 : decode cX9_as 31 = .ok (.aload_n 0, 1) := by decide +kernel
theorem dX9_as_32 : decode cX9_as 32 = .ok (.getfield 9, 3) := by decide +kernel
theorem dX9_as_35 : decode cX9_as 35 = .ok (.sipush 1204, 3) := by decide +kernel
theorem dX9_as_38 : decode cX9_as 38 = .ok (.iload_n 1, 1) := by decide +kernel
theorem dX9_as_39 : decode cX9_as 39 = .ok (.iadd, 1) := by decide +kernel
theorem dX9_as_40 : decode cX9_as 40 = .ok (.iaload, 1) := by decide +kernel
theorem dX9_as_41 : decode cX9_as 41 = .ok (.istore_n 3, 1) := by decide +kernel
theorem dX9_as_42 : decode cX9_as 42 = .ok (.iload_n 3, 1) := by decide +kernel
theorem dX9_as_43 : decode cX9_as 43 = .ok (.ifCond .ge 11, 3) := by decide +kernel
theorem dX9_as_46 : decode cX9_as 46 = .ok (.aload_n 0, 1) := by decide +kernel
theorem dX9_as_47 : decode cX9_as 47 = .ok (.ldc_w 272, 3) := by decide +kernel
theorem dX9_as_50 : decode cX9_as 50 = .ok (.invokevirtual 64, 3) := by decide +kernel
theorem dX9_as_53 : decode cX9_as 53 = .ok (.ireturn, 1) := by decide +kernel
theorem dX9_as_54 : decode cX9_as 54 = .ok (.aload_n 0, 1) := by decide +kernel
theorem dX9_as_55 : decode cX9_as 55 = .ok (.iload_n 3, 1) := by decide +kernel
theorem dX9_as_56 : decode cX9_as 56 = .ok (.iconst 0, 1) := by decide +kernel
theorem dX9_as_57 : decode cX9_as 57 = .ok (.invokevirtual 69, 3) := by decide +kernel
theorem dX9_as_60 : decode cX9_as 60 = .ok (.istore 4, 2) := by decide +kernel
theorem dX9_as_62 : decode cX9_as 62 = .ok (.iload 4, 2) := by decide +kernel
theorem dX9_as_64 : decode cX9_as 64 = .ok (.ifCond .lt 21, 3) := by decide +kernel
theorem dX9_as_67 : decode cX9_as 67 = .ok (.iload 4, 2) := by decide +kernel
theorem dX9_as_69 : decode cX9_as 69 = .ok (.iload_n 2, 1) := by decide +kernel
theorem dX9_as_70 : decode cX9_as 70 = .ok (.if_icmp .ne 5, 3) := by decide +kernel
theorem dX9_as_73 : decode cX9_as 73 = .ok (.iload_n 3, 1) := by decide +kernel
theorem dX9_as_74 : decode cX9_as 74 = .ok (.ireturn, 1) := by decide +kernel
theorem dX9_as_75 : decode cX9_as 75 = .ok (.iload 4, 2) := by decide +kernel
theorem dX9_as_77 : decode cX9_as 77 = .ok (.invokestatic 273, 3) := by decide +kernel
theorem dX9_as_80 : decode cX9_as 80 = .ok (.istore 4, 2) := by decide +kernel
theorem dX9_as_82 : decode cX9_as 82 = .ok (.goto (-20), 3) := by decide +kernel
theorem dX9_as_85 : decode cX9_as 85 = .ok (.aload_n 0, 1) := by decide +kernel
theorem dX9_as_86 : decode cX9_as 86 = .ok (.ldc_w 276, 3) := by decide +kernel
theorem dX9_as_89 : decode cX9_as 89 = .ok (.invokevirtual 64, 3) := by decide +kernel
theorem dX9_as_92 : decode cX9_as 92 = .ok (.ireturn, 1) := by decide +kernel
theorem dX9_isSheet_0 : decode cX9_isSheet 0 = .ok (.iload_n 0, 1) := by decide +kernel
theorem dX9_isSheet_1 : decode cX9_isSheet 1 = .ok (.i2l, 1) := by decide +kernel
theorem dX9_isSheet_2 : decode cX9_isSheet 2 = .ok (.lconst 0, 1) := by decide +kernel
theorem dX9_isSheet_3 : decode cX9_isSheet 3 = .ok (.ldc2_w 136, 3) := by decide +kernel
theorem dX9_isSheet_6 : decode cX9_isSheet 6 = .ok (.invokestatic 48, 3) := by decide +kernel
theorem dX9_isSheet_9 : decode cX9_isSheet 9 = .ok (.ireturn, 1) := by decide +kernel
theorem dX9_sheet_0 : decode cX9_sheet 0 = .ok (.iload_n 1, 1) := by decide +kernel
theorem dX9_sheet_1 : decode cX9_sheet 1 = .ok (.invokestatic 277, 3) := by decide +kernel
theorem dX9_sheet_4 : decode cX9_sheet 4 = .ok (.ifCond .eq 25, 3) := by decide +kernel
theorem dX9_sheet_7 : decode cX9_sheet 7 = .ok (.iload_n 2, 1) := by decide +kernel
theorem dX9_sheet_8 : decode cX9_sheet 8 = .ok (.ifCond .eq 28, 3) := by decide +kernel
theorem dX9_sheet_11 : decode cX9_sheet 11 = .ok (.iload_n 2, 1) := by decide +kernel
theorem dX9_sheet_12 : decode cX9_sheet 12 = .ok (.bipush 8, 2) := by decide +kernel
theorem dX9_sheet_14 : decode cX9_sheet 14 = .ok (.if_icmp .eq 22, 3) := by decide +kernel
theorem dX9_sheet_17 : decode cX9_sheet 17 = .ok (.iload_n 2, 1) := by decide +kernel
theorem dX9_sheet_18 : decode cX9_sheet 18 = .ok (.bipush 16, 2) := by decide +kernel
theorem dX9_sheet_20 : decode cX9_sheet 20 = .ok (.if_icmp .eq 16, 3) := by decide +kernel
theorem dX9_sheet_23 : decode cX9_sheet 23 = .ok (.iload_n 2, 1) := by decide +kernel
theorem dX9_sheet_24 : decode cX9_sheet 24 = .ok (.bipush 32, 2) := by decide +kernel
theorem dX9_sheet_26 : decode cX9_sheet 26 = .ok (.if_icmp .eq 10, 3) := by decide +kernel
theorem dX9_sheet_29 : decode cX9_sheet 29 = .ok (.aload_n 0, 1) := by decide +kernel
theorem dX9_sheet_30 : decode cX9_sheet 30 = .ok (.ldc 47, 2) := by decide +kernel
theorem dX9_sheet_32 : decode cX9_sheet 32 = .ok (.invokevirtual 64, 3) := by decide +kernel
theorem dX9_sheet_35 : decode cX9_sheet 35 = .ok (.ireturn, 1) := by decide +kernel
theorem dX9_sheet_36 : decode cX9_sheet 36 = .ok (.iload_n 3, 1) := by decide +kernel
theorem dX9_sheet_37 : decode cX9_sheet 37 = .ok (.ifCond .ge 11, 3) := by decide +kernel
theorem dX9_sheet_40 : decode cX9_sheet 40 = .ok (.aload_n 0, 1) := by decide +kernel
theorem dX9_sheet_41 : decode cX9_sheet 41 = .ok (.ldc_w 280, 3) := by decide +kernel
theorem dX9_sheet_44 : decode cX9_sheet 44 = .ok (.invokevirtual 64, 3) := by decide +kernel
theorem dX9_sheet_47 : decode cX9_sheet 47 = .ok (.ireturn, 1) := by decide +kernel
theorem dX9_sheet_48 : decode cX9_sheet 48 = .ok (.iload_n 3, 1) := by decide +kernel
theorem dX9_sheet_49 : decode cX9_sheet 49 = .ok (.bipush 40, 2) := by decide +kernel
theorem dX9_sheet_51 : decode cX9_sheet 51 = .ok (.if_icmp .le 10, 3) := by decide +kernel
theorem dX9_sheet_54 : decode cX9_sheet 54 = .ok (.aload_n 0, 1) := by decide +kernel
theorem dX9_sheet_55 : decode cX9_sheet 55 = .ok (.ldc 47, 2) := by decide +kernel
theorem dX9_sheet_57 : decode cX9_sheet 57 = .ok (.invokevirtual 64, 3) := by decide +kernel
theorem dX9_sheet_60 : decode cX9_sheet 60 = .ok (.ireturn, 1) := by decide +kernel
theorem dX9_sheet_61 : decode cX9_sheet 61 = .ok (.aload_n 0, 1) := by decide +kernel
theorem dX9_sheet_62 : decode cX9_sheet 62 = .ok (.getfield 38, 3) := by decide +kernel
theorem dX9_sheet_65 : decode cX9_sheet 65 = .ok (.iload_n 1, 1) := by decide +kernel
theorem dX9_sheet_66 : decode cX9_sheet 66 = .ok (.iload_n 2, 1) := by decide +kernel
theorem dX9_sheet_67 : decode cX9_sheet 67 = .ok (.iastore, 1) := by decide +kernel
theorem dX9_sheet_68 : decode cX9_sheet 68 = .ok (.aload_n 0, 1) := by decide +kernel
theorem dX9_sheet_69 : decode cX9_sheet 69 = .ok (.getfield 41, 3) := by decide +kernel
theorem dX9_sheet_72 : decode cX9_sheet 72 = .ok (.iload_n 1, 1) := by decide +kernel
theorem dX9_sheet_73 : decode cX9_sheet 73 = .ok (.iload_n 2, 1) := by decide +kernel
theorem dX9_sheet_74 : decode cX9_sheet 74 = .ok (.ifCond .ne 7, 3) := by decide +kernel
theorem dX9_sheet_77 : decode cX9_sheet 77 = .ok (.iconst 0, 1) := by decide +kernel
theorem dX9_sheet_78 : decode cX9_sheet 78 = .ok (.goto 4, 3) := by decide +kernel
theorem dX9_sheet_81 : decode cX9_sheet 81 = .ok (.iload_n 3, 1) := by decide +kernel
theorem dX9_sheet_82 : decode cX9_sheet 82 = .ok (.iastore, 1) := by decide +kernel
theorem dX9_sheet_83 : decode cX9_sheet 83 = .ok (.iconst 0, 1) := by decide +kernel
theorem dX9_sheet_84 : decode cX9_sheet 84 = .ok (.istore 4, 2) := by decide +kernel
theorem dX9_sheet_86 : decode cX9_sheet 86 = .ok (.iload 4, 2) := by decide +kernel
theorem dX9_sheet_88 : decode cX9_sheet 88 = .ok (.bipush 40, 2) := by decide +kernel
theorem dX9_sheet_90 : decode cX9_sheet 90 = .ok (.if_icmp .ge 22, 3) := by decide +kernel
theorem dX9_sheet_93 : decode cX9_sheet 93 = .ok (.aload_n 0, 1) := by decide +kernel
theorem dX9_sheet_94 : decode cX9_sheet 94 = .ok (.getfield 44, 3) := by decide +kernel
theorem dX9_sheet_97 : decode cX9_sheet 97 = .ok (.bipush 40, 2) := by decide +kernel
theorem dX9_sheet_99 : decode cX9_sheet 99 = .ok (.iload_n 1, 1) := by decide +kernel
theorem dX9_sheet_100 : decode cX9_sheet 100 = .ok (.imul, 1) := by decide +kernel
theorem dX9_sheet_101 : decode cX9_sheet 101 = .ok (.iload 4, 2) := by decide +kernel
theorem dX9_sheet_103 : decode cX9_sheet 103 = .ok (.iadd, 1) := by decide +kernel
theorem dX9_sheet_104 : decode cX9_sheet 104 = .ok (.iconst 0, 1) := by decide +kernel
theorem dX9_sheet_105 : decode cX9_sheet 105 = .ok (.iastore, 1) := by decide +kernel
theorem dX9_sheet_106 : decode cX9_sheet 106 = .ok (.iinc 4 1, 3) := by decide +kernel
theorem dX9_sheet_109 : decode cX9_sheet 109 = .ok (.goto (-23), 3) := by decide +kernel
theorem dX9_sheet_112 : decode cX9_sheet 112 = .ok (.aload_n 0, 1) := by decide +kernel
theorem dX9_sheet_113 : decode cX9_sheet 113 = .ok (.getfield 41, 3) := by decide +kernel
theorem dX9_sheet_116 : decode cX9_sheet 116 = .ok (.iload_n 1, 1) := by decide +kernel
theorem dX9_sheet_117 : decode cX9_sheet 117 = .ok (.iaload, 1) := by decide +kernel
theorem dX9_sheet_118 : decode cX9_sheet 118 = .ok (.ireturn, 1) := by decide +kernel
theorem dX9_write_0 : decode cX9_write 0 = .ok (.iload_n 1, 1) := by decide +kernel
theorem dX9_write_1 : decode cX9_write 1 = .ok (.invokestatic 277, 3) := by decide +kernel
theorem dX9_write_4 : decode cX9_write 4 = .ok (.ifCond .ne 10, 3) := by decide +kernel
theorem dX9_write_7 : decode cX9_write 7 = .ok (.aload_n 0, 1) := by decide +kernel
theorem dX9_write_8 : decode cX9_write 8 = .ok (.ldc 47, 2) := by decide +kernel
theorem dX9_write_10 : decode cX9_write 10 = .ok (.invokevirtual 64, 3) := by decide +kernel
theorem dX9_write_13 : decode cX9_write 13 = .ok (.ireturn, 1) := by decide +kernel
theorem dX9_write_14 : decode cX9_write 14 = .ok (.aload_n 0, 1) := by decide +kernel
theorem dX9_write_15 : decode cX9_write 15 = .ok (.getfield 38, 3) := by decide +kernel
theorem dX9_write_18 : decode cX9_write 18 = .ok (.iload_n 1, 1) := by decide +kernel
theorem dX9_write_19 : decode cX9_write 19 = .ok (.iaload, 1) := by decide +kernel
theorem dX9_write_20 : decode cX9_write 20 = .ok (.ifCond .ne 11, 3) := by decide +kernel
theorem dX9_write_23 : decode cX9_write 23 = .ok (.aload_n 0, 1) := by decide +kernel
theorem dX9_write_24 : decode cX9_write 24 = .ok (.ldc_w 272, 3) := by decide +kernel
theorem dX9_write_27 : decode cX9_write 27 = .ok (.invokevirtual 64, 3) := by decide +kernel
theorem dX9_write_30 : decode cX9_write 30 = .ok (.ireturn, 1) := by decide +kernel
theorem dX9_write_31 : decode cX9_write 31 = .ok (.iload_n 2, 1) := by decide +kernel
theorem dX9_write_32 : decode cX9_write 32 = .ok (.i2l, 1) := by decide +kernel
theorem dX9_write_33 : decode cX9_write 33 = .ok (.lconst 0, 1) := by decide +kernel
theorem dX9_write_34 : decode cX9_write 34 = .ok (.aload_n 0, 1) := by decide +kernel
theorem dX9_write_35 : decode cX9_write 35 = .ok (.getfield 41, 3) := by decide +kernel
theorem dX9_write_38 : decode cX9_write 38 = .ok (.iload_n 1, 1) := by decide +kernel
theorem dX9_write_39 : decode cX9_write 39 = .ok (.iaload, 1) := by decide +kernel
theorem dX9_write_40 : decode cX9_write 40 = .ok (.iconst 1, 1) := by decide +kernel
theorem dX9_write_41 : decode cX9_write 41 = .ok (.isub, 1) := by decide +kernel
theorem dX9_write_42 : decode cX9_write 42 = .ok (.i2l, 1) := by decide +kernel
theorem dX9_write_43 : decode cX9_write 43 = .ok (.invokestatic 48, 3) := by decide +kernel
theorem dX9_write_46 : decode cX9_write 46 = .ok (.ifCond .ne 10, 3) := by decide +kernel
theorem dX9_write_49 : decode cX9_write 49 = .ok (.aload_n 0, 1) := by decide +kernel
theorem dX9_write_50 : decode cX9_write 50 = .ok (.ldc 47, 2) := by decide +kernel
theorem dX9_write_52 : decode cX9_write 52 = .ok (.invokevirtual 64, 3) := by decide +kernel
theorem dX9_write_55 : decode cX9_write 55 = .ok (.ireturn, 1) := by decide +kernel
theorem dX9_write_56 : decode cX9_write 56 = .ok (.aload_n 0, 1) := by decide +kernel
theorem dX9_write_57 : decode cX9_write 57 = .ok (.getfield 44, 3) := by decide +kernel
theorem dX9_write_60 : decode cX9_write 60 = .ok (.bipush 40, 2) := by decide +kernel
theorem dX9_write_62 : decode cX9_write 62 = .ok (.iload_n 1, 1) := by decide +kernel
theorem dX9_write_63 : decode cX9_write 63 = .ok (.imul, 1) := by decide +kernel
theorem dX9_write_64 : decode cX9_write 64 = .ok (.iload_n 2, 1) := by decide +kernel
theorem dX9_write_65 : decode cX9_write 65 = .ok (.iadd, 1) := by decide +kernel
theorem dX9_write_66 : decode cX9_write 66 = .ok (.aload_n 0, 1) := by decide +kernel
theorem dX9_write_67 : decode cX9_write 67 = .ok (.getfield 38, 3) := by decide +kernel
theorem dX9_write_70 : decode cX9_write 70 = .ok (.iload_n 1, 1) := by decide +kernel
theorem dX9_write_71 : decode cX9_write 71 = .ok (.iaload, 1) := by decide +kernel
theorem dX9_write_72 : decode cX9_write 72 = .ok (.bipush 8, 2) := by decide +kernel
theorem dX9_write_74 : decode cX9_write 74 = .ok (.if_icmp .ne 8, 3) := by decide +kernel
theorem dX9_write_77 : decode cX9_write 77 = .ok (.iload_n 3, 1) := by decide +kernel
theorem dX9_write_78 : decode cX9_write 78 = .ok (.i2b, 1) := by decide +kernel
theorem dX9_write_79 : decode cX9_write 79 = .ok (.goto 20, 3) := by decide +kernel
theorem dX9_write_82 : decode cX9_write 82 = .ok (.aload_n 0, 1) := by decide +kernel
theorem dX9_write_83 : decode cX9_write 83 = .ok (.getfield 38, 3) := by decide +kernel
theorem dX9_write_86 : decode cX9_write 86 = .ok (.iload_n 1, 1) := by decide +kernel
theorem dX9_write_87 : decode cX9_write 87 = .ok (.iaload, 1) := by decide +kernel
theorem dX9_write_88 : decode cX9_write 88 = .ok (.bipush 16, 2) := by decide +kernel
theorem dX9_write_90 : decode cX9_write 90 = .ok (.if_icmp .ne 8, 3) := by decide +kernel
theorem dX9_write_93 : decode cX9_write 93 = .ok (.iload_n 3, 1) := by decide +kernel
theorem dX9_write_94 : decode cX9_write 94 = .ok (.i2s, 1) := by decide +kernel
theorem dX9_write_95 : decode cX9_write 95 = .ok (.goto 4, 3) := by decide +kernel
theorem dX9_write_98 : decode cX9_write 98 = .ok (.iload_n 3, 1) := by decide +kernel
theorem dX9_write_99 : decode cX9_write 99 = .ok (.iastore, 1) := by decide +kernel
theorem dX9_write_100 : decode cX9_write 100 = .ok (.iconst 1, 1) := by decide +kernel
theorem dX9_write_101 : decode cX9_write 101 = .ok (.ireturn, 1) := by decide +kernel
theorem dX9_copy_0 : decode cX9_copy 0 = .ok (.iload_n 1, 1) := by decide +kernel
theorem dX9_copy_1 : decode cX9_copy 1 = .ok (.invokestatic 277, 3) := by decide +kernel
theorem dX9_copy_4 : decode cX9_copy 4 = .ok (.ifCond .eq 10, 3) := by decide +kernel
theorem dX9_copy_7 : decode cX9_copy 7 = .ok (.iload_n 3, 1) := by decide +kernel
theorem dX9_copy_8 : decode cX9_copy 8 = .ok (.invokestatic 277, 3) := by decide +kernel
theorem dX9_copy_11 : decode cX9_copy 11 = .ok (.ifCond .ne 10, 3) := by decide +kernel
theorem dX9_copy_14 : decode cX9_copy 14 = .ok (.aload_n 0, 1) := by decide +kernel
theorem dX9_copy_15 : decode cX9_copy 15 = .ok (.ldc 47, 2) := by decide +kernel
theorem dX9_copy_17 : decode cX9_copy 17 = .ok (.invokevirtual 64, 3) := by decide +kernel
theorem dX9_copy_20 : decode cX9_copy 20 = .ok (.ireturn, 1) := by decide +kernel
theorem dX9_copy_21 : decode cX9_copy 21 = .ok (.aload_n 0, 1) := by decide +kernel
theorem dX9_copy_22 : decode cX9_copy 22 = .ok (.getfield 38, 3) := by decide +kernel
theorem dX9_copy_25 : decode cX9_copy 25 = .ok (.iload_n 1, 1) := by decide +kernel
theorem dX9_copy_26 : decode cX9_copy 26 = .ok (.iaload, 1) := by decide +kernel
theorem dX9_copy_27 : decode cX9_copy 27 = .ok (.ifCond .eq 12, 3) := by decide +kernel
theorem dX9_copy_30 : decode cX9_copy 30 = .ok (.aload_n 0, 1) := by decide +kernel
theorem dX9_copy_31 : decode cX9_copy 31 = .ok (.getfield 38, 3) := by decide +kernel
theorem dX9_copy_34 : decode cX9_copy 34 = .ok (.iload_n 3, 1) := by decide +kernel
theorem dX9_copy_35 : decode cX9_copy 35 = .ok (.iaload, 1) := by decide +kernel
theorem dX9_copy_36 : decode cX9_copy 36 = .ok (.ifCond .ne 11, 3) := by decide +kernel
theorem dX9_copy_39 : decode cX9_copy 39 = .ok (.aload_n 0, 1) := by decide +kernel
theorem dX9_copy_40 : decode cX9_copy 40 = .ok (.ldc_w 272, 3) := by decide +kernel
theorem dX9_copy_43 : decode cX9_copy 43 = .ok (.invokevirtual 64, 3) := by decide +kernel
theorem dX9_copy_46 : decode cX9_copy 46 = .ok (.ireturn, 1) := by decide +kernel
theorem dX9_copy_47 : decode cX9_copy 47 = .ok (.aload_n 0, 1) := by decide +kernel
theorem dX9_copy_48 : decode cX9_copy 48 = .ok (.getfield 38, 3) := by decide +kernel
theorem dX9_copy_51 : decode cX9_copy 51 = .ok (.iload_n 1, 1) := by decide +kernel
theorem dX9_copy_52 : decode cX9_copy 52 = .ok (.iaload, 1) := by decide +kernel
theorem dX9_copy_53 : decode cX9_copy 53 = .ok (.aload_n 0, 1) := by decide +kernel
theorem dX9_copy_54 : decode cX9_copy 54 = .ok (.getfield 38, 3) := by decide +kernel
theorem dX9_copy_57 : decode cX9_copy 57 = .ok (.iload_n 3, 1) := by decide +kernel
theorem dX9_copy_58 : decode cX9_copy 58 = .ok (.iaload, 1) := by decide +kernel
theorem dX9_copy_59 : decode cX9_copy 59 = .ok (.if_icmp .eq 11, 3) := by decide +kernel
theorem dX9_copy_62 : decode cX9_copy 62 = .ok (.aload_n 0, 1) := by decide +kernel
theorem dX9_copy_63 : decode cX9_copy 63 = .ok (.ldc_w 276, 3) := by decide +kernel
theorem dX9_copy_66 : decode cX9_copy 66 = .ok (.invokevirtual 64, 3) := by decide +kernel
theorem dX9_copy_69 : decode cX9_copy 69 = .ok (.ireturn, 1) := by decide +kernel
theorem dX9_copy_70 : decode cX9_copy 70 = .ok (.iload 5, 2) := by decide +kernel
theorem dX9_copy_72 : decode cX9_copy 72 = .ok (.ifCond .lt 39, 3) := by decide +kernel
theorem dX9_copy_75 : decode cX9_copy 75 = .ok (.iload_n 2, 1) := by decide +kernel
theorem dX9_copy_76 : decode cX9_copy 76 = .ok (.ifCond .lt 35, 3) := by decide +kernel
theorem dX9_copy_79 : decode cX9_copy 79 = .ok (.iload 4, 2) := by decide +kernel
theorem dX9_copy_81 : decode cX9_copy 81 = .ok (.ifCond .lt 30, 3) := by decide +kernel
theorem dX9_copy_84 : decode cX9_copy 84 = .ok (.iload 5, 2) := by decide +kernel
theorem dX9_copy_86 : decode cX9_copy 86 = .ok (.aload_n 0, 1) := by decide +kernel
theorem dX9_copy_87 : decode cX9_copy 87 = .ok (.getfield 41, 3) := by decide +kernel
theorem dX9_copy_90 : decode cX9_copy 90 = .ok (.iload_n 1, 1) := by decide +kernel
theorem dX9_copy_91 : decode cX9_copy 91 = .ok (.iaload, 1) := by decide +kernel
theorem dX9_copy_92 : decode cX9_copy 92 = .ok (.iload_n 2, 1) := by decide +kernel
theorem dX9_copy_93 : decode cX9_copy 93 = .ok (.isub, 1) := by decide +kernel
theorem dX9_copy_94 : decode cX9_copy 94 = .ok (.if_icmp .gt 17, 3) := by decide +kernel
theorem dX9_copy_97 : decode cX9_copy 97 = .ok (.iload 5, 2) := by decide +kernel
theorem dX9_copy_99 : decode cX9_copy 99 = .ok (.aload_n 0, 1) := by decide +kernel
theorem dX9_copy_100 : decode cX9_copy 100 = .ok (.getfield 41, 3) := by decide +kernel
theorem dX9_copy_103 : decode cX9_copy 103 = .ok (.iload_n 3, 1) := by decide +kernel
theorem dX9_copy_104 : decode cX9_copy 104 = .ok (.iaload, 1) := by decide +kernel
theorem dX9_copy_105 : decode cX9_copy 105 = .ok (.iload 4, 2) := by decide +kernel
theorem dX9_copy_107 : decode cX9_copy 107 = .ok (.isub, 1) := by decide +kernel
theorem dX9_copy_108 : decode cX9_copy 108 = .ok (.if_icmp .le 10, 3) := by decide +kernel
theorem dX9_copy_111 : decode cX9_copy 111 = .ok (.aload_n 0, 1) := by decide +kernel
theorem dX9_copy_112 : decode cX9_copy 112 = .ok (.ldc 47, 2) := by decide +kernel
theorem dX9_copy_114 : decode cX9_copy 114 = .ok (.invokevirtual 64, 3) := by decide +kernel
theorem dX9_copy_117 : decode cX9_copy 117 = .ok (.ireturn, 1) := by decide +kernel
theorem dX9_copy_118 : decode cX9_copy 118 = .ok (.iload_n 1, 1) := by decide +kernel
theorem dX9_copy_119 : decode cX9_copy 119 = .ok (.iload_n 3, 1) := by decide +kernel
theorem dX9_copy_120 : decode cX9_copy 120 = .ok (.if_icmp .ne 13, 3) := by decide +kernel
theorem dX9_copy_123 : decode cX9_copy 123 = .ok (.iload_n 2, 1) := by decide +kernel
theorem dX9_copy_124 : decode cX9_copy 124 = .ok (.iload 4, 2) := by decide +kernel
theorem dX9_copy_126 : decode cX9_copy 126 = .ok (.if_icmp .ge 7, 3) := by decide +kernel
theorem dX9_copy_129 : decode cX9_copy 129 = .ok (.iconst 1, 1) := by decide +kernel
theorem dX9_copy_130 : decode cX9_copy 130 = .ok (.goto 4, 3) := by decide +kernel
theorem dX9_copy_133 : decode cX9_copy 133 = .ok (.iconst 0, 1) := by decide +kernel
theorem dX9_copy_134 : decode cX9_copy 134 = .ok (.istore 6, 2) := by decide +kernel
theorem dX9_copy_136 : decode cX9_copy 136 = .ok (.iconst 0, 1) := by decide +kernel
theorem dX9_copy_137 : decode cX9_copy 137 = .ok (.istore 7, 2) := by decide +kernel
theorem dX9_copy_139 : decode cX9_copy 139 = .ok (.iload 7, 2) := by decide +kernel
theorem dX9_copy_141 : decode cX9_copy 141 = .ok (.iload 5, 2) := by decide +kernel
theorem dX9_copy_143 : decode cX9_copy 143 = .ok (.if_icmp .ge 57, 3) := by decide +kernel
theorem dX9_copy_146 : decode cX9_copy 146 = .ok (.iload 6, 2) := by decide +kernel
theorem dX9_copy_148 : decode cX9_copy 148 = .ok (.ifCond .eq 13, 3) := by decide +kernel
theorem dX9_copy_151 : decode cX9_copy 151 = .ok (.iload 5, 2) := by decide +kernel
theorem dX9_copy_153 : decode cX9_copy 153 = .ok (.iconst 1, 1) := by decide +kernel
theorem dX9_copy_154 : decode cX9_copy 154 = .ok (.isub, 1) := by decide +kernel
theorem dX9_copy_155 : decode cX9_copy 155 = .ok (.iload 7, 2) := by decide +kernel
theorem dX9_copy_157 : decode cX9_copy 157 = .ok (.isub, 1) := by decide +kernel
theorem dX9_copy_158 : decode cX9_copy 158 = .ok (.goto 5, 3) := by decide +kernel
theorem dX9_copy_161 : decode cX9_copy 161 = .ok (.iload 7, 2) := by decide +kernel
theorem dX9_copy_163 : decode cX9_copy 163 = .ok (.istore 8, 2) := by decide +kernel
theorem dX9_copy_165 : decode cX9_copy 165 = .ok (.aload_n 0, 1) := by decide +kernel
theorem dX9_copy_166 : decode cX9_copy 166 = .ok (.getfield 44, 3) := by decide +kernel
theorem dX9_copy_169 : decode cX9_copy 169 = .ok (.bipush 40, 2) := by decide +kernel
theorem dX9_copy_171 : decode cX9_copy 171 = .ok (.iload_n 3, 1) := by decide +kernel
theorem dX9_copy_172 : decode cX9_copy 172 = .ok (.imul, 1) := by decide +kernel
theorem dX9_copy_173 : decode cX9_copy 173 = .ok (.iload 4, 2) := by decide +kernel
theorem dX9_copy_175 : decode cX9_copy 175 = .ok (.iadd, 1) := by decide +kernel
theorem dX9_copy_176 : decode cX9_copy 176 = .ok (.iload 8, 2) := by decide +kernel
theorem dX9_copy_178 : decode cX9_copy 178 = .ok (.iadd, 1) := by decide +kernel
theorem dX9_copy_179 : decode cX9_copy 179 = .ok (.aload_n 0, 1) := by decide +kernel
theorem dX9_copy_180 : decode cX9_copy 180 = .ok (.getfield 44, 3) := by decide +kernel
theorem dX9_copy_183 : decode cX9_copy 183 = .ok (.bipush 40, 2) := by decide +kernel
theorem dX9_copy_185 : decode cX9_copy 185 = .ok (.iload_n 1, 1) := by decide +kernel
theorem dX9_copy_186 : decode cX9_copy 186 = .ok (.imul, 1) := by decide +kernel
theorem dX9_copy_187 : decode cX9_copy 187 = .ok (.iload_n 2, 1) := by decide +kernel
theorem dX9_copy_188 : decode cX9_copy 188 = .ok (.iadd, 1) := by decide +kernel
theorem dX9_copy_189 : decode cX9_copy 189 = .ok (.iload 8, 2) := by decide +kernel
theorem dX9_copy_191 : decode cX9_copy 191 = .ok (.iadd, 1) := by decide +kernel
theorem dX9_copy_192 : decode cX9_copy 192 = .ok (.iaload, 1) := by decide +kernel
theorem dX9_copy_193 : decode cX9_copy 193 = .ok (.iastore, 1) := by decide +kernel
theorem dX9_copy_194 : decode cX9_copy 194 = .ok (.iinc 7 1, 3) := by decide +kernel
theorem dX9_copy_197 : decode cX9_copy 197 = .ok (.goto (-58), 3) := by decide +kernel
theorem dX9_copy_200 : decode cX9_copy 200 = .ok (.iload 5, 2) := by decide +kernel
theorem dX9_copy_202 : decode cX9_copy 202 = .ok (.ireturn, 1) := by decide +kernel
theorem dX9_load_0 : decode cX9_load 0 = .ok (.iload_n 1, 1) := by decide +kernel
theorem dX9_load_1 : decode cX9_load 1 = .ok (.invokestatic 277, 3) := by decide +kernel
theorem dX9_load_4 : decode cX9_load 4 = .ok (.ifCond .ne 10, 3) := by decide +kernel
theorem dX9_load_7 : decode cX9_load 7 = .ok (.aload_n 0, 1) := by decide +kernel
theorem dX9_load_8 : decode cX9_load 8 = .ok (.ldc 47, 2) := by decide +kernel
theorem dX9_load_10 : decode cX9_load 10 = .ok (.invokevirtual 64, 3) := by decide +kernel
theorem dX9_load_13 : decode cX9_load 13 = .ok (.ireturn, 1) := by decide +kernel
theorem dX9_load_14 : decode cX9_load 14 = .ok (.aload_n 0, 1) := by decide +kernel
theorem dX9_load_15 : decode cX9_load 15 = .ok (.getfield 38, 3) := by decide +kernel
theorem dX9_load_18 : decode cX9_load 18 = .ok (.iload_n 1, 1) := by decide +kernel
theorem dX9_load_19 : decode cX9_load 19 = .ok (.iaload, 1) := by decide +kernel
theorem dX9_load_20 : decode cX9_load 20 = .ok (.ifCond .ne 11, 3) := by decide +kernel
theorem dX9_load_23 : decode cX9_load 23 = .ok (.aload_n 0, 1) := by decide +kernel
theorem dX9_load_24 : decode cX9_load 24 = .ok (.ldc_w 272, 3) := by decide +kernel
theorem dX9_load_27 : decode cX9_load 27 = .ok (.invokevirtual 64, 3) := by decide +kernel
theorem dX9_load_30 : decode cX9_load 30 = .ok (.ireturn, 1) := by decide +kernel
theorem dX9_load_31 : decode cX9_load 31 = .ok (.iconst 0, 1) := by decide +kernel
theorem dX9_load_32 : decode cX9_load 32 = .ok (.istore_n 2, 1) := by decide +kernel
theorem dX9_load_33 : decode cX9_load 33 = .ok (.iconst 0, 1) := by decide +kernel
theorem dX9_load_34 : decode cX9_load 34 = .ok (.istore_n 3, 1) := by decide +kernel
theorem dX9_load_35 : decode cX9_load 35 = .ok (.iload_n 3, 1) := by decide +kernel
theorem dX9_load_36 : decode cX9_load 36 = .ok (.iconst 1, 1) := by decide +kernel
theorem dX9_load_37 : decode cX9_load 37 = .ok (.iadd, 1) := by decide +kernel
theorem dX9_load_38 : decode cX9_load 38 = .ok (.aload_n 0, 1) := by decide +kernel
theorem dX9_load_39 : decode cX9_load 39 = .ok (.getfield 41, 3) := by decide +kernel
theorem dX9_load_42 : decode cX9_load 42 = .ok (.iload_n 1, 1) := by decide +kernel
theorem dX9_load_43 : decode cX9_load 43 = .ok (.iaload, 1) := by decide +kernel
theorem dX9_load_44 : decode cX9_load 44 = .ok (.if_icmp .ge 70, 3) := by decide +kernel
theorem dX9_load_47 : decode cX9_load 47 = .ok (.aload_n 0, 1) := by decide +kernel
theorem dX9_load_48 : decode cX9_load 48 = .ok (.getfield 44, 3) := by decide +kernel
theorem dX9_load_51 : decode cX9_load 51 = .ok (.bipush 40, 2) := by decide +kernel
theorem dX9_load_53 : decode cX9_load 53 = .ok (.iload_n 1, 1) := by decide +kernel
theorem dX9_load_54 : decode cX9_load 54 = .ok (.imul, 1) := by decide +kernel
theorem dX9_load_55 : decode cX9_load 55 = .ok (.iload_n 3, 1) := by decide +kernel
theorem dX9_load_56 : decode cX9_load 56 = .ok (.iadd, 1) := by decide +kernel
theorem dX9_load_57 : decode cX9_load 57 = .ok (.iaload, 1) := by decide +kernel
theorem dX9_load_58 : decode cX9_load 58 = .ok (.istore 4, 2) := by decide +kernel
theorem dX9_load_60 : decode cX9_load 60 = .ok (.aload_n 0, 1) := by decide +kernel
theorem dX9_load_61 : decode cX9_load 61 = .ok (.getfield 44, 3) := by decide +kernel
theorem dX9_load_64 : decode cX9_load 64 = .ok (.bipush 40, 2) := by decide +kernel
theorem dX9_load_66 : decode cX9_load 66 = .ok (.iload_n 1, 1) := by decide +kernel
theorem dX9_load_67 : decode cX9_load 67 = .ok (.imul, 1) := by decide +kernel
theorem dX9_load_68 : decode cX9_load 68 = .ok (.iload_n 3, 1) := by decide +kernel
theorem dX9_load_69 : decode cX9_load 69 = .ok (.iadd, 1) := by decide +kernel
theorem dX9_load_70 : decode cX9_load 70 = .ok (.iconst 1, 1) := by decide +kernel
theorem dX9_load_71 : decode cX9_load 71 = .ok (.iadd, 1) := by decide +kernel
theorem dX9_load_72 : decode cX9_load 72 = .ok (.iaload, 1) := by decide +kernel
theorem dX9_load_73 : decode cX9_load 73 = .ok (.istore 5, 2) := by decide +kernel
theorem dX9_load_75 : decode cX9_load 75 = .ok (.aload_n 0, 1) := by decide +kernel
theorem dX9_load_76 : decode cX9_load 76 = .ok (.iload 4, 2) := by decide +kernel
theorem dX9_load_78 : decode cX9_load 78 = .ok (.invokevirtual 73, 3) := by decide +kernel
theorem dX9_load_81 : decode cX9_load 81 = .ok (.ifCond .eq 22, 3) := by decide +kernel
theorem dX9_load_84 : decode cX9_load 84 = .ok (.iload 5, 2) := by decide +kernel
theorem dX9_load_86 : decode cX9_load 86 = .ok (.invokestatic 84, 3) := by decide +kernel
theorem dX9_load_89 : decode cX9_load 89 = .ok (.ifCond .eq 14, 3) := by decide +kernel
theorem dX9_load_92 : decode cX9_load 92 = .ok (.aload_n 0, 1) := by decide +kernel
theorem dX9_load_93 : decode cX9_load 93 = .ok (.iload 4, 2) := by decide +kernel
theorem dX9_load_95 : decode cX9_load 95 = .ok (.iload 5, 2) := by decide +kernel
theorem dX9_load_97 : decode cX9_load 97 = .ok (.invokevirtual 130, 3) := by decide +kernel
theorem dX9_load_100 : decode cX9_load 100 = .ok (.ifCond .ne 5, 3) := by decide +kernel
theorem dX9_load_103 : decode cX9_load 103 = .ok (.iload_n 2, 1) := by decide +kernel
theorem dX9_load_104 : decode cX9_load 104 = .ok (.ireturn, 1) := by decide +kernel
theorem dX9_load_105 : decode cX9_load 105 = .ok (.iinc 2 1, 3) := by decide +kernel
theorem dX9_load_108 : decode cX9_load 108 = .ok (.iinc 3 2, 3) := by decide +kernel
theorem dX9_load_111 : decode cX9_load 111 = .ok (.goto (-76), 3) := by decide +kernel
theorem dX9_load_114 : decode cX9_load 114 = .ok (.iload_n 2, 1) := by decide +kernel
theorem dX9_load_115 : decode cX9_load 115 = .ok (.ireturn, 1) := by decide +kernel
theorem dX9_judge_0 : decode cX9_judge 0 = .ok (.iload_n 1, 1) := by decide +kernel
theorem dX9_judge_1 : decode cX9_judge 1 = .ok (.invokestatic 277, 3) := by decide +kernel
theorem dX9_judge_4 : decode cX9_judge 4 = .ok (.ifCond .ne 10, 3) := by decide +kernel
theorem dX9_judge_7 : decode cX9_judge 7 = .ok (.aload_n 0, 1) := by decide +kernel
theorem dX9_judge_8 : decode cX9_judge 8 = .ok (.ldc 47, 2) := by decide +kernel
theorem dX9_judge_10 : decode cX9_judge 10 = .ok (.invokevirtual 64, 3) := by decide +kernel
theorem dX9_judge_13 : decode cX9_judge 13 = .ok (.ireturn, 1) := by decide +kernel
theorem dX9_judge_14 : decode cX9_judge 14 = .ok (.aload_n 0, 1) := by decide +kernel
theorem dX9_judge_15 : decode cX9_judge 15 = .ok (.getfield 38, 3) := by decide +kernel
theorem dX9_judge_18 : decode cX9_judge 18 = .ok (.iload_n 1, 1) := by decide +kernel
theorem dX9_judge_19 : decode cX9_judge 19 = .ok (.iaload, 1) := by decide +kernel
theorem dX9_judge_20 : decode cX9_judge 20 = .ok (.ifCond .ne 11, 3) := by decide +kernel
theorem dX9_judge_23 : decode cX9_judge 23 = .ok (.aload_n 0, 1) := by decide +kernel
theorem dX9_judge_24 : decode cX9_judge 24 = .ok (.ldc_w 272, 3) := by decide +kernel
theorem dX9_judge_27 : decode cX9_judge 27 = .ok (.invokevirtual 64, 3) := by decide +kernel
theorem dX9_judge_30 : decode cX9_judge 30 = .ok (.ireturn, 1) := by decide +kernel
theorem dX9_judge_31 : decode cX9_judge 31 = .ok (.iconst 0, 1) := by decide +kernel
theorem dX9_judge_32 : decode cX9_judge 32 = .ok (.istore_n 2, 1) := by decide +kernel
theorem dX9_judge_33 : decode cX9_judge 33 = .ok (.iload_n 2, 1) := by decide +kernel
theorem dX9_judge_34 : decode cX9_judge 34 = .ok (.aload_n 0, 1) := by decide +kernel
theorem dX9_judge_35 : decode cX9_judge 35 = .ok (.getfield 41, 3) := by decide +kernel
theorem dX9_judge_38 : decode cX9_judge 38 = .ok (.iload_n 1, 1) := by decide +kernel
theorem dX9_judge_39 : decode cX9_judge 39 = .ok (.iaload, 1) := by decide +kernel
theorem dX9_judge_40 : decode cX9_judge 40 = .ok (.if_icmp .ge 39, 3) := by decide +kernel
theorem dX9_judge_43 : decode cX9_judge 43 = .ok (.iload_n 2, 1) := by decide +kernel
theorem dX9_judge_44 : decode cX9_judge 44 = .ok (.aload_n 0, 1) := by decide +kernel
theorem dX9_judge_45 : decode cX9_judge 45 = .ok (.getfield 9, 3) := by decide +kernel
theorem dX9_judge_48 : decode cX9_judge 48 = .ok (.iconst 2, 1) := by decide +kernel
theorem dX9_judge_49 : decode cX9_judge 49 = .ok (.iaload, 1) := by decide +kernel
theorem dX9_judge_50 : decode cX9_judge 50 = .ok (.if_icmp .ge 29, 3) := by decide +kernel
theorem dX9_judge_53 : decode cX9_judge 53 = .ok (.aload_n 0, 1) := by decide +kernel
theorem dX9_judge_54 : decode cX9_judge 54 = .ok (.getfield 44, 3) := by decide +kernel
theorem dX9_judge_57 : decode cX9_judge 57 = .ok (.bipush 40, 2) := by decide +kernel
theorem dX9_judge_59 : decode cX9_judge 59 = .ok (.iload_n 1, 1) := by decide +kernel
theorem dX9_judge_60 : decode cX9_judge 60 = .ok (.imul, 1) := by decide +kernel
theorem dX9_judge_61 : decode cX9_judge 61 = .ok (.iload_n 2, 1) := by decide +kernel
theorem dX9_judge_62 : decode cX9_judge 62 = .ok (.iadd, 1) := by decide +kernel
theorem dX9_judge_63 : decode cX9_judge 63 = .ok (.iaload, 1) := by decide +kernel
theorem dX9_judge_64 : decode cX9_judge 64 = .ok (.aload_n 0, 1) := by decide +kernel
theorem dX9_judge_65 : decode cX9_judge 65 = .ok (.iload_n 2, 1) := by decide +kernel
theorem dX9_judge_66 : decode cX9_judge 66 = .ok (.iconst 1, 1) := by decide +kernel
theorem dX9_judge_67 : decode cX9_judge 67 = .ok (.invokevirtual 101, 3) := by decide +kernel
theorem dX9_judge_70 : decode cX9_judge 70 = .ok (.if_icmp .ne 9, 3) := by decide +kernel
theorem dX9_judge_73 : decode cX9_judge 73 = .ok (.iinc 2 1, 3) := by decide +kernel
theorem dX9_judge_76 : decode cX9_judge 76 = .ok (.goto (-43), 3) := by decide +kernel
theorem dX9_judge_79 : decode cX9_judge 79 = .ok (.iload_n 2, 1) := by decide +kernel
theorem dX9_judge_80 : decode cX9_judge 80 = .ok (.aload_n 0, 1) := by decide +kernel
theorem dX9_judge_81 : decode cX9_judge 81 = .ok (.getfield 41, 3) := by decide +kernel
theorem dX9_judge_84 : decode cX9_judge 84 = .ok (.iload_n 1, 1) := by decide +kernel
theorem dX9_judge_85 : decode cX9_judge 85 = .ok (.iaload, 1) := by decide +kernel
theorem dX9_judge_86 : decode cX9_judge 86 = .ok (.if_icmp .ne 17, 3) := by decide +kernel
theorem dX9_judge_89 : decode cX9_judge 89 = .ok (.iload_n 2, 1) := by decide +kernel
theorem dX9_judge_90 : decode cX9_judge 90 = .ok (.aload_n 0, 1) := by decide +kernel
theorem dX9_judge_91 : decode cX9_judge 91 = .ok (.getfield 9, 3) := by decide +kernel
theorem dX9_judge_94 : decode cX9_judge 94 = .ok (.iconst 2, 1) := by decide +kernel
theorem dX9_judge_95 : decode cX9_judge 95 = .ok (.iaload, 1) := by decide +kernel
theorem dX9_judge_96 : decode cX9_judge 96 = .ok (.if_icmp .ne 7, 3) := by decide +kernel
theorem dX9_judge_99 : decode cX9_judge 99 = .ok (.iconst 0, 1) := by decide +kernel
theorem dX9_judge_100 : decode cX9_judge 100 = .ok (.goto 6, 3) := by decide +kernel
theorem dX9_judge_103 : decode cX9_judge 103 = .ok (.iconst 1, 1) := by decide +kernel
theorem dX9_judge_104 : decode cX9_judge 104 = .ok (.iload_n 2, 1) := by decide +kernel
theorem dX9_judge_105 : decode cX9_judge 105 = .ok (.iadd, 1) := by decide +kernel
theorem dX9_judge_106 : decode cX9_judge 106 = .ok (.ireturn, 1) := by decide +kernel
theorem dX9_image_0 : decode cX9_image 0 = .ok (.iconst 0, 1) := by decide +kernel
theorem dX9_image_1 : decode cX9_image 1 = .ok (.istore_n 1, 1) := by decide +kernel
theorem dX9_image_2 : decode cX9_image 2 = .ok (.iload_n 1, 1) := by decide +kernel
theorem dX9_image_3 : decode cX9_image 3 = .ok (.sipush 1214, 3) := by decide +kernel
theorem dX9_image_6 : decode cX9_image 6 = .ok (.if_icmp .ge 21, 3) := by decide +kernel
theorem dX9_image_9 : decode cX9_image 9 = .ok (.aload_n 0, 1) := by decide +kernel
theorem dX9_image_10 : decode cX9_image 10 = .ok (.getfield 13, 3) := by decide +kernel
theorem dX9_image_13 : decode cX9_image 13 = .ok (.iload_n 1, 1) := by decide +kernel
theorem dX9_image_14 : decode cX9_image 14 = .ok (.aload_n 0, 1) := by decide +kernel
theorem dX9_image_15 : decode cX9_image 15 = .ok (.getfield 9, 3) := by decide +kernel
theorem dX9_image_18 : decode cX9_image 18 = .ok (.iload_n 1, 1) := by decide +kernel
theorem dX9_image_19 : decode cX9_image 19 = .ok (.iaload, 1) := by decide +kernel
theorem dX9_image_20 : decode cX9_image 20 = .ok (.iastore, 1) := by decide +kernel
theorem dX9_image_21 : decode cX9_image 21 = .ok (.iinc 1 1, 3) := by decide +kernel
theorem dX9_image_24 : decode cX9_image 24 = .ok (.goto (-22), 3) := by decide +kernel
theorem dX9_image_27 : decode cX9_image 27 = .ok (.aload_n 0, 1) := by decide +kernel
theorem dX9_image_28 : decode cX9_image 28 = .ok (.iconst 1, 1) := by decide +kernel
theorem dX9_image_29 : decode cX9_image 29 = .ok (.putfield 281, 3) := by decide +kernel
theorem dX9_image_32 : decode cX9_image 32 = .ok (.iconst 1, 1) := by decide +kernel
theorem dX9_image_33 : decode cX9_image 33 = .ok (.ireturn, 1) := by decide +kernel
theorem dX9_undo_0 : decode cX9_undo 0 = .ok (.aload_n 0, 1) := by decide +kernel
theorem dX9_undo_1 : decode cX9_undo 1 = .ok (.getfield 281, 3) := by decide +kernel
theorem dX9_undo_4 : decode cX9_undo 4 = .ok (.ifCond .ne 10, 3) := by decide +kernel
theorem dX9_undo_7 : decode cX9_undo 7 = .ok (.aload_n 0, 1) := by decide +kernel
theorem dX9_undo_8 : decode cX9_undo 8 = .ok (.ldc 122, 2) := by decide +kernel
theorem dX9_undo_10 : decode cX9_undo 10 = .ok (.invokevirtual 64, 3) := by decide +kernel
theorem dX9_undo_13 : decode cX9_undo 13 = .ok (.ireturn, 1) := by decide +kernel
theorem dX9_undo_14 : decode cX9_undo 14 = .ok (.iconst 0, 1) := by decide +kernel
theorem dX9_undo_15 : decode cX9_undo 15 = .ok (.istore_n 1, 1) := by decide +kernel
theorem dX9_undo_16 : decode cX9_undo 16 = .ok (.iload_n 1, 1) := by decide +kernel
theorem dX9_undo_17 : decode cX9_undo 17 = .ok (.sipush 1214, 3) := by decide +kernel
theorem dX9_undo_20 : decode cX9_undo 20 = .ok (.if_icmp .ge 21, 3) := by decide +kernel
theorem dX9_undo_23 : decode cX9_undo 23 = .ok (.aload_n 0, 1) := by decide +kernel
theorem dX9_undo_24 : decode cX9_undo 24 = .ok (.getfield 9, 3) := by decide +kernel
theorem dX9_undo_27 : decode cX9_undo 27 = .ok (.iload_n 1, 1) := by decide +kernel
theorem dX9_undo_28 : decode cX9_undo 28 = .ok (.aload_n 0, 1) := by decide +kernel
theorem dX9_undo_29 : decode cX9_undo 29 = .ok (.getfield 13, 3) := by decide +kernel
theorem dX9_undo_32 : decode cX9_undo 32 = .ok (.iload_n 1, 1) := by decide +kernel
theorem dX9_undo_33 : decode cX9_undo 33 = .ok (.iaload, 1) := by decide +kernel
theorem dX9_undo_34 : decode cX9_undo 34 = .ok (.iastore, 1) := by decide +kernel
theorem dX9_undo_35 : decode cX9_undo 35 = .ok (.iinc 1 1, 3) := by decide +kernel
theorem dX9_undo_38 : decode cX9_undo 38 = .ok (.goto (-22), 3) := by decide +kernel
theorem dX9_undo_41 : decode cX9_undo 41 = .ok (.aload_n 0, 1) := by decide +kernel
theorem dX9_undo_42 : decode cX9_undo 42 = .ok (.getfield 9, 3) := by decide +kernel
theorem dX9_undo_45 : decode cX9_undo 45 = .ok (.iconst 1, 1) := by decide +kernel
theorem dX9_undo_46 : decode cX9_undo 46 = .ok (.iaload, 1) := by decide +kernel
theorem dX9_undo_47 : decode cX9_undo 47 = .ok (.ireturn, 1) := by decide +kernel
theorem dX9_tear_0 : decode cX9_tear 0 = .ok (.aload_n 0, 1) := by decide +kernel
theorem dX9_tear_1 : decode cX9_tear 1 = .ok (.getfield 281, 3) := by decide +kernel
theorem dX9_tear_4 : decode cX9_tear 4 = .ok (.ifCond .eq 7, 3) := by decide +kernel
theorem dX9_tear_7 : decode cX9_tear 7 = .ok (.iconst 1, 1) := by decide +kernel
theorem dX9_tear_8 : decode cX9_tear 8 = .ok (.goto 4, 3) := by decide +kernel
theorem dX9_tear_11 : decode cX9_tear 11 = .ok (.iconst 0, 1) := by decide +kernel
theorem dX9_tear_12 : decode cX9_tear 12 = .ok (.istore_n 1, 1) := by decide +kernel
theorem dX9_tear_13 : decode cX9_tear 13 = .ok (.aload_n 0, 1) := by decide +kernel
theorem dX9_tear_14 : decode cX9_tear 14 = .ok (.iconst 0, 1) := by decide +kernel
theorem dX9_tear_15 : decode cX9_tear 15 = .ok (.putfield 281, 3) := by decide +kernel
theorem dX9_tear_18 : decode cX9_tear 18 = .ok (.iload_n 1, 1) := by decide +kernel
theorem dX9_tear_19 : decode cX9_tear 19 = .ok (.ireturn, 1) := by decide +kernel
theorem dX9_count_0 : decode cX9_count 0 = .ok (.iload_n 1, 1) := by decide +kernel
theorem dX9_count_1 : decode cX9_count 1 = .ok (.tableswitch 84 0 8 #[51, 51, 51, 51, 51, 58, 63, 70, 77], 51) := by decide +kernel
theorem dX9_count_52 : decode cX9_count 52 = .ok (.aload_n 0, 1) := by decide +kernel
theorem dX9_count_53 : decode cX9_count 53 = .ok (.getfield 9, 3) := by decide +kernel
theorem dX9_count_56 : decode cX9_count 56 = .ok (.iload_n 1, 1) := by decide +kernel
theorem dX9_count_57 : decode cX9_count 57 = .ok (.iaload, 1) := by decide +kernel
theorem dX9_count_58 : decode cX9_count 58 = .ok (.ireturn, 1) := by decide +kernel
theorem dX9_count_59 : decode cX9_count 59 = .ok (.aload_n 0, 1) := by decide +kernel
theorem dX9_count_60 : decode cX9_count 60 = .ok (.getfield 161, 3) := by decide +kernel
theorem dX9_count_63 : decode cX9_count 63 = .ok (.ireturn, 1) := by decide +kernel
theorem dX9_count_64 : decode cX9_count 64 = .ok (.aload_n 0, 1) := by decide +kernel
theorem dX9_count_65 : decode cX9_count 65 = .ok (.bipush 6, 2) := by decide +kernel
theorem dX9_count_67 : decode cX9_count 67 = .ok (.invokevirtual 244, 3) := by decide +kernel
theorem dX9_count_70 : decode cX9_count 70 = .ok (.ireturn, 1) := by decide +kernel
theorem dX9_count_71 : decode cX9_count 71 = .ok (.aload_n 0, 1) := by decide +kernel
theorem dX9_count_72 : decode cX9_count 72 = .ok (.bipush 7, 2) := by decide +kernel
theorem dX9_count_74 : decode cX9_count 74 = .ok (.invokevirtual 244, 3) := by decide +kernel
theorem dX9_count_77 : decode cX9_count 77 = .ok (.ireturn, 1) := by decide +kernel
theorem dX9_count_78 : decode cX9_count 78 = .ok (.aload_n 0, 1) := by decide +kernel
theorem dX9_count_79 : decode cX9_count 79 = .ok (.getfield 9, 3) := by decide +kernel
theorem dX9_count_82 : decode cX9_count 82 = .ok (.iconst 5, 1) := by decide +kernel
theorem dX9_count_83 : decode cX9_count 83 = .ok (.iaload, 1) := by decide +kernel
theorem dX9_count_84 : decode cX9_count 84 = .ok (.ireturn, 1) := by decide +kernel
theorem dX9_count_85 : decode cX9_count 85 = .ok (.aload_n 0, 1) := by decide +kernel
theorem dX9_count_86 : decode cX9_count 86 = .ok (.ldc 47, 2) := by decide +kernel
theorem dX9_count_88 : decode cX9_count 88 = .ok (.invokevirtual 64, 3) := by decide +kernel
theorem dX9_count_91 : decode cX9_count 91 = .ok (.ireturn, 1) := by decide +kernel
theorem dX9_status_0 : decode cX9_status 0 = .ok (.iload_n 1, 1) := by decide +kernel
theorem dX9_status_1 : decode cX9_status 1 = .ok (.i2l, 1) := by decide +kernel
theorem dX9_status_2 : decode cX9_status 2 = .ok (.ldc2_w 263, 3) := by decide +kernel
theorem dX9_status_5 : decode cX9_status 5 = .ok (.ldc2_w 154, 3) := by decide +kernel
theorem dX9_status_8 : decode cX9_status 8 = .ok (.invokestatic 48, 3) := by decide +kernel
theorem dX9_status_11 : decode cX9_status 11 = .ok (.ifCond .ne 10, 3) := by decide +kernel
theorem dX9_status_14 : decode cX9_status 14 = .ok (.aload_n 0, 1) := by decide +kernel
theorem dX9_status_15 : decode cX9_status 15 = .ok (.ldc 47, 2) := by decide +kernel
theorem dX9_status_17 : decode cX9_status 17 = .ok (.invokevirtual 64, 3) := by decide +kernel
theorem dX9_status_20 : decode cX9_status 20 = .ok (.ireturn, 1) := by decide +kernel
theorem dX9_status_21 : decode cX9_status 21 = .ok (.iconst 0, 1) := by decide +kernel
theorem dX9_status_22 : decode cX9_status 22 = .ok (.istore_n 2, 1) := by decide +kernel
theorem dX9_status_23 : decode cX9_status 23 = .ok (.iconst 0, 1) := by decide +kernel
theorem dX9_status_24 : decode cX9_status 24 = .ok (.istore_n 3, 1) := by decide +kernel
theorem dX9_status_25 : decode cX9_status 25 = .ok (.iload_n 3, 1) := by decide +kernel
theorem dX9_status_26 : decode cX9_status 26 = .ok (.bipush 7, 2) := by decide +kernel
theorem dX9_status_28 : decode cX9_status 28 = .ok (.if_icmp .ge 31, 3) := by decide +kernel
theorem dX9_status_31 : decode cX9_status 31 = .ok (.iload_n 2, 1) := by decide +kernel
theorem dX9_status_32 : decode cX9_status 32 = .ok (.iload_n 1, 1) := by decide +kernel
theorem dX9_status_33 : decode cX9_status 33 = .ok (.ifCond .lt 8, 3) := by decide +kernel
theorem dX9_status_36 : decode cX9_status 36 = .ok (.iload_n 1, 1) := by decide +kernel
theorem dX9_status_37 : decode cX9_status 37 = .ok (.iload_n 3, 1) := by decide +kernel
theorem dX9_status_38 : decode cX9_status 38 = .ok (.if_icmp .ne 12, 3) := by decide +kernel
theorem dX9_status_41 : decode cX9_status 41 = .ok (.aload_n 0, 1) := by decide +kernel
theorem dX9_status_42 : decode cX9_status 42 = .ok (.getfield 16, 3) := by decide +kernel
theorem dX9_status_45 : decode cX9_status 45 = .ok (.iload_n 3, 1) := by decide +kernel
theorem dX9_status_46 : decode cX9_status 46 = .ok (.iaload, 1) := by decide +kernel
theorem dX9_status_47 : decode cX9_status 47 = .ok (.goto 4, 3) := by decide +kernel
theorem dX9_status_50 : decode cX9_status 50 = .ok (.iconst 0, 1) := by decide +kernel
theorem dX9_status_51 : decode cX9_status 51 = .ok (.iadd, 1) := by decide +kernel
theorem dX9_status_52 : decode cX9_status 52 = .ok (.istore_n 2, 1) := by decide +kernel
theorem dX9_status_53 : decode cX9_status 53 = .ok (.iinc 3 1, 3) := by decide +kernel
theorem dX9_status_56 : decode cX9_status 56 = .ok (.goto (-31), 3) := by decide +kernel
theorem dX9_status_59 : decode cX9_status 59 = .ok (.iload_n 2, 1) := by decide +kernel
theorem dX9_status_60 : decode cX9_status 60 = .ok (.ireturn, 1) := by decide +kernel
end
section
theorem dL_law_0 : decode cL_law 0 = .ok (.new 7, 3) := by decide +kernel
theorem dL_law_3 : decode cL_law 3 = .ok (.dup, 1) := by decide +kernel
theorem dL_law_4 : decode cL_law 4 = .ok (.invokespecial 9, 3) := by decide +kernel
theorem dL_law_7 : decode cL_law 7 = .ok (.astore_n 1, 1) := by decide +kernel
theorem dL_law_8 : decode cL_law 8 = .ok (.new 10, 3) := by decide +kernel
theorem dL_law_11 : decode cL_law 11 = .ok (.dup, 1) := by decide +kernel
theorem dL_law_12 : decode cL_law 12 = .ok (.invokespecial 12, 3) := by decide +kernel
theorem dL_law_15 : decode cL_law 15 = .ok (.astore_n 2, 1) := by decide +kernel
theorem dL_law_16 : decode cL_law 16 = .ok (.iconst 0, 1) := by decide +kernel
theorem dL_law_17 : decode cL_law 17 = .ok (.istore_n 3, 1) := by decide +kernel
theorem dL_law_18 : decode cL_law 18 = .ok (.iload_n 3, 1) := by decide +kernel
theorem dL_law_19 : decode cL_law 19 = .ok (.aload_n 0, 1) := by decide +kernel
theorem dL_law_20 : decode cL_law 20 = .ok (.arraylength, 1) := by decide +kernel
theorem dL_law_21 : decode cL_law 21 = .ok (.bipush 6, 2) := by decide +kernel
theorem dL_law_23 : decode cL_law 23 = .ok (.isub, 1) := by decide +kernel
theorem dL_law_24 : decode cL_law 24 = .ok (.if_icmp .gt 1618, 3) := by decide +kernel
theorem dL_law_27 : decode cL_law 27 = .ok (.aload_n 0, 1) := by decide +kernel
theorem dL_law_28 : decode cL_law 28 = .ok (.iload_n 3, 1) := by decide +kernel
theorem dL_law_29 : decode cL_law 29 = .ok (.iaload, 1) := by decide +kernel
theorem dL_law_30 : decode cL_law 30 = .ok (.bipush 63, 2) := by decide +kernel
theorem dL_law_32 : decode cL_law 32 = .ok (.iand, 1) := by decide +kernel
theorem dL_law_33 : decode cL_law 33 = .ok (.tableswitch 1603 0 45 #[199, 232, 265, 308, 357, 370, 403, 436, 459, 492, 525, 548, 581, 604, 637, 650, 663, 696, 739, 792, 825, 858, 881, 924, 977, 1010, 1043, 1076, 1109, 1132, 1155, 1188, 1211, 1234, 1257, 1290, 1323, 1366, 1409, 1472, 1495, 1518, 1531, 1544, 1557, 1580], 199) := by decide +kernel
theorem dL_law_232 : decode cL_law 232 = .ok (.aload_n 1, 1) := by decide +kernel
theorem dL_law_233 : decode cL_law 233 = .ok (.aload_n 0, 1) := by decide +kernel
theorem dL_law_234 : decode cL_law 234 = .ok (.iload_n 3, 1) := by decide +kernel
theorem dL_law_235 : decode cL_law 235 = .ok (.iconst 1, 1) := by decide +kernel
theorem dL_law_236 : decode cL_law 236 = .ok (.iadd, 1) := by decide +kernel
theorem dL_law_237 : decode cL_law 237 = .ok (.iaload, 1) := by decide +kernel
theorem dL_law_238 : decode cL_law 238 = .ok (.aload_n 0, 1) := by decide +kernel
theorem dL_law_239 : decode cL_law 239 = .ok (.iload_n 3, 1) := by decide +kernel
theorem dL_law_240 : decode cL_law 240 = .ok (.iconst 2, 1) := by decide +kernel
theorem dL_law_241 : decode cL_law 241 = .ok (.iadd, 1) := by decide +kernel
theorem dL_law_242 : decode cL_law 242 = .ok (.iaload, 1) := by decide +kernel
theorem dL_law_243 : decode cL_law 243 = .ok (.invokevirtual 13, 3) := by decide +kernel
theorem dL_law_246 : decode cL_law 246 = .ok (.aload_n 2, 1) := by decide +kernel
theorem dL_law_247 : decode cL_law 247 = .ok (.aload_n 0, 1) := by decide +kernel
theorem dL_law_248 : decode cL_law 248 = .ok (.iload_n 3, 1) := by decide +kernel
theorem dL_law_249 : decode cL_law 249 = .ok (.iconst 1, 1) := by decide +kernel
theorem dL_law_250 : decode cL_law 250 = .ok (.iadd, 1) := by decide +kernel
theorem dL_law_251 : decode cL_law 251 = .ok (.iaload, 1) := by decide +kernel
theorem dL_law_252 : decode cL_law 252 = .ok (.aload_n 0, 1) := by decide +kernel
theorem dL_law_253 : decode cL_law 253 = .ok (.iload_n 3, 1) := by decide +kernel
theorem dL_law_254 : decode cL_law 254 = .ok (.iconst 2, 1) := by decide +kernel
theorem dL_law_255 : decode cL_law 255 = .ok (.iadd, 1) := by decide +kernel
theorem dL_law_256 : decode cL_law 256 = .ok (.iaload, 1) := by decide +kernel
theorem dL_law_257 : decode cL_law 257 = .ok (.invokevirtual 17, 3) := by decide +kernel
theorem dL_law_260 : decode cL_law 260 = .ok (.if_icmp .eq 1376, 3) := by decide +kernel
theorem dL_law_263 : decode cL_law 263 = .ok (.iconst 0, 1) := by decide +kernel
theorem dL_law_264 : decode cL_law 264 = .ok (.ireturn, 1) := by decide +kernel
theorem dL_law_265 : decode cL_law 265 = .ok (.aload_n 1, 1) := by decide +kernel
theorem dL_law_266 : decode cL_law 266 = .ok (.aload_n 0, 1) := by decide +kernel
theorem dL_law_267 : decode cL_law 267 = .ok (.iload_n 3, 1) := by decide +kernel
theorem dL_law_268 : decode cL_law 268 = .ok (.iconst 1, 1) := by decide +kernel
theorem dL_law_269 : decode cL_law 269 = .ok (.iadd, 1) := by decide +kernel
theorem dL_law_270 : decode cL_law 270 = .ok (.iaload, 1) := by decide +kernel
theorem dL_law_271 : decode cL_law 271 = .ok (.aload_n 0, 1) := by decide +kernel
theorem dL_law_272 : decode cL_law 272 = .ok (.iload_n 3, 1) := by decide +kernel
theorem dL_law_273 : decode cL_law 273 = .ok (.iconst 2, 1) := by decide +kernel
theorem dL_law_274 : decode cL_law 274 = .ok (.iadd, 1) := by decide +kernel
theorem dL_law_275 : decode cL_law 275 = .ok (.iaload, 1) := by decide +kernel
theorem dL_law_276 : decode cL_law 276 = .ok (.invokevirtual 18, 3) := by decide +kernel
theorem dL_law_279 : decode cL_law 279 = .ok (.aload_n 2, 1) := by decide +kernel
theorem dL_law_280 : decode cL_law 280 = .ok (.aload_n 0, 1) := by decide +kernel
theorem dL_law_281 : decode cL_law 281 = .ok (.iload_n 3, 1) := by decide +kernel
theorem dL_law_282 : decode cL_law 282 = .ok (.iconst 1, 1) := by decide +kernel
theorem dL_law_283 : decode cL_law 283 = .ok (.iadd, 1) := by decide +kernel
theorem dL_law_284 : decode cL_law 284 = .ok (.iaload, 1) := by decide +kernel
theorem dL_law_285 : decode cL_law 285 = .ok (.aload_n 0, 1) := by decide +kernel
theorem dL_law_286 : decode cL_law 286 = .ok (.iload_n 3, 1) := by decide +kernel
theorem dL_law_287 : decode cL_law 287 = .ok (.iconst 2, 1) := by decide +kernel
theorem dL_law_288 : decode cL_law 288 = .ok (.iadd, 1) := by decide +kernel
theorem dL_law_289 : decode cL_law 289 = .ok (.iaload, 1) := by decide +kernel
theorem dL_law_290 : decode cL_law 290 = .ok (.invokevirtual 21, 3) := by decide +kernel
theorem dL_law_293 : decode cL_law 293 = .ok (.if_icmp .eq 1343, 3) := by decide +kernel
theorem dL_law_296 : decode cL_law 296 = .ok (.iconst 0, 1) := by decide +kernel
theorem dL_law_297 : decode cL_law 297 = .ok (.ireturn, 1) := by decide +kernel
theorem dL_law_298 : decode cL_law 298 = .ok (.aload_n 1, 1) := by decide +kernel
theorem dL_law_299 : decode cL_law 299 = .ok (.aload_n 0, 1) := by decide +kernel
theorem dL_law_300 : decode cL_law 300 = .ok (.iload_n 3, 1) := by decide +kernel
theorem dL_law_301 : decode cL_law 301 = .ok (.iconst 1, 1) := by decide +kernel
theorem dL_law_302 : decode cL_law 302 = .ok (.iadd, 1) := by decide +kernel
theorem dL_law_303 : decode cL_law 303 = .ok (.iaload, 1) := by decide +kernel
theorem dL_law_304 : decode cL_law 304 = .ok (.aload_n 0, 1) := by decide +kernel
theorem dL_law_305 : decode cL_law 305 = .ok (.iload_n 3, 1) := by decide +kernel
theorem dL_law_306 : decode cL_law 306 = .ok (.iconst 2, 1) := by decide +kernel
theorem dL_law_307 : decode cL_law 307 = .ok (.iadd, 1) := by decide +kernel
theorem dL_law_308 : decode cL_law 308 = .ok (.iaload, 1) := by decide +kernel
theorem dL_law_309 : decode cL_law 309 = .ok (.aload_n 0, 1) := by decide +kernel
theorem dL_law_310 : decode cL_law 310 = .ok (.iload_n 3, 1) := by decide +kernel
theorem dL_law_311 : decode cL_law 311 = .ok (.iconst 3, 1) := by decide +kernel
theorem dL_law_312 : decode cL_law 312 = .ok (.iadd, 1) := by decide +kernel
theorem dL_law_313 : decode cL_law 313 = .ok (.iaload, 1) := by decide +kernel
theorem dL_law_314 : decode cL_law 314 = .ok (.invokevirtual 22, 3) := by decide +kernel
theorem dL_law_317 : decode cL_law 317 = .ok (.aload_n 2, 1) := by decide +kernel
theorem dL_law_318 : decode cL_law 318 = .ok (.aload_n 0, 1) := by decide +kernel
theorem dL_law_319 : decode cL_law 319 = .ok (.iload_n 3, 1) := by decide +kernel
theorem dL_law_320 : decode cL_law 320 = .ok (.iconst 1, 1) := by decide +kernel
theorem dL_law_321 : decode cL_law 321 = .ok (.iadd, 1) := by decide +kernel
theorem dL_law_322 : decode cL_law 322 = .ok (.iaload, 1) := by decide +kernel
theorem dL_law_323 : decode cL_law 323 = .ok (.aload_n 0, 1) := by decide +kernel
theorem dL_law_324 : decode cL_law 324 = .ok (.iload_n 3, 1) := by decide +kernel
theorem dL_law_325 : decode cL_law 325 = .ok (.iconst 2, 1) := by decide +kernel
theorem dL_law_326 : decode cL_law 326 = .ok (.iadd, 1) := by decide +kernel
theorem dL_law_327 : decode cL_law 327 = .ok (.iaload, 1) := by decide +kernel
theorem dL_law_328 : decode cL_law 328 = .ok (.aload_n 0, 1) := by decide +kernel
theorem dL_law_329 : decode cL_law 329 = .ok (.iload_n 3, 1) := by decide +kernel
theorem dL_law_330 : decode cL_law 330 = .ok (.iconst 3, 1) := by decide +kernel
theorem dL_law_331 : decode cL_law 331 = .ok (.iadd, 1) := by decide +kernel
theorem dL_law_332 : decode cL_law 332 = .ok (.iaload, 1) := by decide +kernel
theorem dL_law_333 : decode cL_law 333 = .ok (.invokevirtual 26, 3) := by decide +kernel
theorem dL_law_336 : decode cL_law 336 = .ok (.if_icmp .eq 1300, 3) := by decide +kernel
theorem dL_law_339 : decode cL_law 339 = .ok (.iconst 0, 1) := by decide +kernel
theorem dL_law_340 : decode cL_law 340 = .ok (.ireturn, 1) := by decide +kernel
theorem dL_law_341 : decode cL_law 341 = .ok (.aload_n 1, 1) := by decide +kernel
theorem dL_law_342 : decode cL_law 342 = .ok (.aload_n 0, 1) := by decide +kernel
theorem dL_law_343 : decode cL_law 343 = .ok (.iload_n 3, 1) := by decide +kernel
theorem dL_law_344 : decode cL_law 344 = .ok (.iconst 1, 1) := by decide +kernel
theorem dL_law_345 : decode cL_law 345 = .ok (.iadd, 1) := by decide +kernel
theorem dL_law_346 : decode cL_law 346 = .ok (.iaload, 1) := by decide +kernel
theorem dL_law_347 : decode cL_law 347 = .ok (.aload_n 0, 1) := by decide +kernel
theorem dL_law_348 : decode cL_law 348 = .ok (.iload_n 3, 1) := by decide +kernel
theorem dL_law_349 : decode cL_law 349 = .ok (.iconst 2, 1) := by decide +kernel
theorem dL_law_350 : decode cL_law 350 = .ok (.iadd, 1) := by decide +kernel
theorem dL_law_351 : decode cL_law 351 = .ok (.iaload, 1) := by decide +kernel
theorem dL_law_352 : decode cL_law 352 = .ok (.ifCond .eq 7, 3) := by decide +kernel
theorem dL_law_355 : decode cL_law 355 = .ok (.iconst 1, 1) := by decide +kernel
theorem dL_law_356 : decode cL_law 356 = .ok (.goto 4, 3) := by decide +kernel
theorem dL_law_359 : decode cL_law 359 = .ok (.iconst 0, 1) := by decide +kernel
theorem dL_law_360 : decode cL_law 360 = .ok (.invokevirtual 27, 3) := by decide +kernel
theorem dL_law_363 : decode cL_law 363 = .ok (.aload_n 2, 1) := by decide +kernel
theorem dL_law_364 : decode cL_law 364 = .ok (.aload_n 0, 1) := by decide +kernel
theorem dL_law_365 : decode cL_law 365 = .ok (.iload_n 3, 1) := by decide +kernel
theorem dL_law_366 : decode cL_law 366 = .ok (.iconst 1, 1) := by decide +kernel
theorem dL_law_367 : decode cL_law 367 = .ok (.iadd, 1) := by decide +kernel
theorem dL_law_368 : decode cL_law 368 = .ok (.iaload, 1) := by decide +kernel
theorem dL_law_369 : decode cL_law 369 = .ok (.aload_n 0, 1) := by decide +kernel
theorem dL_law_370 : decode cL_law 370 = .ok (.iload_n 3, 1) := by decide +kernel
theorem dL_law_371 : decode cL_law 371 = .ok (.iconst 2, 1) := by decide +kernel
theorem dL_law_372 : decode cL_law 372 = .ok (.iadd, 1) := by decide +kernel
theorem dL_law_373 : decode cL_law 373 = .ok (.iaload, 1) := by decide +kernel
theorem dL_law_374 : decode cL_law 374 = .ok (.ifCond .eq 7, 3) := by decide +kernel
theorem dL_law_377 : decode cL_law 377 = .ok (.iconst 1, 1) := by decide +kernel
theorem dL_law_378 : decode cL_law 378 = .ok (.goto 4, 3) := by decide +kernel
theorem dL_law_381 : decode cL_law 381 = .ok (.iconst 0, 1) := by decide +kernel
theorem dL_law_382 : decode cL_law 382 = .ok (.invokevirtual 31, 3) := by decide +kernel
theorem dL_law_385 : decode cL_law 385 = .ok (.if_icmp .eq 1251, 3) := by decide +kernel
theorem dL_law_388 : decode cL_law 388 = .ok (.iconst 0, 1) := by decide +kernel
theorem dL_law_389 : decode cL_law 389 = .ok (.ireturn, 1) := by decide +kernel
theorem dL_law_390 : decode cL_law 390 = .ok (.aload_n 1, 1) := by decide +kernel
theorem dL_law_391 : decode cL_law 391 = .ok (.invokevirtual 32, 3) := by decide +kernel
theorem dL_law_394 : decode cL_law 394 = .ok (.aload_n 2, 1) := by decide +kernel
theorem dL_law_395 : decode cL_law 395 = .ok (.invokevirtual 36, 3) := by decide +kernel
theorem dL_law_398 : decode cL_law 398 = .ok (.if_icmp .eq 1238, 3) := by decide +kernel
theorem dL_law_401 : decode cL_law 401 = .ok (.iconst 0, 1) := by decide +kernel
theorem dL_law_402 : decode cL_law 402 = .ok (.ireturn, 1) := by decide +kernel
theorem dL_law_403 : decode cL_law 403 = .ok (.aload_n 1, 1) := by decide +kernel
theorem dL_law_404 : decode cL_law 404 = .ok (.aload_n 0, 1) := by decide +kernel
theorem dL_law_405 : decode cL_law 405 = .ok (.iload_n 3, 1) := by decide +kernel
theorem dL_law_406 : decode cL_law 406 = .ok (.iconst 1, 1) := by decide +kernel
theorem dL_law_407 : decode cL_law 407 = .ok (.iadd, 1) := by decide +kernel
theorem dL_law_408 : decode cL_law 408 = .ok (.iaload, 1) := by decide +kernel
theorem dL_law_409 : decode cL_law 409 = .ok (.aload_n 0, 1) := by decide +kernel
theorem dL_law_410 : decode cL_law 410 = .ok (.iload_n 3, 1) := by decide +kernel
theorem dL_law_411 : decode cL_law 411 = .ok (.iconst 2, 1) := by decide +kernel
theorem dL_law_412 : decode cL_law 412 = .ok (.iadd, 1) := by decide +kernel
theorem dL_law_413 : decode cL_law 413 = .ok (.iaload, 1) := by decide +kernel
theorem dL_law_414 : decode cL_law 414 = .ok (.invokevirtual 37, 3) := by decide +kernel
theorem dL_law_417 : decode cL_law 417 = .ok (.aload_n 2, 1) := by decide +kernel
theorem dL_law_418 : decode cL_law 418 = .ok (.aload_n 0, 1) := by decide +kernel
theorem dL_law_419 : decode cL_law 419 = .ok (.iload_n 3, 1) := by decide +kernel
theorem dL_law_420 : decode cL_law 420 = .ok (.iconst 1, 1) := by decide +kernel
theorem dL_law_421 : decode cL_law 421 = .ok (.iadd, 1) := by decide +kernel
theorem dL_law_422 : decode cL_law 422 = .ok (.iaload, 1) := by decide +kernel
theorem dL_law_423 : decode cL_law 423 = .ok (.aload_n 0, 1) := by decide +kernel
theorem dL_law_424 : decode cL_law 424 = .ok (.iload_n 3, 1) := by decide +kernel
theorem dL_law_425 : decode cL_law 425 = .ok (.iconst 2, 1) := by decide +kernel
theorem dL_law_426 : decode cL_law 426 = .ok (.iadd, 1) := by decide +kernel
theorem dL_law_427 : decode cL_law 427 = .ok (.iaload, 1) := by decide +kernel
theorem dL_law_428 : decode cL_law 428 = .ok (.invokevirtual 40, 3) := by decide +kernel
theorem dL_law_431 : decode cL_law 431 = .ok (.if_icmp .eq 1205, 3) := by decide +kernel
theorem dL_law_434 : decode cL_law 434 = .ok (.iconst 0, 1) := by decide +kernel
theorem dL_law_435 : decode cL_law 435 = .ok (.ireturn, 1) := by decide +kernel
theorem dL_law_436 : decode cL_law 436 = .ok (.aload_n 1, 1) := by decide +kernel
theorem dL_law_437 : decode cL_law 437 = .ok (.aload_n 0, 1) := by decide +kernel
theorem dL_law_438 : decode cL_law 438 = .ok (.iload_n 3, 1) := by decide +kernel
theorem dL_law_439 : decode cL_law 439 = .ok (.iconst 1, 1) := by decide +kernel
theorem dL_law_440 : decode cL_law 440 = .ok (.iadd, 1) := by decide +kernel
theorem dL_law_441 : decode cL_law 441 = .ok (.iaload, 1) := by decide +kernel
theorem dL_law_442 : decode cL_law 442 = .ok (.aload_n 0, 1) := by decide +kernel
theorem dL_law_443 : decode cL_law 443 = .ok (.iload_n 3, 1) := by decide +kernel
theorem dL_law_444 : decode cL_law 444 = .ok (.iconst 2, 1) := by decide +kernel
theorem dL_law_445 : decode cL_law 445 = .ok (.iadd, 1) := by decide +kernel
theorem dL_law_446 : decode cL_law 446 = .ok (.iaload, 1) := by decide +kernel
theorem dL_law_447 : decode cL_law 447 = .ok (.invokevirtual 41, 3) := by decide +kernel
theorem dL_law_450 : decode cL_law 450 = .ok (.aload_n 2, 1) := by decide +kernel
theorem dL_law_451 : decode cL_law 451 = .ok (.aload_n 0, 1) := by decide +kernel
theorem dL_law_452 : decode cL_law 452 = .ok (.iload_n 3, 1) := by decide +kernel
theorem dL_law_453 : decode cL_law 453 = .ok (.iconst 1, 1) := by decide +kernel
theorem dL_law_454 : decode cL_law 454 = .ok (.iadd, 1) := by decide +kernel
theorem dL_law_455 : decode cL_law 455 = .ok (.iaload, 1) := by decide +kernel
theorem dL_law_456 : decode cL_law 456 = .ok (.aload_n 0, 1) := by decide +kernel
theorem dL_law_457 : decode cL_law 457 = .ok (.iload_n 3, 1) := by decide +kernel
theorem dL_law_458 : decode cL_law 458 = .ok (.iconst 2, 1) := by decide +kernel
theorem dL_law_459 : decode cL_law 459 = .ok (.iadd, 1) := by decide +kernel
theorem dL_law_460 : decode cL_law 460 = .ok (.iaload, 1) := by decide +kernel
theorem dL_law_461 : decode cL_law 461 = .ok (.invokevirtual 44, 3) := by decide +kernel
theorem dL_law_464 : decode cL_law 464 = .ok (.if_icmp .eq 1172, 3) := by decide +kernel
theorem dL_law_467 : decode cL_law 467 = .ok (.iconst 0, 1) := by decide +kernel
theorem dL_law_468 : decode cL_law 468 = .ok (.ireturn, 1) := by decide +kernel
theorem dL_law_469 : decode cL_law 469 = .ok (.aload_n 1, 1) := by decide +kernel
theorem dL_law_470 : decode cL_law 470 = .ok (.aload_n 0, 1) := by decide +kernel
theorem dL_law_471 : decode cL_law 471 = .ok (.iload_n 3, 1) := by decide +kernel
theorem dL_law_472 : decode cL_law 472 = .ok (.iconst 1, 1) := by decide +kernel
theorem dL_law_473 : decode cL_law 473 = .ok (.iadd, 1) := by decide +kernel
theorem dL_law_474 : decode cL_law 474 = .ok (.iaload, 1) := by decide +kernel
theorem dL_law_475 : decode cL_law 475 = .ok (.invokevirtual 45, 3) := by decide +kernel
theorem dL_law_478 : decode cL_law 478 = .ok (.aload_n 2, 1) := by decide +kernel
theorem dL_law_479 : decode cL_law 479 = .ok (.aload_n 0, 1) := by decide +kernel
theorem dL_law_480 : decode cL_law 480 = .ok (.iload_n 3, 1) := by decide +kernel
theorem dL_law_481 : decode cL_law 481 = .ok (.iconst 1, 1) := by decide +kernel
theorem dL_law_482 : decode cL_law 482 = .ok (.iadd, 1) := by decide +kernel
theorem dL_law_483 : decode cL_law 483 = .ok (.iaload, 1) := by decide +kernel
theorem dL_law_484 : decode cL_law 484 = .ok (.invokevirtual 49, 3) := by decide +kernel
theorem dL_law_487 : decode cL_law 487 = .ok (.if_icmp .eq 1149, 3) := by decide +kernel
theorem dL_law_490 : decode cL_law 490 = .ok (.iconst 0, 1) := by decide +kernel
theorem dL_law_491 : decode cL_law 491 = .ok (.ireturn, 1) := by decide +kernel
theorem dL_law_492 : decode cL_law 492 = .ok (.aload_n 1, 1) := by decide +kernel
theorem dL_law_493 : decode cL_law 493 = .ok (.aload_n 0, 1) := by decide +kernel
theorem dL_law_494 : decode cL_law 494 = .ok (.iload_n 3, 1) := by decide +kernel
theorem dL_law_495 : decode cL_law 495 = .ok (.iconst 1, 1) := by decide +kernel
theorem dL_law_496 : decode cL_law 496 = .ok (.iadd, 1) := by decide +kernel
theorem dL_law_497 : decode cL_law 497 = .ok (.iaload, 1) := by decide +kernel
theorem dL_law_498 : decode cL_law 498 = .ok (.aload_n 0, 1) := by decide +kernel
theorem dL_law_499 : decode cL_law 499 = .ok (.iload_n 3, 1) := by decide +kernel
theorem dL_law_500 : decode cL_law 500 = .ok (.iconst 2, 1) := by decide +kernel
theorem dL_law_501 : decode cL_law 501 = .ok (.iadd, 1) := by decide +kernel
theorem dL_law_502 : decode cL_law 502 = .ok (.iaload, 1) := by decide +kernel
theorem dL_law_503 : decode cL_law 503 = .ok (.invokevirtual 50, 3) := by decide +kernel
theorem dL_law_506 : decode cL_law 506 = .ok (.aload_n 2, 1) := by decide +kernel
theorem dL_law_507 : decode cL_law 507 = .ok (.aload_n 0, 1) := by decide +kernel
theorem dL_law_508 : decode cL_law 508 = .ok (.iload_n 3, 1) := by decide +kernel
theorem dL_law_509 : decode cL_law 509 = .ok (.iconst 1, 1) := by decide +kernel
theorem dL_law_510 : decode cL_law 510 = .ok (.iadd, 1) := by decide +kernel
theorem dL_law_511 : decode cL_law 511 = .ok (.iaload, 1) := by decide +kernel
theorem dL_law_512 : decode cL_law 512 = .ok (.aload_n 0, 1) := by decide +kernel
theorem dL_law_513 : decode cL_law 513 = .ok (.iload_n 3, 1) := by decide +kernel
theorem dL_law_514 : decode cL_law 514 = .ok (.iconst 2, 1) := by decide +kernel
theorem dL_law_515 : decode cL_law 515 = .ok (.iadd, 1) := by decide +kernel
theorem dL_law_516 : decode cL_law 516 = .ok (.iaload, 1) := by decide +kernel
theorem dL_law_517 : decode cL_law 517 = .ok (.invokevirtual 53, 3) := by decide +kernel
theorem dL_law_520 : decode cL_law 520 = .ok (.if_icmp .eq 1116, 3) := by decide +kernel
theorem dL_law_523 : decode cL_law 523 = .ok (.iconst 0, 1) := by decide +kernel
theorem dL_law_524 : decode cL_law 524 = .ok (.ireturn, 1) := by decide +kernel
theorem dL_law_525 : decode cL_law 525 = .ok (.aload_n 1, 1) := by decide +kernel
theorem dL_law_526 : decode cL_law 526 = .ok (.aload_n 0, 1) := by decide +kernel
theorem dL_law_527 : decode cL_law 527 = .ok (.iload_n 3, 1) := by decide +kernel
theorem dL_law_528 : decode cL_law 528 = .ok (.iconst 1, 1) := by decide +kernel
theorem dL_law_529 : decode cL_law 529 = .ok (.iadd, 1) := by decide +kernel
theorem dL_law_530 : decode cL_law 530 = .ok (.iaload, 1) := by decide +kernel
theorem dL_law_531 : decode cL_law 531 = .ok (.aload_n 0, 1) := by decide +kernel
theorem dL_law_532 : decode cL_law 532 = .ok (.iload_n 3, 1) := by decide +kernel
theorem dL_law_533 : decode cL_law 533 = .ok (.iconst 2, 1) := by decide +kernel
theorem dL_law_534 : decode cL_law 534 = .ok (.iadd, 1) := by decide +kernel
theorem dL_law_535 : decode cL_law 535 = .ok (.iaload, 1) := by decide +kernel
theorem dL_law_536 : decode cL_law 536 = .ok (.invokevirtual 54, 3) := by decide +kernel
theorem dL_law_539 : decode cL_law 539 = .ok (.aload_n 2, 1) := by decide +kernel
theorem dL_law_540 : decode cL_law 540 = .ok (.aload_n 0, 1) := by decide +kernel
theorem dL_law_541 : decode cL_law 541 = .ok (.iload_n 3, 1) := by decide +kernel
theorem dL_law_542 : decode cL_law 542 = .ok (.iconst 1, 1) := by decide +kernel
theorem dL_law_543 : decode cL_law 543 = .ok (.iadd, 1) := by decide +kernel
theorem dL_law_544 : decode cL_law 544 = .ok (.iaload, 1) := by decide +kernel
theorem dL_law_545 : decode cL_law 545 = .ok (.aload_n 0, 1) := by decide +kernel
theorem dL_law_546 : decode cL_law 546 = .ok (.iload_n 3, 1) := by decide +kernel
theorem dL_law_547 : decode cL_law 547 = .ok (.iconst 2, 1) := by decide +kernel
theorem dL_law_548 : decode cL_law 548 = .ok (.iadd, 1) := by decide +kernel
theorem dL_law_549 : decode cL_law 549 = .ok (.iaload, 1) := by decide +kernel
theorem dL_law_550 : decode cL_law 550 = .ok (.invokevirtual 57, 3) := by decide +kernel
theorem dL_law_553 : decode cL_law 553 = .ok (.if_icmp .eq 1083, 3) := by decide +kernel
theorem dL_law_556 : decode cL_law 556 = .ok (.iconst 0, 1) := by decide +kernel
theorem dL_law_557 : decode cL_law 557 = .ok (.ireturn, 1) := by decide +kernel
theorem dL_law_558 : decode cL_law 558 = .ok (.aload_n 1, 1) := by decide +kernel
theorem dL_law_559 : decode cL_law 559 = .ok (.aload_n 0, 1) := by decide +kernel
theorem dL_law_560 : decode cL_law 560 = .ok (.iload_n 3, 1) := by decide +kernel
theorem dL_law_561 : decode cL_law 561 = .ok (.iconst 1, 1) := by decide +kernel
theorem dL_law_562 : decode cL_law 562 = .ok (.iadd, 1) := by decide +kernel
theorem dL_law_563 : decode cL_law 563 = .ok (.iaload, 1) := by decide +kernel
theorem dL_law_564 : decode cL_law 564 = .ok (.invokevirtual 58, 3) := by decide +kernel
theorem dL_law_567 : decode cL_law 567 = .ok (.aload_n 2, 1) := by decide +kernel
theorem dL_law_568 : decode cL_law 568 = .ok (.aload_n 0, 1) := by decide +kernel
theorem dL_law_569 : decode cL_law 569 = .ok (.iload_n 3, 1) := by decide +kernel
theorem dL_law_570 : decode cL_law 570 = .ok (.iconst 1, 1) := by decide +kernel
theorem dL_law_571 : decode cL_law 571 = .ok (.iadd, 1) := by decide +kernel
theorem dL_law_572 : decode cL_law 572 = .ok (.iaload, 1) := by decide +kernel
theorem dL_law_573 : decode cL_law 573 = .ok (.invokevirtual 61, 3) := by decide +kernel
theorem dL_law_576 : decode cL_law 576 = .ok (.if_icmp .eq 1060, 3) := by decide +kernel
theorem dL_law_579 : decode cL_law 579 = .ok (.iconst 0, 1) := by decide +kernel
theorem dL_law_580 : decode cL_law 580 = .ok (.ireturn, 1) := by decide +kernel
theorem dL_law_581 : decode cL_law 581 = .ok (.aload_n 1, 1) := by decide +kernel
theorem dL_law_582 : decode cL_law 582 = .ok (.aload_n 0, 1) := by decide +kernel
theorem dL_law_583 : decode cL_law 583 = .ok (.iload_n 3, 1) := by decide +kernel
theorem dL_law_584 : decode cL_law 584 = .ok (.iconst 1, 1) := by decide +kernel
theorem dL_law_585 : decode cL_law 585 = .ok (.iadd, 1) := by decide +kernel
theorem dL_law_586 : decode cL_law 586 = .ok (.iaload, 1) := by decide +kernel
theorem dL_law_587 : decode cL_law 587 = .ok (.aload_n 0, 1) := by decide +kernel
theorem dL_law_588 : decode cL_law 588 = .ok (.iload_n 3, 1) := by decide +kernel
theorem dL_law_589 : decode cL_law 589 = .ok (.iconst 2, 1) := by decide +kernel
theorem dL_law_590 : decode cL_law 590 = .ok (.iadd, 1) := by decide +kernel
theorem dL_law_591 : decode cL_law 591 = .ok (.iaload, 1) := by decide +kernel
theorem dL_law_592 : decode cL_law 592 = .ok (.invokevirtual 62, 3) := by decide +kernel
theorem dL_law_595 : decode cL_law 595 = .ok (.aload_n 2, 1) := by decide +kernel
theorem dL_law_596 : decode cL_law 596 = .ok (.aload_n 0, 1) := by decide +kernel
theorem dL_law_597 : decode cL_law 597 = .ok (.iload_n 3, 1) := by decide +kernel
theorem dL_law_598 : decode cL_law 598 = .ok (.iconst 1, 1) := by decide +kernel
theorem dL_law_599 : decode cL_law 599 = .ok (.iadd, 1) := by decide +kernel
theorem dL_law_600 : decode cL_law 600 = .ok (.iaload, 1) := by decide +kernel
theorem dL_law_601 : decode cL_law 601 = .ok (.aload_n 0, 1) := by decide +kernel
theorem dL_law_602 : decode cL_law 602 = .ok (.iload_n 3, 1) := by decide +kernel
theorem dL_law_603 : decode cL_law 603 = .ok (.iconst 2, 1) := by decide +kernel
theorem dL_law_604 : decode cL_law 604 = .ok (.iadd, 1) := by decide +kernel
theorem dL_law_605 : decode cL_law 605 = .ok (.iaload, 1) := by decide +kernel
theorem dL_law_606 : decode cL_law 606 = .ok (.invokevirtual 65, 3) := by decide +kernel
theorem dL_law_609 : decode cL_law 609 = .ok (.if_icmp .eq 1027, 3) := by decide +kernel
theorem dL_law_612 : decode cL_law 612 = .ok (.iconst 0, 1) := by decide +kernel
theorem dL_law_613 : decode cL_law 613 = .ok (.ireturn, 1) := by decide +kernel
theorem dL_law_614 : decode cL_law 614 = .ok (.aload_n 1, 1) := by decide +kernel
theorem dL_law_615 : decode cL_law 615 = .ok (.aload_n 0, 1) := by decide +kernel
theorem dL_law_616 : decode cL_law 616 = .ok (.iload_n 3, 1) := by decide +kernel
theorem dL_law_617 : decode cL_law 617 = .ok (.iconst 1, 1) := by decide +kernel
theorem dL_law_618 : decode cL_law 618 = .ok (.iadd, 1) := by decide +kernel
theorem dL_law_619 : decode cL_law 619 = .ok (.iaload, 1) := by decide +kernel
theorem dL_law_620 : decode cL_law 620 = .ok (.invokevirtual 66, 3) := by decide +kernel
theorem dL_law_623 : decode cL_law 623 = .ok (.aload_n 2, 1) := by decide +kernel
theorem dL_law_624 : decode cL_law 624 = .ok (.aload_n 0, 1) := by decide +kernel
theorem dL_law_625 : decode cL_law 625 = .ok (.iload_n 3, 1) := by decide +kernel
theorem dL_law_626 : decode cL_law 626 = .ok (.iconst 1, 1) := by decide +kernel
theorem dL_law_627 : decode cL_law 627 = .ok (.iadd, 1) := by decide +kernel
theorem dL_law_628 : decode cL_law 628 = .ok (.iaload, 1) := by decide +kernel
theorem dL_law_629 : decode cL_law 629 = .ok (.invokevirtual 69, 3) := by decide +kernel
theorem dL_law_632 : decode cL_law 632 = .ok (.if_icmp .eq 1004, 3) := by decide +kernel
theorem dL_law_635 : decode cL_law 635 = .ok (.iconst 0, 1) := by decide +kernel
theorem dL_law_636 : decode cL_law 636 = .ok (.ireturn, 1) := by decide +kernel
theorem dL_law_637 : decode cL_law 637 = .ok (.aload_n 1, 1) := by decide +kernel
theorem dL_law_638 : decode cL_law 638 = .ok (.aload_n 0, 1) := by decide +kernel
theorem dL_law_639 : decode cL_law 639 = .ok (.iload_n 3, 1) := by decide +kernel
theorem dL_law_640 : decode cL_law 640 = .ok (.iconst 1, 1) := by decide +kernel
theorem dL_law_641 : decode cL_law 641 = .ok (.iadd, 1) := by decide +kernel
theorem dL_law_642 : decode cL_law 642 = .ok (.iaload, 1) := by decide +kernel
theorem dL_law_643 : decode cL_law 643 = .ok (.aload_n 0, 1) := by decide +kernel
theorem dL_law_644 : decode cL_law 644 = .ok (.iload_n 3, 1) := by decide +kernel
theorem dL_law_645 : decode cL_law 645 = .ok (.iconst 2, 1) := by decide +kernel
theorem dL_law_646 : decode cL_law 646 = .ok (.iadd, 1) := by decide +kernel
theorem dL_law_647 : decode cL_law 647 = .ok (.iaload, 1) := by decide +kernel
theorem dL_law_648 : decode cL_law 648 = .ok (.invokevirtual 70, 3) := by decide +kernel
theorem dL_law_651 : decode cL_law 651 = .ok (.aload_n 2, 1) := by decide +kernel
theorem dL_law_652 : decode cL_law 652 = .ok (.aload_n 0, 1) := by decide +kernel
theorem dL_law_653 : decode cL_law 653 = .ok (.iload_n 3, 1) := by decide +kernel
theorem dL_law_654 : decode cL_law 654 = .ok (.iconst 1, 1) := by decide +kernel
theorem dL_law_655 : decode cL_law 655 = .ok (.iadd, 1) := by decide +kernel
theorem dL_law_656 : decode cL_law 656 = .ok (.iaload, 1) := by decide +kernel
theorem dL_law_657 : decode cL_law 657 = .ok (.aload_n 0, 1) := by decide +kernel
theorem dL_law_658 : decode cL_law 658 = .ok (.iload_n 3, 1) := by decide +kernel
theorem dL_law_659 : decode cL_law 659 = .ok (.iconst 2, 1) := by decide +kernel
theorem dL_law_660 : decode cL_law 660 = .ok (.iadd, 1) := by decide +kernel
theorem dL_law_661 : decode cL_law 661 = .ok (.iaload, 1) := by decide +kernel
theorem dL_law_662 : decode cL_law 662 = .ok (.invokevirtual 73, 3) := by decide +kernel
theorem dL_law_665 : decode cL_law 665 = .ok (.if_icmp .eq 971, 3) := by decide +kernel
theorem dL_law_668 : decode cL_law 668 = .ok (.iconst 0, 1) := by decide +kernel
theorem dL_law_669 : decode cL_law 669 = .ok (.ireturn, 1) := by decide +kernel
theorem dL_law_670 : decode cL_law 670 = .ok (.aload_n 1, 1) := by decide +kernel
theorem dL_law_671 : decode cL_law 671 = .ok (.invokevirtual 74, 3) := by decide +kernel
theorem dL_law_674 : decode cL_law 674 = .ok (.aload_n 2, 1) := by decide +kernel
theorem dL_law_675 : decode cL_law 675 = .ok (.invokevirtual 77, 3) := by decide +kernel
theorem dL_law_678 : decode cL_law 678 = .ok (.if_icmp .eq 958, 3) := by decide +kernel
theorem dL_law_681 : decode cL_law 681 = .ok (.iconst 0, 1) := by decide +kernel
theorem dL_law_682 : decode cL_law 682 = .ok (.ireturn, 1) := by decide +kernel
theorem dL_law_683 : decode cL_law 683 = .ok (.aload_n 1, 1) := by decide +kernel
theorem dL_law_684 : decode cL_law 684 = .ok (.invokevirtual 78, 3) := by decide +kernel
theorem dL_law_687 : decode cL_law 687 = .ok (.aload_n 2, 1) := by decide +kernel
theorem dL_law_688 : decode cL_law 688 = .ok (.invokevirtual 81, 3) := by decide +kernel
theorem dL_law_691 : decode cL_law 691 = .ok (.if_icmp .eq 945, 3) := by decide +kernel
theorem dL_law_694 : decode cL_law 694 = .ok (.iconst 0, 1) := by decide +kernel
theorem dL_law_695 : decode cL_law 695 = .ok (.ireturn, 1) := by decide +kernel
theorem dL_law_696 : decode cL_law 696 = .ok (.aload_n 1, 1) := by decide +kernel
theorem dL_law_697 : decode cL_law 697 = .ok (.aload_n 0, 1) := by decide +kernel
theorem dL_law_698 : decode cL_law 698 = .ok (.iload_n 3, 1) := by decide +kernel
theorem dL_law_699 : decode cL_law 699 = .ok (.iconst 1, 1) := by decide +kernel
theorem dL_law_700 : decode cL_law 700 = .ok (.iadd, 1) := by decide +kernel
theorem dL_law_701 : decode cL_law 701 = .ok (.iaload, 1) := by decide +kernel
theorem dL_law_702 : decode cL_law 702 = .ok (.aload_n 0, 1) := by decide +kernel
theorem dL_law_703 : decode cL_law 703 = .ok (.iload_n 3, 1) := by decide +kernel
theorem dL_law_704 : decode cL_law 704 = .ok (.iconst 2, 1) := by decide +kernel
theorem dL_law_705 : decode cL_law 705 = .ok (.iadd, 1) := by decide +kernel
theorem dL_law_706 : decode cL_law 706 = .ok (.iaload, 1) := by decide +kernel
theorem dL_law_707 : decode cL_law 707 = .ok (.invokevirtual 82, 3) := by decide +kernel
theorem dL_law_710 : decode cL_law 710 = .ok (.aload_n 2, 1) := by decide +kernel
theorem dL_law_711 : decode cL_law 711 = .ok (.aload_n 0, 1) := by decide +kernel
theorem dL_law_712 : decode cL_law 712 = .ok (.iload_n 3, 1) := by decide +kernel
theorem dL_law_713 : decode cL_law 713 = .ok (.iconst 1, 1) := by decide +kernel
theorem dL_law_714 : decode cL_law 714 = .ok (.iadd, 1) := by decide +kernel
theorem dL_law_715 : decode cL_law 715 = .ok (.iaload, 1) := by decide +kernel
theorem dL_law_716 : decode cL_law 716 = .ok (.aload_n 0, 1) := by decide +kernel
theorem dL_law_717 : decode cL_law 717 = .ok (.iload_n 3, 1) := by decide +kernel
theorem dL_law_718 : decode cL_law 718 = .ok (.iconst 2, 1) := by decide +kernel
theorem dL_law_719 : decode cL_law 719 = .ok (.iadd, 1) := by decide +kernel
theorem dL_law_720 : decode cL_law 720 = .ok (.iaload, 1) := by decide +kernel
theorem dL_law_721 : decode cL_law 721 = .ok (.invokevirtual 85, 3) := by decide +kernel
theorem dL_law_724 : decode cL_law 724 = .ok (.if_icmp .eq 912, 3) := by decide +kernel
theorem dL_law_727 : decode cL_law 727 = .ok (.iconst 0, 1) := by decide +kernel
theorem dL_law_728 : decode cL_law 728 = .ok (.ireturn, 1) := by decide +kernel
theorem dL_law_729 : decode cL_law 729 = .ok (.aload_n 1, 1) := by decide +kernel
theorem dL_law_730 : decode cL_law 730 = .ok (.aload_n 0, 1) := by decide +kernel
theorem dL_law_731 : decode cL_law 731 = .ok (.iload_n 3, 1) := by decide +kernel
theorem dL_law_732 : decode cL_law 732 = .ok (.iconst 1, 1) := by decide +kernel
theorem dL_law_733 : decode cL_law 733 = .ok (.iadd, 1) := by decide +kernel
theorem dL_law_734 : decode cL_law 734 = .ok (.iaload, 1) := by decide +kernel
theorem dL_law_735 : decode cL_law 735 = .ok (.aload_n 0, 1) := by decide +kernel
theorem dL_law_736 : decode cL_law 736 = .ok (.iload_n 3, 1) := by decide +kernel
theorem dL_law_737 : decode cL_law 737 = .ok (.iconst 2, 1) := by decide +kernel
theorem dL_law_738 : decode cL_law 738 = .ok (.iadd, 1) := by decide +kernel
theorem dL_law_739 : decode cL_law 739 = .ok (.iaload, 1) := by decide +kernel
theorem dL_law_740 : decode cL_law 740 = .ok (.aload_n 0, 1) := by decide +kernel
theorem dL_law_741 : decode cL_law 741 = .ok (.iload_n 3, 1) := by decide +kernel
theorem dL_law_742 : decode cL_law 742 = .ok (.iconst 3, 1) := by decide +kernel
theorem dL_law_743 : decode cL_law 743 = .ok (.iadd, 1) := by decide +kernel
theorem dL_law_744 : decode cL_law 744 = .ok (.iaload, 1) := by decide +kernel
theorem dL_law_745 : decode cL_law 745 = .ok (.invokevirtual 86, 3) := by decide +kernel
theorem dL_law_748 : decode cL_law 748 = .ok (.aload_n 2, 1) := by decide +kernel
theorem dL_law_749 : decode cL_law 749 = .ok (.aload_n 0, 1) := by decide +kernel
theorem dL_law_750 : decode cL_law 750 = .ok (.iload_n 3, 1) := by decide +kernel
theorem dL_law_751 : decode cL_law 751 = .ok (.iconst 1, 1) := by decide +kernel
theorem dL_law_752 : decode cL_law 752 = .ok (.iadd, 1) := by decide +kernel
theorem dL_law_753 : decode cL_law 753 = .ok (.iaload, 1) := by decide +kernel
theorem dL_law_754 : decode cL_law 754 = .ok (.aload_n 0, 1) := by decide +kernel
theorem dL_law_755 : decode cL_law 755 = .ok (.iload_n 3, 1) := by decide +kernel
theorem dL_law_756 : decode cL_law 756 = .ok (.iconst 2, 1) := by decide +kernel
theorem dL_law_757 : decode cL_law 757 = .ok (.iadd, 1) := by decide +kernel
theorem dL_law_758 : decode cL_law 758 = .ok (.iaload, 1) := by decide +kernel
theorem dL_law_759 : decode cL_law 759 = .ok (.aload_n 0, 1) := by decide +kernel
theorem dL_law_760 : decode cL_law 760 = .ok (.iload_n 3, 1) := by decide +kernel
theorem dL_law_761 : decode cL_law 761 = .ok (.iconst 3, 1) := by decide +kernel
theorem dL_law_762 : decode cL_law 762 = .ok (.iadd, 1) := by decide +kernel
theorem dL_law_763 : decode cL_law 763 = .ok (.iaload, 1) := by decide +kernel
theorem dL_law_764 : decode cL_law 764 = .ok (.invokevirtual 89, 3) := by decide +kernel
theorem dL_law_767 : decode cL_law 767 = .ok (.if_icmp .eq 869, 3) := by decide +kernel
theorem dL_law_770 : decode cL_law 770 = .ok (.iconst 0, 1) := by decide +kernel
theorem dL_law_771 : decode cL_law 771 = .ok (.ireturn, 1) := by decide +kernel
theorem dL_law_772 : decode cL_law 772 = .ok (.aload_n 1, 1) := by decide +kernel
theorem dL_law_773 : decode cL_law 773 = .ok (.aload_n 0, 1) := by decide +kernel
theorem dL_law_774 : decode cL_law 774 = .ok (.iload_n 3, 1) := by decide +kernel
theorem dL_law_775 : decode cL_law 775 = .ok (.iconst 1, 1) := by decide +kernel
theorem dL_law_776 : decode cL_law 776 = .ok (.iadd, 1) := by decide +kernel
theorem dL_law_777 : decode cL_law 777 = .ok (.iaload, 1) := by decide +kernel
theorem dL_law_778 : decode cL_law 778 = .ok (.aload_n 0, 1) := by decide +kernel
theorem dL_law_779 : decode cL_law 779 = .ok (.iload_n 3, 1) := by decide +kernel
theorem dL_law_780 : decode cL_law 780 = .ok (.iconst 2, 1) := by decide +kernel
theorem dL_law_781 : decode cL_law 781 = .ok (.iadd, 1) := by decide +kernel
theorem dL_law_782 : decode cL_law 782 = .ok (.iaload, 1) := by decide +kernel
theorem dL_law_783 : decode cL_law 783 = .ok (.aload_n 0, 1) := by decide +kernel
theorem dL_law_784 : decode cL_law 784 = .ok (.iload_n 3, 1) := by decide +kernel
theorem dL_law_785 : decode cL_law 785 = .ok (.iconst 3, 1) := by decide +kernel
theorem dL_law_786 : decode cL_law 786 = .ok (.iadd, 1) := by decide +kernel
theorem dL_law_787 : decode cL_law 787 = .ok (.iaload, 1) := by decide +kernel
theorem dL_law_788 : decode cL_law 788 = .ok (.aload_n 0, 1) := by decide +kernel
theorem dL_law_789 : decode cL_law 789 = .ok (.iload_n 3, 1) := by decide +kernel
theorem dL_law_790 : decode cL_law 790 = .ok (.iconst 4, 1) := by decide +kernel
theorem dL_law_791 : decode cL_law 791 = .ok (.iadd, 1) := by decide +kernel
theorem dL_law_792 : decode cL_law 792 = .ok (.iaload, 1) := by decide +kernel
theorem dL_law_793 : decode cL_law 793 = .ok (.invokevirtual 90, 3) := by decide +kernel
theorem dL_law_796 : decode cL_law 796 = .ok (.aload_n 2, 1) := by decide +kernel
theorem dL_law_797 : decode cL_law 797 = .ok (.aload_n 0, 1) := by decide +kernel
theorem dL_law_798 : decode cL_law 798 = .ok (.iload_n 3, 1) := by decide +kernel
theorem dL_law_799 : decode cL_law 799 = .ok (.iconst 1, 1) := by decide +kernel
theorem dL_law_800 : decode cL_law 800 = .ok (.iadd, 1) := by decide +kernel
theorem dL_law_801 : decode cL_law 801 = .ok (.iaload, 1) := by decide +kernel
theorem dL_law_802 : decode cL_law 802 = .ok (.aload_n 0, 1) := by decide +kernel
theorem dL_law_803 : decode cL_law 803 = .ok (.iload_n 3, 1) := by decide +kernel
theorem dL_law_804 : decode cL_law 804 = .ok (.iconst 2, 1) := by decide +kernel
theorem dL_law_805 : decode cL_law 805 = .ok (.iadd, 1) := by decide +kernel
theorem dL_law_806 : decode cL_law 806 = .ok (.iaload, 1) := by decide +kernel
theorem dL_law_807 : decode cL_law 807 = .ok (.aload_n 0, 1) := by decide +kernel
theorem dL_law_808 : decode cL_law 808 = .ok (.iload_n 3, 1) := by decide +kernel
theorem dL_law_809 : decode cL_law 809 = .ok (.iconst 3, 1) := by decide +kernel
theorem dL_law_810 : decode cL_law 810 = .ok (.iadd, 1) := by decide +kernel
theorem dL_law_811 : decode cL_law 811 = .ok (.iaload, 1) := by decide +kernel
theorem dL_law_812 : decode cL_law 812 = .ok (.aload_n 0, 1) := by decide +kernel
theorem dL_law_813 : decode cL_law 813 = .ok (.iload_n 3, 1) := by decide +kernel
theorem dL_law_814 : decode cL_law 814 = .ok (.iconst 4, 1) := by decide +kernel
theorem dL_law_815 : decode cL_law 815 = .ok (.iadd, 1) := by decide +kernel
theorem dL_law_816 : decode cL_law 816 = .ok (.iaload, 1) := by decide +kernel
theorem dL_law_817 : decode cL_law 817 = .ok (.invokevirtual 94, 3) := by decide +kernel
theorem dL_law_820 : decode cL_law 820 = .ok (.if_icmp .eq 816, 3) := by decide +kernel
theorem dL_law_823 : decode cL_law 823 = .ok (.iconst 0, 1) := by decide +kernel
theorem dL_law_824 : decode cL_law 824 = .ok (.ireturn, 1) := by decide +kernel
theorem dL_law_825 : decode cL_law 825 = .ok (.aload_n 1, 1) := by decide +kernel
theorem dL_law_826 : decode cL_law 826 = .ok (.aload_n 0, 1) := by decide +kernel
theorem dL_law_827 : decode cL_law 827 = .ok (.iload_n 3, 1) := by decide +kernel
theorem dL_law_828 : decode cL_law 828 = .ok (.iconst 1, 1) := by decide +kernel
theorem dL_law_829 : decode cL_law 829 = .ok (.iadd, 1) := by decide +kernel
theorem dL_law_830 : decode cL_law 830 = .ok (.iaload, 1) := by decide +kernel
theorem dL_law_831 : decode cL_law 831 = .ok (.aload_n 0, 1) := by decide +kernel
theorem dL_law_832 : decode cL_law 832 = .ok (.iload_n 3, 1) := by decide +kernel
theorem dL_law_833 : decode cL_law 833 = .ok (.iconst 2, 1) := by decide +kernel
theorem dL_law_834 : decode cL_law 834 = .ok (.iadd, 1) := by decide +kernel
theorem dL_law_835 : decode cL_law 835 = .ok (.iaload, 1) := by decide +kernel
theorem dL_law_836 : decode cL_law 836 = .ok (.invokevirtual 95, 3) := by decide +kernel
theorem dL_law_839 : decode cL_law 839 = .ok (.aload_n 2, 1) := by decide +kernel
theorem dL_law_840 : decode cL_law 840 = .ok (.aload_n 0, 1) := by decide +kernel
theorem dL_law_841 : decode cL_law 841 = .ok (.iload_n 3, 1) := by decide +kernel
theorem dL_law_842 : decode cL_law 842 = .ok (.iconst 1, 1) := by decide +kernel
theorem dL_law_843 : decode cL_law 843 = .ok (.iadd, 1) := by decide +kernel
theorem dL_law_844 : decode cL_law 844 = .ok (.iaload, 1) := by decide +kernel
theorem dL_law_845 : decode cL_law 845 = .ok (.aload_n 0, 1) := by decide +kernel
theorem dL_law_846 : decode cL_law 846 = .ok (.iload_n 3, 1) := by decide +kernel
theorem dL_law_847 : decode cL_law 847 = .ok (.iconst 2, 1) := by decide +kernel
theorem dL_law_848 : decode cL_law 848 = .ok (.iadd, 1) := by decide +kernel
theorem dL_law_849 : decode cL_law 849 = .ok (.iaload, 1) := by decide +kernel
theorem dL_law_850 : decode cL_law 850 = .ok (.invokevirtual 98, 3) := by decide +kernel
theorem dL_law_853 : decode cL_law 853 = .ok (.if_icmp .eq 783, 3) := by decide +kernel
theorem dL_law_856 : decode cL_law 856 = .ok (.iconst 0, 1) := by decide +kernel
theorem dL_law_857 : decode cL_law 857 = .ok (.ireturn, 1) := by decide +kernel
theorem dL_law_858 : decode cL_law 858 = .ok (.aload_n 1, 1) := by decide +kernel
theorem dL_law_859 : decode cL_law 859 = .ok (.aload_n 0, 1) := by decide +kernel
theorem dL_law_860 : decode cL_law 860 = .ok (.iload_n 3, 1) := by decide +kernel
theorem dL_law_861 : decode cL_law 861 = .ok (.iconst 1, 1) := by decide +kernel
theorem dL_law_862 : decode cL_law 862 = .ok (.iadd, 1) := by decide +kernel
theorem dL_law_863 : decode cL_law 863 = .ok (.iaload, 1) := by decide +kernel
theorem dL_law_864 : decode cL_law 864 = .ok (.aload_n 0, 1) := by decide +kernel
theorem dL_law_865 : decode cL_law 865 = .ok (.iload_n 3, 1) := by decide +kernel
theorem dL_law_866 : decode cL_law 866 = .ok (.iconst 2, 1) := by decide +kernel
theorem dL_law_867 : decode cL_law 867 = .ok (.iadd, 1) := by decide +kernel
theorem dL_law_868 : decode cL_law 868 = .ok (.iaload, 1) := by decide +kernel
theorem dL_law_869 : decode cL_law 869 = .ok (.invokevirtual 99, 3) := by decide +kernel
theorem dL_law_872 : decode cL_law 872 = .ok (.aload_n 2, 1) := by decide +kernel
theorem dL_law_873 : decode cL_law 873 = .ok (.aload_n 0, 1) := by decide +kernel
theorem dL_law_874 : decode cL_law 874 = .ok (.iload_n 3, 1) := by decide +kernel
theorem dL_law_875 : decode cL_law 875 = .ok (.iconst 1, 1) := by decide +kernel
theorem dL_law_876 : decode cL_law 876 = .ok (.iadd, 1) := by decide +kernel
theorem dL_law_877 : decode cL_law 877 = .ok (.iaload, 1) := by decide +kernel
theorem dL_law_878 : decode cL_law 878 = .ok (.aload_n 0, 1) := by decide +kernel
theorem dL_law_879 : decode cL_law 879 = .ok (.iload_n 3, 1) := by decide +kernel
theorem dL_law_880 : decode cL_law 880 = .ok (.iconst 2, 1) := by decide +kernel
theorem dL_law_881 : decode cL_law 881 = .ok (.iadd, 1) := by decide +kernel
theorem dL_law_882 : decode cL_law 882 = .ok (.iaload, 1) := by decide +kernel
theorem dL_law_883 : decode cL_law 883 = .ok (.invokevirtual 102, 3) := by decide +kernel
theorem dL_law_886 : decode cL_law 886 = .ok (.if_icmp .eq 750, 3) := by decide +kernel
theorem dL_law_889 : decode cL_law 889 = .ok (.iconst 0, 1) := by decide +kernel
theorem dL_law_890 : decode cL_law 890 = .ok (.ireturn, 1) := by decide +kernel
theorem dL_law_891 : decode cL_law 891 = .ok (.aload_n 1, 1) := by decide +kernel
theorem dL_law_892 : decode cL_law 892 = .ok (.aload_n 0, 1) := by decide +kernel
theorem dL_law_893 : decode cL_law 893 = .ok (.iload_n 3, 1) := by decide +kernel
theorem dL_law_894 : decode cL_law 894 = .ok (.iconst 1, 1) := by decide +kernel
theorem dL_law_895 : decode cL_law 895 = .ok (.iadd, 1) := by decide +kernel
theorem dL_law_896 : decode cL_law 896 = .ok (.iaload, 1) := by decide +kernel
theorem dL_law_897 : decode cL_law 897 = .ok (.invokevirtual 103, 3) := by decide +kernel
theorem dL_law_900 : decode cL_law 900 = .ok (.aload_n 2, 1) := by decide +kernel
theorem dL_law_901 : decode cL_law 901 = .ok (.aload_n 0, 1) := by decide +kernel
theorem dL_law_902 : decode cL_law 902 = .ok (.iload_n 3, 1) := by decide +kernel
theorem dL_law_903 : decode cL_law 903 = .ok (.iconst 1, 1) := by decide +kernel
theorem dL_law_904 : decode cL_law 904 = .ok (.iadd, 1) := by decide +kernel
theorem dL_law_905 : decode cL_law 905 = .ok (.iaload, 1) := by decide +kernel
theorem dL_law_906 : decode cL_law 906 = .ok (.invokevirtual 106, 3) := by decide +kernel
theorem dL_law_909 : decode cL_law 909 = .ok (.if_icmp .eq 727, 3) := by decide +kernel
theorem dL_law_912 : decode cL_law 912 = .ok (.iconst 0, 1) := by decide +kernel
theorem dL_law_913 : decode cL_law 913 = .ok (.ireturn, 1) := by decide +kernel
theorem dL_law_914 : decode cL_law 914 = .ok (.aload_n 1, 1) := by decide +kernel
theorem dL_law_915 : decode cL_law 915 = .ok (.aload_n 0, 1) := by decide +kernel
theorem dL_law_916 : decode cL_law 916 = .ok (.iload_n 3, 1) := by decide +kernel
theorem dL_law_917 : decode cL_law 917 = .ok (.iconst 1, 1) := by decide +kernel
theorem dL_law_918 : decode cL_law 918 = .ok (.iadd, 1) := by decide +kernel
theorem dL_law_919 : decode cL_law 919 = .ok (.iaload, 1) := by decide +kernel
theorem dL_law_920 : decode cL_law 920 = .ok (.aload_n 0, 1) := by decide +kernel
theorem dL_law_921 : decode cL_law 921 = .ok (.iload_n 3, 1) := by decide +kernel
theorem dL_law_922 : decode cL_law 922 = .ok (.iconst 2, 1) := by decide +kernel
theorem dL_law_923 : decode cL_law 923 = .ok (.iadd, 1) := by decide +kernel
theorem dL_law_924 : decode cL_law 924 = .ok (.iaload, 1) := by decide +kernel
theorem dL_law_925 : decode cL_law 925 = .ok (.aload_n 0, 1) := by decide +kernel
theorem dL_law_926 : decode cL_law 926 = .ok (.iload_n 3, 1) := by decide +kernel
theorem dL_law_927 : decode cL_law 927 = .ok (.iconst 3, 1) := by decide +kernel
theorem dL_law_928 : decode cL_law 928 = .ok (.iadd, 1) := by decide +kernel
theorem dL_law_929 : decode cL_law 929 = .ok (.iaload, 1) := by decide +kernel
theorem dL_law_930 : decode cL_law 930 = .ok (.invokevirtual 107, 3) := by decide +kernel
theorem dL_law_933 : decode cL_law 933 = .ok (.aload_n 2, 1) := by decide +kernel
theorem dL_law_934 : decode cL_law 934 = .ok (.aload_n 0, 1) := by decide +kernel
theorem dL_law_935 : decode cL_law 935 = .ok (.iload_n 3, 1) := by decide +kernel
theorem dL_law_936 : decode cL_law 936 = .ok (.iconst 1, 1) := by decide +kernel
theorem dL_law_937 : decode cL_law 937 = .ok (.iadd, 1) := by decide +kernel
theorem dL_law_938 : decode cL_law 938 = .ok (.iaload, 1) := by decide +kernel
theorem dL_law_939 : decode cL_law 939 = .ok (.aload_n 0, 1) := by decide +kernel
theorem dL_law_940 : decode cL_law 940 = .ok (.iload_n 3, 1) := by decide +kernel
theorem dL_law_941 : decode cL_law 941 = .ok (.iconst 2, 1) := by decide +kernel
theorem dL_law_942 : decode cL_law 942 = .ok (.iadd, 1) := by decide +kernel
theorem dL_law_943 : decode cL_law 943 = .ok (.iaload, 1) := by decide +kernel
theorem dL_law_944 : decode cL_law 944 = .ok (.aload_n 0, 1) := by decide +kernel
theorem dL_law_945 : decode cL_law 945 = .ok (.iload_n 3, 1) := by decide +kernel
theorem dL_law_946 : decode cL_law 946 = .ok (.iconst 3, 1) := by decide +kernel
theorem dL_law_947 : decode cL_law 947 = .ok (.iadd, 1) := by decide +kernel
theorem dL_law_948 : decode cL_law 948 = .ok (.iaload, 1) := by decide +kernel
theorem dL_law_949 : decode cL_law 949 = .ok (.invokevirtual 110, 3) := by decide +kernel
theorem dL_law_952 : decode cL_law 952 = .ok (.if_icmp .eq 684, 3) := by decide +kernel
theorem dL_law_955 : decode cL_law 955 = .ok (.iconst 0, 1) := by decide +kernel
theorem dL_law_956 : decode cL_law 956 = .ok (.ireturn, 1) := by decide +kernel
theorem dL_law_957 : decode cL_law 957 = .ok (.aload_n 1, 1) := by decide +kernel
theorem dL_law_958 : decode cL_law 958 = .ok (.aload_n 0, 1) := by decide +kernel
theorem dL_law_959 : decode cL_law 959 = .ok (.iload_n 3, 1) := by decide +kernel
theorem dL_law_960 : decode cL_law 960 = .ok (.iconst 1, 1) := by decide +kernel
theorem dL_law_961 : decode cL_law 961 = .ok (.iadd, 1) := by decide +kernel
theorem dL_law_962 : decode cL_law 962 = .ok (.iaload, 1) := by decide +kernel
theorem dL_law_963 : decode cL_law 963 = .ok (.aload_n 0, 1) := by decide +kernel
theorem dL_law_964 : decode cL_law 964 = .ok (.iload_n 3, 1) := by decide +kernel
theorem dL_law_965 : decode cL_law 965 = .ok (.iconst 2, 1) := by decide +kernel
theorem dL_law_966 : decode cL_law 966 = .ok (.iadd, 1) := by decide +kernel
theorem dL_law_967 : decode cL_law 967 = .ok (.iaload, 1) := by decide +kernel
theorem dL_law_968 : decode cL_law 968 = .ok (.aload_n 0, 1) := by decide +kernel
theorem dL_law_969 : decode cL_law 969 = .ok (.iload_n 3, 1) := by decide +kernel
theorem dL_law_970 : decode cL_law 970 = .ok (.iconst 3, 1) := by decide +kernel
theorem dL_law_971 : decode cL_law 971 = .ok (.iadd, 1) := by decide +kernel
theorem dL_law_972 : decode cL_law 972 = .ok (.iaload, 1) := by decide +kernel
theorem dL_law_973 : decode cL_law 973 = .ok (.aload_n 0, 1) := by decide +kernel
theorem dL_law_974 : decode cL_law 974 = .ok (.iload_n 3, 1) := by decide +kernel
theorem dL_law_975 : decode cL_law 975 = .ok (.iconst 4, 1) := by decide +kernel
theorem dL_law_976 : decode cL_law 976 = .ok (.iadd, 1) := by decide +kernel
theorem dL_law_977 : decode cL_law 977 = .ok (.iaload, 1) := by decide +kernel
theorem dL_law_978 : decode cL_law 978 = .ok (.invokevirtual 111, 3) := by decide +kernel
theorem dL_law_981 : decode cL_law 981 = .ok (.aload_n 2, 1) := by decide +kernel
theorem dL_law_982 : decode cL_law 982 = .ok (.aload_n 0, 1) := by decide +kernel
theorem dL_law_983 : decode cL_law 983 = .ok (.iload_n 3, 1) := by decide +kernel
theorem dL_law_984 : decode cL_law 984 = .ok (.iconst 1, 1) := by decide +kernel
theorem dL_law_985 : decode cL_law 985 = .ok (.iadd, 1) := by decide +kernel
theorem dL_law_986 : decode cL_law 986 = .ok (.iaload, 1) := by decide +kernel
theorem dL_law_987 : decode cL_law 987 = .ok (.aload_n 0, 1) := by decide +kernel
theorem dL_law_988 : decode cL_law 988 = .ok (.iload_n 3, 1) := by decide +kernel
theorem dL_law_989 : decode cL_law 989 = .ok (.iconst 2, 1) := by decide +kernel
theorem dL_law_990 : decode cL_law 990 = .ok (.iadd, 1) := by decide +kernel
theorem dL_law_991 : decode cL_law 991 = .ok (.iaload, 1) := by decide +kernel
theorem dL_law_992 : decode cL_law 992 = .ok (.aload_n 0, 1) := by decide +kernel
theorem dL_law_993 : decode cL_law 993 = .ok (.iload_n 3, 1) := by decide +kernel
theorem dL_law_994 : decode cL_law 994 = .ok (.iconst 3, 1) := by decide +kernel
theorem dL_law_995 : decode cL_law 995 = .ok (.iadd, 1) := by decide +kernel
theorem dL_law_996 : decode cL_law 996 = .ok (.iaload, 1) := by decide +kernel
theorem dL_law_997 : decode cL_law 997 = .ok (.aload_n 0, 1) := by decide +kernel
theorem dL_law_998 : decode cL_law 998 = .ok (.iload_n 3, 1) := by decide +kernel
theorem dL_law_999 : decode cL_law 999 = .ok (.iconst 4, 1) := by decide +kernel
theorem dL_law_1000 : decode cL_law 1000 = .ok (.iadd, 1) := by decide +kernel
theorem dL_law_1001 : decode cL_law 1001 = .ok (.iaload, 1) := by decide +kernel
theorem dL_law_1002 : decode cL_law 1002 = .ok (.invokevirtual 114, 3) := by decide +kernel
theorem dL_law_1005 : decode cL_law 1005 = .ok (.if_icmp .eq 631, 3) := by decide +kernel
theorem dL_law_1008 : decode cL_law 1008 = .ok (.iconst 0, 1) := by decide +kernel
theorem dL_law_1009 : decode cL_law 1009 = .ok (.ireturn, 1) := by decide +kernel
theorem dL_law_1010 : decode cL_law 1010 = .ok (.aload_n 1, 1) := by decide +kernel
theorem dL_law_1011 : decode cL_law 1011 = .ok (.aload_n 0, 1) := by decide +kernel
theorem dL_law_1012 : decode cL_law 1012 = .ok (.iload_n 3, 1) := by decide +kernel
theorem dL_law_1013 : decode cL_law 1013 = .ok (.iconst 1, 1) := by decide +kernel
theorem dL_law_1014 : decode cL_law 1014 = .ok (.iadd, 1) := by decide +kernel
theorem dL_law_1015 : decode cL_law 1015 = .ok (.iaload, 1) := by decide +kernel
theorem dL_law_1016 : decode cL_law 1016 = .ok (.aload_n 0, 1) := by decide +kernel
theorem dL_law_1017 : decode cL_law 1017 = .ok (.iload_n 3, 1) := by decide +kernel
theorem dL_law_1018 : decode cL_law 1018 = .ok (.iconst 2, 1) := by decide +kernel
theorem dL_law_1019 : decode cL_law 1019 = .ok (.iadd, 1) := by decide +kernel
theorem dL_law_1020 : decode cL_law 1020 = .ok (.iaload, 1) := by decide +kernel
theorem dL_law_1021 : decode cL_law 1021 = .ok (.invokevirtual 115, 3) := by decide +kernel
theorem dL_law_1024 : decode cL_law 1024 = .ok (.aload_n 2, 1) := by decide +kernel
theorem dL_law_1025 : decode cL_law 1025 = .ok (.aload_n 0, 1) := by decide +kernel
theorem dL_law_1026 : decode cL_law 1026 = .ok (.iload_n 3, 1) := by decide +kernel
theorem dL_law_1027 : decode cL_law 1027 = .ok (.iconst 1, 1) := by decide +kernel
theorem dL_law_1028 : decode cL_law 1028 = .ok (.iadd, 1) := by decide +kernel
theorem dL_law_1029 : decode cL_law 1029 = .ok (.iaload, 1) := by decide +kernel
theorem dL_law_1030 : decode cL_law 1030 = .ok (.aload_n 0, 1) := by decide +kernel
theorem dL_law_1031 : decode cL_law 1031 = .ok (.iload_n 3, 1) := by decide +kernel
theorem dL_law_1032 : decode cL_law 1032 = .ok (.iconst 2, 1) := by decide +kernel
theorem dL_law_1033 : decode cL_law 1033 = .ok (.iadd, 1) := by decide +kernel
theorem dL_law_1034 : decode cL_law 1034 = .ok (.iaload, 1) := by decide +kernel
theorem dL_law_1035 : decode cL_law 1035 = .ok (.invokevirtual 118, 3) := by decide +kernel
theorem dL_law_1038 : decode cL_law 1038 = .ok (.if_icmp .eq 598, 3) := by decide +kernel
theorem dL_law_1041 : decode cL_law 1041 = .ok (.iconst 0, 1) := by decide +kernel
theorem dL_law_1042 : decode cL_law 1042 = .ok (.ireturn, 1) := by decide +kernel
theorem dL_law_1043 : decode cL_law 1043 = .ok (.aload_n 1, 1) := by decide +kernel
theorem dL_law_1044 : decode cL_law 1044 = .ok (.aload_n 0, 1) := by decide +kernel
theorem dL_law_1045 : decode cL_law 1045 = .ok (.iload_n 3, 1) := by decide +kernel
theorem dL_law_1046 : decode cL_law 1046 = .ok (.iconst 1, 1) := by decide +kernel
theorem dL_law_1047 : decode cL_law 1047 = .ok (.iadd, 1) := by decide +kernel
theorem dL_law_1048 : decode cL_law 1048 = .ok (.iaload, 1) := by decide +kernel
theorem dL_law_1049 : decode cL_law 1049 = .ok (.aload_n 0, 1) := by decide +kernel
theorem dL_law_1050 : decode cL_law 1050 = .ok (.iload_n 3, 1) := by decide +kernel
theorem dL_law_1051 : decode cL_law 1051 = .ok (.iconst 2, 1) := by decide +kernel
theorem dL_law_1052 : decode cL_law 1052 = .ok (.iadd, 1) := by decide +kernel
theorem dL_law_1053 : decode cL_law 1053 = .ok (.iaload, 1) := by decide +kernel
theorem dL_law_1054 : decode cL_law 1054 = .ok (.invokevirtual 119, 3) := by decide +kernel
theorem dL_law_1057 : decode cL_law 1057 = .ok (.aload_n 2, 1) := by decide +kernel
theorem dL_law_1058 : decode cL_law 1058 = .ok (.aload_n 0, 1) := by decide +kernel
theorem dL_law_1059 : decode cL_law 1059 = .ok (.iload_n 3, 1) := by decide +kernel
theorem dL_law_1060 : decode cL_law 1060 = .ok (.iconst 1, 1) := by decide +kernel
theorem dL_law_1061 : decode cL_law 1061 = .ok (.iadd, 1) := by decide +kernel
theorem dL_law_1062 : decode cL_law 1062 = .ok (.iaload, 1) := by decide +kernel
theorem dL_law_1063 : decode cL_law 1063 = .ok (.aload_n 0, 1) := by decide +kernel
theorem dL_law_1064 : decode cL_law 1064 = .ok (.iload_n 3, 1) := by decide +kernel
theorem dL_law_1065 : decode cL_law 1065 = .ok (.iconst 2, 1) := by decide +kernel
theorem dL_law_1066 : decode cL_law 1066 = .ok (.iadd, 1) := by decide +kernel
theorem dL_law_1067 : decode cL_law 1067 = .ok (.iaload, 1) := by decide +kernel
theorem dL_law_1068 : decode cL_law 1068 = .ok (.invokevirtual 122, 3) := by decide +kernel
theorem dL_law_1071 : decode cL_law 1071 = .ok (.if_icmp .eq 565, 3) := by decide +kernel
theorem dL_law_1074 : decode cL_law 1074 = .ok (.iconst 0, 1) := by decide +kernel
theorem dL_law_1075 : decode cL_law 1075 = .ok (.ireturn, 1) := by decide +kernel
theorem dL_law_1076 : decode cL_law 1076 = .ok (.aload_n 1, 1) := by decide +kernel
theorem dL_law_1077 : decode cL_law 1077 = .ok (.aload_n 0, 1) := by decide +kernel
theorem dL_law_1078 : decode cL_law 1078 = .ok (.iload_n 3, 1) := by decide +kernel
theorem dL_law_1079 : decode cL_law 1079 = .ok (.iconst 1, 1) := by decide +kernel
theorem dL_law_1080 : decode cL_law 1080 = .ok (.iadd, 1) := by decide +kernel
theorem dL_law_1081 : decode cL_law 1081 = .ok (.iaload, 1) := by decide +kernel
theorem dL_law_1082 : decode cL_law 1082 = .ok (.aload_n 0, 1) := by decide +kernel
theorem dL_law_1083 : decode cL_law 1083 = .ok (.iload_n 3, 1) := by decide +kernel
theorem dL_law_1084 : decode cL_law 1084 = .ok (.iconst 2, 1) := by decide +kernel
theorem dL_law_1085 : decode cL_law 1085 = .ok (.iadd, 1) := by decide +kernel
theorem dL_law_1086 : decode cL_law 1086 = .ok (.iaload, 1) := by decide +kernel
theorem dL_law_1087 : decode cL_law 1087 = .ok (.invokevirtual 123, 3) := by decide +kernel
theorem dL_law_1090 : decode cL_law 1090 = .ok (.aload_n 2, 1) := by decide +kernel
theorem dL_law_1091 : decode cL_law 1091 = .ok (.aload_n 0, 1) := by decide +kernel
theorem dL_law_1092 : decode cL_law 1092 = .ok (.iload_n 3, 1) := by decide +kernel
theorem dL_law_1093 : decode cL_law 1093 = .ok (.iconst 1, 1) := by decide +kernel
theorem dL_law_1094 : decode cL_law 1094 = .ok (.iadd, 1) := by decide +kernel
theorem dL_law_1095 : decode cL_law 1095 = .ok (.iaload, 1) := by decide +kernel
theorem dL_law_1096 : decode cL_law 1096 = .ok (.aload_n 0, 1) := by decide +kernel
theorem dL_law_1097 : decode cL_law 1097 = .ok (.iload_n 3, 1) := by decide +kernel
theorem dL_law_1098 : decode cL_law 1098 = .ok (.iconst 2, 1) := by decide +kernel
theorem dL_law_1099 : decode cL_law 1099 = .ok (.iadd, 1) := by decide +kernel
theorem dL_law_1100 : decode cL_law 1100 = .ok (.iaload, 1) := by decide +kernel
theorem dL_law_1101 : decode cL_law 1101 = .ok (.invokevirtual 126, 3) := by decide +kernel
theorem dL_law_1104 : decode cL_law 1104 = .ok (.if_icmp .eq 532, 3) := by decide +kernel
theorem dL_law_1107 : decode cL_law 1107 = .ok (.iconst 0, 1) := by decide +kernel
theorem dL_law_1108 : decode cL_law 1108 = .ok (.ireturn, 1) := by decide +kernel
theorem dL_law_1109 : decode cL_law 1109 = .ok (.aload_n 1, 1) := by decide +kernel
theorem dL_law_1110 : decode cL_law 1110 = .ok (.aload_n 0, 1) := by decide +kernel
theorem dL_law_1111 : decode cL_law 1111 = .ok (.iload_n 3, 1) := by decide +kernel
theorem dL_law_1112 : decode cL_law 1112 = .ok (.iconst 1, 1) := by decide +kernel
theorem dL_law_1113 : decode cL_law 1113 = .ok (.iadd, 1) := by decide +kernel
theorem dL_law_1114 : decode cL_law 1114 = .ok (.iaload, 1) := by decide +kernel
theorem dL_law_1115 : decode cL_law 1115 = .ok (.aload_n 0, 1) := by decide +kernel
theorem dL_law_1116 : decode cL_law 1116 = .ok (.iload_n 3, 1) := by decide +kernel
theorem dL_law_1117 : decode cL_law 1117 = .ok (.iconst 2, 1) := by decide +kernel
theorem dL_law_1118 : decode cL_law 1118 = .ok (.iadd, 1) := by decide +kernel
theorem dL_law_1119 : decode cL_law 1119 = .ok (.iaload, 1) := by decide +kernel
theorem dL_law_1120 : decode cL_law 1120 = .ok (.invokevirtual 127, 3) := by decide +kernel
theorem dL_law_1123 : decode cL_law 1123 = .ok (.aload_n 2, 1) := by decide +kernel
theorem dL_law_1124 : decode cL_law 1124 = .ok (.aload_n 0, 1) := by decide +kernel
theorem dL_law_1125 : decode cL_law 1125 = .ok (.iload_n 3, 1) := by decide +kernel
theorem dL_law_1126 : decode cL_law 1126 = .ok (.iconst 1, 1) := by decide +kernel
theorem dL_law_1127 : decode cL_law 1127 = .ok (.iadd, 1) := by decide +kernel
theorem dL_law_1128 : decode cL_law 1128 = .ok (.iaload, 1) := by decide +kernel
theorem dL_law_1129 : decode cL_law 1129 = .ok (.aload_n 0, 1) := by decide +kernel
theorem dL_law_1130 : decode cL_law 1130 = .ok (.iload_n 3, 1) := by decide +kernel
theorem dL_law_1131 : decode cL_law 1131 = .ok (.iconst 2, 1) := by decide +kernel
theorem dL_law_1132 : decode cL_law 1132 = .ok (.iadd, 1) := by decide +kernel
theorem dL_law_1133 : decode cL_law 1133 = .ok (.iaload, 1) := by decide +kernel
theorem dL_law_1134 : decode cL_law 1134 = .ok (.invokevirtual 130, 3) := by decide +kernel
theorem dL_law_1137 : decode cL_law 1137 = .ok (.if_icmp .eq 499, 3) := by decide +kernel
theorem dL_law_1140 : decode cL_law 1140 = .ok (.iconst 0, 1) := by decide +kernel
theorem dL_law_1141 : decode cL_law 1141 = .ok (.ireturn, 1) := by decide +kernel
theorem dL_law_1142 : decode cL_law 1142 = .ok (.aload_n 1, 1) := by decide +kernel
theorem dL_law_1143 : decode cL_law 1143 = .ok (.aload_n 0, 1) := by decide +kernel
theorem dL_law_1144 : decode cL_law 1144 = .ok (.iload_n 3, 1) := by decide +kernel
theorem dL_law_1145 : decode cL_law 1145 = .ok (.iconst 1, 1) := by decide +kernel
theorem dL_law_1146 : decode cL_law 1146 = .ok (.iadd, 1) := by decide +kernel
theorem dL_law_1147 : decode cL_law 1147 = .ok (.iaload, 1) := by decide +kernel
theorem dL_law_1148 : decode cL_law 1148 = .ok (.invokevirtual 131, 3) := by decide +kernel
theorem dL_law_1151 : decode cL_law 1151 = .ok (.aload_n 2, 1) := by decide +kernel
theorem dL_law_1152 : decode cL_law 1152 = .ok (.aload_n 0, 1) := by decide +kernel
theorem dL_law_1153 : decode cL_law 1153 = .ok (.iload_n 3, 1) := by decide +kernel
theorem dL_law_1154 : decode cL_law 1154 = .ok (.iconst 1, 1) := by decide +kernel
theorem dL_law_1155 : decode cL_law 1155 = .ok (.iadd, 1) := by decide +kernel
theorem dL_law_1156 : decode cL_law 1156 = .ok (.iaload, 1) := by decide +kernel
theorem dL_law_1157 : decode cL_law 1157 = .ok (.invokevirtual 134, 3) := by decide +kernel
theorem dL_law_1160 : decode cL_law 1160 = .ok (.if_icmp .eq 476, 3) := by decide +kernel
theorem dL_law_1163 : decode cL_law 1163 = .ok (.iconst 0, 1) := by decide +kernel
theorem dL_law_1164 : decode cL_law 1164 = .ok (.ireturn, 1) := by decide +kernel
theorem dL_law_1165 : decode cL_law 1165 = .ok (.aload_n 1, 1) := by decide +kernel
theorem dL_law_1166 : decode cL_law 1166 = .ok (.aload_n 0, 1) := by decide +kernel
theorem dL_law_1167 : decode cL_law 1167 = .ok (.iload_n 3, 1) := by decide +kernel
theorem dL_law_1168 : decode cL_law 1168 = .ok (.iconst 1, 1) := by decide +kernel
theorem dL_law_1169 : decode cL_law 1169 = .ok (.iadd, 1) := by decide +kernel
theorem dL_law_1170 : decode cL_law 1170 = .ok (.iaload, 1) := by decide +kernel
theorem dL_law_1171 : decode cL_law 1171 = .ok (.invokevirtual 135, 3) := by decide +kernel
theorem dL_law_1174 : decode cL_law 1174 = .ok (.aload_n 2, 1) := by decide +kernel
theorem dL_law_1175 : decode cL_law 1175 = .ok (.aload_n 0, 1) := by decide +kernel
theorem dL_law_1176 : decode cL_law 1176 = .ok (.iload_n 3, 1) := by decide +kernel
theorem dL_law_1177 : decode cL_law 1177 = .ok (.iconst 1, 1) := by decide +kernel
theorem dL_law_1178 : decode cL_law 1178 = .ok (.iadd, 1) := by decide +kernel
theorem dL_law_1179 : decode cL_law 1179 = .ok (.iaload, 1) := by decide +kernel
theorem dL_law_1180 : decode cL_law 1180 = .ok (.invokevirtual 138, 3) := by decide +kernel
theorem dL_law_1183 : decode cL_law 1183 = .ok (.if_icmp .eq 453, 3) := by decide +kernel
theorem dL_law_1186 : decode cL_law 1186 = .ok (.iconst 0, 1) := by decide +kernel
theorem dL_law_1187 : decode cL_law 1187 = .ok (.ireturn, 1) := by decide +kernel
theorem dL_law_1188 : decode cL_law 1188 = .ok (.aload_n 1, 1) := by decide +kernel
theorem dL_law_1189 : decode cL_law 1189 = .ok (.aload_n 0, 1) := by decide +kernel
theorem dL_law_1190 : decode cL_law 1190 = .ok (.iload_n 3, 1) := by decide +kernel
theorem dL_law_1191 : decode cL_law 1191 = .ok (.iconst 1, 1) := by decide +kernel
theorem dL_law_1192 : decode cL_law 1192 = .ok (.iadd, 1) := by decide +kernel
theorem dL_law_1193 : decode cL_law 1193 = .ok (.iaload, 1) := by decide +kernel
theorem dL_law_1194 : decode cL_law 1194 = .ok (.aload_n 0, 1) := by decide +kernel
theorem dL_law_1195 : decode cL_law 1195 = .ok (.iload_n 3, 1) := by decide +kernel
theorem dL_law_1196 : decode cL_law 1196 = .ok (.iconst 2, 1) := by decide +kernel
theorem dL_law_1197 : decode cL_law 1197 = .ok (.iadd, 1) := by decide +kernel
theorem dL_law_1198 : decode cL_law 1198 = .ok (.iaload, 1) := by decide +kernel
theorem dL_law_1199 : decode cL_law 1199 = .ok (.invokevirtual 139, 3) := by decide +kernel
theorem dL_law_1202 : decode cL_law 1202 = .ok (.aload_n 2, 1) := by decide +kernel
theorem dL_law_1203 : decode cL_law 1203 = .ok (.aload_n 0, 1) := by decide +kernel
theorem dL_law_1204 : decode cL_law 1204 = .ok (.iload_n 3, 1) := by decide +kernel
theorem dL_law_1205 : decode cL_law 1205 = .ok (.iconst 1, 1) := by decide +kernel
theorem dL_law_1206 : decode cL_law 1206 = .ok (.iadd, 1) := by decide +kernel
theorem dL_law_1207 : decode cL_law 1207 = .ok (.iaload, 1) := by decide +kernel
theorem dL_law_1208 : decode cL_law 1208 = .ok (.aload_n 0, 1) := by decide +kernel
theorem dL_law_1209 : decode cL_law 1209 = .ok (.iload_n 3, 1) := by decide +kernel
theorem dL_law_1210 : decode cL_law 1210 = .ok (.iconst 2, 1) := by decide +kernel
theorem dL_law_1211 : decode cL_law 1211 = .ok (.iadd, 1) := by decide +kernel
theorem dL_law_1212 : decode cL_law 1212 = .ok (.iaload, 1) := by decide +kernel
theorem dL_law_1213 : decode cL_law 1213 = .ok (.invokevirtual 142, 3) := by decide +kernel
theorem dL_law_1216 : decode cL_law 1216 = .ok (.if_icmp .eq 420, 3) := by decide +kernel
theorem dL_law_1219 : decode cL_law 1219 = .ok (.iconst 0, 1) := by decide +kernel
theorem dL_law_1220 : decode cL_law 1220 = .ok (.ireturn, 1) := by decide +kernel
theorem dL_law_1221 : decode cL_law 1221 = .ok (.aload_n 1, 1) := by decide +kernel
theorem dL_law_1222 : decode cL_law 1222 = .ok (.aload_n 0, 1) := by decide +kernel
theorem dL_law_1223 : decode cL_law 1223 = .ok (.iload_n 3, 1) := by decide +kernel
theorem dL_law_1224 : decode cL_law 1224 = .ok (.iconst 1, 1) := by decide +kernel
theorem dL_law_1225 : decode cL_law 1225 = .ok (.iadd, 1) := by decide +kernel
theorem dL_law_1226 : decode cL_law 1226 = .ok (.iaload, 1) := by decide +kernel
theorem dL_law_1227 : decode cL_law 1227 = .ok (.invokevirtual 143, 3) := by decide +kernel
theorem dL_law_1230 : decode cL_law 1230 = .ok (.aload_n 2, 1) := by decide +kernel
theorem dL_law_1231 : decode cL_law 1231 = .ok (.aload_n 0, 1) := by decide +kernel
theorem dL_law_1232 : decode cL_law 1232 = .ok (.iload_n 3, 1) := by decide +kernel
theorem dL_law_1233 : decode cL_law 1233 = .ok (.iconst 1, 1) := by decide +kernel
theorem dL_law_1234 : decode cL_law 1234 = .ok (.iadd, 1) := by decide +kernel
theorem dL_law_1235 : decode cL_law 1235 = .ok (.iaload, 1) := by decide +kernel
theorem dL_law_1236 : decode cL_law 1236 = .ok (.invokevirtual 146, 3) := by decide +kernel
theorem dL_law_1239 : decode cL_law 1239 = .ok (.if_icmp .eq 397, 3) := by decide +kernel
theorem dL_law_1242 : decode cL_law 1242 = .ok (.iconst 0, 1) := by decide +kernel
theorem dL_law_1243 : decode cL_law 1243 = .ok (.ireturn, 1) := by decide +kernel
theorem dL_law_1244 : decode cL_law 1244 = .ok (.aload_n 1, 1) := by decide +kernel
theorem dL_law_1245 : decode cL_law 1245 = .ok (.aload_n 0, 1) := by decide +kernel
theorem dL_law_1246 : decode cL_law 1246 = .ok (.iload_n 3, 1) := by decide +kernel
theorem dL_law_1247 : decode cL_law 1247 = .ok (.iconst 1, 1) := by decide +kernel
theorem dL_law_1248 : decode cL_law 1248 = .ok (.iadd, 1) := by decide +kernel
theorem dL_law_1249 : decode cL_law 1249 = .ok (.iaload, 1) := by decide +kernel
theorem dL_law_1250 : decode cL_law 1250 = .ok (.invokevirtual 147, 3) := by decide +kernel
theorem dL_law_1253 : decode cL_law 1253 = .ok (.aload_n 2, 1) := by decide +kernel
theorem dL_law_1254 : decode cL_law 1254 = .ok (.aload_n 0, 1) := by decide +kernel
theorem dL_law_1255 : decode cL_law 1255 = .ok (.iload_n 3, 1) := by decide +kernel
theorem dL_law_1256 : decode cL_law 1256 = .ok (.iconst 1, 1) := by decide +kernel
theorem dL_law_1257 : decode cL_law 1257 = .ok (.iadd, 1) := by decide +kernel
theorem dL_law_1258 : decode cL_law 1258 = .ok (.iaload, 1) := by decide +kernel
theorem dL_law_1259 : decode cL_law 1259 = .ok (.invokevirtual 150, 3) := by decide +kernel
theorem dL_law_1262 : decode cL_law 1262 = .ok (.if_icmp .eq 374, 3) := by decide +kernel
theorem dL_law_1265 : decode cL_law 1265 = .ok (.iconst 0, 1) := by decide +kernel
theorem dL_law_1266 : decode cL_law 1266 = .ok (.ireturn, 1) := by decide +kernel
theorem dL_law_1267 : decode cL_law 1267 = .ok (.aload_n 1, 1) := by decide +kernel
theorem dL_law_1268 : decode cL_law 1268 = .ok (.aload_n 0, 1) := by decide +kernel
theorem dL_law_1269 : decode cL_law 1269 = .ok (.iload_n 3, 1) := by decide +kernel
theorem dL_law_1270 : decode cL_law 1270 = .ok (.iconst 1, 1) := by decide +kernel
theorem dL_law_1271 : decode cL_law 1271 = .ok (.iadd, 1) := by decide +kernel
theorem dL_law_1272 : decode cL_law 1272 = .ok (.iaload, 1) := by decide +kernel
theorem dL_law_1273 : decode cL_law 1273 = .ok (.invokevirtual 151, 3) := by decide +kernel
theorem dL_law_1276 : decode cL_law 1276 = .ok (.aload_n 2, 1) := by decide +kernel
theorem dL_law_1277 : decode cL_law 1277 = .ok (.aload_n 0, 1) := by decide +kernel
theorem dL_law_1278 : decode cL_law 1278 = .ok (.iload_n 3, 1) := by decide +kernel
theorem dL_law_1279 : decode cL_law 1279 = .ok (.iconst 1, 1) := by decide +kernel
theorem dL_law_1280 : decode cL_law 1280 = .ok (.iadd, 1) := by decide +kernel
theorem dL_law_1281 : decode cL_law 1281 = .ok (.iaload, 1) := by decide +kernel
theorem dL_law_1282 : decode cL_law 1282 = .ok (.invokevirtual 154, 3) := by decide +kernel
theorem dL_law_1285 : decode cL_law 1285 = .ok (.if_icmp .eq 351, 3) := by decide +kernel
theorem dL_law_1288 : decode cL_law 1288 = .ok (.iconst 0, 1) := by decide +kernel
theorem dL_law_1289 : decode cL_law 1289 = .ok (.ireturn, 1) := by decide +kernel
theorem dL_law_1290 : decode cL_law 1290 = .ok (.aload_n 1, 1) := by decide +kernel
theorem dL_law_1291 : decode cL_law 1291 = .ok (.aload_n 0, 1) := by decide +kernel
theorem dL_law_1292 : decode cL_law 1292 = .ok (.iload_n 3, 1) := by decide +kernel
theorem dL_law_1293 : decode cL_law 1293 = .ok (.iconst 1, 1) := by decide +kernel
theorem dL_law_1294 : decode cL_law 1294 = .ok (.iadd, 1) := by decide +kernel
theorem dL_law_1295 : decode cL_law 1295 = .ok (.iaload, 1) := by decide +kernel
theorem dL_law_1296 : decode cL_law 1296 = .ok (.aload_n 0, 1) := by decide +kernel
theorem dL_law_1297 : decode cL_law 1297 = .ok (.iload_n 3, 1) := by decide +kernel
theorem dL_law_1298 : decode cL_law 1298 = .ok (.iconst 2, 1) := by decide +kernel
theorem dL_law_1299 : decode cL_law 1299 = .ok (.iadd, 1) := by decide +kernel
theorem dL_law_1300 : decode cL_law 1300 = .ok (.iaload, 1) := by decide +kernel
theorem dL_law_1301 : decode cL_law 1301 = .ok (.invokevirtual 155, 3) := by decide +kernel
theorem dL_law_1304 : decode cL_law 1304 = .ok (.aload_n 2, 1) := by decide +kernel
theorem dL_law_1305 : decode cL_law 1305 = .ok (.aload_n 0, 1) := by decide +kernel
theorem dL_law_1306 : decode cL_law 1306 = .ok (.iload_n 3, 1) := by decide +kernel
theorem dL_law_1307 : decode cL_law 1307 = .ok (.iconst 1, 1) := by decide +kernel
theorem dL_law_1308 : decode cL_law 1308 = .ok (.iadd, 1) := by decide +kernel
theorem dL_law_1309 : decode cL_law 1309 = .ok (.iaload, 1) := by decide +kernel
theorem dL_law_1310 : decode cL_law 1310 = .ok (.aload_n 0, 1) := by decide +kernel
theorem dL_law_1311 : decode cL_law 1311 = .ok (.iload_n 3, 1) := by decide +kernel
theorem dL_law_1312 : decode cL_law 1312 = .ok (.iconst 2, 1) := by decide +kernel
theorem dL_law_1313 : decode cL_law 1313 = .ok (.iadd, 1) := by decide +kernel
theorem dL_law_1314 : decode cL_law 1314 = .ok (.iaload, 1) := by decide +kernel
theorem dL_law_1315 : decode cL_law 1315 = .ok (.invokevirtual 158, 3) := by decide +kernel
theorem dL_law_1318 : decode cL_law 1318 = .ok (.if_icmp .eq 318, 3) := by decide +kernel
theorem dL_law_1321 : decode cL_law 1321 = .ok (.iconst 0, 1) := by decide +kernel
theorem dL_law_1322 : decode cL_law 1322 = .ok (.ireturn, 1) := by decide +kernel
theorem dL_law_1323 : decode cL_law 1323 = .ok (.aload_n 1, 1) := by decide +kernel
theorem dL_law_1324 : decode cL_law 1324 = .ok (.aload_n 0, 1) := by decide +kernel
theorem dL_law_1325 : decode cL_law 1325 = .ok (.iload_n 3, 1) := by decide +kernel
theorem dL_law_1326 : decode cL_law 1326 = .ok (.iconst 1, 1) := by decide +kernel
theorem dL_law_1327 : decode cL_law 1327 = .ok (.iadd, 1) := by decide +kernel
theorem dL_law_1328 : decode cL_law 1328 = .ok (.iaload, 1) := by decide +kernel
theorem dL_law_1329 : decode cL_law 1329 = .ok (.aload_n 0, 1) := by decide +kernel
theorem dL_law_1330 : decode cL_law 1330 = .ok (.iload_n 3, 1) := by decide +kernel
theorem dL_law_1331 : decode cL_law 1331 = .ok (.iconst 2, 1) := by decide +kernel
theorem dL_law_1332 : decode cL_law 1332 = .ok (.iadd, 1) := by decide +kernel
theorem dL_law_1333 : decode cL_law 1333 = .ok (.iaload, 1) := by decide +kernel
theorem dL_law_1334 : decode cL_law 1334 = .ok (.invokevirtual 159, 3) := by decide +kernel
theorem dL_law_1337 : decode cL_law 1337 = .ok (.aload_n 2, 1) := by decide +kernel
theorem dL_law_1338 : decode cL_law 1338 = .ok (.aload_n 0, 1) := by decide +kernel
theorem dL_law_1339 : decode cL_law 1339 = .ok (.iload_n 3, 1) := by decide +kernel
theorem dL_law_1340 : decode cL_law 1340 = .ok (.iconst 1, 1) := by decide +kernel
theorem dL_law_1341 : decode cL_law 1341 = .ok (.iadd, 1) := by decide +kernel
theorem dL_law_1342 : decode cL_law 1342 = .ok (.iaload, 1) := by decide +kernel
theorem dL_law_1343 : decode cL_law 1343 = .ok (.aload_n 0, 1) := by decide +kernel
theorem dL_law_1344 : decode cL_law 1344 = .ok (.iload_n 3, 1) := by decide +kernel
theorem dL_law_1345 : decode cL_law 1345 = .ok (.iconst 2, 1) := by decide +kernel
theorem dL_law_1346 : decode cL_law 1346 = .ok (.iadd, 1) := by decide +kernel
theorem dL_law_1347 : decode cL_law 1347 = .ok (.iaload, 1) := by decide +kernel
theorem dL_law_1348 : decode cL_law 1348 = .ok (.invokevirtual 162, 3) := by decide +kernel
theorem dL_law_1351 : decode cL_law 1351 = .ok (.if_icmp .eq 285, 3) := by decide +kernel
theorem dL_law_1354 : decode cL_law 1354 = .ok (.iconst 0, 1) := by decide +kernel
theorem dL_law_1355 : decode cL_law 1355 = .ok (.ireturn, 1) := by decide +kernel
theorem dL_law_1356 : decode cL_law 1356 = .ok (.aload_n 1, 1) := by decide +kernel
theorem dL_law_1357 : decode cL_law 1357 = .ok (.aload_n 0, 1) := by decide +kernel
theorem dL_law_1358 : decode cL_law 1358 = .ok (.iload_n 3, 1) := by decide +kernel
theorem dL_law_1359 : decode cL_law 1359 = .ok (.iconst 1, 1) := by decide +kernel
theorem dL_law_1360 : decode cL_law 1360 = .ok (.iadd, 1) := by decide +kernel
theorem dL_law_1361 : decode cL_law 1361 = .ok (.iaload, 1) := by decide +kernel
theorem dL_law_1362 : decode cL_law 1362 = .ok (.aload_n 0, 1) := by decide +kernel
theorem dL_law_1363 : decode cL_law 1363 = .ok (.iload_n 3, 1) := by decide +kernel
theorem dL_law_1364 : decode cL_law 1364 = .ok (.iconst 2, 1) := by decide +kernel
theorem dL_law_1365 : decode cL_law 1365 = .ok (.iadd, 1) := by decide +kernel
theorem dL_law_1366 : decode cL_law 1366 = .ok (.iaload, 1) := by decide +kernel
theorem dL_law_1367 : decode cL_law 1367 = .ok (.aload_n 0, 1) := by decide +kernel
theorem dL_law_1368 : decode cL_law 1368 = .ok (.iload_n 3, 1) := by decide +kernel
theorem dL_law_1369 : decode cL_law 1369 = .ok (.iconst 3, 1) := by decide +kernel
theorem dL_law_1370 : decode cL_law 1370 = .ok (.iadd, 1) := by decide +kernel
theorem dL_law_1371 : decode cL_law 1371 = .ok (.iaload, 1) := by decide +kernel
theorem dL_law_1372 : decode cL_law 1372 = .ok (.invokevirtual 163, 3) := by decide +kernel
theorem dL_law_1375 : decode cL_law 1375 = .ok (.aload_n 2, 1) := by decide +kernel
theorem dL_law_1376 : decode cL_law 1376 = .ok (.aload_n 0, 1) := by decide +kernel
theorem dL_law_1377 : decode cL_law 1377 = .ok (.iload_n 3, 1) := by decide +kernel
theorem dL_law_1378 : decode cL_law 1378 = .ok (.iconst 1, 1) := by decide +kernel
theorem dL_law_1379 : decode cL_law 1379 = .ok (.iadd, 1) := by decide +kernel
theorem dL_law_1380 : decode cL_law 1380 = .ok (.iaload, 1) := by decide +kernel
theorem dL_law_1381 : decode cL_law 1381 = .ok (.aload_n 0, 1) := by decide +kernel
theorem dL_law_1382 : decode cL_law 1382 = .ok (.iload_n 3, 1) := by decide +kernel
theorem dL_law_1383 : decode cL_law 1383 = .ok (.iconst 2, 1) := by decide +kernel
theorem dL_law_1384 : decode cL_law 1384 = .ok (.iadd, 1) := by decide +kernel
theorem dL_law_1385 : decode cL_law 1385 = .ok (.iaload, 1) := by decide +kernel
theorem dL_law_1386 : decode cL_law 1386 = .ok (.aload_n 0, 1) := by decide +kernel
theorem dL_law_1387 : decode cL_law 1387 = .ok (.iload_n 3, 1) := by decide +kernel
theorem dL_law_1388 : decode cL_law 1388 = .ok (.iconst 3, 1) := by decide +kernel
theorem dL_law_1389 : decode cL_law 1389 = .ok (.iadd, 1) := by decide +kernel
theorem dL_law_1390 : decode cL_law 1390 = .ok (.iaload, 1) := by decide +kernel
theorem dL_law_1391 : decode cL_law 1391 = .ok (.invokevirtual 166, 3) := by decide +kernel
theorem dL_law_1394 : decode cL_law 1394 = .ok (.if_icmp .eq 242, 3) := by decide +kernel
theorem dL_law_1397 : decode cL_law 1397 = .ok (.iconst 0, 1) := by decide +kernel
theorem dL_law_1398 : decode cL_law 1398 = .ok (.ireturn, 1) := by decide +kernel
theorem dL_law_1399 : decode cL_law 1399 = .ok (.aload_n 1, 1) := by decide +kernel
theorem dL_law_1400 : decode cL_law 1400 = .ok (.aload_n 0, 1) := by decide +kernel
theorem dL_law_1401 : decode cL_law 1401 = .ok (.iload_n 3, 1) := by decide +kernel
theorem dL_law_1402 : decode cL_law 1402 = .ok (.iconst 1, 1) := by decide +kernel
theorem dL_law_1403 : decode cL_law 1403 = .ok (.iadd, 1) := by decide +kernel
theorem dL_law_1404 : decode cL_law 1404 = .ok (.iaload, 1) := by decide +kernel
theorem dL_law_1405 : decode cL_law 1405 = .ok (.aload_n 0, 1) := by decide +kernel
theorem dL_law_1406 : decode cL_law 1406 = .ok (.iload_n 3, 1) := by decide +kernel
theorem dL_law_1407 : decode cL_law 1407 = .ok (.iconst 2, 1) := by decide +kernel
theorem dL_law_1408 : decode cL_law 1408 = .ok (.iadd, 1) := by decide +kernel
theorem dL_law_1409 : decode cL_law 1409 = .ok (.iaload, 1) := by decide +kernel
theorem dL_law_1410 : decode cL_law 1410 = .ok (.aload_n 0, 1) := by decide +kernel
theorem dL_law_1411 : decode cL_law 1411 = .ok (.iload_n 3, 1) := by decide +kernel
theorem dL_law_1412 : decode cL_law 1412 = .ok (.iconst 3, 1) := by decide +kernel
theorem dL_law_1413 : decode cL_law 1413 = .ok (.iadd, 1) := by decide +kernel
theorem dL_law_1414 : decode cL_law 1414 = .ok (.iaload, 1) := by decide +kernel
theorem dL_law_1415 : decode cL_law 1415 = .ok (.invokevirtual 167, 3) := by decide +kernel
theorem dL_law_1418 : decode cL_law 1418 = .ok (.aload_n 2, 1) := by decide +kernel
theorem dL_law_1419 : decode cL_law 1419 = .ok (.aload_n 0, 1) := by decide +kernel
theorem dL_law_1420 : decode cL_law 1420 = .ok (.iload_n 3, 1) := by decide +kernel
theorem dL_law_1421 : decode cL_law 1421 = .ok (.iconst 1, 1) := by decide +kernel
theorem dL_law_1422 : decode cL_law 1422 = .ok (.iadd, 1) := by decide +kernel
theorem dL_law_1423 : decode cL_law 1423 = .ok (.iaload, 1) := by decide +kernel
theorem dL_law_1424 : decode cL_law 1424 = .ok (.aload_n 0, 1) := by decide +kernel
theorem dL_law_1425 : decode cL_law 1425 = .ok (.iload_n 3, 1) := by decide +kernel
theorem dL_law_1426 : decode cL_law 1426 = .ok (.iconst 2, 1) := by decide +kernel
theorem dL_law_1427 : decode cL_law 1427 = .ok (.iadd, 1) := by decide +kernel
theorem dL_law_1428 : decode cL_law 1428 = .ok (.iaload, 1) := by decide +kernel
theorem dL_law_1429 : decode cL_law 1429 = .ok (.aload_n 0, 1) := by decide +kernel
theorem dL_law_1430 : decode cL_law 1430 = .ok (.iload_n 3, 1) := by decide +kernel
theorem dL_law_1431 : decode cL_law 1431 = .ok (.iconst 3, 1) := by decide +kernel
theorem dL_law_1432 : decode cL_law 1432 = .ok (.iadd, 1) := by decide +kernel
theorem dL_law_1433 : decode cL_law 1433 = .ok (.iaload, 1) := by decide +kernel
theorem dL_law_1434 : decode cL_law 1434 = .ok (.invokevirtual 170, 3) := by decide +kernel
theorem dL_law_1437 : decode cL_law 1437 = .ok (.if_icmp .eq 199, 3) := by decide +kernel
theorem dL_law_1440 : decode cL_law 1440 = .ok (.iconst 0, 1) := by decide +kernel
theorem dL_law_1441 : decode cL_law 1441 = .ok (.ireturn, 1) := by decide +kernel
theorem dL_law_1442 : decode cL_law 1442 = .ok (.aload_n 1, 1) := by decide +kernel
theorem dL_law_1443 : decode cL_law 1443 = .ok (.aload_n 0, 1) := by decide +kernel
theorem dL_law_1444 : decode cL_law 1444 = .ok (.iload_n 3, 1) := by decide +kernel
theorem dL_law_1445 : decode cL_law 1445 = .ok (.iconst 1, 1) := by decide +kernel
theorem dL_law_1446 : decode cL_law 1446 = .ok (.iadd, 1) := by decide +kernel
theorem dL_law_1447 : decode cL_law 1447 = .ok (.iaload, 1) := by decide +kernel
theorem dL_law_1448 : decode cL_law 1448 = .ok (.aload_n 0, 1) := by decide +kernel
theorem dL_law_1449 : decode cL_law 1449 = .ok (.iload_n 3, 1) := by decide +kernel
theorem dL_law_1450 : decode cL_law 1450 = .ok (.iconst 2, 1) := by decide +kernel
theorem dL_law_1451 : decode cL_law 1451 = .ok (.iadd, 1) := by decide +kernel
theorem dL_law_1452 : decode cL_law 1452 = .ok (.iaload, 1) := by decide +kernel
theorem dL_law_1453 : decode cL_law 1453 = .ok (.aload_n 0, 1) := by decide +kernel
theorem dL_law_1454 : decode cL_law 1454 = .ok (.iload_n 3, 1) := by decide +kernel
theorem dL_law_1455 : decode cL_law 1455 = .ok (.iconst 3, 1) := by decide +kernel
theorem dL_law_1456 : decode cL_law 1456 = .ok (.iadd, 1) := by decide +kernel
theorem dL_law_1457 : decode cL_law 1457 = .ok (.iaload, 1) := by decide +kernel
theorem dL_law_1458 : decode cL_law 1458 = .ok (.aload_n 0, 1) := by decide +kernel
theorem dL_law_1459 : decode cL_law 1459 = .ok (.iload_n 3, 1) := by decide +kernel
theorem dL_law_1460 : decode cL_law 1460 = .ok (.iconst 4, 1) := by decide +kernel
theorem dL_law_1461 : decode cL_law 1461 = .ok (.iadd, 1) := by decide +kernel
theorem dL_law_1462 : decode cL_law 1462 = .ok (.iaload, 1) := by decide +kernel
theorem dL_law_1463 : decode cL_law 1463 = .ok (.aload_n 0, 1) := by decide +kernel
theorem dL_law_1464 : decode cL_law 1464 = .ok (.iload_n 3, 1) := by decide +kernel
theorem dL_law_1465 : decode cL_law 1465 = .ok (.iconst 5, 1) := by decide +kernel
theorem dL_law_1466 : decode cL_law 1466 = .ok (.iadd, 1) := by decide +kernel
theorem dL_law_1467 : decode cL_law 1467 = .ok (.iaload, 1) := by decide +kernel
theorem dL_law_1468 : decode cL_law 1468 = .ok (.invokevirtual 171, 3) := by decide +kernel
theorem dL_law_1471 : decode cL_law 1471 = .ok (.aload_n 2, 1) := by decide +kernel
theorem dL_law_1472 : decode cL_law 1472 = .ok (.aload_n 0, 1) := by decide +kernel
theorem dL_law_1473 : decode cL_law 1473 = .ok (.iload_n 3, 1) := by decide +kernel
theorem dL_law_1474 : decode cL_law 1474 = .ok (.iconst 1, 1) := by decide +kernel
theorem dL_law_1475 : decode cL_law 1475 = .ok (.iadd, 1) := by decide +kernel
theorem dL_law_1476 : decode cL_law 1476 = .ok (.iaload, 1) := by decide +kernel
theorem dL_law_1477 : decode cL_law 1477 = .ok (.aload_n 0, 1) := by decide +kernel
theorem dL_law_1478 : decode cL_law 1478 = .ok (.iload_n 3, 1) := by decide +kernel
theorem dL_law_1479 : decode cL_law 1479 = .ok (.iconst 2, 1) := by decide +kernel
theorem dL_law_1480 : decode cL_law 1480 = .ok (.iadd, 1) := by decide +kernel
theorem dL_law_1481 : decode cL_law 1481 = .ok (.iaload, 1) := by decide +kernel
theorem dL_law_1482 : decode cL_law 1482 = .ok (.aload_n 0, 1) := by decide +kernel
theorem dL_law_1483 : decode cL_law 1483 = .ok (.iload_n 3, 1) := by decide +kernel
theorem dL_law_1484 : decode cL_law 1484 = .ok (.iconst 3, 1) := by decide +kernel
theorem dL_law_1485 : decode cL_law 1485 = .ok (.iadd, 1) := by decide +kernel
theorem dL_law_1486 : decode cL_law 1486 = .ok (.iaload, 1) := by decide +kernel
theorem dL_law_1487 : decode cL_law 1487 = .ok (.aload_n 0, 1) := by decide +kernel
theorem dL_law_1488 : decode cL_law 1488 = .ok (.iload_n 3, 1) := by decide +kernel
theorem dL_law_1489 : decode cL_law 1489 = .ok (.iconst 4, 1) := by decide +kernel
theorem dL_law_1490 : decode cL_law 1490 = .ok (.iadd, 1) := by decide +kernel
theorem dL_law_1491 : decode cL_law 1491 = .ok (.iaload, 1) := by decide +kernel
theorem dL_law_1492 : decode cL_law 1492 = .ok (.aload_n 0, 1) := by decide +kernel
theorem dL_law_1493 : decode cL_law 1493 = .ok (.iload_n 3, 1) := by decide +kernel
theorem dL_law_1494 : decode cL_law 1494 = .ok (.iconst 5, 1) := by decide +kernel
theorem dL_law_1495 : decode cL_law 1495 = .ok (.iadd, 1) := by decide +kernel
theorem dL_law_1496 : decode cL_law 1496 = .ok (.iaload, 1) := by decide +kernel
theorem dL_law_1497 : decode cL_law 1497 = .ok (.invokevirtual 175, 3) := by decide +kernel
theorem dL_law_1500 : decode cL_law 1500 = .ok (.if_icmp .eq 136, 3) := by decide +kernel
theorem dL_law_1503 : decode cL_law 1503 = .ok (.iconst 0, 1) := by decide +kernel
theorem dL_law_1504 : decode cL_law 1504 = .ok (.ireturn, 1) := by decide +kernel
theorem dL_law_1505 : decode cL_law 1505 = .ok (.aload_n 1, 1) := by decide +kernel
theorem dL_law_1506 : decode cL_law 1506 = .ok (.aload_n 0, 1) := by decide +kernel
theorem dL_law_1507 : decode cL_law 1507 = .ok (.iload_n 3, 1) := by decide +kernel
theorem dL_law_1508 : decode cL_law 1508 = .ok (.iconst 1, 1) := by decide +kernel
theorem dL_law_1509 : decode cL_law 1509 = .ok (.iadd, 1) := by decide +kernel
theorem dL_law_1510 : decode cL_law 1510 = .ok (.iaload, 1) := by decide +kernel
theorem dL_law_1511 : decode cL_law 1511 = .ok (.invokevirtual 176, 3) := by decide +kernel
theorem dL_law_1514 : decode cL_law 1514 = .ok (.aload_n 2, 1) := by decide +kernel
theorem dL_law_1515 : decode cL_law 1515 = .ok (.aload_n 0, 1) := by decide +kernel
theorem dL_law_1516 : decode cL_law 1516 = .ok (.iload_n 3, 1) := by decide +kernel
theorem dL_law_1517 : decode cL_law 1517 = .ok (.iconst 1, 1) := by decide +kernel
theorem dL_law_1518 : decode cL_law 1518 = .ok (.iadd, 1) := by decide +kernel
theorem dL_law_1519 : decode cL_law 1519 = .ok (.iaload, 1) := by decide +kernel
theorem dL_law_1520 : decode cL_law 1520 = .ok (.invokevirtual 179, 3) := by decide +kernel
theorem dL_law_1523 : decode cL_law 1523 = .ok (.if_icmp .eq 113, 3) := by decide +kernel
theorem dL_law_1526 : decode cL_law 1526 = .ok (.iconst 0, 1) := by decide +kernel
theorem dL_law_1527 : decode cL_law 1527 = .ok (.ireturn, 1) := by decide +kernel
theorem dL_law_1528 : decode cL_law 1528 = .ok (.aload_n 1, 1) := by decide +kernel
theorem dL_law_1529 : decode cL_law 1529 = .ok (.aload_n 0, 1) := by decide +kernel
theorem dL_law_1530 : decode cL_law 1530 = .ok (.iload_n 3, 1) := by decide +kernel
theorem dL_law_1531 : decode cL_law 1531 = .ok (.iconst 1, 1) := by decide +kernel
theorem dL_law_1532 : decode cL_law 1532 = .ok (.iadd, 1) := by decide +kernel
theorem dL_law_1533 : decode cL_law 1533 = .ok (.iaload, 1) := by decide +kernel
theorem dL_law_1534 : decode cL_law 1534 = .ok (.invokevirtual 180, 3) := by decide +kernel
theorem dL_law_1537 : decode cL_law 1537 = .ok (.aload_n 2, 1) := by decide +kernel
theorem dL_law_1538 : decode cL_law 1538 = .ok (.aload_n 0, 1) := by decide +kernel
theorem dL_law_1539 : decode cL_law 1539 = .ok (.iload_n 3, 1) := by decide +kernel
theorem dL_law_1540 : decode cL_law 1540 = .ok (.iconst 1, 1) := by decide +kernel
theorem dL_law_1541 : decode cL_law 1541 = .ok (.iadd, 1) := by decide +kernel
theorem dL_law_1542 : decode cL_law 1542 = .ok (.iaload, 1) := by decide +kernel
theorem dL_law_1543 : decode cL_law 1543 = .ok (.invokevirtual 183, 3) := by decide +kernel
theorem dL_law_1546 : decode cL_law 1546 = .ok (.if_icmp .eq 90, 3) := by decide +kernel
theorem dL_law_1549 : decode cL_law 1549 = .ok (.iconst 0, 1) := by decide +kernel
theorem dL_law_1550 : decode cL_law 1550 = .ok (.ireturn, 1) := by decide +kernel
theorem dL_law_1551 : decode cL_law 1551 = .ok (.aload_n 1, 1) := by decide +kernel
theorem dL_law_1552 : decode cL_law 1552 = .ok (.invokevirtual 184, 3) := by decide +kernel
theorem dL_law_1555 : decode cL_law 1555 = .ok (.aload_n 2, 1) := by decide +kernel
theorem dL_law_1556 : decode cL_law 1556 = .ok (.invokevirtual 187, 3) := by decide +kernel
theorem dL_law_1559 : decode cL_law 1559 = .ok (.if_icmp .eq 77, 3) := by decide +kernel
theorem dL_law_1562 : decode cL_law 1562 = .ok (.iconst 0, 1) := by decide +kernel
theorem dL_law_1563 : decode cL_law 1563 = .ok (.ireturn, 1) := by decide +kernel
theorem dL_law_1564 : decode cL_law 1564 = .ok (.aload_n 1, 1) := by decide +kernel
theorem dL_law_1565 : decode cL_law 1565 = .ok (.invokevirtual 188, 3) := by decide +kernel
theorem dL_law_1568 : decode cL_law 1568 = .ok (.aload_n 2, 1) := by decide +kernel
theorem dL_law_1569 : decode cL_law 1569 = .ok (.invokevirtual 191, 3) := by decide +kernel
theorem dL_law_1572 : decode cL_law 1572 = .ok (.if_icmp .eq 64, 3) := by decide +kernel
theorem dL_law_1575 : decode cL_law 1575 = .ok (.iconst 0, 1) := by decide +kernel
theorem dL_law_1576 : decode cL_law 1576 = .ok (.ireturn, 1) := by decide +kernel
theorem dL_law_1577 : decode cL_law 1577 = .ok (.aload_n 1, 1) := by decide +kernel
theorem dL_law_1578 : decode cL_law 1578 = .ok (.invokevirtual 192, 3) := by decide +kernel
theorem dL_law_1581 : decode cL_law 1581 = .ok (.aload_n 2, 1) := by decide +kernel
theorem dL_law_1582 : decode cL_law 1582 = .ok (.invokevirtual 195, 3) := by decide +kernel
theorem dL_law_1585 : decode cL_law 1585 = .ok (.if_icmp .eq 51, 3) := by decide +kernel
theorem dL_law_1588 : decode cL_law 1588 = .ok (.iconst 0, 1) := by decide +kernel
theorem dL_law_1589 : decode cL_law 1589 = .ok (.ireturn, 1) := by decide +kernel
theorem dL_law_1590 : decode cL_law 1590 = .ok (.aload_n 1, 1) := by decide +kernel
theorem dL_law_1591 : decode cL_law 1591 = .ok (.aload_n 0, 1) := by decide +kernel
theorem dL_law_1592 : decode cL_law 1592 = .ok (.iload_n 3, 1) := by decide +kernel
theorem dL_law_1593 : decode cL_law 1593 = .ok (.iconst 1, 1) := by decide +kernel
theorem dL_law_1594 : decode cL_law 1594 = .ok (.iadd, 1) := by decide +kernel
theorem dL_law_1595 : decode cL_law 1595 = .ok (.iaload, 1) := by decide +kernel
theorem dL_law_1596 : decode cL_law 1596 = .ok (.invokevirtual 196, 3) := by decide +kernel
theorem dL_law_1599 : decode cL_law 1599 = .ok (.aload_n 2, 1) := by decide +kernel
theorem dL_law_1600 : decode cL_law 1600 = .ok (.aload_n 0, 1) := by decide +kernel
theorem dL_law_1601 : decode cL_law 1601 = .ok (.iload_n 3, 1) := by decide +kernel
theorem dL_law_1602 : decode cL_law 1602 = .ok (.iconst 1, 1) := by decide +kernel
theorem dL_law_1603 : decode cL_law 1603 = .ok (.iadd, 1) := by decide +kernel
theorem dL_law_1604 : decode cL_law 1604 = .ok (.iaload, 1) := by decide +kernel
theorem dL_law_1605 : decode cL_law 1605 = .ok (.invokevirtual 199, 3) := by decide +kernel
theorem dL_law_1608 : decode cL_law 1608 = .ok (.if_icmp .eq 28, 3) := by decide +kernel
theorem dL_law_1611 : decode cL_law 1611 = .ok (.iconst 0, 1) := by decide +kernel
theorem dL_law_1612 : decode cL_law 1612 = .ok (.ireturn, 1) := by decide +kernel
theorem dL_law_1613 : decode cL_law 1613 = .ok (.aload_n 1, 1) := by decide +kernel
theorem dL_law_1614 : decode cL_law 1614 = .ok (.aload_n 0, 1) := by decide +kernel
theorem dL_law_1615 : decode cL_law 1615 = .ok (.iload_n 3, 1) := by decide +kernel
theorem dL_law_1616 : decode cL_law 1616 = .ok (.iconst 1, 1) := by decide +kernel
theorem dL_law_1617 : decode cL_law 1617 = .ok (.iadd, 1) := by decide +kernel
theorem dL_law_1618 : decode cL_law 1618 = .ok (.iaload, 1) := by decide +kernel
theorem dL_law_1619 : decode cL_law 1619 = .ok (.invokevirtual 200, 3) := by decide +kernel
theorem dL_law_1622 : decode cL_law 1622 = .ok (.aload_n 2, 1) := by decide +kernel
theorem dL_law_1623 : decode cL_law 1623 = .ok (.aload_n 0, 1) := by decide +kernel
theorem dL_law_1624 : decode cL_law 1624 = .ok (.iload_n 3, 1) := by decide +kernel
theorem dL_law_1625 : decode cL_law 1625 = .ok (.iconst 1, 1) := by decide +kernel
theorem dL_law_1626 : decode cL_law 1626 = .ok (.iadd, 1) := by decide +kernel
theorem dL_law_1627 : decode cL_law 1627 = .ok (.iaload, 1) := by decide +kernel
theorem dL_law_1628 : decode cL_law 1628 = .ok (.invokevirtual 203, 3) := by decide +kernel
theorem dL_law_1631 : decode cL_law 1631 = .ok (.if_icmp .eq 5, 3) := by decide +kernel
theorem dL_law_1634 : decode cL_law 1634 = .ok (.iconst 0, 1) := by decide +kernel
theorem dL_law_1635 : decode cL_law 1635 = .ok (.ireturn, 1) := by decide +kernel
theorem dL_law_1636 : decode cL_law 1636 = .ok (.iinc 3 6, 3) := by decide +kernel
theorem dL_law_1639 : decode cL_law 1639 = .ok (.goto (-1621), 3) := by decide +kernel
theorem dL_law_1642 : decode cL_law 1642 = .ok (.iconst 1, 1) := by decide +kernel
theorem dL_law_1643 : decode cL_law 1643 = .ok (.ireturn, 1) := by decide +kernel
end
