theorem dX9_init_0 : decode cX9_init 0 = .ok (.aload_n 0, 1) := by decide +kernel
theorem dX9_init_1 : decode cX9_init 1 = .ok (.invokespecial 3, 3) := by decide +kernel
theorem dX9_init_4 : decode cX9_init 4 = .ok (.aload_n 0, 1) := by decide +kernel
theorem dX9_init_5 : decode cX9_init 5 = .ok (.sipush 1214, 3) := by decide +kernel
theorem dX9_init_8 : decode cX9_init 8 = .ok (.newarray .int, 2) := by decide +kernel
theorem dX9_init_10 : decode cX9_init 10 = .ok (.putfield 9, 3) := by decide +kernel
theorem dX9_init_13 : decode cX9_init 13 = .ok (.aload_n 0, 1) := by decide +kernel
theorem dX9_init_14 : decode cX9_init 14 = .ok (.sipush 1214, 3) := by decide +kernel
theorem dX9_init_17 : decode cX9_init 17 = .ok (.newarray .int, 2) := by decide +kernel
theorem dX9_init_19 : decode cX9_init 19 = .ok (.putfield 13, 3) := by decide +kernel
theorem dX9_init_22 : decode cX9_init 22 = .ok (.aload_n 0, 1) := by decide +kernel
theorem dX9_init_23 : decode cX9_init 23 = .ok (.bipush 7, 2) := by decide +kernel
theorem dX9_init_25 : decode cX9_init 25 = .ok (.newarray .int, 2) := by decide +kernel
theorem dX9_init_27 : decode cX9_init 27 = .ok (.putfield 16, 3) := by decide +kernel
theorem dX9_init_30 : decode cX9_init 30 = .ok (.aload_n 0, 1) := by decide +kernel
theorem dX9_init_31 : decode cX9_init 31 = .ok (.sipush 200, 3) := by decide +kernel
theorem dX9_init_34 : decode cX9_init 34 = .ok (.newarray .boolean, 2) := by decide +kernel
theorem dX9_init_36 : decode cX9_init 36 = .ok (.putfield 19, 3) := by decide +kernel
theorem dX9_init_39 : decode cX9_init 39 = .ok (.aload_n 0, 1) := by decide +kernel
theorem dX9_init_40 : decode cX9_init 40 = .ok (.bipush 80, 2) := by decide +kernel
theorem dX9_init_42 : decode cX9_init 42 = .ok (.newarray .int, 2) := by decide +kernel
theorem dX9_init_44 : decode cX9_init 44 = .ok (.putfield 23, 3) := by decide +kernel
theorem dX9_init_47 : decode cX9_init 47 = .ok (.aload_n 0, 1) := by decide +kernel
theorem dX9_init_48 : decode cX9_init 48 = .ok (.bipush 80, 2) := by decide +kernel
theorem dX9_init_50 : decode cX9_init 50 = .ok (.newarray .int, 2) := by decide +kernel
theorem dX9_init_52 : decode cX9_init 52 = .ok (.putfield 26, 3) := by decide +kernel
theorem dX9_init_55 : decode cX9_init 55 = .ok (.aload_n 0, 1) := by decide +kernel
theorem dX9_init_56 : decode cX9_init 56 = .ok (.bipush 80, 2) := by decide +kernel
theorem dX9_init_58 : decode cX9_init 58 = .ok (.newarray .int, 2) := by decide +kernel
theorem dX9_init_60 : decode cX9_init 60 = .ok (.putfield 29, 3) := by decide +kernel
theorem dX9_init_63 : decode cX9_init 63 = .ok (.aload_n 0, 1) := by decide +kernel
theorem dX9_init_64 : decode cX9_init 64 = .ok (.bipush 14, 2) := by decide +kernel
theorem dX9_init_66 : decode cX9_init 66 = .ok (.newarray .int, 2) := by decide +kernel
theorem dX9_init_68 : decode cX9_init 68 = .ok (.putfield 32, 3) := by decide +kernel
theorem dX9_init_71 : decode cX9_init 71 = .ok (.aload_n 0, 1) := by decide +kernel
theorem dX9_init_72 : decode cX9_init 72 = .ok (.bipush 14, 2) := by decide +kernel
theorem dX9_init_74 : decode cX9_init 74 = .ok (.newarray .int, 2) := by decide +kernel
theorem dX9_init_76 : decode cX9_init 76 = .ok (.putfield 35, 3) := by decide +kernel
theorem dX9_init_79 : decode cX9_init 79 = .ok (.aload_n 0, 1) := by decide +kernel
theorem dX9_init_80 : decode cX9_init 80 = .ok (.iconst 4, 1) := by decide +kernel
theorem dX9_init_81 : decode cX9_init 81 = .ok (.newarray .int, 2) := by decide +kernel
theorem dX9_init_83 : decode cX9_init 83 = .ok (.putfield 38, 3) := by decide +kernel
theorem dX9_init_86 : decode cX9_init 86 = .ok (.aload_n 0, 1) := by decide +kernel
theorem dX9_init_87 : decode cX9_init 87 = .ok (.iconst 4, 1) := by decide +kernel
theorem dX9_init_88 : decode cX9_init 88 = .ok (.newarray .int, 2) := by decide +kernel
theorem dX9_init_90 : decode cX9_init 90 = .ok (.putfield 41, 3) := by decide +kernel
theorem dX9_init_93 : decode cX9_init 93 = .ok (.aload_n 0, 1) := by decide +kernel
theorem dX9_init_94 : decode cX9_init 94 = .ok (.sipush 160, 3) := by decide +kernel
theorem dX9_init_97 : decode cX9_init 97 = .ok (.newarray .int, 2) := by decide +kernel
theorem dX9_init_99 : decode cX9_init 99 = .ok (.putfield 44, 3) := by decide +kernel
theorem dX9_init_102 : decode cX9_init 102 = .ok (.aload_n 0, 1) := by decide +kernel
theorem dX9_init_103 : decode cX9_init 103 = .ok (.getfield 9, 3) := by decide +kernel
theorem dX9_init_106 : decode cX9_init 106 = .ok (.iconst 5, 1) := by decide +kernel
theorem dX9_init_107 : decode cX9_init 107 = .ok (.iconst 1, 1) := by decide +kernel
theorem dX9_init_108 : decode cX9_init 108 = .ok (.iastore, 1) := by decide +kernel
theorem dX9_init_109 : decode cX9_init 109 = .ok (.iconst 0, 1) := by decide +kernel
theorem dX9_init_110 : decode cX9_init 110 = .ok (.istore_n 1, 1) := by decide +kernel
theorem dX9_init_111 : decode cX9_init 111 = .ok (.iload_n 1, 1) := by decide +kernel
theorem dX9_init_112 : decode cX9_init 112 = .ok (.bipush 10, 2) := by decide +kernel
theorem dX9_init_114 : decode cX9_init 114 = .ok (.if_icmp .ge 20, 3) := by decide +kernel
theorem dX9_init_117 : decode cX9_init 117 = .ok (.aload_n 0, 1) := by decide +kernel
theorem dX9_init_118 : decode cX9_init 118 = .ok (.getfield 9, 3) := by decide +kernel
theorem dX9_init_121 : decode cX9_init 121 = .ok (.sipush 1204, 3) := by decide +kernel
theorem dX9_init_124 : decode cX9_init 124 = .ok (.iload_n 1, 1) := by decide +kernel
theorem dX9_init_125 : decode cX9_init 125 = .ok (.iadd, 1) := by decide +kernel
theorem dX9_init_126 : decode cX9_init 126 = .ok (.iconst (-1), 1) := by decide +kernel
theorem dX9_init_127 : decode cX9_init 127 = .ok (.iastore, 1) := by decide +kernel
theorem dX9_init_128 : decode cX9_init 128 = .ok (.iinc 1 1, 3) := by decide +kernel
theorem dX9_init_131 : decode cX9_init 131 = .ok (.goto (-20), 3) := by decide +kernel
theorem dX9_init_134 : decode cX9_init 134 = .ok (.return_, 1) := by decide +kernel
theorem dX9_finds_0 : decode cX9_finds 0 = .ok (.aload_n 0, 1) := by decide +kernel
theorem dX9_finds_1 : decode cX9_finds 1 = .ok (.getfield 16, 3) := by decide +kernel
theorem dX9_finds_4 : decode cX9_finds 4 = .ok (.ldc 47, 2) := by decide +kernel
theorem dX9_finds_6 : decode cX9_finds 6 = .ok (.iload_n 1, 1) := by decide +kernel
theorem dX9_finds_7 : decode cX9_finds 7 = .ok (.isub, 1) := by decide +kernel
theorem dX9_finds_8 : decode cX9_finds 8 = .ok (.dup2, 1) := by decide +kernel
theorem dX9_finds_9 : decode cX9_finds 9 = .ok (.iaload, 1) := by decide +kernel
theorem dX9_finds_10 : decode cX9_finds 10 = .ok (.iconst 1, 1) := by decide +kernel
theorem dX9_finds_11 : decode cX9_finds 11 = .ok (.iadd, 1) := by decide +kernel
theorem dX9_finds_12 : decode cX9_finds 12 = .ok (.iastore, 1) := by decide +kernel
theorem dX9_finds_13 : decode cX9_finds 13 = .ok (.iload_n 1, 1) := by decide +kernel
theorem dX9_finds_14 : decode cX9_finds 14 = .ok (.ireturn, 1) := by decide +kernel
theorem dX9_in_0 : decode cX9_in 0 = .ok (.lload_n 0, 1) := by decide +kernel
theorem dX9_in_1 : decode cX9_in 1 = .ok (.lload_n 2, 1) := by decide +kernel
theorem dX9_in_2 : decode cX9_in 2 = .ok (.lcmp, 1) := by decide +kernel
theorem dX9_in_3 : decode cX9_in 3 = .ok (.ifCond .lt 14, 3) := by decide +kernel
theorem dX9_in_6 : decode cX9_in 6 = .ok (.lload_n 0, 1) := by decide +kernel
theorem dX9_in_7 : decode cX9_in 7 = .ok (.lload 4, 2) := by decide +kernel
theorem dX9_in_9 : decode cX9_in 9 = .ok (.lcmp, 1) := by decide +kernel
theorem dX9_in_10 : decode cX9_in 10 = .ok (.ifCond .gt 7, 3) := by decide +kernel
theorem dX9_in_13 : decode cX9_in 13 = .ok (.iconst 1, 1) := by decide +kernel
theorem dX9_in_14 : decode cX9_in 14 = .ok (.goto 4, 3) := by decide +kernel
theorem dX9_in_17 : decode cX9_in 17 = .ok (.iconst 0, 1) := by decide +kernel
theorem dX9_in_18 : decode cX9_in 18 = .ok (.ireturn, 1) := by decide +kernel
theorem dX9_has_0 : decode cX9_has 0 = .ok (.iload_n 0, 1) := by decide +kernel
theorem dX9_has_1 : decode cX9_has 1 = .ok (.iload_n 1, 1) := by decide +kernel
theorem dX9_has_2 : decode cX9_has 2 = .ok (.ishr, 1) := by decide +kernel
theorem dX9_has_3 : decode cX9_has 3 = .ok (.iconst 1, 1) := by decide +kernel
theorem dX9_has_4 : decode cX9_has 4 = .ok (.iand, 1) := by decide +kernel
theorem dX9_has_5 : decode cX9_has 5 = .ok (.iconst 1, 1) := by decide +kernel
theorem dX9_has_6 : decode cX9_has 6 = .ok (.if_icmp .ne 7, 3) := by decide +kernel
theorem dX9_has_9 : decode cX9_has 9 = .ok (.iconst 1, 1) := by decide +kernel
theorem dX9_has_10 : decode cX9_has 10 = .ok (.goto 4, 3) := by decide +kernel
theorem dX9_has_13 : decode cX9_has 13 = .ok (.iconst 0, 1) := by decide +kernel
theorem dX9_has_14 : decode cX9_has 14 = .ok (.ireturn, 1) := by decide +kernel
theorem dX9_many_0 : decode cX9_many 0 = .ok (.iconst 0, 1) := by decide +kernel
theorem dX9_many_1 : decode cX9_many 1 = .ok (.istore_n 1, 1) := by decide +kernel
theorem dX9_many_2 : decode cX9_many 2 = .ok (.iconst 0, 1) := by decide +kernel
theorem dX9_many_3 : decode cX9_many 3 = .ok (.istore_n 2, 1) := by decide +kernel
theorem dX9_many_4 : decode cX9_many 4 = .ok (.iload_n 2, 1) := by decide +kernel
theorem dX9_many_5 : decode cX9_many 5 = .ok (.bipush 14, 2) := by decide +kernel
theorem dX9_many_7 : decode cX9_many 7 = .ok (.if_icmp .ge 17, 3) := by decide +kernel
theorem dX9_many_10 : decode cX9_many 10 = .ok (.iload_n 1, 1) := by decide +kernel
theorem dX9_many_11 : decode cX9_many 11 = .ok (.iload_n 0, 1) := by decide +kernel
theorem dX9_many_12 : decode cX9_many 12 = .ok (.iload_n 2, 1) := by decide +kernel
theorem dX9_many_13 : decode cX9_many 13 = .ok (.ishr, 1) := by decide +kernel
theorem dX9_many_14 : decode cX9_many 14 = .ok (.iconst 1, 1) := by decide +kernel
theorem dX9_many_15 : decode cX9_many 15 = .ok (.iand, 1) := by decide +kernel
theorem dX9_many_16 : decode cX9_many 16 = .ok (.iadd, 1) := by decide +kernel
theorem dX9_many_17 : decode cX9_many 17 = .ok (.istore_n 1, 1) := by decide +kernel
theorem dX9_many_18 : decode cX9_many 18 = .ok (.iinc 2 1, 3) := by decide +kernel
theorem dX9_many_21 : decode cX9_many 21 = .ok (.goto (-17), 3) := by decide +kernel
theorem dX9_many_24 : decode cX9_many 24 = .ok (.iload_n 1, 1) := by decide +kernel
theorem dX9_many_25 : decode cX9_many 25 = .ok (.ireturn, 1) := by decide +kernel
theorem dX9_of_0 : decode cX9_of 0 = .ok (.aload_n 0, 1) := by decide +kernel
theorem dX9_of_1 : decode cX9_of 1 = .ok (.getfield 9, 3) := by decide +kernel
theorem dX9_of_4 : decode cX9_of 4 = .ok (.bipush 6, 2) := by decide +kernel
theorem dX9_of_6 : decode cX9_of 6 = .ok (.bipush 8, 2) := by decide +kernel
theorem dX9_of_8 : decode cX9_of 8 = .ok (.iload_n 1, 1) := by decide +kernel
theorem dX9_of_9 : decode cX9_of 9 = .ok (.imul, 1) := by decide +kernel
theorem dX9_of_10 : decode cX9_of 10 = .ok (.iadd, 1) := by decide +kernel
theorem dX9_of_11 : decode cX9_of 11 = .ok (.iload_n 2, 1) := by decide +kernel
theorem dX9_of_12 : decode cX9_of 12 = .ok (.iadd, 1) := by decide +kernel
theorem dX9_of_13 : decode cX9_of 13 = .ok (.iaload, 1) := by decide +kernel
theorem dX9_of_14 : decode cX9_of 14 = .ok (.ireturn, 1) := by decide +kernel
theorem dX9_word_0 : decode cX9_word 0 = .ok (.aload_n 0, 1) := by decide +kernel
theorem dX9_word_1 : decode cX9_word 1 = .ok (.getfield 9, 3) := by decide +kernel
theorem dX9_word_4 : decode cX9_word 4 = .ok (.bipush 118, 2) := by decide +kernel
theorem dX9_word_6 : decode cX9_word 6 = .ok (.iconst 3, 1) := by decide +kernel
theorem dX9_word_7 : decode cX9_word 7 = .ok (.iload_n 1, 1) := by decide +kernel
theorem dX9_word_8 : decode cX9_word 8 = .ok (.imul, 1) := by decide +kernel
theorem dX9_word_9 : decode cX9_word 9 = .ok (.iadd, 1) := by decide +kernel
theorem dX9_word_10 : decode cX9_word 10 = .ok (.iload_n 2, 1) := by decide +kernel
theorem dX9_word_11 : decode cX9_word 11 = .ok (.iadd, 1) := by decide +kernel
theorem dX9_word_12 : decode cX9_word 12 = .ok (.iaload, 1) := by decide +kernel
theorem dX9_word_13 : decode cX9_word 13 = .ok (.ireturn, 1) := by decide +kernel
theorem dX9_isName_0 : decode cX9_isName 0 = .ok (.iload_n 1, 1) := by decide +kernel
theorem dX9_isName_1 : decode cX9_isName 1 = .ok (.i2l, 1) := by decide +kernel
theorem dX9_isName_2 : decode cX9_isName 2 = .ok (.lconst 0, 1) := by decide +kernel
theorem dX9_isName_3 : decode cX9_isName 3 = .ok (.aload_n 0, 1) := by decide +kernel
theorem dX9_isName_4 : decode cX9_isName 4 = .ok (.getfield 9, 3) := by decide +kernel
theorem dX9_isName_7 : decode cX9_isName 7 = .ok (.iconst 0, 1) := by decide +kernel
theorem dX9_isName_8 : decode cX9_isName 8 = .ok (.iaload, 1) := by decide +kernel
theorem dX9_isName_9 : decode cX9_isName 9 = .ok (.iconst 1, 1) := by decide +kernel
theorem dX9_isName_10 : decode cX9_isName 10 = .ok (.isub, 1) := by decide +kernel
theorem dX9_isName_11 : decode cX9_isName 11 = .ok (.i2l, 1) := by decide +kernel
theorem dX9_isName_12 : decode cX9_isName 12 = .ok (.invokestatic 48, 3) := by decide +kernel
theorem dX9_isName_15 : decode cX9_isName 15 = .ok (.ireturn, 1) := by decide +kernel
theorem dX9_isWord_0 : decode cX9_isWord 0 = .ok (.iload_n 1, 1) := by decide +kernel
theorem dX9_isWord_1 : decode cX9_isWord 1 = .ok (.i2l, 1) := by decide +kernel
theorem dX9_isWord_2 : decode cX9_isWord 2 = .ok (.lconst 0, 1) := by decide +kernel
theorem dX9_isWord_3 : decode cX9_isWord 3 = .ok (.aload_n 0, 1) := by decide +kernel
theorem dX9_isWord_4 : decode cX9_isWord 4 = .ok (.getfield 9, 3) := by decide +kernel
theorem dX9_isWord_7 : decode cX9_isWord 7 = .ok (.iconst 2, 1) := by decide +kernel
theorem dX9_isWord_8 : decode cX9_isWord 8 = .ok (.iaload, 1) := by decide +kernel
theorem dX9_isWord_9 : decode cX9_isWord 9 = .ok (.iconst 1, 1) := by decide +kernel
theorem dX9_isWord_10 : decode cX9_isWord 10 = .ok (.isub, 1) := by decide +kernel
theorem dX9_isWord_11 : decode cX9_isWord 11 = .ok (.i2l, 1) := by decide +kernel
theorem dX9_isWord_12 : decode cX9_isWord 12 = .ok (.invokestatic 48, 3) := by decide +kernel
theorem dX9_isWord_15 : decode cX9_isWord 15 = .ok (.ireturn, 1) := by decide +kernel
theorem dX9_every_0 : decode cX9_every 0 = .ok (.iconst 1, 1) := by decide +kernel
theorem dX9_every_1 : decode cX9_every 1 = .ok (.aload_n 0, 1) := by decide +kernel
theorem dX9_every_2 : decode cX9_every 2 = .ok (.getfield 9, 3) := by decide +kernel
theorem dX9_every_5 : decode cX9_every 5 = .ok (.iconst 0, 1) := by decide +kernel
theorem dX9_every_6 : decode cX9_every 6 = .ok (.iaload, 1) := by decide +kernel
theorem dX9_every_7 : decode cX9_every 7 = .ok (.ishl, 1) := by decide +kernel
theorem dX9_every_8 : decode cX9_every 8 = .ok (.iconst 1, 1) := by decide +kernel
theorem dX9_every_9 : decode cX9_every 9 = .ok (.isub, 1) := by decide +kernel
theorem dX9_every_10 : decode cX9_every 10 = .ok (.ireturn, 1) := by decide +kernel
theorem dX9_isSet_0 : decode cX9_isSet 0 = .ok (.iload_n 1, 1) := by decide +kernel
theorem dX9_isSet_1 : decode cX9_isSet 1 = .ok (.i2l, 1) := by decide +kernel
theorem dX9_isSet_2 : decode cX9_isSet 2 = .ok (.lconst 0, 1) := by decide +kernel
theorem dX9_isSet_3 : decode cX9_isSet 3 = .ok (.aload_n 0, 1) := by decide +kernel
theorem dX9_isSet_4 : decode cX9_isSet 4 = .ok (.invokevirtual 52, 3) := by decide +kernel
theorem dX9_isSet_7 : decode cX9_isSet 7 = .ok (.i2l, 1) := by decide +kernel
theorem dX9_isSet_8 : decode cX9_isSet 8 = .ok (.invokestatic 48, 3) := by decide +kernel
theorem dX9_isSet_11 : decode cX9_isSet 11 = .ok (.ireturn, 1) := by decide +kernel
theorem dX9_isSecond_0 : decode cX9_isSecond 0 = .ok (.iload_n 0, 1) := by decide +kernel
theorem dX9_isSecond_1 : decode cX9_isSecond 1 = .ok (.i2l, 1) := by decide +kernel
theorem dX9_isSecond_2 : decode cX9_isSecond 2 = .ok (.lconst 0, 1) := by decide +kernel
theorem dX9_isSecond_3 : decode cX9_isSecond 3 = .ok (.ldc2_w 56, 3) := by decide +kernel
theorem dX9_isSecond_6 : decode cX9_isSecond 6 = .ok (.invokestatic 48, 3) := by decide +kernel
theorem dX9_isSecond_9 : decode cX9_isSecond 9 = .ok (.ireturn, 1) := by decide +kernel
theorem dX9_isTopic_0 : decode cX9_isTopic 0 = .ok (.iload_n 0, 1) := by decide +kernel
theorem dX9_isTopic_1 : decode cX9_isTopic 1 = .ok (.i2l, 1) := by decide +kernel
theorem dX9_isTopic_2 : decode cX9_isTopic 2 = .ok (.lconst 0, 1) := by decide +kernel
theorem dX9_isTopic_3 : decode cX9_isTopic 3 = .ok (.ldc2_w 58, 3) := by decide +kernel
theorem dX9_isTopic_6 : decode cX9_isTopic 6 = .ok (.invokestatic 48, 3) := by decide +kernel
theorem dX9_isTopic_9 : decode cX9_isTopic 9 = .ok (.ireturn, 1) := by decide +kernel
theorem dX9_name_0 : decode cX9_name 0 = .ok (.iload_n 1, 1) := by decide +kernel
theorem dX9_name_1 : decode cX9_name 1 = .ok (.i2l, 1) := by decide +kernel
theorem dX9_name_2 : decode cX9_name 2 = .ok (.lconst 0, 1) := by decide +kernel
theorem dX9_name_3 : decode cX9_name 3 = .ok (.ldc2_w 60, 3) := by decide +kernel
theorem dX9_name_6 : decode cX9_name 6 = .ok (.invokestatic 48, 3) := by decide +kernel
theorem dX9_name_9 : decode cX9_name 9 = .ok (.ifCond .eq 15, 3) := by decide +kernel
theorem dX9_name_12 : decode cX9_name 12 = .ok (.iload_n 2, 1) := by decide +kernel
theorem dX9_name_13 : decode cX9_name 13 = .ok (.i2l, 1) := by decide +kernel
theorem dX9_name_14 : decode cX9_name 14 = .ok (.lconst 1, 1) := by decide +kernel
theorem dX9_name_15 : decode cX9_name 15 = .ok (.ldc2_w 62, 3) := by decide +kernel
theorem dX9_name_18 : decode cX9_name 18 = .ok (.invokestatic 48, 3) := by decide +kernel
theorem dX9_name_21 : decode cX9_name 21 = .ok (.ifCond .ne 10, 3) := by decide +kernel
theorem dX9_name_24 : decode cX9_name 24 = .ok (.aload_n 0, 1) := by decide +kernel
theorem dX9_name_25 : decode cX9_name 25 = .ok (.ldc 47, 2) := by decide +kernel
theorem dX9_name_27 : decode cX9_name 27 = .ok (.invokevirtual 64, 3) := by decide +kernel
theorem dX9_name_30 : decode cX9_name 30 = .ok (.ireturn, 1) := by decide +kernel
theorem dX9_name_31 : decode cX9_name 31 = .ok (.aload_n 0, 1) := by decide +kernel
theorem dX9_name_32 : decode cX9_name 32 = .ok (.getfield 9, 3) := by decide +kernel
theorem dX9_name_35 : decode cX9_name 35 = .ok (.iconst 0, 1) := by decide +kernel
theorem dX9_name_36 : decode cX9_name 36 = .ok (.iaload, 1) := by decide +kernel
theorem dX9_name_37 : decode cX9_name 37 = .ok (.istore_n 3, 1) := by decide +kernel
theorem dX9_name_38 : decode cX9_name 38 = .ok (.iload_n 3, 1) := by decide +kernel
theorem dX9_name_39 : decode cX9_name 39 = .ok (.bipush 14, 2) := by decide +kernel
theorem dX9_name_41 : decode cX9_name 41 = .ok (.if_icmp .ne 10, 3) := by decide +kernel
theorem dX9_name_44 : decode cX9_name 44 = .ok (.aload_n 0, 1) := by decide +kernel
theorem dX9_name_45 : decode cX9_name 45 = .ok (.ldc 68, 2) := by decide +kernel
theorem dX9_name_47 : decode cX9_name 47 = .ok (.invokevirtual 64, 3) := by decide +kernel
theorem dX9_name_50 : decode cX9_name 50 = .ok (.ireturn, 1) := by decide +kernel
theorem dX9_name_51 : decode cX9_name 51 = .ok (.bipush 6, 2) := by decide +kernel
theorem dX9_name_53 : decode cX9_name 53 = .ok (.bipush 8, 2) := by decide +kernel
theorem dX9_name_55 : decode cX9_name 55 = .ok (.iload_n 3, 1) := by decide +kernel
theorem dX9_name_56 : decode cX9_name 56 = .ok (.imul, 1) := by decide +kernel
theorem dX9_name_57 : decode cX9_name 57 = .ok (.iadd, 1) := by decide +kernel
theorem dX9_name_58 : decode cX9_name 58 = .ok (.istore 4, 2) := by decide +kernel
theorem dX9_name_60 : decode cX9_name 60 = .ok (.aload_n 0, 1) := by decide +kernel
theorem dX9_name_61 : decode cX9_name 61 = .ok (.getfield 9, 3) := by decide +kernel
theorem dX9_name_64 : decode cX9_name 64 = .ok (.iload 4, 2) := by decide +kernel
theorem dX9_name_66 : decode cX9_name 66 = .ok (.iload_n 1, 1) := by decide +kernel
theorem dX9_name_67 : decode cX9_name 67 = .ok (.iastore, 1) := by decide +kernel
theorem dX9_name_68 : decode cX9_name 68 = .ok (.aload_n 0, 1) := by decide +kernel
theorem dX9_name_69 : decode cX9_name 69 = .ok (.getfield 9, 3) := by decide +kernel
theorem dX9_name_72 : decode cX9_name 72 = .ok (.iload 4, 2) := by decide +kernel
theorem dX9_name_74 : decode cX9_name 74 = .ok (.iconst 1, 1) := by decide +kernel
theorem dX9_name_75 : decode cX9_name 75 = .ok (.iadd, 1) := by decide +kernel
theorem dX9_name_76 : decode cX9_name 76 = .ok (.iload_n 2, 1) := by decide +kernel
theorem dX9_name_77 : decode cX9_name 77 = .ok (.iastore, 1) := by decide +kernel
theorem dX9_name_78 : decode cX9_name 78 = .ok (.aload_n 0, 1) := by decide +kernel
theorem dX9_name_79 : decode cX9_name 79 = .ok (.getfield 9, 3) := by decide +kernel
theorem dX9_name_82 : decode cX9_name 82 = .ok (.iload 4, 2) := by decide +kernel
theorem dX9_name_84 : decode cX9_name 84 = .ok (.iconst 2, 1) := by decide +kernel
theorem dX9_name_85 : decode cX9_name 85 = .ok (.iadd, 1) := by decide +kernel
theorem dX9_name_86 : decode cX9_name 86 = .ok (.sipush 1023, 3) := by decide +kernel
theorem dX9_name_89 : decode cX9_name 89 = .ok (.iastore, 1) := by decide +kernel
theorem dX9_name_90 : decode cX9_name 90 = .ok (.aload_n 0, 1) := by decide +kernel
theorem dX9_name_91 : decode cX9_name 91 = .ok (.getfield 9, 3) := by decide +kernel
theorem dX9_name_94 : decode cX9_name 94 = .ok (.iload 4, 2) := by decide +kernel
theorem dX9_name_96 : decode cX9_name 96 = .ok (.iconst 3, 1) := by decide +kernel
theorem dX9_name_97 : decode cX9_name 97 = .ok (.iadd, 1) := by decide +kernel
theorem dX9_name_98 : decode cX9_name 98 = .ok (.iconst 0, 1) := by decide +kernel
theorem dX9_name_99 : decode cX9_name 99 = .ok (.iastore, 1) := by decide +kernel
theorem dX9_name_100 : decode cX9_name 100 = .ok (.aload_n 0, 1) := by decide +kernel
theorem dX9_name_101 : decode cX9_name 101 = .ok (.getfield 9, 3) := by decide +kernel
theorem dX9_name_104 : decode cX9_name 104 = .ok (.iload 4, 2) := by decide +kernel
theorem dX9_name_106 : decode cX9_name 106 = .ok (.iconst 4, 1) := by decide +kernel
theorem dX9_name_107 : decode cX9_name 107 = .ok (.iadd, 1) := by decide +kernel
theorem dX9_name_108 : decode cX9_name 108 = .ok (.iconst (-1), 1) := by decide +kernel
theorem dX9_name_109 : decode cX9_name 109 = .ok (.iastore, 1) := by decide +kernel
theorem dX9_name_110 : decode cX9_name 110 = .ok (.aload_n 0, 1) := by decide +kernel
theorem dX9_name_111 : decode cX9_name 111 = .ok (.getfield 9, 3) := by decide +kernel
theorem dX9_name_114 : decode cX9_name 114 = .ok (.iload 4, 2) := by decide +kernel
theorem dX9_name_116 : decode cX9_name 116 = .ok (.iconst 5, 1) := by decide +kernel
theorem dX9_name_117 : decode cX9_name 117 = .ok (.iadd, 1) := by decide +kernel
theorem dX9_name_118 : decode cX9_name 118 = .ok (.iconst 0, 1) := by decide +kernel
theorem dX9_name_119 : decode cX9_name 119 = .ok (.iastore, 1) := by decide +kernel
theorem dX9_name_120 : decode cX9_name 120 = .ok (.aload_n 0, 1) := by decide +kernel
theorem dX9_name_121 : decode cX9_name 121 = .ok (.getfield 9, 3) := by decide +kernel
theorem dX9_name_124 : decode cX9_name 124 = .ok (.iload 4, 2) := by decide +kernel
theorem dX9_name_126 : decode cX9_name 126 = .ok (.bipush 6, 2) := by decide +kernel
theorem dX9_name_128 : decode cX9_name 128 = .ok (.iadd, 1) := by decide +kernel
theorem dX9_name_129 : decode cX9_name 129 = .ok (.iconst 0, 1) := by decide +kernel
theorem dX9_name_130 : decode cX9_name 130 = .ok (.iastore, 1) := by decide +kernel
theorem dX9_name_131 : decode cX9_name 131 = .ok (.aload_n 0, 1) := by decide +kernel
theorem dX9_name_132 : decode cX9_name 132 = .ok (.getfield 9, 3) := by decide +kernel
theorem dX9_name_135 : decode cX9_name 135 = .ok (.iload 4, 2) := by decide +kernel
theorem dX9_name_137 : decode cX9_name 137 = .ok (.bipush 7, 2) := by decide +kernel
theorem dX9_name_139 : decode cX9_name 139 = .ok (.iadd, 1) := by decide +kernel
theorem dX9_name_140 : decode cX9_name 140 = .ok (.iconst 0, 1) := by decide +kernel
theorem dX9_name_141 : decode cX9_name 141 = .ok (.iastore, 1) := by decide +kernel
theorem dX9_name_142 : decode cX9_name 142 = .ok (.aload_n 0, 1) := by decide +kernel
theorem dX9_name_143 : decode cX9_name 143 = .ok (.getfield 9, 3) := by decide +kernel
theorem dX9_name_146 : decode cX9_name 146 = .ok (.iconst 0, 1) := by decide +kernel
theorem dX9_name_147 : decode cX9_name 147 = .ok (.dup2, 1) := by decide +kernel
theorem dX9_name_148 : decode cX9_name 148 = .ok (.iaload, 1) := by decide +kernel
theorem dX9_name_149 : decode cX9_name 149 = .ok (.iconst 1, 1) := by decide +kernel
theorem dX9_name_150 : decode cX9_name 150 = .ok (.iadd, 1) := by decide +kernel
theorem dX9_name_151 : decode cX9_name 151 = .ok (.iastore, 1) := by decide +kernel
theorem dX9_name_152 : decode cX9_name 152 = .ok (.iload_n 3, 1) := by decide +kernel
theorem dX9_name_153 : decode cX9_name 153 = .ok (.ireturn, 1) := by decide +kernel
theorem dX9_isPerson_0 : decode cX9_isPerson 0 = .ok (.aload_n 0, 1) := by decide +kernel
theorem dX9_isPerson_1 : decode cX9_isPerson 1 = .ok (.iload_n 1, 1) := by decide +kernel
theorem dX9_isPerson_2 : decode cX9_isPerson 2 = .ok (.iconst 0, 1) := by decide +kernel
theorem dX9_isPerson_3 : decode cX9_isPerson 3 = .ok (.invokevirtual 69, 3) := by decide +kernel
theorem dX9_isPerson_6 : decode cX9_isPerson 6 = .ok (.istore_n 2, 1) := by decide +kernel
theorem dX9_isPerson_7 : decode cX9_isPerson 7 = .ok (.iload_n 2, 1) := by decide +kernel
theorem dX9_isPerson_8 : decode cX9_isPerson 8 = .ok (.iconst 1, 1) := by decide +kernel
theorem dX9_isPerson_9 : decode cX9_isPerson 9 = .ok (.if_icmp .eq 14, 3) := by decide +kernel
theorem dX9_isPerson_12 : decode cX9_isPerson 12 = .ok (.iload_n 2, 1) := by decide +kernel
theorem dX9_isPerson_13 : decode cX9_isPerson 13 = .ok (.iconst 3, 1) := by decide +kernel
theorem dX9_isPerson_14 : decode cX9_isPerson 14 = .ok (.if_icmp .eq 9, 3) := by decide +kernel
theorem dX9_isPerson_17 : decode cX9_isPerson 17 = .ok (.iload_n 2, 1) := by decide +kernel
theorem dX9_isPerson_18 : decode cX9_isPerson 18 = .ok (.bipush 6, 2) := by decide +kernel
theorem dX9_isPerson_20 : decode cX9_isPerson 20 = .ok (.if_icmp .ne 7, 3) := by decide +kernel
theorem dX9_isPerson_23 : decode cX9_isPerson 23 = .ok (.iconst 1, 1) := by decide +kernel
theorem dX9_isPerson_24 : decode cX9_isPerson 24 = .ok (.goto 4, 3) := by decide +kernel
theorem dX9_isPerson_27 : decode cX9_isPerson 27 = .ok (.iconst 0, 1) := by decide +kernel
theorem dX9_isPerson_28 : decode cX9_isPerson 28 = .ok (.ireturn, 1) := by decide +kernel
theorem dX9_nameOf_0 : decode cX9_nameOf 0 = .ok (.aload_n 0, 1) := by decide +kernel
theorem dX9_nameOf_1 : decode cX9_nameOf 1 = .ok (.iload_n 1, 1) := by decide +kernel
theorem dX9_nameOf_2 : decode cX9_nameOf 2 = .ok (.invokevirtual 73, 3) := by decide +kernel
theorem dX9_nameOf_5 : decode cX9_nameOf 5 = .ok (.ifCond .eq 15, 3) := by decide +kernel
theorem dX9_nameOf_8 : decode cX9_nameOf 8 = .ok (.iload_n 2, 1) := by decide +kernel
theorem dX9_nameOf_9 : decode cX9_nameOf 9 = .ok (.i2l, 1) := by decide +kernel
theorem dX9_nameOf_10 : decode cX9_nameOf 10 = .ok (.lconst 0, 1) := by decide +kernel
theorem dX9_nameOf_11 : decode cX9_nameOf 11 = .ok (.ldc2_w 60, 3) := by decide +kernel
theorem dX9_nameOf_14 : decode cX9_nameOf 14 = .ok (.invokestatic 48, 3) := by decide +kernel
theorem dX9_nameOf_17 : decode cX9_nameOf 17 = .ok (.ifCond .ne 10, 3) := by decide +kernel
theorem dX9_nameOf_20 : decode cX9_nameOf 20 = .ok (.aload_n 0, 1) := by decide +kernel
theorem dX9_nameOf_21 : decode cX9_nameOf 21 = .ok (.ldc 47, 2) := by decide +kernel
theorem dX9_nameOf_23 : decode cX9_nameOf 23 = .ok (.invokevirtual 64, 3) := by decide +kernel
theorem dX9_nameOf_26 : decode cX9_nameOf 26 = .ok (.ireturn, 1) := by decide +kernel
theorem dX9_nameOf_27 : decode cX9_nameOf 27 = .ok (.iload_n 2, 1) := by decide +kernel
theorem dX9_nameOf_28 : decode cX9_nameOf 28 = .ok (.bipush 7, 2) := by decide +kernel
theorem dX9_nameOf_30 : decode cX9_nameOf 30 = .ok (.if_icmp .ge 12, 3) := by decide +kernel
theorem dX9_nameOf_33 : decode cX9_nameOf 33 = .ok (.aload_n 0, 1) := by decide +kernel
theorem dX9_nameOf_34 : decode cX9_nameOf 34 = .ok (.iload_n 1, 1) := by decide +kernel
theorem dX9_nameOf_35 : decode cX9_nameOf 35 = .ok (.iload_n 2, 1) := by decide +kernel
theorem dX9_nameOf_36 : decode cX9_nameOf 36 = .ok (.invokevirtual 69, 3) := by decide +kernel
theorem dX9_nameOf_39 : decode cX9_nameOf 39 = .ok (.goto 16, 3) := by decide +kernel
theorem dX9_nameOf_42 : decode cX9_nameOf 42 = .ok (.aload_n 0, 1) := by decide +kernel
theorem dX9_nameOf_43 : decode cX9_nameOf 43 = .ok (.iload_n 1, 1) := by decide +kernel
theorem dX9_nameOf_44 : decode cX9_nameOf 44 = .ok (.invokevirtual 77, 3) := by decide +kernel
theorem dX9_nameOf_47 : decode cX9_nameOf 47 = .ok (.ifCond .eq 7, 3) := by decide +kernel
theorem dX9_nameOf_50 : decode cX9_nameOf 50 = .ok (.iconst 1, 1) := by decide +kernel
theorem dX9_nameOf_51 : decode cX9_nameOf 51 = .ok (.goto 4, 3) := by decide +kernel
theorem dX9_nameOf_54 : decode cX9_nameOf 54 = .ok (.iconst 0, 1) := by decide +kernel
theorem dX9_nameOf_55 : decode cX9_nameOf 55 = .ok (.ireturn, 1) := by decide +kernel
theorem dX9_may_0 : decode cX9_may 0 = .ok (.iload_n 2, 1) := by decide +kernel
theorem dX9_may_1 : decode cX9_may 1 = .ok (.tableswitch 85 1 4 #[31, 41, 51, 61], 31) := by decide +kernel
theorem dX9_may_32 : decode cX9_may 32 = .ok (.iload_n 3, 1) := by decide +kernel
theorem dX9_may_33 : decode cX9_may 33 = .ok (.i2l, 1) := by decide +kernel
theorem dX9_may_34 : decode cX9_may 34 = .ok (.lconst 1, 1) := by decide +kernel
theorem dX9_may_35 : decode cX9_may 35 = .ok (.ldc2_w 62, 3) := by decide +kernel
theorem dX9_may_38 : decode cX9_may 38 = .ok (.invokestatic 48, 3) := by decide +kernel
theorem dX9_may_41 : decode cX9_may 41 = .ok (.ireturn, 1) := by decide +kernel
theorem dX9_may_42 : decode cX9_may 42 = .ok (.iload_n 3, 1) := by decide +kernel
theorem dX9_may_43 : decode cX9_may 43 = .ok (.i2l, 1) := by decide +kernel
theorem dX9_may_44 : decode cX9_may 44 = .ok (.lconst 1, 1) := by decide +kernel
theorem dX9_may_45 : decode cX9_may 45 = .ok (.ldc2_w 80, 3) := by decide +kernel
theorem dX9_may_48 : decode cX9_may 48 = .ok (.invokestatic 48, 3) := by decide +kernel
theorem dX9_may_51 : decode cX9_may 51 = .ok (.ireturn, 1) := by decide +kernel
theorem dX9_may_52 : decode cX9_may 52 = .ok (.iload_n 3, 1) := by decide +kernel
theorem dX9_may_53 : decode cX9_may 53 = .ok (.i2l, 1) := by decide +kernel
theorem dX9_may_54 : decode cX9_may 54 = .ok (.lconst 0, 1) := by decide +kernel
theorem dX9_may_55 : decode cX9_may 55 = .ok (.ldc2_w 82, 3) := by decide +kernel
theorem dX9_may_58 : decode cX9_may 58 = .ok (.invokestatic 48, 3) := by decide +kernel
theorem dX9_may_61 : decode cX9_may 61 = .ok (.ireturn, 1) := by decide +kernel
theorem dX9_may_62 : decode cX9_may 62 = .ok (.iload_n 3, 1) := by decide +kernel
theorem dX9_may_63 : decode cX9_may 63 = .ok (.iload_n 1, 1) := by decide +kernel
theorem dX9_may_64 : decode cX9_may 64 = .ok (.if_icmp .eq 20, 3) := by decide +kernel
theorem dX9_may_67 : decode cX9_may 67 = .ok (.iload_n 3, 1) := by decide +kernel
theorem dX9_may_68 : decode cX9_may 68 = .ok (.iconst (-1), 1) := by decide +kernel
theorem dX9_may_69 : decode cX9_may 69 = .ok (.if_icmp .eq 11, 3) := by decide +kernel
theorem dX9_may_72 : decode cX9_may 72 = .ok (.aload_n 0, 1) := by decide +kernel
theorem dX9_may_73 : decode cX9_may 73 = .ok (.iload_n 3, 1) := by decide +kernel
theorem dX9_may_74 : decode cX9_may 74 = .ok (.invokevirtual 73, 3) := by decide +kernel
theorem dX9_may_77 : decode cX9_may 77 = .ok (.ifCond .eq 7, 3) := by decide +kernel
theorem dX9_may_80 : decode cX9_may 80 = .ok (.iconst 1, 1) := by decide +kernel
theorem dX9_may_81 : decode cX9_may 81 = .ok (.goto 4, 3) := by decide +kernel
theorem dX9_may_84 : decode cX9_may 84 = .ok (.iconst 0, 1) := by decide +kernel
theorem dX9_may_85 : decode cX9_may 85 = .ok (.ireturn, 1) := by decide +kernel
theorem dX9_may_86 : decode cX9_may 86 = .ok (.iload_n 2, 1) := by decide +kernel
theorem dX9_may_87 : decode cX9_may 87 = .ok (.iconst 5, 1) := by decide +kernel
theorem dX9_may_88 : decode cX9_may 88 = .ok (.if_icmp .ne 14, 3) := by decide +kernel
theorem dX9_may_91 : decode cX9_may 91 = .ok (.iload_n 3, 1) := by decide +kernel
theorem dX9_may_92 : decode cX9_may 92 = .ok (.invokestatic 84, 3) := by decide +kernel
theorem dX9_may_95 : decode cX9_may 95 = .ok (.ifCond .eq 7, 3) := by decide +kernel
theorem dX9_may_98 : decode cX9_may 98 = .ok (.iconst 1, 1) := by decide +kernel
theorem dX9_may_99 : decode cX9_may 99 = .ok (.goto 4, 3) := by decide +kernel
theorem dX9_may_102 : decode cX9_may 102 = .ok (.iconst 0, 1) := by decide +kernel
theorem dX9_may_103 : decode cX9_may 103 = .ok (.ireturn, 1) := by decide +kernel
theorem dX9_becomes_0 : decode cX9_becomes 0 = .ok (.aload_n 0, 1) := by decide +kernel
theorem dX9_becomes_1 : decode cX9_becomes 1 = .ok (.getfield 9, 3) := by decide +kernel
theorem dX9_becomes_4 : decode cX9_becomes 4 = .ok (.iload_n 1, 1) := by decide +kernel
theorem dX9_becomes_5 : decode cX9_becomes 5 = .ok (.iaload, 1) := by decide +kernel
theorem dX9_becomes_6 : decode cX9_becomes 6 = .ok (.istore_n 3, 1) := by decide +kernel
theorem dX9_becomes_7 : decode cX9_becomes 7 = .ok (.aload_n 0, 1) := by decide +kernel
theorem dX9_becomes_8 : decode cX9_becomes 8 = .ok (.getfield 9, 3) := by decide +kernel
theorem dX9_becomes_11 : decode cX9_becomes 11 = .ok (.iload_n 1, 1) := by decide +kernel
theorem dX9_becomes_12 : decode cX9_becomes 12 = .ok (.iload_n 2, 1) := by decide +kernel
theorem dX9_becomes_13 : decode cX9_becomes 13 = .ok (.iastore, 1) := by decide +kernel
theorem dX9_becomes_14 : decode cX9_becomes 14 = .ok (.iload_n 3, 1) := by decide +kernel
theorem dX9_becomes_15 : decode cX9_becomes 15 = .ok (.ireturn, 1) := by decide +kernel
theorem dX9_change_0 : decode cX9_change 0 = .ok (.aload_n 0, 1) := by decide +kernel
theorem dX9_change_1 : decode cX9_change 1 = .ok (.iload_n 1, 1) := by decide +kernel
theorem dX9_change_2 : decode cX9_change 2 = .ok (.invokevirtual 73, 3) := by decide +kernel
theorem dX9_change_5 : decode cX9_change 5 = .ok (.ifCond .eq 30, 3) := by decide +kernel
theorem dX9_change_8 : decode cX9_change 8 = .ok (.aload_n 0, 1) := by decide +kernel
theorem dX9_change_9 : decode cX9_change 9 = .ok (.iload_n 1, 1) := by decide +kernel
theorem dX9_change_10 : decode cX9_change 10 = .ok (.iload_n 2, 1) := by decide +kernel
theorem dX9_change_11 : decode cX9_change 11 = .ok (.iload_n 3, 1) := by decide +kernel
theorem dX9_change_12 : decode cX9_change 12 = .ok (.invokevirtual 87, 3) := by decide +kernel
theorem dX9_change_15 : decode cX9_change 15 = .ok (.ifCond .eq 20, 3) := by decide +kernel
theorem dX9_change_18 : decode cX9_change 18 = .ok (.aload_n 0, 1) := by decide +kernel
theorem dX9_change_19 : decode cX9_change 19 = .ok (.bipush 6, 2) := by decide +kernel
theorem dX9_change_21 : decode cX9_change 21 = .ok (.bipush 8, 2) := by decide +kernel
theorem dX9_change_23 : decode cX9_change 23 = .ok (.iload_n 1, 1) := by decide +kernel
theorem dX9_change_24 : decode cX9_change 24 = .ok (.imul, 1) := by decide +kernel
theorem dX9_change_25 : decode cX9_change 25 = .ok (.iadd, 1) := by decide +kernel
theorem dX9_change_26 : decode cX9_change 26 = .ok (.iload_n 2, 1) := by decide +kernel
theorem dX9_change_27 : decode cX9_change 27 = .ok (.iadd, 1) := by decide +kernel
theorem dX9_change_28 : decode cX9_change 28 = .ok (.iload_n 3, 1) := by decide +kernel
theorem dX9_change_29 : decode cX9_change 29 = .ok (.invokevirtual 91, 3) := by decide +kernel
theorem dX9_change_32 : decode cX9_change 32 = .ok (.goto 9, 3) := by decide +kernel
theorem dX9_change_35 : decode cX9_change 35 = .ok (.aload_n 0, 1) := by decide +kernel
theorem dX9_change_36 : decode cX9_change 36 = .ok (.ldc 47, 2) := by decide +kernel
theorem dX9_change_38 : decode cX9_change 38 = .ok (.invokevirtual 64, 3) := by decide +kernel
theorem dX9_change_41 : decode cX9_change 41 = .ok (.ireturn, 1) := by decide +kernel
theorem dX9_shut_0 : decode cX9_shut 0 = .ok (.aload_n 0, 1) := by decide +kernel
theorem dX9_shut_1 : decode cX9_shut 1 = .ok (.iload_n 1, 1) := by decide +kernel
theorem dX9_shut_2 : decode cX9_shut 2 = .ok (.invokevirtual 73, 3) := by decide +kernel
theorem dX9_shut_5 : decode cX9_shut 5 = .ok (.ifCond .eq 29, 3) := by decide +kernel
theorem dX9_shut_8 : decode cX9_shut 8 = .ok (.aload_n 0, 1) := by decide +kernel
theorem dX9_shut_9 : decode cX9_shut 9 = .ok (.bipush 6, 2) := by decide +kernel
theorem dX9_shut_11 : decode cX9_shut 11 = .ok (.bipush 8, 2) := by decide +kernel
theorem dX9_shut_13 : decode cX9_shut 13 = .ok (.iload_n 1, 1) := by decide +kernel
theorem dX9_shut_14 : decode cX9_shut 14 = .ok (.imul, 1) := by decide +kernel
theorem dX9_shut_15 : decode cX9_shut 15 = .ok (.iadd, 1) := by decide +kernel
theorem dX9_shut_16 : decode cX9_shut 16 = .ok (.bipush 6, 2) := by decide +kernel
theorem dX9_shut_18 : decode cX9_shut 18 = .ok (.iadd, 1) := by decide +kernel
theorem dX9_shut_19 : decode cX9_shut 19 = .ok (.iload_n 2, 1) := by decide +kernel
theorem dX9_shut_20 : decode cX9_shut 20 = .ok (.ifCond .eq 7, 3) := by decide +kernel
theorem dX9_shut_23 : decode cX9_shut 23 = .ok (.iconst 1, 1) := by decide +kernel
theorem dX9_shut_24 : decode cX9_shut 24 = .ok (.goto 4, 3) := by decide +kernel
theorem dX9_shut_27 : decode cX9_shut 27 = .ok (.iconst 0, 1) := by decide +kernel
theorem dX9_shut_28 : decode cX9_shut 28 = .ok (.invokevirtual 91, 3) := by decide +kernel
theorem dX9_shut_31 : decode cX9_shut 31 = .ok (.goto 9, 3) := by decide +kernel
theorem dX9_shut_34 : decode cX9_shut 34 = .ok (.aload_n 0, 1) := by decide +kernel
theorem dX9_shut_35 : decode cX9_shut 35 = .ok (.ldc 47, 2) := by decide +kernel
theorem dX9_shut_37 : decode cX9_shut 37 = .ok (.invokevirtual 64, 3) := by decide +kernel
theorem dX9_shut_40 : decode cX9_shut 40 = .ok (.ireturn, 1) := by decide +kernel
theorem dX9_object_0 : decode cX9_object 0 = .ok (.iconst 0, 1) := by decide +kernel
theorem dX9_object_1 : decode cX9_object 1 = .ok (.istore_n 1, 1) := by decide +kernel
theorem dX9_object_2 : decode cX9_object 2 = .ok (.iconst 0, 1) := by decide +kernel
theorem dX9_object_3 : decode cX9_object 3 = .ok (.istore_n 2, 1) := by decide +kernel
theorem dX9_object_4 : decode cX9_object 4 = .ok (.iload_n 2, 1) := by decide +kernel
theorem dX9_object_5 : decode cX9_object 5 = .ok (.aload_n 0, 1) := by decide +kernel
theorem dX9_object_6 : decode cX9_object 6 = .ok (.getfield 9, 3) := by decide +kernel
theorem dX9_object_9 : decode cX9_object 9 = .ok (.iconst 0, 1) := by decide +kernel
theorem dX9_object_10 : decode cX9_object 10 = .ok (.iaload, 1) := by decide +kernel
theorem dX9_object_11 : decode cX9_object 11 = .ok (.if_icmp .ge 39, 3) := by decide +kernel
theorem dX9_object_14 : decode cX9_object 14 = .ok (.iload_n 1, 1) := by decide +kernel
theorem dX9_object_15 : decode cX9_object 15 = .ok (.aload_n 0, 1) := by decide +kernel
theorem dX9_object_16 : decode cX9_object 16 = .ok (.iload_n 2, 1) := by decide +kernel
theorem dX9_object_17 : decode cX9_object 17 = .ok (.invokevirtual 77, 3) := by decide +kernel
theorem dX9_object_20 : decode cX9_object 20 = .ok (.ifCond .eq 21, 3) := by decide +kernel
theorem dX9_object_23 : decode cX9_object 23 = .ok (.aload_n 0, 1) := by decide +kernel
theorem dX9_object_24 : decode cX9_object 24 = .ok (.bipush 6, 2) := by decide +kernel
theorem dX9_object_26 : decode cX9_object 26 = .ok (.bipush 8, 2) := by decide +kernel
theorem dX9_object_28 : decode cX9_object 28 = .ok (.iload_n 2, 1) := by decide +kernel
theorem dX9_object_29 : decode cX9_object 29 = .ok (.imul, 1) := by decide +kernel
theorem dX9_object_30 : decode cX9_object 30 = .ok (.iadd, 1) := by decide +kernel
theorem dX9_object_31 : decode cX9_object 31 = .ok (.bipush 6, 2) := by decide +kernel
theorem dX9_object_33 : decode cX9_object 33 = .ok (.iadd, 1) := by decide +kernel
theorem dX9_object_34 : decode cX9_object 34 = .ok (.iconst 0, 1) := by decide +kernel
theorem dX9_object_35 : decode cX9_object 35 = .ok (.invokevirtual 91, 3) := by decide +kernel
theorem dX9_object_38 : decode cX9_object 38 = .ok (.goto 4, 3) := by decide +kernel
theorem dX9_object_41 : decode cX9_object 41 = .ok (.iconst 0, 1) := by decide +kernel
theorem dX9_object_42 : decode cX9_object 42 = .ok (.iadd, 1) := by decide +kernel
theorem dX9_object_43 : decode cX9_object 43 = .ok (.istore_n 1, 1) := by decide +kernel
theorem dX9_object_44 : decode cX9_object 44 = .ok (.iinc 2 1, 3) := by decide +kernel
theorem dX9_object_47 : decode cX9_object 47 = .ok (.goto (-43), 3) := by decide +kernel
theorem dX9_object_50 : decode cX9_object 50 = .ok (.iload_n 1, 1) := by decide +kernel
theorem dX9_object_51 : decode cX9_object 51 = .ok (.ireturn, 1) := by decide +kernel
theorem dX9_hourOf_0 : decode cX9_hourOf 0 = .ok (.iload_n 0, 1) := by decide +kernel
theorem dX9_hourOf_1 : decode cX9_hourOf 1 = .ok (.bipush 100, 2) := by decide +kernel
theorem dX9_hourOf_3 : decode cX9_hourOf 3 = .ok (.idiv, 1) := by decide +kernel
theorem dX9_hourOf_4 : decode cX9_hourOf 4 = .ok (.bipush 10, 2) := by decide +kernel
theorem dX9_hourOf_6 : decode cX9_hourOf 6 = .ok (.irem, 1) := by decide +kernel
theorem dX9_hourOf_7 : decode cX9_hourOf 7 = .ok (.ireturn, 1) := by decide +kernel
theorem dX9_isAwake_0 : decode cX9_isAwake 0 = .ok (.aload_n 0, 1) := by decide +kernel
theorem dX9_isAwake_1 : decode cX9_isAwake 1 = .ok (.iload_n 1, 1) := by decide +kernel
theorem dX9_isAwake_2 : decode cX9_isAwake 2 = .ok (.iconst 2, 1) := by decide +kernel
theorem dX9_isAwake_3 : decode cX9_isAwake 3 = .ok (.invokevirtual 69, 3) := by decide +kernel
theorem dX9_isAwake_6 : decode cX9_isAwake 6 = .ok (.iload_n 2, 1) := by decide +kernel
theorem dX9_isAwake_7 : decode cX9_isAwake 7 = .ok (.invokestatic 94, 3) := by decide +kernel
theorem dX9_isAwake_10 : decode cX9_isAwake 10 = .ok (.invokestatic 97, 3) := by decide +kernel
theorem dX9_isAwake_13 : decode cX9_isAwake 13 = .ok (.ireturn, 1) := by decide +kernel
theorem dX9_byGap_0 : decode cX9_byGap 0 = .ok (.iload_n 2, 1) := by decide +kernel
theorem dX9_byGap_1 : decode cX9_byGap 1 = .ok (.aload_n 0, 1) := by decide +kernel
theorem dX9_byGap_2 : decode cX9_byGap 2 = .ok (.iload_n 1, 1) := by decide +kernel
theorem dX9_byGap_3 : decode cX9_byGap 3 = .ok (.iconst 1, 1) := by decide +kernel
theorem dX9_byGap_4 : decode cX9_byGap 4 = .ok (.invokevirtual 69, 3) := by decide +kernel
theorem dX9_byGap_7 : decode cX9_byGap 7 = .ok (.irem, 1) := by decide +kernel
theorem dX9_byGap_8 : decode cX9_byGap 8 = .ok (.ifCond .ne 7, 3) := by decide +kernel
theorem dX9_byGap_11 : decode cX9_byGap 11 = .ok (.iconst 1, 1) := by decide +kernel
theorem dX9_byGap_12 : decode cX9_byGap 12 = .ok (.goto 4, 3) := by decide +kernel
theorem dX9_byGap_15 : decode cX9_byGap 15 = .ok (.iconst 0, 1) := by decide +kernel
theorem dX9_byGap_16 : decode cX9_byGap 16 = .ok (.ireturn, 1) := by decide +kernel
theorem dX9_byClock_0 : decode cX9_byClock 0 = .ok (.aload_n 0, 1) := by decide +kernel
theorem dX9_byClock_1 : decode cX9_byClock 1 = .ok (.iload_n 1, 1) := by decide +kernel
theorem dX9_byClock_2 : decode cX9_byClock 2 = .ok (.iconst 1, 1) := by decide +kernel
theorem dX9_byClock_3 : decode cX9_byClock 3 = .ok (.invokevirtual 69, 3) := by decide +kernel
theorem dX9_byClock_6 : decode cX9_byClock 6 = .ok (.istore_n 3, 1) := by decide +kernel
theorem dX9_byClock_7 : decode cX9_byClock 7 = .ok (.bipush 7, 2) := by decide +kernel
theorem dX9_byClock_9 : decode cX9_byClock 9 = .ok (.iload_n 2, 1) := by decide +kernel
theorem dX9_byClock_10 : decode cX9_byClock 10 = .ok (.iload_n 3, 1) := by decide +kernel
theorem dX9_byClock_11 : decode cX9_byClock 11 = .ok (.idiv, 1) := by decide +kernel
theorem dX9_byClock_12 : decode cX9_byClock 12 = .ok (.imul, 1) := by decide +kernel
theorem dX9_byClock_13 : decode cX9_byClock 13 = .ok (.iconst 3, 1) := by decide +kernel
theorem dX9_byClock_14 : decode cX9_byClock 14 = .ok (.iload_n 1, 1) := by decide +kernel
theorem dX9_byClock_15 : decode cX9_byClock 15 = .ok (.imul, 1) := by decide +kernel
theorem dX9_byClock_16 : decode cX9_byClock 16 = .ok (.iadd, 1) := by decide +kernel
theorem dX9_byClock_17 : decode cX9_byClock 17 = .ok (.aload_n 0, 1) := by decide +kernel
theorem dX9_byClock_18 : decode cX9_byClock 18 = .ok (.iload_n 1, 1) := by decide +kernel
theorem dX9_byClock_19 : decode cX9_byClock 19 = .ok (.iconst 3, 1) := by decide +kernel
theorem dX9_byClock_20 : decode cX9_byClock 20 = .ok (.invokevirtual 69, 3) := by decide +kernel
theorem dX9_byClock_23 : decode cX9_byClock 23 = .ok (.iconst 1, 1) := by decide +kernel
theorem dX9_byClock_24 : decode cX9_byClock 24 = .ok (.iadd, 1) := by decide +kernel
theorem dX9_byClock_25 : decode cX9_byClock 25 = .ok (.irem, 1) := by decide +kernel
theorem dX9_byClock_26 : decode cX9_byClock 26 = .ok (.istore 4, 2) := by decide +kernel
theorem dX9_byClock_28 : decode cX9_byClock 28 = .ok (.iload_n 2, 1) := by decide +kernel
theorem dX9_byClock_29 : decode cX9_byClock 29 = .ok (.iload_n 3, 1) := by decide +kernel
theorem dX9_byClock_30 : decode cX9_byClock 30 = .ok (.irem, 1) := by decide +kernel
theorem dX9_byClock_31 : decode cX9_byClock 31 = .ok (.iload 4, 2) := by decide +kernel
theorem dX9_byClock_33 : decode cX9_byClock 33 = .ok (.iload_n 3, 1) := by decide +kernel
theorem dX9_byClock_34 : decode cX9_byClock 34 = .ok (.if_icmp .ge 8, 3) := by decide +kernel
theorem dX9_byClock_37 : decode cX9_byClock 37 = .ok (.iload 4, 2) := by decide +kernel
theorem dX9_byClock_39 : decode cX9_byClock 39 = .ok (.goto 6, 3) := by decide +kernel
theorem dX9_byClock_42 : decode cX9_byClock 42 = .ok (.iload_n 3, 1) := by decide +kernel
theorem dX9_byClock_43 : decode cX9_byClock 43 = .ok (.iconst 1, 1) := by decide +kernel
theorem dX9_byClock_44 : decode cX9_byClock 44 = .ok (.isub, 1) := by decide +kernel
theorem dX9_byClock_45 : decode cX9_byClock 45 = .ok (.if_icmp .ne 7, 3) := by decide +kernel
theorem dX9_byClock_48 : decode cX9_byClock 48 = .ok (.iconst 1, 1) := by decide +kernel
theorem dX9_byClock_49 : decode cX9_byClock 49 = .ok (.goto 4, 3) := by decide +kernel
theorem dX9_byClock_52 : decode cX9_byClock 52 = .ok (.iconst 0, 1) := by decide +kernel
theorem dX9_byClock_53 : decode cX9_byClock 53 = .ok (.ireturn, 1) := by decide +kernel
theorem dX9_isLed_0 : decode cX9_isLed 0 = .ok (.iconst 0, 1) := by decide +kernel
theorem dX9_isLed_1 : decode cX9_isLed 1 = .ok (.istore_n 3, 1) := by decide +kernel
theorem dX9_isLed_2 : decode cX9_isLed 2 = .ok (.iload_n 3, 1) := by decide +kernel
theorem dX9_isLed_3 : decode cX9_isLed 3 = .ok (.aload_n 0, 1) := by decide +kernel
theorem dX9_isLed_4 : decode cX9_isLed 4 = .ok (.getfield 9, 3) := by decide +kernel
theorem dX9_isLed_7 : decode cX9_isLed 7 = .ok (.iconst 2, 1) := by decide +kernel
theorem dX9_isLed_8 : decode cX9_isLed 8 = .ok (.iaload, 1) := by decide +kernel
theorem dX9_isLed_9 : decode cX9_isLed 9 = .ok (.if_icmp .ge 31, 3) := by decide +kernel
theorem dX9_isLed_12 : decode cX9_isLed 12 = .ok (.aload_n 0, 1) := by decide +kernel
theorem dX9_isLed_13 : decode cX9_isLed 13 = .ok (.iload_n 3, 1) := by decide +kernel
theorem dX9_isLed_14 : decode cX9_isLed 14 = .ok (.iconst 1, 1) := by decide +kernel
theorem dX9_isLed_15 : decode cX9_isLed 15 = .ok (.invokevirtual 101, 3) := by decide +kernel
theorem dX9_isLed_18 : decode cX9_isLed 18 = .ok (.iload_n 1, 1) := by decide +kernel
theorem dX9_isLed_19 : decode cX9_isLed 19 = .ok (.if_icmp .ne 15, 3) := by decide +kernel
theorem dX9_isLed_22 : decode cX9_isLed 22 = .ok (.aload_n 0, 1) := by decide +kernel
theorem dX9_isLed_23 : decode cX9_isLed 23 = .ok (.iload_n 3, 1) := by decide +kernel
theorem dX9_isLed_24 : decode cX9_isLed 24 = .ok (.iconst 0, 1) := by decide +kernel
theorem dX9_isLed_25 : decode cX9_isLed 25 = .ok (.invokevirtual 101, 3) := by decide +kernel
theorem dX9_isLed_28 : decode cX9_isLed 28 = .ok (.iload_n 2, 1) := by decide +kernel
theorem dX9_isLed_29 : decode cX9_isLed 29 = .ok (.if_icmp .ne 5, 3) := by decide +kernel
theorem dX9_isLed_32 : decode cX9_isLed 32 = .ok (.iconst 1, 1) := by decide +kernel
theorem dX9_isLed_33 : decode cX9_isLed 33 = .ok (.ireturn, 1) := by decide +kernel
theorem dX9_isLed_34 : decode cX9_isLed 34 = .ok (.iinc 3 1, 3) := by decide +kernel
theorem dX9_isLed_37 : decode cX9_isLed 37 = .ok (.goto (-35), 3) := by decide +kernel
theorem dX9_isLed_40 : decode cX9_isLed 40 = .ok (.iconst 0, 1) := by decide +kernel
theorem dX9_isLed_41 : decode cX9_isLed 41 = .ok (.ireturn, 1) := by decide +kernel
theorem dX9_doesSpeak_0 : decode cX9_doesSpeak 0 = .ok (.aload_n 0, 1) := by decide +kernel
theorem dX9_doesSpeak_1 : decode cX9_doesSpeak 1 = .ok (.iload_n 1, 1) := by decide +kernel
theorem dX9_doesSpeak_2 : decode cX9_doesSpeak 2 = .ok (.iconst 0, 1) := by decide +kernel
theorem dX9_doesSpeak_3 : decode cX9_doesSpeak 3 = .ok (.invokevirtual 69, 3) := by decide +kernel
theorem dX9_doesSpeak_6 : decode cX9_doesSpeak 6 = .ok (.tableswitch 181 0 6 #[42, 49, 73, 49, 80, 104, 132], 42) := by decide +kernel
theorem dX9_doesSpeak_48 : decode cX9_doesSpeak 48 = .ok (.aload_n 0, 1) := by decide +kernel
theorem dX9_doesSpeak_49 : decode cX9_doesSpeak 49 = .ok (.iload_n 1, 1) := by decide +kernel
theorem dX9_doesSpeak_50 : decode cX9_doesSpeak 50 = .ok (.iload_n 2, 1) := by decide +kernel
theorem dX9_doesSpeak_51 : decode cX9_doesSpeak 51 = .ok (.invokevirtual 104, 3) := by decide +kernel
theorem dX9_doesSpeak_54 : decode cX9_doesSpeak 54 = .ok (.ireturn, 1) := by decide +kernel
theorem dX9_doesSpeak_55 : decode cX9_doesSpeak 55 = .ok (.aload_n 0, 1) := by decide +kernel
theorem dX9_doesSpeak_56 : decode cX9_doesSpeak 56 = .ok (.iload_n 1, 1) := by decide +kernel
theorem dX9_doesSpeak_57 : decode cX9_doesSpeak 57 = .ok (.iload_n 2, 1) := by decide +kernel
theorem dX9_doesSpeak_58 : decode cX9_doesSpeak 58 = .ok (.invokevirtual 104, 3) := by decide +kernel
theorem dX9_doesSpeak_61 : decode cX9_doesSpeak 61 = .ok (.ifCond .eq 16, 3) := by decide +kernel
theorem dX9_doesSpeak_64 : decode cX9_doesSpeak 64 = .ok (.aload_n 0, 1) := by decide +kernel
theorem dX9_doesSpeak_65 : decode cX9_doesSpeak 65 = .ok (.iload_n 1, 1) := by decide +kernel
theorem dX9_doesSpeak_66 : decode cX9_doesSpeak 66 = .ok (.iload_n 2, 1) := by decide +kernel
theorem dX9_doesSpeak_67 : decode cX9_doesSpeak 67 = .ok (.invokevirtual 107, 3) := by decide +kernel
theorem dX9_doesSpeak_70 : decode cX9_doesSpeak 70 = .ok (.ifCond .eq 7, 3) := by decide +kernel
theorem dX9_doesSpeak_73 : decode cX9_doesSpeak 73 = .ok (.iconst 1, 1) := by decide +kernel
theorem dX9_doesSpeak_74 : decode cX9_doesSpeak 74 = .ok (.goto 4, 3) := by decide +kernel
theorem dX9_doesSpeak_77 : decode cX9_doesSpeak 77 = .ok (.iconst 0, 1) := by decide +kernel
theorem dX9_doesSpeak_78 : decode cX9_doesSpeak 78 = .ok (.ireturn, 1) := by decide +kernel
theorem dX9_doesSpeak_79 : decode cX9_doesSpeak 79 = .ok (.aload_n 0, 1) := by decide +kernel
theorem dX9_doesSpeak_80 : decode cX9_doesSpeak 80 = .ok (.iload_n 1, 1) := by decide +kernel
theorem dX9_doesSpeak_81 : decode cX9_doesSpeak 81 = .ok (.iload_n 2, 1) := by decide +kernel
theorem dX9_doesSpeak_82 : decode cX9_doesSpeak 82 = .ok (.invokevirtual 110, 3) := by decide +kernel
theorem dX9_doesSpeak_85 : decode cX9_doesSpeak 85 = .ok (.ireturn, 1) := by decide +kernel
theorem dX9_doesSpeak_86 : decode cX9_doesSpeak 86 = .ok (.aload_n 0, 1) := by decide +kernel
theorem dX9_doesSpeak_87 : decode cX9_doesSpeak 87 = .ok (.iload_n 1, 1) := by decide +kernel
theorem dX9_doesSpeak_88 : decode cX9_doesSpeak 88 = .ok (.iload_n 2, 1) := by decide +kernel
theorem dX9_doesSpeak_89 : decode cX9_doesSpeak 89 = .ok (.invokevirtual 110, 3) := by decide +kernel
theorem dX9_doesSpeak_92 : decode cX9_doesSpeak 92 = .ok (.ifCond .eq 16, 3) := by decide +kernel
theorem dX9_doesSpeak_95 : decode cX9_doesSpeak 95 = .ok (.aload_n 0, 1) := by decide +kernel
theorem dX9_doesSpeak_96 : decode cX9_doesSpeak 96 = .ok (.iload_n 1, 1) := by decide +kernel
theorem dX9_doesSpeak_97 : decode cX9_doesSpeak 97 = .ok (.iload_n 2, 1) := by decide +kernel
theorem dX9_doesSpeak_98 : decode cX9_doesSpeak 98 = .ok (.invokevirtual 107, 3) := by decide +kernel
theorem dX9_doesSpeak_101 : decode cX9_doesSpeak 101 = .ok (.ifCond .eq 7, 3) := by decide +kernel
theorem dX9_doesSpeak_104 : decode cX9_doesSpeak 104 = .ok (.iconst 1, 1) := by decide +kernel
theorem dX9_doesSpeak_105 : decode cX9_doesSpeak 105 = .ok (.goto 4, 3) := by decide +kernel
theorem dX9_doesSpeak_108 : decode cX9_doesSpeak 108 = .ok (.iconst 0, 1) := by decide +kernel
theorem dX9_doesSpeak_109 : decode cX9_doesSpeak 109 = .ok (.ireturn, 1) := by decide +kernel
theorem dX9_doesSpeak_110 : decode cX9_doesSpeak 110 = .ok (.iload_n 2, 1) := by decide +kernel
theorem dX9_doesSpeak_111 : decode cX9_doesSpeak 111 = .ok (.iconst 2, 1) := by decide +kernel
theorem dX9_doesSpeak_112 : decode cX9_doesSpeak 112 = .ok (.iload_n 1, 1) := by decide +kernel
theorem dX9_doesSpeak_113 : decode cX9_doesSpeak 113 = .ok (.imul, 1) := by decide +kernel
theorem dX9_doesSpeak_114 : decode cX9_doesSpeak 114 = .ok (.if_icmp .lt 22, 3) := by decide +kernel
theorem dX9_doesSpeak_117 : decode cX9_doesSpeak 117 = .ok (.iload_n 2, 1) := by decide +kernel
theorem dX9_doesSpeak_118 : decode cX9_doesSpeak 118 = .ok (.iconst 2, 1) := by decide +kernel
theorem dX9_doesSpeak_119 : decode cX9_doesSpeak 119 = .ok (.iload_n 1, 1) := by decide +kernel
theorem dX9_doesSpeak_120 : decode cX9_doesSpeak 120 = .ok (.imul, 1) := by decide +kernel
theorem dX9_doesSpeak_121 : decode cX9_doesSpeak 121 = .ok (.isub, 1) := by decide +kernel
theorem dX9_doesSpeak_122 : decode cX9_doesSpeak 122 = .ok (.aload_n 0, 1) := by decide +kernel
theorem dX9_doesSpeak_123 : decode cX9_doesSpeak 123 = .ok (.iload_n 1, 1) := by decide +kernel
theorem dX9_doesSpeak_124 : decode cX9_doesSpeak 124 = .ok (.iconst 1, 1) := by decide +kernel
theorem dX9_doesSpeak_125 : decode cX9_doesSpeak 125 = .ok (.invokevirtual 69, 3) := by decide +kernel
theorem dX9_doesSpeak_128 : decode cX9_doesSpeak 128 = .ok (.irem, 1) := by decide +kernel
theorem dX9_doesSpeak_129 : decode cX9_doesSpeak 129 = .ok (.ifCond .ne 7, 3) := by decide +kernel
theorem dX9_doesSpeak_132 : decode cX9_doesSpeak 132 = .ok (.iconst 1, 1) := by decide +kernel
theorem dX9_doesSpeak_133 : decode cX9_doesSpeak 133 = .ok (.goto 4, 3) := by decide +kernel
theorem dX9_doesSpeak_136 : decode cX9_doesSpeak 136 = .ok (.iconst 0, 1) := by decide +kernel
theorem dX9_doesSpeak_137 : decode cX9_doesSpeak 137 = .ok (.ireturn, 1) := by decide +kernel
theorem dX9_doesSpeak_138 : decode cX9_doesSpeak 138 = .ok (.aload_n 0, 1) := by decide +kernel
theorem dX9_doesSpeak_139 : decode cX9_doesSpeak 139 = .ok (.iload_n 1, 1) := by decide +kernel
theorem dX9_doesSpeak_140 : decode cX9_doesSpeak 140 = .ok (.iload_n 2, 1) := by decide +kernel
theorem dX9_doesSpeak_141 : decode cX9_doesSpeak 141 = .ok (.invokevirtual 104, 3) := by decide +kernel
theorem dX9_doesSpeak_144 : decode cX9_doesSpeak 144 = .ok (.ifCond .eq 12, 3) := by decide +kernel
theorem dX9_doesSpeak_147 : decode cX9_doesSpeak 147 = .ok (.aload_n 0, 1) := by decide +kernel
theorem dX9_doesSpeak_148 : decode cX9_doesSpeak 148 = .ok (.iload_n 1, 1) := by decide +kernel
theorem dX9_doesSpeak_149 : decode cX9_doesSpeak 149 = .ok (.iload_n 2, 1) := by decide +kernel
theorem dX9_doesSpeak_150 : decode cX9_doesSpeak 150 = .ok (.invokevirtual 107, 3) := by decide +kernel
theorem dX9_doesSpeak_153 : decode cX9_doesSpeak 153 = .ok (.ifCond .ne 28, 3) := by decide +kernel
theorem dX9_doesSpeak_156 : decode cX9_doesSpeak 156 = .ok (.aload_n 0, 1) := by decide +kernel
theorem dX9_doesSpeak_157 : decode cX9_doesSpeak 157 = .ok (.iload_n 1, 1) := by decide +kernel
theorem dX9_doesSpeak_158 : decode cX9_doesSpeak 158 = .ok (.iconst 4, 1) := by decide +kernel
theorem dX9_doesSpeak_159 : decode cX9_doesSpeak 159 = .ok (.invokevirtual 69, 3) := by decide +kernel
theorem dX9_doesSpeak_162 : decode cX9_doesSpeak 162 = .ok (.ifCond .lt 23, 3) := by decide +kernel
theorem dX9_doesSpeak_165 : decode cX9_doesSpeak 165 = .ok (.aload_n 0, 1) := by decide +kernel
theorem dX9_doesSpeak_166 : decode cX9_doesSpeak 166 = .ok (.aload_n 0, 1) := by decide +kernel
theorem dX9_doesSpeak_167 : decode cX9_doesSpeak 167 = .ok (.iload_n 1, 1) := by decide +kernel
theorem dX9_doesSpeak_168 : decode cX9_doesSpeak 168 = .ok (.iconst 4, 1) := by decide +kernel
theorem dX9_doesSpeak_169 : decode cX9_doesSpeak 169 = .ok (.invokevirtual 69, 3) := by decide +kernel
theorem dX9_doesSpeak_172 : decode cX9_doesSpeak 172 = .ok (.iload_n 2, 1) := by decide +kernel
theorem dX9_doesSpeak_173 : decode cX9_doesSpeak 173 = .ok (.iconst 1, 1) := by decide +kernel
theorem dX9_doesSpeak_174 : decode cX9_doesSpeak 174 = .ok (.isub, 1) := by decide +kernel
theorem dX9_doesSpeak_175 : decode cX9_doesSpeak 175 = .ok (.invokevirtual 113, 3) := by decide +kernel
theorem dX9_doesSpeak_178 : decode cX9_doesSpeak 178 = .ok (.ifCond .eq 7, 3) := by decide +kernel
theorem dX9_doesSpeak_181 : decode cX9_doesSpeak 181 = .ok (.iconst 1, 1) := by decide +kernel
theorem dX9_doesSpeak_182 : decode cX9_doesSpeak 182 = .ok (.goto 4, 3) := by decide +kernel
theorem dX9_doesSpeak_185 : decode cX9_doesSpeak 185 = .ok (.iconst 0, 1) := by decide +kernel
theorem dX9_doesSpeak_186 : decode cX9_doesSpeak 186 = .ok (.ireturn, 1) := by decide +kernel
theorem dX9_doesSpeak_187 : decode cX9_doesSpeak 187 = .ok (.aload_n 0, 1) := by decide +kernel
theorem dX9_doesSpeak_188 : decode cX9_doesSpeak 188 = .ok (.iload_n 1, 1) := by decide +kernel
theorem dX9_doesSpeak_189 : decode cX9_doesSpeak 189 = .ok (.iload_n 2, 1) := by decide +kernel
theorem dX9_doesSpeak_190 : decode cX9_doesSpeak 190 = .ok (.invokevirtual 107, 3) := by decide +kernel
theorem dX9_doesSpeak_193 : decode cX9_doesSpeak 193 = .ok (.ifCond .eq 41, 3) := by decide +kernel
theorem dX9_doesSpeak_196 : decode cX9_doesSpeak 196 = .ok (.iload_n 2, 1) := by decide +kernel
theorem dX9_doesSpeak_197 : decode cX9_doesSpeak 197 = .ok (.sipush 1000, 3) := by decide +kernel
theorem dX9_doesSpeak_200 : decode cX9_doesSpeak 200 = .ok (.idiv, 1) := by decide +kernel
theorem dX9_doesSpeak_201 : decode cX9_doesSpeak 201 = .ok (.bipush 7, 2) := by decide +kernel
theorem dX9_doesSpeak_203 : decode cX9_doesSpeak 203 = .ok (.irem, 1) := by decide +kernel
theorem dX9_doesSpeak_204 : decode cX9_doesSpeak 204 = .ok (.bipush 6, 2) := by decide +kernel
theorem dX9_doesSpeak_206 : decode cX9_doesSpeak 206 = .ok (.if_icmp .ne 15, 3) := by decide +kernel
theorem dX9_doesSpeak_209 : decode cX9_doesSpeak 209 = .ok (.aload_n 0, 1) := by decide +kernel
theorem dX9_doesSpeak_210 : decode cX9_doesSpeak 210 = .ok (.iload_n 1, 1) := by decide +kernel
theorem dX9_doesSpeak_211 : decode cX9_doesSpeak 211 = .ok (.iload_n 2, 1) := by decide +kernel
theorem dX9_doesSpeak_212 : decode cX9_doesSpeak 212 = .ok (.invokevirtual 110, 3) := by decide +kernel
theorem dX9_doesSpeak_215 : decode cX9_doesSpeak 215 = .ok (.ifCond .eq 19, 3) := by decide +kernel
theorem dX9_doesSpeak_218 : decode cX9_doesSpeak 218 = .ok (.goto 12, 3) := by decide +kernel
theorem dX9_doesSpeak_221 : decode cX9_doesSpeak 221 = .ok (.aload_n 0, 1) := by decide +kernel
theorem dX9_doesSpeak_222 : decode cX9_doesSpeak 222 = .ok (.iload_n 1, 1) := by decide +kernel
theorem dX9_doesSpeak_223 : decode cX9_doesSpeak 223 = .ok (.iload_n 2, 1) := by decide +kernel
theorem dX9_doesSpeak_224 : decode cX9_doesSpeak 224 = .ok (.invokevirtual 104, 3) := by decide +kernel
theorem dX9_doesSpeak_227 : decode cX9_doesSpeak 227 = .ok (.ifCond .eq 7, 3) := by decide +kernel
theorem dX9_doesSpeak_230 : decode cX9_doesSpeak 230 = .ok (.iconst 1, 1) := by decide +kernel
theorem dX9_doesSpeak_231 : decode cX9_doesSpeak 231 = .ok (.goto 4, 3) := by decide +kernel
theorem dX9_doesSpeak_234 : decode cX9_doesSpeak 234 = .ok (.iconst 0, 1) := by decide +kernel
theorem dX9_doesSpeak_235 : decode cX9_doesSpeak 235 = .ok (.ireturn, 1) := by decide +kernel
theorem dX9_speaks_0 : decode cX9_speaks 0 = .ok (.aload_n 0, 1) := by decide +kernel
theorem dX9_speaks_1 : decode cX9_speaks 1 = .ok (.iload_n 1, 1) := by decide +kernel
theorem dX9_speaks_2 : decode cX9_speaks 2 = .ok (.invokevirtual 73, 3) := by decide +kernel
theorem dX9_speaks_5 : decode cX9_speaks 5 = .ok (.ifCond .eq 10, 3) := by decide +kernel
theorem dX9_speaks_8 : decode cX9_speaks 8 = .ok (.iload_n 2, 1) := by decide +kernel
theorem dX9_speaks_9 : decode cX9_speaks 9 = .ok (.invokestatic 116, 3) := by decide +kernel
theorem dX9_speaks_12 : decode cX9_speaks 12 = .ok (.ifCond .ne 10, 3) := by decide +kernel
theorem dX9_speaks_15 : decode cX9_speaks 15 = .ok (.aload_n 0, 1) := by decide +kernel
theorem dX9_speaks_16 : decode cX9_speaks 16 = .ok (.ldc 47, 2) := by decide +kernel
theorem dX9_speaks_18 : decode cX9_speaks 18 = .ok (.invokevirtual 64, 3) := by decide +kernel
theorem dX9_speaks_21 : decode cX9_speaks 21 = .ok (.ireturn, 1) := by decide +kernel
theorem dX9_speaks_22 : decode cX9_speaks 22 = .ok (.aload_n 0, 1) := by decide +kernel
theorem dX9_speaks_23 : decode cX9_speaks 23 = .ok (.iload_n 1, 1) := by decide +kernel
theorem dX9_speaks_24 : decode cX9_speaks 24 = .ok (.iload_n 2, 1) := by decide +kernel
theorem dX9_speaks_25 : decode cX9_speaks 25 = .ok (.invokevirtual 119, 3) := by decide +kernel
theorem dX9_speaks_28 : decode cX9_speaks 28 = .ok (.ifCond .eq 7, 3) := by decide +kernel
theorem dX9_speaks_31 : decode cX9_speaks 31 = .ok (.iconst 1, 1) := by decide +kernel
theorem dX9_speaks_32 : decode cX9_speaks 32 = .ok (.goto 4, 3) := by decide +kernel
theorem dX9_speaks_35 : decode cX9_speaks 35 = .ok (.iconst 0, 1) := by decide +kernel
theorem dX9_speaks_36 : decode cX9_speaks 36 = .ok (.ireturn, 1) := by decide +kernel
theorem dX9_next_0 : decode cX9_next 0 = .ok (.aload_n 0, 1) := by decide +kernel
theorem dX9_next_1 : decode cX9_next 1 = .ok (.iload_n 1, 1) := by decide +kernel
theorem dX9_next_2 : decode cX9_next 2 = .ok (.invokevirtual 73, 3) := by decide +kernel
theorem dX9_next_5 : decode cX9_next 5 = .ok (.ifCond .eq 10, 3) := by decide +kernel
theorem dX9_next_8 : decode cX9_next 8 = .ok (.iload_n 2, 1) := by decide +kernel
theorem dX9_next_9 : decode cX9_next 9 = .ok (.invokestatic 116, 3) := by decide +kernel
theorem dX9_next_12 : decode cX9_next 12 = .ok (.ifCond .ne 10, 3) := by decide +kernel
theorem dX9_next_15 : decode cX9_next 15 = .ok (.aload_n 0, 1) := by decide +kernel
theorem dX9_next_16 : decode cX9_next 16 = .ok (.ldc 47, 2) := by decide +kernel
theorem dX9_next_18 : decode cX9_next 18 = .ok (.invokevirtual 64, 3) := by decide +kernel
theorem dX9_next_21 : decode cX9_next 21 = .ok (.ireturn, 1) := by decide +kernel
theorem dX9_next_22 : decode cX9_next 22 = .ok (.iload_n 2, 1) := by decide +kernel
theorem dX9_next_23 : decode cX9_next 23 = .ok (.istore_n 3, 1) := by decide +kernel
theorem dX9_next_24 : decode cX9_next 24 = .ok (.iload_n 3, 1) := by decide +kernel
theorem dX9_next_25 : decode cX9_next 25 = .ok (.iload_n 2, 1) := by decide +kernel
theorem dX9_next_26 : decode cX9_next 26 = .ok (.sipush 2000, 3) := by decide +kernel
theorem dX9_next_29 : decode cX9_next 29 = .ok (.iadd, 1) := by decide +kernel
theorem dX9_next_30 : decode cX9_next 30 = .ok (.if_icmp .ge 27, 3) := by decide +kernel
theorem dX9_next_33 : decode cX9_next 33 = .ok (.iload_n 3, 1) := by decide +kernel
theorem dX9_next_34 : decode cX9_next 34 = .ok (.sipush 29999, 3) := by decide +kernel
theorem dX9_next_37 : decode cX9_next 37 = .ok (.if_icmp .gt 20, 3) := by decide +kernel
theorem dX9_next_40 : decode cX9_next 40 = .ok (.aload_n 0, 1) := by decide +kernel
theorem dX9_next_41 : decode cX9_next 41 = .ok (.iload_n 1, 1) := by decide +kernel
theorem dX9_next_42 : decode cX9_next 42 = .ok (.iload_n 3, 1) := by decide +kernel
theorem dX9_next_43 : decode cX9_next 43 = .ok (.invokevirtual 119, 3) := by decide +kernel
theorem dX9_next_46 : decode cX9_next 46 = .ok (.ifCond .eq 5, 3) := by decide +kernel
theorem dX9_next_49 : decode cX9_next 49 = .ok (.iload_n 3, 1) := by decide +kernel
theorem dX9_next_50 : decode cX9_next 50 = .ok (.ireturn, 1) := by decide +kernel
theorem dX9_next_51 : decode cX9_next 51 = .ok (.iinc 3 1, 3) := by decide +kernel
theorem dX9_next_54 : decode cX9_next 54 = .ok (.goto (-30), 3) := by decide +kernel
theorem dX9_next_57 : decode cX9_next 57 = .ok (.aload_n 0, 1) := by decide +kernel
theorem dX9_next_58 : decode cX9_next 58 = .ok (.ldc 122, 2) := by decide +kernel
theorem dX9_next_60 : decode cX9_next 60 = .ok (.invokevirtual 64, 3) := by decide +kernel
theorem dX9_next_63 : decode cX9_next 63 = .ok (.ireturn, 1) := by decide +kernel
theorem dX9_wordsOf_0 : decode cX9_wordsOf 0 = .ok (.iconst 0, 1) := by decide +kernel
theorem dX9_wordsOf_1 : decode cX9_wordsOf 1 = .ok (.istore_n 2, 1) := by decide +kernel
theorem dX9_wordsOf_2 : decode cX9_wordsOf 2 = .ok (.iconst 0, 1) := by decide +kernel
theorem dX9_wordsOf_3 : decode cX9_wordsOf 3 = .ok (.istore_n 3, 1) := by decide +kernel
theorem dX9_wordsOf_4 : decode cX9_wordsOf 4 = .ok (.iload_n 3, 1) := by decide +kernel
theorem dX9_wordsOf_5 : decode cX9_wordsOf 5 = .ok (.aload_n 0, 1) := by decide +kernel
theorem dX9_wordsOf_6 : decode cX9_wordsOf 6 = .ok (.getfield 9, 3) := by decide +kernel
theorem dX9_wordsOf_9 : decode cX9_wordsOf 9 = .ok (.iconst 2, 1) := by decide +kernel
theorem dX9_wordsOf_10 : decode cX9_wordsOf 10 = .ok (.iaload, 1) := by decide +kernel
theorem dX9_wordsOf_11 : decode cX9_wordsOf 11 = .ok (.if_icmp .ge 27, 3) := by decide +kernel
theorem dX9_wordsOf_14 : decode cX9_wordsOf 14 = .ok (.iload_n 2, 1) := by decide +kernel
theorem dX9_wordsOf_15 : decode cX9_wordsOf 15 = .ok (.aload_n 0, 1) := by decide +kernel
theorem dX9_wordsOf_16 : decode cX9_wordsOf 16 = .ok (.iload_n 3, 1) := by decide +kernel
theorem dX9_wordsOf_17 : decode cX9_wordsOf 17 = .ok (.iconst 1, 1) := by decide +kernel
theorem dX9_wordsOf_18 : decode cX9_wordsOf 18 = .ok (.invokevirtual 101, 3) := by decide +kernel
theorem dX9_wordsOf_21 : decode cX9_wordsOf 21 = .ok (.iload_n 1, 1) := by decide +kernel
theorem dX9_wordsOf_22 : decode cX9_wordsOf 22 = .ok (.if_icmp .ne 7, 3) := by decide +kernel
theorem dX9_wordsOf_25 : decode cX9_wordsOf 25 = .ok (.iconst 1, 1) := by decide +kernel
theorem dX9_wordsOf_26 : decode cX9_wordsOf 26 = .ok (.goto 4, 3) := by decide +kernel
theorem dX9_wordsOf_29 : decode cX9_wordsOf 29 = .ok (.iconst 0, 1) := by decide +kernel
theorem dX9_wordsOf_30 : decode cX9_wordsOf 30 = .ok (.iadd, 1) := by decide +kernel
theorem dX9_wordsOf_31 : decode cX9_wordsOf 31 = .ok (.istore_n 2, 1) := by decide +kernel
theorem dX9_wordsOf_32 : decode cX9_wordsOf 32 = .ok (.iinc 3 1, 3) := by decide +kernel
theorem dX9_wordsOf_35 : decode cX9_wordsOf 35 = .ok (.goto (-31), 3) := by decide +kernel
theorem dX9_wordsOf_38 : decode cX9_wordsOf 38 = .ok (.iload_n 2, 1) := by decide +kernel
theorem dX9_wordsOf_39 : decode cX9_wordsOf 39 = .ok (.ireturn, 1) := by decide +kernel
theorem dX9_tellsNow_0 : decode cX9_tellsNow 0 = .ok (.aload_n 0, 1) := by decide +kernel
theorem dX9_tellsNow_1 : decode cX9_tellsNow 1 = .ok (.iload_n 1, 1) := by decide +kernel
theorem dX9_tellsNow_2 : decode cX9_tellsNow 2 = .ok (.iconst 5, 1) := by decide +kernel
theorem dX9_tellsNow_3 : decode cX9_tellsNow 3 = .ok (.invokevirtual 69, 3) := by decide +kernel
theorem dX9_tellsNow_6 : decode cX9_tellsNow 6 = .ok (.istore_n 2, 1) := by decide +kernel
theorem dX9_tellsNow_7 : decode cX9_tellsNow 7 = .ok (.aload_n 0, 1) := by decide +kernel
theorem dX9_tellsNow_8 : decode cX9_tellsNow 8 = .ok (.iload_n 1, 1) := by decide +kernel
theorem dX9_tellsNow_9 : decode cX9_tellsNow 9 = .ok (.iconst 0, 1) := by decide +kernel
theorem dX9_tellsNow_10 : decode cX9_tellsNow 10 = .ok (.invokevirtual 69, 3) := by decide +kernel
theorem dX9_tellsNow_13 : decode cX9_tellsNow 13 = .ok (.iconst 3, 1) := by decide +kernel
theorem dX9_tellsNow_14 : decode cX9_tellsNow 14 = .ok (.if_icmp .ne 16, 3) := by decide +kernel
theorem dX9_tellsNow_17 : decode cX9_tellsNow 17 = .ok (.iload_n 2, 1) := by decide +kernel
theorem dX9_tellsNow_18 : decode cX9_tellsNow 18 = .ok (.aload_n 0, 1) := by decide +kernel
theorem dX9_tellsNow_19 : decode cX9_tellsNow 19 = .ok (.iload_n 1, 1) := by decide +kernel
theorem dX9_tellsNow_20 : decode cX9_tellsNow 20 = .ok (.invokevirtual 123, 3) := by decide +kernel
theorem dX9_tellsNow_23 : decode cX9_tellsNow 23 = .ok (.iconst 3, 1) := by decide +kernel
theorem dX9_tellsNow_24 : decode cX9_tellsNow 24 = .ok (.irem, 1) := by decide +kernel
theorem dX9_tellsNow_25 : decode cX9_tellsNow 25 = .ok (.iadd, 1) := by decide +kernel
theorem dX9_tellsNow_26 : decode cX9_tellsNow 26 = .ok (.bipush 10, 2) := by decide +kernel
theorem dX9_tellsNow_28 : decode cX9_tellsNow 28 = .ok (.irem, 1) := by decide +kernel
theorem dX9_tellsNow_29 : decode cX9_tellsNow 29 = .ok (.ireturn, 1) := by decide +kernel
theorem dX9_tellsNow_30 : decode cX9_tellsNow 30 = .ok (.aload_n 0, 1) := by decide +kernel
theorem dX9_tellsNow_31 : decode cX9_tellsNow 31 = .ok (.iload_n 1, 1) := by decide +kernel
theorem dX9_tellsNow_32 : decode cX9_tellsNow 32 = .ok (.iconst 0, 1) := by decide +kernel
theorem dX9_tellsNow_33 : decode cX9_tellsNow 33 = .ok (.invokevirtual 69, 3) := by decide +kernel
theorem dX9_tellsNow_36 : decode cX9_tellsNow 36 = .ok (.bipush 6, 2) := by decide +kernel
theorem dX9_tellsNow_38 : decode cX9_tellsNow 38 = .ok (.if_icmp .ne 12, 3) := by decide +kernel
theorem dX9_tellsNow_41 : decode cX9_tellsNow 41 = .ok (.aload_n 0, 1) := by decide +kernel
theorem dX9_tellsNow_42 : decode cX9_tellsNow 42 = .ok (.iload_n 1, 1) := by decide +kernel
theorem dX9_tellsNow_43 : decode cX9_tellsNow 43 = .ok (.iconst 4, 1) := by decide +kernel
theorem dX9_tellsNow_44 : decode cX9_tellsNow 44 = .ok (.invokevirtual 69, 3) := by decide +kernel
theorem dX9_tellsNow_47 : decode cX9_tellsNow 47 = .ok (.ifCond .ge 5, 3) := by decide +kernel
theorem dX9_tellsNow_50 : decode cX9_tellsNow 50 = .ok (.iload_n 2, 1) := by decide +kernel
theorem dX9_tellsNow_51 : decode cX9_tellsNow 51 = .ok (.ireturn, 1) := by decide +kernel
theorem dX9_tellsNow_52 : decode cX9_tellsNow 52 = .ok (.aload_n 0, 1) := by decide +kernel
theorem dX9_tellsNow_53 : decode cX9_tellsNow 53 = .ok (.getfield 9, 3) := by decide +kernel
theorem dX9_tellsNow_56 : decode cX9_tellsNow 56 = .ok (.iconst 2, 1) := by decide +kernel
theorem dX9_tellsNow_57 : decode cX9_tellsNow 57 = .ok (.iaload, 1) := by decide +kernel
theorem dX9_tellsNow_58 : decode cX9_tellsNow 58 = .ok (.iconst 1, 1) := by decide +kernel
theorem dX9_tellsNow_59 : decode cX9_tellsNow 59 = .ok (.isub, 1) := by decide +kernel
theorem dX9_tellsNow_60 : decode cX9_tellsNow 60 = .ok (.istore_n 3, 1) := by decide +kernel
theorem dX9_tellsNow_61 : decode cX9_tellsNow 61 = .ok (.iload_n 3, 1) := by decide +kernel
theorem dX9_tellsNow_62 : decode cX9_tellsNow 62 = .ok (.ifCond .lt 31, 3) := by decide +kernel
theorem dX9_tellsNow_65 : decode cX9_tellsNow 65 = .ok (.aload_n 0, 1) := by decide +kernel
theorem dX9_tellsNow_66 : decode cX9_tellsNow 66 = .ok (.iload_n 3, 1) := by decide +kernel
theorem dX9_tellsNow_67 : decode cX9_tellsNow 67 = .ok (.iconst 1, 1) := by decide +kernel
theorem dX9_tellsNow_68 : decode cX9_tellsNow 68 = .ok (.invokevirtual 101, 3) := by decide +kernel
theorem dX9_tellsNow_71 : decode cX9_tellsNow 71 = .ok (.aload_n 0, 1) := by decide +kernel
theorem dX9_tellsNow_72 : decode cX9_tellsNow 72 = .ok (.iload_n 1, 1) := by decide +kernel
theorem dX9_tellsNow_73 : decode cX9_tellsNow 73 = .ok (.iconst 4, 1) := by decide +kernel
theorem dX9_tellsNow_74 : decode cX9_tellsNow 74 = .ok (.invokevirtual 69, 3) := by decide +kernel
theorem dX9_tellsNow_77 : decode cX9_tellsNow 77 = .ok (.if_icmp .ne 10, 3) := by decide +kernel
theorem dX9_tellsNow_80 : decode cX9_tellsNow 80 = .ok (.aload_n 0, 1) := by decide +kernel
theorem dX9_tellsNow_81 : decode cX9_tellsNow 81 = .ok (.iload_n 3, 1) := by decide +kernel
theorem dX9_tellsNow_82 : decode cX9_tellsNow 82 = .ok (.iconst 2, 1) := by decide +kernel
theorem dX9_tellsNow_83 : decode cX9_tellsNow 83 = .ok (.invokevirtual 101, 3) := by decide +kernel
theorem dX9_tellsNow_86 : decode cX9_tellsNow 86 = .ok (.ireturn, 1) := by decide +kernel
theorem dX9_tellsNow_87 : decode cX9_tellsNow 87 = .ok (.iinc 3 (-1), 3) := by decide +kernel
theorem dX9_tellsNow_90 : decode cX9_tellsNow 90 = .ok (.goto (-29), 3) := by decide +kernel
theorem dX9_tellsNow_93 : decode cX9_tellsNow 93 = .ok (.iload_n 2, 1) := by decide +kernel
theorem dX9_tellsNow_94 : decode cX9_tellsNow 94 = .ok (.ireturn, 1) := by decide +kernel
theorem dX9_isSaid_0 : decode cX9_isSaid 0 = .ok (.aload_n 0, 1) := by decide +kernel
theorem dX9_isSaid_1 : decode cX9_isSaid 1 = .ok (.getfield 9, 3) := by decide +kernel
theorem dX9_isSaid_4 : decode cX9_isSaid 4 = .ok (.iconst 2, 1) := by decide +kernel
theorem dX9_isSaid_5 : decode cX9_isSaid 5 = .ok (.iaload, 1) := by decide +kernel
theorem dX9_isSaid_6 : decode cX9_isSaid 6 = .ok (.sipush 200, 3) := by decide +kernel
theorem dX9_isSaid_9 : decode cX9_isSaid 9 = .ok (.if_icmp .ne 5, 3) := by decide +kernel
theorem dX9_isSaid_12 : decode cX9_isSaid 12 = .ok (.iconst 0, 1) := by decide +kernel
theorem dX9_isSaid_13 : decode cX9_isSaid 13 = .ok (.ireturn, 1) := by decide +kernel
theorem dX9_isSaid_14 : decode cX9_isSaid 14 = .ok (.bipush 118, 2) := by decide +kernel
theorem dX9_isSaid_16 : decode cX9_isSaid 16 = .ok (.iconst 3, 1) := by decide +kernel
theorem dX9_isSaid_17 : decode cX9_isSaid 17 = .ok (.aload_n 0, 1) := by decide +kernel
theorem dX9_isSaid_18 : decode cX9_isSaid 18 = .ok (.getfield 9, 3) := by decide +kernel
theorem dX9_isSaid_21 : decode cX9_isSaid 21 = .ok (.iconst 2, 1) := by decide +kernel
theorem dX9_isSaid_22 : decode cX9_isSaid 22 = .ok (.iaload, 1) := by decide +kernel
theorem dX9_isSaid_23 : decode cX9_isSaid 23 = .ok (.imul, 1) := by decide +kernel
theorem dX9_isSaid_24 : decode cX9_isSaid 24 = .ok (.iadd, 1) := by decide +kernel
theorem dX9_isSaid_25 : decode cX9_isSaid 25 = .ok (.istore_n 3, 1) := by decide +kernel
theorem dX9_isSaid_26 : decode cX9_isSaid 26 = .ok (.aload_n 0, 1) := by decide +kernel
theorem dX9_isSaid_27 : decode cX9_isSaid 27 = .ok (.getfield 9, 3) := by decide +kernel
theorem dX9_isSaid_30 : decode cX9_isSaid 30 = .ok (.iload_n 3, 1) := by decide +kernel
theorem dX9_isSaid_31 : decode cX9_isSaid 31 = .ok (.aload_n 0, 1) := by decide +kernel
theorem dX9_isSaid_32 : decode cX9_isSaid 32 = .ok (.getfield 9, 3) := by decide +kernel
theorem dX9_isSaid_35 : decode cX9_isSaid 35 = .ok (.iconst 1, 1) := by decide +kernel
theorem dX9_isSaid_36 : decode cX9_isSaid 36 = .ok (.iaload, 1) := by decide +kernel
theorem dX9_isSaid_37 : decode cX9_isSaid 37 = .ok (.iastore, 1) := by decide +kernel
theorem dX9_isSaid_38 : decode cX9_isSaid 38 = .ok (.aload_n 0, 1) := by decide +kernel
theorem dX9_isSaid_39 : decode cX9_isSaid 39 = .ok (.getfield 9, 3) := by decide +kernel
theorem dX9_isSaid_42 : decode cX9_isSaid 42 = .ok (.iload_n 3, 1) := by decide +kernel
theorem dX9_isSaid_43 : decode cX9_isSaid 43 = .ok (.iconst 1, 1) := by decide +kernel
theorem dX9_isSaid_44 : decode cX9_isSaid 44 = .ok (.iadd, 1) := by decide +kernel
theorem dX9_isSaid_45 : decode cX9_isSaid 45 = .ok (.iload_n 1, 1) := by decide +kernel
theorem dX9_isSaid_46 : decode cX9_isSaid 46 = .ok (.iastore, 1) := by decide +kernel
theorem dX9_isSaid_47 : decode cX9_isSaid 47 = .ok (.aload_n 0, 1) := by decide +kernel
theorem dX9_isSaid_48 : decode cX9_isSaid 48 = .ok (.getfield 9, 3) := by decide +kernel
theorem dX9_isSaid_51 : decode cX9_isSaid 51 = .ok (.iload_n 3, 1) := by decide +kernel
theorem dX9_isSaid_52 : decode cX9_isSaid 52 = .ok (.iconst 2, 1) := by decide +kernel
theorem dX9_isSaid_53 : decode cX9_isSaid 53 = .ok (.iadd, 1) := by decide +kernel
theorem dX9_isSaid_54 : decode cX9_isSaid 54 = .ok (.iload_n 2, 1) := by decide +kernel
theorem dX9_isSaid_55 : decode cX9_isSaid 55 = .ok (.iastore, 1) := by decide +kernel
theorem dX9_isSaid_56 : decode cX9_isSaid 56 = .ok (.aload_n 0, 1) := by decide +kernel
theorem dX9_isSaid_57 : decode cX9_isSaid 57 = .ok (.getfield 9, 3) := by decide +kernel
theorem dX9_isSaid_60 : decode cX9_isSaid 60 = .ok (.iconst 2, 1) := by decide +kernel
theorem dX9_isSaid_61 : decode cX9_isSaid 61 = .ok (.dup2, 1) := by decide +kernel
theorem dX9_isSaid_62 : decode cX9_isSaid 62 = .ok (.iaload, 1) := by decide +kernel
theorem dX9_isSaid_63 : decode cX9_isSaid 63 = .ok (.iconst 1, 1) := by decide +kernel
theorem dX9_isSaid_64 : decode cX9_isSaid 64 = .ok (.iadd, 1) := by decide +kernel
theorem dX9_isSaid_65 : decode cX9_isSaid 65 = .ok (.iastore, 1) := by decide +kernel
theorem dX9_isSaid_66 : decode cX9_isSaid 66 = .ok (.iconst 1, 1) := by decide +kernel
theorem dX9_isSaid_67 : decode cX9_isSaid 67 = .ok (.ireturn, 1) := by decide +kernel
theorem dX9_go_0 : decode cX9_go 0 = .ok (.iload_n 1, 1) := by decide +kernel
theorem dX9_go_1 : decode cX9_go 1 = .ok (.i2l, 1) := by decide +kernel
theorem dX9_go_2 : decode cX9_go 2 = .ok (.lconst 1, 1) := by decide +kernel
theorem dX9_go_3 : decode cX9_go 3 = .ok (.ldc2_w 62, 3) := by decide +kernel
theorem dX9_go_6 : decode cX9_go 6 = .ok (.invokestatic 48, 3) := by decide +kernel
theorem dX9_go_9 : decode cX9_go 9 = .ok (.ifCond .ne 10, 3) := by decide +kernel
theorem dX9_go_12 : decode cX9_go 12 = .ok (.aload_n 0, 1) := by decide +kernel
theorem dX9_go_13 : decode cX9_go 13 = .ok (.ldc 47, 2) := by decide +kernel
theorem dX9_go_15 : decode cX9_go 15 = .ok (.invokevirtual 64, 3) := by decide +kernel
theorem dX9_go_18 : decode cX9_go 18 = .ok (.ireturn, 1) := by decide +kernel
theorem dX9_go_19 : decode cX9_go 19 = .ok (.aload_n 0, 1) := by decide +kernel
theorem dX9_go_20 : decode cX9_go 20 = .ok (.getfield 9, 3) := by decide +kernel
theorem dX9_go_23 : decode cX9_go 23 = .ok (.iconst 1, 1) := by decide +kernel
theorem dX9_go_24 : decode cX9_go 24 = .ok (.iaload, 1) := by decide +kernel
theorem dX9_go_25 : decode cX9_go 25 = .ok (.iload_n 1, 1) := by decide +kernel
theorem dX9_go_26 : decode cX9_go 26 = .ok (.iadd, 1) := by decide +kernel
theorem dX9_go_27 : decode cX9_go 27 = .ok (.sipush 29999, 3) := by decide +kernel
theorem dX9_go_30 : decode cX9_go 30 = .ok (.if_icmp .le 10, 3) := by decide +kernel
theorem dX9_go_33 : decode cX9_go 33 = .ok (.aload_n 0, 1) := by decide +kernel
theorem dX9_go_34 : decode cX9_go 34 = .ok (.ldc 126, 2) := by decide +kernel
theorem dX9_go_36 : decode cX9_go 36 = .ok (.invokevirtual 64, 3) := by decide +kernel
theorem dX9_go_39 : decode cX9_go 39 = .ok (.ireturn, 1) := by decide +kernel
theorem dX9_go_40 : decode cX9_go 40 = .ok (.iconst 0, 1) := by decide +kernel
theorem dX9_go_41 : decode cX9_go 41 = .ok (.istore_n 2, 1) := by decide +kernel
theorem dX9_go_42 : decode cX9_go 42 = .ok (.iload_n 2, 1) := by decide +kernel
theorem dX9_go_43 : decode cX9_go 43 = .ok (.iload_n 1, 1) := by decide +kernel
theorem dX9_go_44 : decode cX9_go 44 = .ok (.if_icmp .ge 92, 3) := by decide +kernel
theorem dX9_go_47 : decode cX9_go 47 = .ok (.iconst 0, 1) := by decide +kernel
theorem dX9_go_48 : decode cX9_go 48 = .ok (.istore_n 3, 1) := by decide +kernel
theorem dX9_go_49 : decode cX9_go 49 = .ok (.iload_n 3, 1) := by decide +kernel
theorem dX9_go_50 : decode cX9_go 50 = .ok (.aload_n 0, 1) := by decide +kernel
theorem dX9_go_51 : decode cX9_go 51 = .ok (.getfield 9, 3) := by decide +kernel
theorem dX9_go_54 : decode cX9_go 54 = .ok (.iconst 0, 1) := by decide +kernel
theorem dX9_go_55 : decode cX9_go 55 = .ok (.iaload, 1) := by decide +kernel
theorem dX9_go_56 : decode cX9_go 56 = .ok (.if_icmp .ge 64, 3) := by decide +kernel
theorem dX9_go_59 : decode cX9_go 59 = .ok (.aload_n 0, 1) := by decide +kernel
theorem dX9_go_60 : decode cX9_go 60 = .ok (.iload_n 3, 1) := by decide +kernel
theorem dX9_go_61 : decode cX9_go 61 = .ok (.bipush 6, 2) := by decide +kernel
theorem dX9_go_63 : decode cX9_go 63 = .ok (.invokevirtual 69, 3) := by decide +kernel
theorem dX9_go_66 : decode cX9_go 66 = .ok (.iconst 1, 1) := by decide +kernel
theorem dX9_go_67 : decode cX9_go 67 = .ok (.if_icmp .eq 47, 3) := by decide +kernel
theorem dX9_go_70 : decode cX9_go 70 = .ok (.aload_n 0, 1) := by decide +kernel
theorem dX9_go_71 : decode cX9_go 71 = .ok (.iload_n 3, 1) := by decide +kernel
theorem dX9_go_72 : decode cX9_go 72 = .ok (.aload_n 0, 1) := by decide +kernel
theorem dX9_go_73 : decode cX9_go 73 = .ok (.getfield 9, 3) := by decide +kernel
theorem dX9_go_76 : decode cX9_go 76 = .ok (.iconst 1, 1) := by decide +kernel
theorem dX9_go_77 : decode cX9_go 77 = .ok (.iaload, 1) := by decide +kernel
theorem dX9_go_78 : decode cX9_go 78 = .ok (.invokevirtual 119, 3) := by decide +kernel
theorem dX9_go_81 : decode cX9_go 81 = .ok (.ifCond .ne 6, 3) := by decide +kernel
theorem dX9_go_84 : decode cX9_go 84 = .ok (.goto 30, 3) := by decide +kernel
theorem dX9_go_87 : decode cX9_go 87 = .ok (.aload_n 0, 1) := by decide +kernel
theorem dX9_go_88 : decode cX9_go 88 = .ok (.getfield 9, 3) := by decide +kernel
theorem dX9_go_91 : decode cX9_go 91 = .ok (.iconst 3, 1) := by decide +kernel
theorem dX9_go_92 : decode cX9_go 92 = .ok (.dup2, 1) := by decide +kernel
theorem dX9_go_93 : decode cX9_go 93 = .ok (.iaload, 1) := by decide +kernel
theorem dX9_go_94 : decode cX9_go 94 = .ok (.aload_n 0, 1) := by decide +kernel
theorem dX9_go_95 : decode cX9_go 95 = .ok (.iload_n 3, 1) := by decide +kernel
theorem dX9_go_96 : decode cX9_go 96 = .ok (.aload_n 0, 1) := by decide +kernel
theorem dX9_go_97 : decode cX9_go 97 = .ok (.iload_n 3, 1) := by decide +kernel
theorem dX9_go_98 : decode cX9_go 98 = .ok (.invokevirtual 127, 3) := by decide +kernel
theorem dX9_go_101 : decode cX9_go 101 = .ok (.invokevirtual 130, 3) := by decide +kernel
theorem dX9_go_104 : decode cX9_go 104 = .ok (.ifCond .eq 7, 3) := by decide +kernel
theorem dX9_go_107 : decode cX9_go 107 = .ok (.iconst 0, 1) := by decide +kernel
theorem dX9_go_108 : decode cX9_go 108 = .ok (.goto 4, 3) := by decide +kernel
theorem dX9_go_111 : decode cX9_go 111 = .ok (.iconst 1, 1) := by decide +kernel
theorem dX9_go_112 : decode cX9_go 112 = .ok (.iadd, 1) := by decide +kernel
theorem dX9_go_113 : decode cX9_go 113 = .ok (.iastore, 1) := by decide +kernel
theorem dX9_go_114 : decode cX9_go 114 = .ok (.iinc 3 1, 3) := by decide +kernel
theorem dX9_go_117 : decode cX9_go 117 = .ok (.goto (-68), 3) := by decide +kernel
theorem dX9_go_120 : decode cX9_go 120 = .ok (.aload_n 0, 1) := by decide +kernel
theorem dX9_go_121 : decode cX9_go 121 = .ok (.getfield 9, 3) := by decide +kernel
theorem dX9_go_124 : decode cX9_go 124 = .ok (.iconst 1, 1) := by decide +kernel
theorem dX9_go_125 : decode cX9_go 125 = .ok (.dup2, 1) := by decide +kernel
theorem dX9_go_126 : decode cX9_go 126 = .ok (.iaload, 1) := by decide +kernel
theorem dX9_go_127 : decode cX9_go 127 = .ok (.iconst 1, 1) := by decide +kernel
theorem dX9_go_128 : decode cX9_go 128 = .ok (.iadd, 1) := by decide +kernel
theorem dX9_go_129 : decode cX9_go 129 = .ok (.iastore, 1) := by decide +kernel
theorem dX9_go_130 : decode cX9_go 130 = .ok (.iinc 2 1, 3) := by decide +kernel
theorem dX9_go_133 : decode cX9_go 133 = .ok (.goto (-91), 3) := by decide +kernel
theorem dX9_go_136 : decode cX9_go 136 = .ok (.aload_n 0, 1) := by decide +kernel
theorem dX9_go_137 : decode cX9_go 137 = .ok (.getfield 9, 3) := by decide +kernel
theorem dX9_go_140 : decode cX9_go 140 = .ok (.iconst 1, 1) := by decide +kernel
theorem dX9_go_141 : decode cX9_go 141 = .ok (.iaload, 1) := by decide +kernel
theorem dX9_go_142 : decode cX9_go 142 = .ok (.ireturn, 1) := by decide +kernel
theorem dX9_say_0 : decode cX9_say 0 = .ok (.aload_n 0, 1) := by decide +kernel
theorem dX9_say_1 : decode cX9_say 1 = .ok (.iload_n 1, 1) := by decide +kernel
theorem dX9_say_2 : decode cX9_say 2 = .ok (.invokevirtual 73, 3) := by decide +kernel
theorem dX9_say_5 : decode cX9_say 5 = .ok (.ifCond .eq 10, 3) := by decide +kernel
theorem dX9_say_8 : decode cX9_say 8 = .ok (.iload_n 2, 1) := by decide +kernel
theorem dX9_say_9 : decode cX9_say 9 = .ok (.invokestatic 84, 3) := by decide +kernel
theorem dX9_say_12 : decode cX9_say 12 = .ok (.ifCond .ne 10, 3) := by decide +kernel
theorem dX9_say_15 : decode cX9_say 15 = .ok (.aload_n 0, 1) := by decide +kernel
theorem dX9_say_16 : decode cX9_say 16 = .ok (.ldc 47, 2) := by decide +kernel
theorem dX9_say_18 : decode cX9_say 18 = .ok (.invokevirtual 64, 3) := by decide +kernel
theorem dX9_say_21 : decode cX9_say 21 = .ok (.ireturn, 1) := by decide +kernel
theorem dX9_say_22 : decode cX9_say 22 = .ok (.aload_n 0, 1) := by decide +kernel
theorem dX9_say_23 : decode cX9_say 23 = .ok (.iload_n 1, 1) := by decide +kernel
theorem dX9_say_24 : decode cX9_say 24 = .ok (.iload_n 2, 1) := by decide +kernel
theorem dX9_say_25 : decode cX9_say 25 = .ok (.invokevirtual 130, 3) := by decide +kernel
theorem dX9_say_28 : decode cX9_say 28 = .ok (.ifCond .eq 14, 3) := by decide +kernel
theorem dX9_say_31 : decode cX9_say 31 = .ok (.aload_n 0, 1) := by decide +kernel
theorem dX9_say_32 : decode cX9_say 32 = .ok (.getfield 9, 3) := by decide +kernel
theorem dX9_say_35 : decode cX9_say 35 = .ok (.iconst 2, 1) := by decide +kernel
theorem dX9_say_36 : decode cX9_say 36 = .ok (.iaload, 1) := by decide +kernel
theorem dX9_say_37 : decode cX9_say 37 = .ok (.iconst 1, 1) := by decide +kernel
theorem dX9_say_38 : decode cX9_say 38 = .ok (.isub, 1) := by decide +kernel
theorem dX9_say_39 : decode cX9_say 39 = .ok (.goto 9, 3) := by decide +kernel
theorem dX9_say_42 : decode cX9_say 42 = .ok (.aload_n 0, 1) := by decide +kernel
theorem dX9_say_43 : decode cX9_say 43 = .ok (.ldc 68, 2) := by decide +kernel
theorem dX9_say_45 : decode cX9_say 45 = .ok (.invokevirtual 64, 3) := by decide +kernel
theorem dX9_say_48 : decode cX9_say 48 = .ok (.ireturn, 1) := by decide +kernel
theorem dX9_follows_0 : decode cX9_follows 0 = .ok (.iload_n 1, 1) := by decide +kernel
theorem dX9_follows_1 : decode cX9_follows 1 = .ok (.iconst 1, 1) := by decide +kernel
theorem dX9_follows_2 : decode cX9_follows 2 = .ok (.isub, 1) := by decide +kernel
theorem dX9_follows_3 : decode cX9_follows 3 = .ok (.istore_n 2, 1) := by decide +kernel
theorem dX9_follows_4 : decode cX9_follows 4 = .ok (.iload_n 2, 1) := by decide +kernel
theorem dX9_follows_5 : decode cX9_follows 5 = .ok (.ifCond .lt 50, 3) := by decide +kernel
theorem dX9_follows_8 : decode cX9_follows 8 = .ok (.aload_n 0, 1) := by decide +kernel
theorem dX9_follows_9 : decode cX9_follows 9 = .ok (.iload_n 2, 1) := by decide +kernel
theorem dX9_follows_10 : decode cX9_follows 10 = .ok (.iconst 1, 1) := by decide +kernel
theorem dX9_follows_11 : decode cX9_follows 11 = .ok (.invokevirtual 101, 3) := by decide +kernel
theorem dX9_follows_14 : decode cX9_follows 14 = .ok (.aload_n 0, 1) := by decide +kernel
theorem dX9_follows_15 : decode cX9_follows 15 = .ok (.iload_n 1, 1) := by decide +kernel
theorem dX9_follows_16 : decode cX9_follows 16 = .ok (.iconst 1, 1) := by decide +kernel
theorem dX9_follows_17 : decode cX9_follows 17 = .ok (.invokevirtual 101, 3) := by decide +kernel
theorem dX9_follows_20 : decode cX9_follows 20 = .ok (.if_icmp .eq 29, 3) := by decide +kernel
theorem dX9_follows_23 : decode cX9_follows 23 = .ok (.aload_n 0, 1) := by decide +kernel
theorem dX9_follows_24 : decode cX9_follows 24 = .ok (.iload_n 1, 1) := by decide +kernel
theorem dX9_follows_25 : decode cX9_follows 25 = .ok (.iconst 0, 1) := by decide +kernel
theorem dX9_follows_26 : decode cX9_follows 26 = .ok (.invokevirtual 101, 3) := by decide +kernel
theorem dX9_follows_29 : decode cX9_follows 29 = .ok (.aload_n 0, 1) := by decide +kernel
theorem dX9_follows_30 : decode cX9_follows 30 = .ok (.iload_n 2, 1) := by decide +kernel
theorem dX9_follows_31 : decode cX9_follows 31 = .ok (.iconst 0, 1) := by decide +kernel
theorem dX9_follows_32 : decode cX9_follows 32 = .ok (.invokevirtual 101, 3) := by decide +kernel
theorem dX9_follows_35 : decode cX9_follows 35 = .ok (.isub, 1) := by decide +kernel
theorem dX9_follows_36 : decode cX9_follows 36 = .ok (.i2l, 1) := by decide +kernel
theorem dX9_follows_37 : decode cX9_follows 37 = .ok (.lconst 1, 1) := by decide +kernel
theorem dX9_follows_38 : decode cX9_follows 38 = .ok (.ldc2_w 58, 3) := by decide +kernel
theorem dX9_follows_41 : decode cX9_follows 41 = .ok (.invokestatic 48, 3) := by decide +kernel
theorem dX9_follows_44 : decode cX9_follows 44 = .ok (.ifCond .eq 5, 3) := by decide +kernel
theorem dX9_follows_47 : decode cX9_follows 47 = .ok (.iload_n 2, 1) := by decide +kernel
theorem dX9_follows_48 : decode cX9_follows 48 = .ok (.ireturn, 1) := by decide +kernel
theorem dX9_follows_49 : decode cX9_follows 49 = .ok (.iinc 2 (-1), 3) := by decide +kernel
theorem dX9_follows_52 : decode cX9_follows 52 = .ok (.goto (-48), 3) := by decide +kernel
theorem dX9_follows_55 : decode cX9_follows 55 = .ok (.iconst (-1), 1) := by decide +kernel
theorem dX9_follows_56 : decode cX9_follows 56 = .ok (.ireturn, 1) := by decide +kernel
theorem dX9_wordOf_0 : decode cX9_wordOf 0 = .ok (.aload_n 0, 1) := by decide +kernel
theorem dX9_wordOf_1 : decode cX9_wordOf 1 = .ok (.iload_n 1, 1) := by decide +kernel
theorem dX9_wordOf_2 : decode cX9_wordOf 2 = .ok (.invokevirtual 133, 3) := by decide +kernel
theorem dX9_wordOf_5 : decode cX9_wordOf 5 = .ok (.ifCond .eq 15, 3) := by decide +kernel
theorem dX9_wordOf_8 : decode cX9_wordOf 8 = .ok (.iload_n 2, 1) := by decide +kernel
theorem dX9_wordOf_9 : decode cX9_wordOf 9 = .ok (.i2l, 1) := by decide +kernel
theorem dX9_wordOf_10 : decode cX9_wordOf 10 = .ok (.lconst 0, 1) := by decide +kernel
theorem dX9_wordOf_11 : decode cX9_wordOf 11 = .ok (.ldc2_w 136, 3) := by decide +kernel
theorem dX9_wordOf_14 : decode cX9_wordOf 14 = .ok (.invokestatic 48, 3) := by decide +kernel
theorem dX9_wordOf_17 : decode cX9_wordOf 17 = .ok (.ifCond .ne 10, 3) := by decide +kernel
theorem dX9_wordOf_20 : decode cX9_wordOf 20 = .ok (.aload_n 0, 1) := by decide +kernel
theorem dX9_wordOf_21 : decode cX9_wordOf 21 = .ok (.ldc 47, 2) := by decide +kernel
theorem dX9_wordOf_23 : decode cX9_wordOf 23 = .ok (.invokevirtual 64, 3) := by decide +kernel
theorem dX9_wordOf_26 : decode cX9_wordOf 26 = .ok (.ireturn, 1) := by decide +kernel
theorem dX9_wordOf_27 : decode cX9_wordOf 27 = .ok (.iload_n 2, 1) := by decide +kernel
theorem dX9_wordOf_28 : decode cX9_wordOf 28 = .ok (.iconst 3, 1) := by decide +kernel
theorem dX9_wordOf_29 : decode cX9_wordOf 29 = .ok (.if_icmp .ge 12, 3) := by decide +kernel
theorem dX9_wordOf_32 : decode cX9_wordOf 32 = .ok (.aload_n 0, 1) := by decide +kernel
theorem dX9_wordOf_33 : decode cX9_wordOf 33 = .ok (.iload_n 1, 1) := by decide +kernel
theorem dX9_wordOf_34 : decode cX9_wordOf 34 = .ok (.iload_n 2, 1) := by decide +kernel
theorem dX9_wordOf_35 : decode cX9_wordOf 35 = .ok (.invokevirtual 101, 3) := by decide +kernel
theorem dX9_wordOf_38 : decode cX9_wordOf 38 = .ok (.goto 8, 3) := by decide +kernel
theorem dX9_wordOf_41 : decode cX9_wordOf 41 = .ok (.aload_n 0, 1) := by decide +kernel
theorem dX9_wordOf_42 : decode cX9_wordOf 42 = .ok (.iload_n 1, 1) := by decide +kernel
theorem dX9_wordOf_43 : decode cX9_wordOf 43 = .ok (.invokevirtual 138, 3) := by decide +kernel
theorem dX9_wordOf_46 : decode cX9_wordOf 46 = .ok (.ireturn, 1) := by decide +kernel
theorem dX9_below_0 : decode cX9_below 0 = .ok (.aload_n 0, 1) := by decide +kernel
theorem dX9_below_1 : decode cX9_below 1 = .ok (.iload_n 1, 1) := by decide +kernel
theorem dX9_below_2 : decode cX9_below 2 = .ok (.invokevirtual 133, 3) := by decide +kernel
theorem dX9_below_5 : decode cX9_below 5 = .ok (.ifCond .ne 10, 3) := by decide +kernel
theorem dX9_below_8 : decode cX9_below 8 = .ok (.aload_n 0, 1) := by decide +kernel
theorem dX9_below_9 : decode cX9_below 9 = .ok (.ldc 47, 2) := by decide +kernel
theorem dX9_below_11 : decode cX9_below 11 = .ok (.invokevirtual 64, 3) := by decide +kernel
theorem dX9_below_14 : decode cX9_below 14 = .ok (.ireturn, 1) := by decide +kernel
theorem dX9_below_15 : decode cX9_below 15 = .ok (.iconst 0, 1) := by decide +kernel
theorem dX9_below_16 : decode cX9_below 16 = .ok (.istore_n 2, 1) := by decide +kernel
theorem dX9_below_17 : decode cX9_below 17 = .ok (.iload_n 1, 1) := by decide +kernel
theorem dX9_below_18 : decode cX9_below 18 = .ok (.istore_n 3, 1) := by decide +kernel
theorem dX9_below_19 : decode cX9_below 19 = .ok (.iload_n 3, 1) := by decide +kernel
theorem dX9_below_20 : decode cX9_below 20 = .ok (.aload_n 0, 1) := by decide +kernel
theorem dX9_below_21 : decode cX9_below 21 = .ok (.getfield 9, 3) := by decide +kernel
theorem dX9_below_24 : decode cX9_below 24 = .ok (.iconst 2, 1) := by decide +kernel
theorem dX9_below_25 : decode cX9_below 25 = .ok (.iaload, 1) := by decide +kernel
theorem dX9_below_26 : decode cX9_below 26 = .ok (.if_icmp .ge 75, 3) := by decide +kernel
theorem dX9_below_29 : decode cX9_below 29 = .ok (.iload_n 3, 1) := by decide +kernel
theorem dX9_below_30 : decode cX9_below 30 = .ok (.iload_n 1, 1) := by decide +kernel
theorem dX9_below_31 : decode cX9_below 31 = .ok (.if_icmp .ne 7, 3) := by decide +kernel
theorem dX9_below_34 : decode cX9_below 34 = .ok (.iconst (-1), 1) := by decide +kernel
theorem dX9_below_35 : decode cX9_below 35 = .ok (.goto 8, 3) := by decide +kernel
theorem dX9_below_38 : decode cX9_below 38 = .ok (.aload_n 0, 1) := by decide +kernel
theorem dX9_below_39 : decode cX9_below 39 = .ok (.iload_n 3, 1) := by decide +kernel
theorem dX9_below_40 : decode cX9_below 40 = .ok (.invokevirtual 138, 3) := by decide +kernel
theorem dX9_below_43 : decode cX9_below 43 = .ok (.istore 4, 2) := by decide +kernel
theorem dX9_below_45 : decode cX9_below 45 = .ok (.aload_n 0, 1) := by decide +kernel
theorem dX9_below_46 : decode cX9_below 46 = .ok (.getfield 19, 3) := by decide +kernel
theorem dX9_below_49 : decode cX9_below 49 = .ok (.iload_n 3, 1) := by decide +kernel
theorem dX9_below_50 : decode cX9_below 50 = .ok (.iload 4, 2) := by decide +kernel
theorem dX9_below_52 : decode cX9_below 52 = .ok (.iload_n 1, 1) := by decide +kernel
theorem dX9_below_53 : decode cX9_below 53 = .ok (.if_icmp .eq 19, 3) := by decide +kernel
theorem dX9_below_56 : decode cX9_below 56 = .ok (.iload 4, 2) := by decide +kernel
theorem dX9_below_58 : decode cX9_below 58 = .ok (.iload_n 1, 1) := by decide +kernel
theorem dX9_below_59 : decode cX9_below 59 = .ok (.if_icmp .le 17, 3) := by decide +kernel
theorem dX9_below_62 : decode cX9_below 62 = .ok (.aload_n 0, 1) := by decide +kernel
theorem dX9_below_63 : decode cX9_below 63 = .ok (.getfield 19, 3) := by decide +kernel
theorem dX9_below_66 : decode cX9_below 66 = .ok (.iload 4, 2) := by decide +kernel
theorem dX9_below_68 : decode cX9_below 68 = .ok (.baload, 1) := by decide +kernel
theorem dX9_below_69 : decode cX9_below 69 = .ok (.ifCond .eq 7, 3) := by decide +kernel
theorem dX9_below_72 : decode cX9_below 72 = .ok (.iconst 1, 1) := by decide +kernel
theorem dX9_below_73 : decode cX9_below 73 = .ok (.goto 4, 3) := by decide +kernel
theorem dX9_below_76 : decode cX9_below 76 = .ok (.iconst 0, 1) := by decide +kernel
theorem dX9_below_77 : decode cX9_below 77 = .ok (.bastore, 1) := by decide +kernel
theorem dX9_below_78 : decode cX9_below 78 = .ok (.iload_n 2, 1) := by decide +kernel
theorem dX9_below_79 : decode cX9_below 79 = .ok (.aload_n 0, 1) := by decide +kernel
theorem dX9_below_80 : decode cX9_below 80 = .ok (.getfield 19, 3) := by decide +kernel
theorem dX9_below_83 : decode cX9_below 83 = .ok (.iload_n 3, 1) := by decide +kernel
theorem dX9_below_84 : decode cX9_below 84 = .ok (.baload, 1) := by decide +kernel
theorem dX9_below_85 : decode cX9_below 85 = .ok (.ifCond .eq 7, 3) := by decide +kernel
theorem dX9_below_88 : decode cX9_below 88 = .ok (.iconst 1, 1) := by decide +kernel
theorem dX9_below_89 : decode cX9_below 89 = .ok (.goto 4, 3) := by decide +kernel
theorem dX9_below_92 : decode cX9_below 92 = .ok (.iconst 0, 1) := by decide +kernel
theorem dX9_below_93 : decode cX9_below 93 = .ok (.iadd, 1) := by decide +kernel
theorem dX9_below_94 : decode cX9_below 94 = .ok (.istore_n 2, 1) := by decide +kernel
theorem dX9_below_95 : decode cX9_below 95 = .ok (.iinc 3 1, 3) := by decide +kernel
theorem dX9_below_98 : decode cX9_below 98 = .ok (.goto (-79), 3) := by decide +kernel
theorem dX9_below_101 : decode cX9_below 101 = .ok (.iload_n 2, 1) := by decide +kernel
theorem dX9_below_102 : decode cX9_below 102 = .ok (.ireturn, 1) := by decide +kernel
theorem dX9_hoursOf_0 : decode cX9_hoursOf 0 = .ok (.iconst 0, 1) := by decide +kernel
theorem dX9_hoursOf_1 : decode cX9_hoursOf 1 = .ok (.istore_n 2, 1) := by decide +kernel
theorem dX9_hoursOf_2 : decode cX9_hoursOf 2 = .ok (.iconst 0, 1) := by decide +kernel
theorem dX9_hoursOf_3 : decode cX9_hoursOf 3 = .ok (.istore_n 3, 1) := by decide +kernel
theorem dX9_hoursOf_4 : decode cX9_hoursOf 4 = .ok (.iload_n 3, 1) := by decide +kernel
theorem dX9_hoursOf_5 : decode cX9_hoursOf 5 = .ok (.aload_n 0, 1) := by decide +kernel
theorem dX9_hoursOf_6 : decode cX9_hoursOf 6 = .ok (.getfield 9, 3) := by decide +kernel
theorem dX9_hoursOf_9 : decode cX9_hoursOf 9 = .ok (.iconst 2, 1) := by decide +kernel
theorem dX9_hoursOf_10 : decode cX9_hoursOf 10 = .ok (.iaload, 1) := by decide +kernel
theorem dX9_hoursOf_11 : decode cX9_hoursOf 11 = .ok (.if_icmp .ge 37, 3) := by decide +kernel
theorem dX9_hoursOf_14 : decode cX9_hoursOf 14 = .ok (.iload_n 2, 1) := by decide +kernel
theorem dX9_hoursOf_15 : decode cX9_hoursOf 15 = .ok (.aload_n 0, 1) := by decide +kernel
theorem dX9_hoursOf_16 : decode cX9_hoursOf 16 = .ok (.iload_n 3, 1) := by decide +kernel
theorem dX9_hoursOf_17 : decode cX9_hoursOf 17 = .ok (.iconst 1, 1) := by decide +kernel
theorem dX9_hoursOf_18 : decode cX9_hoursOf 18 = .ok (.invokevirtual 101, 3) := by decide +kernel
theorem dX9_hoursOf_21 : decode cX9_hoursOf 21 = .ok (.iload_n 1, 1) := by decide +kernel
theorem dX9_hoursOf_22 : decode cX9_hoursOf 22 = .ok (.if_icmp .ne 17, 3) := by decide +kernel
theorem dX9_hoursOf_25 : decode cX9_hoursOf 25 = .ok (.iconst 1, 1) := by decide +kernel
theorem dX9_hoursOf_26 : decode cX9_hoursOf 26 = .ok (.aload_n 0, 1) := by decide +kernel
theorem dX9_hoursOf_27 : decode cX9_hoursOf 27 = .ok (.iload_n 3, 1) := by decide +kernel
theorem dX9_hoursOf_28 : decode cX9_hoursOf 28 = .ok (.iconst 0, 1) := by decide +kernel
theorem dX9_hoursOf_29 : decode cX9_hoursOf 29 = .ok (.invokevirtual 101, 3) := by decide +kernel
theorem dX9_hoursOf_32 : decode cX9_hoursOf 32 = .ok (.invokestatic 94, 3) := by decide +kernel
theorem dX9_hoursOf_35 : decode cX9_hoursOf 35 = .ok (.ishl, 1) := by decide +kernel
theorem dX9_hoursOf_36 : decode cX9_hoursOf 36 = .ok (.goto 4, 3) := by decide +kernel
theorem dX9_hoursOf_39 : decode cX9_hoursOf 39 = .ok (.iconst 0, 1) := by decide +kernel
theorem dX9_hoursOf_40 : decode cX9_hoursOf 40 = .ok (.ior, 1) := by decide +kernel
theorem dX9_hoursOf_41 : decode cX9_hoursOf 41 = .ok (.istore_n 2, 1) := by decide +kernel
theorem dX9_hoursOf_42 : decode cX9_hoursOf 42 = .ok (.iinc 3 1, 3) := by decide +kernel
theorem dX9_hoursOf_45 : decode cX9_hoursOf 45 = .ok (.goto (-41), 3) := by decide +kernel
theorem dX9_hoursOf_48 : decode cX9_hoursOf 48 = .ok (.iload_n 2, 1) := by decide +kernel
theorem dX9_hoursOf_49 : decode cX9_hoursOf 49 = .ok (.ireturn, 1) := by decide +kernel
theorem dX9_gapOf_0 : decode cX9_gapOf 0 = .ok (.iconst 0, 1) := by decide +kernel
theorem dX9_gapOf_1 : decode cX9_gapOf 1 = .ok (.istore_n 3, 1) := by decide +kernel
theorem dX9_gapOf_2 : decode cX9_gapOf 2 = .ok (.iconst 0, 1) := by decide +kernel
theorem dX9_gapOf_3 : decode cX9_gapOf 3 = .ok (.istore 4, 2) := by decide +kernel
theorem dX9_gapOf_5 : decode cX9_gapOf 5 = .ok (.iconst 0, 1) := by decide +kernel
theorem dX9_gapOf_6 : decode cX9_gapOf 6 = .ok (.istore 5, 2) := by decide +kernel
theorem dX9_gapOf_8 : decode cX9_gapOf 8 = .ok (.iconst (-1), 1) := by decide +kernel
theorem dX9_gapOf_9 : decode cX9_gapOf 9 = .ok (.istore 6, 2) := by decide +kernel
theorem dX9_gapOf_11 : decode cX9_gapOf 11 = .ok (.iconst 0, 1) := by decide +kernel
theorem dX9_gapOf_12 : decode cX9_gapOf 12 = .ok (.istore 7, 2) := by decide +kernel
theorem dX9_gapOf_14 : decode cX9_gapOf 14 = .ok (.iload 7, 2) := by decide +kernel
theorem dX9_gapOf_16 : decode cX9_gapOf 16 = .ok (.aload_n 0, 1) := by decide +kernel
theorem dX9_gapOf_17 : decode cX9_gapOf 17 = .ok (.getfield 9, 3) := by decide +kernel
theorem dX9_gapOf_20 : decode cX9_gapOf 20 = .ok (.iconst 2, 1) := by decide +kernel
theorem dX9_gapOf_21 : decode cX9_gapOf 21 = .ok (.iaload, 1) := by decide +kernel
theorem dX9_gapOf_22 : decode cX9_gapOf 22 = .ok (.if_icmp .ge 78, 3) := by decide +kernel
theorem dX9_gapOf_25 : decode cX9_gapOf 25 = .ok (.aload_n 0, 1) := by decide +kernel
theorem dX9_gapOf_26 : decode cX9_gapOf 26 = .ok (.iload 7, 2) := by decide +kernel
theorem dX9_gapOf_28 : decode cX9_gapOf 28 = .ok (.iconst 1, 1) := by decide +kernel
theorem dX9_gapOf_29 : decode cX9_gapOf 29 = .ok (.invokevirtual 101, 3) := by decide +kernel
theorem dX9_gapOf_32 : decode cX9_gapOf 32 = .ok (.iload_n 1, 1) := by decide +kernel
theorem dX9_gapOf_33 : decode cX9_gapOf 33 = .ok (.if_icmp .eq 6, 3) := by decide +kernel
theorem dX9_gapOf_36 : decode cX9_gapOf 36 = .ok (.goto 58, 3) := by decide +kernel
theorem dX9_gapOf_39 : decode cX9_gapOf 39 = .ok (.aload_n 0, 1) := by decide +kernel
theorem dX9_gapOf_40 : decode cX9_gapOf 40 = .ok (.iload 7, 2) := by decide +kernel
theorem dX9_gapOf_42 : decode cX9_gapOf 42 = .ok (.iconst 0, 1) := by decide +kernel
theorem dX9_gapOf_43 : decode cX9_gapOf 43 = .ok (.invokevirtual 101, 3) := by decide +kernel
theorem dX9_gapOf_46 : decode cX9_gapOf 46 = .ok (.iload 6, 2) := by decide +kernel
theorem dX9_gapOf_48 : decode cX9_gapOf 48 = .ok (.isub, 1) := by decide +kernel
theorem dX9_gapOf_49 : decode cX9_gapOf 49 = .ok (.istore 8, 2) := by decide +kernel
theorem dX9_gapOf_51 : decode cX9_gapOf 51 = .ok (.iload 6, 2) := by decide +kernel
theorem dX9_gapOf_53 : decode cX9_gapOf 53 = .ok (.ifCond .lt 32, 3) := by decide +kernel
theorem dX9_gapOf_56 : decode cX9_gapOf 56 = .ok (.iload 4, 2) := by decide +kernel
theorem dX9_gapOf_58 : decode cX9_gapOf 58 = .ok (.ifCond .eq 10, 3) := by decide +kernel
theorem dX9_gapOf_61 : decode cX9_gapOf 61 = .ok (.iload 8, 2) := by decide +kernel
theorem dX9_gapOf_63 : decode cX9_gapOf 63 = .ok (.iload 5, 2) := by decide +kernel
theorem dX9_gapOf_65 : decode cX9_gapOf 65 = .ok (.if_icmp .ge 8, 3) := by decide +kernel
theorem dX9_gapOf_68 : decode cX9_gapOf 68 = .ok (.iload 8, 2) := by decide +kernel
theorem dX9_gapOf_70 : decode cX9_gapOf 70 = .ok (.goto 5, 3) := by decide +kernel
theorem dX9_gapOf_73 : decode cX9_gapOf 73 = .ok (.iload 5, 2) := by decide +kernel
theorem dX9_gapOf_75 : decode cX9_gapOf 75 = .ok (.istore 5, 2) := by decide +kernel
theorem dX9_gapOf_77 : decode cX9_gapOf 77 = .ok (.iload_n 3, 1) := by decide +kernel
theorem dX9_gapOf_78 : decode cX9_gapOf 78 = .ok (.iload 8, 2) := by decide +kernel
theorem dX9_gapOf_80 : decode cX9_gapOf 80 = .ok (.iadd, 1) := by decide +kernel
theorem dX9_gapOf_81 : decode cX9_gapOf 81 = .ok (.istore_n 3, 1) := by decide +kernel
theorem dX9_gapOf_82 : decode cX9_gapOf 82 = .ok (.iinc 4 1, 3) := by decide +kernel
theorem dX9_gapOf_85 : decode cX9_gapOf 85 = .ok (.aload_n 0, 1) := by decide +kernel
theorem dX9_gapOf_86 : decode cX9_gapOf 86 = .ok (.iload 7, 2) := by decide +kernel
theorem dX9_gapOf_88 : decode cX9_gapOf 88 = .ok (.iconst 0, 1) := by decide +kernel
theorem dX9_gapOf_89 : decode cX9_gapOf 89 = .ok (.invokevirtual 101, 3) := by decide +kernel
theorem dX9_gapOf_92 : decode cX9_gapOf 92 = .ok (.istore 6, 2) := by decide +kernel
theorem dX9_gapOf_94 : decode cX9_gapOf 94 = .ok (.iinc 7 1, 3) := by decide +kernel
theorem dX9_gapOf_97 : decode cX9_gapOf 97 = .ok (.goto (-83), 3) := by decide +kernel
theorem dX9_gapOf_100 : decode cX9_gapOf 100 = .ok (.iload 4, 2) := by decide +kernel
theorem dX9_gapOf_102 : decode cX9_gapOf 102 = .ok (.ifCond .ne 7, 3) := by decide +kernel
theorem dX9_gapOf_105 : decode cX9_gapOf 105 = .ok (.iconst 0, 1) := by decide +kernel
theorem dX9_gapOf_106 : decode cX9_gapOf 106 = .ok (.goto 16, 3) := by decide +kernel
theorem dX9_gapOf_109 : decode cX9_gapOf 109 = .ok (.iload_n 2, 1) := by decide +kernel
theorem dX9_gapOf_110 : decode cX9_gapOf 110 = .ok (.ifCond .eq 8, 3) := by decide +kernel
theorem dX9_gapOf_113 : decode cX9_gapOf 113 = .ok (.iload 5, 2) := by decide +kernel
theorem dX9_gapOf_115 : decode cX9_gapOf 115 = .ok (.goto 7, 3) := by decide +kernel
theorem dX9_gapOf_118 : decode cX9_gapOf 118 = .ok (.iload_n 3, 1) := by decide +kernel
theorem dX9_gapOf_119 : decode cX9_gapOf 119 = .ok (.iload 4, 2) := by decide +kernel
theorem dX9_gapOf_121 : decode cX9_gapOf 121 = .ok (.idiv, 1) := by decide +kernel
theorem dX9_gapOf_122 : decode cX9_gapOf 122 = .ok (.ireturn, 1) := by decide +kernel
theorem dX9_followOf_0 : decode cX9_followOf 0 = .ok (.iconst 0, 1) := by decide +kernel
theorem dX9_followOf_1 : decode cX9_followOf 1 = .ok (.istore_n 3, 1) := by decide +kernel
theorem dX9_followOf_2 : decode cX9_followOf 2 = .ok (.bipush 99, 2) := by decide +kernel
theorem dX9_followOf_4 : decode cX9_followOf 4 = .ok (.istore 4, 2) := by decide +kernel
theorem dX9_followOf_6 : decode cX9_followOf 6 = .ok (.iconst 0, 1) := by decide +kernel
theorem dX9_followOf_7 : decode cX9_followOf 7 = .ok (.istore 5, 2) := by decide +kernel
theorem dX9_followOf_9 : decode cX9_followOf 9 = .ok (.iload 5, 2) := by decide +kernel
theorem dX9_followOf_11 : decode cX9_followOf 11 = .ok (.aload_n 0, 1) := by decide +kernel
theorem dX9_followOf_12 : decode cX9_followOf 12 = .ok (.getfield 9, 3) := by decide +kernel
theorem dX9_followOf_15 : decode cX9_followOf 15 = .ok (.iconst 2, 1) := by decide +kernel
theorem dX9_followOf_16 : decode cX9_followOf 16 = .ok (.iaload, 1) := by decide +kernel
theorem dX9_followOf_17 : decode cX9_followOf 17 = .ok (.if_icmp .ge 76, 3) := by decide +kernel
theorem dX9_followOf_20 : decode cX9_followOf 20 = .ok (.aload_n 0, 1) := by decide +kernel
theorem dX9_followOf_21 : decode cX9_followOf 21 = .ok (.iload 5, 2) := by decide +kernel
theorem dX9_followOf_23 : decode cX9_followOf 23 = .ok (.iconst 1, 1) := by decide +kernel
theorem dX9_followOf_24 : decode cX9_followOf 24 = .ok (.invokevirtual 101, 3) := by decide +kernel
theorem dX9_followOf_27 : decode cX9_followOf 27 = .ok (.iload_n 1, 1) := by decide +kernel
theorem dX9_followOf_28 : decode cX9_followOf 28 = .ok (.if_icmp .ne 12, 3) := by decide +kernel
theorem dX9_followOf_31 : decode cX9_followOf 31 = .ok (.aload_n 0, 1) := by decide +kernel
theorem dX9_followOf_32 : decode cX9_followOf 32 = .ok (.iload 5, 2) := by decide +kernel
theorem dX9_followOf_34 : decode cX9_followOf 34 = .ok (.invokevirtual 138, 3) := by decide +kernel
theorem dX9_followOf_37 : decode cX9_followOf 37 = .ok (.goto 4, 3) := by decide +kernel
theorem dX9_followOf_40 : decode cX9_followOf 40 = .ok (.iconst (-1), 1) := by decide +kernel
theorem dX9_followOf_41 : decode cX9_followOf 41 = .ok (.istore 6, 2) := by decide +kernel
theorem dX9_followOf_43 : decode cX9_followOf 43 = .ok (.iload 6, 2) := by decide +kernel
theorem dX9_followOf_45 : decode cX9_followOf 45 = .ok (.ifCond .ge 6, 3) := by decide +kernel
theorem dX9_followOf_48 : decode cX9_followOf 48 = .ok (.goto 39, 3) := by decide +kernel
theorem dX9_followOf_51 : decode cX9_followOf 51 = .ok (.iinc 3 1, 3) := by decide +kernel
theorem dX9_followOf_54 : decode cX9_followOf 54 = .ok (.aload_n 0, 1) := by decide +kernel
theorem dX9_followOf_55 : decode cX9_followOf 55 = .ok (.iload 5, 2) := by decide +kernel
theorem dX9_followOf_57 : decode cX9_followOf 57 = .ok (.iconst 0, 1) := by decide +kernel
theorem dX9_followOf_58 : decode cX9_followOf 58 = .ok (.invokevirtual 101, 3) := by decide +kernel
theorem dX9_followOf_61 : decode cX9_followOf 61 = .ok (.aload_n 0, 1) := by decide +kernel
theorem dX9_followOf_62 : decode cX9_followOf 62 = .ok (.iload 6, 2) := by decide +kernel
theorem dX9_followOf_64 : decode cX9_followOf 64 = .ok (.iconst 0, 1) := by decide +kernel
theorem dX9_followOf_65 : decode cX9_followOf 65 = .ok (.invokevirtual 101, 3) := by decide +kernel
theorem dX9_followOf_68 : decode cX9_followOf 68 = .ok (.isub, 1) := by decide +kernel
theorem dX9_followOf_69 : decode cX9_followOf 69 = .ok (.istore 7, 2) := by decide +kernel
theorem dX9_followOf_71 : decode cX9_followOf 71 = .ok (.iload 7, 2) := by decide +kernel
theorem dX9_followOf_73 : decode cX9_followOf 73 = .ok (.iload 4, 2) := by decide +kernel
theorem dX9_followOf_75 : decode cX9_followOf 75 = .ok (.if_icmp .ge 8, 3) := by decide +kernel
theorem dX9_followOf_78 : decode cX9_followOf 78 = .ok (.iload 7, 2) := by decide +kernel
theorem dX9_followOf_80 : decode cX9_followOf 80 = .ok (.goto 5, 3) := by decide +kernel
theorem dX9_followOf_83 : decode cX9_followOf 83 = .ok (.iload 4, 2) := by decide +kernel
theorem dX9_followOf_85 : decode cX9_followOf 85 = .ok (.istore 4, 2) := by decide +kernel
theorem dX9_followOf_87 : decode cX9_followOf 87 = .ok (.iinc 5 1, 3) := by decide +kernel
theorem dX9_followOf_90 : decode cX9_followOf 90 = .ok (.goto (-81), 3) := by decide +kernel
theorem dX9_followOf_93 : decode cX9_followOf 93 = .ok (.iload_n 2, 1) := by decide +kernel
theorem dX9_followOf_94 : decode cX9_followOf 94 = .ok (.ifCond .eq 8, 3) := by decide +kernel
theorem dX9_followOf_97 : decode cX9_followOf 97 = .ok (.iload 4, 2) := by decide +kernel
theorem dX9_followOf_99 : decode cX9_followOf 99 = .ok (.goto 4, 3) := by decide +kernel
theorem dX9_followOf_102 : decode cX9_followOf 102 = .ok (.iload_n 3, 1) := by decide +kernel
theorem dX9_followOf_103 : decode cX9_followOf 103 = .ok (.ireturn, 1) := by decide +kernel
theorem dX9_signOf_0 : decode cX9_signOf 0 = .ok (.iconst 0, 1) := by decide +kernel
theorem dX9_signOf_1 : decode cX9_signOf 1 = .ok (.istore_n 3, 1) := by decide +kernel
theorem dX9_signOf_2 : decode cX9_signOf 2 = .ok (.iload_n 2, 1) := by decide +kernel
theorem dX9_signOf_3 : decode cX9_signOf 3 = .ok (.tableswitch 140 0 6 #[41, 47, 47, 63, 72, 72, 88], 41) := by decide +kernel
theorem dX9_signOf_44 : decode cX9_signOf 44 = .ok (.aload_n 0, 1) := by decide +kernel
theorem dX9_signOf_45 : decode cX9_signOf 45 = .ok (.iload_n 1, 1) := by decide +kernel
theorem dX9_signOf_46 : decode cX9_signOf 46 = .ok (.invokevirtual 123, 3) := by decide +kernel
theorem dX9_signOf_49 : decode cX9_signOf 49 = .ok (.ireturn, 1) := by decide +kernel
theorem dX9_signOf_50 : decode cX9_signOf 50 = .ok (.aload_n 0, 1) := by decide +kernel
theorem dX9_signOf_51 : decode cX9_signOf 51 = .ok (.iload_n 1, 1) := by decide +kernel
theorem dX9_signOf_52 : decode cX9_signOf 52 = .ok (.iload_n 2, 1) := by decide +kernel
theorem dX9_signOf_53 : decode cX9_signOf 53 = .ok (.iconst 2, 1) := by decide +kernel
theorem dX9_signOf_54 : decode cX9_signOf 54 = .ok (.if_icmp .ne 7, 3) := by decide +kernel
theorem dX9_signOf_57 : decode cX9_signOf 57 = .ok (.iconst 1, 1) := by decide +kernel
theorem dX9_signOf_58 : decode cX9_signOf 58 = .ok (.goto 4, 3) := by decide +kernel
theorem dX9_signOf_61 : decode cX9_signOf 61 = .ok (.iconst 0, 1) := by decide +kernel
theorem dX9_signOf_62 : decode cX9_signOf 62 = .ok (.invokevirtual 141, 3) := by decide +kernel
theorem dX9_signOf_65 : decode cX9_signOf 65 = .ok (.ireturn, 1) := by decide +kernel
theorem dX9_signOf_66 : decode cX9_signOf 66 = .ok (.aload_n 0, 1) := by decide +kernel
theorem dX9_signOf_67 : decode cX9_signOf 67 = .ok (.iload_n 1, 1) := by decide +kernel
theorem dX9_signOf_68 : decode cX9_signOf 68 = .ok (.invokevirtual 145, 3) := by decide +kernel
theorem dX9_signOf_71 : decode cX9_signOf 71 = .ok (.invokestatic 148, 3) := by decide +kernel
theorem dX9_signOf_74 : decode cX9_signOf 74 = .ok (.ireturn, 1) := by decide +kernel
theorem dX9_signOf_75 : decode cX9_signOf 75 = .ok (.aload_n 0, 1) := by decide +kernel
theorem dX9_signOf_76 : decode cX9_signOf 76 = .ok (.iload_n 1, 1) := by decide +kernel
theorem dX9_signOf_77 : decode cX9_signOf 77 = .ok (.iload_n 2, 1) := by decide +kernel
theorem dX9_signOf_78 : decode cX9_signOf 78 = .ok (.iconst 5, 1) := by decide +kernel
theorem dX9_signOf_79 : decode cX9_signOf 79 = .ok (.if_icmp .ne 7, 3) := by decide +kernel
theorem dX9_signOf_82 : decode cX9_signOf 82 = .ok (.iconst 1, 1) := by decide +kernel
theorem dX9_signOf_83 : decode cX9_signOf 83 = .ok (.goto 4, 3) := by decide +kernel
theorem dX9_signOf_86 : decode cX9_signOf 86 = .ok (.iconst 0, 1) := by decide +kernel
theorem dX9_signOf_87 : decode cX9_signOf 87 = .ok (.invokevirtual 151, 3) := by decide +kernel
theorem dX9_signOf_90 : decode cX9_signOf 90 = .ok (.ireturn, 1) := by decide +kernel
theorem dX9_signOf_91 : decode cX9_signOf 91 = .ok (.iconst 0, 1) := by decide +kernel
theorem dX9_signOf_92 : decode cX9_signOf 92 = .ok (.istore 4, 2) := by decide +kernel
theorem dX9_signOf_94 : decode cX9_signOf 94 = .ok (.iload 4, 2) := by decide +kernel
theorem dX9_signOf_96 : decode cX9_signOf 96 = .ok (.aload_n 0, 1) := by decide +kernel
theorem dX9_signOf_97 : decode cX9_signOf 97 = .ok (.getfield 9, 3) := by decide +kernel
theorem dX9_signOf_100 : decode cX9_signOf 100 = .ok (.iconst 2, 1) := by decide +kernel
theorem dX9_signOf_101 : decode cX9_signOf 101 = .ok (.iaload, 1) := by decide +kernel
theorem dX9_signOf_102 : decode cX9_signOf 102 = .ok (.if_icmp .ge 36, 3) := by decide +kernel
theorem dX9_signOf_105 : decode cX9_signOf 105 = .ok (.iload_n 3, 1) := by decide +kernel
theorem dX9_signOf_106 : decode cX9_signOf 106 = .ok (.aload_n 0, 1) := by decide +kernel
theorem dX9_signOf_107 : decode cX9_signOf 107 = .ok (.iload 4, 2) := by decide +kernel
theorem dX9_signOf_109 : decode cX9_signOf 109 = .ok (.iconst 1, 1) := by decide +kernel
theorem dX9_signOf_110 : decode cX9_signOf 110 = .ok (.invokevirtual 101, 3) := by decide +kernel
theorem dX9_signOf_113 : decode cX9_signOf 113 = .ok (.iload_n 1, 1) := by decide +kernel
theorem dX9_signOf_114 : decode cX9_signOf 114 = .ok (.if_icmp .ne 15, 3) := by decide +kernel
theorem dX9_signOf_117 : decode cX9_signOf 117 = .ok (.iconst 1, 1) := by decide +kernel
theorem dX9_signOf_118 : decode cX9_signOf 118 = .ok (.aload_n 0, 1) := by decide +kernel
theorem dX9_signOf_119 : decode cX9_signOf 119 = .ok (.iload 4, 2) := by decide +kernel
theorem dX9_signOf_121 : decode cX9_signOf 121 = .ok (.iconst 2, 1) := by decide +kernel
theorem dX9_signOf_122 : decode cX9_signOf 122 = .ok (.invokevirtual 101, 3) := by decide +kernel
theorem dX9_signOf_125 : decode cX9_signOf 125 = .ok (.ishl, 1) := by decide +kernel
theorem dX9_signOf_126 : decode cX9_signOf 126 = .ok (.goto 4, 3) := by decide +kernel
theorem dX9_signOf_129 : decode cX9_signOf 129 = .ok (.iconst 0, 1) := by decide +kernel
theorem dX9_signOf_130 : decode cX9_signOf 130 = .ok (.ior, 1) := by decide +kernel
theorem dX9_signOf_131 : decode cX9_signOf 131 = .ok (.istore_n 3, 1) := by decide +kernel
theorem dX9_signOf_132 : decode cX9_signOf 132 = .ok (.iinc 4 1, 3) := by decide +kernel
theorem dX9_signOf_135 : decode cX9_signOf 135 = .ok (.goto (-41), 3) := by decide +kernel
theorem dX9_signOf_138 : decode cX9_signOf 138 = .ok (.iload_n 3, 1) := by decide +kernel
theorem dX9_signOf_139 : decode cX9_signOf 139 = .ok (.invokestatic 148, 3) := by decide +kernel
theorem dX9_signOf_142 : decode cX9_signOf 142 = .ok (.ireturn, 1) := by decide +kernel
theorem dX9_signOf_143 : decode cX9_signOf 143 = .ok (.iload_n 1, 1) := by decide +kernel
theorem dX9_signOf_144 : decode cX9_signOf 144 = .ok (.ireturn, 1) := by decide +kernel
theorem dX9_sign_0 : decode cX9_sign 0 = .ok (.aload_n 0, 1) := by decide +kernel
theorem dX9_sign_1 : decode cX9_sign 1 = .ok (.iload_n 1, 1) := by decide +kernel
theorem dX9_sign_2 : decode cX9_sign 2 = .ok (.invokevirtual 73, 3) := by decide +kernel
theorem dX9_sign_5 : decode cX9_sign 5 = .ok (.ifCond .eq 24, 3) := by decide +kernel
theorem dX9_sign_8 : decode cX9_sign 8 = .ok (.iload_n 2, 1) := by decide +kernel
theorem dX9_sign_9 : decode cX9_sign 9 = .ok (.i2l, 1) := by decide +kernel
theorem dX9_sign_10 : decode cX9_sign 10 = .ok (.lconst 0, 1) := by decide +kernel
theorem dX9_sign_11 : decode cX9_sign 11 = .ok (.ldc2_w 154, 3) := by decide +kernel
theorem dX9_sign_14 : decode cX9_sign 14 = .ok (.invokestatic 48, 3) := by decide +kernel
theorem dX9_sign_17 : decode cX9_sign 17 = .ok (.ifCond .eq 12, 3) := by decide +kernel
theorem dX9_sign_20 : decode cX9_sign 20 = .ok (.aload_n 0, 1) := by decide +kernel
theorem dX9_sign_21 : decode cX9_sign 21 = .ok (.iload_n 1, 1) := by decide +kernel
theorem dX9_sign_22 : decode cX9_sign 22 = .ok (.iload_n 2, 1) := by decide +kernel
theorem dX9_sign_23 : decode cX9_sign 23 = .ok (.invokevirtual 156, 3) := by decide +kernel
theorem dX9_sign_26 : decode cX9_sign 26 = .ok (.goto 9, 3) := by decide +kernel
theorem dX9_sign_29 : decode cX9_sign 29 = .ok (.aload_n 0, 1) := by decide +kernel
theorem dX9_sign_30 : decode cX9_sign 30 = .ok (.ldc 47, 2) := by decide +kernel
theorem dX9_sign_32 : decode cX9_sign 32 = .ok (.invokevirtual 64, 3) := by decide +kernel
theorem dX9_sign_35 : decode cX9_sign 35 = .ok (.ireturn, 1) := by decide +kernel
theorem dX9_hours_0 : decode cX9_hours 0 = .ok (.aload_n 0, 1) := by decide +kernel
theorem dX9_hours_1 : decode cX9_hours 1 = .ok (.iload_n 1, 1) := by decide +kernel
theorem dX9_hours_2 : decode cX9_hours 2 = .ok (.invokevirtual 73, 3) := by decide +kernel
theorem dX9_hours_5 : decode cX9_hours 5 = .ok (.ifCond .eq 11, 3) := by decide +kernel
theorem dX9_hours_8 : decode cX9_hours 8 = .ok (.aload_n 0, 1) := by decide +kernel
theorem dX9_hours_9 : decode cX9_hours 9 = .ok (.iload_n 1, 1) := by decide +kernel
theorem dX9_hours_10 : decode cX9_hours 10 = .ok (.invokevirtual 145, 3) := by decide +kernel
theorem dX9_hours_13 : decode cX9_hours 13 = .ok (.goto 9, 3) := by decide +kernel
theorem dX9_hours_16 : decode cX9_hours 16 = .ok (.aload_n 0, 1) := by decide +kernel
theorem dX9_hours_17 : decode cX9_hours 17 = .ok (.ldc 47, 2) := by decide +kernel
theorem dX9_hours_19 : decode cX9_hours 19 = .ok (.invokevirtual 64, 3) := by decide +kernel
theorem dX9_hours_22 : decode cX9_hours 22 = .ok (.ireturn, 1) := by decide +kernel
theorem dX9_feed_0 : decode cX9_feed 0 = .ok (.iload_n 2, 1) := by decide +kernel
theorem dX9_feed_1 : decode cX9_feed 1 = .ok (.i2l, 1) := by decide +kernel
theorem dX9_feed_2 : decode cX9_feed 2 = .ok (.lconst 1, 1) := by decide +kernel
theorem dX9_feed_3 : decode cX9_feed 3 = .ok (.ldc2_w 159, 3) := by decide +kernel
theorem dX9_feed_6 : decode cX9_feed 6 = .ok (.invokestatic 48, 3) := by decide +kernel
theorem dX9_feed_9 : decode cX9_feed 9 = .ok (.ifCond .ne 10, 3) := by decide +kernel
theorem dX9_feed_12 : decode cX9_feed 12 = .ok (.aload_n 0, 1) := by decide +kernel
theorem dX9_feed_13 : decode cX9_feed 13 = .ok (.ldc 47, 2) := by decide +kernel
theorem dX9_feed_15 : decode cX9_feed 15 = .ok (.invokevirtual 64, 3) := by decide +kernel
theorem dX9_feed_18 : decode cX9_feed 18 = .ok (.ireturn, 1) := by decide +kernel
theorem dX9_feed_19 : decode cX9_feed 19 = .ok (.aload_n 0, 1) := by decide +kernel
theorem dX9_feed_20 : decode cX9_feed 20 = .ok (.getfield 161, 3) := by decide +kernel
theorem dX9_feed_23 : decode cX9_feed 23 = .ok (.iload_n 2, 1) := by decide +kernel
theorem dX9_feed_24 : decode cX9_feed 24 = .ok (.iadd, 1) := by decide +kernel
theorem dX9_feed_25 : decode cX9_feed 25 = .ok (.bipush 80, 2) := by decide +kernel
theorem dX9_feed_27 : decode cX9_feed 27 = .ok (.if_icmp .le 10, 3) := by decide +kernel
theorem dX9_feed_30 : decode cX9_feed 30 = .ok (.aload_n 0, 1) := by decide +kernel
theorem dX9_feed_31 : decode cX9_feed 31 = .ok (.ldc 68, 2) := by decide +kernel
theorem dX9_feed_33 : decode cX9_feed 33 = .ok (.invokevirtual 64, 3) := by decide +kernel
theorem dX9_feed_36 : decode cX9_feed 36 = .ok (.ireturn, 1) := by decide +kernel
theorem dX9_feed_37 : decode cX9_feed 37 = .ok (.iload_n 2, 1) := by decide +kernel
theorem dX9_feed_38 : decode cX9_feed 38 = .ok (.iconst 1, 1) := by decide +kernel
theorem dX9_feed_39 : decode cX9_feed 39 = .ok (.isub, 1) := by decide +kernel
theorem dX9_feed_40 : decode cX9_feed 40 = .ok (.istore_n 3, 1) := by decide +kernel
theorem dX9_feed_41 : decode cX9_feed 41 = .ok (.iload_n 3, 1) := by decide +kernel
theorem dX9_feed_42 : decode cX9_feed 42 = .ok (.ifCond .lt 38, 3) := by decide +kernel
theorem dX9_feed_45 : decode cX9_feed 45 = .ok (.aload_n 0, 1) := by decide +kernel
theorem dX9_feed_46 : decode cX9_feed 46 = .ok (.getfield 23, 3) := by decide +kernel
theorem dX9_feed_49 : decode cX9_feed 49 = .ok (.aload_n 0, 1) := by decide +kernel
theorem dX9_feed_50 : decode cX9_feed 50 = .ok (.getfield 161, 3) := by decide +kernel
theorem dX9_feed_53 : decode cX9_feed 53 = .ok (.iload_n 1, 1) := by decide +kernel
theorem dX9_feed_54 : decode cX9_feed 54 = .ok (.bipush 8, 2) := by decide +kernel
theorem dX9_feed_56 : decode cX9_feed 56 = .ok (.iload_n 3, 1) := by decide +kernel
theorem dX9_feed_57 : decode cX9_feed 57 = .ok (.imul, 1) := by decide +kernel
theorem dX9_feed_58 : decode cX9_feed 58 = .ok (.ishr, 1) := by decide +kernel
theorem dX9_feed_59 : decode cX9_feed 59 = .ok (.sipush 255, 3) := by decide +kernel
theorem dX9_feed_62 : decode cX9_feed 62 = .ok (.iand, 1) := by decide +kernel
theorem dX9_feed_63 : decode cX9_feed 63 = .ok (.iastore, 1) := by decide +kernel
theorem dX9_feed_64 : decode cX9_feed 64 = .ok (.aload_n 0, 1) := by decide +kernel
theorem dX9_feed_65 : decode cX9_feed 65 = .ok (.dup, 1) := by decide +kernel
theorem dX9_feed_66 : decode cX9_feed 66 = .ok (.getfield 161, 3) := by decide +kernel
theorem dX9_feed_69 : decode cX9_feed 69 = .ok (.iconst 1, 1) := by decide +kernel
theorem dX9_feed_70 : decode cX9_feed 70 = .ok (.iadd, 1) := by decide +kernel
theorem dX9_feed_71 : decode cX9_feed 71 = .ok (.putfield 161, 3) := by decide +kernel
theorem dX9_feed_74 : decode cX9_feed 74 = .ok (.iinc 3 (-1), 3) := by decide +kernel
theorem dX9_feed_77 : decode cX9_feed 77 = .ok (.goto (-36), 3) := by decide +kernel
theorem dX9_feed_80 : decode cX9_feed 80 = .ok (.aload_n 0, 1) := by decide +kernel
theorem dX9_feed_81 : decode cX9_feed 81 = .ok (.getfield 161, 3) := by decide +kernel
theorem dX9_feed_84 : decode cX9_feed 84 = .ok (.ireturn, 1) := by decide +kernel
theorem dX9_wipe_0 : decode cX9_wipe 0 = .ok (.aload_n 0, 1) := by decide +kernel
theorem dX9_wipe_1 : decode cX9_wipe 1 = .ok (.getfield 161, 3) := by decide +kernel
theorem dX9_wipe_4 : decode cX9_wipe 4 = .ok (.istore_n 1, 1) := by decide +kernel
theorem dX9_wipe_5 : decode cX9_wipe 5 = .ok (.aload_n 0, 1) := by decide +kernel
theorem dX9_wipe_6 : decode cX9_wipe 6 = .ok (.iconst 0, 1) := by decide +kernel
theorem dX9_wipe_7 : decode cX9_wipe 7 = .ok (.putfield 161, 3) := by decide +kernel
theorem dX9_wipe_10 : decode cX9_wipe 10 = .ok (.iload_n 1, 1) := by decide +kernel
theorem dX9_wipe_11 : decode cX9_wipe 11 = .ok (.ireturn, 1) := by decide +kernel
theorem dX9_isDigit_0 : decode cX9_isDigit 0 = .ok (.iload_n 0, 1) := by decide +kernel
theorem dX9_isDigit_1 : decode cX9_isDigit 1 = .ok (.i2l, 1) := by decide +kernel
theorem dX9_isDigit_2 : decode cX9_isDigit 2 = .ok (.ldc2_w 165, 3) := by decide +kernel
theorem dX9_isDigit_5 : decode cX9_isDigit 5 = .ok (.ldc2_w 167, 3) := by decide +kernel
theorem dX9_isDigit_8 : decode cX9_isDigit 8 = .ok (.invokestatic 48, 3) := by decide +kernel
theorem dX9_isDigit_11 : decode cX9_isDigit 11 = .ok (.ireturn, 1) := by decide +kernel
theorem dX9_letterOf_0 : decode cX9_letterOf 0 = .ok (.iload_n 0, 1) := by decide +kernel
theorem dX9_letterOf_1 : decode cX9_letterOf 1 = .ok (.tableswitch 105 102 119 #[95, 89, 93, 105, 105, 105, 91, 105, 102, 105, 105, 97, 105, 105, 99, 105, 105, 87], 87) := by decide +kernel
theorem dX9_letterOf_88 : decode cX9_letterOf 88 = .ok (.iconst 0, 1) := by decide +kernel
theorem dX9_letterOf_89 : decode cX9_letterOf 89 = .ok (.ireturn, 1) := by decide +kernel
theorem dX9_letterOf_90 : decode cX9_letterOf 90 = .ok (.iconst 1, 1) := by decide +kernel
theorem dX9_letterOf_91 : decode cX9_letterOf 91 = .ok (.ireturn, 1) := by decide +kernel
theorem dX9_letterOf_92 : decode cX9_letterOf 92 = .ok (.iconst 2, 1) := by decide +kernel
theorem dX9_letterOf_93 : decode cX9_letterOf 93 = .ok (.ireturn, 1) := by decide +kernel
theorem dX9_letterOf_94 : decode cX9_letterOf 94 = .ok (.iconst 3, 1) := by decide +kernel
theorem dX9_letterOf_95 : decode cX9_letterOf 95 = .ok (.ireturn, 1) := by decide +kernel
theorem dX9_letterOf_96 : decode cX9_letterOf 96 = .ok (.iconst 4, 1) := by decide +kernel
theorem dX9_letterOf_97 : decode cX9_letterOf 97 = .ok (.ireturn, 1) := by decide +kernel
theorem dX9_letterOf_98 : decode cX9_letterOf 98 = .ok (.iconst 5, 1) := by decide +kernel
theorem dX9_letterOf_99 : decode cX9_letterOf 99 = .ok (.ireturn, 1) := by decide +kernel
theorem dX9_letterOf_100 : decode cX9_letterOf 100 = .ok (.bipush 6, 2) := by decide +kernel
theorem dX9_letterOf_102 : decode cX9_letterOf 102 = .ok (.ireturn, 1) := by decide +kernel
theorem dX9_letterOf_103 : decode cX9_letterOf 103 = .ok (.bipush 7, 2) := by decide +kernel
theorem dX9_letterOf_105 : decode cX9_letterOf 105 = .ok (.ireturn, 1) := by decide +kernel
theorem dX9_letterOf_106 : decode cX9_letterOf 106 = .ok (.iconst (-1), 1) := by decide +kernel
theorem dX9_letterOf_107 : decode cX9_letterOf 107 = .ok (.ireturn, 1) := by decide +kernel
theorem dX9_next__0 : decode cX9_next_ 0 = .ok (.aload_n 0, 1) := by decide +kernel
theorem dX9_next__1 : decode cX9_next_ 1 = .ok (.aload_n 0, 1) := by decide +kernel
theorem dX9_next__2 : decode cX9_next_ 2 = .ok (.getfield 169, 3) := by decide +kernel
theorem dX9_next__5 : decode cX9_next_ 5 = .ok (.putfield 172, 3) := by decide +kernel
theorem dX9_next__8 : decode cX9_next_ 8 = .ok (.aload_n 0, 1) := by decide +kernel
theorem dX9_next__9 : decode cX9_next_ 9 = .ok (.getfield 172, 3) := by decide +kernel
theorem dX9_next__12 : decode cX9_next_ 12 = .ok (.aload_n 0, 1) := by decide +kernel
theorem dX9_next__13 : decode cX9_next_ 13 = .ok (.getfield 161, 3) := by decide +kernel
theorem dX9_next__16 : decode cX9_next_ 16 = .ok (.if_icmp .ge 30, 3) := by decide +kernel
theorem dX9_next__19 : decode cX9_next_ 19 = .ok (.aload_n 0, 1) := by decide +kernel
theorem dX9_next__20 : decode cX9_next_ 20 = .ok (.getfield 23, 3) := by decide +kernel
theorem dX9_next__23 : decode cX9_next_ 23 = .ok (.aload_n 0, 1) := by decide +kernel
theorem dX9_next__24 : decode cX9_next_ 24 = .ok (.getfield 172, 3) := by decide +kernel
theorem dX9_next__27 : decode cX9_next_ 27 = .ok (.iaload, 1) := by decide +kernel
theorem dX9_next__28 : decode cX9_next_ 28 = .ok (.bipush 32, 2) := by decide +kernel
theorem dX9_next__30 : decode cX9_next_ 30 = .ok (.if_icmp .ne 16, 3) := by decide +kernel
theorem dX9_next__33 : decode cX9_next_ 33 = .ok (.aload_n 0, 1) := by decide +kernel
theorem dX9_next__34 : decode cX9_next_ 34 = .ok (.dup, 1) := by decide +kernel
theorem dX9_next__35 : decode cX9_next_ 35 = .ok (.getfield 172, 3) := by decide +kernel
theorem dX9_next__38 : decode cX9_next_ 38 = .ok (.iconst 1, 1) := by decide +kernel
theorem dX9_next__39 : decode cX9_next_ 39 = .ok (.iadd, 1) := by decide +kernel
theorem dX9_next__40 : decode cX9_next_ 40 = .ok (.putfield 172, 3) := by decide +kernel
theorem dX9_next__43 : decode cX9_next_ 43 = .ok (.goto (-35), 3) := by decide +kernel
theorem dX9_next__46 : decode cX9_next_ 46 = .ok (.aload_n 0, 1) := by decide +kernel
theorem dX9_next__47 : decode cX9_next_ 47 = .ok (.aload_n 0, 1) := by decide +kernel
theorem dX9_next__48 : decode cX9_next_ 48 = .ok (.getfield 172, 3) := by decide +kernel
theorem dX9_next__51 : decode cX9_next_ 51 = .ok (.putfield 169, 3) := by decide +kernel
theorem dX9_next__54 : decode cX9_next_ 54 = .ok (.aload_n 0, 1) := by decide +kernel
theorem dX9_next__55 : decode cX9_next_ 55 = .ok (.iconst 0, 1) := by decide +kernel
theorem dX9_next__56 : decode cX9_next_ 56 = .ok (.putfield 175, 3) := by decide +kernel
theorem dX9_next__59 : decode cX9_next_ 59 = .ok (.aload_n 0, 1) := by decide +kernel
theorem dX9_next__60 : decode cX9_next_ 60 = .ok (.iconst (-1), 1) := by decide +kernel
theorem dX9_next__61 : decode cX9_next_ 61 = .ok (.putfield 178, 3) := by decide +kernel
theorem dX9_next__64 : decode cX9_next_ 64 = .ok (.aload_n 0, 1) := by decide +kernel
theorem dX9_next__65 : decode cX9_next_ 65 = .ok (.getfield 172, 3) := by decide +kernel
theorem dX9_next__68 : decode cX9_next_ 68 = .ok (.aload_n 0, 1) := by decide +kernel
theorem dX9_next__69 : decode cX9_next_ 69 = .ok (.getfield 161, 3) := by decide +kernel
theorem dX9_next__72 : decode cX9_next_ 72 = .ok (.if_icmp .ne 4, 3) := by decide +kernel
theorem dX9_next__75 : decode cX9_next_ 75 = .ok (.return_, 1) := by decide +kernel
theorem dX9_next__76 : decode cX9_next_ 76 = .ok (.aload_n 0, 1) := by decide +kernel
theorem dX9_next__77 : decode cX9_next_ 77 = .ok (.aload_n 0, 1) := by decide +kernel
theorem dX9_next__78 : decode cX9_next_ 78 = .ok (.getfield 23, 3) := by decide +kernel
theorem dX9_next__81 : decode cX9_next_ 81 = .ok (.aload_n 0, 1) := by decide +kernel
theorem dX9_next__82 : decode cX9_next_ 82 = .ok (.getfield 172, 3) := by decide +kernel
theorem dX9_next__85 : decode cX9_next_ 85 = .ok (.iaload, 1) := by decide +kernel
theorem dX9_next__86 : decode cX9_next_ 86 = .ok (.invokestatic 181, 3) := by decide +kernel
theorem dX9_next__89 : decode cX9_next_ 89 = .ok (.ifCond .eq 8, 3) := by decide +kernel
theorem dX9_next__92 : decode cX9_next_ 92 = .ok (.bipush 48, 2) := by decide +kernel
theorem dX9_next__94 : decode cX9_next_ 94 = .ok (.goto 12, 3) := by decide +kernel
theorem dX9_next__97 : decode cX9_next_ 97 = .ok (.aload_n 0, 1) := by decide +kernel
theorem dX9_next__98 : decode cX9_next_ 98 = .ok (.getfield 23, 3) := by decide +kernel
theorem dX9_next__101 : decode cX9_next_ 101 = .ok (.aload_n 0, 1) := by decide +kernel
theorem dX9_next__102 : decode cX9_next_ 102 = .ok (.getfield 172, 3) := by decide +kernel
theorem dX9_next__105 : decode cX9_next_ 105 = .ok (.iaload, 1) := by decide +kernel
theorem dX9_next__106 : decode cX9_next_ 106 = .ok (.putfield 178, 3) := by decide +kernel
theorem dX9_next__109 : decode cX9_next_ 109 = .ok (.aload_n 0, 1) := by decide +kernel
theorem dX9_next__110 : decode cX9_next_ 110 = .ok (.getfield 178, 3) := by decide +kernel
theorem dX9_next__113 : decode cX9_next_ 113 = .ok (.bipush 48, 2) := by decide +kernel
theorem dX9_next__115 : decode cX9_next_ 115 = .ok (.if_icmp .eq 13, 3) := by decide +kernel
theorem dX9_next__118 : decode cX9_next_ 118 = .ok (.aload_n 0, 1) := by decide +kernel
theorem dX9_next__119 : decode cX9_next_ 119 = .ok (.dup, 1) := by decide +kernel
theorem dX9_next__120 : decode cX9_next_ 120 = .ok (.getfield 169, 3) := by decide +kernel
theorem dX9_next__123 : decode cX9_next_ 123 = .ok (.iconst 1, 1) := by decide +kernel
theorem dX9_next__124 : decode cX9_next_ 124 = .ok (.iadd, 1) := by decide +kernel
theorem dX9_next__125 : decode cX9_next_ 125 = .ok (.putfield 169, 3) := by decide +kernel
theorem dX9_next__128 : decode cX9_next_ 128 = .ok (.aload_n 0, 1) := by decide +kernel
theorem dX9_next__129 : decode cX9_next_ 129 = .ok (.getfield 178, 3) := by decide +kernel
theorem dX9_next__132 : decode cX9_next_ 132 = .ok (.bipush 48, 2) := by decide +kernel
theorem dX9_next__134 : decode cX9_next_ 134 = .ok (.if_icmp .ne 83, 3) := by decide +kernel
theorem dX9_next__137 : decode cX9_next_ 137 = .ok (.aload_n 0, 1) := by decide +kernel
theorem dX9_next__138 : decode cX9_next_ 138 = .ok (.getfield 169, 3) := by decide +kernel
theorem dX9_next__141 : decode cX9_next_ 141 = .ok (.aload_n 0, 1) := by decide +kernel
theorem dX9_next__142 : decode cX9_next_ 142 = .ok (.getfield 161, 3) := by decide +kernel
theorem dX9_next__145 : decode cX9_next_ 145 = .ok (.if_icmp .ge 72, 3) := by decide +kernel
theorem dX9_next__148 : decode cX9_next_ 148 = .ok (.aload_n 0, 1) := by decide +kernel
theorem dX9_next__149 : decode cX9_next_ 149 = .ok (.getfield 23, 3) := by decide +kernel
theorem dX9_next__152 : decode cX9_next_ 152 = .ok (.aload_n 0, 1) := by decide +kernel
theorem dX9_next__153 : decode cX9_next_ 153 = .ok (.getfield 169, 3) := by decide +kernel
theorem dX9_next__156 : decode cX9_next_ 156 = .ok (.iaload, 1) := by decide +kernel
theorem dX9_next__157 : decode cX9_next_ 157 = .ok (.invokestatic 181, 3) := by decide +kernel
theorem dX9_next__160 : decode cX9_next_ 160 = .ok (.ifCond .eq 57, 3) := by decide +kernel
theorem dX9_next__163 : decode cX9_next_ 163 = .ok (.aload_n 0, 1) := by decide +kernel
theorem dX9_next__164 : decode cX9_next_ 164 = .ok (.aload_n 0, 1) := by decide +kernel
theorem dX9_next__165 : decode cX9_next_ 165 = .ok (.getfield 175, 3) := by decide +kernel
theorem dX9_next__168 : decode cX9_next_ 168 = .ok (.sipush 9999, 3) := by decide +kernel
theorem dX9_next__171 : decode cX9_next_ 171 = .ok (.if_icmp .le 10, 3) := by decide +kernel
theorem dX9_next__174 : decode cX9_next_ 174 = .ok (.aload_n 0, 1) := by decide +kernel
theorem dX9_next__175 : decode cX9_next_ 175 = .ok (.getfield 175, 3) := by decide +kernel
theorem dX9_next__178 : decode cX9_next_ 178 = .ok (.goto 23, 3) := by decide +kernel
theorem dX9_next__181 : decode cX9_next_ 181 = .ok (.bipush 10, 2) := by decide +kernel
theorem dX9_next__183 : decode cX9_next_ 183 = .ok (.aload_n 0, 1) := by decide +kernel
theorem dX9_next__184 : decode cX9_next_ 184 = .ok (.getfield 175, 3) := by decide +kernel
theorem dX9_next__187 : decode cX9_next_ 187 = .ok (.imul, 1) := by decide +kernel
theorem dX9_next__188 : decode cX9_next_ 188 = .ok (.aload_n 0, 1) := by decide +kernel
theorem dX9_next__189 : decode cX9_next_ 189 = .ok (.getfield 23, 3) := by decide +kernel
theorem dX9_next__192 : decode cX9_next_ 192 = .ok (.aload_n 0, 1) := by decide +kernel
theorem dX9_next__193 : decode cX9_next_ 193 = .ok (.getfield 169, 3) := by decide +kernel
theorem dX9_next__196 : decode cX9_next_ 196 = .ok (.iaload, 1) := by decide +kernel
theorem dX9_next__197 : decode cX9_next_ 197 = .ok (.iadd, 1) := by decide +kernel
theorem dX9_next__198 : decode cX9_next_ 198 = .ok (.bipush 48, 2) := by decide +kernel
theorem dX9_next__200 : decode cX9_next_ 200 = .ok (.isub, 1) := by decide +kernel
theorem dX9_next__201 : decode cX9_next_ 201 = .ok (.putfield 175, 3) := by decide +kernel
theorem dX9_next__204 : decode cX9_next_ 204 = .ok (.aload_n 0, 1) := by decide +kernel
theorem dX9_next__205 : decode cX9_next_ 205 = .ok (.dup, 1) := by decide +kernel
theorem dX9_next__206 : decode cX9_next_ 206 = .ok (.getfield 169, 3) := by decide +kernel
theorem dX9_next__209 : decode cX9_next_ 209 = .ok (.iconst 1, 1) := by decide +kernel
theorem dX9_next__210 : decode cX9_next_ 210 = .ok (.iadd, 1) := by decide +kernel
theorem dX9_next__211 : decode cX9_next_ 211 = .ok (.putfield 169, 3) := by decide +kernel
theorem dX9_next__214 : decode cX9_next_ 214 = .ok (.goto (-86), 3) := by decide +kernel
theorem dX9_next__217 : decode cX9_next_ 217 = .ok (.return_, 1) := by decide +kernel
theorem dX9_isSign_0 : decode cX9_isSign 0 = .ok (.aload_n 0, 1) := by decide +kernel
theorem dX9_isSign_1 : decode cX9_isSign 1 = .ok (.getfield 184, 3) := by decide +kernel
theorem dX9_isSign_4 : decode cX9_isSign 4 = .ok (.ifCond .ne 21, 3) := by decide +kernel
theorem dX9_isSign_7 : decode cX9_isSign 7 = .ok (.aload_n 0, 1) := by decide +kernel
theorem dX9_isSign_8 : decode cX9_isSign 8 = .ok (.getfield 178, 3) := by decide +kernel
theorem dX9_isSign_11 : decode cX9_isSign 11 = .ok (.iload_n 1, 1) := by decide +kernel
theorem dX9_isSign_12 : decode cX9_isSign 12 = .ok (.if_icmp .ne 13, 3) := by decide +kernel
theorem dX9_isSign_15 : decode cX9_isSign 15 = .ok (.iload_n 1, 1) := by decide +kernel
theorem dX9_isSign_16 : decode cX9_isSign 16 = .ok (.bipush 48, 2) := by decide +kernel
theorem dX9_isSign_18 : decode cX9_isSign 18 = .ok (.if_icmp .eq 7, 3) := by decide +kernel
theorem dX9_isSign_21 : decode cX9_isSign 21 = .ok (.iconst 1, 1) := by decide +kernel
theorem dX9_isSign_22 : decode cX9_isSign 22 = .ok (.goto 4, 3) := by decide +kernel
theorem dX9_isSign_25 : decode cX9_isSign 25 = .ok (.iconst 0, 1) := by decide +kernel
theorem dX9_isSign_26 : decode cX9_isSign 26 = .ok (.ireturn, 1) := by decide +kernel
theorem dX9_puts_0 : decode cX9_puts 0 = .ok (.aload_n 0, 1) := by decide +kernel
theorem dX9_puts_1 : decode cX9_puts 1 = .ok (.getfield 184, 3) := by decide +kernel
theorem dX9_puts_4 : decode cX9_puts 4 = .ok (.ifCond .eq 4, 3) := by decide +kernel
theorem dX9_puts_7 : decode cX9_puts 7 = .ok (.return_, 1) := by decide +kernel
theorem dX9_puts_8 : decode cX9_puts 8 = .ok (.aload_n 0, 1) := by decide +kernel
theorem dX9_puts_9 : decode cX9_puts 9 = .ok (.getfield 26, 3) := by decide +kernel
theorem dX9_puts_12 : decode cX9_puts 12 = .ok (.aload_n 0, 1) := by decide +kernel
theorem dX9_puts_13 : decode cX9_puts 13 = .ok (.getfield 188, 3) := by decide +kernel
theorem dX9_puts_16 : decode cX9_puts 16 = .ok (.iload_n 1, 1) := by decide +kernel
theorem dX9_puts_17 : decode cX9_puts 17 = .ok (.iastore, 1) := by decide +kernel
theorem dX9_puts_18 : decode cX9_puts 18 = .ok (.aload_n 0, 1) := by decide +kernel
theorem dX9_puts_19 : decode cX9_puts 19 = .ok (.dup, 1) := by decide +kernel
theorem dX9_puts_20 : decode cX9_puts 20 = .ok (.getfield 188, 3) := by decide +kernel
theorem dX9_puts_23 : decode cX9_puts 23 = .ok (.iconst 1, 1) := by decide +kernel
theorem dX9_puts_24 : decode cX9_puts 24 = .ok (.iadd, 1) := by decide +kernel
theorem dX9_puts_25 : decode cX9_puts 25 = .ok (.putfield 188, 3) := by decide +kernel
theorem dX9_puts_28 : decode cX9_puts 28 = .ok (.return_, 1) := by decide +kernel
theorem dX9_whole_0 : decode cX9_whole 0 = .ok (.aload_n 0, 1) := by decide +kernel
theorem dX9_whole_1 : decode cX9_whole 1 = .ok (.invokevirtual 191, 3) := by decide +kernel
theorem dX9_whole_4 : decode cX9_whole 4 = .ok (.aload_n 0, 1) := by decide +kernel
theorem dX9_whole_5 : decode cX9_whole 5 = .ok (.bipush 60, 2) := by decide +kernel
theorem dX9_whole_7 : decode cX9_whole 7 = .ok (.invokevirtual 194, 3) := by decide +kernel
theorem dX9_whole_10 : decode cX9_whole 10 = .ok (.ifCond .ne 12, 3) := by decide +kernel
theorem dX9_whole_13 : decode cX9_whole 13 = .ok (.aload_n 0, 1) := by decide +kernel
theorem dX9_whole_14 : decode cX9_whole 14 = .ok (.bipush 61, 2) := by decide +kernel
theorem dX9_whole_16 : decode cX9_whole 16 = .ok (.invokevirtual 194, 3) := by decide +kernel
theorem dX9_whole_19 : decode cX9_whole 19 = .ok (.ifCond .eq 25, 3) := by decide +kernel
theorem dX9_whole_22 : decode cX9_whole 22 = .ok (.aload_n 0, 1) := by decide +kernel
theorem dX9_whole_23 : decode cX9_whole 23 = .ok (.getfield 178, 3) := by decide +kernel
theorem dX9_whole_26 : decode cX9_whole 26 = .ok (.istore_n 1, 1) := by decide +kernel
theorem dX9_whole_27 : decode cX9_whole 27 = .ok (.aload_n 0, 1) := by decide +kernel
theorem dX9_whole_28 : decode cX9_whole 28 = .ok (.invokevirtual 197, 3) := by decide +kernel
theorem dX9_whole_31 : decode cX9_whole 31 = .ok (.aload_n 0, 1) := by decide +kernel
theorem dX9_whole_32 : decode cX9_whole 32 = .ok (.invokevirtual 191, 3) := by decide +kernel
theorem dX9_whole_35 : decode cX9_whole 35 = .ok (.aload_n 0, 1) := by decide +kernel
theorem dX9_whole_36 : decode cX9_whole 36 = .ok (.sipush 20000, 3) := by decide +kernel
theorem dX9_whole_39 : decode cX9_whole 39 = .ok (.iload_n 1, 1) := by decide +kernel
theorem dX9_whole_40 : decode cX9_whole 40 = .ok (.iadd, 1) := by decide +kernel
theorem dX9_whole_41 : decode cX9_whole 41 = .ok (.invokevirtual 200, 3) := by decide +kernel
theorem dX9_whole_44 : decode cX9_whole 44 = .ok (.return_, 1) := by decide +kernel
theorem dX9_sum_0 : decode cX9_sum 0 = .ok (.aload_n 0, 1) := by decide +kernel
theorem dX9_sum_1 : decode cX9_sum 1 = .ok (.invokevirtual 204, 3) := by decide +kernel
theorem dX9_sum_4 : decode cX9_sum 4 = .ok (.aload_n 0, 1) := by decide +kernel
theorem dX9_sum_5 : decode cX9_sum 5 = .ok (.bipush 43, 2) := by decide +kernel
theorem dX9_sum_7 : decode cX9_sum 7 = .ok (.invokevirtual 194, 3) := by decide +kernel
theorem dX9_sum_10 : decode cX9_sum 10 = .ok (.ifCond .ne 12, 3) := by decide +kernel
theorem dX9_sum_13 : decode cX9_sum 13 = .ok (.aload_n 0, 1) := by decide +kernel
theorem dX9_sum_14 : decode cX9_sum 14 = .ok (.bipush 45, 2) := by decide +kernel
theorem dX9_sum_16 : decode cX9_sum 16 = .ok (.invokevirtual 194, 3) := by decide +kernel
theorem dX9_sum_19 : decode cX9_sum 19 = .ok (.ifCond .eq 28, 3) := by decide +kernel
theorem dX9_sum_22 : decode cX9_sum 22 = .ok (.aload_n 0, 1) := by decide +kernel
theorem dX9_sum_23 : decode cX9_sum 23 = .ok (.getfield 178, 3) := by decide +kernel
theorem dX9_sum_26 : decode cX9_sum 26 = .ok (.istore_n 1, 1) := by decide +kernel
theorem dX9_sum_27 : decode cX9_sum 27 = .ok (.aload_n 0, 1) := by decide +kernel
theorem dX9_sum_28 : decode cX9_sum 28 = .ok (.invokevirtual 197, 3) := by decide +kernel
theorem dX9_sum_31 : decode cX9_sum 31 = .ok (.aload_n 0, 1) := by decide +kernel
theorem dX9_sum_32 : decode cX9_sum 32 = .ok (.invokevirtual 204, 3) := by decide +kernel
theorem dX9_sum_35 : decode cX9_sum 35 = .ok (.aload_n 0, 1) := by decide +kernel
theorem dX9_sum_36 : decode cX9_sum 36 = .ok (.sipush 20000, 3) := by decide +kernel
theorem dX9_sum_39 : decode cX9_sum 39 = .ok (.iload_n 1, 1) := by decide +kernel
theorem dX9_sum_40 : decode cX9_sum 40 = .ok (.iadd, 1) := by decide +kernel
theorem dX9_sum_41 : decode cX9_sum 41 = .ok (.invokevirtual 200, 3) := by decide +kernel
theorem dX9_sum_44 : decode cX9_sum 44 = .ok (.goto (-40), 3) := by decide +kernel
theorem dX9_sum_47 : decode cX9_sum 47 = .ok (.return_, 1) := by decide +kernel
theorem dX9_term_0 : decode cX9_term 0 = .ok (.aload_n 0, 1) := by decide +kernel
theorem dX9_term_1 : decode cX9_term 1 = .ok (.invokevirtual 207, 3) := by decide +kernel
theorem dX9_term_4 : decode cX9_term 4 = .ok (.aload_n 0, 1) := by decide +kernel
theorem dX9_term_5 : decode cX9_term 5 = .ok (.bipush 42, 2) := by decide +kernel
theorem dX9_term_7 : decode cX9_term 7 = .ok (.invokevirtual 194, 3) := by decide +kernel
theorem dX9_term_10 : decode cX9_term 10 = .ok (.ifCond .ne 12, 3) := by decide +kernel
theorem dX9_term_13 : decode cX9_term 13 = .ok (.aload_n 0, 1) := by decide +kernel
theorem dX9_term_14 : decode cX9_term 14 = .ok (.bipush 47, 2) := by decide +kernel
theorem dX9_term_16 : decode cX9_term 16 = .ok (.invokevirtual 194, 3) := by decide +kernel
theorem dX9_term_19 : decode cX9_term 19 = .ok (.ifCond .eq 28, 3) := by decide +kernel
theorem dX9_term_22 : decode cX9_term 22 = .ok (.aload_n 0, 1) := by decide +kernel
theorem dX9_term_23 : decode cX9_term 23 = .ok (.getfield 178, 3) := by decide +kernel
theorem dX9_term_26 : decode cX9_term 26 = .ok (.istore_n 1, 1) := by decide +kernel
theorem dX9_term_27 : decode cX9_term 27 = .ok (.aload_n 0, 1) := by decide +kernel
theorem dX9_term_28 : decode cX9_term 28 = .ok (.invokevirtual 197, 3) := by decide +kernel
theorem dX9_term_31 : decode cX9_term 31 = .ok (.aload_n 0, 1) := by decide +kernel
theorem dX9_term_32 : decode cX9_term 32 = .ok (.invokevirtual 207, 3) := by decide +kernel
theorem dX9_term_35 : decode cX9_term 35 = .ok (.aload_n 0, 1) := by decide +kernel
theorem dX9_term_36 : decode cX9_term 36 = .ok (.sipush 20000, 3) := by decide +kernel
theorem dX9_term_39 : decode cX9_term 39 = .ok (.iload_n 1, 1) := by decide +kernel
theorem dX9_term_40 : decode cX9_term 40 = .ok (.iadd, 1) := by decide +kernel
theorem dX9_term_41 : decode cX9_term 41 = .ok (.invokevirtual 200, 3) := by decide +kernel
theorem dX9_term_44 : decode cX9_term 44 = .ok (.goto (-40), 3) := by decide +kernel
theorem dX9_term_47 : decode cX9_term 47 = .ok (.return_, 1) := by decide +kernel
theorem dX9_one_0 : decode cX9_one 0 = .ok (.aload_n 0, 1) := by decide +kernel
theorem dX9_one_1 : decode cX9_one 1 = .ok (.getfield 184, 3) := by decide +kernel
theorem dX9_one_4 : decode cX9_one 4 = .ok (.ifCond .eq 4, 3) := by decide +kernel
theorem dX9_one_7 : decode cX9_one 7 = .ok (.return_, 1) := by decide +kernel
theorem dX9_one_8 : decode cX9_one 8 = .ok (.aload_n 0, 1) := by decide +kernel
theorem dX9_one_9 : decode cX9_one 9 = .ok (.getfield 178, 3) := by decide +kernel
theorem dX9_one_12 : decode cX9_one 12 = .ok (.bipush 48, 2) := by decide +kernel
theorem dX9_one_14 : decode cX9_one 14 = .ok (.if_icmp .ne 44, 3) := by decide +kernel
theorem dX9_one_17 : decode cX9_one 17 = .ok (.aload_n 0, 1) := by decide +kernel
theorem dX9_one_18 : decode cX9_one 18 = .ok (.aload_n 0, 1) := by decide +kernel
theorem dX9_one_19 : decode cX9_one 19 = .ok (.getfield 175, 3) := by decide +kernel
theorem dX9_one_22 : decode cX9_one 22 = .ok (.sipush 9999, 3) := by decide +kernel
theorem dX9_one_25 : decode cX9_one 25 = .ok (.if_icmp .le 7, 3) := by decide +kernel
theorem dX9_one_28 : decode cX9_one 28 = .ok (.iconst 1, 1) := by decide +kernel
theorem dX9_one_29 : decode cX9_one 29 = .ok (.goto 4, 3) := by decide +kernel
theorem dX9_one_32 : decode cX9_one 32 = .ok (.iconst 0, 1) := by decide +kernel
theorem dX9_one_33 : decode cX9_one 33 = .ok (.putfield 184, 3) := by decide +kernel
theorem dX9_one_36 : decode cX9_one 36 = .ok (.aload_n 0, 1) := by decide +kernel
theorem dX9_one_37 : decode cX9_one 37 = .ok (.aload_n 0, 1) := by decide +kernel
theorem dX9_one_38 : decode cX9_one 38 = .ok (.getfield 175, 3) := by decide +kernel
theorem dX9_one_41 : decode cX9_one 41 = .ok (.invokevirtual 200, 3) := by decide +kernel
theorem dX9_one_44 : decode cX9_one 44 = .ok (.aload_n 0, 1) := by decide +kernel
theorem dX9_one_45 : decode cX9_one 45 = .ok (.getfield 184, 3) := by decide +kernel
theorem dX9_one_48 : decode cX9_one 48 = .ok (.ifCond .ne 174, 3) := by decide +kernel
theorem dX9_one_51 : decode cX9_one 51 = .ok (.aload_n 0, 1) := by decide +kernel
theorem dX9_one_52 : decode cX9_one 52 = .ok (.invokevirtual 197, 3) := by decide +kernel
theorem dX9_one_55 : decode cX9_one 55 = .ok (.goto 167, 3) := by decide +kernel
theorem dX9_one_58 : decode cX9_one 58 = .ok (.aload_n 0, 1) := by decide +kernel
theorem dX9_one_59 : decode cX9_one 59 = .ok (.getfield 178, 3) := by decide +kernel
theorem dX9_one_62 : decode cX9_one 62 = .ok (.invokestatic 210, 3) := by decide +kernel
theorem dX9_one_65 : decode cX9_one 65 = .ok (.ifCond .lt 25, 3) := by decide +kernel
theorem dX9_one_68 : decode cX9_one 68 = .ok (.aload_n 0, 1) := by decide +kernel
theorem dX9_one_69 : decode cX9_one 69 = .ok (.sipush 10000, 3) := by decide +kernel
theorem dX9_one_72 : decode cX9_one 72 = .ok (.aload_n 0, 1) := by decide +kernel
theorem dX9_one_73 : decode cX9_one 73 = .ok (.getfield 178, 3) := by decide +kernel
theorem dX9_one_76 : decode cX9_one 76 = .ok (.invokestatic 210, 3) := by decide +kernel
theorem dX9_one_79 : decode cX9_one 79 = .ok (.iadd, 1) := by decide +kernel
theorem dX9_one_80 : decode cX9_one 80 = .ok (.invokevirtual 200, 3) := by decide +kernel
theorem dX9_one_83 : decode cX9_one 83 = .ok (.aload_n 0, 1) := by decide +kernel
theorem dX9_one_84 : decode cX9_one 84 = .ok (.invokevirtual 197, 3) := by decide +kernel
theorem dX9_one_87 : decode cX9_one 87 = .ok (.goto 135, 3) := by decide +kernel
theorem dX9_one_90 : decode cX9_one 90 = .ok (.aload_n 0, 1) := by decide +kernel
theorem dX9_one_91 : decode cX9_one 91 = .ok (.getfield 178, 3) := by decide +kernel
theorem dX9_one_94 : decode cX9_one 94 = .ok (.bipush 45, 2) := by decide +kernel
theorem dX9_one_96 : decode cX9_one 96 = .ok (.if_icmp .eq 12, 3) := by decide +kernel
theorem dX9_one_99 : decode cX9_one 99 = .ok (.aload_n 0, 1) := by decide +kernel
theorem dX9_one_100 : decode cX9_one 100 = .ok (.getfield 178, 3) := by decide +kernel
theorem dX9_one_103 : decode cX9_one 103 = .ok (.bipush 40, 2) := by decide +kernel
theorem dX9_one_105 : decode cX9_one 105 = .ok (.if_icmp .ne 112, 3) := by decide +kernel
theorem dX9_one_108 : decode cX9_one 108 = .ok (.aload_n 0, 1) := by decide +kernel
theorem dX9_one_109 : decode cX9_one 109 = .ok (.getfield 213, 3) := by decide +kernel
theorem dX9_one_112 : decode cX9_one 112 = .ok (.bipush 6, 2) := by decide +kernel
theorem dX9_one_114 : decode cX9_one 114 = .ok (.if_icmp .ge 103, 3) := by decide +kernel
theorem dX9_one_117 : decode cX9_one 117 = .ok (.aload_n 0, 1) := by decide +kernel
theorem dX9_one_118 : decode cX9_one 118 = .ok (.getfield 178, 3) := by decide +kernel
theorem dX9_one_121 : decode cX9_one 121 = .ok (.bipush 45, 2) := by decide +kernel
theorem dX9_one_123 : decode cX9_one 123 = .ok (.if_icmp .ne 7, 3) := by decide +kernel
theorem dX9_one_126 : decode cX9_one 126 = .ok (.iconst 1, 1) := by decide +kernel
theorem dX9_one_127 : decode cX9_one 127 = .ok (.goto 4, 3) := by decide +kernel
theorem dX9_one_130 : decode cX9_one 130 = .ok (.iconst 0, 1) := by decide +kernel
theorem dX9_one_131 : decode cX9_one 131 = .ok (.istore_n 1, 1) := by decide +kernel
theorem dX9_one_132 : decode cX9_one 132 = .ok (.aload_n 0, 1) := by decide +kernel
theorem dX9_one_133 : decode cX9_one 133 = .ok (.dup, 1) := by decide +kernel
theorem dX9_one_134 : decode cX9_one 134 = .ok (.getfield 213, 3) := by decide +kernel
theorem dX9_one_137 : decode cX9_one 137 = .ok (.iconst 1, 1) := by decide +kernel
theorem dX9_one_138 : decode cX9_one 138 = .ok (.iadd, 1) := by decide +kernel
theorem dX9_one_139 : decode cX9_one 139 = .ok (.putfield 213, 3) := by decide +kernel
theorem dX9_one_142 : decode cX9_one 142 = .ok (.aload_n 0, 1) := by decide +kernel
theorem dX9_one_143 : decode cX9_one 143 = .ok (.invokevirtual 197, 3) := by decide +kernel
theorem dX9_one_146 : decode cX9_one 146 = .ok (.iload_n 1, 1) := by decide +kernel
theorem dX9_one_147 : decode cX9_one 147 = .ok (.ifCond .eq 17, 3) := by decide +kernel
theorem dX9_one_150 : decode cX9_one 150 = .ok (.aload_n 0, 1) := by decide +kernel
theorem dX9_one_151 : decode cX9_one 151 = .ok (.invokevirtual 207, 3) := by decide +kernel
theorem dX9_one_154 : decode cX9_one 154 = .ok (.aload_n 0, 1) := by decide +kernel
theorem dX9_one_155 : decode cX9_one 155 = .ok (.sipush 20256, 3) := by decide +kernel
theorem dX9_one_158 : decode cX9_one 158 = .ok (.invokevirtual 200, 3) := by decide +kernel
theorem dX9_one_161 : decode cX9_one 161 = .ok (.goto 43, 3) := by decide +kernel
theorem dX9_one_164 : decode cX9_one 164 = .ok (.aload_n 0, 1) := by decide +kernel
theorem dX9_one_165 : decode cX9_one 165 = .ok (.invokevirtual 216, 3) := by decide +kernel
theorem dX9_one_168 : decode cX9_one 168 = .ok (.aload_n 0, 1) := by decide +kernel
theorem dX9_one_169 : decode cX9_one 169 = .ok (.aload_n 0, 1) := by decide +kernel
theorem dX9_one_170 : decode cX9_one 170 = .ok (.getfield 184, 3) := by decide +kernel
theorem dX9_one_173 : decode cX9_one 173 = .ok (.ifCond .ne 12, 3) := by decide +kernel
theorem dX9_one_176 : decode cX9_one 176 = .ok (.aload_n 0, 1) := by decide +kernel
theorem dX9_one_177 : decode cX9_one 177 = .ok (.getfield 178, 3) := by decide +kernel
theorem dX9_one_180 : decode cX9_one 180 = .ok (.bipush 41, 2) := by decide +kernel
theorem dX9_one_182 : decode cX9_one 182 = .ok (.if_icmp .eq 7, 3) := by decide +kernel
theorem dX9_one_185 : decode cX9_one 185 = .ok (.iconst 1, 1) := by decide +kernel
theorem dX9_one_186 : decode cX9_one 186 = .ok (.goto 4, 3) := by decide +kernel
theorem dX9_one_189 : decode cX9_one 189 = .ok (.iconst 0, 1) := by decide +kernel
theorem dX9_one_190 : decode cX9_one 190 = .ok (.putfield 184, 3) := by decide +kernel
theorem dX9_one_193 : decode cX9_one 193 = .ok (.aload_n 0, 1) := by decide +kernel
theorem dX9_one_194 : decode cX9_one 194 = .ok (.getfield 184, 3) := by decide +kernel
theorem dX9_one_197 : decode cX9_one 197 = .ok (.ifCond .ne 7, 3) := by decide +kernel
theorem dX9_one_200 : decode cX9_one 200 = .ok (.aload_n 0, 1) := by decide +kernel
theorem dX9_one_201 : decode cX9_one 201 = .ok (.invokevirtual 197, 3) := by decide +kernel
theorem dX9_one_204 : decode cX9_one 204 = .ok (.aload_n 0, 1) := by decide +kernel
theorem dX9_one_205 : decode cX9_one 205 = .ok (.dup, 1) := by decide +kernel
theorem dX9_one_206 : decode cX9_one 206 = .ok (.getfield 213, 3) := by decide +kernel
theorem dX9_one_209 : decode cX9_one 209 = .ok (.iconst 1, 1) := by decide +kernel
theorem dX9_one_210 : decode cX9_one 210 = .ok (.isub, 1) := by decide +kernel
theorem dX9_one_211 : decode cX9_one 211 = .ok (.putfield 213, 3) := by decide +kernel
theorem dX9_one_214 : decode cX9_one 214 = .ok (.goto 8, 3) := by decide +kernel
theorem dX9_one_217 : decode cX9_one 217 = .ok (.aload_n 0, 1) := by decide +kernel
theorem dX9_one_218 : decode cX9_one 218 = .ok (.iconst 1, 1) := by decide +kernel
theorem dX9_one_219 : decode cX9_one 219 = .ok (.putfield 184, 3) := by decide +kernel
theorem dX9_one_222 : decode cX9_one 222 = .ok (.return_, 1) := by decide +kernel
theorem dX9_text_0 : decode cX9_text 0 = .ok (.aload_n 0, 1) := by decide +kernel
theorem dX9_text_1 : decode cX9_text 1 = .ok (.getfield 9, 3) := by decide +kernel
theorem dX9_text_4 : decode cX9_text 4 = .ok (.iconst 4, 1) := by decide +kernel
theorem dX9_text_5 : decode cX9_text 5 = .ok (.iaload, 1) := by decide +kernel
theorem dX9_text_6 : decode cX9_text 6 = .ok (.bipush 6, 2) := by decide +kernel
theorem dX9_text_8 : decode cX9_text 8 = .ok (.if_icmp .ne 10, 3) := by decide +kernel
theorem dX9_text_11 : decode cX9_text 11 = .ok (.aload_n 0, 1) := by decide +kernel
theorem dX9_text_12 : decode cX9_text 12 = .ok (.ldc 68, 2) := by decide +kernel
theorem dX9_text_14 : decode cX9_text 14 = .ok (.invokevirtual 64, 3) := by decide +kernel
theorem dX9_text_17 : decode cX9_text 17 = .ok (.ireturn, 1) := by decide +kernel
theorem dX9_text_18 : decode cX9_text 18 = .ok (.aload_n 0, 1) := by decide +kernel
theorem dX9_text_19 : decode cX9_text 19 = .ok (.iconst 0, 1) := by decide +kernel
theorem dX9_text_20 : decode cX9_text 20 = .ok (.putfield 169, 3) := by decide +kernel
theorem dX9_text_23 : decode cX9_text 23 = .ok (.aload_n 0, 1) := by decide +kernel
theorem dX9_text_24 : decode cX9_text 24 = .ok (.iconst 0, 1) := by decide +kernel
theorem dX9_text_25 : decode cX9_text 25 = .ok (.putfield 188, 3) := by decide +kernel
theorem dX9_text_28 : decode cX9_text 28 = .ok (.aload_n 0, 1) := by decide +kernel
theorem dX9_text_29 : decode cX9_text 29 = .ok (.iconst 0, 1) := by decide +kernel
theorem dX9_text_30 : decode cX9_text 30 = .ok (.putfield 213, 3) := by decide +kernel
theorem dX9_text_33 : decode cX9_text 33 = .ok (.aload_n 0, 1) := by decide +kernel
theorem dX9_text_34 : decode cX9_text 34 = .ok (.iconst 0, 1) := by decide +kernel
theorem dX9_text_35 : decode cX9_text 35 = .ok (.putfield 184, 3) := by decide +kernel
theorem dX9_text_38 : decode cX9_text 38 = .ok (.aload_n 0, 1) := by decide +kernel
theorem dX9_text_39 : decode cX9_text 39 = .ok (.invokevirtual 197, 3) := by decide +kernel
theorem dX9_text_42 : decode cX9_text 42 = .ok (.aload_n 0, 1) := by decide +kernel
theorem dX9_text_43 : decode cX9_text 43 = .ok (.invokevirtual 216, 3) := by decide +kernel
theorem dX9_text_46 : decode cX9_text 46 = .ok (.aload_n 0, 1) := by decide +kernel
theorem dX9_text_47 : decode cX9_text 47 = .ok (.aload_n 0, 1) := by decide +kernel
theorem dX9_text_48 : decode cX9_text 48 = .ok (.getfield 184, 3) := by decide +kernel
theorem dX9_text_51 : decode cX9_text 51 = .ok (.ifCond .ne 11, 3) := by decide +kernel
theorem dX9_text_54 : decode cX9_text 54 = .ok (.aload_n 0, 1) := by decide +kernel
theorem dX9_text_55 : decode cX9_text 55 = .ok (.getfield 178, 3) := by decide +kernel
theorem dX9_text_58 : decode cX9_text 58 = .ok (.iconst (-1), 1) := by decide +kernel
theorem dX9_text_59 : decode cX9_text 59 = .ok (.if_icmp .eq 7, 3) := by decide +kernel
theorem dX9_text_62 : decode cX9_text 62 = .ok (.iconst 1, 1) := by decide +kernel
theorem dX9_text_63 : decode cX9_text 63 = .ok (.goto 4, 3) := by decide +kernel
theorem dX9_text_66 : decode cX9_text 66 = .ok (.iconst 0, 1) := by decide +kernel
theorem dX9_text_67 : decode cX9_text 67 = .ok (.putfield 184, 3) := by decide +kernel
theorem dX9_text_70 : decode cX9_text 70 = .ok (.aload_n 0, 1) := by decide +kernel
theorem dX9_text_71 : decode cX9_text 71 = .ok (.getfield 172, 3) := by decide +kernel
theorem dX9_text_74 : decode cX9_text 74 = .ok (.istore_n 1, 1) := by decide +kernel
theorem dX9_text_75 : decode cX9_text 75 = .ok (.aload_n 0, 1) := by decide +kernel
theorem dX9_text_76 : decode cX9_text 76 = .ok (.iconst 0, 1) := by decide +kernel
theorem dX9_text_77 : decode cX9_text 77 = .ok (.putfield 161, 3) := by decide +kernel
theorem dX9_text_80 : decode cX9_text 80 = .ok (.aload_n 0, 1) := by decide +kernel
theorem dX9_text_81 : decode cX9_text 81 = .ok (.getfield 184, 3) := by decide +kernel
theorem dX9_text_84 : decode cX9_text 84 = .ok (.ifCond .eq 7, 3) := by decide +kernel
theorem dX9_text_87 : decode cX9_text 87 = .ok (.iconst (-1), 1) := by decide +kernel
theorem dX9_text_88 : decode cX9_text 88 = .ok (.iload_n 1, 1) := by decide +kernel
theorem dX9_text_89 : decode cX9_text 89 = .ok (.isub, 1) := by decide +kernel
theorem dX9_text_90 : decode cX9_text 90 = .ok (.ireturn, 1) := by decide +kernel
theorem dX9_text_91 : decode cX9_text 91 = .ok (.sipush 718, 3) := by decide +kernel
theorem dX9_text_94 : decode cX9_text 94 = .ok (.bipush 81, 2) := by decide +kernel
theorem dX9_text_96 : decode cX9_text 96 = .ok (.aload_n 0, 1) := by decide +kernel
theorem dX9_text_97 : decode cX9_text 97 = .ok (.getfield 9, 3) := by decide +kernel
theorem dX9_text_100 : decode cX9_text 100 = .ok (.iconst 4, 1) := by decide +kernel
theorem dX9_text_101 : decode cX9_text 101 = .ok (.iaload, 1) := by decide +kernel
theorem dX9_text_102 : decode cX9_text 102 = .ok (.imul, 1) := by decide +kernel
theorem dX9_text_103 : decode cX9_text 103 = .ok (.iadd, 1) := by decide +kernel
theorem dX9_text_104 : decode cX9_text 104 = .ok (.istore_n 2, 1) := by decide +kernel
theorem dX9_text_105 : decode cX9_text 105 = .ok (.aload_n 0, 1) := by decide +kernel
theorem dX9_text_106 : decode cX9_text 106 = .ok (.getfield 9, 3) := by decide +kernel
theorem dX9_text_109 : decode cX9_text 109 = .ok (.iload_n 2, 1) := by decide +kernel
theorem dX9_text_110 : decode cX9_text 110 = .ok (.aload_n 0, 1) := by decide +kernel
theorem dX9_text_111 : decode cX9_text 111 = .ok (.getfield 188, 3) := by decide +kernel
theorem dX9_text_114 : decode cX9_text 114 = .ok (.iastore, 1) := by decide +kernel
theorem dX9_text_115 : decode cX9_text 115 = .ok (.iconst 0, 1) := by decide +kernel
theorem dX9_text_116 : decode cX9_text 116 = .ok (.istore_n 3, 1) := by decide +kernel
theorem dX9_text_117 : decode cX9_text 117 = .ok (.iload_n 3, 1) := by decide +kernel
theorem dX9_text_118 : decode cX9_text 118 = .ok (.aload_n 0, 1) := by decide +kernel
theorem dX9_text_119 : decode cX9_text 119 = .ok (.getfield 188, 3) := by decide +kernel
theorem dX9_text_122 : decode cX9_text 122 = .ok (.if_icmp .ge 25, 3) := by decide +kernel
theorem dX9_text_125 : decode cX9_text 125 = .ok (.aload_n 0, 1) := by decide +kernel
theorem dX9_text_126 : decode cX9_text 126 = .ok (.getfield 9, 3) := by decide +kernel
theorem dX9_text_129 : decode cX9_text 129 = .ok (.iload_n 2, 1) := by decide +kernel
theorem dX9_text_130 : decode cX9_text 130 = .ok (.iconst 1, 1) := by decide +kernel
theorem dX9_text_131 : decode cX9_text 131 = .ok (.iadd, 1) := by decide +kernel
theorem dX9_text_132 : decode cX9_text 132 = .ok (.iload_n 3, 1) := by decide +kernel
theorem dX9_text_133 : decode cX9_text 133 = .ok (.iadd, 1) := by decide +kernel
theorem dX9_text_134 : decode cX9_text 134 = .ok (.aload_n 0, 1) := by decide +kernel
theorem dX9_text_135 : decode cX9_text 135 = .ok (.getfield 26, 3) := by decide +kernel
theorem dX9_text_138 : decode cX9_text 138 = .ok (.iload_n 3, 1) := by decide +kernel
theorem dX9_text_139 : decode cX9_text 139 = .ok (.iaload, 1) := by decide +kernel
theorem dX9_text_140 : decode cX9_text 140 = .ok (.iastore, 1) := by decide +kernel
theorem dX9_text_141 : decode cX9_text 141 = .ok (.iinc 3 1, 3) := by decide +kernel
theorem dX9_text_144 : decode cX9_text 144 = .ok (.goto (-27), 3) := by decide +kernel
theorem dX9_text_147 : decode cX9_text 147 = .ok (.aload_n 0, 1) := by decide +kernel
theorem dX9_text_148 : decode cX9_text 148 = .ok (.getfield 9, 3) := by decide +kernel
theorem dX9_text_151 : decode cX9_text 151 = .ok (.iconst 4, 1) := by decide +kernel
theorem dX9_text_152 : decode cX9_text 152 = .ok (.dup2, 1) := by decide +kernel
theorem dX9_text_153 : decode cX9_text 153 = .ok (.iaload, 1) := by decide +kernel
theorem dX9_text_154 : decode cX9_text 154 = .ok (.iconst 1, 1) := by decide +kernel
theorem dX9_text_155 : decode cX9_text 155 = .ok (.iadd, 1) := by decide +kernel
theorem dX9_text_156 : decode cX9_text 156 = .ok (.iastore, 1) := by decide +kernel
theorem dX9_text_157 : decode cX9_text 157 = .ok (.aload_n 0, 1) := by decide +kernel
theorem dX9_text_158 : decode cX9_text 158 = .ok (.getfield 9, 3) := by decide +kernel
theorem dX9_text_161 : decode cX9_text 161 = .ok (.iconst 4, 1) := by decide +kernel
theorem dX9_text_162 : decode cX9_text 162 = .ok (.iaload, 1) := by decide +kernel
theorem dX9_text_163 : decode cX9_text 163 = .ok (.iconst 1, 1) := by decide +kernel
theorem dX9_text_164 : decode cX9_text 164 = .ok (.isub, 1) := by decide +kernel
theorem dX9_text_165 : decode cX9_text 165 = .ok (.ireturn, 1) := by decide +kernel
theorem dX9_joined_0 : decode cX9_joined 0 = .ok (.iload_n 0, 1) := by decide +kernel
theorem dX9_joined_1 : decode cX9_joined 1 = .ok (.lookupswitch 85 #[(42, 81), (43, 73), (45, 77), (60, 51), (61, 62)], 51) := by decide +kernel
theorem dX9_joined_52 : decode cX9_joined 52 = .ok (.iload_n 1, 1) := by decide +kernel
theorem dX9_joined_53 : decode cX9_joined 53 = .ok (.iload_n 2, 1) := by decide +kernel
theorem dX9_joined_54 : decode cX9_joined 54 = .ok (.if_icmp .ge 7, 3) := by decide +kernel
theorem dX9_joined_57 : decode cX9_joined 57 = .ok (.iconst 1, 1) := by decide +kernel
theorem dX9_joined_58 : decode cX9_joined 58 = .ok (.goto 4, 3) := by decide +kernel
theorem dX9_joined_61 : decode cX9_joined 61 = .ok (.iconst 0, 1) := by decide +kernel
theorem dX9_joined_62 : decode cX9_joined 62 = .ok (.ireturn, 1) := by decide +kernel
theorem dX9_joined_63 : decode cX9_joined 63 = .ok (.iload_n 1, 1) := by decide +kernel
theorem dX9_joined_64 : decode cX9_joined 64 = .ok (.iload_n 2, 1) := by decide +kernel
theorem dX9_joined_65 : decode cX9_joined 65 = .ok (.if_icmp .ne 7, 3) := by decide +kernel
theorem dX9_joined_68 : decode cX9_joined 68 = .ok (.iconst 1, 1) := by decide +kernel
theorem dX9_joined_69 : decode cX9_joined 69 = .ok (.goto 4, 3) := by decide +kernel
theorem dX9_joined_72 : decode cX9_joined 72 = .ok (.iconst 0, 1) := by decide +kernel
theorem dX9_joined_73 : decode cX9_joined 73 = .ok (.ireturn, 1) := by decide +kernel
theorem dX9_joined_74 : decode cX9_joined 74 = .ok (.iload_n 1, 1) := by decide +kernel
theorem dX9_joined_75 : decode cX9_joined 75 = .ok (.iload_n 2, 1) := by decide +kernel
theorem dX9_joined_76 : decode cX9_joined 76 = .ok (.iadd, 1) := by decide +kernel
theorem dX9_joined_77 : decode cX9_joined 77 = .ok (.ireturn, 1) := by decide +kernel
theorem dX9_joined_78 : decode cX9_joined 78 = .ok (.iload_n 1, 1) := by decide +kernel
theorem dX9_joined_79 : decode cX9_joined 79 = .ok (.iload_n 2, 1) := by decide +kernel
theorem dX9_joined_80 : decode cX9_joined 80 = .ok (.isub, 1) := by decide +kernel
theorem dX9_joined_81 : decode cX9_joined 81 = .ok (.ireturn, 1) := by decide +kernel
theorem dX9_joined_82 : decode cX9_joined 82 = .ok (.iload_n 1, 1) := by decide +kernel
theorem dX9_joined_83 : decode cX9_joined 83 = .ok (.iload_n 2, 1) := by decide +kernel
theorem dX9_joined_84 : decode cX9_joined 84 = .ok (.imul, 1) := by decide +kernel
theorem dX9_joined_85 : decode cX9_joined 85 = .ok (.ireturn, 1) := by decide +kernel
theorem dX9_joined_86 : decode cX9_joined 86 = .ok (.iload_n 2, 1) := by decide +kernel
theorem dX9_joined_87 : decode cX9_joined 87 = .ok (.ifCond .ne 7, 3) := by decide +kernel
theorem dX9_joined_90 : decode cX9_joined 90 = .ok (.iconst 0, 1) := by decide +kernel
theorem dX9_joined_91 : decode cX9_joined 91 = .ok (.goto 6, 3) := by decide +kernel
theorem dX9_joined_94 : decode cX9_joined 94 = .ok (.iload_n 1, 1) := by decide +kernel
theorem dX9_joined_95 : decode cX9_joined 95 = .ok (.iload_n 2, 1) := by decide +kernel
theorem dX9_joined_96 : decode cX9_joined 96 = .ok (.idiv, 1) := by decide +kernel
theorem dX9_joined_97 : decode cX9_joined 97 = .ok (.ireturn, 1) := by decide +kernel
theorem dX9_scoreOf_0 : decode cX9_scoreOf 0 = .ok (.sipush 718, 3) := by decide +kernel
theorem dX9_scoreOf_3 : decode cX9_scoreOf 3 = .ok (.bipush 81, 2) := by decide +kernel
theorem dX9_scoreOf_5 : decode cX9_scoreOf 5 = .ok (.iload_n 1, 1) := by decide +kernel
theorem dX9_scoreOf_6 : decode cX9_scoreOf 6 = .ok (.imul, 1) := by decide +kernel
theorem dX9_scoreOf_7 : decode cX9_scoreOf 7 = .ok (.iadd, 1) := by decide +kernel
theorem dX9_scoreOf_8 : decode cX9_scoreOf 8 = .ok (.istore_n 3, 1) := by decide +kernel
theorem dX9_scoreOf_9 : decode cX9_scoreOf 9 = .ok (.iconst 0, 1) := by decide +kernel
theorem dX9_scoreOf_10 : decode cX9_scoreOf 10 = .ok (.istore 4, 2) := by decide +kernel
theorem dX9_scoreOf_12 : decode cX9_scoreOf 12 = .ok (.iconst 1, 1) := by decide +kernel
theorem dX9_scoreOf_13 : decode cX9_scoreOf 13 = .ok (.istore 5, 2) := by decide +kernel
theorem dX9_scoreOf_15 : decode cX9_scoreOf 15 = .ok (.iload 5, 2) := by decide +kernel
theorem dX9_scoreOf_17 : decode cX9_scoreOf 17 = .ok (.aload_n 0, 1) := by decide +kernel
theorem dX9_scoreOf_18 : decode cX9_scoreOf 18 = .ok (.getfield 9, 3) := by decide +kernel
theorem dX9_scoreOf_21 : decode cX9_scoreOf 21 = .ok (.iload_n 3, 1) := by decide +kernel
theorem dX9_scoreOf_22 : decode cX9_scoreOf 22 = .ok (.iaload, 1) := by decide +kernel
theorem dX9_scoreOf_23 : decode cX9_scoreOf 23 = .ok (.if_icmp .gt 132, 3) := by decide +kernel
theorem dX9_scoreOf_26 : decode cX9_scoreOf 26 = .ok (.aload_n 0, 1) := by decide +kernel
theorem dX9_scoreOf_27 : decode cX9_scoreOf 27 = .ok (.getfield 9, 3) := by decide +kernel
theorem dX9_scoreOf_30 : decode cX9_scoreOf 30 = .ok (.iload_n 3, 1) := by decide +kernel
theorem dX9_scoreOf_31 : decode cX9_scoreOf 31 = .ok (.iload 5, 2) := by decide +kernel
theorem dX9_scoreOf_33 : decode cX9_scoreOf 33 = .ok (.iadd, 1) := by decide +kernel
theorem dX9_scoreOf_34 : decode cX9_scoreOf 34 = .ok (.iaload, 1) := by decide +kernel
theorem dX9_scoreOf_35 : decode cX9_scoreOf 35 = .ok (.istore 6, 2) := by decide +kernel
theorem dX9_scoreOf_37 : decode cX9_scoreOf 37 = .ok (.iload 6, 2) := by decide +kernel
theorem dX9_scoreOf_39 : decode cX9_scoreOf 39 = .ok (.sipush 20000, 3) := by decide +kernel
theorem dX9_scoreOf_42 : decode cX9_scoreOf 42 = .ok (.if_icmp .ge 40, 3) := by decide +kernel
theorem dX9_scoreOf_45 : decode cX9_scoreOf 45 = .ok (.aload_n 0, 1) := by decide +kernel
theorem dX9_scoreOf_46 : decode cX9_scoreOf 46 = .ok (.getfield 29, 3) := by decide +kernel
theorem dX9_scoreOf_49 : decode cX9_scoreOf 49 = .ok (.iload 4, 2) := by decide +kernel
theorem dX9_scoreOf_51 : decode cX9_scoreOf 51 = .ok (.iload 6, 2) := by decide +kernel
theorem dX9_scoreOf_53 : decode cX9_scoreOf 53 = .ok (.sipush 10000, 3) := by decide +kernel
theorem dX9_scoreOf_56 : decode cX9_scoreOf 56 = .ok (.if_icmp .ge 8, 3) := by decide +kernel
theorem dX9_scoreOf_59 : decode cX9_scoreOf 59 = .ok (.iload 6, 2) := by decide +kernel
theorem dX9_scoreOf_61 : decode cX9_scoreOf 61 = .ok (.goto 14, 3) := by decide +kernel
theorem dX9_scoreOf_64 : decode cX9_scoreOf 64 = .ok (.aload_n 0, 1) := by decide +kernel
theorem dX9_scoreOf_65 : decode cX9_scoreOf 65 = .ok (.iload_n 2, 1) := by decide +kernel
theorem dX9_scoreOf_66 : decode cX9_scoreOf 66 = .ok (.iload 6, 2) := by decide +kernel
theorem dX9_scoreOf_68 : decode cX9_scoreOf 68 = .ok (.sipush 10000, 3) := by decide +kernel
theorem dX9_scoreOf_71 : decode cX9_scoreOf 71 = .ok (.isub, 1) := by decide +kernel
theorem dX9_scoreOf_72 : decode cX9_scoreOf 72 = .ok (.invokevirtual 156, 3) := by decide +kernel
theorem dX9_scoreOf_75 : decode cX9_scoreOf 75 = .ok (.iastore, 1) := by decide +kernel
theorem dX9_scoreOf_76 : decode cX9_scoreOf 76 = .ok (.iinc 4 1, 3) := by decide +kernel
theorem dX9_scoreOf_79 : decode cX9_scoreOf 79 = .ok (.goto 70, 3) := by decide +kernel
theorem dX9_scoreOf_82 : decode cX9_scoreOf 82 = .ok (.iload 6, 2) := by decide +kernel
theorem dX9_scoreOf_84 : decode cX9_scoreOf 84 = .ok (.sipush 20256, 3) := by decide +kernel
theorem dX9_scoreOf_87 : decode cX9_scoreOf 87 = .ok (.if_icmp .ne 25, 3) := by decide +kernel
theorem dX9_scoreOf_90 : decode cX9_scoreOf 90 = .ok (.aload_n 0, 1) := by decide +kernel
theorem dX9_scoreOf_91 : decode cX9_scoreOf 91 = .ok (.getfield 29, 3) := by decide +kernel
theorem dX9_scoreOf_94 : decode cX9_scoreOf 94 = .ok (.iload 4, 2) := by decide +kernel
theorem dX9_scoreOf_96 : decode cX9_scoreOf 96 = .ok (.iconst 1, 1) := by decide +kernel
theorem dX9_scoreOf_97 : decode cX9_scoreOf 97 = .ok (.isub, 1) := by decide +kernel
theorem dX9_scoreOf_98 : decode cX9_scoreOf 98 = .ok (.aload_n 0, 1) := by decide +kernel
theorem dX9_scoreOf_99 : decode cX9_scoreOf 99 = .ok (.getfield 29, 3) := by decide +kernel
theorem dX9_scoreOf_102 : decode cX9_scoreOf 102 = .ok (.iload 4, 2) := by decide +kernel
theorem dX9_scoreOf_104 : decode cX9_scoreOf 104 = .ok (.iconst 1, 1) := by decide +kernel
theorem dX9_scoreOf_105 : decode cX9_scoreOf 105 = .ok (.isub, 1) := by decide +kernel
theorem dX9_scoreOf_106 : decode cX9_scoreOf 106 = .ok (.iaload, 1) := by decide +kernel
theorem dX9_scoreOf_107 : decode cX9_scoreOf 107 = .ok (.ineg, 1) := by decide +kernel
theorem dX9_scoreOf_108 : decode cX9_scoreOf 108 = .ok (.iastore, 1) := by decide +kernel
theorem dX9_scoreOf_109 : decode cX9_scoreOf 109 = .ok (.goto 40, 3) := by decide +kernel
theorem dX9_scoreOf_112 : decode cX9_scoreOf 112 = .ok (.iinc 4 (-1), 3) := by decide +kernel
theorem dX9_scoreOf_115 : decode cX9_scoreOf 115 = .ok (.aload_n 0, 1) := by decide +kernel
theorem dX9_scoreOf_116 : decode cX9_scoreOf 116 = .ok (.getfield 29, 3) := by decide +kernel
theorem dX9_scoreOf_119 : decode cX9_scoreOf 119 = .ok (.iload 4, 2) := by decide +kernel
theorem dX9_scoreOf_121 : decode cX9_scoreOf 121 = .ok (.iconst 1, 1) := by decide +kernel
theorem dX9_scoreOf_122 : decode cX9_scoreOf 122 = .ok (.isub, 1) := by decide +kernel
theorem dX9_scoreOf_123 : decode cX9_scoreOf 123 = .ok (.iload 6, 2) := by decide +kernel
theorem dX9_scoreOf_125 : decode cX9_scoreOf 125 = .ok (.sipush 20000, 3) := by decide +kernel
theorem dX9_scoreOf_128 : decode cX9_scoreOf 128 = .ok (.isub, 1) := by decide +kernel
theorem dX9_scoreOf_129 : decode cX9_scoreOf 129 = .ok (.aload_n 0, 1) := by decide +kernel
theorem dX9_scoreOf_130 : decode cX9_scoreOf 130 = .ok (.getfield 29, 3) := by decide +kernel
theorem dX9_scoreOf_133 : decode cX9_scoreOf 133 = .ok (.iload 4, 2) := by decide +kernel
theorem dX9_scoreOf_135 : decode cX9_scoreOf 135 = .ok (.iconst 1, 1) := by decide +kernel
theorem dX9_scoreOf_136 : decode cX9_scoreOf 136 = .ok (.isub, 1) := by decide +kernel
theorem dX9_scoreOf_137 : decode cX9_scoreOf 137 = .ok (.iaload, 1) := by decide +kernel
theorem dX9_scoreOf_138 : decode cX9_scoreOf 138 = .ok (.aload_n 0, 1) := by decide +kernel
theorem dX9_scoreOf_139 : decode cX9_scoreOf 139 = .ok (.getfield 29, 3) := by decide +kernel
theorem dX9_scoreOf_142 : decode cX9_scoreOf 142 = .ok (.iload 4, 2) := by decide +kernel
theorem dX9_scoreOf_144 : decode cX9_scoreOf 144 = .ok (.iaload, 1) := by decide +kernel
theorem dX9_scoreOf_145 : decode cX9_scoreOf 145 = .ok (.invokestatic 219, 3) := by decide +kernel
theorem dX9_scoreOf_148 : decode cX9_scoreOf 148 = .ok (.iastore, 1) := by decide +kernel
theorem dX9_scoreOf_149 : decode cX9_scoreOf 149 = .ok (.iinc 5 1, 3) := by decide +kernel
theorem dX9_scoreOf_152 : decode cX9_scoreOf 152 = .ok (.goto (-137), 3) := by decide +kernel
theorem dX9_scoreOf_155 : decode cX9_scoreOf 155 = .ok (.aload_n 0, 1) := by decide +kernel
theorem dX9_scoreOf_156 : decode cX9_scoreOf 156 = .ok (.getfield 29, 3) := by decide +kernel
theorem dX9_scoreOf_159 : decode cX9_scoreOf 159 = .ok (.iconst 0, 1) := by decide +kernel
theorem dX9_scoreOf_160 : decode cX9_scoreOf 160 = .ok (.iaload, 1) := by decide +kernel
theorem dX9_scoreOf_161 : decode cX9_scoreOf 161 = .ok (.ireturn, 1) := by decide +kernel
theorem dX9_isText_0 : decode cX9_isText 0 = .ok (.iload_n 1, 1) := by decide +kernel
theorem dX9_isText_1 : decode cX9_isText 1 = .ok (.i2l, 1) := by decide +kernel
theorem dX9_isText_2 : decode cX9_isText 2 = .ok (.lconst 0, 1) := by decide +kernel
theorem dX9_isText_3 : decode cX9_isText 3 = .ok (.aload_n 0, 1) := by decide +kernel
theorem dX9_isText_4 : decode cX9_isText 4 = .ok (.getfield 9, 3) := by decide +kernel
theorem dX9_isText_7 : decode cX9_isText 7 = .ok (.iconst 4, 1) := by decide +kernel
theorem dX9_isText_8 : decode cX9_isText 8 = .ok (.iaload, 1) := by decide +kernel
theorem dX9_isText_9 : decode cX9_isText 9 = .ok (.iconst 1, 1) := by decide +kernel
theorem dX9_isText_10 : decode cX9_isText 10 = .ok (.isub, 1) := by decide +kernel
theorem dX9_isText_11 : decode cX9_isText 11 = .ok (.i2l, 1) := by decide +kernel
theorem dX9_isText_12 : decode cX9_isText 12 = .ok (.invokestatic 48, 3) := by decide +kernel
theorem dX9_isText_15 : decode cX9_isText 15 = .ok (.ireturn, 1) := by decide +kernel
theorem dX9_score_0 : decode cX9_score 0 = .ok (.aload_n 0, 1) := by decide +kernel
theorem dX9_score_1 : decode cX9_score 1 = .ok (.iload_n 1, 1) := by decide +kernel
theorem dX9_score_2 : decode cX9_score 2 = .ok (.invokevirtual 223, 3) := by decide +kernel
theorem dX9_score_5 : decode cX9_score 5 = .ok (.ifCond .eq 20, 3) := by decide +kernel
theorem dX9_score_8 : decode cX9_score 8 = .ok (.aload_n 0, 1) := by decide +kernel
theorem dX9_score_9 : decode cX9_score 9 = .ok (.iload_n 2, 1) := by decide +kernel
theorem dX9_score_10 : decode cX9_score 10 = .ok (.invokevirtual 73, 3) := by decide +kernel
theorem dX9_score_13 : decode cX9_score 13 = .ok (.ifCond .eq 12, 3) := by decide +kernel
theorem dX9_score_16 : decode cX9_score 16 = .ok (.aload_n 0, 1) := by decide +kernel
theorem dX9_score_17 : decode cX9_score 17 = .ok (.iload_n 1, 1) := by decide +kernel
theorem dX9_score_18 : decode cX9_score 18 = .ok (.iload_n 2, 1) := by decide +kernel
theorem dX9_score_19 : decode cX9_score 19 = .ok (.invokevirtual 226, 3) := by decide +kernel
theorem dX9_score_22 : decode cX9_score 22 = .ok (.goto 9, 3) := by decide +kernel
theorem dX9_score_25 : decode cX9_score 25 = .ok (.aload_n 0, 1) := by decide +kernel
theorem dX9_score_26 : decode cX9_score 26 = .ok (.ldc 47, 2) := by decide +kernel
theorem dX9_score_28 : decode cX9_score 28 = .ok (.invokevirtual 64, 3) := by decide +kernel
theorem dX9_score_31 : decode cX9_score 31 = .ok (.ireturn, 1) := by decide +kernel
theorem dX9_findScores_0 : decode cX9_findScores 0 = .ok (.iconst 0, 1) := by decide +kernel
theorem dX9_findScores_1 : decode cX9_findScores 1 = .ok (.istore_n 2, 1) := by decide +kernel
theorem dX9_findScores_2 : decode cX9_findScores 2 = .ok (.iload_n 2, 1) := by decide +kernel
theorem dX9_findScores_3 : decode cX9_findScores 3 = .ok (.aload_n 0, 1) := by decide +kernel
theorem dX9_findScores_4 : decode cX9_findScores 4 = .ok (.getfield 9, 3) := by decide +kernel
theorem dX9_findScores_7 : decode cX9_findScores 7 = .ok (.iconst 0, 1) := by decide +kernel
theorem dX9_findScores_8 : decode cX9_findScores 8 = .ok (.iaload, 1) := by decide +kernel
theorem dX9_findScores_9 : decode cX9_findScores 9 = .ok (.if_icmp .ge 21, 3) := by decide +kernel
theorem dX9_findScores_12 : decode cX9_findScores 12 = .ok (.aload_n 0, 1) := by decide +kernel
theorem dX9_findScores_13 : decode cX9_findScores 13 = .ok (.getfield 32, 3) := by decide +kernel
theorem dX9_findScores_16 : decode cX9_findScores 16 = .ok (.iload_n 2, 1) := by decide +kernel
theorem dX9_findScores_17 : decode cX9_findScores 17 = .ok (.aload_n 0, 1) := by decide +kernel
theorem dX9_findScores_18 : decode cX9_findScores 18 = .ok (.iload_n 1, 1) := by decide +kernel
theorem dX9_findScores_19 : decode cX9_findScores 19 = .ok (.iload_n 2, 1) := by decide +kernel
theorem dX9_findScores_20 : decode cX9_findScores 20 = .ok (.invokevirtual 226, 3) := by decide +kernel
theorem dX9_findScores_23 : decode cX9_findScores 23 = .ok (.iastore, 1) := by decide +kernel
theorem dX9_findScores_24 : decode cX9_findScores 24 = .ok (.iinc 2 1, 3) := by decide +kernel
theorem dX9_findScores_27 : decode cX9_findScores 27 = .ok (.goto (-25), 3) := by decide +kernel
theorem dX9_findScores_30 : decode cX9_findScores 30 = .ok (.return_, 1) := by decide +kernel
