theorem dX0_init_0 : decode cX0_init 0 = .ok (.aload_n 0, 1) := by decide +kernel
theorem dX0_init_1 : decode cX0_init 1 = .ok (.invokespecial 3, 3) := by decide +kernel
theorem dX0_init_4 : decode cX0_init 4 = .ok (.aload_n 0, 1) := by decide +kernel
theorem dX0_init_5 : decode cX0_init 5 = .ok (.sipush 200, 3) := by decide +kernel
theorem dX0_init_8 : decode cX0_init 8 = .ok (.newarray .int, 2) := by decide +kernel
theorem dX0_init_10 : decode cX0_init 10 = .ok (.putfield 9, 3) := by decide +kernel
theorem dX0_init_13 : decode cX0_init 13 = .ok (.aload_n 0, 1) := by decide +kernel
theorem dX0_init_14 : decode cX0_init 14 = .ok (.sipush 200, 3) := by decide +kernel
theorem dX0_init_17 : decode cX0_init 17 = .ok (.newarray .int, 2) := by decide +kernel
theorem dX0_init_19 : decode cX0_init 19 = .ok (.putfield 15, 3) := by decide +kernel
theorem dX0_init_22 : decode cX0_init 22 = .ok (.aload_n 0, 1) := by decide +kernel
theorem dX0_init_23 : decode cX0_init 23 = .ok (.sipush 200, 3) := by decide +kernel
theorem dX0_init_26 : decode cX0_init 26 = .ok (.newarray .int, 2) := by decide +kernel
theorem dX0_init_28 : decode cX0_init 28 = .ok (.putfield 18, 3) := by decide +kernel
theorem dX0_init_31 : decode cX0_init 31 = .ok (.aload_n 0, 1) := by decide +kernel
theorem dX0_init_32 : decode cX0_init 32 = .ok (.sipush 200, 3) := by decide +kernel
theorem dX0_init_35 : decode cX0_init 35 = .ok (.newarray .int, 2) := by decide +kernel
theorem dX0_init_37 : decode cX0_init 37 = .ok (.putfield 21, 3) := by decide +kernel
theorem dX0_init_40 : decode cX0_init 40 = .ok (.aload_n 0, 1) := by decide +kernel
theorem dX0_init_41 : decode cX0_init 41 = .ok (.sipush 200, 3) := by decide +kernel
theorem dX0_init_44 : decode cX0_init 44 = .ok (.newarray .boolean, 2) := by decide +kernel
theorem dX0_init_46 : decode cX0_init 46 = .ok (.putfield 24, 3) := by decide +kernel
theorem dX0_init_49 : decode cX0_init 49 = .ok (.return_, 1) := by decide +kernel
theorem dX0_has_0 : decode cX0_has 0 = .ok (.iload_n 1, 1) := by decide +kernel
theorem dX0_has_1 : decode cX0_has 1 = .ok (.iconst 0, 1) := by decide +kernel
theorem dX0_has_2 : decode cX0_has 2 = .ok (.aload_n 0, 1) := by decide +kernel
theorem dX0_has_3 : decode cX0_has 3 = .ok (.getfield 28, 3) := by decide +kernel
theorem dX0_has_6 : decode cX0_has 6 = .ok (.iconst 1, 1) := by decide +kernel
theorem dX0_has_7 : decode cX0_has 7 = .ok (.isub, 1) := by decide +kernel
theorem dX0_has_8 : decode cX0_has 8 = .ok (.invokestatic 32, 3) := by decide +kernel
theorem dX0_has_11 : decode cX0_has 11 = .ok (.ireturn, 1) := by decide +kernel
theorem dX0_isFull_0 : decode cX0_isFull 0 = .ok (.aload_n 0, 1) := by decide +kernel
theorem dX0_isFull_1 : decode cX0_isFull 1 = .ok (.getfield 28, 3) := by decide +kernel
theorem dX0_isFull_4 : decode cX0_isFull 4 = .ok (.sipush 200, 3) := by decide +kernel
theorem dX0_isFull_7 : decode cX0_isFull 7 = .ok (.if_icmp .lt 7, 3) := by decide +kernel
theorem dX0_isFull_10 : decode cX0_isFull 10 = .ok (.iconst 1, 1) := by decide +kernel
theorem dX0_isFull_11 : decode cX0_isFull 11 = .ok (.goto 4, 3) := by decide +kernel
theorem dX0_isFull_14 : decode cX0_isFull 14 = .ok (.iconst 0, 1) := by decide +kernel
theorem dX0_isFull_15 : decode cX0_isFull 15 = .ok (.ireturn, 1) := by decide +kernel
theorem dX0_add_0 : decode cX0_add 0 = .ok (.aload_n 0, 1) := by decide +kernel
theorem dX0_add_1 : decode cX0_add 1 = .ok (.getfield 9, 3) := by decide +kernel
theorem dX0_add_4 : decode cX0_add 4 = .ok (.aload_n 0, 1) := by decide +kernel
theorem dX0_add_5 : decode cX0_add 5 = .ok (.getfield 28, 3) := by decide +kernel
theorem dX0_add_8 : decode cX0_add 8 = .ok (.aload_n 0, 1) := by decide +kernel
theorem dX0_add_9 : decode cX0_add 9 = .ok (.getfield 36, 3) := by decide +kernel
theorem dX0_add_12 : decode cX0_add 12 = .ok (.iastore, 1) := by decide +kernel
theorem dX0_add_13 : decode cX0_add 13 = .ok (.aload_n 0, 1) := by decide +kernel
theorem dX0_add_14 : decode cX0_add 14 = .ok (.getfield 15, 3) := by decide +kernel
theorem dX0_add_17 : decode cX0_add 17 = .ok (.aload_n 0, 1) := by decide +kernel
theorem dX0_add_18 : decode cX0_add 18 = .ok (.getfield 28, 3) := by decide +kernel
theorem dX0_add_21 : decode cX0_add 21 = .ok (.iload_n 1, 1) := by decide +kernel
theorem dX0_add_22 : decode cX0_add 22 = .ok (.iastore, 1) := by decide +kernel
theorem dX0_add_23 : decode cX0_add 23 = .ok (.aload_n 0, 1) := by decide +kernel
theorem dX0_add_24 : decode cX0_add 24 = .ok (.getfield 18, 3) := by decide +kernel
theorem dX0_add_27 : decode cX0_add 27 = .ok (.aload_n 0, 1) := by decide +kernel
theorem dX0_add_28 : decode cX0_add 28 = .ok (.getfield 28, 3) := by decide +kernel
theorem dX0_add_31 : decode cX0_add 31 = .ok (.iload_n 2, 1) := by decide +kernel
theorem dX0_add_32 : decode cX0_add 32 = .ok (.iastore, 1) := by decide +kernel
theorem dX0_add_33 : decode cX0_add 33 = .ok (.aload_n 0, 1) := by decide +kernel
theorem dX0_add_34 : decode cX0_add 34 = .ok (.getfield 21, 3) := by decide +kernel
theorem dX0_add_37 : decode cX0_add 37 = .ok (.aload_n 0, 1) := by decide +kernel
theorem dX0_add_38 : decode cX0_add 38 = .ok (.getfield 28, 3) := by decide +kernel
theorem dX0_add_41 : decode cX0_add 41 = .ok (.aload_n 0, 1) := by decide +kernel
theorem dX0_add_42 : decode cX0_add 42 = .ok (.iload_n 1, 1) := by decide +kernel
theorem dX0_add_43 : decode cX0_add 43 = .ok (.invokevirtual 39, 3) := by decide +kernel
theorem dX0_add_46 : decode cX0_add 46 = .ok (.iastore, 1) := by decide +kernel
theorem dX0_add_47 : decode cX0_add 47 = .ok (.aload_n 0, 1) := by decide +kernel
theorem dX0_add_48 : decode cX0_add 48 = .ok (.dup, 1) := by decide +kernel
theorem dX0_add_49 : decode cX0_add 49 = .ok (.getfield 28, 3) := by decide +kernel
theorem dX0_add_52 : decode cX0_add 52 = .ok (.iconst 1, 1) := by decide +kernel
theorem dX0_add_53 : decode cX0_add 53 = .ok (.iadd, 1) := by decide +kernel
theorem dX0_add_54 : decode cX0_add 54 = .ok (.putfield 28, 3) := by decide +kernel
theorem dX0_add_57 : decode cX0_add 57 = .ok (.aload_n 0, 1) := by decide +kernel
theorem dX0_add_58 : decode cX0_add 58 = .ok (.getfield 28, 3) := by decide +kernel
theorem dX0_add_61 : decode cX0_add 61 = .ok (.iconst 1, 1) := by decide +kernel
theorem dX0_add_62 : decode cX0_add 62 = .ok (.isub, 1) := by decide +kernel
theorem dX0_add_63 : decode cX0_add 63 = .ok (.ireturn, 1) := by decide +kernel
theorem dX0_wordAhead_0 : decode cX0_wordAhead 0 = .ok (.aload_n 0, 1) := by decide +kernel
theorem dX0_wordAhead_1 : decode cX0_wordAhead 1 = .ok (.getfield 28, 3) := by decide +kernel
theorem dX0_wordAhead_4 : decode cX0_wordAhead 4 = .ok (.iconst 1, 1) := by decide +kernel
theorem dX0_wordAhead_5 : decode cX0_wordAhead 5 = .ok (.isub, 1) := by decide +kernel
theorem dX0_wordAhead_6 : decode cX0_wordAhead 6 = .ok (.istore_n 2, 1) := by decide +kernel
theorem dX0_wordAhead_7 : decode cX0_wordAhead 7 = .ok (.iload_n 2, 1) := by decide +kernel
theorem dX0_wordAhead_8 : decode cX0_wordAhead 8 = .ok (.ifCond .lt 50, 3) := by decide +kernel
theorem dX0_wordAhead_11 : decode cX0_wordAhead 11 = .ok (.aload_n 0, 1) := by decide +kernel
theorem dX0_wordAhead_12 : decode cX0_wordAhead 12 = .ok (.getfield 36, 3) := by decide +kernel
theorem dX0_wordAhead_15 : decode cX0_wordAhead 15 = .ok (.aload_n 0, 1) := by decide +kernel
theorem dX0_wordAhead_16 : decode cX0_wordAhead 16 = .ok (.getfield 9, 3) := by decide +kernel
theorem dX0_wordAhead_19 : decode cX0_wordAhead 19 = .ok (.iload_n 2, 1) := by decide +kernel
theorem dX0_wordAhead_20 : decode cX0_wordAhead 20 = .ok (.iaload, 1) := by decide +kernel
theorem dX0_wordAhead_21 : decode cX0_wordAhead 21 = .ok (.isub, 1) := by decide +kernel
theorem dX0_wordAhead_22 : decode cX0_wordAhead 22 = .ok (.bipush 9, 2) := by decide +kernel
theorem dX0_wordAhead_24 : decode cX0_wordAhead 24 = .ok (.if_icmp .gt 34, 3) := by decide +kernel
theorem dX0_wordAhead_27 : decode cX0_wordAhead 27 = .ok (.aload_n 0, 1) := by decide +kernel
theorem dX0_wordAhead_28 : decode cX0_wordAhead 28 = .ok (.getfield 9, 3) := by decide +kernel
theorem dX0_wordAhead_31 : decode cX0_wordAhead 31 = .ok (.iload_n 2, 1) := by decide +kernel
theorem dX0_wordAhead_32 : decode cX0_wordAhead 32 = .ok (.iaload, 1) := by decide +kernel
theorem dX0_wordAhead_33 : decode cX0_wordAhead 33 = .ok (.aload_n 0, 1) := by decide +kernel
theorem dX0_wordAhead_34 : decode cX0_wordAhead 34 = .ok (.getfield 36, 3) := by decide +kernel
theorem dX0_wordAhead_37 : decode cX0_wordAhead 37 = .ok (.if_icmp .ge 15, 3) := by decide +kernel
theorem dX0_wordAhead_40 : decode cX0_wordAhead 40 = .ok (.aload_n 0, 1) := by decide +kernel
theorem dX0_wordAhead_41 : decode cX0_wordAhead 41 = .ok (.getfield 15, 3) := by decide +kernel
theorem dX0_wordAhead_44 : decode cX0_wordAhead 44 = .ok (.iload_n 2, 1) := by decide +kernel
theorem dX0_wordAhead_45 : decode cX0_wordAhead 45 = .ok (.iaload, 1) := by decide +kernel
theorem dX0_wordAhead_46 : decode cX0_wordAhead 46 = .ok (.iload_n 1, 1) := by decide +kernel
theorem dX0_wordAhead_47 : decode cX0_wordAhead 47 = .ok (.if_icmp .eq 5, 3) := by decide +kernel
theorem dX0_wordAhead_50 : decode cX0_wordAhead 50 = .ok (.iload_n 2, 1) := by decide +kernel
theorem dX0_wordAhead_51 : decode cX0_wordAhead 51 = .ok (.ireturn, 1) := by decide +kernel
theorem dX0_wordAhead_52 : decode cX0_wordAhead 52 = .ok (.iinc 2 (-1), 3) := by decide +kernel
theorem dX0_wordAhead_55 : decode cX0_wordAhead 55 = .ok (.goto (-48), 3) := by decide +kernel
theorem dX0_wordAhead_58 : decode cX0_wordAhead 58 = .ok (.iconst (-1), 1) := by decide +kernel
theorem dX0_wordAhead_59 : decode cX0_wordAhead 59 = .ok (.ireturn, 1) := by decide +kernel
theorem dX0_countBelow_0 : decode cX0_countBelow 0 = .ok (.iconst 0, 1) := by decide +kernel
theorem dX0_countBelow_1 : decode cX0_countBelow 1 = .ok (.istore_n 2, 1) := by decide +kernel
theorem dX0_countBelow_2 : decode cX0_countBelow 2 = .ok (.iload_n 1, 1) := by decide +kernel
theorem dX0_countBelow_3 : decode cX0_countBelow 3 = .ok (.iconst 1, 1) := by decide +kernel
theorem dX0_countBelow_4 : decode cX0_countBelow 4 = .ok (.iadd, 1) := by decide +kernel
theorem dX0_countBelow_5 : decode cX0_countBelow 5 = .ok (.istore_n 3, 1) := by decide +kernel
theorem dX0_countBelow_6 : decode cX0_countBelow 6 = .ok (.iload_n 3, 1) := by decide +kernel
theorem dX0_countBelow_7 : decode cX0_countBelow 7 = .ok (.aload_n 0, 1) := by decide +kernel
theorem dX0_countBelow_8 : decode cX0_countBelow 8 = .ok (.getfield 28, 3) := by decide +kernel
theorem dX0_countBelow_11 : decode cX0_countBelow 11 = .ok (.if_icmp .ge 62, 3) := by decide +kernel
theorem dX0_countBelow_14 : decode cX0_countBelow 14 = .ok (.aload_n 0, 1) := by decide +kernel
theorem dX0_countBelow_15 : decode cX0_countBelow 15 = .ok (.getfield 21, 3) := by decide +kernel
theorem dX0_countBelow_18 : decode cX0_countBelow 18 = .ok (.iload_n 3, 1) := by decide +kernel
theorem dX0_countBelow_19 : decode cX0_countBelow 19 = .ok (.iaload, 1) := by decide +kernel
theorem dX0_countBelow_20 : decode cX0_countBelow 20 = .ok (.istore 4, 2) := by decide +kernel
theorem dX0_countBelow_22 : decode cX0_countBelow 22 = .ok (.aload_n 0, 1) := by decide +kernel
theorem dX0_countBelow_23 : decode cX0_countBelow 23 = .ok (.getfield 24, 3) := by decide +kernel
theorem dX0_countBelow_26 : decode cX0_countBelow 26 = .ok (.iload_n 3, 1) := by decide +kernel
theorem dX0_countBelow_27 : decode cX0_countBelow 27 = .ok (.iload 4, 2) := by decide +kernel
theorem dX0_countBelow_29 : decode cX0_countBelow 29 = .ok (.iload_n 1, 1) := by decide +kernel
theorem dX0_countBelow_30 : decode cX0_countBelow 30 = .ok (.if_icmp .eq 19, 3) := by decide +kernel
theorem dX0_countBelow_33 : decode cX0_countBelow 33 = .ok (.iload 4, 2) := by decide +kernel
theorem dX0_countBelow_35 : decode cX0_countBelow 35 = .ok (.iload_n 1, 1) := by decide +kernel
theorem dX0_countBelow_36 : decode cX0_countBelow 36 = .ok (.if_icmp .le 17, 3) := by decide +kernel
theorem dX0_countBelow_39 : decode cX0_countBelow 39 = .ok (.aload_n 0, 1) := by decide +kernel
theorem dX0_countBelow_40 : decode cX0_countBelow 40 = .ok (.getfield 24, 3) := by decide +kernel
theorem dX0_countBelow_43 : decode cX0_countBelow 43 = .ok (.iload 4, 2) := by decide +kernel
theorem dX0_countBelow_45 : decode cX0_countBelow 45 = .ok (.baload, 1) := by decide +kernel
theorem dX0_countBelow_46 : decode cX0_countBelow 46 = .ok (.ifCond .eq 7, 3) := by decide +kernel
theorem dX0_countBelow_49 : decode cX0_countBelow 49 = .ok (.iconst 1, 1) := by decide +kernel
theorem dX0_countBelow_50 : decode cX0_countBelow 50 = .ok (.goto 4, 3) := by decide +kernel
theorem dX0_countBelow_53 : decode cX0_countBelow 53 = .ok (.iconst 0, 1) := by decide +kernel
theorem dX0_countBelow_54 : decode cX0_countBelow 54 = .ok (.bastore, 1) := by decide +kernel
theorem dX0_countBelow_55 : decode cX0_countBelow 55 = .ok (.iload_n 2, 1) := by decide +kernel
theorem dX0_countBelow_56 : decode cX0_countBelow 56 = .ok (.aload_n 0, 1) := by decide +kernel
theorem dX0_countBelow_57 : decode cX0_countBelow 57 = .ok (.getfield 24, 3) := by decide +kernel
theorem dX0_countBelow_60 : decode cX0_countBelow 60 = .ok (.iload_n 3, 1) := by decide +kernel
theorem dX0_countBelow_61 : decode cX0_countBelow 61 = .ok (.baload, 1) := by decide +kernel
theorem dX0_countBelow_62 : decode cX0_countBelow 62 = .ok (.invokestatic 43, 3) := by decide +kernel
theorem dX0_countBelow_65 : decode cX0_countBelow 65 = .ok (.iadd, 1) := by decide +kernel
theorem dX0_countBelow_66 : decode cX0_countBelow 66 = .ok (.istore_n 2, 1) := by decide +kernel
theorem dX0_countBelow_67 : decode cX0_countBelow 67 = .ok (.iinc 3 1, 3) := by decide +kernel
theorem dX0_countBelow_70 : decode cX0_countBelow 70 = .ok (.goto (-64), 3) := by decide +kernel
theorem dX0_countBelow_73 : decode cX0_countBelow 73 = .ok (.iload_n 2, 1) := by decide +kernel
theorem dX0_countBelow_74 : decode cX0_countBelow 74 = .ok (.ireturn, 1) := by decide +kernel
theorem dX0_countOf_0 : decode cX0_countOf 0 = .ok (.iconst 0, 1) := by decide +kernel
theorem dX0_countOf_1 : decode cX0_countOf 1 = .ok (.istore_n 2, 1) := by decide +kernel
theorem dX0_countOf_2 : decode cX0_countOf 2 = .ok (.iconst 0, 1) := by decide +kernel
theorem dX0_countOf_3 : decode cX0_countOf 3 = .ok (.istore_n 3, 1) := by decide +kernel
theorem dX0_countOf_4 : decode cX0_countOf 4 = .ok (.iload_n 3, 1) := by decide +kernel
theorem dX0_countOf_5 : decode cX0_countOf 5 = .ok (.aload_n 0, 1) := by decide +kernel
theorem dX0_countOf_6 : decode cX0_countOf 6 = .ok (.getfield 28, 3) := by decide +kernel
theorem dX0_countOf_9 : decode cX0_countOf 9 = .ok (.if_icmp .ge 30, 3) := by decide +kernel
theorem dX0_countOf_12 : decode cX0_countOf 12 = .ok (.iload_n 2, 1) := by decide +kernel
theorem dX0_countOf_13 : decode cX0_countOf 13 = .ok (.aload_n 0, 1) := by decide +kernel
theorem dX0_countOf_14 : decode cX0_countOf 14 = .ok (.getfield 15, 3) := by decide +kernel
theorem dX0_countOf_17 : decode cX0_countOf 17 = .ok (.iload_n 3, 1) := by decide +kernel
theorem dX0_countOf_18 : decode cX0_countOf 18 = .ok (.iaload, 1) := by decide +kernel
theorem dX0_countOf_19 : decode cX0_countOf 19 = .ok (.iload_n 1, 1) := by decide +kernel
theorem dX0_countOf_20 : decode cX0_countOf 20 = .ok (.if_icmp .ne 7, 3) := by decide +kernel
theorem dX0_countOf_23 : decode cX0_countOf 23 = .ok (.iconst 1, 1) := by decide +kernel
theorem dX0_countOf_24 : decode cX0_countOf 24 = .ok (.goto 4, 3) := by decide +kernel
theorem dX0_countOf_27 : decode cX0_countOf 27 = .ok (.iconst 0, 1) := by decide +kernel
theorem dX0_countOf_28 : decode cX0_countOf 28 = .ok (.invokestatic 43, 3) := by decide +kernel
theorem dX0_countOf_31 : decode cX0_countOf 31 = .ok (.iadd, 1) := by decide +kernel
theorem dX0_countOf_32 : decode cX0_countOf 32 = .ok (.istore_n 2, 1) := by decide +kernel
theorem dX0_countOf_33 : decode cX0_countOf 33 = .ok (.iinc 3 1, 3) := by decide +kernel
theorem dX0_countOf_36 : decode cX0_countOf 36 = .ok (.goto (-32), 3) := by decide +kernel
theorem dX0_countOf_39 : decode cX0_countOf 39 = .ok (.iload_n 2, 1) := by decide +kernel
theorem dX0_countOf_40 : decode cX0_countOf 40 = .ok (.ireturn, 1) := by decide +kernel
theorem dX0_latestOf_0 : decode cX0_latestOf 0 = .ok (.aload_n 0, 1) := by decide +kernel
theorem dX0_latestOf_1 : decode cX0_latestOf 1 = .ok (.getfield 28, 3) := by decide +kernel
theorem dX0_latestOf_4 : decode cX0_latestOf 4 = .ok (.iconst 1, 1) := by decide +kernel
theorem dX0_latestOf_5 : decode cX0_latestOf 5 = .ok (.isub, 1) := by decide +kernel
theorem dX0_latestOf_6 : decode cX0_latestOf 6 = .ok (.istore_n 2, 1) := by decide +kernel
theorem dX0_latestOf_7 : decode cX0_latestOf 7 = .ok (.iload_n 2, 1) := by decide +kernel
theorem dX0_latestOf_8 : decode cX0_latestOf 8 = .ok (.ifCond .lt 19, 3) := by decide +kernel
theorem dX0_latestOf_11 : decode cX0_latestOf 11 = .ok (.aload_n 0, 1) := by decide +kernel
theorem dX0_latestOf_12 : decode cX0_latestOf 12 = .ok (.getfield 15, 3) := by decide +kernel
theorem dX0_latestOf_15 : decode cX0_latestOf 15 = .ok (.iload_n 2, 1) := by decide +kernel
theorem dX0_latestOf_16 : decode cX0_latestOf 16 = .ok (.iaload, 1) := by decide +kernel
theorem dX0_latestOf_17 : decode cX0_latestOf 17 = .ok (.iload_n 1, 1) := by decide +kernel
theorem dX0_latestOf_18 : decode cX0_latestOf 18 = .ok (.if_icmp .eq 9, 3) := by decide +kernel
theorem dX0_latestOf_21 : decode cX0_latestOf 21 = .ok (.iinc 2 (-1), 3) := by decide +kernel
theorem dX0_latestOf_24 : decode cX0_latestOf 24 = .ok (.goto (-17), 3) := by decide +kernel
theorem dX0_latestOf_27 : decode cX0_latestOf 27 = .ok (.iload_n 2, 1) := by decide +kernel
theorem dX0_latestOf_28 : decode cX0_latestOf 28 = .ok (.ireturn, 1) := by decide +kernel
theorem dX0_hourSet_0 : decode cX0_hourSet 0 = .ok (.iconst 0, 1) := by decide +kernel
theorem dX0_hourSet_1 : decode cX0_hourSet 1 = .ok (.istore_n 2, 1) := by decide +kernel
theorem dX0_hourSet_2 : decode cX0_hourSet 2 = .ok (.iconst 0, 1) := by decide +kernel
theorem dX0_hourSet_3 : decode cX0_hourSet 3 = .ok (.istore_n 3, 1) := by decide +kernel
theorem dX0_hourSet_4 : decode cX0_hourSet 4 = .ok (.iload_n 3, 1) := by decide +kernel
theorem dX0_hourSet_5 : decode cX0_hourSet 5 = .ok (.aload_n 0, 1) := by decide +kernel
theorem dX0_hourSet_6 : decode cX0_hourSet 6 = .ok (.getfield 28, 3) := by decide +kernel
theorem dX0_hourSet_9 : decode cX0_hourSet 9 = .ok (.if_icmp .ge 33, 3) := by decide +kernel
theorem dX0_hourSet_12 : decode cX0_hourSet 12 = .ok (.aload_n 0, 1) := by decide +kernel
theorem dX0_hourSet_13 : decode cX0_hourSet 13 = .ok (.getfield 15, 3) := by decide +kernel
theorem dX0_hourSet_16 : decode cX0_hourSet 16 = .ok (.iload_n 3, 1) := by decide +kernel
theorem dX0_hourSet_17 : decode cX0_hourSet 17 = .ok (.iaload, 1) := by decide +kernel
theorem dX0_hourSet_18 : decode cX0_hourSet 18 = .ok (.iload_n 1, 1) := by decide +kernel
theorem dX0_hourSet_19 : decode cX0_hourSet 19 = .ok (.if_icmp .ne 17, 3) := by decide +kernel
theorem dX0_hourSet_22 : decode cX0_hourSet 22 = .ok (.iload_n 2, 1) := by decide +kernel
theorem dX0_hourSet_23 : decode cX0_hourSet 23 = .ok (.iconst 1, 1) := by decide +kernel
theorem dX0_hourSet_24 : decode cX0_hourSet 24 = .ok (.aload_n 0, 1) := by decide +kernel
theorem dX0_hourSet_25 : decode cX0_hourSet 25 = .ok (.getfield 9, 3) := by decide +kernel
theorem dX0_hourSet_28 : decode cX0_hourSet 28 = .ok (.iload_n 3, 1) := by decide +kernel
theorem dX0_hourSet_29 : decode cX0_hourSet 29 = .ok (.iaload, 1) := by decide +kernel
theorem dX0_hourSet_30 : decode cX0_hourSet 30 = .ok (.invokestatic 47, 3) := by decide +kernel
theorem dX0_hourSet_33 : decode cX0_hourSet 33 = .ok (.ishl, 1) := by decide +kernel
theorem dX0_hourSet_34 : decode cX0_hourSet 34 = .ok (.ior, 1) := by decide +kernel
theorem dX0_hourSet_35 : decode cX0_hourSet 35 = .ok (.istore_n 2, 1) := by decide +kernel
theorem dX0_hourSet_36 : decode cX0_hourSet 36 = .ok (.iinc 3 1, 3) := by decide +kernel
theorem dX0_hourSet_39 : decode cX0_hourSet 39 = .ok (.goto (-35), 3) := by decide +kernel
theorem dX0_hourSet_42 : decode cX0_hourSet 42 = .ok (.iload_n 2, 1) := by decide +kernel
theorem dX0_hourSet_43 : decode cX0_hourSet 43 = .ok (.ireturn, 1) := by decide +kernel
theorem dX0_firstTelling_0 : decode cX0_firstTelling 0 = .ok (.iconst 0, 1) := by decide +kernel
theorem dX0_firstTelling_1 : decode cX0_firstTelling 1 = .ok (.istore_n 2, 1) := by decide +kernel
theorem dX0_firstTelling_2 : decode cX0_firstTelling 2 = .ok (.iload_n 2, 1) := by decide +kernel
theorem dX0_firstTelling_3 : decode cX0_firstTelling 3 = .ok (.aload_n 0, 1) := by decide +kernel
theorem dX0_firstTelling_4 : decode cX0_firstTelling 4 = .ok (.getfield 28, 3) := by decide +kernel
theorem dX0_firstTelling_7 : decode cX0_firstTelling 7 = .ok (.if_icmp .ge 21, 3) := by decide +kernel
theorem dX0_firstTelling_10 : decode cX0_firstTelling 10 = .ok (.aload_n 0, 1) := by decide +kernel
theorem dX0_firstTelling_11 : decode cX0_firstTelling 11 = .ok (.getfield 18, 3) := by decide +kernel
theorem dX0_firstTelling_14 : decode cX0_firstTelling 14 = .ok (.iload_n 2, 1) := by decide +kernel
theorem dX0_firstTelling_15 : decode cX0_firstTelling 15 = .ok (.iaload, 1) := by decide +kernel
theorem dX0_firstTelling_16 : decode cX0_firstTelling 16 = .ok (.iload_n 1, 1) := by decide +kernel
theorem dX0_firstTelling_17 : decode cX0_firstTelling 17 = .ok (.if_icmp .ne 5, 3) := by decide +kernel
theorem dX0_firstTelling_20 : decode cX0_firstTelling 20 = .ok (.iload_n 2, 1) := by decide +kernel
theorem dX0_firstTelling_21 : decode cX0_firstTelling 21 = .ok (.ireturn, 1) := by decide +kernel
theorem dX0_firstTelling_22 : decode cX0_firstTelling 22 = .ok (.iinc 2 1, 3) := by decide +kernel
theorem dX0_firstTelling_25 : decode cX0_firstTelling 25 = .ok (.goto (-23), 3) := by decide +kernel
theorem dX0_firstTelling_28 : decode cX0_firstTelling 28 = .ok (.iconst (-1), 1) := by decide +kernel
theorem dX0_firstTelling_29 : decode cX0_firstTelling 29 = .ok (.ireturn, 1) := by decide +kernel
theorem dX0_countTelling_0 : decode cX0_countTelling 0 = .ok (.iconst 0, 1) := by decide +kernel
theorem dX0_countTelling_1 : decode cX0_countTelling 1 = .ok (.istore_n 3, 1) := by decide +kernel
theorem dX0_countTelling_2 : decode cX0_countTelling 2 = .ok (.iconst 0, 1) := by decide +kernel
theorem dX0_countTelling_3 : decode cX0_countTelling 3 = .ok (.istore 4, 2) := by decide +kernel
theorem dX0_countTelling_5 : decode cX0_countTelling 5 = .ok (.iload 4, 2) := by decide +kernel
theorem dX0_countTelling_7 : decode cX0_countTelling 7 = .ok (.aload_n 0, 1) := by decide +kernel
theorem dX0_countTelling_8 : decode cX0_countTelling 8 = .ok (.getfield 28, 3) := by decide +kernel
theorem dX0_countTelling_11 : decode cX0_countTelling 11 = .ok (.if_icmp .ge 62, 3) := by decide +kernel
theorem dX0_countTelling_14 : decode cX0_countTelling 14 = .ok (.iload_n 1, 1) := by decide +kernel
theorem dX0_countTelling_15 : decode cX0_countTelling 15 = .ok (.iconst (-1), 1) := by decide +kernel
theorem dX0_countTelling_16 : decode cX0_countTelling 16 = .ok (.if_icmp .eq 14, 3) := by decide +kernel
theorem dX0_countTelling_19 : decode cX0_countTelling 19 = .ok (.aload_n 0, 1) := by decide +kernel
theorem dX0_countTelling_20 : decode cX0_countTelling 20 = .ok (.getfield 18, 3) := by decide +kernel
theorem dX0_countTelling_23 : decode cX0_countTelling 23 = .ok (.iload 4, 2) := by decide +kernel
theorem dX0_countTelling_25 : decode cX0_countTelling 25 = .ok (.iaload, 1) := by decide +kernel
theorem dX0_countTelling_26 : decode cX0_countTelling 26 = .ok (.iload_n 1, 1) := by decide +kernel
theorem dX0_countTelling_27 : decode cX0_countTelling 27 = .ok (.if_icmp .ne 7, 3) := by decide +kernel
theorem dX0_countTelling_30 : decode cX0_countTelling 30 = .ok (.iconst 1, 1) := by decide +kernel
theorem dX0_countTelling_31 : decode cX0_countTelling 31 = .ok (.goto 4, 3) := by decide +kernel
theorem dX0_countTelling_34 : decode cX0_countTelling 34 = .ok (.iconst 0, 1) := by decide +kernel
theorem dX0_countTelling_35 : decode cX0_countTelling 35 = .ok (.istore 5, 2) := by decide +kernel
theorem dX0_countTelling_37 : decode cX0_countTelling 37 = .ok (.iload_n 3, 1) := by decide +kernel
theorem dX0_countTelling_38 : decode cX0_countTelling 38 = .ok (.iload 5, 2) := by decide +kernel
theorem dX0_countTelling_40 : decode cX0_countTelling 40 = .ok (.ifCond .eq 21, 3) := by decide +kernel
theorem dX0_countTelling_43 : decode cX0_countTelling 43 = .ok (.iload_n 2, 1) := by decide +kernel
theorem dX0_countTelling_44 : decode cX0_countTelling 44 = .ok (.aload_n 0, 1) := by decide +kernel
theorem dX0_countTelling_45 : decode cX0_countTelling 45 = .ok (.getfield 15, 3) := by decide +kernel
theorem dX0_countTelling_48 : decode cX0_countTelling 48 = .ok (.iload 4, 2) := by decide +kernel
theorem dX0_countTelling_50 : decode cX0_countTelling 50 = .ok (.iaload, 1) := by decide +kernel
theorem dX0_countTelling_51 : decode cX0_countTelling 51 = .ok (.invokestatic 50, 3) := by decide +kernel
theorem dX0_countTelling_54 : decode cX0_countTelling 54 = .ok (.ifCond .ne 7, 3) := by decide +kernel
theorem dX0_countTelling_57 : decode cX0_countTelling 57 = .ok (.iconst 1, 1) := by decide +kernel
theorem dX0_countTelling_58 : decode cX0_countTelling 58 = .ok (.goto 4, 3) := by decide +kernel
theorem dX0_countTelling_61 : decode cX0_countTelling 61 = .ok (.iconst 0, 1) := by decide +kernel
theorem dX0_countTelling_62 : decode cX0_countTelling 62 = .ok (.invokestatic 43, 3) := by decide +kernel
theorem dX0_countTelling_65 : decode cX0_countTelling 65 = .ok (.iadd, 1) := by decide +kernel
theorem dX0_countTelling_66 : decode cX0_countTelling 66 = .ok (.istore_n 3, 1) := by decide +kernel
theorem dX0_countTelling_67 : decode cX0_countTelling 67 = .ok (.iinc 4 1, 3) := by decide +kernel
theorem dX0_countTelling_70 : decode cX0_countTelling 70 = .ok (.goto (-65), 3) := by decide +kernel
theorem dX0_countTelling_73 : decode cX0_countTelling 73 = .ok (.iload_n 3, 1) := by decide +kernel
theorem dX0_countTelling_74 : decode cX0_countTelling 74 = .ok (.ireturn, 1) := by decide +kernel
theorem dX0_firstFrom_0 : decode cX0_firstFrom 0 = .ok (.iconst 0, 1) := by decide +kernel
theorem dX0_firstFrom_1 : decode cX0_firstFrom 1 = .ok (.istore_n 2, 1) := by decide +kernel
theorem dX0_firstFrom_2 : decode cX0_firstFrom 2 = .ok (.aload_n 0, 1) := by decide +kernel
theorem dX0_firstFrom_3 : decode cX0_firstFrom 3 = .ok (.getfield 28, 3) := by decide +kernel
theorem dX0_firstFrom_6 : decode cX0_firstFrom 6 = .ok (.istore_n 3, 1) := by decide +kernel
theorem dX0_firstFrom_7 : decode cX0_firstFrom 7 = .ok (.iconst 0, 1) := by decide +kernel
theorem dX0_firstFrom_8 : decode cX0_firstFrom 8 = .ok (.istore 4, 2) := by decide +kernel
theorem dX0_firstFrom_10 : decode cX0_firstFrom 10 = .ok (.iload 4, 2) := by decide +kernel
theorem dX0_firstFrom_12 : decode cX0_firstFrom 12 = .ok (.sipush 200, 3) := by decide +kernel
theorem dX0_firstFrom_15 : decode cX0_firstFrom 15 = .ok (.if_icmp .ge 43, 3) := by decide +kernel
theorem dX0_firstFrom_18 : decode cX0_firstFrom 18 = .ok (.iload_n 2, 1) := by decide +kernel
theorem dX0_firstFrom_19 : decode cX0_firstFrom 19 = .ok (.iload_n 3, 1) := by decide +kernel
theorem dX0_firstFrom_20 : decode cX0_firstFrom 20 = .ok (.if_icmp .ge 38, 3) := by decide +kernel
theorem dX0_firstFrom_23 : decode cX0_firstFrom 23 = .ok (.iload_n 2, 1) := by decide +kernel
theorem dX0_firstFrom_24 : decode cX0_firstFrom 24 = .ok (.iload_n 3, 1) := by decide +kernel
theorem dX0_firstFrom_25 : decode cX0_firstFrom 25 = .ok (.iadd, 1) := by decide +kernel
theorem dX0_firstFrom_26 : decode cX0_firstFrom 26 = .ok (.iconst 2, 1) := by decide +kernel
theorem dX0_firstFrom_27 : decode cX0_firstFrom 27 = .ok (.idiv, 1) := by decide +kernel
theorem dX0_firstFrom_28 : decode cX0_firstFrom 28 = .ok (.istore 5, 2) := by decide +kernel
theorem dX0_firstFrom_30 : decode cX0_firstFrom 30 = .ok (.aload_n 0, 1) := by decide +kernel
theorem dX0_firstFrom_31 : decode cX0_firstFrom 31 = .ok (.getfield 9, 3) := by decide +kernel
theorem dX0_firstFrom_34 : decode cX0_firstFrom 34 = .ok (.iload 5, 2) := by decide +kernel
theorem dX0_firstFrom_36 : decode cX0_firstFrom 36 = .ok (.iaload, 1) := by decide +kernel
theorem dX0_firstFrom_37 : decode cX0_firstFrom 37 = .ok (.iload_n 1, 1) := by decide +kernel
theorem dX0_firstFrom_38 : decode cX0_firstFrom 38 = .ok (.if_icmp .ge 11, 3) := by decide +kernel
theorem dX0_firstFrom_41 : decode cX0_firstFrom 41 = .ok (.iload 5, 2) := by decide +kernel
theorem dX0_firstFrom_43 : decode cX0_firstFrom 43 = .ok (.iconst 1, 1) := by decide +kernel
theorem dX0_firstFrom_44 : decode cX0_firstFrom 44 = .ok (.iadd, 1) := by decide +kernel
theorem dX0_firstFrom_45 : decode cX0_firstFrom 45 = .ok (.istore_n 2, 1) := by decide +kernel
theorem dX0_firstFrom_46 : decode cX0_firstFrom 46 = .ok (.goto 6, 3) := by decide +kernel
theorem dX0_firstFrom_49 : decode cX0_firstFrom 49 = .ok (.iload 5, 2) := by decide +kernel
theorem dX0_firstFrom_51 : decode cX0_firstFrom 51 = .ok (.istore_n 3, 1) := by decide +kernel
theorem dX0_firstFrom_52 : decode cX0_firstFrom 52 = .ok (.iinc 4 1, 3) := by decide +kernel
theorem dX0_firstFrom_55 : decode cX0_firstFrom 55 = .ok (.goto (-45), 3) := by decide +kernel
theorem dX0_firstFrom_58 : decode cX0_firstFrom 58 = .ok (.iload_n 2, 1) := by decide +kernel
theorem dX0_firstFrom_59 : decode cX0_firstFrom 59 = .ok (.ireturn, 1) := by decide +kernel
theorem dX0_speakersBetween_0 : decode cX0_speakersBetween 0 = .ok (.iconst 0, 1) := by decide +kernel
theorem dX0_speakersBetween_1 : decode cX0_speakersBetween 1 = .ok (.istore_n 3, 1) := by decide +kernel
theorem dX0_speakersBetween_2 : decode cX0_speakersBetween 2 = .ok (.aload_n 0, 1) := by decide +kernel
theorem dX0_speakersBetween_3 : decode cX0_speakersBetween 3 = .ok (.iload_n 1, 1) := by decide +kernel
theorem dX0_speakersBetween_4 : decode cX0_speakersBetween 4 = .ok (.invokevirtual 54, 3) := by decide +kernel
theorem dX0_speakersBetween_7 : decode cX0_speakersBetween 7 = .ok (.istore 4, 2) := by decide +kernel
theorem dX0_speakersBetween_9 : decode cX0_speakersBetween 9 = .ok (.iload 4, 2) := by decide +kernel
theorem dX0_speakersBetween_11 : decode cX0_speakersBetween 11 = .ok (.aload_n 0, 1) := by decide +kernel
theorem dX0_speakersBetween_12 : decode cX0_speakersBetween 12 = .ok (.getfield 28, 3) := by decide +kernel
theorem dX0_speakersBetween_15 : decode cX0_speakersBetween 15 = .ok (.if_icmp .ge 32, 3) := by decide +kernel
theorem dX0_speakersBetween_18 : decode cX0_speakersBetween 18 = .ok (.aload_n 0, 1) := by decide +kernel
theorem dX0_speakersBetween_19 : decode cX0_speakersBetween 19 = .ok (.getfield 9, 3) := by decide +kernel
theorem dX0_speakersBetween_22 : decode cX0_speakersBetween 22 = .ok (.iload 4, 2) := by decide +kernel
theorem dX0_speakersBetween_24 : decode cX0_speakersBetween 24 = .ok (.iaload, 1) := by decide +kernel
theorem dX0_speakersBetween_25 : decode cX0_speakersBetween 25 = .ok (.iload_n 2, 1) := by decide +kernel
theorem dX0_speakersBetween_26 : decode cX0_speakersBetween 26 = .ok (.if_icmp .gt 21, 3) := by decide +kernel
theorem dX0_speakersBetween_29 : decode cX0_speakersBetween 29 = .ok (.iload_n 3, 1) := by decide +kernel
theorem dX0_speakersBetween_30 : decode cX0_speakersBetween 30 = .ok (.iconst 1, 1) := by decide +kernel
theorem dX0_speakersBetween_31 : decode cX0_speakersBetween 31 = .ok (.aload_n 0, 1) := by decide +kernel
theorem dX0_speakersBetween_32 : decode cX0_speakersBetween 32 = .ok (.getfield 15, 3) := by decide +kernel
theorem dX0_speakersBetween_35 : decode cX0_speakersBetween 35 = .ok (.iload 4, 2) := by decide +kernel
theorem dX0_speakersBetween_37 : decode cX0_speakersBetween 37 = .ok (.iaload, 1) := by decide +kernel
theorem dX0_speakersBetween_38 : decode cX0_speakersBetween 38 = .ok (.ishl, 1) := by decide +kernel
theorem dX0_speakersBetween_39 : decode cX0_speakersBetween 39 = .ok (.ior, 1) := by decide +kernel
theorem dX0_speakersBetween_40 : decode cX0_speakersBetween 40 = .ok (.istore_n 3, 1) := by decide +kernel
theorem dX0_speakersBetween_41 : decode cX0_speakersBetween 41 = .ok (.iinc 4 1, 3) := by decide +kernel
theorem dX0_speakersBetween_44 : decode cX0_speakersBetween 44 = .ok (.goto (-35), 3) := by decide +kernel
theorem dX0_speakersBetween_47 : decode cX0_speakersBetween 47 = .ok (.iload_n 3, 1) := by decide +kernel
theorem dX0_speakersBetween_48 : decode cX0_speakersBetween 48 = .ok (.ireturn, 1) := by decide +kernel
theorem dX0_speakersNear_0 : decode cX0_speakersNear 0 = .ok (.aload_n 0, 1) := by decide +kernel
theorem dX0_speakersNear_1 : decode cX0_speakersNear 1 = .ok (.aload_n 0, 1) := by decide +kernel
theorem dX0_speakersNear_2 : decode cX0_speakersNear 2 = .ok (.getfield 9, 3) := by decide +kernel
theorem dX0_speakersNear_5 : decode cX0_speakersNear 5 = .ok (.iload_n 1, 1) := by decide +kernel
theorem dX0_speakersNear_6 : decode cX0_speakersNear 6 = .ok (.iaload, 1) := by decide +kernel
theorem dX0_speakersNear_7 : decode cX0_speakersNear 7 = .ok (.iload_n 2, 1) := by decide +kernel
theorem dX0_speakersNear_8 : decode cX0_speakersNear 8 = .ok (.isub, 1) := by decide +kernel
theorem dX0_speakersNear_9 : decode cX0_speakersNear 9 = .ok (.aload_n 0, 1) := by decide +kernel
theorem dX0_speakersNear_10 : decode cX0_speakersNear 10 = .ok (.getfield 9, 3) := by decide +kernel
theorem dX0_speakersNear_13 : decode cX0_speakersNear 13 = .ok (.iload_n 1, 1) := by decide +kernel
theorem dX0_speakersNear_14 : decode cX0_speakersNear 14 = .ok (.iaload, 1) := by decide +kernel
theorem dX0_speakersNear_15 : decode cX0_speakersNear 15 = .ok (.iload_n 2, 1) := by decide +kernel
theorem dX0_speakersNear_16 : decode cX0_speakersNear 16 = .ok (.iadd, 1) := by decide +kernel
theorem dX0_speakersNear_17 : decode cX0_speakersNear 17 = .ok (.invokevirtual 57, 3) := by decide +kernel
theorem dX0_speakersNear_20 : decode cX0_speakersNear 20 = .ok (.ireturn, 1) := by decide +kernel
theorem dX0_countTogether_0 : decode cX0_countTogether 0 = .ok (.iconst 0, 1) := by decide +kernel
theorem dX0_countTogether_1 : decode cX0_countTogether 1 = .ok (.istore 4, 2) := by decide +kernel
theorem dX0_countTogether_3 : decode cX0_countTogether 3 = .ok (.iconst 0, 1) := by decide +kernel
theorem dX0_countTogether_4 : decode cX0_countTogether 4 = .ok (.istore 5, 2) := by decide +kernel
theorem dX0_countTogether_6 : decode cX0_countTogether 6 = .ok (.iload 5, 2) := by decide +kernel
theorem dX0_countTogether_8 : decode cX0_countTogether 8 = .ok (.aload_n 0, 1) := by decide +kernel
theorem dX0_countTogether_9 : decode cX0_countTogether 9 = .ok (.getfield 28, 3) := by decide +kernel
theorem dX0_countTogether_12 : decode cX0_countTogether 12 = .ok (.if_icmp .ge 47, 3) := by decide +kernel
theorem dX0_countTogether_15 : decode cX0_countTogether 15 = .ok (.iload 4, 2) := by decide +kernel
theorem dX0_countTogether_17 : decode cX0_countTogether 17 = .ok (.aload_n 0, 1) := by decide +kernel
theorem dX0_countTogether_18 : decode cX0_countTogether 18 = .ok (.getfield 15, 3) := by decide +kernel
theorem dX0_countTogether_21 : decode cX0_countTogether 21 = .ok (.iload 5, 2) := by decide +kernel
theorem dX0_countTogether_23 : decode cX0_countTogether 23 = .ok (.iaload, 1) := by decide +kernel
theorem dX0_countTogether_24 : decode cX0_countTogether 24 = .ok (.iload_n 1, 1) := by decide +kernel
theorem dX0_countTogether_25 : decode cX0_countTogether 25 = .ok (.if_icmp .ne 21, 3) := by decide +kernel
theorem dX0_countTogether_28 : decode cX0_countTogether 28 = .ok (.aload_n 0, 1) := by decide +kernel
theorem dX0_countTogether_29 : decode cX0_countTogether 29 = .ok (.iload 5, 2) := by decide +kernel
theorem dX0_countTogether_31 : decode cX0_countTogether 31 = .ok (.iload_n 3, 1) := by decide +kernel
theorem dX0_countTogether_32 : decode cX0_countTogether 32 = .ok (.invokevirtual 61, 3) := by decide +kernel
theorem dX0_countTogether_35 : decode cX0_countTogether 35 = .ok (.iload_n 2, 1) := by decide +kernel
theorem dX0_countTogether_36 : decode cX0_countTogether 36 = .ok (.invokestatic 50, 3) := by decide +kernel
theorem dX0_countTogether_39 : decode cX0_countTogether 39 = .ok (.ifCond .eq 7, 3) := by decide +kernel
theorem dX0_countTogether_42 : decode cX0_countTogether 42 = .ok (.iconst 1, 1) := by decide +kernel
theorem dX0_countTogether_43 : decode cX0_countTogether 43 = .ok (.goto 4, 3) := by decide +kernel
theorem dX0_countTogether_46 : decode cX0_countTogether 46 = .ok (.iconst 0, 1) := by decide +kernel
theorem dX0_countTogether_47 : decode cX0_countTogether 47 = .ok (.invokestatic 43, 3) := by decide +kernel
theorem dX0_countTogether_50 : decode cX0_countTogether 50 = .ok (.iadd, 1) := by decide +kernel
theorem dX0_countTogether_51 : decode cX0_countTogether 51 = .ok (.istore 4, 2) := by decide +kernel
theorem dX0_countTogether_53 : decode cX0_countTogether 53 = .ok (.iinc 5 1, 3) := by decide +kernel
theorem dX0_countTogether_56 : decode cX0_countTogether 56 = .ok (.goto (-50), 3) := by decide +kernel
theorem dX0_countTogether_59 : decode cX0_countTogether 59 = .ok (.iload 4, 2) := by decide +kernel
theorem dX0_countTogether_61 : decode cX0_countTogether 61 = .ok (.ireturn, 1) := by decide +kernel
theorem dX0_soldPlace_0 : decode cX0_soldPlace 0 = .ok (.aload_n 0, 1) := by decide +kernel
theorem dX0_soldPlace_1 : decode cX0_soldPlace 1 = .ok (.iload_n 1, 1) := by decide +kernel
theorem dX0_soldPlace_2 : decode cX0_soldPlace 2 = .ok (.invokevirtual 64, 3) := by decide +kernel
theorem dX0_soldPlace_5 : decode cX0_soldPlace 5 = .ok (.istore_n 2, 1) := by decide +kernel
theorem dX0_soldPlace_6 : decode cX0_soldPlace 6 = .ok (.aload_n 0, 1) := by decide +kernel
theorem dX0_soldPlace_7 : decode cX0_soldPlace 7 = .ok (.iload_n 1, 1) := by decide +kernel
theorem dX0_soldPlace_8 : decode cX0_soldPlace 8 = .ok (.invokevirtual 67, 3) := by decide +kernel
theorem dX0_soldPlace_11 : decode cX0_soldPlace 11 = .ok (.i2l, 1) := by decide +kernel
theorem dX0_soldPlace_12 : decode cX0_soldPlace 12 = .ok (.lstore_n 3, 1) := by decide +kernel
theorem dX0_soldPlace_13 : decode cX0_soldPlace 13 = .ok (.lconst 0, 1) := by decide +kernel
theorem dX0_soldPlace_14 : decode cX0_soldPlace 14 = .ok (.lstore 5, 2) := by decide +kernel
theorem dX0_soldPlace_16 : decode cX0_soldPlace 16 = .ok (.iconst (-1), 1) := by decide +kernel
theorem dX0_soldPlace_17 : decode cX0_soldPlace 17 = .ok (.istore 7, 2) := by decide +kernel
theorem dX0_soldPlace_19 : decode cX0_soldPlace 19 = .ok (.lconst 0, 1) := by decide +kernel
theorem dX0_soldPlace_20 : decode cX0_soldPlace 20 = .ok (.lstore 8, 2) := by decide +kernel
theorem dX0_soldPlace_22 : decode cX0_soldPlace 22 = .ok (.lconst 1, 1) := by decide +kernel
theorem dX0_soldPlace_23 : decode cX0_soldPlace 23 = .ok (.lstore 10, 2) := by decide +kernel
theorem dX0_soldPlace_25 : decode cX0_soldPlace 25 = .ok (.iconst 0, 1) := by decide +kernel
theorem dX0_soldPlace_26 : decode cX0_soldPlace 26 = .ok (.istore 12, 2) := by decide +kernel
theorem dX0_soldPlace_28 : decode cX0_soldPlace 28 = .ok (.iconst 0, 1) := by decide +kernel
theorem dX0_soldPlace_29 : decode cX0_soldPlace 29 = .ok (.istore 13, 2) := by decide +kernel
theorem dX0_soldPlace_31 : decode cX0_soldPlace 31 = .ok (.iload 13, 2) := by decide +kernel
theorem dX0_soldPlace_33 : decode cX0_soldPlace 33 = .ok (.aload_n 0, 1) := by decide +kernel
theorem dX0_soldPlace_34 : decode cX0_soldPlace 34 = .ok (.getfield 28, 3) := by decide +kernel
theorem dX0_soldPlace_37 : decode cX0_soldPlace 37 = .ok (.if_icmp .ge 127, 3) := by decide +kernel
theorem dX0_soldPlace_40 : decode cX0_soldPlace 40 = .ok (.iload 12, 2) := by decide +kernel
theorem dX0_soldPlace_42 : decode cX0_soldPlace 42 = .ok (.iload_n 2, 1) := by decide +kernel
theorem dX0_soldPlace_43 : decode cX0_soldPlace 43 = .ok (.iconst 1, 1) := by decide +kernel
theorem dX0_soldPlace_44 : decode cX0_soldPlace 44 = .ok (.isub, 1) := by decide +kernel
theorem dX0_soldPlace_45 : decode cX0_soldPlace 45 = .ok (.if_icmp .ge 119, 3) := by decide +kernel
theorem dX0_soldPlace_48 : decode cX0_soldPlace 48 = .ok (.aload_n 0, 1) := by decide +kernel
theorem dX0_soldPlace_49 : decode cX0_soldPlace 49 = .ok (.getfield 15, 3) := by decide +kernel
theorem dX0_soldPlace_52 : decode cX0_soldPlace 52 = .ok (.iload 13, 2) := by decide +kernel
theorem dX0_soldPlace_54 : decode cX0_soldPlace 54 = .ok (.iaload, 1) := by decide +kernel
theorem dX0_soldPlace_55 : decode cX0_soldPlace 55 = .ok (.iload_n 1, 1) := by decide +kernel
theorem dX0_soldPlace_56 : decode cX0_soldPlace 56 = .ok (.if_icmp .eq 6, 3) := by decide +kernel
theorem dX0_soldPlace_59 : decode cX0_soldPlace 59 = .ok (.goto 99, 3) := by decide +kernel
theorem dX0_soldPlace_62 : decode cX0_soldPlace 62 = .ok (.iinc 12 1, 3) := by decide +kernel
theorem dX0_soldPlace_65 : decode cX0_soldPlace 65 = .ok (.lload 5, 2) := by decide +kernel
theorem dX0_soldPlace_67 : decode cX0_soldPlace 67 = .ok (.aload_n 0, 1) := by decide +kernel
theorem dX0_soldPlace_68 : decode cX0_soldPlace 68 = .ok (.getfield 9, 3) := by decide +kernel
theorem dX0_soldPlace_71 : decode cX0_soldPlace 71 = .ok (.iload 13, 2) := by decide +kernel
theorem dX0_soldPlace_73 : decode cX0_soldPlace 73 = .ok (.iaload, 1) := by decide +kernel
theorem dX0_soldPlace_74 : decode cX0_soldPlace 74 = .ok (.invokestatic 47, 3) := by decide +kernel
theorem dX0_soldPlace_77 : decode cX0_soldPlace 77 = .ok (.i2l, 1) := by decide +kernel
theorem dX0_soldPlace_78 : decode cX0_soldPlace 78 = .ok (.ladd, 1) := by decide +kernel
theorem dX0_soldPlace_79 : decode cX0_soldPlace 79 = .ok (.lstore 5, 2) := by decide +kernel
theorem dX0_soldPlace_81 : decode cX0_soldPlace 81 = .ok (.lload_n 3, 1) := by decide +kernel
theorem dX0_soldPlace_82 : decode cX0_soldPlace 82 = .ok (.aload_n 0, 1) := by decide +kernel
theorem dX0_soldPlace_83 : decode cX0_soldPlace 83 = .ok (.getfield 9, 3) := by decide +kernel
theorem dX0_soldPlace_86 : decode cX0_soldPlace 86 = .ok (.iload 13, 2) := by decide +kernel
theorem dX0_soldPlace_88 : decode cX0_soldPlace 88 = .ok (.iaload, 1) := by decide +kernel
theorem dX0_soldPlace_89 : decode cX0_soldPlace 89 = .ok (.invokestatic 47, 3) := by decide +kernel
theorem dX0_soldPlace_92 : decode cX0_soldPlace 92 = .ok (.i2l, 1) := by decide +kernel
theorem dX0_soldPlace_93 : decode cX0_soldPlace 93 = .ok (.lsub, 1) := by decide +kernel
theorem dX0_soldPlace_94 : decode cX0_soldPlace 94 = .ok (.lstore_n 3, 1) := by decide +kernel
theorem dX0_soldPlace_95 : decode cX0_soldPlace 95 = .ok (.lload 5, 2) := by decide +kernel
theorem dX0_soldPlace_97 : decode cX0_soldPlace 97 = .ok (.lload 5, 2) := by decide +kernel
theorem dX0_soldPlace_99 : decode cX0_soldPlace 99 = .ok (.lmul, 1) := by decide +kernel
theorem dX0_soldPlace_100 : decode cX0_soldPlace 100 = .ok (.iload_n 2, 1) := by decide +kernel
theorem dX0_soldPlace_101 : decode cX0_soldPlace 101 = .ok (.iload 12, 2) := by decide +kernel
theorem dX0_soldPlace_103 : decode cX0_soldPlace 103 = .ok (.isub, 1) := by decide +kernel
theorem dX0_soldPlace_104 : decode cX0_soldPlace 104 = .ok (.i2l, 1) := by decide +kernel
theorem dX0_soldPlace_105 : decode cX0_soldPlace 105 = .ok (.lmul, 1) := by decide +kernel
theorem dX0_soldPlace_106 : decode cX0_soldPlace 106 = .ok (.lload_n 3, 1) := by decide +kernel
theorem dX0_soldPlace_107 : decode cX0_soldPlace 107 = .ok (.lload_n 3, 1) := by decide +kernel
theorem dX0_soldPlace_108 : decode cX0_soldPlace 108 = .ok (.lmul, 1) := by decide +kernel
theorem dX0_soldPlace_109 : decode cX0_soldPlace 109 = .ok (.iload 12, 2) := by decide +kernel
theorem dX0_soldPlace_111 : decode cX0_soldPlace 111 = .ok (.i2l, 1) := by decide +kernel
theorem dX0_soldPlace_112 : decode cX0_soldPlace 112 = .ok (.lmul, 1) := by decide +kernel
theorem dX0_soldPlace_113 : decode cX0_soldPlace 113 = .ok (.ladd, 1) := by decide +kernel
theorem dX0_soldPlace_114 : decode cX0_soldPlace 114 = .ok (.lstore 14, 2) := by decide +kernel
theorem dX0_soldPlace_116 : decode cX0_soldPlace 116 = .ok (.iload 12, 2) := by decide +kernel
theorem dX0_soldPlace_118 : decode cX0_soldPlace 118 = .ok (.i2l, 1) := by decide +kernel
theorem dX0_soldPlace_119 : decode cX0_soldPlace 119 = .ok (.iload_n 2, 1) := by decide +kernel
theorem dX0_soldPlace_120 : decode cX0_soldPlace 120 = .ok (.iload 12, 2) := by decide +kernel
theorem dX0_soldPlace_122 : decode cX0_soldPlace 122 = .ok (.isub, 1) := by decide +kernel
theorem dX0_soldPlace_123 : decode cX0_soldPlace 123 = .ok (.i2l, 1) := by decide +kernel
theorem dX0_soldPlace_124 : decode cX0_soldPlace 124 = .ok (.lmul, 1) := by decide +kernel
theorem dX0_soldPlace_125 : decode cX0_soldPlace 125 = .ok (.lstore 16, 2) := by decide +kernel
theorem dX0_soldPlace_127 : decode cX0_soldPlace 127 = .ok (.iload 7, 2) := by decide +kernel
theorem dX0_soldPlace_129 : decode cX0_soldPlace 129 = .ok (.ifCond .lt 17, 3) := by decide +kernel
theorem dX0_soldPlace_132 : decode cX0_soldPlace 132 = .ok (.lload 14, 2) := by decide +kernel
theorem dX0_soldPlace_134 : decode cX0_soldPlace 134 = .ok (.lload 10, 2) := by decide +kernel
theorem dX0_soldPlace_136 : decode cX0_soldPlace 136 = .ok (.lmul, 1) := by decide +kernel
theorem dX0_soldPlace_137 : decode cX0_soldPlace 137 = .ok (.lload 8, 2) := by decide +kernel
theorem dX0_soldPlace_139 : decode cX0_soldPlace 139 = .ok (.lload 16, 2) := by decide +kernel
theorem dX0_soldPlace_141 : decode cX0_soldPlace 141 = .ok (.lmul, 1) := by decide +kernel
theorem dX0_soldPlace_142 : decode cX0_soldPlace 142 = .ok (.lcmp, 1) := by decide +kernel
theorem dX0_soldPlace_143 : decode cX0_soldPlace 143 = .ok (.ifCond .le 15, 3) := by decide +kernel
theorem dX0_soldPlace_146 : decode cX0_soldPlace 146 = .ok (.iload 12, 2) := by decide +kernel
theorem dX0_soldPlace_148 : decode cX0_soldPlace 148 = .ok (.istore 7, 2) := by decide +kernel
theorem dX0_soldPlace_150 : decode cX0_soldPlace 150 = .ok (.lload 14, 2) := by decide +kernel
theorem dX0_soldPlace_152 : decode cX0_soldPlace 152 = .ok (.lstore 8, 2) := by decide +kernel
theorem dX0_soldPlace_154 : decode cX0_soldPlace 154 = .ok (.lload 16, 2) := by decide +kernel
theorem dX0_soldPlace_156 : decode cX0_soldPlace 156 = .ok (.lstore 10, 2) := by decide +kernel
theorem dX0_soldPlace_158 : decode cX0_soldPlace 158 = .ok (.iinc 13 1, 3) := by decide +kernel
theorem dX0_soldPlace_161 : decode cX0_soldPlace 161 = .ok (.goto (-130), 3) := by decide +kernel
theorem dX0_soldPlace_164 : decode cX0_soldPlace 164 = .ok (.iload 7, 2) := by decide +kernel
theorem dX0_soldPlace_166 : decode cX0_soldPlace 166 = .ok (.ireturn, 1) := by decide +kernel
theorem dX0_hourSum_0 : decode cX0_hourSum 0 = .ok (.iconst 0, 1) := by decide +kernel
theorem dX0_hourSum_1 : decode cX0_hourSum 1 = .ok (.istore_n 2, 1) := by decide +kernel
theorem dX0_hourSum_2 : decode cX0_hourSum 2 = .ok (.iconst 0, 1) := by decide +kernel
theorem dX0_hourSum_3 : decode cX0_hourSum 3 = .ok (.istore_n 3, 1) := by decide +kernel
theorem dX0_hourSum_4 : decode cX0_hourSum 4 = .ok (.iload_n 3, 1) := by decide +kernel
theorem dX0_hourSum_5 : decode cX0_hourSum 5 = .ok (.aload_n 0, 1) := by decide +kernel
theorem dX0_hourSum_6 : decode cX0_hourSum 6 = .ok (.getfield 28, 3) := by decide +kernel
theorem dX0_hourSum_9 : decode cX0_hourSum 9 = .ok (.if_icmp .ge 35, 3) := by decide +kernel
theorem dX0_hourSum_12 : decode cX0_hourSum 12 = .ok (.iload_n 2, 1) := by decide +kernel
theorem dX0_hourSum_13 : decode cX0_hourSum 13 = .ok (.aload_n 0, 1) := by decide +kernel
theorem dX0_hourSum_14 : decode cX0_hourSum 14 = .ok (.getfield 15, 3) := by decide +kernel
theorem dX0_hourSum_17 : decode cX0_hourSum 17 = .ok (.iload_n 3, 1) := by decide +kernel
theorem dX0_hourSum_18 : decode cX0_hourSum 18 = .ok (.iaload, 1) := by decide +kernel
theorem dX0_hourSum_19 : decode cX0_hourSum 19 = .ok (.iload_n 1, 1) := by decide +kernel
theorem dX0_hourSum_20 : decode cX0_hourSum 20 = .ok (.if_icmp .ne 15, 3) := by decide +kernel
theorem dX0_hourSum_23 : decode cX0_hourSum 23 = .ok (.aload_n 0, 1) := by decide +kernel
theorem dX0_hourSum_24 : decode cX0_hourSum 24 = .ok (.getfield 9, 3) := by decide +kernel
theorem dX0_hourSum_27 : decode cX0_hourSum 27 = .ok (.iload_n 3, 1) := by decide +kernel
theorem dX0_hourSum_28 : decode cX0_hourSum 28 = .ok (.iaload, 1) := by decide +kernel
theorem dX0_hourSum_29 : decode cX0_hourSum 29 = .ok (.invokestatic 47, 3) := by decide +kernel
theorem dX0_hourSum_32 : decode cX0_hourSum 32 = .ok (.goto 4, 3) := by decide +kernel
theorem dX0_hourSum_35 : decode cX0_hourSum 35 = .ok (.iconst 0, 1) := by decide +kernel
theorem dX0_hourSum_36 : decode cX0_hourSum 36 = .ok (.iadd, 1) := by decide +kernel
theorem dX0_hourSum_37 : decode cX0_hourSum 37 = .ok (.istore_n 2, 1) := by decide +kernel
theorem dX0_hourSum_38 : decode cX0_hourSum 38 = .ok (.iinc 3 1, 3) := by decide +kernel
theorem dX0_hourSum_41 : decode cX0_hourSum 41 = .ok (.goto (-37), 3) := by decide +kernel
theorem dX0_hourSum_44 : decode cX0_hourSum 44 = .ok (.iload_n 2, 1) := by decide +kernel
theorem dX0_hourSum_45 : decode cX0_hourSum 45 = .ok (.ireturn, 1) := by decide +kernel
theorem dX0_become_0 : decode cX0_become 0 = .ok (.aload_n 0, 1) := by decide +kernel
theorem dX0_become_1 : decode cX0_become 1 = .ok (.aload_n 1, 1) := by decide +kernel
theorem dX0_become_2 : decode cX0_become 2 = .ok (.getfield 36, 3) := by decide +kernel
theorem dX0_become_5 : decode cX0_become 5 = .ok (.putfield 36, 3) := by decide +kernel
theorem dX0_become_8 : decode cX0_become 8 = .ok (.aload_n 0, 1) := by decide +kernel
theorem dX0_become_9 : decode cX0_become 9 = .ok (.aload_n 1, 1) := by decide +kernel
theorem dX0_become_10 : decode cX0_become 10 = .ok (.getfield 28, 3) := by decide +kernel
theorem dX0_become_13 : decode cX0_become 13 = .ok (.putfield 28, 3) := by decide +kernel
theorem dX0_become_16 : decode cX0_become 16 = .ok (.aload_n 0, 1) := by decide +kernel
theorem dX0_become_17 : decode cX0_become 17 = .ok (.aload_n 1, 1) := by decide +kernel
theorem dX0_become_18 : decode cX0_become 18 = .ok (.getfield 70, 3) := by decide +kernel
theorem dX0_become_21 : decode cX0_become 21 = .ok (.putfield 70, 3) := by decide +kernel
theorem dX0_become_24 : decode cX0_become 24 = .ok (.aload_n 1, 1) := by decide +kernel
theorem dX0_become_25 : decode cX0_become 25 = .ok (.getfield 9, 3) := by decide +kernel
theorem dX0_become_28 : decode cX0_become 28 = .ok (.iconst 0, 1) := by decide +kernel
theorem dX0_become_29 : decode cX0_become 29 = .ok (.aload_n 0, 1) := by decide +kernel
theorem dX0_become_30 : decode cX0_become 30 = .ok (.getfield 9, 3) := by decide +kernel
theorem dX0_become_33 : decode cX0_become 33 = .ok (.iconst 0, 1) := by decide +kernel
theorem dX0_become_34 : decode cX0_become 34 = .ok (.aload_n 0, 1) := by decide +kernel
theorem dX0_become_35 : decode cX0_become 35 = .ok (.getfield 28, 3) := by decide +kernel
theorem dX0_become_38 : decode cX0_become 38 = .ok (.invokestatic 73, 3) := by decide +kernel
theorem dX0_become_41 : decode cX0_become 41 = .ok (.aload_n 1, 1) := by decide +kernel
theorem dX0_become_42 : decode cX0_become 42 = .ok (.getfield 15, 3) := by decide +kernel
theorem dX0_become_45 : decode cX0_become 45 = .ok (.iconst 0, 1) := by decide +kernel
theorem dX0_become_46 : decode cX0_become 46 = .ok (.aload_n 0, 1) := by decide +kernel
theorem dX0_become_47 : decode cX0_become 47 = .ok (.getfield 15, 3) := by decide +kernel
theorem dX0_become_50 : decode cX0_become 50 = .ok (.iconst 0, 1) := by decide +kernel
theorem dX0_become_51 : decode cX0_become 51 = .ok (.aload_n 0, 1) := by decide +kernel
theorem dX0_become_52 : decode cX0_become 52 = .ok (.getfield 28, 3) := by decide +kernel
theorem dX0_become_55 : decode cX0_become 55 = .ok (.invokestatic 73, 3) := by decide +kernel
theorem dX0_become_58 : decode cX0_become 58 = .ok (.aload_n 1, 1) := by decide +kernel
theorem dX0_become_59 : decode cX0_become 59 = .ok (.getfield 18, 3) := by decide +kernel
theorem dX0_become_62 : decode cX0_become 62 = .ok (.iconst 0, 1) := by decide +kernel
theorem dX0_become_63 : decode cX0_become 63 = .ok (.aload_n 0, 1) := by decide +kernel
theorem dX0_become_64 : decode cX0_become 64 = .ok (.getfield 18, 3) := by decide +kernel
theorem dX0_become_67 : decode cX0_become 67 = .ok (.iconst 0, 1) := by decide +kernel
theorem dX0_become_68 : decode cX0_become 68 = .ok (.aload_n 0, 1) := by decide +kernel
theorem dX0_become_69 : decode cX0_become 69 = .ok (.getfield 28, 3) := by decide +kernel
theorem dX0_become_72 : decode cX0_become 72 = .ok (.invokestatic 73, 3) := by decide +kernel
theorem dX0_become_75 : decode cX0_become 75 = .ok (.aload_n 1, 1) := by decide +kernel
theorem dX0_become_76 : decode cX0_become 76 = .ok (.getfield 21, 3) := by decide +kernel
theorem dX0_become_79 : decode cX0_become 79 = .ok (.iconst 0, 1) := by decide +kernel
theorem dX0_become_80 : decode cX0_become 80 = .ok (.aload_n 0, 1) := by decide +kernel
theorem dX0_become_81 : decode cX0_become 81 = .ok (.getfield 21, 3) := by decide +kernel
theorem dX0_become_84 : decode cX0_become 84 = .ok (.iconst 0, 1) := by decide +kernel
theorem dX0_become_85 : decode cX0_become 85 = .ok (.aload_n 0, 1) := by decide +kernel
theorem dX0_become_86 : decode cX0_become 86 = .ok (.getfield 28, 3) := by decide +kernel
theorem dX0_become_89 : decode cX0_become 89 = .ok (.invokestatic 73, 3) := by decide +kernel
theorem dX0_become_92 : decode cX0_become 92 = .ok (.return_, 1) := by decide +kernel
theorem dX1_init_0 : decode cX1_init 0 = .ok (.aload_n 0, 1) := by decide +kernel
theorem dX1_init_1 : decode cX1_init 1 = .ok (.invokespecial 3, 3) := by decide +kernel
theorem dX1_init_4 : decode cX1_init 4 = .ok (.aload_n 0, 1) := by decide +kernel
theorem dX1_init_5 : decode cX1_init 5 = .ok (.bipush 6, 2) := by decide +kernel
theorem dX1_init_7 : decode cX1_init 7 = .ok (.bipush 14, 2) := by decide +kernel
theorem dX1_init_9 : decode cX1_init 9 = .ok (.multianewarray 9 2, 4) := by decide +kernel
theorem dX1_init_13 : decode cX1_init 13 = .ok (.putfield 11, 3) := by decide +kernel
theorem dX1_init_16 : decode cX1_init 16 = .ok (.return_, 1) := by decide +kernel
theorem dX1_has_0 : decode cX1_has 0 = .ok (.iload_n 1, 1) := by decide +kernel
theorem dX1_has_1 : decode cX1_has 1 = .ok (.iconst 0, 1) := by decide +kernel
theorem dX1_has_2 : decode cX1_has 2 = .ok (.aload_n 0, 1) := by decide +kernel
theorem dX1_has_3 : decode cX1_has 3 = .ok (.getfield 16, 3) := by decide +kernel
theorem dX1_has_6 : decode cX1_has 6 = .ok (.iconst 1, 1) := by decide +kernel
theorem dX1_has_7 : decode cX1_has 7 = .ok (.isub, 1) := by decide +kernel
theorem dX1_has_8 : decode cX1_has 8 = .ok (.invokestatic 20, 3) := by decide +kernel
theorem dX1_has_11 : decode cX1_has 11 = .ok (.ireturn, 1) := by decide +kernel
theorem dX1_hasAll_0 : decode cX1_hasAll 0 = .ok (.iload_n 1, 1) := by decide +kernel
theorem dX1_hasAll_1 : decode cX1_hasAll 1 = .ok (.iconst 0, 1) := by decide +kernel
theorem dX1_hasAll_2 : decode cX1_hasAll 2 = .ok (.iconst 1, 1) := by decide +kernel
theorem dX1_hasAll_3 : decode cX1_hasAll 3 = .ok (.aload_n 0, 1) := by decide +kernel
theorem dX1_hasAll_4 : decode cX1_hasAll 4 = .ok (.getfield 16, 3) := by decide +kernel
theorem dX1_hasAll_7 : decode cX1_hasAll 7 = .ok (.ishl, 1) := by decide +kernel
theorem dX1_hasAll_8 : decode cX1_hasAll 8 = .ok (.iconst 1, 1) := by decide +kernel
theorem dX1_hasAll_9 : decode cX1_hasAll 9 = .ok (.isub, 1) := by decide +kernel
theorem dX1_hasAll_10 : decode cX1_hasAll 10 = .ok (.invokestatic 20, 3) := by decide +kernel
theorem dX1_hasAll_13 : decode cX1_hasAll 13 = .ok (.ireturn, 1) := by decide +kernel
theorem dX1_add_0 : decode cX1_add 0 = .ok (.aload_n 0, 1) := by decide +kernel
theorem dX1_add_1 : decode cX1_add 1 = .ok (.getfield 11, 3) := by decide +kernel
theorem dX1_add_4 : decode cX1_add 4 = .ok (.iconst 0, 1) := by decide +kernel
theorem dX1_add_5 : decode cX1_add 5 = .ok (.aaload, 1) := by decide +kernel
theorem dX1_add_6 : decode cX1_add 6 = .ok (.aload_n 0, 1) := by decide +kernel
theorem dX1_add_7 : decode cX1_add 7 = .ok (.getfield 16, 3) := by decide +kernel
theorem dX1_add_10 : decode cX1_add 10 = .ok (.iload_n 1, 1) := by decide +kernel
theorem dX1_add_11 : decode cX1_add 11 = .ok (.iastore, 1) := by decide +kernel
theorem dX1_add_12 : decode cX1_add 12 = .ok (.aload_n 0, 1) := by decide +kernel
theorem dX1_add_13 : decode cX1_add 13 = .ok (.getfield 11, 3) := by decide +kernel
theorem dX1_add_16 : decode cX1_add 16 = .ok (.iconst 1, 1) := by decide +kernel
theorem dX1_add_17 : decode cX1_add 17 = .ok (.aaload, 1) := by decide +kernel
theorem dX1_add_18 : decode cX1_add 18 = .ok (.aload_n 0, 1) := by decide +kernel
theorem dX1_add_19 : decode cX1_add 19 = .ok (.getfield 16, 3) := by decide +kernel
theorem dX1_add_22 : decode cX1_add 22 = .ok (.iload_n 2, 1) := by decide +kernel
theorem dX1_add_23 : decode cX1_add 23 = .ok (.iastore, 1) := by decide +kernel
theorem dX1_add_24 : decode cX1_add 24 = .ok (.aload_n 0, 1) := by decide +kernel
theorem dX1_add_25 : decode cX1_add 25 = .ok (.getfield 11, 3) := by decide +kernel
theorem dX1_add_28 : decode cX1_add 28 = .ok (.iconst 2, 1) := by decide +kernel
theorem dX1_add_29 : decode cX1_add 29 = .ok (.aaload, 1) := by decide +kernel
theorem dX1_add_30 : decode cX1_add 30 = .ok (.aload_n 0, 1) := by decide +kernel
theorem dX1_add_31 : decode cX1_add 31 = .ok (.getfield 16, 3) := by decide +kernel
theorem dX1_add_34 : decode cX1_add 34 = .ok (.sipush 1023, 3) := by decide +kernel
theorem dX1_add_37 : decode cX1_add 37 = .ok (.iastore, 1) := by decide +kernel
theorem dX1_add_38 : decode cX1_add 38 = .ok (.aload_n 0, 1) := by decide +kernel
theorem dX1_add_39 : decode cX1_add 39 = .ok (.getfield 11, 3) := by decide +kernel
theorem dX1_add_42 : decode cX1_add 42 = .ok (.iconst 3, 1) := by decide +kernel
theorem dX1_add_43 : decode cX1_add 43 = .ok (.aaload, 1) := by decide +kernel
theorem dX1_add_44 : decode cX1_add 44 = .ok (.aload_n 0, 1) := by decide +kernel
theorem dX1_add_45 : decode cX1_add 45 = .ok (.getfield 16, 3) := by decide +kernel
theorem dX1_add_48 : decode cX1_add 48 = .ok (.iconst 0, 1) := by decide +kernel
theorem dX1_add_49 : decode cX1_add 49 = .ok (.iastore, 1) := by decide +kernel
theorem dX1_add_50 : decode cX1_add 50 = .ok (.aload_n 0, 1) := by decide +kernel
theorem dX1_add_51 : decode cX1_add 51 = .ok (.getfield 11, 3) := by decide +kernel
theorem dX1_add_54 : decode cX1_add 54 = .ok (.iconst 4, 1) := by decide +kernel
theorem dX1_add_55 : decode cX1_add 55 = .ok (.aaload, 1) := by decide +kernel
theorem dX1_add_56 : decode cX1_add 56 = .ok (.aload_n 0, 1) := by decide +kernel
theorem dX1_add_57 : decode cX1_add 57 = .ok (.getfield 16, 3) := by decide +kernel
theorem dX1_add_60 : decode cX1_add 60 = .ok (.iconst (-1), 1) := by decide +kernel
theorem dX1_add_61 : decode cX1_add 61 = .ok (.iastore, 1) := by decide +kernel
theorem dX1_add_62 : decode cX1_add 62 = .ok (.aload_n 0, 1) := by decide +kernel
theorem dX1_add_63 : decode cX1_add 63 = .ok (.getfield 11, 3) := by decide +kernel
theorem dX1_add_66 : decode cX1_add 66 = .ok (.iconst 5, 1) := by decide +kernel
theorem dX1_add_67 : decode cX1_add 67 = .ok (.aaload, 1) := by decide +kernel
theorem dX1_add_68 : decode cX1_add 68 = .ok (.aload_n 0, 1) := by decide +kernel
theorem dX1_add_69 : decode cX1_add 69 = .ok (.getfield 16, 3) := by decide +kernel
theorem dX1_add_72 : decode cX1_add 72 = .ok (.iconst 0, 1) := by decide +kernel
theorem dX1_add_73 : decode cX1_add 73 = .ok (.iastore, 1) := by decide +kernel
theorem dX1_add_74 : decode cX1_add 74 = .ok (.aload_n 0, 1) := by decide +kernel
theorem dX1_add_75 : decode cX1_add 75 = .ok (.dup, 1) := by decide +kernel
theorem dX1_add_76 : decode cX1_add 76 = .ok (.getfield 16, 3) := by decide +kernel
theorem dX1_add_79 : decode cX1_add 79 = .ok (.iconst 1, 1) := by decide +kernel
theorem dX1_add_80 : decode cX1_add 80 = .ok (.iadd, 1) := by decide +kernel
theorem dX1_add_81 : decode cX1_add 81 = .ok (.putfield 16, 3) := by decide +kernel
theorem dX1_add_84 : decode cX1_add 84 = .ok (.aload_n 0, 1) := by decide +kernel
theorem dX1_add_85 : decode cX1_add 85 = .ok (.getfield 16, 3) := by decide +kernel
theorem dX1_add_88 : decode cX1_add 88 = .ok (.iconst 1, 1) := by decide +kernel
theorem dX1_add_89 : decode cX1_add 89 = .ok (.isub, 1) := by decide +kernel
theorem dX1_add_90 : decode cX1_add 90 = .ok (.ireturn, 1) := by decide +kernel
theorem dX1_allows_0 : decode cX1_allows 0 = .ok (.iload_n 2, 1) := by decide +kernel
theorem dX1_allows_1 : decode cX1_allows 1 = .ok (.tableswitch 90 1 5 #[35, 44, 53, 61, 85], 35) := by decide +kernel
theorem dX1_allows_36 : decode cX1_allows 36 = .ok (.iload_n 3, 1) := by decide +kernel
theorem dX1_allows_37 : decode cX1_allows 37 = .ok (.iconst 1, 1) := by decide +kernel
theorem dX1_allows_38 : decode cX1_allows 38 = .ok (.sipush 999, 3) := by decide +kernel
theorem dX1_allows_41 : decode cX1_allows 41 = .ok (.invokestatic 20, 3) := by decide +kernel
theorem dX1_allows_44 : decode cX1_allows 44 = .ok (.ireturn, 1) := by decide +kernel
theorem dX1_allows_45 : decode cX1_allows 45 = .ok (.iload_n 3, 1) := by decide +kernel
theorem dX1_allows_46 : decode cX1_allows 46 = .ok (.iconst 1, 1) := by decide +kernel
theorem dX1_allows_47 : decode cX1_allows 47 = .ok (.sipush 1023, 3) := by decide +kernel
theorem dX1_allows_50 : decode cX1_allows 50 = .ok (.invokestatic 20, 3) := by decide +kernel
theorem dX1_allows_53 : decode cX1_allows 53 = .ok (.ireturn, 1) := by decide +kernel
theorem dX1_allows_54 : decode cX1_allows 54 = .ok (.iload_n 3, 1) := by decide +kernel
theorem dX1_allows_55 : decode cX1_allows 55 = .ok (.iconst 0, 1) := by decide +kernel
theorem dX1_allows_56 : decode cX1_allows 56 = .ok (.bipush 99, 2) := by decide +kernel
theorem dX1_allows_58 : decode cX1_allows 58 = .ok (.invokestatic 20, 3) := by decide +kernel
theorem dX1_allows_61 : decode cX1_allows 61 = .ok (.ireturn, 1) := by decide +kernel
theorem dX1_allows_62 : decode cX1_allows 62 = .ok (.iload_n 3, 1) := by decide +kernel
theorem dX1_allows_63 : decode cX1_allows 63 = .ok (.iconst (-1), 1) := by decide +kernel
theorem dX1_allows_64 : decode cX1_allows 64 = .ok (.if_icmp .eq 16, 3) := by decide +kernel
theorem dX1_allows_67 : decode cX1_allows 67 = .ok (.aload_n 0, 1) := by decide +kernel
theorem dX1_allows_68 : decode cX1_allows 68 = .ok (.iload_n 3, 1) := by decide +kernel
theorem dX1_allows_69 : decode cX1_allows 69 = .ok (.invokevirtual 24, 3) := by decide +kernel
theorem dX1_allows_72 : decode cX1_allows 72 = .ok (.ifCond .eq 12, 3) := by decide +kernel
theorem dX1_allows_75 : decode cX1_allows 75 = .ok (.iload_n 3, 1) := by decide +kernel
theorem dX1_allows_76 : decode cX1_allows 76 = .ok (.iload_n 1, 1) := by decide +kernel
theorem dX1_allows_77 : decode cX1_allows 77 = .ok (.if_icmp .eq 7, 3) := by decide +kernel
theorem dX1_allows_80 : decode cX1_allows 80 = .ok (.iconst 1, 1) := by decide +kernel
theorem dX1_allows_81 : decode cX1_allows 81 = .ok (.goto 4, 3) := by decide +kernel
theorem dX1_allows_84 : decode cX1_allows 84 = .ok (.iconst 0, 1) := by decide +kernel
theorem dX1_allows_85 : decode cX1_allows 85 = .ok (.ireturn, 1) := by decide +kernel
theorem dX1_allows_86 : decode cX1_allows 86 = .ok (.iload_n 3, 1) := by decide +kernel
theorem dX1_allows_87 : decode cX1_allows 87 = .ok (.invokestatic 28, 3) := by decide +kernel
theorem dX1_allows_90 : decode cX1_allows 90 = .ok (.ireturn, 1) := by decide +kernel
theorem dX1_allows_91 : decode cX1_allows 91 = .ok (.iconst 0, 1) := by decide +kernel
theorem dX1_allows_92 : decode cX1_allows 92 = .ok (.ireturn, 1) := by decide +kernel
theorem dX1_isOf_0 : decode cX1_isOf 0 = .ok (.aload_n 0, 1) := by decide +kernel
theorem dX1_isOf_1 : decode cX1_isOf 1 = .ok (.getfield 11, 3) := by decide +kernel
theorem dX1_isOf_4 : decode cX1_isOf 4 = .ok (.iconst 0, 1) := by decide +kernel
theorem dX1_isOf_5 : decode cX1_isOf 5 = .ok (.aaload, 1) := by decide +kernel
theorem dX1_isOf_6 : decode cX1_isOf 6 = .ok (.iload_n 1, 1) := by decide +kernel
theorem dX1_isOf_7 : decode cX1_isOf 7 = .ok (.iaload, 1) := by decide +kernel
theorem dX1_isOf_8 : decode cX1_isOf 8 = .ok (.istore_n 3, 1) := by decide +kernel
theorem dX1_isOf_9 : decode cX1_isOf 9 = .ok (.iconst 0, 1) := by decide +kernel
theorem dX1_isOf_10 : decode cX1_isOf 10 = .ok (.istore 4, 2) := by decide +kernel
theorem dX1_isOf_12 : decode cX1_isOf 12 = .ok (.iload 4, 2) := by decide +kernel
theorem dX1_isOf_14 : decode cX1_isOf 14 = .ok (.bipush 7, 2) := by decide +kernel
theorem dX1_isOf_16 : decode cX1_isOf 16 = .ok (.if_icmp .gt 26, 3) := by decide +kernel
theorem dX1_isOf_19 : decode cX1_isOf 19 = .ok (.iload_n 3, 1) := by decide +kernel
theorem dX1_isOf_20 : decode cX1_isOf 20 = .ok (.ifCond .lt 22, 3) := by decide +kernel
theorem dX1_isOf_23 : decode cX1_isOf 23 = .ok (.iload_n 3, 1) := by decide +kernel
theorem dX1_isOf_24 : decode cX1_isOf 24 = .ok (.iload_n 2, 1) := by decide +kernel
theorem dX1_isOf_25 : decode cX1_isOf 25 = .ok (.if_icmp .ne 5, 3) := by decide +kernel
theorem dX1_isOf_28 : decode cX1_isOf 28 = .ok (.iconst 1, 1) := by decide +kernel
theorem dX1_isOf_29 : decode cX1_isOf 29 = .ok (.ireturn, 1) := by decide +kernel
theorem dX1_isOf_30 : decode cX1_isOf 30 = .ok (.getstatic 31, 3) := by decide +kernel
theorem dX1_isOf_33 : decode cX1_isOf 33 = .ok (.iload_n 3, 1) := by decide +kernel
theorem dX1_isOf_34 : decode cX1_isOf 34 = .ok (.iaload, 1) := by decide +kernel
theorem dX1_isOf_35 : decode cX1_isOf 35 = .ok (.istore_n 3, 1) := by decide +kernel
theorem dX1_isOf_36 : decode cX1_isOf 36 = .ok (.iinc 4 1, 3) := by decide +kernel
theorem dX1_isOf_39 : decode cX1_isOf 39 = .ok (.goto (-27), 3) := by decide +kernel
theorem dX1_isOf_42 : decode cX1_isOf 42 = .ok (.iconst 0, 1) := by decide +kernel
theorem dX1_isOf_43 : decode cX1_isOf 43 = .ok (.ireturn, 1) := by decide +kernel
theorem dX1_peopleSet_0 : decode cX1_peopleSet 0 = .ok (.iconst 0, 1) := by decide +kernel
theorem dX1_peopleSet_1 : decode cX1_peopleSet 1 = .ok (.istore_n 1, 1) := by decide +kernel
theorem dX1_peopleSet_2 : decode cX1_peopleSet 2 = .ok (.iconst 0, 1) := by decide +kernel
theorem dX1_peopleSet_3 : decode cX1_peopleSet 3 = .ok (.istore_n 2, 1) := by decide +kernel
theorem dX1_peopleSet_4 : decode cX1_peopleSet 4 = .ok (.iload_n 2, 1) := by decide +kernel
theorem dX1_peopleSet_5 : decode cX1_peopleSet 5 = .ok (.aload_n 0, 1) := by decide +kernel
theorem dX1_peopleSet_6 : decode cX1_peopleSet 6 = .ok (.getfield 16, 3) := by decide +kernel
theorem dX1_peopleSet_9 : decode cX1_peopleSet 9 = .ok (.if_icmp .ge 24, 3) := by decide +kernel
theorem dX1_peopleSet_12 : decode cX1_peopleSet 12 = .ok (.aload_n 0, 1) := by decide +kernel
theorem dX1_peopleSet_13 : decode cX1_peopleSet 13 = .ok (.iload_n 2, 1) := by decide +kernel
theorem dX1_peopleSet_14 : decode cX1_peopleSet 14 = .ok (.iconst 1, 1) := by decide +kernel
theorem dX1_peopleSet_15 : decode cX1_peopleSet 15 = .ok (.invokevirtual 35, 3) := by decide +kernel
theorem dX1_peopleSet_18 : decode cX1_peopleSet 18 = .ok (.ifCond .eq 9, 3) := by decide +kernel
theorem dX1_peopleSet_21 : decode cX1_peopleSet 21 = .ok (.iload_n 1, 1) := by decide +kernel
theorem dX1_peopleSet_22 : decode cX1_peopleSet 22 = .ok (.iconst 1, 1) := by decide +kernel
theorem dX1_peopleSet_23 : decode cX1_peopleSet 23 = .ok (.iload_n 2, 1) := by decide +kernel
theorem dX1_peopleSet_24 : decode cX1_peopleSet 24 = .ok (.ishl, 1) := by decide +kernel
theorem dX1_peopleSet_25 : decode cX1_peopleSet 25 = .ok (.ior, 1) := by decide +kernel
theorem dX1_peopleSet_26 : decode cX1_peopleSet 26 = .ok (.istore_n 1, 1) := by decide +kernel
theorem dX1_peopleSet_27 : decode cX1_peopleSet 27 = .ok (.iinc 2 1, 3) := by decide +kernel
theorem dX1_peopleSet_30 : decode cX1_peopleSet 30 = .ok (.goto (-26), 3) := by decide +kernel
theorem dX1_peopleSet_33 : decode cX1_peopleSet 33 = .ok (.iload_n 1, 1) := by decide +kernel
theorem dX1_peopleSet_34 : decode cX1_peopleSet 34 = .ok (.ireturn, 1) := by decide +kernel
theorem dX1_machineSet_0 : decode cX1_machineSet 0 = .ok (.iconst 1, 1) := by decide +kernel
theorem dX1_machineSet_1 : decode cX1_machineSet 1 = .ok (.aload_n 0, 1) := by decide +kernel
theorem dX1_machineSet_2 : decode cX1_machineSet 2 = .ok (.getfield 16, 3) := by decide +kernel
theorem dX1_machineSet_5 : decode cX1_machineSet 5 = .ok (.ishl, 1) := by decide +kernel
theorem dX1_machineSet_6 : decode cX1_machineSet 6 = .ok (.iconst 1, 1) := by decide +kernel
theorem dX1_machineSet_7 : decode cX1_machineSet 7 = .ok (.isub, 1) := by decide +kernel
theorem dX1_machineSet_8 : decode cX1_machineSet 8 = .ok (.aload_n 0, 1) := by decide +kernel
theorem dX1_machineSet_9 : decode cX1_machineSet 9 = .ok (.invokevirtual 39, 3) := by decide +kernel
theorem dX1_machineSet_12 : decode cX1_machineSet 12 = .ok (.iconst (-1), 1) := by decide +kernel
theorem dX1_machineSet_13 : decode cX1_machineSet 13 = .ok (.ixor, 1) := by decide +kernel
theorem dX1_machineSet_14 : decode cX1_machineSet 14 = .ok (.iand, 1) := by decide +kernel
theorem dX1_machineSet_15 : decode cX1_machineSet 15 = .ok (.ireturn, 1) := by decide +kernel
theorem dX1_become_0 : decode cX1_become 0 = .ok (.aload_n 0, 1) := by decide +kernel
theorem dX1_become_1 : decode cX1_become 1 = .ok (.aload_n 1, 1) := by decide +kernel
theorem dX1_become_2 : decode cX1_become 2 = .ok (.getfield 16, 3) := by decide +kernel
theorem dX1_become_5 : decode cX1_become 5 = .ok (.putfield 16, 3) := by decide +kernel
theorem dX1_become_8 : decode cX1_become 8 = .ok (.aload_n 0, 1) := by decide +kernel
theorem dX1_become_9 : decode cX1_become 9 = .ok (.aload_n 1, 1) := by decide +kernel
theorem dX1_become_10 : decode cX1_become 10 = .ok (.getfield 43, 3) := by decide +kernel
theorem dX1_become_13 : decode cX1_become 13 = .ok (.putfield 43, 3) := by decide +kernel
theorem dX1_become_16 : decode cX1_become 16 = .ok (.aload_n 0, 1) := by decide +kernel
theorem dX1_become_17 : decode cX1_become 17 = .ok (.aload_n 1, 1) := by decide +kernel
theorem dX1_become_18 : decode cX1_become 18 = .ok (.getfield 46, 3) := by decide +kernel
theorem dX1_become_21 : decode cX1_become 21 = .ok (.putfield 46, 3) := by decide +kernel
theorem dX1_become_24 : decode cX1_become 24 = .ok (.iconst 0, 1) := by decide +kernel
theorem dX1_become_25 : decode cX1_become 25 = .ok (.istore_n 2, 1) := by decide +kernel
theorem dX1_become_26 : decode cX1_become 26 = .ok (.iload_n 2, 1) := by decide +kernel
theorem dX1_become_27 : decode cX1_become 27 = .ok (.bipush 6, 2) := by decide +kernel
theorem dX1_become_29 : decode cX1_become 29 = .ok (.if_icmp .ge 30, 3) := by decide +kernel
theorem dX1_become_32 : decode cX1_become 32 = .ok (.aload_n 1, 1) := by decide +kernel
theorem dX1_become_33 : decode cX1_become 33 = .ok (.getfield 11, 3) := by decide +kernel
theorem dX1_become_36 : decode cX1_become 36 = .ok (.iload_n 2, 1) := by decide +kernel
theorem dX1_become_37 : decode cX1_become 37 = .ok (.aaload, 1) := by decide +kernel
theorem dX1_become_38 : decode cX1_become 38 = .ok (.iconst 0, 1) := by decide +kernel
theorem dX1_become_39 : decode cX1_become 39 = .ok (.aload_n 0, 1) := by decide +kernel
theorem dX1_become_40 : decode cX1_become 40 = .ok (.getfield 11, 3) := by decide +kernel
theorem dX1_become_43 : decode cX1_become 43 = .ok (.iload_n 2, 1) := by decide +kernel
theorem dX1_become_44 : decode cX1_become 44 = .ok (.aaload, 1) := by decide +kernel
theorem dX1_become_45 : decode cX1_become 45 = .ok (.iconst 0, 1) := by decide +kernel
theorem dX1_become_46 : decode cX1_become 46 = .ok (.aload_n 0, 1) := by decide +kernel
theorem dX1_become_47 : decode cX1_become 47 = .ok (.getfield 16, 3) := by decide +kernel
theorem dX1_become_50 : decode cX1_become 50 = .ok (.invokestatic 49, 3) := by decide +kernel
theorem dX1_become_53 : decode cX1_become 53 = .ok (.iinc 2 1, 3) := by decide +kernel
theorem dX1_become_56 : decode cX1_become 56 = .ok (.goto (-30), 3) := by decide +kernel
theorem dX1_become_59 : decode cX1_become 59 = .ok (.return_, 1) := by decide +kernel
theorem dX2_init_0 : decode cX2_init 0 = .ok (.aload_n 0, 1) := by decide +kernel
theorem dX2_init_1 : decode cX2_init 1 = .ok (.invokespecial 3, 3) := by decide +kernel
theorem dX2_init_4 : decode cX2_init 4 = .ok (.return_, 1) := by decide +kernel
theorem dX2_read_0 : decode cX2_read 0 = .ok (.aload_n 0, 1) := by decide +kernel
theorem dX2_read_1 : decode cX2_read 1 = .ok (.aload_n 1, 1) := by decide +kernel
theorem dX2_read_2 : decode cX2_read 2 = .ok (.putfield 9, 3) := by decide +kernel
theorem dX2_read_5 : decode cX2_read 5 = .ok (.aload_n 0, 1) := by decide +kernel
theorem dX2_read_6 : decode cX2_read 6 = .ok (.iload_n 2, 1) := by decide +kernel
theorem dX2_read_7 : decode cX2_read 7 = .ok (.putfield 15, 3) := by decide +kernel
theorem dX2_read_10 : decode cX2_read 10 = .ok (.aload_n 0, 1) := by decide +kernel
theorem dX2_read_11 : decode cX2_read 11 = .ok (.aload_n 3, 1) := by decide +kernel
theorem dX2_read_12 : decode cX2_read 12 = .ok (.putfield 19, 3) := by decide +kernel
theorem dX2_read_15 : decode cX2_read 15 = .ok (.aload_n 0, 1) := by decide +kernel
theorem dX2_read_16 : decode cX2_read 16 = .ok (.iconst 0, 1) := by decide +kernel
theorem dX2_read_17 : decode cX2_read 17 = .ok (.putfield 22, 3) := by decide +kernel
theorem dX2_read_20 : decode cX2_read 20 = .ok (.aload_n 0, 1) := by decide +kernel
theorem dX2_read_21 : decode cX2_read 21 = .ok (.iconst (-1), 1) := by decide +kernel
theorem dX2_read_22 : decode cX2_read 22 = .ok (.putfield 25, 3) := by decide +kernel
theorem dX2_read_25 : decode cX2_read 25 = .ok (.aload_n 0, 1) := by decide +kernel
theorem dX2_read_26 : decode cX2_read 26 = .ok (.invokevirtual 28, 3) := by decide +kernel
theorem dX2_read_29 : decode cX2_read 29 = .ok (.aload_n 0, 1) := by decide +kernel
theorem dX2_read_30 : decode cX2_read 30 = .ok (.iconst 0, 1) := by decide +kernel
theorem dX2_read_31 : decode cX2_read 31 = .ok (.invokevirtual 31, 3) := by decide +kernel
theorem dX2_read_34 : decode cX2_read 34 = .ok (.istore 4, 2) := by decide +kernel
theorem dX2_read_36 : decode cX2_read 36 = .ok (.aload_n 0, 1) := by decide +kernel
theorem dX2_read_37 : decode cX2_read 37 = .ok (.iconst 0, 1) := by decide +kernel
theorem dX2_read_38 : decode cX2_read 38 = .ok (.invokevirtual 35, 3) := by decide +kernel
theorem dX2_read_41 : decode cX2_read 41 = .ok (.iload 4, 2) := by decide +kernel
theorem dX2_read_43 : decode cX2_read 43 = .ok (.ireturn, 1) := by decide +kernel
theorem dX2_readText_0 : decode cX2_readText 0 = .ok (.aload_n 0, 1) := by decide +kernel
theorem dX2_readText_1 : decode cX2_readText 1 = .ok (.iload_n 1, 1) := by decide +kernel
theorem dX2_readText_2 : decode cX2_readText 2 = .ok (.invokevirtual 39, 3) := by decide +kernel
theorem dX2_readText_5 : decode cX2_readText 5 = .ok (.istore_n 2, 1) := by decide +kernel
theorem dX2_readText_6 : decode cX2_readText 6 = .ok (.aload_n 0, 1) := by decide +kernel
theorem dX2_readText_7 : decode cX2_readText 7 = .ok (.getfield 42, 3) := by decide +kernel
theorem dX2_readText_10 : decode cX2_readText 10 = .ok (.istore_n 3, 1) := by decide +kernel
theorem dX2_readText_11 : decode cX2_readText 11 = .ok (.iload_n 3, 1) := by decide +kernel
theorem dX2_readText_12 : decode cX2_readText 12 = .ok (.bipush 60, 2) := by decide +kernel
theorem dX2_readText_14 : decode cX2_readText 14 = .ok (.if_icmp .eq 11, 3) := by decide +kernel
theorem dX2_readText_17 : decode cX2_readText 17 = .ok (.iload_n 3, 1) := by decide +kernel
theorem dX2_readText_18 : decode cX2_readText 18 = .ok (.bipush 61, 2) := by decide +kernel
theorem dX2_readText_20 : decode cX2_readText 20 = .ok (.if_icmp .eq 5, 3) := by decide +kernel
theorem dX2_readText_23 : decode cX2_readText 23 = .ok (.iload_n 2, 1) := by decide +kernel
theorem dX2_readText_24 : decode cX2_readText 24 = .ok (.ireturn, 1) := by decide +kernel
theorem dX2_readText_25 : decode cX2_readText 25 = .ok (.aload_n 0, 1) := by decide +kernel
theorem dX2_readText_26 : decode cX2_readText 26 = .ok (.invokevirtual 28, 3) := by decide +kernel
theorem dX2_readText_29 : decode cX2_readText 29 = .ok (.aload_n 0, 1) := by decide +kernel
theorem dX2_readText_30 : decode cX2_readText 30 = .ok (.iload_n 1, 1) := by decide +kernel
theorem dX2_readText_31 : decode cX2_readText 31 = .ok (.invokevirtual 39, 3) := by decide +kernel
theorem dX2_readText_34 : decode cX2_readText 34 = .ok (.istore 4, 2) := by decide +kernel
theorem dX2_readText_36 : decode cX2_readText 36 = .ok (.iload_n 3, 1) := by decide +kernel
theorem dX2_readText_37 : decode cX2_readText 37 = .ok (.bipush 60, 2) := by decide +kernel
theorem dX2_readText_39 : decode cX2_readText 39 = .ok (.if_icmp .ne 17, 3) := by decide +kernel
theorem dX2_readText_42 : decode cX2_readText 42 = .ok (.iload_n 2, 1) := by decide +kernel
theorem dX2_readText_43 : decode cX2_readText 43 = .ok (.iload 4, 2) := by decide +kernel
theorem dX2_readText_45 : decode cX2_readText 45 = .ok (.if_icmp .ge 7, 3) := by decide +kernel
theorem dX2_readText_48 : decode cX2_readText 48 = .ok (.iconst 1, 1) := by decide +kernel
theorem dX2_readText_49 : decode cX2_readText 49 = .ok (.goto 18, 3) := by decide +kernel
theorem dX2_readText_52 : decode cX2_readText 52 = .ok (.iconst 0, 1) := by decide +kernel
theorem dX2_readText_53 : decode cX2_readText 53 = .ok (.goto 14, 3) := by decide +kernel
theorem dX2_readText_56 : decode cX2_readText 56 = .ok (.iload_n 2, 1) := by decide +kernel
theorem dX2_readText_57 : decode cX2_readText 57 = .ok (.iload 4, 2) := by decide +kernel
theorem dX2_readText_59 : decode cX2_readText 59 = .ok (.if_icmp .ne 7, 3) := by decide +kernel
theorem dX2_readText_62 : decode cX2_readText 62 = .ok (.iconst 1, 1) := by decide +kernel
theorem dX2_readText_63 : decode cX2_readText 63 = .ok (.goto 4, 3) := by decide +kernel
theorem dX2_readText_66 : decode cX2_readText 66 = .ok (.iconst 0, 1) := by decide +kernel
theorem dX2_readText_67 : decode cX2_readText 67 = .ok (.invokestatic 45, 3) := by decide +kernel
theorem dX2_readText_70 : decode cX2_readText 70 = .ok (.ireturn, 1) := by decide +kernel
theorem dX2_readSum_0 : decode cX2_readSum 0 = .ok (.aload_n 0, 1) := by decide +kernel
theorem dX2_readSum_1 : decode cX2_readSum 1 = .ok (.iload_n 1, 1) := by decide +kernel
theorem dX2_readSum_2 : decode cX2_readSum 2 = .ok (.invokevirtual 49, 3) := by decide +kernel
theorem dX2_readSum_5 : decode cX2_readSum 5 = .ok (.istore_n 2, 1) := by decide +kernel
theorem dX2_readSum_6 : decode cX2_readSum 6 = .ok (.iconst 0, 1) := by decide +kernel
theorem dX2_readSum_7 : decode cX2_readSum 7 = .ok (.istore_n 3, 1) := by decide +kernel
theorem dX2_readSum_8 : decode cX2_readSum 8 = .ok (.iload_n 3, 1) := by decide +kernel
theorem dX2_readSum_9 : decode cX2_readSum 9 = .ok (.bipush 80, 2) := by decide +kernel
theorem dX2_readSum_11 : decode cX2_readSum 11 = .ok (.if_icmp .ge 63, 3) := by decide +kernel
theorem dX2_readSum_14 : decode cX2_readSum 14 = .ok (.aload_n 0, 1) := by decide +kernel
theorem dX2_readSum_15 : decode cX2_readSum 15 = .ok (.getfield 42, 3) := by decide +kernel
theorem dX2_readSum_18 : decode cX2_readSum 18 = .ok (.bipush 43, 2) := by decide +kernel
theorem dX2_readSum_20 : decode cX2_readSum 20 = .ok (.if_icmp .eq 12, 3) := by decide +kernel
theorem dX2_readSum_23 : decode cX2_readSum 23 = .ok (.aload_n 0, 1) := by decide +kernel
theorem dX2_readSum_24 : decode cX2_readSum 24 = .ok (.getfield 42, 3) := by decide +kernel
theorem dX2_readSum_27 : decode cX2_readSum 27 = .ok (.bipush 45, 2) := by decide +kernel
theorem dX2_readSum_29 : decode cX2_readSum 29 = .ok (.if_icmp .ne 45, 3) := by decide +kernel
theorem dX2_readSum_32 : decode cX2_readSum 32 = .ok (.aload_n 0, 1) := by decide +kernel
theorem dX2_readSum_33 : decode cX2_readSum 33 = .ok (.getfield 42, 3) := by decide +kernel
theorem dX2_readSum_36 : decode cX2_readSum 36 = .ok (.istore 4, 2) := by decide +kernel
theorem dX2_readSum_38 : decode cX2_readSum 38 = .ok (.aload_n 0, 1) := by decide +kernel
theorem dX2_readSum_39 : decode cX2_readSum 39 = .ok (.invokevirtual 28, 3) := by decide +kernel
theorem dX2_readSum_42 : decode cX2_readSum 42 = .ok (.aload_n 0, 1) := by decide +kernel
theorem dX2_readSum_43 : decode cX2_readSum 43 = .ok (.iload_n 1, 1) := by decide +kernel
theorem dX2_readSum_44 : decode cX2_readSum 44 = .ok (.invokevirtual 49, 3) := by decide +kernel
theorem dX2_readSum_47 : decode cX2_readSum 47 = .ok (.istore 5, 2) := by decide +kernel
theorem dX2_readSum_49 : decode cX2_readSum 49 = .ok (.iload 4, 2) := by decide +kernel
theorem dX2_readSum_51 : decode cX2_readSum 51 = .ok (.bipush 43, 2) := by decide +kernel
theorem dX2_readSum_53 : decode cX2_readSum 53 = .ok (.if_icmp .ne 10, 3) := by decide +kernel
theorem dX2_readSum_56 : decode cX2_readSum 56 = .ok (.iload_n 2, 1) := by decide +kernel
theorem dX2_readSum_57 : decode cX2_readSum 57 = .ok (.iload 5, 2) := by decide +kernel
theorem dX2_readSum_59 : decode cX2_readSum 59 = .ok (.iadd, 1) := by decide +kernel
theorem dX2_readSum_60 : decode cX2_readSum 60 = .ok (.goto 7, 3) := by decide +kernel
theorem dX2_readSum_63 : decode cX2_readSum 63 = .ok (.iload_n 2, 1) := by decide +kernel
theorem dX2_readSum_64 : decode cX2_readSum 64 = .ok (.iload 5, 2) := by decide +kernel
theorem dX2_readSum_66 : decode cX2_readSum 66 = .ok (.isub, 1) := by decide +kernel
theorem dX2_readSum_67 : decode cX2_readSum 67 = .ok (.istore_n 2, 1) := by decide +kernel
theorem dX2_readSum_68 : decode cX2_readSum 68 = .ok (.iinc 3 1, 3) := by decide +kernel
theorem dX2_readSum_71 : decode cX2_readSum 71 = .ok (.goto (-63), 3) := by decide +kernel
theorem dX2_readSum_74 : decode cX2_readSum 74 = .ok (.iload_n 2, 1) := by decide +kernel
theorem dX2_readSum_75 : decode cX2_readSum 75 = .ok (.ireturn, 1) := by decide +kernel
theorem dX2_readTerm_0 : decode cX2_readTerm 0 = .ok (.aload_n 0, 1) := by decide +kernel
theorem dX2_readTerm_1 : decode cX2_readTerm 1 = .ok (.iload_n 1, 1) := by decide +kernel
theorem dX2_readTerm_2 : decode cX2_readTerm 2 = .ok (.invokevirtual 52, 3) := by decide +kernel
theorem dX2_readTerm_5 : decode cX2_readTerm 5 = .ok (.istore_n 2, 1) := by decide +kernel
theorem dX2_readTerm_6 : decode cX2_readTerm 6 = .ok (.iconst 0, 1) := by decide +kernel
theorem dX2_readTerm_7 : decode cX2_readTerm 7 = .ok (.istore_n 3, 1) := by decide +kernel
theorem dX2_readTerm_8 : decode cX2_readTerm 8 = .ok (.iload_n 3, 1) := by decide +kernel
theorem dX2_readTerm_9 : decode cX2_readTerm 9 = .ok (.bipush 80, 2) := by decide +kernel
theorem dX2_readTerm_11 : decode cX2_readTerm 11 = .ok (.if_icmp .ge 65, 3) := by decide +kernel
theorem dX2_readTerm_14 : decode cX2_readTerm 14 = .ok (.aload_n 0, 1) := by decide +kernel
theorem dX2_readTerm_15 : decode cX2_readTerm 15 = .ok (.getfield 42, 3) := by decide +kernel
theorem dX2_readTerm_18 : decode cX2_readTerm 18 = .ok (.bipush 42, 2) := by decide +kernel
theorem dX2_readTerm_20 : decode cX2_readTerm 20 = .ok (.if_icmp .eq 12, 3) := by decide +kernel
theorem dX2_readTerm_23 : decode cX2_readTerm 23 = .ok (.aload_n 0, 1) := by decide +kernel
theorem dX2_readTerm_24 : decode cX2_readTerm 24 = .ok (.getfield 42, 3) := by decide +kernel
theorem dX2_readTerm_27 : decode cX2_readTerm 27 = .ok (.bipush 47, 2) := by decide +kernel
theorem dX2_readTerm_29 : decode cX2_readTerm 29 = .ok (.if_icmp .ne 47, 3) := by decide +kernel
theorem dX2_readTerm_32 : decode cX2_readTerm 32 = .ok (.aload_n 0, 1) := by decide +kernel
theorem dX2_readTerm_33 : decode cX2_readTerm 33 = .ok (.getfield 42, 3) := by decide +kernel
theorem dX2_readTerm_36 : decode cX2_readTerm 36 = .ok (.istore 4, 2) := by decide +kernel
theorem dX2_readTerm_38 : decode cX2_readTerm 38 = .ok (.aload_n 0, 1) := by decide +kernel
theorem dX2_readTerm_39 : decode cX2_readTerm 39 = .ok (.invokevirtual 28, 3) := by decide +kernel
theorem dX2_readTerm_42 : decode cX2_readTerm 42 = .ok (.aload_n 0, 1) := by decide +kernel
theorem dX2_readTerm_43 : decode cX2_readTerm 43 = .ok (.iload_n 1, 1) := by decide +kernel
theorem dX2_readTerm_44 : decode cX2_readTerm 44 = .ok (.invokevirtual 52, 3) := by decide +kernel
theorem dX2_readTerm_47 : decode cX2_readTerm 47 = .ok (.istore 5, 2) := by decide +kernel
theorem dX2_readTerm_49 : decode cX2_readTerm 49 = .ok (.iload 4, 2) := by decide +kernel
theorem dX2_readTerm_51 : decode cX2_readTerm 51 = .ok (.bipush 42, 2) := by decide +kernel
theorem dX2_readTerm_53 : decode cX2_readTerm 53 = .ok (.if_icmp .ne 10, 3) := by decide +kernel
theorem dX2_readTerm_56 : decode cX2_readTerm 56 = .ok (.iload_n 2, 1) := by decide +kernel
theorem dX2_readTerm_57 : decode cX2_readTerm 57 = .ok (.iload 5, 2) := by decide +kernel
theorem dX2_readTerm_59 : decode cX2_readTerm 59 = .ok (.imul, 1) := by decide +kernel
theorem dX2_readTerm_60 : decode cX2_readTerm 60 = .ok (.goto 9, 3) := by decide +kernel
theorem dX2_readTerm_63 : decode cX2_readTerm 63 = .ok (.iload_n 2, 1) := by decide +kernel
theorem dX2_readTerm_64 : decode cX2_readTerm 64 = .ok (.iload 5, 2) := by decide +kernel
theorem dX2_readTerm_66 : decode cX2_readTerm 66 = .ok (.invokestatic 55, 3) := by decide +kernel
theorem dX2_readTerm_69 : decode cX2_readTerm 69 = .ok (.istore_n 2, 1) := by decide +kernel
theorem dX2_readTerm_70 : decode cX2_readTerm 70 = .ok (.iinc 3 1, 3) := by decide +kernel
theorem dX2_readTerm_73 : decode cX2_readTerm 73 = .ok (.goto (-65), 3) := by decide +kernel
theorem dX2_readTerm_76 : decode cX2_readTerm 76 = .ok (.iload_n 2, 1) := by decide +kernel
theorem dX2_readTerm_77 : decode cX2_readTerm 77 = .ok (.ireturn, 1) := by decide +kernel
theorem dX2_readOne_0 : decode cX2_readOne 0 = .ok (.aload_n 0, 1) := by decide +kernel
theorem dX2_readOne_1 : decode cX2_readOne 1 = .ok (.getfield 42, 3) := by decide +kernel
theorem dX2_readOne_4 : decode cX2_readOne 4 = .ok (.istore_n 2, 1) := by decide +kernel
theorem dX2_readOne_5 : decode cX2_readOne 5 = .ok (.aload_n 0, 1) := by decide +kernel
theorem dX2_readOne_6 : decode cX2_readOne 6 = .ok (.getfield 59, 3) := by decide +kernel
theorem dX2_readOne_9 : decode cX2_readOne 9 = .ok (.istore_n 3, 1) := by decide +kernel
theorem dX2_readOne_10 : decode cX2_readOne 10 = .ok (.iload_n 2, 1) := by decide +kernel
theorem dX2_readOne_11 : decode cX2_readOne 11 = .ok (.iconst 2, 1) := by decide +kernel
theorem dX2_readOne_12 : decode cX2_readOne 12 = .ok (.if_icmp .eq 8, 3) := by decide +kernel
theorem dX2_readOne_15 : decode cX2_readOne 15 = .ok (.iload_n 2, 1) := by decide +kernel
theorem dX2_readOne_16 : decode cX2_readOne 16 = .ok (.iconst 3, 1) := by decide +kernel
theorem dX2_readOne_17 : decode cX2_readOne 17 = .ok (.if_icmp .ne 9, 3) := by decide +kernel
theorem dX2_readOne_20 : decode cX2_readOne 20 = .ok (.aload_n 0, 1) := by decide +kernel
theorem dX2_readOne_21 : decode cX2_readOne 21 = .ok (.invokevirtual 28, 3) := by decide +kernel
theorem dX2_readOne_24 : decode cX2_readOne 24 = .ok (.iload_n 3, 1) := by decide +kernel
theorem dX2_readOne_25 : decode cX2_readOne 25 = .ok (.ireturn, 1) := by decide +kernel
theorem dX2_readOne_26 : decode cX2_readOne 26 = .ok (.iload_n 2, 1) := by decide +kernel
theorem dX2_readOne_27 : decode cX2_readOne 27 = .ok (.bipush 45, 2) := by decide +kernel
theorem dX2_readOne_29 : decode cX2_readOne 29 = .ok (.if_icmp .eq 9, 3) := by decide +kernel
theorem dX2_readOne_32 : decode cX2_readOne 32 = .ok (.iload_n 2, 1) := by decide +kernel
theorem dX2_readOne_33 : decode cX2_readOne 33 = .ok (.bipush 40, 2) := by decide +kernel
theorem dX2_readOne_35 : decode cX2_readOne 35 = .ok (.if_icmp .ne 9, 3) := by decide +kernel
theorem dX2_readOne_38 : decode cX2_readOne 38 = .ok (.iload_n 1, 1) := by decide +kernel
theorem dX2_readOne_39 : decode cX2_readOne 39 = .ok (.bipush 6, 2) := by decide +kernel
theorem dX2_readOne_41 : decode cX2_readOne 41 = .ok (.if_icmp .lt 9, 3) := by decide +kernel
theorem dX2_readOne_44 : decode cX2_readOne 44 = .ok (.aload_n 0, 1) := by decide +kernel
theorem dX2_readOne_45 : decode cX2_readOne 45 = .ok (.invokevirtual 62, 3) := by decide +kernel
theorem dX2_readOne_48 : decode cX2_readOne 48 = .ok (.iconst 0, 1) := by decide +kernel
theorem dX2_readOne_49 : decode cX2_readOne 49 = .ok (.ireturn, 1) := by decide +kernel
theorem dX2_readOne_50 : decode cX2_readOne 50 = .ok (.aload_n 0, 1) := by decide +kernel
theorem dX2_readOne_51 : decode cX2_readOne 51 = .ok (.invokevirtual 28, 3) := by decide +kernel
theorem dX2_readOne_54 : decode cX2_readOne 54 = .ok (.iload_n 2, 1) := by decide +kernel
theorem dX2_readOne_55 : decode cX2_readOne 55 = .ok (.bipush 45, 2) := by decide +kernel
theorem dX2_readOne_57 : decode cX2_readOne 57 = .ok (.if_icmp .ne 12, 3) := by decide +kernel
theorem dX2_readOne_60 : decode cX2_readOne 60 = .ok (.aload_n 0, 1) := by decide +kernel
theorem dX2_readOne_61 : decode cX2_readOne 61 = .ok (.iload_n 1, 1) := by decide +kernel
theorem dX2_readOne_62 : decode cX2_readOne 62 = .ok (.iconst 1, 1) := by decide +kernel
theorem dX2_readOne_63 : decode cX2_readOne 63 = .ok (.iadd, 1) := by decide +kernel
theorem dX2_readOne_64 : decode cX2_readOne 64 = .ok (.invokevirtual 52, 3) := by decide +kernel
theorem dX2_readOne_67 : decode cX2_readOne 67 = .ok (.ineg, 1) := by decide +kernel
theorem dX2_readOne_68 : decode cX2_readOne 68 = .ok (.ireturn, 1) := by decide +kernel
theorem dX2_readOne_69 : decode cX2_readOne 69 = .ok (.aload_n 0, 1) := by decide +kernel
theorem dX2_readOne_70 : decode cX2_readOne 70 = .ok (.iload_n 1, 1) := by decide +kernel
theorem dX2_readOne_71 : decode cX2_readOne 71 = .ok (.iconst 1, 1) := by decide +kernel
theorem dX2_readOne_72 : decode cX2_readOne 72 = .ok (.iadd, 1) := by decide +kernel
theorem dX2_readOne_73 : decode cX2_readOne 73 = .ok (.invokevirtual 31, 3) := by decide +kernel
theorem dX2_readOne_76 : decode cX2_readOne 76 = .ok (.istore_n 3, 1) := by decide +kernel
theorem dX2_readOne_77 : decode cX2_readOne 77 = .ok (.aload_n 0, 1) := by decide +kernel
theorem dX2_readOne_78 : decode cX2_readOne 78 = .ok (.bipush 41, 2) := by decide +kernel
theorem dX2_readOne_80 : decode cX2_readOne 80 = .ok (.invokevirtual 35, 3) := by decide +kernel
theorem dX2_readOne_83 : decode cX2_readOne 83 = .ok (.iload_n 3, 1) := by decide +kernel
theorem dX2_readOne_84 : decode cX2_readOne 84 = .ok (.ireturn, 1) := by decide +kernel
theorem dX2_take_0 : decode cX2_take 0 = .ok (.aload_n 0, 1) := by decide +kernel
theorem dX2_take_1 : decode cX2_take 1 = .ok (.getfield 42, 3) := by decide +kernel
theorem dX2_take_4 : decode cX2_take 4 = .ok (.iload_n 1, 1) := by decide +kernel
theorem dX2_take_5 : decode cX2_take 5 = .ok (.if_icmp .ne 10, 3) := by decide +kernel
theorem dX2_take_8 : decode cX2_take 8 = .ok (.aload_n 0, 1) := by decide +kernel
theorem dX2_take_9 : decode cX2_take 9 = .ok (.invokevirtual 28, 3) := by decide +kernel
theorem dX2_take_12 : decode cX2_take 12 = .ok (.goto 7, 3) := by decide +kernel
theorem dX2_take_15 : decode cX2_take 15 = .ok (.aload_n 0, 1) := by decide +kernel
theorem dX2_take_16 : decode cX2_take 16 = .ok (.invokevirtual 62, 3) := by decide +kernel
theorem dX2_take_19 : decode cX2_take 19 = .ok (.return_, 1) := by decide +kernel
theorem dX2_fail_0 : decode cX2_fail 0 = .ok (.aload_n 0, 1) := by decide +kernel
theorem dX2_fail_1 : decode cX2_fail 1 = .ok (.getfield 25, 3) := by decide +kernel
theorem dX2_fail_4 : decode cX2_fail 4 = .ok (.ifCond .ge 11, 3) := by decide +kernel
theorem dX2_fail_7 : decode cX2_fail 7 = .ok (.aload_n 0, 1) := by decide +kernel
theorem dX2_fail_8 : decode cX2_fail 8 = .ok (.aload_n 0, 1) := by decide +kernel
theorem dX2_fail_9 : decode cX2_fail 9 = .ok (.getfield 65, 3) := by decide +kernel
theorem dX2_fail_12 : decode cX2_fail 12 = .ok (.putfield 25, 3) := by decide +kernel
theorem dX2_fail_15 : decode cX2_fail 15 = .ok (.aload_n 0, 1) := by decide +kernel
theorem dX2_fail_16 : decode cX2_fail 16 = .ok (.iconst 1, 1) := by decide +kernel
theorem dX2_fail_17 : decode cX2_fail 17 = .ok (.putfield 42, 3) := by decide +kernel
theorem dX2_fail_20 : decode cX2_fail 20 = .ok (.return_, 1) := by decide +kernel
theorem dX2_step_0 : decode cX2_step 0 = .ok (.aload_n 0, 1) := by decide +kernel
theorem dX2_step_1 : decode cX2_step 1 = .ok (.getfield 22, 3) := by decide +kernel
theorem dX2_step_4 : decode cX2_step 4 = .ok (.aload_n 0, 1) := by decide +kernel
theorem dX2_step_5 : decode cX2_step 5 = .ok (.getfield 15, 3) := by decide +kernel
theorem dX2_step_8 : decode cX2_step 8 = .ok (.if_icmp .ge 30, 3) := by decide +kernel
theorem dX2_step_11 : decode cX2_step 11 = .ok (.aload_n 0, 1) := by decide +kernel
theorem dX2_step_12 : decode cX2_step 12 = .ok (.getfield 9, 3) := by decide +kernel
theorem dX2_step_15 : decode cX2_step 15 = .ok (.aload_n 0, 1) := by decide +kernel
theorem dX2_step_16 : decode cX2_step 16 = .ok (.getfield 22, 3) := by decide +kernel
theorem dX2_step_19 : decode cX2_step 19 = .ok (.iaload, 1) := by decide +kernel
theorem dX2_step_20 : decode cX2_step 20 = .ok (.bipush 32, 2) := by decide +kernel
theorem dX2_step_22 : decode cX2_step 22 = .ok (.if_icmp .ne 16, 3) := by decide +kernel
theorem dX2_step_25 : decode cX2_step 25 = .ok (.aload_n 0, 1) := by decide +kernel
theorem dX2_step_26 : decode cX2_step 26 = .ok (.dup, 1) := by decide +kernel
theorem dX2_step_27 : decode cX2_step 27 = .ok (.getfield 22, 3) := by decide +kernel
theorem dX2_step_30 : decode cX2_step 30 = .ok (.iconst 1, 1) := by decide +kernel
theorem dX2_step_31 : decode cX2_step 31 = .ok (.iadd, 1) := by decide +kernel
theorem dX2_step_32 : decode cX2_step 32 = .ok (.putfield 22, 3) := by decide +kernel
theorem dX2_step_35 : decode cX2_step 35 = .ok (.goto (-35), 3) := by decide +kernel
theorem dX2_step_38 : decode cX2_step 38 = .ok (.aload_n 0, 1) := by decide +kernel
theorem dX2_step_39 : decode cX2_step 39 = .ok (.aload_n 0, 1) := by decide +kernel
theorem dX2_step_40 : decode cX2_step 40 = .ok (.getfield 22, 3) := by decide +kernel
theorem dX2_step_43 : decode cX2_step 43 = .ok (.putfield 65, 3) := by decide +kernel
theorem dX2_step_46 : decode cX2_step 46 = .ok (.aload_n 0, 1) := by decide +kernel
theorem dX2_step_47 : decode cX2_step 47 = .ok (.getfield 22, 3) := by decide +kernel
theorem dX2_step_50 : decode cX2_step 50 = .ok (.aload_n 0, 1) := by decide +kernel
theorem dX2_step_51 : decode cX2_step 51 = .ok (.getfield 15, 3) := by decide +kernel
theorem dX2_step_54 : decode cX2_step 54 = .ok (.if_icmp .lt 9, 3) := by decide +kernel
theorem dX2_step_57 : decode cX2_step 57 = .ok (.aload_n 0, 1) := by decide +kernel
theorem dX2_step_58 : decode cX2_step 58 = .ok (.iconst 0, 1) := by decide +kernel
theorem dX2_step_59 : decode cX2_step 59 = .ok (.putfield 42, 3) := by decide +kernel
theorem dX2_step_62 : decode cX2_step 62 = .ok (.return_, 1) := by decide +kernel
theorem dX2_step_63 : decode cX2_step 63 = .ok (.aload_n 0, 1) := by decide +kernel
theorem dX2_step_64 : decode cX2_step 64 = .ok (.getfield 9, 3) := by decide +kernel
theorem dX2_step_67 : decode cX2_step 67 = .ok (.aload_n 0, 1) := by decide +kernel
theorem dX2_step_68 : decode cX2_step 68 = .ok (.getfield 22, 3) := by decide +kernel
theorem dX2_step_71 : decode cX2_step 71 = .ok (.iaload, 1) := by decide +kernel
theorem dX2_step_72 : decode cX2_step 72 = .ok (.istore_n 1, 1) := by decide +kernel
theorem dX2_step_73 : decode cX2_step 73 = .ok (.iload_n 1, 1) := by decide +kernel
theorem dX2_step_74 : decode cX2_step 74 = .ok (.invokestatic 68, 3) := by decide +kernel
theorem dX2_step_77 : decode cX2_step 77 = .ok (.ifCond .eq 8, 3) := by decide +kernel
theorem dX2_step_80 : decode cX2_step 80 = .ok (.aload_n 0, 1) := by decide +kernel
theorem dX2_step_81 : decode cX2_step 81 = .ok (.invokevirtual 72, 3) := by decide +kernel
theorem dX2_step_84 : decode cX2_step 84 = .ok (.return_, 1) := by decide +kernel
theorem dX2_step_85 : decode cX2_step 85 = .ok (.aload_n 0, 1) := by decide +kernel
theorem dX2_step_86 : decode cX2_step 86 = .ok (.dup, 1) := by decide +kernel
theorem dX2_step_87 : decode cX2_step 87 = .ok (.getfield 22, 3) := by decide +kernel
theorem dX2_step_90 : decode cX2_step 90 = .ok (.iconst 1, 1) := by decide +kernel
theorem dX2_step_91 : decode cX2_step 91 = .ok (.iadd, 1) := by decide +kernel
theorem dX2_step_92 : decode cX2_step 92 = .ok (.putfield 22, 3) := by decide +kernel
theorem dX2_step_95 : decode cX2_step 95 = .ok (.ldc 75, 2) := by decide +kernel
theorem dX2_step_97 : decode cX2_step 97 = .ok (.iload_n 1, 1) := by decide +kernel
theorem dX2_step_98 : decode cX2_step 98 = .ok (.i2c, 1) := by decide +kernel
theorem dX2_step_99 : decode cX2_step 99 = .ok (.invokevirtual 77, 3) := by decide +kernel
theorem dX2_step_102 : decode cX2_step 102 = .ok (.istore_n 2, 1) := by decide +kernel
theorem dX2_step_103 : decode cX2_step 103 = .ok (.iload_n 2, 1) := by decide +kernel
theorem dX2_step_104 : decode cX2_step 104 = .ok (.ifCond .lt 21, 3) := by decide +kernel
theorem dX2_step_107 : decode cX2_step 107 = .ok (.aload_n 0, 1) := by decide +kernel
theorem dX2_step_108 : decode cX2_step 108 = .ok (.iconst 3, 1) := by decide +kernel
theorem dX2_step_109 : decode cX2_step 109 = .ok (.putfield 42, 3) := by decide +kernel
theorem dX2_step_112 : decode cX2_step 112 = .ok (.aload_n 0, 1) := by decide +kernel
theorem dX2_step_113 : decode cX2_step 113 = .ok (.aload_n 0, 1) := by decide +kernel
theorem dX2_step_114 : decode cX2_step 114 = .ok (.getfield 19, 3) := by decide +kernel
theorem dX2_step_117 : decode cX2_step 117 = .ok (.iload_n 2, 1) := by decide +kernel
theorem dX2_step_118 : decode cX2_step 118 = .ok (.iaload, 1) := by decide +kernel
theorem dX2_step_119 : decode cX2_step 119 = .ok (.putfield 59, 3) := by decide +kernel
theorem dX2_step_122 : decode cX2_step 122 = .ok (.goto 19, 3) := by decide +kernel
theorem dX2_step_125 : decode cX2_step 125 = .ok (.aload_n 0, 1) := by decide +kernel
theorem dX2_step_126 : decode cX2_step 126 = .ok (.iload_n 1, 1) := by decide +kernel
theorem dX2_step_127 : decode cX2_step 127 = .ok (.invokestatic 82, 3) := by decide +kernel
theorem dX2_step_130 : decode cX2_step 130 = .ok (.ifCond .eq 7, 3) := by decide +kernel
theorem dX2_step_133 : decode cX2_step 133 = .ok (.iload_n 1, 1) := by decide +kernel
theorem dX2_step_134 : decode cX2_step 134 = .ok (.goto 4, 3) := by decide +kernel
theorem dX2_step_137 : decode cX2_step 137 = .ok (.iconst 1, 1) := by decide +kernel
theorem dX2_step_138 : decode cX2_step 138 = .ok (.putfield 42, 3) := by decide +kernel
theorem dX2_step_141 : decode cX2_step 141 = .ok (.return_, 1) := by decide +kernel
theorem dX2_stepNumber_0 : decode cX2_stepNumber 0 = .ok (.iconst 0, 1) := by decide +kernel
theorem dX2_stepNumber_1 : decode cX2_stepNumber 1 = .ok (.istore_n 1, 1) := by decide +kernel
theorem dX2_stepNumber_2 : decode cX2_stepNumber 2 = .ok (.aload_n 0, 1) := by decide +kernel
theorem dX2_stepNumber_3 : decode cX2_stepNumber 3 = .ok (.getfield 22, 3) := by decide +kernel
theorem dX2_stepNumber_6 : decode cX2_stepNumber 6 = .ok (.aload_n 0, 1) := by decide +kernel
theorem dX2_stepNumber_7 : decode cX2_stepNumber 7 = .ok (.getfield 15, 3) := by decide +kernel
theorem dX2_stepNumber_10 : decode cX2_stepNumber 10 = .ok (.if_icmp .ge 55, 3) := by decide +kernel
theorem dX2_stepNumber_13 : decode cX2_stepNumber 13 = .ok (.aload_n 0, 1) := by decide +kernel
theorem dX2_stepNumber_14 : decode cX2_stepNumber 14 = .ok (.getfield 9, 3) := by decide +kernel
theorem dX2_stepNumber_17 : decode cX2_stepNumber 17 = .ok (.aload_n 0, 1) := by decide +kernel
theorem dX2_stepNumber_18 : decode cX2_stepNumber 18 = .ok (.getfield 22, 3) := by decide +kernel
theorem dX2_stepNumber_21 : decode cX2_stepNumber 21 = .ok (.iaload, 1) := by decide +kernel
theorem dX2_stepNumber_22 : decode cX2_stepNumber 22 = .ok (.invokestatic 68, 3) := by decide +kernel
theorem dX2_stepNumber_25 : decode cX2_stepNumber 25 = .ok (.ifCond .eq 40, 3) := by decide +kernel
theorem dX2_stepNumber_28 : decode cX2_stepNumber 28 = .ok (.iload_n 1, 1) := by decide +kernel
theorem dX2_stepNumber_29 : decode cX2_stepNumber 29 = .ok (.bipush 10, 2) := by decide +kernel
theorem dX2_stepNumber_31 : decode cX2_stepNumber 31 = .ok (.imul, 1) := by decide +kernel
theorem dX2_stepNumber_32 : decode cX2_stepNumber 32 = .ok (.aload_n 0, 1) := by decide +kernel
theorem dX2_stepNumber_33 : decode cX2_stepNumber 33 = .ok (.getfield 9, 3) := by decide +kernel
theorem dX2_stepNumber_36 : decode cX2_stepNumber 36 = .ok (.aload_n 0, 1) := by decide +kernel
theorem dX2_stepNumber_37 : decode cX2_stepNumber 37 = .ok (.getfield 22, 3) := by decide +kernel
theorem dX2_stepNumber_40 : decode cX2_stepNumber 40 = .ok (.iaload, 1) := by decide +kernel
theorem dX2_stepNumber_41 : decode cX2_stepNumber 41 = .ok (.iadd, 1) := by decide +kernel
theorem dX2_stepNumber_42 : decode cX2_stepNumber 42 = .ok (.bipush 48, 2) := by decide +kernel
theorem dX2_stepNumber_44 : decode cX2_stepNumber 44 = .ok (.isub, 1) := by decide +kernel
theorem dX2_stepNumber_45 : decode cX2_stepNumber 45 = .ok (.sipush 10000, 3) := by decide +kernel
theorem dX2_stepNumber_48 : decode cX2_stepNumber 48 = .ok (.invokestatic 85, 3) := by decide +kernel
theorem dX2_stepNumber_51 : decode cX2_stepNumber 51 = .ok (.istore_n 1, 1) := by decide +kernel
theorem dX2_stepNumber_52 : decode cX2_stepNumber 52 = .ok (.aload_n 0, 1) := by decide +kernel
theorem dX2_stepNumber_53 : decode cX2_stepNumber 53 = .ok (.dup, 1) := by decide +kernel
theorem dX2_stepNumber_54 : decode cX2_stepNumber 54 = .ok (.getfield 22, 3) := by decide +kernel
theorem dX2_stepNumber_57 : decode cX2_stepNumber 57 = .ok (.iconst 1, 1) := by decide +kernel
theorem dX2_stepNumber_58 : decode cX2_stepNumber 58 = .ok (.iadd, 1) := by decide +kernel
theorem dX2_stepNumber_59 : decode cX2_stepNumber 59 = .ok (.putfield 22, 3) := by decide +kernel
theorem dX2_stepNumber_62 : decode cX2_stepNumber 62 = .ok (.goto (-60), 3) := by decide +kernel
theorem dX2_stepNumber_65 : decode cX2_stepNumber 65 = .ok (.aload_n 0, 1) := by decide +kernel
theorem dX2_stepNumber_66 : decode cX2_stepNumber 66 = .ok (.iload_n 1, 1) := by decide +kernel
theorem dX2_stepNumber_67 : decode cX2_stepNumber 67 = .ok (.sipush 9999, 3) := by decide +kernel
theorem dX2_stepNumber_70 : decode cX2_stepNumber 70 = .ok (.if_icmp .le 7, 3) := by decide +kernel
theorem dX2_stepNumber_73 : decode cX2_stepNumber 73 = .ok (.iconst 1, 1) := by decide +kernel
theorem dX2_stepNumber_74 : decode cX2_stepNumber 74 = .ok (.goto 4, 3) := by decide +kernel
theorem dX2_stepNumber_77 : decode cX2_stepNumber 77 = .ok (.iconst 2, 1) := by decide +kernel
theorem dX2_stepNumber_78 : decode cX2_stepNumber 78 = .ok (.putfield 42, 3) := by decide +kernel
theorem dX2_stepNumber_81 : decode cX2_stepNumber 81 = .ok (.aload_n 0, 1) := by decide +kernel
theorem dX2_stepNumber_82 : decode cX2_stepNumber 82 = .ok (.iload_n 1, 1) := by decide +kernel
theorem dX2_stepNumber_83 : decode cX2_stepNumber 83 = .ok (.putfield 59, 3) := by decide +kernel
theorem dX2_stepNumber_86 : decode cX2_stepNumber 86 = .ok (.return_, 1) := by decide +kernel
theorem dX2_isDigit_0 : decode cX2_isDigit 0 = .ok (.iload_n 0, 1) := by decide +kernel
theorem dX2_isDigit_1 : decode cX2_isDigit 1 = .ok (.bipush 48, 2) := by decide +kernel
theorem dX2_isDigit_3 : decode cX2_isDigit 3 = .ok (.if_icmp .lt 13, 3) := by decide +kernel
theorem dX2_isDigit_6 : decode cX2_isDigit 6 = .ok (.iload_n 0, 1) := by decide +kernel
theorem dX2_isDigit_7 : decode cX2_isDigit 7 = .ok (.bipush 57, 2) := by decide +kernel
theorem dX2_isDigit_9 : decode cX2_isDigit 9 = .ok (.if_icmp .gt 7, 3) := by decide +kernel
theorem dX2_isDigit_12 : decode cX2_isDigit 12 = .ok (.iconst 1, 1) := by decide +kernel
theorem dX2_isDigit_13 : decode cX2_isDigit 13 = .ok (.goto 4, 3) := by decide +kernel
theorem dX2_isDigit_16 : decode cX2_isDigit 16 = .ok (.iconst 0, 1) := by decide +kernel
theorem dX2_isDigit_17 : decode cX2_isDigit 17 = .ok (.ireturn, 1) := by decide +kernel
theorem dX2_isMark_0 : decode cX2_isMark 0 = .ok (.iload_n 0, 1) := by decide +kernel
theorem dX2_isMark_1 : decode cX2_isMark 1 = .ok (.bipush 40, 2) := by decide +kernel
theorem dX2_isMark_3 : decode cX2_isMark 3 = .ok (.if_icmp .lt 9, 3) := by decide +kernel
theorem dX2_isMark_6 : decode cX2_isMark 6 = .ok (.iload_n 0, 1) := by decide +kernel
theorem dX2_isMark_7 : decode cX2_isMark 7 = .ok (.bipush 43, 2) := by decide +kernel
theorem dX2_isMark_9 : decode cX2_isMark 9 = .ok (.if_icmp .le 27, 3) := by decide +kernel
theorem dX2_isMark_12 : decode cX2_isMark 12 = .ok (.iload_n 0, 1) := by decide +kernel
theorem dX2_isMark_13 : decode cX2_isMark 13 = .ok (.bipush 45, 2) := by decide +kernel
theorem dX2_isMark_15 : decode cX2_isMark 15 = .ok (.if_icmp .eq 21, 3) := by decide +kernel
theorem dX2_isMark_18 : decode cX2_isMark 18 = .ok (.iload_n 0, 1) := by decide +kernel
theorem dX2_isMark_19 : decode cX2_isMark 19 = .ok (.bipush 47, 2) := by decide +kernel
theorem dX2_isMark_21 : decode cX2_isMark 21 = .ok (.if_icmp .eq 15, 3) := by decide +kernel
theorem dX2_isMark_24 : decode cX2_isMark 24 = .ok (.iload_n 0, 1) := by decide +kernel
theorem dX2_isMark_25 : decode cX2_isMark 25 = .ok (.bipush 60, 2) := by decide +kernel
theorem dX2_isMark_27 : decode cX2_isMark 27 = .ok (.if_icmp .eq 9, 3) := by decide +kernel
theorem dX2_isMark_30 : decode cX2_isMark 30 = .ok (.iload_n 0, 1) := by decide +kernel
theorem dX2_isMark_31 : decode cX2_isMark 31 = .ok (.bipush 61, 2) := by decide +kernel
theorem dX2_isMark_33 : decode cX2_isMark 33 = .ok (.if_icmp .ne 7, 3) := by decide +kernel
theorem dX2_isMark_36 : decode cX2_isMark 36 = .ok (.iconst 1, 1) := by decide +kernel
theorem dX2_isMark_37 : decode cX2_isMark 37 = .ok (.goto 4, 3) := by decide +kernel
theorem dX2_isMark_40 : decode cX2_isMark 40 = .ok (.iconst 0, 1) := by decide +kernel
theorem dX2_isMark_41 : decode cX2_isMark 41 = .ok (.ireturn, 1) := by decide +kernel
theorem dX3_init_0 : decode cX3_init 0 = .ok (.aload_n 0, 1) := by decide +kernel
theorem dX3_init_1 : decode cX3_init 1 = .ok (.invokespecial 3, 3) := by decide +kernel
theorem dX3_init_4 : decode cX3_init 4 = .ok (.aload_n 0, 1) := by decide +kernel
theorem dX3_init_5 : decode cX3_init 5 = .ok (.new 9, 3) := by decide +kernel
theorem dX3_init_8 : decode cX3_init 8 = .ok (.dup, 1) := by decide +kernel
theorem dX3_init_9 : decode cX3_init 9 = .ok (.invokespecial 11, 3) := by decide +kernel
theorem dX3_init_12 : decode cX3_init 12 = .ok (.putfield 12, 3) := by decide +kernel
theorem dX3_init_15 : decode cX3_init 15 = .ok (.aload_n 0, 1) := by decide +kernel
theorem dX3_init_16 : decode cX3_init 16 = .ok (.new 18, 3) := by decide +kernel
theorem dX3_init_19 : decode cX3_init 19 = .ok (.dup, 1) := by decide +kernel
theorem dX3_init_20 : decode cX3_init 20 = .ok (.invokespecial 20, 3) := by decide +kernel
theorem dX3_init_23 : decode cX3_init 23 = .ok (.putfield 21, 3) := by decide +kernel
theorem dX3_init_26 : decode cX3_init 26 = .ok (.aload_n 0, 1) := by decide +kernel
theorem dX3_init_27 : decode cX3_init 27 = .ok (.new 25, 3) := by decide +kernel
theorem dX3_init_30 : decode cX3_init 30 = .ok (.dup, 1) := by decide +kernel
theorem dX3_init_31 : decode cX3_init 31 = .ok (.invokespecial 27, 3) := by decide +kernel
theorem dX3_init_34 : decode cX3_init 34 = .ok (.putfield 28, 3) := by decide +kernel
theorem dX3_init_37 : decode cX3_init 37 = .ok (.aload_n 0, 1) := by decide +kernel
theorem dX3_init_38 : decode cX3_init 38 = .ok (.bipush 10, 2) := by decide +kernel
theorem dX3_init_40 : decode cX3_init 40 = .ok (.newarray .int, 2) := by decide +kernel
theorem dX3_init_42 : decode cX3_init 42 = .ok (.putfield 32, 3) := by decide +kernel
theorem dX3_init_45 : decode cX3_init 45 = .ok (.aload_n 0, 1) := by decide +kernel
theorem dX3_init_46 : decode cX3_init 46 = .ok (.iconst 1, 1) := by decide +kernel
theorem dX3_init_47 : decode cX3_init 47 = .ok (.putfield 36, 3) := by decide +kernel
theorem dX3_init_50 : decode cX3_init 50 = .ok (.iconst 0, 1) := by decide +kernel
theorem dX3_init_51 : decode cX3_init 51 = .ok (.istore_n 1, 1) := by decide +kernel
theorem dX3_init_52 : decode cX3_init 52 = .ok (.iload_n 1, 1) := by decide +kernel
theorem dX3_init_53 : decode cX3_init 53 = .ok (.bipush 10, 2) := by decide +kernel
theorem dX3_init_55 : decode cX3_init 55 = .ok (.if_icmp .ge 16, 3) := by decide +kernel
theorem dX3_init_58 : decode cX3_init 58 = .ok (.aload_n 0, 1) := by decide +kernel
theorem dX3_init_59 : decode cX3_init 59 = .ok (.getfield 32, 3) := by decide +kernel
theorem dX3_init_62 : decode cX3_init 62 = .ok (.iload_n 1, 1) := by decide +kernel
theorem dX3_init_63 : decode cX3_init 63 = .ok (.iconst (-1), 1) := by decide +kernel
theorem dX3_init_64 : decode cX3_init 64 = .ok (.iastore, 1) := by decide +kernel
theorem dX3_init_65 : decode cX3_init 65 = .ok (.iinc 1 1, 3) := by decide +kernel
theorem dX3_init_68 : decode cX3_init 68 = .ok (.goto (-16), 3) := by decide +kernel
theorem dX3_init_71 : decode cX3_init 71 = .ok (.return_, 1) := by decide +kernel
theorem dX3_isSpeaking_0 : decode cX3_isSpeaking 0 = .ok (.aload_n 0, 1) := by decide +kernel
theorem dX3_isSpeaking_1 : decode cX3_isSpeaking 1 = .ok (.getfield 12, 3) := by decide +kernel
theorem dX3_isSpeaking_4 : decode cX3_isSpeaking 4 = .ok (.getfield 40, 3) := by decide +kernel
theorem dX3_isSpeaking_7 : decode cX3_isSpeaking 7 = .ok (.iconst 0, 1) := by decide +kernel
theorem dX3_isSpeaking_8 : decode cX3_isSpeaking 8 = .ok (.aaload, 1) := by decide +kernel
theorem dX3_isSpeaking_9 : decode cX3_isSpeaking 9 = .ok (.iload_n 1, 1) := by decide +kernel
theorem dX3_isSpeaking_10 : decode cX3_isSpeaking 10 = .ok (.iaload, 1) := by decide +kernel
theorem dX3_isSpeaking_11 : decode cX3_isSpeaking 11 = .ok (.tableswitch 153 1 7 #[41, 48, 41, 55, 79, 105, 129], 41) := by decide +kernel
theorem dX3_isSpeaking_52 : decode cX3_isSpeaking 52 = .ok (.aload_n 0, 1) := by decide +kernel
theorem dX3_isSpeaking_53 : decode cX3_isSpeaking 53 = .ok (.iload_n 1, 1) := by decide +kernel
theorem dX3_isSpeaking_54 : decode cX3_isSpeaking 54 = .ok (.iload_n 2, 1) := by decide +kernel
theorem dX3_isSpeaking_55 : decode cX3_isSpeaking 55 = .ok (.invokevirtual 44, 3) := by decide +kernel
theorem dX3_isSpeaking_58 : decode cX3_isSpeaking 58 = .ok (.ireturn, 1) := by decide +kernel
theorem dX3_isSpeaking_59 : decode cX3_isSpeaking 59 = .ok (.aload_n 0, 1) := by decide +kernel
theorem dX3_isSpeaking_60 : decode cX3_isSpeaking 60 = .ok (.iload_n 1, 1) := by decide +kernel
theorem dX3_isSpeaking_61 : decode cX3_isSpeaking 61 = .ok (.iload_n 2, 1) := by decide +kernel
theorem dX3_isSpeaking_62 : decode cX3_isSpeaking 62 = .ok (.invokevirtual 48, 3) := by decide +kernel
theorem dX3_isSpeaking_65 : decode cX3_isSpeaking 65 = .ok (.ireturn, 1) := by decide +kernel
theorem dX3_isSpeaking_66 : decode cX3_isSpeaking 66 = .ok (.aload_n 0, 1) := by decide +kernel
theorem dX3_isSpeaking_67 : decode cX3_isSpeaking 67 = .ok (.iload_n 1, 1) := by decide +kernel
theorem dX3_isSpeaking_68 : decode cX3_isSpeaking 68 = .ok (.iload_n 2, 1) := by decide +kernel
theorem dX3_isSpeaking_69 : decode cX3_isSpeaking 69 = .ok (.invokevirtual 48, 3) := by decide +kernel
theorem dX3_isSpeaking_72 : decode cX3_isSpeaking 72 = .ok (.ifCond .eq 16, 3) := by decide +kernel
theorem dX3_isSpeaking_75 : decode cX3_isSpeaking 75 = .ok (.aload_n 0, 1) := by decide +kernel
theorem dX3_isSpeaking_76 : decode cX3_isSpeaking 76 = .ok (.iload_n 1, 1) := by decide +kernel
theorem dX3_isSpeaking_77 : decode cX3_isSpeaking 77 = .ok (.iload_n 2, 1) := by decide +kernel
theorem dX3_isSpeaking_78 : decode cX3_isSpeaking 78 = .ok (.invokevirtual 51, 3) := by decide +kernel
theorem dX3_isSpeaking_81 : decode cX3_isSpeaking 81 = .ok (.ifCond .eq 7, 3) := by decide +kernel
theorem dX3_isSpeaking_84 : decode cX3_isSpeaking 84 = .ok (.iconst 1, 1) := by decide +kernel
theorem dX3_isSpeaking_85 : decode cX3_isSpeaking 85 = .ok (.goto 4, 3) := by decide +kernel
theorem dX3_isSpeaking_88 : decode cX3_isSpeaking 88 = .ok (.iconst 0, 1) := by decide +kernel
theorem dX3_isSpeaking_89 : decode cX3_isSpeaking 89 = .ok (.ireturn, 1) := by decide +kernel
theorem dX3_isSpeaking_90 : decode cX3_isSpeaking 90 = .ok (.iload_n 2, 1) := by decide +kernel
theorem dX3_isSpeaking_91 : decode cX3_isSpeaking 91 = .ok (.iconst 2, 1) := by decide +kernel
theorem dX3_isSpeaking_92 : decode cX3_isSpeaking 92 = .ok (.iload_n 1, 1) := by decide +kernel
theorem dX3_isSpeaking_93 : decode cX3_isSpeaking 93 = .ok (.imul, 1) := by decide +kernel
theorem dX3_isSpeaking_94 : decode cX3_isSpeaking 94 = .ok (.if_icmp .lt 20, 3) := by decide +kernel
theorem dX3_isSpeaking_97 : decode cX3_isSpeaking 97 = .ok (.aload_n 0, 1) := by decide +kernel
theorem dX3_isSpeaking_98 : decode cX3_isSpeaking 98 = .ok (.iload_n 1, 1) := by decide +kernel
theorem dX3_isSpeaking_99 : decode cX3_isSpeaking 99 = .ok (.iload_n 2, 1) := by decide +kernel
theorem dX3_isSpeaking_100 : decode cX3_isSpeaking 100 = .ok (.iconst 2, 1) := by decide +kernel
theorem dX3_isSpeaking_101 : decode cX3_isSpeaking 101 = .ok (.iload_n 1, 1) := by decide +kernel
theorem dX3_isSpeaking_102 : decode cX3_isSpeaking 102 = .ok (.imul, 1) := by decide +kernel
theorem dX3_isSpeaking_103 : decode cX3_isSpeaking 103 = .ok (.isub, 1) := by decide +kernel
theorem dX3_isSpeaking_104 : decode cX3_isSpeaking 104 = .ok (.invokevirtual 54, 3) := by decide +kernel
theorem dX3_isSpeaking_107 : decode cX3_isSpeaking 107 = .ok (.ifCond .eq 7, 3) := by decide +kernel
theorem dX3_isSpeaking_110 : decode cX3_isSpeaking 110 = .ok (.iconst 1, 1) := by decide +kernel
theorem dX3_isSpeaking_111 : decode cX3_isSpeaking 111 = .ok (.goto 4, 3) := by decide +kernel
theorem dX3_isSpeaking_114 : decode cX3_isSpeaking 114 = .ok (.iconst 0, 1) := by decide +kernel
theorem dX3_isSpeaking_115 : decode cX3_isSpeaking 115 = .ok (.ireturn, 1) := by decide +kernel
theorem dX3_isSpeaking_116 : decode cX3_isSpeaking 116 = .ok (.aload_n 0, 1) := by decide +kernel
theorem dX3_isSpeaking_117 : decode cX3_isSpeaking 117 = .ok (.iload_n 1, 1) := by decide +kernel
theorem dX3_isSpeaking_118 : decode cX3_isSpeaking 118 = .ok (.iload_n 2, 1) := by decide +kernel
theorem dX3_isSpeaking_119 : decode cX3_isSpeaking 119 = .ok (.invokevirtual 44, 3) := by decide +kernel
theorem dX3_isSpeaking_122 : decode cX3_isSpeaking 122 = .ok (.ifCond .ne 12, 3) := by decide +kernel
theorem dX3_isSpeaking_125 : decode cX3_isSpeaking 125 = .ok (.aload_n 0, 1) := by decide +kernel
theorem dX3_isSpeaking_126 : decode cX3_isSpeaking 126 = .ok (.iload_n 1, 1) := by decide +kernel
theorem dX3_isSpeaking_127 : decode cX3_isSpeaking 127 = .ok (.iload_n 2, 1) := by decide +kernel
theorem dX3_isSpeaking_128 : decode cX3_isSpeaking 128 = .ok (.invokevirtual 57, 3) := by decide +kernel
theorem dX3_isSpeaking_131 : decode cX3_isSpeaking 131 = .ok (.ifCond .eq 7, 3) := by decide +kernel
theorem dX3_isSpeaking_134 : decode cX3_isSpeaking 134 = .ok (.iconst 1, 1) := by decide +kernel
theorem dX3_isSpeaking_135 : decode cX3_isSpeaking 135 = .ok (.goto 4, 3) := by decide +kernel
theorem dX3_isSpeaking_138 : decode cX3_isSpeaking 138 = .ok (.iconst 0, 1) := by decide +kernel
theorem dX3_isSpeaking_139 : decode cX3_isSpeaking 139 = .ok (.ireturn, 1) := by decide +kernel
theorem dX3_isSpeaking_140 : decode cX3_isSpeaking 140 = .ok (.aload_n 0, 1) := by decide +kernel
theorem dX3_isSpeaking_141 : decode cX3_isSpeaking 141 = .ok (.iload_n 1, 1) := by decide +kernel
theorem dX3_isSpeaking_142 : decode cX3_isSpeaking 142 = .ok (.iload_n 2, 1) := by decide +kernel
theorem dX3_isSpeaking_143 : decode cX3_isSpeaking 143 = .ok (.invokevirtual 60, 3) := by decide +kernel
theorem dX3_isSpeaking_146 : decode cX3_isSpeaking 146 = .ok (.ifCond .eq 16, 3) := by decide +kernel
theorem dX3_isSpeaking_149 : decode cX3_isSpeaking 149 = .ok (.aload_n 0, 1) := by decide +kernel
theorem dX3_isSpeaking_150 : decode cX3_isSpeaking 150 = .ok (.iload_n 1, 1) := by decide +kernel
theorem dX3_isSpeaking_151 : decode cX3_isSpeaking 151 = .ok (.iload_n 2, 1) := by decide +kernel
theorem dX3_isSpeaking_152 : decode cX3_isSpeaking 152 = .ok (.invokevirtual 51, 3) := by decide +kernel
theorem dX3_isSpeaking_155 : decode cX3_isSpeaking 155 = .ok (.ifCond .eq 7, 3) := by decide +kernel
theorem dX3_isSpeaking_158 : decode cX3_isSpeaking 158 = .ok (.iconst 1, 1) := by decide +kernel
theorem dX3_isSpeaking_159 : decode cX3_isSpeaking 159 = .ok (.goto 4, 3) := by decide +kernel
theorem dX3_isSpeaking_162 : decode cX3_isSpeaking 162 = .ok (.iconst 0, 1) := by decide +kernel
theorem dX3_isSpeaking_163 : decode cX3_isSpeaking 163 = .ok (.ireturn, 1) := by decide +kernel
theorem dX3_isSpeaking_164 : decode cX3_isSpeaking 164 = .ok (.aload_n 0, 1) := by decide +kernel
theorem dX3_isSpeaking_165 : decode cX3_isSpeaking 165 = .ok (.iload_n 1, 1) := by decide +kernel
theorem dX3_isSpeaking_166 : decode cX3_isSpeaking 166 = .ok (.iload_n 2, 1) := by decide +kernel
theorem dX3_isSpeaking_167 : decode cX3_isSpeaking 167 = .ok (.invokevirtual 54, 3) := by decide +kernel
theorem dX3_isSpeaking_170 : decode cX3_isSpeaking 170 = .ok (.ireturn, 1) := by decide +kernel
theorem dX3_isAsName_0 : decode cX3_isAsName 0 = .ok (.iload_n 2, 1) := by decide +kernel
theorem dX3_isAsName_1 : decode cX3_isAsName 1 = .ok (.aload_n 0, 1) := by decide +kernel
theorem dX3_isAsName_2 : decode cX3_isAsName 2 = .ok (.getfield 12, 3) := by decide +kernel
theorem dX3_isAsName_5 : decode cX3_isAsName 5 = .ok (.getfield 40, 3) := by decide +kernel
theorem dX3_isAsName_8 : decode cX3_isAsName 8 = .ok (.iconst 1, 1) := by decide +kernel
theorem dX3_isAsName_9 : decode cX3_isAsName 9 = .ok (.aaload, 1) := by decide +kernel
theorem dX3_isAsName_10 : decode cX3_isAsName 10 = .ok (.iload_n 1, 1) := by decide +kernel
theorem dX3_isAsName_11 : decode cX3_isAsName 11 = .ok (.iaload, 1) := by decide +kernel
theorem dX3_isAsName_12 : decode cX3_isAsName 12 = .ok (.invokestatic 63, 3) := by decide +kernel
theorem dX3_isAsName_15 : decode cX3_isAsName 15 = .ok (.ifCond .ne 7, 3) := by decide +kernel
theorem dX3_isAsName_18 : decode cX3_isAsName 18 = .ok (.iconst 1, 1) := by decide +kernel
theorem dX3_isAsName_19 : decode cX3_isAsName 19 = .ok (.goto 4, 3) := by decide +kernel
theorem dX3_isAsName_22 : decode cX3_isAsName 22 = .ok (.iconst 0, 1) := by decide +kernel
theorem dX3_isAsName_23 : decode cX3_isAsName 23 = .ok (.ireturn, 1) := by decide +kernel
theorem dX3_isAsPerson_0 : decode cX3_isAsPerson 0 = .ok (.aload_n 0, 1) := by decide +kernel
theorem dX3_isAsPerson_1 : decode cX3_isAsPerson 1 = .ok (.iload_n 1, 1) := by decide +kernel
theorem dX3_isAsPerson_2 : decode cX3_isAsPerson 2 = .ok (.iload_n 2, 1) := by decide +kernel
theorem dX3_isAsPerson_3 : decode cX3_isAsPerson 3 = .ok (.invokevirtual 54, 3) := by decide +kernel
theorem dX3_isAsPerson_6 : decode cX3_isAsPerson 6 = .ok (.ifCond .eq 16, 3) := by decide +kernel
theorem dX3_isAsPerson_9 : decode cX3_isAsPerson 9 = .ok (.aload_n 0, 1) := by decide +kernel
theorem dX3_isAsPerson_10 : decode cX3_isAsPerson 10 = .ok (.iload_n 1, 1) := by decide +kernel
theorem dX3_isAsPerson_11 : decode cX3_isAsPerson 11 = .ok (.iload_n 2, 1) := by decide +kernel
theorem dX3_isAsPerson_12 : decode cX3_isAsPerson 12 = .ok (.invokevirtual 51, 3) := by decide +kernel
theorem dX3_isAsPerson_15 : decode cX3_isAsPerson 15 = .ok (.ifCond .eq 7, 3) := by decide +kernel
theorem dX3_isAsPerson_18 : decode cX3_isAsPerson 18 = .ok (.iconst 1, 1) := by decide +kernel
theorem dX3_isAsPerson_19 : decode cX3_isAsPerson 19 = .ok (.goto 4, 3) := by decide +kernel
theorem dX3_isAsPerson_22 : decode cX3_isAsPerson 22 = .ok (.iconst 0, 1) := by decide +kernel
theorem dX3_isAsPerson_23 : decode cX3_isAsPerson 23 = .ok (.ireturn, 1) := by decide +kernel
theorem dX3_isAsClock_0 : decode cX3_isAsClock 0 = .ok (.aload_n 0, 1) := by decide +kernel
theorem dX3_isAsClock_1 : decode cX3_isAsClock 1 = .ok (.getfield 12, 3) := by decide +kernel
theorem dX3_isAsClock_4 : decode cX3_isAsClock 4 = .ok (.getfield 40, 3) := by decide +kernel
theorem dX3_isAsClock_7 : decode cX3_isAsClock 7 = .ok (.iconst 1, 1) := by decide +kernel
theorem dX3_isAsClock_8 : decode cX3_isAsClock 8 = .ok (.aaload, 1) := by decide +kernel
theorem dX3_isAsClock_9 : decode cX3_isAsClock 9 = .ok (.iload_n 1, 1) := by decide +kernel
theorem dX3_isAsClock_10 : decode cX3_isAsClock 10 = .ok (.iaload, 1) := by decide +kernel
theorem dX3_isAsClock_11 : decode cX3_isAsClock 11 = .ok (.istore_n 3, 1) := by decide +kernel
theorem dX3_isAsClock_12 : decode cX3_isAsClock 12 = .ok (.bipush 7, 2) := by decide +kernel
theorem dX3_isAsClock_14 : decode cX3_isAsClock 14 = .ok (.iload_n 2, 1) := by decide +kernel
theorem dX3_isAsClock_15 : decode cX3_isAsClock 15 = .ok (.iload_n 3, 1) := by decide +kernel
theorem dX3_isAsClock_16 : decode cX3_isAsClock 16 = .ok (.invokestatic 67, 3) := by decide +kernel
theorem dX3_isAsClock_19 : decode cX3_isAsClock 19 = .ok (.imul, 1) := by decide +kernel
theorem dX3_isAsClock_20 : decode cX3_isAsClock 20 = .ok (.iconst 3, 1) := by decide +kernel
theorem dX3_isAsClock_21 : decode cX3_isAsClock 21 = .ok (.iload_n 1, 1) := by decide +kernel
theorem dX3_isAsClock_22 : decode cX3_isAsClock 22 = .ok (.imul, 1) := by decide +kernel
theorem dX3_isAsClock_23 : decode cX3_isAsClock 23 = .ok (.iadd, 1) := by decide +kernel
theorem dX3_isAsClock_24 : decode cX3_isAsClock 24 = .ok (.istore 4, 2) := by decide +kernel
theorem dX3_isAsClock_26 : decode cX3_isAsClock 26 = .ok (.iload 4, 2) := by decide +kernel
theorem dX3_isAsClock_28 : decode cX3_isAsClock 28 = .ok (.aload_n 0, 1) := by decide +kernel
theorem dX3_isAsClock_29 : decode cX3_isAsClock 29 = .ok (.getfield 12, 3) := by decide +kernel
theorem dX3_isAsClock_32 : decode cX3_isAsClock 32 = .ok (.getfield 40, 3) := by decide +kernel
theorem dX3_isAsClock_35 : decode cX3_isAsClock 35 = .ok (.iconst 3, 1) := by decide +kernel
theorem dX3_isAsClock_36 : decode cX3_isAsClock 36 = .ok (.aaload, 1) := by decide +kernel
theorem dX3_isAsClock_37 : decode cX3_isAsClock 37 = .ok (.iload_n 1, 1) := by decide +kernel
theorem dX3_isAsClock_38 : decode cX3_isAsClock 38 = .ok (.iaload, 1) := by decide +kernel
theorem dX3_isAsClock_39 : decode cX3_isAsClock 39 = .ok (.iconst 1, 1) := by decide +kernel
theorem dX3_isAsClock_40 : decode cX3_isAsClock 40 = .ok (.iadd, 1) := by decide +kernel
theorem dX3_isAsClock_41 : decode cX3_isAsClock 41 = .ok (.invokestatic 63, 3) := by decide +kernel
theorem dX3_isAsClock_44 : decode cX3_isAsClock 44 = .ok (.istore 5, 2) := by decide +kernel
theorem dX3_isAsClock_46 : decode cX3_isAsClock 46 = .ok (.iload_n 2, 1) := by decide +kernel
theorem dX3_isAsClock_47 : decode cX3_isAsClock 47 = .ok (.iload_n 3, 1) := by decide +kernel
theorem dX3_isAsClock_48 : decode cX3_isAsClock 48 = .ok (.invokestatic 63, 3) := by decide +kernel
theorem dX3_isAsClock_51 : decode cX3_isAsClock 51 = .ok (.iload_n 3, 1) := by decide +kernel
theorem dX3_isAsClock_52 : decode cX3_isAsClock 52 = .ok (.iconst 1, 1) := by decide +kernel
theorem dX3_isAsClock_53 : decode cX3_isAsClock 53 = .ok (.isub, 1) := by decide +kernel
theorem dX3_isAsClock_54 : decode cX3_isAsClock 54 = .ok (.iload 5, 2) := by decide +kernel
theorem dX3_isAsClock_56 : decode cX3_isAsClock 56 = .ok (.invokestatic 70, 3) := by decide +kernel
theorem dX3_isAsClock_59 : decode cX3_isAsClock 59 = .ok (.if_icmp .ne 7, 3) := by decide +kernel
theorem dX3_isAsClock_62 : decode cX3_isAsClock 62 = .ok (.iconst 1, 1) := by decide +kernel
theorem dX3_isAsClock_63 : decode cX3_isAsClock 63 = .ok (.goto 4, 3) := by decide +kernel
theorem dX3_isAsClock_66 : decode cX3_isAsClock 66 = .ok (.iconst 0, 1) := by decide +kernel
theorem dX3_isAsClock_67 : decode cX3_isAsClock 67 = .ok (.ireturn, 1) := by decide +kernel
theorem dX3_isAsHalf_0 : decode cX3_isAsHalf 0 = .ok (.iload_n 2, 1) := by decide +kernel
theorem dX3_isAsHalf_1 : decode cX3_isAsHalf 1 = .ok (.invokestatic 75, 3) := by decide +kernel
theorem dX3_isAsHalf_4 : decode cX3_isAsHalf 4 = .ok (.bipush 7, 2) := by decide +kernel
theorem dX3_isAsHalf_6 : decode cX3_isAsHalf 6 = .ok (.irem, 1) := by decide +kernel
theorem dX3_isAsHalf_7 : decode cX3_isAsHalf 7 = .ok (.bipush 6, 2) := by decide +kernel
theorem dX3_isAsHalf_9 : decode cX3_isAsHalf 9 = .ok (.if_icmp .ne 12, 3) := by decide +kernel
theorem dX3_isAsHalf_12 : decode cX3_isAsHalf 12 = .ok (.aload_n 0, 1) := by decide +kernel
theorem dX3_isAsHalf_13 : decode cX3_isAsHalf 13 = .ok (.iload_n 1, 1) := by decide +kernel
theorem dX3_isAsHalf_14 : decode cX3_isAsHalf 14 = .ok (.iload_n 2, 1) := by decide +kernel
theorem dX3_isAsHalf_15 : decode cX3_isAsHalf 15 = .ok (.invokevirtual 48, 3) := by decide +kernel
theorem dX3_isAsHalf_18 : decode cX3_isAsHalf 18 = .ok (.goto 9, 3) := by decide +kernel
theorem dX3_isAsHalf_21 : decode cX3_isAsHalf 21 = .ok (.aload_n 0, 1) := by decide +kernel
theorem dX3_isAsHalf_22 : decode cX3_isAsHalf 22 = .ok (.iload_n 1, 1) := by decide +kernel
theorem dX3_isAsHalf_23 : decode cX3_isAsHalf 23 = .ok (.iload_n 2, 1) := by decide +kernel
theorem dX3_isAsHalf_24 : decode cX3_isAsHalf 24 = .ok (.invokevirtual 54, 3) := by decide +kernel
theorem dX3_isAsHalf_27 : decode cX3_isAsHalf 27 = .ok (.ireturn, 1) := by decide +kernel
theorem dX3_isInHours_0 : decode cX3_isInHours 0 = .ok (.aload_n 0, 1) := by decide +kernel
theorem dX3_isInHours_1 : decode cX3_isInHours 1 = .ok (.getfield 12, 3) := by decide +kernel
theorem dX3_isInHours_4 : decode cX3_isInHours 4 = .ok (.getfield 40, 3) := by decide +kernel
theorem dX3_isInHours_7 : decode cX3_isInHours 7 = .ok (.iconst 2, 1) := by decide +kernel
theorem dX3_isInHours_8 : decode cX3_isInHours 8 = .ok (.aaload, 1) := by decide +kernel
theorem dX3_isInHours_9 : decode cX3_isInHours 9 = .ok (.iload_n 1, 1) := by decide +kernel
theorem dX3_isInHours_10 : decode cX3_isInHours 10 = .ok (.iaload, 1) := by decide +kernel
theorem dX3_isInHours_11 : decode cX3_isInHours 11 = .ok (.iload_n 2, 1) := by decide +kernel
theorem dX3_isInHours_12 : decode cX3_isInHours 12 = .ok (.invokestatic 79, 3) := by decide +kernel
theorem dX3_isInHours_15 : decode cX3_isInHours 15 = .ok (.invokestatic 82, 3) := by decide +kernel
theorem dX3_isInHours_18 : decode cX3_isInHours 18 = .ok (.ireturn, 1) := by decide +kernel
theorem dX3_isBehindLeader_0 : decode cX3_isBehindLeader 0 = .ok (.aload_n 0, 1) := by decide +kernel
theorem dX3_isBehindLeader_1 : decode cX3_isBehindLeader 1 = .ok (.getfield 12, 3) := by decide +kernel
theorem dX3_isBehindLeader_4 : decode cX3_isBehindLeader 4 = .ok (.getfield 40, 3) := by decide +kernel
theorem dX3_isBehindLeader_7 : decode cX3_isBehindLeader 7 = .ok (.iconst 4, 1) := by decide +kernel
theorem dX3_isBehindLeader_8 : decode cX3_isBehindLeader 8 = .ok (.aaload, 1) := by decide +kernel
theorem dX3_isBehindLeader_9 : decode cX3_isBehindLeader 9 = .ok (.iload_n 1, 1) := by decide +kernel
theorem dX3_isBehindLeader_10 : decode cX3_isBehindLeader 10 = .ok (.iaload, 1) := by decide +kernel
theorem dX3_isBehindLeader_11 : decode cX3_isBehindLeader 11 = .ok (.istore_n 3, 1) := by decide +kernel
theorem dX3_isBehindLeader_12 : decode cX3_isBehindLeader 12 = .ok (.iload_n 3, 1) := by decide +kernel
theorem dX3_isBehindLeader_13 : decode cX3_isBehindLeader 13 = .ok (.ifCond .lt 27, 3) := by decide +kernel
theorem dX3_isBehindLeader_16 : decode cX3_isBehindLeader 16 = .ok (.aload_n 0, 1) := by decide +kernel
theorem dX3_isBehindLeader_17 : decode cX3_isBehindLeader 17 = .ok (.getfield 21, 3) := by decide +kernel
theorem dX3_isBehindLeader_20 : decode cX3_isBehindLeader 20 = .ok (.iload_n 2, 1) := by decide +kernel
theorem dX3_isBehindLeader_21 : decode cX3_isBehindLeader 21 = .ok (.iconst 1, 1) := by decide +kernel
theorem dX3_isBehindLeader_22 : decode cX3_isBehindLeader 22 = .ok (.isub, 1) := by decide +kernel
theorem dX3_isBehindLeader_23 : decode cX3_isBehindLeader 23 = .ok (.iload_n 2, 1) := by decide +kernel
theorem dX3_isBehindLeader_24 : decode cX3_isBehindLeader 24 = .ok (.iconst 1, 1) := by decide +kernel
theorem dX3_isBehindLeader_25 : decode cX3_isBehindLeader 25 = .ok (.isub, 1) := by decide +kernel
theorem dX3_isBehindLeader_26 : decode cX3_isBehindLeader 26 = .ok (.invokevirtual 85, 3) := by decide +kernel
theorem dX3_isBehindLeader_29 : decode cX3_isBehindLeader 29 = .ok (.iload_n 3, 1) := by decide +kernel
theorem dX3_isBehindLeader_30 : decode cX3_isBehindLeader 30 = .ok (.invokestatic 82, 3) := by decide +kernel
theorem dX3_isBehindLeader_33 : decode cX3_isBehindLeader 33 = .ok (.ifCond .eq 7, 3) := by decide +kernel
theorem dX3_isBehindLeader_36 : decode cX3_isBehindLeader 36 = .ok (.iconst 1, 1) := by decide +kernel
theorem dX3_isBehindLeader_37 : decode cX3_isBehindLeader 37 = .ok (.goto 4, 3) := by decide +kernel
theorem dX3_isBehindLeader_40 : decode cX3_isBehindLeader 40 = .ok (.iconst 0, 1) := by decide +kernel
theorem dX3_isBehindLeader_41 : decode cX3_isBehindLeader 41 = .ok (.ireturn, 1) := by decide +kernel
theorem dX3_topicOf_0 : decode cX3_topicOf 0 = .ok (.aload_n 0, 1) := by decide +kernel
theorem dX3_topicOf_1 : decode cX3_topicOf 1 = .ok (.getfield 12, 3) := by decide +kernel
theorem dX3_topicOf_4 : decode cX3_topicOf 4 = .ok (.getfield 40, 3) := by decide +kernel
theorem dX3_topicOf_7 : decode cX3_topicOf 7 = .ok (.iconst 5, 1) := by decide +kernel
theorem dX3_topicOf_8 : decode cX3_topicOf 8 = .ok (.aaload, 1) := by decide +kernel
theorem dX3_topicOf_9 : decode cX3_topicOf 9 = .ok (.iload_n 1, 1) := by decide +kernel
theorem dX3_topicOf_10 : decode cX3_topicOf 10 = .ok (.iaload, 1) := by decide +kernel
theorem dX3_topicOf_11 : decode cX3_topicOf 11 = .ok (.istore_n 2, 1) := by decide +kernel
theorem dX3_topicOf_12 : decode cX3_topicOf 12 = .ok (.aload_n 0, 1) := by decide +kernel
theorem dX3_topicOf_13 : decode cX3_topicOf 13 = .ok (.getfield 12, 3) := by decide +kernel
theorem dX3_topicOf_16 : decode cX3_topicOf 16 = .ok (.getfield 40, 3) := by decide +kernel
theorem dX3_topicOf_19 : decode cX3_topicOf 19 = .ok (.iconst 0, 1) := by decide +kernel
theorem dX3_topicOf_20 : decode cX3_topicOf 20 = .ok (.aaload, 1) := by decide +kernel
theorem dX3_topicOf_21 : decode cX3_topicOf 21 = .ok (.iload_n 1, 1) := by decide +kernel
theorem dX3_topicOf_22 : decode cX3_topicOf 22 = .ok (.iaload, 1) := by decide +kernel
theorem dX3_topicOf_23 : decode cX3_topicOf 23 = .ok (.istore_n 3, 1) := by decide +kernel
theorem dX3_topicOf_24 : decode cX3_topicOf 24 = .ok (.iload_n 3, 1) := by decide +kernel
theorem dX3_topicOf_25 : decode cX3_topicOf 25 = .ok (.iconst 3, 1) := by decide +kernel
theorem dX3_topicOf_26 : decode cX3_topicOf 26 = .ok (.if_icmp .ne 19, 3) := by decide +kernel
theorem dX3_topicOf_29 : decode cX3_topicOf 29 = .ok (.iload_n 2, 1) := by decide +kernel
theorem dX3_topicOf_30 : decode cX3_topicOf 30 = .ok (.aload_n 0, 1) := by decide +kernel
theorem dX3_topicOf_31 : decode cX3_topicOf 31 = .ok (.getfield 21, 3) := by decide +kernel
theorem dX3_topicOf_34 : decode cX3_topicOf 34 = .ok (.iload_n 1, 1) := by decide +kernel
theorem dX3_topicOf_35 : decode cX3_topicOf 35 = .ok (.invokevirtual 88, 3) := by decide +kernel
theorem dX3_topicOf_38 : decode cX3_topicOf 38 = .ok (.iconst 3, 1) := by decide +kernel
theorem dX3_topicOf_39 : decode cX3_topicOf 39 = .ok (.irem, 1) := by decide +kernel
theorem dX3_topicOf_40 : decode cX3_topicOf 40 = .ok (.iadd, 1) := by decide +kernel
theorem dX3_topicOf_41 : decode cX3_topicOf 41 = .ok (.bipush 10, 2) := by decide +kernel
theorem dX3_topicOf_43 : decode cX3_topicOf 43 = .ok (.irem, 1) := by decide +kernel
theorem dX3_topicOf_44 : decode cX3_topicOf 44 = .ok (.ireturn, 1) := by decide +kernel
theorem dX3_topicOf_45 : decode cX3_topicOf 45 = .ok (.aload_n 0, 1) := by decide +kernel
theorem dX3_topicOf_46 : decode cX3_topicOf 46 = .ok (.getfield 12, 3) := by decide +kernel
theorem dX3_topicOf_49 : decode cX3_topicOf 49 = .ok (.getfield 40, 3) := by decide +kernel
theorem dX3_topicOf_52 : decode cX3_topicOf 52 = .ok (.iconst 4, 1) := by decide +kernel
theorem dX3_topicOf_53 : decode cX3_topicOf 53 = .ok (.aaload, 1) := by decide +kernel
theorem dX3_topicOf_54 : decode cX3_topicOf 54 = .ok (.iload_n 1, 1) := by decide +kernel
theorem dX3_topicOf_55 : decode cX3_topicOf 55 = .ok (.iaload, 1) := by decide +kernel
theorem dX3_topicOf_56 : decode cX3_topicOf 56 = .ok (.istore 4, 2) := by decide +kernel
theorem dX3_topicOf_58 : decode cX3_topicOf 58 = .ok (.iload_n 3, 1) := by decide +kernel
theorem dX3_topicOf_59 : decode cX3_topicOf 59 = .ok (.bipush 6, 2) := by decide +kernel
theorem dX3_topicOf_61 : decode cX3_topicOf 61 = .ok (.if_icmp .ne 39, 3) := by decide +kernel
theorem dX3_topicOf_64 : decode cX3_topicOf 64 = .ok (.iload 4, 2) := by decide +kernel
theorem dX3_topicOf_66 : decode cX3_topicOf 66 = .ok (.ifCond .lt 34, 3) := by decide +kernel
theorem dX3_topicOf_69 : decode cX3_topicOf 69 = .ok (.aload_n 0, 1) := by decide +kernel
theorem dX3_topicOf_70 : decode cX3_topicOf 70 = .ok (.getfield 21, 3) := by decide +kernel
theorem dX3_topicOf_73 : decode cX3_topicOf 73 = .ok (.iload 4, 2) := by decide +kernel
theorem dX3_topicOf_75 : decode cX3_topicOf 75 = .ok (.invokevirtual 91, 3) := by decide +kernel
theorem dX3_topicOf_78 : decode cX3_topicOf 78 = .ok (.istore 5, 2) := by decide +kernel
theorem dX3_topicOf_80 : decode cX3_topicOf 80 = .ok (.iload 5, 2) := by decide +kernel
theorem dX3_topicOf_82 : decode cX3_topicOf 82 = .ok (.ifCond .ge 7, 3) := by decide +kernel
theorem dX3_topicOf_85 : decode cX3_topicOf 85 = .ok (.iload_n 2, 1) := by decide +kernel
theorem dX3_topicOf_86 : decode cX3_topicOf 86 = .ok (.goto 13, 3) := by decide +kernel
theorem dX3_topicOf_89 : decode cX3_topicOf 89 = .ok (.aload_n 0, 1) := by decide +kernel
theorem dX3_topicOf_90 : decode cX3_topicOf 90 = .ok (.getfield 21, 3) := by decide +kernel
theorem dX3_topicOf_93 : decode cX3_topicOf 93 = .ok (.getfield 94, 3) := by decide +kernel
theorem dX3_topicOf_96 : decode cX3_topicOf 96 = .ok (.iload 5, 2) := by decide +kernel
theorem dX3_topicOf_98 : decode cX3_topicOf 98 = .ok (.iaload, 1) := by decide +kernel
theorem dX3_topicOf_99 : decode cX3_topicOf 99 = .ok (.ireturn, 1) := by decide +kernel
theorem dX3_topicOf_100 : decode cX3_topicOf 100 = .ok (.iload_n 2, 1) := by decide +kernel
theorem dX3_topicOf_101 : decode cX3_topicOf 101 = .ok (.ireturn, 1) := by decide +kernel
theorem dX3_passSecond_0 : decode cX3_passSecond 0 = .ok (.iconst 0, 1) := by decide +kernel
theorem dX3_passSecond_1 : decode cX3_passSecond 1 = .ok (.istore_n 1, 1) := by decide +kernel
theorem dX3_passSecond_2 : decode cX3_passSecond 2 = .ok (.iload_n 1, 1) := by decide +kernel
theorem dX3_passSecond_3 : decode cX3_passSecond 3 = .ok (.aload_n 0, 1) := by decide +kernel
theorem dX3_passSecond_4 : decode cX3_passSecond 4 = .ok (.getfield 12, 3) := by decide +kernel
theorem dX3_passSecond_7 : decode cX3_passSecond 7 = .ok (.getfield 97, 3) := by decide +kernel
theorem dX3_passSecond_10 : decode cX3_passSecond 10 = .ok (.if_icmp .ge 81, 3) := by decide +kernel
theorem dX3_passSecond_13 : decode cX3_passSecond 13 = .ok (.aload_n 0, 1) := by decide +kernel
theorem dX3_passSecond_14 : decode cX3_passSecond 14 = .ok (.getfield 12, 3) := by decide +kernel
theorem dX3_passSecond_17 : decode cX3_passSecond 17 = .ok (.getfield 100, 3) := by decide +kernel
theorem dX3_passSecond_20 : decode cX3_passSecond 20 = .ok (.iload_n 1, 1) := by decide +kernel
theorem dX3_passSecond_21 : decode cX3_passSecond 21 = .ok (.invokestatic 82, 3) := by decide +kernel
theorem dX3_passSecond_24 : decode cX3_passSecond 24 = .ok (.ifCond .ne 61, 3) := by decide +kernel
theorem dX3_passSecond_27 : decode cX3_passSecond 27 = .ok (.aload_n 0, 1) := by decide +kernel
theorem dX3_passSecond_28 : decode cX3_passSecond 28 = .ok (.iload_n 1, 1) := by decide +kernel
theorem dX3_passSecond_29 : decode cX3_passSecond 29 = .ok (.aload_n 0, 1) := by decide +kernel
theorem dX3_passSecond_30 : decode cX3_passSecond 30 = .ok (.getfield 21, 3) := by decide +kernel
theorem dX3_passSecond_33 : decode cX3_passSecond 33 = .ok (.getfield 103, 3) := by decide +kernel
theorem dX3_passSecond_36 : decode cX3_passSecond 36 = .ok (.invokevirtual 106, 3) := by decide +kernel
theorem dX3_passSecond_39 : decode cX3_passSecond 39 = .ok (.ifCond .ne 6, 3) := by decide +kernel
theorem dX3_passSecond_42 : decode cX3_passSecond 42 = .ok (.goto 43, 3) := by decide +kernel
theorem dX3_passSecond_45 : decode cX3_passSecond 45 = .ok (.aload_n 0, 1) := by decide +kernel
theorem dX3_passSecond_46 : decode cX3_passSecond 46 = .ok (.getfield 21, 3) := by decide +kernel
theorem dX3_passSecond_49 : decode cX3_passSecond 49 = .ok (.invokevirtual 109, 3) := by decide +kernel
theorem dX3_passSecond_52 : decode cX3_passSecond 52 = .ok (.ifCond .eq 19, 3) := by decide +kernel
theorem dX3_passSecond_55 : decode cX3_passSecond 55 = .ok (.aload_n 0, 1) := by decide +kernel
theorem dX3_passSecond_56 : decode cX3_passSecond 56 = .ok (.getfield 21, 3) := by decide +kernel
theorem dX3_passSecond_59 : decode cX3_passSecond 59 = .ok (.dup, 1) := by decide +kernel
theorem dX3_passSecond_60 : decode cX3_passSecond 60 = .ok (.getfield 113, 3) := by decide +kernel
theorem dX3_passSecond_63 : decode cX3_passSecond 63 = .ok (.iconst 1, 1) := by decide +kernel
theorem dX3_passSecond_64 : decode cX3_passSecond 64 = .ok (.iadd, 1) := by decide +kernel
theorem dX3_passSecond_65 : decode cX3_passSecond 65 = .ok (.putfield 113, 3) := by decide +kernel
theorem dX3_passSecond_68 : decode cX3_passSecond 68 = .ok (.goto 17, 3) := by decide +kernel
theorem dX3_passSecond_71 : decode cX3_passSecond 71 = .ok (.aload_n 0, 1) := by decide +kernel
theorem dX3_passSecond_72 : decode cX3_passSecond 72 = .ok (.getfield 21, 3) := by decide +kernel
theorem dX3_passSecond_75 : decode cX3_passSecond 75 = .ok (.iload_n 1, 1) := by decide +kernel
theorem dX3_passSecond_76 : decode cX3_passSecond 76 = .ok (.aload_n 0, 1) := by decide +kernel
theorem dX3_passSecond_77 : decode cX3_passSecond 77 = .ok (.iload_n 1, 1) := by decide +kernel
theorem dX3_passSecond_78 : decode cX3_passSecond 78 = .ok (.invokevirtual 116, 3) := by decide +kernel
theorem dX3_passSecond_81 : decode cX3_passSecond 81 = .ok (.invokevirtual 119, 3) := by decide +kernel
theorem dX3_passSecond_84 : decode cX3_passSecond 84 = .ok (.pop, 1) := by decide +kernel
theorem dX3_passSecond_85 : decode cX3_passSecond 85 = .ok (.iinc 1 1, 3) := by decide +kernel
theorem dX3_passSecond_88 : decode cX3_passSecond 88 = .ok (.goto (-86), 3) := by decide +kernel
theorem dX3_passSecond_91 : decode cX3_passSecond 91 = .ok (.aload_n 0, 1) := by decide +kernel
theorem dX3_passSecond_92 : decode cX3_passSecond 92 = .ok (.getfield 21, 3) := by decide +kernel
theorem dX3_passSecond_95 : decode cX3_passSecond 95 = .ok (.dup, 1) := by decide +kernel
theorem dX3_passSecond_96 : decode cX3_passSecond 96 = .ok (.getfield 103, 3) := by decide +kernel
theorem dX3_passSecond_99 : decode cX3_passSecond 99 = .ok (.iconst 1, 1) := by decide +kernel
theorem dX3_passSecond_100 : decode cX3_passSecond 100 = .ok (.iadd, 1) := by decide +kernel
theorem dX3_passSecond_101 : decode cX3_passSecond 101 = .ok (.putfield 103, 3) := by decide +kernel
theorem dX3_passSecond_104 : decode cX3_passSecond 104 = .ok (.return_, 1) := by decide +kernel
theorem dX3_draw_0 : decode cX3_draw 0 = .ok (.aload_n 0, 1) := by decide +kernel
theorem dX3_draw_1 : decode cX3_draw 1 = .ok (.aload_n 0, 1) := by decide +kernel
theorem dX3_draw_2 : decode cX3_draw 2 = .ok (.getfield 36, 3) := by decide +kernel
theorem dX3_draw_5 : decode cX3_draw 5 = .ok (.ldc 122, 2) := by decide +kernel
theorem dX3_draw_7 : decode cX3_draw 7 = .ok (.imul, 1) := by decide +kernel
theorem dX3_draw_8 : decode cX3_draw 8 = .ok (.sipush 12345, 3) := by decide +kernel
theorem dX3_draw_11 : decode cX3_draw 11 = .ok (.iadd, 1) := by decide +kernel
theorem dX3_draw_12 : decode cX3_draw 12 = .ok (.putfield 36, 3) := by decide +kernel
theorem dX3_draw_15 : decode cX3_draw 15 = .ok (.aload_n 0, 1) := by decide +kernel
theorem dX3_draw_16 : decode cX3_draw 16 = .ok (.getfield 36, 3) := by decide +kernel
theorem dX3_draw_19 : decode cX3_draw 19 = .ok (.bipush 8, 2) := by decide +kernel
theorem dX3_draw_21 : decode cX3_draw 21 = .ok (.iushr, 1) := by decide +kernel
theorem dX3_draw_22 : decode cX3_draw 22 = .ok (.ireturn, 1) := by decide +kernel
theorem dX3_become_0 : decode cX3_become 0 = .ok (.aload_n 0, 1) := by decide +kernel
theorem dX3_become_1 : decode cX3_become 1 = .ok (.getfield 12, 3) := by decide +kernel
theorem dX3_become_4 : decode cX3_become 4 = .ok (.aload_n 1, 1) := by decide +kernel
theorem dX3_become_5 : decode cX3_become 5 = .ok (.getfield 12, 3) := by decide +kernel
theorem dX3_become_8 : decode cX3_become 8 = .ok (.invokevirtual 123, 3) := by decide +kernel
theorem dX3_become_11 : decode cX3_become 11 = .ok (.aload_n 0, 1) := by decide +kernel
theorem dX3_become_12 : decode cX3_become 12 = .ok (.getfield 21, 3) := by decide +kernel
theorem dX3_become_15 : decode cX3_become 15 = .ok (.aload_n 1, 1) := by decide +kernel
theorem dX3_become_16 : decode cX3_become 16 = .ok (.getfield 21, 3) := by decide +kernel
theorem dX3_become_19 : decode cX3_become 19 = .ok (.invokevirtual 127, 3) := by decide +kernel
theorem dX3_become_22 : decode cX3_become 22 = .ok (.aload_n 0, 1) := by decide +kernel
theorem dX3_become_23 : decode cX3_become 23 = .ok (.getfield 28, 3) := by decide +kernel
theorem dX3_become_26 : decode cX3_become 26 = .ok (.aload_n 1, 1) := by decide +kernel
theorem dX3_become_27 : decode cX3_become 27 = .ok (.getfield 28, 3) := by decide +kernel
theorem dX3_become_30 : decode cX3_become 30 = .ok (.invokevirtual 130, 3) := by decide +kernel
theorem dX3_become_33 : decode cX3_become 33 = .ok (.aload_n 1, 1) := by decide +kernel
theorem dX3_become_34 : decode cX3_become 34 = .ok (.getfield 32, 3) := by decide +kernel
theorem dX3_become_37 : decode cX3_become 37 = .ok (.iconst 0, 1) := by decide +kernel
theorem dX3_become_38 : decode cX3_become 38 = .ok (.aload_n 0, 1) := by decide +kernel
theorem dX3_become_39 : decode cX3_become 39 = .ok (.getfield 32, 3) := by decide +kernel
theorem dX3_become_42 : decode cX3_become 42 = .ok (.iconst 0, 1) := by decide +kernel
theorem dX3_become_43 : decode cX3_become 43 = .ok (.bipush 10, 2) := by decide +kernel
theorem dX3_become_45 : decode cX3_become 45 = .ok (.invokestatic 133, 3) := by decide +kernel
theorem dX3_become_48 : decode cX3_become 48 = .ok (.aload_n 0, 1) := by decide +kernel
theorem dX3_become_49 : decode cX3_become 49 = .ok (.aload_n 1, 1) := by decide +kernel
theorem dX3_become_50 : decode cX3_become 50 = .ok (.getfield 36, 3) := by decide +kernel
theorem dX3_become_53 : decode cX3_become 53 = .ok (.putfield 36, 3) := by decide +kernel
theorem dX3_become_56 : decode cX3_become 56 = .ok (.return_, 1) := by decide +kernel
theorem dX4_init_0 : decode cX4_init 0 = .ok (.aload_n 0, 1) := by decide +kernel
theorem dX4_init_1 : decode cX4_init 1 = .ok (.invokespecial 3, 3) := by decide +kernel
theorem dX4_init_4 : decode cX4_init 4 = .ok (.aload_n 0, 1) := by decide +kernel
theorem dX4_init_5 : decode cX4_init 5 = .ok (.bipush 40, 2) := by decide +kernel
theorem dX4_init_7 : decode cX4_init 7 = .ok (.newarray .int, 2) := by decide +kernel
theorem dX4_init_9 : decode cX4_init 9 = .ok (.putfield 9, 3) := by decide +kernel
theorem dX4_init_12 : decode cX4_init 12 = .ok (.return_, 1) := by decide +kernel
theorem dX4_isMissing_0 : decode cX4_isMissing 0 = .ok (.aload_n 0, 1) := by decide +kernel
theorem dX4_isMissing_1 : decode cX4_isMissing 1 = .ok (.getfield 15, 3) := by decide +kernel
theorem dX4_isMissing_4 : decode cX4_isMissing 4 = .ok (.ifCond .ne 7, 3) := by decide +kernel
theorem dX4_isMissing_7 : decode cX4_isMissing 7 = .ok (.iconst 1, 1) := by decide +kernel
theorem dX4_isMissing_8 : decode cX4_isMissing 8 = .ok (.goto 4, 3) := by decide +kernel
theorem dX4_isMissing_11 : decode cX4_isMissing 11 = .ok (.iconst 0, 1) := by decide +kernel
theorem dX4_isMissing_12 : decode cX4_isMissing 12 = .ok (.ireturn, 1) := by decide +kernel
theorem dX4_begin_0 : decode cX4_begin 0 = .ok (.aload_n 0, 1) := by decide +kernel
theorem dX4_begin_1 : decode cX4_begin 1 = .ok (.iload_n 1, 1) := by decide +kernel
theorem dX4_begin_2 : decode cX4_begin 2 = .ok (.putfield 15, 3) := by decide +kernel
theorem dX4_begin_5 : decode cX4_begin 5 = .ok (.aload_n 0, 1) := by decide +kernel
theorem dX4_begin_6 : decode cX4_begin 6 = .ok (.iload_n 1, 1) := by decide +kernel
theorem dX4_begin_7 : decode cX4_begin 7 = .ok (.ifCond .ne 7, 3) := by decide +kernel
theorem dX4_begin_10 : decode cX4_begin 10 = .ok (.iconst 0, 1) := by decide +kernel
theorem dX4_begin_11 : decode cX4_begin 11 = .ok (.goto 4, 3) := by decide +kernel
theorem dX4_begin_14 : decode cX4_begin 14 = .ok (.iload_n 2, 1) := by decide +kernel
theorem dX4_begin_15 : decode cX4_begin 15 = .ok (.putfield 19, 3) := by decide +kernel
theorem dX4_begin_18 : decode cX4_begin 18 = .ok (.iconst 0, 1) := by decide +kernel
theorem dX4_begin_19 : decode cX4_begin 19 = .ok (.istore_n 3, 1) := by decide +kernel
theorem dX4_begin_20 : decode cX4_begin 20 = .ok (.iload_n 3, 1) := by decide +kernel
theorem dX4_begin_21 : decode cX4_begin 21 = .ok (.aload_n 0, 1) := by decide +kernel
theorem dX4_begin_22 : decode cX4_begin 22 = .ok (.getfield 19, 3) := by decide +kernel
theorem dX4_begin_25 : decode cX4_begin 25 = .ok (.if_icmp .ge 16, 3) := by decide +kernel
theorem dX4_begin_28 : decode cX4_begin 28 = .ok (.aload_n 0, 1) := by decide +kernel
theorem dX4_begin_29 : decode cX4_begin 29 = .ok (.getfield 9, 3) := by decide +kernel
theorem dX4_begin_32 : decode cX4_begin 32 = .ok (.iload_n 3, 1) := by decide +kernel
theorem dX4_begin_33 : decode cX4_begin 33 = .ok (.iconst 0, 1) := by decide +kernel
theorem dX4_begin_34 : decode cX4_begin 34 = .ok (.iastore, 1) := by decide +kernel
theorem dX4_begin_35 : decode cX4_begin 35 = .ok (.iinc 3 1, 3) := by decide +kernel
theorem dX4_begin_38 : decode cX4_begin 38 = .ok (.goto (-18), 3) := by decide +kernel
theorem dX4_begin_41 : decode cX4_begin 41 = .ok (.return_, 1) := by decide +kernel
theorem dX4_put_0 : decode cX4_put 0 = .ok (.aload_n 0, 1) := by decide +kernel
theorem dX4_put_1 : decode cX4_put 1 = .ok (.getfield 15, 3) := by decide +kernel
theorem dX4_put_4 : decode cX4_put 4 = .ok (.bipush 8, 2) := by decide +kernel
theorem dX4_put_6 : decode cX4_put 6 = .ok (.if_icmp .ne 14, 3) := by decide +kernel
theorem dX4_put_9 : decode cX4_put 9 = .ok (.aload_n 0, 1) := by decide +kernel
theorem dX4_put_10 : decode cX4_put 10 = .ok (.getfield 9, 3) := by decide +kernel
theorem dX4_put_13 : decode cX4_put 13 = .ok (.iload_n 1, 1) := by decide +kernel
theorem dX4_put_14 : decode cX4_put 14 = .ok (.iload_n 2, 1) := by decide +kernel
theorem dX4_put_15 : decode cX4_put 15 = .ok (.i2b, 1) := by decide +kernel
theorem dX4_put_16 : decode cX4_put 16 = .ok (.iastore, 1) := by decide +kernel
theorem dX4_put_17 : decode cX4_put 17 = .ok (.goto 30, 3) := by decide +kernel
theorem dX4_put_20 : decode cX4_put 20 = .ok (.aload_n 0, 1) := by decide +kernel
theorem dX4_put_21 : decode cX4_put 21 = .ok (.getfield 15, 3) := by decide +kernel
theorem dX4_put_24 : decode cX4_put 24 = .ok (.bipush 16, 2) := by decide +kernel
theorem dX4_put_26 : decode cX4_put 26 = .ok (.if_icmp .ne 14, 3) := by decide +kernel
theorem dX4_put_29 : decode cX4_put 29 = .ok (.aload_n 0, 1) := by decide +kernel
theorem dX4_put_30 : decode cX4_put 30 = .ok (.getfield 9, 3) := by decide +kernel
theorem dX4_put_33 : decode cX4_put 33 = .ok (.iload_n 1, 1) := by decide +kernel
theorem dX4_put_34 : decode cX4_put 34 = .ok (.iload_n 2, 1) := by decide +kernel
theorem dX4_put_35 : decode cX4_put 35 = .ok (.i2s, 1) := by decide +kernel
theorem dX4_put_36 : decode cX4_put 36 = .ok (.iastore, 1) := by decide +kernel
theorem dX4_put_37 : decode cX4_put 37 = .ok (.goto 10, 3) := by decide +kernel
theorem dX4_put_40 : decode cX4_put 40 = .ok (.aload_n 0, 1) := by decide +kernel
theorem dX4_put_41 : decode cX4_put 41 = .ok (.getfield 9, 3) := by decide +kernel
theorem dX4_put_44 : decode cX4_put 44 = .ok (.iload_n 1, 1) := by decide +kernel
theorem dX4_put_45 : decode cX4_put 45 = .ok (.iload_n 2, 1) := by decide +kernel
theorem dX4_put_46 : decode cX4_put 46 = .ok (.iastore, 1) := by decide +kernel
theorem dX4_put_47 : decode cX4_put 47 = .ok (.return_, 1) := by decide +kernel
theorem dX4_hasRange_0 : decode cX4_hasRange 0 = .ok (.iload_n 2, 1) := by decide +kernel
theorem dX4_hasRange_1 : decode cX4_hasRange 1 = .ok (.ifCond .lt 29, 3) := by decide +kernel
theorem dX4_hasRange_4 : decode cX4_hasRange 4 = .ok (.iload_n 2, 1) := by decide +kernel
theorem dX4_hasRange_5 : decode cX4_hasRange 5 = .ok (.aload_n 0, 1) := by decide +kernel
theorem dX4_hasRange_6 : decode cX4_hasRange 6 = .ok (.getfield 19, 3) := by decide +kernel
theorem dX4_hasRange_9 : decode cX4_hasRange 9 = .ok (.if_icmp .gt 21, 3) := by decide +kernel
theorem dX4_hasRange_12 : decode cX4_hasRange 12 = .ok (.iload_n 1, 1) := by decide +kernel
theorem dX4_hasRange_13 : decode cX4_hasRange 13 = .ok (.iconst 0, 1) := by decide +kernel
theorem dX4_hasRange_14 : decode cX4_hasRange 14 = .ok (.aload_n 0, 1) := by decide +kernel
theorem dX4_hasRange_15 : decode cX4_hasRange 15 = .ok (.getfield 19, 3) := by decide +kernel
theorem dX4_hasRange_18 : decode cX4_hasRange 18 = .ok (.iload_n 2, 1) := by decide +kernel
theorem dX4_hasRange_19 : decode cX4_hasRange 19 = .ok (.isub, 1) := by decide +kernel
theorem dX4_hasRange_20 : decode cX4_hasRange 20 = .ok (.invokestatic 22, 3) := by decide +kernel
theorem dX4_hasRange_23 : decode cX4_hasRange 23 = .ok (.ifCond .eq 7, 3) := by decide +kernel
theorem dX4_hasRange_26 : decode cX4_hasRange 26 = .ok (.iconst 1, 1) := by decide +kernel
theorem dX4_hasRange_27 : decode cX4_hasRange 27 = .ok (.goto 4, 3) := by decide +kernel
theorem dX4_hasRange_30 : decode cX4_hasRange 30 = .ok (.iconst 0, 1) := by decide +kernel
theorem dX4_hasRange_31 : decode cX4_hasRange 31 = .ok (.ireturn, 1) := by decide +kernel
theorem dX5_init_0 : decode cX5_init 0 = .ok (.aload_n 0, 1) := by decide +kernel
theorem dX5_init_1 : decode cX5_init 1 = .ok (.invokespecial 3, 3) := by decide +kernel
theorem dX5_init_4 : decode cX5_init 4 = .ok (.aload_n 0, 1) := by decide +kernel
theorem dX5_init_5 : decode cX5_init 5 = .ok (.bipush 8, 2) := by decide +kernel
theorem dX5_init_7 : decode cX5_init 7 = .ok (.newarray .int, 2) := by decide +kernel
theorem dX5_init_9 : decode cX5_init 9 = .ok (.putfield 9, 3) := by decide +kernel
theorem dX5_init_12 : decode cX5_init 12 = .ok (.return_, 1) := by decide +kernel
theorem dX5_gather_0 : decode cX5_gather 0 = .ok (.aload_n 0, 1) := by decide +kernel
theorem dX5_gather_1 : decode cX5_gather 1 = .ok (.aload_n 1, 1) := by decide +kernel
theorem dX5_gather_2 : decode cX5_gather 2 = .ok (.iload_n 2, 1) := by decide +kernel
theorem dX5_gather_3 : decode cX5_gather 3 = .ok (.invokevirtual 15, 3) := by decide +kernel
theorem dX5_gather_6 : decode cX5_gather 6 = .ok (.aload_n 0, 1) := by decide +kernel
theorem dX5_gather_7 : decode cX5_gather 7 = .ok (.aload_n 1, 1) := by decide +kernel
theorem dX5_gather_8 : decode cX5_gather 8 = .ok (.iload_n 2, 1) := by decide +kernel
theorem dX5_gather_9 : decode cX5_gather 9 = .ok (.invokevirtual 19, 3) := by decide +kernel
theorem dX5_gather_12 : decode cX5_gather 12 = .ok (.aload_n 0, 1) := by decide +kernel
theorem dX5_gather_13 : decode cX5_gather 13 = .ok (.getfield 9, 3) := by decide +kernel
theorem dX5_gather_16 : decode cX5_gather 16 = .ok (.iconst 3, 1) := by decide +kernel
theorem dX5_gather_17 : decode cX5_gather 17 = .ok (.aload_n 1, 1) := by decide +kernel
theorem dX5_gather_18 : decode cX5_gather 18 = .ok (.iload_n 2, 1) := by decide +kernel
theorem dX5_gather_19 : decode cX5_gather 19 = .ok (.invokevirtual 22, 3) := by decide +kernel
theorem dX5_gather_22 : decode cX5_gather 22 = .ok (.invokestatic 28, 3) := by decide +kernel
theorem dX5_gather_25 : decode cX5_gather 25 = .ok (.iastore, 1) := by decide +kernel
theorem dX5_gather_26 : decode cX5_gather 26 = .ok (.aload_n 0, 1) := by decide +kernel
theorem dX5_gather_27 : decode cX5_gather 27 = .ok (.getfield 9, 3) := by decide +kernel
theorem dX5_gather_30 : decode cX5_gather 30 = .ok (.bipush 6, 2) := by decide +kernel
theorem dX5_gather_32 : decode cX5_gather 32 = .ok (.aload_n 1, 1) := by decide +kernel
theorem dX5_gather_33 : decode cX5_gather 33 = .ok (.iload_n 2, 1) := by decide +kernel
theorem dX5_gather_34 : decode cX5_gather 34 = .ok (.invokestatic 33, 3) := by decide +kernel
theorem dX5_gather_37 : decode cX5_gather 37 = .ok (.iastore, 1) := by decide +kernel
theorem dX5_gather_38 : decode cX5_gather 38 = .ok (.aload_n 0, 1) := by decide +kernel
theorem dX5_gather_39 : decode cX5_gather 39 = .ok (.getfield 9, 3) := by decide +kernel
theorem dX5_gather_42 : decode cX5_gather 42 = .ok (.bipush 7, 2) := by decide +kernel
theorem dX5_gather_44 : decode cX5_gather 44 = .ok (.iload_n 2, 1) := by decide +kernel
theorem dX5_gather_45 : decode cX5_gather 45 = .ok (.iastore, 1) := by decide +kernel
theorem dX5_gather_46 : decode cX5_gather 46 = .ok (.return_, 1) := by decide +kernel
theorem dX5_gatherGaps_0 : decode cX5_gatherGaps 0 = .ok (.iconst 0, 1) := by decide +kernel
theorem dX5_gatherGaps_1 : decode cX5_gatherGaps 1 = .ok (.istore_n 3, 1) := by decide +kernel
theorem dX5_gatherGaps_2 : decode cX5_gatherGaps 2 = .ok (.iconst 0, 1) := by decide +kernel
theorem dX5_gatherGaps_3 : decode cX5_gatherGaps 3 = .ok (.istore 4, 2) := by decide +kernel
theorem dX5_gatherGaps_5 : decode cX5_gatherGaps 5 = .ok (.sipush 29999, 3) := by decide +kernel
theorem dX5_gatherGaps_8 : decode cX5_gatherGaps 8 = .ok (.istore 5, 2) := by decide +kernel
theorem dX5_gatherGaps_10 : decode cX5_gatherGaps 10 = .ok (.iconst 0, 1) := by decide +kernel
theorem dX5_gatherGaps_11 : decode cX5_gatherGaps 11 = .ok (.istore 6, 2) := by decide +kernel
theorem dX5_gatherGaps_13 : decode cX5_gatherGaps 13 = .ok (.iconst 0, 1) := by decide +kernel
theorem dX5_gatherGaps_14 : decode cX5_gatherGaps 14 = .ok (.istore 7, 2) := by decide +kernel
theorem dX5_gatherGaps_16 : decode cX5_gatherGaps 16 = .ok (.iload 7, 2) := by decide +kernel
theorem dX5_gatherGaps_18 : decode cX5_gatherGaps 18 = .ok (.aload_n 1, 1) := by decide +kernel
theorem dX5_gatherGaps_19 : decode cX5_gatherGaps 19 = .ok (.getfield 37, 3) := by decide +kernel
theorem dX5_gatherGaps_22 : decode cX5_gatherGaps 22 = .ok (.if_icmp .ge 67, 3) := by decide +kernel
theorem dX5_gatherGaps_25 : decode cX5_gatherGaps 25 = .ok (.aload_n 1, 1) := by decide +kernel
theorem dX5_gatherGaps_26 : decode cX5_gatherGaps 26 = .ok (.getfield 41, 3) := by decide +kernel
theorem dX5_gatherGaps_29 : decode cX5_gatherGaps 29 = .ok (.iload 7, 2) := by decide +kernel
theorem dX5_gatherGaps_31 : decode cX5_gatherGaps 31 = .ok (.iaload, 1) := by decide +kernel
theorem dX5_gatherGaps_32 : decode cX5_gatherGaps 32 = .ok (.iload_n 2, 1) := by decide +kernel
theorem dX5_gatherGaps_33 : decode cX5_gatherGaps 33 = .ok (.if_icmp .eq 6, 3) := by decide +kernel
theorem dX5_gatherGaps_36 : decode cX5_gatherGaps 36 = .ok (.goto 47, 3) := by decide +kernel
theorem dX5_gatherGaps_39 : decode cX5_gatherGaps 39 = .ok (.iload_n 3, 1) := by decide +kernel
theorem dX5_gatherGaps_40 : decode cX5_gatherGaps 40 = .ok (.ifCond .le 31, 3) := by decide +kernel
theorem dX5_gatherGaps_43 : decode cX5_gatherGaps 43 = .ok (.aload_n 1, 1) := by decide +kernel
theorem dX5_gatherGaps_44 : decode cX5_gatherGaps 44 = .ok (.getfield 44, 3) := by decide +kernel
theorem dX5_gatherGaps_47 : decode cX5_gatherGaps 47 = .ok (.iload 7, 2) := by decide +kernel
theorem dX5_gatherGaps_49 : decode cX5_gatherGaps 49 = .ok (.iaload, 1) := by decide +kernel
theorem dX5_gatherGaps_50 : decode cX5_gatherGaps 50 = .ok (.iload 6, 2) := by decide +kernel
theorem dX5_gatherGaps_52 : decode cX5_gatherGaps 52 = .ok (.isub, 1) := by decide +kernel
theorem dX5_gatherGaps_53 : decode cX5_gatherGaps 53 = .ok (.istore 8, 2) := by decide +kernel
theorem dX5_gatherGaps_55 : decode cX5_gatherGaps 55 = .ok (.iload 4, 2) := by decide +kernel
theorem dX5_gatherGaps_57 : decode cX5_gatherGaps 57 = .ok (.iload 8, 2) := by decide +kernel
theorem dX5_gatherGaps_59 : decode cX5_gatherGaps 59 = .ok (.iadd, 1) := by decide +kernel
theorem dX5_gatherGaps_60 : decode cX5_gatherGaps 60 = .ok (.istore 4, 2) := by decide +kernel
theorem dX5_gatherGaps_62 : decode cX5_gatherGaps 62 = .ok (.iload 5, 2) := by decide +kernel
theorem dX5_gatherGaps_64 : decode cX5_gatherGaps 64 = .ok (.iload 8, 2) := by decide +kernel
theorem dX5_gatherGaps_66 : decode cX5_gatherGaps 66 = .ok (.invokestatic 47, 3) := by decide +kernel
theorem dX5_gatherGaps_69 : decode cX5_gatherGaps 69 = .ok (.istore 5, 2) := by decide +kernel
theorem dX5_gatherGaps_71 : decode cX5_gatherGaps 71 = .ok (.aload_n 1, 1) := by decide +kernel
theorem dX5_gatherGaps_72 : decode cX5_gatherGaps 72 = .ok (.getfield 44, 3) := by decide +kernel
theorem dX5_gatherGaps_75 : decode cX5_gatherGaps 75 = .ok (.iload 7, 2) := by decide +kernel
theorem dX5_gatherGaps_77 : decode cX5_gatherGaps 77 = .ok (.iaload, 1) := by decide +kernel
theorem dX5_gatherGaps_78 : decode cX5_gatherGaps 78 = .ok (.istore 6, 2) := by decide +kernel
theorem dX5_gatherGaps_80 : decode cX5_gatherGaps 80 = .ok (.iinc 3 1, 3) := by decide +kernel
theorem dX5_gatherGaps_83 : decode cX5_gatherGaps 83 = .ok (.iinc 7 1, 3) := by decide +kernel
theorem dX5_gatherGaps_86 : decode cX5_gatherGaps 86 = .ok (.goto (-70), 3) := by decide +kernel
theorem dX5_gatherGaps_89 : decode cX5_gatherGaps 89 = .ok (.aload_n 0, 1) := by decide +kernel
theorem dX5_gatherGaps_90 : decode cX5_gatherGaps 90 = .ok (.getfield 9, 3) := by decide +kernel
theorem dX5_gatherGaps_93 : decode cX5_gatherGaps 93 = .ok (.iconst 0, 1) := by decide +kernel
theorem dX5_gatherGaps_94 : decode cX5_gatherGaps 94 = .ok (.iload_n 3, 1) := by decide +kernel
theorem dX5_gatherGaps_95 : decode cX5_gatherGaps 95 = .ok (.iastore, 1) := by decide +kernel
theorem dX5_gatherGaps_96 : decode cX5_gatherGaps 96 = .ok (.aload_n 0, 1) := by decide +kernel
theorem dX5_gatherGaps_97 : decode cX5_gatherGaps 97 = .ok (.getfield 9, 3) := by decide +kernel
theorem dX5_gatherGaps_100 : decode cX5_gatherGaps 100 = .ok (.iconst 1, 1) := by decide +kernel
theorem dX5_gatherGaps_101 : decode cX5_gatherGaps 101 = .ok (.iload_n 3, 1) := by decide +kernel
theorem dX5_gatherGaps_102 : decode cX5_gatherGaps 102 = .ok (.iconst 2, 1) := by decide +kernel
theorem dX5_gatherGaps_103 : decode cX5_gatherGaps 103 = .ok (.if_icmp .ge 7, 3) := by decide +kernel
theorem dX5_gatherGaps_106 : decode cX5_gatherGaps 106 = .ok (.iconst 0, 1) := by decide +kernel
theorem dX5_gatherGaps_107 : decode cX5_gatherGaps 107 = .ok (.goto 11, 3) := by decide +kernel
theorem dX5_gatherGaps_110 : decode cX5_gatherGaps 110 = .ok (.iload 4, 2) := by decide +kernel
theorem dX5_gatherGaps_112 : decode cX5_gatherGaps 112 = .ok (.iload_n 3, 1) := by decide +kernel
theorem dX5_gatherGaps_113 : decode cX5_gatherGaps 113 = .ok (.iconst 1, 1) := by decide +kernel
theorem dX5_gatherGaps_114 : decode cX5_gatherGaps 114 = .ok (.isub, 1) := by decide +kernel
theorem dX5_gatherGaps_115 : decode cX5_gatherGaps 115 = .ok (.invokestatic 53, 3) := by decide +kernel
theorem dX5_gatherGaps_118 : decode cX5_gatherGaps 118 = .ok (.iastore, 1) := by decide +kernel
theorem dX5_gatherGaps_119 : decode cX5_gatherGaps 119 = .ok (.aload_n 0, 1) := by decide +kernel
theorem dX5_gatherGaps_120 : decode cX5_gatherGaps 120 = .ok (.getfield 9, 3) := by decide +kernel
theorem dX5_gatherGaps_123 : decode cX5_gatherGaps 123 = .ok (.iconst 2, 1) := by decide +kernel
theorem dX5_gatherGaps_124 : decode cX5_gatherGaps 124 = .ok (.iload_n 3, 1) := by decide +kernel
theorem dX5_gatherGaps_125 : decode cX5_gatherGaps 125 = .ok (.iconst 2, 1) := by decide +kernel
theorem dX5_gatherGaps_126 : decode cX5_gatherGaps 126 = .ok (.if_icmp .ge 7, 3) := by decide +kernel
theorem dX5_gatherGaps_129 : decode cX5_gatherGaps 129 = .ok (.iconst 0, 1) := by decide +kernel
theorem dX5_gatherGaps_130 : decode cX5_gatherGaps 130 = .ok (.goto 5, 3) := by decide +kernel
theorem dX5_gatherGaps_133 : decode cX5_gatherGaps 133 = .ok (.iload 5, 2) := by decide +kernel
theorem dX5_gatherGaps_135 : decode cX5_gatherGaps 135 = .ok (.iastore, 1) := by decide +kernel
theorem dX5_gatherGaps_136 : decode cX5_gatherGaps 136 = .ok (.return_, 1) := by decide +kernel
theorem dX5_gatherFollowing_0 : decode cX5_gatherFollowing 0 = .ok (.iconst 0, 1) := by decide +kernel
theorem dX5_gatherFollowing_1 : decode cX5_gatherFollowing 1 = .ok (.istore_n 3, 1) := by decide +kernel
theorem dX5_gatherFollowing_2 : decode cX5_gatherFollowing 2 = .ok (.bipush 99, 2) := by decide +kernel
theorem dX5_gatherFollowing_4 : decode cX5_gatherFollowing 4 = .ok (.istore 4, 2) := by decide +kernel
theorem dX5_gatherFollowing_6 : decode cX5_gatherFollowing 6 = .ok (.iconst 0, 1) := by decide +kernel
theorem dX5_gatherFollowing_7 : decode cX5_gatherFollowing 7 = .ok (.istore 5, 2) := by decide +kernel
theorem dX5_gatherFollowing_9 : decode cX5_gatherFollowing 9 = .ok (.iload 5, 2) := by decide +kernel
theorem dX5_gatherFollowing_11 : decode cX5_gatherFollowing 11 = .ok (.aload_n 1, 1) := by decide +kernel
theorem dX5_gatherFollowing_12 : decode cX5_gatherFollowing 12 = .ok (.getfield 37, 3) := by decide +kernel
theorem dX5_gatherFollowing_15 : decode cX5_gatherFollowing 15 = .ok (.if_icmp .ge 59, 3) := by decide +kernel
theorem dX5_gatherFollowing_18 : decode cX5_gatherFollowing 18 = .ok (.aload_n 1, 1) := by decide +kernel
theorem dX5_gatherFollowing_19 : decode cX5_gatherFollowing 19 = .ok (.getfield 56, 3) := by decide +kernel
theorem dX5_gatherFollowing_22 : decode cX5_gatherFollowing 22 = .ok (.iload 5, 2) := by decide +kernel
theorem dX5_gatherFollowing_24 : decode cX5_gatherFollowing 24 = .ok (.iaload, 1) := by decide +kernel
theorem dX5_gatherFollowing_25 : decode cX5_gatherFollowing 25 = .ok (.istore 6, 2) := by decide +kernel
theorem dX5_gatherFollowing_27 : decode cX5_gatherFollowing 27 = .ok (.aload_n 1, 1) := by decide +kernel
theorem dX5_gatherFollowing_28 : decode cX5_gatherFollowing 28 = .ok (.getfield 41, 3) := by decide +kernel
theorem dX5_gatherFollowing_31 : decode cX5_gatherFollowing 31 = .ok (.iload 5, 2) := by decide +kernel
theorem dX5_gatherFollowing_33 : decode cX5_gatherFollowing 33 = .ok (.iaload, 1) := by decide +kernel
theorem dX5_gatherFollowing_34 : decode cX5_gatherFollowing 34 = .ok (.iload_n 2, 1) := by decide +kernel
theorem dX5_gatherFollowing_35 : decode cX5_gatherFollowing 35 = .ok (.if_icmp .ne 33, 3) := by decide +kernel
theorem dX5_gatherFollowing_38 : decode cX5_gatherFollowing 38 = .ok (.iload 6, 2) := by decide +kernel
theorem dX5_gatherFollowing_40 : decode cX5_gatherFollowing 40 = .ok (.ifCond .lt 28, 3) := by decide +kernel
theorem dX5_gatherFollowing_43 : decode cX5_gatherFollowing 43 = .ok (.iinc 3 1, 3) := by decide +kernel
theorem dX5_gatherFollowing_46 : decode cX5_gatherFollowing 46 = .ok (.iload 4, 2) := by decide +kernel
theorem dX5_gatherFollowing_48 : decode cX5_gatherFollowing 48 = .ok (.aload_n 1, 1) := by decide +kernel
theorem dX5_gatherFollowing_49 : decode cX5_gatherFollowing 49 = .ok (.getfield 44, 3) := by decide +kernel
theorem dX5_gatherFollowing_52 : decode cX5_gatherFollowing 52 = .ok (.iload 5, 2) := by decide +kernel
theorem dX5_gatherFollowing_54 : decode cX5_gatherFollowing 54 = .ok (.iaload, 1) := by decide +kernel
theorem dX5_gatherFollowing_55 : decode cX5_gatherFollowing 55 = .ok (.aload_n 1, 1) := by decide +kernel
theorem dX5_gatherFollowing_56 : decode cX5_gatherFollowing 56 = .ok (.getfield 44, 3) := by decide +kernel
theorem dX5_gatherFollowing_59 : decode cX5_gatherFollowing 59 = .ok (.iload 6, 2) := by decide +kernel
theorem dX5_gatherFollowing_61 : decode cX5_gatherFollowing 61 = .ok (.iaload, 1) := by decide +kernel
theorem dX5_gatherFollowing_62 : decode cX5_gatherFollowing 62 = .ok (.isub, 1) := by decide +kernel
theorem dX5_gatherFollowing_63 : decode cX5_gatherFollowing 63 = .ok (.invokestatic 47, 3) := by decide +kernel
theorem dX5_gatherFollowing_66 : decode cX5_gatherFollowing 66 = .ok (.istore 4, 2) := by decide +kernel
theorem dX5_gatherFollowing_68 : decode cX5_gatherFollowing 68 = .ok (.iinc 5 1, 3) := by decide +kernel
theorem dX5_gatherFollowing_71 : decode cX5_gatherFollowing 71 = .ok (.goto (-62), 3) := by decide +kernel
theorem dX5_gatherFollowing_74 : decode cX5_gatherFollowing 74 = .ok (.aload_n 0, 1) := by decide +kernel
theorem dX5_gatherFollowing_75 : decode cX5_gatherFollowing 75 = .ok (.getfield 9, 3) := by decide +kernel
theorem dX5_gatherFollowing_78 : decode cX5_gatherFollowing 78 = .ok (.iconst 4, 1) := by decide +kernel
theorem dX5_gatherFollowing_79 : decode cX5_gatherFollowing 79 = .ok (.iload_n 3, 1) := by decide +kernel
theorem dX5_gatherFollowing_80 : decode cX5_gatherFollowing 80 = .ok (.iastore, 1) := by decide +kernel
theorem dX5_gatherFollowing_81 : decode cX5_gatherFollowing 81 = .ok (.aload_n 0, 1) := by decide +kernel
theorem dX5_gatherFollowing_82 : decode cX5_gatherFollowing 82 = .ok (.getfield 9, 3) := by decide +kernel
theorem dX5_gatherFollowing_85 : decode cX5_gatherFollowing 85 = .ok (.iconst 5, 1) := by decide +kernel
theorem dX5_gatherFollowing_86 : decode cX5_gatherFollowing 86 = .ok (.iload 4, 2) := by decide +kernel
theorem dX5_gatherFollowing_88 : decode cX5_gatherFollowing 88 = .ok (.iastore, 1) := by decide +kernel
theorem dX5_gatherFollowing_89 : decode cX5_gatherFollowing 89 = .ok (.return_, 1) := by decide +kernel
theorem dX5_countTopics_0 : decode cX5_countTopics 0 = .ok (.iconst 0, 1) := by decide +kernel
theorem dX5_countTopics_1 : decode cX5_countTopics 1 = .ok (.istore_n 2, 1) := by decide +kernel
theorem dX5_countTopics_2 : decode cX5_countTopics 2 = .ok (.iconst 0, 1) := by decide +kernel
theorem dX5_countTopics_3 : decode cX5_countTopics 3 = .ok (.istore_n 3, 1) := by decide +kernel
theorem dX5_countTopics_4 : decode cX5_countTopics 4 = .ok (.iload_n 3, 1) := by decide +kernel
theorem dX5_countTopics_5 : decode cX5_countTopics 5 = .ok (.aload_n 0, 1) := by decide +kernel
theorem dX5_countTopics_6 : decode cX5_countTopics 6 = .ok (.getfield 37, 3) := by decide +kernel
theorem dX5_countTopics_9 : decode cX5_countTopics 9 = .ok (.if_icmp .ge 30, 3) := by decide +kernel
theorem dX5_countTopics_12 : decode cX5_countTopics 12 = .ok (.aload_n 0, 1) := by decide +kernel
theorem dX5_countTopics_13 : decode cX5_countTopics 13 = .ok (.getfield 41, 3) := by decide +kernel
theorem dX5_countTopics_16 : decode cX5_countTopics 16 = .ok (.iload_n 3, 1) := by decide +kernel
theorem dX5_countTopics_17 : decode cX5_countTopics 17 = .ok (.iaload, 1) := by decide +kernel
theorem dX5_countTopics_18 : decode cX5_countTopics 18 = .ok (.iload_n 1, 1) := by decide +kernel
theorem dX5_countTopics_19 : decode cX5_countTopics 19 = .ok (.if_icmp .ne 14, 3) := by decide +kernel
theorem dX5_countTopics_22 : decode cX5_countTopics 22 = .ok (.iload_n 2, 1) := by decide +kernel
theorem dX5_countTopics_23 : decode cX5_countTopics 23 = .ok (.iconst 1, 1) := by decide +kernel
theorem dX5_countTopics_24 : decode cX5_countTopics 24 = .ok (.aload_n 0, 1) := by decide +kernel
theorem dX5_countTopics_25 : decode cX5_countTopics 25 = .ok (.getfield 59, 3) := by decide +kernel
theorem dX5_countTopics_28 : decode cX5_countTopics 28 = .ok (.iload_n 3, 1) := by decide +kernel
theorem dX5_countTopics_29 : decode cX5_countTopics 29 = .ok (.iaload, 1) := by decide +kernel
theorem dX5_countTopics_30 : decode cX5_countTopics 30 = .ok (.ishl, 1) := by decide +kernel
theorem dX5_countTopics_31 : decode cX5_countTopics 31 = .ok (.ior, 1) := by decide +kernel
theorem dX5_countTopics_32 : decode cX5_countTopics 32 = .ok (.istore_n 2, 1) := by decide +kernel
theorem dX5_countTopics_33 : decode cX5_countTopics 33 = .ok (.iinc 3 1, 3) := by decide +kernel
theorem dX5_countTopics_36 : decode cX5_countTopics 36 = .ok (.goto (-32), 3) := by decide +kernel
theorem dX5_countTopics_39 : decode cX5_countTopics 39 = .ok (.iload_n 2, 1) := by decide +kernel
theorem dX5_countTopics_40 : decode cX5_countTopics 40 = .ok (.invokestatic 28, 3) := by decide +kernel
theorem dX5_countTopics_43 : decode cX5_countTopics 43 = .ok (.ireturn, 1) := by decide +kernel
theorem dX6_init_0 : decode cX6_init 0 = .ok (.aload_n 0, 1) := by decide +kernel
theorem dX6_init_1 : decode cX6_init 1 = .ok (.invokespecial 3, 3) := by decide +kernel
theorem dX6_init_4 : decode cX6_init 4 = .ok (.aload_n 0, 1) := by decide +kernel
theorem dX6_init_5 : decode cX6_init 5 = .ok (.bipush 6, 2) := by decide +kernel
theorem dX6_init_7 : decode cX6_init 7 = .ok (.bipush 80, 2) := by decide +kernel
theorem dX6_init_9 : decode cX6_init 9 = .ok (.multianewarray 9 2, 4) := by decide +kernel
theorem dX6_init_13 : decode cX6_init 13 = .ok (.putfield 11, 3) := by decide +kernel
theorem dX6_init_16 : decode cX6_init 16 = .ok (.aload_n 0, 1) := by decide +kernel
theorem dX6_init_17 : decode cX6_init 17 = .ok (.bipush 6, 2) := by decide +kernel
theorem dX6_init_19 : decode cX6_init 19 = .ok (.newarray .int, 2) := by decide +kernel
theorem dX6_init_21 : decode cX6_init 21 = .ok (.putfield 16, 3) := by decide +kernel
theorem dX6_init_24 : decode cX6_init 24 = .ok (.return_, 1) := by decide +kernel
theorem dX6_has_0 : decode cX6_has 0 = .ok (.iload_n 1, 1) := by decide +kernel
theorem dX6_has_1 : decode cX6_has 1 = .ok (.iconst 0, 1) := by decide +kernel
theorem dX6_has_2 : decode cX6_has 2 = .ok (.aload_n 0, 1) := by decide +kernel
theorem dX6_has_3 : decode cX6_has 3 = .ok (.getfield 20, 3) := by decide +kernel
theorem dX6_has_6 : decode cX6_has 6 = .ok (.iconst 1, 1) := by decide +kernel
theorem dX6_has_7 : decode cX6_has 7 = .ok (.isub, 1) := by decide +kernel
theorem dX6_has_8 : decode cX6_has 8 = .ok (.invokestatic 24, 3) := by decide +kernel
theorem dX6_has_11 : decode cX6_has 11 = .ok (.ireturn, 1) := by decide +kernel
theorem dX6_add_0 : decode cX6_add 0 = .ok (.aload_n 1, 1) := by decide +kernel
theorem dX6_add_1 : decode cX6_add 1 = .ok (.iconst 0, 1) := by decide +kernel
theorem dX6_add_2 : decode cX6_add 2 = .ok (.aload_n 0, 1) := by decide +kernel
theorem dX6_add_3 : decode cX6_add 3 = .ok (.getfield 11, 3) := by decide +kernel
theorem dX6_add_6 : decode cX6_add 6 = .ok (.aload_n 0, 1) := by decide +kernel
theorem dX6_add_7 : decode cX6_add 7 = .ok (.getfield 20, 3) := by decide +kernel
theorem dX6_add_10 : decode cX6_add 10 = .ok (.aaload, 1) := by decide +kernel
theorem dX6_add_11 : decode cX6_add 11 = .ok (.iconst 0, 1) := by decide +kernel
theorem dX6_add_12 : decode cX6_add 12 = .ok (.iload_n 2, 1) := by decide +kernel
theorem dX6_add_13 : decode cX6_add 13 = .ok (.invokestatic 28, 3) := by decide +kernel
theorem dX6_add_16 : decode cX6_add 16 = .ok (.aload_n 0, 1) := by decide +kernel
theorem dX6_add_17 : decode cX6_add 17 = .ok (.getfield 16, 3) := by decide +kernel
theorem dX6_add_20 : decode cX6_add 20 = .ok (.aload_n 0, 1) := by decide +kernel
theorem dX6_add_21 : decode cX6_add 21 = .ok (.getfield 20, 3) := by decide +kernel
theorem dX6_add_24 : decode cX6_add 24 = .ok (.iload_n 2, 1) := by decide +kernel
theorem dX6_add_25 : decode cX6_add 25 = .ok (.iastore, 1) := by decide +kernel
theorem dX6_add_26 : decode cX6_add 26 = .ok (.aload_n 0, 1) := by decide +kernel
theorem dX6_add_27 : decode cX6_add 27 = .ok (.dup, 1) := by decide +kernel
theorem dX6_add_28 : decode cX6_add 28 = .ok (.getfield 20, 3) := by decide +kernel
theorem dX6_add_31 : decode cX6_add 31 = .ok (.iconst 1, 1) := by decide +kernel
theorem dX6_add_32 : decode cX6_add 32 = .ok (.iadd, 1) := by decide +kernel
theorem dX6_add_33 : decode cX6_add 33 = .ok (.putfield 20, 3) := by decide +kernel
theorem dX6_add_36 : decode cX6_add 36 = .ok (.aload_n 0, 1) := by decide +kernel
theorem dX6_add_37 : decode cX6_add 37 = .ok (.getfield 20, 3) := by decide +kernel
theorem dX6_add_40 : decode cX6_add 40 = .ok (.iconst 1, 1) := by decide +kernel
theorem dX6_add_41 : decode cX6_add 41 = .ok (.isub, 1) := by decide +kernel
theorem dX6_add_42 : decode cX6_add 42 = .ok (.ireturn, 1) := by decide +kernel
theorem dX6_become_0 : decode cX6_become 0 = .ok (.aload_n 0, 1) := by decide +kernel
theorem dX6_become_1 : decode cX6_become 1 = .ok (.aload_n 1, 1) := by decide +kernel
theorem dX6_become_2 : decode cX6_become 2 = .ok (.getfield 20, 3) := by decide +kernel
theorem dX6_become_5 : decode cX6_become 5 = .ok (.putfield 20, 3) := by decide +kernel
theorem dX6_become_8 : decode cX6_become 8 = .ok (.iconst 0, 1) := by decide +kernel
theorem dX6_become_9 : decode cX6_become 9 = .ok (.istore_n 2, 1) := by decide +kernel
theorem dX6_become_10 : decode cX6_become 10 = .ok (.iload_n 2, 1) := by decide +kernel
theorem dX6_become_11 : decode cX6_become 11 = .ok (.aload_n 0, 1) := by decide +kernel
theorem dX6_become_12 : decode cX6_become 12 = .ok (.getfield 20, 3) := by decide +kernel
theorem dX6_become_15 : decode cX6_become 15 = .ok (.if_icmp .ge 44, 3) := by decide +kernel
theorem dX6_become_18 : decode cX6_become 18 = .ok (.aload_n 0, 1) := by decide +kernel
theorem dX6_become_19 : decode cX6_become 19 = .ok (.getfield 16, 3) := by decide +kernel
theorem dX6_become_22 : decode cX6_become 22 = .ok (.iload_n 2, 1) := by decide +kernel
theorem dX6_become_23 : decode cX6_become 23 = .ok (.aload_n 1, 1) := by decide +kernel
theorem dX6_become_24 : decode cX6_become 24 = .ok (.getfield 16, 3) := by decide +kernel
theorem dX6_become_27 : decode cX6_become 27 = .ok (.iload_n 2, 1) := by decide +kernel
theorem dX6_become_28 : decode cX6_become 28 = .ok (.iaload, 1) := by decide +kernel
theorem dX6_become_29 : decode cX6_become 29 = .ok (.iastore, 1) := by decide +kernel
theorem dX6_become_30 : decode cX6_become 30 = .ok (.aload_n 1, 1) := by decide +kernel
theorem dX6_become_31 : decode cX6_become 31 = .ok (.getfield 11, 3) := by decide +kernel
theorem dX6_become_34 : decode cX6_become 34 = .ok (.iload_n 2, 1) := by decide +kernel
theorem dX6_become_35 : decode cX6_become 35 = .ok (.aaload, 1) := by decide +kernel
theorem dX6_become_36 : decode cX6_become 36 = .ok (.iconst 0, 1) := by decide +kernel
theorem dX6_become_37 : decode cX6_become 37 = .ok (.aload_n 0, 1) := by decide +kernel
theorem dX6_become_38 : decode cX6_become 38 = .ok (.getfield 11, 3) := by decide +kernel
theorem dX6_become_41 : decode cX6_become 41 = .ok (.iload_n 2, 1) := by decide +kernel
theorem dX6_become_42 : decode cX6_become 42 = .ok (.aaload, 1) := by decide +kernel
theorem dX6_become_43 : decode cX6_become 43 = .ok (.iconst 0, 1) := by decide +kernel
theorem dX6_become_44 : decode cX6_become 44 = .ok (.aload_n 0, 1) := by decide +kernel
theorem dX6_become_45 : decode cX6_become 45 = .ok (.getfield 16, 3) := by decide +kernel
theorem dX6_become_48 : decode cX6_become 48 = .ok (.iload_n 2, 1) := by decide +kernel
theorem dX6_become_49 : decode cX6_become 49 = .ok (.iaload, 1) := by decide +kernel
theorem dX6_become_50 : decode cX6_become 50 = .ok (.invokestatic 28, 3) := by decide +kernel
theorem dX6_become_53 : decode cX6_become 53 = .ok (.iinc 2 1, 3) := by decide +kernel
theorem dX6_become_56 : decode cX6_become 56 = .ok (.goto (-46), 3) := by decide +kernel
theorem dX6_become_59 : decode cX6_become 59 = .ok (.return_, 1) := by decide +kernel
theorem dX7_init_0 : decode cX7_init 0 = .ok (.aload_n 0, 1) := by decide +kernel
theorem dX7_init_1 : decode cX7_init 1 = .ok (.invokespecial 3, 3) := by decide +kernel
theorem dX7_init_4 : decode cX7_init 4 = .ok (.aload_n 0, 1) := by decide +kernel
theorem dX7_init_5 : decode cX7_init 5 = .ok (.bipush 14, 2) := by decide +kernel
theorem dX7_init_7 : decode cX7_init 7 = .ok (.newarray .int, 2) := by decide +kernel
theorem dX7_init_9 : decode cX7_init 9 = .ok (.putfield 9, 3) := by decide +kernel
theorem dX7_init_12 : decode cX7_init 12 = .ok (.aload_n 0, 1) := by decide +kernel
theorem dX7_init_13 : decode cX7_init 13 = .ok (.bipush 14, 2) := by decide +kernel
theorem dX7_init_15 : decode cX7_init 15 = .ok (.bipush 14, 2) := by decide +kernel
theorem dX7_init_17 : decode cX7_init 17 = .ok (.multianewarray 15 2, 4) := by decide +kernel
theorem dX7_init_21 : decode cX7_init 21 = .ok (.putfield 17, 3) := by decide +kernel
theorem dX7_init_24 : decode cX7_init 24 = .ok (.return_, 1) := by decide +kernel
theorem dX7_gather_0 : decode cX7_gather 0 = .ok (.aload_n 0, 1) := by decide +kernel
theorem dX7_gather_1 : decode cX7_gather 1 = .ok (.iload_n 2, 1) := by decide +kernel
theorem dX7_gather_2 : decode cX7_gather 2 = .ok (.putfield 20, 3) := by decide +kernel
theorem dX7_gather_5 : decode cX7_gather 5 = .ok (.aload_n 0, 1) := by decide +kernel
theorem dX7_gather_6 : decode cX7_gather 6 = .ok (.aload_n 1, 1) := by decide +kernel
theorem dX7_gather_7 : decode cX7_gather 7 = .ok (.iload_n 3, 1) := by decide +kernel
theorem dX7_gather_8 : decode cX7_gather 8 = .ok (.invokevirtual 24, 3) := by decide +kernel
theorem dX7_gather_11 : decode cX7_gather 11 = .ok (.iconst 0, 1) := by decide +kernel
theorem dX7_gather_12 : decode cX7_gather 12 = .ok (.istore 5, 2) := by decide +kernel
theorem dX7_gather_14 : decode cX7_gather 14 = .ok (.iload 5, 2) := by decide +kernel
theorem dX7_gather_16 : decode cX7_gather 16 = .ok (.aload_n 0, 1) := by decide +kernel
theorem dX7_gather_17 : decode cX7_gather 17 = .ok (.getfield 20, 3) := by decide +kernel
theorem dX7_gather_20 : decode cX7_gather 20 = .ok (.if_icmp .ge 18, 3) := by decide +kernel
theorem dX7_gather_23 : decode cX7_gather 23 = .ok (.aload_n 0, 1) := by decide +kernel
theorem dX7_gather_24 : decode cX7_gather 24 = .ok (.getfield 9, 3) := by decide +kernel
theorem dX7_gather_27 : decode cX7_gather 27 = .ok (.iload 5, 2) := by decide +kernel
theorem dX7_gather_29 : decode cX7_gather 29 = .ok (.iload 5, 2) := by decide +kernel
theorem dX7_gather_31 : decode cX7_gather 31 = .ok (.iastore, 1) := by decide +kernel
theorem dX7_gather_32 : decode cX7_gather 32 = .ok (.iinc 5 1, 3) := by decide +kernel
theorem dX7_gather_35 : decode cX7_gather 35 = .ok (.goto (-21), 3) := by decide +kernel
theorem dX7_gather_38 : decode cX7_gather 38 = .ok (.iconst 0, 1) := by decide +kernel
theorem dX7_gather_39 : decode cX7_gather 39 = .ok (.istore 5, 2) := by decide +kernel
theorem dX7_gather_41 : decode cX7_gather 41 = .ok (.iload 5, 2) := by decide +kernel
theorem dX7_gather_43 : decode cX7_gather 43 = .ok (.aload_n 0, 1) := by decide +kernel
theorem dX7_gather_44 : decode cX7_gather 44 = .ok (.getfield 20, 3) := by decide +kernel
theorem dX7_gather_47 : decode cX7_gather 47 = .ok (.if_icmp .ge 73, 3) := by decide +kernel
theorem dX7_gather_50 : decode cX7_gather 50 = .ok (.iconst 0, 1) := by decide +kernel
theorem dX7_gather_51 : decode cX7_gather 51 = .ok (.istore 6, 2) := by decide +kernel
theorem dX7_gather_53 : decode cX7_gather 53 = .ok (.iload 6, 2) := by decide +kernel
theorem dX7_gather_55 : decode cX7_gather 55 = .ok (.iload 5, 2) := by decide +kernel
theorem dX7_gather_57 : decode cX7_gather 57 = .ok (.if_icmp .ge 57, 3) := by decide +kernel
theorem dX7_gather_60 : decode cX7_gather 60 = .ok (.aload_n 0, 1) := by decide +kernel
theorem dX7_gather_61 : decode cX7_gather 61 = .ok (.getfield 17, 3) := by decide +kernel
theorem dX7_gather_64 : decode cX7_gather 64 = .ok (.iload 5, 2) := by decide +kernel
theorem dX7_gather_66 : decode cX7_gather 66 = .ok (.aaload, 1) := by decide +kernel
theorem dX7_gather_67 : decode cX7_gather 67 = .ok (.iload 6, 2) := by decide +kernel
theorem dX7_gather_69 : decode cX7_gather 69 = .ok (.iaload, 1) := by decide +kernel
theorem dX7_gather_70 : decode cX7_gather 70 = .ok (.iload 4, 2) := by decide +kernel
theorem dX7_gather_72 : decode cX7_gather 72 = .ok (.if_icmp .ge 18, 3) := by decide +kernel
theorem dX7_gather_75 : decode cX7_gather 75 = .ok (.aload_n 0, 1) := by decide +kernel
theorem dX7_gather_76 : decode cX7_gather 76 = .ok (.getfield 17, 3) := by decide +kernel
theorem dX7_gather_79 : decode cX7_gather 79 = .ok (.iload 6, 2) := by decide +kernel
theorem dX7_gather_81 : decode cX7_gather 81 = .ok (.aaload, 1) := by decide +kernel
theorem dX7_gather_82 : decode cX7_gather 82 = .ok (.iload 5, 2) := by decide +kernel
theorem dX7_gather_84 : decode cX7_gather 84 = .ok (.iaload, 1) := by decide +kernel
theorem dX7_gather_85 : decode cX7_gather 85 = .ok (.iload 4, 2) := by decide +kernel
theorem dX7_gather_87 : decode cX7_gather 87 = .ok (.if_icmp .lt 21, 3) := by decide +kernel
theorem dX7_gather_90 : decode cX7_gather 90 = .ok (.aload_n 0, 1) := by decide +kernel
theorem dX7_gather_91 : decode cX7_gather 91 = .ok (.aload_n 0, 1) := by decide +kernel
theorem dX7_gather_92 : decode cX7_gather 92 = .ok (.getfield 9, 3) := by decide +kernel
theorem dX7_gather_95 : decode cX7_gather 95 = .ok (.iload 5, 2) := by decide +kernel
theorem dX7_gather_97 : decode cX7_gather 97 = .ok (.iaload, 1) := by decide +kernel
theorem dX7_gather_98 : decode cX7_gather 98 = .ok (.aload_n 0, 1) := by decide +kernel
theorem dX7_gather_99 : decode cX7_gather 99 = .ok (.getfield 9, 3) := by decide +kernel
theorem dX7_gather_102 : decode cX7_gather 102 = .ok (.iload 6, 2) := by decide +kernel
theorem dX7_gather_104 : decode cX7_gather 104 = .ok (.iaload, 1) := by decide +kernel
theorem dX7_gather_105 : decode cX7_gather 105 = .ok (.invokevirtual 28, 3) := by decide +kernel
theorem dX7_gather_108 : decode cX7_gather 108 = .ok (.iinc 6 1, 3) := by decide +kernel
theorem dX7_gather_111 : decode cX7_gather 111 = .ok (.goto (-58), 3) := by decide +kernel
theorem dX7_gather_114 : decode cX7_gather 114 = .ok (.iinc 5 1, 3) := by decide +kernel
theorem dX7_gather_117 : decode cX7_gather 117 = .ok (.goto (-76), 3) := by decide +kernel
theorem dX7_gather_120 : decode cX7_gather 120 = .ok (.return_, 1) := by decide +kernel
theorem dX7_gatherNear_0 : decode cX7_gatherNear 0 = .ok (.iconst 0, 1) := by decide +kernel
theorem dX7_gatherNear_1 : decode cX7_gatherNear 1 = .ok (.istore_n 3, 1) := by decide +kernel
theorem dX7_gatherNear_2 : decode cX7_gatherNear 2 = .ok (.iload_n 3, 1) := by decide +kernel
theorem dX7_gatherNear_3 : decode cX7_gatherNear 3 = .ok (.aload_n 0, 1) := by decide +kernel
theorem dX7_gatherNear_4 : decode cX7_gatherNear 4 = .ok (.getfield 20, 3) := by decide +kernel
theorem dX7_gatherNear_7 : decode cX7_gatherNear 7 = .ok (.if_icmp .ge 37, 3) := by decide +kernel
theorem dX7_gatherNear_10 : decode cX7_gatherNear 10 = .ok (.iconst 0, 1) := by decide +kernel
theorem dX7_gatherNear_11 : decode cX7_gatherNear 11 = .ok (.istore 4, 2) := by decide +kernel
theorem dX7_gatherNear_13 : decode cX7_gatherNear 13 = .ok (.iload 4, 2) := by decide +kernel
theorem dX7_gatherNear_15 : decode cX7_gatherNear 15 = .ok (.aload_n 0, 1) := by decide +kernel
theorem dX7_gatherNear_16 : decode cX7_gatherNear 16 = .ok (.getfield 20, 3) := by decide +kernel
theorem dX7_gatherNear_19 : decode cX7_gatherNear 19 = .ok (.if_icmp .ge 19, 3) := by decide +kernel
theorem dX7_gatherNear_22 : decode cX7_gatherNear 22 = .ok (.aload_n 0, 1) := by decide +kernel
theorem dX7_gatherNear_23 : decode cX7_gatherNear 23 = .ok (.getfield 17, 3) := by decide +kernel
theorem dX7_gatherNear_26 : decode cX7_gatherNear 26 = .ok (.iload_n 3, 1) := by decide +kernel
theorem dX7_gatherNear_27 : decode cX7_gatherNear 27 = .ok (.aaload, 1) := by decide +kernel
theorem dX7_gatherNear_28 : decode cX7_gatherNear 28 = .ok (.iload 4, 2) := by decide +kernel
theorem dX7_gatherNear_30 : decode cX7_gatherNear 30 = .ok (.iconst 0, 1) := by decide +kernel
theorem dX7_gatherNear_31 : decode cX7_gatherNear 31 = .ok (.iastore, 1) := by decide +kernel
theorem dX7_gatherNear_32 : decode cX7_gatherNear 32 = .ok (.iinc 4 1, 3) := by decide +kernel
theorem dX7_gatherNear_35 : decode cX7_gatherNear 35 = .ok (.goto (-22), 3) := by decide +kernel
theorem dX7_gatherNear_38 : decode cX7_gatherNear 38 = .ok (.iinc 3 1, 3) := by decide +kernel
theorem dX7_gatherNear_41 : decode cX7_gatherNear 41 = .ok (.goto (-39), 3) := by decide +kernel
theorem dX7_gatherNear_44 : decode cX7_gatherNear 44 = .ok (.iconst 0, 1) := by decide +kernel
theorem dX7_gatherNear_45 : decode cX7_gatherNear 45 = .ok (.istore_n 3, 1) := by decide +kernel
theorem dX7_gatherNear_46 : decode cX7_gatherNear 46 = .ok (.iload_n 3, 1) := by decide +kernel
theorem dX7_gatherNear_47 : decode cX7_gatherNear 47 = .ok (.aload_n 1, 1) := by decide +kernel
theorem dX7_gatherNear_48 : decode cX7_gatherNear 48 = .ok (.getfield 32, 3) := by decide +kernel
theorem dX7_gatherNear_51 : decode cX7_gatherNear 51 = .ok (.if_icmp .ge 62, 3) := by decide +kernel
theorem dX7_gatherNear_54 : decode cX7_gatherNear 54 = .ok (.aload_n 1, 1) := by decide +kernel
theorem dX7_gatherNear_55 : decode cX7_gatherNear 55 = .ok (.iload_n 3, 1) := by decide +kernel
theorem dX7_gatherNear_56 : decode cX7_gatherNear 56 = .ok (.iload_n 2, 1) := by decide +kernel
theorem dX7_gatherNear_57 : decode cX7_gatherNear 57 = .ok (.invokevirtual 35, 3) := by decide +kernel
theorem dX7_gatherNear_60 : decode cX7_gatherNear 60 = .ok (.istore 4, 2) := by decide +kernel
theorem dX7_gatherNear_62 : decode cX7_gatherNear 62 = .ok (.iconst 0, 1) := by decide +kernel
theorem dX7_gatherNear_63 : decode cX7_gatherNear 63 = .ok (.istore 5, 2) := by decide +kernel
theorem dX7_gatherNear_65 : decode cX7_gatherNear 65 = .ok (.iload 5, 2) := by decide +kernel
theorem dX7_gatherNear_67 : decode cX7_gatherNear 67 = .ok (.aload_n 0, 1) := by decide +kernel
theorem dX7_gatherNear_68 : decode cX7_gatherNear 68 = .ok (.getfield 20, 3) := by decide +kernel
theorem dX7_gatherNear_71 : decode cX7_gatherNear 71 = .ok (.if_icmp .ge 36, 3) := by decide +kernel
theorem dX7_gatherNear_74 : decode cX7_gatherNear 74 = .ok (.aload_n 0, 1) := by decide +kernel
theorem dX7_gatherNear_75 : decode cX7_gatherNear 75 = .ok (.getfield 17, 3) := by decide +kernel
theorem dX7_gatherNear_78 : decode cX7_gatherNear 78 = .ok (.aload_n 1, 1) := by decide +kernel
theorem dX7_gatherNear_79 : decode cX7_gatherNear 79 = .ok (.getfield 39, 3) := by decide +kernel
theorem dX7_gatherNear_82 : decode cX7_gatherNear 82 = .ok (.iload_n 3, 1) := by decide +kernel
theorem dX7_gatherNear_83 : decode cX7_gatherNear 83 = .ok (.iaload, 1) := by decide +kernel
theorem dX7_gatherNear_84 : decode cX7_gatherNear 84 = .ok (.aaload, 1) := by decide +kernel
theorem dX7_gatherNear_85 : decode cX7_gatherNear 85 = .ok (.iload 5, 2) := by decide +kernel
theorem dX7_gatherNear_87 : decode cX7_gatherNear 87 = .ok (.dup2, 1) := by decide +kernel
theorem dX7_gatherNear_88 : decode cX7_gatherNear 88 = .ok (.iaload, 1) := by decide +kernel
theorem dX7_gatherNear_89 : decode cX7_gatherNear 89 = .ok (.iload 4, 2) := by decide +kernel
theorem dX7_gatherNear_91 : decode cX7_gatherNear 91 = .ok (.iload 5, 2) := by decide +kernel
theorem dX7_gatherNear_93 : decode cX7_gatherNear 93 = .ok (.invokestatic 42, 3) := by decide +kernel
theorem dX7_gatherNear_96 : decode cX7_gatherNear 96 = .ok (.invokestatic 46, 3) := by decide +kernel
theorem dX7_gatherNear_99 : decode cX7_gatherNear 99 = .ok (.iadd, 1) := by decide +kernel
theorem dX7_gatherNear_100 : decode cX7_gatherNear 100 = .ok (.iastore, 1) := by decide +kernel
theorem dX7_gatherNear_101 : decode cX7_gatherNear 101 = .ok (.iinc 5 1, 3) := by decide +kernel
theorem dX7_gatherNear_104 : decode cX7_gatherNear 104 = .ok (.goto (-39), 3) := by decide +kernel
theorem dX7_gatherNear_107 : decode cX7_gatherNear 107 = .ok (.iinc 3 1, 3) := by decide +kernel
theorem dX7_gatherNear_110 : decode cX7_gatherNear 110 = .ok (.goto (-64), 3) := by decide +kernel
theorem dX7_gatherNear_113 : decode cX7_gatherNear 113 = .ok (.return_, 1) := by decide +kernel
theorem dX7_join_0 : decode cX7_join 0 = .ok (.iload_n 1, 1) := by decide +kernel
theorem dX7_join_1 : decode cX7_join 1 = .ok (.iload_n 2, 1) := by decide +kernel
theorem dX7_join_2 : decode cX7_join 2 = .ok (.invokestatic 50, 3) := by decide +kernel
theorem dX7_join_5 : decode cX7_join 5 = .ok (.istore_n 3, 1) := by decide +kernel
theorem dX7_join_6 : decode cX7_join 6 = .ok (.iconst 0, 1) := by decide +kernel
theorem dX7_join_7 : decode cX7_join 7 = .ok (.istore 4, 2) := by decide +kernel
theorem dX7_join_9 : decode cX7_join 9 = .ok (.iload 4, 2) := by decide +kernel
theorem dX7_join_11 : decode cX7_join 11 = .ok (.aload_n 0, 1) := by decide +kernel
theorem dX7_join_12 : decode cX7_join 12 = .ok (.getfield 20, 3) := by decide +kernel
theorem dX7_join_15 : decode cX7_join 15 = .ok (.if_icmp .ge 39, 3) := by decide +kernel
theorem dX7_join_18 : decode cX7_join 18 = .ok (.aload_n 0, 1) := by decide +kernel
theorem dX7_join_19 : decode cX7_join 19 = .ok (.getfield 9, 3) := by decide +kernel
theorem dX7_join_22 : decode cX7_join 22 = .ok (.iload 4, 2) := by decide +kernel
theorem dX7_join_24 : decode cX7_join 24 = .ok (.iaload, 1) := by decide +kernel
theorem dX7_join_25 : decode cX7_join 25 = .ok (.iload_n 1, 1) := by decide +kernel
theorem dX7_join_26 : decode cX7_join 26 = .ok (.if_icmp .eq 14, 3) := by decide +kernel
theorem dX7_join_29 : decode cX7_join 29 = .ok (.aload_n 0, 1) := by decide +kernel
theorem dX7_join_30 : decode cX7_join 30 = .ok (.getfield 9, 3) := by decide +kernel
theorem dX7_join_33 : decode cX7_join 33 = .ok (.iload 4, 2) := by decide +kernel
theorem dX7_join_35 : decode cX7_join 35 = .ok (.iaload, 1) := by decide +kernel
theorem dX7_join_36 : decode cX7_join 36 = .ok (.iload_n 2, 1) := by decide +kernel
theorem dX7_join_37 : decode cX7_join 37 = .ok (.if_icmp .ne 11, 3) := by decide +kernel
theorem dX7_join_40 : decode cX7_join 40 = .ok (.aload_n 0, 1) := by decide +kernel
theorem dX7_join_41 : decode cX7_join 41 = .ok (.getfield 9, 3) := by decide +kernel
theorem dX7_join_44 : decode cX7_join 44 = .ok (.iload 4, 2) := by decide +kernel
theorem dX7_join_46 : decode cX7_join 46 = .ok (.iload_n 3, 1) := by decide +kernel
theorem dX7_join_47 : decode cX7_join 47 = .ok (.iastore, 1) := by decide +kernel
theorem dX7_join_48 : decode cX7_join 48 = .ok (.iinc 4 1, 3) := by decide +kernel
theorem dX7_join_51 : decode cX7_join 51 = .ok (.goto (-42), 3) := by decide +kernel
theorem dX7_join_54 : decode cX7_join 54 = .ok (.return_, 1) := by decide +kernel
theorem dX7_groupSet_0 : decode cX7_groupSet 0 = .ok (.iconst 0, 1) := by decide +kernel
theorem dX7_groupSet_1 : decode cX7_groupSet 1 = .ok (.istore_n 2, 1) := by decide +kernel
theorem dX7_groupSet_2 : decode cX7_groupSet 2 = .ok (.iconst 0, 1) := by decide +kernel
theorem dX7_groupSet_3 : decode cX7_groupSet 3 = .ok (.istore_n 3, 1) := by decide +kernel
theorem dX7_groupSet_4 : decode cX7_groupSet 4 = .ok (.iload_n 3, 1) := by decide +kernel
theorem dX7_groupSet_5 : decode cX7_groupSet 5 = .ok (.aload_n 0, 1) := by decide +kernel
theorem dX7_groupSet_6 : decode cX7_groupSet 6 = .ok (.getfield 20, 3) := by decide +kernel
theorem dX7_groupSet_9 : decode cX7_groupSet 9 = .ok (.if_icmp .ge 25, 3) := by decide +kernel
theorem dX7_groupSet_12 : decode cX7_groupSet 12 = .ok (.aload_n 0, 1) := by decide +kernel
theorem dX7_groupSet_13 : decode cX7_groupSet 13 = .ok (.getfield 9, 3) := by decide +kernel
theorem dX7_groupSet_16 : decode cX7_groupSet 16 = .ok (.iload_n 3, 1) := by decide +kernel
theorem dX7_groupSet_17 : decode cX7_groupSet 17 = .ok (.iaload, 1) := by decide +kernel
theorem dX7_groupSet_18 : decode cX7_groupSet 18 = .ok (.iload_n 1, 1) := by decide +kernel
theorem dX7_groupSet_19 : decode cX7_groupSet 19 = .ok (.if_icmp .ne 9, 3) := by decide +kernel
theorem dX7_groupSet_22 : decode cX7_groupSet 22 = .ok (.iload_n 2, 1) := by decide +kernel
theorem dX7_groupSet_23 : decode cX7_groupSet 23 = .ok (.iconst 1, 1) := by decide +kernel
theorem dX7_groupSet_24 : decode cX7_groupSet 24 = .ok (.iload_n 3, 1) := by decide +kernel
theorem dX7_groupSet_25 : decode cX7_groupSet 25 = .ok (.ishl, 1) := by decide +kernel
theorem dX7_groupSet_26 : decode cX7_groupSet 26 = .ok (.ior, 1) := by decide +kernel
theorem dX7_groupSet_27 : decode cX7_groupSet 27 = .ok (.istore_n 2, 1) := by decide +kernel
theorem dX7_groupSet_28 : decode cX7_groupSet 28 = .ok (.iinc 3 1, 3) := by decide +kernel
theorem dX7_groupSet_31 : decode cX7_groupSet 31 = .ok (.goto (-27), 3) := by decide +kernel
theorem dX7_groupSet_34 : decode cX7_groupSet 34 = .ok (.iload_n 2, 1) := by decide +kernel
theorem dX7_groupSet_35 : decode cX7_groupSet 35 = .ok (.ireturn, 1) := by decide +kernel
theorem dX7_countGroups_0 : decode cX7_countGroups 0 = .ok (.iconst 0, 1) := by decide +kernel
theorem dX7_countGroups_1 : decode cX7_countGroups 1 = .ok (.istore_n 1, 1) := by decide +kernel
theorem dX7_countGroups_2 : decode cX7_countGroups 2 = .ok (.iconst 0, 1) := by decide +kernel
theorem dX7_countGroups_3 : decode cX7_countGroups 3 = .ok (.istore_n 2, 1) := by decide +kernel
theorem dX7_countGroups_4 : decode cX7_countGroups 4 = .ok (.iload_n 2, 1) := by decide +kernel
theorem dX7_countGroups_5 : decode cX7_countGroups 5 = .ok (.aload_n 0, 1) := by decide +kernel
theorem dX7_countGroups_6 : decode cX7_countGroups 6 = .ok (.getfield 20, 3) := by decide +kernel
theorem dX7_countGroups_9 : decode cX7_countGroups 9 = .ok (.if_icmp .ge 30, 3) := by decide +kernel
theorem dX7_countGroups_12 : decode cX7_countGroups 12 = .ok (.iload_n 1, 1) := by decide +kernel
theorem dX7_countGroups_13 : decode cX7_countGroups 13 = .ok (.aload_n 0, 1) := by decide +kernel
theorem dX7_countGroups_14 : decode cX7_countGroups 14 = .ok (.getfield 9, 3) := by decide +kernel
theorem dX7_countGroups_17 : decode cX7_countGroups 17 = .ok (.iload_n 2, 1) := by decide +kernel
theorem dX7_countGroups_18 : decode cX7_countGroups 18 = .ok (.iaload, 1) := by decide +kernel
theorem dX7_countGroups_19 : decode cX7_countGroups 19 = .ok (.iload_n 2, 1) := by decide +kernel
theorem dX7_countGroups_20 : decode cX7_countGroups 20 = .ok (.if_icmp .ne 7, 3) := by decide +kernel
theorem dX7_countGroups_23 : decode cX7_countGroups 23 = .ok (.iconst 1, 1) := by decide +kernel
theorem dX7_countGroups_24 : decode cX7_countGroups 24 = .ok (.goto 4, 3) := by decide +kernel
theorem dX7_countGroups_27 : decode cX7_countGroups 27 = .ok (.iconst 0, 1) := by decide +kernel
theorem dX7_countGroups_28 : decode cX7_countGroups 28 = .ok (.invokestatic 46, 3) := by decide +kernel
theorem dX7_countGroups_31 : decode cX7_countGroups 31 = .ok (.iadd, 1) := by decide +kernel
theorem dX7_countGroups_32 : decode cX7_countGroups 32 = .ok (.istore_n 1, 1) := by decide +kernel
theorem dX7_countGroups_33 : decode cX7_countGroups 33 = .ok (.iinc 2 1, 3) := by decide +kernel
theorem dX7_countGroups_36 : decode cX7_countGroups 36 = .ok (.goto (-32), 3) := by decide +kernel
theorem dX7_countGroups_39 : decode cX7_countGroups 39 = .ok (.iload_n 1, 1) := by decide +kernel
theorem dX7_countGroups_40 : decode cX7_countGroups 40 = .ok (.ireturn, 1) := by decide +kernel
theorem dJ6_bitCount_0f7a4_0 : decode cJ6_bitCount_0f7a4 0 = .ok (.iload_n 0, 1) := by decide +kernel
theorem dJ6_bitCount_0f7a4_1 : decode cJ6_bitCount_0f7a4 1 = .ok (.iload_n 0, 1) := by decide +kernel
theorem dJ6_bitCount_0f7a4_2 : decode cJ6_bitCount_0f7a4 2 = .ok (.iconst 1, 1) := by decide +kernel
theorem dJ6_bitCount_0f7a4_3 : decode cJ6_bitCount_0f7a4 3 = .ok (.iushr, 1) := by decide +kernel
theorem dJ6_bitCount_0f7a4_4 : decode cJ6_bitCount_0f7a4 4 = .ok (.ldc_w 265, 3) := by decide +kernel
theorem dJ6_bitCount_0f7a4_7 : decode cJ6_bitCount_0f7a4 7 = .ok (.iand, 1) := by decide +kernel
theorem dJ6_bitCount_0f7a4_8 : decode cJ6_bitCount_0f7a4 8 = .ok (.isub, 1) := by decide +kernel
theorem dJ6_bitCount_0f7a4_9 : decode cJ6_bitCount_0f7a4 9 = .ok (.istore_n 0, 1) := by decide +kernel
theorem dJ6_bitCount_0f7a4_10 : decode cJ6_bitCount_0f7a4 10 = .ok (.iload_n 0, 1) := by decide +kernel
theorem dJ6_bitCount_0f7a4_11 : decode cJ6_bitCount_0f7a4 11 = .ok (.ldc_w 266, 3) := by decide +kernel
theorem dJ6_bitCount_0f7a4_14 : decode cJ6_bitCount_0f7a4 14 = .ok (.iand, 1) := by decide +kernel
theorem dJ6_bitCount_0f7a4_15 : decode cJ6_bitCount_0f7a4 15 = .ok (.iload_n 0, 1) := by decide +kernel
theorem dJ6_bitCount_0f7a4_16 : decode cJ6_bitCount_0f7a4 16 = .ok (.iconst 2, 1) := by decide +kernel
theorem dJ6_bitCount_0f7a4_17 : decode cJ6_bitCount_0f7a4 17 = .ok (.iushr, 1) := by decide +kernel
theorem dJ6_bitCount_0f7a4_18 : decode cJ6_bitCount_0f7a4 18 = .ok (.ldc_w 266, 3) := by decide +kernel
theorem dJ6_bitCount_0f7a4_21 : decode cJ6_bitCount_0f7a4 21 = .ok (.iand, 1) := by decide +kernel
theorem dJ6_bitCount_0f7a4_22 : decode cJ6_bitCount_0f7a4 22 = .ok (.iadd, 1) := by decide +kernel
theorem dJ6_bitCount_0f7a4_23 : decode cJ6_bitCount_0f7a4 23 = .ok (.istore_n 0, 1) := by decide +kernel
theorem dJ6_bitCount_0f7a4_24 : decode cJ6_bitCount_0f7a4 24 = .ok (.iload_n 0, 1) := by decide +kernel
theorem dJ6_bitCount_0f7a4_25 : decode cJ6_bitCount_0f7a4 25 = .ok (.iload_n 0, 1) := by decide +kernel
theorem dJ6_bitCount_0f7a4_26 : decode cJ6_bitCount_0f7a4 26 = .ok (.iconst 4, 1) := by decide +kernel
theorem dJ6_bitCount_0f7a4_27 : decode cJ6_bitCount_0f7a4 27 = .ok (.iushr, 1) := by decide +kernel
theorem dJ6_bitCount_0f7a4_28 : decode cJ6_bitCount_0f7a4 28 = .ok (.iadd, 1) := by decide +kernel
theorem dJ6_bitCount_0f7a4_29 : decode cJ6_bitCount_0f7a4 29 = .ok (.ldc_w 267, 3) := by decide +kernel
theorem dJ6_bitCount_0f7a4_32 : decode cJ6_bitCount_0f7a4 32 = .ok (.iand, 1) := by decide +kernel
theorem dJ6_bitCount_0f7a4_33 : decode cJ6_bitCount_0f7a4 33 = .ok (.istore_n 0, 1) := by decide +kernel
theorem dJ6_bitCount_0f7a4_34 : decode cJ6_bitCount_0f7a4 34 = .ok (.iload_n 0, 1) := by decide +kernel
theorem dJ6_bitCount_0f7a4_35 : decode cJ6_bitCount_0f7a4 35 = .ok (.iload_n 0, 1) := by decide +kernel
theorem dJ6_bitCount_0f7a4_36 : decode cJ6_bitCount_0f7a4 36 = .ok (.bipush 8, 2) := by decide +kernel
theorem dJ6_bitCount_0f7a4_38 : decode cJ6_bitCount_0f7a4 38 = .ok (.iushr, 1) := by decide +kernel
theorem dJ6_bitCount_0f7a4_39 : decode cJ6_bitCount_0f7a4 39 = .ok (.iadd, 1) := by decide +kernel
theorem dJ6_bitCount_0f7a4_40 : decode cJ6_bitCount_0f7a4 40 = .ok (.istore_n 0, 1) := by decide +kernel
theorem dJ6_bitCount_0f7a4_41 : decode cJ6_bitCount_0f7a4 41 = .ok (.iload_n 0, 1) := by decide +kernel
theorem dJ6_bitCount_0f7a4_42 : decode cJ6_bitCount_0f7a4 42 = .ok (.iload_n 0, 1) := by decide +kernel
theorem dJ6_bitCount_0f7a4_43 : decode cJ6_bitCount_0f7a4 43 = .ok (.bipush 16, 2) := by decide +kernel
theorem dJ6_bitCount_0f7a4_45 : decode cJ6_bitCount_0f7a4 45 = .ok (.iushr, 1) := by decide +kernel
theorem dJ6_bitCount_0f7a4_46 : decode cJ6_bitCount_0f7a4 46 = .ok (.iadd, 1) := by decide +kernel
theorem dJ6_bitCount_0f7a4_47 : decode cJ6_bitCount_0f7a4 47 = .ok (.istore_n 0, 1) := by decide +kernel
theorem dJ6_bitCount_0f7a4_48 : decode cJ6_bitCount_0f7a4 48 = .ok (.iload_n 0, 1) := by decide +kernel
theorem dJ6_bitCount_0f7a4_49 : decode cJ6_bitCount_0f7a4 49 = .ok (.bipush 63, 2) := by decide +kernel
theorem dJ6_bitCount_0f7a4_51 : decode cJ6_bitCount_0f7a4 51 = .ok (.iand, 1) := by decide +kernel
theorem dJ6_bitCount_0f7a4_52 : decode cJ6_bitCount_0f7a4 52 = .ok (.ireturn, 1) := by decide +kernel
theorem dJ9_abs_067f4_0 : decode cJ9_abs_067f4 0 = .ok (.lload_n 0, 1) := by decide +kernel
theorem dJ9_abs_067f4_1 : decode cJ9_abs_067f4 1 = .ok (.lconst 0, 1) := by decide +kernel
theorem dJ9_abs_067f4_2 : decode cJ9_abs_067f4 2 = .ok (.lcmp, 1) := by decide +kernel
theorem dJ9_abs_067f4_3 : decode cJ9_abs_067f4 3 = .ok (.ifCond .ge 8, 3) := by decide +kernel
theorem dJ9_abs_067f4_6 : decode cJ9_abs_067f4 6 = .ok (.lload_n 0, 1) := by decide +kernel
theorem dJ9_abs_067f4_7 : decode cJ9_abs_067f4 7 = .ok (.lneg, 1) := by decide +kernel
theorem dJ9_abs_067f4_8 : decode cJ9_abs_067f4 8 = .ok (.goto 4, 3) := by decide +kernel
theorem dJ9_abs_067f4_11 : decode cJ9_abs_067f4 11 = .ok (.lload_n 0, 1) := by decide +kernel
theorem dJ9_abs_067f4_12 : decode cJ9_abs_067f4 12 = .ok (.lreturn, 1) := by decide +kernel
theorem dJ9_max_7cf53_0 : decode cJ9_max_7cf53 0 = .ok (.iload_n 0, 1) := by decide +kernel
theorem dJ9_max_7cf53_1 : decode cJ9_max_7cf53 1 = .ok (.iload_n 1, 1) := by decide +kernel
theorem dJ9_max_7cf53_2 : decode cJ9_max_7cf53 2 = .ok (.if_icmp .lt 7, 3) := by decide +kernel
theorem dJ9_max_7cf53_5 : decode cJ9_max_7cf53 5 = .ok (.iload_n 0, 1) := by decide +kernel
theorem dJ9_max_7cf53_6 : decode cJ9_max_7cf53 6 = .ok (.goto 4, 3) := by decide +kernel
theorem dJ9_max_7cf53_9 : decode cJ9_max_7cf53 9 = .ok (.iload_n 1, 1) := by decide +kernel
theorem dJ9_max_7cf53_10 : decode cJ9_max_7cf53 10 = .ok (.ireturn, 1) := by decide +kernel
theorem dJ9_min_7cf53_0 : decode cJ9_min_7cf53 0 = .ok (.iload_n 0, 1) := by decide +kernel
theorem dJ9_min_7cf53_1 : decode cJ9_min_7cf53 1 = .ok (.iload_n 1, 1) := by decide +kernel
theorem dJ9_min_7cf53_2 : decode cJ9_min_7cf53 2 = .ok (.if_icmp .gt 7, 3) := by decide +kernel
theorem dJ9_min_7cf53_5 : decode cJ9_min_7cf53 5 = .ok (.iload_n 0, 1) := by decide +kernel
theorem dJ9_min_7cf53_6 : decode cJ9_min_7cf53 6 = .ok (.goto 4, 3) := by decide +kernel
theorem dJ9_min_7cf53_9 : decode cJ9_min_7cf53 9 = .ok (.iload_n 1, 1) := by decide +kernel
theorem dJ9_min_7cf53_10 : decode cJ9_min_7cf53 10 = .ok (.ireturn, 1) := by decide +kernel
theorem dJ0_length_8abf5_0 : decode cJ0_length_8abf5 0 = .ok (.aload_n 0, 1) := by decide +kernel
theorem dJ0_length_8abf5_1 : decode cJ0_length_8abf5 1 = .ok (.getfield 9, 3) := by decide +kernel
theorem dJ0_length_8abf5_4 : decode cJ0_length_8abf5 4 = .ok (.arraylength, 1) := by decide +kernel
theorem dJ0_length_8abf5_5 : decode cJ0_length_8abf5 5 = .ok (.aload_n 0, 1) := by decide +kernel
theorem dJ0_length_8abf5_6 : decode cJ0_length_8abf5 6 = .ok (.invokevirtual 335, 3) := by decide +kernel
theorem dJ0_length_8abf5_9 : decode cJ0_length_8abf5 9 = .ok (.ishr, 1) := by decide +kernel
theorem dJ0_length_8abf5_10 : decode cJ0_length_8abf5 10 = .ok (.ireturn, 1) := by decide +kernel
theorem dJ0_indexOf_0f7a4_0 : decode cJ0_indexOf_0f7a4 0 = .ok (.aload_n 0, 1) := by decide +kernel
theorem dJ0_indexOf_0f7a4_1 : decode cJ0_indexOf_0f7a4 1 = .ok (.iload_n 1, 1) := by decide +kernel
theorem dJ0_indexOf_0f7a4_2 : decode cJ0_indexOf_0f7a4 2 = .ok (.iconst 0, 1) := by decide +kernel
theorem dJ0_indexOf_0f7a4_3 : decode cJ0_indexOf_0f7a4 3 = .ok (.invokevirtual 633, 3) := by decide +kernel
theorem dJ0_indexOf_0f7a4_6 : decode cJ0_indexOf_0f7a4 6 = .ok (.ireturn, 1) := by decide +kernel
theorem dJ0_indexOf_7cf53_0 : decode cJ0_indexOf_7cf53 0 = .ok (.aload_n 0, 1) := by decide +kernel
theorem dJ0_indexOf_7cf53_1 : decode cJ0_indexOf_7cf53 1 = .ok (.invokevirtual 492, 3) := by decide +kernel
theorem dJ0_indexOf_7cf53_4 : decode cJ0_indexOf_7cf53 4 = .ok (.ifCond .eq 19, 3) := by decide +kernel
theorem dJ0_indexOf_7cf53_7 : decode cJ0_indexOf_7cf53 7 = .ok (.aload_n 0, 1) := by decide +kernel
theorem dJ0_indexOf_7cf53_8 : decode cJ0_indexOf_7cf53 8 = .ok (.getfield 9, 3) := by decide +kernel
theorem dJ0_indexOf_7cf53_11 : decode cJ0_indexOf_7cf53 11 = .ok (.iload_n 1, 1) := by decide +kernel
theorem dJ0_indexOf_7cf53_12 : decode cJ0_indexOf_7cf53 12 = .ok (.iload_n 2, 1) := by decide +kernel
theorem dJ0_indexOf_7cf53_13 : decode cJ0_indexOf_7cf53 13 = .ok (.aload_n 0, 1) := by decide +kernel
theorem dJ0_indexOf_7cf53_14 : decode cJ0_indexOf_7cf53 14 = .ok (.invokevirtual 505, 3) := by decide +kernel
theorem dJ0_indexOf_7cf53_17 : decode cJ0_indexOf_7cf53 17 = .ok (.invokestatic 637, 3) := by decide +kernel
theorem dJ0_indexOf_7cf53_20 : decode cJ0_indexOf_7cf53 20 = .ok (.goto 16, 3) := by decide +kernel
theorem dJ0_indexOf_7cf53_23 : decode cJ0_indexOf_7cf53 23 = .ok (.aload_n 0, 1) := by decide +kernel
theorem dJ0_indexOf_7cf53_24 : decode cJ0_indexOf_7cf53 24 = .ok (.getfield 9, 3) := by decide +kernel
theorem dJ0_indexOf_7cf53_27 : decode cJ0_indexOf_7cf53 27 = .ok (.iload_n 1, 1) := by decide +kernel
theorem dJ0_indexOf_7cf53_28 : decode cJ0_indexOf_7cf53 28 = .ok (.iload_n 2, 1) := by decide +kernel
theorem dJ0_indexOf_7cf53_29 : decode cJ0_indexOf_7cf53 29 = .ok (.aload_n 0, 1) := by decide +kernel
theorem dJ0_indexOf_7cf53_30 : decode cJ0_indexOf_7cf53 30 = .ok (.invokevirtual 505, 3) := by decide +kernel
theorem dJ0_indexOf_7cf53_33 : decode cJ0_indexOf_7cf53 33 = .ok (.invokestatic 640, 3) := by decide +kernel
theorem dJ0_indexOf_7cf53_36 : decode cJ0_indexOf_7cf53 36 = .ok (.ireturn, 1) := by decide +kernel
theorem dJ0_coder_7d493_0 : decode cJ0_coder_7d493 0 = .ok (.getstatic 38, 3) := by decide +kernel
theorem dJ0_coder_7d493_3 : decode cJ0_coder_7d493 3 = .ok (.ifCond .eq 10, 3) := by decide +kernel
theorem dJ0_coder_7d493_6 : decode cJ0_coder_7d493 6 = .ok (.aload_n 0, 1) := by decide +kernel
theorem dJ0_coder_7d493_7 : decode cJ0_coder_7d493 7 = .ok (.getfield 15, 3) := by decide +kernel
theorem dJ0_coder_7d493_10 : decode cJ0_coder_7d493 10 = .ok (.goto 4, 3) := by decide +kernel
theorem dJ0_coder_7d493_13 : decode cJ0_coder_7d493 13 = .ok (.iconst 1, 1) := by decide +kernel
theorem dJ0_coder_7d493_14 : decode cJ0_coder_7d493 14 = .ok (.ireturn, 1) := by decide +kernel
theorem dJ0_isLatin1_aae02_0 : decode cJ0_isLatin1_aae02 0 = .ok (.getstatic 38, 3) := by decide +kernel
theorem dJ0_isLatin1_aae02_3 : decode cJ0_isLatin1_aae02 3 = .ok (.ifCond .eq 14, 3) := by decide +kernel
theorem dJ0_isLatin1_aae02_6 : decode cJ0_isLatin1_aae02 6 = .ok (.aload_n 0, 1) := by decide +kernel
theorem dJ0_isLatin1_aae02_7 : decode cJ0_isLatin1_aae02 7 = .ok (.getfield 15, 3) := by decide +kernel
theorem dJ0_isLatin1_aae02_10 : decode cJ0_isLatin1_aae02 10 = .ok (.ifCond .ne 7, 3) := by decide +kernel
theorem dJ0_isLatin1_aae02_13 : decode cJ0_isLatin1_aae02 13 = .ok (.iconst 1, 1) := by decide +kernel
theorem dJ0_isLatin1_aae02_14 : decode cJ0_isLatin1_aae02 14 = .ok (.goto 4, 3) := by decide +kernel
theorem dJ0_isLatin1_aae02_17 : decode cJ0_isLatin1_aae02 17 = .ok (.iconst 0, 1) := by decide +kernel
theorem dJ0_isLatin1_aae02_18 : decode cJ0_isLatin1_aae02 18 = .ok (.ireturn, 1) := by decide +kernel
theorem dJ1_canEncode_9a6ad_0 : decode cJ1_canEncode_9a6ad 0 = .ok (.iload_n 0, 1) := by decide +kernel
theorem dJ1_canEncode_9a6ad_1 : decode cJ1_canEncode_9a6ad 1 = .ok (.ifCond .lt 14, 3) := by decide +kernel
theorem dJ1_canEncode_9a6ad_4 : decode cJ1_canEncode_9a6ad 4 = .ok (.iload_n 0, 1) := by decide +kernel
theorem dJ1_canEncode_9a6ad_5 : decode cJ1_canEncode_9a6ad 5 = .ok (.sipush 255, 3) := by decide +kernel
theorem dJ1_canEncode_9a6ad_8 : decode cJ1_canEncode_9a6ad 8 = .ok (.if_icmp .gt 7, 3) := by decide +kernel
theorem dJ1_canEncode_9a6ad_11 : decode cJ1_canEncode_9a6ad 11 = .ok (.iconst 1, 1) := by decide +kernel
theorem dJ1_canEncode_9a6ad_12 : decode cJ1_canEncode_9a6ad 12 = .ok (.goto 4, 3) := by decide +kernel
theorem dJ1_canEncode_9a6ad_15 : decode cJ1_canEncode_9a6ad 15 = .ok (.iconst 0, 1) := by decide +kernel
theorem dJ1_canEncode_9a6ad_16 : decode cJ1_canEncode_9a6ad 16 = .ok (.ireturn, 1) := by decide +kernel
theorem dJ1_indexOf_4cfef_0 : decode cJ1_indexOf_4cfef 0 = .ok (.iload_n 1, 1) := by decide +kernel
theorem dJ1_indexOf_4cfef_1 : decode cJ1_indexOf_4cfef 1 = .ok (.invokestatic 88, 3) := by decide +kernel
theorem dJ1_indexOf_4cfef_4 : decode cJ1_indexOf_4cfef 4 = .ok (.ifCond .ne 5, 3) := by decide +kernel
theorem dJ1_indexOf_4cfef_7 : decode cJ1_indexOf_4cfef 7 = .ok (.iconst (-1), 1) := by decide +kernel
theorem dJ1_indexOf_4cfef_8 : decode cJ1_indexOf_4cfef 8 = .ok (.ireturn, 1) := by decide +kernel
theorem dJ1_indexOf_4cfef_9 : decode cJ1_indexOf_4cfef 9 = .ok (.iload_n 2, 1) := by decide +kernel
theorem dJ1_indexOf_4cfef_10 : decode cJ1_indexOf_4cfef 10 = .ok (.iconst 0, 1) := by decide +kernel
theorem dJ1_indexOf_4cfef_11 : decode cJ1_indexOf_4cfef 11 = .ok (.invokestatic 92, 3) := by decide +kernel
theorem dJ1_indexOf_4cfef_14 : decode cJ1_indexOf_4cfef 14 = .ok (.istore_n 2, 1) := by decide +kernel
theorem dJ1_indexOf_4cfef_15 : decode cJ1_indexOf_4cfef 15 = .ok (.iload_n 3, 1) := by decide +kernel
theorem dJ1_indexOf_4cfef_16 : decode cJ1_indexOf_4cfef 16 = .ok (.aload_n 0, 1) := by decide +kernel
theorem dJ1_indexOf_4cfef_17 : decode cJ1_indexOf_4cfef 17 = .ok (.arraylength, 1) := by decide +kernel
theorem dJ1_indexOf_4cfef_18 : decode cJ1_indexOf_4cfef 18 = .ok (.invokestatic 38, 3) := by decide +kernel
theorem dJ1_indexOf_4cfef_21 : decode cJ1_indexOf_4cfef 21 = .ok (.istore_n 3, 1) := by decide +kernel
theorem dJ1_indexOf_4cfef_22 : decode cJ1_indexOf_4cfef 22 = .ok (.iload_n 2, 1) := by decide +kernel
theorem dJ1_indexOf_4cfef_23 : decode cJ1_indexOf_4cfef 23 = .ok (.iload_n 3, 1) := by decide +kernel
theorem dJ1_indexOf_4cfef_24 : decode cJ1_indexOf_4cfef 24 = .ok (.if_icmp .lt 5, 3) := by decide +kernel
theorem dJ1_indexOf_4cfef_27 : decode cJ1_indexOf_4cfef 27 = .ok (.iconst (-1), 1) := by decide +kernel
theorem dJ1_indexOf_4cfef_28 : decode cJ1_indexOf_4cfef 28 = .ok (.ireturn, 1) := by decide +kernel
theorem dJ1_indexOf_4cfef_29 : decode cJ1_indexOf_4cfef 29 = .ok (.aload_n 0, 1) := by decide +kernel
theorem dJ1_indexOf_4cfef_30 : decode cJ1_indexOf_4cfef 30 = .ok (.iload_n 1, 1) := by decide +kernel
theorem dJ1_indexOf_4cfef_31 : decode cJ1_indexOf_4cfef 31 = .ok (.iload_n 2, 1) := by decide +kernel
theorem dJ1_indexOf_4cfef_32 : decode cJ1_indexOf_4cfef 32 = .ok (.iload_n 3, 1) := by decide +kernel
theorem dJ1_indexOf_4cfef_33 : decode cJ1_indexOf_4cfef 33 = .ok (.invokestatic 95, 3) := by decide +kernel
theorem dJ1_indexOf_4cfef_36 : decode cJ1_indexOf_4cfef 36 = .ok (.ireturn, 1) := by decide +kernel
theorem dJ1_indexOfChar_4cfef_0 : decode cJ1_indexOfChar_4cfef 0 = .ok (.iload_n 1, 1) := by decide +kernel
theorem dJ1_indexOfChar_4cfef_1 : decode cJ1_indexOfChar_4cfef 1 = .ok (.i2b, 1) := by decide +kernel
theorem dJ1_indexOfChar_4cfef_2 : decode cJ1_indexOfChar_4cfef 2 = .ok (.istore 4, 2) := by decide +kernel
theorem dJ1_indexOfChar_4cfef_4 : decode cJ1_indexOfChar_4cfef 4 = .ok (.iload_n 2, 1) := by decide +kernel
theorem dJ1_indexOfChar_4cfef_5 : decode cJ1_indexOfChar_4cfef 5 = .ok (.istore 5, 2) := by decide +kernel
theorem dJ1_indexOfChar_4cfef_7 : decode cJ1_indexOfChar_4cfef 7 = .ok (.iload 5, 2) := by decide +kernel
theorem dJ1_indexOfChar_4cfef_9 : decode cJ1_indexOfChar_4cfef 9 = .ok (.iload_n 3, 1) := by decide +kernel
theorem dJ1_indexOfChar_4cfef_10 : decode cJ1_indexOfChar_4cfef 10 = .ok (.if_icmp .ge 21, 3) := by decide +kernel
theorem dJ1_indexOfChar_4cfef_13 : decode cJ1_indexOfChar_4cfef 13 = .ok (.aload_n 0, 1) := by decide +kernel
theorem dJ1_indexOfChar_4cfef_14 : decode cJ1_indexOfChar_4cfef 14 = .ok (.iload 5, 2) := by decide +kernel
theorem dJ1_indexOfChar_4cfef_16 : decode cJ1_indexOfChar_4cfef 16 = .ok (.baload, 1) := by decide +kernel
theorem dJ1_indexOfChar_4cfef_17 : decode cJ1_indexOfChar_4cfef 17 = .ok (.iload 4, 2) := by decide +kernel
theorem dJ1_indexOfChar_4cfef_19 : decode cJ1_indexOfChar_4cfef 19 = .ok (.if_icmp .ne 6, 3) := by decide +kernel
theorem dJ1_indexOfChar_4cfef_22 : decode cJ1_indexOfChar_4cfef 22 = .ok (.iload 5, 2) := by decide +kernel
theorem dJ1_indexOfChar_4cfef_24 : decode cJ1_indexOfChar_4cfef 24 = .ok (.ireturn, 1) := by decide +kernel
theorem dJ1_indexOfChar_4cfef_25 : decode cJ1_indexOfChar_4cfef 25 = .ok (.iinc 5 1, 3) := by decide +kernel
theorem dJ1_indexOfChar_4cfef_28 : decode cJ1_indexOfChar_4cfef 28 = .ok (.goto (-21), 3) := by decide +kernel
theorem dJ1_indexOfChar_4cfef_31 : decode cJ1_indexOfChar_4cfef 31 = .ok (.iconst (-1), 1) := by decide +kernel
theorem dJ1_indexOfChar_4cfef_32 : decode cJ1_indexOfChar_4cfef 32 = .ok (.ireturn, 1) := by decide +kernel
