theorem dX9_people_0 : decode cX9_people 0 = .ok (.iconst 0, 1) := by decide +kernel
theorem dX9_people_1 : decode cX9_people 1 = .ok (.istore_n 1, 1) := by decide +kernel
theorem dX9_people_2 : decode cX9_people 2 = .ok (.iconst 0, 1) := by decide +kernel
theorem dX9_people_3 : decode cX9_people 3 = .ok (.istore_n 2, 1) := by decide +kernel
theorem dX9_people_4 : decode cX9_people 4 = .ok (.iload_n 2, 1) := by decide +kernel
theorem dX9_people_5 : decode cX9_people 5 = .ok (.aload_n 0, 1) := by decide +kernel
theorem dX9_people_6 : decode cX9_people 6 = .ok (.getfield 9, 3) := by decide +kernel
theorem dX9_people_9 : decode cX9_people 9 = .ok (.iconst 0, 1) := by decide +kernel
theorem dX9_people_10 : decode cX9_people 10 = .ok (.iaload, 1) := by decide +kernel
theorem dX9_people_11 : decode cX9_people 11 = .ok (.if_icmp .ge 27, 3) := by decide +kernel
theorem dX9_people_14 : decode cX9_people 14 = .ok (.iload_n 1, 1) := by decide +kernel
theorem dX9_people_15 : decode cX9_people 15 = .ok (.aload_n 0, 1) := by decide +kernel
theorem dX9_people_16 : decode cX9_people 16 = .ok (.iload_n 2, 1) := by decide +kernel
theorem dX9_people_17 : decode cX9_people 17 = .ok (.invokevirtual 77, 3) := by decide +kernel
theorem dX9_people_20 : decode cX9_people 20 = .ok (.ifCond .eq 9, 3) := by decide +kernel
theorem dX9_people_23 : decode cX9_people 23 = .ok (.iconst 1, 1) := by decide +kernel
theorem dX9_people_24 : decode cX9_people 24 = .ok (.iload_n 2, 1) := by decide +kernel
theorem dX9_people_25 : decode cX9_people 25 = .ok (.ishl, 1) := by decide +kernel
theorem dX9_people_26 : decode cX9_people 26 = .ok (.goto 4, 3) := by decide +kernel
theorem dX9_people_29 : decode cX9_people 29 = .ok (.iconst 0, 1) := by decide +kernel
theorem dX9_people_30 : decode cX9_people 30 = .ok (.ior, 1) := by decide +kernel
theorem dX9_people_31 : decode cX9_people 31 = .ok (.istore_n 1, 1) := by decide +kernel
theorem dX9_people_32 : decode cX9_people 32 = .ok (.iinc 2 1, 3) := by decide +kernel
theorem dX9_people_35 : decode cX9_people 35 = .ok (.goto (-31), 3) := by decide +kernel
theorem dX9_people_38 : decode cX9_people 38 = .ok (.iload_n 1, 1) := by decide +kernel
theorem dX9_people_39 : decode cX9_people 39 = .ok (.ireturn, 1) := by decide +kernel
theorem dX9_foundBy_0 : decode cX9_foundBy 0 = .ok (.iconst 0, 1) := by decide +kernel
theorem dX9_foundBy_1 : decode cX9_foundBy 1 = .ok (.istore_n 2, 1) := by decide +kernel
theorem dX9_foundBy_2 : decode cX9_foundBy 2 = .ok (.iconst 0, 1) := by decide +kernel
theorem dX9_foundBy_3 : decode cX9_foundBy 3 = .ok (.istore_n 3, 1) := by decide +kernel
theorem dX9_foundBy_4 : decode cX9_foundBy 4 = .ok (.iload_n 3, 1) := by decide +kernel
theorem dX9_foundBy_5 : decode cX9_foundBy 5 = .ok (.aload_n 0, 1) := by decide +kernel
theorem dX9_foundBy_6 : decode cX9_foundBy 6 = .ok (.getfield 9, 3) := by decide +kernel
theorem dX9_foundBy_9 : decode cX9_foundBy 9 = .ok (.iconst 0, 1) := by decide +kernel
theorem dX9_foundBy_10 : decode cX9_foundBy 10 = .ok (.iaload, 1) := by decide +kernel
theorem dX9_foundBy_11 : decode cX9_foundBy 11 = .ok (.if_icmp .ge 29, 3) := by decide +kernel
theorem dX9_foundBy_14 : decode cX9_foundBy 14 = .ok (.iload_n 2, 1) := by decide +kernel
theorem dX9_foundBy_15 : decode cX9_foundBy 15 = .ok (.aload_n 0, 1) := by decide +kernel
theorem dX9_foundBy_16 : decode cX9_foundBy 16 = .ok (.getfield 32, 3) := by decide +kernel
theorem dX9_foundBy_19 : decode cX9_foundBy 19 = .ok (.iload_n 3, 1) := by decide +kernel
theorem dX9_foundBy_20 : decode cX9_foundBy 20 = .ok (.iaload, 1) := by decide +kernel
theorem dX9_foundBy_21 : decode cX9_foundBy 21 = .ok (.iload_n 1, 1) := by decide +kernel
theorem dX9_foundBy_22 : decode cX9_foundBy 22 = .ok (.if_icmp .lt 9, 3) := by decide +kernel
theorem dX9_foundBy_25 : decode cX9_foundBy 25 = .ok (.iconst 1, 1) := by decide +kernel
theorem dX9_foundBy_26 : decode cX9_foundBy 26 = .ok (.iload_n 3, 1) := by decide +kernel
theorem dX9_foundBy_27 : decode cX9_foundBy 27 = .ok (.ishl, 1) := by decide +kernel
theorem dX9_foundBy_28 : decode cX9_foundBy 28 = .ok (.goto 4, 3) := by decide +kernel
theorem dX9_foundBy_31 : decode cX9_foundBy 31 = .ok (.iconst 0, 1) := by decide +kernel
theorem dX9_foundBy_32 : decode cX9_foundBy 32 = .ok (.ior, 1) := by decide +kernel
theorem dX9_foundBy_33 : decode cX9_foundBy 33 = .ok (.istore_n 2, 1) := by decide +kernel
theorem dX9_foundBy_34 : decode cX9_foundBy 34 = .ok (.iinc 3 1, 3) := by decide +kernel
theorem dX9_foundBy_37 : decode cX9_foundBy 37 = .ok (.goto (-33), 3) := by decide +kernel
theorem dX9_foundBy_40 : decode cX9_foundBy 40 = .ok (.iload_n 2, 1) := by decide +kernel
theorem dX9_foundBy_41 : decode cX9_foundBy 41 = .ok (.ireturn, 1) := by decide +kernel
theorem dX9_found_0 : decode cX9_found 0 = .ok (.aload_n 0, 1) := by decide +kernel
theorem dX9_found_1 : decode cX9_found 1 = .ok (.iload_n 1, 1) := by decide +kernel
theorem dX9_found_2 : decode cX9_found 2 = .ok (.invokevirtual 223, 3) := by decide +kernel
theorem dX9_found_5 : decode cX9_found 5 = .ok (.ifCond .eq 15, 3) := by decide +kernel
theorem dX9_found_8 : decode cX9_found 8 = .ok (.iload_n 3, 1) := by decide +kernel
theorem dX9_found_9 : decode cX9_found 9 = .ok (.i2l, 1) := by decide +kernel
theorem dX9_found_10 : decode cX9_found 10 = .ok (.lconst 0, 1) := by decide +kernel
theorem dX9_found_11 : decode cX9_found 11 = .ok (.ldc2_w 229, 3) := by decide +kernel
theorem dX9_found_14 : decode cX9_found 14 = .ok (.invokestatic 48, 3) := by decide +kernel
theorem dX9_found_17 : decode cX9_found 17 = .ok (.ifCond .ne 10, 3) := by decide +kernel
theorem dX9_found_20 : decode cX9_found 20 = .ok (.aload_n 0, 1) := by decide +kernel
theorem dX9_found_21 : decode cX9_found 21 = .ok (.ldc 47, 2) := by decide +kernel
theorem dX9_found_23 : decode cX9_found 23 = .ok (.invokevirtual 64, 3) := by decide +kernel
theorem dX9_found_26 : decode cX9_found 26 = .ok (.ireturn, 1) := by decide +kernel
theorem dX9_found_27 : decode cX9_found 27 = .ok (.aload_n 0, 1) := by decide +kernel
theorem dX9_found_28 : decode cX9_found 28 = .ok (.iload_n 1, 1) := by decide +kernel
theorem dX9_found_29 : decode cX9_found 29 = .ok (.invokevirtual 231, 3) := by decide +kernel
theorem dX9_found_32 : decode cX9_found 32 = .ok (.aload_n 0, 1) := by decide +kernel
theorem dX9_found_33 : decode cX9_found 33 = .ok (.iload_n 2, 1) := by decide +kernel
theorem dX9_found_34 : decode cX9_found 34 = .ok (.invokevirtual 234, 3) := by decide +kernel
theorem dX9_found_37 : decode cX9_found 37 = .ok (.istore 4, 2) := by decide +kernel
theorem dX9_found_39 : decode cX9_found 39 = .ok (.iload_n 3, 1) := by decide +kernel
theorem dX9_found_40 : decode cX9_found 40 = .ok (.ifCond .ne 8, 3) := by decide +kernel
theorem dX9_found_43 : decode cX9_found 43 = .ok (.iload 4, 2) := by decide +kernel
theorem dX9_found_45 : decode cX9_found 45 = .ok (.goto 34, 3) := by decide +kernel
theorem dX9_found_48 : decode cX9_found 48 = .ok (.iload_n 3, 1) := by decide +kernel
theorem dX9_found_49 : decode cX9_found 49 = .ok (.iconst 1, 1) := by decide +kernel
theorem dX9_found_50 : decode cX9_found 50 = .ok (.if_icmp .ne 13, 3) := by decide +kernel
theorem dX9_found_53 : decode cX9_found 53 = .ok (.iload 4, 2) := by decide +kernel
theorem dX9_found_55 : decode cX9_found 55 = .ok (.aload_n 0, 1) := by decide +kernel
theorem dX9_found_56 : decode cX9_found 56 = .ok (.invokevirtual 237, 3) := by decide +kernel
theorem dX9_found_59 : decode cX9_found 59 = .ok (.iand, 1) := by decide +kernel
theorem dX9_found_60 : decode cX9_found 60 = .ok (.goto 19, 3) := by decide +kernel
theorem dX9_found_63 : decode cX9_found 63 = .ok (.aload_n 0, 1) := by decide +kernel
theorem dX9_found_64 : decode cX9_found 64 = .ok (.invokevirtual 52, 3) := by decide +kernel
theorem dX9_found_67 : decode cX9_found 67 = .ok (.iload 4, 2) := by decide +kernel
theorem dX9_found_69 : decode cX9_found 69 = .ok (.iconst (-1), 1) := by decide +kernel
theorem dX9_found_70 : decode cX9_found 70 = .ok (.ixor, 1) := by decide +kernel
theorem dX9_found_71 : decode cX9_found 71 = .ok (.iand, 1) := by decide +kernel
theorem dX9_found_72 : decode cX9_found 72 = .ok (.aload_n 0, 1) := by decide +kernel
theorem dX9_found_73 : decode cX9_found 73 = .ok (.invokevirtual 237, 3) := by decide +kernel
theorem dX9_found_76 : decode cX9_found 76 = .ok (.iconst (-1), 1) := by decide +kernel
theorem dX9_found_77 : decode cX9_found 77 = .ok (.ixor, 1) := by decide +kernel
theorem dX9_found_78 : decode cX9_found 78 = .ok (.iand, 1) := by decide +kernel
theorem dX9_found_79 : decode cX9_found 79 = .ok (.ireturn, 1) := by decide +kernel
theorem dX9_line_0 : decode cX9_line 0 = .ok (.aload_n 0, 1) := by decide +kernel
theorem dX9_line_1 : decode cX9_line 1 = .ok (.iload_n 1, 1) := by decide +kernel
theorem dX9_line_2 : decode cX9_line 2 = .ok (.invokevirtual 223, 3) := by decide +kernel
theorem dX9_line_5 : decode cX9_line 5 = .ok (.ifCond .eq 38, 3) := by decide +kernel
theorem dX9_line_8 : decode cX9_line 8 = .ok (.iload_n 2, 1) := by decide +kernel
theorem dX9_line_9 : decode cX9_line 9 = .ok (.i2l, 1) := by decide +kernel
theorem dX9_line_10 : decode cX9_line 10 = .ok (.lconst 0, 1) := by decide +kernel
theorem dX9_line_11 : decode cX9_line 11 = .ok (.ldc2_w 82, 3) := by decide +kernel
theorem dX9_line_14 : decode cX9_line 14 = .ok (.invokestatic 48, 3) := by decide +kernel
theorem dX9_line_17 : decode cX9_line 17 = .ok (.ifCond .eq 26, 3) := by decide +kernel
theorem dX9_line_20 : decode cX9_line 20 = .ok (.iload_n 3, 1) := by decide +kernel
theorem dX9_line_21 : decode cX9_line 21 = .ok (.i2l, 1) := by decide +kernel
theorem dX9_line_22 : decode cX9_line 22 = .ok (.lconst 0, 1) := by decide +kernel
theorem dX9_line_23 : decode cX9_line 23 = .ok (.ldc2_w 82, 3) := by decide +kernel
theorem dX9_line_26 : decode cX9_line 26 = .ok (.invokestatic 48, 3) := by decide +kernel
theorem dX9_line_29 : decode cX9_line 29 = .ok (.ifCond .eq 14, 3) := by decide +kernel
theorem dX9_line_32 : decode cX9_line 32 = .ok (.iload 4, 2) := by decide +kernel
theorem dX9_line_34 : decode cX9_line 34 = .ok (.i2l, 1) := by decide +kernel
theorem dX9_line_35 : decode cX9_line 35 = .ok (.lconst 0, 1) := by decide +kernel
theorem dX9_line_36 : decode cX9_line 36 = .ok (.lconst 1, 1) := by decide +kernel
theorem dX9_line_37 : decode cX9_line 37 = .ok (.invokestatic 48, 3) := by decide +kernel
theorem dX9_line_40 : decode cX9_line 40 = .ok (.ifCond .ne 10, 3) := by decide +kernel
theorem dX9_line_43 : decode cX9_line 43 = .ok (.aload_n 0, 1) := by decide +kernel
theorem dX9_line_44 : decode cX9_line 44 = .ok (.ldc 47, 2) := by decide +kernel
theorem dX9_line_46 : decode cX9_line 46 = .ok (.invokevirtual 64, 3) := by decide +kernel
theorem dX9_line_49 : decode cX9_line 49 = .ok (.ireturn, 1) := by decide +kernel
theorem dX9_line_50 : decode cX9_line 50 = .ok (.aload_n 0, 1) := by decide +kernel
theorem dX9_line_51 : decode cX9_line 51 = .ok (.iload_n 1, 1) := by decide +kernel
theorem dX9_line_52 : decode cX9_line 52 = .ok (.invokevirtual 231, 3) := by decide +kernel
theorem dX9_line_55 : decode cX9_line 55 = .ok (.sipush (-201), 3) := by decide +kernel
theorem dX9_line_58 : decode cX9_line 58 = .ok (.istore 5, 2) := by decide +kernel
theorem dX9_line_60 : decode cX9_line 60 = .ok (.iconst 0, 1) := by decide +kernel
theorem dX9_line_61 : decode cX9_line 61 = .ok (.istore 6, 2) := by decide +kernel
theorem dX9_line_63 : decode cX9_line 63 = .ok (.sipush (-200), 3) := by decide +kernel
theorem dX9_line_66 : decode cX9_line 66 = .ok (.istore 7, 2) := by decide +kernel
theorem dX9_line_68 : decode cX9_line 68 = .ok (.iload 7, 2) := by decide +kernel
theorem dX9_line_70 : decode cX9_line 70 = .ok (.sipush 200, 3) := by decide +kernel
theorem dX9_line_73 : decode cX9_line 73 = .ok (.if_icmp .gt 79, 3) := by decide +kernel
theorem dX9_line_76 : decode cX9_line 76 = .ok (.aload_n 0, 1) := by decide +kernel
theorem dX9_line_77 : decode cX9_line 77 = .ok (.iload 7, 2) := by decide +kernel
theorem dX9_line_79 : decode cX9_line 79 = .ok (.invokevirtual 234, 3) := by decide +kernel
theorem dX9_line_82 : decode cX9_line 82 = .ok (.istore 8, 2) := by decide +kernel
theorem dX9_line_84 : decode cX9_line 84 = .ok (.iload_n 2, 1) := by decide +kernel
theorem dX9_line_85 : decode cX9_line 85 = .ok (.iload 8, 2) := by decide +kernel
theorem dX9_line_87 : decode cX9_line 87 = .ok (.aload_n 0, 1) := by decide +kernel
theorem dX9_line_88 : decode cX9_line 88 = .ok (.invokevirtual 237, 3) := by decide +kernel
theorem dX9_line_91 : decode cX9_line 91 = .ok (.iand, 1) := by decide +kernel
theorem dX9_line_92 : decode cX9_line 92 = .ok (.invokestatic 148, 3) := by decide +kernel
theorem dX9_line_95 : decode cX9_line 95 = .ok (.imul, 1) := by decide +kernel
theorem dX9_line_96 : decode cX9_line 96 = .ok (.iload_n 3, 1) := by decide +kernel
theorem dX9_line_97 : decode cX9_line 97 = .ok (.aload_n 0, 1) := by decide +kernel
theorem dX9_line_98 : decode cX9_line 98 = .ok (.invokevirtual 52, 3) := by decide +kernel
theorem dX9_line_101 : decode cX9_line 101 = .ok (.iload 8, 2) := by decide +kernel
theorem dX9_line_103 : decode cX9_line 103 = .ok (.iconst (-1), 1) := by decide +kernel
theorem dX9_line_104 : decode cX9_line 104 = .ok (.ixor, 1) := by decide +kernel
theorem dX9_line_105 : decode cX9_line 105 = .ok (.iand, 1) := by decide +kernel
theorem dX9_line_106 : decode cX9_line 106 = .ok (.aload_n 0, 1) := by decide +kernel
theorem dX9_line_107 : decode cX9_line 107 = .ok (.invokevirtual 237, 3) := by decide +kernel
theorem dX9_line_110 : decode cX9_line 110 = .ok (.iconst (-1), 1) := by decide +kernel
theorem dX9_line_111 : decode cX9_line 111 = .ok (.ixor, 1) := by decide +kernel
theorem dX9_line_112 : decode cX9_line 112 = .ok (.iand, 1) := by decide +kernel
theorem dX9_line_113 : decode cX9_line 113 = .ok (.invokestatic 148, 3) := by decide +kernel
theorem dX9_line_116 : decode cX9_line 116 = .ok (.imul, 1) := by decide +kernel
theorem dX9_line_117 : decode cX9_line 117 = .ok (.iadd, 1) := by decide +kernel
theorem dX9_line_118 : decode cX9_line 118 = .ok (.istore 9, 2) := by decide +kernel
theorem dX9_line_120 : decode cX9_line 120 = .ok (.iload 5, 2) := by decide +kernel
theorem dX9_line_122 : decode cX9_line 122 = .ok (.sipush (-200), 3) := by decide +kernel
theorem dX9_line_125 : decode cX9_line 125 = .ok (.if_icmp .lt 13, 3) := by decide +kernel
theorem dX9_line_128 : decode cX9_line 128 = .ok (.iload 9, 2) := by decide +kernel
theorem dX9_line_130 : decode cX9_line 130 = .ok (.iload 6, 2) := by decide +kernel
theorem dX9_line_132 : decode cX9_line 132 = .ok (.if_icmp .lt 6, 3) := by decide +kernel
theorem dX9_line_135 : decode cX9_line 135 = .ok (.goto 11, 3) := by decide +kernel
theorem dX9_line_138 : decode cX9_line 138 = .ok (.iload 7, 2) := by decide +kernel
theorem dX9_line_140 : decode cX9_line 140 = .ok (.istore 5, 2) := by decide +kernel
theorem dX9_line_142 : decode cX9_line 142 = .ok (.iload 9, 2) := by decide +kernel
theorem dX9_line_144 : decode cX9_line 144 = .ok (.istore 6, 2) := by decide +kernel
theorem dX9_line_146 : decode cX9_line 146 = .ok (.iinc 7 1, 3) := by decide +kernel
theorem dX9_line_149 : decode cX9_line 149 = .ok (.goto (-81), 3) := by decide +kernel
theorem dX9_line_152 : decode cX9_line 152 = .ok (.iload 4, 2) := by decide +kernel
theorem dX9_line_154 : decode cX9_line 154 = .ok (.ifCond .ne 8, 3) := by decide +kernel
theorem dX9_line_157 : decode cX9_line 157 = .ok (.iload 5, 2) := by decide +kernel
theorem dX9_line_159 : decode cX9_line 159 = .ok (.goto 5, 3) := by decide +kernel
theorem dX9_line_162 : decode cX9_line 162 = .ok (.iload 6, 2) := by decide +kernel
theorem dX9_line_164 : decode cX9_line 164 = .ok (.ireturn, 1) := by decide +kernel
theorem dX9_shutAll_0 : decode cX9_shutAll 0 = .ok (.aload_n 0, 1) := by decide +kernel
theorem dX9_shutAll_1 : decode cX9_shutAll 1 = .ok (.iload_n 1, 1) := by decide +kernel
theorem dX9_shutAll_2 : decode cX9_shutAll 2 = .ok (.invokevirtual 223, 3) := by decide +kernel
theorem dX9_shutAll_5 : decode cX9_shutAll 5 = .ok (.ifCond .ne 10, 3) := by decide +kernel
theorem dX9_shutAll_8 : decode cX9_shutAll 8 = .ok (.aload_n 0, 1) := by decide +kernel
theorem dX9_shutAll_9 : decode cX9_shutAll 9 = .ok (.ldc 47, 2) := by decide +kernel
theorem dX9_shutAll_11 : decode cX9_shutAll 11 = .ok (.invokevirtual 64, 3) := by decide +kernel
theorem dX9_shutAll_14 : decode cX9_shutAll 14 = .ok (.ireturn, 1) := by decide +kernel
theorem dX9_shutAll_15 : decode cX9_shutAll 15 = .ok (.aload_n 0, 1) := by decide +kernel
theorem dX9_shutAll_16 : decode cX9_shutAll 16 = .ok (.iload_n 1, 1) := by decide +kernel
theorem dX9_shutAll_17 : decode cX9_shutAll 17 = .ok (.invokevirtual 231, 3) := by decide +kernel
theorem dX9_shutAll_20 : decode cX9_shutAll 20 = .ok (.aload_n 0, 1) := by decide +kernel
theorem dX9_shutAll_21 : decode cX9_shutAll 21 = .ok (.iload_n 2, 1) := by decide +kernel
theorem dX9_shutAll_22 : decode cX9_shutAll 22 = .ok (.invokevirtual 234, 3) := by decide +kernel
theorem dX9_shutAll_25 : decode cX9_shutAll 25 = .ok (.istore_n 3, 1) := by decide +kernel
theorem dX9_shutAll_26 : decode cX9_shutAll 26 = .ok (.iconst 0, 1) := by decide +kernel
theorem dX9_shutAll_27 : decode cX9_shutAll 27 = .ok (.istore 4, 2) := by decide +kernel
theorem dX9_shutAll_29 : decode cX9_shutAll 29 = .ok (.iconst 0, 1) := by decide +kernel
theorem dX9_shutAll_30 : decode cX9_shutAll 30 = .ok (.istore 5, 2) := by decide +kernel
theorem dX9_shutAll_32 : decode cX9_shutAll 32 = .ok (.iload 5, 2) := by decide +kernel
theorem dX9_shutAll_34 : decode cX9_shutAll 34 = .ok (.aload_n 0, 1) := by decide +kernel
theorem dX9_shutAll_35 : decode cX9_shutAll 35 = .ok (.getfield 9, 3) := by decide +kernel
theorem dX9_shutAll_38 : decode cX9_shutAll 38 = .ok (.iconst 0, 1) := by decide +kernel
theorem dX9_shutAll_39 : decode cX9_shutAll 39 = .ok (.iaload, 1) := by decide +kernel
theorem dX9_shutAll_40 : decode cX9_shutAll 40 = .ok (.if_icmp .ge 45, 3) := by decide +kernel
theorem dX9_shutAll_43 : decode cX9_shutAll 43 = .ok (.iload 4, 2) := by decide +kernel
theorem dX9_shutAll_45 : decode cX9_shutAll 45 = .ok (.iload_n 3, 1) := by decide +kernel
theorem dX9_shutAll_46 : decode cX9_shutAll 46 = .ok (.iload 5, 2) := by decide +kernel
theorem dX9_shutAll_48 : decode cX9_shutAll 48 = .ok (.invokestatic 97, 3) := by decide +kernel
theorem dX9_shutAll_51 : decode cX9_shutAll 51 = .ok (.ifCond .eq 24, 3) := by decide +kernel
theorem dX9_shutAll_54 : decode cX9_shutAll 54 = .ok (.iconst 1, 1) := by decide +kernel
theorem dX9_shutAll_55 : decode cX9_shutAll 55 = .ok (.aload_n 0, 1) := by decide +kernel
theorem dX9_shutAll_56 : decode cX9_shutAll 56 = .ok (.bipush 6, 2) := by decide +kernel
theorem dX9_shutAll_58 : decode cX9_shutAll 58 = .ok (.bipush 8, 2) := by decide +kernel
theorem dX9_shutAll_60 : decode cX9_shutAll 60 = .ok (.iload 5, 2) := by decide +kernel
theorem dX9_shutAll_62 : decode cX9_shutAll 62 = .ok (.imul, 1) := by decide +kernel
theorem dX9_shutAll_63 : decode cX9_shutAll 63 = .ok (.iadd, 1) := by decide +kernel
theorem dX9_shutAll_64 : decode cX9_shutAll 64 = .ok (.bipush 6, 2) := by decide +kernel
theorem dX9_shutAll_66 : decode cX9_shutAll 66 = .ok (.iadd, 1) := by decide +kernel
theorem dX9_shutAll_67 : decode cX9_shutAll 67 = .ok (.iconst 1, 1) := by decide +kernel
theorem dX9_shutAll_68 : decode cX9_shutAll 68 = .ok (.invokevirtual 91, 3) := by decide +kernel
theorem dX9_shutAll_71 : decode cX9_shutAll 71 = .ok (.isub, 1) := by decide +kernel
theorem dX9_shutAll_72 : decode cX9_shutAll 72 = .ok (.goto 4, 3) := by decide +kernel
theorem dX9_shutAll_75 : decode cX9_shutAll 75 = .ok (.iconst 0, 1) := by decide +kernel
theorem dX9_shutAll_76 : decode cX9_shutAll 76 = .ok (.iadd, 1) := by decide +kernel
theorem dX9_shutAll_77 : decode cX9_shutAll 77 = .ok (.istore 4, 2) := by decide +kernel
theorem dX9_shutAll_79 : decode cX9_shutAll 79 = .ok (.iinc 5 1, 3) := by decide +kernel
theorem dX9_shutAll_82 : decode cX9_shutAll 82 = .ok (.goto (-50), 3) := by decide +kernel
theorem dX9_shutAll_85 : decode cX9_shutAll 85 = .ok (.iload 4, 2) := by decide +kernel
theorem dX9_shutAll_87 : decode cX9_shutAll 87 = .ok (.ireturn, 1) := by decide +kernel
theorem dX9_ask_0 : decode cX9_ask 0 = .ok (.aload_n 0, 1) := by decide +kernel
theorem dX9_ask_1 : decode cX9_ask 1 = .ok (.iload_n 1, 1) := by decide +kernel
theorem dX9_ask_2 : decode cX9_ask 2 = .ok (.invokevirtual 223, 3) := by decide +kernel
theorem dX9_ask_5 : decode cX9_ask 5 = .ok (.ifCond .eq 17, 3) := by decide +kernel
theorem dX9_ask_8 : decode cX9_ask 8 = .ok (.iload_n 2, 1) := by decide +kernel
theorem dX9_ask_9 : decode cX9_ask 9 = .ok (.i2l, 1) := by decide +kernel
theorem dX9_ask_10 : decode cX9_ask 10 = .ok (.ldc2_w 240, 3) := by decide +kernel
theorem dX9_ask_13 : decode cX9_ask 13 = .ok (.ldc2_w 242, 3) := by decide +kernel
theorem dX9_ask_16 : decode cX9_ask 16 = .ok (.invokestatic 48, 3) := by decide +kernel
theorem dX9_ask_19 : decode cX9_ask 19 = .ok (.ifCond .ne 10, 3) := by decide +kernel
theorem dX9_ask_22 : decode cX9_ask 22 = .ok (.aload_n 0, 1) := by decide +kernel
theorem dX9_ask_23 : decode cX9_ask 23 = .ok (.ldc 47, 2) := by decide +kernel
theorem dX9_ask_25 : decode cX9_ask 25 = .ok (.invokevirtual 64, 3) := by decide +kernel
theorem dX9_ask_28 : decode cX9_ask 28 = .ok (.ireturn, 1) := by decide +kernel
theorem dX9_ask_29 : decode cX9_ask 29 = .ok (.iconst (-1), 1) := by decide +kernel
theorem dX9_ask_30 : decode cX9_ask 30 = .ok (.istore_n 3, 1) := by decide +kernel
theorem dX9_ask_31 : decode cX9_ask 31 = .ok (.lconst 0, 1) := by decide +kernel
theorem dX9_ask_32 : decode cX9_ask 32 = .ok (.lstore 4, 2) := by decide +kernel
theorem dX9_ask_34 : decode cX9_ask 34 = .ok (.iconst 0, 1) := by decide +kernel
theorem dX9_ask_35 : decode cX9_ask 35 = .ok (.istore 6, 2) := by decide +kernel
theorem dX9_ask_37 : decode cX9_ask 37 = .ok (.iload 6, 2) := by decide +kernel
theorem dX9_ask_39 : decode cX9_ask 39 = .ok (.aload_n 0, 1) := by decide +kernel
theorem dX9_ask_40 : decode cX9_ask 40 = .ok (.getfield 9, 3) := by decide +kernel
theorem dX9_ask_43 : decode cX9_ask 43 = .ok (.iconst 0, 1) := by decide +kernel
theorem dX9_ask_44 : decode cX9_ask 44 = .ok (.iaload, 1) := by decide +kernel
theorem dX9_ask_45 : decode cX9_ask 45 = .ok (.if_icmp .ge 76, 3) := by decide +kernel
theorem dX9_ask_48 : decode cX9_ask 48 = .ok (.aload_n 0, 1) := by decide +kernel
theorem dX9_ask_49 : decode cX9_ask 49 = .ok (.iload 6, 2) := by decide +kernel
theorem dX9_ask_51 : decode cX9_ask 51 = .ok (.bipush 7, 2) := by decide +kernel
theorem dX9_ask_53 : decode cX9_ask 53 = .ok (.invokevirtual 69, 3) := by decide +kernel
theorem dX9_ask_56 : decode cX9_ask 56 = .ok (.iconst 1, 1) := by decide +kernel
theorem dX9_ask_57 : decode cX9_ask 57 = .ok (.if_icmp .ne 6, 3) := by decide +kernel
theorem dX9_ask_60 : decode cX9_ask 60 = .ok (.goto 55, 3) := by decide +kernel
theorem dX9_ask_63 : decode cX9_ask 63 = .ok (.aload_n 0, 1) := by decide +kernel
theorem dX9_ask_64 : decode cX9_ask 64 = .ok (.iload_n 1, 1) := by decide +kernel
theorem dX9_ask_65 : decode cX9_ask 65 = .ok (.iload 6, 2) := by decide +kernel
theorem dX9_ask_67 : decode cX9_ask 67 = .ok (.invokevirtual 226, 3) := by decide +kernel
theorem dX9_ask_70 : decode cX9_ask 70 = .ok (.i2l, 1) := by decide +kernel
theorem dX9_ask_71 : decode cX9_ask 71 = .ok (.iload_n 2, 1) := by decide +kernel
theorem dX9_ask_72 : decode cX9_ask 72 = .ok (.i2l, 1) := by decide +kernel
theorem dX9_ask_73 : decode cX9_ask 73 = .ok (.lsub, 1) := by decide +kernel
theorem dX9_ask_74 : decode cX9_ask 74 = .ok (.lstore 7, 2) := by decide +kernel
theorem dX9_ask_76 : decode cX9_ask 76 = .ok (.lload 7, 2) := by decide +kernel
theorem dX9_ask_78 : decode cX9_ask 78 = .ok (.lconst 0, 1) := by decide +kernel
theorem dX9_ask_79 : decode cX9_ask 79 = .ok (.lcmp, 1) := by decide +kernel
theorem dX9_ask_80 : decode cX9_ask 80 = .ok (.ifCond .ge 9, 3) := by decide +kernel
theorem dX9_ask_83 : decode cX9_ask 83 = .ok (.lload 7, 2) := by decide +kernel
theorem dX9_ask_85 : decode cX9_ask 85 = .ok (.lneg, 1) := by decide +kernel
theorem dX9_ask_86 : decode cX9_ask 86 = .ok (.goto 5, 3) := by decide +kernel
theorem dX9_ask_89 : decode cX9_ask 89 = .ok (.lload 7, 2) := by decide +kernel
theorem dX9_ask_91 : decode cX9_ask 91 = .ok (.lstore 7, 2) := by decide +kernel
theorem dX9_ask_93 : decode cX9_ask 93 = .ok (.iload_n 3, 1) := by decide +kernel
theorem dX9_ask_94 : decode cX9_ask 94 = .ok (.ifCond .lt 14, 3) := by decide +kernel
theorem dX9_ask_97 : decode cX9_ask 97 = .ok (.lload 7, 2) := by decide +kernel
theorem dX9_ask_99 : decode cX9_ask 99 = .ok (.lload 4, 2) := by decide +kernel
theorem dX9_ask_101 : decode cX9_ask 101 = .ok (.lcmp, 1) := by decide +kernel
theorem dX9_ask_102 : decode cX9_ask 102 = .ok (.ifCond .lt 6, 3) := by decide +kernel
theorem dX9_ask_105 : decode cX9_ask 105 = .ok (.goto 10, 3) := by decide +kernel
theorem dX9_ask_108 : decode cX9_ask 108 = .ok (.iload 6, 2) := by decide +kernel
theorem dX9_ask_110 : decode cX9_ask 110 = .ok (.istore_n 3, 1) := by decide +kernel
theorem dX9_ask_111 : decode cX9_ask 111 = .ok (.lload 7, 2) := by decide +kernel
theorem dX9_ask_113 : decode cX9_ask 113 = .ok (.lstore 4, 2) := by decide +kernel
theorem dX9_ask_115 : decode cX9_ask 115 = .ok (.iinc 6 1, 3) := by decide +kernel
theorem dX9_ask_118 : decode cX9_ask 118 = .ok (.goto (-81), 3) := by decide +kernel
theorem dX9_ask_121 : decode cX9_ask 121 = .ok (.iload_n 3, 1) := by decide +kernel
theorem dX9_ask_122 : decode cX9_ask 122 = .ok (.ifCond .ge 12, 3) := by decide +kernel
theorem dX9_ask_125 : decode cX9_ask 125 = .ok (.aload_n 0, 1) := by decide +kernel
theorem dX9_ask_126 : decode cX9_ask 126 = .ok (.ldc 122, 2) := by decide +kernel
theorem dX9_ask_128 : decode cX9_ask 128 = .ok (.invokevirtual 64, 3) := by decide +kernel
theorem dX9_ask_131 : decode cX9_ask 131 = .ok (.goto 4, 3) := by decide +kernel
theorem dX9_ask_134 : decode cX9_ask 134 = .ok (.iload_n 3, 1) := by decide +kernel
theorem dX9_ask_135 : decode cX9_ask 135 = .ok (.ireturn, 1) := by decide +kernel
theorem dX9_howMany_0 : decode cX9_howMany 0 = .ok (.iconst 0, 1) := by decide +kernel
theorem dX9_howMany_1 : decode cX9_howMany 1 = .ok (.istore_n 2, 1) := by decide +kernel
theorem dX9_howMany_2 : decode cX9_howMany 2 = .ok (.iconst 0, 1) := by decide +kernel
theorem dX9_howMany_3 : decode cX9_howMany 3 = .ok (.istore_n 3, 1) := by decide +kernel
theorem dX9_howMany_4 : decode cX9_howMany 4 = .ok (.iload_n 3, 1) := by decide +kernel
theorem dX9_howMany_5 : decode cX9_howMany 5 = .ok (.aload_n 0, 1) := by decide +kernel
theorem dX9_howMany_6 : decode cX9_howMany 6 = .ok (.getfield 9, 3) := by decide +kernel
theorem dX9_howMany_9 : decode cX9_howMany 9 = .ok (.iconst 0, 1) := by decide +kernel
theorem dX9_howMany_10 : decode cX9_howMany 10 = .ok (.iaload, 1) := by decide +kernel
theorem dX9_howMany_11 : decode cX9_howMany 11 = .ok (.if_icmp .ge 18, 3) := by decide +kernel
theorem dX9_howMany_14 : decode cX9_howMany 14 = .ok (.iload_n 2, 1) := by decide +kernel
theorem dX9_howMany_15 : decode cX9_howMany 15 = .ok (.aload_n 0, 1) := by decide +kernel
theorem dX9_howMany_16 : decode cX9_howMany 16 = .ok (.iload_n 3, 1) := by decide +kernel
theorem dX9_howMany_17 : decode cX9_howMany 17 = .ok (.iload_n 1, 1) := by decide +kernel
theorem dX9_howMany_18 : decode cX9_howMany 18 = .ok (.invokevirtual 69, 3) := by decide +kernel
theorem dX9_howMany_21 : decode cX9_howMany 21 = .ok (.iadd, 1) := by decide +kernel
theorem dX9_howMany_22 : decode cX9_howMany 22 = .ok (.istore_n 2, 1) := by decide +kernel
theorem dX9_howMany_23 : decode cX9_howMany 23 = .ok (.iinc 3 1, 3) := by decide +kernel
theorem dX9_howMany_26 : decode cX9_howMany 26 = .ok (.goto (-22), 3) := by decide +kernel
theorem dX9_howMany_29 : decode cX9_howMany 29 = .ok (.iload_n 2, 1) := by decide +kernel
theorem dX9_howMany_30 : decode cX9_howMany 30 = .ok (.ireturn, 1) := by decide +kernel
theorem dX9_asked_0 : decode cX9_asked 0 = .ok (.aload_n 0, 1) := by decide +kernel
theorem dX9_asked_1 : decode cX9_asked 1 = .ok (.iload_n 1, 1) := by decide +kernel
theorem dX9_asked_2 : decode cX9_asked 2 = .ok (.invokevirtual 73, 3) := by decide +kernel
theorem dX9_asked_5 : decode cX9_asked 5 = .ok (.ifCond .ne 10, 3) := by decide +kernel
theorem dX9_asked_8 : decode cX9_asked 8 = .ok (.aload_n 0, 1) := by decide +kernel
theorem dX9_asked_9 : decode cX9_asked 9 = .ok (.ldc 47, 2) := by decide +kernel
theorem dX9_asked_11 : decode cX9_asked 11 = .ok (.invokevirtual 64, 3) := by decide +kernel
theorem dX9_asked_14 : decode cX9_asked 14 = .ok (.ireturn, 1) := by decide +kernel
theorem dX9_asked_15 : decode cX9_asked 15 = .ok (.aload_n 0, 1) := by decide +kernel
theorem dX9_asked_16 : decode cX9_asked 16 = .ok (.bipush 6, 2) := by decide +kernel
theorem dX9_asked_18 : decode cX9_asked 18 = .ok (.bipush 8, 2) := by decide +kernel
theorem dX9_asked_20 : decode cX9_asked 20 = .ok (.iload_n 1, 1) := by decide +kernel
theorem dX9_asked_21 : decode cX9_asked 21 = .ok (.imul, 1) := by decide +kernel
theorem dX9_asked_22 : decode cX9_asked 22 = .ok (.iadd, 1) := by decide +kernel
theorem dX9_asked_23 : decode cX9_asked 23 = .ok (.bipush 7, 2) := by decide +kernel
theorem dX9_asked_25 : decode cX9_asked 25 = .ok (.iadd, 1) := by decide +kernel
theorem dX9_asked_26 : decode cX9_asked 26 = .ok (.iconst 1, 1) := by decide +kernel
theorem dX9_asked_27 : decode cX9_asked 27 = .ok (.invokevirtual 91, 3) := by decide +kernel
theorem dX9_asked_30 : decode cX9_asked 30 = .ok (.iconst 1, 1) := by decide +kernel
theorem dX9_asked_31 : decode cX9_asked 31 = .ok (.if_icmp .ne 10, 3) := by decide +kernel
theorem dX9_asked_34 : decode cX9_asked 34 = .ok (.aload_n 0, 1) := by decide +kernel
theorem dX9_asked_35 : decode cX9_asked 35 = .ok (.ldc 126, 2) := by decide +kernel
theorem dX9_asked_37 : decode cX9_asked 37 = .ok (.invokevirtual 64, 3) := by decide +kernel
theorem dX9_asked_40 : decode cX9_asked 40 = .ok (.ireturn, 1) := by decide +kernel
theorem dX9_asked_41 : decode cX9_asked 41 = .ok (.aload_n 0, 1) := by decide +kernel
theorem dX9_asked_42 : decode cX9_asked 42 = .ok (.bipush 7, 2) := by decide +kernel
theorem dX9_asked_44 : decode cX9_asked 44 = .ok (.invokevirtual 244, 3) := by decide +kernel
theorem dX9_asked_47 : decode cX9_asked 47 = .ok (.ireturn, 1) := by decide +kernel
theorem dX9_isNear_0 : decode cX9_isNear 0 = .ok (.iconst 0, 1) := by decide +kernel
theorem dX9_isNear_1 : decode cX9_isNear 1 = .ok (.istore 4, 2) := by decide +kernel
theorem dX9_isNear_3 : decode cX9_isNear 3 = .ok (.iload 4, 2) := by decide +kernel
theorem dX9_isNear_5 : decode cX9_isNear 5 = .ok (.aload_n 0, 1) := by decide +kernel
theorem dX9_isNear_6 : decode cX9_isNear 6 = .ok (.getfield 9, 3) := by decide +kernel
theorem dX9_isNear_9 : decode cX9_isNear 9 = .ok (.iconst 2, 1) := by decide +kernel
theorem dX9_isNear_10 : decode cX9_isNear 10 = .ok (.iaload, 1) := by decide +kernel
theorem dX9_isNear_11 : decode cX9_isNear 11 = .ok (.if_icmp .ge 43, 3) := by decide +kernel
theorem dX9_isNear_14 : decode cX9_isNear 14 = .ok (.aload_n 0, 1) := by decide +kernel
theorem dX9_isNear_15 : decode cX9_isNear 15 = .ok (.iload 4, 2) := by decide +kernel
theorem dX9_isNear_17 : decode cX9_isNear 17 = .ok (.iconst 1, 1) := by decide +kernel
theorem dX9_isNear_18 : decode cX9_isNear 18 = .ok (.invokevirtual 101, 3) := by decide +kernel
theorem dX9_isNear_21 : decode cX9_isNear 21 = .ok (.iload_n 1, 1) := by decide +kernel
theorem dX9_isNear_22 : decode cX9_isNear 22 = .ok (.if_icmp .ne 26, 3) := by decide +kernel
theorem dX9_isNear_25 : decode cX9_isNear 25 = .ok (.aload_n 0, 1) := by decide +kernel
theorem dX9_isNear_26 : decode cX9_isNear 26 = .ok (.iload 4, 2) := by decide +kernel
theorem dX9_isNear_28 : decode cX9_isNear 28 = .ok (.iconst 0, 1) := by decide +kernel
theorem dX9_isNear_29 : decode cX9_isNear 29 = .ok (.invokevirtual 101, 3) := by decide +kernel
theorem dX9_isNear_32 : decode cX9_isNear 32 = .ok (.iload_n 2, 1) := by decide +kernel
theorem dX9_isNear_33 : decode cX9_isNear 33 = .ok (.isub, 1) := by decide +kernel
theorem dX9_isNear_34 : decode cX9_isNear 34 = .ok (.i2l, 1) := by decide +kernel
theorem dX9_isNear_35 : decode cX9_isNear 35 = .ok (.iload_n 3, 1) := by decide +kernel
theorem dX9_isNear_36 : decode cX9_isNear 36 = .ok (.ineg, 1) := by decide +kernel
theorem dX9_isNear_37 : decode cX9_isNear 37 = .ok (.i2l, 1) := by decide +kernel
theorem dX9_isNear_38 : decode cX9_isNear 38 = .ok (.iload_n 3, 1) := by decide +kernel
theorem dX9_isNear_39 : decode cX9_isNear 39 = .ok (.i2l, 1) := by decide +kernel
theorem dX9_isNear_40 : decode cX9_isNear 40 = .ok (.invokestatic 48, 3) := by decide +kernel
theorem dX9_isNear_43 : decode cX9_isNear 43 = .ok (.ifCond .eq 5, 3) := by decide +kernel
theorem dX9_isNear_46 : decode cX9_isNear 46 = .ok (.iconst 1, 1) := by decide +kernel
theorem dX9_isNear_47 : decode cX9_isNear 47 = .ok (.ireturn, 1) := by decide +kernel
theorem dX9_isNear_48 : decode cX9_isNear 48 = .ok (.iinc 4 1, 3) := by decide +kernel
theorem dX9_isNear_51 : decode cX9_isNear 51 = .ok (.goto (-48), 3) := by decide +kernel
theorem dX9_isNear_54 : decode cX9_isNear 54 = .ok (.iconst 0, 1) := by decide +kernel
theorem dX9_isNear_55 : decode cX9_isNear 55 = .ok (.ireturn, 1) := by decide +kernel
theorem dX9_togetherOf_0 : decode cX9_togetherOf 0 = .ok (.iconst 0, 1) := by decide +kernel
theorem dX9_togetherOf_1 : decode cX9_togetherOf 1 = .ok (.istore 4, 2) := by decide +kernel
theorem dX9_togetherOf_3 : decode cX9_togetherOf 3 = .ok (.iconst 0, 1) := by decide +kernel
theorem dX9_togetherOf_4 : decode cX9_togetherOf 4 = .ok (.istore 5, 2) := by decide +kernel
theorem dX9_togetherOf_6 : decode cX9_togetherOf 6 = .ok (.iload 5, 2) := by decide +kernel
theorem dX9_togetherOf_8 : decode cX9_togetherOf 8 = .ok (.aload_n 0, 1) := by decide +kernel
theorem dX9_togetherOf_9 : decode cX9_togetherOf 9 = .ok (.getfield 9, 3) := by decide +kernel
theorem dX9_togetherOf_12 : decode cX9_togetherOf 12 = .ok (.iconst 2, 1) := by decide +kernel
theorem dX9_togetherOf_13 : decode cX9_togetherOf 13 = .ok (.iaload, 1) := by decide +kernel
theorem dX9_togetherOf_14 : decode cX9_togetherOf 14 = .ok (.if_icmp .ge 46, 3) := by decide +kernel
theorem dX9_togetherOf_17 : decode cX9_togetherOf 17 = .ok (.iload 4, 2) := by decide +kernel
theorem dX9_togetherOf_19 : decode cX9_togetherOf 19 = .ok (.aload_n 0, 1) := by decide +kernel
theorem dX9_togetherOf_20 : decode cX9_togetherOf 20 = .ok (.iload 5, 2) := by decide +kernel
theorem dX9_togetherOf_22 : decode cX9_togetherOf 22 = .ok (.iconst 1, 1) := by decide +kernel
theorem dX9_togetherOf_23 : decode cX9_togetherOf 23 = .ok (.invokevirtual 101, 3) := by decide +kernel
theorem dX9_togetherOf_26 : decode cX9_togetherOf 26 = .ok (.iload_n 1, 1) := by decide +kernel
theorem dX9_togetherOf_27 : decode cX9_togetherOf 27 = .ok (.if_icmp .ne 23, 3) := by decide +kernel
theorem dX9_togetherOf_30 : decode cX9_togetherOf 30 = .ok (.aload_n 0, 1) := by decide +kernel
theorem dX9_togetherOf_31 : decode cX9_togetherOf 31 = .ok (.iload_n 2, 1) := by decide +kernel
theorem dX9_togetherOf_32 : decode cX9_togetherOf 32 = .ok (.aload_n 0, 1) := by decide +kernel
theorem dX9_togetherOf_33 : decode cX9_togetherOf 33 = .ok (.iload 5, 2) := by decide +kernel
theorem dX9_togetherOf_35 : decode cX9_togetherOf 35 = .ok (.iconst 0, 1) := by decide +kernel
theorem dX9_togetherOf_36 : decode cX9_togetherOf 36 = .ok (.invokevirtual 101, 3) := by decide +kernel
theorem dX9_togetherOf_39 : decode cX9_togetherOf 39 = .ok (.iload_n 3, 1) := by decide +kernel
theorem dX9_togetherOf_40 : decode cX9_togetherOf 40 = .ok (.invokevirtual 247, 3) := by decide +kernel
theorem dX9_togetherOf_43 : decode cX9_togetherOf 43 = .ok (.ifCond .eq 7, 3) := by decide +kernel
theorem dX9_togetherOf_46 : decode cX9_togetherOf 46 = .ok (.iconst 1, 1) := by decide +kernel
theorem dX9_togetherOf_47 : decode cX9_togetherOf 47 = .ok (.goto 4, 3) := by decide +kernel
theorem dX9_togetherOf_50 : decode cX9_togetherOf 50 = .ok (.iconst 0, 1) := by decide +kernel
theorem dX9_togetherOf_51 : decode cX9_togetherOf 51 = .ok (.iadd, 1) := by decide +kernel
theorem dX9_togetherOf_52 : decode cX9_togetherOf 52 = .ok (.istore 4, 2) := by decide +kernel
theorem dX9_togetherOf_54 : decode cX9_togetherOf 54 = .ok (.iinc 5 1, 3) := by decide +kernel
theorem dX9_togetherOf_57 : decode cX9_togetherOf 57 = .ok (.goto (-51), 3) := by decide +kernel
theorem dX9_togetherOf_60 : decode cX9_togetherOf 60 = .ok (.iload 4, 2) := by decide +kernel
theorem dX9_togetherOf_62 : decode cX9_togetherOf 62 = .ok (.ireturn, 1) := by decide +kernel
theorem dX9_areTwo_0 : decode cX9_areTwo 0 = .ok (.aload_n 0, 1) := by decide +kernel
theorem dX9_areTwo_1 : decode cX9_areTwo 1 = .ok (.iload_n 1, 1) := by decide +kernel
theorem dX9_areTwo_2 : decode cX9_areTwo 2 = .ok (.invokevirtual 73, 3) := by decide +kernel
theorem dX9_areTwo_5 : decode cX9_areTwo 5 = .ok (.ifCond .eq 20, 3) := by decide +kernel
theorem dX9_areTwo_8 : decode cX9_areTwo 8 = .ok (.aload_n 0, 1) := by decide +kernel
theorem dX9_areTwo_9 : decode cX9_areTwo 9 = .ok (.iload_n 2, 1) := by decide +kernel
theorem dX9_areTwo_10 : decode cX9_areTwo 10 = .ok (.invokevirtual 73, 3) := by decide +kernel
theorem dX9_areTwo_13 : decode cX9_areTwo 13 = .ok (.ifCond .eq 12, 3) := by decide +kernel
theorem dX9_areTwo_16 : decode cX9_areTwo 16 = .ok (.iload_n 1, 1) := by decide +kernel
theorem dX9_areTwo_17 : decode cX9_areTwo 17 = .ok (.iload_n 2, 1) := by decide +kernel
theorem dX9_areTwo_18 : decode cX9_areTwo 18 = .ok (.if_icmp .eq 7, 3) := by decide +kernel
theorem dX9_areTwo_21 : decode cX9_areTwo 21 = .ok (.iconst 1, 1) := by decide +kernel
theorem dX9_areTwo_22 : decode cX9_areTwo 22 = .ok (.goto 4, 3) := by decide +kernel
theorem dX9_areTwo_25 : decode cX9_areTwo 25 = .ok (.iconst 0, 1) := by decide +kernel
theorem dX9_areTwo_26 : decode cX9_areTwo 26 = .ok (.ireturn, 1) := by decide +kernel
theorem dX9_together_0 : decode cX9_together 0 = .ok (.aload_n 0, 1) := by decide +kernel
theorem dX9_together_1 : decode cX9_together 1 = .ok (.iload_n 1, 1) := by decide +kernel
theorem dX9_together_2 : decode cX9_together 2 = .ok (.iload_n 2, 1) := by decide +kernel
theorem dX9_together_3 : decode cX9_together 3 = .ok (.invokevirtual 250, 3) := by decide +kernel
theorem dX9_together_6 : decode cX9_together 6 = .ok (.ifCond .eq 25, 3) := by decide +kernel
theorem dX9_together_9 : decode cX9_together 9 = .ok (.iload_n 3, 1) := by decide +kernel
theorem dX9_together_10 : decode cX9_together 10 = .ok (.i2l, 1) := by decide +kernel
theorem dX9_together_11 : decode cX9_together 11 = .ok (.lconst 0, 1) := by decide +kernel
theorem dX9_together_12 : decode cX9_together 12 = .ok (.ldc2_w 82, 3) := by decide +kernel
theorem dX9_together_15 : decode cX9_together 15 = .ok (.invokestatic 48, 3) := by decide +kernel
theorem dX9_together_18 : decode cX9_together 18 = .ok (.ifCond .eq 13, 3) := by decide +kernel
theorem dX9_together_21 : decode cX9_together 21 = .ok (.aload_n 0, 1) := by decide +kernel
theorem dX9_together_22 : decode cX9_together 22 = .ok (.iload_n 1, 1) := by decide +kernel
theorem dX9_together_23 : decode cX9_together 23 = .ok (.iload_n 2, 1) := by decide +kernel
theorem dX9_together_24 : decode cX9_together 24 = .ok (.iload_n 3, 1) := by decide +kernel
theorem dX9_together_25 : decode cX9_together 25 = .ok (.invokevirtual 253, 3) := by decide +kernel
theorem dX9_together_28 : decode cX9_together 28 = .ok (.goto 9, 3) := by decide +kernel
theorem dX9_together_31 : decode cX9_together 31 = .ok (.aload_n 0, 1) := by decide +kernel
theorem dX9_together_32 : decode cX9_together 32 = .ok (.ldc 47, 2) := by decide +kernel
theorem dX9_together_34 : decode cX9_together 34 = .ok (.invokevirtual 64, 3) := by decide +kernel
theorem dX9_together_37 : decode cX9_together 37 = .ok (.ireturn, 1) := by decide +kernel
theorem dX9_findGroups_0 : decode cX9_findGroups 0 = .ok (.iconst 0, 1) := by decide +kernel
theorem dX9_findGroups_1 : decode cX9_findGroups 1 = .ok (.istore_n 3, 1) := by decide +kernel
theorem dX9_findGroups_2 : decode cX9_findGroups 2 = .ok (.iload_n 3, 1) := by decide +kernel
theorem dX9_findGroups_3 : decode cX9_findGroups 3 = .ok (.aload_n 0, 1) := by decide +kernel
theorem dX9_findGroups_4 : decode cX9_findGroups 4 = .ok (.getfield 9, 3) := by decide +kernel
theorem dX9_findGroups_7 : decode cX9_findGroups 7 = .ok (.iconst 0, 1) := by decide +kernel
theorem dX9_findGroups_8 : decode cX9_findGroups 8 = .ok (.iaload, 1) := by decide +kernel
theorem dX9_findGroups_9 : decode cX9_findGroups 9 = .ok (.if_icmp .ge 16, 3) := by decide +kernel
theorem dX9_findGroups_12 : decode cX9_findGroups 12 = .ok (.aload_n 0, 1) := by decide +kernel
theorem dX9_findGroups_13 : decode cX9_findGroups 13 = .ok (.getfield 35, 3) := by decide +kernel
theorem dX9_findGroups_16 : decode cX9_findGroups 16 = .ok (.iload_n 3, 1) := by decide +kernel
theorem dX9_findGroups_17 : decode cX9_findGroups 17 = .ok (.iload_n 3, 1) := by decide +kernel
theorem dX9_findGroups_18 : decode cX9_findGroups 18 = .ok (.iastore, 1) := by decide +kernel
theorem dX9_findGroups_19 : decode cX9_findGroups 19 = .ok (.iinc 3 1, 3) := by decide +kernel
theorem dX9_findGroups_22 : decode cX9_findGroups 22 = .ok (.goto (-20), 3) := by decide +kernel
theorem dX9_findGroups_25 : decode cX9_findGroups 25 = .ok (.iconst 0, 1) := by decide +kernel
theorem dX9_findGroups_26 : decode cX9_findGroups 26 = .ok (.istore_n 3, 1) := by decide +kernel
theorem dX9_findGroups_27 : decode cX9_findGroups 27 = .ok (.iload_n 3, 1) := by decide +kernel
theorem dX9_findGroups_28 : decode cX9_findGroups 28 = .ok (.aload_n 0, 1) := by decide +kernel
theorem dX9_findGroups_29 : decode cX9_findGroups 29 = .ok (.getfield 9, 3) := by decide +kernel
theorem dX9_findGroups_32 : decode cX9_findGroups 32 = .ok (.iconst 0, 1) := by decide +kernel
theorem dX9_findGroups_33 : decode cX9_findGroups 33 = .ok (.iaload, 1) := by decide +kernel
theorem dX9_findGroups_34 : decode cX9_findGroups 34 = .ok (.if_icmp .ge 186, 3) := by decide +kernel
theorem dX9_findGroups_37 : decode cX9_findGroups 37 = .ok (.iconst 0, 1) := by decide +kernel
theorem dX9_findGroups_38 : decode cX9_findGroups 38 = .ok (.istore 4, 2) := by decide +kernel
theorem dX9_findGroups_40 : decode cX9_findGroups 40 = .ok (.iload 4, 2) := by decide +kernel
theorem dX9_findGroups_42 : decode cX9_findGroups 42 = .ok (.iload_n 3, 1) := by decide +kernel
theorem dX9_findGroups_43 : decode cX9_findGroups 43 = .ok (.if_icmp .ge 171, 3) := by decide +kernel
theorem dX9_findGroups_46 : decode cX9_findGroups 46 = .ok (.aload_n 0, 1) := by decide +kernel
theorem dX9_findGroups_47 : decode cX9_findGroups 47 = .ok (.getfield 35, 3) := by decide +kernel
theorem dX9_findGroups_50 : decode cX9_findGroups 50 = .ok (.iload_n 3, 1) := by decide +kernel
theorem dX9_findGroups_51 : decode cX9_findGroups 51 = .ok (.iaload, 1) := by decide +kernel
theorem dX9_findGroups_52 : decode cX9_findGroups 52 = .ok (.aload_n 0, 1) := by decide +kernel
theorem dX9_findGroups_53 : decode cX9_findGroups 53 = .ok (.getfield 35, 3) := by decide +kernel
theorem dX9_findGroups_56 : decode cX9_findGroups 56 = .ok (.iload 4, 2) := by decide +kernel
theorem dX9_findGroups_58 : decode cX9_findGroups 58 = .ok (.iaload, 1) := by decide +kernel
theorem dX9_findGroups_59 : decode cX9_findGroups 59 = .ok (.if_icmp .eq 149, 3) := by decide +kernel
theorem dX9_findGroups_62 : decode cX9_findGroups 62 = .ok (.aload_n 0, 1) := by decide +kernel
theorem dX9_findGroups_63 : decode cX9_findGroups 63 = .ok (.iload_n 3, 1) := by decide +kernel
theorem dX9_findGroups_64 : decode cX9_findGroups 64 = .ok (.iload 4, 2) := by decide +kernel
theorem dX9_findGroups_66 : decode cX9_findGroups 66 = .ok (.iload_n 1, 1) := by decide +kernel
theorem dX9_findGroups_67 : decode cX9_findGroups 67 = .ok (.invokevirtual 253, 3) := by decide +kernel
theorem dX9_findGroups_70 : decode cX9_findGroups 70 = .ok (.iload_n 2, 1) := by decide +kernel
theorem dX9_findGroups_71 : decode cX9_findGroups 71 = .ok (.if_icmp .ge 18, 3) := by decide +kernel
theorem dX9_findGroups_74 : decode cX9_findGroups 74 = .ok (.aload_n 0, 1) := by decide +kernel
theorem dX9_findGroups_75 : decode cX9_findGroups 75 = .ok (.iload 4, 2) := by decide +kernel
theorem dX9_findGroups_77 : decode cX9_findGroups 77 = .ok (.iload_n 3, 1) := by decide +kernel
theorem dX9_findGroups_78 : decode cX9_findGroups 78 = .ok (.iload_n 1, 1) := by decide +kernel
theorem dX9_findGroups_79 : decode cX9_findGroups 79 = .ok (.invokevirtual 253, 3) := by decide +kernel
theorem dX9_findGroups_82 : decode cX9_findGroups 82 = .ok (.iload_n 2, 1) := by decide +kernel
theorem dX9_findGroups_83 : decode cX9_findGroups 83 = .ok (.if_icmp .ge 6, 3) := by decide +kernel
theorem dX9_findGroups_86 : decode cX9_findGroups 86 = .ok (.goto 122, 3) := by decide +kernel
theorem dX9_findGroups_89 : decode cX9_findGroups 89 = .ok (.aload_n 0, 1) := by decide +kernel
theorem dX9_findGroups_90 : decode cX9_findGroups 90 = .ok (.getfield 35, 3) := by decide +kernel
theorem dX9_findGroups_93 : decode cX9_findGroups 93 = .ok (.iload_n 3, 1) := by decide +kernel
theorem dX9_findGroups_94 : decode cX9_findGroups 94 = .ok (.iaload, 1) := by decide +kernel
theorem dX9_findGroups_95 : decode cX9_findGroups 95 = .ok (.aload_n 0, 1) := by decide +kernel
theorem dX9_findGroups_96 : decode cX9_findGroups 96 = .ok (.getfield 35, 3) := by decide +kernel
theorem dX9_findGroups_99 : decode cX9_findGroups 99 = .ok (.iload 4, 2) := by decide +kernel
theorem dX9_findGroups_101 : decode cX9_findGroups 101 = .ok (.iaload, 1) := by decide +kernel
theorem dX9_findGroups_102 : decode cX9_findGroups 102 = .ok (.if_icmp .ge 12, 3) := by decide +kernel
theorem dX9_findGroups_105 : decode cX9_findGroups 105 = .ok (.aload_n 0, 1) := by decide +kernel
theorem dX9_findGroups_106 : decode cX9_findGroups 106 = .ok (.getfield 35, 3) := by decide +kernel
theorem dX9_findGroups_109 : decode cX9_findGroups 109 = .ok (.iload_n 3, 1) := by decide +kernel
theorem dX9_findGroups_110 : decode cX9_findGroups 110 = .ok (.iaload, 1) := by decide +kernel
theorem dX9_findGroups_111 : decode cX9_findGroups 111 = .ok (.goto 10, 3) := by decide +kernel
theorem dX9_findGroups_114 : decode cX9_findGroups 114 = .ok (.aload_n 0, 1) := by decide +kernel
theorem dX9_findGroups_115 : decode cX9_findGroups 115 = .ok (.getfield 35, 3) := by decide +kernel
theorem dX9_findGroups_118 : decode cX9_findGroups 118 = .ok (.iload 4, 2) := by decide +kernel
theorem dX9_findGroups_120 : decode cX9_findGroups 120 = .ok (.iaload, 1) := by decide +kernel
theorem dX9_findGroups_121 : decode cX9_findGroups 121 = .ok (.istore 5, 2) := by decide +kernel
theorem dX9_findGroups_123 : decode cX9_findGroups 123 = .ok (.aload_n 0, 1) := by decide +kernel
theorem dX9_findGroups_124 : decode cX9_findGroups 124 = .ok (.getfield 35, 3) := by decide +kernel
theorem dX9_findGroups_127 : decode cX9_findGroups 127 = .ok (.iload_n 3, 1) := by decide +kernel
theorem dX9_findGroups_128 : decode cX9_findGroups 128 = .ok (.iaload, 1) := by decide +kernel
theorem dX9_findGroups_129 : decode cX9_findGroups 129 = .ok (.aload_n 0, 1) := by decide +kernel
theorem dX9_findGroups_130 : decode cX9_findGroups 130 = .ok (.getfield 35, 3) := by decide +kernel
theorem dX9_findGroups_133 : decode cX9_findGroups 133 = .ok (.iload 4, 2) := by decide +kernel
theorem dX9_findGroups_135 : decode cX9_findGroups 135 = .ok (.iaload, 1) := by decide +kernel
theorem dX9_findGroups_136 : decode cX9_findGroups 136 = .ok (.if_icmp .ge 13, 3) := by decide +kernel
theorem dX9_findGroups_139 : decode cX9_findGroups 139 = .ok (.aload_n 0, 1) := by decide +kernel
theorem dX9_findGroups_140 : decode cX9_findGroups 140 = .ok (.getfield 35, 3) := by decide +kernel
theorem dX9_findGroups_143 : decode cX9_findGroups 143 = .ok (.iload 4, 2) := by decide +kernel
theorem dX9_findGroups_145 : decode cX9_findGroups 145 = .ok (.iaload, 1) := by decide +kernel
theorem dX9_findGroups_146 : decode cX9_findGroups 146 = .ok (.goto 9, 3) := by decide +kernel
theorem dX9_findGroups_149 : decode cX9_findGroups 149 = .ok (.aload_n 0, 1) := by decide +kernel
theorem dX9_findGroups_150 : decode cX9_findGroups 150 = .ok (.getfield 35, 3) := by decide +kernel
theorem dX9_findGroups_153 : decode cX9_findGroups 153 = .ok (.iload_n 3, 1) := by decide +kernel
theorem dX9_findGroups_154 : decode cX9_findGroups 154 = .ok (.iaload, 1) := by decide +kernel
theorem dX9_findGroups_155 : decode cX9_findGroups 155 = .ok (.istore 6, 2) := by decide +kernel
theorem dX9_findGroups_157 : decode cX9_findGroups 157 = .ok (.iconst 0, 1) := by decide +kernel
theorem dX9_findGroups_158 : decode cX9_findGroups 158 = .ok (.istore 7, 2) := by decide +kernel
theorem dX9_findGroups_160 : decode cX9_findGroups 160 = .ok (.iload 7, 2) := by decide +kernel
theorem dX9_findGroups_162 : decode cX9_findGroups 162 = .ok (.aload_n 0, 1) := by decide +kernel
theorem dX9_findGroups_163 : decode cX9_findGroups 163 = .ok (.getfield 9, 3) := by decide +kernel
theorem dX9_findGroups_166 : decode cX9_findGroups 166 = .ok (.iconst 0, 1) := by decide +kernel
theorem dX9_findGroups_167 : decode cX9_findGroups 167 = .ok (.iaload, 1) := by decide +kernel
theorem dX9_findGroups_168 : decode cX9_findGroups 168 = .ok (.if_icmp .ge 40, 3) := by decide +kernel
theorem dX9_findGroups_171 : decode cX9_findGroups 171 = .ok (.aload_n 0, 1) := by decide +kernel
theorem dX9_findGroups_172 : decode cX9_findGroups 172 = .ok (.getfield 35, 3) := by decide +kernel
theorem dX9_findGroups_175 : decode cX9_findGroups 175 = .ok (.iload 7, 2) := by decide +kernel
theorem dX9_findGroups_177 : decode cX9_findGroups 177 = .ok (.aload_n 0, 1) := by decide +kernel
theorem dX9_findGroups_178 : decode cX9_findGroups 178 = .ok (.getfield 35, 3) := by decide +kernel
theorem dX9_findGroups_181 : decode cX9_findGroups 181 = .ok (.iload 7, 2) := by decide +kernel
theorem dX9_findGroups_183 : decode cX9_findGroups 183 = .ok (.iaload, 1) := by decide +kernel
theorem dX9_findGroups_184 : decode cX9_findGroups 184 = .ok (.iload 6, 2) := by decide +kernel
theorem dX9_findGroups_186 : decode cX9_findGroups 186 = .ok (.if_icmp .ne 8, 3) := by decide +kernel
theorem dX9_findGroups_189 : decode cX9_findGroups 189 = .ok (.iload 5, 2) := by decide +kernel
theorem dX9_findGroups_191 : decode cX9_findGroups 191 = .ok (.goto 10, 3) := by decide +kernel
theorem dX9_findGroups_194 : decode cX9_findGroups 194 = .ok (.aload_n 0, 1) := by decide +kernel
theorem dX9_findGroups_195 : decode cX9_findGroups 195 = .ok (.getfield 35, 3) := by decide +kernel
theorem dX9_findGroups_198 : decode cX9_findGroups 198 = .ok (.iload 7, 2) := by decide +kernel
theorem dX9_findGroups_200 : decode cX9_findGroups 200 = .ok (.iaload, 1) := by decide +kernel
theorem dX9_findGroups_201 : decode cX9_findGroups 201 = .ok (.iastore, 1) := by decide +kernel
theorem dX9_findGroups_202 : decode cX9_findGroups 202 = .ok (.iinc 7 1, 3) := by decide +kernel
theorem dX9_findGroups_205 : decode cX9_findGroups 205 = .ok (.goto (-45), 3) := by decide +kernel
theorem dX9_findGroups_208 : decode cX9_findGroups 208 = .ok (.iinc 4 1, 3) := by decide +kernel
theorem dX9_findGroups_211 : decode cX9_findGroups 211 = .ok (.goto (-171), 3) := by decide +kernel
theorem dX9_findGroups_214 : decode cX9_findGroups 214 = .ok (.iinc 3 1, 3) := by decide +kernel
theorem dX9_findGroups_217 : decode cX9_findGroups 217 = .ok (.goto (-190), 3) := by decide +kernel
theorem dX9_findGroups_220 : decode cX9_findGroups 220 = .ok (.return_, 1) := by decide +kernel
theorem dX9_isGroup_0 : decode cX9_isGroup 0 = .ok (.iload_n 0, 1) := by decide +kernel
theorem dX9_isGroup_1 : decode cX9_isGroup 1 = .ok (.i2l, 1) := by decide +kernel
theorem dX9_isGroup_2 : decode cX9_isGroup 2 = .ok (.lconst 0, 1) := by decide +kernel
theorem dX9_isGroup_3 : decode cX9_isGroup 3 = .ok (.ldc2_w 82, 3) := by decide +kernel
theorem dX9_isGroup_6 : decode cX9_isGroup 6 = .ok (.invokestatic 48, 3) := by decide +kernel
theorem dX9_isGroup_9 : decode cX9_isGroup 9 = .ok (.ifCond .eq 19, 3) := by decide +kernel
theorem dX9_isGroup_12 : decode cX9_isGroup 12 = .ok (.iload_n 1, 1) := by decide +kernel
theorem dX9_isGroup_13 : decode cX9_isGroup 13 = .ok (.i2l, 1) := by decide +kernel
theorem dX9_isGroup_14 : decode cX9_isGroup 14 = .ok (.lconst 1, 1) := by decide +kernel
theorem dX9_isGroup_15 : decode cX9_isGroup 15 = .ok (.ldc2_w 82, 3) := by decide +kernel
theorem dX9_isGroup_18 : decode cX9_isGroup 18 = .ok (.invokestatic 48, 3) := by decide +kernel
theorem dX9_isGroup_21 : decode cX9_isGroup 21 = .ok (.ifCond .eq 7, 3) := by decide +kernel
theorem dX9_isGroup_24 : decode cX9_isGroup 24 = .ok (.iconst 1, 1) := by decide +kernel
theorem dX9_isGroup_25 : decode cX9_isGroup 25 = .ok (.goto 4, 3) := by decide +kernel
theorem dX9_isGroup_28 : decode cX9_isGroup 28 = .ok (.iconst 0, 1) := by decide +kernel
theorem dX9_isGroup_29 : decode cX9_isGroup 29 = .ok (.ireturn, 1) := by decide +kernel
theorem dX9_group_0 : decode cX9_group 0 = .ok (.aload_n 0, 1) := by decide +kernel
theorem dX9_group_1 : decode cX9_group 1 = .ok (.iload_n 1, 1) := by decide +kernel
theorem dX9_group_2 : decode cX9_group 2 = .ok (.invokevirtual 73, 3) := by decide +kernel
theorem dX9_group_5 : decode cX9_group 5 = .ok (.ifCond .eq 24, 3) := by decide +kernel
theorem dX9_group_8 : decode cX9_group 8 = .ok (.iload_n 2, 1) := by decide +kernel
theorem dX9_group_9 : decode cX9_group 9 = .ok (.iload_n 3, 1) := by decide +kernel
theorem dX9_group_10 : decode cX9_group 10 = .ok (.invokestatic 256, 3) := by decide +kernel
theorem dX9_group_13 : decode cX9_group 13 = .ok (.ifCond .eq 16, 3) := by decide +kernel
theorem dX9_group_16 : decode cX9_group 16 = .ok (.iload 4, 2) := by decide +kernel
theorem dX9_group_18 : decode cX9_group 18 = .ok (.i2l, 1) := by decide +kernel
theorem dX9_group_19 : decode cX9_group 19 = .ok (.lconst 0, 1) := by decide +kernel
theorem dX9_group_20 : decode cX9_group 20 = .ok (.ldc2_w 229, 3) := by decide +kernel
theorem dX9_group_23 : decode cX9_group 23 = .ok (.invokestatic 48, 3) := by decide +kernel
theorem dX9_group_26 : decode cX9_group 26 = .ok (.ifCond .ne 10, 3) := by decide +kernel
theorem dX9_group_29 : decode cX9_group 29 = .ok (.aload_n 0, 1) := by decide +kernel
theorem dX9_group_30 : decode cX9_group 30 = .ok (.ldc 47, 2) := by decide +kernel
theorem dX9_group_32 : decode cX9_group 32 = .ok (.invokevirtual 64, 3) := by decide +kernel
theorem dX9_group_35 : decode cX9_group 35 = .ok (.ireturn, 1) := by decide +kernel
theorem dX9_group_36 : decode cX9_group 36 = .ok (.aload_n 0, 1) := by decide +kernel
theorem dX9_group_37 : decode cX9_group 37 = .ok (.iload_n 2, 1) := by decide +kernel
theorem dX9_group_38 : decode cX9_group 38 = .ok (.iload_n 3, 1) := by decide +kernel
theorem dX9_group_39 : decode cX9_group 39 = .ok (.invokevirtual 259, 3) := by decide +kernel
theorem dX9_group_42 : decode cX9_group 42 = .ok (.iconst 0, 1) := by decide +kernel
theorem dX9_group_43 : decode cX9_group 43 = .ok (.istore 5, 2) := by decide +kernel
theorem dX9_group_45 : decode cX9_group 45 = .ok (.iconst 0, 1) := by decide +kernel
theorem dX9_group_46 : decode cX9_group 46 = .ok (.istore 6, 2) := by decide +kernel
theorem dX9_group_48 : decode cX9_group 48 = .ok (.iload 6, 2) := by decide +kernel
theorem dX9_group_50 : decode cX9_group 50 = .ok (.aload_n 0, 1) := by decide +kernel
theorem dX9_group_51 : decode cX9_group 51 = .ok (.getfield 9, 3) := by decide +kernel
theorem dX9_group_54 : decode cX9_group 54 = .ok (.iconst 0, 1) := by decide +kernel
theorem dX9_group_55 : decode cX9_group 55 = .ok (.iaload, 1) := by decide +kernel
theorem dX9_group_56 : decode cX9_group 56 = .ok (.if_icmp .ge 38, 3) := by decide +kernel
theorem dX9_group_59 : decode cX9_group 59 = .ok (.iload 5, 2) := by decide +kernel
theorem dX9_group_61 : decode cX9_group 61 = .ok (.aload_n 0, 1) := by decide +kernel
theorem dX9_group_62 : decode cX9_group 62 = .ok (.getfield 35, 3) := by decide +kernel
theorem dX9_group_65 : decode cX9_group 65 = .ok (.iload 6, 2) := by decide +kernel
theorem dX9_group_67 : decode cX9_group 67 = .ok (.iaload, 1) := by decide +kernel
theorem dX9_group_68 : decode cX9_group 68 = .ok (.aload_n 0, 1) := by decide +kernel
theorem dX9_group_69 : decode cX9_group 69 = .ok (.getfield 35, 3) := by decide +kernel
theorem dX9_group_72 : decode cX9_group 72 = .ok (.iload_n 1, 1) := by decide +kernel
theorem dX9_group_73 : decode cX9_group 73 = .ok (.iaload, 1) := by decide +kernel
theorem dX9_group_74 : decode cX9_group 74 = .ok (.if_icmp .ne 10, 3) := by decide +kernel
theorem dX9_group_77 : decode cX9_group 77 = .ok (.iconst 1, 1) := by decide +kernel
theorem dX9_group_78 : decode cX9_group 78 = .ok (.iload 6, 2) := by decide +kernel
theorem dX9_group_80 : decode cX9_group 80 = .ok (.ishl, 1) := by decide +kernel
theorem dX9_group_81 : decode cX9_group 81 = .ok (.goto 4, 3) := by decide +kernel
theorem dX9_group_84 : decode cX9_group 84 = .ok (.iconst 0, 1) := by decide +kernel
theorem dX9_group_85 : decode cX9_group 85 = .ok (.ior, 1) := by decide +kernel
theorem dX9_group_86 : decode cX9_group 86 = .ok (.istore 5, 2) := by decide +kernel
theorem dX9_group_88 : decode cX9_group 88 = .ok (.iinc 6 1, 3) := by decide +kernel
theorem dX9_group_91 : decode cX9_group 91 = .ok (.goto (-43), 3) := by decide +kernel
theorem dX9_group_94 : decode cX9_group 94 = .ok (.iload 4, 2) := by decide +kernel
theorem dX9_group_96 : decode cX9_group 96 = .ok (.ifCond .ne 12, 3) := by decide +kernel
theorem dX9_group_99 : decode cX9_group 99 = .ok (.aload_n 0, 1) := by decide +kernel
theorem dX9_group_100 : decode cX9_group 100 = .ok (.getfield 35, 3) := by decide +kernel
theorem dX9_group_103 : decode cX9_group 103 = .ok (.iload_n 1, 1) := by decide +kernel
theorem dX9_group_104 : decode cX9_group 104 = .ok (.iaload, 1) := by decide +kernel
theorem dX9_group_105 : decode cX9_group 105 = .ok (.goto 19, 3) := by decide +kernel
theorem dX9_group_108 : decode cX9_group 108 = .ok (.iload 4, 2) := by decide +kernel
theorem dX9_group_110 : decode cX9_group 110 = .ok (.iconst 1, 1) := by decide +kernel
theorem dX9_group_111 : decode cX9_group 111 = .ok (.if_icmp .ne 11, 3) := by decide +kernel
theorem dX9_group_114 : decode cX9_group 114 = .ok (.iload 5, 2) := by decide +kernel
theorem dX9_group_116 : decode cX9_group 116 = .ok (.invokestatic 148, 3) := by decide +kernel
theorem dX9_group_119 : decode cX9_group 119 = .ok (.goto 5, 3) := by decide +kernel
theorem dX9_group_122 : decode cX9_group 122 = .ok (.iload 5, 2) := by decide +kernel
theorem dX9_group_124 : decode cX9_group 124 = .ok (.ireturn, 1) := by decide +kernel
theorem dX9_groups_0 : decode cX9_groups 0 = .ok (.iload_n 1, 1) := by decide +kernel
theorem dX9_groups_1 : decode cX9_groups 1 = .ok (.iload_n 2, 1) := by decide +kernel
theorem dX9_groups_2 : decode cX9_groups 2 = .ok (.invokestatic 256, 3) := by decide +kernel
theorem dX9_groups_5 : decode cX9_groups 5 = .ok (.ifCond .ne 10, 3) := by decide +kernel
theorem dX9_groups_8 : decode cX9_groups 8 = .ok (.aload_n 0, 1) := by decide +kernel
theorem dX9_groups_9 : decode cX9_groups 9 = .ok (.ldc 47, 2) := by decide +kernel
theorem dX9_groups_11 : decode cX9_groups 11 = .ok (.invokevirtual 64, 3) := by decide +kernel
theorem dX9_groups_14 : decode cX9_groups 14 = .ok (.ireturn, 1) := by decide +kernel
theorem dX9_groups_15 : decode cX9_groups 15 = .ok (.aload_n 0, 1) := by decide +kernel
theorem dX9_groups_16 : decode cX9_groups 16 = .ok (.iload_n 1, 1) := by decide +kernel
theorem dX9_groups_17 : decode cX9_groups 17 = .ok (.iload_n 2, 1) := by decide +kernel
theorem dX9_groups_18 : decode cX9_groups 18 = .ok (.invokevirtual 259, 3) := by decide +kernel
theorem dX9_groups_21 : decode cX9_groups 21 = .ok (.iconst 0, 1) := by decide +kernel
theorem dX9_groups_22 : decode cX9_groups 22 = .ok (.istore_n 3, 1) := by decide +kernel
theorem dX9_groups_23 : decode cX9_groups 23 = .ok (.iconst 0, 1) := by decide +kernel
theorem dX9_groups_24 : decode cX9_groups 24 = .ok (.istore 4, 2) := by decide +kernel
theorem dX9_groups_26 : decode cX9_groups 26 = .ok (.iload 4, 2) := by decide +kernel
theorem dX9_groups_28 : decode cX9_groups 28 = .ok (.aload_n 0, 1) := by decide +kernel
theorem dX9_groups_29 : decode cX9_groups 29 = .ok (.getfield 9, 3) := by decide +kernel
theorem dX9_groups_32 : decode cX9_groups 32 = .ok (.iconst 0, 1) := by decide +kernel
theorem dX9_groups_33 : decode cX9_groups 33 = .ok (.iaload, 1) := by decide +kernel
theorem dX9_groups_34 : decode cX9_groups 34 = .ok (.if_icmp .ge 29, 3) := by decide +kernel
theorem dX9_groups_37 : decode cX9_groups 37 = .ok (.iload_n 3, 1) := by decide +kernel
theorem dX9_groups_38 : decode cX9_groups 38 = .ok (.aload_n 0, 1) := by decide +kernel
theorem dX9_groups_39 : decode cX9_groups 39 = .ok (.getfield 35, 3) := by decide +kernel
theorem dX9_groups_42 : decode cX9_groups 42 = .ok (.iload 4, 2) := by decide +kernel
theorem dX9_groups_44 : decode cX9_groups 44 = .ok (.iaload, 1) := by decide +kernel
theorem dX9_groups_45 : decode cX9_groups 45 = .ok (.iload 4, 2) := by decide +kernel
theorem dX9_groups_47 : decode cX9_groups 47 = .ok (.if_icmp .ne 7, 3) := by decide +kernel
theorem dX9_groups_50 : decode cX9_groups 50 = .ok (.iconst 1, 1) := by decide +kernel
theorem dX9_groups_51 : decode cX9_groups 51 = .ok (.goto 4, 3) := by decide +kernel
theorem dX9_groups_54 : decode cX9_groups 54 = .ok (.iconst 0, 1) := by decide +kernel
theorem dX9_groups_55 : decode cX9_groups 55 = .ok (.iadd, 1) := by decide +kernel
theorem dX9_groups_56 : decode cX9_groups 56 = .ok (.istore_n 3, 1) := by decide +kernel
theorem dX9_groups_57 : decode cX9_groups 57 = .ok (.iinc 4 1, 3) := by decide +kernel
theorem dX9_groups_60 : decode cX9_groups 60 = .ok (.goto (-34), 3) := by decide +kernel
theorem dX9_groups_63 : decode cX9_groups 63 = .ok (.iload_n 3, 1) := by decide +kernel
theorem dX9_groups_64 : decode cX9_groups 64 = .ok (.ireturn, 1) := by decide +kernel
theorem dX9_club_0 : decode cX9_club 0 = .ok (.iload_n 1, 1) := by decide +kernel
theorem dX9_club_1 : decode cX9_club 1 = .ok (.invokestatic 116, 3) := by decide +kernel
theorem dX9_club_4 : decode cX9_club 4 = .ok (.ifCond .eq 15, 3) := by decide +kernel
theorem dX9_club_7 : decode cX9_club 7 = .ok (.iload_n 2, 1) := by decide +kernel
theorem dX9_club_8 : decode cX9_club 8 = .ok (.i2l, 1) := by decide +kernel
theorem dX9_club_9 : decode cX9_club 9 = .ok (.lconst 0, 1) := by decide +kernel
theorem dX9_club_10 : decode cX9_club 10 = .ok (.ldc2_w 82, 3) := by decide +kernel
theorem dX9_club_13 : decode cX9_club 13 = .ok (.invokestatic 48, 3) := by decide +kernel
theorem dX9_club_16 : decode cX9_club 16 = .ok (.ifCond .ne 10, 3) := by decide +kernel
theorem dX9_club_19 : decode cX9_club 19 = .ok (.aload_n 0, 1) := by decide +kernel
theorem dX9_club_20 : decode cX9_club 20 = .ok (.ldc 47, 2) := by decide +kernel
theorem dX9_club_22 : decode cX9_club 22 = .ok (.invokevirtual 64, 3) := by decide +kernel
theorem dX9_club_25 : decode cX9_club 25 = .ok (.ireturn, 1) := by decide +kernel
theorem dX9_club_26 : decode cX9_club 26 = .ok (.iconst 0, 1) := by decide +kernel
theorem dX9_club_27 : decode cX9_club 27 = .ok (.istore_n 3, 1) := by decide +kernel
theorem dX9_club_28 : decode cX9_club 28 = .ok (.iconst 0, 1) := by decide +kernel
theorem dX9_club_29 : decode cX9_club 29 = .ok (.istore 4, 2) := by decide +kernel
theorem dX9_club_31 : decode cX9_club 31 = .ok (.iload 4, 2) := by decide +kernel
theorem dX9_club_33 : decode cX9_club 33 = .ok (.aload_n 0, 1) := by decide +kernel
theorem dX9_club_34 : decode cX9_club 34 = .ok (.getfield 9, 3) := by decide +kernel
theorem dX9_club_37 : decode cX9_club 37 = .ok (.iconst 2, 1) := by decide +kernel
theorem dX9_club_38 : decode cX9_club 38 = .ok (.iaload, 1) := by decide +kernel
theorem dX9_club_39 : decode cX9_club 39 = .ok (.if_icmp .ge 44, 3) := by decide +kernel
theorem dX9_club_42 : decode cX9_club 42 = .ok (.iload_n 3, 1) := by decide +kernel
theorem dX9_club_43 : decode cX9_club 43 = .ok (.aload_n 0, 1) := by decide +kernel
theorem dX9_club_44 : decode cX9_club 44 = .ok (.iload 4, 2) := by decide +kernel
theorem dX9_club_46 : decode cX9_club 46 = .ok (.iconst 0, 1) := by decide +kernel
theorem dX9_club_47 : decode cX9_club 47 = .ok (.invokevirtual 101, 3) := by decide +kernel
theorem dX9_club_50 : decode cX9_club 50 = .ok (.iload_n 1, 1) := by decide +kernel
theorem dX9_club_51 : decode cX9_club 51 = .ok (.isub, 1) := by decide +kernel
theorem dX9_club_52 : decode cX9_club 52 = .ok (.i2l, 1) := by decide +kernel
theorem dX9_club_53 : decode cX9_club 53 = .ok (.lconst 0, 1) := by decide +kernel
theorem dX9_club_54 : decode cX9_club 54 = .ok (.iload_n 2, 1) := by decide +kernel
theorem dX9_club_55 : decode cX9_club 55 = .ok (.i2l, 1) := by decide +kernel
theorem dX9_club_56 : decode cX9_club 56 = .ok (.invokestatic 48, 3) := by decide +kernel
theorem dX9_club_59 : decode cX9_club 59 = .ok (.ifCond .eq 15, 3) := by decide +kernel
theorem dX9_club_62 : decode cX9_club 62 = .ok (.iconst 1, 1) := by decide +kernel
theorem dX9_club_63 : decode cX9_club 63 = .ok (.aload_n 0, 1) := by decide +kernel
theorem dX9_club_64 : decode cX9_club 64 = .ok (.iload 4, 2) := by decide +kernel
theorem dX9_club_66 : decode cX9_club 66 = .ok (.iconst 1, 1) := by decide +kernel
theorem dX9_club_67 : decode cX9_club 67 = .ok (.invokevirtual 101, 3) := by decide +kernel
theorem dX9_club_70 : decode cX9_club 70 = .ok (.ishl, 1) := by decide +kernel
theorem dX9_club_71 : decode cX9_club 71 = .ok (.goto 4, 3) := by decide +kernel
theorem dX9_club_74 : decode cX9_club 74 = .ok (.iconst 0, 1) := by decide +kernel
theorem dX9_club_75 : decode cX9_club 75 = .ok (.ior, 1) := by decide +kernel
theorem dX9_club_76 : decode cX9_club 76 = .ok (.istore_n 3, 1) := by decide +kernel
theorem dX9_club_77 : decode cX9_club 77 = .ok (.iinc 4 1, 3) := by decide +kernel
theorem dX9_club_80 : decode cX9_club 80 = .ok (.goto (-49), 3) := by decide +kernel
theorem dX9_club_83 : decode cX9_club 83 = .ok (.iload_n 3, 1) := by decide +kernel
theorem dX9_club_84 : decode cX9_club 84 = .ok (.ireturn, 1) := by decide +kernel
theorem dX9_apart_0 : decode cX9_apart 0 = .ok (.aload_n 0, 1) := by decide +kernel
theorem dX9_apart_1 : decode cX9_apart 1 = .ok (.iload_n 1, 1) := by decide +kernel
theorem dX9_apart_2 : decode cX9_apart 2 = .ok (.iload_n 2, 1) := by decide +kernel
theorem dX9_apart_3 : decode cX9_apart 3 = .ok (.invokevirtual 250, 3) := by decide +kernel
theorem dX9_apart_6 : decode cX9_apart 6 = .ok (.ifCond .eq 20, 3) := by decide +kernel
theorem dX9_apart_9 : decode cX9_apart 9 = .ok (.aload_n 0, 1) := by decide +kernel
theorem dX9_apart_10 : decode cX9_apart 10 = .ok (.iload_n 1, 1) := by decide +kernel
theorem dX9_apart_11 : decode cX9_apart 11 = .ok (.invokevirtual 145, 3) := by decide +kernel
theorem dX9_apart_14 : decode cX9_apart 14 = .ok (.aload_n 0, 1) := by decide +kernel
theorem dX9_apart_15 : decode cX9_apart 15 = .ok (.iload_n 2, 1) := by decide +kernel
theorem dX9_apart_16 : decode cX9_apart 16 = .ok (.invokevirtual 145, 3) := by decide +kernel
theorem dX9_apart_19 : decode cX9_apart 19 = .ok (.ixor, 1) := by decide +kernel
theorem dX9_apart_20 : decode cX9_apart 20 = .ok (.invokestatic 148, 3) := by decide +kernel
theorem dX9_apart_23 : decode cX9_apart 23 = .ok (.goto 9, 3) := by decide +kernel
theorem dX9_apart_26 : decode cX9_apart 26 = .ok (.aload_n 0, 1) := by decide +kernel
theorem dX9_apart_27 : decode cX9_apart 27 = .ok (.ldc 47, 2) := by decide +kernel
theorem dX9_apart_29 : decode cX9_apart 29 = .ok (.invokevirtual 64, 3) := by decide +kernel
theorem dX9_apart_32 : decode cX9_apart 32 = .ok (.ireturn, 1) := by decide +kernel
theorem dX9_countOf_0 : decode cX9_countOf 0 = .ok (.iconst 0, 1) := by decide +kernel
theorem dX9_countOf_1 : decode cX9_countOf 1 = .ok (.istore_n 3, 1) := by decide +kernel
theorem dX9_countOf_2 : decode cX9_countOf 2 = .ok (.iconst 0, 1) := by decide +kernel
theorem dX9_countOf_3 : decode cX9_countOf 3 = .ok (.istore 4, 2) := by decide +kernel
theorem dX9_countOf_5 : decode cX9_countOf 5 = .ok (.iload 4, 2) := by decide +kernel
theorem dX9_countOf_7 : decode cX9_countOf 7 = .ok (.aload_n 0, 1) := by decide +kernel
theorem dX9_countOf_8 : decode cX9_countOf 8 = .ok (.getfield 9, 3) := by decide +kernel
theorem dX9_countOf_11 : decode cX9_countOf 11 = .ok (.iconst 2, 1) := by decide +kernel
theorem dX9_countOf_12 : decode cX9_countOf 12 = .ok (.iaload, 1) := by decide +kernel
theorem dX9_countOf_13 : decode cX9_countOf 13 = .ok (.if_icmp .ge 46, 3) := by decide +kernel
theorem dX9_countOf_16 : decode cX9_countOf 16 = .ok (.iload_n 3, 1) := by decide +kernel
theorem dX9_countOf_17 : decode cX9_countOf 17 = .ok (.iload_n 2, 1) := by decide +kernel
theorem dX9_countOf_18 : decode cX9_countOf 18 = .ok (.aload_n 0, 1) := by decide +kernel
theorem dX9_countOf_19 : decode cX9_countOf 19 = .ok (.iload 4, 2) := by decide +kernel
theorem dX9_countOf_21 : decode cX9_countOf 21 = .ok (.iconst 1, 1) := by decide +kernel
theorem dX9_countOf_22 : decode cX9_countOf 22 = .ok (.invokevirtual 101, 3) := by decide +kernel
theorem dX9_countOf_25 : decode cX9_countOf 25 = .ok (.invokestatic 97, 3) := by decide +kernel
theorem dX9_countOf_28 : decode cX9_countOf 28 = .ok (.ifCond .ne 22, 3) := by decide +kernel
theorem dX9_countOf_31 : decode cX9_countOf 31 = .ok (.iload_n 1, 1) := by decide +kernel
theorem dX9_countOf_32 : decode cX9_countOf 32 = .ok (.ifCond .lt 14, 3) := by decide +kernel
theorem dX9_countOf_35 : decode cX9_countOf 35 = .ok (.aload_n 0, 1) := by decide +kernel
theorem dX9_countOf_36 : decode cX9_countOf 36 = .ok (.iload 4, 2) := by decide +kernel
theorem dX9_countOf_38 : decode cX9_countOf 38 = .ok (.iconst 2, 1) := by decide +kernel
theorem dX9_countOf_39 : decode cX9_countOf 39 = .ok (.invokevirtual 101, 3) := by decide +kernel
theorem dX9_countOf_42 : decode cX9_countOf 42 = .ok (.iload_n 1, 1) := by decide +kernel
theorem dX9_countOf_43 : decode cX9_countOf 43 = .ok (.if_icmp .ne 7, 3) := by decide +kernel
theorem dX9_countOf_46 : decode cX9_countOf 46 = .ok (.iconst 1, 1) := by decide +kernel
theorem dX9_countOf_47 : decode cX9_countOf 47 = .ok (.goto 4, 3) := by decide +kernel
theorem dX9_countOf_50 : decode cX9_countOf 50 = .ok (.iconst 0, 1) := by decide +kernel
theorem dX9_countOf_51 : decode cX9_countOf 51 = .ok (.iadd, 1) := by decide +kernel
theorem dX9_countOf_52 : decode cX9_countOf 52 = .ok (.istore_n 3, 1) := by decide +kernel
theorem dX9_countOf_53 : decode cX9_countOf 53 = .ok (.iinc 4 1, 3) := by decide +kernel
theorem dX9_countOf_56 : decode cX9_countOf 56 = .ok (.goto (-51), 3) := by decide +kernel
theorem dX9_countOf_59 : decode cX9_countOf 59 = .ok (.iload_n 3, 1) := by decide +kernel
theorem dX9_countOf_60 : decode cX9_countOf 60 = .ok (.ireturn, 1) := by decide +kernel
theorem dX9_counts_0 : decode cX9_counts 0 = .ok (.iload_n 1, 1) := by decide +kernel
theorem dX9_counts_1 : decode cX9_counts 1 = .ok (.i2l, 1) := by decide +kernel
theorem dX9_counts_2 : decode cX9_counts 2 = .ok (.ldc2_w 263, 3) := by decide +kernel
theorem dX9_counts_5 : decode cX9_counts 5 = .ok (.ldc2_w 58, 3) := by decide +kernel
theorem dX9_counts_8 : decode cX9_counts 8 = .ok (.invokestatic 48, 3) := by decide +kernel
theorem dX9_counts_11 : decode cX9_counts 11 = .ok (.ifCond .eq 20, 3) := by decide +kernel
theorem dX9_counts_14 : decode cX9_counts 14 = .ok (.aload_n 0, 1) := by decide +kernel
theorem dX9_counts_15 : decode cX9_counts 15 = .ok (.iload_n 2, 1) := by decide +kernel
theorem dX9_counts_16 : decode cX9_counts 16 = .ok (.invokevirtual 265, 3) := by decide +kernel
theorem dX9_counts_19 : decode cX9_counts 19 = .ok (.ifCond .eq 12, 3) := by decide +kernel
theorem dX9_counts_22 : decode cX9_counts 22 = .ok (.aload_n 0, 1) := by decide +kernel
theorem dX9_counts_23 : decode cX9_counts 23 = .ok (.iload_n 1, 1) := by decide +kernel
theorem dX9_counts_24 : decode cX9_counts 24 = .ok (.iload_n 2, 1) := by decide +kernel
theorem dX9_counts_25 : decode cX9_counts 25 = .ok (.invokevirtual 268, 3) := by decide +kernel
theorem dX9_counts_28 : decode cX9_counts 28 = .ok (.goto 9, 3) := by decide +kernel
theorem dX9_counts_31 : decode cX9_counts 31 = .ok (.aload_n 0, 1) := by decide +kernel
theorem dX9_counts_32 : decode cX9_counts 32 = .ok (.ldc 47, 2) := by decide +kernel
theorem dX9_counts_34 : decode cX9_counts 34 = .ok (.invokevirtual 64, 3) := by decide +kernel
theorem dX9_counts_37 : decode cX9_counts 37 = .ok (.ireturn, 1) := by decide +kernel
theorem dX9_most_0 : decode cX9_most 0 = .ok (.aload_n 0, 1) := by decide +kernel
theorem dX9_most_1 : decode cX9_most 1 = .ok (.iload_n 1, 1) := by decide +kernel
theorem dX9_most_2 : decode cX9_most 2 = .ok (.invokevirtual 265, 3) := by decide +kernel
theorem dX9_most_5 : decode cX9_most 5 = .ok (.ifCond .ne 10, 3) := by decide +kernel
theorem dX9_most_8 : decode cX9_most 8 = .ok (.aload_n 0, 1) := by decide +kernel
theorem dX9_most_9 : decode cX9_most 9 = .ok (.ldc 47, 2) := by decide +kernel
theorem dX9_most_11 : decode cX9_most 11 = .ok (.invokevirtual 64, 3) := by decide +kernel
theorem dX9_most_14 : decode cX9_most 14 = .ok (.ireturn, 1) := by decide +kernel
theorem dX9_most_15 : decode cX9_most 15 = .ok (.aload_n 0, 1) := by decide +kernel
theorem dX9_most_16 : decode cX9_most 16 = .ok (.iconst (-1), 1) := by decide +kernel
theorem dX9_most_17 : decode cX9_most 17 = .ok (.iload_n 1, 1) := by decide +kernel
theorem dX9_most_18 : decode cX9_most 18 = .ok (.invokevirtual 268, 3) := by decide +kernel
theorem dX9_most_21 : decode cX9_most 21 = .ok (.ifCond .ne 10, 3) := by decide +kernel
theorem dX9_most_24 : decode cX9_most 24 = .ok (.aload_n 0, 1) := by decide +kernel
theorem dX9_most_25 : decode cX9_most 25 = .ok (.ldc 122, 2) := by decide +kernel
theorem dX9_most_27 : decode cX9_most 27 = .ok (.invokevirtual 64, 3) := by decide +kernel
theorem dX9_most_30 : decode cX9_most 30 = .ok (.ireturn, 1) := by decide +kernel
theorem dX9_most_31 : decode cX9_most 31 = .ok (.iconst 0, 1) := by decide +kernel
theorem dX9_most_32 : decode cX9_most 32 = .ok (.istore_n 2, 1) := by decide +kernel
theorem dX9_most_33 : decode cX9_most 33 = .ok (.iconst 1, 1) := by decide +kernel
theorem dX9_most_34 : decode cX9_most 34 = .ok (.istore_n 3, 1) := by decide +kernel
theorem dX9_most_35 : decode cX9_most 35 = .ok (.iload_n 3, 1) := by decide +kernel
theorem dX9_most_36 : decode cX9_most 36 = .ok (.bipush 10, 2) := by decide +kernel
theorem dX9_most_38 : decode cX9_most 38 = .ok (.if_icmp .ge 30, 3) := by decide +kernel
theorem dX9_most_41 : decode cX9_most 41 = .ok (.aload_n 0, 1) := by decide +kernel
theorem dX9_most_42 : decode cX9_most 42 = .ok (.iload_n 3, 1) := by decide +kernel
theorem dX9_most_43 : decode cX9_most 43 = .ok (.iload_n 1, 1) := by decide +kernel
theorem dX9_most_44 : decode cX9_most 44 = .ok (.invokevirtual 268, 3) := by decide +kernel
theorem dX9_most_47 : decode cX9_most 47 = .ok (.aload_n 0, 1) := by decide +kernel
theorem dX9_most_48 : decode cX9_most 48 = .ok (.iload_n 2, 1) := by decide +kernel
theorem dX9_most_49 : decode cX9_most 49 = .ok (.iload_n 1, 1) := by decide +kernel
theorem dX9_most_50 : decode cX9_most 50 = .ok (.invokevirtual 268, 3) := by decide +kernel
theorem dX9_most_53 : decode cX9_most 53 = .ok (.if_icmp .le 7, 3) := by decide +kernel
theorem dX9_most_56 : decode cX9_most 56 = .ok (.iload_n 3, 1) := by decide +kernel
theorem dX9_most_57 : decode cX9_most 57 = .ok (.goto 4, 3) := by decide +kernel
theorem dX9_most_60 : decode cX9_most 60 = .ok (.iload_n 2, 1) := by decide +kernel
theorem dX9_most_61 : decode cX9_most 61 = .ok (.istore_n 2, 1) := by decide +kernel
theorem dX9_most_62 : decode cX9_most 62 = .ok (.iinc 3 1, 3) := by decide +kernel
theorem dX9_most_65 : decode cX9_most 65 = .ok (.goto (-30), 3) := by decide +kernel
theorem dX9_most_68 : decode cX9_most 68 = .ok (.iload_n 2, 1) := by decide +kernel
theorem dX9_most_69 : decode cX9_most 69 = .ok (.ireturn, 1) := by decide +kernel
theorem dX9_first_0 : decode cX9_first 0 = .ok (.iload_n 1, 1) := by decide +kernel
theorem dX9_first_1 : decode cX9_first 1 = .ok (.invokestatic 84, 3) := by decide +kernel
theorem dX9_first_4 : decode cX9_first 4 = .ok (.ifCond .ne 10, 3) := by decide +kernel
theorem dX9_first_7 : decode cX9_first 7 = .ok (.aload_n 0, 1) := by decide +kernel
theorem dX9_first_8 : decode cX9_first 8 = .ok (.ldc 47, 2) := by decide +kernel
theorem dX9_first_10 : decode cX9_first 10 = .ok (.invokevirtual 64, 3) := by decide +kernel
theorem dX9_first_13 : decode cX9_first 13 = .ok (.ireturn, 1) := by decide +kernel
theorem dX9_first_14 : decode cX9_first 14 = .ok (.iconst 0, 1) := by decide +kernel
theorem dX9_first_15 : decode cX9_first 15 = .ok (.istore_n 2, 1) := by decide +kernel
theorem dX9_first_16 : decode cX9_first 16 = .ok (.iload_n 2, 1) := by decide +kernel
theorem dX9_first_17 : decode cX9_first 17 = .ok (.aload_n 0, 1) := by decide +kernel
theorem dX9_first_18 : decode cX9_first 18 = .ok (.getfield 9, 3) := by decide +kernel
theorem dX9_first_21 : decode cX9_first 21 = .ok (.iconst 2, 1) := by decide +kernel
theorem dX9_first_22 : decode cX9_first 22 = .ok (.iaload, 1) := by decide +kernel
theorem dX9_first_23 : decode cX9_first 23 = .ok (.if_icmp .ge 21, 3) := by decide +kernel
theorem dX9_first_26 : decode cX9_first 26 = .ok (.aload_n 0, 1) := by decide +kernel
theorem dX9_first_27 : decode cX9_first 27 = .ok (.iload_n 2, 1) := by decide +kernel
theorem dX9_first_28 : decode cX9_first 28 = .ok (.iconst 2, 1) := by decide +kernel
theorem dX9_first_29 : decode cX9_first 29 = .ok (.invokevirtual 101, 3) := by decide +kernel
theorem dX9_first_32 : decode cX9_first 32 = .ok (.iload_n 1, 1) := by decide +kernel
theorem dX9_first_33 : decode cX9_first 33 = .ok (.if_icmp .ne 5, 3) := by decide +kernel
theorem dX9_first_36 : decode cX9_first 36 = .ok (.iload_n 2, 1) := by decide +kernel
theorem dX9_first_37 : decode cX9_first 37 = .ok (.ireturn, 1) := by decide +kernel
theorem dX9_first_38 : decode cX9_first 38 = .ok (.iinc 2 1, 3) := by decide +kernel
theorem dX9_first_41 : decode cX9_first 41 = .ok (.goto (-25), 3) := by decide +kernel
theorem dX9_first_44 : decode cX9_first 44 = .ok (.aload_n 0, 1) := by decide +kernel
theorem dX9_first_45 : decode cX9_first 45 = .ok (.ldc 122, 2) := by decide +kernel
theorem dX9_first_47 : decode cX9_first 47 = .ok (.invokevirtual 64, 3) := by decide +kernel
theorem dX9_first_50 : decode cX9_first 50 = .ok (.ireturn, 1) := by decide +kernel
theorem dX9_many__0 : decode cX9_many_ 0 = .ok (.aload_n 0, 1) := by decide +kernel
theorem dX9_many__1 : decode cX9_many_ 1 = .ok (.iload_n 1, 1) := by decide +kernel
theorem dX9_many__2 : decode cX9_many_ 2 = .ok (.invokevirtual 265, 3) := by decide +kernel
theorem dX9_many__5 : decode cX9_many_ 5 = .ok (.ifCond .eq 11, 3) := by decide +kernel
theorem dX9_many__8 : decode cX9_many_ 8 = .ok (.aload_n 0, 1) := by decide +kernel
theorem dX9_many__9 : decode cX9_many_ 9 = .ok (.iload_n 2, 1) := by decide +kernel
theorem dX9_many__10 : decode cX9_many_ 10 = .ok (.invokevirtual 265, 3) := by decide +kernel
theorem dX9_many__13 : decode cX9_many_ 13 = .ok (.ifCond .ne 10, 3) := by decide +kernel
theorem dX9_many__16 : decode cX9_many_ 16 = .ok (.aload_n 0, 1) := by decide +kernel
theorem dX9_many__17 : decode cX9_many_ 17 = .ok (.ldc 47, 2) := by decide +kernel
theorem dX9_many__19 : decode cX9_many_ 19 = .ok (.invokevirtual 64, 3) := by decide +kernel
theorem dX9_many__22 : decode cX9_many_ 22 = .ok (.ireturn, 1) := by decide +kernel
theorem dX9_many__23 : decode cX9_many_ 23 = .ok (.iload_n 1, 1) := by decide +kernel
theorem dX9_many__24 : decode cX9_many_ 24 = .ok (.iload_n 2, 1) := by decide +kernel
theorem dX9_many__25 : decode cX9_many_ 25 = .ok (.iand, 1) := by decide +kernel
theorem dX9_many__26 : decode cX9_many_ 26 = .ok (.ifCond .ne 12, 3) := by decide +kernel
theorem dX9_many__29 : decode cX9_many_ 29 = .ok (.aload_n 0, 1) := by decide +kernel
theorem dX9_many__30 : decode cX9_many_ 30 = .ok (.ldc 122, 2) := by decide +kernel
theorem dX9_many__32 : decode cX9_many_ 32 = .ok (.invokevirtual 64, 3) := by decide +kernel
theorem dX9_many__35 : decode cX9_many_ 35 = .ok (.goto 19, 3) := by decide +kernel
theorem dX9_many__38 : decode cX9_many_ 38 = .ok (.iload_n 1, 1) := by decide +kernel
theorem dX9_many__39 : decode cX9_many_ 39 = .ok (.invokestatic 148, 3) := by decide +kernel
theorem dX9_many__42 : decode cX9_many_ 42 = .ok (.iload_n 2, 1) := by decide +kernel
theorem dX9_many__43 : decode cX9_many_ 43 = .ok (.invokestatic 148, 3) := by decide +kernel
theorem dX9_many__46 : decode cX9_many_ 46 = .ok (.imul, 1) := by decide +kernel
theorem dX9_many__47 : decode cX9_many_ 47 = .ok (.iload_n 1, 1) := by decide +kernel
theorem dX9_many__48 : decode cX9_many_ 48 = .ok (.iload_n 2, 1) := by decide +kernel
theorem dX9_many__49 : decode cX9_many_ 49 = .ok (.iand, 1) := by decide +kernel
theorem dX9_many__50 : decode cX9_many_ 50 = .ok (.invokestatic 148, 3) := by decide +kernel
theorem dX9_many__53 : decode cX9_many_ 53 = .ok (.idiv, 1) := by decide +kernel
theorem dX9_many__54 : decode cX9_many_ 54 = .ok (.ireturn, 1) := by decide +kernel
theorem dX9_sold_0 : decode cX9_sold 0 = .ok (.aload_n 0, 1) := by decide +kernel
theorem dX9_sold_1 : decode cX9_sold 1 = .ok (.iload_n 1, 1) := by decide +kernel
theorem dX9_sold_2 : decode cX9_sold 2 = .ok (.invokevirtual 73, 3) := by decide +kernel
theorem dX9_sold_5 : decode cX9_sold 5 = .ok (.ifCond .ne 10, 3) := by decide +kernel
theorem dX9_sold_8 : decode cX9_sold 8 = .ok (.aload_n 0, 1) := by decide +kernel
theorem dX9_sold_9 : decode cX9_sold 9 = .ok (.ldc 47, 2) := by decide +kernel
theorem dX9_sold_11 : decode cX9_sold 11 = .ok (.invokevirtual 64, 3) := by decide +kernel
theorem dX9_sold_14 : decode cX9_sold 14 = .ok (.ireturn, 1) := by decide +kernel
theorem dX9_sold_15 : decode cX9_sold 15 = .ok (.aload_n 0, 1) := by decide +kernel
theorem dX9_sold_16 : decode cX9_sold 16 = .ok (.iload_n 1, 1) := by decide +kernel
theorem dX9_sold_17 : decode cX9_sold 17 = .ok (.invokevirtual 123, 3) := by decide +kernel
theorem dX9_sold_20 : decode cX9_sold 20 = .ok (.istore_n 2, 1) := by decide +kernel
theorem dX9_sold_21 : decode cX9_sold 21 = .ok (.iload_n 2, 1) := by decide +kernel
theorem dX9_sold_22 : decode cX9_sold 22 = .ok (.iconst 2, 1) := by decide +kernel
theorem dX9_sold_23 : decode cX9_sold 23 = .ok (.if_icmp .ge 10, 3) := by decide +kernel
theorem dX9_sold_26 : decode cX9_sold 26 = .ok (.aload_n 0, 1) := by decide +kernel
theorem dX9_sold_27 : decode cX9_sold 27 = .ok (.ldc 122, 2) := by decide +kernel
theorem dX9_sold_29 : decode cX9_sold 29 = .ok (.invokevirtual 64, 3) := by decide +kernel
theorem dX9_sold_32 : decode cX9_sold 32 = .ok (.ireturn, 1) := by decide +kernel
theorem dX9_sold_33 : decode cX9_sold 33 = .ok (.lconst 0, 1) := by decide +kernel
theorem dX9_sold_34 : decode cX9_sold 34 = .ok (.lstore_n 3, 1) := by decide +kernel
theorem dX9_sold_35 : decode cX9_sold 35 = .ok (.iconst 0, 1) := by decide +kernel
theorem dX9_sold_36 : decode cX9_sold 36 = .ok (.istore 5, 2) := by decide +kernel
theorem dX9_sold_38 : decode cX9_sold 38 = .ok (.iload 5, 2) := by decide +kernel
theorem dX9_sold_40 : decode cX9_sold 40 = .ok (.aload_n 0, 1) := by decide +kernel
theorem dX9_sold_41 : decode cX9_sold 41 = .ok (.getfield 9, 3) := by decide +kernel
theorem dX9_sold_44 : decode cX9_sold 44 = .ok (.iconst 2, 1) := by decide +kernel
theorem dX9_sold_45 : decode cX9_sold 45 = .ok (.iaload, 1) := by decide +kernel
theorem dX9_sold_46 : decode cX9_sold 46 = .ok (.if_icmp .ge 38, 3) := by decide +kernel
theorem dX9_sold_49 : decode cX9_sold 49 = .ok (.lload_n 3, 1) := by decide +kernel
theorem dX9_sold_50 : decode cX9_sold 50 = .ok (.aload_n 0, 1) := by decide +kernel
theorem dX9_sold_51 : decode cX9_sold 51 = .ok (.iload 5, 2) := by decide +kernel
theorem dX9_sold_53 : decode cX9_sold 53 = .ok (.iconst 1, 1) := by decide +kernel
theorem dX9_sold_54 : decode cX9_sold 54 = .ok (.invokevirtual 101, 3) := by decide +kernel
theorem dX9_sold_57 : decode cX9_sold 57 = .ok (.iload_n 1, 1) := by decide +kernel
theorem dX9_sold_58 : decode cX9_sold 58 = .ok (.if_icmp .ne 17, 3) := by decide +kernel
theorem dX9_sold_61 : decode cX9_sold 61 = .ok (.aload_n 0, 1) := by decide +kernel
theorem dX9_sold_62 : decode cX9_sold 62 = .ok (.iload 5, 2) := by decide +kernel
theorem dX9_sold_64 : decode cX9_sold 64 = .ok (.iconst 0, 1) := by decide +kernel
theorem dX9_sold_65 : decode cX9_sold 65 = .ok (.invokevirtual 101, 3) := by decide +kernel
theorem dX9_sold_68 : decode cX9_sold 68 = .ok (.invokestatic 94, 3) := by decide +kernel
theorem dX9_sold_71 : decode cX9_sold 71 = .ok (.i2l, 1) := by decide +kernel
theorem dX9_sold_72 : decode cX9_sold 72 = .ok (.goto 4, 3) := by decide +kernel
theorem dX9_sold_75 : decode cX9_sold 75 = .ok (.lconst 0, 1) := by decide +kernel
theorem dX9_sold_76 : decode cX9_sold 76 = .ok (.ladd, 1) := by decide +kernel
theorem dX9_sold_77 : decode cX9_sold 77 = .ok (.lstore_n 3, 1) := by decide +kernel
theorem dX9_sold_78 : decode cX9_sold 78 = .ok (.iinc 5 1, 3) := by decide +kernel
theorem dX9_sold_81 : decode cX9_sold 81 = .ok (.goto (-43), 3) := by decide +kernel
theorem dX9_sold_84 : decode cX9_sold 84 = .ok (.iconst 0, 1) := by decide +kernel
theorem dX9_sold_85 : decode cX9_sold 85 = .ok (.istore 5, 2) := by decide +kernel
theorem dX9_sold_87 : decode cX9_sold 87 = .ok (.lconst 0, 1) := by decide +kernel
theorem dX9_sold_88 : decode cX9_sold 88 = .ok (.lstore 6, 2) := by decide +kernel
theorem dX9_sold_90 : decode cX9_sold 90 = .ok (.lconst 1, 1) := by decide +kernel
theorem dX9_sold_91 : decode cX9_sold 91 = .ok (.lstore 8, 2) := by decide +kernel
theorem dX9_sold_93 : decode cX9_sold 93 = .ok (.lconst 0, 1) := by decide +kernel
theorem dX9_sold_94 : decode cX9_sold 94 = .ok (.lstore 10, 2) := by decide +kernel
theorem dX9_sold_96 : decode cX9_sold 96 = .ok (.iconst 0, 1) := by decide +kernel
theorem dX9_sold_97 : decode cX9_sold 97 = .ok (.istore 12, 2) := by decide +kernel
theorem dX9_sold_99 : decode cX9_sold 99 = .ok (.iconst 0, 1) := by decide +kernel
theorem dX9_sold_100 : decode cX9_sold 100 = .ok (.istore 13, 2) := by decide +kernel
theorem dX9_sold_102 : decode cX9_sold 102 = .ok (.iload 13, 2) := by decide +kernel
theorem dX9_sold_104 : decode cX9_sold 104 = .ok (.aload_n 0, 1) := by decide +kernel
theorem dX9_sold_105 : decode cX9_sold 105 = .ok (.getfield 9, 3) := by decide +kernel
theorem dX9_sold_108 : decode cX9_sold 108 = .ok (.iconst 2, 1) := by decide +kernel
theorem dX9_sold_109 : decode cX9_sold 109 = .ok (.iaload, 1) := by decide +kernel
theorem dX9_sold_110 : decode cX9_sold 110 = .ok (.if_icmp .ge 122, 3) := by decide +kernel
theorem dX9_sold_113 : decode cX9_sold 113 = .ok (.iload 12, 2) := by decide +kernel
theorem dX9_sold_115 : decode cX9_sold 115 = .ok (.iload_n 2, 1) := by decide +kernel
theorem dX9_sold_116 : decode cX9_sold 116 = .ok (.iconst 1, 1) := by decide +kernel
theorem dX9_sold_117 : decode cX9_sold 117 = .ok (.isub, 1) := by decide +kernel
theorem dX9_sold_118 : decode cX9_sold 118 = .ok (.if_icmp .ge 114, 3) := by decide +kernel
theorem dX9_sold_121 : decode cX9_sold 121 = .ok (.aload_n 0, 1) := by decide +kernel
theorem dX9_sold_122 : decode cX9_sold 122 = .ok (.iload 13, 2) := by decide +kernel
theorem dX9_sold_124 : decode cX9_sold 124 = .ok (.iconst 1, 1) := by decide +kernel
theorem dX9_sold_125 : decode cX9_sold 125 = .ok (.invokevirtual 101, 3) := by decide +kernel
theorem dX9_sold_128 : decode cX9_sold 128 = .ok (.iload_n 1, 1) := by decide +kernel
theorem dX9_sold_129 : decode cX9_sold 129 = .ok (.if_icmp .eq 6, 3) := by decide +kernel
theorem dX9_sold_132 : decode cX9_sold 132 = .ok (.goto 94, 3) := by decide +kernel
theorem dX9_sold_135 : decode cX9_sold 135 = .ok (.lload 10, 2) := by decide +kernel
theorem dX9_sold_137 : decode cX9_sold 137 = .ok (.aload_n 0, 1) := by decide +kernel
theorem dX9_sold_138 : decode cX9_sold 138 = .ok (.iload 13, 2) := by decide +kernel
theorem dX9_sold_140 : decode cX9_sold 140 = .ok (.iconst 0, 1) := by decide +kernel
theorem dX9_sold_141 : decode cX9_sold 141 = .ok (.invokevirtual 101, 3) := by decide +kernel
theorem dX9_sold_144 : decode cX9_sold 144 = .ok (.invokestatic 94, 3) := by decide +kernel
theorem dX9_sold_147 : decode cX9_sold 147 = .ok (.i2l, 1) := by decide +kernel
theorem dX9_sold_148 : decode cX9_sold 148 = .ok (.ladd, 1) := by decide +kernel
theorem dX9_sold_149 : decode cX9_sold 149 = .ok (.lstore 10, 2) := by decide +kernel
theorem dX9_sold_151 : decode cX9_sold 151 = .ok (.iinc 12 1, 3) := by decide +kernel
theorem dX9_sold_154 : decode cX9_sold 154 = .ok (.lload 10, 2) := by decide +kernel
theorem dX9_sold_156 : decode cX9_sold 156 = .ok (.lload 10, 2) := by decide +kernel
theorem dX9_sold_158 : decode cX9_sold 158 = .ok (.lmul, 1) := by decide +kernel
theorem dX9_sold_159 : decode cX9_sold 159 = .ok (.iload_n 2, 1) := by decide +kernel
theorem dX9_sold_160 : decode cX9_sold 160 = .ok (.iload 12, 2) := by decide +kernel
theorem dX9_sold_162 : decode cX9_sold 162 = .ok (.isub, 1) := by decide +kernel
theorem dX9_sold_163 : decode cX9_sold 163 = .ok (.i2l, 1) := by decide +kernel
theorem dX9_sold_164 : decode cX9_sold 164 = .ok (.lmul, 1) := by decide +kernel
theorem dX9_sold_165 : decode cX9_sold 165 = .ok (.lload_n 3, 1) := by decide +kernel
theorem dX9_sold_166 : decode cX9_sold 166 = .ok (.lload 10, 2) := by decide +kernel
theorem dX9_sold_168 : decode cX9_sold 168 = .ok (.lsub, 1) := by decide +kernel
theorem dX9_sold_169 : decode cX9_sold 169 = .ok (.lload_n 3, 1) := by decide +kernel
theorem dX9_sold_170 : decode cX9_sold 170 = .ok (.lload 10, 2) := by decide +kernel
theorem dX9_sold_172 : decode cX9_sold 172 = .ok (.lsub, 1) := by decide +kernel
theorem dX9_sold_173 : decode cX9_sold 173 = .ok (.lmul, 1) := by decide +kernel
theorem dX9_sold_174 : decode cX9_sold 174 = .ok (.iload 12, 2) := by decide +kernel
theorem dX9_sold_176 : decode cX9_sold 176 = .ok (.i2l, 1) := by decide +kernel
theorem dX9_sold_177 : decode cX9_sold 177 = .ok (.lmul, 1) := by decide +kernel
theorem dX9_sold_178 : decode cX9_sold 178 = .ok (.ladd, 1) := by decide +kernel
theorem dX9_sold_179 : decode cX9_sold 179 = .ok (.lstore 14, 2) := by decide +kernel
theorem dX9_sold_181 : decode cX9_sold 181 = .ok (.iload 12, 2) := by decide +kernel
theorem dX9_sold_183 : decode cX9_sold 183 = .ok (.i2l, 1) := by decide +kernel
theorem dX9_sold_184 : decode cX9_sold 184 = .ok (.iload_n 2, 1) := by decide +kernel
theorem dX9_sold_185 : decode cX9_sold 185 = .ok (.iload 12, 2) := by decide +kernel
theorem dX9_sold_187 : decode cX9_sold 187 = .ok (.isub, 1) := by decide +kernel
theorem dX9_sold_188 : decode cX9_sold 188 = .ok (.i2l, 1) := by decide +kernel
theorem dX9_sold_189 : decode cX9_sold 189 = .ok (.lmul, 1) := by decide +kernel
theorem dX9_sold_190 : decode cX9_sold 190 = .ok (.lstore 16, 2) := by decide +kernel
theorem dX9_sold_192 : decode cX9_sold 192 = .ok (.iload 5, 2) := by decide +kernel
theorem dX9_sold_194 : decode cX9_sold 194 = .ok (.ifCond .le 20, 3) := by decide +kernel
theorem dX9_sold_197 : decode cX9_sold 197 = .ok (.lload 14, 2) := by decide +kernel
theorem dX9_sold_199 : decode cX9_sold 199 = .ok (.lload 8, 2) := by decide +kernel
theorem dX9_sold_201 : decode cX9_sold 201 = .ok (.lmul, 1) := by decide +kernel
theorem dX9_sold_202 : decode cX9_sold 202 = .ok (.lload 6, 2) := by decide +kernel
theorem dX9_sold_204 : decode cX9_sold 204 = .ok (.lload 16, 2) := by decide +kernel
theorem dX9_sold_206 : decode cX9_sold 206 = .ok (.lmul, 1) := by decide +kernel
theorem dX9_sold_207 : decode cX9_sold 207 = .ok (.lcmp, 1) := by decide +kernel
theorem dX9_sold_208 : decode cX9_sold 208 = .ok (.ifCond .gt 6, 3) := by decide +kernel
theorem dX9_sold_211 : decode cX9_sold 211 = .ok (.goto 15, 3) := by decide +kernel
theorem dX9_sold_214 : decode cX9_sold 214 = .ok (.iload 12, 2) := by decide +kernel
theorem dX9_sold_216 : decode cX9_sold 216 = .ok (.istore 5, 2) := by decide +kernel
theorem dX9_sold_218 : decode cX9_sold 218 = .ok (.lload 14, 2) := by decide +kernel
theorem dX9_sold_220 : decode cX9_sold 220 = .ok (.lstore 6, 2) := by decide +kernel
theorem dX9_sold_222 : decode cX9_sold 222 = .ok (.lload 16, 2) := by decide +kernel
theorem dX9_sold_224 : decode cX9_sold 224 = .ok (.lstore 8, 2) := by decide +kernel
theorem dX9_sold_226 : decode cX9_sold 226 = .ok (.iinc 13 1, 3) := by decide +kernel
theorem dX9_sold_229 : decode cX9_sold 229 = .ok (.goto (-127), 3) := by decide +kernel
theorem dX9_sold_232 : decode cX9_sold 232 = .ok (.iload 5, 2) := by decide +kernel
theorem dX9_sold_234 : decode cX9_sold 234 = .ok (.ireturn, 1) := by decide +kernel
theorem dX9_seed_0 : decode cX9_seed 0 = .ok (.aload_n 0, 1) := by decide +kernel
theorem dX9_seed_1 : decode cX9_seed 1 = .ok (.getfield 9, 3) := by decide +kernel
theorem dX9_seed_4 : decode cX9_seed 4 = .ok (.iconst 5, 1) := by decide +kernel
theorem dX9_seed_5 : decode cX9_seed 5 = .ok (.iaload, 1) := by decide +kernel
theorem dX9_seed_6 : decode cX9_seed 6 = .ok (.istore_n 2, 1) := by decide +kernel
theorem dX9_seed_7 : decode cX9_seed 7 = .ok (.aload_n 0, 1) := by decide +kernel
theorem dX9_seed_8 : decode cX9_seed 8 = .ok (.getfield 9, 3) := by decide +kernel
theorem dX9_seed_11 : decode cX9_seed 11 = .ok (.iconst 5, 1) := by decide +kernel
theorem dX9_seed_12 : decode cX9_seed 12 = .ok (.iload_n 1, 1) := by decide +kernel
theorem dX9_seed_13 : decode cX9_seed 13 = .ok (.iastore, 1) := by decide +kernel
theorem dX9_seed_14 : decode cX9_seed 14 = .ok (.iload_n 2, 1) := by decide +kernel
theorem dX9_seed_15 : decode cX9_seed 15 = .ok (.ireturn, 1) := by decide +kernel
theorem dX9_sample_0 : decode cX9_sample 0 = .ok (.iload_n 1, 1) := by decide +kernel
theorem dX9_sample_1 : decode cX9_sample 1 = .ok (.i2l, 1) := by decide +kernel
theorem dX9_sample_2 : decode cX9_sample 2 = .ok (.lconst 1, 1) := by decide +kernel
theorem dX9_sample_3 : decode cX9_sample 3 = .ok (.ldc2_w 82, 3) := by decide +kernel
theorem dX9_sample_6 : decode cX9_sample 6 = .ok (.invokestatic 48, 3) := by decide +kernel
theorem dX9_sample_9 : decode cX9_sample 9 = .ok (.ifCond .ne 10, 3) := by decide +kernel
theorem dX9_sample_12 : decode cX9_sample 12 = .ok (.aload_n 0, 1) := by decide +kernel
theorem dX9_sample_13 : decode cX9_sample 13 = .ok (.ldc 47, 2) := by decide +kernel
theorem dX9_sample_15 : decode cX9_sample 15 = .ok (.invokevirtual 64, 3) := by decide +kernel
theorem dX9_sample_18 : decode cX9_sample 18 = .ok (.ireturn, 1) := by decide +kernel
theorem dX9_sample_19 : decode cX9_sample 19 = .ok (.aload_n 0, 1) := by decide +kernel
theorem dX9_sample_20 : decode cX9_sample 20 = .ok (.getfield 9, 3) := by decide +kernel
theorem dX9_sample_23 : decode cX9_sample 23 = .ok (.iconst 0, 1) := by decide +kernel
theorem dX9_sample_24 : decode cX9_sample 24 = .ok (.iaload, 1) := by decide +kernel
theorem dX9_sample_25 : decode cX9_sample 25 = .ok (.ifCond .ne 10, 3) := by decide +kernel
theorem dX9_sample_28 : decode cX9_sample 28 = .ok (.aload_n 0, 1) := by decide +kernel
theorem dX9_sample_29 : decode cX9_sample 29 = .ok (.ldc 122, 2) := by decide +kernel
theorem dX9_sample_31 : decode cX9_sample 31 = .ok (.invokevirtual 64, 3) := by decide +kernel
theorem dX9_sample_34 : decode cX9_sample 34 = .ok (.ireturn, 1) := by decide +kernel
theorem dX9_sample_35 : decode cX9_sample 35 = .ok (.iconst 0, 1) := by decide +kernel
theorem dX9_sample_36 : decode cX9_sample 36 = .ok (.istore_n 2, 1) := by decide +kernel
theorem dX9_sample_37 : decode cX9_sample 37 = .ok (.iconst 0, 1) := by decide +kernel
theorem dX9_sample_38 : decode cX9_sample 38 = .ok (.istore_n 3, 1) := by decide +kernel
theorem dX9_sample_39 : decode cX9_sample 39 = .ok (.iload_n 3, 1) := by decide +kernel
theorem dX9_sample_40 : decode cX9_sample 40 = .ok (.iload_n 1, 1) := by decide +kernel
theorem dX9_sample_41 : decode cX9_sample 41 = .ok (.if_icmp .ge 60, 3) := by decide +kernel
theorem dX9_sample_44 : decode cX9_sample 44 = .ok (.aload_n 0, 1) := by decide +kernel
theorem dX9_sample_45 : decode cX9_sample 45 = .ok (.getfield 9, 3) := by decide +kernel
theorem dX9_sample_48 : decode cX9_sample 48 = .ok (.iconst 5, 1) := by decide +kernel
theorem dX9_sample_49 : decode cX9_sample 49 = .ok (.aload_n 0, 1) := by decide +kernel
theorem dX9_sample_50 : decode cX9_sample 50 = .ok (.getfield 9, 3) := by decide +kernel
theorem dX9_sample_53 : decode cX9_sample 53 = .ok (.iconst 5, 1) := by decide +kernel
theorem dX9_sample_54 : decode cX9_sample 54 = .ok (.iaload, 1) := by decide +kernel
theorem dX9_sample_55 : decode cX9_sample 55 = .ok (.ldc_w 271, 3) := by decide +kernel
theorem dX9_sample_58 : decode cX9_sample 58 = .ok (.imul, 1) := by decide +kernel
theorem dX9_sample_59 : decode cX9_sample 59 = .ok (.sipush 12345, 3) := by decide +kernel
theorem dX9_sample_62 : decode cX9_sample 62 = .ok (.iadd, 1) := by decide +kernel
theorem dX9_sample_63 : decode cX9_sample 63 = .ok (.iastore, 1) := by decide +kernel
theorem dX9_sample_64 : decode cX9_sample 64 = .ok (.iload_n 2, 1) := by decide +kernel
theorem dX9_sample_65 : decode cX9_sample 65 = .ok (.aload_n 0, 1) := by decide +kernel
theorem dX9_sample_66 : decode cX9_sample 66 = .ok (.aload_n 0, 1) := by decide +kernel
theorem dX9_sample_67 : decode cX9_sample 67 = .ok (.getfield 9, 3) := by decide +kernel
theorem dX9_sample_70 : decode cX9_sample 70 = .ok (.iconst 5, 1) := by decide +kernel
theorem dX9_sample_71 : decode cX9_sample 71 = .ok (.iaload, 1) := by decide +kernel
theorem dX9_sample_72 : decode cX9_sample 72 = .ok (.bipush 8, 2) := by decide +kernel
theorem dX9_sample_74 : decode cX9_sample 74 = .ok (.iushr, 1) := by decide +kernel
theorem dX9_sample_75 : decode cX9_sample 75 = .ok (.aload_n 0, 1) := by decide +kernel
theorem dX9_sample_76 : decode cX9_sample 76 = .ok (.getfield 9, 3) := by decide +kernel
theorem dX9_sample_79 : decode cX9_sample 79 = .ok (.iconst 0, 1) := by decide +kernel
theorem dX9_sample_80 : decode cX9_sample 80 = .ok (.iaload, 1) := by decide +kernel
theorem dX9_sample_81 : decode cX9_sample 81 = .ok (.irem, 1) := by decide +kernel
theorem dX9_sample_82 : decode cX9_sample 82 = .ok (.invokevirtual 77, 3) := by decide +kernel
theorem dX9_sample_85 : decode cX9_sample 85 = .ok (.ifCond .eq 7, 3) := by decide +kernel
theorem dX9_sample_88 : decode cX9_sample 88 = .ok (.iconst 0, 1) := by decide +kernel
theorem dX9_sample_89 : decode cX9_sample 89 = .ok (.goto 4, 3) := by decide +kernel
theorem dX9_sample_92 : decode cX9_sample 92 = .ok (.iconst 1, 1) := by decide +kernel
theorem dX9_sample_93 : decode cX9_sample 93 = .ok (.iadd, 1) := by decide +kernel
theorem dX9_sample_94 : decode cX9_sample 94 = .ok (.istore_n 2, 1) := by decide +kernel
theorem dX9_sample_95 : decode cX9_sample 95 = .ok (.iinc 3 1, 3) := by decide +kernel
theorem dX9_sample_98 : decode cX9_sample 98 = .ok (.goto (-59), 3) := by decide +kernel
theorem dX9_sample_101 : decode cX9_sample 101 = .ok (.iload_n 2, 1) := by decide +kernel
theorem dX9_sample_102 : decode cX9_sample 102 = .ok (.ireturn, 1) := by decide +kernel
theorem dX9_hold_0 : decode cX9_hold 0 = .ok (.iload_n 1, 1) := by decide +kernel
theorem dX9_hold_1 : decode cX9_hold 1 = .ok (.i2l, 1) := by decide +kernel
theorem dX9_hold_2 : decode cX9_hold 2 = .ok (.lconst 0, 1) := by decide +kernel
theorem dX9_hold_3 : decode cX9_hold 3 = .ok (.ldc2_w 58, 3) := by decide +kernel
theorem dX9_hold_6 : decode cX9_hold 6 = .ok (.invokestatic 48, 3) := by decide +kernel
theorem dX9_hold_9 : decode cX9_hold 9 = .ok (.ifCond .eq 16, 3) := by decide +kernel
theorem dX9_hold_12 : decode cX9_hold 12 = .ok (.iload_n 2, 1) := by decide +kernel
theorem dX9_hold_13 : decode cX9_hold 13 = .ok (.iconst (-1), 1) := by decide +kernel
theorem dX9_hold_14 : decode cX9_hold 14 = .ok (.if_icmp .eq 18, 3) := by decide +kernel
theorem dX9_hold_17 : decode cX9_hold 17 = .ok (.aload_n 0, 1) := by decide +kernel
theorem dX9_hold_18 : decode cX9_hold 18 = .ok (.iload_n 2, 1) := by decide +kernel
theorem dX9_hold_19 : decode cX9_hold 19 = .ok (.invokevirtual 73, 3) := by decide +kernel
theorem dX9_hold_22 : decode cX9_hold 22 = .ok (.ifCond .ne 10, 3) := by decide +kernel
theorem dX9_hold_25 : decode cX9_hold 25 = .ok (.aload_n 0, 1) := by decide +kernel
theorem dX9_hold_26 : decode cX9_hold 26 = .ok (.ldc 47, 2) := by decide +kernel
theorem dX9_hold_28 : decode cX9_hold 28 = .ok (.invokevirtual 64, 3) := by decide +kernel
theorem dX9_hold_31 : decode cX9_hold 31 = .ok (.ireturn, 1) := by decide +kernel
theorem dX9_hold_32 : decode cX9_hold 32 = .ok (.aload_n 0, 1) := by decide +kernel
theorem dX9_hold_33 : decode cX9_hold 33 = .ok (.getfield 9, 3) := by decide +kernel
theorem dX9_hold_36 : decode cX9_hold 36 = .ok (.sipush 1204, 3) := by decide +kernel
theorem dX9_hold_39 : decode cX9_hold 39 = .ok (.iload_n 1, 1) := by decide +kernel
theorem dX9_hold_40 : decode cX9_hold 40 = .ok (.iadd, 1) := by decide +kernel
theorem dX9_hold_41 : decode cX9_hold 41 = .ok (.iload_n 2, 1) := by decide +kernel
theorem dX9_hold_42 : decode cX9_hold 42 = .ok (.iastore, 1) := by decide +kernel
theorem dX9_hold_43 : decode cX9_hold 43 = .ok (.iconst 1, 1) := by decide +kernel
theorem dX9_hold_44 : decode cX9_hold 44 = .ok (.ireturn, 1) := by decide +kernel
theorem dX9_above_0 : decode cX9_above 0 = .ok (.iload_n 0, 1) := by decide +kernel
theorem dX9_above_1 : decode cX9_above 1 = .ok (.ifCond .ne 7, 3) := by decide +kernel
theorem dX9_above_4 : decode cX9_above 4 = .ok (.iconst (-1), 1) := by decide +kernel
theorem dX9_above_5 : decode cX9_above 5 = .ok (.goto 38, 3) := by decide +kernel
theorem dX9_above_8 : decode cX9_above 8 = .ok (.iload_n 0, 1) := by decide +kernel
theorem dX9_above_9 : decode cX9_above 9 = .ok (.iconst 3, 1) := by decide +kernel
theorem dX9_above_10 : decode cX9_above 10 = .ok (.if_icmp .eq 9, 3) := by decide +kernel
theorem dX9_above_13 : decode cX9_above 13 = .ok (.iload_n 0, 1) := by decide +kernel
theorem dX9_above_14 : decode cX9_above 14 = .ok (.bipush 6, 2) := by decide +kernel
theorem dX9_above_16 : decode cX9_above 16 = .ok (.if_icmp .ne 7, 3) := by decide +kernel
theorem dX9_above_19 : decode cX9_above 19 = .ok (.iconst 1, 1) := by decide +kernel
theorem dX9_above_20 : decode cX9_above 20 = .ok (.goto 23, 3) := by decide +kernel
theorem dX9_above_23 : decode cX9_above 23 = .ok (.iload_n 0, 1) := by decide +kernel
theorem dX9_above_24 : decode cX9_above 24 = .ok (.iconst 4, 1) := by decide +kernel
theorem dX9_above_25 : decode cX9_above 25 = .ok (.if_icmp .ne 7, 3) := by decide +kernel
theorem dX9_above_28 : decode cX9_above 28 = .ok (.iconst 2, 1) := by decide +kernel
theorem dX9_above_29 : decode cX9_above 29 = .ok (.goto 14, 3) := by decide +kernel
theorem dX9_above_32 : decode cX9_above 32 = .ok (.iload_n 0, 1) := by decide +kernel
theorem dX9_above_33 : decode cX9_above 33 = .ok (.bipush 7, 2) := by decide +kernel
theorem dX9_above_35 : decode cX9_above 35 = .ok (.if_icmp .ne 7, 3) := by decide +kernel
theorem dX9_above_38 : decode cX9_above 38 = .ok (.iconst 4, 1) := by decide +kernel
theorem dX9_above_39 : decode cX9_above 39 = .ok (.goto 4, 3) := by decide +kernel
theorem dX9_above_42 : decode cX9_above 42 = .ok (.iconst 0, 1) := by decide +kernel
theorem dX9_above_43 : decode cX9_above 43 = .ok (.ireturn, 1) := by decide +kernel
theorem dX9_as_0 : decode cX9_as 0 = .ok (.iload_n 1, 1) := by decide +kernel
theorem dX9_as_1 : decode cX9_as 1 = .ok (.i2l, 1) := by decide +kernel
theorem dX9_as_2 : decode cX9_as 2 = .ok (.lconst 0, 1) := by decide +kernel
theorem dX9_as_3 : decode cX9_as 3 = .ok (.ldc2_w 58, 3) := by decide +kernel
theorem dX9_as_6 : decode cX9_as 6 = .ok (.invokestatic 48, 3) := by decide +kernel
theorem dX9_as_9 : decode cX9_as 9 = .ok (.ifCond .eq 15, 3) := by decide +kernel
theorem dX9_as_12 : decode cX9_as 12 = .ok (.iload_n 2, 1) := by decide +kernel
theorem dX9_as_13 : decode cX9_as 13 = .ok (.i2l, 1) := by decide +kernel
theorem dX9_as_14 : decode cX9_as 14 = .ok (.lconst 0, 1) := by decide +kernel
theorem dX9_as_15 : decode cX9_as 15 = .ok (.ldc2_w 60, 3) := by decide +kernel
theorem dX9_as_18 : decode cX9_as 18 = .ok (.invokestatic 48, 3) := by decide +kernel
theorem dX9_as_21 : decode cX9_as 21 = .ok (.ifCond .ne 10, 3) := by decide +kernel
theorem dX9_as_24 : decode cX9_as 24 = .ok (.aload_n 0, 1) := by decide +kernel
theorem dX9_as_25 : decode cX9_as 25 = .ok (.ldc 47, 2) := by decide +kernel
theorem dX9_as_27 : decode cX9_as 27 = .ok (.invokevirtual 64, 3) := by decide +kernel
theorem dX9_as_30 : decode cX9_as 30 = .ok (.ireturn, 1) := by decide +kernel
theorem dX9_as_31 : decode cX9_as 31 = .ok (.aload_n 0, 1) := by decide +kernel
theorem dX9_as_32 : decode cX9_as 32 = .ok (.getfield 9, 3) := by decide +kernel
theorem dX9_as_35 : decode cX9_as 35 = .ok (.sipush 1204, 3) := by decide +kernel
theorem dX9_as_38 : decode cX9_as 38 = .ok (.iload_n 1, 1) := by decide +kernel
theorem dX9_as_39 : decode cX9_as 39 = .ok (.iadd, 1) := by decide +kernel
theorem dX9_as_40 : decode cX9_as 40 = .ok (.iaload, 1) := by decide +kernel
theorem dX9_as_41 : decode cX9_as 41 = .ok (.istore_n 3, 1) := by decide +kernel
theorem dX9_as_42 : decode cX9_as 42 = .ok (.iload_n 3, 1) := by decide +kernel
theorem dX9_as_43 : decode cX9_as 43 = .ok (.ifCond .ge 11, 3) := by decide +kernel
theorem dX9_as_46 : decode cX9_as 46 = .ok (.aload_n 0, 1) := by decide +kernel
theorem dX9_as_47 : decode cX9_as 47 = .ok (.ldc_w 272, 3) := by decide +kernel
theorem dX9_as_50 : decode cX9_as 50 = .ok (.invokevirtual 64, 3) := by decide +kernel
theorem dX9_as_53 : decode cX9_as 53 = .ok (.ireturn, 1) := by decide +kernel
theorem dX9_as_54 : decode cX9_as 54 = .ok (.aload_n 0, 1) := by decide +kernel
theorem dX9_as_55 : decode cX9_as 55 = .ok (.iload_n 3, 1) := by decide +kernel
theorem dX9_as_56 : decode cX9_as 56 = .ok (.iconst 0, 1) := by decide +kernel
theorem dX9_as_57 : decode cX9_as 57 = .ok (.invokevirtual 69, 3) := by decide +kernel
theorem dX9_as_60 : decode cX9_as 60 = .ok (.istore 4, 2) := by decide +kernel
theorem dX9_as_62 : decode cX9_as 62 = .ok (.iload 4, 2) := by decide +kernel
theorem dX9_as_64 : decode cX9_as 64 = .ok (.ifCond .lt 21, 3) := by decide +kernel
theorem dX9_as_67 : decode cX9_as 67 = .ok (.iload 4, 2) := by decide +kernel
theorem dX9_as_69 : decode cX9_as 69 = .ok (.iload_n 2, 1) := by decide +kernel
theorem dX9_as_70 : decode cX9_as 70 = .ok (.if_icmp .ne 5, 3) := by decide +kernel
theorem dX9_as_73 : decode cX9_as 73 = .ok (.iload_n 3, 1) := by decide +kernel
theorem dX9_as_74 : decode cX9_as 74 = .ok (.ireturn, 1) := by decide +kernel
theorem dX9_as_75 : decode cX9_as 75 = .ok (.iload 4, 2) := by decide +kernel
theorem dX9_as_77 : decode cX9_as 77 = .ok (.invokestatic 273, 3) := by decide +kernel
theorem dX9_as_80 : decode cX9_as 80 = .ok (.istore 4, 2) := by decide +kernel
theorem dX9_as_82 : decode cX9_as 82 = .ok (.goto (-20), 3) := by decide +kernel
theorem dX9_as_85 : decode cX9_as 85 = .ok (.aload_n 0, 1) := by decide +kernel
theorem dX9_as_86 : decode cX9_as 86 = .ok (.ldc_w 276, 3) := by decide +kernel
theorem dX9_as_89 : decode cX9_as 89 = .ok (.invokevirtual 64, 3) := by decide +kernel
theorem dX9_as_92 : decode cX9_as 92 = .ok (.ireturn, 1) := by decide +kernel
theorem dX9_isSheet_0 : decode cX9_isSheet 0 = .ok (.iload_n 0, 1) := by decide +kernel
theorem dX9_isSheet_1 : decode cX9_isSheet 1 = .ok (.i2l, 1) := by decide +kernel
theorem dX9_isSheet_2 : decode cX9_isSheet 2 = .ok (.lconst 0, 1) := by decide +kernel
theorem dX9_isSheet_3 : decode cX9_isSheet 3 = .ok (.ldc2_w 136, 3) := by decide +kernel
theorem dX9_isSheet_6 : decode cX9_isSheet 6 = .ok (.invokestatic 48, 3) := by decide +kernel
theorem dX9_isSheet_9 : decode cX9_isSheet 9 = .ok (.ireturn, 1) := by decide +kernel
theorem dX9_sheet_0 : decode cX9_sheet 0 = .ok (.iload_n 1, 1) := by decide +kernel
theorem dX9_sheet_1 : decode cX9_sheet 1 = .ok (.invokestatic 277, 3) := by decide +kernel
theorem dX9_sheet_4 : decode cX9_sheet 4 = .ok (.ifCond .eq 25, 3) := by decide +kernel
theorem dX9_sheet_7 : decode cX9_sheet 7 = .ok (.iload_n 2, 1) := by decide +kernel
theorem dX9_sheet_8 : decode cX9_sheet 8 = .ok (.ifCond .eq 28, 3) := by decide +kernel
theorem dX9_sheet_11 : decode cX9_sheet 11 = .ok (.iload_n 2, 1) := by decide +kernel
theorem dX9_sheet_12 : decode cX9_sheet 12 = .ok (.bipush 8, 2) := by decide +kernel
theorem dX9_sheet_14 : decode cX9_sheet 14 = .ok (.if_icmp .eq 22, 3) := by decide +kernel
theorem dX9_sheet_17 : decode cX9_sheet 17 = .ok (.iload_n 2, 1) := by decide +kernel
theorem dX9_sheet_18 : decode cX9_sheet 18 = .ok (.bipush 16, 2) := by decide +kernel
theorem dX9_sheet_20 : decode cX9_sheet 20 = .ok (.if_icmp .eq 16, 3) := by decide +kernel
theorem dX9_sheet_23 : decode cX9_sheet 23 = .ok (.iload_n 2, 1) := by decide +kernel
theorem dX9_sheet_24 : decode cX9_sheet 24 = .ok (.bipush 32, 2) := by decide +kernel
theorem dX9_sheet_26 : decode cX9_sheet 26 = .ok (.if_icmp .eq 10, 3) := by decide +kernel
theorem dX9_sheet_29 : decode cX9_sheet 29 = .ok (.aload_n 0, 1) := by decide +kernel
theorem dX9_sheet_30 : decode cX9_sheet 30 = .ok (.ldc 47, 2) := by decide +kernel
theorem dX9_sheet_32 : decode cX9_sheet 32 = .ok (.invokevirtual 64, 3) := by decide +kernel
theorem dX9_sheet_35 : decode cX9_sheet 35 = .ok (.ireturn, 1) := by decide +kernel
theorem dX9_sheet_36 : decode cX9_sheet 36 = .ok (.iload_n 3, 1) := by decide +kernel
theorem dX9_sheet_37 : decode cX9_sheet 37 = .ok (.ifCond .ge 11, 3) := by decide +kernel
theorem dX9_sheet_40 : decode cX9_sheet 40 = .ok (.aload_n 0, 1) := by decide +kernel
theorem dX9_sheet_41 : decode cX9_sheet 41 = .ok (.ldc_w 280, 3) := by decide +kernel
theorem dX9_sheet_44 : decode cX9_sheet 44 = .ok (.invokevirtual 64, 3) := by decide +kernel
theorem dX9_sheet_47 : decode cX9_sheet 47 = .ok (.ireturn, 1) := by decide +kernel
theorem dX9_sheet_48 : decode cX9_sheet 48 = .ok (.iload_n 3, 1) := by decide +kernel
theorem dX9_sheet_49 : decode cX9_sheet 49 = .ok (.bipush 40, 2) := by decide +kernel
theorem dX9_sheet_51 : decode cX9_sheet 51 = .ok (.if_icmp .le 10, 3) := by decide +kernel
theorem dX9_sheet_54 : decode cX9_sheet 54 = .ok (.aload_n 0, 1) := by decide +kernel
theorem dX9_sheet_55 : decode cX9_sheet 55 = .ok (.ldc 47, 2) := by decide +kernel
theorem dX9_sheet_57 : decode cX9_sheet 57 = .ok (.invokevirtual 64, 3) := by decide +kernel
theorem dX9_sheet_60 : decode cX9_sheet 60 = .ok (.ireturn, 1) := by decide +kernel
theorem dX9_sheet_61 : decode cX9_sheet 61 = .ok (.aload_n 0, 1) := by decide +kernel
theorem dX9_sheet_62 : decode cX9_sheet 62 = .ok (.getfield 38, 3) := by decide +kernel
theorem dX9_sheet_65 : decode cX9_sheet 65 = .ok (.iload_n 1, 1) := by decide +kernel
theorem dX9_sheet_66 : decode cX9_sheet 66 = .ok (.iload_n 2, 1) := by decide +kernel
theorem dX9_sheet_67 : decode cX9_sheet 67 = .ok (.iastore, 1) := by decide +kernel
theorem dX9_sheet_68 : decode cX9_sheet 68 = .ok (.aload_n 0, 1) := by decide +kernel
theorem dX9_sheet_69 : decode cX9_sheet 69 = .ok (.getfield 41, 3) := by decide +kernel
theorem dX9_sheet_72 : decode cX9_sheet 72 = .ok (.iload_n 1, 1) := by decide +kernel
theorem dX9_sheet_73 : decode cX9_sheet 73 = .ok (.iload_n 2, 1) := by decide +kernel
theorem dX9_sheet_74 : decode cX9_sheet 74 = .ok (.ifCond .ne 7, 3) := by decide +kernel
theorem dX9_sheet_77 : decode cX9_sheet 77 = .ok (.iconst 0, 1) := by decide +kernel
theorem dX9_sheet_78 : decode cX9_sheet 78 = .ok (.goto 4, 3) := by decide +kernel
theorem dX9_sheet_81 : decode cX9_sheet 81 = .ok (.iload_n 3, 1) := by decide +kernel
theorem dX9_sheet_82 : decode cX9_sheet 82 = .ok (.iastore, 1) := by decide +kernel
theorem dX9_sheet_83 : decode cX9_sheet 83 = .ok (.iconst 0, 1) := by decide +kernel
theorem dX9_sheet_84 : decode cX9_sheet 84 = .ok (.istore 4, 2) := by decide +kernel
theorem dX9_sheet_86 : decode cX9_sheet 86 = .ok (.iload 4, 2) := by decide +kernel
theorem dX9_sheet_88 : decode cX9_sheet 88 = .ok (.bipush 40, 2) := by decide +kernel
theorem dX9_sheet_90 : decode cX9_sheet 90 = .ok (.if_icmp .ge 22, 3) := by decide +kernel
theorem dX9_sheet_93 : decode cX9_sheet 93 = .ok (.aload_n 0, 1) := by decide +kernel
theorem dX9_sheet_94 : decode cX9_sheet 94 = .ok (.getfield 44, 3) := by decide +kernel
theorem dX9_sheet_97 : decode cX9_sheet 97 = .ok (.bipush 40, 2) := by decide +kernel
theorem dX9_sheet_99 : decode cX9_sheet 99 = .ok (.iload_n 1, 1) := by decide +kernel
theorem dX9_sheet_100 : decode cX9_sheet 100 = .ok (.imul, 1) := by decide +kernel
theorem dX9_sheet_101 : decode cX9_sheet 101 = .ok (.iload 4, 2) := by decide +kernel
theorem dX9_sheet_103 : decode cX9_sheet 103 = .ok (.iadd, 1) := by decide +kernel
theorem dX9_sheet_104 : decode cX9_sheet 104 = .ok (.iconst 0, 1) := by decide +kernel
theorem dX9_sheet_105 : decode cX9_sheet 105 = .ok (.iastore, 1) := by decide +kernel
theorem dX9_sheet_106 : decode cX9_sheet 106 = .ok (.iinc 4 1, 3) := by decide +kernel
theorem dX9_sheet_109 : decode cX9_sheet 109 = .ok (.goto (-23), 3) := by decide +kernel
theorem dX9_sheet_112 : decode cX9_sheet 112 = .ok (.aload_n 0, 1) := by decide +kernel
theorem dX9_sheet_113 : decode cX9_sheet 113 = .ok (.getfield 41, 3) := by decide +kernel
theorem dX9_sheet_116 : decode cX9_sheet 116 = .ok (.iload_n 1, 1) := by decide +kernel
theorem dX9_sheet_117 : decode cX9_sheet 117 = .ok (.iaload, 1) := by decide +kernel
theorem dX9_sheet_118 : decode cX9_sheet 118 = .ok (.ireturn, 1) := by decide +kernel
theorem dX9_write_0 : decode cX9_write 0 = .ok (.iload_n 1, 1) := by decide +kernel
theorem dX9_write_1 : decode cX9_write 1 = .ok (.invokestatic 277, 3) := by decide +kernel
theorem dX9_write_4 : decode cX9_write 4 = .ok (.ifCond .ne 10, 3) := by decide +kernel
theorem dX9_write_7 : decode cX9_write 7 = .ok (.aload_n 0, 1) := by decide +kernel
theorem dX9_write_8 : decode cX9_write 8 = .ok (.ldc 47, 2) := by decide +kernel
theorem dX9_write_10 : decode cX9_write 10 = .ok (.invokevirtual 64, 3) := by decide +kernel
theorem dX9_write_13 : decode cX9_write 13 = .ok (.ireturn, 1) := by decide +kernel
theorem dX9_write_14 : decode cX9_write 14 = .ok (.aload_n 0, 1) := by decide +kernel
theorem dX9_write_15 : decode cX9_write 15 = .ok (.getfield 38, 3) := by decide +kernel
theorem dX9_write_18 : decode cX9_write 18 = .ok (.iload_n 1, 1) := by decide +kernel
theorem dX9_write_19 : decode cX9_write 19 = .ok (.iaload, 1) := by decide +kernel
theorem dX9_write_20 : decode cX9_write 20 = .ok (.ifCond .ne 11, 3) := by decide +kernel
theorem dX9_write_23 : decode cX9_write 23 = .ok (.aload_n 0, 1) := by decide +kernel
theorem dX9_write_24 : decode cX9_write 24 = .ok (.ldc_w 272, 3) := by decide +kernel
theorem dX9_write_27 : decode cX9_write 27 = .ok (.invokevirtual 64, 3) := by decide +kernel
theorem dX9_write_30 : decode cX9_write 30 = .ok (.ireturn, 1) := by decide +kernel
theorem dX9_write_31 : decode cX9_write 31 = .ok (.iload_n 2, 1) := by decide +kernel
theorem dX9_write_32 : decode cX9_write 32 = .ok (.i2l, 1) := by decide +kernel
theorem dX9_write_33 : decode cX9_write 33 = .ok (.lconst 0, 1) := by decide +kernel
theorem dX9_write_34 : decode cX9_write 34 = .ok (.aload_n 0, 1) := by decide +kernel
theorem dX9_write_35 : decode cX9_write 35 = .ok (.getfield 41, 3) := by decide +kernel
theorem dX9_write_38 : decode cX9_write 38 = .ok (.iload_n 1, 1) := by decide +kernel
theorem dX9_write_39 : decode cX9_write 39 = .ok (.iaload, 1) := by decide +kernel
theorem dX9_write_40 : decode cX9_write 40 = .ok (.iconst 1, 1) := by decide +kernel
theorem dX9_write_41 : decode cX9_write 41 = .ok (.isub, 1) := by decide +kernel
theorem dX9_write_42 : decode cX9_write 42 = .ok (.i2l, 1) := by decide +kernel
theorem dX9_write_43 : decode cX9_write 43 = .ok (.invokestatic 48, 3) := by decide +kernel
theorem dX9_write_46 : decode cX9_write 46 = .ok (.ifCond .ne 10, 3) := by decide +kernel
theorem dX9_write_49 : decode cX9_write 49 = .ok (.aload_n 0, 1) := by decide +kernel
theorem dX9_write_50 : decode cX9_write 50 = .ok (.ldc 47, 2) := by decide +kernel
theorem dX9_write_52 : decode cX9_write 52 = .ok (.invokevirtual 64, 3) := by decide +kernel
theorem dX9_write_55 : decode cX9_write 55 = .ok (.ireturn, 1) := by decide +kernel
theorem dX9_write_56 : decode cX9_write 56 = .ok (.aload_n 0, 1) := by decide +kernel
theorem dX9_write_57 : decode cX9_write 57 = .ok (.getfield 44, 3) := by decide +kernel
theorem dX9_write_60 : decode cX9_write 60 = .ok (.bipush 40, 2) := by decide +kernel
theorem dX9_write_62 : decode cX9_write 62 = .ok (.iload_n 1, 1) := by decide +kernel
theorem dX9_write_63 : decode cX9_write 63 = .ok (.imul, 1) := by decide +kernel
theorem dX9_write_64 : decode cX9_write 64 = .ok (.iload_n 2, 1) := by decide +kernel
theorem dX9_write_65 : decode cX9_write 65 = .ok (.iadd, 1) := by decide +kernel
theorem dX9_write_66 : decode cX9_write 66 = .ok (.aload_n 0, 1) := by decide +kernel
theorem dX9_write_67 : decode cX9_write 67 = .ok (.getfield 38, 3) := by decide +kernel
theorem dX9_write_70 : decode cX9_write 70 = .ok (.iload_n 1, 1) := by decide +kernel
theorem dX9_write_71 : decode cX9_write 71 = .ok (.iaload, 1) := by decide +kernel
theorem dX9_write_72 : decode cX9_write 72 = .ok (.bipush 8, 2) := by decide +kernel
theorem dX9_write_74 : decode cX9_write 74 = .ok (.if_icmp .ne 8, 3) := by decide +kernel
theorem dX9_write_77 : decode cX9_write 77 = .ok (.iload_n 3, 1) := by decide +kernel
theorem dX9_write_78 : decode cX9_write 78 = .ok (.i2b, 1) := by decide +kernel
theorem dX9_write_79 : decode cX9_write 79 = .ok (.goto 20, 3) := by decide +kernel
theorem dX9_write_82 : decode cX9_write 82 = .ok (.aload_n 0, 1) := by decide +kernel
theorem dX9_write_83 : decode cX9_write 83 = .ok (.getfield 38, 3) := by decide +kernel
theorem dX9_write_86 : decode cX9_write 86 = .ok (.iload_n 1, 1) := by decide +kernel
theorem dX9_write_87 : decode cX9_write 87 = .ok (.iaload, 1) := by decide +kernel
theorem dX9_write_88 : decode cX9_write 88 = .ok (.bipush 16, 2) := by decide +kernel
theorem dX9_write_90 : decode cX9_write 90 = .ok (.if_icmp .ne 8, 3) := by decide +kernel
theorem dX9_write_93 : decode cX9_write 93 = .ok (.iload_n 3, 1) := by decide +kernel
theorem dX9_write_94 : decode cX9_write 94 = .ok (.i2s, 1) := by decide +kernel
theorem dX9_write_95 : decode cX9_write 95 = .ok (.goto 4, 3) := by decide +kernel
theorem dX9_write_98 : decode cX9_write 98 = .ok (.iload_n 3, 1) := by decide +kernel
theorem dX9_write_99 : decode cX9_write 99 = .ok (.iastore, 1) := by decide +kernel
theorem dX9_write_100 : decode cX9_write 100 = .ok (.iconst 1, 1) := by decide +kernel
theorem dX9_write_101 : decode cX9_write 101 = .ok (.ireturn, 1) := by decide +kernel
theorem dX9_copy_0 : decode cX9_copy 0 = .ok (.iload_n 1, 1) := by decide +kernel
theorem dX9_copy_1 : decode cX9_copy 1 = .ok (.invokestatic 277, 3) := by decide +kernel
theorem dX9_copy_4 : decode cX9_copy 4 = .ok (.ifCond .eq 10, 3) := by decide +kernel
theorem dX9_copy_7 : decode cX9_copy 7 = .ok (.iload_n 3, 1) := by decide +kernel
theorem dX9_copy_8 : decode cX9_copy 8 = .ok (.invokestatic 277, 3) := by decide +kernel
theorem dX9_copy_11 : decode cX9_copy 11 = .ok (.ifCond .ne 10, 3) := by decide +kernel
theorem dX9_copy_14 : decode cX9_copy 14 = .ok (.aload_n 0, 1) := by decide +kernel
theorem dX9_copy_15 : decode cX9_copy 15 = .ok (.ldc 47, 2) := by decide +kernel
theorem dX9_copy_17 : decode cX9_copy 17 = .ok (.invokevirtual 64, 3) := by decide +kernel
theorem dX9_copy_20 : decode cX9_copy 20 = .ok (.ireturn, 1) := by decide +kernel
theorem dX9_copy_21 : decode cX9_copy 21 = .ok (.aload_n 0, 1) := by decide +kernel
theorem dX9_copy_22 : decode cX9_copy 22 = .ok (.getfield 38, 3) := by decide +kernel
theorem dX9_copy_25 : decode cX9_copy 25 = .ok (.iload_n 1, 1) := by decide +kernel
theorem dX9_copy_26 : decode cX9_copy 26 = .ok (.iaload, 1) := by decide +kernel
theorem dX9_copy_27 : decode cX9_copy 27 = .ok (.ifCond .eq 12, 3) := by decide +kernel
theorem dX9_copy_30 : decode cX9_copy 30 = .ok (.aload_n 0, 1) := by decide +kernel
theorem dX9_copy_31 : decode cX9_copy 31 = .ok (.getfield 38, 3) := by decide +kernel
theorem dX9_copy_34 : decode cX9_copy 34 = .ok (.iload_n 3, 1) := by decide +kernel
theorem dX9_copy_35 : decode cX9_copy 35 = .ok (.iaload, 1) := by decide +kernel
theorem dX9_copy_36 : decode cX9_copy 36 = .ok (.ifCond .ne 11, 3) := by decide +kernel
theorem dX9_copy_39 : decode cX9_copy 39 = .ok (.aload_n 0, 1) := by decide +kernel
theorem dX9_copy_40 : decode cX9_copy 40 = .ok (.ldc_w 272, 3) := by decide +kernel
theorem dX9_copy_43 : decode cX9_copy 43 = .ok (.invokevirtual 64, 3) := by decide +kernel
theorem dX9_copy_46 : decode cX9_copy 46 = .ok (.ireturn, 1) := by decide +kernel
theorem dX9_copy_47 : decode cX9_copy 47 = .ok (.aload_n 0, 1) := by decide +kernel
theorem dX9_copy_48 : decode cX9_copy 48 = .ok (.getfield 38, 3) := by decide +kernel
theorem dX9_copy_51 : decode cX9_copy 51 = .ok (.iload_n 1, 1) := by decide +kernel
theorem dX9_copy_52 : decode cX9_copy 52 = .ok (.iaload, 1) := by decide +kernel
theorem dX9_copy_53 : decode cX9_copy 53 = .ok (.aload_n 0, 1) := by decide +kernel
theorem dX9_copy_54 : decode cX9_copy 54 = .ok (.getfield 38, 3) := by decide +kernel
theorem dX9_copy_57 : decode cX9_copy 57 = .ok (.iload_n 3, 1) := by decide +kernel
theorem dX9_copy_58 : decode cX9_copy 58 = .ok (.iaload, 1) := by decide +kernel
theorem dX9_copy_59 : decode cX9_copy 59 = .ok (.if_icmp .eq 11, 3) := by decide +kernel
theorem dX9_copy_62 : decode cX9_copy 62 = .ok (.aload_n 0, 1) := by decide +kernel
theorem dX9_copy_63 : decode cX9_copy 63 = .ok (.ldc_w 276, 3) := by decide +kernel
theorem dX9_copy_66 : decode cX9_copy 66 = .ok (.invokevirtual 64, 3) := by decide +kernel
theorem dX9_copy_69 : decode cX9_copy 69 = .ok (.ireturn, 1) := by decide +kernel
theorem dX9_copy_70 : decode cX9_copy 70 = .ok (.iload 5, 2) := by decide +kernel
theorem dX9_copy_72 : decode cX9_copy 72 = .ok (.ifCond .lt 39, 3) := by decide +kernel
theorem dX9_copy_75 : decode cX9_copy 75 = .ok (.iload_n 2, 1) := by decide +kernel
theorem dX9_copy_76 : decode cX9_copy 76 = .ok (.ifCond .lt 35, 3) := by decide +kernel
theorem dX9_copy_79 : decode cX9_copy 79 = .ok (.iload 4, 2) := by decide +kernel
theorem dX9_copy_81 : decode cX9_copy 81 = .ok (.ifCond .lt 30, 3) := by decide +kernel
theorem dX9_copy_84 : decode cX9_copy 84 = .ok (.iload 5, 2) := by decide +kernel
theorem dX9_copy_86 : decode cX9_copy 86 = .ok (.aload_n 0, 1) := by decide +kernel
theorem dX9_copy_87 : decode cX9_copy 87 = .ok (.getfield 41, 3) := by decide +kernel
theorem dX9_copy_90 : decode cX9_copy 90 = .ok (.iload_n 1, 1) := by decide +kernel
theorem dX9_copy_91 : decode cX9_copy 91 = .ok (.iaload, 1) := by decide +kernel
theorem dX9_copy_92 : decode cX9_copy 92 = .ok (.iload_n 2, 1) := by decide +kernel
theorem dX9_copy_93 : decode cX9_copy 93 = .ok (.isub, 1) := by decide +kernel
theorem dX9_copy_94 : decode cX9_copy 94 = .ok (.if_icmp .gt 17, 3) := by decide +kernel
theorem dX9_copy_97 : decode cX9_copy 97 = .ok (.iload 5, 2) := by decide +kernel
theorem dX9_copy_99 : decode cX9_copy 99 = .ok (.aload_n 0, 1) := by decide +kernel
theorem dX9_copy_100 : decode cX9_copy 100 = .ok (.getfield 41, 3) := by decide +kernel
theorem dX9_copy_103 : decode cX9_copy 103 = .ok (.iload_n 3, 1) := by decide +kernel
theorem dX9_copy_104 : decode cX9_copy 104 = .ok (.iaload, 1) := by decide +kernel
theorem dX9_copy_105 : decode cX9_copy 105 = .ok (.iload 4, 2) := by decide +kernel
theorem dX9_copy_107 : decode cX9_copy 107 = .ok (.isub, 1) := by decide +kernel
theorem dX9_copy_108 : decode cX9_copy 108 = .ok (.if_icmp .le 10, 3) := by decide +kernel
theorem dX9_copy_111 : decode cX9_copy 111 = .ok (.aload_n 0, 1) := by decide +kernel
theorem dX9_copy_112 : decode cX9_copy 112 = .ok (.ldc 47, 2) := by decide +kernel
theorem dX9_copy_114 : decode cX9_copy 114 = .ok (.invokevirtual 64, 3) := by decide +kernel
theorem dX9_copy_117 : decode cX9_copy 117 = .ok (.ireturn, 1) := by decide +kernel
theorem dX9_copy_118 : decode cX9_copy 118 = .ok (.iload_n 1, 1) := by decide +kernel
theorem dX9_copy_119 : decode cX9_copy 119 = .ok (.iload_n 3, 1) := by decide +kernel
theorem dX9_copy_120 : decode cX9_copy 120 = .ok (.if_icmp .ne 13, 3) := by decide +kernel
theorem dX9_copy_123 : decode cX9_copy 123 = .ok (.iload_n 2, 1) := by decide +kernel
theorem dX9_copy_124 : decode cX9_copy 124 = .ok (.iload 4, 2) := by decide +kernel
theorem dX9_copy_126 : decode cX9_copy 126 = .ok (.if_icmp .ge 7, 3) := by decide +kernel
theorem dX9_copy_129 : decode cX9_copy 129 = .ok (.iconst 1, 1) := by decide +kernel
theorem dX9_copy_130 : decode cX9_copy 130 = .ok (.goto 4, 3) := by decide +kernel
theorem dX9_copy_133 : decode cX9_copy 133 = .ok (.iconst 0, 1) := by decide +kernel
theorem dX9_copy_134 : decode cX9_copy 134 = .ok (.istore 6, 2) := by decide +kernel
theorem dX9_copy_136 : decode cX9_copy 136 = .ok (.iconst 0, 1) := by decide +kernel
theorem dX9_copy_137 : decode cX9_copy 137 = .ok (.istore 7, 2) := by decide +kernel
theorem dX9_copy_139 : decode cX9_copy 139 = .ok (.iload 7, 2) := by decide +kernel
theorem dX9_copy_141 : decode cX9_copy 141 = .ok (.iload 5, 2) := by decide +kernel
theorem dX9_copy_143 : decode cX9_copy 143 = .ok (.if_icmp .ge 57, 3) := by decide +kernel
theorem dX9_copy_146 : decode cX9_copy 146 = .ok (.iload 6, 2) := by decide +kernel
theorem dX9_copy_148 : decode cX9_copy 148 = .ok (.ifCond .eq 13, 3) := by decide +kernel
theorem dX9_copy_151 : decode cX9_copy 151 = .ok (.iload 5, 2) := by decide +kernel
theorem dX9_copy_153 : decode cX9_copy 153 = .ok (.iconst 1, 1) := by decide +kernel
theorem dX9_copy_154 : decode cX9_copy 154 = .ok (.isub, 1) := by decide +kernel
theorem dX9_copy_155 : decode cX9_copy 155 = .ok (.iload 7, 2) := by decide +kernel
theorem dX9_copy_157 : decode cX9_copy 157 = .ok (.isub, 1) := by decide +kernel
theorem dX9_copy_158 : decode cX9_copy 158 = .ok (.goto 5, 3) := by decide +kernel
theorem dX9_copy_161 : decode cX9_copy 161 = .ok (.iload 7, 2) := by decide +kernel
theorem dX9_copy_163 : decode cX9_copy 163 = .ok (.istore 8, 2) := by decide +kernel
theorem dX9_copy_165 : decode cX9_copy 165 = .ok (.aload_n 0, 1) := by decide +kernel
theorem dX9_copy_166 : decode cX9_copy 166 = .ok (.getfield 44, 3) := by decide +kernel
theorem dX9_copy_169 : decode cX9_copy 169 = .ok (.bipush 40, 2) := by decide +kernel
theorem dX9_copy_171 : decode cX9_copy 171 = .ok (.iload_n 3, 1) := by decide +kernel
theorem dX9_copy_172 : decode cX9_copy 172 = .ok (.imul, 1) := by decide +kernel
theorem dX9_copy_173 : decode cX9_copy 173 = .ok (.iload 4, 2) := by decide +kernel
theorem dX9_copy_175 : decode cX9_copy 175 = .ok (.iadd, 1) := by decide +kernel
theorem dX9_copy_176 : decode cX9_copy 176 = .ok (.iload 8, 2) := by decide +kernel
theorem dX9_copy_178 : decode cX9_copy 178 = .ok (.iadd, 1) := by decide +kernel
theorem dX9_copy_179 : decode cX9_copy 179 = .ok (.aload_n 0, 1) := by decide +kernel
theorem dX9_copy_180 : decode cX9_copy 180 = .ok (.getfield 44, 3) := by decide +kernel
theorem dX9_copy_183 : decode cX9_copy 183 = .ok (.bipush 40, 2) := by decide +kernel
theorem dX9_copy_185 : decode cX9_copy 185 = .ok (.iload_n 1, 1) := by decide +kernel
theorem dX9_copy_186 : decode cX9_copy 186 = .ok (.imul, 1) := by decide +kernel
theorem dX9_copy_187 : decode cX9_copy 187 = .ok (.iload_n 2, 1) := by decide +kernel
theorem dX9_copy_188 : decode cX9_copy 188 = .ok (.iadd, 1) := by decide +kernel
theorem dX9_copy_189 : decode cX9_copy 189 = .ok (.iload 8, 2) := by decide +kernel
theorem dX9_copy_191 : decode cX9_copy 191 = .ok (.iadd, 1) := by decide +kernel
theorem dX9_copy_192 : decode cX9_copy 192 = .ok (.iaload, 1) := by decide +kernel
theorem dX9_copy_193 : decode cX9_copy 193 = .ok (.iastore, 1) := by decide +kernel
theorem dX9_copy_194 : decode cX9_copy 194 = .ok (.iinc 7 1, 3) := by decide +kernel
theorem dX9_copy_197 : decode cX9_copy 197 = .ok (.goto (-58), 3) := by decide +kernel
theorem dX9_copy_200 : decode cX9_copy 200 = .ok (.iload 5, 2) := by decide +kernel
theorem dX9_copy_202 : decode cX9_copy 202 = .ok (.ireturn, 1) := by decide +kernel
theorem dX9_load_0 : decode cX9_load 0 = .ok (.iload_n 1, 1) := by decide +kernel
theorem dX9_load_1 : decode cX9_load 1 = .ok (.invokestatic 277, 3) := by decide +kernel
theorem dX9_load_4 : decode cX9_load 4 = .ok (.ifCond .ne 10, 3) := by decide +kernel
theorem dX9_load_7 : decode cX9_load 7 = .ok (.aload_n 0, 1) := by decide +kernel
theorem dX9_load_8 : decode cX9_load 8 = .ok (.ldc 47, 2) := by decide +kernel
theorem dX9_load_10 : decode cX9_load 10 = .ok (.invokevirtual 64, 3) := by decide +kernel
theorem dX9_load_13 : decode cX9_load 13 = .ok (.ireturn, 1) := by decide +kernel
theorem dX9_load_14 : decode cX9_load 14 = .ok (.aload_n 0, 1) := by decide +kernel
theorem dX9_load_15 : decode cX9_load 15 = .ok (.getfield 38, 3) := by decide +kernel
theorem dX9_load_18 : decode cX9_load 18 = .ok (.iload_n 1, 1) := by decide +kernel
theorem dX9_load_19 : decode cX9_load 19 = .ok (.iaload, 1) := by decide +kernel
theorem dX9_load_20 : decode cX9_load 20 = .ok (.ifCond .ne 11, 3) := by decide +kernel
theorem dX9_load_23 : decode cX9_load 23 = .ok (.aload_n 0, 1) := by decide +kernel
theorem dX9_load_24 : decode cX9_load 24 = .ok (.ldc_w 272, 3) := by decide +kernel
theorem dX9_load_27 : decode cX9_load 27 = .ok (.invokevirtual 64, 3) := by decide +kernel
theorem dX9_load_30 : decode cX9_load 30 = .ok (.ireturn, 1) := by decide +kernel
theorem dX9_load_31 : decode cX9_load 31 = .ok (.iconst 0, 1) := by decide +kernel
theorem dX9_load_32 : decode cX9_load 32 = .ok (.istore_n 2, 1) := by decide +kernel
theorem dX9_load_33 : decode cX9_load 33 = .ok (.iconst 0, 1) := by decide +kernel
theorem dX9_load_34 : decode cX9_load 34 = .ok (.istore_n 3, 1) := by decide +kernel
theorem dX9_load_35 : decode cX9_load 35 = .ok (.iload_n 3, 1) := by decide +kernel
theorem dX9_load_36 : decode cX9_load 36 = .ok (.iconst 1, 1) := by decide +kernel
theorem dX9_load_37 : decode cX9_load 37 = .ok (.iadd, 1) := by decide +kernel
theorem dX9_load_38 : decode cX9_load 38 = .ok (.aload_n 0, 1) := by decide +kernel
theorem dX9_load_39 : decode cX9_load 39 = .ok (.getfield 41, 3) := by decide +kernel
theorem dX9_load_42 : decode cX9_load 42 = .ok (.iload_n 1, 1) := by decide +kernel
theorem dX9_load_43 : decode cX9_load 43 = .ok (.iaload, 1) := by decide +kernel
theorem dX9_load_44 : decode cX9_load 44 = .ok (.if_icmp .ge 70, 3) := by decide +kernel
theorem dX9_load_47 : decode cX9_load 47 = .ok (.aload_n 0, 1) := by decide +kernel
theorem dX9_load_48 : decode cX9_load 48 = .ok (.getfield 44, 3) := by decide +kernel
theorem dX9_load_51 : decode cX9_load 51 = .ok (.bipush 40, 2) := by decide +kernel
theorem dX9_load_53 : decode cX9_load 53 = .ok (.iload_n 1, 1) := by decide +kernel
theorem dX9_load_54 : decode cX9_load 54 = .ok (.imul, 1) := by decide +kernel
theorem dX9_load_55 : decode cX9_load 55 = .ok (.iload_n 3, 1) := by decide +kernel
theorem dX9_load_56 : decode cX9_load 56 = .ok (.iadd, 1) := by decide +kernel
theorem dX9_load_57 : decode cX9_load 57 = .ok (.iaload, 1) := by decide +kernel
theorem dX9_load_58 : decode cX9_load 58 = .ok (.istore 4, 2) := by decide +kernel
theorem dX9_load_60 : decode cX9_load 60 = .ok (.aload_n 0, 1) := by decide +kernel
theorem dX9_load_61 : decode cX9_load 61 = .ok (.getfield 44, 3) := by decide +kernel
theorem dX9_load_64 : decode cX9_load 64 = .ok (.bipush 40, 2) := by decide +kernel
theorem dX9_load_66 : decode cX9_load 66 = .ok (.iload_n 1, 1) := by decide +kernel
theorem dX9_load_67 : decode cX9_load 67 = .ok (.imul, 1) := by decide +kernel
theorem dX9_load_68 : decode cX9_load 68 = .ok (.iload_n 3, 1) := by decide +kernel
theorem dX9_load_69 : decode cX9_load 69 = .ok (.iadd, 1) := by decide +kernel
theorem dX9_load_70 : decode cX9_load 70 = .ok (.iconst 1, 1) := by decide +kernel
theorem dX9_load_71 : decode cX9_load 71 = .ok (.iadd, 1) := by decide +kernel
theorem dX9_load_72 : decode cX9_load 72 = .ok (.iaload, 1) := by decide +kernel
theorem dX9_load_73 : decode cX9_load 73 = .ok (.istore 5, 2) := by decide +kernel
theorem dX9_load_75 : decode cX9_load 75 = .ok (.aload_n 0, 1) := by decide +kernel
theorem dX9_load_76 : decode cX9_load 76 = .ok (.iload 4, 2) := by decide +kernel
theorem dX9_load_78 : decode cX9_load 78 = .ok (.invokevirtual 73, 3) := by decide +kernel
theorem dX9_load_81 : decode cX9_load 81 = .ok (.ifCond .eq 22, 3) := by decide +kernel
theorem dX9_load_84 : decode cX9_load 84 = .ok (.iload 5, 2) := by decide +kernel
theorem dX9_load_86 : decode cX9_load 86 = .ok (.invokestatic 84, 3) := by decide +kernel
theorem dX9_load_89 : decode cX9_load 89 = .ok (.ifCond .eq 14, 3) := by decide +kernel
theorem dX9_load_92 : decode cX9_load 92 = .ok (.aload_n 0, 1) := by decide +kernel
theorem dX9_load_93 : decode cX9_load 93 = .ok (.iload 4, 2) := by decide +kernel
theorem dX9_load_95 : decode cX9_load 95 = .ok (.iload 5, 2) := by decide +kernel
theorem dX9_load_97 : decode cX9_load 97 = .ok (.invokevirtual 130, 3) := by decide +kernel
theorem dX9_load_100 : decode cX9_load 100 = .ok (.ifCond .ne 5, 3) := by decide +kernel
theorem dX9_load_103 : decode cX9_load 103 = .ok (.iload_n 2, 1) := by decide +kernel
theorem dX9_load_104 : decode cX9_load 104 = .ok (.ireturn, 1) := by decide +kernel
theorem dX9_load_105 : decode cX9_load 105 = .ok (.iinc 2 1, 3) := by decide +kernel
theorem dX9_load_108 : decode cX9_load 108 = .ok (.iinc 3 2, 3) := by decide +kernel
theorem dX9_load_111 : decode cX9_load 111 = .ok (.goto (-76), 3) := by decide +kernel
theorem dX9_load_114 : decode cX9_load 114 = .ok (.iload_n 2, 1) := by decide +kernel
theorem dX9_load_115 : decode cX9_load 115 = .ok (.ireturn, 1) := by decide +kernel
theorem dX9_judge_0 : decode cX9_judge 0 = .ok (.iload_n 1, 1) := by decide +kernel
theorem dX9_judge_1 : decode cX9_judge 1 = .ok (.invokestatic 277, 3) := by decide +kernel
theorem dX9_judge_4 : decode cX9_judge 4 = .ok (.ifCond .ne 10, 3) := by decide +kernel
theorem dX9_judge_7 : decode cX9_judge 7 = .ok (.aload_n 0, 1) := by decide +kernel
theorem dX9_judge_8 : decode cX9_judge 8 = .ok (.ldc 47, 2) := by decide +kernel
theorem dX9_judge_10 : decode cX9_judge 10 = .ok (.invokevirtual 64, 3) := by decide +kernel
theorem dX9_judge_13 : decode cX9_judge 13 = .ok (.ireturn, 1) := by decide +kernel
theorem dX9_judge_14 : decode cX9_judge 14 = .ok (.aload_n 0, 1) := by decide +kernel
theorem dX9_judge_15 : decode cX9_judge 15 = .ok (.getfield 38, 3) := by decide +kernel
theorem dX9_judge_18 : decode cX9_judge 18 = .ok (.iload_n 1, 1) := by decide +kernel
theorem dX9_judge_19 : decode cX9_judge 19 = .ok (.iaload, 1) := by decide +kernel
theorem dX9_judge_20 : decode cX9_judge 20 = .ok (.ifCond .ne 11, 3) := by decide +kernel
theorem dX9_judge_23 : decode cX9_judge 23 = .ok (.aload_n 0, 1) := by decide +kernel
theorem dX9_judge_24 : decode cX9_judge 24 = .ok (.ldc_w 272, 3) := by decide +kernel
theorem dX9_judge_27 : decode cX9_judge 27 = .ok (.invokevirtual 64, 3) := by decide +kernel
theorem dX9_judge_30 : decode cX9_judge 30 = .ok (.ireturn, 1) := by decide +kernel
theorem dX9_judge_31 : decode cX9_judge 31 = .ok (.iconst 0, 1) := by decide +kernel
theorem dX9_judge_32 : decode cX9_judge 32 = .ok (.istore_n 2, 1) := by decide +kernel
theorem dX9_judge_33 : decode cX9_judge 33 = .ok (.iload_n 2, 1) := by decide +kernel
theorem dX9_judge_34 : decode cX9_judge 34 = .ok (.aload_n 0, 1) := by decide +kernel
theorem dX9_judge_35 : decode cX9_judge 35 = .ok (.getfield 41, 3) := by decide +kernel
theorem dX9_judge_38 : decode cX9_judge 38 = .ok (.iload_n 1, 1) := by decide +kernel
theorem dX9_judge_39 : decode cX9_judge 39 = .ok (.iaload, 1) := by decide +kernel
theorem dX9_judge_40 : decode cX9_judge 40 = .ok (.if_icmp .ge 39, 3) := by decide +kernel
theorem dX9_judge_43 : decode cX9_judge 43 = .ok (.iload_n 2, 1) := by decide +kernel
theorem dX9_judge_44 : decode cX9_judge 44 = .ok (.aload_n 0, 1) := by decide +kernel
theorem dX9_judge_45 : decode cX9_judge 45 = .ok (.getfield 9, 3) := by decide +kernel
theorem dX9_judge_48 : decode cX9_judge 48 = .ok (.iconst 2, 1) := by decide +kernel
theorem dX9_judge_49 : decode cX9_judge 49 = .ok (.iaload, 1) := by decide +kernel
theorem dX9_judge_50 : decode cX9_judge 50 = .ok (.if_icmp .ge 29, 3) := by decide +kernel
theorem dX9_judge_53 : decode cX9_judge 53 = .ok (.aload_n 0, 1) := by decide +kernel
theorem dX9_judge_54 : decode cX9_judge 54 = .ok (.getfield 44, 3) := by decide +kernel
theorem dX9_judge_57 : decode cX9_judge 57 = .ok (.bipush 40, 2) := by decide +kernel
theorem dX9_judge_59 : decode cX9_judge 59 = .ok (.iload_n 1, 1) := by decide +kernel
theorem dX9_judge_60 : decode cX9_judge 60 = .ok (.imul, 1) := by decide +kernel
theorem dX9_judge_61 : decode cX9_judge 61 = .ok (.iload_n 2, 1) := by decide +kernel
theorem dX9_judge_62 : decode cX9_judge 62 = .ok (.iadd, 1) := by decide +kernel
theorem dX9_judge_63 : decode cX9_judge 63 = .ok (.iaload, 1) := by decide +kernel
theorem dX9_judge_64 : decode cX9_judge 64 = .ok (.aload_n 0, 1) := by decide +kernel
theorem dX9_judge_65 : decode cX9_judge 65 = .ok (.iload_n 2, 1) := by decide +kernel
theorem dX9_judge_66 : decode cX9_judge 66 = .ok (.iconst 1, 1) := by decide +kernel
theorem dX9_judge_67 : decode cX9_judge 67 = .ok (.invokevirtual 101, 3) := by decide +kernel
theorem dX9_judge_70 : decode cX9_judge 70 = .ok (.if_icmp .ne 9, 3) := by decide +kernel
theorem dX9_judge_73 : decode cX9_judge 73 = .ok (.iinc 2 1, 3) := by decide +kernel
theorem dX9_judge_76 : decode cX9_judge 76 = .ok (.goto (-43), 3) := by decide +kernel
theorem dX9_judge_79 : decode cX9_judge 79 = .ok (.iload_n 2, 1) := by decide +kernel
theorem dX9_judge_80 : decode cX9_judge 80 = .ok (.aload_n 0, 1) := by decide +kernel
theorem dX9_judge_81 : decode cX9_judge 81 = .ok (.getfield 41, 3) := by decide +kernel
theorem dX9_judge_84 : decode cX9_judge 84 = .ok (.iload_n 1, 1) := by decide +kernel
theorem dX9_judge_85 : decode cX9_judge 85 = .ok (.iaload, 1) := by decide +kernel
theorem dX9_judge_86 : decode cX9_judge 86 = .ok (.if_icmp .ne 17, 3) := by decide +kernel
theorem dX9_judge_89 : decode cX9_judge 89 = .ok (.iload_n 2, 1) := by decide +kernel
theorem dX9_judge_90 : decode cX9_judge 90 = .ok (.aload_n 0, 1) := by decide +kernel
theorem dX9_judge_91 : decode cX9_judge 91 = .ok (.getfield 9, 3) := by decide +kernel
theorem dX9_judge_94 : decode cX9_judge 94 = .ok (.iconst 2, 1) := by decide +kernel
theorem dX9_judge_95 : decode cX9_judge 95 = .ok (.iaload, 1) := by decide +kernel
theorem dX9_judge_96 : decode cX9_judge 96 = .ok (.if_icmp .ne 7, 3) := by decide +kernel
theorem dX9_judge_99 : decode cX9_judge 99 = .ok (.iconst 0, 1) := by decide +kernel
theorem dX9_judge_100 : decode cX9_judge 100 = .ok (.goto 6, 3) := by decide +kernel
theorem dX9_judge_103 : decode cX9_judge 103 = .ok (.iconst 1, 1) := by decide +kernel
theorem dX9_judge_104 : decode cX9_judge 104 = .ok (.iload_n 2, 1) := by decide +kernel
theorem dX9_judge_105 : decode cX9_judge 105 = .ok (.iadd, 1) := by decide +kernel
theorem dX9_judge_106 : decode cX9_judge 106 = .ok (.ireturn, 1) := by decide +kernel
theorem dX9_image_0 : decode cX9_image 0 = .ok (.iconst 0, 1) := by decide +kernel
theorem dX9_image_1 : decode cX9_image 1 = .ok (.istore_n 1, 1) := by decide +kernel
theorem dX9_image_2 : decode cX9_image 2 = .ok (.iload_n 1, 1) := by decide +kernel
theorem dX9_image_3 : decode cX9_image 3 = .ok (.sipush 1214, 3) := by decide +kernel
theorem dX9_image_6 : decode cX9_image 6 = .ok (.if_icmp .ge 21, 3) := by decide +kernel
theorem dX9_image_9 : decode cX9_image 9 = .ok (.aload_n 0, 1) := by decide +kernel
theorem dX9_image_10 : decode cX9_image 10 = .ok (.getfield 13, 3) := by decide +kernel
theorem dX9_image_13 : decode cX9_image 13 = .ok (.iload_n 1, 1) := by decide +kernel
theorem dX9_image_14 : decode cX9_image 14 = .ok (.aload_n 0, 1) := by decide +kernel
theorem dX9_image_15 : decode cX9_image 15 = .ok (.getfield 9, 3) := by decide +kernel
theorem dX9_image_18 : decode cX9_image 18 = .ok (.iload_n 1, 1) := by decide +kernel
theorem dX9_image_19 : decode cX9_image 19 = .ok (.iaload, 1) := by decide +kernel
theorem dX9_image_20 : decode cX9_image 20 = .ok (.iastore, 1) := by decide +kernel
theorem dX9_image_21 : decode cX9_image 21 = .ok (.iinc 1 1, 3) := by decide +kernel
theorem dX9_image_24 : decode cX9_image 24 = .ok (.goto (-22), 3) := by decide +kernel
theorem dX9_image_27 : decode cX9_image 27 = .ok (.aload_n 0, 1) := by decide +kernel
theorem dX9_image_28 : decode cX9_image 28 = .ok (.iconst 1, 1) := by decide +kernel
theorem dX9_image_29 : decode cX9_image 29 = .ok (.putfield 281, 3) := by decide +kernel
theorem dX9_image_32 : decode cX9_image 32 = .ok (.iconst 1, 1) := by decide +kernel
theorem dX9_image_33 : decode cX9_image 33 = .ok (.ireturn, 1) := by decide +kernel
theorem dX9_undo_0 : decode cX9_undo 0 = .ok (.aload_n 0, 1) := by decide +kernel
theorem dX9_undo_1 : decode cX9_undo 1 = .ok (.getfield 281, 3) := by decide +kernel
theorem dX9_undo_4 : decode cX9_undo 4 = .ok (.ifCond .ne 10, 3) := by decide +kernel
theorem dX9_undo_7 : decode cX9_undo 7 = .ok (.aload_n 0, 1) := by decide +kernel
theorem dX9_undo_8 : decode cX9_undo 8 = .ok (.ldc 122, 2) := by decide +kernel
theorem dX9_undo_10 : decode cX9_undo 10 = .ok (.invokevirtual 64, 3) := by decide +kernel
theorem dX9_undo_13 : decode cX9_undo 13 = .ok (.ireturn, 1) := by decide +kernel
theorem dX9_undo_14 : decode cX9_undo 14 = .ok (.iconst 0, 1) := by decide +kernel
theorem dX9_undo_15 : decode cX9_undo 15 = .ok (.istore_n 1, 1) := by decide +kernel
theorem dX9_undo_16 : decode cX9_undo 16 = .ok (.iload_n 1, 1) := by decide +kernel
theorem dX9_undo_17 : decode cX9_undo 17 = .ok (.sipush 1214, 3) := by decide +kernel
theorem dX9_undo_20 : decode cX9_undo 20 = .ok (.if_icmp .ge 21, 3) := by decide +kernel
theorem dX9_undo_23 : decode cX9_undo 23 = .ok (.aload_n 0, 1) := by decide +kernel
theorem dX9_undo_24 : decode cX9_undo 24 = .ok (.getfield 9, 3) := by decide +kernel
theorem dX9_undo_27 : decode cX9_undo 27 = .ok (.iload_n 1, 1) := by decide +kernel
theorem dX9_undo_28 : decode cX9_undo 28 = .ok (.aload_n 0, 1) := by decide +kernel
theorem dX9_undo_29 : decode cX9_undo 29 = .ok (.getfield 13, 3) := by decide +kernel
theorem dX9_undo_32 : decode cX9_undo 32 = .ok (.iload_n 1, 1) := by decide +kernel
theorem dX9_undo_33 : decode cX9_undo 33 = .ok (.iaload, 1) := by decide +kernel
theorem dX9_undo_34 : decode cX9_undo 34 = .ok (.iastore, 1) := by decide +kernel
theorem dX9_undo_35 : decode cX9_undo 35 = .ok (.iinc 1 1, 3) := by decide +kernel
theorem dX9_undo_38 : decode cX9_undo 38 = .ok (.goto (-22), 3) := by decide +kernel
theorem dX9_undo_41 : decode cX9_undo 41 = .ok (.aload_n 0, 1) := by decide +kernel
theorem dX9_undo_42 : decode cX9_undo 42 = .ok (.getfield 9, 3) := by decide +kernel
theorem dX9_undo_45 : decode cX9_undo 45 = .ok (.iconst 1, 1) := by decide +kernel
theorem dX9_undo_46 : decode cX9_undo 46 = .ok (.iaload, 1) := by decide +kernel
theorem dX9_undo_47 : decode cX9_undo 47 = .ok (.ireturn, 1) := by decide +kernel
theorem dX9_tear_0 : decode cX9_tear 0 = .ok (.aload_n 0, 1) := by decide +kernel
theorem dX9_tear_1 : decode cX9_tear 1 = .ok (.getfield 281, 3) := by decide +kernel
theorem dX9_tear_4 : decode cX9_tear 4 = .ok (.ifCond .eq 7, 3) := by decide +kernel
theorem dX9_tear_7 : decode cX9_tear 7 = .ok (.iconst 1, 1) := by decide +kernel
theorem dX9_tear_8 : decode cX9_tear 8 = .ok (.goto 4, 3) := by decide +kernel
theorem dX9_tear_11 : decode cX9_tear 11 = .ok (.iconst 0, 1) := by decide +kernel
theorem dX9_tear_12 : decode cX9_tear 12 = .ok (.istore_n 1, 1) := by decide +kernel
theorem dX9_tear_13 : decode cX9_tear 13 = .ok (.aload_n 0, 1) := by decide +kernel
theorem dX9_tear_14 : decode cX9_tear 14 = .ok (.iconst 0, 1) := by decide +kernel
theorem dX9_tear_15 : decode cX9_tear 15 = .ok (.putfield 281, 3) := by decide +kernel
theorem dX9_tear_18 : decode cX9_tear 18 = .ok (.iload_n 1, 1) := by decide +kernel
theorem dX9_tear_19 : decode cX9_tear 19 = .ok (.ireturn, 1) := by decide +kernel
theorem dX9_count_0 : decode cX9_count 0 = .ok (.iload_n 1, 1) := by decide +kernel
theorem dX9_count_1 : decode cX9_count 1 = .ok (.tableswitch 84 0 8 #[51, 51, 51, 51, 51, 58, 63, 70, 77], 51) := by decide +kernel
theorem dX9_count_52 : decode cX9_count 52 = .ok (.aload_n 0, 1) := by decide +kernel
theorem dX9_count_53 : decode cX9_count 53 = .ok (.getfield 9, 3) := by decide +kernel
theorem dX9_count_56 : decode cX9_count 56 = .ok (.iload_n 1, 1) := by decide +kernel
theorem dX9_count_57 : decode cX9_count 57 = .ok (.iaload, 1) := by decide +kernel
theorem dX9_count_58 : decode cX9_count 58 = .ok (.ireturn, 1) := by decide +kernel
theorem dX9_count_59 : decode cX9_count 59 = .ok (.aload_n 0, 1) := by decide +kernel
theorem dX9_count_60 : decode cX9_count 60 = .ok (.getfield 161, 3) := by decide +kernel
theorem dX9_count_63 : decode cX9_count 63 = .ok (.ireturn, 1) := by decide +kernel
theorem dX9_count_64 : decode cX9_count 64 = .ok (.aload_n 0, 1) := by decide +kernel
theorem dX9_count_65 : decode cX9_count 65 = .ok (.bipush 6, 2) := by decide +kernel
theorem dX9_count_67 : decode cX9_count 67 = .ok (.invokevirtual 244, 3) := by decide +kernel
theorem dX9_count_70 : decode cX9_count 70 = .ok (.ireturn, 1) := by decide +kernel
theorem dX9_count_71 : decode cX9_count 71 = .ok (.aload_n 0, 1) := by decide +kernel
theorem dX9_count_72 : decode cX9_count 72 = .ok (.bipush 7, 2) := by decide +kernel
theorem dX9_count_74 : decode cX9_count 74 = .ok (.invokevirtual 244, 3) := by decide +kernel
theorem dX9_count_77 : decode cX9_count 77 = .ok (.ireturn, 1) := by decide +kernel
theorem dX9_count_78 : decode cX9_count 78 = .ok (.aload_n 0, 1) := by decide +kernel
theorem dX9_count_79 : decode cX9_count 79 = .ok (.getfield 9, 3) := by decide +kernel
theorem dX9_count_82 : decode cX9_count 82 = .ok (.iconst 5, 1) := by decide +kernel
theorem dX9_count_83 : decode cX9_count 83 = .ok (.iaload, 1) := by decide +kernel
theorem dX9_count_84 : decode cX9_count 84 = .ok (.ireturn, 1) := by decide +kernel
theorem dX9_count_85 : decode cX9_count 85 = .ok (.aload_n 0, 1) := by decide +kernel
theorem dX9_count_86 : decode cX9_count 86 = .ok (.ldc 47, 2) := by decide +kernel
theorem dX9_count_88 : decode cX9_count 88 = .ok (.invokevirtual 64, 3) := by decide +kernel
theorem dX9_count_91 : decode cX9_count 91 = .ok (.ireturn, 1) := by decide +kernel
theorem dX9_status_0 : decode cX9_status 0 = .ok (.iload_n 1, 1) := by decide +kernel
theorem dX9_status_1 : decode cX9_status 1 = .ok (.i2l, 1) := by decide +kernel
theorem dX9_status_2 : decode cX9_status 2 = .ok (.ldc2_w 263, 3) := by decide +kernel
theorem dX9_status_5 : decode cX9_status 5 = .ok (.ldc2_w 154, 3) := by decide +kernel
theorem dX9_status_8 : decode cX9_status 8 = .ok (.invokestatic 48, 3) := by decide +kernel
theorem dX9_status_11 : decode cX9_status 11 = .ok (.ifCond .ne 10, 3) := by decide +kernel
theorem dX9_status_14 : decode cX9_status 14 = .ok (.aload_n 0, 1) := by decide +kernel
theorem dX9_status_15 : decode cX9_status 15 = .ok (.ldc 47, 2) := by decide +kernel
theorem dX9_status_17 : decode cX9_status 17 = .ok (.invokevirtual 64, 3) := by decide +kernel
theorem dX9_status_20 : decode cX9_status 20 = .ok (.ireturn, 1) := by decide +kernel
theorem dX9_status_21 : decode cX9_status 21 = .ok (.iconst 0, 1) := by decide +kernel
theorem dX9_status_22 : decode cX9_status 22 = .ok (.istore_n 2, 1) := by decide +kernel
theorem dX9_status_23 : decode cX9_status 23 = .ok (.iconst 0, 1) := by decide +kernel
theorem dX9_status_24 : decode cX9_status 24 = .ok (.istore_n 3, 1) := by decide +kernel
theorem dX9_status_25 : decode cX9_status 25 = .ok (.iload_n 3, 1) := by decide +kernel
theorem dX9_status_26 : decode cX9_status 26 = .ok (.bipush 7, 2) := by decide +kernel
theorem dX9_status_28 : decode cX9_status 28 = .ok (.if_icmp .ge 31, 3) := by decide +kernel
theorem dX9_status_31 : decode cX9_status 31 = .ok (.iload_n 2, 1) := by decide +kernel
theorem dX9_status_32 : decode cX9_status 32 = .ok (.iload_n 1, 1) := by decide +kernel
theorem dX9_status_33 : decode cX9_status 33 = .ok (.ifCond .lt 8, 3) := by decide +kernel
theorem dX9_status_36 : decode cX9_status 36 = .ok (.iload_n 1, 1) := by decide +kernel
theorem dX9_status_37 : decode cX9_status 37 = .ok (.iload_n 3, 1) := by decide +kernel
theorem dX9_status_38 : decode cX9_status 38 = .ok (.if_icmp .ne 12, 3) := by decide +kernel
theorem dX9_status_41 : decode cX9_status 41 = .ok (.aload_n 0, 1) := by decide +kernel
theorem dX9_status_42 : decode cX9_status 42 = .ok (.getfield 16, 3) := by decide +kernel
theorem dX9_status_45 : decode cX9_status 45 = .ok (.iload_n 3, 1) := by decide +kernel
theorem dX9_status_46 : decode cX9_status 46 = .ok (.iaload, 1) := by decide +kernel
theorem dX9_status_47 : decode cX9_status 47 = .ok (.goto 4, 3) := by decide +kernel
theorem dX9_status_50 : decode cX9_status 50 = .ok (.iconst 0, 1) := by decide +kernel
theorem dX9_status_51 : decode cX9_status 51 = .ok (.iadd, 1) := by decide +kernel
theorem dX9_status_52 : decode cX9_status 52 = .ok (.istore_n 2, 1) := by decide +kernel
theorem dX9_status_53 : decode cX9_status 53 = .ok (.iinc 3 1, 3) := by decide +kernel
theorem dX9_status_56 : decode cX9_status 56 = .ok (.goto (-31), 3) := by decide +kernel
theorem dX9_status_59 : decode cX9_status 59 = .ok (.iload_n 2, 1) := by decide +kernel
theorem dX9_status_60 : decode cX9_status 60 = .ok (.ireturn, 1) := by decide +kernel
