theorem dX8_init_0 : decode cX8_init 0 = .ok (.aload_n 0, 1) := by decide +kernel
theorem dX8_init_1 : decode cX8_init 1 = .ok (.invokespecial 3, 3) := by decide +kernel
theorem dX8_init_4 : decode cX8_init 4 = .ok (.aload_n 0, 1) := by decide +kernel
theorem dX8_init_5 : decode cX8_init 5 = .ok (.new 9, 3) := by decide +kernel
theorem dX8_init_8 : decode cX8_init 8 = .ok (.dup, 1) := by decide +kernel
theorem dX8_init_9 : decode cX8_init 9 = .ok (.invokespecial 11, 3) := by decide +kernel
theorem dX8_init_12 : decode cX8_init 12 = .ok (.putfield 12, 3) := by decide +kernel
theorem dX8_init_15 : decode cX8_init 15 = .ok (.aload_n 0, 1) := by decide +kernel
theorem dX8_init_16 : decode cX8_init 16 = .ok (.new 9, 3) := by decide +kernel
theorem dX8_init_19 : decode cX8_init 19 = .ok (.dup, 1) := by decide +kernel
theorem dX8_init_20 : decode cX8_init 20 = .ok (.invokespecial 11, 3) := by decide +kernel
theorem dX8_init_23 : decode cX8_init 23 = .ok (.putfield 16, 3) := by decide +kernel
theorem dX8_init_26 : decode cX8_init 26 = .ok (.aload_n 0, 1) := by decide +kernel
theorem dX8_init_27 : decode cX8_init 27 = .ok (.iconst 0, 1) := by decide +kernel
theorem dX8_init_28 : decode cX8_init 28 = .ok (.putfield 19, 3) := by decide +kernel
theorem dX8_init_31 : decode cX8_init 31 = .ok (.aload_n 0, 1) := by decide +kernel
theorem dX8_init_32 : decode cX8_init 32 = .ok (.bipush 80, 2) := by decide +kernel
theorem dX8_init_34 : decode cX8_init 34 = .ok (.newarray .int, 2) := by decide +kernel
theorem dX8_init_36 : decode cX8_init 36 = .ok (.putfield 23, 3) := by decide +kernel
theorem dX8_init_39 : decode cX8_init 39 = .ok (.aload_n 0, 1) := by decide +kernel
theorem dX8_init_40 : decode cX8_init 40 = .ok (.iconst 0, 1) := by decide +kernel
theorem dX8_init_41 : decode cX8_init 41 = .ok (.putfield 27, 3) := by decide +kernel
theorem dX8_init_44 : decode cX8_init 44 = .ok (.aload_n 0, 1) := by decide +kernel
theorem dX8_init_45 : decode cX8_init 45 = .ok (.iconst 4, 1) := by decide +kernel
theorem dX8_init_46 : decode cX8_init 46 = .ok (.anewarray 31, 3) := by decide +kernel
theorem dX8_init_49 : decode cX8_init 49 = .ok (.putfield 33, 3) := by decide +kernel
theorem dX8_init_52 : decode cX8_init 52 = .ok (.iconst 0, 1) := by decide +kernel
theorem dX8_init_53 : decode cX8_init 53 = .ok (.istore_n 1, 1) := by decide +kernel
theorem dX8_init_54 : decode cX8_init 54 = .ok (.iload_n 1, 1) := by decide +kernel
theorem dX8_init_55 : decode cX8_init 55 = .ok (.iconst 4, 1) := by decide +kernel
theorem dX8_init_56 : decode cX8_init 56 = .ok (.if_icmp .ge 22, 3) := by decide +kernel
theorem dX8_init_59 : decode cX8_init 59 = .ok (.aload_n 0, 1) := by decide +kernel
theorem dX8_init_60 : decode cX8_init 60 = .ok (.getfield 33, 3) := by decide +kernel
theorem dX8_init_63 : decode cX8_init 63 = .ok (.iload_n 1, 1) := by decide +kernel
theorem dX8_init_64 : decode cX8_init 64 = .ok (.new 31, 3) := by decide +kernel
theorem dX8_init_67 : decode cX8_init 67 = .ok (.dup, 1) := by decide +kernel
theorem dX8_init_68 : decode cX8_init 68 = .ok (.invokespecial 37, 3) := by decide +kernel
theorem dX8_init_71 : decode cX8_init 71 = .ok (.aastore, 1) := by decide +kernel
theorem dX8_init_72 : decode cX8_init 72 = .ok (.iinc 1 1, 3) := by decide +kernel
theorem dX8_init_75 : decode cX8_init 75 = .ok (.goto (-21), 3) := by decide +kernel
theorem dX8_init_78 : decode cX8_init 78 = .ok (.aload_n 0, 1) := by decide +kernel
theorem dX8_init_79 : decode cX8_init 79 = .ok (.bipush 7, 2) := by decide +kernel
theorem dX8_init_81 : decode cX8_init 81 = .ok (.newarray .int, 2) := by decide +kernel
theorem dX8_init_83 : decode cX8_init 83 = .ok (.putfield 38, 3) := by decide +kernel
theorem dX8_init_86 : decode cX8_init 86 = .ok (.aload_n 0, 1) := by decide +kernel
theorem dX8_init_87 : decode cX8_init 87 = .ok (.new 41, 3) := by decide +kernel
theorem dX8_init_90 : decode cX8_init 90 = .ok (.dup, 1) := by decide +kernel
theorem dX8_init_91 : decode cX8_init 91 = .ok (.invokespecial 43, 3) := by decide +kernel
theorem dX8_init_94 : decode cX8_init 94 = .ok (.putfield 44, 3) := by decide +kernel
theorem dX8_init_97 : decode cX8_init 97 = .ok (.aload_n 0, 1) := by decide +kernel
theorem dX8_init_98 : decode cX8_init 98 = .ok (.new 48, 3) := by decide +kernel
theorem dX8_init_101 : decode cX8_init 101 = .ok (.dup, 1) := by decide +kernel
theorem dX8_init_102 : decode cX8_init 102 = .ok (.invokespecial 50, 3) := by decide +kernel
theorem dX8_init_105 : decode cX8_init 105 = .ok (.putfield 51, 3) := by decide +kernel
theorem dX8_init_108 : decode cX8_init 108 = .ok (.aload_n 0, 1) := by decide +kernel
theorem dX8_init_109 : decode cX8_init 109 = .ok (.new 55, 3) := by decide +kernel
theorem dX8_init_112 : decode cX8_init 112 = .ok (.dup, 1) := by decide +kernel
theorem dX8_init_113 : decode cX8_init 113 = .ok (.invokespecial 57, 3) := by decide +kernel
theorem dX8_init_116 : decode cX8_init 116 = .ok (.putfield 58, 3) := by decide +kernel
theorem dX8_init_119 : decode cX8_init 119 = .ok (.aload_n 0, 1) := by decide +kernel
theorem dX8_init_120 : decode cX8_init 120 = .ok (.bipush 14, 2) := by decide +kernel
theorem dX8_init_122 : decode cX8_init 122 = .ok (.newarray .int, 2) := by decide +kernel
theorem dX8_init_124 : decode cX8_init 124 = .ok (.putfield 62, 3) := by decide +kernel
theorem dX8_init_127 : decode cX8_init 127 = .ok (.return_, 1) := by decide +kernel
theorem dX8_name_0 : decode cX8_name 0 = .ok (.iload_n 1, 1) := by decide +kernel
theorem dX8_name_1 : decode cX8_name 1 = .ok (.iconst 0, 1) := by decide +kernel
theorem dX8_name_2 : decode cX8_name 2 = .ok (.bipush 7, 2) := by decide +kernel
theorem dX8_name_4 : decode cX8_name 4 = .ok (.invokestatic 65, 3) := by decide +kernel
theorem dX8_name_7 : decode cX8_name 7 = .ok (.ifCond .eq 14, 3) := by decide +kernel
theorem dX8_name_10 : decode cX8_name 10 = .ok (.iload_n 2, 1) := by decide +kernel
theorem dX8_name_11 : decode cX8_name 11 = .ok (.iconst 1, 1) := by decide +kernel
theorem dX8_name_12 : decode cX8_name 12 = .ok (.sipush 999, 3) := by decide +kernel
theorem dX8_name_15 : decode cX8_name 15 = .ok (.invokestatic 65, 3) := by decide +kernel
theorem dX8_name_18 : decode cX8_name 18 = .ok (.ifCond .ne 10, 3) := by decide +kernel
theorem dX8_name_21 : decode cX8_name 21 = .ok (.aload_n 0, 1) := by decide +kernel
theorem dX8_name_22 : decode cX8_name 22 = .ok (.ldc 69, 2) := by decide +kernel
theorem dX8_name_24 : decode cX8_name 24 = .ok (.invokevirtual 70, 3) := by decide +kernel
theorem dX8_name_27 : decode cX8_name 27 = .ok (.ireturn, 1) := by decide +kernel
theorem dX8_name_28 : decode cX8_name 28 = .ok (.aload_n 0, 1) := by decide +kernel
theorem dX8_name_29 : decode cX8_name 29 = .ok (.getfield 12, 3) := by decide +kernel
theorem dX8_name_32 : decode cX8_name 32 = .ok (.getfield 74, 3) := by decide +kernel
theorem dX8_name_35 : decode cX8_name 35 = .ok (.getfield 78, 3) := by decide +kernel
theorem dX8_name_38 : decode cX8_name 38 = .ok (.bipush 14, 2) := by decide +kernel
theorem dX8_name_40 : decode cX8_name 40 = .ok (.if_icmp .lt 10, 3) := by decide +kernel
theorem dX8_name_43 : decode cX8_name 43 = .ok (.aload_n 0, 1) := by decide +kernel
theorem dX8_name_44 : decode cX8_name 44 = .ok (.ldc 83, 2) := by decide +kernel
theorem dX8_name_46 : decode cX8_name 46 = .ok (.invokevirtual 70, 3) := by decide +kernel
theorem dX8_name_49 : decode cX8_name 49 = .ok (.ireturn, 1) := by decide +kernel
theorem dX8_name_50 : decode cX8_name 50 = .ok (.aload_n 0, 1) := by decide +kernel
theorem dX8_name_51 : decode cX8_name 51 = .ok (.getfield 12, 3) := by decide +kernel
theorem dX8_name_54 : decode cX8_name 54 = .ok (.getfield 74, 3) := by decide +kernel
theorem dX8_name_57 : decode cX8_name 57 = .ok (.iload_n 1, 1) := by decide +kernel
theorem dX8_name_58 : decode cX8_name 58 = .ok (.iload_n 2, 1) := by decide +kernel
theorem dX8_name_59 : decode cX8_name 59 = .ok (.invokevirtual 84, 3) := by decide +kernel
theorem dX8_name_62 : decode cX8_name 62 = .ok (.ireturn, 1) := by decide +kernel
theorem dX8_nameOf_0 : decode cX8_nameOf 0 = .ok (.aload_n 0, 1) := by decide +kernel
theorem dX8_nameOf_1 : decode cX8_nameOf 1 = .ok (.getfield 12, 3) := by decide +kernel
theorem dX8_nameOf_4 : decode cX8_nameOf 4 = .ok (.getfield 74, 3) := by decide +kernel
theorem dX8_nameOf_7 : decode cX8_nameOf 7 = .ok (.astore_n 3, 1) := by decide +kernel
theorem dX8_nameOf_8 : decode cX8_nameOf 8 = .ok (.aload_n 3, 1) := by decide +kernel
theorem dX8_nameOf_9 : decode cX8_nameOf 9 = .ok (.iload_n 1, 1) := by decide +kernel
theorem dX8_nameOf_10 : decode cX8_nameOf 10 = .ok (.invokevirtual 88, 3) := by decide +kernel
theorem dX8_nameOf_13 : decode cX8_nameOf 13 = .ok (.ifCond .eq 13, 3) := by decide +kernel
theorem dX8_nameOf_16 : decode cX8_nameOf 16 = .ok (.iload_n 2, 1) := by decide +kernel
theorem dX8_nameOf_17 : decode cX8_nameOf 17 = .ok (.iconst 0, 1) := by decide +kernel
theorem dX8_nameOf_18 : decode cX8_nameOf 18 = .ok (.bipush 7, 2) := by decide +kernel
theorem dX8_nameOf_20 : decode cX8_nameOf 20 = .ok (.invokestatic 65, 3) := by decide +kernel
theorem dX8_nameOf_23 : decode cX8_nameOf 23 = .ok (.ifCond .ne 10, 3) := by decide +kernel
theorem dX8_nameOf_26 : decode cX8_nameOf 26 = .ok (.aload_n 0, 1) := by decide +kernel
theorem dX8_nameOf_27 : decode cX8_nameOf 27 = .ok (.ldc 69, 2) := by decide +kernel
theorem dX8_nameOf_29 : decode cX8_nameOf 29 = .ok (.invokevirtual 70, 3) := by decide +kernel
theorem dX8_nameOf_32 : decode cX8_nameOf 32 = .ok (.ireturn, 1) := by decide +kernel
theorem dX8_nameOf_33 : decode cX8_nameOf 33 = .ok (.iload_n 2, 1) := by decide +kernel
theorem dX8_nameOf_34 : decode cX8_nameOf 34 = .ok (.bipush 6, 2) := by decide +kernel
theorem dX8_nameOf_36 : decode cX8_nameOf 36 = .ok (.if_icmp .ne 15, 3) := by decide +kernel
theorem dX8_nameOf_39 : decode cX8_nameOf 39 = .ok (.aload_n 3, 1) := by decide +kernel
theorem dX8_nameOf_40 : decode cX8_nameOf 40 = .ok (.getfield 92, 3) := by decide +kernel
theorem dX8_nameOf_43 : decode cX8_nameOf 43 = .ok (.iload_n 1, 1) := by decide +kernel
theorem dX8_nameOf_44 : decode cX8_nameOf 44 = .ok (.invokestatic 95, 3) := by decide +kernel
theorem dX8_nameOf_47 : decode cX8_nameOf 47 = .ok (.invokestatic 99, 3) := by decide +kernel
theorem dX8_nameOf_50 : decode cX8_nameOf 50 = .ok (.ireturn, 1) := by decide +kernel
theorem dX8_nameOf_51 : decode cX8_nameOf 51 = .ok (.iload_n 2, 1) := by decide +kernel
theorem dX8_nameOf_52 : decode cX8_nameOf 52 = .ok (.bipush 7, 2) := by decide +kernel
theorem dX8_nameOf_54 : decode cX8_nameOf 54 = .ok (.if_icmp .ne 13, 3) := by decide +kernel
theorem dX8_nameOf_57 : decode cX8_nameOf 57 = .ok (.aload_n 3, 1) := by decide +kernel
theorem dX8_nameOf_58 : decode cX8_nameOf 58 = .ok (.iload_n 1, 1) := by decide +kernel
theorem dX8_nameOf_59 : decode cX8_nameOf 59 = .ok (.iconst 1, 1) := by decide +kernel
theorem dX8_nameOf_60 : decode cX8_nameOf 60 = .ok (.invokevirtual 103, 3) := by decide +kernel
theorem dX8_nameOf_63 : decode cX8_nameOf 63 = .ok (.invokestatic 99, 3) := by decide +kernel
theorem dX8_nameOf_66 : decode cX8_nameOf 66 = .ok (.ireturn, 1) := by decide +kernel
theorem dX8_nameOf_67 : decode cX8_nameOf 67 = .ok (.aload_n 3, 1) := by decide +kernel
theorem dX8_nameOf_68 : decode cX8_nameOf 68 = .ok (.getfield 106, 3) := by decide +kernel
theorem dX8_nameOf_71 : decode cX8_nameOf 71 = .ok (.iload_n 2, 1) := by decide +kernel
theorem dX8_nameOf_72 : decode cX8_nameOf 72 = .ok (.aaload, 1) := by decide +kernel
theorem dX8_nameOf_73 : decode cX8_nameOf 73 = .ok (.iload_n 1, 1) := by decide +kernel
theorem dX8_nameOf_74 : decode cX8_nameOf 74 = .ok (.iaload, 1) := by decide +kernel
theorem dX8_nameOf_75 : decode cX8_nameOf 75 = .ok (.ireturn, 1) := by decide +kernel
theorem dX8_change_0 : decode cX8_change 0 = .ok (.aload_n 0, 1) := by decide +kernel
theorem dX8_change_1 : decode cX8_change 1 = .ok (.getfield 12, 3) := by decide +kernel
theorem dX8_change_4 : decode cX8_change 4 = .ok (.getfield 74, 3) := by decide +kernel
theorem dX8_change_7 : decode cX8_change 7 = .ok (.astore 4, 2) := by decide +kernel
theorem dX8_change_9 : decode cX8_change 9 = .ok (.aload 4, 2) := by decide +kernel
theorem dX8_change_11 : decode cX8_change 11 = .ok (.iload_n 1, 1) := by decide +kernel
theorem dX8_change_12 : decode cX8_change 12 = .ok (.invokevirtual 88, 3) := by decide +kernel
theorem dX8_change_15 : decode cX8_change 15 = .ok (.ifCond .eq 14, 3) := by decide +kernel
theorem dX8_change_18 : decode cX8_change 18 = .ok (.aload 4, 2) := by decide +kernel
theorem dX8_change_20 : decode cX8_change 20 = .ok (.iload_n 1, 1) := by decide +kernel
theorem dX8_change_21 : decode cX8_change 21 = .ok (.iload_n 2, 1) := by decide +kernel
theorem dX8_change_22 : decode cX8_change 22 = .ok (.iload_n 3, 1) := by decide +kernel
theorem dX8_change_23 : decode cX8_change 23 = .ok (.invokevirtual 110, 3) := by decide +kernel
theorem dX8_change_26 : decode cX8_change 26 = .ok (.ifCond .ne 10, 3) := by decide +kernel
theorem dX8_change_29 : decode cX8_change 29 = .ok (.aload_n 0, 1) := by decide +kernel
theorem dX8_change_30 : decode cX8_change 30 = .ok (.ldc 69, 2) := by decide +kernel
theorem dX8_change_32 : decode cX8_change 32 = .ok (.invokevirtual 70, 3) := by decide +kernel
theorem dX8_change_35 : decode cX8_change 35 = .ok (.ireturn, 1) := by decide +kernel
theorem dX8_change_36 : decode cX8_change 36 = .ok (.aload 4, 2) := by decide +kernel
theorem dX8_change_38 : decode cX8_change 38 = .ok (.getfield 106, 3) := by decide +kernel
theorem dX8_change_41 : decode cX8_change 41 = .ok (.iload_n 2, 1) := by decide +kernel
theorem dX8_change_42 : decode cX8_change 42 = .ok (.aaload, 1) := by decide +kernel
theorem dX8_change_43 : decode cX8_change 43 = .ok (.iload_n 1, 1) := by decide +kernel
theorem dX8_change_44 : decode cX8_change 44 = .ok (.iaload, 1) := by decide +kernel
theorem dX8_change_45 : decode cX8_change 45 = .ok (.istore 5, 2) := by decide +kernel
theorem dX8_change_47 : decode cX8_change 47 = .ok (.aload 4, 2) := by decide +kernel
theorem dX8_change_49 : decode cX8_change 49 = .ok (.getfield 106, 3) := by decide +kernel
theorem dX8_change_52 : decode cX8_change 52 = .ok (.iload_n 2, 1) := by decide +kernel
theorem dX8_change_53 : decode cX8_change 53 = .ok (.aaload, 1) := by decide +kernel
theorem dX8_change_54 : decode cX8_change 54 = .ok (.iload_n 1, 1) := by decide +kernel
theorem dX8_change_55 : decode cX8_change 55 = .ok (.iload_n 3, 1) := by decide +kernel
theorem dX8_change_56 : decode cX8_change 56 = .ok (.iastore, 1) := by decide +kernel
theorem dX8_change_57 : decode cX8_change 57 = .ok (.iload 5, 2) := by decide +kernel
theorem dX8_change_59 : decode cX8_change 59 = .ok (.ireturn, 1) := by decide +kernel
theorem dX8_shut_0 : decode cX8_shut 0 = .ok (.aload_n 0, 1) := by decide +kernel
theorem dX8_shut_1 : decode cX8_shut 1 = .ok (.getfield 12, 3) := by decide +kernel
theorem dX8_shut_4 : decode cX8_shut 4 = .ok (.getfield 74, 3) := by decide +kernel
theorem dX8_shut_7 : decode cX8_shut 7 = .ok (.astore_n 3, 1) := by decide +kernel
theorem dX8_shut_8 : decode cX8_shut 8 = .ok (.aload_n 3, 1) := by decide +kernel
theorem dX8_shut_9 : decode cX8_shut 9 = .ok (.iload_n 1, 1) := by decide +kernel
theorem dX8_shut_10 : decode cX8_shut 10 = .ok (.invokevirtual 88, 3) := by decide +kernel
theorem dX8_shut_13 : decode cX8_shut 13 = .ok (.ifCond .ne 10, 3) := by decide +kernel
theorem dX8_shut_16 : decode cX8_shut 16 = .ok (.aload_n 0, 1) := by decide +kernel
theorem dX8_shut_17 : decode cX8_shut 17 = .ok (.ldc 69, 2) := by decide +kernel
theorem dX8_shut_19 : decode cX8_shut 19 = .ok (.invokevirtual 70, 3) := by decide +kernel
theorem dX8_shut_22 : decode cX8_shut 22 = .ok (.ireturn, 1) := by decide +kernel
theorem dX8_shut_23 : decode cX8_shut 23 = .ok (.aload_n 3, 1) := by decide +kernel
theorem dX8_shut_24 : decode cX8_shut 24 = .ok (.getfield 92, 3) := by decide +kernel
theorem dX8_shut_27 : decode cX8_shut 27 = .ok (.iload_n 1, 1) := by decide +kernel
theorem dX8_shut_28 : decode cX8_shut 28 = .ok (.invokestatic 95, 3) := by decide +kernel
theorem dX8_shut_31 : decode cX8_shut 31 = .ok (.invokestatic 99, 3) := by decide +kernel
theorem dX8_shut_34 : decode cX8_shut 34 = .ok (.istore 4, 2) := by decide +kernel
theorem dX8_shut_36 : decode cX8_shut 36 = .ok (.aload_n 3, 1) := by decide +kernel
theorem dX8_shut_37 : decode cX8_shut 37 = .ok (.iload_n 2, 1) := by decide +kernel
theorem dX8_shut_38 : decode cX8_shut 38 = .ok (.ifCond .eq 14, 3) := by decide +kernel
theorem dX8_shut_41 : decode cX8_shut 41 = .ok (.aload_n 3, 1) := by decide +kernel
theorem dX8_shut_42 : decode cX8_shut 42 = .ok (.getfield 92, 3) := by decide +kernel
theorem dX8_shut_45 : decode cX8_shut 45 = .ok (.iconst 1, 1) := by decide +kernel
theorem dX8_shut_46 : decode cX8_shut 46 = .ok (.iload_n 1, 1) := by decide +kernel
theorem dX8_shut_47 : decode cX8_shut 47 = .ok (.ishl, 1) := by decide +kernel
theorem dX8_shut_48 : decode cX8_shut 48 = .ok (.ior, 1) := by decide +kernel
theorem dX8_shut_49 : decode cX8_shut 49 = .ok (.goto 13, 3) := by decide +kernel
theorem dX8_shut_52 : decode cX8_shut 52 = .ok (.aload_n 3, 1) := by decide +kernel
theorem dX8_shut_53 : decode cX8_shut 53 = .ok (.getfield 92, 3) := by decide +kernel
theorem dX8_shut_56 : decode cX8_shut 56 = .ok (.iconst 1, 1) := by decide +kernel
theorem dX8_shut_57 : decode cX8_shut 57 = .ok (.iload_n 1, 1) := by decide +kernel
theorem dX8_shut_58 : decode cX8_shut 58 = .ok (.ishl, 1) := by decide +kernel
theorem dX8_shut_59 : decode cX8_shut 59 = .ok (.iconst (-1), 1) := by decide +kernel
theorem dX8_shut_60 : decode cX8_shut 60 = .ok (.ixor, 1) := by decide +kernel
theorem dX8_shut_61 : decode cX8_shut 61 = .ok (.iand, 1) := by decide +kernel
theorem dX8_shut_62 : decode cX8_shut 62 = .ok (.putfield 92, 3) := by decide +kernel
theorem dX8_shut_65 : decode cX8_shut 65 = .ok (.iload 4, 2) := by decide +kernel
theorem dX8_shut_67 : decode cX8_shut 67 = .ok (.ireturn, 1) := by decide +kernel
theorem dX8_object_0 : decode cX8_object 0 = .ok (.aload_n 0, 1) := by decide +kernel
theorem dX8_object_1 : decode cX8_object 1 = .ok (.getfield 12, 3) := by decide +kernel
theorem dX8_object_4 : decode cX8_object 4 = .ok (.getfield 74, 3) := by decide +kernel
theorem dX8_object_7 : decode cX8_object 7 = .ok (.astore_n 1, 1) := by decide +kernel
theorem dX8_object_8 : decode cX8_object 8 = .ok (.aload_n 1, 1) := by decide +kernel
theorem dX8_object_9 : decode cX8_object 9 = .ok (.getfield 92, 3) := by decide +kernel
theorem dX8_object_12 : decode cX8_object 12 = .ok (.aload_n 1, 1) := by decide +kernel
theorem dX8_object_13 : decode cX8_object 13 = .ok (.invokevirtual 113, 3) := by decide +kernel
theorem dX8_object_16 : decode cX8_object 16 = .ok (.iand, 1) := by decide +kernel
theorem dX8_object_17 : decode cX8_object 17 = .ok (.istore_n 2, 1) := by decide +kernel
theorem dX8_object_18 : decode cX8_object 18 = .ok (.aload_n 1, 1) := by decide +kernel
theorem dX8_object_19 : decode cX8_object 19 = .ok (.dup, 1) := by decide +kernel
theorem dX8_object_20 : decode cX8_object 20 = .ok (.getfield 92, 3) := by decide +kernel
theorem dX8_object_23 : decode cX8_object 23 = .ok (.iload_n 2, 1) := by decide +kernel
theorem dX8_object_24 : decode cX8_object 24 = .ok (.iconst (-1), 1) := by decide +kernel
theorem dX8_object_25 : decode cX8_object 25 = .ok (.ixor, 1) := by decide +kernel
theorem dX8_object_26 : decode cX8_object 26 = .ok (.iand, 1) := by decide +kernel
theorem dX8_object_27 : decode cX8_object 27 = .ok (.putfield 92, 3) := by decide +kernel
theorem dX8_object_30 : decode cX8_object 30 = .ok (.iload_n 2, 1) := by decide +kernel
theorem dX8_object_31 : decode cX8_object 31 = .ok (.invokestatic 117, 3) := by decide +kernel
theorem dX8_object_34 : decode cX8_object 34 = .ok (.ireturn, 1) := by decide +kernel
theorem dX8_speaks_0 : decode cX8_speaks 0 = .ok (.aload_n 0, 1) := by decide +kernel
theorem dX8_speaks_1 : decode cX8_speaks 1 = .ok (.getfield 12, 3) := by decide +kernel
theorem dX8_speaks_4 : decode cX8_speaks 4 = .ok (.getfield 74, 3) := by decide +kernel
theorem dX8_speaks_7 : decode cX8_speaks 7 = .ok (.iload_n 1, 1) := by decide +kernel
theorem dX8_speaks_8 : decode cX8_speaks 8 = .ok (.invokevirtual 88, 3) := by decide +kernel
theorem dX8_speaks_11 : decode cX8_speaks 11 = .ok (.ifCond .eq 10, 3) := by decide +kernel
theorem dX8_speaks_14 : decode cX8_speaks 14 = .ok (.iload_n 2, 1) := by decide +kernel
theorem dX8_speaks_15 : decode cX8_speaks 15 = .ok (.invokestatic 122, 3) := by decide +kernel
theorem dX8_speaks_18 : decode cX8_speaks 18 = .ok (.ifCond .ne 10, 3) := by decide +kernel
theorem dX8_speaks_21 : decode cX8_speaks 21 = .ok (.aload_n 0, 1) := by decide +kernel
theorem dX8_speaks_22 : decode cX8_speaks 22 = .ok (.ldc 69, 2) := by decide +kernel
theorem dX8_speaks_24 : decode cX8_speaks 24 = .ok (.invokevirtual 70, 3) := by decide +kernel
theorem dX8_speaks_27 : decode cX8_speaks 27 = .ok (.ireturn, 1) := by decide +kernel
theorem dX8_speaks_28 : decode cX8_speaks 28 = .ok (.aload_n 0, 1) := by decide +kernel
theorem dX8_speaks_29 : decode cX8_speaks 29 = .ok (.getfield 12, 3) := by decide +kernel
theorem dX8_speaks_32 : decode cX8_speaks 32 = .ok (.iload_n 1, 1) := by decide +kernel
theorem dX8_speaks_33 : decode cX8_speaks 33 = .ok (.iload_n 2, 1) := by decide +kernel
theorem dX8_speaks_34 : decode cX8_speaks 34 = .ok (.invokevirtual 125, 3) := by decide +kernel
theorem dX8_speaks_37 : decode cX8_speaks 37 = .ok (.invokestatic 99, 3) := by decide +kernel
theorem dX8_speaks_40 : decode cX8_speaks 40 = .ok (.ireturn, 1) := by decide +kernel
theorem dX8_next_0 : decode cX8_next 0 = .ok (.aload_n 0, 1) := by decide +kernel
theorem dX8_next_1 : decode cX8_next 1 = .ok (.getfield 12, 3) := by decide +kernel
theorem dX8_next_4 : decode cX8_next 4 = .ok (.getfield 74, 3) := by decide +kernel
theorem dX8_next_7 : decode cX8_next 7 = .ok (.iload_n 1, 1) := by decide +kernel
theorem dX8_next_8 : decode cX8_next 8 = .ok (.invokevirtual 88, 3) := by decide +kernel
theorem dX8_next_11 : decode cX8_next 11 = .ok (.ifCond .eq 10, 3) := by decide +kernel
theorem dX8_next_14 : decode cX8_next 14 = .ok (.iload_n 2, 1) := by decide +kernel
theorem dX8_next_15 : decode cX8_next 15 = .ok (.invokestatic 122, 3) := by decide +kernel
theorem dX8_next_18 : decode cX8_next 18 = .ok (.ifCond .ne 10, 3) := by decide +kernel
theorem dX8_next_21 : decode cX8_next 21 = .ok (.aload_n 0, 1) := by decide +kernel
theorem dX8_next_22 : decode cX8_next 22 = .ok (.ldc 69, 2) := by decide +kernel
theorem dX8_next_24 : decode cX8_next 24 = .ok (.invokevirtual 70, 3) := by decide +kernel
theorem dX8_next_27 : decode cX8_next 27 = .ok (.ireturn, 1) := by decide +kernel
theorem dX8_next_28 : decode cX8_next 28 = .ok (.iload_n 2, 1) := by decide +kernel
theorem dX8_next_29 : decode cX8_next 29 = .ok (.sipush 2000, 3) := by decide +kernel
theorem dX8_next_32 : decode cX8_next 32 = .ok (.iadd, 1) := by decide +kernel
theorem dX8_next_33 : decode cX8_next 33 = .ok (.iconst 1, 1) := by decide +kernel
theorem dX8_next_34 : decode cX8_next 34 = .ok (.isub, 1) := by decide +kernel
theorem dX8_next_35 : decode cX8_next 35 = .ok (.sipush 29999, 3) := by decide +kernel
theorem dX8_next_38 : decode cX8_next 38 = .ok (.invokestatic 128, 3) := by decide +kernel
theorem dX8_next_41 : decode cX8_next 41 = .ok (.istore_n 3, 1) := by decide +kernel
theorem dX8_next_42 : decode cX8_next 42 = .ok (.iload_n 2, 1) := by decide +kernel
theorem dX8_next_43 : decode cX8_next 43 = .ok (.istore 4, 2) := by decide +kernel
theorem dX8_next_45 : decode cX8_next 45 = .ok (.iload 4, 2) := by decide +kernel
theorem dX8_next_47 : decode cX8_next 47 = .ok (.iload_n 3, 1) := by decide +kernel
theorem dX8_next_48 : decode cX8_next 48 = .ok (.if_icmp .gt 25, 3) := by decide +kernel
theorem dX8_next_51 : decode cX8_next 51 = .ok (.aload_n 0, 1) := by decide +kernel
theorem dX8_next_52 : decode cX8_next 52 = .ok (.getfield 12, 3) := by decide +kernel
theorem dX8_next_55 : decode cX8_next 55 = .ok (.iload_n 1, 1) := by decide +kernel
theorem dX8_next_56 : decode cX8_next 56 = .ok (.iload 4, 2) := by decide +kernel
theorem dX8_next_58 : decode cX8_next 58 = .ok (.invokevirtual 125, 3) := by decide +kernel
theorem dX8_next_61 : decode cX8_next 61 = .ok (.ifCond .eq 6, 3) := by decide +kernel
theorem dX8_next_64 : decode cX8_next 64 = .ok (.iload 4, 2) := by decide +kernel
theorem dX8_next_66 : decode cX8_next 66 = .ok (.ireturn, 1) := by decide +kernel
theorem dX8_next_67 : decode cX8_next 67 = .ok (.iinc 4 1, 3) := by decide +kernel
theorem dX8_next_70 : decode cX8_next 70 = .ok (.goto (-25), 3) := by decide +kernel
theorem dX8_next_73 : decode cX8_next 73 = .ok (.aload_n 0, 1) := by decide +kernel
theorem dX8_next_74 : decode cX8_next 74 = .ok (.ldc 133, 2) := by decide +kernel
theorem dX8_next_76 : decode cX8_next 76 = .ok (.invokevirtual 70, 3) := by decide +kernel
theorem dX8_next_79 : decode cX8_next 79 = .ok (.ireturn, 1) := by decide +kernel
theorem dX8_go_0 : decode cX8_go 0 = .ok (.iload_n 1, 1) := by decide +kernel
theorem dX8_go_1 : decode cX8_go 1 = .ok (.iconst 1, 1) := by decide +kernel
theorem dX8_go_2 : decode cX8_go 2 = .ok (.sipush 999, 3) := by decide +kernel
theorem dX8_go_5 : decode cX8_go 5 = .ok (.invokestatic 65, 3) := by decide +kernel
theorem dX8_go_8 : decode cX8_go 8 = .ok (.ifCond .ne 10, 3) := by decide +kernel
theorem dX8_go_11 : decode cX8_go 11 = .ok (.aload_n 0, 1) := by decide +kernel
theorem dX8_go_12 : decode cX8_go 12 = .ok (.ldc 69, 2) := by decide +kernel
theorem dX8_go_14 : decode cX8_go 14 = .ok (.invokevirtual 70, 3) := by decide +kernel
theorem dX8_go_17 : decode cX8_go 17 = .ok (.ireturn, 1) := by decide +kernel
theorem dX8_go_18 : decode cX8_go 18 = .ok (.aload_n 0, 1) := by decide +kernel
theorem dX8_go_19 : decode cX8_go 19 = .ok (.getfield 12, 3) := by decide +kernel
theorem dX8_go_22 : decode cX8_go 22 = .ok (.getfield 134, 3) := by decide +kernel
theorem dX8_go_25 : decode cX8_go 25 = .ok (.getfield 138, 3) := by decide +kernel
theorem dX8_go_28 : decode cX8_go 28 = .ok (.iload_n 1, 1) := by decide +kernel
theorem dX8_go_29 : decode cX8_go 29 = .ok (.iadd, 1) := by decide +kernel
theorem dX8_go_30 : decode cX8_go 30 = .ok (.sipush 29999, 3) := by decide +kernel
theorem dX8_go_33 : decode cX8_go 33 = .ok (.if_icmp .le 10, 3) := by decide +kernel
theorem dX8_go_36 : decode cX8_go 36 = .ok (.aload_n 0, 1) := by decide +kernel
theorem dX8_go_37 : decode cX8_go 37 = .ok (.ldc 143, 2) := by decide +kernel
theorem dX8_go_39 : decode cX8_go 39 = .ok (.invokevirtual 70, 3) := by decide +kernel
theorem dX8_go_42 : decode cX8_go 42 = .ok (.ireturn, 1) := by decide +kernel
theorem dX8_go_43 : decode cX8_go 43 = .ok (.iconst 0, 1) := by decide +kernel
theorem dX8_go_44 : decode cX8_go 44 = .ok (.istore_n 2, 1) := by decide +kernel
theorem dX8_go_45 : decode cX8_go 45 = .ok (.iload_n 2, 1) := by decide +kernel
theorem dX8_go_46 : decode cX8_go 46 = .ok (.iload_n 1, 1) := by decide +kernel
theorem dX8_go_47 : decode cX8_go 47 = .ok (.if_icmp .ge 16, 3) := by decide +kernel
theorem dX8_go_50 : decode cX8_go 50 = .ok (.aload_n 0, 1) := by decide +kernel
theorem dX8_go_51 : decode cX8_go 51 = .ok (.getfield 12, 3) := by decide +kernel
theorem dX8_go_54 : decode cX8_go 54 = .ok (.invokevirtual 144, 3) := by decide +kernel
theorem dX8_go_57 : decode cX8_go 57 = .ok (.iinc 2 1, 3) := by decide +kernel
theorem dX8_go_60 : decode cX8_go 60 = .ok (.goto (-15), 3) := by decide +kernel
theorem dX8_go_63 : decode cX8_go 63 = .ok (.aload_n 0, 1) := by decide +kernel
theorem dX8_go_64 : decode cX8_go 64 = .ok (.getfield 12, 3) := by decide +kernel
theorem dX8_go_67 : decode cX8_go 67 = .ok (.getfield 134, 3) := by decide +kernel
theorem dX8_go_70 : decode cX8_go 70 = .ok (.getfield 138, 3) := by decide +kernel
theorem dX8_go_73 : decode cX8_go 73 = .ok (.ireturn, 1) := by decide +kernel
theorem dX8_say_0 : decode cX8_say 0 = .ok (.aload_n 0, 1) := by decide +kernel
theorem dX8_say_1 : decode cX8_say 1 = .ok (.getfield 12, 3) := by decide +kernel
theorem dX8_say_4 : decode cX8_say 4 = .ok (.getfield 74, 3) := by decide +kernel
theorem dX8_say_7 : decode cX8_say 7 = .ok (.iload_n 1, 1) := by decide +kernel
theorem dX8_say_8 : decode cX8_say 8 = .ok (.invokevirtual 88, 3) := by decide +kernel
theorem dX8_say_11 : decode cX8_say 11 = .ok (.ifCond .eq 10, 3) := by decide +kernel
theorem dX8_say_14 : decode cX8_say 14 = .ok (.iload_n 2, 1) := by decide +kernel
theorem dX8_say_15 : decode cX8_say 15 = .ok (.invokestatic 147, 3) := by decide +kernel
theorem dX8_say_18 : decode cX8_say 18 = .ok (.ifCond .ne 10, 3) := by decide +kernel
theorem dX8_say_21 : decode cX8_say 21 = .ok (.aload_n 0, 1) := by decide +kernel
theorem dX8_say_22 : decode cX8_say 22 = .ok (.ldc 69, 2) := by decide +kernel
theorem dX8_say_24 : decode cX8_say 24 = .ok (.invokevirtual 70, 3) := by decide +kernel
theorem dX8_say_27 : decode cX8_say 27 = .ok (.ireturn, 1) := by decide +kernel
theorem dX8_say_28 : decode cX8_say 28 = .ok (.aload_n 0, 1) := by decide +kernel
theorem dX8_say_29 : decode cX8_say 29 = .ok (.getfield 12, 3) := by decide +kernel
theorem dX8_say_32 : decode cX8_say 32 = .ok (.getfield 134, 3) := by decide +kernel
theorem dX8_say_35 : decode cX8_say 35 = .ok (.invokevirtual 150, 3) := by decide +kernel
theorem dX8_say_38 : decode cX8_say 38 = .ok (.ifCond .eq 10, 3) := by decide +kernel
theorem dX8_say_41 : decode cX8_say 41 = .ok (.aload_n 0, 1) := by decide +kernel
theorem dX8_say_42 : decode cX8_say 42 = .ok (.ldc 83, 2) := by decide +kernel
theorem dX8_say_44 : decode cX8_say 44 = .ok (.invokevirtual 70, 3) := by decide +kernel
theorem dX8_say_47 : decode cX8_say 47 = .ok (.ireturn, 1) := by decide +kernel
theorem dX8_say_48 : decode cX8_say 48 = .ok (.aload_n 0, 1) := by decide +kernel
theorem dX8_say_49 : decode cX8_say 49 = .ok (.getfield 12, 3) := by decide +kernel
theorem dX8_say_52 : decode cX8_say 52 = .ok (.getfield 134, 3) := by decide +kernel
theorem dX8_say_55 : decode cX8_say 55 = .ok (.iload_n 1, 1) := by decide +kernel
theorem dX8_say_56 : decode cX8_say 56 = .ok (.iload_n 2, 1) := by decide +kernel
theorem dX8_say_57 : decode cX8_say 57 = .ok (.invokevirtual 154, 3) := by decide +kernel
theorem dX8_say_60 : decode cX8_say 60 = .ok (.ireturn, 1) := by decide +kernel
theorem dX8_wordOf_0 : decode cX8_wordOf 0 = .ok (.aload_n 0, 1) := by decide +kernel
theorem dX8_wordOf_1 : decode cX8_wordOf 1 = .ok (.getfield 12, 3) := by decide +kernel
theorem dX8_wordOf_4 : decode cX8_wordOf 4 = .ok (.getfield 134, 3) := by decide +kernel
theorem dX8_wordOf_7 : decode cX8_wordOf 7 = .ok (.astore_n 3, 1) := by decide +kernel
theorem dX8_wordOf_8 : decode cX8_wordOf 8 = .ok (.aload_n 3, 1) := by decide +kernel
theorem dX8_wordOf_9 : decode cX8_wordOf 9 = .ok (.iload_n 1, 1) := by decide +kernel
theorem dX8_wordOf_10 : decode cX8_wordOf 10 = .ok (.invokevirtual 155, 3) := by decide +kernel
theorem dX8_wordOf_13 : decode cX8_wordOf 13 = .ok (.ifCond .ne 10, 3) := by decide +kernel
theorem dX8_wordOf_16 : decode cX8_wordOf 16 = .ok (.aload_n 0, 1) := by decide +kernel
theorem dX8_wordOf_17 : decode cX8_wordOf 17 = .ok (.ldc 69, 2) := by decide +kernel
theorem dX8_wordOf_19 : decode cX8_wordOf 19 = .ok (.invokevirtual 70, 3) := by decide +kernel
theorem dX8_wordOf_22 : decode cX8_wordOf 22 = .ok (.ireturn, 1) := by decide +kernel
theorem dX8_wordOf_23 : decode cX8_wordOf 23 = .ok (.iload_n 2, 1) := by decide +kernel
theorem dX8_wordOf_24 : decode cX8_wordOf 24 = .ok (.tableswitch 60 0 3 #[32, 39, 46, 53], 32) := by decide +kernel
theorem dX8_wordOf_56 : decode cX8_wordOf 56 = .ok (.aload_n 3, 1) := by decide +kernel
theorem dX8_wordOf_57 : decode cX8_wordOf 57 = .ok (.getfield 156, 3) := by decide +kernel
theorem dX8_wordOf_60 : decode cX8_wordOf 60 = .ok (.iload_n 1, 1) := by decide +kernel
theorem dX8_wordOf_61 : decode cX8_wordOf 61 = .ok (.iaload, 1) := by decide +kernel
theorem dX8_wordOf_62 : decode cX8_wordOf 62 = .ok (.ireturn, 1) := by decide +kernel
theorem dX8_wordOf_63 : decode cX8_wordOf 63 = .ok (.aload_n 3, 1) := by decide +kernel
theorem dX8_wordOf_64 : decode cX8_wordOf 64 = .ok (.getfield 159, 3) := by decide +kernel
theorem dX8_wordOf_67 : decode cX8_wordOf 67 = .ok (.iload_n 1, 1) := by decide +kernel
theorem dX8_wordOf_68 : decode cX8_wordOf 68 = .ok (.iaload, 1) := by decide +kernel
theorem dX8_wordOf_69 : decode cX8_wordOf 69 = .ok (.ireturn, 1) := by decide +kernel
theorem dX8_wordOf_70 : decode cX8_wordOf 70 = .ok (.aload_n 3, 1) := by decide +kernel
theorem dX8_wordOf_71 : decode cX8_wordOf 71 = .ok (.getfield 162, 3) := by decide +kernel
theorem dX8_wordOf_74 : decode cX8_wordOf 74 = .ok (.iload_n 1, 1) := by decide +kernel
theorem dX8_wordOf_75 : decode cX8_wordOf 75 = .ok (.iaload, 1) := by decide +kernel
theorem dX8_wordOf_76 : decode cX8_wordOf 76 = .ok (.ireturn, 1) := by decide +kernel
theorem dX8_wordOf_77 : decode cX8_wordOf 77 = .ok (.aload_n 3, 1) := by decide +kernel
theorem dX8_wordOf_78 : decode cX8_wordOf 78 = .ok (.getfield 165, 3) := by decide +kernel
theorem dX8_wordOf_81 : decode cX8_wordOf 81 = .ok (.iload_n 1, 1) := by decide +kernel
theorem dX8_wordOf_82 : decode cX8_wordOf 82 = .ok (.iaload, 1) := by decide +kernel
theorem dX8_wordOf_83 : decode cX8_wordOf 83 = .ok (.ireturn, 1) := by decide +kernel
theorem dX8_wordOf_84 : decode cX8_wordOf 84 = .ok (.aload_n 0, 1) := by decide +kernel
theorem dX8_wordOf_85 : decode cX8_wordOf 85 = .ok (.ldc 69, 2) := by decide +kernel
theorem dX8_wordOf_87 : decode cX8_wordOf 87 = .ok (.invokevirtual 70, 3) := by decide +kernel
theorem dX8_wordOf_90 : decode cX8_wordOf 90 = .ok (.ireturn, 1) := by decide +kernel
theorem dX8_below_0 : decode cX8_below 0 = .ok (.aload_n 0, 1) := by decide +kernel
theorem dX8_below_1 : decode cX8_below 1 = .ok (.getfield 12, 3) := by decide +kernel
theorem dX8_below_4 : decode cX8_below 4 = .ok (.getfield 134, 3) := by decide +kernel
theorem dX8_below_7 : decode cX8_below 7 = .ok (.iload_n 1, 1) := by decide +kernel
theorem dX8_below_8 : decode cX8_below 8 = .ok (.invokevirtual 155, 3) := by decide +kernel
theorem dX8_below_11 : decode cX8_below 11 = .ok (.ifCond .ne 10, 3) := by decide +kernel
theorem dX8_below_14 : decode cX8_below 14 = .ok (.aload_n 0, 1) := by decide +kernel
theorem dX8_below_15 : decode cX8_below 15 = .ok (.ldc 69, 2) := by decide +kernel
theorem dX8_below_17 : decode cX8_below 17 = .ok (.invokevirtual 70, 3) := by decide +kernel
theorem dX8_below_20 : decode cX8_below 20 = .ok (.ireturn, 1) := by decide +kernel
theorem dX8_below_21 : decode cX8_below 21 = .ok (.aload_n 0, 1) := by decide +kernel
theorem dX8_below_22 : decode cX8_below 22 = .ok (.getfield 12, 3) := by decide +kernel
theorem dX8_below_25 : decode cX8_below 25 = .ok (.getfield 134, 3) := by decide +kernel
theorem dX8_below_28 : decode cX8_below 28 = .ok (.iload_n 1, 1) := by decide +kernel
theorem dX8_below_29 : decode cX8_below 29 = .ok (.invokevirtual 168, 3) := by decide +kernel
theorem dX8_below_32 : decode cX8_below 32 = .ok (.ireturn, 1) := by decide +kernel
theorem dX8_sign_0 : decode cX8_sign 0 = .ok (.aload_n 0, 1) := by decide +kernel
theorem dX8_sign_1 : decode cX8_sign 1 = .ok (.getfield 12, 3) := by decide +kernel
theorem dX8_sign_4 : decode cX8_sign 4 = .ok (.getfield 74, 3) := by decide +kernel
theorem dX8_sign_7 : decode cX8_sign 7 = .ok (.iload_n 1, 1) := by decide +kernel
theorem dX8_sign_8 : decode cX8_sign 8 = .ok (.invokevirtual 88, 3) := by decide +kernel
theorem dX8_sign_11 : decode cX8_sign 11 = .ok (.ifCond .eq 13, 3) := by decide +kernel
theorem dX8_sign_14 : decode cX8_sign 14 = .ok (.iload_n 2, 1) := by decide +kernel
theorem dX8_sign_15 : decode cX8_sign 15 = .ok (.iconst 0, 1) := by decide +kernel
theorem dX8_sign_16 : decode cX8_sign 16 = .ok (.bipush 6, 2) := by decide +kernel
theorem dX8_sign_18 : decode cX8_sign 18 = .ok (.invokestatic 65, 3) := by decide +kernel
theorem dX8_sign_21 : decode cX8_sign 21 = .ok (.ifCond .ne 10, 3) := by decide +kernel
theorem dX8_sign_24 : decode cX8_sign 24 = .ok (.aload_n 0, 1) := by decide +kernel
theorem dX8_sign_25 : decode cX8_sign 25 = .ok (.ldc 69, 2) := by decide +kernel
theorem dX8_sign_27 : decode cX8_sign 27 = .ok (.invokevirtual 70, 3) := by decide +kernel
theorem dX8_sign_30 : decode cX8_sign 30 = .ok (.ireturn, 1) := by decide +kernel
theorem dX8_sign_31 : decode cX8_sign 31 = .ok (.aload_n 0, 1) := by decide +kernel
theorem dX8_sign_32 : decode cX8_sign 32 = .ok (.getfield 44, 3) := by decide +kernel
theorem dX8_sign_35 : decode cX8_sign 35 = .ok (.aload_n 0, 1) := by decide +kernel
theorem dX8_sign_36 : decode cX8_sign 36 = .ok (.getfield 12, 3) := by decide +kernel
theorem dX8_sign_39 : decode cX8_sign 39 = .ok (.getfield 134, 3) := by decide +kernel
theorem dX8_sign_42 : decode cX8_sign 42 = .ok (.iload_n 1, 1) := by decide +kernel
theorem dX8_sign_43 : decode cX8_sign 43 = .ok (.invokevirtual 171, 3) := by decide +kernel
theorem dX8_sign_46 : decode cX8_sign 46 = .ok (.aload_n 0, 1) := by decide +kernel
theorem dX8_sign_47 : decode cX8_sign 47 = .ok (.getfield 44, 3) := by decide +kernel
theorem dX8_sign_50 : decode cX8_sign 50 = .ok (.getfield 175, 3) := by decide +kernel
theorem dX8_sign_53 : decode cX8_sign 53 = .ok (.iload_n 2, 1) := by decide +kernel
theorem dX8_sign_54 : decode cX8_sign 54 = .ok (.iaload, 1) := by decide +kernel
theorem dX8_sign_55 : decode cX8_sign 55 = .ok (.ireturn, 1) := by decide +kernel
theorem dX8_hours_0 : decode cX8_hours 0 = .ok (.aload_n 0, 1) := by decide +kernel
theorem dX8_hours_1 : decode cX8_hours 1 = .ok (.getfield 12, 3) := by decide +kernel
theorem dX8_hours_4 : decode cX8_hours 4 = .ok (.getfield 74, 3) := by decide +kernel
theorem dX8_hours_7 : decode cX8_hours 7 = .ok (.iload_n 1, 1) := by decide +kernel
theorem dX8_hours_8 : decode cX8_hours 8 = .ok (.invokevirtual 88, 3) := by decide +kernel
theorem dX8_hours_11 : decode cX8_hours 11 = .ok (.ifCond .ne 10, 3) := by decide +kernel
theorem dX8_hours_14 : decode cX8_hours 14 = .ok (.aload_n 0, 1) := by decide +kernel
theorem dX8_hours_15 : decode cX8_hours 15 = .ok (.ldc 69, 2) := by decide +kernel
theorem dX8_hours_17 : decode cX8_hours 17 = .ok (.invokevirtual 70, 3) := by decide +kernel
theorem dX8_hours_20 : decode cX8_hours 20 = .ok (.ireturn, 1) := by decide +kernel
theorem dX8_hours_21 : decode cX8_hours 21 = .ok (.aload_n 0, 1) := by decide +kernel
theorem dX8_hours_22 : decode cX8_hours 22 = .ok (.getfield 12, 3) := by decide +kernel
theorem dX8_hours_25 : decode cX8_hours 25 = .ok (.getfield 134, 3) := by decide +kernel
theorem dX8_hours_28 : decode cX8_hours 28 = .ok (.iload_n 1, 1) := by decide +kernel
theorem dX8_hours_29 : decode cX8_hours 29 = .ok (.invokevirtual 178, 3) := by decide +kernel
theorem dX8_hours_32 : decode cX8_hours 32 = .ok (.ireturn, 1) := by decide +kernel
theorem dX8_feed_0 : decode cX8_feed 0 = .ok (.iload_n 2, 1) := by decide +kernel
theorem dX8_feed_1 : decode cX8_feed 1 = .ok (.iconst 1, 1) := by decide +kernel
theorem dX8_feed_2 : decode cX8_feed 2 = .ok (.iconst 4, 1) := by decide +kernel
theorem dX8_feed_3 : decode cX8_feed 3 = .ok (.invokestatic 65, 3) := by decide +kernel
theorem dX8_feed_6 : decode cX8_feed 6 = .ok (.ifCond .ne 10, 3) := by decide +kernel
theorem dX8_feed_9 : decode cX8_feed 9 = .ok (.aload_n 0, 1) := by decide +kernel
theorem dX8_feed_10 : decode cX8_feed 10 = .ok (.ldc 69, 2) := by decide +kernel
theorem dX8_feed_12 : decode cX8_feed 12 = .ok (.invokevirtual 70, 3) := by decide +kernel
theorem dX8_feed_15 : decode cX8_feed 15 = .ok (.ireturn, 1) := by decide +kernel
theorem dX8_feed_16 : decode cX8_feed 16 = .ok (.aload_n 0, 1) := by decide +kernel
theorem dX8_feed_17 : decode cX8_feed 17 = .ok (.getfield 27, 3) := by decide +kernel
theorem dX8_feed_20 : decode cX8_feed 20 = .ok (.iload_n 2, 1) := by decide +kernel
theorem dX8_feed_21 : decode cX8_feed 21 = .ok (.iadd, 1) := by decide +kernel
theorem dX8_feed_22 : decode cX8_feed 22 = .ok (.bipush 80, 2) := by decide +kernel
theorem dX8_feed_24 : decode cX8_feed 24 = .ok (.if_icmp .le 10, 3) := by decide +kernel
theorem dX8_feed_27 : decode cX8_feed 27 = .ok (.aload_n 0, 1) := by decide +kernel
theorem dX8_feed_28 : decode cX8_feed 28 = .ok (.ldc 83, 2) := by decide +kernel
theorem dX8_feed_30 : decode cX8_feed 30 = .ok (.invokevirtual 70, 3) := by decide +kernel
theorem dX8_feed_33 : decode cX8_feed 33 = .ok (.ireturn, 1) := by decide +kernel
theorem dX8_feed_34 : decode cX8_feed 34 = .ok (.iload_n 2, 1) := by decide +kernel
theorem dX8_feed_35 : decode cX8_feed 35 = .ok (.iconst 1, 1) := by decide +kernel
theorem dX8_feed_36 : decode cX8_feed 36 = .ok (.isub, 1) := by decide +kernel
theorem dX8_feed_37 : decode cX8_feed 37 = .ok (.istore_n 3, 1) := by decide +kernel
theorem dX8_feed_38 : decode cX8_feed 38 = .ok (.iload_n 3, 1) := by decide +kernel
theorem dX8_feed_39 : decode cX8_feed 39 = .ok (.ifCond .lt 38, 3) := by decide +kernel
theorem dX8_feed_42 : decode cX8_feed 42 = .ok (.aload_n 0, 1) := by decide +kernel
theorem dX8_feed_43 : decode cX8_feed 43 = .ok (.getfield 23, 3) := by decide +kernel
theorem dX8_feed_46 : decode cX8_feed 46 = .ok (.aload_n 0, 1) := by decide +kernel
theorem dX8_feed_47 : decode cX8_feed 47 = .ok (.getfield 27, 3) := by decide +kernel
theorem dX8_feed_50 : decode cX8_feed 50 = .ok (.iload_n 1, 1) := by decide +kernel
theorem dX8_feed_51 : decode cX8_feed 51 = .ok (.bipush 8, 2) := by decide +kernel
theorem dX8_feed_53 : decode cX8_feed 53 = .ok (.iload_n 3, 1) := by decide +kernel
theorem dX8_feed_54 : decode cX8_feed 54 = .ok (.imul, 1) := by decide +kernel
theorem dX8_feed_55 : decode cX8_feed 55 = .ok (.iushr, 1) := by decide +kernel
theorem dX8_feed_56 : decode cX8_feed 56 = .ok (.sipush 255, 3) := by decide +kernel
theorem dX8_feed_59 : decode cX8_feed 59 = .ok (.iand, 1) := by decide +kernel
theorem dX8_feed_60 : decode cX8_feed 60 = .ok (.iastore, 1) := by decide +kernel
theorem dX8_feed_61 : decode cX8_feed 61 = .ok (.aload_n 0, 1) := by decide +kernel
theorem dX8_feed_62 : decode cX8_feed 62 = .ok (.dup, 1) := by decide +kernel
theorem dX8_feed_63 : decode cX8_feed 63 = .ok (.getfield 27, 3) := by decide +kernel
theorem dX8_feed_66 : decode cX8_feed 66 = .ok (.iconst 1, 1) := by decide +kernel
theorem dX8_feed_67 : decode cX8_feed 67 = .ok (.iadd, 1) := by decide +kernel
theorem dX8_feed_68 : decode cX8_feed 68 = .ok (.putfield 27, 3) := by decide +kernel
theorem dX8_feed_71 : decode cX8_feed 71 = .ok (.iinc 3 (-1), 3) := by decide +kernel
theorem dX8_feed_74 : decode cX8_feed 74 = .ok (.goto (-36), 3) := by decide +kernel
theorem dX8_feed_77 : decode cX8_feed 77 = .ok (.aload_n 0, 1) := by decide +kernel
theorem dX8_feed_78 : decode cX8_feed 78 = .ok (.getfield 27, 3) := by decide +kernel
theorem dX8_feed_81 : decode cX8_feed 81 = .ok (.ireturn, 1) := by decide +kernel
theorem dX8_wipe_0 : decode cX8_wipe 0 = .ok (.aload_n 0, 1) := by decide +kernel
theorem dX8_wipe_1 : decode cX8_wipe 1 = .ok (.getfield 27, 3) := by decide +kernel
theorem dX8_wipe_4 : decode cX8_wipe 4 = .ok (.istore_n 1, 1) := by decide +kernel
theorem dX8_wipe_5 : decode cX8_wipe 5 = .ok (.aload_n 0, 1) := by decide +kernel
theorem dX8_wipe_6 : decode cX8_wipe 6 = .ok (.iconst 0, 1) := by decide +kernel
theorem dX8_wipe_7 : decode cX8_wipe 7 = .ok (.putfield 27, 3) := by decide +kernel
theorem dX8_wipe_10 : decode cX8_wipe 10 = .ok (.iload_n 1, 1) := by decide +kernel
theorem dX8_wipe_11 : decode cX8_wipe 11 = .ok (.ireturn, 1) := by decide +kernel
theorem dX8_text_0 : decode cX8_text 0 = .ok (.aload_n 0, 1) := by decide +kernel
theorem dX8_text_1 : decode cX8_text 1 = .ok (.getfield 12, 3) := by decide +kernel
theorem dX8_text_4 : decode cX8_text 4 = .ok (.getfield 181, 3) := by decide +kernel
theorem dX8_text_7 : decode cX8_text 7 = .ok (.getfield 185, 3) := by decide +kernel
theorem dX8_text_10 : decode cX8_text 10 = .ok (.bipush 6, 2) := by decide +kernel
theorem dX8_text_12 : decode cX8_text 12 = .ok (.if_icmp .lt 10, 3) := by decide +kernel
theorem dX8_text_15 : decode cX8_text 15 = .ok (.aload_n 0, 1) := by decide +kernel
theorem dX8_text_16 : decode cX8_text 16 = .ok (.ldc 83, 2) := by decide +kernel
theorem dX8_text_18 : decode cX8_text 18 = .ok (.invokevirtual 70, 3) := by decide +kernel
theorem dX8_text_21 : decode cX8_text 21 = .ok (.ireturn, 1) := by decide +kernel
theorem dX8_text_22 : decode cX8_text 22 = .ok (.aload_n 0, 1) := by decide +kernel
theorem dX8_text_23 : decode cX8_text 23 = .ok (.getfield 51, 3) := by decide +kernel
theorem dX8_text_26 : decode cX8_text 26 = .ok (.aload_n 0, 1) := by decide +kernel
theorem dX8_text_27 : decode cX8_text 27 = .ok (.getfield 23, 3) := by decide +kernel
theorem dX8_text_30 : decode cX8_text 30 = .ok (.aload_n 0, 1) := by decide +kernel
theorem dX8_text_31 : decode cX8_text 31 = .ok (.getfield 27, 3) := by decide +kernel
theorem dX8_text_34 : decode cX8_text 34 = .ok (.aload_n 0, 1) := by decide +kernel
theorem dX8_text_35 : decode cX8_text 35 = .ok (.getfield 44, 3) := by decide +kernel
theorem dX8_text_38 : decode cX8_text 38 = .ok (.getfield 175, 3) := by decide +kernel
theorem dX8_text_41 : decode cX8_text 41 = .ok (.invokevirtual 188, 3) := by decide +kernel
theorem dX8_text_44 : decode cX8_text 44 = .ok (.pop, 1) := by decide +kernel
theorem dX8_text_45 : decode cX8_text 45 = .ok (.aload_n 0, 1) := by decide +kernel
theorem dX8_text_46 : decode cX8_text 46 = .ok (.getfield 27, 3) := by decide +kernel
theorem dX8_text_49 : decode cX8_text 49 = .ok (.istore_n 1, 1) := by decide +kernel
theorem dX8_text_50 : decode cX8_text 50 = .ok (.aload_n 0, 1) := by decide +kernel
theorem dX8_text_51 : decode cX8_text 51 = .ok (.iconst 0, 1) := by decide +kernel
theorem dX8_text_52 : decode cX8_text 52 = .ok (.putfield 27, 3) := by decide +kernel
theorem dX8_text_55 : decode cX8_text 55 = .ok (.aload_n 0, 1) := by decide +kernel
theorem dX8_text_56 : decode cX8_text 56 = .ok (.getfield 51, 3) := by decide +kernel
theorem dX8_text_59 : decode cX8_text 59 = .ok (.getfield 192, 3) := by decide +kernel
theorem dX8_text_62 : decode cX8_text 62 = .ok (.ifCond .lt 13, 3) := by decide +kernel
theorem dX8_text_65 : decode cX8_text 65 = .ok (.iconst (-1), 1) := by decide +kernel
theorem dX8_text_66 : decode cX8_text 66 = .ok (.aload_n 0, 1) := by decide +kernel
theorem dX8_text_67 : decode cX8_text 67 = .ok (.getfield 51, 3) := by decide +kernel
theorem dX8_text_70 : decode cX8_text 70 = .ok (.getfield 192, 3) := by decide +kernel
theorem dX8_text_73 : decode cX8_text 73 = .ok (.isub, 1) := by decide +kernel
theorem dX8_text_74 : decode cX8_text 74 = .ok (.ireturn, 1) := by decide +kernel
theorem dX8_text_75 : decode cX8_text 75 = .ok (.aload_n 0, 1) := by decide +kernel
theorem dX8_text_76 : decode cX8_text 76 = .ok (.getfield 12, 3) := by decide +kernel
theorem dX8_text_79 : decode cX8_text 79 = .ok (.getfield 181, 3) := by decide +kernel
theorem dX8_text_82 : decode cX8_text 82 = .ok (.aload_n 0, 1) := by decide +kernel
theorem dX8_text_83 : decode cX8_text 83 = .ok (.getfield 23, 3) := by decide +kernel
theorem dX8_text_86 : decode cX8_text 86 = .ok (.iload_n 1, 1) := by decide +kernel
theorem dX8_text_87 : decode cX8_text 87 = .ok (.invokevirtual 195, 3) := by decide +kernel
theorem dX8_text_90 : decode cX8_text 90 = .ok (.ireturn, 1) := by decide +kernel
theorem dX8_score_0 : decode cX8_score 0 = .ok (.aload_n 0, 1) := by decide +kernel
theorem dX8_score_1 : decode cX8_score 1 = .ok (.getfield 12, 3) := by decide +kernel
theorem dX8_score_4 : decode cX8_score 4 = .ok (.getfield 181, 3) := by decide +kernel
theorem dX8_score_7 : decode cX8_score 7 = .ok (.iload_n 1, 1) := by decide +kernel
theorem dX8_score_8 : decode cX8_score 8 = .ok (.invokevirtual 198, 3) := by decide +kernel
theorem dX8_score_11 : decode cX8_score 11 = .ok (.ifCond .eq 17, 3) := by decide +kernel
theorem dX8_score_14 : decode cX8_score 14 = .ok (.aload_n 0, 1) := by decide +kernel
theorem dX8_score_15 : decode cX8_score 15 = .ok (.getfield 12, 3) := by decide +kernel
theorem dX8_score_18 : decode cX8_score 18 = .ok (.getfield 74, 3) := by decide +kernel
theorem dX8_score_21 : decode cX8_score 21 = .ok (.iload_n 2, 1) := by decide +kernel
theorem dX8_score_22 : decode cX8_score 22 = .ok (.invokevirtual 88, 3) := by decide +kernel
theorem dX8_score_25 : decode cX8_score 25 = .ok (.ifCond .ne 10, 3) := by decide +kernel
theorem dX8_score_28 : decode cX8_score 28 = .ok (.aload_n 0, 1) := by decide +kernel
theorem dX8_score_29 : decode cX8_score 29 = .ok (.ldc 69, 2) := by decide +kernel
theorem dX8_score_31 : decode cX8_score 31 = .ok (.invokevirtual 70, 3) := by decide +kernel
theorem dX8_score_34 : decode cX8_score 34 = .ok (.ireturn, 1) := by decide +kernel
theorem dX8_score_35 : decode cX8_score 35 = .ok (.aload_n 0, 1) := by decide +kernel
theorem dX8_score_36 : decode cX8_score 36 = .ok (.iload_n 1, 1) := by decide +kernel
theorem dX8_score_37 : decode cX8_score 37 = .ok (.iload_n 2, 1) := by decide +kernel
theorem dX8_score_38 : decode cX8_score 38 = .ok (.invokevirtual 199, 3) := by decide +kernel
theorem dX8_score_41 : decode cX8_score 41 = .ok (.ireturn, 1) := by decide +kernel
theorem dX8_found_0 : decode cX8_found 0 = .ok (.aload_n 0, 1) := by decide +kernel
theorem dX8_found_1 : decode cX8_found 1 = .ok (.getfield 12, 3) := by decide +kernel
theorem dX8_found_4 : decode cX8_found 4 = .ok (.getfield 181, 3) := by decide +kernel
theorem dX8_found_7 : decode cX8_found 7 = .ok (.iload_n 1, 1) := by decide +kernel
theorem dX8_found_8 : decode cX8_found 8 = .ok (.invokevirtual 198, 3) := by decide +kernel
theorem dX8_found_11 : decode cX8_found 11 = .ok (.ifCond .eq 12, 3) := by decide +kernel
theorem dX8_found_14 : decode cX8_found 14 = .ok (.iload_n 3, 1) := by decide +kernel
theorem dX8_found_15 : decode cX8_found 15 = .ok (.iconst 0, 1) := by decide +kernel
theorem dX8_found_16 : decode cX8_found 16 = .ok (.iconst 2, 1) := by decide +kernel
theorem dX8_found_17 : decode cX8_found 17 = .ok (.invokestatic 65, 3) := by decide +kernel
theorem dX8_found_20 : decode cX8_found 20 = .ok (.ifCond .ne 10, 3) := by decide +kernel
theorem dX8_found_23 : decode cX8_found 23 = .ok (.aload_n 0, 1) := by decide +kernel
theorem dX8_found_24 : decode cX8_found 24 = .ok (.ldc 69, 2) := by decide +kernel
theorem dX8_found_26 : decode cX8_found 26 = .ok (.invokevirtual 70, 3) := by decide +kernel
theorem dX8_found_29 : decode cX8_found 29 = .ok (.ireturn, 1) := by decide +kernel
theorem dX8_found_30 : decode cX8_found 30 = .ok (.aload_n 0, 1) := by decide +kernel
theorem dX8_found_31 : decode cX8_found 31 = .ok (.iload_n 1, 1) := by decide +kernel
theorem dX8_found_32 : decode cX8_found 32 = .ok (.invokevirtual 202, 3) := by decide +kernel
theorem dX8_found_35 : decode cX8_found 35 = .ok (.iload_n 3, 1) := by decide +kernel
theorem dX8_found_36 : decode cX8_found 36 = .ok (.ifCond .ne 9, 3) := by decide +kernel
theorem dX8_found_39 : decode cX8_found 39 = .ok (.aload_n 0, 1) := by decide +kernel
theorem dX8_found_40 : decode cX8_found 40 = .ok (.iload_n 2, 1) := by decide +kernel
theorem dX8_found_41 : decode cX8_found 41 = .ok (.invokevirtual 206, 3) := by decide +kernel
theorem dX8_found_44 : decode cX8_found 44 = .ok (.ireturn, 1) := by decide +kernel
theorem dX8_found_45 : decode cX8_found 45 = .ok (.iload_n 3, 1) := by decide +kernel
theorem dX8_found_46 : decode cX8_found 46 = .ok (.iconst 1, 1) := by decide +kernel
theorem dX8_found_47 : decode cX8_found 47 = .ok (.if_icmp .ne 11, 3) := by decide +kernel
theorem dX8_found_50 : decode cX8_found 50 = .ok (.aload_n 0, 1) := by decide +kernel
theorem dX8_found_51 : decode cX8_found 51 = .ok (.iload_n 2, 1) := by decide +kernel
theorem dX8_found_52 : decode cX8_found 52 = .ok (.invokevirtual 209, 3) := by decide +kernel
theorem dX8_found_55 : decode cX8_found 55 = .ok (.goto 8, 3) := by decide +kernel
theorem dX8_found_58 : decode cX8_found 58 = .ok (.aload_n 0, 1) := by decide +kernel
theorem dX8_found_59 : decode cX8_found 59 = .ok (.iload_n 2, 1) := by decide +kernel
theorem dX8_found_60 : decode cX8_found 60 = .ok (.invokevirtual 212, 3) := by decide +kernel
theorem dX8_found_63 : decode cX8_found 63 = .ok (.ireturn, 1) := by decide +kernel
theorem dX8_line_0 : decode cX8_line 0 = .ok (.aload_n 0, 1) := by decide +kernel
theorem dX8_line_1 : decode cX8_line 1 = .ok (.getfield 12, 3) := by decide +kernel
theorem dX8_line_4 : decode cX8_line 4 = .ok (.getfield 181, 3) := by decide +kernel
theorem dX8_line_7 : decode cX8_line 7 = .ok (.iload_n 1, 1) := by decide +kernel
theorem dX8_line_8 : decode cX8_line 8 = .ok (.invokevirtual 198, 3) := by decide +kernel
theorem dX8_line_11 : decode cX8_line 11 = .ok (.ifCond .eq 27, 3) := by decide +kernel
theorem dX8_line_14 : decode cX8_line 14 = .ok (.iload_n 2, 1) := by decide +kernel
theorem dX8_line_15 : decode cX8_line 15 = .ok (.iconst 0, 1) := by decide +kernel
theorem dX8_line_16 : decode cX8_line 16 = .ok (.bipush 99, 2) := by decide +kernel
theorem dX8_line_18 : decode cX8_line 18 = .ok (.invokestatic 65, 3) := by decide +kernel
theorem dX8_line_21 : decode cX8_line 21 = .ok (.ifCond .eq 17, 3) := by decide +kernel
theorem dX8_line_24 : decode cX8_line 24 = .ok (.iload_n 3, 1) := by decide +kernel
theorem dX8_line_25 : decode cX8_line 25 = .ok (.iconst 0, 1) := by decide +kernel
theorem dX8_line_26 : decode cX8_line 26 = .ok (.bipush 99, 2) := by decide +kernel
theorem dX8_line_28 : decode cX8_line 28 = .ok (.invokestatic 65, 3) := by decide +kernel
theorem dX8_line_31 : decode cX8_line 31 = .ok (.ifCond .eq 7, 3) := by decide +kernel
theorem dX8_line_34 : decode cX8_line 34 = .ok (.iconst 1, 1) := by decide +kernel
theorem dX8_line_35 : decode cX8_line 35 = .ok (.goto 4, 3) := by decide +kernel
theorem dX8_line_38 : decode cX8_line 38 = .ok (.iconst 0, 1) := by decide +kernel
theorem dX8_line_39 : decode cX8_line 39 = .ok (.istore 5, 2) := by decide +kernel
theorem dX8_line_41 : decode cX8_line 41 = .ok (.iload 5, 2) := by decide +kernel
theorem dX8_line_43 : decode cX8_line 43 = .ok (.ifCond .eq 13, 3) := by decide +kernel
theorem dX8_line_46 : decode cX8_line 46 = .ok (.iload 4, 2) := by decide +kernel
theorem dX8_line_48 : decode cX8_line 48 = .ok (.iconst 0, 1) := by decide +kernel
theorem dX8_line_49 : decode cX8_line 49 = .ok (.iconst 1, 1) := by decide +kernel
theorem dX8_line_50 : decode cX8_line 50 = .ok (.invokestatic 65, 3) := by decide +kernel
theorem dX8_line_53 : decode cX8_line 53 = .ok (.ifCond .ne 10, 3) := by decide +kernel
theorem dX8_line_56 : decode cX8_line 56 = .ok (.aload_n 0, 1) := by decide +kernel
theorem dX8_line_57 : decode cX8_line 57 = .ok (.ldc 69, 2) := by decide +kernel
theorem dX8_line_59 : decode cX8_line 59 = .ok (.invokevirtual 70, 3) := by decide +kernel
theorem dX8_line_62 : decode cX8_line 62 = .ok (.ireturn, 1) := by decide +kernel
theorem dX8_line_63 : decode cX8_line 63 = .ok (.aload_n 0, 1) := by decide +kernel
theorem dX8_line_64 : decode cX8_line 64 = .ok (.iload_n 1, 1) := by decide +kernel
theorem dX8_line_65 : decode cX8_line 65 = .ok (.invokevirtual 202, 3) := by decide +kernel
theorem dX8_line_68 : decode cX8_line 68 = .ok (.sipush (-200), 3) := by decide +kernel
theorem dX8_line_71 : decode cX8_line 71 = .ok (.istore 6, 2) := by decide +kernel
theorem dX8_line_73 : decode cX8_line 73 = .ok (.aload_n 0, 1) := by decide +kernel
theorem dX8_line_74 : decode cX8_line 74 = .ok (.iload 6, 2) := by decide +kernel
theorem dX8_line_76 : decode cX8_line 76 = .ok (.iload_n 2, 1) := by decide +kernel
theorem dX8_line_77 : decode cX8_line 77 = .ok (.iload_n 3, 1) := by decide +kernel
theorem dX8_line_78 : decode cX8_line 78 = .ok (.invokevirtual 215, 3) := by decide +kernel
theorem dX8_line_81 : decode cX8_line 81 = .ok (.istore 7, 2) := by decide +kernel
theorem dX8_line_83 : decode cX8_line 83 = .ok (.sipush (-199), 3) := by decide +kernel
theorem dX8_line_86 : decode cX8_line 86 = .ok (.istore 8, 2) := by decide +kernel
theorem dX8_line_88 : decode cX8_line 88 = .ok (.iload 8, 2) := by decide +kernel
theorem dX8_line_90 : decode cX8_line 90 = .ok (.sipush 200, 3) := by decide +kernel
theorem dX8_line_93 : decode cX8_line 93 = .ok (.if_icmp .gt 34, 3) := by decide +kernel
theorem dX8_line_96 : decode cX8_line 96 = .ok (.aload_n 0, 1) := by decide +kernel
theorem dX8_line_97 : decode cX8_line 97 = .ok (.iload 8, 2) := by decide +kernel
theorem dX8_line_99 : decode cX8_line 99 = .ok (.iload_n 2, 1) := by decide +kernel
theorem dX8_line_100 : decode cX8_line 100 = .ok (.iload_n 3, 1) := by decide +kernel
theorem dX8_line_101 : decode cX8_line 101 = .ok (.invokevirtual 215, 3) := by decide +kernel
theorem dX8_line_104 : decode cX8_line 104 = .ok (.istore 9, 2) := by decide +kernel
theorem dX8_line_106 : decode cX8_line 106 = .ok (.iload 9, 2) := by decide +kernel
theorem dX8_line_108 : decode cX8_line 108 = .ok (.iload 7, 2) := by decide +kernel
theorem dX8_line_110 : decode cX8_line 110 = .ok (.if_icmp .ge 11, 3) := by decide +kernel
theorem dX8_line_113 : decode cX8_line 113 = .ok (.iload 9, 2) := by decide +kernel
theorem dX8_line_115 : decode cX8_line 115 = .ok (.istore 7, 2) := by decide +kernel
theorem dX8_line_117 : decode cX8_line 117 = .ok (.iload 8, 2) := by decide +kernel
theorem dX8_line_119 : decode cX8_line 119 = .ok (.istore 6, 2) := by decide +kernel
theorem dX8_line_121 : decode cX8_line 121 = .ok (.iinc 8 1, 3) := by decide +kernel
theorem dX8_line_124 : decode cX8_line 124 = .ok (.goto (-36), 3) := by decide +kernel
theorem dX8_line_127 : decode cX8_line 127 = .ok (.iload 4, 2) := by decide +kernel
theorem dX8_line_129 : decode cX8_line 129 = .ok (.ifCond .ne 8, 3) := by decide +kernel
theorem dX8_line_132 : decode cX8_line 132 = .ok (.iload 6, 2) := by decide +kernel
theorem dX8_line_134 : decode cX8_line 134 = .ok (.goto 5, 3) := by decide +kernel
theorem dX8_line_137 : decode cX8_line 137 = .ok (.iload 7, 2) := by decide +kernel
theorem dX8_line_139 : decode cX8_line 139 = .ok (.ireturn, 1) := by decide +kernel
theorem dX8_shutAll_0 : decode cX8_shutAll 0 = .ok (.aload_n 0, 1) := by decide +kernel
theorem dX8_shutAll_1 : decode cX8_shutAll 1 = .ok (.getfield 12, 3) := by decide +kernel
theorem dX8_shutAll_4 : decode cX8_shutAll 4 = .ok (.getfield 181, 3) := by decide +kernel
theorem dX8_shutAll_7 : decode cX8_shutAll 7 = .ok (.iload_n 1, 1) := by decide +kernel
theorem dX8_shutAll_8 : decode cX8_shutAll 8 = .ok (.invokevirtual 198, 3) := by decide +kernel
theorem dX8_shutAll_11 : decode cX8_shutAll 11 = .ok (.ifCond .ne 10, 3) := by decide +kernel
theorem dX8_shutAll_14 : decode cX8_shutAll 14 = .ok (.aload_n 0, 1) := by decide +kernel
theorem dX8_shutAll_15 : decode cX8_shutAll 15 = .ok (.ldc 69, 2) := by decide +kernel
theorem dX8_shutAll_17 : decode cX8_shutAll 17 = .ok (.invokevirtual 70, 3) := by decide +kernel
theorem dX8_shutAll_20 : decode cX8_shutAll 20 = .ok (.ireturn, 1) := by decide +kernel
theorem dX8_shutAll_21 : decode cX8_shutAll 21 = .ok (.aload_n 0, 1) := by decide +kernel
theorem dX8_shutAll_22 : decode cX8_shutAll 22 = .ok (.iload_n 1, 1) := by decide +kernel
theorem dX8_shutAll_23 : decode cX8_shutAll 23 = .ok (.invokevirtual 202, 3) := by decide +kernel
theorem dX8_shutAll_26 : decode cX8_shutAll 26 = .ok (.aload_n 0, 1) := by decide +kernel
theorem dX8_shutAll_27 : decode cX8_shutAll 27 = .ok (.iload_n 2, 1) := by decide +kernel
theorem dX8_shutAll_28 : decode cX8_shutAll 28 = .ok (.invokevirtual 206, 3) := by decide +kernel
theorem dX8_shutAll_31 : decode cX8_shutAll 31 = .ok (.aload_n 0, 1) := by decide +kernel
theorem dX8_shutAll_32 : decode cX8_shutAll 32 = .ok (.getfield 12, 3) := by decide +kernel
theorem dX8_shutAll_35 : decode cX8_shutAll 35 = .ok (.getfield 74, 3) := by decide +kernel
theorem dX8_shutAll_38 : decode cX8_shutAll 38 = .ok (.getfield 92, 3) := by decide +kernel
theorem dX8_shutAll_41 : decode cX8_shutAll 41 = .ok (.iconst (-1), 1) := by decide +kernel
theorem dX8_shutAll_42 : decode cX8_shutAll 42 = .ok (.ixor, 1) := by decide +kernel
theorem dX8_shutAll_43 : decode cX8_shutAll 43 = .ok (.iand, 1) := by decide +kernel
theorem dX8_shutAll_44 : decode cX8_shutAll 44 = .ok (.istore_n 3, 1) := by decide +kernel
theorem dX8_shutAll_45 : decode cX8_shutAll 45 = .ok (.aload_n 0, 1) := by decide +kernel
theorem dX8_shutAll_46 : decode cX8_shutAll 46 = .ok (.getfield 12, 3) := by decide +kernel
theorem dX8_shutAll_49 : decode cX8_shutAll 49 = .ok (.getfield 74, 3) := by decide +kernel
theorem dX8_shutAll_52 : decode cX8_shutAll 52 = .ok (.dup, 1) := by decide +kernel
theorem dX8_shutAll_53 : decode cX8_shutAll 53 = .ok (.getfield 92, 3) := by decide +kernel
theorem dX8_shutAll_56 : decode cX8_shutAll 56 = .ok (.iload_n 3, 1) := by decide +kernel
theorem dX8_shutAll_57 : decode cX8_shutAll 57 = .ok (.ior, 1) := by decide +kernel
theorem dX8_shutAll_58 : decode cX8_shutAll 58 = .ok (.putfield 92, 3) := by decide +kernel
theorem dX8_shutAll_61 : decode cX8_shutAll 61 = .ok (.iload_n 3, 1) := by decide +kernel
theorem dX8_shutAll_62 : decode cX8_shutAll 62 = .ok (.invokestatic 117, 3) := by decide +kernel
theorem dX8_shutAll_65 : decode cX8_shutAll 65 = .ok (.ireturn, 1) := by decide +kernel
theorem dX8_ask_0 : decode cX8_ask 0 = .ok (.aload_n 0, 1) := by decide +kernel
theorem dX8_ask_1 : decode cX8_ask 1 = .ok (.getfield 12, 3) := by decide +kernel
theorem dX8_ask_4 : decode cX8_ask 4 = .ok (.getfield 181, 3) := by decide +kernel
theorem dX8_ask_7 : decode cX8_ask 7 = .ok (.iload_n 1, 1) := by decide +kernel
theorem dX8_ask_8 : decode cX8_ask 8 = .ok (.invokevirtual 198, 3) := by decide +kernel
theorem dX8_ask_11 : decode cX8_ask 11 = .ok (.ifCond .eq 16, 3) := by decide +kernel
theorem dX8_ask_14 : decode cX8_ask 14 = .ok (.iload_n 2, 1) := by decide +kernel
theorem dX8_ask_15 : decode cX8_ask 15 = .ok (.sipush (-9999), 3) := by decide +kernel
theorem dX8_ask_18 : decode cX8_ask 18 = .ok (.sipush 9999, 3) := by decide +kernel
theorem dX8_ask_21 : decode cX8_ask 21 = .ok (.invokestatic 65, 3) := by decide +kernel
theorem dX8_ask_24 : decode cX8_ask 24 = .ok (.ifCond .ne 10, 3) := by decide +kernel
theorem dX8_ask_27 : decode cX8_ask 27 = .ok (.aload_n 0, 1) := by decide +kernel
theorem dX8_ask_28 : decode cX8_ask 28 = .ok (.ldc 69, 2) := by decide +kernel
theorem dX8_ask_30 : decode cX8_ask 30 = .ok (.invokevirtual 70, 3) := by decide +kernel
theorem dX8_ask_33 : decode cX8_ask 33 = .ok (.ireturn, 1) := by decide +kernel
theorem dX8_ask_34 : decode cX8_ask 34 = .ok (.iconst (-1), 1) := by decide +kernel
theorem dX8_ask_35 : decode cX8_ask 35 = .ok (.istore_n 3, 1) := by decide +kernel
theorem dX8_ask_36 : decode cX8_ask 36 = .ok (.lconst 0, 1) := by decide +kernel
theorem dX8_ask_37 : decode cX8_ask 37 = .ok (.lstore 4, 2) := by decide +kernel
theorem dX8_ask_39 : decode cX8_ask 39 = .ok (.iconst 0, 1) := by decide +kernel
theorem dX8_ask_40 : decode cX8_ask 40 = .ok (.istore 6, 2) := by decide +kernel
theorem dX8_ask_42 : decode cX8_ask 42 = .ok (.iload 6, 2) := by decide +kernel
theorem dX8_ask_44 : decode cX8_ask 44 = .ok (.aload_n 0, 1) := by decide +kernel
theorem dX8_ask_45 : decode cX8_ask 45 = .ok (.getfield 12, 3) := by decide +kernel
theorem dX8_ask_48 : decode cX8_ask 48 = .ok (.getfield 74, 3) := by decide +kernel
theorem dX8_ask_51 : decode cX8_ask 51 = .ok (.getfield 78, 3) := by decide +kernel
theorem dX8_ask_54 : decode cX8_ask 54 = .ok (.if_icmp .ge 65, 3) := by decide +kernel
theorem dX8_ask_57 : decode cX8_ask 57 = .ok (.aload_n 0, 1) := by decide +kernel
theorem dX8_ask_58 : decode cX8_ask 58 = .ok (.getfield 12, 3) := by decide +kernel
theorem dX8_ask_61 : decode cX8_ask 61 = .ok (.getfield 74, 3) := by decide +kernel
theorem dX8_ask_64 : decode cX8_ask 64 = .ok (.getfield 219, 3) := by decide +kernel
theorem dX8_ask_67 : decode cX8_ask 67 = .ok (.iload 6, 2) := by decide +kernel
theorem dX8_ask_69 : decode cX8_ask 69 = .ok (.invokestatic 95, 3) := by decide +kernel
theorem dX8_ask_72 : decode cX8_ask 72 = .ok (.ifCond .eq 6, 3) := by decide +kernel
theorem dX8_ask_75 : decode cX8_ask 75 = .ok (.goto 38, 3) := by decide +kernel
theorem dX8_ask_78 : decode cX8_ask 78 = .ok (.aload_n 0, 1) := by decide +kernel
theorem dX8_ask_79 : decode cX8_ask 79 = .ok (.iload_n 1, 1) := by decide +kernel
theorem dX8_ask_80 : decode cX8_ask 80 = .ok (.iload 6, 2) := by decide +kernel
theorem dX8_ask_82 : decode cX8_ask 82 = .ok (.invokevirtual 199, 3) := by decide +kernel
theorem dX8_ask_85 : decode cX8_ask 85 = .ok (.i2l, 1) := by decide +kernel
theorem dX8_ask_86 : decode cX8_ask 86 = .ok (.iload_n 2, 1) := by decide +kernel
theorem dX8_ask_87 : decode cX8_ask 87 = .ok (.i2l, 1) := by decide +kernel
theorem dX8_ask_88 : decode cX8_ask 88 = .ok (.lsub, 1) := by decide +kernel
theorem dX8_ask_89 : decode cX8_ask 89 = .ok (.invokestatic 222, 3) := by decide +kernel
theorem dX8_ask_92 : decode cX8_ask 92 = .ok (.lstore 7, 2) := by decide +kernel
theorem dX8_ask_94 : decode cX8_ask 94 = .ok (.iload_n 3, 1) := by decide +kernel
theorem dX8_ask_95 : decode cX8_ask 95 = .ok (.ifCond .lt 11, 3) := by decide +kernel
theorem dX8_ask_98 : decode cX8_ask 98 = .ok (.lload 7, 2) := by decide +kernel
theorem dX8_ask_100 : decode cX8_ask 100 = .ok (.lload 4, 2) := by decide +kernel
theorem dX8_ask_102 : decode cX8_ask 102 = .ok (.lcmp, 1) := by decide +kernel
theorem dX8_ask_103 : decode cX8_ask 103 = .ok (.ifCond .ge 10, 3) := by decide +kernel
theorem dX8_ask_106 : decode cX8_ask 106 = .ok (.iload 6, 2) := by decide +kernel
theorem dX8_ask_108 : decode cX8_ask 108 = .ok (.istore_n 3, 1) := by decide +kernel
theorem dX8_ask_109 : decode cX8_ask 109 = .ok (.lload 7, 2) := by decide +kernel
theorem dX8_ask_111 : decode cX8_ask 111 = .ok (.lstore 4, 2) := by decide +kernel
theorem dX8_ask_113 : decode cX8_ask 113 = .ok (.iinc 6 1, 3) := by decide +kernel
theorem dX8_ask_116 : decode cX8_ask 116 = .ok (.goto (-74), 3) := by decide +kernel
theorem dX8_ask_119 : decode cX8_ask 119 = .ok (.iload_n 3, 1) := by decide +kernel
theorem dX8_ask_120 : decode cX8_ask 120 = .ok (.ifCond .ge 12, 3) := by decide +kernel
theorem dX8_ask_123 : decode cX8_ask 123 = .ok (.aload_n 0, 1) := by decide +kernel
theorem dX8_ask_124 : decode cX8_ask 124 = .ok (.ldc 133, 2) := by decide +kernel
theorem dX8_ask_126 : decode cX8_ask 126 = .ok (.invokevirtual 70, 3) := by decide +kernel
theorem dX8_ask_129 : decode cX8_ask 129 = .ok (.goto 4, 3) := by decide +kernel
theorem dX8_ask_132 : decode cX8_ask 132 = .ok (.iload_n 3, 1) := by decide +kernel
theorem dX8_ask_133 : decode cX8_ask 133 = .ok (.ireturn, 1) := by decide +kernel
theorem dX8_asked_0 : decode cX8_asked 0 = .ok (.aload_n 0, 1) := by decide +kernel
theorem dX8_asked_1 : decode cX8_asked 1 = .ok (.getfield 12, 3) := by decide +kernel
theorem dX8_asked_4 : decode cX8_asked 4 = .ok (.getfield 74, 3) := by decide +kernel
theorem dX8_asked_7 : decode cX8_asked 7 = .ok (.astore_n 2, 1) := by decide +kernel
theorem dX8_asked_8 : decode cX8_asked 8 = .ok (.aload_n 2, 1) := by decide +kernel
theorem dX8_asked_9 : decode cX8_asked 9 = .ok (.iload_n 1, 1) := by decide +kernel
theorem dX8_asked_10 : decode cX8_asked 10 = .ok (.invokevirtual 88, 3) := by decide +kernel
theorem dX8_asked_13 : decode cX8_asked 13 = .ok (.ifCond .ne 10, 3) := by decide +kernel
theorem dX8_asked_16 : decode cX8_asked 16 = .ok (.aload_n 0, 1) := by decide +kernel
theorem dX8_asked_17 : decode cX8_asked 17 = .ok (.ldc 69, 2) := by decide +kernel
theorem dX8_asked_19 : decode cX8_asked 19 = .ok (.invokevirtual 70, 3) := by decide +kernel
theorem dX8_asked_22 : decode cX8_asked 22 = .ok (.ireturn, 1) := by decide +kernel
theorem dX8_asked_23 : decode cX8_asked 23 = .ok (.aload_n 2, 1) := by decide +kernel
theorem dX8_asked_24 : decode cX8_asked 24 = .ok (.getfield 219, 3) := by decide +kernel
theorem dX8_asked_27 : decode cX8_asked 27 = .ok (.iload_n 1, 1) := by decide +kernel
theorem dX8_asked_28 : decode cX8_asked 28 = .ok (.invokestatic 95, 3) := by decide +kernel
theorem dX8_asked_31 : decode cX8_asked 31 = .ok (.ifCond .eq 10, 3) := by decide +kernel
theorem dX8_asked_34 : decode cX8_asked 34 = .ok (.aload_n 0, 1) := by decide +kernel
theorem dX8_asked_35 : decode cX8_asked 35 = .ok (.ldc 143, 2) := by decide +kernel
theorem dX8_asked_37 : decode cX8_asked 37 = .ok (.invokevirtual 70, 3) := by decide +kernel
theorem dX8_asked_40 : decode cX8_asked 40 = .ok (.ireturn, 1) := by decide +kernel
theorem dX8_asked_41 : decode cX8_asked 41 = .ok (.aload_n 2, 1) := by decide +kernel
theorem dX8_asked_42 : decode cX8_asked 42 = .ok (.dup, 1) := by decide +kernel
theorem dX8_asked_43 : decode cX8_asked 43 = .ok (.getfield 219, 3) := by decide +kernel
theorem dX8_asked_46 : decode cX8_asked 46 = .ok (.iconst 1, 1) := by decide +kernel
theorem dX8_asked_47 : decode cX8_asked 47 = .ok (.iload_n 1, 1) := by decide +kernel
theorem dX8_asked_48 : decode cX8_asked 48 = .ok (.ishl, 1) := by decide +kernel
theorem dX8_asked_49 : decode cX8_asked 49 = .ok (.ior, 1) := by decide +kernel
theorem dX8_asked_50 : decode cX8_asked 50 = .ok (.putfield 219, 3) := by decide +kernel
theorem dX8_asked_53 : decode cX8_asked 53 = .ok (.aload_n 2, 1) := by decide +kernel
theorem dX8_asked_54 : decode cX8_asked 54 = .ok (.getfield 219, 3) := by decide +kernel
theorem dX8_asked_57 : decode cX8_asked 57 = .ok (.invokestatic 117, 3) := by decide +kernel
theorem dX8_asked_60 : decode cX8_asked 60 = .ok (.ireturn, 1) := by decide +kernel
theorem dX8_together_0 : decode cX8_together 0 = .ok (.aload_n 0, 1) := by decide +kernel
theorem dX8_together_1 : decode cX8_together 1 = .ok (.iload_n 1, 1) := by decide +kernel
theorem dX8_together_2 : decode cX8_together 2 = .ok (.iload_n 2, 1) := by decide +kernel
theorem dX8_together_3 : decode cX8_together 3 = .ok (.invokevirtual 226, 3) := by decide +kernel
theorem dX8_together_6 : decode cX8_together 6 = .ok (.ifCond .eq 10, 3) := by decide +kernel
theorem dX8_together_9 : decode cX8_together 9 = .ok (.iload_n 3, 1) := by decide +kernel
theorem dX8_together_10 : decode cX8_together 10 = .ok (.invokestatic 229, 3) := by decide +kernel
theorem dX8_together_13 : decode cX8_together 13 = .ok (.ifCond .ne 10, 3) := by decide +kernel
theorem dX8_together_16 : decode cX8_together 16 = .ok (.aload_n 0, 1) := by decide +kernel
theorem dX8_together_17 : decode cX8_together 17 = .ok (.ldc 69, 2) := by decide +kernel
theorem dX8_together_19 : decode cX8_together 19 = .ok (.invokevirtual 70, 3) := by decide +kernel
theorem dX8_together_22 : decode cX8_together 22 = .ok (.ireturn, 1) := by decide +kernel
theorem dX8_together_23 : decode cX8_together 23 = .ok (.aload_n 0, 1) := by decide +kernel
theorem dX8_together_24 : decode cX8_together 24 = .ok (.getfield 12, 3) := by decide +kernel
theorem dX8_together_27 : decode cX8_together 27 = .ok (.getfield 134, 3) := by decide +kernel
theorem dX8_together_30 : decode cX8_together 30 = .ok (.iload_n 1, 1) := by decide +kernel
theorem dX8_together_31 : decode cX8_together 31 = .ok (.iload_n 2, 1) := by decide +kernel
theorem dX8_together_32 : decode cX8_together 32 = .ok (.iload_n 3, 1) := by decide +kernel
theorem dX8_together_33 : decode cX8_together 33 = .ok (.invokevirtual 232, 3) := by decide +kernel
theorem dX8_together_36 : decode cX8_together 36 = .ok (.ireturn, 1) := by decide +kernel
theorem dX8_group_0 : decode cX8_group 0 = .ok (.aload_n 0, 1) := by decide +kernel
theorem dX8_group_1 : decode cX8_group 1 = .ok (.getfield 12, 3) := by decide +kernel
theorem dX8_group_4 : decode cX8_group 4 = .ok (.getfield 74, 3) := by decide +kernel
theorem dX8_group_7 : decode cX8_group 7 = .ok (.iload_n 1, 1) := by decide +kernel
theorem dX8_group_8 : decode cX8_group 8 = .ok (.invokevirtual 88, 3) := by decide +kernel
theorem dX8_group_11 : decode cX8_group 11 = .ok (.ifCond .eq 24, 3) := by decide +kernel
theorem dX8_group_14 : decode cX8_group 14 = .ok (.iload_n 2, 1) := by decide +kernel
theorem dX8_group_15 : decode cX8_group 15 = .ok (.invokestatic 229, 3) := by decide +kernel
theorem dX8_group_18 : decode cX8_group 18 = .ok (.ifCond .eq 17, 3) := by decide +kernel
theorem dX8_group_21 : decode cX8_group 21 = .ok (.iload_n 3, 1) := by decide +kernel
theorem dX8_group_22 : decode cX8_group 22 = .ok (.iconst 1, 1) := by decide +kernel
theorem dX8_group_23 : decode cX8_group 23 = .ok (.bipush 99, 2) := by decide +kernel
theorem dX8_group_25 : decode cX8_group 25 = .ok (.invokestatic 65, 3) := by decide +kernel
theorem dX8_group_28 : decode cX8_group 28 = .ok (.ifCond .eq 7, 3) := by decide +kernel
theorem dX8_group_31 : decode cX8_group 31 = .ok (.iconst 1, 1) := by decide +kernel
theorem dX8_group_32 : decode cX8_group 32 = .ok (.goto 4, 3) := by decide +kernel
theorem dX8_group_35 : decode cX8_group 35 = .ok (.iconst 0, 1) := by decide +kernel
theorem dX8_group_36 : decode cX8_group 36 = .ok (.istore 5, 2) := by decide +kernel
theorem dX8_group_38 : decode cX8_group 38 = .ok (.iload 5, 2) := by decide +kernel
theorem dX8_group_40 : decode cX8_group 40 = .ok (.ifCond .eq 13, 3) := by decide +kernel
theorem dX8_group_43 : decode cX8_group 43 = .ok (.iload 4, 2) := by decide +kernel
theorem dX8_group_45 : decode cX8_group 45 = .ok (.iconst 0, 1) := by decide +kernel
theorem dX8_group_46 : decode cX8_group 46 = .ok (.iconst 2, 1) := by decide +kernel
theorem dX8_group_47 : decode cX8_group 47 = .ok (.invokestatic 65, 3) := by decide +kernel
theorem dX8_group_50 : decode cX8_group 50 = .ok (.ifCond .ne 10, 3) := by decide +kernel
theorem dX8_group_53 : decode cX8_group 53 = .ok (.aload_n 0, 1) := by decide +kernel
theorem dX8_group_54 : decode cX8_group 54 = .ok (.ldc 69, 2) := by decide +kernel
theorem dX8_group_56 : decode cX8_group 56 = .ok (.invokevirtual 70, 3) := by decide +kernel
theorem dX8_group_59 : decode cX8_group 59 = .ok (.ireturn, 1) := by decide +kernel
theorem dX8_group_60 : decode cX8_group 60 = .ok (.aload_n 0, 1) := by decide +kernel
theorem dX8_group_61 : decode cX8_group 61 = .ok (.getfield 58, 3) := by decide +kernel
theorem dX8_group_64 : decode cX8_group 64 = .ok (.aload_n 0, 1) := by decide +kernel
theorem dX8_group_65 : decode cX8_group 65 = .ok (.getfield 12, 3) := by decide +kernel
theorem dX8_group_68 : decode cX8_group 68 = .ok (.getfield 134, 3) := by decide +kernel
theorem dX8_group_71 : decode cX8_group 71 = .ok (.aload_n 0, 1) := by decide +kernel
theorem dX8_group_72 : decode cX8_group 72 = .ok (.getfield 12, 3) := by decide +kernel
theorem dX8_group_75 : decode cX8_group 75 = .ok (.getfield 74, 3) := by decide +kernel
theorem dX8_group_78 : decode cX8_group 78 = .ok (.getfield 78, 3) := by decide +kernel
theorem dX8_group_81 : decode cX8_group 81 = .ok (.iload_n 2, 1) := by decide +kernel
theorem dX8_group_82 : decode cX8_group 82 = .ok (.iload_n 3, 1) := by decide +kernel
theorem dX8_group_83 : decode cX8_group 83 = .ok (.invokevirtual 235, 3) := by decide +kernel
theorem dX8_group_86 : decode cX8_group 86 = .ok (.iload 4, 2) := by decide +kernel
theorem dX8_group_88 : decode cX8_group 88 = .ok (.ifCond .ne 13, 3) := by decide +kernel
theorem dX8_group_91 : decode cX8_group 91 = .ok (.aload_n 0, 1) := by decide +kernel
theorem dX8_group_92 : decode cX8_group 92 = .ok (.getfield 58, 3) := by decide +kernel
theorem dX8_group_95 : decode cX8_group 95 = .ok (.getfield 238, 3) := by decide +kernel
theorem dX8_group_98 : decode cX8_group 98 = .ok (.iload_n 1, 1) := by decide +kernel
theorem dX8_group_99 : decode cX8_group 99 = .ok (.iaload, 1) := by decide +kernel
theorem dX8_group_100 : decode cX8_group 100 = .ok (.ireturn, 1) := by decide +kernel
theorem dX8_group_101 : decode cX8_group 101 = .ok (.aload_n 0, 1) := by decide +kernel
theorem dX8_group_102 : decode cX8_group 102 = .ok (.getfield 58, 3) := by decide +kernel
theorem dX8_group_105 : decode cX8_group 105 = .ok (.aload_n 0, 1) := by decide +kernel
theorem dX8_group_106 : decode cX8_group 106 = .ok (.getfield 58, 3) := by decide +kernel
theorem dX8_group_109 : decode cX8_group 109 = .ok (.getfield 238, 3) := by decide +kernel
theorem dX8_group_112 : decode cX8_group 112 = .ok (.iload_n 1, 1) := by decide +kernel
theorem dX8_group_113 : decode cX8_group 113 = .ok (.iaload, 1) := by decide +kernel
theorem dX8_group_114 : decode cX8_group 114 = .ok (.invokevirtual 241, 3) := by decide +kernel
theorem dX8_group_117 : decode cX8_group 117 = .ok (.istore 6, 2) := by decide +kernel
theorem dX8_group_119 : decode cX8_group 119 = .ok (.iload 4, 2) := by decide +kernel
theorem dX8_group_121 : decode cX8_group 121 = .ok (.iconst 1, 1) := by decide +kernel
theorem dX8_group_122 : decode cX8_group 122 = .ok (.if_icmp .ne 11, 3) := by decide +kernel
theorem dX8_group_125 : decode cX8_group 125 = .ok (.iload 6, 2) := by decide +kernel
theorem dX8_group_127 : decode cX8_group 127 = .ok (.invokestatic 117, 3) := by decide +kernel
theorem dX8_group_130 : decode cX8_group 130 = .ok (.goto 5, 3) := by decide +kernel
theorem dX8_group_133 : decode cX8_group 133 = .ok (.iload 6, 2) := by decide +kernel
theorem dX8_group_135 : decode cX8_group 135 = .ok (.ireturn, 1) := by decide +kernel
theorem dX8_groups_0 : decode cX8_groups 0 = .ok (.iload_n 1, 1) := by decide +kernel
theorem dX8_groups_1 : decode cX8_groups 1 = .ok (.invokestatic 229, 3) := by decide +kernel
theorem dX8_groups_4 : decode cX8_groups 4 = .ok (.ifCond .eq 13, 3) := by decide +kernel
theorem dX8_groups_7 : decode cX8_groups 7 = .ok (.iload_n 2, 1) := by decide +kernel
theorem dX8_groups_8 : decode cX8_groups 8 = .ok (.iconst 1, 1) := by decide +kernel
theorem dX8_groups_9 : decode cX8_groups 9 = .ok (.bipush 99, 2) := by decide +kernel
theorem dX8_groups_11 : decode cX8_groups 11 = .ok (.invokestatic 65, 3) := by decide +kernel
theorem dX8_groups_14 : decode cX8_groups 14 = .ok (.ifCond .ne 10, 3) := by decide +kernel
theorem dX8_groups_17 : decode cX8_groups 17 = .ok (.aload_n 0, 1) := by decide +kernel
theorem dX8_groups_18 : decode cX8_groups 18 = .ok (.ldc 69, 2) := by decide +kernel
theorem dX8_groups_20 : decode cX8_groups 20 = .ok (.invokevirtual 70, 3) := by decide +kernel
theorem dX8_groups_23 : decode cX8_groups 23 = .ok (.ireturn, 1) := by decide +kernel
theorem dX8_groups_24 : decode cX8_groups 24 = .ok (.aload_n 0, 1) := by decide +kernel
theorem dX8_groups_25 : decode cX8_groups 25 = .ok (.getfield 58, 3) := by decide +kernel
theorem dX8_groups_28 : decode cX8_groups 28 = .ok (.aload_n 0, 1) := by decide +kernel
theorem dX8_groups_29 : decode cX8_groups 29 = .ok (.getfield 12, 3) := by decide +kernel
theorem dX8_groups_32 : decode cX8_groups 32 = .ok (.getfield 134, 3) := by decide +kernel
theorem dX8_groups_35 : decode cX8_groups 35 = .ok (.aload_n 0, 1) := by decide +kernel
theorem dX8_groups_36 : decode cX8_groups 36 = .ok (.getfield 12, 3) := by decide +kernel
theorem dX8_groups_39 : decode cX8_groups 39 = .ok (.getfield 74, 3) := by decide +kernel
theorem dX8_groups_42 : decode cX8_groups 42 = .ok (.getfield 78, 3) := by decide +kernel
theorem dX8_groups_45 : decode cX8_groups 45 = .ok (.iload_n 1, 1) := by decide +kernel
theorem dX8_groups_46 : decode cX8_groups 46 = .ok (.iload_n 2, 1) := by decide +kernel
theorem dX8_groups_47 : decode cX8_groups 47 = .ok (.invokevirtual 235, 3) := by decide +kernel
theorem dX8_groups_50 : decode cX8_groups 50 = .ok (.aload_n 0, 1) := by decide +kernel
theorem dX8_groups_51 : decode cX8_groups 51 = .ok (.getfield 58, 3) := by decide +kernel
theorem dX8_groups_54 : decode cX8_groups 54 = .ok (.invokevirtual 244, 3) := by decide +kernel
theorem dX8_groups_57 : decode cX8_groups 57 = .ok (.ireturn, 1) := by decide +kernel
theorem dX8_club_0 : decode cX8_club 0 = .ok (.iload_n 1, 1) := by decide +kernel
theorem dX8_club_1 : decode cX8_club 1 = .ok (.invokestatic 122, 3) := by decide +kernel
theorem dX8_club_4 : decode cX8_club 4 = .ok (.ifCond .eq 10, 3) := by decide +kernel
theorem dX8_club_7 : decode cX8_club 7 = .ok (.iload_n 2, 1) := by decide +kernel
theorem dX8_club_8 : decode cX8_club 8 = .ok (.invokestatic 229, 3) := by decide +kernel
theorem dX8_club_11 : decode cX8_club 11 = .ok (.ifCond .ne 10, 3) := by decide +kernel
theorem dX8_club_14 : decode cX8_club 14 = .ok (.aload_n 0, 1) := by decide +kernel
theorem dX8_club_15 : decode cX8_club 15 = .ok (.ldc 69, 2) := by decide +kernel
theorem dX8_club_17 : decode cX8_club 17 = .ok (.invokevirtual 70, 3) := by decide +kernel
theorem dX8_club_20 : decode cX8_club 20 = .ok (.ireturn, 1) := by decide +kernel
theorem dX8_club_21 : decode cX8_club 21 = .ok (.aload_n 0, 1) := by decide +kernel
theorem dX8_club_22 : decode cX8_club 22 = .ok (.getfield 12, 3) := by decide +kernel
theorem dX8_club_25 : decode cX8_club 25 = .ok (.getfield 134, 3) := by decide +kernel
theorem dX8_club_28 : decode cX8_club 28 = .ok (.iload_n 1, 1) := by decide +kernel
theorem dX8_club_29 : decode cX8_club 29 = .ok (.iload_n 1, 1) := by decide +kernel
theorem dX8_club_30 : decode cX8_club 30 = .ok (.iload_n 2, 1) := by decide +kernel
theorem dX8_club_31 : decode cX8_club 31 = .ok (.iadd, 1) := by decide +kernel
theorem dX8_club_32 : decode cX8_club 32 = .ok (.invokevirtual 247, 3) := by decide +kernel
theorem dX8_club_35 : decode cX8_club 35 = .ok (.ireturn, 1) := by decide +kernel
theorem dX8_apart_0 : decode cX8_apart 0 = .ok (.aload_n 0, 1) := by decide +kernel
theorem dX8_apart_1 : decode cX8_apart 1 = .ok (.iload_n 1, 1) := by decide +kernel
theorem dX8_apart_2 : decode cX8_apart 2 = .ok (.iload_n 2, 1) := by decide +kernel
theorem dX8_apart_3 : decode cX8_apart 3 = .ok (.invokevirtual 226, 3) := by decide +kernel
theorem dX8_apart_6 : decode cX8_apart 6 = .ok (.ifCond .ne 10, 3) := by decide +kernel
theorem dX8_apart_9 : decode cX8_apart 9 = .ok (.aload_n 0, 1) := by decide +kernel
theorem dX8_apart_10 : decode cX8_apart 10 = .ok (.ldc 69, 2) := by decide +kernel
theorem dX8_apart_12 : decode cX8_apart 12 = .ok (.invokevirtual 70, 3) := by decide +kernel
theorem dX8_apart_15 : decode cX8_apart 15 = .ok (.ireturn, 1) := by decide +kernel
theorem dX8_apart_16 : decode cX8_apart 16 = .ok (.aload_n 0, 1) := by decide +kernel
theorem dX8_apart_17 : decode cX8_apart 17 = .ok (.getfield 12, 3) := by decide +kernel
theorem dX8_apart_20 : decode cX8_apart 20 = .ok (.getfield 134, 3) := by decide +kernel
theorem dX8_apart_23 : decode cX8_apart 23 = .ok (.iload_n 1, 1) := by decide +kernel
theorem dX8_apart_24 : decode cX8_apart 24 = .ok (.invokevirtual 178, 3) := by decide +kernel
theorem dX8_apart_27 : decode cX8_apart 27 = .ok (.aload_n 0, 1) := by decide +kernel
theorem dX8_apart_28 : decode cX8_apart 28 = .ok (.getfield 12, 3) := by decide +kernel
theorem dX8_apart_31 : decode cX8_apart 31 = .ok (.getfield 134, 3) := by decide +kernel
theorem dX8_apart_34 : decode cX8_apart 34 = .ok (.iload_n 2, 1) := by decide +kernel
theorem dX8_apart_35 : decode cX8_apart 35 = .ok (.invokevirtual 178, 3) := by decide +kernel
theorem dX8_apart_38 : decode cX8_apart 38 = .ok (.ixor, 1) := by decide +kernel
theorem dX8_apart_39 : decode cX8_apart 39 = .ok (.invokestatic 117, 3) := by decide +kernel
theorem dX8_apart_42 : decode cX8_apart 42 = .ok (.ireturn, 1) := by decide +kernel
theorem dX8_counts_0 : decode cX8_counts 0 = .ok (.iload_n 1, 1) := by decide +kernel
theorem dX8_counts_1 : decode cX8_counts 1 = .ok (.iconst (-1), 1) := by decide +kernel
theorem dX8_counts_2 : decode cX8_counts 2 = .ok (.bipush 9, 2) := by decide +kernel
theorem dX8_counts_4 : decode cX8_counts 4 = .ok (.invokestatic 65, 3) := by decide +kernel
theorem dX8_counts_7 : decode cX8_counts 7 = .ok (.ifCond .eq 17, 3) := by decide +kernel
theorem dX8_counts_10 : decode cX8_counts 10 = .ok (.aload_n 0, 1) := by decide +kernel
theorem dX8_counts_11 : decode cX8_counts 11 = .ok (.getfield 12, 3) := by decide +kernel
theorem dX8_counts_14 : decode cX8_counts 14 = .ok (.getfield 74, 3) := by decide +kernel
theorem dX8_counts_17 : decode cX8_counts 17 = .ok (.iload_n 2, 1) := by decide +kernel
theorem dX8_counts_18 : decode cX8_counts 18 = .ok (.invokevirtual 250, 3) := by decide +kernel
theorem dX8_counts_21 : decode cX8_counts 21 = .ok (.ifCond .ne 10, 3) := by decide +kernel
theorem dX8_counts_24 : decode cX8_counts 24 = .ok (.aload_n 0, 1) := by decide +kernel
theorem dX8_counts_25 : decode cX8_counts 25 = .ok (.ldc 69, 2) := by decide +kernel
theorem dX8_counts_27 : decode cX8_counts 27 = .ok (.invokevirtual 70, 3) := by decide +kernel
theorem dX8_counts_30 : decode cX8_counts 30 = .ok (.ireturn, 1) := by decide +kernel
theorem dX8_counts_31 : decode cX8_counts 31 = .ok (.aload_n 0, 1) := by decide +kernel
theorem dX8_counts_32 : decode cX8_counts 32 = .ok (.getfield 12, 3) := by decide +kernel
theorem dX8_counts_35 : decode cX8_counts 35 = .ok (.getfield 134, 3) := by decide +kernel
theorem dX8_counts_38 : decode cX8_counts 38 = .ok (.iload_n 1, 1) := by decide +kernel
theorem dX8_counts_39 : decode cX8_counts 39 = .ok (.iload_n 2, 1) := by decide +kernel
theorem dX8_counts_40 : decode cX8_counts 40 = .ok (.invokevirtual 253, 3) := by decide +kernel
theorem dX8_counts_43 : decode cX8_counts 43 = .ok (.ireturn, 1) := by decide +kernel
theorem dX8_most_0 : decode cX8_most 0 = .ok (.aload_n 0, 1) := by decide +kernel
theorem dX8_most_1 : decode cX8_most 1 = .ok (.getfield 12, 3) := by decide +kernel
theorem dX8_most_4 : decode cX8_most 4 = .ok (.getfield 74, 3) := by decide +kernel
theorem dX8_most_7 : decode cX8_most 7 = .ok (.iload_n 1, 1) := by decide +kernel
theorem dX8_most_8 : decode cX8_most 8 = .ok (.invokevirtual 250, 3) := by decide +kernel
theorem dX8_most_11 : decode cX8_most 11 = .ok (.ifCond .ne 10, 3) := by decide +kernel
theorem dX8_most_14 : decode cX8_most 14 = .ok (.aload_n 0, 1) := by decide +kernel
theorem dX8_most_15 : decode cX8_most 15 = .ok (.ldc 69, 2) := by decide +kernel
theorem dX8_most_17 : decode cX8_most 17 = .ok (.invokevirtual 70, 3) := by decide +kernel
theorem dX8_most_20 : decode cX8_most 20 = .ok (.ireturn, 1) := by decide +kernel
theorem dX8_most_21 : decode cX8_most 21 = .ok (.iconst (-1), 1) := by decide +kernel
theorem dX8_most_22 : decode cX8_most 22 = .ok (.istore_n 2, 1) := by decide +kernel
theorem dX8_most_23 : decode cX8_most 23 = .ok (.iconst 0, 1) := by decide +kernel
theorem dX8_most_24 : decode cX8_most 24 = .ok (.istore_n 3, 1) := by decide +kernel
theorem dX8_most_25 : decode cX8_most 25 = .ok (.iconst 0, 1) := by decide +kernel
theorem dX8_most_26 : decode cX8_most 26 = .ok (.istore 4, 2) := by decide +kernel
theorem dX8_most_28 : decode cX8_most 28 = .ok (.iload 4, 2) := by decide +kernel
theorem dX8_most_30 : decode cX8_most 30 = .ok (.bipush 9, 2) := by decide +kernel
theorem dX8_most_32 : decode cX8_most 32 = .ok (.if_icmp .gt 36, 3) := by decide +kernel
theorem dX8_most_35 : decode cX8_most 35 = .ok (.aload_n 0, 1) := by decide +kernel
theorem dX8_most_36 : decode cX8_most 36 = .ok (.getfield 12, 3) := by decide +kernel
theorem dX8_most_39 : decode cX8_most 39 = .ok (.getfield 134, 3) := by decide +kernel
theorem dX8_most_42 : decode cX8_most 42 = .ok (.iload 4, 2) := by decide +kernel
theorem dX8_most_44 : decode cX8_most 44 = .ok (.iload_n 1, 1) := by decide +kernel
theorem dX8_most_45 : decode cX8_most 45 = .ok (.invokevirtual 253, 3) := by decide +kernel
theorem dX8_most_48 : decode cX8_most 48 = .ok (.istore 5, 2) := by decide +kernel
theorem dX8_most_50 : decode cX8_most 50 = .ok (.iload 5, 2) := by decide +kernel
theorem dX8_most_52 : decode cX8_most 52 = .ok (.iload_n 3, 1) := by decide +kernel
theorem dX8_most_53 : decode cX8_most 53 = .ok (.if_icmp .le 9, 3) := by decide +kernel
theorem dX8_most_56 : decode cX8_most 56 = .ok (.iload 4, 2) := by decide +kernel
theorem dX8_most_58 : decode cX8_most 58 = .ok (.istore_n 2, 1) := by decide +kernel
theorem dX8_most_59 : decode cX8_most 59 = .ok (.iload 5, 2) := by decide +kernel
theorem dX8_most_61 : decode cX8_most 61 = .ok (.istore_n 3, 1) := by decide +kernel
theorem dX8_most_62 : decode cX8_most 62 = .ok (.iinc 4 1, 3) := by decide +kernel
theorem dX8_most_65 : decode cX8_most 65 = .ok (.goto (-37), 3) := by decide +kernel
theorem dX8_most_68 : decode cX8_most 68 = .ok (.iload_n 2, 1) := by decide +kernel
theorem dX8_most_69 : decode cX8_most 69 = .ok (.ifCond .ge 12, 3) := by decide +kernel
theorem dX8_most_72 : decode cX8_most 72 = .ok (.aload_n 0, 1) := by decide +kernel
theorem dX8_most_73 : decode cX8_most 73 = .ok (.ldc 133, 2) := by decide +kernel
theorem dX8_most_75 : decode cX8_most 75 = .ok (.invokevirtual 70, 3) := by decide +kernel
theorem dX8_most_78 : decode cX8_most 78 = .ok (.goto 4, 3) := by decide +kernel
theorem dX8_most_81 : decode cX8_most 81 = .ok (.iload_n 2, 1) := by decide +kernel
theorem dX8_most_82 : decode cX8_most 82 = .ok (.ireturn, 1) := by decide +kernel
theorem dX8_first_0 : decode cX8_first 0 = .ok (.iload_n 1, 1) := by decide +kernel
theorem dX8_first_1 : decode cX8_first 1 = .ok (.invokestatic 147, 3) := by decide +kernel
theorem dX8_first_4 : decode cX8_first 4 = .ok (.ifCond .ne 10, 3) := by decide +kernel
theorem dX8_first_7 : decode cX8_first 7 = .ok (.aload_n 0, 1) := by decide +kernel
theorem dX8_first_8 : decode cX8_first 8 = .ok (.ldc 69, 2) := by decide +kernel
theorem dX8_first_10 : decode cX8_first 10 = .ok (.invokevirtual 70, 3) := by decide +kernel
theorem dX8_first_13 : decode cX8_first 13 = .ok (.ireturn, 1) := by decide +kernel
theorem dX8_first_14 : decode cX8_first 14 = .ok (.aload_n 0, 1) := by decide +kernel
theorem dX8_first_15 : decode cX8_first 15 = .ok (.getfield 12, 3) := by decide +kernel
theorem dX8_first_18 : decode cX8_first 18 = .ok (.getfield 134, 3) := by decide +kernel
theorem dX8_first_21 : decode cX8_first 21 = .ok (.iload_n 1, 1) := by decide +kernel
theorem dX8_first_22 : decode cX8_first 22 = .ok (.invokevirtual 256, 3) := by decide +kernel
theorem dX8_first_25 : decode cX8_first 25 = .ok (.istore_n 2, 1) := by decide +kernel
theorem dX8_first_26 : decode cX8_first 26 = .ok (.iload_n 2, 1) := by decide +kernel
theorem dX8_first_27 : decode cX8_first 27 = .ok (.ifCond .ge 12, 3) := by decide +kernel
theorem dX8_first_30 : decode cX8_first 30 = .ok (.aload_n 0, 1) := by decide +kernel
theorem dX8_first_31 : decode cX8_first 31 = .ok (.ldc 133, 2) := by decide +kernel
theorem dX8_first_33 : decode cX8_first 33 = .ok (.invokevirtual 70, 3) := by decide +kernel
theorem dX8_first_36 : decode cX8_first 36 = .ok (.goto 4, 3) := by decide +kernel
theorem dX8_first_39 : decode cX8_first 39 = .ok (.iload_n 2, 1) := by decide +kernel
theorem dX8_first_40 : decode cX8_first 40 = .ok (.ireturn, 1) := by decide +kernel
theorem dX8_many_0 : decode cX8_many 0 = .ok (.aload_n 0, 1) := by decide +kernel
theorem dX8_many_1 : decode cX8_many 1 = .ok (.getfield 12, 3) := by decide +kernel
theorem dX8_many_4 : decode cX8_many 4 = .ok (.getfield 74, 3) := by decide +kernel
theorem dX8_many_7 : decode cX8_many 7 = .ok (.iload_n 1, 1) := by decide +kernel
theorem dX8_many_8 : decode cX8_many 8 = .ok (.invokevirtual 250, 3) := by decide +kernel
theorem dX8_many_11 : decode cX8_many 11 = .ok (.ifCond .eq 17, 3) := by decide +kernel
theorem dX8_many_14 : decode cX8_many 14 = .ok (.aload_n 0, 1) := by decide +kernel
theorem dX8_many_15 : decode cX8_many 15 = .ok (.getfield 12, 3) := by decide +kernel
theorem dX8_many_18 : decode cX8_many 18 = .ok (.getfield 74, 3) := by decide +kernel
theorem dX8_many_21 : decode cX8_many 21 = .ok (.iload_n 2, 1) := by decide +kernel
theorem dX8_many_22 : decode cX8_many 22 = .ok (.invokevirtual 250, 3) := by decide +kernel
theorem dX8_many_25 : decode cX8_many 25 = .ok (.ifCond .ne 10, 3) := by decide +kernel
theorem dX8_many_28 : decode cX8_many 28 = .ok (.aload_n 0, 1) := by decide +kernel
theorem dX8_many_29 : decode cX8_many 29 = .ok (.ldc 69, 2) := by decide +kernel
theorem dX8_many_31 : decode cX8_many 31 = .ok (.invokevirtual 70, 3) := by decide +kernel
theorem dX8_many_34 : decode cX8_many 34 = .ok (.ireturn, 1) := by decide +kernel
theorem dX8_many_35 : decode cX8_many 35 = .ok (.iload_n 1, 1) := by decide +kernel
theorem dX8_many_36 : decode cX8_many 36 = .ok (.iload_n 2, 1) := by decide +kernel
theorem dX8_many_37 : decode cX8_many 37 = .ok (.iand, 1) := by decide +kernel
theorem dX8_many_38 : decode cX8_many 38 = .ok (.invokestatic 117, 3) := by decide +kernel
theorem dX8_many_41 : decode cX8_many 41 = .ok (.istore_n 3, 1) := by decide +kernel
theorem dX8_many_42 : decode cX8_many 42 = .ok (.iload_n 3, 1) := by decide +kernel
theorem dX8_many_43 : decode cX8_many 43 = .ok (.ifCond .ne 10, 3) := by decide +kernel
theorem dX8_many_46 : decode cX8_many 46 = .ok (.aload_n 0, 1) := by decide +kernel
theorem dX8_many_47 : decode cX8_many 47 = .ok (.ldc 133, 2) := by decide +kernel
theorem dX8_many_49 : decode cX8_many 49 = .ok (.invokevirtual 70, 3) := by decide +kernel
theorem dX8_many_52 : decode cX8_many 52 = .ok (.ireturn, 1) := by decide +kernel
theorem dX8_many_53 : decode cX8_many 53 = .ok (.iload_n 1, 1) := by decide +kernel
theorem dX8_many_54 : decode cX8_many 54 = .ok (.invokestatic 117, 3) := by decide +kernel
theorem dX8_many_57 : decode cX8_many 57 = .ok (.iload_n 2, 1) := by decide +kernel
theorem dX8_many_58 : decode cX8_many 58 = .ok (.invokestatic 117, 3) := by decide +kernel
theorem dX8_many_61 : decode cX8_many 61 = .ok (.imul, 1) := by decide +kernel
theorem dX8_many_62 : decode cX8_many 62 = .ok (.iload_n 3, 1) := by decide +kernel
theorem dX8_many_63 : decode cX8_many 63 = .ok (.invokestatic 259, 3) := by decide +kernel
theorem dX8_many_66 : decode cX8_many 66 = .ok (.ireturn, 1) := by decide +kernel
theorem dX8_sold_0 : decode cX8_sold 0 = .ok (.aload_n 0, 1) := by decide +kernel
theorem dX8_sold_1 : decode cX8_sold 1 = .ok (.getfield 12, 3) := by decide +kernel
theorem dX8_sold_4 : decode cX8_sold 4 = .ok (.getfield 74, 3) := by decide +kernel
theorem dX8_sold_7 : decode cX8_sold 7 = .ok (.iload_n 1, 1) := by decide +kernel
theorem dX8_sold_8 : decode cX8_sold 8 = .ok (.invokevirtual 88, 3) := by decide +kernel
theorem dX8_sold_11 : decode cX8_sold 11 = .ok (.ifCond .ne 10, 3) := by decide +kernel
theorem dX8_sold_14 : decode cX8_sold 14 = .ok (.aload_n 0, 1) := by decide +kernel
theorem dX8_sold_15 : decode cX8_sold 15 = .ok (.ldc 69, 2) := by decide +kernel
theorem dX8_sold_17 : decode cX8_sold 17 = .ok (.invokevirtual 70, 3) := by decide +kernel
theorem dX8_sold_20 : decode cX8_sold 20 = .ok (.ireturn, 1) := by decide +kernel
theorem dX8_sold_21 : decode cX8_sold 21 = .ok (.aload_n 0, 1) := by decide +kernel
theorem dX8_sold_22 : decode cX8_sold 22 = .ok (.getfield 12, 3) := by decide +kernel
theorem dX8_sold_25 : decode cX8_sold 25 = .ok (.getfield 134, 3) := by decide +kernel
theorem dX8_sold_28 : decode cX8_sold 28 = .ok (.iload_n 1, 1) := by decide +kernel
theorem dX8_sold_29 : decode cX8_sold 29 = .ok (.invokevirtual 262, 3) := by decide +kernel
theorem dX8_sold_32 : decode cX8_sold 32 = .ok (.istore_n 2, 1) := by decide +kernel
theorem dX8_sold_33 : decode cX8_sold 33 = .ok (.iload_n 2, 1) := by decide +kernel
theorem dX8_sold_34 : decode cX8_sold 34 = .ok (.iconst 1, 1) := by decide +kernel
theorem dX8_sold_35 : decode cX8_sold 35 = .ok (.if_icmp .ge 12, 3) := by decide +kernel
theorem dX8_sold_38 : decode cX8_sold 38 = .ok (.aload_n 0, 1) := by decide +kernel
theorem dX8_sold_39 : decode cX8_sold 39 = .ok (.ldc 133, 2) := by decide +kernel
theorem dX8_sold_41 : decode cX8_sold 41 = .ok (.invokevirtual 70, 3) := by decide +kernel
theorem dX8_sold_44 : decode cX8_sold 44 = .ok (.goto 4, 3) := by decide +kernel
theorem dX8_sold_47 : decode cX8_sold 47 = .ok (.iload_n 2, 1) := by decide +kernel
theorem dX8_sold_48 : decode cX8_sold 48 = .ok (.ireturn, 1) := by decide +kernel
theorem dX8_seed_0 : decode cX8_seed 0 = .ok (.aload_n 0, 1) := by decide +kernel
theorem dX8_seed_1 : decode cX8_seed 1 = .ok (.getfield 12, 3) := by decide +kernel
theorem dX8_seed_4 : decode cX8_seed 4 = .ok (.getfield 265, 3) := by decide +kernel
theorem dX8_seed_7 : decode cX8_seed 7 = .ok (.istore_n 2, 1) := by decide +kernel
theorem dX8_seed_8 : decode cX8_seed 8 = .ok (.aload_n 0, 1) := by decide +kernel
theorem dX8_seed_9 : decode cX8_seed 9 = .ok (.getfield 12, 3) := by decide +kernel
theorem dX8_seed_12 : decode cX8_seed 12 = .ok (.iload_n 1, 1) := by decide +kernel
theorem dX8_seed_13 : decode cX8_seed 13 = .ok (.putfield 265, 3) := by decide +kernel
theorem dX8_seed_16 : decode cX8_seed 16 = .ok (.iload_n 2, 1) := by decide +kernel
theorem dX8_seed_17 : decode cX8_seed 17 = .ok (.ireturn, 1) := by decide +kernel
theorem dX8_sample_0 : decode cX8_sample 0 = .ok (.iload_n 1, 1) := by decide +kernel
theorem dX8_sample_1 : decode cX8_sample 1 = .ok (.iconst 1, 1) := by decide +kernel
theorem dX8_sample_2 : decode cX8_sample 2 = .ok (.bipush 99, 2) := by decide +kernel
theorem dX8_sample_4 : decode cX8_sample 4 = .ok (.invokestatic 65, 3) := by decide +kernel
theorem dX8_sample_7 : decode cX8_sample 7 = .ok (.ifCond .ne 10, 3) := by decide +kernel
theorem dX8_sample_10 : decode cX8_sample 10 = .ok (.aload_n 0, 1) := by decide +kernel
theorem dX8_sample_11 : decode cX8_sample 11 = .ok (.ldc 69, 2) := by decide +kernel
theorem dX8_sample_13 : decode cX8_sample 13 = .ok (.invokevirtual 70, 3) := by decide +kernel
theorem dX8_sample_16 : decode cX8_sample 16 = .ok (.ireturn, 1) := by decide +kernel
theorem dX8_sample_17 : decode cX8_sample 17 = .ok (.aload_n 0, 1) := by decide +kernel
theorem dX8_sample_18 : decode cX8_sample 18 = .ok (.getfield 12, 3) := by decide +kernel
theorem dX8_sample_21 : decode cX8_sample 21 = .ok (.getfield 74, 3) := by decide +kernel
theorem dX8_sample_24 : decode cX8_sample 24 = .ok (.getfield 78, 3) := by decide +kernel
theorem dX8_sample_27 : decode cX8_sample 27 = .ok (.ifCond .ne 10, 3) := by decide +kernel
theorem dX8_sample_30 : decode cX8_sample 30 = .ok (.aload_n 0, 1) := by decide +kernel
theorem dX8_sample_31 : decode cX8_sample 31 = .ok (.ldc 133, 2) := by decide +kernel
theorem dX8_sample_33 : decode cX8_sample 33 = .ok (.invokevirtual 70, 3) := by decide +kernel
theorem dX8_sample_36 : decode cX8_sample 36 = .ok (.ireturn, 1) := by decide +kernel
theorem dX8_sample_37 : decode cX8_sample 37 = .ok (.iconst 0, 1) := by decide +kernel
theorem dX8_sample_38 : decode cX8_sample 38 = .ok (.istore_n 2, 1) := by decide +kernel
theorem dX8_sample_39 : decode cX8_sample 39 = .ok (.iconst 0, 1) := by decide +kernel
theorem dX8_sample_40 : decode cX8_sample 40 = .ok (.istore_n 3, 1) := by decide +kernel
theorem dX8_sample_41 : decode cX8_sample 41 = .ok (.iload_n 3, 1) := by decide +kernel
theorem dX8_sample_42 : decode cX8_sample 42 = .ok (.iload_n 1, 1) := by decide +kernel
theorem dX8_sample_43 : decode cX8_sample 43 = .ok (.if_icmp .ge 50, 3) := by decide +kernel
theorem dX8_sample_46 : decode cX8_sample 46 = .ok (.aload_n 0, 1) := by decide +kernel
theorem dX8_sample_47 : decode cX8_sample 47 = .ok (.getfield 12, 3) := by decide +kernel
theorem dX8_sample_50 : decode cX8_sample 50 = .ok (.invokevirtual 268, 3) := by decide +kernel
theorem dX8_sample_53 : decode cX8_sample 53 = .ok (.aload_n 0, 1) := by decide +kernel
theorem dX8_sample_54 : decode cX8_sample 54 = .ok (.getfield 12, 3) := by decide +kernel
theorem dX8_sample_57 : decode cX8_sample 57 = .ok (.getfield 74, 3) := by decide +kernel
theorem dX8_sample_60 : decode cX8_sample 60 = .ok (.getfield 78, 3) := by decide +kernel
theorem dX8_sample_63 : decode cX8_sample 63 = .ok (.invokestatic 271, 3) := by decide +kernel
theorem dX8_sample_66 : decode cX8_sample 66 = .ok (.istore 4, 2) := by decide +kernel
theorem dX8_sample_68 : decode cX8_sample 68 = .ok (.aload_n 0, 1) := by decide +kernel
theorem dX8_sample_69 : decode cX8_sample 69 = .ok (.getfield 12, 3) := by decide +kernel
theorem dX8_sample_72 : decode cX8_sample 72 = .ok (.getfield 74, 3) := by decide +kernel
theorem dX8_sample_75 : decode cX8_sample 75 = .ok (.iload 4, 2) := by decide +kernel
theorem dX8_sample_77 : decode cX8_sample 77 = .ok (.iconst 1, 1) := by decide +kernel
theorem dX8_sample_78 : decode cX8_sample 78 = .ok (.invokevirtual 103, 3) := by decide +kernel
theorem dX8_sample_81 : decode cX8_sample 81 = .ok (.ifCond .ne 6, 3) := by decide +kernel
theorem dX8_sample_84 : decode cX8_sample 84 = .ok (.iinc 2 1, 3) := by decide +kernel
theorem dX8_sample_87 : decode cX8_sample 87 = .ok (.iinc 3 1, 3) := by decide +kernel
theorem dX8_sample_90 : decode cX8_sample 90 = .ok (.goto (-49), 3) := by decide +kernel
theorem dX8_sample_93 : decode cX8_sample 93 = .ok (.iload_n 2, 1) := by decide +kernel
theorem dX8_sample_94 : decode cX8_sample 94 = .ok (.ireturn, 1) := by decide +kernel
theorem dX8_hold_0 : decode cX8_hold 0 = .ok (.iload_n 1, 1) := by decide +kernel
theorem dX8_hold_1 : decode cX8_hold 1 = .ok (.invokestatic 274, 3) := by decide +kernel
theorem dX8_hold_4 : decode cX8_hold 4 = .ok (.ifCond .eq 22, 3) := by decide +kernel
theorem dX8_hold_7 : decode cX8_hold 7 = .ok (.iload_n 2, 1) := by decide +kernel
theorem dX8_hold_8 : decode cX8_hold 8 = .ok (.iconst (-1), 1) := by decide +kernel
theorem dX8_hold_9 : decode cX8_hold 9 = .ok (.if_icmp .eq 24, 3) := by decide +kernel
theorem dX8_hold_12 : decode cX8_hold 12 = .ok (.aload_n 0, 1) := by decide +kernel
theorem dX8_hold_13 : decode cX8_hold 13 = .ok (.getfield 12, 3) := by decide +kernel
theorem dX8_hold_16 : decode cX8_hold 16 = .ok (.getfield 74, 3) := by decide +kernel
theorem dX8_hold_19 : decode cX8_hold 19 = .ok (.iload_n 2, 1) := by decide +kernel
theorem dX8_hold_20 : decode cX8_hold 20 = .ok (.invokevirtual 88, 3) := by decide +kernel
theorem dX8_hold_23 : decode cX8_hold 23 = .ok (.ifCond .ne 10, 3) := by decide +kernel
theorem dX8_hold_26 : decode cX8_hold 26 = .ok (.aload_n 0, 1) := by decide +kernel
theorem dX8_hold_27 : decode cX8_hold 27 = .ok (.ldc 69, 2) := by decide +kernel
theorem dX8_hold_29 : decode cX8_hold 29 = .ok (.invokevirtual 70, 3) := by decide +kernel
theorem dX8_hold_32 : decode cX8_hold 32 = .ok (.ireturn, 1) := by decide +kernel
theorem dX8_hold_33 : decode cX8_hold 33 = .ok (.aload_n 0, 1) := by decide +kernel
theorem dX8_hold_34 : decode cX8_hold 34 = .ok (.getfield 12, 3) := by decide +kernel
theorem dX8_hold_37 : decode cX8_hold 37 = .ok (.getfield 277, 3) := by decide +kernel
theorem dX8_hold_40 : decode cX8_hold 40 = .ok (.iload_n 1, 1) := by decide +kernel
theorem dX8_hold_41 : decode cX8_hold 41 = .ok (.iload_n 2, 1) := by decide +kernel
theorem dX8_hold_42 : decode cX8_hold 42 = .ok (.iastore, 1) := by decide +kernel
theorem dX8_hold_43 : decode cX8_hold 43 = .ok (.iconst 1, 1) := by decide +kernel
theorem dX8_hold_44 : decode cX8_hold 44 = .ok (.ireturn, 1) := by decide +kernel
theorem dX8_as_0 : decode cX8_as 0 = .ok (.iload_n 1, 1) := by decide +kernel
theorem dX8_as_1 : decode cX8_as 1 = .ok (.invokestatic 274, 3) := by decide +kernel
theorem dX8_as_4 : decode cX8_as 4 = .ok (.ifCond .eq 13, 3) := by decide +kernel
theorem dX8_as_7 : decode cX8_as 7 = .ok (.iload_n 2, 1) := by decide +kernel
theorem dX8_as_8 : decode cX8_as 8 = .ok (.iconst 0, 1) := by decide +kernel
theorem dX8_as_9 : decode cX8_as 9 = .ok (.bipush 7, 2) := by decide +kernel
theorem dX8_as_11 : decode cX8_as 11 = .ok (.invokestatic 65, 3) := by decide +kernel
theorem dX8_as_14 : decode cX8_as 14 = .ok (.ifCond .ne 10, 3) := by decide +kernel
theorem dX8_as_17 : decode cX8_as 17 = .ok (.aload_n 0, 1) := by decide +kernel
theorem dX8_as_18 : decode cX8_as 18 = .ok (.ldc 69, 2) := by decide +kernel
theorem dX8_as_20 : decode cX8_as 20 = .ok (.invokevirtual 70, 3) := by decide +kernel
theorem dX8_as_23 : decode cX8_as 23 = .ok (.ireturn, 1) := by decide +kernel
theorem dX8_as_24 : decode cX8_as 24 = .ok (.aload_n 0, 1) := by decide +kernel
theorem dX8_as_25 : decode cX8_as 25 = .ok (.getfield 12, 3) := by decide +kernel
theorem dX8_as_28 : decode cX8_as 28 = .ok (.getfield 277, 3) := by decide +kernel
theorem dX8_as_31 : decode cX8_as 31 = .ok (.iload_n 1, 1) := by decide +kernel
theorem dX8_as_32 : decode cX8_as 32 = .ok (.iaload, 1) := by decide +kernel
theorem dX8_as_33 : decode cX8_as 33 = .ok (.istore_n 3, 1) := by decide +kernel
theorem dX8_as_34 : decode cX8_as 34 = .ok (.iload_n 3, 1) := by decide +kernel
theorem dX8_as_35 : decode cX8_as 35 = .ok (.ifCond .ge 11, 3) := by decide +kernel
theorem dX8_as_38 : decode cX8_as 38 = .ok (.aload_n 0, 1) := by decide +kernel
theorem dX8_as_39 : decode cX8_as 39 = .ok (.ldc_w 280, 3) := by decide +kernel
theorem dX8_as_42 : decode cX8_as 42 = .ok (.invokevirtual 70, 3) := by decide +kernel
theorem dX8_as_45 : decode cX8_as 45 = .ok (.ireturn, 1) := by decide +kernel
theorem dX8_as_46 : decode cX8_as 46 = .ok (.aload_n 0, 1) := by decide +kernel
theorem dX8_as_47 : decode cX8_as 47 = .ok (.getfield 12, 3) := by decide +kernel
theorem dX8_as_50 : decode cX8_as 50 = .ok (.getfield 74, 3) := by decide +kernel
theorem dX8_as_53 : decode cX8_as 53 = .ok (.iload_n 3, 1) := by decide +kernel
theorem dX8_as_54 : decode cX8_as 54 = .ok (.iload_n 2, 1) := by decide +kernel
theorem dX8_as_55 : decode cX8_as 55 = .ok (.invokevirtual 103, 3) := by decide +kernel
theorem dX8_as_58 : decode cX8_as 58 = .ok (.ifCond .eq 7, 3) := by decide +kernel
theorem dX8_as_61 : decode cX8_as 61 = .ok (.iload_n 3, 1) := by decide +kernel
theorem dX8_as_62 : decode cX8_as 62 = .ok (.goto 10, 3) := by decide +kernel
theorem dX8_as_65 : decode cX8_as 65 = .ok (.aload_n 0, 1) := by decide +kernel
theorem dX8_as_66 : decode cX8_as 66 = .ok (.ldc_w 281, 3) := by decide +kernel
theorem dX8_as_69 : decode cX8_as 69 = .ok (.invokevirtual 70, 3) := by decide +kernel
theorem dX8_as_72 : decode cX8_as 72 = .ok (.ireturn, 1) := by decide +kernel
theorem dX8_sheet_0 : decode cX8_sheet 0 = .ok (.iload_n 2, 1) := by decide +kernel
theorem dX8_sheet_1 : decode cX8_sheet 1 = .ok (.ifCond .eq 21, 3) := by decide +kernel
theorem dX8_sheet_4 : decode cX8_sheet 4 = .ok (.iload_n 2, 1) := by decide +kernel
theorem dX8_sheet_5 : decode cX8_sheet 5 = .ok (.bipush 8, 2) := by decide +kernel
theorem dX8_sheet_7 : decode cX8_sheet 7 = .ok (.if_icmp .eq 15, 3) := by decide +kernel
theorem dX8_sheet_10 : decode cX8_sheet 10 = .ok (.iload_n 2, 1) := by decide +kernel
theorem dX8_sheet_11 : decode cX8_sheet 11 = .ok (.bipush 16, 2) := by decide +kernel
theorem dX8_sheet_13 : decode cX8_sheet 13 = .ok (.if_icmp .eq 9, 3) := by decide +kernel
theorem dX8_sheet_16 : decode cX8_sheet 16 = .ok (.iload_n 2, 1) := by decide +kernel
theorem dX8_sheet_17 : decode cX8_sheet 17 = .ok (.bipush 32, 2) := by decide +kernel
theorem dX8_sheet_19 : decode cX8_sheet 19 = .ok (.if_icmp .ne 7, 3) := by decide +kernel
theorem dX8_sheet_22 : decode cX8_sheet 22 = .ok (.iconst 1, 1) := by decide +kernel
theorem dX8_sheet_23 : decode cX8_sheet 23 = .ok (.goto 4, 3) := by decide +kernel
theorem dX8_sheet_26 : decode cX8_sheet 26 = .ok (.iconst 0, 1) := by decide +kernel
theorem dX8_sheet_27 : decode cX8_sheet 27 = .ok (.istore 4, 2) := by decide +kernel
theorem dX8_sheet_29 : decode cX8_sheet 29 = .ok (.iload_n 1, 1) := by decide +kernel
theorem dX8_sheet_30 : decode cX8_sheet 30 = .ok (.invokestatic 282, 3) := by decide +kernel
theorem dX8_sheet_33 : decode cX8_sheet 33 = .ok (.ifCond .eq 8, 3) := by decide +kernel
theorem dX8_sheet_36 : decode cX8_sheet 36 = .ok (.iload 4, 2) := by decide +kernel
theorem dX8_sheet_38 : decode cX8_sheet 38 = .ok (.ifCond .ne 10, 3) := by decide +kernel
theorem dX8_sheet_41 : decode cX8_sheet 41 = .ok (.aload_n 0, 1) := by decide +kernel
theorem dX8_sheet_42 : decode cX8_sheet 42 = .ok (.ldc 69, 2) := by decide +kernel
theorem dX8_sheet_44 : decode cX8_sheet 44 = .ok (.invokevirtual 70, 3) := by decide +kernel
theorem dX8_sheet_47 : decode cX8_sheet 47 = .ok (.ireturn, 1) := by decide +kernel
theorem dX8_sheet_48 : decode cX8_sheet 48 = .ok (.iload_n 3, 1) := by decide +kernel
theorem dX8_sheet_49 : decode cX8_sheet 49 = .ok (.ifCond .ge 11, 3) := by decide +kernel
theorem dX8_sheet_52 : decode cX8_sheet 52 = .ok (.aload_n 0, 1) := by decide +kernel
theorem dX8_sheet_53 : decode cX8_sheet 53 = .ok (.ldc_w 285, 3) := by decide +kernel
theorem dX8_sheet_56 : decode cX8_sheet 56 = .ok (.invokevirtual 70, 3) := by decide +kernel
theorem dX8_sheet_59 : decode cX8_sheet 59 = .ok (.ireturn, 1) := by decide +kernel
theorem dX8_sheet_60 : decode cX8_sheet 60 = .ok (.iload_n 3, 1) := by decide +kernel
theorem dX8_sheet_61 : decode cX8_sheet 61 = .ok (.bipush 40, 2) := by decide +kernel
theorem dX8_sheet_63 : decode cX8_sheet 63 = .ok (.if_icmp .le 10, 3) := by decide +kernel
theorem dX8_sheet_66 : decode cX8_sheet 66 = .ok (.aload_n 0, 1) := by decide +kernel
theorem dX8_sheet_67 : decode cX8_sheet 67 = .ok (.ldc 69, 2) := by decide +kernel
theorem dX8_sheet_69 : decode cX8_sheet 69 = .ok (.invokevirtual 70, 3) := by decide +kernel
theorem dX8_sheet_72 : decode cX8_sheet 72 = .ok (.ireturn, 1) := by decide +kernel
theorem dX8_sheet_73 : decode cX8_sheet 73 = .ok (.aload_n 0, 1) := by decide +kernel
theorem dX8_sheet_74 : decode cX8_sheet 74 = .ok (.getfield 33, 3) := by decide +kernel
theorem dX8_sheet_77 : decode cX8_sheet 77 = .ok (.iload_n 1, 1) := by decide +kernel
theorem dX8_sheet_78 : decode cX8_sheet 78 = .ok (.aaload, 1) := by decide +kernel
theorem dX8_sheet_79 : decode cX8_sheet 79 = .ok (.iload_n 2, 1) := by decide +kernel
theorem dX8_sheet_80 : decode cX8_sheet 80 = .ok (.iload_n 3, 1) := by decide +kernel
theorem dX8_sheet_81 : decode cX8_sheet 81 = .ok (.invokevirtual 286, 3) := by decide +kernel
theorem dX8_sheet_84 : decode cX8_sheet 84 = .ok (.aload_n 0, 1) := by decide +kernel
theorem dX8_sheet_85 : decode cX8_sheet 85 = .ok (.getfield 33, 3) := by decide +kernel
theorem dX8_sheet_88 : decode cX8_sheet 88 = .ok (.iload_n 1, 1) := by decide +kernel
theorem dX8_sheet_89 : decode cX8_sheet 89 = .ok (.aaload, 1) := by decide +kernel
theorem dX8_sheet_90 : decode cX8_sheet 90 = .ok (.getfield 290, 3) := by decide +kernel
theorem dX8_sheet_93 : decode cX8_sheet 93 = .ok (.ireturn, 1) := by decide +kernel
theorem dX8_write_0 : decode cX8_write 0 = .ok (.iload_n 1, 1) := by decide +kernel
theorem dX8_write_1 : decode cX8_write 1 = .ok (.invokestatic 282, 3) := by decide +kernel
theorem dX8_write_4 : decode cX8_write 4 = .ok (.ifCond .ne 10, 3) := by decide +kernel
theorem dX8_write_7 : decode cX8_write 7 = .ok (.aload_n 0, 1) := by decide +kernel
theorem dX8_write_8 : decode cX8_write 8 = .ok (.ldc 69, 2) := by decide +kernel
theorem dX8_write_10 : decode cX8_write 10 = .ok (.invokevirtual 70, 3) := by decide +kernel
theorem dX8_write_13 : decode cX8_write 13 = .ok (.ireturn, 1) := by decide +kernel
theorem dX8_write_14 : decode cX8_write 14 = .ok (.aload_n 0, 1) := by decide +kernel
theorem dX8_write_15 : decode cX8_write 15 = .ok (.getfield 33, 3) := by decide +kernel
theorem dX8_write_18 : decode cX8_write 18 = .ok (.iload_n 1, 1) := by decide +kernel
theorem dX8_write_19 : decode cX8_write 19 = .ok (.aaload, 1) := by decide +kernel
theorem dX8_write_20 : decode cX8_write 20 = .ok (.astore 4, 2) := by decide +kernel
theorem dX8_write_22 : decode cX8_write 22 = .ok (.aload 4, 2) := by decide +kernel
theorem dX8_write_24 : decode cX8_write 24 = .ok (.invokevirtual 291, 3) := by decide +kernel
theorem dX8_write_27 : decode cX8_write 27 = .ok (.ifCond .eq 11, 3) := by decide +kernel
theorem dX8_write_30 : decode cX8_write 30 = .ok (.aload_n 0, 1) := by decide +kernel
theorem dX8_write_31 : decode cX8_write 31 = .ok (.ldc_w 280, 3) := by decide +kernel
theorem dX8_write_34 : decode cX8_write 34 = .ok (.invokevirtual 70, 3) := by decide +kernel
theorem dX8_write_37 : decode cX8_write 37 = .ok (.ireturn, 1) := by decide +kernel
theorem dX8_write_38 : decode cX8_write 38 = .ok (.iload_n 2, 1) := by decide +kernel
theorem dX8_write_39 : decode cX8_write 39 = .ok (.iconst 0, 1) := by decide +kernel
theorem dX8_write_40 : decode cX8_write 40 = .ok (.aload 4, 2) := by decide +kernel
theorem dX8_write_42 : decode cX8_write 42 = .ok (.getfield 290, 3) := by decide +kernel
theorem dX8_write_45 : decode cX8_write 45 = .ok (.iconst 1, 1) := by decide +kernel
theorem dX8_write_46 : decode cX8_write 46 = .ok (.isub, 1) := by decide +kernel
theorem dX8_write_47 : decode cX8_write 47 = .ok (.invokestatic 65, 3) := by decide +kernel
theorem dX8_write_50 : decode cX8_write 50 = .ok (.ifCond .ne 10, 3) := by decide +kernel
theorem dX8_write_53 : decode cX8_write 53 = .ok (.aload_n 0, 1) := by decide +kernel
theorem dX8_write_54 : decode cX8_write 54 = .ok (.ldc 69, 2) := by decide +kernel
theorem dX8_write_56 : decode cX8_write 56 = .ok (.invokevirtual 70, 3) := by decide +kernel
theorem dX8_write_59 : decode cX8_write 59 = .ok (.ireturn, 1) := by decide +kernel
theorem dX8_write_60 : decode cX8_write 60 = .ok (.aload 4, 2) := by decide +kernel
theorem dX8_write_62 : decode cX8_write 62 = .ok (.iload_n 2, 1) := by decide +kernel
theorem dX8_write_63 : decode cX8_write 63 = .ok (.iload_n 3, 1) := by decide +kernel
theorem dX8_write_64 : decode cX8_write 64 = .ok (.invokevirtual 294, 3) := by decide +kernel
theorem dX8_write_67 : decode cX8_write 67 = .ok (.iconst 1, 1) := by decide +kernel
theorem dX8_write_68 : decode cX8_write 68 = .ok (.ireturn, 1) := by decide +kernel
theorem dX8_copy_0 : decode cX8_copy 0 = .ok (.iload_n 1, 1) := by decide +kernel
theorem dX8_copy_1 : decode cX8_copy 1 = .ok (.invokestatic 282, 3) := by decide +kernel
theorem dX8_copy_4 : decode cX8_copy 4 = .ok (.ifCond .eq 10, 3) := by decide +kernel
theorem dX8_copy_7 : decode cX8_copy 7 = .ok (.iload_n 3, 1) := by decide +kernel
theorem dX8_copy_8 : decode cX8_copy 8 = .ok (.invokestatic 282, 3) := by decide +kernel
theorem dX8_copy_11 : decode cX8_copy 11 = .ok (.ifCond .ne 10, 3) := by decide +kernel
theorem dX8_copy_14 : decode cX8_copy 14 = .ok (.aload_n 0, 1) := by decide +kernel
theorem dX8_copy_15 : decode cX8_copy 15 = .ok (.ldc 69, 2) := by decide +kernel
theorem dX8_copy_17 : decode cX8_copy 17 = .ok (.invokevirtual 70, 3) := by decide +kernel
theorem dX8_copy_20 : decode cX8_copy 20 = .ok (.ireturn, 1) := by decide +kernel
theorem dX8_copy_21 : decode cX8_copy 21 = .ok (.aload_n 0, 1) := by decide +kernel
theorem dX8_copy_22 : decode cX8_copy 22 = .ok (.getfield 33, 3) := by decide +kernel
theorem dX8_copy_25 : decode cX8_copy 25 = .ok (.iload_n 1, 1) := by decide +kernel
theorem dX8_copy_26 : decode cX8_copy 26 = .ok (.aaload, 1) := by decide +kernel
theorem dX8_copy_27 : decode cX8_copy 27 = .ok (.astore 6, 2) := by decide +kernel
theorem dX8_copy_29 : decode cX8_copy 29 = .ok (.aload_n 0, 1) := by decide +kernel
theorem dX8_copy_30 : decode cX8_copy 30 = .ok (.getfield 33, 3) := by decide +kernel
theorem dX8_copy_33 : decode cX8_copy 33 = .ok (.iload_n 3, 1) := by decide +kernel
theorem dX8_copy_34 : decode cX8_copy 34 = .ok (.aaload, 1) := by decide +kernel
theorem dX8_copy_35 : decode cX8_copy 35 = .ok (.astore 7, 2) := by decide +kernel
theorem dX8_copy_37 : decode cX8_copy 37 = .ok (.aload 6, 2) := by decide +kernel
theorem dX8_copy_39 : decode cX8_copy 39 = .ok (.invokevirtual 291, 3) := by decide +kernel
theorem dX8_copy_42 : decode cX8_copy 42 = .ok (.ifCond .ne 11, 3) := by decide +kernel
theorem dX8_copy_45 : decode cX8_copy 45 = .ok (.aload 7, 2) := by decide +kernel
theorem dX8_copy_47 : decode cX8_copy 47 = .ok (.invokevirtual 291, 3) := by decide +kernel
theorem dX8_copy_50 : decode cX8_copy 50 = .ok (.ifCond .eq 11, 3) := by decide +kernel
theorem dX8_copy_53 : decode cX8_copy 53 = .ok (.aload_n 0, 1) := by decide +kernel
theorem dX8_copy_54 : decode cX8_copy 54 = .ok (.ldc_w 280, 3) := by decide +kernel
theorem dX8_copy_57 : decode cX8_copy 57 = .ok (.invokevirtual 70, 3) := by decide +kernel
theorem dX8_copy_60 : decode cX8_copy 60 = .ok (.ireturn, 1) := by decide +kernel
theorem dX8_copy_61 : decode cX8_copy 61 = .ok (.aload 6, 2) := by decide +kernel
theorem dX8_copy_63 : decode cX8_copy 63 = .ok (.getfield 297, 3) := by decide +kernel
theorem dX8_copy_66 : decode cX8_copy 66 = .ok (.aload 7, 2) := by decide +kernel
theorem dX8_copy_68 : decode cX8_copy 68 = .ok (.getfield 297, 3) := by decide +kernel
theorem dX8_copy_71 : decode cX8_copy 71 = .ok (.if_icmp .eq 11, 3) := by decide +kernel
theorem dX8_copy_74 : decode cX8_copy 74 = .ok (.aload_n 0, 1) := by decide +kernel
theorem dX8_copy_75 : decode cX8_copy 75 = .ok (.ldc_w 281, 3) := by decide +kernel
theorem dX8_copy_78 : decode cX8_copy 78 = .ok (.invokevirtual 70, 3) := by decide +kernel
theorem dX8_copy_81 : decode cX8_copy 81 = .ok (.ireturn, 1) := by decide +kernel
theorem dX8_copy_82 : decode cX8_copy 82 = .ok (.aload 6, 2) := by decide +kernel
theorem dX8_copy_84 : decode cX8_copy 84 = .ok (.iload_n 2, 1) := by decide +kernel
theorem dX8_copy_85 : decode cX8_copy 85 = .ok (.iload 5, 2) := by decide +kernel
theorem dX8_copy_87 : decode cX8_copy 87 = .ok (.invokevirtual 300, 3) := by decide +kernel
theorem dX8_copy_90 : decode cX8_copy 90 = .ok (.ifCond .eq 15, 3) := by decide +kernel
theorem dX8_copy_93 : decode cX8_copy 93 = .ok (.aload 7, 2) := by decide +kernel
theorem dX8_copy_95 : decode cX8_copy 95 = .ok (.iload 4, 2) := by decide +kernel
theorem dX8_copy_97 : decode cX8_copy 97 = .ok (.iload 5, 2) := by decide +kernel
theorem dX8_copy_99 : decode cX8_copy 99 = .ok (.invokevirtual 300, 3) := by decide +kernel
theorem dX8_copy_102 : decode cX8_copy 102 = .ok (.ifCond .ne 10, 3) := by decide +kernel
theorem dX8_copy_105 : decode cX8_copy 105 = .ok (.aload_n 0, 1) := by decide +kernel
theorem dX8_copy_106 : decode cX8_copy 106 = .ok (.ldc 69, 2) := by decide +kernel
theorem dX8_copy_108 : decode cX8_copy 108 = .ok (.invokevirtual 70, 3) := by decide +kernel
theorem dX8_copy_111 : decode cX8_copy 111 = .ok (.ireturn, 1) := by decide +kernel
theorem dX8_copy_112 : decode cX8_copy 112 = .ok (.aload 6, 2) := by decide +kernel
theorem dX8_copy_114 : decode cX8_copy 114 = .ok (.getfield 303, 3) := by decide +kernel
theorem dX8_copy_117 : decode cX8_copy 117 = .ok (.iload_n 2, 1) := by decide +kernel
theorem dX8_copy_118 : decode cX8_copy 118 = .ok (.aload 7, 2) := by decide +kernel
theorem dX8_copy_120 : decode cX8_copy 120 = .ok (.getfield 303, 3) := by decide +kernel
theorem dX8_copy_123 : decode cX8_copy 123 = .ok (.iload 4, 2) := by decide +kernel
theorem dX8_copy_125 : decode cX8_copy 125 = .ok (.iload 5, 2) := by decide +kernel
theorem dX8_copy_127 : decode cX8_copy 127 = .ok (.invokestatic 306, 3) := by decide +kernel
theorem dX8_copy_130 : decode cX8_copy 130 = .ok (.iload 5, 2) := by decide +kernel
theorem dX8_copy_132 : decode cX8_copy 132 = .ok (.ireturn, 1) := by decide +kernel
theorem dX8_load_0 : decode cX8_load 0 = .ok (.iload_n 1, 1) := by decide +kernel
theorem dX8_load_1 : decode cX8_load 1 = .ok (.invokestatic 282, 3) := by decide +kernel
theorem dX8_load_4 : decode cX8_load 4 = .ok (.ifCond .ne 10, 3) := by decide +kernel
theorem dX8_load_7 : decode cX8_load 7 = .ok (.aload_n 0, 1) := by decide +kernel
theorem dX8_load_8 : decode cX8_load 8 = .ok (.ldc 69, 2) := by decide +kernel
theorem dX8_load_10 : decode cX8_load 10 = .ok (.invokevirtual 70, 3) := by decide +kernel
theorem dX8_load_13 : decode cX8_load 13 = .ok (.ireturn, 1) := by decide +kernel
theorem dX8_load_14 : decode cX8_load 14 = .ok (.aload_n 0, 1) := by decide +kernel
theorem dX8_load_15 : decode cX8_load 15 = .ok (.getfield 33, 3) := by decide +kernel
theorem dX8_load_18 : decode cX8_load 18 = .ok (.iload_n 1, 1) := by decide +kernel
theorem dX8_load_19 : decode cX8_load 19 = .ok (.aaload, 1) := by decide +kernel
theorem dX8_load_20 : decode cX8_load 20 = .ok (.astore_n 2, 1) := by decide +kernel
theorem dX8_load_21 : decode cX8_load 21 = .ok (.aload_n 2, 1) := by decide +kernel
theorem dX8_load_22 : decode cX8_load 22 = .ok (.invokevirtual 291, 3) := by decide +kernel
theorem dX8_load_25 : decode cX8_load 25 = .ok (.ifCond .eq 11, 3) := by decide +kernel
theorem dX8_load_28 : decode cX8_load 28 = .ok (.aload_n 0, 1) := by decide +kernel
theorem dX8_load_29 : decode cX8_load 29 = .ok (.ldc_w 280, 3) := by decide +kernel
theorem dX8_load_32 : decode cX8_load 32 = .ok (.invokevirtual 70, 3) := by decide +kernel
theorem dX8_load_35 : decode cX8_load 35 = .ok (.ireturn, 1) := by decide +kernel
theorem dX8_load_36 : decode cX8_load 36 = .ok (.iconst 0, 1) := by decide +kernel
theorem dX8_load_37 : decode cX8_load 37 = .ok (.istore_n 3, 1) := by decide +kernel
theorem dX8_load_38 : decode cX8_load 38 = .ok (.iconst 0, 1) := by decide +kernel
theorem dX8_load_39 : decode cX8_load 39 = .ok (.istore 4, 2) := by decide +kernel
theorem dX8_load_41 : decode cX8_load 41 = .ok (.iload 4, 2) := by decide +kernel
theorem dX8_load_43 : decode cX8_load 43 = .ok (.iconst 1, 1) := by decide +kernel
theorem dX8_load_44 : decode cX8_load 44 = .ok (.iadd, 1) := by decide +kernel
theorem dX8_load_45 : decode cX8_load 45 = .ok (.aload_n 2, 1) := by decide +kernel
theorem dX8_load_46 : decode cX8_load 46 = .ok (.getfield 290, 3) := by decide +kernel
theorem dX8_load_49 : decode cX8_load 49 = .ok (.if_icmp .ge 86, 3) := by decide +kernel
theorem dX8_load_52 : decode cX8_load 52 = .ok (.aload_n 2, 1) := by decide +kernel
theorem dX8_load_53 : decode cX8_load 53 = .ok (.getfield 303, 3) := by decide +kernel
theorem dX8_load_56 : decode cX8_load 56 = .ok (.iload 4, 2) := by decide +kernel
theorem dX8_load_58 : decode cX8_load 58 = .ok (.iaload, 1) := by decide +kernel
theorem dX8_load_59 : decode cX8_load 59 = .ok (.istore 5, 2) := by decide +kernel
theorem dX8_load_61 : decode cX8_load 61 = .ok (.aload_n 2, 1) := by decide +kernel
theorem dX8_load_62 : decode cX8_load 62 = .ok (.getfield 303, 3) := by decide +kernel
theorem dX8_load_65 : decode cX8_load 65 = .ok (.iload 4, 2) := by decide +kernel
theorem dX8_load_67 : decode cX8_load 67 = .ok (.iconst 1, 1) := by decide +kernel
theorem dX8_load_68 : decode cX8_load 68 = .ok (.iadd, 1) := by decide +kernel
theorem dX8_load_69 : decode cX8_load 69 = .ok (.iaload, 1) := by decide +kernel
theorem dX8_load_70 : decode cX8_load 70 = .ok (.istore 6, 2) := by decide +kernel
theorem dX8_load_72 : decode cX8_load 72 = .ok (.aload_n 0, 1) := by decide +kernel
theorem dX8_load_73 : decode cX8_load 73 = .ok (.getfield 12, 3) := by decide +kernel
theorem dX8_load_76 : decode cX8_load 76 = .ok (.getfield 74, 3) := by decide +kernel
theorem dX8_load_79 : decode cX8_load 79 = .ok (.iload 5, 2) := by decide +kernel
theorem dX8_load_81 : decode cX8_load 81 = .ok (.invokevirtual 88, 3) := by decide +kernel
theorem dX8_load_84 : decode cX8_load 84 = .ok (.ifCond .eq 51, 3) := by decide +kernel
theorem dX8_load_87 : decode cX8_load 87 = .ok (.iload 6, 2) := by decide +kernel
theorem dX8_load_89 : decode cX8_load 89 = .ok (.invokestatic 147, 3) := by decide +kernel
theorem dX8_load_92 : decode cX8_load 92 = .ok (.ifCond .eq 43, 3) := by decide +kernel
theorem dX8_load_95 : decode cX8_load 95 = .ok (.aload_n 0, 1) := by decide +kernel
theorem dX8_load_96 : decode cX8_load 96 = .ok (.getfield 12, 3) := by decide +kernel
theorem dX8_load_99 : decode cX8_load 99 = .ok (.getfield 134, 3) := by decide +kernel
theorem dX8_load_102 : decode cX8_load 102 = .ok (.invokevirtual 150, 3) := by decide +kernel
theorem dX8_load_105 : decode cX8_load 105 = .ok (.ifCond .eq 6, 3) := by decide +kernel
theorem dX8_load_108 : decode cX8_load 108 = .ok (.goto 27, 3) := by decide +kernel
theorem dX8_load_111 : decode cX8_load 111 = .ok (.aload_n 0, 1) := by decide +kernel
theorem dX8_load_112 : decode cX8_load 112 = .ok (.getfield 12, 3) := by decide +kernel
theorem dX8_load_115 : decode cX8_load 115 = .ok (.getfield 134, 3) := by decide +kernel
theorem dX8_load_118 : decode cX8_load 118 = .ok (.iload 5, 2) := by decide +kernel
theorem dX8_load_120 : decode cX8_load 120 = .ok (.iload 6, 2) := by decide +kernel
theorem dX8_load_122 : decode cX8_load 122 = .ok (.invokevirtual 154, 3) := by decide +kernel
theorem dX8_load_125 : decode cX8_load 125 = .ok (.pop, 1) := by decide +kernel
theorem dX8_load_126 : decode cX8_load 126 = .ok (.iinc 3 1, 3) := by decide +kernel
theorem dX8_load_129 : decode cX8_load 129 = .ok (.iinc 4 2, 3) := by decide +kernel
theorem dX8_load_132 : decode cX8_load 132 = .ok (.goto (-91), 3) := by decide +kernel
theorem dX8_load_135 : decode cX8_load 135 = .ok (.iload_n 3, 1) := by decide +kernel
theorem dX8_load_136 : decode cX8_load 136 = .ok (.ireturn, 1) := by decide +kernel
theorem dX8_judge_0 : decode cX8_judge 0 = .ok (.iload_n 1, 1) := by decide +kernel
theorem dX8_judge_1 : decode cX8_judge 1 = .ok (.invokestatic 282, 3) := by decide +kernel
theorem dX8_judge_4 : decode cX8_judge 4 = .ok (.ifCond .ne 10, 3) := by decide +kernel
theorem dX8_judge_7 : decode cX8_judge 7 = .ok (.aload_n 0, 1) := by decide +kernel
theorem dX8_judge_8 : decode cX8_judge 8 = .ok (.ldc 69, 2) := by decide +kernel
theorem dX8_judge_10 : decode cX8_judge 10 = .ok (.invokevirtual 70, 3) := by decide +kernel
theorem dX8_judge_13 : decode cX8_judge 13 = .ok (.ireturn, 1) := by decide +kernel
theorem dX8_judge_14 : decode cX8_judge 14 = .ok (.aload_n 0, 1) := by decide +kernel
theorem dX8_judge_15 : decode cX8_judge 15 = .ok (.getfield 33, 3) := by decide +kernel
theorem dX8_judge_18 : decode cX8_judge 18 = .ok (.iload_n 1, 1) := by decide +kernel
theorem dX8_judge_19 : decode cX8_judge 19 = .ok (.aaload, 1) := by decide +kernel
theorem dX8_judge_20 : decode cX8_judge 20 = .ok (.astore_n 2, 1) := by decide +kernel
theorem dX8_judge_21 : decode cX8_judge 21 = .ok (.aload_n 2, 1) := by decide +kernel
theorem dX8_judge_22 : decode cX8_judge 22 = .ok (.invokevirtual 291, 3) := by decide +kernel
theorem dX8_judge_25 : decode cX8_judge 25 = .ok (.ifCond .eq 11, 3) := by decide +kernel
theorem dX8_judge_28 : decode cX8_judge 28 = .ok (.aload_n 0, 1) := by decide +kernel
theorem dX8_judge_29 : decode cX8_judge 29 = .ok (.ldc_w 280, 3) := by decide +kernel
theorem dX8_judge_32 : decode cX8_judge 32 = .ok (.invokevirtual 70, 3) := by decide +kernel
theorem dX8_judge_35 : decode cX8_judge 35 = .ok (.ireturn, 1) := by decide +kernel
theorem dX8_judge_36 : decode cX8_judge 36 = .ok (.aload_n 0, 1) := by decide +kernel
theorem dX8_judge_37 : decode cX8_judge 37 = .ok (.getfield 12, 3) := by decide +kernel
theorem dX8_judge_40 : decode cX8_judge 40 = .ok (.getfield 134, 3) := by decide +kernel
theorem dX8_judge_43 : decode cX8_judge 43 = .ok (.astore_n 3, 1) := by decide +kernel
theorem dX8_judge_44 : decode cX8_judge 44 = .ok (.aload_n 2, 1) := by decide +kernel
theorem dX8_judge_45 : decode cX8_judge 45 = .ok (.getfield 290, 3) := by decide +kernel
theorem dX8_judge_48 : decode cX8_judge 48 = .ok (.aload_n 3, 1) := by decide +kernel
theorem dX8_judge_49 : decode cX8_judge 49 = .ok (.getfield 312, 3) := by decide +kernel
theorem dX8_judge_52 : decode cX8_judge 52 = .ok (.invokestatic 128, 3) := by decide +kernel
theorem dX8_judge_55 : decode cX8_judge 55 = .ok (.istore 4, 2) := by decide +kernel
theorem dX8_judge_57 : decode cX8_judge 57 = .ok (.iconst 0, 1) := by decide +kernel
theorem dX8_judge_58 : decode cX8_judge 58 = .ok (.istore 5, 2) := by decide +kernel
theorem dX8_judge_60 : decode cX8_judge 60 = .ok (.iload 5, 2) := by decide +kernel
theorem dX8_judge_62 : decode cX8_judge 62 = .ok (.iload 4, 2) := by decide +kernel
theorem dX8_judge_64 : decode cX8_judge 64 = .ok (.if_icmp .ge 26, 3) := by decide +kernel
theorem dX8_judge_67 : decode cX8_judge 67 = .ok (.aload_n 2, 1) := by decide +kernel
theorem dX8_judge_68 : decode cX8_judge 68 = .ok (.getfield 303, 3) := by decide +kernel
theorem dX8_judge_71 : decode cX8_judge 71 = .ok (.iload 5, 2) := by decide +kernel
theorem dX8_judge_73 : decode cX8_judge 73 = .ok (.iaload, 1) := by decide +kernel
theorem dX8_judge_74 : decode cX8_judge 74 = .ok (.aload_n 3, 1) := by decide +kernel
theorem dX8_judge_75 : decode cX8_judge 75 = .ok (.getfield 159, 3) := by decide +kernel
theorem dX8_judge_78 : decode cX8_judge 78 = .ok (.iload 5, 2) := by decide +kernel
theorem dX8_judge_80 : decode cX8_judge 80 = .ok (.iaload, 1) := by decide +kernel
theorem dX8_judge_81 : decode cX8_judge 81 = .ok (.if_icmp .ne 9, 3) := by decide +kernel
theorem dX8_judge_84 : decode cX8_judge 84 = .ok (.iinc 5 1, 3) := by decide +kernel
theorem dX8_judge_87 : decode cX8_judge 87 = .ok (.goto (-27), 3) := by decide +kernel
theorem dX8_judge_90 : decode cX8_judge 90 = .ok (.iload 5, 2) := by decide +kernel
theorem dX8_judge_92 : decode cX8_judge 92 = .ok (.aload_n 2, 1) := by decide +kernel
theorem dX8_judge_93 : decode cX8_judge 93 = .ok (.getfield 290, 3) := by decide +kernel
theorem dX8_judge_96 : decode cX8_judge 96 = .ok (.if_icmp .ne 16, 3) := by decide +kernel
theorem dX8_judge_99 : decode cX8_judge 99 = .ok (.iload 5, 2) := by decide +kernel
theorem dX8_judge_101 : decode cX8_judge 101 = .ok (.aload_n 3, 1) := by decide +kernel
theorem dX8_judge_102 : decode cX8_judge 102 = .ok (.getfield 312, 3) := by decide +kernel
theorem dX8_judge_105 : decode cX8_judge 105 = .ok (.if_icmp .ne 7, 3) := by decide +kernel
theorem dX8_judge_108 : decode cX8_judge 108 = .ok (.iconst 1, 1) := by decide +kernel
theorem dX8_judge_109 : decode cX8_judge 109 = .ok (.goto 4, 3) := by decide +kernel
theorem dX8_judge_112 : decode cX8_judge 112 = .ok (.iconst 0, 1) := by decide +kernel
theorem dX8_judge_113 : decode cX8_judge 113 = .ok (.istore 6, 2) := by decide +kernel
theorem dX8_judge_115 : decode cX8_judge 115 = .ok (.iload 6, 2) := by decide +kernel
theorem dX8_judge_117 : decode cX8_judge 117 = .ok (.ifCond .eq 7, 3) := by decide +kernel
theorem dX8_judge_120 : decode cX8_judge 120 = .ok (.iconst 0, 1) := by decide +kernel
theorem dX8_judge_121 : decode cX8_judge 121 = .ok (.goto 7, 3) := by decide +kernel
theorem dX8_judge_124 : decode cX8_judge 124 = .ok (.iload 5, 2) := by decide +kernel
theorem dX8_judge_126 : decode cX8_judge 126 = .ok (.iconst 1, 1) := by decide +kernel
theorem dX8_judge_127 : decode cX8_judge 127 = .ok (.iadd, 1) := by decide +kernel
theorem dX8_judge_128 : decode cX8_judge 128 = .ok (.ireturn, 1) := by decide +kernel
theorem dX8_image_0 : decode cX8_image 0 = .ok (.aload_n 0, 1) := by decide +kernel
theorem dX8_image_1 : decode cX8_image 1 = .ok (.getfield 16, 3) := by decide +kernel
theorem dX8_image_4 : decode cX8_image 4 = .ok (.aload_n 0, 1) := by decide +kernel
theorem dX8_image_5 : decode cX8_image 5 = .ok (.getfield 12, 3) := by decide +kernel
theorem dX8_image_8 : decode cX8_image 8 = .ok (.invokevirtual 313, 3) := by decide +kernel
theorem dX8_image_11 : decode cX8_image 11 = .ok (.aload_n 0, 1) := by decide +kernel
theorem dX8_image_12 : decode cX8_image 12 = .ok (.iconst 1, 1) := by decide +kernel
theorem dX8_image_13 : decode cX8_image 13 = .ok (.putfield 19, 3) := by decide +kernel
theorem dX8_image_16 : decode cX8_image 16 = .ok (.iconst 1, 1) := by decide +kernel
theorem dX8_image_17 : decode cX8_image 17 = .ok (.ireturn, 1) := by decide +kernel
theorem dX8_undo_0 : decode cX8_undo 0 = .ok (.aload_n 0, 1) := by decide +kernel
theorem dX8_undo_1 : decode cX8_undo 1 = .ok (.getfield 19, 3) := by decide +kernel
theorem dX8_undo_4 : decode cX8_undo 4 = .ok (.ifCond .ne 10, 3) := by decide +kernel
theorem dX8_undo_7 : decode cX8_undo 7 = .ok (.aload_n 0, 1) := by decide +kernel
theorem dX8_undo_8 : decode cX8_undo 8 = .ok (.ldc 133, 2) := by decide +kernel
theorem dX8_undo_10 : decode cX8_undo 10 = .ok (.invokevirtual 70, 3) := by decide +kernel
theorem dX8_undo_13 : decode cX8_undo 13 = .ok (.ireturn, 1) := by decide +kernel
theorem dX8_undo_14 : decode cX8_undo 14 = .ok (.aload_n 0, 1) := by decide +kernel
theorem dX8_undo_15 : decode cX8_undo 15 = .ok (.getfield 12, 3) := by decide +kernel
theorem dX8_undo_18 : decode cX8_undo 18 = .ok (.aload_n 0, 1) := by decide +kernel
theorem dX8_undo_19 : decode cX8_undo 19 = .ok (.getfield 16, 3) := by decide +kernel
theorem dX8_undo_22 : decode cX8_undo 22 = .ok (.invokevirtual 313, 3) := by decide +kernel
theorem dX8_undo_25 : decode cX8_undo 25 = .ok (.aload_n 0, 1) := by decide +kernel
theorem dX8_undo_26 : decode cX8_undo 26 = .ok (.getfield 12, 3) := by decide +kernel
theorem dX8_undo_29 : decode cX8_undo 29 = .ok (.getfield 134, 3) := by decide +kernel
theorem dX8_undo_32 : decode cX8_undo 32 = .ok (.getfield 138, 3) := by decide +kernel
theorem dX8_undo_35 : decode cX8_undo 35 = .ok (.ireturn, 1) := by decide +kernel
theorem dX8_tear_0 : decode cX8_tear 0 = .ok (.aload_n 0, 1) := by decide +kernel
theorem dX8_tear_1 : decode cX8_tear 1 = .ok (.getfield 19, 3) := by decide +kernel
theorem dX8_tear_4 : decode cX8_tear 4 = .ok (.invokestatic 99, 3) := by decide +kernel
theorem dX8_tear_7 : decode cX8_tear 7 = .ok (.istore_n 1, 1) := by decide +kernel
theorem dX8_tear_8 : decode cX8_tear 8 = .ok (.aload_n 0, 1) := by decide +kernel
theorem dX8_tear_9 : decode cX8_tear 9 = .ok (.iconst 0, 1) := by decide +kernel
theorem dX8_tear_10 : decode cX8_tear 10 = .ok (.putfield 19, 3) := by decide +kernel
theorem dX8_tear_13 : decode cX8_tear 13 = .ok (.iload_n 1, 1) := by decide +kernel
theorem dX8_tear_14 : decode cX8_tear 14 = .ok (.ireturn, 1) := by decide +kernel
theorem dX8_count_0 : decode cX8_count 0 = .ok (.iload_n 1, 1) := by decide +kernel
theorem dX8_count_1 : decode cX8_count 1 = .ok (.tableswitch 147 0 8 #[51, 62, 73, 84, 95, 106, 111, 125, 139], 51) := by decide +kernel
theorem dX8_count_52 : decode cX8_count 52 = .ok (.aload_n 0, 1) := by decide +kernel
theorem dX8_count_53 : decode cX8_count 53 = .ok (.getfield 12, 3) := by decide +kernel
theorem dX8_count_56 : decode cX8_count 56 = .ok (.getfield 74, 3) := by decide +kernel
theorem dX8_count_59 : decode cX8_count 59 = .ok (.getfield 78, 3) := by decide +kernel
theorem dX8_count_62 : decode cX8_count 62 = .ok (.ireturn, 1) := by decide +kernel
theorem dX8_count_63 : decode cX8_count 63 = .ok (.aload_n 0, 1) := by decide +kernel
theorem dX8_count_64 : decode cX8_count 64 = .ok (.getfield 12, 3) := by decide +kernel
theorem dX8_count_67 : decode cX8_count 67 = .ok (.getfield 134, 3) := by decide +kernel
theorem dX8_count_70 : decode cX8_count 70 = .ok (.getfield 138, 3) := by decide +kernel
theorem dX8_count_73 : decode cX8_count 73 = .ok (.ireturn, 1) := by decide +kernel
theorem dX8_count_74 : decode cX8_count 74 = .ok (.aload_n 0, 1) := by decide +kernel
theorem dX8_count_75 : decode cX8_count 75 = .ok (.getfield 12, 3) := by decide +kernel
theorem dX8_count_78 : decode cX8_count 78 = .ok (.getfield 134, 3) := by decide +kernel
theorem dX8_count_81 : decode cX8_count 81 = .ok (.getfield 312, 3) := by decide +kernel
theorem dX8_count_84 : decode cX8_count 84 = .ok (.ireturn, 1) := by decide +kernel
theorem dX8_count_85 : decode cX8_count 85 = .ok (.aload_n 0, 1) := by decide +kernel
theorem dX8_count_86 : decode cX8_count 86 = .ok (.getfield 12, 3) := by decide +kernel
theorem dX8_count_89 : decode cX8_count 89 = .ok (.getfield 134, 3) := by decide +kernel
theorem dX8_count_92 : decode cX8_count 92 = .ok (.getfield 317, 3) := by decide +kernel
theorem dX8_count_95 : decode cX8_count 95 = .ok (.ireturn, 1) := by decide +kernel
theorem dX8_count_96 : decode cX8_count 96 = .ok (.aload_n 0, 1) := by decide +kernel
theorem dX8_count_97 : decode cX8_count 97 = .ok (.getfield 12, 3) := by decide +kernel
theorem dX8_count_100 : decode cX8_count 100 = .ok (.getfield 181, 3) := by decide +kernel
theorem dX8_count_103 : decode cX8_count 103 = .ok (.getfield 185, 3) := by decide +kernel
theorem dX8_count_106 : decode cX8_count 106 = .ok (.ireturn, 1) := by decide +kernel
theorem dX8_count_107 : decode cX8_count 107 = .ok (.aload_n 0, 1) := by decide +kernel
theorem dX8_count_108 : decode cX8_count 108 = .ok (.getfield 27, 3) := by decide +kernel
theorem dX8_count_111 : decode cX8_count 111 = .ok (.ireturn, 1) := by decide +kernel
theorem dX8_count_112 : decode cX8_count 112 = .ok (.aload_n 0, 1) := by decide +kernel
theorem dX8_count_113 : decode cX8_count 113 = .ok (.getfield 12, 3) := by decide +kernel
theorem dX8_count_116 : decode cX8_count 116 = .ok (.getfield 74, 3) := by decide +kernel
theorem dX8_count_119 : decode cX8_count 119 = .ok (.getfield 92, 3) := by decide +kernel
theorem dX8_count_122 : decode cX8_count 122 = .ok (.invokestatic 117, 3) := by decide +kernel
theorem dX8_count_125 : decode cX8_count 125 = .ok (.ireturn, 1) := by decide +kernel
theorem dX8_count_126 : decode cX8_count 126 = .ok (.aload_n 0, 1) := by decide +kernel
theorem dX8_count_127 : decode cX8_count 127 = .ok (.getfield 12, 3) := by decide +kernel
theorem dX8_count_130 : decode cX8_count 130 = .ok (.getfield 74, 3) := by decide +kernel
theorem dX8_count_133 : decode cX8_count 133 = .ok (.getfield 219, 3) := by decide +kernel
theorem dX8_count_136 : decode cX8_count 136 = .ok (.invokestatic 117, 3) := by decide +kernel
theorem dX8_count_139 : decode cX8_count 139 = .ok (.ireturn, 1) := by decide +kernel
theorem dX8_count_140 : decode cX8_count 140 = .ok (.aload_n 0, 1) := by decide +kernel
theorem dX8_count_141 : decode cX8_count 141 = .ok (.getfield 12, 3) := by decide +kernel
theorem dX8_count_144 : decode cX8_count 144 = .ok (.getfield 265, 3) := by decide +kernel
theorem dX8_count_147 : decode cX8_count 147 = .ok (.ireturn, 1) := by decide +kernel
theorem dX8_count_148 : decode cX8_count 148 = .ok (.aload_n 0, 1) := by decide +kernel
theorem dX8_count_149 : decode cX8_count 149 = .ok (.ldc 69, 2) := by decide +kernel
theorem dX8_count_151 : decode cX8_count 151 = .ok (.invokevirtual 70, 3) := by decide +kernel
theorem dX8_count_154 : decode cX8_count 154 = .ok (.ireturn, 1) := by decide +kernel
theorem dX8_status_0 : decode cX8_status 0 = .ok (.iload_n 1, 1) := by decide +kernel
theorem dX8_status_1 : decode cX8_status 1 = .ok (.iconst (-1), 1) := by decide +kernel
theorem dX8_status_2 : decode cX8_status 2 = .ok (.bipush 6, 2) := by decide +kernel
theorem dX8_status_4 : decode cX8_status 4 = .ok (.invokestatic 65, 3) := by decide +kernel
theorem dX8_status_7 : decode cX8_status 7 = .ok (.ifCond .ne 10, 3) := by decide +kernel
theorem dX8_status_10 : decode cX8_status 10 = .ok (.aload_n 0, 1) := by decide +kernel
theorem dX8_status_11 : decode cX8_status 11 = .ok (.ldc 69, 2) := by decide +kernel
theorem dX8_status_13 : decode cX8_status 13 = .ok (.invokevirtual 70, 3) := by decide +kernel
theorem dX8_status_16 : decode cX8_status 16 = .ok (.ireturn, 1) := by decide +kernel
theorem dX8_status_17 : decode cX8_status 17 = .ok (.iload_n 1, 1) := by decide +kernel
theorem dX8_status_18 : decode cX8_status 18 = .ok (.ifCond .lt 10, 3) := by decide +kernel
theorem dX8_status_21 : decode cX8_status 21 = .ok (.aload_n 0, 1) := by decide +kernel
theorem dX8_status_22 : decode cX8_status 22 = .ok (.getfield 38, 3) := by decide +kernel
theorem dX8_status_25 : decode cX8_status 25 = .ok (.iload_n 1, 1) := by decide +kernel
theorem dX8_status_26 : decode cX8_status 26 = .ok (.iaload, 1) := by decide +kernel
theorem dX8_status_27 : decode cX8_status 27 = .ok (.ireturn, 1) := by decide +kernel
theorem dX8_status_28 : decode cX8_status 28 = .ok (.iconst 0, 1) := by decide +kernel
theorem dX8_status_29 : decode cX8_status 29 = .ok (.istore_n 2, 1) := by decide +kernel
theorem dX8_status_30 : decode cX8_status 30 = .ok (.iconst 0, 1) := by decide +kernel
theorem dX8_status_31 : decode cX8_status 31 = .ok (.istore_n 3, 1) := by decide +kernel
theorem dX8_status_32 : decode cX8_status 32 = .ok (.iload_n 3, 1) := by decide +kernel
theorem dX8_status_33 : decode cX8_status 33 = .ok (.bipush 7, 2) := by decide +kernel
theorem dX8_status_35 : decode cX8_status 35 = .ok (.if_icmp .ge 18, 3) := by decide +kernel
theorem dX8_status_38 : decode cX8_status 38 = .ok (.iload_n 2, 1) := by decide +kernel
theorem dX8_status_39 : decode cX8_status 39 = .ok (.aload_n 0, 1) := by decide +kernel
theorem dX8_status_40 : decode cX8_status 40 = .ok (.getfield 38, 3) := by decide +kernel
theorem dX8_status_43 : decode cX8_status 43 = .ok (.iload_n 3, 1) := by decide +kernel
theorem dX8_status_44 : decode cX8_status 44 = .ok (.iaload, 1) := by decide +kernel
theorem dX8_status_45 : decode cX8_status 45 = .ok (.iadd, 1) := by decide +kernel
theorem dX8_status_46 : decode cX8_status 46 = .ok (.istore_n 2, 1) := by decide +kernel
theorem dX8_status_47 : decode cX8_status 47 = .ok (.iinc 3 1, 3) := by decide +kernel
theorem dX8_status_50 : decode cX8_status 50 = .ok (.goto (-18), 3) := by decide +kernel
theorem dX8_status_53 : decode cX8_status 53 = .ok (.iload_n 2, 1) := by decide +kernel
theorem dX8_status_54 : decode cX8_status 54 = .ok (.ireturn, 1) := by decide +kernel
theorem dX8_tellFinding_0 : decode cX8_tellFinding 0 = .ok (.ldc 69, 2) := by decide +kernel
theorem dX8_tellFinding_2 : decode cX8_tellFinding 2 = .ok (.iload_n 1, 1) := by decide +kernel
theorem dX8_tellFinding_3 : decode cX8_tellFinding 3 = .ok (.isub, 1) := by decide +kernel
theorem dX8_tellFinding_4 : decode cX8_tellFinding 4 = .ok (.istore_n 2, 1) := by decide +kernel
theorem dX8_tellFinding_5 : decode cX8_tellFinding 5 = .ok (.iload_n 2, 1) := by decide +kernel
theorem dX8_tellFinding_6 : decode cX8_tellFinding 6 = .ok (.iconst 0, 1) := by decide +kernel
theorem dX8_tellFinding_7 : decode cX8_tellFinding 7 = .ok (.bipush 6, 2) := by decide +kernel
theorem dX8_tellFinding_9 : decode cX8_tellFinding 9 = .ok (.invokestatic 65, 3) := by decide +kernel
theorem dX8_tellFinding_12 : decode cX8_tellFinding 12 = .ok (.ifCond .eq 13, 3) := by decide +kernel
theorem dX8_tellFinding_15 : decode cX8_tellFinding 15 = .ok (.aload_n 0, 1) := by decide +kernel
theorem dX8_tellFinding_16 : decode cX8_tellFinding 16 = .ok (.getfield 38, 3) := by decide +kernel
theorem dX8_tellFinding_19 : decode cX8_tellFinding 19 = .ok (.iload_n 2, 1) := by decide +kernel
theorem dX8_tellFinding_20 : decode cX8_tellFinding 20 = .ok (.dup2, 1) := by decide +kernel
theorem dX8_tellFinding_21 : decode cX8_tellFinding 21 = .ok (.iaload, 1) := by decide +kernel
theorem dX8_tellFinding_22 : decode cX8_tellFinding 22 = .ok (.iconst 1, 1) := by decide +kernel
theorem dX8_tellFinding_23 : decode cX8_tellFinding 23 = .ok (.iadd, 1) := by decide +kernel
theorem dX8_tellFinding_24 : decode cX8_tellFinding 24 = .ok (.iastore, 1) := by decide +kernel
theorem dX8_tellFinding_25 : decode cX8_tellFinding 25 = .ok (.iload_n 1, 1) := by decide +kernel
theorem dX8_tellFinding_26 : decode cX8_tellFinding 26 = .ok (.ireturn, 1) := by decide +kernel
theorem dX8_areTwoNames_0 : decode cX8_areTwoNames 0 = .ok (.aload_n 0, 1) := by decide +kernel
theorem dX8_areTwoNames_1 : decode cX8_areTwoNames 1 = .ok (.getfield 12, 3) := by decide +kernel
theorem dX8_areTwoNames_4 : decode cX8_areTwoNames 4 = .ok (.getfield 74, 3) := by decide +kernel
theorem dX8_areTwoNames_7 : decode cX8_areTwoNames 7 = .ok (.iload_n 1, 1) := by decide +kernel
theorem dX8_areTwoNames_8 : decode cX8_areTwoNames 8 = .ok (.invokevirtual 88, 3) := by decide +kernel
theorem dX8_areTwoNames_11 : decode cX8_areTwoNames 11 = .ok (.ifCond .eq 26, 3) := by decide +kernel
theorem dX8_areTwoNames_14 : decode cX8_areTwoNames 14 = .ok (.aload_n 0, 1) := by decide +kernel
theorem dX8_areTwoNames_15 : decode cX8_areTwoNames 15 = .ok (.getfield 12, 3) := by decide +kernel
theorem dX8_areTwoNames_18 : decode cX8_areTwoNames 18 = .ok (.getfield 74, 3) := by decide +kernel
theorem dX8_areTwoNames_21 : decode cX8_areTwoNames 21 = .ok (.iload_n 2, 1) := by decide +kernel
theorem dX8_areTwoNames_22 : decode cX8_areTwoNames 22 = .ok (.invokevirtual 88, 3) := by decide +kernel
theorem dX8_areTwoNames_25 : decode cX8_areTwoNames 25 = .ok (.ifCond .eq 12, 3) := by decide +kernel
theorem dX8_areTwoNames_28 : decode cX8_areTwoNames 28 = .ok (.iload_n 1, 1) := by decide +kernel
theorem dX8_areTwoNames_29 : decode cX8_areTwoNames 29 = .ok (.iload_n 2, 1) := by decide +kernel
theorem dX8_areTwoNames_30 : decode cX8_areTwoNames 30 = .ok (.if_icmp .eq 7, 3) := by decide +kernel
theorem dX8_areTwoNames_33 : decode cX8_areTwoNames 33 = .ok (.iconst 1, 1) := by decide +kernel
theorem dX8_areTwoNames_34 : decode cX8_areTwoNames 34 = .ok (.goto 4, 3) := by decide +kernel
theorem dX8_areTwoNames_37 : decode cX8_areTwoNames 37 = .ok (.iconst 0, 1) := by decide +kernel
theorem dX8_areTwoNames_38 : decode cX8_areTwoNames 38 = .ok (.ireturn, 1) := by decide +kernel
theorem dX8_scoreOf_0 : decode cX8_scoreOf 0 = .ok (.aload_n 0, 1) := by decide +kernel
theorem dX8_scoreOf_1 : decode cX8_scoreOf 1 = .ok (.getfield 44, 3) := by decide +kernel
theorem dX8_scoreOf_4 : decode cX8_scoreOf 4 = .ok (.aload_n 0, 1) := by decide +kernel
theorem dX8_scoreOf_5 : decode cX8_scoreOf 5 = .ok (.getfield 12, 3) := by decide +kernel
theorem dX8_scoreOf_8 : decode cX8_scoreOf 8 = .ok (.getfield 134, 3) := by decide +kernel
theorem dX8_scoreOf_11 : decode cX8_scoreOf 11 = .ok (.iload_n 2, 1) := by decide +kernel
theorem dX8_scoreOf_12 : decode cX8_scoreOf 12 = .ok (.invokevirtual 171, 3) := by decide +kernel
theorem dX8_scoreOf_15 : decode cX8_scoreOf 15 = .ok (.aload_n 0, 1) := by decide +kernel
theorem dX8_scoreOf_16 : decode cX8_scoreOf 16 = .ok (.getfield 51, 3) := by decide +kernel
theorem dX8_scoreOf_19 : decode cX8_scoreOf 19 = .ok (.aload_n 0, 1) := by decide +kernel
theorem dX8_scoreOf_20 : decode cX8_scoreOf 20 = .ok (.getfield 12, 3) := by decide +kernel
theorem dX8_scoreOf_23 : decode cX8_scoreOf 23 = .ok (.getfield 181, 3) := by decide +kernel
theorem dX8_scoreOf_26 : decode cX8_scoreOf 26 = .ok (.getfield 320, 3) := by decide +kernel
theorem dX8_scoreOf_29 : decode cX8_scoreOf 29 = .ok (.iload_n 1, 1) := by decide +kernel
theorem dX8_scoreOf_30 : decode cX8_scoreOf 30 = .ok (.aaload, 1) := by decide +kernel
theorem dX8_scoreOf_31 : decode cX8_scoreOf 31 = .ok (.aload_n 0, 1) := by decide +kernel
theorem dX8_scoreOf_32 : decode cX8_scoreOf 32 = .ok (.getfield 12, 3) := by decide +kernel
theorem dX8_scoreOf_35 : decode cX8_scoreOf 35 = .ok (.getfield 181, 3) := by decide +kernel
theorem dX8_scoreOf_38 : decode cX8_scoreOf 38 = .ok (.getfield 323, 3) := by decide +kernel
theorem dX8_scoreOf_41 : decode cX8_scoreOf 41 = .ok (.iload_n 1, 1) := by decide +kernel
theorem dX8_scoreOf_42 : decode cX8_scoreOf 42 = .ok (.iaload, 1) := by decide +kernel
theorem dX8_scoreOf_43 : decode cX8_scoreOf 43 = .ok (.aload_n 0, 1) := by decide +kernel
theorem dX8_scoreOf_44 : decode cX8_scoreOf 44 = .ok (.getfield 44, 3) := by decide +kernel
theorem dX8_scoreOf_47 : decode cX8_scoreOf 47 = .ok (.getfield 175, 3) := by decide +kernel
theorem dX8_scoreOf_50 : decode cX8_scoreOf 50 = .ok (.invokevirtual 188, 3) := by decide +kernel
theorem dX8_scoreOf_53 : decode cX8_scoreOf 53 = .ok (.ireturn, 1) := by decide +kernel
theorem dX8_gatherScores_0 : decode cX8_gatherScores 0 = .ok (.iconst 0, 1) := by decide +kernel
theorem dX8_gatherScores_1 : decode cX8_gatherScores 1 = .ok (.istore_n 2, 1) := by decide +kernel
theorem dX8_gatherScores_2 : decode cX8_gatherScores 2 = .ok (.iload_n 2, 1) := by decide +kernel
theorem dX8_gatherScores_3 : decode cX8_gatherScores 3 = .ok (.aload_n 0, 1) := by decide +kernel
theorem dX8_gatherScores_4 : decode cX8_gatherScores 4 = .ok (.getfield 12, 3) := by decide +kernel
theorem dX8_gatherScores_7 : decode cX8_gatherScores 7 = .ok (.getfield 74, 3) := by decide +kernel
theorem dX8_gatherScores_10 : decode cX8_gatherScores 10 = .ok (.getfield 78, 3) := by decide +kernel
theorem dX8_gatherScores_13 : decode cX8_gatherScores 13 = .ok (.if_icmp .ge 21, 3) := by decide +kernel
theorem dX8_gatherScores_16 : decode cX8_gatherScores 16 = .ok (.aload_n 0, 1) := by decide +kernel
theorem dX8_gatherScores_17 : decode cX8_gatherScores 17 = .ok (.getfield 62, 3) := by decide +kernel
theorem dX8_gatherScores_20 : decode cX8_gatherScores 20 = .ok (.iload_n 2, 1) := by decide +kernel
theorem dX8_gatherScores_21 : decode cX8_gatherScores 21 = .ok (.aload_n 0, 1) := by decide +kernel
theorem dX8_gatherScores_22 : decode cX8_gatherScores 22 = .ok (.iload_n 1, 1) := by decide +kernel
theorem dX8_gatherScores_23 : decode cX8_gatherScores 23 = .ok (.iload_n 2, 1) := by decide +kernel
theorem dX8_gatherScores_24 : decode cX8_gatherScores 24 = .ok (.invokevirtual 199, 3) := by decide +kernel
theorem dX8_gatherScores_27 : decode cX8_gatherScores 27 = .ok (.iastore, 1) := by decide +kernel
theorem dX8_gatherScores_28 : decode cX8_gatherScores 28 = .ok (.iinc 2 1, 3) := by decide +kernel
theorem dX8_gatherScores_31 : decode cX8_gatherScores 31 = .ok (.goto (-29), 3) := by decide +kernel
theorem dX8_gatherScores_34 : decode cX8_gatherScores 34 = .ok (.return_, 1) := by decide +kernel
theorem dX8_foundSet_0 : decode cX8_foundSet 0 = .ok (.iconst 0, 1) := by decide +kernel
theorem dX8_foundSet_1 : decode cX8_foundSet 1 = .ok (.istore_n 2, 1) := by decide +kernel
theorem dX8_foundSet_2 : decode cX8_foundSet 2 = .ok (.iconst 0, 1) := by decide +kernel
theorem dX8_foundSet_3 : decode cX8_foundSet 3 = .ok (.istore_n 3, 1) := by decide +kernel
theorem dX8_foundSet_4 : decode cX8_foundSet 4 = .ok (.iload_n 3, 1) := by decide +kernel
theorem dX8_foundSet_5 : decode cX8_foundSet 5 = .ok (.aload_n 0, 1) := by decide +kernel
theorem dX8_foundSet_6 : decode cX8_foundSet 6 = .ok (.getfield 12, 3) := by decide +kernel
theorem dX8_foundSet_9 : decode cX8_foundSet 9 = .ok (.getfield 74, 3) := by decide +kernel
theorem dX8_foundSet_12 : decode cX8_foundSet 12 = .ok (.getfield 78, 3) := by decide +kernel
theorem dX8_foundSet_15 : decode cX8_foundSet 15 = .ok (.if_icmp .ge 25, 3) := by decide +kernel
theorem dX8_foundSet_18 : decode cX8_foundSet 18 = .ok (.aload_n 0, 1) := by decide +kernel
theorem dX8_foundSet_19 : decode cX8_foundSet 19 = .ok (.getfield 62, 3) := by decide +kernel
theorem dX8_foundSet_22 : decode cX8_foundSet 22 = .ok (.iload_n 3, 1) := by decide +kernel
theorem dX8_foundSet_23 : decode cX8_foundSet 23 = .ok (.iaload, 1) := by decide +kernel
theorem dX8_foundSet_24 : decode cX8_foundSet 24 = .ok (.iload_n 1, 1) := by decide +kernel
theorem dX8_foundSet_25 : decode cX8_foundSet 25 = .ok (.if_icmp .lt 9, 3) := by decide +kernel
theorem dX8_foundSet_28 : decode cX8_foundSet 28 = .ok (.iload_n 2, 1) := by decide +kernel
theorem dX8_foundSet_29 : decode cX8_foundSet 29 = .ok (.iconst 1, 1) := by decide +kernel
theorem dX8_foundSet_30 : decode cX8_foundSet 30 = .ok (.iload_n 3, 1) := by decide +kernel
theorem dX8_foundSet_31 : decode cX8_foundSet 31 = .ok (.ishl, 1) := by decide +kernel
theorem dX8_foundSet_32 : decode cX8_foundSet 32 = .ok (.ior, 1) := by decide +kernel
theorem dX8_foundSet_33 : decode cX8_foundSet 33 = .ok (.istore_n 2, 1) := by decide +kernel
theorem dX8_foundSet_34 : decode cX8_foundSet 34 = .ok (.iinc 3 1, 3) := by decide +kernel
theorem dX8_foundSet_37 : decode cX8_foundSet 37 = .ok (.goto (-33), 3) := by decide +kernel
theorem dX8_foundSet_40 : decode cX8_foundSet 40 = .ok (.iload_n 2, 1) := by decide +kernel
theorem dX8_foundSet_41 : decode cX8_foundSet 41 = .ok (.ireturn, 1) := by decide +kernel
theorem dX8_wrongedSet_0 : decode cX8_wrongedSet 0 = .ok (.aload_n 0, 1) := by decide +kernel
theorem dX8_wrongedSet_1 : decode cX8_wrongedSet 1 = .ok (.iload_n 1, 1) := by decide +kernel
theorem dX8_wrongedSet_2 : decode cX8_wrongedSet 2 = .ok (.invokevirtual 206, 3) := by decide +kernel
theorem dX8_wrongedSet_5 : decode cX8_wrongedSet 5 = .ok (.aload_n 0, 1) := by decide +kernel
theorem dX8_wrongedSet_6 : decode cX8_wrongedSet 6 = .ok (.getfield 12, 3) := by decide +kernel
theorem dX8_wrongedSet_9 : decode cX8_wrongedSet 9 = .ok (.getfield 74, 3) := by decide +kernel
theorem dX8_wrongedSet_12 : decode cX8_wrongedSet 12 = .ok (.invokevirtual 113, 3) := by decide +kernel
theorem dX8_wrongedSet_15 : decode cX8_wrongedSet 15 = .ok (.iand, 1) := by decide +kernel
theorem dX8_wrongedSet_16 : decode cX8_wrongedSet 16 = .ok (.ireturn, 1) := by decide +kernel
theorem dX8_missedSet_0 : decode cX8_missedSet 0 = .ok (.aload_n 0, 1) := by decide +kernel
theorem dX8_missedSet_1 : decode cX8_missedSet 1 = .ok (.getfield 12, 3) := by decide +kernel
theorem dX8_missedSet_4 : decode cX8_missedSet 4 = .ok (.getfield 74, 3) := by decide +kernel
theorem dX8_missedSet_7 : decode cX8_missedSet 7 = .ok (.invokevirtual 326, 3) := by decide +kernel
theorem dX8_missedSet_10 : decode cX8_missedSet 10 = .ok (.aload_n 0, 1) := by decide +kernel
theorem dX8_missedSet_11 : decode cX8_missedSet 11 = .ok (.iload_n 1, 1) := by decide +kernel
theorem dX8_missedSet_12 : decode cX8_missedSet 12 = .ok (.invokevirtual 206, 3) := by decide +kernel
theorem dX8_missedSet_15 : decode cX8_missedSet 15 = .ok (.iconst (-1), 1) := by decide +kernel
theorem dX8_missedSet_16 : decode cX8_missedSet 16 = .ok (.ixor, 1) := by decide +kernel
theorem dX8_missedSet_17 : decode cX8_missedSet 17 = .ok (.iand, 1) := by decide +kernel
theorem dX8_missedSet_18 : decode cX8_missedSet 18 = .ok (.ireturn, 1) := by decide +kernel
theorem dX8_lineSum_0 : decode cX8_lineSum 0 = .ok (.iload_n 2, 1) := by decide +kernel
theorem dX8_lineSum_1 : decode cX8_lineSum 1 = .ok (.aload_n 0, 1) := by decide +kernel
theorem dX8_lineSum_2 : decode cX8_lineSum 2 = .ok (.iload_n 1, 1) := by decide +kernel
theorem dX8_lineSum_3 : decode cX8_lineSum 3 = .ok (.invokevirtual 209, 3) := by decide +kernel
theorem dX8_lineSum_6 : decode cX8_lineSum 6 = .ok (.invokestatic 117, 3) := by decide +kernel
theorem dX8_lineSum_9 : decode cX8_lineSum 9 = .ok (.imul, 1) := by decide +kernel
theorem dX8_lineSum_10 : decode cX8_lineSum 10 = .ok (.iload_n 3, 1) := by decide +kernel
theorem dX8_lineSum_11 : decode cX8_lineSum 11 = .ok (.aload_n 0, 1) := by decide +kernel
theorem dX8_lineSum_12 : decode cX8_lineSum 12 = .ok (.iload_n 1, 1) := by decide +kernel
theorem dX8_lineSum_13 : decode cX8_lineSum 13 = .ok (.invokevirtual 212, 3) := by decide +kernel
theorem dX8_lineSum_16 : decode cX8_lineSum 16 = .ok (.invokestatic 117, 3) := by decide +kernel
theorem dX8_lineSum_19 : decode cX8_lineSum 19 = .ok (.imul, 1) := by decide +kernel
theorem dX8_lineSum_20 : decode cX8_lineSum 20 = .ok (.iadd, 1) := by decide +kernel
theorem dX8_lineSum_21 : decode cX8_lineSum 21 = .ok (.ireturn, 1) := by decide +kernel
theorem dX8_isWithin_0 : decode cX8_isWithin 0 = .ok (.iload_n 0, 1) := by decide +kernel
theorem dX8_isWithin_1 : decode cX8_isWithin 1 = .ok (.iload_n 1, 1) := by decide +kernel
theorem dX8_isWithin_2 : decode cX8_isWithin 2 = .ok (.if_icmp .lt 12, 3) := by decide +kernel
theorem dX8_isWithin_5 : decode cX8_isWithin 5 = .ok (.iload_n 0, 1) := by decide +kernel
theorem dX8_isWithin_6 : decode cX8_isWithin 6 = .ok (.iload_n 2, 1) := by decide +kernel
theorem dX8_isWithin_7 : decode cX8_isWithin 7 = .ok (.if_icmp .gt 7, 3) := by decide +kernel
theorem dX8_isWithin_10 : decode cX8_isWithin 10 = .ok (.iconst 1, 1) := by decide +kernel
theorem dX8_isWithin_11 : decode cX8_isWithin 11 = .ok (.goto 4, 3) := by decide +kernel
theorem dX8_isWithin_14 : decode cX8_isWithin 14 = .ok (.iconst 0, 1) := by decide +kernel
theorem dX8_isWithin_15 : decode cX8_isWithin 15 = .ok (.ireturn, 1) := by decide +kernel
theorem dX8_isSecond_0 : decode cX8_isSecond 0 = .ok (.iload_n 0, 1) := by decide +kernel
theorem dX8_isSecond_1 : decode cX8_isSecond 1 = .ok (.iconst 0, 1) := by decide +kernel
theorem dX8_isSecond_2 : decode cX8_isSecond 2 = .ok (.sipush 29999, 3) := by decide +kernel
theorem dX8_isSecond_5 : decode cX8_isSecond 5 = .ok (.invokestatic 65, 3) := by decide +kernel
theorem dX8_isSecond_8 : decode cX8_isSecond 8 = .ok (.ireturn, 1) := by decide +kernel
theorem dX8_isTopic_0 : decode cX8_isTopic 0 = .ok (.iload_n 0, 1) := by decide +kernel
theorem dX8_isTopic_1 : decode cX8_isTopic 1 = .ok (.iconst 0, 1) := by decide +kernel
theorem dX8_isTopic_2 : decode cX8_isTopic 2 = .ok (.bipush 9, 2) := by decide +kernel
theorem dX8_isTopic_4 : decode cX8_isTopic 4 = .ok (.invokestatic 65, 3) := by decide +kernel
theorem dX8_isTopic_7 : decode cX8_isTopic 7 = .ok (.ireturn, 1) := by decide +kernel
theorem dX8_isSpan_0 : decode cX8_isSpan 0 = .ok (.iload_n 0, 1) := by decide +kernel
theorem dX8_isSpan_1 : decode cX8_isSpan 1 = .ok (.iconst 0, 1) := by decide +kernel
theorem dX8_isSpan_2 : decode cX8_isSpan 2 = .ok (.bipush 99, 2) := by decide +kernel
theorem dX8_isSpan_4 : decode cX8_isSpan 4 = .ok (.invokestatic 65, 3) := by decide +kernel
theorem dX8_isSpan_7 : decode cX8_isSpan 7 = .ok (.ireturn, 1) := by decide +kernel
theorem dX8_isSpot_0 : decode cX8_isSpot 0 = .ok (.iload_n 0, 1) := by decide +kernel
theorem dX8_isSpot_1 : decode cX8_isSpot 1 = .ok (.iconst 0, 1) := by decide +kernel
theorem dX8_isSpot_2 : decode cX8_isSpot 2 = .ok (.bipush 9, 2) := by decide +kernel
theorem dX8_isSpot_4 : decode cX8_isSpot 4 = .ok (.invokestatic 65, 3) := by decide +kernel
theorem dX8_isSpot_7 : decode cX8_isSpot 7 = .ok (.ireturn, 1) := by decide +kernel
theorem dX8_isSheet_0 : decode cX8_isSheet 0 = .ok (.iload_n 0, 1) := by decide +kernel
theorem dX8_isSheet_1 : decode cX8_isSheet 1 = .ok (.iconst 0, 1) := by decide +kernel
theorem dX8_isSheet_2 : decode cX8_isSheet 2 = .ok (.iconst 3, 1) := by decide +kernel
theorem dX8_isSheet_3 : decode cX8_isSheet 3 = .ok (.invokestatic 65, 3) := by decide +kernel
theorem dX8_isSheet_6 : decode cX8_isSheet 6 = .ok (.ireturn, 1) := by decide +kernel
theorem dX8_hasBit_0 : decode cX8_hasBit 0 = .ok (.iload_n 0, 1) := by decide +kernel
theorem dX8_hasBit_1 : decode cX8_hasBit 1 = .ok (.iload_n 1, 1) := by decide +kernel
theorem dX8_hasBit_2 : decode cX8_hasBit 2 = .ok (.iushr, 1) := by decide +kernel
theorem dX8_hasBit_3 : decode cX8_hasBit 3 = .ok (.iconst 1, 1) := by decide +kernel
theorem dX8_hasBit_4 : decode cX8_hasBit 4 = .ok (.iand, 1) := by decide +kernel
theorem dX8_hasBit_5 : decode cX8_hasBit 5 = .ok (.ifCond .eq 7, 3) := by decide +kernel
theorem dX8_hasBit_8 : decode cX8_hasBit 8 = .ok (.iconst 1, 1) := by decide +kernel
theorem dX8_hasBit_9 : decode cX8_hasBit 9 = .ok (.goto 4, 3) := by decide +kernel
theorem dX8_hasBit_12 : decode cX8_hasBit 12 = .ok (.iconst 0, 1) := by decide +kernel
theorem dX8_hasBit_13 : decode cX8_hasBit 13 = .ok (.ireturn, 1) := by decide +kernel
theorem dX8_asInt_0 : decode cX8_asInt 0 = .ok (.iload_n 0, 1) := by decide +kernel
theorem dX8_asInt_1 : decode cX8_asInt 1 = .ok (.ifCond .eq 7, 3) := by decide +kernel
theorem dX8_asInt_4 : decode cX8_asInt 4 = .ok (.iconst 1, 1) := by decide +kernel
theorem dX8_asInt_5 : decode cX8_asInt 5 = .ok (.goto 4, 3) := by decide +kernel
theorem dX8_asInt_8 : decode cX8_asInt 8 = .ok (.iconst 0, 1) := by decide +kernel
theorem dX8_asInt_9 : decode cX8_asInt 9 = .ok (.ireturn, 1) := by decide +kernel
theorem dX8_cut_0 : decode cX8_cut 0 = .ok (.iload_n 1, 1) := by decide +kernel
theorem dX8_cut_1 : decode cX8_cut 1 = .ok (.ifCond .ne 7, 3) := by decide +kernel
theorem dX8_cut_4 : decode cX8_cut 4 = .ok (.iconst 0, 1) := by decide +kernel
theorem dX8_cut_5 : decode cX8_cut 5 = .ok (.goto 6, 3) := by decide +kernel
theorem dX8_cut_8 : decode cX8_cut 8 = .ok (.iload_n 0, 1) := by decide +kernel
theorem dX8_cut_9 : decode cX8_cut 9 = .ok (.iload_n 1, 1) := by decide +kernel
theorem dX8_cut_10 : decode cX8_cut 10 = .ok (.idiv, 1) := by decide +kernel
theorem dX8_cut_11 : decode cX8_cut 11 = .ok (.ireturn, 1) := by decide +kernel
theorem dX8_rest_0 : decode cX8_rest 0 = .ok (.iload_n 1, 1) := by decide +kernel
theorem dX8_rest_1 : decode cX8_rest 1 = .ok (.ifCond .ne 7, 3) := by decide +kernel
theorem dX8_rest_4 : decode cX8_rest 4 = .ok (.iconst 0, 1) := by decide +kernel
theorem dX8_rest_5 : decode cX8_rest 5 = .ok (.goto 6, 3) := by decide +kernel
theorem dX8_rest_8 : decode cX8_rest 8 = .ok (.iload_n 0, 1) := by decide +kernel
theorem dX8_rest_9 : decode cX8_rest 9 = .ok (.iload_n 1, 1) := by decide +kernel
theorem dX8_rest_10 : decode cX8_rest 10 = .ok (.irem, 1) := by decide +kernel
theorem dX8_rest_11 : decode cX8_rest 11 = .ok (.ireturn, 1) := by decide +kernel
theorem dX8_hourOf_0 : decode cX8_hourOf 0 = .ok (.iload_n 0, 1) := by decide +kernel
theorem dX8_hourOf_1 : decode cX8_hourOf 1 = .ok (.bipush 100, 2) := by decide +kernel
theorem dX8_hourOf_3 : decode cX8_hourOf 3 = .ok (.idiv, 1) := by decide +kernel
theorem dX8_hourOf_4 : decode cX8_hourOf 4 = .ok (.bipush 10, 2) := by decide +kernel
theorem dX8_hourOf_6 : decode cX8_hourOf 6 = .ok (.irem, 1) := by decide +kernel
theorem dX8_hourOf_7 : decode cX8_hourOf 7 = .ok (.ireturn, 1) := by decide +kernel
theorem dX8_dayOf_0 : decode cX8_dayOf 0 = .ok (.iload_n 0, 1) := by decide +kernel
theorem dX8_dayOf_1 : decode cX8_dayOf 1 = .ok (.sipush 1000, 3) := by decide +kernel
theorem dX8_dayOf_4 : decode cX8_dayOf 4 = .ok (.idiv, 1) := by decide +kernel
theorem dX8_dayOf_5 : decode cX8_dayOf 5 = .ok (.ireturn, 1) := by decide +kernel
