/-! 05 words: facts of the tables, the shapes by name (written by wip/whole/gen_m.py) -/
theorem kl_X0 : KL 0 RX0 TX0 8 tyX0 := ⟨rfl, u_all [164, 166, 168, 170, 172, 174, 176, 178] (by decide +kernel), tyX0_ok, nmX0⟩
theorem kl_X1 : KL 1 RX1 TX1 4 tyX1 := ⟨rfl, u_all [123, 125, 127, 129] (by decide +kernel), tyX1_ok, nmX1⟩
theorem kl_X2 : KL 2 RX2 TX2 8 tyX2 := ⟨rfl, u_all [269, 271, 273, 275, 277, 279, 281, 283] (by decide +kernel), tyX2_ok, nmX2⟩
theorem kl_X3 : KL 3 RX3 TX3 5 tyX3 := ⟨rfl, u_all [212, 214, 216, 218, 220] (by decide +kernel), tyX3_ok, nmX3⟩
theorem kl_X4 : KL 4 RX4 TX4 3 tyX4 := ⟨rfl, u_all [236, 238, 240] (by decide +kernel), tyX4_ok, nmX4⟩
theorem kl_X5 : KL 5 RX5 TX5 1 tyX5 := ⟨rfl, u_all [251] (by decide +kernel), tyX5_ok, nmX5⟩
theorem kl_X6 : KL 6 RX6 TX6 3 tyX6 := ⟨rfl, u_all [195, 197, 199] (by decide +kernel), tyX6_ok, nmX6⟩
theorem kl_X7 : KL 7 RX7 TX7 3 tyX7 := ⟨rfl, u_all [297, 299, 301] (by decide +kernel), tyX7_ok, nmX7⟩
theorem kl_X8 : KL 8 RX8 TX8 11 tyX8 := ⟨rfl, u_all [315, 317, 319, 321, 323, 325, 327, 329, 331, 333, 335] (by decide +kernel), tyX8_ok, nmX8⟩
theorem kl_X9 : KL 9 RX9 TX9 21 tyX9 := ⟨rfl, u_all [1013, 1015, 1017, 1019, 1021, 1023, 1025, 1027, 1029, 1031, 1033, 1035, 1037, 1039, 1041, 1043, 1045, 1047, 1049, 1051, 1053] (by decide +kernel), tyX9_ok, nmX9⟩
theorem sh_0 : shp 0 = (18, 0, [some 2, some 27, none, some 52, none, some 53, some 62, some 63, some 65, some 66, some 83]) := rfl
theorem sh_1 : shp 1 = (13, 0, [some 3, some 11, some 17, some 26, none]) := rfl
theorem sh_2 : shp 2 = (11, 0, [none, none, none, some 4]) := rfl
theorem sh_3 : shp 3 = (2, 6, [some 4]) := rfl
theorem sh_4 : shp 4 = (0, 14, []) := rfl
theorem sh_5 : shp 5 = (0, 14, []) := rfl
theorem sh_6 : shp 6 = (0, 14, []) := rfl
theorem sh_7 : shp 7 = (0, 14, []) := rfl
theorem sh_8 : shp 8 = (0, 14, []) := rfl
theorem sh_9 : shp 9 = (0, 14, []) := rfl
theorem sh_10 : shp 10 = (10, 0, [none, none, none, some 12, some 13, some 14, some 15, some 16]) := rfl
theorem sh_11 : shp 11 = (0, 200, []) := rfl
theorem sh_12 : shp 12 = (0, 200, []) := rfl
theorem sh_13 : shp 13 = (0, 200, []) := rfl
theorem sh_14 : shp 14 = (0, 200, []) := rfl
theorem sh_15 : shp 15 = (1, 200, []) := rfl
theorem sh_16 : shp 16 = (16, 0, [none, some 18, some 25]) := rfl
theorem sh_17 : shp 17 = (2, 6, [some 18]) := rfl
theorem sh_18 : shp 18 = (0, 80, []) := rfl
theorem sh_19 : shp 19 = (0, 80, []) := rfl
theorem sh_20 : shp 20 = (0, 80, []) := rfl
theorem sh_21 : shp 21 = (0, 80, []) := rfl
theorem sh_22 : shp 22 = (0, 80, []) := rfl
theorem sh_23 : shp 23 = (0, 80, []) := rfl
theorem sh_24 : shp 24 = (0, 6, []) := rfl
theorem sh_25 : shp 25 = (0, 10, []) := rfl
theorem sh_26 : shp 26 = (13, 0, [some 28, some 36, some 42, some 51, none]) := rfl
theorem sh_27 : shp 27 = (11, 0, [none, none, none, some 29]) := rfl
theorem sh_28 : shp 28 = (2, 6, [some 29]) := rfl
theorem sh_29 : shp 29 = (0, 14, []) := rfl
theorem sh_30 : shp 30 = (0, 14, []) := rfl
theorem sh_31 : shp 31 = (0, 14, []) := rfl
theorem sh_32 : shp 32 = (0, 14, []) := rfl
theorem sh_33 : shp 33 = (0, 14, []) := rfl
theorem sh_34 : shp 34 = (0, 14, []) := rfl
theorem sh_35 : shp 35 = (10, 0, [none, none, none, some 37, some 38, some 39, some 40, some 41]) := rfl
theorem sh_36 : shp 36 = (0, 200, []) := rfl
theorem sh_37 : shp 37 = (0, 200, []) := rfl
theorem sh_38 : shp 38 = (0, 200, []) := rfl
theorem sh_39 : shp 39 = (0, 200, []) := rfl
theorem sh_40 : shp 40 = (1, 200, []) := rfl
theorem sh_41 : shp 41 = (16, 0, [none, some 43, some 50]) := rfl
theorem sh_42 : shp 42 = (2, 6, [some 43]) := rfl
theorem sh_43 : shp 43 = (0, 80, []) := rfl
theorem sh_44 : shp 44 = (0, 80, []) := rfl
theorem sh_45 : shp 45 = (0, 80, []) := rfl
theorem sh_46 : shp 46 = (0, 80, []) := rfl
theorem sh_47 : shp 47 = (0, 80, []) := rfl
theorem sh_48 : shp 48 = (0, 80, []) := rfl
theorem sh_49 : shp 49 = (0, 6, []) := rfl
theorem sh_50 : shp 50 = (0, 10, []) := rfl
theorem sh_51 : shp 51 = (0, 80, []) := rfl
theorem sh_52 : shp 52 = (3, 4, [some 53]) := rfl
theorem sh_53 : shp 53 = (14, 0, [none, none, some 58]) := rfl
theorem sh_54 : shp 54 = (14, 0, [none, none, some 59]) := rfl
theorem sh_55 : shp 55 = (14, 0, [none, none, some 60]) := rfl
theorem sh_56 : shp 56 = (14, 0, [none, none, some 61]) := rfl
theorem sh_57 : shp 57 = (0, 40, []) := rfl
theorem sh_58 : shp 58 = (0, 40, []) := rfl
theorem sh_59 : shp 59 = (0, 40, []) := rfl
theorem sh_60 : shp 60 = (0, 40, []) := rfl
theorem sh_61 : shp 61 = (0, 7, []) := rfl
theorem sh_62 : shp 62 = (15, 0, [some 64]) := rfl
theorem sh_63 : shp 63 = (0, 8, []) := rfl
theorem sh_64 : shp 64 = (12, 0, [some 0, none, some 0, none, none, none, none, none]) := rfl
theorem sh_65 : shp 65 = (17, 0, [none, some 67, some 68]) := rfl
theorem sh_66 : shp 66 = (0, 14, []) := rfl
theorem sh_67 : shp 67 = (2, 14, [some 68]) := rfl
theorem sh_68 : shp 68 = (0, 14, []) := rfl
theorem sh_69 : shp 69 = (0, 14, []) := rfl
theorem sh_70 : shp 70 = (0, 14, []) := rfl
theorem sh_71 : shp 71 = (0, 14, []) := rfl
theorem sh_72 : shp 72 = (0, 14, []) := rfl
theorem sh_73 : shp 73 = (0, 14, []) := rfl
theorem sh_74 : shp 74 = (0, 14, []) := rfl
theorem sh_75 : shp 75 = (0, 14, []) := rfl
theorem sh_76 : shp 76 = (0, 14, []) := rfl
theorem sh_77 : shp 77 = (0, 14, []) := rfl
theorem sh_78 : shp 78 = (0, 14, []) := rfl
theorem sh_79 : shp 79 = (0, 14, []) := rfl
theorem sh_80 : shp 80 = (0, 14, []) := rfl
theorem sh_81 : shp 81 = (0, 14, []) := rfl
theorem sh_82 : shp 82 = (0, 14, []) := rfl
theorem sh_83 : shp 83 = (19, 0, [some 85, some 86, none, some 87, some 88, some 89, none, some 90, none, none, none, none, none, none, none, some 91, some 92, some 93, some 94, some 95, some 96]) := rfl
theorem sh_84 : shp 84 = (0, 1214, []) := rfl
theorem sh_85 : shp 85 = (0, 1214, []) := rfl
theorem sh_86 : shp 86 = (0, 7, []) := rfl
theorem sh_87 : shp 87 = (1, 200, []) := rfl
theorem sh_88 : shp 88 = (0, 80, []) := rfl
theorem sh_89 : shp 89 = (0, 80, []) := rfl
theorem sh_90 : shp 90 = (0, 80, []) := rfl
theorem sh_91 : shp 91 = (0, 14, []) := rfl
theorem sh_92 : shp 92 = (0, 14, []) := rfl
theorem sh_93 : shp 93 = (0, 4, []) := rfl
theorem sh_94 : shp 94 = (0, 4, []) := rfl
theorem sh_95 : shp 95 = (0, 160, []) := rfl
theorem shs_53 : ∀ t, t < 4 → shp (53 + t) = (14, 0, [none, none, some (57 + t + 1)]) := by decide +kernel
theorem srw_4 : ∀ t, t < 6 → shp (4 + t) = (0, 14, []) := by decide +kernel
theorem srw_29 : ∀ t, t < 6 → shp (29 + t) = (0, 14, []) := by decide +kernel
theorem srw_18 : ∀ t, t < 6 → shp (18 + t) = (0, 80, []) := by decide +kernel
theorem srw_43 : ∀ t, t < 6 → shp (43 + t) = (0, 80, []) := by decide +kernel
theorem srw_57 : ∀ t, t < 4 → shp (57 + t) = (0, 40, []) := by decide +kernel
theorem srw_68 : ∀ t, t < 14 → shp (68 + t) = (0, 14, []) := by decide +kernel
theorem wMin : Cond.static Lib.Math.min.name ∈ gtb ∧ Cond.initialized "java/lang/Math" ∈ gtb ∧ Cond.code Lib.Math.min.name Lib.Math.min.code 2 (some .int) ∈ gtb := ⟨gt_of 445 (by decide +kernel) rfl, gt_of 83 (by decide +kernel) rfl, gt_of 446 (by decide +kernel) rfl⟩
theorem wAbs : Cond.static Lib.MathLoose.abs_long.x ∈ gtb ∧ Cond.initialized "java/lang/Math" ∈ gtb ∧ Cond.code Lib.MathLoose.abs_long.x Lib.MathLoose.abs_long.code 2 (some .long) ∈ gtb := ⟨gt_of 768 (by decide +kernel) rfl, gt_of 83 (by decide +kernel) rfl, gt_of 769 (by decide +kernel) rfl⟩
theorem wCpy : Cond.native arraycopyName ∈ gtb ∧ Cond.static arraycopyName ∈ gtb ∧ Cond.initialized "java/lang/System" ∈ gtb := ⟨gt_of 711 (by decide +kernel) rfl, gt_of 710 (by decide +kernel) rfl, gt_of 89 (by decide +kernel) rfl⟩
theorem ml_X8_65 : Cond.methodLink RX8 65 yX8_isWithin ∈ gtb := gt_of 342 (by decide +kernel) rfl
theorem yw_X8_isWithin : YS yX8_isWithin cX8_isWithin 3 (some .boolean) 3 := ⟨gt_of 344 (by decide +kernel) rfl, gt_of 343 (by decide +kernel) rfl, gt_of 72 (by decide +kernel) rfl, ⟨by decide +kernel, by decide⟩⟩
theorem fl_X8_12 : FL RX8 12 8 0 (.object "AwakeBoard$Scene") true false := ⟨RX8, TX8, 11, tyX8, kl_X8, by decide, rfl, rfl, fun _ => gt_of 304 (by decide +kernel) rfl, fun q => by cases q⟩
theorem fl_X8_74 : FL RX8 74 3 0 (.object "AwakeBoard$Names") true false := ⟨RX3, TX3, 5, tyX3, kl_X3, by decide, rfl, rfl, fun _ => gt_of 203 (by decide +kernel) rfl, fun q => by cases q⟩
theorem fl_X8_78 : FL RX8 78 1 0 .int false false := ⟨RX1, TX1, 4, tyX1, kl_X1, by decide, rfl, rfl, fun _ => gt_of 113 (by decide +kernel) rfl, fun q => by cases q⟩
theorem ml_X8_84 : Cond.methodLink RX8 84 yX1_add ∈ gtb := gt_of 351 (by decide +kernel) rfl
theorem yw_X1_add : YV yX1_add cX1_add 3 (some .int) 2 := ⟨gt_of 354 (by decide +kernel) rfl, gt_of 352 (by decide +kernel) rfl, gt_of 353 (by decide +kernel) rfl, gt_of 74 (by decide +kernel) rfl, ⟨by decide +kernel, by decide⟩⟩
theorem fl_X1_11 : FL RX1 11 1 3 (.array (.array .int)) true false := ⟨RX1, TX1, 4, tyX1, kl_X1, by decide, rfl, rfl, fun _ => gt_of 120 (by decide +kernel) rfl, fun q => by cases q⟩
theorem fl_X1_16 : FL RX1 16 1 0 .int false false := ⟨RX1, TX1, 4, tyX1, kl_X1, by decide, rfl, rfl, fun _ => gt_of 112 (by decide +kernel) rfl, fun q => by cases q⟩
theorem wc_X8_83 : Cond.constant RX8 83 (-1000002) ∈ gtb := gt_of 350 (by decide +kernel) rfl
theorem ml_X8_70 : Cond.methodLink RX8 70 yX8_tellFinding ∈ gtb := gt_of 346 (by decide +kernel) rfl
theorem yw_X8_tellFinding : YV yX8_tellFinding cX8_tellFinding 3 (some .int) 1 := ⟨gt_of 349 (by decide +kernel) rfl, gt_of 348 (by decide +kernel) rfl, gt_of 0 (by decide +kernel) rfl, gt_of 72 (by decide +kernel) rfl, ⟨by decide +kernel, by decide⟩⟩
theorem wc_X8_69 : Cond.constant RX8 69 (-1000001) ∈ gtb := gt_of 345 (by decide +kernel) rfl
theorem fl_X8_38 : FL RX8 38 8 6 (.array .int) true false := ⟨RX8, TX8, 11, tyX8, kl_X8, by decide, rfl, rfl, fun _ => gt_of 310 (by decide +kernel) rfl, fun q => by cases q⟩
theorem wc_X9_60 : Cond.constantLong RX9 60 7 ∈ gtb := gt_of 1060 (by decide +kernel) rfl
theorem ml_X9_48 : Cond.methodLink RX9 48 yX9_in ∈ gtb := gt_of 1061 (by decide +kernel) rfl
theorem yw_X9_in : YS yX9_in cX9_in 6 (some .boolean) 3 := ⟨gt_of 1063 (by decide +kernel) rfl, gt_of 1062 (by decide +kernel) rfl, gt_of 81 (by decide +kernel) rfl, ⟨by decide +kernel, by decide⟩⟩
theorem wc_X9_62 : Cond.constantLong RX9 62 999 ∈ gtb := gt_of 1064 (by decide +kernel) rfl
theorem fl_X9_9 : FL RX9 9 9 0 (.array .int) true false := ⟨RX9, TX9, 21, tyX9, kl_X9, by decide, rfl, rfl, fun _ => gt_of 992 (by decide +kernel) rfl, fun q => by cases q⟩
theorem wc_X9_68 : Cond.constant RX9 68 (-1000002) ∈ gtb := gt_of 1070 (by decide +kernel) rfl
theorem ml_X9_64 : Cond.methodLink RX9 64 yX9_finds ∈ gtb := gt_of 1066 (by decide +kernel) rfl
theorem yw_X9_finds : YV yX9_finds cX9_finds 2 (some .int) 1 := ⟨gt_of 1069 (by decide +kernel) rfl, gt_of 1068 (by decide +kernel) rfl, gt_of 30 (by decide +kernel) rfl, gt_of 81 (by decide +kernel) rfl, ⟨by decide +kernel, by decide⟩⟩
theorem fl_X9_16 : FL RX9 16 9 3 (.array .int) true false := ⟨RX9, TX9, 21, tyX9, kl_X9, by decide, rfl, rfl, fun _ => gt_of 995 (by decide +kernel) rfl, fun q => by cases q⟩
theorem wc_X9_47 : Cond.constant RX9 47 (-1000001) ∈ gtb := gt_of 1065 (by decide +kernel) rfl
theorem ml_X8_88 : Cond.methodLink RX8 88 yX1_has ∈ gtb := gt_of 359 (by decide +kernel) rfl
theorem yw_X1_has : YV yX1_has cX1_has 2 (some .boolean) 1 := ⟨gt_of 362 (by decide +kernel) rfl, gt_of 360 (by decide +kernel) rfl, gt_of 361 (by decide +kernel) rfl, gt_of 74 (by decide +kernel) rfl, ⟨by decide +kernel, by decide⟩⟩
theorem ml_X1_20 : Cond.methodLinkNest RX1 20 yX8_isWithin "AwakeBoard" ∈ nst := ns_of 363 (by decide +kernel) rfl
theorem fl_X8_106 : FL RX8 106 1 3 (.array (.array .int)) true false := ⟨RX1, TX1, 4, tyX1, kl_X1, by decide, rfl, rfl, fun _ => gt_of 122 (by decide +kernel) rfl, fun q => by cases q⟩
theorem ml_X8_103 : Cond.methodLink RX8 103 yX1_isOf ∈ gtb := gt_of 370 (by decide +kernel) rfl
theorem yw_X1_isOf : YV yX1_isOf cX1_isOf 5 (some .boolean) 2 := ⟨gt_of 373 (by decide +kernel) rfl, gt_of 371 (by decide +kernel) rfl, gt_of 372 (by decide +kernel) rfl, gt_of 74 (by decide +kernel) rfl, ⟨by decide +kernel, by decide⟩⟩
theorem wka_31 : Cond.fieldLinkNest RX1 31 "AwakeBoard" "KIND_ABOVE" "[I" "AwakeBoard" ∈ nst := ns_of 374 (by decide +kernel) rfl
theorem ml_X8_99 : Cond.methodLink RX8 99 yX8_asInt ∈ gtb := gt_of 367 (by decide +kernel) rfl
theorem yw_X8_asInt : YS yX8_asInt cX8_asInt 1 (some .int) 1 := ⟨gt_of 369 (by decide +kernel) rfl, gt_of 368 (by decide +kernel) rfl, gt_of 72 (by decide +kernel) rfl, ⟨by decide +kernel, by decide⟩⟩
theorem fl_X8_92 : FL RX8 92 1 1 .int false false := ⟨RX1, TX1, 4, tyX1, kl_X1, by decide, rfl, rfl, fun _ => gt_of 115 (by decide +kernel) rfl, fun q => by cases q⟩
theorem ml_X8_95 : Cond.methodLink RX8 95 yX8_hasBit ∈ gtb := gt_of 364 (by decide +kernel) rfl
theorem yw_X8_hasBit : YS yX8_hasBit cX8_hasBit 2 (some .boolean) 2 := ⟨gt_of 366 (by decide +kernel) rfl, gt_of 365 (by decide +kernel) rfl, gt_of 72 (by decide +kernel) rfl, ⟨by decide +kernel, by decide⟩⟩
theorem ml_X9_73 : Cond.methodLink RX9 73 yX9_isName ∈ gtb := gt_of 1075 (by decide +kernel) rfl
theorem yw_X9_isName : YV yX9_isName cX9_isName 2 (some .boolean) 1 := ⟨gt_of 1078 (by decide +kernel) rfl, gt_of 1077 (by decide +kernel) rfl, gt_of 31 (by decide +kernel) rfl, gt_of 81 (by decide +kernel) rfl, ⟨by decide +kernel, by decide⟩⟩
theorem ml_X9_77 : Cond.methodLink RX9 77 yX9_isPerson ∈ gtb := gt_of 1083 (by decide +kernel) rfl
theorem yw_X9_isPerson : YV yX9_isPerson cX9_isPerson 3 (some .boolean) 1 := ⟨gt_of 1086 (by decide +kernel) rfl, gt_of 1085 (by decide +kernel) rfl, gt_of 33 (by decide +kernel) rfl, gt_of 81 (by decide +kernel) rfl, ⟨by decide +kernel, by decide⟩⟩
theorem ml_X9_69 : Cond.methodLink RX9 69 yX9_of ∈ gtb := gt_of 1079 (by decide +kernel) rfl
theorem yw_X9_of : YV yX9_of cX9_of 3 (some .int) 2 := ⟨gt_of 1082 (by decide +kernel) rfl, gt_of 1081 (by decide +kernel) rfl, gt_of 32 (by decide +kernel) rfl, gt_of 81 (by decide +kernel) rfl, ⟨by decide +kernel, by decide⟩⟩
theorem ml_X8_110 : Cond.methodLink RX8 110 yX1_allows ∈ gtb := gt_of 380 (by decide +kernel) rfl
theorem yw_X1_allows : YV yX1_allows cX1_allows 4 (some .boolean) 3 := ⟨gt_of 383 (by decide +kernel) rfl, gt_of 381 (by decide +kernel) rfl, gt_of 382 (by decide +kernel) rfl, gt_of 74 (by decide +kernel) rfl, ⟨by decide +kernel, by decide⟩⟩
theorem ml_X1_24 : Cond.methodLink RX1 24 yX1_has ∈ gtb := gt_of 384 (by decide +kernel) rfl
theorem ml_X1_28 : Cond.methodLinkNest RX1 28 yX8_isTopic "AwakeBoard" ∈ nst := ns_of 385 (by decide +kernel) rfl
theorem yw_X8_isTopic : YS yX8_isTopic cX8_isTopic 1 (some .boolean) 1 := ⟨gt_of 387 (by decide +kernel) rfl, gt_of 386 (by decide +kernel) rfl, gt_of 72 (by decide +kernel) rfl, ⟨by decide +kernel, by decide⟩⟩
theorem ml_X9_87 : Cond.methodLink RX9 87 yX9_may ∈ gtb := gt_of 1091 (by decide +kernel) rfl
theorem yw_X9_may : YV yX9_may cX9_may 4 (some .boolean) 3 := ⟨gt_of 1094 (by decide +kernel) rfl, gt_of 1093 (by decide +kernel) rfl, gt_of 34 (by decide +kernel) rfl, gt_of 81 (by decide +kernel) rfl, ⟨by decide +kernel, by decide⟩⟩
theorem ml_X9_84 : Cond.methodLink RX9 84 yX9_isTopic ∈ gtb := gt_of 1097 (by decide +kernel) rfl
theorem yw_X9_isTopic : YS yX9_isTopic cX9_isTopic 1 (some .boolean) 1 := ⟨gt_of 1099 (by decide +kernel) rfl, gt_of 1098 (by decide +kernel) rfl, gt_of 81 (by decide +kernel) rfl, ⟨by decide +kernel, by decide⟩⟩
theorem wc_X9_58 : Cond.constantLong RX9 58 9 ∈ gtb := gt_of 1100 (by decide +kernel) rfl
theorem wc_X9_80 : Cond.constantLong RX9 80 1023 ∈ gtb := gt_of 1095 (by decide +kernel) rfl
theorem wc_X9_82 : Cond.constantLong RX9 82 99 ∈ gtb := gt_of 1096 (by decide +kernel) rfl
theorem ml_X9_91 : Cond.methodLink RX9 91 yX9_becomes ∈ gtb := gt_of 1101 (by decide +kernel) rfl
theorem yw_X9_becomes : YV yX9_becomes cX9_becomes 4 (some .int) 2 := ⟨gt_of 1104 (by decide +kernel) rfl, gt_of 1103 (by decide +kernel) rfl, gt_of 35 (by decide +kernel) rfl, gt_of 81 (by decide +kernel) rfl, ⟨by decide +kernel, by decide⟩⟩
theorem ml_X8_113 : Cond.methodLink RX8 113 yX1_peopleSet ∈ gtb := gt_of 396 (by decide +kernel) rfl
theorem yw_X1_peopleSet : YV yX1_peopleSet cX1_peopleSet 3 (some .int) 0 := ⟨gt_of 399 (by decide +kernel) rfl, gt_of 397 (by decide +kernel) rfl, gt_of 398 (by decide +kernel) rfl, gt_of 74 (by decide +kernel) rfl, ⟨by decide +kernel, by decide⟩⟩
theorem ml_X1_35 : Cond.methodLink RX1 35 yX1_isOf ∈ gtb := gt_of 400 (by decide +kernel) rfl
theorem ml_X8_117 : Cond.methodLink RX8 117 yJ6_bitCount_0f7a4 ∈ gtb := gt_of 401 (by decide +kernel) rfl
theorem yw_J6_bitCount_0f7a4 : YS yJ6_bitCount_0f7a4 cJ6_bitCount_0f7a4 1 (some .int) 1 := ⟨gt_of 403 (by decide +kernel) rfl, gt_of 402 (by decide +kernel) rfl, gt_of 82 (by decide +kernel) rfl, ⟨by decide +kernel, by decide⟩⟩
theorem wc_J6_265 : Cond.constant RJ6 265 1431655765 ∈ gtb := gt_of 404 (by decide +kernel) rfl
theorem wc_J6_266 : Cond.constant RJ6 266 858993459 ∈ gtb := gt_of 405 (by decide +kernel) rfl
theorem wc_J6_267 : Cond.constant RJ6 267 252645135 ∈ gtb := gt_of 406 (by decide +kernel) rfl
theorem ml_X8_122 : Cond.methodLink RX8 122 yX8_isSecond ∈ gtb := gt_of 411 (by decide +kernel) rfl
theorem yw_X8_isSecond : YS yX8_isSecond cX8_isSecond 1 (some .boolean) 1 := ⟨gt_of 413 (by decide +kernel) rfl, gt_of 412 (by decide +kernel) rfl, gt_of 72 (by decide +kernel) rfl, ⟨by decide +kernel, by decide⟩⟩
theorem ml_X8_125 : Cond.methodLink RX8 125 yX3_isSpeaking ∈ gtb := gt_of 414 (by decide +kernel) rfl
theorem yw_X3_isSpeaking : YV yX3_isSpeaking cX3_isSpeaking 3 (some .boolean) 2 := ⟨gt_of 417 (by decide +kernel) rfl, gt_of 415 (by decide +kernel) rfl, gt_of 416 (by decide +kernel) rfl, gt_of 73 (by decide +kernel) rfl, ⟨by decide +kernel, by decide⟩⟩
theorem fl_X3_12 : FL RX3 12 3 0 (.object "AwakeBoard$Names") true false := ⟨RX3, TX3, 5, tyX3, kl_X3, by decide, rfl, rfl, fun _ => gt_of 202 (by decide +kernel) rfl, fun q => by cases q⟩
theorem fl_X3_40 : FL RX3 40 1 3 (.array (.array .int)) true false := ⟨RX1, TX1, 4, tyX1, kl_X1, by decide, rfl, rfl, fun _ => gt_of 121 (by decide +kernel) rfl, fun q => by cases q⟩
theorem ml_X3_54 : Cond.methodLink RX3 54 yX3_isAsName ∈ gtb := gt_of 422 (by decide +kernel) rfl
theorem yw_X3_isAsName : YV yX3_isAsName cX3_isAsName 3 (some .boolean) 2 := ⟨gt_of 425 (by decide +kernel) rfl, gt_of 424 (by decide +kernel) rfl, gt_of 2 (by decide +kernel) rfl, gt_of 73 (by decide +kernel) rfl, ⟨by decide +kernel, by decide⟩⟩
theorem ml_X3_63 : Cond.methodLinkNest RX3 63 yX8_rest "AwakeBoard" ∈ nst := ns_of 426 (by decide +kernel) rfl
theorem yw_X8_rest : YS yX8_rest cX8_rest 2 (some .int) 2 := ⟨gt_of 428 (by decide +kernel) rfl, gt_of 427 (by decide +kernel) rfl, gt_of 72 (by decide +kernel) rfl, ⟨by decide +kernel, by decide⟩⟩
theorem ml_X3_44 : Cond.methodLink RX3 44 yX3_isAsPerson ∈ gtb := gt_of 418 (by decide +kernel) rfl
theorem yw_X3_isAsPerson : YV yX3_isAsPerson cX3_isAsPerson 3 (some .boolean) 2 := ⟨gt_of 421 (by decide +kernel) rfl, gt_of 420 (by decide +kernel) rfl, gt_of 1 (by decide +kernel) rfl, gt_of 73 (by decide +kernel) rfl, ⟨by decide +kernel, by decide⟩⟩
theorem ml_X3_51 : Cond.methodLink RX3 51 yX3_isInHours ∈ gtb := gt_of 429 (by decide +kernel) rfl
theorem yw_X3_isInHours : YV yX3_isInHours cX3_isInHours 3 (some .boolean) 2 := ⟨gt_of 432 (by decide +kernel) rfl, gt_of 431 (by decide +kernel) rfl, gt_of 3 (by decide +kernel) rfl, gt_of 73 (by decide +kernel) rfl, ⟨by decide +kernel, by decide⟩⟩
theorem ml_X3_79 : Cond.methodLinkNest RX3 79 yX8_hourOf "AwakeBoard" ∈ nst := ns_of 433 (by decide +kernel) rfl
theorem yw_X8_hourOf : YS yX8_hourOf cX8_hourOf 1 (some .int) 1 := ⟨gt_of 435 (by decide +kernel) rfl, gt_of 434 (by decide +kernel) rfl, gt_of 72 (by decide +kernel) rfl, ⟨by decide +kernel, by decide⟩⟩
theorem ml_X3_82 : Cond.methodLinkNest RX3 82 yX8_hasBit "AwakeBoard" ∈ nst := ns_of 436 (by decide +kernel) rfl
theorem ml_X3_48 : Cond.methodLink RX3 48 yX3_isAsClock ∈ gtb := gt_of 437 (by decide +kernel) rfl
theorem yw_X3_isAsClock : YV yX3_isAsClock cX3_isAsClock 6 (some .boolean) 2 := ⟨gt_of 440 (by decide +kernel) rfl, gt_of 439 (by decide +kernel) rfl, gt_of 4 (by decide +kernel) rfl, gt_of 73 (by decide +kernel) rfl, ⟨by decide +kernel, by decide⟩⟩
theorem ml_X3_67 : Cond.methodLinkNest RX3 67 yX8_cut "AwakeBoard" ∈ nst := ns_of 441 (by decide +kernel) rfl
theorem yw_X8_cut : YS yX8_cut cX8_cut 2 (some .int) 2 := ⟨gt_of 443 (by decide +kernel) rfl, gt_of 442 (by decide +kernel) rfl, gt_of 72 (by decide +kernel) rfl, ⟨by decide +kernel, by decide⟩⟩
theorem ml_X3_70 : Cond.methodLink RX3 70 Lib.Math.min.name ∈ gtb := gt_of 444 (by decide +kernel) rfl
theorem ml_X3_57 : Cond.methodLink RX3 57 yX3_isBehindLeader ∈ gtb := gt_of 447 (by decide +kernel) rfl
theorem yw_X3_isBehindLeader : YV yX3_isBehindLeader cX3_isBehindLeader 4 (some .boolean) 2 := ⟨gt_of 450 (by decide +kernel) rfl, gt_of 449 (by decide +kernel) rfl, gt_of 5 (by decide +kernel) rfl, gt_of 73 (by decide +kernel) rfl, ⟨by decide +kernel, by decide⟩⟩
theorem fl_X3_21 : FL RX3 21 3 1 (.object "AwakeBoard$Board") true false := ⟨RX3, TX3, 5, tyX3, kl_X3, by decide, rfl, rfl, fun _ => gt_of 204 (by decide +kernel) rfl, fun q => by cases q⟩
theorem ml_X3_85 : Cond.methodLink RX3 85 yX0_speakersBetween ∈ gtb := gt_of 451 (by decide +kernel) rfl
theorem yw_X0_speakersBetween : YV yX0_speakersBetween cX0_speakersBetween 5 (some .int) 2 := ⟨gt_of 454 (by decide +kernel) rfl, gt_of 452 (by decide +kernel) rfl, gt_of 453 (by decide +kernel) rfl, gt_of 75 (by decide +kernel) rfl, ⟨by decide +kernel, by decide⟩⟩
theorem ml_X0_54 : Cond.methodLink RX0 54 yX0_firstFrom ∈ gtb := gt_of 455 (by decide +kernel) rfl
theorem yw_X0_firstFrom : YV yX0_firstFrom cX0_firstFrom 6 (some .int) 1 := ⟨gt_of 458 (by decide +kernel) rfl, gt_of 457 (by decide +kernel) rfl, gt_of 6 (by decide +kernel) rfl, gt_of 75 (by decide +kernel) rfl, ⟨by decide +kernel, by decide⟩⟩
theorem fl_X0_28 : FL RX0 28 0 1 .int false false := ⟨RX0, TX0, 8, tyX0, kl_X0, by decide, rfl, rfl, fun _ => gt_of 142 (by decide +kernel) rfl, fun q => by cases q⟩
theorem fl_X0_9 : FL RX0 9 0 3 (.array .int) true false := ⟨RX0, TX0, 8, tyX0, kl_X0, by decide, rfl, rfl, fun _ => gt_of 149 (by decide +kernel) rfl, fun q => by cases q⟩
theorem fl_X0_15 : FL RX0 15 0 4 (.array .int) true false := ⟨RX0, TX0, 8, tyX0, kl_X0, by decide, rfl, rfl, fun _ => gt_of 152 (by decide +kernel) rfl, fun q => by cases q⟩
theorem ml_X3_60 : Cond.methodLink RX3 60 yX3_isAsHalf ∈ gtb := gt_of 459 (by decide +kernel) rfl
theorem yw_X3_isAsHalf : YV yX3_isAsHalf cX3_isAsHalf 3 (some .boolean) 2 := ⟨gt_of 462 (by decide +kernel) rfl, gt_of 461 (by decide +kernel) rfl, gt_of 7 (by decide +kernel) rfl, gt_of 73 (by decide +kernel) rfl, ⟨by decide +kernel, by decide⟩⟩
theorem ml_X3_75 : Cond.methodLinkNest RX3 75 yX8_dayOf "AwakeBoard" ∈ nst := ns_of 463 (by decide +kernel) rfl
theorem yw_X8_dayOf : YS yX8_dayOf cX8_dayOf 1 (some .int) 1 := ⟨gt_of 465 (by decide +kernel) rfl, gt_of 464 (by decide +kernel) rfl, gt_of 72 (by decide +kernel) rfl, ⟨by decide +kernel, by decide⟩⟩
theorem ml_X9_116 : Cond.methodLink RX9 116 yX9_isSecond ∈ gtb := gt_of 1117 (by decide +kernel) rfl
theorem yw_X9_isSecond : YS yX9_isSecond cX9_isSecond 1 (some .boolean) 1 := ⟨gt_of 1119 (by decide +kernel) rfl, gt_of 1118 (by decide +kernel) rfl, gt_of 81 (by decide +kernel) rfl, ⟨by decide +kernel, by decide⟩⟩
theorem wc_X9_56 : Cond.constantLong RX9 56 29999 ∈ gtb := gt_of 1120 (by decide +kernel) rfl
theorem ml_X9_119 : Cond.methodLink RX9 119 yX9_doesSpeak ∈ gtb := gt_of 1121 (by decide +kernel) rfl
theorem yw_X9_doesSpeak : YV yX9_doesSpeak cX9_doesSpeak 3 (some .boolean) 2 := ⟨gt_of 1124 (by decide +kernel) rfl, gt_of 1123 (by decide +kernel) rfl, gt_of 36 (by decide +kernel) rfl, gt_of 81 (by decide +kernel) rfl, ⟨by decide +kernel, by decide⟩⟩
theorem ml_X9_107 : Cond.methodLink RX9 107 yX9_isAwake ∈ gtb := gt_of 1129 (by decide +kernel) rfl
theorem yw_X9_isAwake : YV yX9_isAwake cX9_isAwake 3 (some .boolean) 2 := ⟨gt_of 1132 (by decide +kernel) rfl, gt_of 1131 (by decide +kernel) rfl, gt_of 38 (by decide +kernel) rfl, gt_of 81 (by decide +kernel) rfl, ⟨by decide +kernel, by decide⟩⟩
theorem ml_X9_94 : Cond.methodLink RX9 94 yX9_hourOf ∈ gtb := gt_of 1133 (by decide +kernel) rfl
theorem yw_X9_hourOf : YS yX9_hourOf cX9_hourOf 1 (some .int) 1 := ⟨gt_of 1135 (by decide +kernel) rfl, gt_of 1134 (by decide +kernel) rfl, gt_of 81 (by decide +kernel) rfl, ⟨by decide +kernel, by decide⟩⟩
theorem ml_X9_97 : Cond.methodLink RX9 97 yX9_has ∈ gtb := gt_of 1136 (by decide +kernel) rfl
theorem yw_X9_has : YS yX9_has cX9_has 2 (some .boolean) 2 := ⟨gt_of 1138 (by decide +kernel) rfl, gt_of 1137 (by decide +kernel) rfl, gt_of 81 (by decide +kernel) rfl, ⟨by decide +kernel, by decide⟩⟩
theorem ml_X9_104 : Cond.methodLink RX9 104 yX9_byGap ∈ gtb := gt_of 1125 (by decide +kernel) rfl
theorem yw_X9_byGap : YV yX9_byGap cX9_byGap 3 (some .boolean) 2 := ⟨gt_of 1128 (by decide +kernel) rfl, gt_of 1127 (by decide +kernel) rfl, gt_of 37 (by decide +kernel) rfl, gt_of 81 (by decide +kernel) rfl, ⟨by decide +kernel, by decide⟩⟩
theorem ml_X9_110 : Cond.methodLink RX9 110 yX9_byClock ∈ gtb := gt_of 1139 (by decide +kernel) rfl
theorem yw_X9_byClock : YV yX9_byClock cX9_byClock 5 (some .boolean) 2 := ⟨gt_of 1142 (by decide +kernel) rfl, gt_of 1141 (by decide +kernel) rfl, gt_of 39 (by decide +kernel) rfl, gt_of 81 (by decide +kernel) rfl, ⟨by decide +kernel, by decide⟩⟩
theorem ml_X9_113 : Cond.methodLink RX9 113 yX9_isLed ∈ gtb := gt_of 1143 (by decide +kernel) rfl
theorem yw_X9_isLed : YV yX9_isLed cX9_isLed 4 (some .boolean) 2 := ⟨gt_of 1146 (by decide +kernel) rfl, gt_of 1145 (by decide +kernel) rfl, gt_of 40 (by decide +kernel) rfl, gt_of 81 (by decide +kernel) rfl, ⟨by decide +kernel, by decide⟩⟩
theorem ml_X9_101 : Cond.methodLink RX9 101 yX9_word ∈ gtb := gt_of 1147 (by decide +kernel) rfl
theorem yw_X9_word : YV yX9_word cX9_word 3 (some .int) 2 := ⟨gt_of 1150 (by decide +kernel) rfl, gt_of 1149 (by decide +kernel) rfl, gt_of 41 (by decide +kernel) rfl, gt_of 81 (by decide +kernel) rfl, ⟨by decide +kernel, by decide⟩⟩
theorem ml_X8_128 : Cond.methodLink RX8 128 Lib.Math.min.name ∈ gtb := gt_of 470 (by decide +kernel) rfl
theorem wc_X8_133 : Cond.constant RX8 133 (-1000004) ∈ gtb := gt_of 471 (by decide +kernel) rfl
theorem wc_X9_122 : Cond.constant RX9 122 (-1000004) ∈ gtb := gt_of 1155 (by decide +kernel) rfl
theorem fl_X8_134 : FL RX8 134 3 1 (.object "AwakeBoard$Board") true false := ⟨RX3, TX3, 5, tyX3, kl_X3, by decide, rfl, rfl, fun _ => gt_of 205 (by decide +kernel) rfl, fun q => by cases q⟩
theorem fl_X8_138 : FL RX8 138 0 0 .int false false := ⟨RX0, TX0, 8, tyX0, kl_X0, by decide, rfl, rfl, fun _ => gt_of 140 (by decide +kernel) rfl, fun q => by cases q⟩
theorem ml_X8_144 : Cond.methodLink RX8 144 yX3_passSecond ∈ gtb := gt_of 477 (by decide +kernel) rfl
theorem yw_X3_passSecond : YV yX3_passSecond cX3_passSecond 2 none 0 := ⟨gt_of 480 (by decide +kernel) rfl, gt_of 478 (by decide +kernel) rfl, gt_of 479 (by decide +kernel) rfl, gt_of 73 (by decide +kernel) rfl, ⟨by decide +kernel, by decide⟩⟩
theorem fl_X3_97 : FL RX3 97 1 0 .int false false := ⟨RX1, TX1, 4, tyX1, kl_X1, by decide, rfl, rfl, fun _ => gt_of 114 (by decide +kernel) rfl, fun q => by cases q⟩
theorem fl_X3_100 : FL RX3 100 1 1 .int false false := ⟨RX1, TX1, 4, tyX1, kl_X1, by decide, rfl, rfl, fun _ => gt_of 117 (by decide +kernel) rfl, fun q => by cases q⟩
theorem fl_X3_103 : FL RX3 103 0 0 .int false false := ⟨RX0, TX0, 8, tyX0, kl_X0, by decide, rfl, rfl, fun _ => gt_of 141 (by decide +kernel) rfl, fun q => by cases q⟩
theorem ml_X3_106 : Cond.methodLink RX3 106 yX3_isSpeaking ∈ gtb := gt_of 481 (by decide +kernel) rfl
theorem ml_X3_109 : Cond.methodLink RX3 109 yX0_isFull ∈ gtb := gt_of 482 (by decide +kernel) rfl
theorem yw_X0_isFull : YV yX0_isFull cX0_isFull 1 (some .boolean) 0 := ⟨gt_of 485 (by decide +kernel) rfl, gt_of 483 (by decide +kernel) rfl, gt_of 484 (by decide +kernel) rfl, gt_of 75 (by decide +kernel) rfl, ⟨by decide +kernel, by decide⟩⟩
theorem fl_X3_113 : FL RX3 113 0 2 .int false false := ⟨RX0, TX0, 8, tyX0, kl_X0, by decide, rfl, rfl, fun _ => gt_of 146 (by decide +kernel) rfl, fun q => by cases q⟩
theorem ml_X3_116 : Cond.methodLink RX3 116 yX3_topicOf ∈ gtb := gt_of 486 (by decide +kernel) rfl
theorem yw_X3_topicOf : YV yX3_topicOf cX3_topicOf 6 (some .int) 1 := ⟨gt_of 489 (by decide +kernel) rfl, gt_of 488 (by decide +kernel) rfl, gt_of 8 (by decide +kernel) rfl, gt_of 73 (by decide +kernel) rfl, ⟨by decide +kernel, by decide⟩⟩
theorem ml_X3_91 : Cond.methodLink RX3 91 yX0_latestOf ∈ gtb := gt_of 495 (by decide +kernel) rfl
theorem yw_X0_latestOf : YV yX0_latestOf cX0_latestOf 3 (some .int) 1 := ⟨gt_of 498 (by decide +kernel) rfl, gt_of 496 (by decide +kernel) rfl, gt_of 497 (by decide +kernel) rfl, gt_of 75 (by decide +kernel) rfl, ⟨by decide +kernel, by decide⟩⟩
theorem fl_X3_94 : FL RX3 94 0 5 (.array .int) true false := ⟨RX0, TX0, 8, tyX0, kl_X0, by decide, rfl, rfl, fun _ => gt_of 158 (by decide +kernel) rfl, fun q => by cases q⟩
theorem ml_X3_88 : Cond.methodLink RX3 88 yX0_countOf ∈ gtb := gt_of 490 (by decide +kernel) rfl
theorem yw_X0_countOf : YV yX0_countOf cX0_countOf 4 (some .int) 1 := ⟨gt_of 493 (by decide +kernel) rfl, gt_of 491 (by decide +kernel) rfl, gt_of 492 (by decide +kernel) rfl, gt_of 75 (by decide +kernel) rfl, ⟨by decide +kernel, by decide⟩⟩
theorem ml_X0_43 : Cond.methodLinkNest RX0 43 yX8_asInt "AwakeBoard" ∈ nst := ns_of 494 (by decide +kernel) rfl
theorem ml_X3_119 : Cond.methodLink RX3 119 yX0_add ∈ gtb := gt_of 499 (by decide +kernel) rfl
theorem yw_X0_add : YV yX0_add cX0_add 3 (some .int) 2 := ⟨gt_of 502 (by decide +kernel) rfl, gt_of 500 (by decide +kernel) rfl, gt_of 501 (by decide +kernel) rfl, gt_of 75 (by decide +kernel) rfl, ⟨by decide +kernel, by decide⟩⟩
theorem fl_X0_36 : FL RX0 36 0 0 .int false false := ⟨RX0, TX0, 8, tyX0, kl_X0, by decide, rfl, rfl, fun _ => gt_of 139 (by decide +kernel) rfl, fun q => by cases q⟩
theorem fl_X0_18 : FL RX0 18 0 5 (.array .int) true false := ⟨RX0, TX0, 8, tyX0, kl_X0, by decide, rfl, rfl, fun _ => gt_of 156 (by decide +kernel) rfl, fun q => by cases q⟩
theorem fl_X0_21 : FL RX0 21 0 6 (.array .int) true false := ⟨RX0, TX0, 8, tyX0, kl_X0, by decide, rfl, rfl, fun _ => gt_of 160 (by decide +kernel) rfl, fun q => by cases q⟩
theorem ml_X0_39 : Cond.methodLink RX0 39 yX0_wordAhead ∈ gtb := gt_of 503 (by decide +kernel) rfl
theorem yw_X0_wordAhead : YV yX0_wordAhead cX0_wordAhead 3 (some .int) 1 := ⟨gt_of 506 (by decide +kernel) rfl, gt_of 505 (by decide +kernel) rfl, gt_of 9 (by decide +kernel) rfl, gt_of 75 (by decide +kernel) rfl, ⟨by decide +kernel, by decide⟩⟩
theorem wc_X8_143 : Cond.constant RX8 143 (-1000005) ∈ gtb := gt_of 476 (by decide +kernel) rfl
theorem ml_X9_127 : Cond.methodLink RX9 127 yX9_tellsNow ∈ gtb := gt_of 1161 (by decide +kernel) rfl
theorem yw_X9_tellsNow : YV yX9_tellsNow cX9_tellsNow 4 (some .int) 1 := ⟨gt_of 1164 (by decide +kernel) rfl, gt_of 1163 (by decide +kernel) rfl, gt_of 42 (by decide +kernel) rfl, gt_of 81 (by decide +kernel) rfl, ⟨by decide +kernel, by decide⟩⟩
theorem ml_X9_123 : Cond.methodLink RX9 123 yX9_wordsOf ∈ gtb := gt_of 1165 (by decide +kernel) rfl
theorem yw_X9_wordsOf : YV yX9_wordsOf cX9_wordsOf 4 (some .int) 1 := ⟨gt_of 1168 (by decide +kernel) rfl, gt_of 1167 (by decide +kernel) rfl, gt_of 43 (by decide +kernel) rfl, gt_of 81 (by decide +kernel) rfl, ⟨by decide +kernel, by decide⟩⟩
theorem ml_X9_130 : Cond.methodLink RX9 130 yX9_isSaid ∈ gtb := gt_of 1169 (by decide +kernel) rfl
theorem yw_X9_isSaid : YV yX9_isSaid cX9_isSaid 4 (some .boolean) 2 := ⟨gt_of 1172 (by decide +kernel) rfl, gt_of 1171 (by decide +kernel) rfl, gt_of 44 (by decide +kernel) rfl, gt_of 81 (by decide +kernel) rfl, ⟨by decide +kernel, by decide⟩⟩
theorem wc_X9_126 : Cond.constant RX9 126 (-1000005) ∈ gtb := gt_of 1160 (by decide +kernel) rfl
theorem ml_X8_147 : Cond.methodLink RX8 147 yX8_isTopic ∈ gtb := gt_of 511 (by decide +kernel) rfl
theorem ml_X8_150 : Cond.methodLink RX8 150 yX0_isFull ∈ gtb := gt_of 512 (by decide +kernel) rfl
theorem ml_X8_154 : Cond.methodLink RX8 154 yX0_add ∈ gtb := gt_of 513 (by decide +kernel) rfl
theorem ml_X8_155 : Cond.methodLink RX8 155 yX0_has ∈ gtb := gt_of 518 (by decide +kernel) rfl
theorem yw_X0_has : YV yX0_has cX0_has 2 (some .boolean) 1 := ⟨gt_of 521 (by decide +kernel) rfl, gt_of 519 (by decide +kernel) rfl, gt_of 520 (by decide +kernel) rfl, gt_of 75 (by decide +kernel) rfl, ⟨by decide +kernel, by decide⟩⟩
theorem ml_X0_32 : Cond.methodLinkNest RX0 32 yX8_isWithin "AwakeBoard" ∈ nst := ns_of 522 (by decide +kernel) rfl
theorem fl_X8_156 : FL RX8 156 0 3 (.array .int) true false := ⟨RX0, TX0, 8, tyX0, kl_X0, by decide, rfl, rfl, fun _ => gt_of 151 (by decide +kernel) rfl, fun q => by cases q⟩
theorem fl_X8_159 : FL RX8 159 0 4 (.array .int) true false := ⟨RX0, TX0, 8, tyX0, kl_X0, by decide, rfl, rfl, fun _ => gt_of 155 (by decide +kernel) rfl, fun q => by cases q⟩
theorem fl_X8_162 : FL RX8 162 0 5 (.array .int) true false := ⟨RX0, TX0, 8, tyX0, kl_X0, by decide, rfl, rfl, fun _ => gt_of 159 (by decide +kernel) rfl, fun q => by cases q⟩
theorem fl_X8_165 : FL RX8 165 0 6 (.array .int) true false := ⟨RX0, TX0, 8, tyX0, kl_X0, by decide, rfl, rfl, fun _ => gt_of 162 (by decide +kernel) rfl, fun q => by cases q⟩
theorem ml_X9_133 : Cond.methodLink RX9 133 yX9_isWord ∈ gtb := gt_of 1181 (by decide +kernel) rfl
theorem yw_X9_isWord : YV yX9_isWord cX9_isWord 2 (some .boolean) 1 := ⟨gt_of 1184 (by decide +kernel) rfl, gt_of 1183 (by decide +kernel) rfl, gt_of 45 (by decide +kernel) rfl, gt_of 81 (by decide +kernel) rfl, ⟨by decide +kernel, by decide⟩⟩
theorem wc_X9_136 : Cond.constantLong RX9 136 3 ∈ gtb := gt_of 1185 (by decide +kernel) rfl
theorem ml_X9_138 : Cond.methodLink RX9 138 yX9_follows ∈ gtb := gt_of 1186 (by decide +kernel) rfl
theorem yw_X9_follows : YV yX9_follows cX9_follows 3 (some .int) 1 := ⟨gt_of 1189 (by decide +kernel) rfl, gt_of 1188 (by decide +kernel) rfl, gt_of 46 (by decide +kernel) rfl, gt_of 81 (by decide +kernel) rfl, ⟨by decide +kernel, by decide⟩⟩
theorem ml_X8_168 : Cond.methodLink RX8 168 yX0_countBelow ∈ gtb := gt_of 527 (by decide +kernel) rfl
theorem yw_X0_countBelow : YV yX0_countBelow cX0_countBelow 5 (some .int) 1 := ⟨gt_of 530 (by decide +kernel) rfl, gt_of 528 (by decide +kernel) rfl, gt_of 529 (by decide +kernel) rfl, gt_of 75 (by decide +kernel) rfl, ⟨by decide +kernel, by decide⟩⟩
theorem fl_X0_24 : FL RX0 24 0 7 (.array .boolean) true false := ⟨RX0, TX0, 8, tyX0, kl_X0, by decide, rfl, rfl, fun _ => gt_of 163 (by decide +kernel) rfl, fun q => by cases q⟩
theorem fl_X9_19 : FL RX9 19 9 4 (.array .boolean) true false := ⟨RX9, TX9, 21, tyX9, kl_X9, by decide, rfl, rfl, fun _ => gt_of 996 (by decide +kernel) rfl, fun q => by cases q⟩
theorem fl_X8_44 : FL RX8 44 8 7 (.object "AwakeBoard$Signs") true false := ⟨RX8, TX8, 11, tyX8, kl_X8, by decide, rfl, rfl, fun _ => gt_of 311 (by decide +kernel) rfl, fun q => by cases q⟩
theorem ml_X8_171 : Cond.methodLink RX8 171 yX5_gather ∈ gtb := gt_of 535 (by decide +kernel) rfl
theorem yw_X5_gather : YV yX5_gather cX5_gather 3 none 2 := ⟨gt_of 538 (by decide +kernel) rfl, gt_of 536 (by decide +kernel) rfl, gt_of 537 (by decide +kernel) rfl, gt_of 78 (by decide +kernel) rfl, ⟨by decide +kernel, by decide⟩⟩
theorem ml_X5_15 : Cond.methodLink RX5 15 yX5_gatherGaps ∈ gtb := gt_of 539 (by decide +kernel) rfl
theorem yw_X5_gatherGaps : YV yX5_gatherGaps cX5_gatherGaps 9 none 2 := ⟨gt_of 542 (by decide +kernel) rfl, gt_of 541 (by decide +kernel) rfl, gt_of 10 (by decide +kernel) rfl, gt_of 78 (by decide +kernel) rfl, ⟨by decide +kernel, by decide⟩⟩
theorem fl_X5_37 : FL RX5 37 0 1 .int false false := ⟨RX0, TX0, 8, tyX0, kl_X0, by decide, rfl, rfl, fun _ => gt_of 143 (by decide +kernel) rfl, fun q => by cases q⟩
theorem fl_X5_41 : FL RX5 41 0 4 (.array .int) true false := ⟨RX0, TX0, 8, tyX0, kl_X0, by decide, rfl, rfl, fun _ => gt_of 153 (by decide +kernel) rfl, fun q => by cases q⟩
theorem fl_X5_44 : FL RX5 44 0 3 (.array .int) true false := ⟨RX0, TX0, 8, tyX0, kl_X0, by decide, rfl, rfl, fun _ => gt_of 150 (by decide +kernel) rfl, fun q => by cases q⟩
theorem ml_X5_47 : Cond.methodLink RX5 47 Lib.Math.min.name ∈ gtb := gt_of 543 (by decide +kernel) rfl
theorem fl_X5_9 : FL RX5 9 5 0 (.array .int) true false := ⟨RX5, TX5, 1, tyX5, kl_X5, by decide, rfl, rfl, fun _ => gt_of 249 (by decide +kernel) rfl, fun q => by cases q⟩
theorem ml_X5_53 : Cond.methodLinkNest RX5 53 yX8_cut "AwakeBoard" ∈ nst := ns_of 544 (by decide +kernel) rfl
theorem ml_X5_19 : Cond.methodLink RX5 19 yX5_gatherFollowing ∈ gtb := gt_of 545 (by decide +kernel) rfl
theorem yw_X5_gatherFollowing : YV yX5_gatherFollowing cX5_gatherFollowing 7 none 2 := ⟨gt_of 548 (by decide +kernel) rfl, gt_of 547 (by decide +kernel) rfl, gt_of 11 (by decide +kernel) rfl, gt_of 78 (by decide +kernel) rfl, ⟨by decide +kernel, by decide⟩⟩
theorem fl_X5_56 : FL RX5 56 0 6 (.array .int) true false := ⟨RX0, TX0, 8, tyX0, kl_X0, by decide, rfl, rfl, fun _ => gt_of 161 (by decide +kernel) rfl, fun q => by cases q⟩
theorem ml_X5_22 : Cond.methodLink RX5 22 yX0_hourSet ∈ gtb := gt_of 549 (by decide +kernel) rfl
theorem yw_X0_hourSet : YV yX0_hourSet cX0_hourSet 4 (some .int) 1 := ⟨gt_of 552 (by decide +kernel) rfl, gt_of 550 (by decide +kernel) rfl, gt_of 551 (by decide +kernel) rfl, gt_of 75 (by decide +kernel) rfl, ⟨by decide +kernel, by decide⟩⟩
theorem ml_X0_47 : Cond.methodLinkNest RX0 47 yX8_hourOf "AwakeBoard" ∈ nst := ns_of 553 (by decide +kernel) rfl
theorem ml_X5_28 : Cond.methodLink RX5 28 yJ6_bitCount_0f7a4 ∈ gtb := gt_of 554 (by decide +kernel) rfl
theorem ml_X5_33 : Cond.methodLink RX5 33 yX5_countTopics ∈ gtb := gt_of 555 (by decide +kernel) rfl
theorem yw_X5_countTopics : YS yX5_countTopics cX5_countTopics 4 (some .int) 2 := ⟨gt_of 557 (by decide +kernel) rfl, gt_of 556 (by decide +kernel) rfl, gt_of 78 (by decide +kernel) rfl, ⟨by decide +kernel, by decide⟩⟩
theorem fl_X5_59 : FL RX5 59 0 5 (.array .int) true false := ⟨RX0, TX0, 8, tyX0, kl_X0, by decide, rfl, rfl, fun _ => gt_of 157 (by decide +kernel) rfl, fun q => by cases q⟩
theorem fl_X8_175 : FL RX8 175 5 0 (.array .int) true false := ⟨RX5, TX5, 1, tyX5, kl_X5, by decide, rfl, rfl, fun _ => gt_of 250 (by decide +kernel) rfl, fun q => by cases q⟩
theorem wc_X9_154 : Cond.constantLong RX9 154 6 ∈ gtb := gt_of 1198 (by decide +kernel) rfl
theorem ml_X9_156 : Cond.methodLink RX9 156 yX9_signOf ∈ gtb := gt_of 1199 (by decide +kernel) rfl
theorem yw_X9_signOf : YV yX9_signOf cX9_signOf 5 (some .int) 2 := ⟨gt_of 1202 (by decide +kernel) rfl, gt_of 1201 (by decide +kernel) rfl, gt_of 47 (by decide +kernel) rfl, gt_of 81 (by decide +kernel) rfl, ⟨by decide +kernel, by decide⟩⟩
theorem ml_X9_141 : Cond.methodLink RX9 141 yX9_gapOf ∈ gtb := gt_of 1203 (by decide +kernel) rfl
theorem yw_X9_gapOf : YV yX9_gapOf cX9_gapOf 9 (some .int) 2 := ⟨gt_of 1206 (by decide +kernel) rfl, gt_of 1205 (by decide +kernel) rfl, gt_of 48 (by decide +kernel) rfl, gt_of 81 (by decide +kernel) rfl, ⟨by decide +kernel, by decide⟩⟩
theorem ml_X9_145 : Cond.methodLink RX9 145 yX9_hoursOf ∈ gtb := gt_of 1207 (by decide +kernel) rfl
theorem yw_X9_hoursOf : YV yX9_hoursOf cX9_hoursOf 4 (some .int) 1 := ⟨gt_of 1210 (by decide +kernel) rfl, gt_of 1209 (by decide +kernel) rfl, gt_of 49 (by decide +kernel) rfl, gt_of 81 (by decide +kernel) rfl, ⟨by decide +kernel, by decide⟩⟩
theorem ml_X9_148 : Cond.methodLink RX9 148 yX9_many ∈ gtb := gt_of 1211 (by decide +kernel) rfl
theorem yw_X9_many : YS yX9_many cX9_many 3 (some .int) 1 := ⟨gt_of 1213 (by decide +kernel) rfl, gt_of 1212 (by decide +kernel) rfl, gt_of 81 (by decide +kernel) rfl, ⟨by decide +kernel, by decide⟩⟩
theorem ml_X9_151 : Cond.methodLink RX9 151 yX9_followOf ∈ gtb := gt_of 1214 (by decide +kernel) rfl
theorem yw_X9_followOf : YV yX9_followOf cX9_followOf 8 (some .int) 2 := ⟨gt_of 1217 (by decide +kernel) rfl, gt_of 1216 (by decide +kernel) rfl, gt_of 50 (by decide +kernel) rfl, gt_of 81 (by decide +kernel) rfl, ⟨by decide +kernel, by decide⟩⟩
theorem ml_X8_178 : Cond.methodLink RX8 178 yX0_hourSet ∈ gtb := gt_of 562 (by decide +kernel) rfl
theorem fl_X8_27 : FL RX8 27 8 4 .int false false := ⟨RX8, TX8, 11, tyX8, kl_X8, by decide, rfl, rfl, fun _ => gt_of 308 (by decide +kernel) rfl, fun q => by cases q⟩
theorem fl_X8_23 : FL RX8 23 8 3 (.array .int) true false := ⟨RX8, TX8, 11, tyX8, kl_X8, by decide, rfl, rfl, fun _ => gt_of 307 (by decide +kernel) rfl, fun q => by cases q⟩
theorem wc_X9_159 : Cond.constantLong RX9 159 4 ∈ gtb := gt_of 1226 (by decide +kernel) rfl
theorem fl_X9_161 : FL RX9 161 9 6 .int false false := ⟨RX9, TX9, 21, tyX9, kl_X9, by decide, rfl, rfl, fun _ => gt_of 998 (by decide +kernel) rfl, fun q => by cases q⟩
theorem fl_X9_23 : FL RX9 23 9 5 (.array .int) true false := ⟨RX9, TX9, 21, tyX9, kl_X9, by decide, rfl, rfl, fun _ => gt_of 997 (by decide +kernel) rfl, fun q => by cases q⟩
theorem fl_X8_181 : FL RX8 181 3 2 (.object "AwakeBoard$Texts") true false := ⟨RX3, TX3, 5, tyX3, kl_X3, by decide, rfl, rfl, fun _ => gt_of 207 (by decide +kernel) rfl, fun q => by cases q⟩
theorem fl_X8_185 : FL RX8 185 6 0 .int false false := ⟨RX6, TX6, 3, tyX6, kl_X6, by decide, rfl, rfl, fun _ => gt_of 190 (by decide +kernel) rfl, fun q => by cases q⟩
theorem fl_X8_51 : FL RX8 51 8 8 (.object "AwakeBoard$Reader") true false := ⟨RX8, TX8, 11, tyX8, kl_X8, by decide, rfl, rfl, fun _ => gt_of 312 (by decide +kernel) rfl, fun q => by cases q⟩
theorem ml_X8_188 : Cond.methodLink RX8 188 yX2_read ∈ gtb := gt_of 575 (by decide +kernel) rfl
theorem yw_X2_read : YV yX2_read cX2_read 5 (some .int) 3 := ⟨gt_of 578 (by decide +kernel) rfl, gt_of 576 (by decide +kernel) rfl, gt_of 577 (by decide +kernel) rfl, gt_of 79 (by decide +kernel) rfl, ⟨by decide +kernel, by decide⟩⟩
theorem fl_X2_9 : FL RX2 9 2 0 (.array .int) false false := ⟨RX2, TX2, 8, tyX2, kl_X2, by decide, rfl, rfl, fun _ => gt_of 260 (by decide +kernel) rfl, fun q => by cases q⟩
theorem fl_X2_15 : FL RX2 15 2 1 .int false false := ⟨RX2, TX2, 8, tyX2, kl_X2, by decide, rfl, rfl, fun _ => gt_of 261 (by decide +kernel) rfl, fun q => by cases q⟩
theorem fl_X2_19 : FL RX2 19 2 2 (.array .int) false false := ⟨RX2, TX2, 8, tyX2, kl_X2, by decide, rfl, rfl, fun _ => gt_of 262 (by decide +kernel) rfl, fun q => by cases q⟩
theorem fl_X2_22 : FL RX2 22 2 3 .int false false := ⟨RX2, TX2, 8, tyX2, kl_X2, by decide, rfl, rfl, fun _ => gt_of 263 (by decide +kernel) rfl, fun q => by cases q⟩
theorem fl_X2_25 : FL RX2 25 2 7 .int false false := ⟨RX2, TX2, 8, tyX2, kl_X2, by decide, rfl, rfl, fun _ => gt_of 267 (by decide +kernel) rfl, fun q => by cases q⟩
theorem ml_X2_28 : Cond.methodLink RX2 28 yX2_step ∈ gtb := gt_of 579 (by decide +kernel) rfl
theorem yw_X2_step : YV yX2_step cX2_step 3 none 0 := ⟨gt_of 582 (by decide +kernel) rfl, gt_of 581 (by decide +kernel) rfl, gt_of 12 (by decide +kernel) rfl, gt_of 79 (by decide +kernel) rfl, ⟨by decide +kernel, by decide⟩⟩
theorem fl_X2_65 : FL RX2 65 2 5 .int false false := ⟨RX2, TX2, 8, tyX2, kl_X2, by decide, rfl, rfl, fun _ => gt_of 265 (by decide +kernel) rfl, fun q => by cases q⟩
theorem ml_X2_68 : Cond.methodLink RX2 68 yX2_isDigit ∈ gtb := gt_of 583 (by decide +kernel) rfl
theorem yw_X2_isDigit : YS yX2_isDigit cX2_isDigit 1 (some .boolean) 1 := ⟨gt_of 585 (by decide +kernel) rfl, gt_of 584 (by decide +kernel) rfl, gt_of 79 (by decide +kernel) rfl, ⟨by decide +kernel, by decide⟩⟩
theorem ml_X2_72 : Cond.methodLink RX2 72 yX2_stepNumber ∈ gtb := gt_of 586 (by decide +kernel) rfl
theorem yw_X2_stepNumber : YV yX2_stepNumber cX2_stepNumber 2 none 0 := ⟨gt_of 589 (by decide +kernel) rfl, gt_of 588 (by decide +kernel) rfl, gt_of 13 (by decide +kernel) rfl, gt_of 79 (by decide +kernel) rfl, ⟨by decide +kernel, by decide⟩⟩
theorem ml_X2_85 : Cond.methodLink RX2 85 Lib.Math.min.name ∈ gtb := gt_of 590 (by decide +kernel) rfl
theorem fl_X2_42 : FL RX2 42 2 4 .int false false := ⟨RX2, TX2, 8, tyX2, kl_X2, by decide, rfl, rfl, fun _ => gt_of 264 (by decide +kernel) rfl, fun q => by cases q⟩
theorem fl_X2_59 : FL RX2 59 2 6 .int false false := ⟨RX2, TX2, 8, tyX2, kl_X2, by decide, rfl, rfl, fun _ => gt_of 266 (by decide +kernel) rfl, fun q => by cases q⟩
theorem ml_X2_77 : Cond.methodLink RX2 77 yJ0_indexOf_0f7a4 ∈ gtb := gt_of 592 (by decide +kernel) rfl
theorem ml_X2_82 : Cond.methodLink RX2 82 yX2_isMark ∈ gtb := gt_of 676 (by decide +kernel) rfl
theorem yw_X2_isMark : YS yX2_isMark cX2_isMark 1 (some .boolean) 1 := ⟨gt_of 678 (by decide +kernel) rfl, gt_of 677 (by decide +kernel) rfl, gt_of 79 (by decide +kernel) rfl, ⟨by decide +kernel, by decide⟩⟩
theorem ml_X2_31 : Cond.methodLink RX2 31 yX2_readText ∈ gtb := gt_of 679 (by decide +kernel) rfl
theorem yw_X2_readText : YV yX2_readText cX2_readText 5 (some .int) 1 := ⟨gt_of 682 (by decide +kernel) rfl, gt_of 681 (by decide +kernel) rfl, gt_of 14 (by decide +kernel) rfl, gt_of 79 (by decide +kernel) rfl, ⟨by decide +kernel, by decide⟩⟩
theorem ml_X2_39 : Cond.methodLink RX2 39 yX2_readSum ∈ gtb := gt_of 683 (by decide +kernel) rfl
theorem yw_X2_readSum : YV yX2_readSum cX2_readSum 6 (some .int) 1 := ⟨gt_of 686 (by decide +kernel) rfl, gt_of 685 (by decide +kernel) rfl, gt_of 15 (by decide +kernel) rfl, gt_of 79 (by decide +kernel) rfl, ⟨by decide +kernel, by decide⟩⟩
theorem ml_X2_49 : Cond.methodLink RX2 49 yX2_readTerm ∈ gtb := gt_of 687 (by decide +kernel) rfl
theorem yw_X2_readTerm : YV yX2_readTerm cX2_readTerm 6 (some .int) 1 := ⟨gt_of 690 (by decide +kernel) rfl, gt_of 689 (by decide +kernel) rfl, gt_of 16 (by decide +kernel) rfl, gt_of 79 (by decide +kernel) rfl, ⟨by decide +kernel, by decide⟩⟩
theorem ml_X2_52 : Cond.methodLink RX2 52 yX2_readOne ∈ gtb := gt_of 691 (by decide +kernel) rfl
theorem yw_X2_readOne : YV yX2_readOne cX2_readOne 4 (some .int) 1 := ⟨gt_of 694 (by decide +kernel) rfl, gt_of 693 (by decide +kernel) rfl, gt_of 17 (by decide +kernel) rfl, gt_of 79 (by decide +kernel) rfl, ⟨by decide +kernel, by decide⟩⟩
theorem ml_X2_55 : Cond.methodLinkNest RX2 55 yX8_cut "AwakeBoard" ∈ nst := ns_of 703 (by decide +kernel) rfl
theorem ml_X2_45 : Cond.methodLinkNest RX2 45 yX8_asInt "AwakeBoard" ∈ nst := ns_of 704 (by decide +kernel) rfl
theorem ml_X2_35 : Cond.methodLink RX2 35 yX2_take ∈ gtb := gt_of 699 (by decide +kernel) rfl
theorem yw_X2_take : YV yX2_take cX2_take 2 none 1 := ⟨gt_of 702 (by decide +kernel) rfl, gt_of 701 (by decide +kernel) rfl, gt_of 19 (by decide +kernel) rfl, gt_of 79 (by decide +kernel) rfl, ⟨by decide +kernel, by decide⟩⟩
theorem ml_X2_62 : Cond.methodLink RX2 62 yX2_fail ∈ gtb := gt_of 695 (by decide +kernel) rfl
theorem yw_X2_fail : YV yX2_fail cX2_fail 1 none 0 := ⟨gt_of 698 (by decide +kernel) rfl, gt_of 697 (by decide +kernel) rfl, gt_of 18 (by decide +kernel) rfl, gt_of 79 (by decide +kernel) rfl, ⟨by decide +kernel, by decide⟩⟩
theorem fl_X8_192 : FL RX8 192 2 7 .int false false := ⟨RX2, TX2, 8, tyX2, kl_X2, by decide, rfl, rfl, fun _ => gt_of 268 (by decide +kernel) rfl, fun q => by cases q⟩
theorem ml_X8_195 : Cond.methodLink RX8 195 yX6_add ∈ gtb := gt_of 705 (by decide +kernel) rfl
theorem yw_X6_add : YV yX6_add cX6_add 3 (some .int) 2 := ⟨gt_of 708 (by decide +kernel) rfl, gt_of 706 (by decide +kernel) rfl, gt_of 707 (by decide +kernel) rfl, gt_of 76 (by decide +kernel) rfl, ⟨by decide +kernel, by decide⟩⟩
theorem fl_X6_11 : FL RX6 11 6 1 (.array (.array .int)) true false := ⟨RX6, TX6, 3, tyX6, kl_X6, by decide, rfl, rfl, fun _ => gt_of 191 (by decide +kernel) rfl, fun q => by cases q⟩
theorem fl_X6_20 : FL RX6 20 6 0 .int false false := ⟨RX6, TX6, 3, tyX6, kl_X6, by decide, rfl, rfl, fun _ => gt_of 189 (by decide +kernel) rfl, fun q => by cases q⟩
theorem ml_X6_28 : Cond.methodLink RX6 28 arraycopyName ∈ gtb := gt_of 709 (by decide +kernel) rfl
theorem fl_X6_16 : FL RX6 16 6 2 (.array .int) true false := ⟨RX6, TX6, 3, tyX6, kl_X6, by decide, rfl, rfl, fun _ => gt_of 193 (by decide +kernel) rfl, fun q => by cases q⟩
theorem fl_X9_169 : FL RX9 169 9 10 .int false false := ⟨RX9, TX9, 21, tyX9, kl_X9, by decide, rfl, rfl, fun _ => gt_of 1002 (by decide +kernel) rfl, fun q => by cases q⟩
theorem fl_X9_188 : FL RX9 188 9 8 .int false false := ⟨RX9, TX9, 21, tyX9, kl_X9, by decide, rfl, rfl, fun _ => gt_of 1000 (by decide +kernel) rfl, fun q => by cases q⟩
theorem fl_X9_213 : FL RX9 213 9 13 .int false false := ⟨RX9, TX9, 21, tyX9, kl_X9, by decide, rfl, rfl, fun _ => gt_of 1005 (by decide +kernel) rfl, fun q => by cases q⟩
theorem fl_X9_184 : FL RX9 184 9 14 .boolean false false := ⟨RX9, TX9, 21, tyX9, kl_X9, by decide, rfl, rfl, fun _ => gt_of 1006 (by decide +kernel) rfl, fun q => by cases q⟩
theorem ml_X9_197 : Cond.methodLink RX9 197 yX9_next_ ∈ gtb := gt_of 1235 (by decide +kernel) rfl
theorem yw_X9_next_ : YV yX9_next_ cX9_next_ 1 none 0 := ⟨gt_of 1238 (by decide +kernel) rfl, gt_of 1237 (by decide +kernel) rfl, gt_of 51 (by decide +kernel) rfl, gt_of 81 (by decide +kernel) rfl, ⟨by decide +kernel, by decide⟩⟩
theorem fl_X9_172 : FL RX9 172 9 9 .int false false := ⟨RX9, TX9, 21, tyX9, kl_X9, by decide, rfl, rfl, fun _ => gt_of 1001 (by decide +kernel) rfl, fun q => by cases q⟩
theorem fl_X9_175 : FL RX9 175 9 12 .int false false := ⟨RX9, TX9, 21, tyX9, kl_X9, by decide, rfl, rfl, fun _ => gt_of 1004 (by decide +kernel) rfl, fun q => by cases q⟩
theorem fl_X9_178 : FL RX9 178 9 11 .int false false := ⟨RX9, TX9, 21, tyX9, kl_X9, by decide, rfl, rfl, fun _ => gt_of 1003 (by decide +kernel) rfl, fun q => by cases q⟩
theorem ml_X9_181 : Cond.methodLink RX9 181 yX9_isDigit ∈ gtb := gt_of 1239 (by decide +kernel) rfl
theorem yw_X9_isDigit : YS yX9_isDigit cX9_isDigit 1 (some .boolean) 1 := ⟨gt_of 1241 (by decide +kernel) rfl, gt_of 1240 (by decide +kernel) rfl, gt_of 81 (by decide +kernel) rfl, ⟨by decide +kernel, by decide⟩⟩
theorem wc_X9_165 : Cond.constantLong RX9 165 48 ∈ gtb := gt_of 1242 (by decide +kernel) rfl
theorem wc_X9_167 : Cond.constantLong RX9 167 57 ∈ gtb := gt_of 1243 (by decide +kernel) rfl
theorem ml_X9_216 : Cond.methodLink RX9 216 yX9_whole ∈ gtb := gt_of 1244 (by decide +kernel) rfl
theorem yw_X9_whole : YV yX9_whole cX9_whole 2 none 0 := ⟨gt_of 1247 (by decide +kernel) rfl, gt_of 1246 (by decide +kernel) rfl, gt_of 52 (by decide +kernel) rfl, gt_of 81 (by decide +kernel) rfl, ⟨by decide +kernel, by decide⟩⟩
theorem ml_X9_191 : Cond.methodLink RX9 191 yX9_sum ∈ gtb := gt_of 1248 (by decide +kernel) rfl
theorem yw_X9_sum : YV yX9_sum cX9_sum 2 none 0 := ⟨gt_of 1251 (by decide +kernel) rfl, gt_of 1250 (by decide +kernel) rfl, gt_of 53 (by decide +kernel) rfl, gt_of 81 (by decide +kernel) rfl, ⟨by decide +kernel, by decide⟩⟩
theorem ml_X9_204 : Cond.methodLink RX9 204 yX9_term ∈ gtb := gt_of 1252 (by decide +kernel) rfl
theorem yw_X9_term : YV yX9_term cX9_term 2 none 0 := ⟨gt_of 1255 (by decide +kernel) rfl, gt_of 1254 (by decide +kernel) rfl, gt_of 54 (by decide +kernel) rfl, gt_of 81 (by decide +kernel) rfl, ⟨by decide +kernel, by decide⟩⟩
theorem ml_X9_207 : Cond.methodLink RX9 207 yX9_one ∈ gtb := gt_of 1256 (by decide +kernel) rfl
theorem yw_X9_one : YV yX9_one cX9_one 2 none 0 := ⟨gt_of 1259 (by decide +kernel) rfl, gt_of 1258 (by decide +kernel) rfl, gt_of 55 (by decide +kernel) rfl, gt_of 81 (by decide +kernel) rfl, ⟨by decide +kernel, by decide⟩⟩
theorem ml_X9_194 : Cond.methodLink RX9 194 yX9_isSign ∈ gtb := gt_of 1267 (by decide +kernel) rfl
theorem yw_X9_isSign : YV yX9_isSign cX9_isSign 2 (some .boolean) 1 := ⟨gt_of 1270 (by decide +kernel) rfl, gt_of 1269 (by decide +kernel) rfl, gt_of 57 (by decide +kernel) rfl, gt_of 81 (by decide +kernel) rfl, ⟨by decide +kernel, by decide⟩⟩
theorem ml_X9_200 : Cond.methodLink RX9 200 yX9_puts ∈ gtb := gt_of 1260 (by decide +kernel) rfl
theorem yw_X9_puts : YV yX9_puts cX9_puts 2 none 1 := ⟨gt_of 1263 (by decide +kernel) rfl, gt_of 1262 (by decide +kernel) rfl, gt_of 56 (by decide +kernel) rfl, gt_of 81 (by decide +kernel) rfl, ⟨by decide +kernel, by decide⟩⟩
theorem fl_X9_26 : FL RX9 26 9 7 (.array .int) true false := ⟨RX9, TX9, 21, tyX9, kl_X9, by decide, rfl, rfl, fun _ => gt_of 999 (by decide +kernel) rfl, fun q => by cases q⟩
theorem ml_X9_210 : Cond.methodLink RX9 210 yX9_letterOf ∈ gtb := gt_of 1264 (by decide +kernel) rfl
theorem yw_X9_letterOf : YS yX9_letterOf cX9_letterOf 1 (some .int) 1 := ⟨gt_of 1266 (by decide +kernel) rfl, gt_of 1265 (by decide +kernel) rfl, gt_of 81 (by decide +kernel) rfl, ⟨by decide +kernel, by decide⟩⟩
theorem ml_X8_198 : Cond.methodLink RX8 198 yX6_has ∈ gtb := gt_of 717 (by decide +kernel) rfl
theorem yw_X6_has : YV yX6_has cX6_has 2 (some .boolean) 1 := ⟨gt_of 720 (by decide +kernel) rfl, gt_of 718 (by decide +kernel) rfl, gt_of 719 (by decide +kernel) rfl, gt_of 76 (by decide +kernel) rfl, ⟨by decide +kernel, by decide⟩⟩
theorem ml_X6_24 : Cond.methodLinkNest RX6 24 yX8_isWithin "AwakeBoard" ∈ nst := ns_of 721 (by decide +kernel) rfl
theorem ml_X8_199 : Cond.methodLink RX8 199 yX8_scoreOf ∈ gtb := gt_of 722 (by decide +kernel) rfl
theorem yw_X8_scoreOf : YV yX8_scoreOf cX8_scoreOf 3 (some .int) 2 := ⟨gt_of 725 (by decide +kernel) rfl, gt_of 724 (by decide +kernel) rfl, gt_of 20 (by decide +kernel) rfl, gt_of 72 (by decide +kernel) rfl, ⟨by decide +kernel, by decide⟩⟩
theorem fl_X8_320 : FL RX8 320 6 1 (.array (.array .int)) true false := ⟨RX6, TX6, 3, tyX6, kl_X6, by decide, rfl, rfl, fun _ => gt_of 192 (by decide +kernel) rfl, fun q => by cases q⟩
theorem fl_X8_323 : FL RX8 323 6 2 (.array .int) true false := ⟨RX6, TX6, 3, tyX6, kl_X6, by decide, rfl, rfl, fun _ => gt_of 194 (by decide +kernel) rfl, fun q => by cases q⟩
theorem ml_X9_223 : Cond.methodLink RX9 223 yX9_isText ∈ gtb := gt_of 1275 (by decide +kernel) rfl
theorem yw_X9_isText : YV yX9_isText cX9_isText 2 (some .boolean) 1 := ⟨gt_of 1278 (by decide +kernel) rfl, gt_of 1277 (by decide +kernel) rfl, gt_of 58 (by decide +kernel) rfl, gt_of 81 (by decide +kernel) rfl, ⟨by decide +kernel, by decide⟩⟩
theorem ml_X9_226 : Cond.methodLink RX9 226 yX9_scoreOf ∈ gtb := gt_of 1279 (by decide +kernel) rfl
theorem yw_X9_scoreOf : YV yX9_scoreOf cX9_scoreOf 7 (some .int) 2 := ⟨gt_of 1282 (by decide +kernel) rfl, gt_of 1281 (by decide +kernel) rfl, gt_of 59 (by decide +kernel) rfl, gt_of 81 (by decide +kernel) rfl, ⟨by decide +kernel, by decide⟩⟩
theorem fl_X9_29 : FL RX9 29 9 15 (.array .int) true false := ⟨RX9, TX9, 21, tyX9, kl_X9, by decide, rfl, rfl, fun _ => gt_of 1007 (by decide +kernel) rfl, fun q => by cases q⟩
theorem ml_X9_219 : Cond.methodLink RX9 219 yX9_joined ∈ gtb := gt_of 1283 (by decide +kernel) rfl
theorem yw_X9_joined : YS yX9_joined cX9_joined 3 (some .int) 3 := ⟨gt_of 1285 (by decide +kernel) rfl, gt_of 1284 (by decide +kernel) rfl, gt_of 81 (by decide +kernel) rfl, ⟨by decide +kernel, by decide⟩⟩
theorem ml_X8_202 : Cond.methodLink RX8 202 yX8_gatherScores ∈ gtb := gt_of 730 (by decide +kernel) rfl
theorem yw_X8_gatherScores : YV yX8_gatherScores cX8_gatherScores 3 none 1 := ⟨gt_of 733 (by decide +kernel) rfl, gt_of 732 (by decide +kernel) rfl, gt_of 21 (by decide +kernel) rfl, gt_of 72 (by decide +kernel) rfl, ⟨by decide +kernel, by decide⟩⟩
theorem fl_X8_62 : FL RX8 62 8 10 (.array .int) true false := ⟨RX8, TX8, 11, tyX8, kl_X8, by decide, rfl, rfl, fun _ => gt_of 314 (by decide +kernel) rfl, fun q => by cases q⟩
theorem ml_X8_212 : Cond.methodLink RX8 212 yX8_missedSet ∈ gtb := gt_of 742 (by decide +kernel) rfl
theorem yw_X8_missedSet : YV yX8_missedSet cX8_missedSet 2 (some .int) 1 := ⟨gt_of 745 (by decide +kernel) rfl, gt_of 744 (by decide +kernel) rfl, gt_of 24 (by decide +kernel) rfl, gt_of 72 (by decide +kernel) rfl, ⟨by decide +kernel, by decide⟩⟩
theorem ml_X8_326 : Cond.methodLink RX8 326 yX1_machineSet ∈ gtb := gt_of 746 (by decide +kernel) rfl
theorem yw_X1_machineSet : YV yX1_machineSet cX1_machineSet 1 (some .int) 0 := ⟨gt_of 749 (by decide +kernel) rfl, gt_of 747 (by decide +kernel) rfl, gt_of 748 (by decide +kernel) rfl, gt_of 74 (by decide +kernel) rfl, ⟨by decide +kernel, by decide⟩⟩
theorem ml_X1_39 : Cond.methodLink RX1 39 yX1_peopleSet ∈ gtb := gt_of 750 (by decide +kernel) rfl
theorem ml_X8_206 : Cond.methodLink RX8 206 yX8_foundSet ∈ gtb := gt_of 734 (by decide +kernel) rfl
theorem yw_X8_foundSet : YV yX8_foundSet cX8_foundSet 4 (some .int) 1 := ⟨gt_of 737 (by decide +kernel) rfl, gt_of 736 (by decide +kernel) rfl, gt_of 22 (by decide +kernel) rfl, gt_of 72 (by decide +kernel) rfl, ⟨by decide +kernel, by decide⟩⟩
theorem ml_X8_209 : Cond.methodLink RX8 209 yX8_wrongedSet ∈ gtb := gt_of 738 (by decide +kernel) rfl
theorem yw_X8_wrongedSet : YV yX8_wrongedSet cX8_wrongedSet 2 (some .int) 1 := ⟨gt_of 741 (by decide +kernel) rfl, gt_of 740 (by decide +kernel) rfl, gt_of 23 (by decide +kernel) rfl, gt_of 72 (by decide +kernel) rfl, ⟨by decide +kernel, by decide⟩⟩
theorem wc_X9_229 : Cond.constantLong RX9 229 2 ∈ gtb := gt_of 1290 (by decide +kernel) rfl
theorem ml_X9_231 : Cond.methodLink RX9 231 yX9_findScores ∈ gtb := gt_of 1291 (by decide +kernel) rfl
theorem yw_X9_findScores : YV yX9_findScores cX9_findScores 3 none 1 := ⟨gt_of 1294 (by decide +kernel) rfl, gt_of 1293 (by decide +kernel) rfl, gt_of 60 (by decide +kernel) rfl, gt_of 81 (by decide +kernel) rfl, ⟨by decide +kernel, by decide⟩⟩
theorem fl_X9_32 : FL RX9 32 9 16 (.array .int) true false := ⟨RX9, TX9, 21, tyX9, kl_X9, by decide, rfl, rfl, fun _ => gt_of 1008 (by decide +kernel) rfl, fun q => by cases q⟩
theorem ml_X9_234 : Cond.methodLink RX9 234 yX9_foundBy ∈ gtb := gt_of 1295 (by decide +kernel) rfl
theorem yw_X9_foundBy : YV yX9_foundBy cX9_foundBy 4 (some .int) 1 := ⟨gt_of 1298 (by decide +kernel) rfl, gt_of 1297 (by decide +kernel) rfl, gt_of 61 (by decide +kernel) rfl, gt_of 81 (by decide +kernel) rfl, ⟨by decide +kernel, by decide⟩⟩
theorem ml_X9_52 : Cond.methodLink RX9 52 yX9_every ∈ gtb := gt_of 1303 (by decide +kernel) rfl
theorem yw_X9_every : YV yX9_every cX9_every 1 (some .int) 0 := ⟨gt_of 1306 (by decide +kernel) rfl, gt_of 1305 (by decide +kernel) rfl, gt_of 63 (by decide +kernel) rfl, gt_of 81 (by decide +kernel) rfl, ⟨by decide +kernel, by decide⟩⟩
theorem ml_X9_237 : Cond.methodLink RX9 237 yX9_people ∈ gtb := gt_of 1299 (by decide +kernel) rfl
theorem yw_X9_people : YV yX9_people cX9_people 3 (some .int) 0 := ⟨gt_of 1302 (by decide +kernel) rfl, gt_of 1301 (by decide +kernel) rfl, gt_of 62 (by decide +kernel) rfl, gt_of 81 (by decide +kernel) rfl, ⟨by decide +kernel, by decide⟩⟩
theorem ml_X8_215 : Cond.methodLink RX8 215 yX8_lineSum ∈ gtb := gt_of 755 (by decide +kernel) rfl
theorem yw_X8_lineSum : YV yX8_lineSum cX8_lineSum 4 (some .int) 3 := ⟨gt_of 758 (by decide +kernel) rfl, gt_of 757 (by decide +kernel) rfl, gt_of 25 (by decide +kernel) rfl, gt_of 72 (by decide +kernel) rfl, ⟨by decide +kernel, by decide⟩⟩
theorem fl_X8_219 : FL RX8 219 1 2 .int false false := ⟨RX1, TX1, 4, tyX1, kl_X1, by decide, rfl, rfl, fun _ => gt_of 119 (by decide +kernel) rfl, fun q => by cases q⟩
theorem ml_X8_222 : Cond.methodLink RX8 222 Lib.MathLoose.abs_long.x ∈ gtb := gt_of 767 (by decide +kernel) rfl
theorem wc_X9_240 : Cond.constantLong RX9 240 (-9999) ∈ gtb := gt_of 1319 (by decide +kernel) rfl
theorem wc_X9_242 : Cond.constantLong RX9 242 9999 ∈ gtb := gt_of 1320 (by decide +kernel) rfl
theorem ml_X9_244 : Cond.methodLink RX9 244 yX9_howMany ∈ gtb := gt_of 1325 (by decide +kernel) rfl
theorem yw_X9_howMany : YV yX9_howMany cX9_howMany 4 (some .int) 1 := ⟨gt_of 1328 (by decide +kernel) rfl, gt_of 1327 (by decide +kernel) rfl, gt_of 64 (by decide +kernel) rfl, gt_of 81 (by decide +kernel) rfl, ⟨by decide +kernel, by decide⟩⟩
theorem ml_X8_226 : Cond.methodLink RX8 226 yX8_areTwoNames ∈ gtb := gt_of 778 (by decide +kernel) rfl
theorem yw_X8_areTwoNames : YV yX8_areTwoNames cX8_areTwoNames 3 (some .boolean) 2 := ⟨gt_of 781 (by decide +kernel) rfl, gt_of 780 (by decide +kernel) rfl, gt_of 26 (by decide +kernel) rfl, gt_of 72 (by decide +kernel) rfl, ⟨by decide +kernel, by decide⟩⟩
theorem ml_X8_229 : Cond.methodLink RX8 229 yX8_isSpan ∈ gtb := gt_of 782 (by decide +kernel) rfl
theorem yw_X8_isSpan : YS yX8_isSpan cX8_isSpan 1 (some .boolean) 1 := ⟨gt_of 784 (by decide +kernel) rfl, gt_of 783 (by decide +kernel) rfl, gt_of 72 (by decide +kernel) rfl, ⟨by decide +kernel, by decide⟩⟩
theorem ml_X8_232 : Cond.methodLink RX8 232 yX0_countTogether ∈ gtb := gt_of 785 (by decide +kernel) rfl
theorem yw_X0_countTogether : YV yX0_countTogether cX0_countTogether 6 (some .int) 3 := ⟨gt_of 788 (by decide +kernel) rfl, gt_of 786 (by decide +kernel) rfl, gt_of 787 (by decide +kernel) rfl, gt_of 75 (by decide +kernel) rfl, ⟨by decide +kernel, by decide⟩⟩
theorem ml_X0_61 : Cond.methodLink RX0 61 yX0_speakersNear ∈ gtb := gt_of 789 (by decide +kernel) rfl
theorem yw_X0_speakersNear : YV yX0_speakersNear cX0_speakersNear 3 (some .int) 2 := ⟨gt_of 792 (by decide +kernel) rfl, gt_of 790 (by decide +kernel) rfl, gt_of 791 (by decide +kernel) rfl, gt_of 75 (by decide +kernel) rfl, ⟨by decide +kernel, by decide⟩⟩
theorem ml_X0_57 : Cond.methodLink RX0 57 yX0_speakersBetween ∈ gtb := gt_of 793 (by decide +kernel) rfl
theorem ml_X0_50 : Cond.methodLinkNest RX0 50 yX8_hasBit "AwakeBoard" ∈ nst := ns_of 794 (by decide +kernel) rfl
theorem ml_X9_250 : Cond.methodLink RX9 250 yX9_areTwo ∈ gtb := gt_of 1333 (by decide +kernel) rfl
theorem yw_X9_areTwo : YV yX9_areTwo cX9_areTwo 3 (some .boolean) 2 := ⟨gt_of 1336 (by decide +kernel) rfl, gt_of 1335 (by decide +kernel) rfl, gt_of 65 (by decide +kernel) rfl, gt_of 81 (by decide +kernel) rfl, ⟨by decide +kernel, by decide⟩⟩
theorem ml_X9_253 : Cond.methodLink RX9 253 yX9_togetherOf ∈ gtb := gt_of 1337 (by decide +kernel) rfl
theorem yw_X9_togetherOf : YV yX9_togetherOf cX9_togetherOf 6 (some .int) 3 := ⟨gt_of 1340 (by decide +kernel) rfl, gt_of 1339 (by decide +kernel) rfl, gt_of 66 (by decide +kernel) rfl, gt_of 81 (by decide +kernel) rfl, ⟨by decide +kernel, by decide⟩⟩
theorem ml_X9_247 : Cond.methodLink RX9 247 yX9_isNear ∈ gtb := gt_of 1341 (by decide +kernel) rfl
theorem yw_X9_isNear : YV yX9_isNear cX9_isNear 5 (some .boolean) 3 := ⟨gt_of 1344 (by decide +kernel) rfl, gt_of 1343 (by decide +kernel) rfl, gt_of 67 (by decide +kernel) rfl, gt_of 81 (by decide +kernel) rfl, ⟨by decide +kernel, by decide⟩⟩
theorem fl_X8_58 : FL RX8 58 8 9 (.object "AwakeBoard$Ties") true false := ⟨RX8, TX8, 11, tyX8, kl_X8, by decide, rfl, rfl, fun _ => gt_of 313 (by decide +kernel) rfl, fun q => by cases q⟩
theorem ml_X8_235 : Cond.methodLink RX8 235 yX7_gather ∈ gtb := gt_of 799 (by decide +kernel) rfl
theorem yw_X7_gather : YV yX7_gather cX7_gather 7 none 4 := ⟨gt_of 802 (by decide +kernel) rfl, gt_of 800 (by decide +kernel) rfl, gt_of 801 (by decide +kernel) rfl, gt_of 80 (by decide +kernel) rfl, ⟨by decide +kernel, by decide⟩⟩
theorem fl_X7_20 : FL RX7 20 7 0 .int false false := ⟨RX7, TX7, 3, tyX7, kl_X7, by decide, rfl, rfl, fun _ => gt_of 293 (by decide +kernel) rfl, fun q => by cases q⟩
theorem ml_X7_24 : Cond.methodLink RX7 24 yX7_gatherNear ∈ gtb := gt_of 803 (by decide +kernel) rfl
theorem yw_X7_gatherNear : YV yX7_gatherNear cX7_gatherNear 6 none 2 := ⟨gt_of 806 (by decide +kernel) rfl, gt_of 805 (by decide +kernel) rfl, gt_of 27 (by decide +kernel) rfl, gt_of 80 (by decide +kernel) rfl, ⟨by decide +kernel, by decide⟩⟩
theorem fl_X7_17 : FL RX7 17 7 2 (.array (.array .int)) true false := ⟨RX7, TX7, 3, tyX7, kl_X7, by decide, rfl, rfl, fun _ => gt_of 296 (by decide +kernel) rfl, fun q => by cases q⟩
theorem fl_X7_32 : FL RX7 32 0 1 .int false false := ⟨RX0, TX0, 8, tyX0, kl_X0, by decide, rfl, rfl, fun _ => gt_of 144 (by decide +kernel) rfl, fun q => by cases q⟩
theorem ml_X7_35 : Cond.methodLink RX7 35 yX0_speakersNear ∈ gtb := gt_of 807 (by decide +kernel) rfl
theorem fl_X7_39 : FL RX7 39 0 4 (.array .int) true false := ⟨RX0, TX0, 8, tyX0, kl_X0, by decide, rfl, rfl, fun _ => gt_of 154 (by decide +kernel) rfl, fun q => by cases q⟩
theorem ml_X7_42 : Cond.methodLinkNest RX7 42 yX8_hasBit "AwakeBoard" ∈ nst := ns_of 808 (by decide +kernel) rfl
theorem ml_X7_46 : Cond.methodLinkNest RX7 46 yX8_asInt "AwakeBoard" ∈ nst := ns_of 809 (by decide +kernel) rfl
theorem fl_X7_9 : FL RX7 9 7 1 (.array .int) true false := ⟨RX7, TX7, 3, tyX7, kl_X7, by decide, rfl, rfl, fun _ => gt_of 294 (by decide +kernel) rfl, fun q => by cases q⟩
theorem ml_X7_28 : Cond.methodLink RX7 28 yX7_join ∈ gtb := gt_of 810 (by decide +kernel) rfl
theorem yw_X7_join : YV yX7_join cX7_join 5 none 2 := ⟨gt_of 813 (by decide +kernel) rfl, gt_of 812 (by decide +kernel) rfl, gt_of 28 (by decide +kernel) rfl, gt_of 80 (by decide +kernel) rfl, ⟨by decide +kernel, by decide⟩⟩
theorem ml_X7_50 : Cond.methodLink RX7 50 Lib.Math.min.name ∈ gtb := gt_of 814 (by decide +kernel) rfl
theorem fl_X8_238 : FL RX8 238 7 1 (.array .int) true false := ⟨RX7, TX7, 3, tyX7, kl_X7, by decide, rfl, rfl, fun _ => gt_of 295 (by decide +kernel) rfl, fun q => by cases q⟩
theorem ml_X8_241 : Cond.methodLink RX8 241 yX7_groupSet ∈ gtb := gt_of 815 (by decide +kernel) rfl
theorem yw_X7_groupSet : YV yX7_groupSet cX7_groupSet 4 (some .int) 1 := ⟨gt_of 818 (by decide +kernel) rfl, gt_of 816 (by decide +kernel) rfl, gt_of 817 (by decide +kernel) rfl, gt_of 80 (by decide +kernel) rfl, ⟨by decide +kernel, by decide⟩⟩
theorem ml_X9_256 : Cond.methodLink RX9 256 yX9_isGroup ∈ gtb := gt_of 1349 (by decide +kernel) rfl
theorem yw_X9_isGroup : YS yX9_isGroup cX9_isGroup 2 (some .boolean) 2 := ⟨gt_of 1351 (by decide +kernel) rfl, gt_of 1350 (by decide +kernel) rfl, gt_of 81 (by decide +kernel) rfl, ⟨by decide +kernel, by decide⟩⟩
theorem ml_X9_259 : Cond.methodLink RX9 259 yX9_findGroups ∈ gtb := gt_of 1352 (by decide +kernel) rfl
theorem yw_X9_findGroups : YV yX9_findGroups cX9_findGroups 8 none 2 := ⟨gt_of 1355 (by decide +kernel) rfl, gt_of 1354 (by decide +kernel) rfl, gt_of 68 (by decide +kernel) rfl, gt_of 81 (by decide +kernel) rfl, ⟨by decide +kernel, by decide⟩⟩
theorem fl_X9_35 : FL RX9 35 9 17 (.array .int) true false := ⟨RX9, TX9, 21, tyX9, kl_X9, by decide, rfl, rfl, fun _ => gt_of 1009 (by decide +kernel) rfl, fun q => by cases q⟩
theorem ml_X8_244 : Cond.methodLink RX8 244 yX7_countGroups ∈ gtb := gt_of 823 (by decide +kernel) rfl
theorem yw_X7_countGroups : YV yX7_countGroups cX7_countGroups 3 (some .int) 0 := ⟨gt_of 826 (by decide +kernel) rfl, gt_of 824 (by decide +kernel) rfl, gt_of 825 (by decide +kernel) rfl, gt_of 80 (by decide +kernel) rfl, ⟨by decide +kernel, by decide⟩⟩
theorem ml_X8_247 : Cond.methodLink RX8 247 yX0_speakersBetween ∈ gtb := gt_of 831 (by decide +kernel) rfl
theorem ml_X8_250 : Cond.methodLink RX8 250 yX1_hasAll ∈ gtb := gt_of 840 (by decide +kernel) rfl
theorem yw_X1_hasAll : YV yX1_hasAll cX1_hasAll 2 (some .boolean) 1 := ⟨gt_of 843 (by decide +kernel) rfl, gt_of 841 (by decide +kernel) rfl, gt_of 842 (by decide +kernel) rfl, gt_of 74 (by decide +kernel) rfl, ⟨by decide +kernel, by decide⟩⟩
theorem ml_X8_253 : Cond.methodLink RX8 253 yX0_countTelling ∈ gtb := gt_of 844 (by decide +kernel) rfl
theorem yw_X0_countTelling : YV yX0_countTelling cX0_countTelling 6 (some .int) 2 := ⟨gt_of 847 (by decide +kernel) rfl, gt_of 845 (by decide +kernel) rfl, gt_of 846 (by decide +kernel) rfl, gt_of 75 (by decide +kernel) rfl, ⟨by decide +kernel, by decide⟩⟩
theorem wc_X9_263 : Cond.constantLong RX9 263 (-1) ∈ gtb := gt_of 1372 (by decide +kernel) rfl
theorem ml_X9_265 : Cond.methodLink RX9 265 yX9_isSet ∈ gtb := gt_of 1373 (by decide +kernel) rfl
theorem yw_X9_isSet : YV yX9_isSet cX9_isSet 2 (some .boolean) 1 := ⟨gt_of 1376 (by decide +kernel) rfl, gt_of 1375 (by decide +kernel) rfl, gt_of 69 (by decide +kernel) rfl, gt_of 81 (by decide +kernel) rfl, ⟨by decide +kernel, by decide⟩⟩
theorem ml_X9_268 : Cond.methodLink RX9 268 yX9_countOf ∈ gtb := gt_of 1377 (by decide +kernel) rfl
theorem yw_X9_countOf : YV yX9_countOf cX9_countOf 5 (some .int) 2 := ⟨gt_of 1380 (by decide +kernel) rfl, gt_of 1379 (by decide +kernel) rfl, gt_of 70 (by decide +kernel) rfl, gt_of 81 (by decide +kernel) rfl, ⟨by decide +kernel, by decide⟩⟩
theorem ml_X8_256 : Cond.methodLink RX8 256 yX0_firstTelling ∈ gtb := gt_of 856 (by decide +kernel) rfl
theorem yw_X0_firstTelling : YV yX0_firstTelling cX0_firstTelling 3 (some .int) 1 := ⟨gt_of 859 (by decide +kernel) rfl, gt_of 857 (by decide +kernel) rfl, gt_of 858 (by decide +kernel) rfl, gt_of 75 (by decide +kernel) rfl, ⟨by decide +kernel, by decide⟩⟩
theorem ml_X8_259 : Cond.methodLink RX8 259 yX8_cut ∈ gtb := gt_of 864 (by decide +kernel) rfl
theorem ml_X8_262 : Cond.methodLink RX8 262 yX0_soldPlace ∈ gtb := gt_of 869 (by decide +kernel) rfl
theorem yw_X0_soldPlace : YV yX0_soldPlace cX0_soldPlace 18 (some .int) 1 := ⟨gt_of 872 (by decide +kernel) rfl, gt_of 870 (by decide +kernel) rfl, gt_of 871 (by decide +kernel) rfl, gt_of 75 (by decide +kernel) rfl, ⟨by decide +kernel, by decide⟩⟩
theorem ml_X0_64 : Cond.methodLink RX0 64 yX0_countOf ∈ gtb := gt_of 873 (by decide +kernel) rfl
theorem ml_X0_67 : Cond.methodLink RX0 67 yX0_hourSum ∈ gtb := gt_of 874 (by decide +kernel) rfl
theorem yw_X0_hourSum : YV yX0_hourSum cX0_hourSum 4 (some .int) 1 := ⟨gt_of 877 (by decide +kernel) rfl, gt_of 876 (by decide +kernel) rfl, gt_of 29 (by decide +kernel) rfl, gt_of 75 (by decide +kernel) rfl, ⟨by decide +kernel, by decide⟩⟩
theorem fl_X8_265 : FL RX8 265 3 4 .int false false := ⟨RX3, TX3, 5, tyX3, kl_X3, by decide, rfl, rfl, fun _ => gt_of 211 (by decide +kernel) rfl, fun q => by cases q⟩
theorem ml_X8_268 : Cond.methodLink RX8 268 yX3_draw ∈ gtb := gt_of 886 (by decide +kernel) rfl
theorem yw_X3_draw : YV yX3_draw cX3_draw 1 (some .int) 0 := ⟨gt_of 889 (by decide +kernel) rfl, gt_of 887 (by decide +kernel) rfl, gt_of 888 (by decide +kernel) rfl, gt_of 73 (by decide +kernel) rfl, ⟨by decide +kernel, by decide⟩⟩
theorem fl_X3_36 : FL RX3 36 3 4 .int false false := ⟨RX3, TX3, 5, tyX3, kl_X3, by decide, rfl, rfl, fun _ => gt_of 210 (by decide +kernel) rfl, fun q => by cases q⟩
theorem wc_X3_122 : Cond.constant RX3 122 1103515245 ∈ gtb := gt_of 890 (by decide +kernel) rfl
theorem ml_X8_271 : Cond.methodLink RX8 271 yX8_rest ∈ gtb := gt_of 891 (by decide +kernel) rfl
theorem wc_X9_271 : Cond.constant RX9 271 1103515245 ∈ gtb := gt_of 1405 (by decide +kernel) rfl
theorem ml_X8_274 : Cond.methodLink RX8 274 yX8_isSpot ∈ gtb := gt_of 896 (by decide +kernel) rfl
theorem yw_X8_isSpot : YS yX8_isSpot cX8_isSpot 1 (some .boolean) 1 := ⟨gt_of 898 (by decide +kernel) rfl, gt_of 897 (by decide +kernel) rfl, gt_of 72 (by decide +kernel) rfl, ⟨by decide +kernel, by decide⟩⟩
theorem fl_X8_277 : FL RX8 277 3 3 (.array .int) true false := ⟨RX3, TX3, 5, tyX3, kl_X3, by decide, rfl, rfl, fun _ => gt_of 209 (by decide +kernel) rfl, fun q => by cases q⟩
theorem wc_X8_281 : Cond.constant RX8 281 (-1000003) ∈ gtb := gt_of 904 (by decide +kernel) rfl
theorem wc_X8_280 : Cond.constant RX8 280 (-1000006) ∈ gtb := gt_of 903 (by decide +kernel) rfl
theorem ml_X9_273 : Cond.methodLink RX9 273 yX9_above ∈ gtb := gt_of 1415 (by decide +kernel) rfl
theorem yw_X9_above : YS yX9_above cX9_above 1 (some .int) 1 := ⟨gt_of 1417 (by decide +kernel) rfl, gt_of 1416 (by decide +kernel) rfl, gt_of 81 (by decide +kernel) rfl, ⟨by decide +kernel, by decide⟩⟩
theorem wc_X9_276 : Cond.constant RX9 276 (-1000003) ∈ gtb := gt_of 1418 (by decide +kernel) rfl
theorem wc_X9_272 : Cond.constant RX9 272 (-1000006) ∈ gtb := gt_of 1414 (by decide +kernel) rfl
theorem ml_X8_282 : Cond.methodLink RX8 282 yX8_isSheet ∈ gtb := gt_of 909 (by decide +kernel) rfl
theorem yw_X8_isSheet : YS yX8_isSheet cX8_isSheet 1 (some .boolean) 1 := ⟨gt_of 911 (by decide +kernel) rfl, gt_of 910 (by decide +kernel) rfl, gt_of 72 (by decide +kernel) rfl, ⟨by decide +kernel, by decide⟩⟩
theorem fl_X8_33 : FL RX8 33 8 5 (.array (.object "AwakeBoard$Sheet")) true false := ⟨RX8, TX8, 11, tyX8, kl_X8, by decide, rfl, rfl, fun _ => gt_of 309 (by decide +kernel) rfl, fun q => by cases q⟩
theorem ml_X8_286 : Cond.methodLink RX8 286 yX4_begin ∈ gtb := gt_of 913 (by decide +kernel) rfl
theorem yw_X4_begin : YV yX4_begin cX4_begin 4 none 2 := ⟨gt_of 916 (by decide +kernel) rfl, gt_of 914 (by decide +kernel) rfl, gt_of 915 (by decide +kernel) rfl, gt_of 77 (by decide +kernel) rfl, ⟨by decide +kernel, by decide⟩⟩
theorem fl_X4_15 : FL RX4 15 4 0 .int false false := ⟨RX4, TX4, 3, tyX4, kl_X4, by decide, rfl, rfl, fun _ => gt_of 230 (by decide +kernel) rfl, fun q => by cases q⟩
theorem fl_X4_19 : FL RX4 19 4 1 .int false false := ⟨RX4, TX4, 3, tyX4, kl_X4, by decide, rfl, rfl, fun _ => gt_of 232 (by decide +kernel) rfl, fun q => by cases q⟩
theorem fl_X4_9 : FL RX4 9 4 2 (.array .int) true false := ⟨RX4, TX4, 3, tyX4, kl_X4, by decide, rfl, rfl, fun _ => gt_of 234 (by decide +kernel) rfl, fun q => by cases q⟩
theorem fl_X8_290 : FL RX8 290 4 1 .int false false := ⟨RX4, TX4, 3, tyX4, kl_X4, by decide, rfl, rfl, fun _ => gt_of 233 (by decide +kernel) rfl, fun q => by cases q⟩
theorem wc_X8_285 : Cond.constant RX8 285 (-1000007) ∈ gtb := gt_of 912 (by decide +kernel) rfl
theorem ml_X9_277 : Cond.methodLink RX9 277 yX9_isSheet ∈ gtb := gt_of 1423 (by decide +kernel) rfl
theorem yw_X9_isSheet : YS yX9_isSheet cX9_isSheet 1 (some .boolean) 1 := ⟨gt_of 1425 (by decide +kernel) rfl, gt_of 1424 (by decide +kernel) rfl, gt_of 81 (by decide +kernel) rfl, ⟨by decide +kernel, by decide⟩⟩
theorem fl_X9_38 : FL RX9 38 9 18 (.array .int) true false := ⟨RX9, TX9, 21, tyX9, kl_X9, by decide, rfl, rfl, fun _ => gt_of 1010 (by decide +kernel) rfl, fun q => by cases q⟩
theorem fl_X9_41 : FL RX9 41 9 19 (.array .int) true false := ⟨RX9, TX9, 21, tyX9, kl_X9, by decide, rfl, rfl, fun _ => gt_of 1011 (by decide +kernel) rfl, fun q => by cases q⟩
theorem fl_X9_44 : FL RX9 44 9 20 (.array .int) true false := ⟨RX9, TX9, 21, tyX9, kl_X9, by decide, rfl, rfl, fun _ => gt_of 1012 (by decide +kernel) rfl, fun q => by cases q⟩
theorem wc_X9_280 : Cond.constant RX9 280 (-1000007) ∈ gtb := gt_of 1426 (by decide +kernel) rfl
theorem ml_X8_291 : Cond.methodLink RX8 291 yX4_isMissing ∈ gtb := gt_of 921 (by decide +kernel) rfl
theorem yw_X4_isMissing : YV yX4_isMissing cX4_isMissing 1 (some .boolean) 0 := ⟨gt_of 924 (by decide +kernel) rfl, gt_of 922 (by decide +kernel) rfl, gt_of 923 (by decide +kernel) rfl, gt_of 77 (by decide +kernel) rfl, ⟨by decide +kernel, by decide⟩⟩
theorem ml_X8_294 : Cond.methodLink RX8 294 yX4_put ∈ gtb := gt_of 925 (by decide +kernel) rfl
theorem yw_X4_put : YV yX4_put cX4_put 3 none 2 := ⟨gt_of 928 (by decide +kernel) rfl, gt_of 926 (by decide +kernel) rfl, gt_of 927 (by decide +kernel) rfl, gt_of 77 (by decide +kernel) rfl, ⟨by decide +kernel, by decide⟩⟩
theorem fl_X8_297 : FL RX8 297 4 0 .int false false := ⟨RX4, TX4, 3, tyX4, kl_X4, by decide, rfl, rfl, fun _ => gt_of 231 (by decide +kernel) rfl, fun q => by cases q⟩
theorem ml_X8_300 : Cond.methodLink RX8 300 yX4_hasRange ∈ gtb := gt_of 933 (by decide +kernel) rfl
theorem yw_X4_hasRange : YV yX4_hasRange cX4_hasRange 3 (some .boolean) 2 := ⟨gt_of 936 (by decide +kernel) rfl, gt_of 934 (by decide +kernel) rfl, gt_of 935 (by decide +kernel) rfl, gt_of 77 (by decide +kernel) rfl, ⟨by decide +kernel, by decide⟩⟩
theorem ml_X4_22 : Cond.methodLinkNest RX4 22 yX8_isWithin "AwakeBoard" ∈ nst := ns_of 937 (by decide +kernel) rfl
theorem fl_X8_303 : FL RX8 303 4 2 (.array .int) true false := ⟨RX4, TX4, 3, tyX4, kl_X4, by decide, rfl, rfl, fun _ => gt_of 235 (by decide +kernel) rfl, fun q => by cases q⟩
theorem ml_X8_306 : Cond.methodLink RX8 306 arraycopyName ∈ gtb := gt_of 938 (by decide +kernel) rfl
theorem fl_X8_312 : FL RX8 312 0 1 .int false false := ⟨RX0, TX0, 8, tyX0, kl_X0, by decide, rfl, rfl, fun _ => gt_of 145 (by decide +kernel) rfl, fun q => by cases q⟩
theorem fl_X8_16 : FL RX8 16 8 1 (.object "AwakeBoard$Scene") true false := ⟨RX8, TX8, 11, tyX8, kl_X8, by decide, rfl, rfl, fun _ => gt_of 305 (by decide +kernel) rfl, fun q => by cases q⟩
theorem ml_X8_313 : Cond.methodLink RX8 313 yX3_become ∈ gtb := gt_of 951 (by decide +kernel) rfl
theorem yw_X3_become : YV yX3_become cX3_become 2 none 1 := ⟨gt_of 954 (by decide +kernel) rfl, gt_of 952 (by decide +kernel) rfl, gt_of 953 (by decide +kernel) rfl, gt_of 73 (by decide +kernel) rfl, ⟨by decide +kernel, by decide⟩⟩
theorem ml_X3_123 : Cond.methodLink RX3 123 yX1_become ∈ gtb := gt_of 955 (by decide +kernel) rfl
theorem yw_X1_become : YV yX1_become cX1_become 3 none 1 := ⟨gt_of 958 (by decide +kernel) rfl, gt_of 956 (by decide +kernel) rfl, gt_of 957 (by decide +kernel) rfl, gt_of 74 (by decide +kernel) rfl, ⟨by decide +kernel, by decide⟩⟩
theorem fl_X1_43 : FL RX1 43 1 1 .int false false := ⟨RX1, TX1, 4, tyX1, kl_X1, by decide, rfl, rfl, fun _ => gt_of 116 (by decide +kernel) rfl, fun q => by cases q⟩
theorem fl_X1_46 : FL RX1 46 1 2 .int false false := ⟨RX1, TX1, 4, tyX1, kl_X1, by decide, rfl, rfl, fun _ => gt_of 118 (by decide +kernel) rfl, fun q => by cases q⟩
theorem ml_X1_49 : Cond.methodLink RX1 49 arraycopyName ∈ gtb := gt_of 959 (by decide +kernel) rfl
theorem ml_X3_127 : Cond.methodLink RX3 127 yX0_become ∈ gtb := gt_of 960 (by decide +kernel) rfl
theorem yw_X0_become : YV yX0_become cX0_become 2 none 1 := ⟨gt_of 963 (by decide +kernel) rfl, gt_of 961 (by decide +kernel) rfl, gt_of 962 (by decide +kernel) rfl, gt_of 75 (by decide +kernel) rfl, ⟨by decide +kernel, by decide⟩⟩
theorem fl_X0_70 : FL RX0 70 0 2 .int false false := ⟨RX0, TX0, 8, tyX0, kl_X0, by decide, rfl, rfl, fun _ => gt_of 147 (by decide +kernel) rfl, fun q => by cases q⟩
theorem ml_X0_73 : Cond.methodLink RX0 73 arraycopyName ∈ gtb := gt_of 964 (by decide +kernel) rfl
theorem fl_X3_28 : FL RX3 28 3 2 (.object "AwakeBoard$Texts") true false := ⟨RX3, TX3, 5, tyX3, kl_X3, by decide, rfl, rfl, fun _ => gt_of 206 (by decide +kernel) rfl, fun q => by cases q⟩
theorem ml_X3_130 : Cond.methodLink RX3 130 yX6_become ∈ gtb := gt_of 965 (by decide +kernel) rfl
theorem yw_X6_become : YV yX6_become cX6_become 3 none 1 := ⟨gt_of 968 (by decide +kernel) rfl, gt_of 966 (by decide +kernel) rfl, gt_of 967 (by decide +kernel) rfl, gt_of 76 (by decide +kernel) rfl, ⟨by decide +kernel, by decide⟩⟩
theorem fl_X3_32 : FL RX3 32 3 3 (.array .int) true false := ⟨RX3, TX3, 5, tyX3, kl_X3, by decide, rfl, rfl, fun _ => gt_of 208 (by decide +kernel) rfl, fun q => by cases q⟩
theorem ml_X3_133 : Cond.methodLink RX3 133 arraycopyName ∈ gtb := gt_of 969 (by decide +kernel) rfl
theorem fl_X8_19 : FL RX8 19 8 2 .boolean false false := ⟨RX8, TX8, 11, tyX8, kl_X8, by decide, rfl, rfl, fun _ => gt_of 306 (by decide +kernel) rfl, fun q => by cases q⟩
theorem fl_X9_13 : FL RX9 13 9 1 (.array .int) true false := ⟨RX9, TX9, 21, tyX9, kl_X9, by decide, rfl, rfl, fun _ => gt_of 993 (by decide +kernel) rfl, fun q => by cases q⟩
theorem fl_X9_281 : FL RX9 281 9 2 .boolean false false := ⟨RX9, TX9, 21, tyX9, kl_X9, by decide, rfl, rfl, fun _ => gt_of 994 (by decide +kernel) rfl, fun q => by cases q⟩
theorem fl_X8_317 : FL RX8 317 0 2 .int false false := ⟨RX0, TX0, 8, tyX0, kl_X0, by decide, rfl, rfl, fun _ => gt_of 148 (by decide +kernel) rfl, fun q => by cases q⟩
