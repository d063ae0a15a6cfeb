/-! 72: what the constructors make (written by wip/whole/gen_ctor.py) -/
theorem oi_w (own : String) (idx pl : Nat) (h : lw_tbl[pl]? = some (Cond.methodLink own idx objectInit)) : Cond.methodLink own idx objectInit ∈ gtb ∧ Cond.instanceMethod objectInit ∈ gtb ∧ Cond.code objectInit ⟨#[0xb1]⟩ 1 none ∈ gtb := ⟨gt_of pl h rfl, gt_of 96 (by decide +kernel) rfl, gt_of 97 (by decide +kernel) rfl⟩
theorem fo_X0_9 : FO RX0 9 0 3 (.array .int) true := ⟨RX0, TX0, 8, tyX0, kl_X0, by decide, rfl, rfl, rfl, gt_of 149 (by decide +kernel) rfl⟩
theorem fo_X0_15 : FO RX0 15 0 4 (.array .int) true := ⟨RX0, TX0, 8, tyX0, kl_X0, by decide, rfl, rfl, rfl, gt_of 152 (by decide +kernel) rfl⟩
theorem fo_X0_18 : FO RX0 18 0 5 (.array .int) true := ⟨RX0, TX0, 8, tyX0, kl_X0, by decide, rfl, rfl, rfl, gt_of 156 (by decide +kernel) rfl⟩
theorem fo_X0_21 : FO RX0 21 0 6 (.array .int) true := ⟨RX0, TX0, 8, tyX0, kl_X0, by decide, rfl, rfl, rfl, gt_of 160 (by decide +kernel) rfl⟩
theorem fo_X0_24 : FO RX0 24 0 7 (.array .boolean) true := ⟨RX0, TX0, 8, tyX0, kl_X0, by decide, rfl, rfl, rfl, gt_of 163 (by decide +kernel) rfl⟩
def kX0_init : Lst := [(0, .aload_n 0, 1, 1), (1, .invokespecial 3, 3, 4), (4, .aload_n 0, 1, 5), (5, .sipush 200, 3, 8), (8, .newarray .int, 2, 10), (10, .putfield 9, 3, 13), (13, .aload_n 0, 1, 14), (14, .sipush 200, 3, 17), (17, .newarray .int, 2, 19), (19, .putfield 15, 3, 22), (22, .aload_n 0, 1, 23), (23, .sipush 200, 3, 26), (26, .newarray .int, 2, 28), (28, .putfield 18, 3, 31), (31, .aload_n 0, 1, 32), (32, .sipush 200, 3, 35), (35, .newarray .int, 2, 37), (37, .putfield 21, 3, 40), (40, .aload_n 0, 1, 41), (41, .sipush 200, 3, 44), (44, .newarray .boolean, 2, 46), (46, .putfield 24, 3, 49), (49, .return_, 1, 50)]
theorem ckX0_init : ∀ q ∈ kX0_init, Dc cX0_init q := ck_of (by decide +kernel)
theorem yi_X0 : YI yX0_init cX0_init 1 := ⟨gt_of 137 (by decide +kernel) rfl, gt_of 136 (by decide +kernel) rfl, gt_of 75 (by decide +kernel) rfl, rfl, ⟨by decide +kernel, by decide⟩⟩
theorem fo_X1_11 : FO RX1 11 1 3 (.array (.array .int)) true := ⟨RX1, TX1, 4, tyX1, kl_X1, by decide, rfl, rfl, rfl, gt_of 120 (by decide +kernel) rfl⟩
def kX1_init : Lst := [(0, .aload_n 0, 1, 1), (1, .invokespecial 3, 3, 4), (4, .aload_n 0, 1, 5), (5, .bipush 6, 2, 7), (7, .bipush 14, 2, 9), (9, .multianewarray 9 2, 4, 13), (13, .putfield 11, 3, 16), (16, .return_, 1, 17)]
theorem ckX1_init : ∀ q ∈ kX1_init, Dc cX1_init q := ck_of (by decide +kernel)
theorem yi_X1 : YI yX1_init cX1_init 1 := ⟨gt_of 108 (by decide +kernel) rfl, gt_of 107 (by decide +kernel) rfl, gt_of 74 (by decide +kernel) rfl, rfl, ⟨by decide +kernel, by decide⟩⟩
def kX2_init : Lst := [(0, .aload_n 0, 1, 1), (1, .invokespecial 3, 3, 4), (4, .return_, 1, 5)]
theorem ckX2_init : ∀ q ∈ kX2_init, Dc cX2_init q := ck_of (by decide +kernel)
theorem yi_X2 : YI yX2_init cX2_init 1 := ⟨gt_of 258 (by decide +kernel) rfl, gt_of 257 (by decide +kernel) rfl, gt_of 79 (by decide +kernel) rfl, rfl, ⟨by decide +kernel, by decide⟩⟩
theorem nw_X3_9 : NW RX3 9 1 4 [.int 0, .int 0, .int 0, .null] := ⟨RX1, TX1, tyX1, kl_X1, gt_of 104 (by decide +kernel) rfl, gt_of 105 (by decide +kernel) rfl, gt_of 74 (by decide +kernel) rfl, by decide +kernel⟩
theorem lk_X3_11 : LkC RX3 11 yX1_init := Or.inr ⟨_, ns_of 106 (by decide +kernel) rfl⟩
theorem fo_X3_12 : FO RX3 12 3 0 (.object "AwakeBoard$Names") true := ⟨RX3, TX3, 5, tyX3, kl_X3, by decide, rfl, rfl, rfl, gt_of 202 (by decide +kernel) rfl⟩
theorem nw_X3_18 : NW RX3 18 0 8 [.int 0, .int 0, .int 0, .null, .null, .null, .null, .null] := ⟨RX0, TX0, tyX0, kl_X0, gt_of 133 (by decide +kernel) rfl, gt_of 134 (by decide +kernel) rfl, gt_of 75 (by decide +kernel) rfl, by decide +kernel⟩
theorem lk_X3_20 : LkC RX3 20 yX0_init := Or.inr ⟨_, ns_of 135 (by decide +kernel) rfl⟩
theorem fo_X3_21 : FO RX3 21 3 1 (.object "AwakeBoard$Board") true := ⟨RX3, TX3, 5, tyX3, kl_X3, by decide, rfl, rfl, rfl, gt_of 204 (by decide +kernel) rfl⟩
theorem nw_X3_25 : NW RX3 25 6 3 [.int 0, .null, .null] := ⟨RX6, TX6, tyX6, kl_X6, gt_of 182 (by decide +kernel) rfl, gt_of 183 (by decide +kernel) rfl, gt_of 76 (by decide +kernel) rfl, by decide +kernel⟩
theorem lk_X3_27 : LkC RX3 27 yX6_init := Or.inr ⟨_, ns_of 184 (by decide +kernel) rfl⟩
theorem fo_X3_28 : FO RX3 28 3 2 (.object "AwakeBoard$Texts") true := ⟨RX3, TX3, 5, tyX3, kl_X3, by decide, rfl, rfl, rfl, gt_of 206 (by decide +kernel) rfl⟩
theorem fo_X3_32 : FO RX3 32 3 3 (.array .int) true := ⟨RX3, TX3, 5, tyX3, kl_X3, by decide, rfl, rfl, rfl, gt_of 208 (by decide +kernel) rfl⟩
theorem fo_X3_36 : FO RX3 36 3 4 .int false := ⟨RX3, TX3, 5, tyX3, kl_X3, by decide, rfl, rfl, rfl, gt_of 210 (by decide +kernel) rfl⟩
def kX3_init : Lst := [(0, .aload_n 0, 1, 1), (1, .invokespecial 3, 3, 4), (4, .aload_n 0, 1, 5), (5, .new 9, 3, 8), (8, .dup, 1, 9), (9, .invokespecial 11, 3, 12), (12, .putfield 12, 3, 15), (15, .aload_n 0, 1, 16), (16, .new 18, 3, 19), (19, .dup, 1, 20), (20, .invokespecial 20, 3, 23), (23, .putfield 21, 3, 26), (26, .aload_n 0, 1, 27), (27, .new 25, 3, 30), (30, .dup, 1, 31), (31, .invokespecial 27, 3, 34), (34, .putfield 28, 3, 37), (37, .aload_n 0, 1, 38), (38, .bipush 10, 2, 40), (40, .newarray .int, 2, 42), (42, .putfield 32, 3, 45), (45, .aload_n 0, 1, 46), (46, .iconst 1, 1, 47), (47, .putfield 36, 3, 50), (50, .iconst 0, 1, 51), (51, .istore_n 1, 1, 52), (52, .iload_n 1, 1, 53), (53, .bipush 10, 2, 55), (55, .if_icmp .ge 16, 3, 58), (58, .aload_n 0, 1, 59), (59, .getfield 32, 3, 62), (62, .iload_n 1, 1, 63), (63, .iconst (-1), 1, 64), (64, .iastore, 1, 65), (65, .iinc 1 1, 3, 68), (68, .goto (-16), 3, 71), (71, .return_, 1, 72)]
theorem ckX3_init : ∀ q ∈ kX3_init, Dc cX3_init q := ck_of (by decide +kernel)
theorem yi_X3 : YI yX3_init cX3_init 2 := ⟨gt_of 102 (by decide +kernel) rfl, gt_of 101 (by decide +kernel) rfl, gt_of 73 (by decide +kernel) rfl, rfl, ⟨by decide +kernel, by decide⟩⟩
theorem fo_X4_9 : FO RX4 9 4 2 (.array .int) true := ⟨RX4, TX4, 3, tyX4, kl_X4, by decide, rfl, rfl, rfl, gt_of 234 (by decide +kernel) rfl⟩
def kX4_init : Lst := [(0, .aload_n 0, 1, 1), (1, .invokespecial 3, 3, 4), (4, .aload_n 0, 1, 5), (5, .bipush 40, 2, 7), (7, .newarray .int, 2, 9), (9, .putfield 9, 3, 12), (12, .return_, 1, 13)]
theorem ckX4_init : ∀ q ∈ kX4_init, Dc cX4_init q := ck_of (by decide +kernel)
theorem yi_X4 : YI yX4_init cX4_init 1 := ⟨gt_of 228 (by decide +kernel) rfl, gt_of 227 (by decide +kernel) rfl, gt_of 77 (by decide +kernel) rfl, rfl, ⟨by decide +kernel, by decide⟩⟩
theorem fo_X5_9 : FO RX5 9 5 0 (.array .int) true := ⟨RX5, TX5, 1, tyX5, kl_X5, by decide, rfl, rfl, rfl, gt_of 249 (by decide +kernel) rfl⟩
def kX5_init : Lst := [(0, .aload_n 0, 1, 1), (1, .invokespecial 3, 3, 4), (4, .aload_n 0, 1, 5), (5, .bipush 8, 2, 7), (7, .newarray .int, 2, 9), (9, .putfield 9, 3, 12), (12, .return_, 1, 13)]
theorem ckX5_init : ∀ q ∈ kX5_init, Dc cX5_init q := ck_of (by decide +kernel)
theorem yi_X5 : YI yX5_init cX5_init 1 := ⟨gt_of 247 (by decide +kernel) rfl, gt_of 246 (by decide +kernel) rfl, gt_of 78 (by decide +kernel) rfl, rfl, ⟨by decide +kernel, by decide⟩⟩
theorem fo_X6_11 : FO RX6 11 6 1 (.array (.array .int)) true := ⟨RX6, TX6, 3, tyX6, kl_X6, by decide, rfl, rfl, rfl, gt_of 191 (by decide +kernel) rfl⟩
theorem fo_X6_16 : FO RX6 16 6 2 (.array .int) true := ⟨RX6, TX6, 3, tyX6, kl_X6, by decide, rfl, rfl, rfl, gt_of 193 (by decide +kernel) rfl⟩
def kX6_init : Lst := [(0, .aload_n 0, 1, 1), (1, .invokespecial 3, 3, 4), (4, .aload_n 0, 1, 5), (5, .bipush 6, 2, 7), (7, .bipush 80, 2, 9), (9, .multianewarray 9 2, 4, 13), (13, .putfield 11, 3, 16), (16, .aload_n 0, 1, 17), (17, .bipush 6, 2, 19), (19, .newarray .int, 2, 21), (21, .putfield 16, 3, 24), (24, .return_, 1, 25)]
theorem ckX6_init : ∀ q ∈ kX6_init, Dc cX6_init q := ck_of (by decide +kernel)
theorem yi_X6 : YI yX6_init cX6_init 1 := ⟨gt_of 186 (by decide +kernel) rfl, gt_of 185 (by decide +kernel) rfl, gt_of 76 (by decide +kernel) rfl, rfl, ⟨by decide +kernel, by decide⟩⟩
theorem fo_X7_9 : FO RX7 9 7 1 (.array .int) true := ⟨RX7, TX7, 3, tyX7, kl_X7, by decide, rfl, rfl, rfl, gt_of 294 (by decide +kernel) rfl⟩
theorem fo_X7_17 : FO RX7 17 7 2 (.array (.array .int)) true := ⟨RX7, TX7, 3, tyX7, kl_X7, by decide, rfl, rfl, rfl, gt_of 296 (by decide +kernel) rfl⟩
def kX7_init : Lst := [(0, .aload_n 0, 1, 1), (1, .invokespecial 3, 3, 4), (4, .aload_n 0, 1, 5), (5, .bipush 14, 2, 7), (7, .newarray .int, 2, 9), (9, .putfield 9, 3, 12), (12, .aload_n 0, 1, 13), (13, .bipush 14, 2, 15), (15, .bipush 14, 2, 17), (17, .multianewarray 15 2, 4, 21), (21, .putfield 17, 3, 24), (24, .return_, 1, 25)]
theorem ckX7_init : ∀ q ∈ kX7_init, Dc cX7_init q := ck_of (by decide +kernel)
theorem yi_X7 : YI yX7_init cX7_init 1 := ⟨gt_of 290 (by decide +kernel) rfl, gt_of 289 (by decide +kernel) rfl, gt_of 80 (by decide +kernel) rfl, rfl, ⟨by decide +kernel, by decide⟩⟩
theorem nw_X8_9 : NW RX8 9 3 5 [.null, .null, .null, .null, .int 0] := ⟨RX3, TX3, tyX3, kl_X3, gt_of 98 (by decide +kernel) rfl, gt_of 99 (by decide +kernel) rfl, gt_of 73 (by decide +kernel) rfl, by decide +kernel⟩
theorem lk_X8_11 : LkC RX8 11 yX3_init := Or.inl (gt_of 100 (by decide +kernel) rfl)
theorem fo_X8_12 : FO RX8 12 8 0 (.object "AwakeBoard$Scene") true := ⟨RX8, TX8, 11, tyX8, kl_X8, by decide, rfl, rfl, rfl, gt_of 304 (by decide +kernel) rfl⟩
theorem fo_X8_16 : FO RX8 16 8 1 (.object "AwakeBoard$Scene") true := ⟨RX8, TX8, 11, tyX8, kl_X8, by decide, rfl, rfl, rfl, gt_of 305 (by decide +kernel) rfl⟩
theorem fo_X8_19 : FO RX8 19 8 2 .boolean false := ⟨RX8, TX8, 11, tyX8, kl_X8, by decide, rfl, rfl, rfl, gt_of 306 (by decide +kernel) rfl⟩
theorem fo_X8_23 : FO RX8 23 8 3 (.array .int) true := ⟨RX8, TX8, 11, tyX8, kl_X8, by decide, rfl, rfl, rfl, gt_of 307 (by decide +kernel) rfl⟩
theorem fo_X8_27 : FO RX8 27 8 4 .int false := ⟨RX8, TX8, 11, tyX8, kl_X8, by decide, rfl, rfl, rfl, gt_of 308 (by decide +kernel) rfl⟩
theorem fo_X8_33 : FO RX8 33 8 5 (.array (.object "AwakeBoard$Sheet")) true := ⟨RX8, TX8, 11, tyX8, kl_X8, by decide, rfl, rfl, rfl, gt_of 309 (by decide +kernel) rfl⟩
theorem nw_X8_31 : NW RX8 31 4 3 [.int 0, .int 0, .null] := ⟨RX4, TX4, tyX4, kl_X4, gt_of 223 (by decide +kernel) rfl, gt_of 225 (by decide +kernel) rfl, gt_of 77 (by decide +kernel) rfl, by decide +kernel⟩
theorem lk_X8_37 : LkC RX8 37 yX4_init := Or.inr ⟨_, ns_of 226 (by decide +kernel) rfl⟩
theorem fo_X8_38 : FO RX8 38 8 6 (.array .int) true := ⟨RX8, TX8, 11, tyX8, kl_X8, by decide, rfl, rfl, rfl, gt_of 310 (by decide +kernel) rfl⟩
theorem nw_X8_41 : NW RX8 41 5 1 [.null] := ⟨RX5, TX5, tyX5, kl_X5, gt_of 243 (by decide +kernel) rfl, gt_of 244 (by decide +kernel) rfl, gt_of 78 (by decide +kernel) rfl, by decide +kernel⟩
theorem lk_X8_43 : LkC RX8 43 yX5_init := Or.inr ⟨_, ns_of 245 (by decide +kernel) rfl⟩
theorem fo_X8_44 : FO RX8 44 8 7 (.object "AwakeBoard$Signs") true := ⟨RX8, TX8, 11, tyX8, kl_X8, by decide, rfl, rfl, rfl, gt_of 311 (by decide +kernel) rfl⟩
theorem nw_X8_48 : NW RX8 48 2 8 [.null, .int 0, .null, .int 0, .int 0, .int 0, .int 0, .int 0] := ⟨RX2, TX2, tyX2, kl_X2, gt_of 254 (by decide +kernel) rfl, gt_of 255 (by decide +kernel) rfl, gt_of 79 (by decide +kernel) rfl, by decide +kernel⟩
theorem lk_X8_50 : LkC RX8 50 yX2_init := Or.inr ⟨_, ns_of 256 (by decide +kernel) rfl⟩
theorem fo_X8_51 : FO RX8 51 8 8 (.object "AwakeBoard$Reader") true := ⟨RX8, TX8, 11, tyX8, kl_X8, by decide, rfl, rfl, rfl, gt_of 312 (by decide +kernel) rfl⟩
theorem nw_X8_55 : NW RX8 55 7 3 [.int 0, .null, .null] := ⟨RX7, TX7, tyX7, kl_X7, gt_of 286 (by decide +kernel) rfl, gt_of 287 (by decide +kernel) rfl, gt_of 80 (by decide +kernel) rfl, by decide +kernel⟩
theorem lk_X8_57 : LkC RX8 57 yX7_init := Or.inr ⟨_, ns_of 288 (by decide +kernel) rfl⟩
theorem fo_X8_58 : FO RX8 58 8 9 (.object "AwakeBoard$Ties") true := ⟨RX8, TX8, 11, tyX8, kl_X8, by decide, rfl, rfl, rfl, gt_of 313 (by decide +kernel) rfl⟩
theorem fo_X8_62 : FO RX8 62 8 10 (.array .int) true := ⟨RX8, TX8, 11, tyX8, kl_X8, by decide, rfl, rfl, rfl, gt_of 314 (by decide +kernel) rfl⟩
def kX8_init : Lst := [(0, .aload_n 0, 1, 1), (1, .invokespecial 3, 3, 4), (4, .aload_n 0, 1, 5), (5, .new 9, 3, 8), (8, .dup, 1, 9), (9, .invokespecial 11, 3, 12), (12, .putfield 12, 3, 15), (15, .aload_n 0, 1, 16), (16, .new 9, 3, 19), (19, .dup, 1, 20), (20, .invokespecial 11, 3, 23), (23, .putfield 16, 3, 26), (26, .aload_n 0, 1, 27), (27, .iconst 0, 1, 28), (28, .putfield 19, 3, 31), (31, .aload_n 0, 1, 32), (32, .bipush 80, 2, 34), (34, .newarray .int, 2, 36), (36, .putfield 23, 3, 39), (39, .aload_n 0, 1, 40), (40, .iconst 0, 1, 41), (41, .putfield 27, 3, 44), (44, .aload_n 0, 1, 45), (45, .iconst 4, 1, 46), (46, .anewarray 31, 3, 49), (49, .putfield 33, 3, 52), (52, .iconst 0, 1, 53), (53, .istore_n 1, 1, 54), (54, .iload_n 1, 1, 55), (55, .iconst 4, 1, 56), (56, .if_icmp .ge 22, 3, 59), (59, .aload_n 0, 1, 60), (60, .getfield 33, 3, 63), (63, .iload_n 1, 1, 64), (64, .new 31, 3, 67), (67, .dup, 1, 68), (68, .invokespecial 37, 3, 71), (71, .aastore, 1, 72), (72, .iinc 1 1, 3, 75), (75, .goto (-21), 3, 78), (78, .aload_n 0, 1, 79), (79, .bipush 7, 2, 81), (81, .newarray .int, 2, 83), (83, .putfield 38, 3, 86), (86, .aload_n 0, 1, 87), (87, .new 41, 3, 90), (90, .dup, 1, 91), (91, .invokespecial 43, 3, 94), (94, .putfield 44, 3, 97), (97, .aload_n 0, 1, 98), (98, .new 48, 3, 101), (101, .dup, 1, 102), (102, .invokespecial 50, 3, 105), (105, .putfield 51, 3, 108), (108, .aload_n 0, 1, 109), (109, .new 55, 3, 112), (112, .dup, 1, 113), (113, .invokespecial 57, 3, 116), (116, .putfield 58, 3, 119), (119, .aload_n 0, 1, 120), (120, .bipush 14, 2, 122), (122, .newarray .int, 2, 124), (124, .putfield 62, 3, 127), (127, .return_, 1, 128)]
theorem ckX8_init : ∀ q ∈ kX8_init, Dc cX8_init q := ck_of (by decide +kernel)
theorem yi_X8 : YI yX8_init cX8_init 2 := ⟨gt_of 94 (by decide +kernel) rfl, gt_of 93 (by decide +kernel) rfl, gt_of 72 (by decide +kernel) rfl, rfl, ⟨by decide +kernel, by decide⟩⟩
theorem fo_X9_9 : FO RX9 9 9 0 (.array .int) true := ⟨RX9, TX9, 21, tyX9, kl_X9, by decide, rfl, rfl, rfl, gt_of 992 (by decide +kernel) rfl⟩
theorem fo_X9_13 : FO RX9 13 9 1 (.array .int) true := ⟨RX9, TX9, 21, tyX9, kl_X9, by decide, rfl, rfl, rfl, gt_of 993 (by decide +kernel) rfl⟩
theorem fo_X9_16 : FO RX9 16 9 3 (.array .int) true := ⟨RX9, TX9, 21, tyX9, kl_X9, by decide, rfl, rfl, rfl, gt_of 995 (by decide +kernel) rfl⟩
theorem fo_X9_19 : FO RX9 19 9 4 (.array .boolean) true := ⟨RX9, TX9, 21, tyX9, kl_X9, by decide, rfl, rfl, rfl, gt_of 996 (by decide +kernel) rfl⟩
theorem fo_X9_23 : FO RX9 23 9 5 (.array .int) true := ⟨RX9, TX9, 21, tyX9, kl_X9, by decide, rfl, rfl, rfl, gt_of 997 (by decide +kernel) rfl⟩
theorem fo_X9_26 : FO RX9 26 9 7 (.array .int) true := ⟨RX9, TX9, 21, tyX9, kl_X9, by decide, rfl, rfl, rfl, gt_of 999 (by decide +kernel) rfl⟩
theorem fo_X9_29 : FO RX9 29 9 15 (.array .int) true := ⟨RX9, TX9, 21, tyX9, kl_X9, by decide, rfl, rfl, rfl, gt_of 1007 (by decide +kernel) rfl⟩
theorem fo_X9_32 : FO RX9 32 9 16 (.array .int) true := ⟨RX9, TX9, 21, tyX9, kl_X9, by decide, rfl, rfl, rfl, gt_of 1008 (by decide +kernel) rfl⟩
theorem fo_X9_35 : FO RX9 35 9 17 (.array .int) true := ⟨RX9, TX9, 21, tyX9, kl_X9, by decide, rfl, rfl, rfl, gt_of 1009 (by decide +kernel) rfl⟩
theorem fo_X9_38 : FO RX9 38 9 18 (.array .int) true := ⟨RX9, TX9, 21, tyX9, kl_X9, by decide, rfl, rfl, rfl, gt_of 1010 (by decide +kernel) rfl⟩
theorem fo_X9_41 : FO RX9 41 9 19 (.array .int) true := ⟨RX9, TX9, 21, tyX9, kl_X9, by decide, rfl, rfl, rfl, gt_of 1011 (by decide +kernel) rfl⟩
theorem fo_X9_44 : FO RX9 44 9 20 (.array .int) true := ⟨RX9, TX9, 21, tyX9, kl_X9, by decide, rfl, rfl, rfl, gt_of 1012 (by decide +kernel) rfl⟩
def kX9_init : Lst := [(0, .aload_n 0, 1, 1), (1, .invokespecial 3, 3, 4), (4, .aload_n 0, 1, 5), (5, .sipush 1214, 3, 8), (8, .newarray .int, 2, 10), (10, .putfield 9, 3, 13), (13, .aload_n 0, 1, 14), (14, .sipush 1214, 3, 17), (17, .newarray .int, 2, 19), (19, .putfield 13, 3, 22), (22, .aload_n 0, 1, 23), (23, .bipush 7, 2, 25), (25, .newarray .int, 2, 27), (27, .putfield 16, 3, 30), (30, .aload_n 0, 1, 31), (31, .sipush 200, 3, 34), (34, .newarray .boolean, 2, 36), (36, .putfield 19, 3, 39), (39, .aload_n 0, 1, 40), (40, .bipush 80, 2, 42), (42, .newarray .int, 2, 44), (44, .putfield 23, 3, 47), (47, .aload_n 0, 1, 48), (48, .bipush 80, 2, 50), (50, .newarray .int, 2, 52), (52, .putfield 26, 3, 55), (55, .aload_n 0, 1, 56), (56, .bipush 80, 2, 58), (58, .newarray .int, 2, 60), (60, .putfield 29, 3, 63), (63, .aload_n 0, 1, 64), (64, .bipush 14, 2, 66), (66, .newarray .int, 2, 68), (68, .putfield 32, 3, 71), (71, .aload_n 0, 1, 72), (72, .bipush 14, 2, 74), (74, .newarray .int, 2, 76), (76, .putfield 35, 3, 79), (79, .aload_n 0, 1, 80), (80, .iconst 4, 1, 81), (81, .newarray .int, 2, 83), (83, .putfield 38, 3, 86), (86, .aload_n 0, 1, 87), (87, .iconst 4, 1, 88), (88, .newarray .int, 2, 90), (90, .putfield 41, 3, 93), (93, .aload_n 0, 1, 94), (94, .sipush 160, 3, 97), (97, .newarray .int, 2, 99), (99, .putfield 44, 3, 102), (102, .aload_n 0, 1, 103), (103, .getfield 9, 3, 106), (106, .iconst 5, 1, 107), (107, .iconst 1, 1, 108), (108, .iastore, 1, 109), (109, .iconst 0, 1, 110), (110, .istore_n 1, 1, 111), (111, .iload_n 1, 1, 112), (112, .bipush 10, 2, 114), (114, .if_icmp .ge 20, 3, 117), (117, .aload_n 0, 1, 118), (118, .getfield 9, 3, 121), (121, .sipush 1204, 3, 124), (124, .iload_n 1, 1, 125), (125, .iadd, 1, 126), (126, .iconst (-1), 1, 127), (127, .iastore, 1, 128), (128, .iinc 1 1, 3, 131), (131, .goto (-20), 3, 134), (134, .return_, 1, 135)]
theorem ckX9_init : ∀ q ∈ kX9_init, Dc cX9_init q := ck_of (by decide +kernel)
theorem yi_X9 : YI yX9_init cX9_init 2 := ⟨gt_of 990 (by decide +kernel) rfl, gt_of 989 (by decide +kernel) rfl, gt_of 81 (by decide +kernel) rfl, rfl, ⟨by decide +kernel, by decide⟩⟩
-- worlds
abbrev arI (dA : Nat → ClassId) (n : Nat) : va_E := .inl (dA 0, n, .inl (fun _ => 0))
abbrev arZ (dA : Nat → ClassId) (n : Nat) : va_E := .inl (dA 1, n, .inl (fun _ => 0))
abbrev mW (dA : Nat → ClassId) (q : Nat) (f : Nat → Nat) (n k : Nat) : va_W := (q, .inl (dA 2, n, .inr (.inr (.inr (.inr (fun i => some (f i))))))) :: (List.range n).map (fun i => (f i, arI dA k))
def spF : Nat → Int32 := upd (upd (upd (upd (upd (upd (upd (upd (upd (upd (fun _ => 0) (Int32.toNatClampNeg 0) (-1)) (Int32.toNatClampNeg 1) (-1)) (Int32.toNatClampNeg 2) (-1)) (Int32.toNatClampNeg 3) (-1)) (Int32.toNatClampNeg 4) (-1)) (Int32.toNatClampNeg 5) (-1)) (Int32.toNatClampNeg 6) (-1)) (Int32.toNatClampNeg 7) (-1)) (Int32.toNatClampNeg 8) (-1)) (Int32.toNatClampNeg 9) (-1)
def mdF : Nat → Int32 := upd (upd (upd (upd (upd (upd (upd (upd (upd (upd (upd (fun _ => 0) (Int32.toNatClampNeg 5) 1) (Int32.toNatClampNeg (1204 + 0)) (-1)) (Int32.toNatClampNeg (1204 + 1)) (-1)) (Int32.toNatClampNeg (1204 + 2)) (-1)) (Int32.toNatClampNeg (1204 + 3)) (-1)) (Int32.toNatClampNeg (1204 + 4)) (-1)) (Int32.toNatClampNeg (1204 + 5)) (-1)) (Int32.toNatClampNeg (1204 + 6)) (-1)) (Int32.toNatClampNeg (1204 + 7)) (-1)) (Int32.toNatClampNeg (1204 + 8)) (-1)) (Int32.toNatClampNeg (1204 + 9)) (-1)
abbrev nmW (dA : Nat → ClassId) (h0 q : Nat) (f : Nat → Nat) : va_W := (h0, .inr (1, [.int 0, .int 0, .int 0, .ref q])) :: mW dA q f 6 14
abbrev bdW (dA : Nat → ClassId) (h0 a b c d e : Nat) : va_W := [(h0, .inr (0, [.int 0, .int 0, .int 0, .ref a, .ref b, .ref c, .ref d, .ref e])), (a, arI dA 200), (b, arI dA 200), (c, arI dA 200), (d, arI dA 200), (e, arZ dA 200)]
abbrev txW (dA : Nat → ClassId) (h0 q : Nat) (f : Nat → Nat) (z : Nat) : va_W := (h0, .inr (6, [.int 0, .ref q, .ref z])) :: (mW dA q f 6 80 ++ [(z, arI dA 6)])
abbrev tiW (dA : Nat → ClassId) (h0 a q : Nat) (f : Nat → Nat) : va_W := [(h0, .inr (7, [.int 0, .ref a, .ref q])), (a, arI dA 14)] ++ mW dA q f 14 14
abbrev scW (dA : Nat → ClassId) (h0 n nq : Nat) (nf : Nat → Nat) (b ba bb bc bd be t tq : Nat) (tf : Nat → Nat) (tz p : Nat) : va_W := (h0, .inr (3, [.ref n, .ref b, .ref t, .ref p, .int 1])) :: (nmW dA n nq nf ++ (bdW dA b ba bb bc bd be ++ (txW dA t tq tf tz ++ [(p, .inl (dA 0, 10, .inl spF))])))
abbrev moW (dA : Nat → ClassId) (h0 a b c d e f g h i j k l : Nat) : va_W := [(h0, .inr (9, [.ref a, .ref b, .int 0, .ref c, .ref d, .ref e, .int 0, .ref f, .int 0, .int 0, .int 0, .int 0, .int 0, .int 0, .int 0, .ref g, .ref h, .ref i, .ref j, .ref k, .ref l])), (a, .inl (dA 0, 1214, .inl mdF)), (b, arI dA 1214), (c, arI dA 7), (d, arZ dA 200), (e, arI dA 80), (f, arI dA 80), (g, arI dA 80), (h, arI dA 14), (i, arI dA 14), (j, arI dA 4), (k, arI dA 4), (l, arI dA 160)]
set_option maxRecDepth 100000 in
set_option maxHeartbeats 4000000 in
theorem okX0_init (d : Nat) : OkC yX0_init cX0_init 1 (d + 1) 0 [.int 0, .int 0, .int 0, .null, .null, .null, .null, .null] 5 1000 (fun dA h0 w => ∃ a b c d e, w = bdW dA h0 a b c d e) := by
  refine OkC_of (lst := kX0_init) (own := RX0) ⟨by decide, rfl, rfl⟩ ckX0_init (by decide) (fun dA h0 => ?_)
  change Nv kX0_init RX0 1 (d + 0 + 1) dA 0 [some (.ref h0)] [] [(h0, .inr (0, [.int 0, .int 0, .int 0, .null, .null, .null, .null, .null]))] 5 1000 _
  refine n_aload_n 0 rfl rfl ?_
  refine n_obj 1 rfl (oi_w _ _ 138 (by decide +kernel)) (Nat.le_of_ble_eq_true rfl) ?_
  refine n_aload_n 2 rfl rfl ?_
  refine n_sipush 200 3 rfl (by decide) ?_
  refine n_newI (mc := 4) (ms := 800) 200 4 rfl (by decide) (fun q8_0 => ?_)
  refine n_put 0 5 rfl fo_X0_9 rfl ⟨rfl, rfl⟩ (by decide) ?_
  refine n_aload_n 6 rfl rfl ?_
  refine n_sipush 200 7 rfl (by decide) ?_
  refine n_newI (mc := 3) (ms := 600) 200 8 rfl (by decide) (fun q17_1 => ?_)
  refine n_put 0 9 rfl fo_X0_15 rfl ⟨rfl, rfl⟩ (by decide) ?_
  refine n_aload_n 10 rfl rfl ?_
  refine n_sipush 200 11 rfl (by decide) ?_
  refine n_newI (mc := 2) (ms := 400) 200 12 rfl (by decide) (fun q26_2 => ?_)
  refine n_put 0 13 rfl fo_X0_18 rfl ⟨rfl, rfl⟩ (by decide) ?_
  refine n_aload_n 14 rfl rfl ?_
  refine n_sipush 200 15 rfl (by decide) ?_
  refine n_newI (mc := 1) (ms := 200) 200 16 rfl (by decide) (fun q35_3 => ?_)
  refine n_put 0 17 rfl fo_X0_21 rfl ⟨rfl, rfl⟩ (by decide) ?_
  refine n_aload_n 18 rfl rfl ?_
  refine n_sipush 200 19 rfl (by decide) ?_
  refine n_newZ (mc := 0) (ms := 0) 200 20 rfl (by decide) (fun q44_4 => ?_)
  refine n_put 0 21 rfl fo_X0_24 rfl ⟨rfl, rfl⟩ (by decide) ?_
  exact n_ret 22 rfl ⟨q8_0, q17_1, q26_2, q35_3, q44_4, rfl⟩
set_option maxRecDepth 100000 in
set_option maxHeartbeats 4000000 in
theorem okX1_init (d : Nat) : OkC yX1_init cX1_init 1 (d + 1) 1 [.int 0, .int 0, .int 0, .null] 7 90 (fun dA h0 w => ∃ q f, w = nmW dA h0 q f) := by
  refine OkC_of (lst := kX1_init) (own := RX1) ⟨by decide, rfl, rfl⟩ ckX1_init (by decide) (fun dA h0 => ?_)
  change Nv kX1_init RX1 1 (d + 0 + 1) dA 0 [some (.ref h0)] [] [(h0, .inr (1, [.int 0, .int 0, .int 0, .null]))] 7 90 _
  refine n_aload_n 0 rfl rfl ?_
  refine n_obj 1 rfl (oi_w _ _ 109 (by decide +kernel)) (Nat.le_of_ble_eq_true rfl) ?_
  refine n_aload_n 2 rfl rfl ?_
  refine n_bipush 6 3 rfl (by decide) ?_
  refine n_bipush 14 4 rfl (by decide) ?_
  refine n_mnew (mc := 0) (ms := 0) 6 14 5 rfl (gt_of 110 (by decide +kernel) rfl) rfl rfl (by decide) (fun q9_0 f9_0 => ?_)
  refine n_put 0 6 rfl fo_X1_11 rfl ⟨rfl, rfl⟩ (by decide) ?_
  exact n_ret 7 rfl ⟨q9_0, f9_0, rfl⟩
set_option maxRecDepth 100000 in
set_option maxHeartbeats 4000000 in
theorem okX2_init (d : Nat) : OkC yX2_init cX2_init 1 (d + 1) 2 [.null, .int 0, .null, .int 0, .int 0, .int 0, .int 0, .int 0] 0 0 (fun dA h0 w => w = [(h0, .inr (2, [.null, .int 0, .null, .int 0, .int 0, .int 0, .int 0, .int 0]))]) := by
  refine OkC_of (lst := kX2_init) (own := RX2) ⟨by decide, rfl, rfl⟩ ckX2_init (by decide) (fun dA h0 => ?_)
  change Nv kX2_init RX2 1 (d + 0 + 1) dA 0 [some (.ref h0)] [] [(h0, .inr (2, [.null, .int 0, .null, .int 0, .int 0, .int 0, .int 0, .int 0]))] 0 0 _
  refine n_aload_n 0 rfl rfl ?_
  refine n_obj 1 rfl (oi_w _ _ 259 (by decide +kernel)) (Nat.le_of_ble_eq_true rfl) ?_
  exact n_ret 2 rfl rfl
set_option maxRecDepth 100000 in
set_option maxHeartbeats 4000000 in
theorem okX4_init (d : Nat) : OkC yX4_init cX4_init 1 (d + 1) 4 [.int 0, .int 0, .null] 1 40 (fun dA h0 w => ∃ a, w = [(h0, .inr (4, [.int 0, .int 0, .ref a])), (a, arI dA 40)]) := by
  refine OkC_of (lst := kX4_init) (own := RX4) ⟨by decide, rfl, rfl⟩ ckX4_init (by decide) (fun dA h0 => ?_)
  change Nv kX4_init RX4 1 (d + 0 + 1) dA 0 [some (.ref h0)] [] [(h0, .inr (4, [.int 0, .int 0, .null]))] 1 40 _
  refine n_aload_n 0 rfl rfl ?_
  refine n_obj 1 rfl (oi_w _ _ 229 (by decide +kernel)) (Nat.le_of_ble_eq_true rfl) ?_
  refine n_aload_n 2 rfl rfl ?_
  refine n_bipush 40 3 rfl (by decide) ?_
  refine n_newI (mc := 0) (ms := 0) 40 4 rfl (by decide) (fun q7_0 => ?_)
  refine n_put 0 5 rfl fo_X4_9 rfl ⟨rfl, rfl⟩ (by decide) ?_
  exact n_ret 6 rfl ⟨q7_0, rfl⟩
set_option maxRecDepth 100000 in
set_option maxHeartbeats 4000000 in
theorem okX5_init (d : Nat) : OkC yX5_init cX5_init 1 (d + 1) 5 [.null] 1 8 (fun dA h0 w => ∃ a, w = [(h0, .inr (5, [.ref a])), (a, arI dA 8)]) := by
  refine OkC_of (lst := kX5_init) (own := RX5) ⟨by decide, rfl, rfl⟩ ckX5_init (by decide) (fun dA h0 => ?_)
  change Nv kX5_init RX5 1 (d + 0 + 1) dA 0 [some (.ref h0)] [] [(h0, .inr (5, [.null]))] 1 8 _
  refine n_aload_n 0 rfl rfl ?_
  refine n_obj 1 rfl (oi_w _ _ 248 (by decide +kernel)) (Nat.le_of_ble_eq_true rfl) ?_
  refine n_aload_n 2 rfl rfl ?_
  refine n_bipush 8 3 rfl (by decide) ?_
  refine n_newI (mc := 0) (ms := 0) 8 4 rfl (by decide) (fun q7_0 => ?_)
  refine n_put 0 5 rfl fo_X5_9 rfl ⟨rfl, rfl⟩ (by decide) ?_
  exact n_ret 6 rfl ⟨q7_0, rfl⟩
set_option maxRecDepth 100000 in
set_option maxHeartbeats 4000000 in
theorem okX6_init (d : Nat) : OkC yX6_init cX6_init 1 (d + 1) 6 [.int 0, .null, .null] 8 492 (fun dA h0 w => ∃ q f z, w = txW dA h0 q f z) := by
  refine OkC_of (lst := kX6_init) (own := RX6) ⟨by decide, rfl, rfl⟩ ckX6_init (by decide) (fun dA h0 => ?_)
  change Nv kX6_init RX6 1 (d + 0 + 1) dA 0 [some (.ref h0)] [] [(h0, .inr (6, [.int 0, .null, .null]))] 8 492 _
  refine n_aload_n 0 rfl rfl ?_
  refine n_obj 1 rfl (oi_w _ _ 187 (by decide +kernel)) (Nat.le_of_ble_eq_true rfl) ?_
  refine n_aload_n 2 rfl rfl ?_
  refine n_bipush 6 3 rfl (by decide) ?_
  refine n_bipush 80 4 rfl (by decide) ?_
  refine n_mnew (mc := 1) (ms := 6) 6 80 5 rfl (gt_of 188 (by decide +kernel) rfl) rfl rfl (by decide) (fun q9_0 f9_0 => ?_)
  refine n_put 0 6 rfl fo_X6_11 rfl ⟨rfl, rfl⟩ (by decide) ?_
  refine n_aload_n 7 rfl rfl ?_
  refine n_bipush 6 8 rfl (by decide) ?_
  refine n_newI (mc := 0) (ms := 0) 6 9 rfl (by decide) (fun q19_2 => ?_)
  refine n_put 0 10 rfl fo_X6_16 rfl ⟨rfl, rfl⟩ (by decide) ?_
  exact n_ret 11 rfl ⟨q9_0, f9_0, q19_2, rfl⟩
set_option maxRecDepth 100000 in
set_option maxHeartbeats 4000000 in
theorem okX7_init (d : Nat) : OkC yX7_init cX7_init 1 (d + 1) 7 [.int 0, .null, .null] 16 224 (fun dA h0 w => ∃ a q f, w = tiW dA h0 a q f) := by
  refine OkC_of (lst := kX7_init) (own := RX7) ⟨by decide, rfl, rfl⟩ ckX7_init (by decide) (fun dA h0 => ?_)
  change Nv kX7_init RX7 1 (d + 0 + 1) dA 0 [some (.ref h0)] [] [(h0, .inr (7, [.int 0, .null, .null]))] 16 224 _
  refine n_aload_n 0 rfl rfl ?_
  refine n_obj 1 rfl (oi_w _ _ 291 (by decide +kernel)) (Nat.le_of_ble_eq_true rfl) ?_
  refine n_aload_n 2 rfl rfl ?_
  refine n_bipush 14 3 rfl (by decide) ?_
  refine n_newI (mc := 15) (ms := 210) 14 4 rfl (by decide) (fun q7_0 => ?_)
  refine n_put 0 5 rfl fo_X7_9 rfl ⟨rfl, rfl⟩ (by decide) ?_
  refine n_aload_n 6 rfl rfl ?_
  refine n_bipush 14 7 rfl (by decide) ?_
  refine n_bipush 14 8 rfl (by decide) ?_
  refine n_mnew (mc := 0) (ms := 0) 14 14 9 rfl (gt_of 292 (by decide +kernel) rfl) rfl rfl (by decide) (fun q17_1 f17_1 => ?_)
  refine n_put 0 10 rfl fo_X7_17 rfl ⟨rfl, rfl⟩ (by decide) ?_
  exact n_ret 11 rfl ⟨q7_0, q17_1, f17_1, rfl⟩
set_option maxRecDepth 100000 in
set_option maxHeartbeats 4000000 in
theorem okX3_init (d : Nat) : OkC yX3_init cX3_init 2 (d + 2) 3 [.null, .null, .null, .null, .int 0] 24 1607 (fun dA h0 w => ∃ n nq nf b ba bb bc bd be t tq tf tz p, w = scW dA h0 n nq nf b ba bb bc bd be t tq tf tz p) := by
  refine OkC_of (lst := kX3_init) (own := RX3) ⟨by decide, rfl, rfl⟩ ckX3_init (by decide) (fun dA h0 => ?_)
  change Nv kX3_init RX3 2 (d + 1 + 1) dA 0 [some (.ref h0), none] [] [(h0, .inr (3, [.null, .null, .null, .null, .int 0]))] 24 1607 _
  refine n_aload_n 0 rfl rfl ?_
  refine n_obj 1 rfl (oi_w _ _ 103 (by decide +kernel)) (Nat.le_of_ble_eq_true rfl) ?_
  refine n_aload_n 2 rfl rfl ?_
  refine n_new (mc := 23) (ms := 1603) 3 rfl nw_X3_9 (fun q5_0 => ?_)
  refine n_dup 4 rfl ?_
  refine n_call (mc := 16) (ms := 1513) _ 5 rfl lk_X3_11 yi_X1 (okX1_init (d + 0)) rfl (Nat.le_of_ble_eq_true rfl) ?_
  rintro w1 ⟨q_1, f_1, rfl⟩
  refine n_put 0 6 rfl fo_X3_12 rfl ⟨rfl, rfl⟩ (by decide) ?_
  refine n_aload_n 7 rfl rfl ?_
  refine n_new (mc := 15) (ms := 1505) 8 rfl nw_X3_18 (fun q16_3 => ?_)
  refine n_dup 9 rfl ?_
  refine n_call (mc := 10) (ms := 505) _ 10 rfl lk_X3_20 yi_X0 (okX0_init (d + 0)) rfl (Nat.le_of_ble_eq_true rfl) ?_
  rintro w1 ⟨a_4, b_4, c_4, d_4, e_4, rfl⟩
  refine n_put 0 11 rfl fo_X3_21 rfl ⟨rfl, rfl⟩ (by decide) ?_
  refine n_aload_n 12 rfl rfl ?_
  refine n_new (mc := 9) (ms := 502) 13 rfl nw_X3_25 (fun q27_9 => ?_)
  refine n_dup 14 rfl ?_
  refine n_call (mc := 1) (ms := 10) _ 15 rfl lk_X3_27 yi_X6 (okX6_init (d + 0)) rfl (Nat.le_of_ble_eq_true rfl) ?_
  rintro w1 ⟨q_10, f_10, z_10, rfl⟩
  refine n_put 0 16 rfl fo_X3_28 rfl ⟨rfl, rfl⟩ (by decide) ?_
  refine n_aload_n 17 rfl rfl ?_
  refine n_bipush 10 18 rfl (by decide) ?_
  refine n_newI (mc := 0) (ms := 0) 10 19 rfl (by decide) (fun q40_13 => ?_)
  refine n_put 0 20 rfl fo_X3_32 rfl ⟨rfl, rfl⟩ (by decide) ?_
  refine n_aload_n 21 rfl rfl ?_
  refine n_iconst 1 22 rfl (by decide) ?_
  refine n_put 0 23 rfl fo_X3_36 rfl ⟨rfl, rfl⟩ (by decide) ?_
  refine n_iconst 0 24 rfl (by decide) ?_
  refine n_istore_n [some (.ref h0), some (.int 0)] 25 rfl (by decide) rfl ?_
  refine n_iload_n 26 rfl rfl ?_
  refine n_bipush 10 27 rfl (by decide) ?_
  refine n_ge_F 28 71 rfl (by decide) (by decide) ?_
  refine n_aload_n 29 rfl rfl ?_
  refine n_get 0 30 rfl fo_X3_32 rfl rfl ?_
  refine n_iload_n 31 rfl rfl ?_
  refine n_iconst (-1) 32 rfl (by decide) ?_
  refine n_iast 24 33 rfl rfl (by decide) ?_
  refine n_iinc 1 [some (.ref h0), some (.int 1)] 34 rfl (by decide) rfl (by decide) rfl ?_
  refine n_goto 35 52 rfl (by decide) ?_
  refine n_iload_n 26 rfl rfl ?_
  refine n_bipush 10 27 rfl (by decide) ?_
  refine n_ge_F 28 71 rfl (by decide) (by decide) ?_
  refine n_aload_n 29 rfl rfl ?_
  refine n_get 0 30 rfl fo_X3_32 rfl rfl ?_
  refine n_iload_n 31 rfl rfl ?_
  refine n_iconst (-1) 32 rfl (by decide) ?_
  refine n_iast 24 33 rfl rfl (by decide) ?_
  refine n_iinc 2 [some (.ref h0), some (.int 2)] 34 rfl (by decide) rfl (by decide) rfl ?_
  refine n_goto 35 52 rfl (by decide) ?_
  refine n_iload_n 26 rfl rfl ?_
  refine n_bipush 10 27 rfl (by decide) ?_
  refine n_ge_F 28 71 rfl (by decide) (by decide) ?_
  refine n_aload_n 29 rfl rfl ?_
  refine n_get 0 30 rfl fo_X3_32 rfl rfl ?_
  refine n_iload_n 31 rfl rfl ?_
  refine n_iconst (-1) 32 rfl (by decide) ?_
  refine n_iast 24 33 rfl rfl (by decide) ?_
  refine n_iinc 3 [some (.ref h0), some (.int 3)] 34 rfl (by decide) rfl (by decide) rfl ?_
  refine n_goto 35 52 rfl (by decide) ?_
  refine n_iload_n 26 rfl rfl ?_
  refine n_bipush 10 27 rfl (by decide) ?_
  refine n_ge_F 28 71 rfl (by decide) (by decide) ?_
  refine n_aload_n 29 rfl rfl ?_
  refine n_get 0 30 rfl fo_X3_32 rfl rfl ?_
  refine n_iload_n 31 rfl rfl ?_
  refine n_iconst (-1) 32 rfl (by decide) ?_
  refine n_iast 24 33 rfl rfl (by decide) ?_
  refine n_iinc 4 [some (.ref h0), some (.int 4)] 34 rfl (by decide) rfl (by decide) rfl ?_
  refine n_goto 35 52 rfl (by decide) ?_
  refine n_iload_n 26 rfl rfl ?_
  refine n_bipush 10 27 rfl (by decide) ?_
  refine n_ge_F 28 71 rfl (by decide) (by decide) ?_
  refine n_aload_n 29 rfl rfl ?_
  refine n_get 0 30 rfl fo_X3_32 rfl rfl ?_
  refine n_iload_n 31 rfl rfl ?_
  refine n_iconst (-1) 32 rfl (by decide) ?_
  refine n_iast 24 33 rfl rfl (by decide) ?_
  refine n_iinc 5 [some (.ref h0), some (.int 5)] 34 rfl (by decide) rfl (by decide) rfl ?_
  refine n_goto 35 52 rfl (by decide) ?_
  refine n_iload_n 26 rfl rfl ?_
  refine n_bipush 10 27 rfl (by decide) ?_
  refine n_ge_F 28 71 rfl (by decide) (by decide) ?_
  refine n_aload_n 29 rfl rfl ?_
  refine n_get 0 30 rfl fo_X3_32 rfl rfl ?_
  refine n_iload_n 31 rfl rfl ?_
  refine n_iconst (-1) 32 rfl (by decide) ?_
  refine n_iast 24 33 rfl rfl (by decide) ?_
  refine n_iinc 6 [some (.ref h0), some (.int 6)] 34 rfl (by decide) rfl (by decide) rfl ?_
  refine n_goto 35 52 rfl (by decide) ?_
  refine n_iload_n 26 rfl rfl ?_
  refine n_bipush 10 27 rfl (by decide) ?_
  refine n_ge_F 28 71 rfl (by decide) (by decide) ?_
  refine n_aload_n 29 rfl rfl ?_
  refine n_get 0 30 rfl fo_X3_32 rfl rfl ?_
  refine n_iload_n 31 rfl rfl ?_
  refine n_iconst (-1) 32 rfl (by decide) ?_
  refine n_iast 24 33 rfl rfl (by decide) ?_
  refine n_iinc 7 [some (.ref h0), some (.int 7)] 34 rfl (by decide) rfl (by decide) rfl ?_
  refine n_goto 35 52 rfl (by decide) ?_
  refine n_iload_n 26 rfl rfl ?_
  refine n_bipush 10 27 rfl (by decide) ?_
  refine n_ge_F 28 71 rfl (by decide) (by decide) ?_
  refine n_aload_n 29 rfl rfl ?_
  refine n_get 0 30 rfl fo_X3_32 rfl rfl ?_
  refine n_iload_n 31 rfl rfl ?_
  refine n_iconst (-1) 32 rfl (by decide) ?_
  refine n_iast 24 33 rfl rfl (by decide) ?_
  refine n_iinc 8 [some (.ref h0), some (.int 8)] 34 rfl (by decide) rfl (by decide) rfl ?_
  refine n_goto 35 52 rfl (by decide) ?_
  refine n_iload_n 26 rfl rfl ?_
  refine n_bipush 10 27 rfl (by decide) ?_
  refine n_ge_F 28 71 rfl (by decide) (by decide) ?_
  refine n_aload_n 29 rfl rfl ?_
  refine n_get 0 30 rfl fo_X3_32 rfl rfl ?_
  refine n_iload_n 31 rfl rfl ?_
  refine n_iconst (-1) 32 rfl (by decide) ?_
  refine n_iast 24 33 rfl rfl (by decide) ?_
  refine n_iinc 9 [some (.ref h0), some (.int 9)] 34 rfl (by decide) rfl (by decide) rfl ?_
  refine n_goto 35 52 rfl (by decide) ?_
  refine n_iload_n 26 rfl rfl ?_
  refine n_bipush 10 27 rfl (by decide) ?_
  refine n_ge_F 28 71 rfl (by decide) (by decide) ?_
  refine n_aload_n 29 rfl rfl ?_
  refine n_get 0 30 rfl fo_X3_32 rfl rfl ?_
  refine n_iload_n 31 rfl rfl ?_
  refine n_iconst (-1) 32 rfl (by decide) ?_
  refine n_iast 24 33 rfl rfl (by decide) ?_
  refine n_iinc 10 [some (.ref h0), some (.int 10)] 34 rfl (by decide) rfl (by decide) rfl ?_
  refine n_goto 35 52 rfl (by decide) ?_
  refine n_iload_n 26 rfl rfl ?_
  refine n_bipush 10 27 rfl (by decide) ?_
  refine n_ge_T 28 71 rfl (by decide) (by decide) ?_
  exact n_ret 36 rfl ⟨q5_0, q_1, f_1, q16_3, a_4, b_4, c_4, d_4, e_4, q27_9, q_10, f_10, z_10, q40_13, rfl⟩
set_option maxRecDepth 100000 in
set_option maxHeartbeats 4000000 in
theorem okX9_init (d : Nat) : OkC yX9_init cX9_init 2 (d + 1) 9 [.null, .null, .int 0, .null, .null, .null, .int 0, .null, .int 0, .int 0, .int 0, .int 0, .int 0, .int 0, .int 0, .null, .null, .null, .null, .null, .null] 12 3071 (fun dA h0 w => ∃ a b c d e f g h i j k l, w = moW dA h0 a b c d e f g h i j k l) := by
  refine OkC_of (lst := kX9_init) (own := RX9) ⟨by decide, rfl, rfl⟩ ckX9_init (by decide) (fun dA h0 => ?_)
  change Nv kX9_init RX9 2 (d + 0 + 1) dA 0 [some (.ref h0), none] [] [(h0, .inr (9, [.null, .null, .int 0, .null, .null, .null, .int 0, .null, .int 0, .int 0, .int 0, .int 0, .int 0, .int 0, .int 0, .null, .null, .null, .null, .null, .null]))] 12 3071 _
  refine n_aload_n 0 rfl rfl ?_
  refine n_obj 1 rfl (oi_w _ _ 991 (by decide +kernel)) (Nat.le_of_ble_eq_true rfl) ?_
  refine n_aload_n 2 rfl rfl ?_
  refine n_sipush 1214 3 rfl (by decide) ?_
  refine n_newI (mc := 11) (ms := 1857) 1214 4 rfl (by decide) (fun q8_0 => ?_)
  refine n_put 0 5 rfl fo_X9_9 rfl ⟨rfl, rfl⟩ (by decide) ?_
  refine n_aload_n 6 rfl rfl ?_
  refine n_sipush 1214 7 rfl (by decide) ?_
  refine n_newI (mc := 10) (ms := 643) 1214 8 rfl (by decide) (fun q17_1 => ?_)
  refine n_put 0 9 rfl fo_X9_13 rfl ⟨rfl, rfl⟩ (by decide) ?_
  refine n_aload_n 10 rfl rfl ?_
  refine n_bipush 7 11 rfl (by decide) ?_
  refine n_newI (mc := 9) (ms := 636) 7 12 rfl (by decide) (fun q25_2 => ?_)
  refine n_put 0 13 rfl fo_X9_16 rfl ⟨rfl, rfl⟩ (by decide) ?_
  refine n_aload_n 14 rfl rfl ?_
  refine n_sipush 200 15 rfl (by decide) ?_
  refine n_newZ (mc := 8) (ms := 436) 200 16 rfl (by decide) (fun q34_3 => ?_)
  refine n_put 0 17 rfl fo_X9_19 rfl ⟨rfl, rfl⟩ (by decide) ?_
  refine n_aload_n 18 rfl rfl ?_
  refine n_bipush 80 19 rfl (by decide) ?_
  refine n_newI (mc := 7) (ms := 356) 80 20 rfl (by decide) (fun q42_4 => ?_)
  refine n_put 0 21 rfl fo_X9_23 rfl ⟨rfl, rfl⟩ (by decide) ?_
  refine n_aload_n 22 rfl rfl ?_
  refine n_bipush 80 23 rfl (by decide) ?_
  refine n_newI (mc := 6) (ms := 276) 80 24 rfl (by decide) (fun q50_5 => ?_)
  refine n_put 0 25 rfl fo_X9_26 rfl ⟨rfl, rfl⟩ (by decide) ?_
  refine n_aload_n 26 rfl rfl ?_
  refine n_bipush 80 27 rfl (by decide) ?_
  refine n_newI (mc := 5) (ms := 196) 80 28 rfl (by decide) (fun q58_6 => ?_)
  refine n_put 0 29 rfl fo_X9_29 rfl ⟨rfl, rfl⟩ (by decide) ?_
  refine n_aload_n 30 rfl rfl ?_
  refine n_bipush 14 31 rfl (by decide) ?_
  refine n_newI (mc := 4) (ms := 182) 14 32 rfl (by decide) (fun q66_7 => ?_)
  refine n_put 0 33 rfl fo_X9_32 rfl ⟨rfl, rfl⟩ (by decide) ?_
  refine n_aload_n 34 rfl rfl ?_
  refine n_bipush 14 35 rfl (by decide) ?_
  refine n_newI (mc := 3) (ms := 168) 14 36 rfl (by decide) (fun q74_8 => ?_)
  refine n_put 0 37 rfl fo_X9_35 rfl ⟨rfl, rfl⟩ (by decide) ?_
  refine n_aload_n 38 rfl rfl ?_
  refine n_iconst 4 39 rfl (by decide) ?_
  refine n_newI (mc := 2) (ms := 164) 4 40 rfl (by decide) (fun q81_9 => ?_)
  refine n_put 0 41 rfl fo_X9_38 rfl ⟨rfl, rfl⟩ (by decide) ?_
  refine n_aload_n 42 rfl rfl ?_
  refine n_iconst 4 43 rfl (by decide) ?_
  refine n_newI (mc := 1) (ms := 160) 4 44 rfl (by decide) (fun q88_10 => ?_)
  refine n_put 0 45 rfl fo_X9_41 rfl ⟨rfl, rfl⟩ (by decide) ?_
  refine n_aload_n 46 rfl rfl ?_
  refine n_sipush 160 47 rfl (by decide) ?_
  refine n_newI (mc := 0) (ms := 0) 160 48 rfl (by decide) (fun q97_11 => ?_)
  refine n_put 0 49 rfl fo_X9_44 rfl ⟨rfl, rfl⟩ (by decide) ?_
  refine n_aload_n 50 rfl rfl ?_
  refine n_get 0 51 rfl fo_X9_9 rfl rfl ?_
  refine n_iconst 5 52 rfl (by decide) ?_
  refine n_iconst 1 53 rfl (by decide) ?_
  refine n_iast 1 54 rfl rfl (by decide) ?_
  refine n_iconst 0 55 rfl (by decide) ?_
  refine n_istore_n [some (.ref h0), some (.int 0)] 56 rfl (by decide) rfl ?_
  refine n_iload_n 57 rfl rfl ?_
  refine n_bipush 10 58 rfl (by decide) ?_
  refine n_ge_F 59 134 rfl (by decide) (by decide) ?_
  refine n_aload_n 60 rfl rfl ?_
  refine n_get 0 61 rfl fo_X9_9 rfl rfl ?_
  refine n_sipush 1204 62 rfl (by decide) ?_
  refine n_iload_n 63 rfl rfl ?_
  refine n_iadd 64 rfl ?_
  refine n_iconst (-1) 65 rfl (by decide) ?_
  refine n_iast 1 66 rfl rfl (by decide) ?_
  refine n_iinc 1 [some (.ref h0), some (.int 1)] 67 rfl (by decide) rfl (by decide) rfl ?_
  refine n_goto 68 111 rfl (by decide) ?_
  refine n_iload_n 57 rfl rfl ?_
  refine n_bipush 10 58 rfl (by decide) ?_
  refine n_ge_F 59 134 rfl (by decide) (by decide) ?_
  refine n_aload_n 60 rfl rfl ?_
  refine n_get 0 61 rfl fo_X9_9 rfl rfl ?_
  refine n_sipush 1204 62 rfl (by decide) ?_
  refine n_iload_n 63 rfl rfl ?_
  refine n_iadd 64 rfl ?_
  refine n_iconst (-1) 65 rfl (by decide) ?_
  refine n_iast 1 66 rfl rfl (by decide) ?_
  refine n_iinc 2 [some (.ref h0), some (.int 2)] 67 rfl (by decide) rfl (by decide) rfl ?_
  refine n_goto 68 111 rfl (by decide) ?_
  refine n_iload_n 57 rfl rfl ?_
  refine n_bipush 10 58 rfl (by decide) ?_
  refine n_ge_F 59 134 rfl (by decide) (by decide) ?_
  refine n_aload_n 60 rfl rfl ?_
  refine n_get 0 61 rfl fo_X9_9 rfl rfl ?_
  refine n_sipush 1204 62 rfl (by decide) ?_
  refine n_iload_n 63 rfl rfl ?_
  refine n_iadd 64 rfl ?_
  refine n_iconst (-1) 65 rfl (by decide) ?_
  refine n_iast 1 66 rfl rfl (by decide) ?_
  refine n_iinc 3 [some (.ref h0), some (.int 3)] 67 rfl (by decide) rfl (by decide) rfl ?_
  refine n_goto 68 111 rfl (by decide) ?_
  refine n_iload_n 57 rfl rfl ?_
  refine n_bipush 10 58 rfl (by decide) ?_
  refine n_ge_F 59 134 rfl (by decide) (by decide) ?_
  refine n_aload_n 60 rfl rfl ?_
  refine n_get 0 61 rfl fo_X9_9 rfl rfl ?_
  refine n_sipush 1204 62 rfl (by decide) ?_
  refine n_iload_n 63 rfl rfl ?_
  refine n_iadd 64 rfl ?_
  refine n_iconst (-1) 65 rfl (by decide) ?_
  refine n_iast 1 66 rfl rfl (by decide) ?_
  refine n_iinc 4 [some (.ref h0), some (.int 4)] 67 rfl (by decide) rfl (by decide) rfl ?_
  refine n_goto 68 111 rfl (by decide) ?_
  refine n_iload_n 57 rfl rfl ?_
  refine n_bipush 10 58 rfl (by decide) ?_
  refine n_ge_F 59 134 rfl (by decide) (by decide) ?_
  refine n_aload_n 60 rfl rfl ?_
  refine n_get 0 61 rfl fo_X9_9 rfl rfl ?_
  refine n_sipush 1204 62 rfl (by decide) ?_
  refine n_iload_n 63 rfl rfl ?_
  refine n_iadd 64 rfl ?_
  refine n_iconst (-1) 65 rfl (by decide) ?_
  refine n_iast 1 66 rfl rfl (by decide) ?_
  refine n_iinc 5 [some (.ref h0), some (.int 5)] 67 rfl (by decide) rfl (by decide) rfl ?_
  refine n_goto 68 111 rfl (by decide) ?_
  refine n_iload_n 57 rfl rfl ?_
  refine n_bipush 10 58 rfl (by decide) ?_
  refine n_ge_F 59 134 rfl (by decide) (by decide) ?_
  refine n_aload_n 60 rfl rfl ?_
  refine n_get 0 61 rfl fo_X9_9 rfl rfl ?_
  refine n_sipush 1204 62 rfl (by decide) ?_
  refine n_iload_n 63 rfl rfl ?_
  refine n_iadd 64 rfl ?_
  refine n_iconst (-1) 65 rfl (by decide) ?_
  refine n_iast 1 66 rfl rfl (by decide) ?_
  refine n_iinc 6 [some (.ref h0), some (.int 6)] 67 rfl (by decide) rfl (by decide) rfl ?_
  refine n_goto 68 111 rfl (by decide) ?_
  refine n_iload_n 57 rfl rfl ?_
  refine n_bipush 10 58 rfl (by decide) ?_
  refine n_ge_F 59 134 rfl (by decide) (by decide) ?_
  refine n_aload_n 60 rfl rfl ?_
  refine n_get 0 61 rfl fo_X9_9 rfl rfl ?_
  refine n_sipush 1204 62 rfl (by decide) ?_
  refine n_iload_n 63 rfl rfl ?_
  refine n_iadd 64 rfl ?_
  refine n_iconst (-1) 65 rfl (by decide) ?_
  refine n_iast 1 66 rfl rfl (by decide) ?_
  refine n_iinc 7 [some (.ref h0), some (.int 7)] 67 rfl (by decide) rfl (by decide) rfl ?_
  refine n_goto 68 111 rfl (by decide) ?_
  refine n_iload_n 57 rfl rfl ?_
  refine n_bipush 10 58 rfl (by decide) ?_
  refine n_ge_F 59 134 rfl (by decide) (by decide) ?_
  refine n_aload_n 60 rfl rfl ?_
  refine n_get 0 61 rfl fo_X9_9 rfl rfl ?_
  refine n_sipush 1204 62 rfl (by decide) ?_
  refine n_iload_n 63 rfl rfl ?_
  refine n_iadd 64 rfl ?_
  refine n_iconst (-1) 65 rfl (by decide) ?_
  refine n_iast 1 66 rfl rfl (by decide) ?_
  refine n_iinc 8 [some (.ref h0), some (.int 8)] 67 rfl (by decide) rfl (by decide) rfl ?_
  refine n_goto 68 111 rfl (by decide) ?_
  refine n_iload_n 57 rfl rfl ?_
  refine n_bipush 10 58 rfl (by decide) ?_
  refine n_ge_F 59 134 rfl (by decide) (by decide) ?_
  refine n_aload_n 60 rfl rfl ?_
  refine n_get 0 61 rfl fo_X9_9 rfl rfl ?_
  refine n_sipush 1204 62 rfl (by decide) ?_
  refine n_iload_n 63 rfl rfl ?_
  refine n_iadd 64 rfl ?_
  refine n_iconst (-1) 65 rfl (by decide) ?_
  refine n_iast 1 66 rfl rfl (by decide) ?_
  refine n_iinc 9 [some (.ref h0), some (.int 9)] 67 rfl (by decide) rfl (by decide) rfl ?_
  refine n_goto 68 111 rfl (by decide) ?_
  refine n_iload_n 57 rfl rfl ?_
  refine n_bipush 10 58 rfl (by decide) ?_
  refine n_ge_F 59 134 rfl (by decide) (by decide) ?_
  refine n_aload_n 60 rfl rfl ?_
  refine n_get 0 61 rfl fo_X9_9 rfl rfl ?_
  refine n_sipush 1204 62 rfl (by decide) ?_
  refine n_iload_n 63 rfl rfl ?_
  refine n_iadd 64 rfl ?_
  refine n_iconst (-1) 65 rfl (by decide) ?_
  refine n_iast 1 66 rfl rfl (by decide) ?_
  refine n_iinc 10 [some (.ref h0), some (.int 10)] 67 rfl (by decide) rfl (by decide) rfl ?_
  refine n_goto 68 111 rfl (by decide) ?_
  refine n_iload_n 57 rfl rfl ?_
  refine n_bipush 10 58 rfl (by decide) ?_
  refine n_ge_T 59 134 rfl (by decide) (by decide) ?_
  exact n_ret 69 rfl ⟨q8_0, q17_1, q25_2, q34_3, q42_4, q50_5, q58_6, q66_7, q74_8, q81_9, q88_10, q97_11, rfl⟩
-- AwakeBoard: its world, by the names in which it was made
def abP (dA : Nat → ClassId) (h0 : Nat) (w : va_W) : Prop := ∃ (q5_0 : Nat) (n_1 : Nat) (nq_1 : Nat) (nf_1 : Nat → Nat) (b_1 : Nat) (ba_1 : Nat) (bb_1 : Nat) (bc_1 : Nat) (bd_1 : Nat) (be_1 : Nat) (t_1 : Nat) (tq_1 : Nat) (tf_1 : Nat → Nat) (tz_1 : Nat) (p_1 : Nat) (q16_15 : Nat) (n_16 : Nat) (nq_16 : Nat) (nf_16 : Nat → Nat) (b_16 : Nat) (ba_16 : Nat) (bb_16 : Nat) (bc_16 : Nat) (bd_16 : Nat) (be_16 : Nat) (t_16 : Nat) (tq_16 : Nat) (tf_16 : Nat → Nat) (tz_16 : Nat) (p_16 : Nat) (q34_30 : Nat) (q46_31 : Nat) (q64_32 : Nat) (a_33 : Nat) (q64_34 : Nat) (a_35 : Nat) (q64_36 : Nat) (a_37 : Nat) (q64_38 : Nat) (a_39 : Nat) (q81_40 : Nat) (q87_41 : Nat) (a_42 : Nat) (q98_43 : Nat) (q109_44 : Nat) (a_45 : Nat) (q_45 : Nat) (f_45 : Nat → Nat) (q122_48 : Nat), w = (h0, .inr (8, [.ref q5_0, .ref q16_15, .int 0, .ref q34_30, .int 0, .ref q46_31, .ref q81_40, .ref q87_41, .ref q98_43, .ref q109_44, .ref q122_48])) :: (scW dA q5_0 n_1 nq_1 nf_1 b_1 ba_1 bb_1 bc_1 bd_1 be_1 t_1 tq_1 tf_1 tz_1 p_1 ++ (scW dA q16_15 n_16 nq_16 nf_16 b_16 ba_16 bb_16 bc_16 bd_16 be_16 t_16 tq_16 tf_16 tz_16 p_16 ++ ([(q34_30, arI dA 80), (q46_31, .inl (dA 3, 4, .inr (.inr (.inr (.inr (va_up (va_up (va_up (va_up (fun _ => none) (Int32.toNatClampNeg 0) (some q64_32)) (Int32.toNatClampNeg 1) (some q64_34)) (Int32.toNatClampNeg 2) (some q64_36)) (Int32.toNatClampNeg 3) (some q64_38))))))), (q64_32, .inr (4, [.int 0, .int 0, .ref a_33])), (a_33, arI dA 40), (q64_34, .inr (4, [.int 0, .int 0, .ref a_35])), (a_35, arI dA 40), (q64_36, .inr (4, [.int 0, .int 0, .ref a_37])), (a_37, arI dA 40), (q64_38, .inr (4, [.int 0, .int 0, .ref a_39])), (a_39, arI dA 40), (q81_40, arI dA 7), (q87_41, .inr (5, [.ref a_42])), (a_42, arI dA 8), (q98_43, .inr (2, [.null, .int 0, .null, .int 0, .int 0, .int 0, .int 0, .int 0]))] ++ (tiW dA q109_44 a_45 q_45 f_45 ++ [(q122_48, arI dA 14)]))))
set_option maxRecDepth 100000 in
set_option maxHeartbeats 4000000 in
theorem okX8_init (d : Nat) : OkC yX8_init cX8_init 2 (d + 3) 8 [.null, .null, .int 0, .null, .int 0, .null, .null, .null, .null, .null, .null] 82 3745 abP := by
  refine OkC_of (lst := kX8_init) (own := RX8) ⟨by decide, rfl, rfl⟩ ckX8_init (by decide) (fun dA h0 => ?_)
  change Nv kX8_init RX8 2 (d + 2 + 1) dA 0 [some (.ref h0), none] [] [(h0, .inr (8, [.null, .null, .int 0, .null, .int 0, .null, .null, .null, .null, .null, .null]))] 82 3745 _
  refine n_aload_n 0 rfl rfl ?_
  refine n_obj 1 rfl (oi_w _ _ 95 (by decide +kernel)) (Nat.le_of_ble_eq_true rfl) ?_
  refine n_aload_n 2 rfl rfl ?_
  refine n_new (mc := 81) (ms := 3740) 3 rfl nw_X8_9 (fun q5_0 => ?_)
  refine n_dup 4 rfl ?_
  refine n_call (mc := 57) (ms := 2133) _ 5 rfl lk_X8_11 yi_X3 (okX3_init (d + 0)) rfl (Nat.le_of_ble_eq_true rfl) ?_
  rintro w1 ⟨n_1, nq_1, nf_1, b_1, ba_1, bb_1, bc_1, bd_1, be_1, t_1, tq_1, tf_1, tz_1, p_1, rfl⟩
  refine n_put 0 6 rfl fo_X8_12 rfl ⟨rfl, rfl⟩ (by decide) ?_
  refine n_aload_n 7 rfl rfl ?_
  refine n_new (mc := 56) (ms := 2128) 8 rfl nw_X8_9 (fun q16_15 => ?_)
  refine n_dup 9 rfl ?_
  refine n_call (mc := 32) (ms := 521) _ 10 rfl lk_X8_11 yi_X3 (okX3_init (d + 0)) rfl (Nat.le_of_ble_eq_true rfl) ?_
  rintro w1 ⟨n_16, nq_16, nf_16, b_16, ba_16, bb_16, bc_16, bd_16, be_16, t_16, tq_16, tf_16, tz_16, p_16, rfl⟩
  refine n_put 0 11 rfl fo_X8_16 rfl ⟨rfl, rfl⟩ (by decide) ?_
  refine n_aload_n 12 rfl rfl ?_
  refine n_iconst 0 13 rfl (by decide) ?_
  refine n_put 0 14 rfl fo_X8_19 rfl ⟨rfl, rfl⟩ (by decide) ?_
  refine n_aload_n 15 rfl rfl ?_
  refine n_bipush 80 16 rfl (by decide) ?_
  refine n_newI (mc := 31) (ms := 441) 80 17 rfl (by decide) (fun q34_30 => ?_)
  refine n_put 0 18 rfl fo_X8_23 rfl ⟨rfl, rfl⟩ (by decide) ?_
  refine n_aload_n 19 rfl rfl ?_
  refine n_iconst 0 20 rfl (by decide) ?_
  refine n_put 0 21 rfl fo_X8_27 rfl ⟨rfl, rfl⟩ (by decide) ?_
  refine n_aload_n 22 rfl rfl ?_
  refine n_iconst 4 23 rfl (by decide) ?_
  refine n_anew (mc := 30) (ms := 437) 4 24 rfl (by decide) (fun q46_31 => ?_)
  refine n_put 0 25 rfl fo_X8_33 rfl ⟨rfl, rfl⟩ (by decide) ?_
  refine n_iconst 0 26 rfl (by decide) ?_
  refine n_istore_n [some (.ref h0), some (.int 0)] 27 rfl (by decide) rfl ?_
  refine n_iload_n 28 rfl rfl ?_
  refine n_iconst 4 29 rfl (by decide) ?_
  refine n_ge_F 30 78 rfl (by decide) (by decide) ?_
  refine n_aload_n 31 rfl rfl ?_
  refine n_get 0 32 rfl fo_X8_33 rfl rfl ?_
  refine n_iload_n 33 rfl rfl ?_
  refine n_new (mc := 29) (ms := 434) 34 rfl nw_X8_31 (fun q64_32 => ?_)
  refine n_dup 35 rfl ?_
  refine n_call (mc := 28) (ms := 394) _ 36 rfl lk_X8_37 yi_X4 (okX4_init (d + 1)) rfl (Nat.le_of_ble_eq_true rfl) ?_
  rintro w1 ⟨a_33, rfl⟩
  refine n_aast 52 53 37 rfl rfl rfl (by decide) ?_
  refine n_iinc 1 [some (.ref h0), some (.int 1)] 38 rfl (by decide) rfl (by decide) rfl ?_
  refine n_goto 39 54 rfl (by decide) ?_
  refine n_iload_n 28 rfl rfl ?_
  refine n_iconst 4 29 rfl (by decide) ?_
  refine n_ge_F 30 78 rfl (by decide) (by decide) ?_
  refine n_aload_n 31 rfl rfl ?_
  refine n_get 0 32 rfl fo_X8_33 rfl rfl ?_
  refine n_iload_n 33 rfl rfl ?_
  refine n_new (mc := 27) (ms := 391) 34 rfl nw_X8_31 (fun q64_34 => ?_)
  refine n_dup 35 rfl ?_
  refine n_call (mc := 26) (ms := 351) _ 36 rfl lk_X8_37 yi_X4 (okX4_init (d + 1)) rfl (Nat.le_of_ble_eq_true rfl) ?_
  rintro w1 ⟨a_35, rfl⟩
  refine n_aast 52 55 37 rfl rfl rfl (by decide) ?_
  refine n_iinc 2 [some (.ref h0), some (.int 2)] 38 rfl (by decide) rfl (by decide) rfl ?_
  refine n_goto 39 54 rfl (by decide) ?_
  refine n_iload_n 28 rfl rfl ?_
  refine n_iconst 4 29 rfl (by decide) ?_
  refine n_ge_F 30 78 rfl (by decide) (by decide) ?_
  refine n_aload_n 31 rfl rfl ?_
  refine n_get 0 32 rfl fo_X8_33 rfl rfl ?_
  refine n_iload_n 33 rfl rfl ?_
  refine n_new (mc := 25) (ms := 348) 34 rfl nw_X8_31 (fun q64_36 => ?_)
  refine n_dup 35 rfl ?_
  refine n_call (mc := 24) (ms := 308) _ 36 rfl lk_X8_37 yi_X4 (okX4_init (d + 1)) rfl (Nat.le_of_ble_eq_true rfl) ?_
  rintro w1 ⟨a_37, rfl⟩
  refine n_aast 52 57 37 rfl rfl rfl (by decide) ?_
  refine n_iinc 3 [some (.ref h0), some (.int 3)] 38 rfl (by decide) rfl (by decide) rfl ?_
  refine n_goto 39 54 rfl (by decide) ?_
  refine n_iload_n 28 rfl rfl ?_
  refine n_iconst 4 29 rfl (by decide) ?_
  refine n_ge_F 30 78 rfl (by decide) (by decide) ?_
  refine n_aload_n 31 rfl rfl ?_
  refine n_get 0 32 rfl fo_X8_33 rfl rfl ?_
  refine n_iload_n 33 rfl rfl ?_
  refine n_new (mc := 23) (ms := 305) 34 rfl nw_X8_31 (fun q64_38 => ?_)
  refine n_dup 35 rfl ?_
  refine n_call (mc := 22) (ms := 265) _ 36 rfl lk_X8_37 yi_X4 (okX4_init (d + 1)) rfl (Nat.le_of_ble_eq_true rfl) ?_
  rintro w1 ⟨a_39, rfl⟩
  refine n_aast 52 59 37 rfl rfl rfl (by decide) ?_
  refine n_iinc 4 [some (.ref h0), some (.int 4)] 38 rfl (by decide) rfl (by decide) rfl ?_
  refine n_goto 39 54 rfl (by decide) ?_
  refine n_iload_n 28 rfl rfl ?_
  refine n_iconst 4 29 rfl (by decide) ?_
  refine n_ge_T 30 78 rfl (by decide) (by decide) ?_
  refine n_aload_n 40 rfl rfl ?_
  refine n_bipush 7 41 rfl (by decide) ?_
  refine n_newI (mc := 21) (ms := 258) 7 42 rfl (by decide) (fun q81_40 => ?_)
  refine n_put 0 43 rfl fo_X8_38 rfl ⟨rfl, rfl⟩ (by decide) ?_
  refine n_aload_n 44 rfl rfl ?_
  refine n_new (mc := 20) (ms := 257) 45 rfl nw_X8_41 (fun q87_41 => ?_)
  refine n_dup 46 rfl ?_
  refine n_call (mc := 19) (ms := 249) _ 47 rfl lk_X8_43 yi_X5 (okX5_init (d + 1)) rfl (Nat.le_of_ble_eq_true rfl) ?_
  rintro w1 ⟨a_42, rfl⟩
  refine n_put 0 48 rfl fo_X8_44 rfl ⟨rfl, rfl⟩ (by decide) ?_
  refine n_aload_n 49 rfl rfl ?_
  refine n_new (mc := 18) (ms := 241) 50 rfl nw_X8_48 (fun q98_43 => ?_)
  refine n_dup 51 rfl ?_
  refine n_call (mc := 18) (ms := 241) _ 52 rfl lk_X8_50 yi_X2 (okX2_init (d + 1)) rfl (Nat.le_of_ble_eq_true rfl) ?_
  rintro w1 rfl
  refine n_put 0 53 rfl fo_X8_51 rfl ⟨rfl, rfl⟩ (by decide) ?_
  refine n_aload_n 54 rfl rfl ?_
  refine n_new (mc := 17) (ms := 238) 55 rfl nw_X8_55 (fun q109_44 => ?_)
  refine n_dup 56 rfl ?_
  refine n_call (mc := 1) (ms := 14) _ 57 rfl lk_X8_57 yi_X7 (okX7_init (d + 1)) rfl (Nat.le_of_ble_eq_true rfl) ?_
  rintro w1 ⟨a_45, q_45, f_45, rfl⟩
  refine n_put 0 58 rfl fo_X8_58 rfl ⟨rfl, rfl⟩ (by decide) ?_
  refine n_aload_n 59 rfl rfl ?_
  refine n_bipush 14 60 rfl (by decide) ?_
  refine n_newI (mc := 0) (ms := 0) 14 61 rfl (by decide) (fun q122_48 => ?_)
  refine n_put 0 62 rfl fo_X8_62 rfl ⟨rfl, rfl⟩ (by decide) ?_
  exact n_ret 63 rfl ⟨q5_0, n_1, nq_1, nf_1, b_1, ba_1, bb_1, bc_1, bd_1, be_1, t_1, tq_1, tf_1, tz_1, p_1, q16_15, n_16, nq_16, nf_16, b_16, ba_16, bb_16, bc_16, bd_16, be_16, t_16, tq_16, tf_16, tz_16, p_16, q34_30, q46_31, q64_32, a_33, q64_34, a_35, q64_36, a_37, q64_38, a_39, q81_40, q87_41, a_42, q98_43, q109_44, a_45, q_45, f_45, q122_48, rfl⟩
