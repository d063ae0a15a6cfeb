/-! 73: the law's loop (written by wip/whole/gen_law.py) -/
def kLh : Lst := [(16, .iconst 0, 1, 17), (17, .istore_n 3, 1, 18), (18, .iload_n 3, 1, 19), (19, .aload_n 0, 1, 20), (20, .arraylength, 1, 21), (21, .bipush 6, 2, 23), (23, .isub, 1, 24), (24, .if_icmp .gt 1618, 3, 27), (27, .aload_n 0, 1, 28), (28, .iload_n 3, 1, 29), (29, .iaload, 1, 30), (30, .bipush 63, 2, 32), (32, .iand, 1, 33), (33, .tableswitch 1603 0 45 #[199, 232, 265, 308, 357, 370, 403, 436, 459, 492, 525, 548, 581, 604, 637, 650, 663, 696, 739, 792, 825, 858, 881, 924, 977, 1010, 1043, 1076, 1109, 1132, 1155, 1188, 1211, 1234, 1257, 1290, 1323, 1366, 1409, 1472, 1495, 1518, 1531, 1544, 1557, 1580], 199, 232), (1636, .iinc 3 6, 3, 1639), (1639, .goto (-1621), 3, 1642), (1642, .iconst 1, 1, 1643), (1643, .ireturn, 1, 1644)]
theorem ckLh : ∀ q ∈ kLh, Dc code q := ck_of (by decide +kernel)
def kL0 : Lst := [(232, .aload_n 1, 1, 233), (233, .aload_n 0, 1, 234), (234, .iload_n 3, 1, 235), (235, .iconst 1, 1, 236), (236, .iadd, 1, 237), (237, .iaload, 1, 238), (238, .aload_n 0, 1, 239), (239, .iload_n 3, 1, 240), (240, .iconst 2, 1, 241), (241, .iadd, 1, 242), (242, .iaload, 1, 243), (243, .invokevirtual 13, 3, 246), (246, .aload_n 2, 1, 247), (247, .aload_n 0, 1, 248), (248, .iload_n 3, 1, 249), (249, .iconst 1, 1, 250), (250, .iadd, 1, 251), (251, .iaload, 1, 252), (252, .aload_n 0, 1, 253), (253, .iload_n 3, 1, 254), (254, .iconst 2, 1, 255), (255, .iadd, 1, 256), (256, .iaload, 1, 257), (257, .invokevirtual 17, 3, 260), (260, .if_icmp .eq 1376, 3, 263), (263, .iconst 0, 1, 264), (264, .ireturn, 1, 265)]
theorem ckL0 : ∀ q ∈ kL0, Dc code q := ck_of (by decide +kernel)
def kL1 : Lst := [(265, .aload_n 1, 1, 266), (266, .aload_n 0, 1, 267), (267, .iload_n 3, 1, 268), (268, .iconst 1, 1, 269), (269, .iadd, 1, 270), (270, .iaload, 1, 271), (271, .aload_n 0, 1, 272), (272, .iload_n 3, 1, 273), (273, .iconst 2, 1, 274), (274, .iadd, 1, 275), (275, .iaload, 1, 276), (276, .invokevirtual 18, 3, 279), (279, .aload_n 2, 1, 280), (280, .aload_n 0, 1, 281), (281, .iload_n 3, 1, 282), (282, .iconst 1, 1, 283), (283, .iadd, 1, 284), (284, .iaload, 1, 285), (285, .aload_n 0, 1, 286), (286, .iload_n 3, 1, 287), (287, .iconst 2, 1, 288), (288, .iadd, 1, 289), (289, .iaload, 1, 290), (290, .invokevirtual 21, 3, 293), (293, .if_icmp .eq 1343, 3, 296), (296, .iconst 0, 1, 297), (297, .ireturn, 1, 298)]
theorem ckL1 : ∀ q ∈ kL1, Dc code q := ck_of (by decide +kernel)
def kL2 : Lst := [(298, .aload_n 1, 1, 299), (299, .aload_n 0, 1, 300), (300, .iload_n 3, 1, 301), (301, .iconst 1, 1, 302), (302, .iadd, 1, 303), (303, .iaload, 1, 304), (304, .aload_n 0, 1, 305), (305, .iload_n 3, 1, 306), (306, .iconst 2, 1, 307), (307, .iadd, 1, 308), (308, .iaload, 1, 309), (309, .aload_n 0, 1, 310), (310, .iload_n 3, 1, 311), (311, .iconst 3, 1, 312), (312, .iadd, 1, 313), (313, .iaload, 1, 314), (314, .invokevirtual 22, 3, 317), (317, .aload_n 2, 1, 318), (318, .aload_n 0, 1, 319), (319, .iload_n 3, 1, 320), (320, .iconst 1, 1, 321), (321, .iadd, 1, 322), (322, .iaload, 1, 323), (323, .aload_n 0, 1, 324), (324, .iload_n 3, 1, 325), (325, .iconst 2, 1, 326), (326, .iadd, 1, 327), (327, .iaload, 1, 328), (328, .aload_n 0, 1, 329), (329, .iload_n 3, 1, 330), (330, .iconst 3, 1, 331), (331, .iadd, 1, 332), (332, .iaload, 1, 333), (333, .invokevirtual 26, 3, 336), (336, .if_icmp .eq 1300, 3, 339), (339, .iconst 0, 1, 340), (340, .ireturn, 1, 341)]
theorem ckL2 : ∀ q ∈ kL2, Dc code q := ck_of (by decide +kernel)
def kL3 : Lst := [(341, .aload_n 1, 1, 342), (342, .aload_n 0, 1, 343), (343, .iload_n 3, 1, 344), (344, .iconst 1, 1, 345), (345, .iadd, 1, 346), (346, .iaload, 1, 347), (347, .aload_n 0, 1, 348), (348, .iload_n 3, 1, 349), (349, .iconst 2, 1, 350), (350, .iadd, 1, 351), (351, .iaload, 1, 352), (352, .ifCond .eq 7, 3, 355), (355, .iconst 1, 1, 356), (356, .goto 4, 3, 359), (359, .iconst 0, 1, 360), (360, .invokevirtual 27, 3, 363), (363, .aload_n 2, 1, 364), (364, .aload_n 0, 1, 365), (365, .iload_n 3, 1, 366), (366, .iconst 1, 1, 367), (367, .iadd, 1, 368), (368, .iaload, 1, 369), (369, .aload_n 0, 1, 370), (370, .iload_n 3, 1, 371), (371, .iconst 2, 1, 372), (372, .iadd, 1, 373), (373, .iaload, 1, 374), (374, .ifCond .eq 7, 3, 377), (377, .iconst 1, 1, 378), (378, .goto 4, 3, 381), (381, .iconst 0, 1, 382), (382, .invokevirtual 31, 3, 385), (385, .if_icmp .eq 1251, 3, 388), (388, .iconst 0, 1, 389), (389, .ireturn, 1, 390)]
theorem ckL3 : ∀ q ∈ kL3, Dc code q := ck_of (by decide +kernel)
def kL4 : Lst := [(390, .aload_n 1, 1, 391), (391, .invokevirtual 32, 3, 394), (394, .aload_n 2, 1, 395), (395, .invokevirtual 36, 3, 398), (398, .if_icmp .eq 1238, 3, 401), (401, .iconst 0, 1, 402), (402, .ireturn, 1, 403)]
theorem ckL4 : ∀ q ∈ kL4, Dc code q := ck_of (by decide +kernel)
def kL5 : Lst := [(403, .aload_n 1, 1, 404), (404, .aload_n 0, 1, 405), (405, .iload_n 3, 1, 406), (406, .iconst 1, 1, 407), (407, .iadd, 1, 408), (408, .iaload, 1, 409), (409, .aload_n 0, 1, 410), (410, .iload_n 3, 1, 411), (411, .iconst 2, 1, 412), (412, .iadd, 1, 413), (413, .iaload, 1, 414), (414, .invokevirtual 37, 3, 417), (417, .aload_n 2, 1, 418), (418, .aload_n 0, 1, 419), (419, .iload_n 3, 1, 420), (420, .iconst 1, 1, 421), (421, .iadd, 1, 422), (422, .iaload, 1, 423), (423, .aload_n 0, 1, 424), (424, .iload_n 3, 1, 425), (425, .iconst 2, 1, 426), (426, .iadd, 1, 427), (427, .iaload, 1, 428), (428, .invokevirtual 40, 3, 431), (431, .if_icmp .eq 1205, 3, 434), (434, .iconst 0, 1, 435), (435, .ireturn, 1, 436)]
theorem ckL5 : ∀ q ∈ kL5, Dc code q := ck_of (by decide +kernel)
def kL6 : Lst := [(436, .aload_n 1, 1, 437), (437, .aload_n 0, 1, 438), (438, .iload_n 3, 1, 439), (439, .iconst 1, 1, 440), (440, .iadd, 1, 441), (441, .iaload, 1, 442), (442, .aload_n 0, 1, 443), (443, .iload_n 3, 1, 444), (444, .iconst 2, 1, 445), (445, .iadd, 1, 446), (446, .iaload, 1, 447), (447, .invokevirtual 41, 3, 450), (450, .aload_n 2, 1, 451), (451, .aload_n 0, 1, 452), (452, .iload_n 3, 1, 453), (453, .iconst 1, 1, 454), (454, .iadd, 1, 455), (455, .iaload, 1, 456), (456, .aload_n 0, 1, 457), (457, .iload_n 3, 1, 458), (458, .iconst 2, 1, 459), (459, .iadd, 1, 460), (460, .iaload, 1, 461), (461, .invokevirtual 44, 3, 464), (464, .if_icmp .eq 1172, 3, 467), (467, .iconst 0, 1, 468), (468, .ireturn, 1, 469)]
theorem ckL6 : ∀ q ∈ kL6, Dc code q := ck_of (by decide +kernel)
def kL7 : Lst := [(469, .aload_n 1, 1, 470), (470, .aload_n 0, 1, 471), (471, .iload_n 3, 1, 472), (472, .iconst 1, 1, 473), (473, .iadd, 1, 474), (474, .iaload, 1, 475), (475, .invokevirtual 45, 3, 478), (478, .aload_n 2, 1, 479), (479, .aload_n 0, 1, 480), (480, .iload_n 3, 1, 481), (481, .iconst 1, 1, 482), (482, .iadd, 1, 483), (483, .iaload, 1, 484), (484, .invokevirtual 49, 3, 487), (487, .if_icmp .eq 1149, 3, 490), (490, .iconst 0, 1, 491), (491, .ireturn, 1, 492)]
theorem ckL7 : ∀ q ∈ kL7, Dc code q := ck_of (by decide +kernel)
def kL8 : Lst := [(492, .aload_n 1, 1, 493), (493, .aload_n 0, 1, 494), (494, .iload_n 3, 1, 495), (495, .iconst 1, 1, 496), (496, .iadd, 1, 497), (497, .iaload, 1, 498), (498, .aload_n 0, 1, 499), (499, .iload_n 3, 1, 500), (500, .iconst 2, 1, 501), (501, .iadd, 1, 502), (502, .iaload, 1, 503), (503, .invokevirtual 50, 3, 506), (506, .aload_n 2, 1, 507), (507, .aload_n 0, 1, 508), (508, .iload_n 3, 1, 509), (509, .iconst 1, 1, 510), (510, .iadd, 1, 511), (511, .iaload, 1, 512), (512, .aload_n 0, 1, 513), (513, .iload_n 3, 1, 514), (514, .iconst 2, 1, 515), (515, .iadd, 1, 516), (516, .iaload, 1, 517), (517, .invokevirtual 53, 3, 520), (520, .if_icmp .eq 1116, 3, 523), (523, .iconst 0, 1, 524), (524, .ireturn, 1, 525)]
theorem ckL8 : ∀ q ∈ kL8, Dc code q := ck_of (by decide +kernel)
def kL9 : Lst := [(525, .aload_n 1, 1, 526), (526, .aload_n 0, 1, 527), (527, .iload_n 3, 1, 528), (528, .iconst 1, 1, 529), (529, .iadd, 1, 530), (530, .iaload, 1, 531), (531, .aload_n 0, 1, 532), (532, .iload_n 3, 1, 533), (533, .iconst 2, 1, 534), (534, .iadd, 1, 535), (535, .iaload, 1, 536), (536, .invokevirtual 54, 3, 539), (539, .aload_n 2, 1, 540), (540, .aload_n 0, 1, 541), (541, .iload_n 3, 1, 542), (542, .iconst 1, 1, 543), (543, .iadd, 1, 544), (544, .iaload, 1, 545), (545, .aload_n 0, 1, 546), (546, .iload_n 3, 1, 547), (547, .iconst 2, 1, 548), (548, .iadd, 1, 549), (549, .iaload, 1, 550), (550, .invokevirtual 57, 3, 553), (553, .if_icmp .eq 1083, 3, 556), (556, .iconst 0, 1, 557), (557, .ireturn, 1, 558)]
theorem ckL9 : ∀ q ∈ kL9, Dc code q := ck_of (by decide +kernel)
def kL10 : Lst := [(558, .aload_n 1, 1, 559), (559, .aload_n 0, 1, 560), (560, .iload_n 3, 1, 561), (561, .iconst 1, 1, 562), (562, .iadd, 1, 563), (563, .iaload, 1, 564), (564, .invokevirtual 58, 3, 567), (567, .aload_n 2, 1, 568), (568, .aload_n 0, 1, 569), (569, .iload_n 3, 1, 570), (570, .iconst 1, 1, 571), (571, .iadd, 1, 572), (572, .iaload, 1, 573), (573, .invokevirtual 61, 3, 576), (576, .if_icmp .eq 1060, 3, 579), (579, .iconst 0, 1, 580), (580, .ireturn, 1, 581)]
theorem ckL10 : ∀ q ∈ kL10, Dc code q := ck_of (by decide +kernel)
def kL11 : Lst := [(581, .aload_n 1, 1, 582), (582, .aload_n 0, 1, 583), (583, .iload_n 3, 1, 584), (584, .iconst 1, 1, 585), (585, .iadd, 1, 586), (586, .iaload, 1, 587), (587, .aload_n 0, 1, 588), (588, .iload_n 3, 1, 589), (589, .iconst 2, 1, 590), (590, .iadd, 1, 591), (591, .iaload, 1, 592), (592, .invokevirtual 62, 3, 595), (595, .aload_n 2, 1, 596), (596, .aload_n 0, 1, 597), (597, .iload_n 3, 1, 598), (598, .iconst 1, 1, 599), (599, .iadd, 1, 600), (600, .iaload, 1, 601), (601, .aload_n 0, 1, 602), (602, .iload_n 3, 1, 603), (603, .iconst 2, 1, 604), (604, .iadd, 1, 605), (605, .iaload, 1, 606), (606, .invokevirtual 65, 3, 609), (609, .if_icmp .eq 1027, 3, 612), (612, .iconst 0, 1, 613), (613, .ireturn, 1, 614)]
theorem ckL11 : ∀ q ∈ kL11, Dc code q := ck_of (by decide +kernel)
def kL12 : Lst := [(614, .aload_n 1, 1, 615), (615, .aload_n 0, 1, 616), (616, .iload_n 3, 1, 617), (617, .iconst 1, 1, 618), (618, .iadd, 1, 619), (619, .iaload, 1, 620), (620, .invokevirtual 66, 3, 623), (623, .aload_n 2, 1, 624), (624, .aload_n 0, 1, 625), (625, .iload_n 3, 1, 626), (626, .iconst 1, 1, 627), (627, .iadd, 1, 628), (628, .iaload, 1, 629), (629, .invokevirtual 69, 3, 632), (632, .if_icmp .eq 1004, 3, 635), (635, .iconst 0, 1, 636), (636, .ireturn, 1, 637)]
theorem ckL12 : ∀ q ∈ kL12, Dc code q := ck_of (by decide +kernel)
def kL13 : Lst := [(637, .aload_n 1, 1, 638), (638, .aload_n 0, 1, 639), (639, .iload_n 3, 1, 640), (640, .iconst 1, 1, 641), (641, .iadd, 1, 642), (642, .iaload, 1, 643), (643, .aload_n 0, 1, 644), (644, .iload_n 3, 1, 645), (645, .iconst 2, 1, 646), (646, .iadd, 1, 647), (647, .iaload, 1, 648), (648, .invokevirtual 70, 3, 651), (651, .aload_n 2, 1, 652), (652, .aload_n 0, 1, 653), (653, .iload_n 3, 1, 654), (654, .iconst 1, 1, 655), (655, .iadd, 1, 656), (656, .iaload, 1, 657), (657, .aload_n 0, 1, 658), (658, .iload_n 3, 1, 659), (659, .iconst 2, 1, 660), (660, .iadd, 1, 661), (661, .iaload, 1, 662), (662, .invokevirtual 73, 3, 665), (665, .if_icmp .eq 971, 3, 668), (668, .iconst 0, 1, 669), (669, .ireturn, 1, 670)]
theorem ckL13 : ∀ q ∈ kL13, Dc code q := ck_of (by decide +kernel)
def kL14 : Lst := [(670, .aload_n 1, 1, 671), (671, .invokevirtual 74, 3, 674), (674, .aload_n 2, 1, 675), (675, .invokevirtual 77, 3, 678), (678, .if_icmp .eq 958, 3, 681), (681, .iconst 0, 1, 682), (682, .ireturn, 1, 683)]
theorem ckL14 : ∀ q ∈ kL14, Dc code q := ck_of (by decide +kernel)
def kL15 : Lst := [(683, .aload_n 1, 1, 684), (684, .invokevirtual 78, 3, 687), (687, .aload_n 2, 1, 688), (688, .invokevirtual 81, 3, 691), (691, .if_icmp .eq 945, 3, 694), (694, .iconst 0, 1, 695), (695, .ireturn, 1, 696)]
theorem ckL15 : ∀ q ∈ kL15, Dc code q := ck_of (by decide +kernel)
def kL16 : Lst := [(696, .aload_n 1, 1, 697), (697, .aload_n 0, 1, 698), (698, .iload_n 3, 1, 699), (699, .iconst 1, 1, 700), (700, .iadd, 1, 701), (701, .iaload, 1, 702), (702, .aload_n 0, 1, 703), (703, .iload_n 3, 1, 704), (704, .iconst 2, 1, 705), (705, .iadd, 1, 706), (706, .iaload, 1, 707), (707, .invokevirtual 82, 3, 710), (710, .aload_n 2, 1, 711), (711, .aload_n 0, 1, 712), (712, .iload_n 3, 1, 713), (713, .iconst 1, 1, 714), (714, .iadd, 1, 715), (715, .iaload, 1, 716), (716, .aload_n 0, 1, 717), (717, .iload_n 3, 1, 718), (718, .iconst 2, 1, 719), (719, .iadd, 1, 720), (720, .iaload, 1, 721), (721, .invokevirtual 85, 3, 724), (724, .if_icmp .eq 912, 3, 727), (727, .iconst 0, 1, 728), (728, .ireturn, 1, 729)]
theorem ckL16 : ∀ q ∈ kL16, Dc code q := ck_of (by decide +kernel)
def kL17 : Lst := [(729, .aload_n 1, 1, 730), (730, .aload_n 0, 1, 731), (731, .iload_n 3, 1, 732), (732, .iconst 1, 1, 733), (733, .iadd, 1, 734), (734, .iaload, 1, 735), (735, .aload_n 0, 1, 736), (736, .iload_n 3, 1, 737), (737, .iconst 2, 1, 738), (738, .iadd, 1, 739), (739, .iaload, 1, 740), (740, .aload_n 0, 1, 741), (741, .iload_n 3, 1, 742), (742, .iconst 3, 1, 743), (743, .iadd, 1, 744), (744, .iaload, 1, 745), (745, .invokevirtual 86, 3, 748), (748, .aload_n 2, 1, 749), (749, .aload_n 0, 1, 750), (750, .iload_n 3, 1, 751), (751, .iconst 1, 1, 752), (752, .iadd, 1, 753), (753, .iaload, 1, 754), (754, .aload_n 0, 1, 755), (755, .iload_n 3, 1, 756), (756, .iconst 2, 1, 757), (757, .iadd, 1, 758), (758, .iaload, 1, 759), (759, .aload_n 0, 1, 760), (760, .iload_n 3, 1, 761), (761, .iconst 3, 1, 762), (762, .iadd, 1, 763), (763, .iaload, 1, 764), (764, .invokevirtual 89, 3, 767), (767, .if_icmp .eq 869, 3, 770), (770, .iconst 0, 1, 771), (771, .ireturn, 1, 772)]
theorem ckL17 : ∀ q ∈ kL17, Dc code q := ck_of (by decide +kernel)
def kL18 : Lst := [(772, .aload_n 1, 1, 773), (773, .aload_n 0, 1, 774), (774, .iload_n 3, 1, 775), (775, .iconst 1, 1, 776), (776, .iadd, 1, 777), (777, .iaload, 1, 778), (778, .aload_n 0, 1, 779), (779, .iload_n 3, 1, 780), (780, .iconst 2, 1, 781), (781, .iadd, 1, 782), (782, .iaload, 1, 783), (783, .aload_n 0, 1, 784), (784, .iload_n 3, 1, 785), (785, .iconst 3, 1, 786), (786, .iadd, 1, 787), (787, .iaload, 1, 788), (788, .aload_n 0, 1, 789), (789, .iload_n 3, 1, 790), (790, .iconst 4, 1, 791), (791, .iadd, 1, 792), (792, .iaload, 1, 793), (793, .invokevirtual 90, 3, 796), (796, .aload_n 2, 1, 797), (797, .aload_n 0, 1, 798), (798, .iload_n 3, 1, 799), (799, .iconst 1, 1, 800), (800, .iadd, 1, 801), (801, .iaload, 1, 802), (802, .aload_n 0, 1, 803), (803, .iload_n 3, 1, 804), (804, .iconst 2, 1, 805), (805, .iadd, 1, 806), (806, .iaload, 1, 807), (807, .aload_n 0, 1, 808), (808, .iload_n 3, 1, 809), (809, .iconst 3, 1, 810), (810, .iadd, 1, 811), (811, .iaload, 1, 812), (812, .aload_n 0, 1, 813), (813, .iload_n 3, 1, 814), (814, .iconst 4, 1, 815), (815, .iadd, 1, 816), (816, .iaload, 1, 817), (817, .invokevirtual 94, 3, 820), (820, .if_icmp .eq 816, 3, 823), (823, .iconst 0, 1, 824), (824, .ireturn, 1, 825)]
theorem ckL18 : ∀ q ∈ kL18, Dc code q := ck_of (by decide +kernel)
def kL19 : Lst := [(825, .aload_n 1, 1, 826), (826, .aload_n 0, 1, 827), (827, .iload_n 3, 1, 828), (828, .iconst 1, 1, 829), (829, .iadd, 1, 830), (830, .iaload, 1, 831), (831, .aload_n 0, 1, 832), (832, .iload_n 3, 1, 833), (833, .iconst 2, 1, 834), (834, .iadd, 1, 835), (835, .iaload, 1, 836), (836, .invokevirtual 95, 3, 839), (839, .aload_n 2, 1, 840), (840, .aload_n 0, 1, 841), (841, .iload_n 3, 1, 842), (842, .iconst 1, 1, 843), (843, .iadd, 1, 844), (844, .iaload, 1, 845), (845, .aload_n 0, 1, 846), (846, .iload_n 3, 1, 847), (847, .iconst 2, 1, 848), (848, .iadd, 1, 849), (849, .iaload, 1, 850), (850, .invokevirtual 98, 3, 853), (853, .if_icmp .eq 783, 3, 856), (856, .iconst 0, 1, 857), (857, .ireturn, 1, 858)]
theorem ckL19 : ∀ q ∈ kL19, Dc code q := ck_of (by decide +kernel)
def kL20 : Lst := [(858, .aload_n 1, 1, 859), (859, .aload_n 0, 1, 860), (860, .iload_n 3, 1, 861), (861, .iconst 1, 1, 862), (862, .iadd, 1, 863), (863, .iaload, 1, 864), (864, .aload_n 0, 1, 865), (865, .iload_n 3, 1, 866), (866, .iconst 2, 1, 867), (867, .iadd, 1, 868), (868, .iaload, 1, 869), (869, .invokevirtual 99, 3, 872), (872, .aload_n 2, 1, 873), (873, .aload_n 0, 1, 874), (874, .iload_n 3, 1, 875), (875, .iconst 1, 1, 876), (876, .iadd, 1, 877), (877, .iaload, 1, 878), (878, .aload_n 0, 1, 879), (879, .iload_n 3, 1, 880), (880, .iconst 2, 1, 881), (881, .iadd, 1, 882), (882, .iaload, 1, 883), (883, .invokevirtual 102, 3, 886), (886, .if_icmp .eq 750, 3, 889), (889, .iconst 0, 1, 890), (890, .ireturn, 1, 891)]
theorem ckL20 : ∀ q ∈ kL20, Dc code q := ck_of (by decide +kernel)
def kL21 : Lst := [(891, .aload_n 1, 1, 892), (892, .aload_n 0, 1, 893), (893, .iload_n 3, 1, 894), (894, .iconst 1, 1, 895), (895, .iadd, 1, 896), (896, .iaload, 1, 897), (897, .invokevirtual 103, 3, 900), (900, .aload_n 2, 1, 901), (901, .aload_n 0, 1, 902), (902, .iload_n 3, 1, 903), (903, .iconst 1, 1, 904), (904, .iadd, 1, 905), (905, .iaload, 1, 906), (906, .invokevirtual 106, 3, 909), (909, .if_icmp .eq 727, 3, 912), (912, .iconst 0, 1, 913), (913, .ireturn, 1, 914)]
theorem ckL21 : ∀ q ∈ kL21, Dc code q := ck_of (by decide +kernel)
def kL22 : Lst := [(914, .aload_n 1, 1, 915), (915, .aload_n 0, 1, 916), (916, .iload_n 3, 1, 917), (917, .iconst 1, 1, 918), (918, .iadd, 1, 919), (919, .iaload, 1, 920), (920, .aload_n 0, 1, 921), (921, .iload_n 3, 1, 922), (922, .iconst 2, 1, 923), (923, .iadd, 1, 924), (924, .iaload, 1, 925), (925, .aload_n 0, 1, 926), (926, .iload_n 3, 1, 927), (927, .iconst 3, 1, 928), (928, .iadd, 1, 929), (929, .iaload, 1, 930), (930, .invokevirtual 107, 3, 933), (933, .aload_n 2, 1, 934), (934, .aload_n 0, 1, 935), (935, .iload_n 3, 1, 936), (936, .iconst 1, 1, 937), (937, .iadd, 1, 938), (938, .iaload, 1, 939), (939, .aload_n 0, 1, 940), (940, .iload_n 3, 1, 941), (941, .iconst 2, 1, 942), (942, .iadd, 1, 943), (943, .iaload, 1, 944), (944, .aload_n 0, 1, 945), (945, .iload_n 3, 1, 946), (946, .iconst 3, 1, 947), (947, .iadd, 1, 948), (948, .iaload, 1, 949), (949, .invokevirtual 110, 3, 952), (952, .if_icmp .eq 684, 3, 955), (955, .iconst 0, 1, 956), (956, .ireturn, 1, 957)]
theorem ckL22 : ∀ q ∈ kL22, Dc code q := ck_of (by decide +kernel)
def kL23 : Lst := [(957, .aload_n 1, 1, 958), (958, .aload_n 0, 1, 959), (959, .iload_n 3, 1, 960), (960, .iconst 1, 1, 961), (961, .iadd, 1, 962), (962, .iaload, 1, 963), (963, .aload_n 0, 1, 964), (964, .iload_n 3, 1, 965), (965, .iconst 2, 1, 966), (966, .iadd, 1, 967), (967, .iaload, 1, 968), (968, .aload_n 0, 1, 969), (969, .iload_n 3, 1, 970), (970, .iconst 3, 1, 971), (971, .iadd, 1, 972), (972, .iaload, 1, 973), (973, .aload_n 0, 1, 974), (974, .iload_n 3, 1, 975), (975, .iconst 4, 1, 976), (976, .iadd, 1, 977), (977, .iaload, 1, 978), (978, .invokevirtual 111, 3, 981), (981, .aload_n 2, 1, 982), (982, .aload_n 0, 1, 983), (983, .iload_n 3, 1, 984), (984, .iconst 1, 1, 985), (985, .iadd, 1, 986), (986, .iaload, 1, 987), (987, .aload_n 0, 1, 988), (988, .iload_n 3, 1, 989), (989, .iconst 2, 1, 990), (990, .iadd, 1, 991), (991, .iaload, 1, 992), (992, .aload_n 0, 1, 993), (993, .iload_n 3, 1, 994), (994, .iconst 3, 1, 995), (995, .iadd, 1, 996), (996, .iaload, 1, 997), (997, .aload_n 0, 1, 998), (998, .iload_n 3, 1, 999), (999, .iconst 4, 1, 1000), (1000, .iadd, 1, 1001), (1001, .iaload, 1, 1002), (1002, .invokevirtual 114, 3, 1005), (1005, .if_icmp .eq 631, 3, 1008), (1008, .iconst 0, 1, 1009), (1009, .ireturn, 1, 1010)]
theorem ckL23 : ∀ q ∈ kL23, Dc code q := ck_of (by decide +kernel)
def kL24 : Lst := [(1010, .aload_n 1, 1, 1011), (1011, .aload_n 0, 1, 1012), (1012, .iload_n 3, 1, 1013), (1013, .iconst 1, 1, 1014), (1014, .iadd, 1, 1015), (1015, .iaload, 1, 1016), (1016, .aload_n 0, 1, 1017), (1017, .iload_n 3, 1, 1018), (1018, .iconst 2, 1, 1019), (1019, .iadd, 1, 1020), (1020, .iaload, 1, 1021), (1021, .invokevirtual 115, 3, 1024), (1024, .aload_n 2, 1, 1025), (1025, .aload_n 0, 1, 1026), (1026, .iload_n 3, 1, 1027), (1027, .iconst 1, 1, 1028), (1028, .iadd, 1, 1029), (1029, .iaload, 1, 1030), (1030, .aload_n 0, 1, 1031), (1031, .iload_n 3, 1, 1032), (1032, .iconst 2, 1, 1033), (1033, .iadd, 1, 1034), (1034, .iaload, 1, 1035), (1035, .invokevirtual 118, 3, 1038), (1038, .if_icmp .eq 598, 3, 1041), (1041, .iconst 0, 1, 1042), (1042, .ireturn, 1, 1043)]
theorem ckL24 : ∀ q ∈ kL24, Dc code q := ck_of (by decide +kernel)
def kL25 : Lst := [(1043, .aload_n 1, 1, 1044), (1044, .aload_n 0, 1, 1045), (1045, .iload_n 3, 1, 1046), (1046, .iconst 1, 1, 1047), (1047, .iadd, 1, 1048), (1048, .iaload, 1, 1049), (1049, .aload_n 0, 1, 1050), (1050, .iload_n 3, 1, 1051), (1051, .iconst 2, 1, 1052), (1052, .iadd, 1, 1053), (1053, .iaload, 1, 1054), (1054, .invokevirtual 119, 3, 1057), (1057, .aload_n 2, 1, 1058), (1058, .aload_n 0, 1, 1059), (1059, .iload_n 3, 1, 1060), (1060, .iconst 1, 1, 1061), (1061, .iadd, 1, 1062), (1062, .iaload, 1, 1063), (1063, .aload_n 0, 1, 1064), (1064, .iload_n 3, 1, 1065), (1065, .iconst 2, 1, 1066), (1066, .iadd, 1, 1067), (1067, .iaload, 1, 1068), (1068, .invokevirtual 122, 3, 1071), (1071, .if_icmp .eq 565, 3, 1074), (1074, .iconst 0, 1, 1075), (1075, .ireturn, 1, 1076)]
theorem ckL25 : ∀ q ∈ kL25, Dc code q := ck_of (by decide +kernel)
def kL26 : Lst := [(1076, .aload_n 1, 1, 1077), (1077, .aload_n 0, 1, 1078), (1078, .iload_n 3, 1, 1079), (1079, .iconst 1, 1, 1080), (1080, .iadd, 1, 1081), (1081, .iaload, 1, 1082), (1082, .aload_n 0, 1, 1083), (1083, .iload_n 3, 1, 1084), (1084, .iconst 2, 1, 1085), (1085, .iadd, 1, 1086), (1086, .iaload, 1, 1087), (1087, .invokevirtual 123, 3, 1090), (1090, .aload_n 2, 1, 1091), (1091, .aload_n 0, 1, 1092), (1092, .iload_n 3, 1, 1093), (1093, .iconst 1, 1, 1094), (1094, .iadd, 1, 1095), (1095, .iaload, 1, 1096), (1096, .aload_n 0, 1, 1097), (1097, .iload_n 3, 1, 1098), (1098, .iconst 2, 1, 1099), (1099, .iadd, 1, 1100), (1100, .iaload, 1, 1101), (1101, .invokevirtual 126, 3, 1104), (1104, .if_icmp .eq 532, 3, 1107), (1107, .iconst 0, 1, 1108), (1108, .ireturn, 1, 1109)]
theorem ckL26 : ∀ q ∈ kL26, Dc code q := ck_of (by decide +kernel)
def kL27 : Lst := [(1109, .aload_n 1, 1, 1110), (1110, .aload_n 0, 1, 1111), (1111, .iload_n 3, 1, 1112), (1112, .iconst 1, 1, 1113), (1113, .iadd, 1, 1114), (1114, .iaload, 1, 1115), (1115, .aload_n 0, 1, 1116), (1116, .iload_n 3, 1, 1117), (1117, .iconst 2, 1, 1118), (1118, .iadd, 1, 1119), (1119, .iaload, 1, 1120), (1120, .invokevirtual 127, 3, 1123), (1123, .aload_n 2, 1, 1124), (1124, .aload_n 0, 1, 1125), (1125, .iload_n 3, 1, 1126), (1126, .iconst 1, 1, 1127), (1127, .iadd, 1, 1128), (1128, .iaload, 1, 1129), (1129, .aload_n 0, 1, 1130), (1130, .iload_n 3, 1, 1131), (1131, .iconst 2, 1, 1132), (1132, .iadd, 1, 1133), (1133, .iaload, 1, 1134), (1134, .invokevirtual 130, 3, 1137), (1137, .if_icmp .eq 499, 3, 1140), (1140, .iconst 0, 1, 1141), (1141, .ireturn, 1, 1142)]
theorem ckL27 : ∀ q ∈ kL27, Dc code q := ck_of (by decide +kernel)
def kL28 : Lst := [(1142, .aload_n 1, 1, 1143), (1143, .aload_n 0, 1, 1144), (1144, .iload_n 3, 1, 1145), (1145, .iconst 1, 1, 1146), (1146, .iadd, 1, 1147), (1147, .iaload, 1, 1148), (1148, .invokevirtual 131, 3, 1151), (1151, .aload_n 2, 1, 1152), (1152, .aload_n 0, 1, 1153), (1153, .iload_n 3, 1, 1154), (1154, .iconst 1, 1, 1155), (1155, .iadd, 1, 1156), (1156, .iaload, 1, 1157), (1157, .invokevirtual 134, 3, 1160), (1160, .if_icmp .eq 476, 3, 1163), (1163, .iconst 0, 1, 1164), (1164, .ireturn, 1, 1165)]
theorem ckL28 : ∀ q ∈ kL28, Dc code q := ck_of (by decide +kernel)
def kL29 : Lst := [(1165, .aload_n 1, 1, 1166), (1166, .aload_n 0, 1, 1167), (1167, .iload_n 3, 1, 1168), (1168, .iconst 1, 1, 1169), (1169, .iadd, 1, 1170), (1170, .iaload, 1, 1171), (1171, .invokevirtual 135, 3, 1174), (1174, .aload_n 2, 1, 1175), (1175, .aload_n 0, 1, 1176), (1176, .iload_n 3, 1, 1177), (1177, .iconst 1, 1, 1178), (1178, .iadd, 1, 1179), (1179, .iaload, 1, 1180), (1180, .invokevirtual 138, 3, 1183), (1183, .if_icmp .eq 453, 3, 1186), (1186, .iconst 0, 1, 1187), (1187, .ireturn, 1, 1188)]
theorem ckL29 : ∀ q ∈ kL29, Dc code q := ck_of (by decide +kernel)
def kL30 : Lst := [(1188, .aload_n 1, 1, 1189), (1189, .aload_n 0, 1, 1190), (1190, .iload_n 3, 1, 1191), (1191, .iconst 1, 1, 1192), (1192, .iadd, 1, 1193), (1193, .iaload, 1, 1194), (1194, .aload_n 0, 1, 1195), (1195, .iload_n 3, 1, 1196), (1196, .iconst 2, 1, 1197), (1197, .iadd, 1, 1198), (1198, .iaload, 1, 1199), (1199, .invokevirtual 139, 3, 1202), (1202, .aload_n 2, 1, 1203), (1203, .aload_n 0, 1, 1204), (1204, .iload_n 3, 1, 1205), (1205, .iconst 1, 1, 1206), (1206, .iadd, 1, 1207), (1207, .iaload, 1, 1208), (1208, .aload_n 0, 1, 1209), (1209, .iload_n 3, 1, 1210), (1210, .iconst 2, 1, 1211), (1211, .iadd, 1, 1212), (1212, .iaload, 1, 1213), (1213, .invokevirtual 142, 3, 1216), (1216, .if_icmp .eq 420, 3, 1219), (1219, .iconst 0, 1, 1220), (1220, .ireturn, 1, 1221)]
theorem ckL30 : ∀ q ∈ kL30, Dc code q := ck_of (by decide +kernel)
def kL31 : Lst := [(1221, .aload_n 1, 1, 1222), (1222, .aload_n 0, 1, 1223), (1223, .iload_n 3, 1, 1224), (1224, .iconst 1, 1, 1225), (1225, .iadd, 1, 1226), (1226, .iaload, 1, 1227), (1227, .invokevirtual 143, 3, 1230), (1230, .aload_n 2, 1, 1231), (1231, .aload_n 0, 1, 1232), (1232, .iload_n 3, 1, 1233), (1233, .iconst 1, 1, 1234), (1234, .iadd, 1, 1235), (1235, .iaload, 1, 1236), (1236, .invokevirtual 146, 3, 1239), (1239, .if_icmp .eq 397, 3, 1242), (1242, .iconst 0, 1, 1243), (1243, .ireturn, 1, 1244)]
theorem ckL31 : ∀ q ∈ kL31, Dc code q := ck_of (by decide +kernel)
def kL32 : Lst := [(1244, .aload_n 1, 1, 1245), (1245, .aload_n 0, 1, 1246), (1246, .iload_n 3, 1, 1247), (1247, .iconst 1, 1, 1248), (1248, .iadd, 1, 1249), (1249, .iaload, 1, 1250), (1250, .invokevirtual 147, 3, 1253), (1253, .aload_n 2, 1, 1254), (1254, .aload_n 0, 1, 1255), (1255, .iload_n 3, 1, 1256), (1256, .iconst 1, 1, 1257), (1257, .iadd, 1, 1258), (1258, .iaload, 1, 1259), (1259, .invokevirtual 150, 3, 1262), (1262, .if_icmp .eq 374, 3, 1265), (1265, .iconst 0, 1, 1266), (1266, .ireturn, 1, 1267)]
theorem ckL32 : ∀ q ∈ kL32, Dc code q := ck_of (by decide +kernel)
def kL33 : Lst := [(1267, .aload_n 1, 1, 1268), (1268, .aload_n 0, 1, 1269), (1269, .iload_n 3, 1, 1270), (1270, .iconst 1, 1, 1271), (1271, .iadd, 1, 1272), (1272, .iaload, 1, 1273), (1273, .invokevirtual 151, 3, 1276), (1276, .aload_n 2, 1, 1277), (1277, .aload_n 0, 1, 1278), (1278, .iload_n 3, 1, 1279), (1279, .iconst 1, 1, 1280), (1280, .iadd, 1, 1281), (1281, .iaload, 1, 1282), (1282, .invokevirtual 154, 3, 1285), (1285, .if_icmp .eq 351, 3, 1288), (1288, .iconst 0, 1, 1289), (1289, .ireturn, 1, 1290)]
theorem ckL33 : ∀ q ∈ kL33, Dc code q := ck_of (by decide +kernel)
def kL34 : Lst := [(1290, .aload_n 1, 1, 1291), (1291, .aload_n 0, 1, 1292), (1292, .iload_n 3, 1, 1293), (1293, .iconst 1, 1, 1294), (1294, .iadd, 1, 1295), (1295, .iaload, 1, 1296), (1296, .aload_n 0, 1, 1297), (1297, .iload_n 3, 1, 1298), (1298, .iconst 2, 1, 1299), (1299, .iadd, 1, 1300), (1300, .iaload, 1, 1301), (1301, .invokevirtual 155, 3, 1304), (1304, .aload_n 2, 1, 1305), (1305, .aload_n 0, 1, 1306), (1306, .iload_n 3, 1, 1307), (1307, .iconst 1, 1, 1308), (1308, .iadd, 1, 1309), (1309, .iaload, 1, 1310), (1310, .aload_n 0, 1, 1311), (1311, .iload_n 3, 1, 1312), (1312, .iconst 2, 1, 1313), (1313, .iadd, 1, 1314), (1314, .iaload, 1, 1315), (1315, .invokevirtual 158, 3, 1318), (1318, .if_icmp .eq 318, 3, 1321), (1321, .iconst 0, 1, 1322), (1322, .ireturn, 1, 1323)]
theorem ckL34 : ∀ q ∈ kL34, Dc code q := ck_of (by decide +kernel)
def kL35 : Lst := [(1323, .aload_n 1, 1, 1324), (1324, .aload_n 0, 1, 1325), (1325, .iload_n 3, 1, 1326), (1326, .iconst 1, 1, 1327), (1327, .iadd, 1, 1328), (1328, .iaload, 1, 1329), (1329, .aload_n 0, 1, 1330), (1330, .iload_n 3, 1, 1331), (1331, .iconst 2, 1, 1332), (1332, .iadd, 1, 1333), (1333, .iaload, 1, 1334), (1334, .invokevirtual 159, 3, 1337), (1337, .aload_n 2, 1, 1338), (1338, .aload_n 0, 1, 1339), (1339, .iload_n 3, 1, 1340), (1340, .iconst 1, 1, 1341), (1341, .iadd, 1, 1342), (1342, .iaload, 1, 1343), (1343, .aload_n 0, 1, 1344), (1344, .iload_n 3, 1, 1345), (1345, .iconst 2, 1, 1346), (1346, .iadd, 1, 1347), (1347, .iaload, 1, 1348), (1348, .invokevirtual 162, 3, 1351), (1351, .if_icmp .eq 285, 3, 1354), (1354, .iconst 0, 1, 1355), (1355, .ireturn, 1, 1356)]
theorem ckL35 : ∀ q ∈ kL35, Dc code q := ck_of (by decide +kernel)
def kL36 : Lst := [(1356, .aload_n 1, 1, 1357), (1357, .aload_n 0, 1, 1358), (1358, .iload_n 3, 1, 1359), (1359, .iconst 1, 1, 1360), (1360, .iadd, 1, 1361), (1361, .iaload, 1, 1362), (1362, .aload_n 0, 1, 1363), (1363, .iload_n 3, 1, 1364), (1364, .iconst 2, 1, 1365), (1365, .iadd, 1, 1366), (1366, .iaload, 1, 1367), (1367, .aload_n 0, 1, 1368), (1368, .iload_n 3, 1, 1369), (1369, .iconst 3, 1, 1370), (1370, .iadd, 1, 1371), (1371, .iaload, 1, 1372), (1372, .invokevirtual 163, 3, 1375), (1375, .aload_n 2, 1, 1376), (1376, .aload_n 0, 1, 1377), (1377, .iload_n 3, 1, 1378), (1378, .iconst 1, 1, 1379), (1379, .iadd, 1, 1380), (1380, .iaload, 1, 1381), (1381, .aload_n 0, 1, 1382), (1382, .iload_n 3, 1, 1383), (1383, .iconst 2, 1, 1384), (1384, .iadd, 1, 1385), (1385, .iaload, 1, 1386), (1386, .aload_n 0, 1, 1387), (1387, .iload_n 3, 1, 1388), (1388, .iconst 3, 1, 1389), (1389, .iadd, 1, 1390), (1390, .iaload, 1, 1391), (1391, .invokevirtual 166, 3, 1394), (1394, .if_icmp .eq 242, 3, 1397), (1397, .iconst 0, 1, 1398), (1398, .ireturn, 1, 1399)]
theorem ckL36 : ∀ q ∈ kL36, Dc code q := ck_of (by decide +kernel)
def kL37 : Lst := [(1399, .aload_n 1, 1, 1400), (1400, .aload_n 0, 1, 1401), (1401, .iload_n 3, 1, 1402), (1402, .iconst 1, 1, 1403), (1403, .iadd, 1, 1404), (1404, .iaload, 1, 1405), (1405, .aload_n 0, 1, 1406), (1406, .iload_n 3, 1, 1407), (1407, .iconst 2, 1, 1408), (1408, .iadd, 1, 1409), (1409, .iaload, 1, 1410), (1410, .aload_n 0, 1, 1411), (1411, .iload_n 3, 1, 1412), (1412, .iconst 3, 1, 1413), (1413, .iadd, 1, 1414), (1414, .iaload, 1, 1415), (1415, .invokevirtual 167, 3, 1418), (1418, .aload_n 2, 1, 1419), (1419, .aload_n 0, 1, 1420), (1420, .iload_n 3, 1, 1421), (1421, .iconst 1, 1, 1422), (1422, .iadd, 1, 1423), (1423, .iaload, 1, 1424), (1424, .aload_n 0, 1, 1425), (1425, .iload_n 3, 1, 1426), (1426, .iconst 2, 1, 1427), (1427, .iadd, 1, 1428), (1428, .iaload, 1, 1429), (1429, .aload_n 0, 1, 1430), (1430, .iload_n 3, 1, 1431), (1431, .iconst 3, 1, 1432), (1432, .iadd, 1, 1433), (1433, .iaload, 1, 1434), (1434, .invokevirtual 170, 3, 1437), (1437, .if_icmp .eq 199, 3, 1440), (1440, .iconst 0, 1, 1441), (1441, .ireturn, 1, 1442)]
theorem ckL37 : ∀ q ∈ kL37, Dc code q := ck_of (by decide +kernel)
def kL38 : Lst := [(1442, .aload_n 1, 1, 1443), (1443, .aload_n 0, 1, 1444), (1444, .iload_n 3, 1, 1445), (1445, .iconst 1, 1, 1446), (1446, .iadd, 1, 1447), (1447, .iaload, 1, 1448), (1448, .aload_n 0, 1, 1449), (1449, .iload_n 3, 1, 1450), (1450, .iconst 2, 1, 1451), (1451, .iadd, 1, 1452), (1452, .iaload, 1, 1453), (1453, .aload_n 0, 1, 1454), (1454, .iload_n 3, 1, 1455), (1455, .iconst 3, 1, 1456), (1456, .iadd, 1, 1457), (1457, .iaload, 1, 1458), (1458, .aload_n 0, 1, 1459), (1459, .iload_n 3, 1, 1460), (1460, .iconst 4, 1, 1461), (1461, .iadd, 1, 1462), (1462, .iaload, 1, 1463), (1463, .aload_n 0, 1, 1464), (1464, .iload_n 3, 1, 1465), (1465, .iconst 5, 1, 1466), (1466, .iadd, 1, 1467), (1467, .iaload, 1, 1468), (1468, .invokevirtual 171, 3, 1471), (1471, .aload_n 2, 1, 1472), (1472, .aload_n 0, 1, 1473), (1473, .iload_n 3, 1, 1474), (1474, .iconst 1, 1, 1475), (1475, .iadd, 1, 1476), (1476, .iaload, 1, 1477), (1477, .aload_n 0, 1, 1478), (1478, .iload_n 3, 1, 1479), (1479, .iconst 2, 1, 1480), (1480, .iadd, 1, 1481), (1481, .iaload, 1, 1482), (1482, .aload_n 0, 1, 1483), (1483, .iload_n 3, 1, 1484), (1484, .iconst 3, 1, 1485), (1485, .iadd, 1, 1486), (1486, .iaload, 1, 1487), (1487, .aload_n 0, 1, 1488), (1488, .iload_n 3, 1, 1489), (1489, .iconst 4, 1, 1490), (1490, .iadd, 1, 1491), (1491, .iaload, 1, 1492), (1492, .aload_n 0, 1, 1493), (1493, .iload_n 3, 1, 1494), (1494, .iconst 5, 1, 1495), (1495, .iadd, 1, 1496), (1496, .iaload, 1, 1497), (1497, .invokevirtual 175, 3, 1500), (1500, .if_icmp .eq 136, 3, 1503), (1503, .iconst 0, 1, 1504), (1504, .ireturn, 1, 1505)]
theorem ckL38 : ∀ q ∈ kL38, Dc code q := ck_of (by decide +kernel)
def kL39 : Lst := [(1505, .aload_n 1, 1, 1506), (1506, .aload_n 0, 1, 1507), (1507, .iload_n 3, 1, 1508), (1508, .iconst 1, 1, 1509), (1509, .iadd, 1, 1510), (1510, .iaload, 1, 1511), (1511, .invokevirtual 176, 3, 1514), (1514, .aload_n 2, 1, 1515), (1515, .aload_n 0, 1, 1516), (1516, .iload_n 3, 1, 1517), (1517, .iconst 1, 1, 1518), (1518, .iadd, 1, 1519), (1519, .iaload, 1, 1520), (1520, .invokevirtual 179, 3, 1523), (1523, .if_icmp .eq 113, 3, 1526), (1526, .iconst 0, 1, 1527), (1527, .ireturn, 1, 1528)]
theorem ckL39 : ∀ q ∈ kL39, Dc code q := ck_of (by decide +kernel)
def kL40 : Lst := [(1528, .aload_n 1, 1, 1529), (1529, .aload_n 0, 1, 1530), (1530, .iload_n 3, 1, 1531), (1531, .iconst 1, 1, 1532), (1532, .iadd, 1, 1533), (1533, .iaload, 1, 1534), (1534, .invokevirtual 180, 3, 1537), (1537, .aload_n 2, 1, 1538), (1538, .aload_n 0, 1, 1539), (1539, .iload_n 3, 1, 1540), (1540, .iconst 1, 1, 1541), (1541, .iadd, 1, 1542), (1542, .iaload, 1, 1543), (1543, .invokevirtual 183, 3, 1546), (1546, .if_icmp .eq 90, 3, 1549), (1549, .iconst 0, 1, 1550), (1550, .ireturn, 1, 1551)]
theorem ckL40 : ∀ q ∈ kL40, Dc code q := ck_of (by decide +kernel)
def kL41 : Lst := [(1551, .aload_n 1, 1, 1552), (1552, .invokevirtual 184, 3, 1555), (1555, .aload_n 2, 1, 1556), (1556, .invokevirtual 187, 3, 1559), (1559, .if_icmp .eq 77, 3, 1562), (1562, .iconst 0, 1, 1563), (1563, .ireturn, 1, 1564)]
theorem ckL41 : ∀ q ∈ kL41, Dc code q := ck_of (by decide +kernel)
def kL42 : Lst := [(1564, .aload_n 1, 1, 1565), (1565, .invokevirtual 188, 3, 1568), (1568, .aload_n 2, 1, 1569), (1569, .invokevirtual 191, 3, 1572), (1572, .if_icmp .eq 64, 3, 1575), (1575, .iconst 0, 1, 1576), (1576, .ireturn, 1, 1577)]
theorem ckL42 : ∀ q ∈ kL42, Dc code q := ck_of (by decide +kernel)
def kL43 : Lst := [(1577, .aload_n 1, 1, 1578), (1578, .invokevirtual 192, 3, 1581), (1581, .aload_n 2, 1, 1582), (1582, .invokevirtual 195, 3, 1585), (1585, .if_icmp .eq 51, 3, 1588), (1588, .iconst 0, 1, 1589), (1589, .ireturn, 1, 1590)]
theorem ckL43 : ∀ q ∈ kL43, Dc code q := ck_of (by decide +kernel)
def kL44 : Lst := [(1590, .aload_n 1, 1, 1591), (1591, .aload_n 0, 1, 1592), (1592, .iload_n 3, 1, 1593), (1593, .iconst 1, 1, 1594), (1594, .iadd, 1, 1595), (1595, .iaload, 1, 1596), (1596, .invokevirtual 196, 3, 1599), (1599, .aload_n 2, 1, 1600), (1600, .aload_n 0, 1, 1601), (1601, .iload_n 3, 1, 1602), (1602, .iconst 1, 1, 1603), (1603, .iadd, 1, 1604), (1604, .iaload, 1, 1605), (1605, .invokevirtual 199, 3, 1608), (1608, .if_icmp .eq 28, 3, 1611), (1611, .iconst 0, 1, 1612), (1612, .ireturn, 1, 1613)]
theorem ckL44 : ∀ q ∈ kL44, Dc code q := ck_of (by decide +kernel)
def kL45 : Lst := [(1613, .aload_n 1, 1, 1614), (1614, .aload_n 0, 1, 1615), (1615, .iload_n 3, 1, 1616), (1616, .iconst 1, 1, 1617), (1617, .iadd, 1, 1618), (1618, .iaload, 1, 1619), (1619, .invokevirtual 200, 3, 1622), (1622, .aload_n 2, 1, 1623), (1623, .aload_n 0, 1, 1624), (1624, .iload_n 3, 1, 1625), (1625, .iconst 1, 1, 1626), (1626, .iadd, 1, 1627), (1627, .iaload, 1, 1628), (1628, .invokevirtual 203, 3, 1631), (1631, .if_icmp .eq 5, 3, 1634), (1634, .iconst 0, 1, 1635), (1635, .ireturn, 1, 1636)]
theorem ckL45 : ∀ q ∈ kL45, Dc code q := ck_of (by decide +kernel)
def kR46 : Lst := []
theorem ckR46 : ∀ q ∈ kR46, Dc code q := fun q h => absurd h List.not_mem_nil
def kR45 : Lst := kL45 ++ kR46
theorem ckR45 : ∀ q ∈ kR45, Dc code q := List.forall_mem_append.mpr ⟨ckL45, ckR46⟩
def kR44 : Lst := kL44 ++ kR45
theorem ckR44 : ∀ q ∈ kR44, Dc code q := List.forall_mem_append.mpr ⟨ckL44, ckR45⟩
def kR43 : Lst := kL43 ++ kR44
theorem ckR43 : ∀ q ∈ kR43, Dc code q := List.forall_mem_append.mpr ⟨ckL43, ckR44⟩
def kR42 : Lst := kL42 ++ kR43
theorem ckR42 : ∀ q ∈ kR42, Dc code q := List.forall_mem_append.mpr ⟨ckL42, ckR43⟩
def kR41 : Lst := kL41 ++ kR42
theorem ckR41 : ∀ q ∈ kR41, Dc code q := List.forall_mem_append.mpr ⟨ckL41, ckR42⟩
def kR40 : Lst := kL40 ++ kR41
theorem ckR40 : ∀ q ∈ kR40, Dc code q := List.forall_mem_append.mpr ⟨ckL40, ckR41⟩
def kR39 : Lst := kL39 ++ kR40
theorem ckR39 : ∀ q ∈ kR39, Dc code q := List.forall_mem_append.mpr ⟨ckL39, ckR40⟩
def kR38 : Lst := kL38 ++ kR39
theorem ckR38 : ∀ q ∈ kR38, Dc code q := List.forall_mem_append.mpr ⟨ckL38, ckR39⟩
def kR37 : Lst := kL37 ++ kR38
theorem ckR37 : ∀ q ∈ kR37, Dc code q := List.forall_mem_append.mpr ⟨ckL37, ckR38⟩
def kR36 : Lst := kL36 ++ kR37
theorem ckR36 : ∀ q ∈ kR36, Dc code q := List.forall_mem_append.mpr ⟨ckL36, ckR37⟩
def kR35 : Lst := kL35 ++ kR36
theorem ckR35 : ∀ q ∈ kR35, Dc code q := List.forall_mem_append.mpr ⟨ckL35, ckR36⟩
def kR34 : Lst := kL34 ++ kR35
theorem ckR34 : ∀ q ∈ kR34, Dc code q := List.forall_mem_append.mpr ⟨ckL34, ckR35⟩
def kR33 : Lst := kL33 ++ kR34
theorem ckR33 : ∀ q ∈ kR33, Dc code q := List.forall_mem_append.mpr ⟨ckL33, ckR34⟩
def kR32 : Lst := kL32 ++ kR33
theorem ckR32 : ∀ q ∈ kR32, Dc code q := List.forall_mem_append.mpr ⟨ckL32, ckR33⟩
def kR31 : Lst := kL31 ++ kR32
theorem ckR31 : ∀ q ∈ kR31, Dc code q := List.forall_mem_append.mpr ⟨ckL31, ckR32⟩
def kR30 : Lst := kL30 ++ kR31
theorem ckR30 : ∀ q ∈ kR30, Dc code q := List.forall_mem_append.mpr ⟨ckL30, ckR31⟩
def kR29 : Lst := kL29 ++ kR30
theorem ckR29 : ∀ q ∈ kR29, Dc code q := List.forall_mem_append.mpr ⟨ckL29, ckR30⟩
def kR28 : Lst := kL28 ++ kR29
theorem ckR28 : ∀ q ∈ kR28, Dc code q := List.forall_mem_append.mpr ⟨ckL28, ckR29⟩
def kR27 : Lst := kL27 ++ kR28
theorem ckR27 : ∀ q ∈ kR27, Dc code q := List.forall_mem_append.mpr ⟨ckL27, ckR28⟩
def kR26 : Lst := kL26 ++ kR27
theorem ckR26 : ∀ q ∈ kR26, Dc code q := List.forall_mem_append.mpr ⟨ckL26, ckR27⟩
def kR25 : Lst := kL25 ++ kR26
theorem ckR25 : ∀ q ∈ kR25, Dc code q := List.forall_mem_append.mpr ⟨ckL25, ckR26⟩
def kR24 : Lst := kL24 ++ kR25
theorem ckR24 : ∀ q ∈ kR24, Dc code q := List.forall_mem_append.mpr ⟨ckL24, ckR25⟩
def kR23 : Lst := kL23 ++ kR24
theorem ckR23 : ∀ q ∈ kR23, Dc code q := List.forall_mem_append.mpr ⟨ckL23, ckR24⟩
def kR22 : Lst := kL22 ++ kR23
theorem ckR22 : ∀ q ∈ kR22, Dc code q := List.forall_mem_append.mpr ⟨ckL22, ckR23⟩
def kR21 : Lst := kL21 ++ kR22
theorem ckR21 : ∀ q ∈ kR21, Dc code q := List.forall_mem_append.mpr ⟨ckL21, ckR22⟩
def kR20 : Lst := kL20 ++ kR21
theorem ckR20 : ∀ q ∈ kR20, Dc code q := List.forall_mem_append.mpr ⟨ckL20, ckR21⟩
def kR19 : Lst := kL19 ++ kR20
theorem ckR19 : ∀ q ∈ kR19, Dc code q := List.forall_mem_append.mpr ⟨ckL19, ckR20⟩
def kR18 : Lst := kL18 ++ kR19
theorem ckR18 : ∀ q ∈ kR18, Dc code q := List.forall_mem_append.mpr ⟨ckL18, ckR19⟩
def kR17 : Lst := kL17 ++ kR18
theorem ckR17 : ∀ q ∈ kR17, Dc code q := List.forall_mem_append.mpr ⟨ckL17, ckR18⟩
def kR16 : Lst := kL16 ++ kR17
theorem ckR16 : ∀ q ∈ kR16, Dc code q := List.forall_mem_append.mpr ⟨ckL16, ckR17⟩
def kR15 : Lst := kL15 ++ kR16
theorem ckR15 : ∀ q ∈ kR15, Dc code q := List.forall_mem_append.mpr ⟨ckL15, ckR16⟩
def kR14 : Lst := kL14 ++ kR15
theorem ckR14 : ∀ q ∈ kR14, Dc code q := List.forall_mem_append.mpr ⟨ckL14, ckR15⟩
def kR13 : Lst := kL13 ++ kR14
theorem ckR13 : ∀ q ∈ kR13, Dc code q := List.forall_mem_append.mpr ⟨ckL13, ckR14⟩
def kR12 : Lst := kL12 ++ kR13
theorem ckR12 : ∀ q ∈ kR12, Dc code q := List.forall_mem_append.mpr ⟨ckL12, ckR13⟩
def kR11 : Lst := kL11 ++ kR12
theorem ckR11 : ∀ q ∈ kR11, Dc code q := List.forall_mem_append.mpr ⟨ckL11, ckR12⟩
def kR10 : Lst := kL10 ++ kR11
theorem ckR10 : ∀ q ∈ kR10, Dc code q := List.forall_mem_append.mpr ⟨ckL10, ckR11⟩
def kR9 : Lst := kL9 ++ kR10
theorem ckR9 : ∀ q ∈ kR9, Dc code q := List.forall_mem_append.mpr ⟨ckL9, ckR10⟩
def kR8 : Lst := kL8 ++ kR9
theorem ckR8 : ∀ q ∈ kR8, Dc code q := List.forall_mem_append.mpr ⟨ckL8, ckR9⟩
def kR7 : Lst := kL7 ++ kR8
theorem ckR7 : ∀ q ∈ kR7, Dc code q := List.forall_mem_append.mpr ⟨ckL7, ckR8⟩
def kR6 : Lst := kL6 ++ kR7
theorem ckR6 : ∀ q ∈ kR6, Dc code q := List.forall_mem_append.mpr ⟨ckL6, ckR7⟩
def kR5 : Lst := kL5 ++ kR6
theorem ckR5 : ∀ q ∈ kR5, Dc code q := List.forall_mem_append.mpr ⟨ckL5, ckR6⟩
def kR4 : Lst := kL4 ++ kR5
theorem ckR4 : ∀ q ∈ kR4, Dc code q := List.forall_mem_append.mpr ⟨ckL4, ckR5⟩
def kR3 : Lst := kL3 ++ kR4
theorem ckR3 : ∀ q ∈ kR3, Dc code q := List.forall_mem_append.mpr ⟨ckL3, ckR4⟩
def kR2 : Lst := kL2 ++ kR3
theorem ckR2 : ∀ q ∈ kR2, Dc code q := List.forall_mem_append.mpr ⟨ckL2, ckR3⟩
def kR1 : Lst := kL1 ++ kR2
theorem ckR1 : ∀ q ∈ kR1, Dc code q := List.forall_mem_append.mpr ⟨ckL1, ckR2⟩
def kR0 : Lst := kL0 ++ kR1
theorem ckR0 : ∀ q ∈ kR0, Dc code q := List.forall_mem_append.mpr ⟨ckL0, ckR1⟩
def kLawF : Lst := kLh ++ kR0
theorem ckLawF : ∀ q ∈ kLawF, Dc code q := List.forall_mem_append.mpr ⟨ckLh, ckR0⟩
theorem mR0 : ∀ q ∈ kR0, q ∈ kLawF := fun _ h => List.mem_append_right _ h
theorem mL0 : ∀ q ∈ kL0 ++ kLawF, q ∈ kLawF := fun q h => (List.mem_append.mp h).elim (fun h => mR0 q (List.mem_append_left _ h)) id
theorem mR1 : ∀ q ∈ kR1, q ∈ kLawF := fun q h => mR0 q (List.mem_append_right _ h)
theorem mL1 : ∀ q ∈ kL1 ++ kLawF, q ∈ kLawF := fun q h => (List.mem_append.mp h).elim (fun h => mR1 q (List.mem_append_left _ h)) id
theorem mR2 : ∀ q ∈ kR2, q ∈ kLawF := fun q h => mR1 q (List.mem_append_right _ h)
theorem mL2 : ∀ q ∈ kL2 ++ kLawF, q ∈ kLawF := fun q h => (List.mem_append.mp h).elim (fun h => mR2 q (List.mem_append_left _ h)) id
theorem mR3 : ∀ q ∈ kR3, q ∈ kLawF := fun q h => mR2 q (List.mem_append_right _ h)
theorem mL3 : ∀ q ∈ kL3 ++ kLawF, q ∈ kLawF := fun q h => (List.mem_append.mp h).elim (fun h => mR3 q (List.mem_append_left _ h)) id
theorem mR4 : ∀ q ∈ kR4, q ∈ kLawF := fun q h => mR3 q (List.mem_append_right _ h)
theorem mL4 : ∀ q ∈ kL4 ++ kLawF, q ∈ kLawF := fun q h => (List.mem_append.mp h).elim (fun h => mR4 q (List.mem_append_left _ h)) id
theorem mR5 : ∀ q ∈ kR5, q ∈ kLawF := fun q h => mR4 q (List.mem_append_right _ h)
theorem mL5 : ∀ q ∈ kL5 ++ kLawF, q ∈ kLawF := fun q h => (List.mem_append.mp h).elim (fun h => mR5 q (List.mem_append_left _ h)) id
theorem mR6 : ∀ q ∈ kR6, q ∈ kLawF := fun q h => mR5 q (List.mem_append_right _ h)
theorem mL6 : ∀ q ∈ kL6 ++ kLawF, q ∈ kLawF := fun q h => (List.mem_append.mp h).elim (fun h => mR6 q (List.mem_append_left _ h)) id
theorem mR7 : ∀ q ∈ kR7, q ∈ kLawF := fun q h => mR6 q (List.mem_append_right _ h)
theorem mL7 : ∀ q ∈ kL7 ++ kLawF, q ∈ kLawF := fun q h => (List.mem_append.mp h).elim (fun h => mR7 q (List.mem_append_left _ h)) id
theorem mR8 : ∀ q ∈ kR8, q ∈ kLawF := fun q h => mR7 q (List.mem_append_right _ h)
theorem mL8 : ∀ q ∈ kL8 ++ kLawF, q ∈ kLawF := fun q h => (List.mem_append.mp h).elim (fun h => mR8 q (List.mem_append_left _ h)) id
theorem mR9 : ∀ q ∈ kR9, q ∈ kLawF := fun q h => mR8 q (List.mem_append_right _ h)
theorem mL9 : ∀ q ∈ kL9 ++ kLawF, q ∈ kLawF := fun q h => (List.mem_append.mp h).elim (fun h => mR9 q (List.mem_append_left _ h)) id
theorem mR10 : ∀ q ∈ kR10, q ∈ kLawF := fun q h => mR9 q (List.mem_append_right _ h)
theorem mL10 : ∀ q ∈ kL10 ++ kLawF, q ∈ kLawF := fun q h => (List.mem_append.mp h).elim (fun h => mR10 q (List.mem_append_left _ h)) id
theorem mR11 : ∀ q ∈ kR11, q ∈ kLawF := fun q h => mR10 q (List.mem_append_right _ h)
theorem mL11 : ∀ q ∈ kL11 ++ kLawF, q ∈ kLawF := fun q h => (List.mem_append.mp h).elim (fun h => mR11 q (List.mem_append_left _ h)) id
theorem mR12 : ∀ q ∈ kR12, q ∈ kLawF := fun q h => mR11 q (List.mem_append_right _ h)
theorem mL12 : ∀ q ∈ kL12 ++ kLawF, q ∈ kLawF := fun q h => (List.mem_append.mp h).elim (fun h => mR12 q (List.mem_append_left _ h)) id
theorem mR13 : ∀ q ∈ kR13, q ∈ kLawF := fun q h => mR12 q (List.mem_append_right _ h)
theorem mL13 : ∀ q ∈ kL13 ++ kLawF, q ∈ kLawF := fun q h => (List.mem_append.mp h).elim (fun h => mR13 q (List.mem_append_left _ h)) id
theorem mR14 : ∀ q ∈ kR14, q ∈ kLawF := fun q h => mR13 q (List.mem_append_right _ h)
theorem mL14 : ∀ q ∈ kL14 ++ kLawF, q ∈ kLawF := fun q h => (List.mem_append.mp h).elim (fun h => mR14 q (List.mem_append_left _ h)) id
theorem mR15 : ∀ q ∈ kR15, q ∈ kLawF := fun q h => mR14 q (List.mem_append_right _ h)
theorem mL15 : ∀ q ∈ kL15 ++ kLawF, q ∈ kLawF := fun q h => (List.mem_append.mp h).elim (fun h => mR15 q (List.mem_append_left _ h)) id
theorem mR16 : ∀ q ∈ kR16, q ∈ kLawF := fun q h => mR15 q (List.mem_append_right _ h)
theorem mL16 : ∀ q ∈ kL16 ++ kLawF, q ∈ kLawF := fun q h => (List.mem_append.mp h).elim (fun h => mR16 q (List.mem_append_left _ h)) id
theorem mR17 : ∀ q ∈ kR17, q ∈ kLawF := fun q h => mR16 q (List.mem_append_right _ h)
theorem mL17 : ∀ q ∈ kL17 ++ kLawF, q ∈ kLawF := fun q h => (List.mem_append.mp h).elim (fun h => mR17 q (List.mem_append_left _ h)) id
theorem mR18 : ∀ q ∈ kR18, q ∈ kLawF := fun q h => mR17 q (List.mem_append_right _ h)
theorem mL18 : ∀ q ∈ kL18 ++ kLawF, q ∈ kLawF := fun q h => (List.mem_append.mp h).elim (fun h => mR18 q (List.mem_append_left _ h)) id
theorem mR19 : ∀ q ∈ kR19, q ∈ kLawF := fun q h => mR18 q (List.mem_append_right _ h)
theorem mL19 : ∀ q ∈ kL19 ++ kLawF, q ∈ kLawF := fun q h => (List.mem_append.mp h).elim (fun h => mR19 q (List.mem_append_left _ h)) id
theorem mR20 : ∀ q ∈ kR20, q ∈ kLawF := fun q h => mR19 q (List.mem_append_right _ h)
theorem mL20 : ∀ q ∈ kL20 ++ kLawF, q ∈ kLawF := fun q h => (List.mem_append.mp h).elim (fun h => mR20 q (List.mem_append_left _ h)) id
theorem mR21 : ∀ q ∈ kR21, q ∈ kLawF := fun q h => mR20 q (List.mem_append_right _ h)
theorem mL21 : ∀ q ∈ kL21 ++ kLawF, q ∈ kLawF := fun q h => (List.mem_append.mp h).elim (fun h => mR21 q (List.mem_append_left _ h)) id
theorem mR22 : ∀ q ∈ kR22, q ∈ kLawF := fun q h => mR21 q (List.mem_append_right _ h)
theorem mL22 : ∀ q ∈ kL22 ++ kLawF, q ∈ kLawF := fun q h => (List.mem_append.mp h).elim (fun h => mR22 q (List.mem_append_left _ h)) id
theorem mR23 : ∀ q ∈ kR23, q ∈ kLawF := fun q h => mR22 q (List.mem_append_right _ h)
theorem mL23 : ∀ q ∈ kL23 ++ kLawF, q ∈ kLawF := fun q h => (List.mem_append.mp h).elim (fun h => mR23 q (List.mem_append_left _ h)) id
theorem mR24 : ∀ q ∈ kR24, q ∈ kLawF := fun q h => mR23 q (List.mem_append_right _ h)
theorem mL24 : ∀ q ∈ kL24 ++ kLawF, q ∈ kLawF := fun q h => (List.mem_append.mp h).elim (fun h => mR24 q (List.mem_append_left _ h)) id
theorem mR25 : ∀ q ∈ kR25, q ∈ kLawF := fun q h => mR24 q (List.mem_append_right _ h)
theorem mL25 : ∀ q ∈ kL25 ++ kLawF, q ∈ kLawF := fun q h => (List.mem_append.mp h).elim (fun h => mR25 q (List.mem_append_left _ h)) id
theorem mR26 : ∀ q ∈ kR26, q ∈ kLawF := fun q h => mR25 q (List.mem_append_right _ h)
theorem mL26 : ∀ q ∈ kL26 ++ kLawF, q ∈ kLawF := fun q h => (List.mem_append.mp h).elim (fun h => mR26 q (List.mem_append_left _ h)) id
theorem mR27 : ∀ q ∈ kR27, q ∈ kLawF := fun q h => mR26 q (List.mem_append_right _ h)
theorem mL27 : ∀ q ∈ kL27 ++ kLawF, q ∈ kLawF := fun q h => (List.mem_append.mp h).elim (fun h => mR27 q (List.mem_append_left _ h)) id
theorem mR28 : ∀ q ∈ kR28, q ∈ kLawF := fun q h => mR27 q (List.mem_append_right _ h)
theorem mL28 : ∀ q ∈ kL28 ++ kLawF, q ∈ kLawF := fun q h => (List.mem_append.mp h).elim (fun h => mR28 q (List.mem_append_left _ h)) id
theorem mR29 : ∀ q ∈ kR29, q ∈ kLawF := fun q h => mR28 q (List.mem_append_right _ h)
theorem mL29 : ∀ q ∈ kL29 ++ kLawF, q ∈ kLawF := fun q h => (List.mem_append.mp h).elim (fun h => mR29 q (List.mem_append_left _ h)) id
theorem mR30 : ∀ q ∈ kR30, q ∈ kLawF := fun q h => mR29 q (List.mem_append_right _ h)
theorem mL30 : ∀ q ∈ kL30 ++ kLawF, q ∈ kLawF := fun q h => (List.mem_append.mp h).elim (fun h => mR30 q (List.mem_append_left _ h)) id
theorem mR31 : ∀ q ∈ kR31, q ∈ kLawF := fun q h => mR30 q (List.mem_append_right _ h)
theorem mL31 : ∀ q ∈ kL31 ++ kLawF, q ∈ kLawF := fun q h => (List.mem_append.mp h).elim (fun h => mR31 q (List.mem_append_left _ h)) id
theorem mR32 : ∀ q ∈ kR32, q ∈ kLawF := fun q h => mR31 q (List.mem_append_right _ h)
theorem mL32 : ∀ q ∈ kL32 ++ kLawF, q ∈ kLawF := fun q h => (List.mem_append.mp h).elim (fun h => mR32 q (List.mem_append_left _ h)) id
theorem mR33 : ∀ q ∈ kR33, q ∈ kLawF := fun q h => mR32 q (List.mem_append_right _ h)
theorem mL33 : ∀ q ∈ kL33 ++ kLawF, q ∈ kLawF := fun q h => (List.mem_append.mp h).elim (fun h => mR33 q (List.mem_append_left _ h)) id
theorem mR34 : ∀ q ∈ kR34, q ∈ kLawF := fun q h => mR33 q (List.mem_append_right _ h)
theorem mL34 : ∀ q ∈ kL34 ++ kLawF, q ∈ kLawF := fun q h => (List.mem_append.mp h).elim (fun h => mR34 q (List.mem_append_left _ h)) id
theorem mR35 : ∀ q ∈ kR35, q ∈ kLawF := fun q h => mR34 q (List.mem_append_right _ h)
theorem mL35 : ∀ q ∈ kL35 ++ kLawF, q ∈ kLawF := fun q h => (List.mem_append.mp h).elim (fun h => mR35 q (List.mem_append_left _ h)) id
theorem mR36 : ∀ q ∈ kR36, q ∈ kLawF := fun q h => mR35 q (List.mem_append_right _ h)
theorem mL36 : ∀ q ∈ kL36 ++ kLawF, q ∈ kLawF := fun q h => (List.mem_append.mp h).elim (fun h => mR36 q (List.mem_append_left _ h)) id
theorem mR37 : ∀ q ∈ kR37, q ∈ kLawF := fun q h => mR36 q (List.mem_append_right _ h)
theorem mL37 : ∀ q ∈ kL37 ++ kLawF, q ∈ kLawF := fun q h => (List.mem_append.mp h).elim (fun h => mR37 q (List.mem_append_left _ h)) id
theorem mR38 : ∀ q ∈ kR38, q ∈ kLawF := fun q h => mR37 q (List.mem_append_right _ h)
theorem mL38 : ∀ q ∈ kL38 ++ kLawF, q ∈ kLawF := fun q h => (List.mem_append.mp h).elim (fun h => mR38 q (List.mem_append_left _ h)) id
theorem mR39 : ∀ q ∈ kR39, q ∈ kLawF := fun q h => mR38 q (List.mem_append_right _ h)
theorem mL39 : ∀ q ∈ kL39 ++ kLawF, q ∈ kLawF := fun q h => (List.mem_append.mp h).elim (fun h => mR39 q (List.mem_append_left _ h)) id
theorem mR40 : ∀ q ∈ kR40, q ∈ kLawF := fun q h => mR39 q (List.mem_append_right _ h)
theorem mL40 : ∀ q ∈ kL40 ++ kLawF, q ∈ kLawF := fun q h => (List.mem_append.mp h).elim (fun h => mR40 q (List.mem_append_left _ h)) id
theorem mR41 : ∀ q ∈ kR41, q ∈ kLawF := fun q h => mR40 q (List.mem_append_right _ h)
theorem mL41 : ∀ q ∈ kL41 ++ kLawF, q ∈ kLawF := fun q h => (List.mem_append.mp h).elim (fun h => mR41 q (List.mem_append_left _ h)) id
theorem mR42 : ∀ q ∈ kR42, q ∈ kLawF := fun q h => mR41 q (List.mem_append_right _ h)
theorem mL42 : ∀ q ∈ kL42 ++ kLawF, q ∈ kLawF := fun q h => (List.mem_append.mp h).elim (fun h => mR42 q (List.mem_append_left _ h)) id
theorem mR43 : ∀ q ∈ kR43, q ∈ kLawF := fun q h => mR42 q (List.mem_append_right _ h)
theorem mL43 : ∀ q ∈ kL43 ++ kLawF, q ∈ kLawF := fun q h => (List.mem_append.mp h).elim (fun h => mR43 q (List.mem_append_left _ h)) id
theorem mR44 : ∀ q ∈ kR44, q ∈ kLawF := fun q h => mR43 q (List.mem_append_right _ h)
theorem mL44 : ∀ q ∈ kL44 ++ kLawF, q ∈ kLawF := fun q h => (List.mem_append.mp h).elim (fun h => mR44 q (List.mem_append_left _ h)) id
theorem mR45 : ∀ q ∈ kR45, q ∈ kLawF := fun q h => mR44 q (List.mem_append_right _ h)
theorem mL45 : ∀ q ∈ kL45 ++ kLawF, q ∈ kLawF := fun q h => (List.mem_append.mp h).elim (fun h => mR45 q (List.mem_append_left _ h)) id
