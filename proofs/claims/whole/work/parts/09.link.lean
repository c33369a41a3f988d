/-! links, by the places of their words in the tables -/
def x_cnn : List String := ["LinenBoard$Act", "LinenBoard$Bench", "LinenBoard$Ledger", "LinenBoard$Loom", "LinenBoard$Reader", "LinenBoard$Rows", "LinenBoard$Tape", "LinenBoard$Urn", "LinenBoard", "LinenBoardModel", "LinenBoardLaw", "java/lang/Character", "java/lang/Math", "java/lang/String", "java/lang/StringLatin1", "java/lang/StringUTF16", "java/util/Arrays", "jdk/internal/util/Preconditions"]
def x_ocl : List Nat := [0, 0, 0, 0, 0, 0, 0, 0, 1, 1, 1, 1, 1, 1, 1, 1, 1, 1, 1, 1, 1, 1, 1, 2, 2, 2, 2, 2, 3, 3, 3, 3, 3, 3, 3, 3, 3, 4, 4, 4, 4, 4, 4, 4, 4, 4, 4, 4, 4, 4, 4, 4, 4, 5, 5, 5, 5, 5, 5, 5, 6, 6, 6, 6, 6, 6, 6, 6, 6, 6, 6, 7, 7, 7, 7, 7, 8, 8, 8, 8, 8, 8, 8, 8, 8, 8, 8, 8, 8, 8, 8, 8, 8, 8, 8, 8, 8, 8, 8, 8, 8, 8, 8, 8, 8, 8, 8, 8, 8, 8, 8, 8, 8, 8, 8, 8, 8, 8, 8, 8, 8, 8, 8, 8, 8, 8, 8, 8, 8, 8, 8, 8, 8, 8, 8, 8, 9, 9, 9, 9, 9, 9, 9, 9, 9, 9, 9, 9, 9, 9, 9, 9, 9, 9, 9, 9, 9, 9, 9, 9, 9, 9, 9, 9, 9, 9, 9, 9, 9, 9, 9, 9, 9, 9, 9, 9, 9, 9, 9, 9, 9, 9, 9, 9, 9, 9, 9, 9, 9, 9, 9, 9, 9, 9, 9, 9, 9, 9, 9, 9, 9, 9, 9, 9, 9, 9, 9, 9, 9, 9, 9, 9, 9, 9, 9, 9, 9, 9, 9, 9, 9, 9, 9, 9, 9, 9, 9, 9, 9, 9, 9, 9, 9, 9, 9, 9, 9, 9, 9, 9, 9, 9, 9, 9, 9, 9, 9, 10, 11, 11, 11, 12, 12, 12, 12, 13, 13, 13, 13, 13, 13, 13, 13, 14, 14, 14, 14, 15, 15, 15, 15, 15, 15, 15, 15, 15, 16, 17, 17]
def x_oc (M : Nat) : Nat := x_ocl.getD M 99
theorem x_oc_ok : ∀ M, M < 279 → (x_y M).cls = x_cnn.getD (x_oc M) "" := by decide +kernel
/-- own class: entry, class, field, place -/
def x_fks : List (List (Nat × Nat × Nat × Nat)) := [[(14, 0, 0, 286), (26, 0, 1, 289), (30, 0, 2, 290), (34, 0, 3, 291), (44, 5, 3, 144)], [(9, 1, 1, 328), (15, 1, 2, 329), (19, 1, 0, 327), (23, 2, 4, 169), (29, 5, 3, 142), (43, 2, 3, 166), (50, 2, 0, 159), (77, 1, 4, 332), (86, 2, 14, 192), (96, 1, 3, 330), (104, 2, 5, 172), (127, 0, 0, 288)], [(14, 2, 0, 157), (20, 2, 1, 160), (23, 2, 2, 163), (26, 2, 3, 165), (29, 2, 4, 168), (32, 2, 5, 171), (35, 2, 6, 174), (38, 2, 7, 176), (41, 2, 8, 178), (44, 2, 9, 180), (47, 2, 10, 182), (50, 2, 11, 185), (55, 2, 12, 187), (59, 2, 15, 193), (63, 2, 13, 188), (74, 2, 14, 191), (77, 2, 16, 195), (80, 2, 17, 197), (83, 2, 18, 199)], [(14, 3, 1, 355), (20, 3, 2, 356), (23, 3, 3, 357), (26, 3, 4, 358), (29, 3, 5, 359), (32, 3, 6, 360), (35, 3, 7, 361), (38, 3, 0, 354), (42, 5, 3, 140), (46, 3, 8, 363), (49, 3, 9, 365), (52, 2, 1, 161), (65, 2, 10, 183)], [(14, 4, 2, 304), (20, 4, 3, 306), (24, 4, 4, 308), (27, 4, 0, 302), (36, 6, 5, 256), (39, 4, 1, 303), (46, 6, 1, 248), (50, 6, 3, 252), (53, 6, 2, 250), (56, 6, 4, 254), (72, 0, 0, 287), (99, 0, 3, 292)], [(9, 5, 0, 137), (15, 5, 1, 138), (24, 5, 2, 139), (28, 5, 3, 141)], [(9, 6, 0, 246), (15, 6, 1, 247), (18, 6, 2, 249), (21, 6, 3, 251), (24, 6, 4, 253), (28, 6, 5, 257)], [(9, 7, 0, 394), (15, 7, 1, 395)], [(15, 8, 0, 402), (19, 8, 1, 403), (22, 8, 2, 404), (31, 8, 3, 405), (40, 8, 4, 406), (47, 8, 5, 407), (54, 8, 6, 408), (62, 2, 0, 158), (76, 2, 1, 162), (79, 2, 2, 164), (86, 2, 14, 190), (94, 2, 3, 167), (100, 2, 4, 170), (107, 5, 3, 143), (113, 1, 4, 333), (124, 6, 4, 255), (131, 2, 13, 189), (143, 4, 3, 307), (146, 4, 2, 305), (154, 4, 4, 309), (161, 2, 5, 173), (171, 2, 6, 175), (183, 2, 7, 177), (186, 2, 15, 194), (201, 2, 8, 179), (221, 2, 9, 181), (232, 2, 10, 184), (244, 3, 7, 362), (248, 3, 8, 364), (251, 3, 9, 366), (257, 7, 1, 396), (272, 2, 11, 186), (281, 2, 16, 196), (284, 2, 17, 198), (287, 2, 18, 200), (290, 1, 3, 331)], [(7, 9, 0, 1087), (13, 9, 1, 1088), (16, 9, 2, 1089), (20, 9, 3, 1090), (23, 9, 4, 1091), (26, 9, 6, 1093), (30, 9, 7, 1094), (33, 9, 17, 1104), (36, 9, 21, 1108), (39, 9, 22, 1109), (42, 9, 23, 1110), (46, 9, 24, 1111), (49, 9, 25, 1112), (52, 9, 26, 1113), (55, 9, 27, 1114), (58, 9, 30, 1117), (61, 9, 31, 1118), (82, 9, 5, 1092), (89, 9, 8, 1095), (96, 9, 9, 1096), (99, 9, 10, 1097), (105, 9, 11, 1098), (112, 9, 12, 1099), (124, 9, 13, 1100), (127, 9, 15, 1102), (130, 9, 18, 1105), (133, 9, 20, 1107), (137, 9, 19, 1106), (199, 9, 16, 1103), (202, 9, 14, 1101), (320, 9, 28, 1115), (323, 9, 29, 1116)], [], [], [], [], [], [], [], []]
theorem x_fks_ok0 : ∀ o, o < 18 → ∀ q ∈ x_fks.getD o [], lw_tbl[q.2.2.2]? = some (Cond.fieldLink (x_cnn.getD o "") q.1 (x_T q.2.1 q.2.2.1).1 (x_T q.2.1 q.2.2.1).2.1 (x_T q.2.1 q.2.2.1).2.2.1) := by decide +kernel
def x_fk (M i c j : Nat) : Bool := (x_fks.getD (x_oc M) []).any fun q => q.1 == i && q.2.1 == c && q.2.2.1 == j
theorem x_fk_ok {M i c j : Nat} (hM : M < 279) (h : x_fk M i c j = true) : Cond.fieldLink (x_y M).cls i (x_T c j).1 (x_T c j).2.1 (x_T c j).2.2.1 ∈ x_tb := by
  unfold x_fk at h
  obtain ⟨q, hq, h1⟩ := List.any_eq_true.mp h
  simp only [Bool.and_eq_true, beq_iff_eq] at h1
  obtain ⟨⟨e1, e2⟩, e3⟩ := h1
  have ho : x_oc M < 18 := by
    rcases Nat.lt_or_ge (x_oc M) 18 with z | z
    · exact z
    · exfalso
      rw [List.getD_eq_getElem?_getD, List.getElem?_eq_none (by show 18 ≤ x_oc M; exact z)] at hq
      cases hq
  have h2 := x_fks_ok0 _ ho q hq
  rw [e1, e2, e3, ← x_oc_ok M hM] at h2
  exact x_in _ h2 rfl
def x_mks : List (List (Nat × Nat × Nat)) := [[(11, 53, 284), (20, 251, 285), (37, 56, 754), (41, 57, 518), (47, 5, 514)], [(35, 57, 488), (39, 11, 484), (46, 26, 489), (53, 17, 494), (56, 10, 525), (60, 13, 529), (64, 19, 533), (68, 16, 498), (72, 6, 519), (80, 276, 992), (89, 12, 930), (93, 9, 931), (100, 1, 502), (107, 24, 506), (111, 7, 510), (117, 20, 538), (121, 252, 556), (130, 5, 537), (133, 4, 542), (136, 21, 546), (139, 22, 549), (147, 254, 553)], [(11, 53, 130), (66, 57, 493), (70, 59, 1065)], [(11, 53, 353), (57, 57, 944), (61, 58, 945), (68, 56, 946), (72, 31, 951), (76, 32, 955), (80, 30, 976), (83, 33, 959), (86, 36, 971), (90, 34, 963), (93, 35, 967), (96, 253, 975)], [(11, 0, 279), (31, 66, 590), (42, 40, 736), (59, 42, 755), (62, 43, 744), (65, 3, 785), (68, 1, 748), (76, 55, 749), (82, 2, 750), (86, 47, 759), (90, 48, 773), (93, 50, 789), (96, 44, 801), (100, 58, 772), (110, 41, 767), (117, 49, 777), (120, 45, 781), (123, 51, 793), (126, 52, 797)], [(18, 251, 134), (31, 55, 435), (35, 58, 439), (39, 253, 1069)], [(31, 63, 594), (35, 64, 598), (39, 67, 601), (42, 65, 662), (45, 69, 665), (48, 70, 672), (51, 62, 658), (55, 68, 605), (61, 255, 610), (66, 256, 620), (70, 253, 669), (78, 257, 677)], [(19, 72, 1016)], [(28, 37, 273), (37, 8, 323), (46, 28, 348), (58, 119, 428), (66, 56, 431), (72, 54, 447), (82, 58, 455), (90, 57, 460), (97, 120, 472), (103, 55, 475), (110, 12, 480), (116, 19, 561), (120, 9, 562), (127, 61, 574), (134, 38, 586), (137, 39, 732), (140, 46, 740), (150, 25, 805), (157, 24, 818), (164, 18, 823), (167, 17, 831), (174, 11, 837), (177, 123, 842), (180, 124, 846), (191, 132, 863), (195, 131, 866), (204, 127, 874), (207, 125, 882), (210, 251, 886), (215, 126, 878), (218, 130, 899), (224, 128, 906), (228, 129, 910), (235, 15, 926), (238, 122, 936), (242, 29, 940), (254, 121, 981), (258, 14, 988), (261, 72, 995), (263, 75, 999), (266, 74, 1004), (269, 73, 1012), (275, 133, 1033), (278, 134, 1037), (293, 135, 1053), (296, 27, 1061)], [(64, 137, 1084), (68, 139, 1189), (72, 141, 1200), (76, 142, 1216), (79, 140, 1220), (85, 155, 1231), (92, 158, 1251), (102, 160, 1255), (109, 159, 1259), (116, 162, 1273), (120, 163, 1276), (140, 167, 1318), (144, 165, 1279), (148, 164, 1270), (152, 161, 1247), (155, 169, 1326), (158, 171, 1334), (162, 166, 1294), (166, 168, 1322), (169, 173, 1306), (173, 170, 1314), (176, 174, 1302), (179, 175, 1310), (182, 172, 1330), (185, 176, 1298), (188, 177, 1338), (191, 178, 1290), (196, 180, 1266), (205, 181, 1282), (209, 179, 1286), (212, 182, 1262), (215, 183, 1243), (218, 186, 1351), (222, 189, 1371), (225, 188, 1375), (229, 190, 1367), (232, 191, 1363), (235, 192, 1359), (242, 194, 1406), (246, 195, 1403), (250, 196, 1411), (254, 144, 1391), (257, 199, 1395), (260, 197, 1399), (263, 153, 1383), (266, 198, 1387), (269, 200, 1414), (272, 202, 1422), (276, 145, 1439), (279, 150, 1447), (282, 205, 1443), (285, 143, 1435), (288, 206, 1451), (295, 210, 1469), (301, 212, 1478), (304, 213, 1482), (307, 214, 1486), (310, 222, 1518), (314, 224, 1538), (317, 225, 1542), (326, 226, 1534), (329, 227, 1526), (333, 228, 1530), (337, 232, 1555), (340, 231, 1559), (343, 235, 1576), (346, 239, 1588), (350, 138, 1608)], [(9, 76, 116), (12, 136, 1080), (13, 77, 424), (17, 146, 1185), (18, 78, 443), (22, 147, 1192), (23, 79, 451), (26, 148, 1196), (27, 80, 456), (31, 149, 1204), (32, 81, 464), (35, 151, 1208), (36, 82, 468), (40, 152, 1212), (41, 83, 476), (45, 201, 1379), (46, 84, 566), (49, 154, 1223), (50, 85, 570), (54, 156, 1227), (55, 86, 578), (58, 157, 1235), (59, 87, 582), (63, 184, 1239), (64, 88, 810), (67, 185, 1343), (68, 89, 814), (72, 187, 1347), (73, 90, 819), (76, 203, 1418), (77, 91, 827), (80, 193, 1355), (81, 92, 832), (84, 204, 1426), (85, 93, 838), (88, 207, 1431), (89, 94, 850), (92, 208, 1455), (93, 95, 854), (97, 209, 1459), (98, 96, 858), (102, 211, 1463), (103, 97, 870), (106, 215, 1474), (107, 98, 887), (110, 216, 1490), (111, 99, 891), (114, 217, 1494), (115, 100, 895), (119, 218, 1498), (120, 101, 902), (124, 219, 1502), (125, 102, 914), (129, 220, 1506), (130, 103, 918), (133, 221, 1510), (134, 104, 922), (137, 223, 1514), (138, 105, 932), (141, 229, 1522), (142, 106, 977), (145, 230, 1547), (146, 107, 984), (149, 233, 1551), (150, 108, 1008), (153, 234, 1564), (154, 109, 1017), (157, 236, 1568), (158, 110, 1021), (161, 237, 1572), (162, 111, 1025), (165, 238, 1580), (166, 112, 1029), (169, 240, 1584), (170, 113, 1041), (173, 241, 1592), (174, 114, 1045), (177, 242, 1596), (178, 115, 1049), (181, 243, 1600), (182, 116, 1057), (185, 244, 1604), (186, 117, 1070), (189, 245, 1611), (190, 118, 1074), (193, 246, 1615)], [], [], [(335, 259, 614), (492, 260, 624), (495, 263, 628), (498, 273, 639), (505, 255, 685), (633, 258, 681), (637, 265, 686), (640, 269, 697), (1059, 277, 636), (1062, 278, 712)], [(9, 261, 631), (38, 253, 693), (88, 264, 689), (92, 251, 692), (95, 266, 694)], [(48, 268, 645), (67, 274, 642), (71, 267, 649), (96, 275, 706), (157, 249, 724), (161, 250, 728), (164, 248, 721), (183, 253, 701), (224, 251, 700), (228, 270, 703), (232, 272, 718), (241, 262, 709), (244, 271, 715), (414, 261, 648)], [], []]
def x_nks : List (Nat × Nat × Nat) := [(8, 11, 23), (8, 14, 60), (8, 53, 71), (8, 245, 30), (4, 113, 119)]
theorem x_mks_ok0 : ∀ o, o < 18 → ∀ q ∈ x_mks.getD o [], lw_tbl[q.2.2]? = some (Cond.methodLink (x_cnn.getD o "") q.1 (x_y q.2.1)) := by decide +kernel
theorem x_nks_ok0 : ∀ q ∈ x_nks, (x_cnn.getD q.1 "", q.2.1, x_y q.2.2) ∈ x_nm := by decide +kernel
def x_lk (M i M2 : Nat) : Bool := ((x_mks.getD (x_oc M) []).any fun q => q.1 == i && q.2.1 == M2) || (x_nks.any fun q => q.1 == x_oc M && q.2.1 == i && q.2.2 == M2)
theorem x_lk_ok {M i M2 : Nat} (hM : M < 279) (h : x_lk M i M2 = true) : Cond.methodLink (x_y M).cls i (x_y M2) ∈ x_tb ∨ ((x_y M).cls, i, x_y M2) ∈ x_nm := by
  unfold x_lk at h
  rcases Bool.or_eq_true _ _ ▸ h with h | h
  · obtain ⟨q, hq, h1⟩ := List.any_eq_true.mp h
    simp only [Bool.and_eq_true, beq_iff_eq] at h1
    obtain ⟨e1, e2⟩ := h1
    have ho : x_oc M < 18 := by
      rcases Nat.lt_or_ge (x_oc M) 18 with z | z
      · exact z
      · exfalso
        rw [List.getD_eq_getElem?_getD, List.getElem?_eq_none (by show 18 ≤ x_oc M; exact z)] at hq
        cases hq
    have h2 := x_mks_ok0 _ ho q hq
    rw [e1, e2, ← x_oc_ok M hM] at h2
    exact Or.inl (x_in _ h2 rfl)
  · obtain ⟨q, hq, h1⟩ := List.any_eq_true.mp h
    simp only [Bool.and_eq_true, beq_iff_eq] at h1
    obtain ⟨⟨e1, e2⟩, e3⟩ := h1
    have h2 := x_nks_ok0 q hq
    rw [e1, e2, e3, ← x_oc_ok M hM] at h2
    exact Or.inr h2
def x_ims : List (Nat × Nat) := [(0, 280), (1, 503), (2, 751), (3, 786), (4, 543), (5, 515), (6, 520), (7, 511), (8, 324), (9, 563), (10, 527), (11, 485), (12, 481), (13, 531), (14, 989), (15, 927), (16, 500), (17, 495), (18, 824), (19, 534), (20, 540), (22, 551), (23, 125), (24, 507), (25, 806), (26, 490), (27, 1062), (28, 349), (29, 941), (30, 949), (31, 953), (32, 957), (33, 961), (34, 965), (35, 969), (36, 973), (37, 274), (38, 587), (39, 733), (40, 738), (41, 769), (42, 757), (43, 746), (44, 803), (45, 783), (46, 741), (47, 761), (48, 775), (49, 779), (50, 791), (51, 795), (52, 799), (53, 131), (54, 448), (55, 436), (56, 432), (57, 461), (58, 440), (59, 1066), (60, 243), (61, 575), (62, 660), (63, 596), (66, 591), (67, 603), (68, 607), (69, 667), (70, 674), (71, 391), (72, 996), (73, 1013), (74, 1005), (75, 1000), (76, 117), (77, 425), (78, 444), (79, 452), (80, 457), (81, 465), (82, 469), (83, 477), (84, 567), (85, 571), (86, 579), (87, 583), (88, 811), (89, 815), (90, 820), (91, 828), (92, 833), (93, 839), (94, 851), (95, 855), (96, 859), (97, 871), (98, 888), (99, 892), (100, 896), (101, 903), (102, 915), (103, 919), (104, 923), (105, 933), (106, 978), (107, 985), (108, 1009), (109, 1018), (110, 1022), (111, 1026), (112, 1030), (113, 1042), (114, 1046), (115, 1050), (116, 1058), (117, 1071), (118, 1075), (122, 938), (123, 844), (124, 848), (125, 884), (126, 880), (127, 876), (128, 908), (129, 912), (133, 1035), (134, 1039), (135, 1055), (136, 1081), (141, 1202), (142, 1218), (143, 1437), (144, 1393), (145, 1441), (146, 1186), (147, 1193), (148, 1197), (149, 1205), (150, 1449), (151, 1209), (152, 1213), (153, 1385), (154, 1224), (155, 1233), (156, 1228), (157, 1236), (158, 1253), (161, 1249), (166, 1296), (167, 1320), (168, 1324), (169, 1328), (170, 1316), (171, 1336), (172, 1332), (173, 1308), (174, 1304), (175, 1312), (176, 1300), (177, 1340), (178, 1292), (179, 1288), (180, 1268), (181, 1284), (182, 1264), (183, 1245), (184, 1240), (185, 1344), (186, 1353), (187, 1348), (188, 1377), (189, 1373), (190, 1369), (191, 1365), (192, 1361), (193, 1356), (197, 1401), (198, 1389), (199, 1397), (200, 1416), (201, 1380), (202, 1424), (203, 1419), (204, 1427), (205, 1445), (206, 1453), (207, 1432), (208, 1456), (209, 1460), (210, 1471), (211, 1464), (212, 1480), (213, 1484), (214, 1488), (215, 1475), (216, 1491), (217, 1495), (218, 1499), (219, 1503), (220, 1507), (221, 1511), (222, 1520), (223, 1515), (224, 1540), (225, 1544), (226, 1536), (227, 1528), (228, 1532), (229, 1523), (230, 1548), (231, 1561), (232, 1557), (233, 1552), (234, 1565), (235, 1578), (236, 1569), (237, 1573), (238, 1581), (239, 1590), (240, 1585), (241, 1593), (242, 1597), (243, 1601), (244, 1605), (245, 1612), (246, 1616), (255, 611), (256, 621), (257, 678), (258, 682), (259, 615), (260, 625)]
theorem x_ims_ok0 : ∀ q ∈ x_ims, lw_tbl[q.2]? = some (Cond.instanceMethod (x_y q.1)) := by decide +kernel
theorem x_ims_ok {M : Nat} (h : (x_ims.any fun q => q.1 == M) = true) : Cond.instanceMethod (x_y M) ∈ x_tb := by
  obtain ⟨q, hq, h1⟩ := List.any_eq_true.mp h
  have e1 : q.1 = M := by simpa using h1
  have h2 := x_ims_ok0 q hq
  rw [e1] at h2
  exact x_in _ h2 rfl
def x_sts : List (Nat × Nat) := [(21, 547), (64, 599), (65, 663), (119, 429), (120, 473), (121, 982), (130, 900), (131, 867), (132, 864), (137, 1085), (138, 1609), (139, 1190), (140, 1221), (159, 1260), (160, 1256), (162, 1274), (163, 1277), (164, 1271), (165, 1280), (194, 1407), (195, 1404), (196, 1412), (248, 722), (249, 725), (250, 729), (251, 135), (252, 557), (253, 670), (254, 554), (261, 632), (262, 710), (263, 629), (264, 690), (265, 687), (266, 695), (267, 650), (268, 646), (269, 698), (270, 704), (271, 716), (272, 719), (273, 640), (274, 643), (275, 707), (276, 993), (277, 637), (278, 713)]
theorem x_sts_ok0 : ∀ q ∈ x_sts, lw_tbl[q.2]? = some (Cond.static (x_y q.1)) := by decide +kernel
theorem x_sts_ok {M : Nat} (h : (x_sts.any fun q => q.1 == M) = true) : Cond.static (x_y M) ∈ x_tb := by
  obtain ⟨q, hq, h1⟩ := List.any_eq_true.mp h
  have e1 : q.1 = M := by simpa using h1
  have h2 := x_sts_ok0 q hq
  rw [e1] at h2
  exact x_in _ h2 rfl
def x_sel : List (Nat × Nat) := [(1, 504), (2, 752), (3, 787), (4, 544), (5, 516), (6, 521), (7, 512), (9, 564), (10, 1), (11, 486), (12, 482), (13, 2), (14, 990), (15, 928), (16, 0), (17, 496), (18, 825), (19, 535), (20, 3), (22, 4), (24, 508), (25, 807), (26, 491), (27, 1063), (29, 942), (30, 31), (31, 32), (32, 33), (33, 34), (34, 35), (35, 36), (36, 37), (38, 588), (39, 734), (40, 11), (41, 15), (42, 13), (43, 12), (44, 22), (45, 18), (46, 742), (47, 14), (48, 16), (49, 17), (50, 19), (51, 20), (52, 21), (54, 449), (55, 437), (56, 433), (57, 462), (58, 441), (59, 1067), (61, 576), (62, 8), (63, 5), (66, 592), (67, 6), (68, 7), (69, 9), (70, 10), (72, 997), (73, 1014), (74, 1006), (75, 1001), (77, 426), (78, 445), (79, 453), (80, 458), (81, 466), (82, 470), (83, 478), (84, 568), (85, 572), (86, 580), (87, 584), (88, 812), (89, 816), (90, 821), (91, 829), (92, 834), (93, 840), (94, 852), (95, 856), (96, 860), (97, 872), (98, 889), (99, 893), (100, 897), (101, 904), (102, 916), (103, 920), (104, 924), (105, 934), (106, 979), (107, 986), (108, 1010), (109, 1019), (110, 1023), (111, 1027), (112, 1031), (113, 1043), (114, 1047), (115, 1051), (116, 1059), (117, 1072), (118, 1076), (122, 30), (123, 23), (124, 24), (125, 27), (126, 26), (127, 25), (128, 28), (129, 29), (133, 38), (134, 39), (135, 40), (141, 41), (142, 42), (143, 77), (144, 72), (145, 78), (146, 1187), (147, 1194), (148, 1198), (149, 1206), (150, 80), (151, 1210), (152, 1214), (153, 70), (154, 1225), (155, 43), (156, 1229), (157, 1237), (158, 46), (161, 45), (166, 52), (167, 58), (168, 59), (169, 60), (170, 57), (171, 62), (172, 61), (173, 55), (174, 54), (175, 56), (176, 53), (177, 63), (178, 51), (179, 50), (180, 48), (181, 49), (182, 47), (183, 44), (184, 1241), (185, 1345), (186, 64), (187, 1349), (188, 69), (189, 68), (190, 67), (191, 66), (192, 65), (193, 1357), (197, 74), (198, 71), (199, 73), (200, 75), (201, 1381), (202, 76), (203, 1420), (204, 1428), (205, 79), (206, 81), (207, 1433), (208, 1457), (209, 1461), (210, 82), (211, 1465), (212, 83), (213, 84), (214, 85), (215, 1476), (216, 1492), (217, 1496), (218, 1500), (219, 1504), (220, 1508), (221, 1512), (222, 86), (223, 1516), (224, 90), (225, 91), (226, 89), (227, 87), (228, 88), (229, 1524), (230, 1549), (231, 93), (232, 92), (233, 1553), (234, 1566), (235, 94), (236, 1570), (237, 1574), (238, 1582), (239, 95), (240, 1586), (241, 1594), (242, 1598), (243, 1602), (244, 1606), (245, 1613), (246, 1617), (255, 612), (256, 622), (257, 679), (258, 683), (259, 616), (260, 626)]
theorem x_sel_ok0 : ∀ q ∈ x_sel, lw_tbl[q.2]? = some (Cond.selects (x_y q.1).cls (x_y q.1) (x_y q.1)) := by decide +kernel
theorem x_sel_ok {M : Nat} (h : (x_sel.any fun q => q.1 == M) = true) : Cond.selects (x_y M).cls (x_y M) (x_y M) ∈ x_tb := by
  obtain ⟨q, hq, h1⟩ := List.any_eq_true.mp h
  have e1 : q.1 = M := by simpa using h1
  have h2 := x_sel_ok0 q hq
  rw [e1] at h2
  exact x_in _ h2 rfl
def x_npl : List Nat := [1, 1, 1, 1, 1, 1, 1, 1, 1, 1, 2, 3, 3, 1, 1, 1, 2, 2, 2, 3, 2, 1, 3, 0, 1, 1, 1, 1, 1, 1, 3, 1, 1, 2, 2, 3, 4, 1, 0, 0, 0, 0, 0, 1, 1, 1, 0, 2, 0, 1, 1, 1, 2, 2, 1, 0, 3, 2, 3, 1, 0, 1, 3, 1, 1, 1, 0, 1, 3, 1, 1, 0, 1, 1, 1, 1, 0, 1, 2, 1, 3, 1, 6, 4, 1, 5, 1, 0, 1, 3, 4, 2, 3, 2, 1, 1, 2, 1, 2, 1, 7, 1, 2, 3, 1, 3, 3, 3, 2, 1, 3, 3, 2, 2, 3, 2, 0, 0, 1, 3, 1, 2, 2, 1, 1, 1, 1, 1, 1, 1, 3, 2, 3, 1, 1, 2, 0, 2, 2, 3, 1, 1, 1, 1, 2, 2, 1, 2, 1, 3, 2, 1, 6, 3, 1, 1, 5, 1, 1, 1, 1, 0, 3, 5, 4, 6, 1, 2, 1, 0, 1, 0, 0, 0, 0, 0, 0, 0, 0, 0, 0, 3, 0, 0, 0, 1, 3, 3, 2, 1, 2, 2, 3, 2, 1, 3, 3, 2, 3, 1, 1, 4, 2, 4, 3, 1, 1, 2, 1, 1, 2, 2, 1, 1, 1, 1, 2, 1, 7, 1, 2, 3, 1, 1, 0, 0, 3, 2, 2, 3, 3, 3, 1, 3, 2, 1, 1, 3, 3, 2, 2, 2, 3, 2, 0, 0, 1, 1, 1, 1, 1, 2, 2, 2, 2, 0, 1, 1, 2, 0, 0, 2, 3, 2, 1, 4, 4, 2, 1, 4, 4, 4, 4, 2, 2, 3, 2, 3, 4]
def x_np (M : Nat) : Nat := x_npl.getD M 0
theorem x_np_ok : ∀ M, M < 279 → (parseMethodDescriptor (x_y M).desc).map (fun d => d.parameters.length) = some (x_np M) := by decide +kernel
theorem x_i1 {w : Cond} (h : w ∈ tables_1_1) (hg : goodWord w = true) : w ∈ x_tb := List.mem_filter.mpr ⟨List.mem_append_right _ (List.mem_append_left _ h), hg⟩
theorem x_i2 {w : Cond} (h : w ∈ tables_1_2) (hg : goodWord w = true) : w ∈ x_tb := List.mem_filter.mpr ⟨List.mem_append_right _ (List.mem_append_right _ (List.mem_append_left _ h)), hg⟩
theorem x_i3 {w : Cond} (h : w ∈ tables_1_3) (hg : goodWord w = true) : w ∈ x_tb := List.mem_filter.mpr ⟨List.mem_append_right _ (List.mem_append_right _ (List.mem_append_right _ (List.mem_append_left _ h))), hg⟩
theorem x_i4 {w : Cond} (h : w ∈ tables_1_4) (hg : goodWord w = true) : w ∈ x_tb := List.mem_filter.mpr ⟨List.mem_append_right _ (List.mem_append_right _ (List.mem_append_right _ (List.mem_append_right _ (List.mem_append_left _ h)))), hg⟩
theorem x_i5 {w : Cond} (h : w ∈ tables_1_5) (hg : goodWord w = true) : w ∈ x_tb := List.mem_filter.mpr ⟨List.mem_append_right _ (List.mem_append_right _ (List.mem_append_right _ (List.mem_append_right _ (List.mem_append_right _ (List.mem_append_left _ h))))), hg⟩
theorem x_i6 {w : Cond} (h : w ∈ tables_1_6) (hg : goodWord w = true) : w ∈ x_tb := List.mem_filter.mpr ⟨List.mem_append_right _ (List.mem_append_right _ (List.mem_append_right _ (List.mem_append_right _ (List.mem_append_right _ (List.mem_append_right _ (List.mem_append_left _ h)))))), hg⟩
theorem x_i7 {w : Cond} (h : w ∈ tables_1_7) (hg : goodWord w = true) : w ∈ x_tb := List.mem_filter.mpr ⟨List.mem_append_right _ (List.mem_append_right _ (List.mem_append_right _ (List.mem_append_right _ (List.mem_append_right _ (List.mem_append_right _ (List.mem_append_right _ (h))))))), hg⟩
set_option maxRecDepth 20000 in
theorem x_co_0 : Cond.code (x_y 0) (x_cd 0) (x_ml 0) (x_rt 0) ∈ x_tb := x_i1 (List.mem_of_getElem? (i := 185) rfl) rfl
set_option maxRecDepth 20000 in
theorem x_co_1 : Cond.code (x_y 1) (x_cd 1) (x_ml 1) (x_rt 1) ∈ x_tb := x_i2 (List.mem_of_getElem? (i := 169) rfl) rfl
set_option maxRecDepth 20000 in
theorem x_co_2 : Cond.code (x_y 2) (x_cd 2) (x_ml 2) (x_rt 2) ∈ x_tb := x_i3 (List.mem_of_getElem? (i := 177) rfl) rfl
set_option maxRecDepth 20000 in
theorem x_co_3 : Cond.code (x_y 3) (x_cd 3) (x_ml 3) (x_rt 3) ∈ x_tb := x_i3 (List.mem_of_getElem? (i := 212) rfl) rfl
set_option maxRecDepth 20000 in
theorem x_co_4 : Cond.code (x_y 4) (x_cd 4) (x_ml 4) (x_rt 4) ∈ x_tb := x_i2 (List.mem_of_getElem? (i := 209) rfl) rfl
set_option maxRecDepth 20000 in
theorem x_co_5 : Cond.code (x_y 5) (x_cd 5) (x_ml 5) (x_rt 5) ∈ x_tb := x_i2 (List.mem_of_getElem? (i := 181) rfl) rfl
set_option maxRecDepth 20000 in
theorem x_co_6 : Cond.code (x_y 6) (x_cd 6) (x_ml 6) (x_rt 6) ∈ x_tb := x_i2 (List.mem_of_getElem? (i := 186) rfl) rfl
set_option maxRecDepth 20000 in
theorem x_co_7 : Cond.code (x_y 7) (x_cd 7) (x_ml 7) (x_rt 7) ∈ x_tb := x_i2 (List.mem_of_getElem? (i := 177) rfl) rfl
set_option maxRecDepth 20000 in
theorem x_co_8 : Cond.code (x_y 8) (x_cd 8) (x_ml 8) (x_rt 8) ∈ x_tb := x_i1 (List.mem_of_getElem? (i := 229) rfl) rfl
set_option maxRecDepth 20000 in
theorem x_co_9 : Cond.code (x_y 9) (x_cd 9) (x_ml 9) (x_rt 9) ∈ x_tb := x_i2 (List.mem_of_getElem? (i := 229) rfl) rfl
set_option maxRecDepth 20000 in
theorem x_co_10 : Cond.code (x_y 10) (x_cd 10) (x_ml 10) (x_rt 10) ∈ x_tb := x_i2 (List.mem_of_getElem? (i := 192) rfl) rfl
set_option maxRecDepth 20000 in
theorem x_co_11 : Cond.code (x_y 11) (x_cd 11) (x_ml 11) (x_rt 11) ∈ x_tb := x_i2 (List.mem_of_getElem? (i := 151) rfl) rfl
set_option maxRecDepth 20000 in
theorem x_co_12 : Cond.code (x_y 12) (x_cd 12) (x_ml 12) (x_rt 12) ∈ x_tb := x_i2 (List.mem_of_getElem? (i := 147) rfl) rfl
set_option maxRecDepth 20000 in
theorem x_co_13 : Cond.code (x_y 13) (x_cd 13) (x_ml 13) (x_rt 13) ∈ x_tb := x_i2 (List.mem_of_getElem? (i := 196) rfl) rfl
set_option maxRecDepth 20000 in
theorem x_co_14 : Cond.code (x_y 14) (x_cd 14) (x_ml 14) (x_rt 14) ∈ x_tb := x_i4 (List.mem_of_getElem? (i := 175) rfl) rfl
set_option maxRecDepth 20000 in
theorem x_co_15 : Cond.code (x_y 15) (x_cd 15) (x_ml 15) (x_rt 15) ∈ x_tb := x_i4 (List.mem_of_getElem? (i := 113) rfl) rfl
set_option maxRecDepth 20000 in
theorem x_co_16 : Cond.code (x_y 16) (x_cd 16) (x_ml 16) (x_rt 16) ∈ x_tb := x_i2 (List.mem_of_getElem? (i := 165) rfl) rfl
set_option maxRecDepth 20000 in
theorem x_co_17 : Cond.code (x_y 17) (x_cd 17) (x_ml 17) (x_rt 17) ∈ x_tb := x_i2 (List.mem_of_getElem? (i := 161) rfl) rfl
set_option maxRecDepth 20000 in
theorem x_co_18 : Cond.code (x_y 18) (x_cd 18) (x_ml 18) (x_rt 18) ∈ x_tb := x_i4 (List.mem_of_getElem? (i := 10) rfl) rfl
set_option maxRecDepth 20000 in
theorem x_co_19 : Cond.code (x_y 19) (x_cd 19) (x_ml 19) (x_rt 19) ∈ x_tb := x_i2 (List.mem_of_getElem? (i := 200) rfl) rfl
set_option maxRecDepth 20000 in
theorem x_co_20 : Cond.code (x_y 20) (x_cd 20) (x_ml 20) (x_rt 20) ∈ x_tb := x_i2 (List.mem_of_getElem? (i := 205) rfl) rfl
set_option maxRecDepth 20000 in
theorem x_co_21 : Cond.code (x_y 21) (x_cd 21) (x_ml 21) (x_rt 21) ∈ x_tb := x_i2 (List.mem_of_getElem? (i := 212) rfl) rfl
set_option maxRecDepth 20000 in
theorem x_co_22 : Cond.code (x_y 22) (x_cd 22) (x_ml 22) (x_rt 22) ∈ x_tb := x_i2 (List.mem_of_getElem? (i := 216) rfl) rfl
set_option maxRecDepth 20000 in
theorem x_co_23 : Cond.code (x_y 23) (x_cd 23) (x_ml 23) (x_rt 23) ∈ x_tb := x_i1 (List.mem_of_getElem? (i := 30) rfl) rfl
set_option maxRecDepth 20000 in
theorem x_co_24 : Cond.code (x_y 24) (x_cd 24) (x_ml 24) (x_rt 24) ∈ x_tb := x_i2 (List.mem_of_getElem? (i := 173) rfl) rfl
set_option maxRecDepth 20000 in
theorem x_co_25 : Cond.code (x_y 25) (x_cd 25) (x_ml 25) (x_rt 25) ∈ x_tb := x_i3 (List.mem_of_getElem? (i := 232) rfl) rfl
set_option maxRecDepth 20000 in
theorem x_co_26 : Cond.code (x_y 26) (x_cd 26) (x_ml 26) (x_rt 26) ∈ x_tb := x_i2 (List.mem_of_getElem? (i := 156) rfl) rfl
set_option maxRecDepth 20000 in
theorem x_co_27 : Cond.code (x_y 27) (x_cd 27) (x_ml 27) (x_rt 27) ∈ x_tb := x_i5 (List.mem_of_getElem? (i := 8) rfl) rfl
set_option maxRecDepth 20000 in
theorem x_co_28 : Cond.code (x_y 28) (x_cd 28) (x_ml 28) (x_rt 28) ∈ x_tb := x_i2 (List.mem_of_getElem? (i := 14) rfl) rfl
set_option maxRecDepth 20000 in
theorem x_co_29 : Cond.code (x_y 29) (x_cd 29) (x_ml 29) (x_rt 29) ∈ x_tb := x_i4 (List.mem_of_getElem? (i := 127) rfl) rfl
set_option maxRecDepth 20000 in
theorem x_co_30 : Cond.code (x_y 30) (x_cd 30) (x_ml 30) (x_rt 30) ∈ x_tb := x_i4 (List.mem_of_getElem? (i := 134) rfl) rfl
set_option maxRecDepth 20000 in
theorem x_co_31 : Cond.code (x_y 31) (x_cd 31) (x_ml 31) (x_rt 31) ∈ x_tb := x_i4 (List.mem_of_getElem? (i := 138) rfl) rfl
set_option maxRecDepth 20000 in
theorem x_co_32 : Cond.code (x_y 32) (x_cd 32) (x_ml 32) (x_rt 32) ∈ x_tb := x_i4 (List.mem_of_getElem? (i := 142) rfl) rfl
set_option maxRecDepth 20000 in
theorem x_co_33 : Cond.code (x_y 33) (x_cd 33) (x_ml 33) (x_rt 33) ∈ x_tb := x_i4 (List.mem_of_getElem? (i := 146) rfl) rfl
set_option maxRecDepth 20000 in
theorem x_co_34 : Cond.code (x_y 34) (x_cd 34) (x_ml 34) (x_rt 34) ∈ x_tb := x_i4 (List.mem_of_getElem? (i := 150) rfl) rfl
set_option maxRecDepth 20000 in
theorem x_co_35 : Cond.code (x_y 35) (x_cd 35) (x_ml 35) (x_rt 35) ∈ x_tb := x_i4 (List.mem_of_getElem? (i := 154) rfl) rfl
set_option maxRecDepth 20000 in
theorem x_co_36 : Cond.code (x_y 36) (x_cd 36) (x_ml 36) (x_rt 36) ∈ x_tb := x_i4 (List.mem_of_getElem? (i := 158) rfl) rfl
set_option maxRecDepth 20000 in
theorem x_co_37 : Cond.code (x_y 37) (x_cd 37) (x_ml 37) (x_rt 37) ∈ x_tb := x_i1 (List.mem_of_getElem? (i := 179) rfl) rfl
set_option maxRecDepth 20000 in
theorem x_co_38 : Cond.code (x_y 38) (x_cd 38) (x_ml 38) (x_rt 38) ∈ x_tb := x_i3 (List.mem_of_getElem? (i := 13) rfl) rfl
set_option maxRecDepth 20000 in
theorem x_co_39 : Cond.code (x_y 39) (x_cd 39) (x_ml 39) (x_rt 39) ∈ x_tb := x_i3 (List.mem_of_getElem? (i := 159) rfl) rfl
set_option maxRecDepth 20000 in
theorem x_co_40 : Cond.code (x_y 40) (x_cd 40) (x_ml 40) (x_rt 40) ∈ x_tb := x_i3 (List.mem_of_getElem? (i := 163) rfl) rfl
set_option maxRecDepth 20000 in
theorem x_co_41 : Cond.code (x_y 41) (x_cd 41) (x_ml 41) (x_rt 41) ∈ x_tb := x_i3 (List.mem_of_getElem? (i := 194) rfl) rfl
set_option maxRecDepth 20000 in
theorem x_co_42 : Cond.code (x_y 42) (x_cd 42) (x_ml 42) (x_rt 42) ∈ x_tb := x_i3 (List.mem_of_getElem? (i := 182) rfl) rfl
set_option maxRecDepth 20000 in
theorem x_co_43 : Cond.code (x_y 43) (x_cd 43) (x_ml 43) (x_rt 43) ∈ x_tb := x_i3 (List.mem_of_getElem? (i := 171) rfl) rfl
set_option maxRecDepth 20000 in
theorem x_co_44 : Cond.code (x_y 44) (x_cd 44) (x_ml 44) (x_rt 44) ∈ x_tb := x_i3 (List.mem_of_getElem? (i := 228) rfl) rfl
set_option maxRecDepth 20000 in
theorem x_co_45 : Cond.code (x_y 45) (x_cd 45) (x_ml 45) (x_rt 45) ∈ x_tb := x_i3 (List.mem_of_getElem? (i := 208) rfl) rfl
set_option maxRecDepth 20000 in
theorem x_co_46 : Cond.code (x_y 46) (x_cd 46) (x_ml 46) (x_rt 46) ∈ x_tb := x_i3 (List.mem_of_getElem? (i := 167) rfl) rfl
set_option maxRecDepth 20000 in
theorem x_co_47 : Cond.code (x_y 47) (x_cd 47) (x_ml 47) (x_rt 47) ∈ x_tb := x_i3 (List.mem_of_getElem? (i := 186) rfl) rfl
set_option maxRecDepth 20000 in
theorem x_co_48 : Cond.code (x_y 48) (x_cd 48) (x_ml 48) (x_rt 48) ∈ x_tb := x_i3 (List.mem_of_getElem? (i := 200) rfl) rfl
set_option maxRecDepth 20000 in
theorem x_co_49 : Cond.code (x_y 49) (x_cd 49) (x_ml 49) (x_rt 49) ∈ x_tb := x_i3 (List.mem_of_getElem? (i := 204) rfl) rfl
set_option maxRecDepth 20000 in
theorem x_co_50 : Cond.code (x_y 50) (x_cd 50) (x_ml 50) (x_rt 50) ∈ x_tb := x_i3 (List.mem_of_getElem? (i := 216) rfl) rfl
set_option maxRecDepth 20000 in
theorem x_co_51 : Cond.code (x_y 51) (x_cd 51) (x_ml 51) (x_rt 51) ∈ x_tb := x_i3 (List.mem_of_getElem? (i := 220) rfl) rfl
set_option maxRecDepth 20000 in
theorem x_co_52 : Cond.code (x_y 52) (x_cd 52) (x_ml 52) (x_rt 52) ∈ x_tb := x_i3 (List.mem_of_getElem? (i := 224) rfl) rfl
set_option maxRecDepth 20000 in
theorem x_co_53 : Cond.code (x_y 53) (x_cd 53) (x_ml 53) (x_rt 53) ∈ x_tb := x_i1 (List.mem_of_getElem? (i := 36) rfl) rfl
set_option maxRecDepth 20000 in
theorem x_co_54 : Cond.code (x_y 54) (x_cd 54) (x_ml 54) (x_rt 54) ∈ x_tb := x_i2 (List.mem_of_getElem? (i := 114) rfl) rfl
set_option maxRecDepth 20000 in
theorem x_co_55 : Cond.code (x_y 55) (x_cd 55) (x_ml 55) (x_rt 55) ∈ x_tb := x_i2 (List.mem_of_getElem? (i := 102) rfl) rfl
set_option maxRecDepth 20000 in
theorem x_co_56 : Cond.code (x_y 56) (x_cd 56) (x_ml 56) (x_rt 56) ∈ x_tb := x_i2 (List.mem_of_getElem? (i := 98) rfl) rfl
set_option maxRecDepth 20000 in
theorem x_co_57 : Cond.code (x_y 57) (x_cd 57) (x_ml 57) (x_rt 57) ∈ x_tb := x_i2 (List.mem_of_getElem? (i := 127) rfl) rfl
set_option maxRecDepth 20000 in
theorem x_co_58 : Cond.code (x_y 58) (x_cd 58) (x_ml 58) (x_rt 58) ∈ x_tb := x_i2 (List.mem_of_getElem? (i := 106) rfl) rfl
set_option maxRecDepth 20000 in
theorem x_co_59 : Cond.code (x_y 59) (x_cd 59) (x_ml 59) (x_rt 59) ∈ x_tb := x_i5 (List.mem_of_getElem? (i := 12) rfl) rfl
set_option maxRecDepth 20000 in
theorem x_co_60 : Cond.code (x_y 60) (x_cd 60) (x_ml 60) (x_rt 60) ∈ x_tb := x_i1 (List.mem_of_getElem? (i := 148) rfl) rfl
set_option maxRecDepth 20000 in
theorem x_co_61 : Cond.code (x_y 61) (x_cd 61) (x_ml 61) (x_rt 61) ∈ x_tb := x_i3 (List.mem_of_getElem? (i := 1) rfl) rfl
set_option maxRecDepth 20000 in
theorem x_co_62 : Cond.code (x_y 62) (x_cd 62) (x_ml 62) (x_rt 62) ∈ x_tb := x_i3 (List.mem_of_getElem? (i := 85) rfl) rfl
set_option maxRecDepth 20000 in
theorem x_co_63 : Cond.code (x_y 63) (x_cd 63) (x_ml 63) (x_rt 63) ∈ x_tb := x_i3 (List.mem_of_getElem? (i := 21) rfl) rfl
set_option maxRecDepth 20000 in
theorem x_co_64 : Cond.code (x_y 64) (x_cd 64) (x_ml 64) (x_rt 64) ∈ x_tb := x_i3 (List.mem_of_getElem? (i := 24) rfl) rfl
set_option maxRecDepth 20000 in
theorem x_co_65 : Cond.code (x_y 65) (x_cd 65) (x_ml 65) (x_rt 65) ∈ x_tb := x_i3 (List.mem_of_getElem? (i := 88) rfl) rfl
set_option maxRecDepth 20000 in
theorem x_co_66 : Cond.code (x_y 66) (x_cd 66) (x_ml 66) (x_rt 66) ∈ x_tb := x_i3 (List.mem_of_getElem? (i := 17) rfl) rfl
set_option maxRecDepth 20000 in
theorem x_co_67 : Cond.code (x_y 67) (x_cd 67) (x_ml 67) (x_rt 67) ∈ x_tb := x_i3 (List.mem_of_getElem? (i := 28) rfl) rfl
set_option maxRecDepth 20000 in
theorem x_co_68 : Cond.code (x_y 68) (x_cd 68) (x_ml 68) (x_rt 68) ∈ x_tb := x_i3 (List.mem_of_getElem? (i := 32) rfl) rfl
set_option maxRecDepth 20000 in
theorem x_co_69 : Cond.code (x_y 69) (x_cd 69) (x_ml 69) (x_rt 69) ∈ x_tb := x_i3 (List.mem_of_getElem? (i := 92) rfl) rfl
set_option maxRecDepth 20000 in
theorem x_co_70 : Cond.code (x_y 70) (x_cd 70) (x_ml 70) (x_rt 70) ∈ x_tb := x_i3 (List.mem_of_getElem? (i := 99) rfl) rfl
set_option maxRecDepth 20000 in
theorem x_co_71 : Cond.code (x_y 71) (x_cd 71) (x_ml 71) (x_rt 71) ∈ x_tb := x_i2 (List.mem_of_getElem? (i := 56) rfl) rfl
set_option maxRecDepth 20000 in
theorem x_co_72 : Cond.code (x_y 72) (x_cd 72) (x_ml 72) (x_rt 72) ∈ x_tb := x_i4 (List.mem_of_getElem? (i := 182) rfl) rfl
set_option maxRecDepth 20000 in
theorem x_co_73 : Cond.code (x_y 73) (x_cd 73) (x_ml 73) (x_rt 73) ∈ x_tb := x_i4 (List.mem_of_getElem? (i := 199) rfl) rfl
set_option maxRecDepth 20000 in
theorem x_co_74 : Cond.code (x_y 74) (x_cd 74) (x_ml 74) (x_rt 74) ∈ x_tb := x_i4 (List.mem_of_getElem? (i := 191) rfl) rfl
set_option maxRecDepth 20000 in
theorem x_co_75 : Cond.code (x_y 75) (x_cd 75) (x_ml 75) (x_rt 75) ∈ x_tb := x_i4 (List.mem_of_getElem? (i := 186) rfl) rfl
set_option maxRecDepth 20000 in
theorem x_co_76 : Cond.code (x_y 76) (x_cd 76) (x_ml 76) (x_rt 76) ∈ x_tb := x_i1 (List.mem_of_getElem? (i := 22) rfl) rfl
set_option maxRecDepth 20000 in
theorem x_co_77 : Cond.code (x_y 77) (x_cd 77) (x_ml 77) (x_rt 77) ∈ x_tb := x_i2 (List.mem_of_getElem? (i := 91) rfl) rfl
set_option maxRecDepth 20000 in
theorem x_co_78 : Cond.code (x_y 78) (x_cd 78) (x_ml 78) (x_rt 78) ∈ x_tb := x_i2 (List.mem_of_getElem? (i := 110) rfl) rfl
set_option maxRecDepth 20000 in
theorem x_co_79 : Cond.code (x_y 79) (x_cd 79) (x_ml 79) (x_rt 79) ∈ x_tb := x_i2 (List.mem_of_getElem? (i := 118) rfl) rfl
set_option maxRecDepth 20000 in
theorem x_co_80 : Cond.code (x_y 80) (x_cd 80) (x_ml 80) (x_rt 80) ∈ x_tb := x_i2 (List.mem_of_getElem? (i := 123) rfl) rfl
set_option maxRecDepth 20000 in
theorem x_co_81 : Cond.code (x_y 81) (x_cd 81) (x_ml 81) (x_rt 81) ∈ x_tb := x_i2 (List.mem_of_getElem? (i := 131) rfl) rfl
set_option maxRecDepth 20000 in
theorem x_co_82 : Cond.code (x_y 82) (x_cd 82) (x_ml 82) (x_rt 82) ∈ x_tb := x_i2 (List.mem_of_getElem? (i := 135) rfl) rfl
set_option maxRecDepth 20000 in
theorem x_co_83 : Cond.code (x_y 83) (x_cd 83) (x_ml 83) (x_rt 83) ∈ x_tb := x_i2 (List.mem_of_getElem? (i := 143) rfl) rfl
set_option maxRecDepth 20000 in
theorem x_co_84 : Cond.code (x_y 84) (x_cd 84) (x_ml 84) (x_rt 84) ∈ x_tb := x_i2 (List.mem_of_getElem? (i := 233) rfl) rfl
set_option maxRecDepth 20000 in
theorem x_co_85 : Cond.code (x_y 85) (x_cd 85) (x_ml 85) (x_rt 85) ∈ x_tb := x_i2 (List.mem_of_getElem? (i := 237) rfl) rfl
set_option maxRecDepth 20000 in
theorem x_co_86 : Cond.code (x_y 86) (x_cd 86) (x_ml 86) (x_rt 86) ∈ x_tb := x_i3 (List.mem_of_getElem? (i := 5) rfl) rfl
set_option maxRecDepth 20000 in
theorem x_co_87 : Cond.code (x_y 87) (x_cd 87) (x_ml 87) (x_rt 87) ∈ x_tb := x_i3 (List.mem_of_getElem? (i := 9) rfl) rfl
set_option maxRecDepth 20000 in
theorem x_co_88 : Cond.code (x_y 88) (x_cd 88) (x_ml 88) (x_rt 88) ∈ x_tb := x_i3 (List.mem_of_getElem? (i := 237) rfl) rfl
set_option maxRecDepth 20000 in
theorem x_co_89 : Cond.code (x_y 89) (x_cd 89) (x_ml 89) (x_rt 89) ∈ x_tb := x_i4 (List.mem_of_getElem? (i := 1) rfl) rfl
set_option maxRecDepth 20000 in
theorem x_co_90 : Cond.code (x_y 90) (x_cd 90) (x_ml 90) (x_rt 90) ∈ x_tb := x_i4 (List.mem_of_getElem? (i := 6) rfl) rfl
set_option maxRecDepth 20000 in
theorem x_co_91 : Cond.code (x_y 91) (x_cd 91) (x_ml 91) (x_rt 91) ∈ x_tb := x_i4 (List.mem_of_getElem? (i := 14) rfl) rfl
set_option maxRecDepth 20000 in
theorem x_co_92 : Cond.code (x_y 92) (x_cd 92) (x_ml 92) (x_rt 92) ∈ x_tb := x_i4 (List.mem_of_getElem? (i := 19) rfl) rfl
set_option maxRecDepth 20000 in
theorem x_co_93 : Cond.code (x_y 93) (x_cd 93) (x_ml 93) (x_rt 93) ∈ x_tb := x_i4 (List.mem_of_getElem? (i := 25) rfl) rfl
set_option maxRecDepth 20000 in
theorem x_co_94 : Cond.code (x_y 94) (x_cd 94) (x_ml 94) (x_rt 94) ∈ x_tb := x_i4 (List.mem_of_getElem? (i := 37) rfl) rfl
set_option maxRecDepth 20000 in
theorem x_co_95 : Cond.code (x_y 95) (x_cd 95) (x_ml 95) (x_rt 95) ∈ x_tb := x_i4 (List.mem_of_getElem? (i := 41) rfl) rfl
set_option maxRecDepth 20000 in
theorem x_co_96 : Cond.code (x_y 96) (x_cd 96) (x_ml 96) (x_rt 96) ∈ x_tb := x_i4 (List.mem_of_getElem? (i := 45) rfl) rfl
set_option maxRecDepth 20000 in
theorem x_co_97 : Cond.code (x_y 97) (x_cd 97) (x_ml 97) (x_rt 97) ∈ x_tb := x_i4 (List.mem_of_getElem? (i := 57) rfl) rfl
set_option maxRecDepth 20000 in
theorem x_co_98 : Cond.code (x_y 98) (x_cd 98) (x_ml 98) (x_rt 98) ∈ x_tb := x_i4 (List.mem_of_getElem? (i := 74) rfl) rfl
set_option maxRecDepth 20000 in
theorem x_co_99 : Cond.code (x_y 99) (x_cd 99) (x_ml 99) (x_rt 99) ∈ x_tb := x_i4 (List.mem_of_getElem? (i := 78) rfl) rfl
set_option maxRecDepth 20000 in
theorem x_co_100 : Cond.code (x_y 100) (x_cd 100) (x_ml 100) (x_rt 100) ∈ x_tb := x_i4 (List.mem_of_getElem? (i := 82) rfl) rfl
set_option maxRecDepth 20000 in
theorem x_co_101 : Cond.code (x_y 101) (x_cd 101) (x_ml 101) (x_rt 101) ∈ x_tb := x_i4 (List.mem_of_getElem? (i := 89) rfl) rfl
set_option maxRecDepth 20000 in
theorem x_co_102 : Cond.code (x_y 102) (x_cd 102) (x_ml 102) (x_rt 102) ∈ x_tb := x_i4 (List.mem_of_getElem? (i := 101) rfl) rfl
set_option maxRecDepth 20000 in
theorem x_co_103 : Cond.code (x_y 103) (x_cd 103) (x_ml 103) (x_rt 103) ∈ x_tb := x_i4 (List.mem_of_getElem? (i := 105) rfl) rfl
set_option maxRecDepth 20000 in
theorem x_co_104 : Cond.code (x_y 104) (x_cd 104) (x_ml 104) (x_rt 104) ∈ x_tb := x_i4 (List.mem_of_getElem? (i := 109) rfl) rfl
set_option maxRecDepth 20000 in
theorem x_co_105 : Cond.code (x_y 105) (x_cd 105) (x_ml 105) (x_rt 105) ∈ x_tb := x_i4 (List.mem_of_getElem? (i := 119) rfl) rfl
set_option maxRecDepth 20000 in
theorem x_co_106 : Cond.code (x_y 106) (x_cd 106) (x_ml 106) (x_rt 106) ∈ x_tb := x_i4 (List.mem_of_getElem? (i := 164) rfl) rfl
set_option maxRecDepth 20000 in
theorem x_co_107 : Cond.code (x_y 107) (x_cd 107) (x_ml 107) (x_rt 107) ∈ x_tb := x_i4 (List.mem_of_getElem? (i := 171) rfl) rfl
set_option maxRecDepth 20000 in
theorem x_co_108 : Cond.code (x_y 108) (x_cd 108) (x_ml 108) (x_rt 108) ∈ x_tb := x_i4 (List.mem_of_getElem? (i := 195) rfl) rfl
set_option maxRecDepth 20000 in
theorem x_co_109 : Cond.code (x_y 109) (x_cd 109) (x_ml 109) (x_rt 109) ∈ x_tb := x_i4 (List.mem_of_getElem? (i := 204) rfl) rfl
set_option maxRecDepth 20000 in
theorem x_co_110 : Cond.code (x_y 110) (x_cd 110) (x_ml 110) (x_rt 110) ∈ x_tb := x_i4 (List.mem_of_getElem? (i := 208) rfl) rfl
set_option maxRecDepth 20000 in
theorem x_co_111 : Cond.code (x_y 111) (x_cd 111) (x_ml 111) (x_rt 111) ∈ x_tb := x_i4 (List.mem_of_getElem? (i := 212) rfl) rfl
set_option maxRecDepth 20000 in
theorem x_co_112 : Cond.code (x_y 112) (x_cd 112) (x_ml 112) (x_rt 112) ∈ x_tb := x_i4 (List.mem_of_getElem? (i := 216) rfl) rfl
set_option maxRecDepth 20000 in
theorem x_co_113 : Cond.code (x_y 113) (x_cd 113) (x_ml 113) (x_rt 113) ∈ x_tb := x_i4 (List.mem_of_getElem? (i := 228) rfl) rfl
set_option maxRecDepth 20000 in
theorem x_co_114 : Cond.code (x_y 114) (x_cd 114) (x_ml 114) (x_rt 114) ∈ x_tb := x_i4 (List.mem_of_getElem? (i := 232) rfl) rfl
set_option maxRecDepth 20000 in
theorem x_co_115 : Cond.code (x_y 115) (x_cd 115) (x_ml 115) (x_rt 115) ∈ x_tb := x_i4 (List.mem_of_getElem? (i := 236) rfl) rfl
set_option maxRecDepth 20000 in
theorem x_co_116 : Cond.code (x_y 116) (x_cd 116) (x_ml 116) (x_rt 116) ∈ x_tb := x_i5 (List.mem_of_getElem? (i := 4) rfl) rfl
set_option maxRecDepth 20000 in
theorem x_co_117 : Cond.code (x_y 117) (x_cd 117) (x_ml 117) (x_rt 117) ∈ x_tb := x_i5 (List.mem_of_getElem? (i := 17) rfl) rfl
set_option maxRecDepth 20000 in
theorem x_co_118 : Cond.code (x_y 118) (x_cd 118) (x_ml 118) (x_rt 118) ∈ x_tb := x_i5 (List.mem_of_getElem? (i := 21) rfl) rfl
set_option maxRecDepth 20000 in
theorem x_co_119 : Cond.code (x_y 119) (x_cd 119) (x_ml 119) (x_rt 119) ∈ x_tb := x_i2 (List.mem_of_getElem? (i := 94) rfl) rfl
set_option maxRecDepth 20000 in
theorem x_co_120 : Cond.code (x_y 120) (x_cd 120) (x_ml 120) (x_rt 120) ∈ x_tb := x_i2 (List.mem_of_getElem? (i := 138) rfl) rfl
set_option maxRecDepth 20000 in
theorem x_co_121 : Cond.code (x_y 121) (x_cd 121) (x_ml 121) (x_rt 121) ∈ x_tb := x_i4 (List.mem_of_getElem? (i := 167) rfl) rfl
set_option maxRecDepth 20000 in
theorem x_co_122 : Cond.code (x_y 122) (x_cd 122) (x_ml 122) (x_rt 122) ∈ x_tb := x_i4 (List.mem_of_getElem? (i := 123) rfl) rfl
set_option maxRecDepth 20000 in
theorem x_co_123 : Cond.code (x_y 123) (x_cd 123) (x_ml 123) (x_rt 123) ∈ x_tb := x_i4 (List.mem_of_getElem? (i := 29) rfl) rfl
set_option maxRecDepth 20000 in
theorem x_co_124 : Cond.code (x_y 124) (x_cd 124) (x_ml 124) (x_rt 124) ∈ x_tb := x_i4 (List.mem_of_getElem? (i := 33) rfl) rfl
set_option maxRecDepth 20000 in
theorem x_co_125 : Cond.code (x_y 125) (x_cd 125) (x_ml 125) (x_rt 125) ∈ x_tb := x_i4 (List.mem_of_getElem? (i := 69) rfl) rfl
set_option maxRecDepth 20000 in
theorem x_co_126 : Cond.code (x_y 126) (x_cd 126) (x_ml 126) (x_rt 126) ∈ x_tb := x_i4 (List.mem_of_getElem? (i := 65) rfl) rfl
set_option maxRecDepth 20000 in
theorem x_co_127 : Cond.code (x_y 127) (x_cd 127) (x_ml 127) (x_rt 127) ∈ x_tb := x_i4 (List.mem_of_getElem? (i := 61) rfl) rfl
set_option maxRecDepth 20000 in
theorem x_co_128 : Cond.code (x_y 128) (x_cd 128) (x_ml 128) (x_rt 128) ∈ x_tb := x_i4 (List.mem_of_getElem? (i := 93) rfl) rfl
set_option maxRecDepth 20000 in
theorem x_co_129 : Cond.code (x_y 129) (x_cd 129) (x_ml 129) (x_rt 129) ∈ x_tb := x_i4 (List.mem_of_getElem? (i := 97) rfl) rfl
set_option maxRecDepth 20000 in
theorem x_co_130 : Cond.code (x_y 130) (x_cd 130) (x_ml 130) (x_rt 130) ∈ x_tb := x_i4 (List.mem_of_getElem? (i := 85) rfl) rfl
set_option maxRecDepth 20000 in
theorem x_co_131 : Cond.code (x_y 131) (x_cd 131) (x_ml 131) (x_rt 131) ∈ x_tb := x_i4 (List.mem_of_getElem? (i := 52) rfl) rfl
set_option maxRecDepth 20000 in
theorem x_co_132 : Cond.code (x_y 132) (x_cd 132) (x_ml 132) (x_rt 132) ∈ x_tb := x_i4 (List.mem_of_getElem? (i := 49) rfl) rfl
set_option maxRecDepth 20000 in
theorem x_co_133 : Cond.code (x_y 133) (x_cd 133) (x_ml 133) (x_rt 133) ∈ x_tb := x_i4 (List.mem_of_getElem? (i := 220) rfl) rfl
set_option maxRecDepth 20000 in
theorem x_co_134 : Cond.code (x_y 134) (x_cd 134) (x_ml 134) (x_rt 134) ∈ x_tb := x_i4 (List.mem_of_getElem? (i := 224) rfl) rfl
set_option maxRecDepth 20000 in
theorem x_co_135 : Cond.code (x_y 135) (x_cd 135) (x_ml 135) (x_rt 135) ∈ x_tb := x_i5 (List.mem_of_getElem? (i := 0) rfl) rfl
set_option maxRecDepth 20000 in
theorem x_co_136 : Cond.code (x_y 136) (x_cd 136) (x_ml 136) (x_rt 136) ∈ x_tb := x_i5 (List.mem_of_getElem? (i := 26) rfl) rfl
set_option maxRecDepth 20000 in
theorem x_co_137 : Cond.code (x_y 137) (x_cd 137) (x_ml 137) (x_rt 137) ∈ x_tb := x_i5 (List.mem_of_getElem? (i := 30) rfl) rfl
set_option maxRecDepth 20000 in
theorem x_co_138 : Cond.code (x_y 138) (x_cd 138) (x_ml 138) (x_rt 138) ∈ x_tb := x_i7 (List.mem_of_getElem? (i := 74) rfl) rfl
set_option maxRecDepth 20000 in
theorem x_co_139 : Cond.code (x_y 139) (x_cd 139) (x_ml 139) (x_rt 139) ∈ x_tb := x_i5 (List.mem_of_getElem? (i := 135) rfl) rfl
set_option maxRecDepth 20000 in
theorem x_co_140 : Cond.code (x_y 140) (x_cd 140) (x_ml 140) (x_rt 140) ∈ x_tb := x_i5 (List.mem_of_getElem? (i := 166) rfl) rfl
set_option maxRecDepth 20000 in
theorem x_co_141 : Cond.code (x_y 141) (x_cd 141) (x_ml 141) (x_rt 141) ∈ x_tb := x_i5 (List.mem_of_getElem? (i := 147) rfl) rfl
set_option maxRecDepth 20000 in
theorem x_co_142 : Cond.code (x_y 142) (x_cd 142) (x_ml 142) (x_rt 142) ∈ x_tb := x_i5 (List.mem_of_getElem? (i := 163) rfl) rfl
set_option maxRecDepth 20000 in
theorem x_co_143 : Cond.code (x_y 143) (x_cd 143) (x_ml 143) (x_rt 143) ∈ x_tb := x_i6 (List.mem_of_getElem? (i := 142) rfl) rfl
set_option maxRecDepth 20000 in
theorem x_co_144 : Cond.code (x_y 144) (x_cd 144) (x_ml 144) (x_rt 144) ∈ x_tb := x_i6 (List.mem_of_getElem? (i := 98) rfl) rfl
set_option maxRecDepth 20000 in
theorem x_co_145 : Cond.code (x_y 145) (x_cd 145) (x_ml 145) (x_rt 145) ∈ x_tb := x_i6 (List.mem_of_getElem? (i := 146) rfl) rfl
set_option maxRecDepth 20000 in
theorem x_co_146 : Cond.code (x_y 146) (x_cd 146) (x_ml 146) (x_rt 146) ∈ x_tb := x_i5 (List.mem_of_getElem? (i := 132) rfl) rfl
set_option maxRecDepth 20000 in
theorem x_co_147 : Cond.code (x_y 147) (x_cd 147) (x_ml 147) (x_rt 147) ∈ x_tb := x_i5 (List.mem_of_getElem? (i := 139) rfl) rfl
set_option maxRecDepth 20000 in
theorem x_co_148 : Cond.code (x_y 148) (x_cd 148) (x_ml 148) (x_rt 148) ∈ x_tb := x_i5 (List.mem_of_getElem? (i := 143) rfl) rfl
set_option maxRecDepth 20000 in
theorem x_co_149 : Cond.code (x_y 149) (x_cd 149) (x_ml 149) (x_rt 149) ∈ x_tb := x_i5 (List.mem_of_getElem? (i := 151) rfl) rfl
set_option maxRecDepth 20000 in
theorem x_co_150 : Cond.code (x_y 150) (x_cd 150) (x_ml 150) (x_rt 150) ∈ x_tb := x_i6 (List.mem_of_getElem? (i := 154) rfl) rfl
set_option maxRecDepth 20000 in
theorem x_co_151 : Cond.code (x_y 151) (x_cd 151) (x_ml 151) (x_rt 151) ∈ x_tb := x_i5 (List.mem_of_getElem? (i := 155) rfl) rfl
set_option maxRecDepth 20000 in
theorem x_co_152 : Cond.code (x_y 152) (x_cd 152) (x_ml 152) (x_rt 152) ∈ x_tb := x_i5 (List.mem_of_getElem? (i := 159) rfl) rfl
set_option maxRecDepth 20000 in
theorem x_co_153 : Cond.code (x_y 153) (x_cd 153) (x_ml 153) (x_rt 153) ∈ x_tb := x_i6 (List.mem_of_getElem? (i := 90) rfl) rfl
set_option maxRecDepth 20000 in
theorem x_co_154 : Cond.code (x_y 154) (x_cd 154) (x_ml 154) (x_rt 154) ∈ x_tb := x_i5 (List.mem_of_getElem? (i := 170) rfl) rfl
set_option maxRecDepth 20000 in
theorem x_co_155 : Cond.code (x_y 155) (x_cd 155) (x_ml 155) (x_rt 155) ∈ x_tb := x_i5 (List.mem_of_getElem? (i := 178) rfl) rfl
set_option maxRecDepth 20000 in
theorem x_co_156 : Cond.code (x_y 156) (x_cd 156) (x_ml 156) (x_rt 156) ∈ x_tb := x_i5 (List.mem_of_getElem? (i := 174) rfl) rfl
set_option maxRecDepth 20000 in
theorem x_co_157 : Cond.code (x_y 157) (x_cd 157) (x_ml 157) (x_rt 157) ∈ x_tb := x_i5 (List.mem_of_getElem? (i := 182) rfl) rfl
set_option maxRecDepth 20000 in
theorem x_co_158 : Cond.code (x_y 158) (x_cd 158) (x_ml 158) (x_rt 158) ∈ x_tb := x_i5 (List.mem_of_getElem? (i := 198) rfl) rfl
set_option maxRecDepth 20000 in
theorem x_co_159 : Cond.code (x_y 159) (x_cd 159) (x_ml 159) (x_rt 159) ∈ x_tb := x_i5 (List.mem_of_getElem? (i := 205) rfl) rfl
set_option maxRecDepth 20000 in
theorem x_co_160 : Cond.code (x_y 160) (x_cd 160) (x_ml 160) (x_rt 160) ∈ x_tb := x_i5 (List.mem_of_getElem? (i := 201) rfl) rfl
set_option maxRecDepth 20000 in
theorem x_co_161 : Cond.code (x_y 161) (x_cd 161) (x_ml 161) (x_rt 161) ∈ x_tb := x_i5 (List.mem_of_getElem? (i := 194) rfl) rfl
set_option maxRecDepth 20000 in
theorem x_co_162 : Cond.code (x_y 162) (x_cd 162) (x_ml 162) (x_rt 162) ∈ x_tb := x_i5 (List.mem_of_getElem? (i := 219) rfl) rfl
set_option maxRecDepth 20000 in
theorem x_co_163 : Cond.code (x_y 163) (x_cd 163) (x_ml 163) (x_rt 163) ∈ x_tb := x_i5 (List.mem_of_getElem? (i := 222) rfl) rfl
set_option maxRecDepth 20000 in
theorem x_co_164 : Cond.code (x_y 164) (x_cd 164) (x_ml 164) (x_rt 164) ∈ x_tb := x_i5 (List.mem_of_getElem? (i := 216) rfl) rfl
set_option maxRecDepth 20000 in
theorem x_co_165 : Cond.code (x_y 165) (x_cd 165) (x_ml 165) (x_rt 165) ∈ x_tb := x_i5 (List.mem_of_getElem? (i := 225) rfl) rfl
set_option maxRecDepth 20000 in
theorem x_co_166 : Cond.code (x_y 166) (x_cd 166) (x_ml 166) (x_rt 166) ∈ x_tb := x_i6 (List.mem_of_getElem? (i := 1) rfl) rfl
set_option maxRecDepth 20000 in
theorem x_co_167 : Cond.code (x_y 167) (x_cd 167) (x_ml 167) (x_rt 167) ∈ x_tb := x_i6 (List.mem_of_getElem? (i := 25) rfl) rfl
set_option maxRecDepth 20000 in
theorem x_co_168 : Cond.code (x_y 168) (x_cd 168) (x_ml 168) (x_rt 168) ∈ x_tb := x_i6 (List.mem_of_getElem? (i := 29) rfl) rfl
set_option maxRecDepth 20000 in
theorem x_co_169 : Cond.code (x_y 169) (x_cd 169) (x_ml 169) (x_rt 169) ∈ x_tb := x_i6 (List.mem_of_getElem? (i := 33) rfl) rfl
set_option maxRecDepth 20000 in
theorem x_co_170 : Cond.code (x_y 170) (x_cd 170) (x_ml 170) (x_rt 170) ∈ x_tb := x_i6 (List.mem_of_getElem? (i := 21) rfl) rfl
set_option maxRecDepth 20000 in
theorem x_co_171 : Cond.code (x_y 171) (x_cd 171) (x_ml 171) (x_rt 171) ∈ x_tb := x_i6 (List.mem_of_getElem? (i := 41) rfl) rfl
set_option maxRecDepth 20000 in
theorem x_co_172 : Cond.code (x_y 172) (x_cd 172) (x_ml 172) (x_rt 172) ∈ x_tb := x_i6 (List.mem_of_getElem? (i := 37) rfl) rfl
set_option maxRecDepth 20000 in
theorem x_co_173 : Cond.code (x_y 173) (x_cd 173) (x_ml 173) (x_rt 173) ∈ x_tb := x_i6 (List.mem_of_getElem? (i := 13) rfl) rfl
set_option maxRecDepth 20000 in
theorem x_co_174 : Cond.code (x_y 174) (x_cd 174) (x_ml 174) (x_rt 174) ∈ x_tb := x_i6 (List.mem_of_getElem? (i := 9) rfl) rfl
set_option maxRecDepth 20000 in
theorem x_co_175 : Cond.code (x_y 175) (x_cd 175) (x_ml 175) (x_rt 175) ∈ x_tb := x_i6 (List.mem_of_getElem? (i := 17) rfl) rfl
set_option maxRecDepth 20000 in
theorem x_co_176 : Cond.code (x_y 176) (x_cd 176) (x_ml 176) (x_rt 176) ∈ x_tb := x_i6 (List.mem_of_getElem? (i := 5) rfl) rfl
set_option maxRecDepth 20000 in
theorem x_co_177 : Cond.code (x_y 177) (x_cd 177) (x_ml 177) (x_rt 177) ∈ x_tb := x_i6 (List.mem_of_getElem? (i := 45) rfl) rfl
set_option maxRecDepth 20000 in
theorem x_co_178 : Cond.code (x_y 178) (x_cd 178) (x_ml 178) (x_rt 178) ∈ x_tb := x_i5 (List.mem_of_getElem? (i := 237) rfl) rfl
set_option maxRecDepth 20000 in
theorem x_co_179 : Cond.code (x_y 179) (x_cd 179) (x_ml 179) (x_rt 179) ∈ x_tb := x_i5 (List.mem_of_getElem? (i := 233) rfl) rfl
set_option maxRecDepth 20000 in
theorem x_co_180 : Cond.code (x_y 180) (x_cd 180) (x_ml 180) (x_rt 180) ∈ x_tb := x_i5 (List.mem_of_getElem? (i := 213) rfl) rfl
set_option maxRecDepth 20000 in
theorem x_co_181 : Cond.code (x_y 181) (x_cd 181) (x_ml 181) (x_rt 181) ∈ x_tb := x_i5 (List.mem_of_getElem? (i := 229) rfl) rfl
set_option maxRecDepth 20000 in
theorem x_co_182 : Cond.code (x_y 182) (x_cd 182) (x_ml 182) (x_rt 182) ∈ x_tb := x_i5 (List.mem_of_getElem? (i := 209) rfl) rfl
set_option maxRecDepth 20000 in
theorem x_co_183 : Cond.code (x_y 183) (x_cd 183) (x_ml 183) (x_rt 183) ∈ x_tb := x_i5 (List.mem_of_getElem? (i := 190) rfl) rfl
set_option maxRecDepth 20000 in
theorem x_co_184 : Cond.code (x_y 184) (x_cd 184) (x_ml 184) (x_rt 184) ∈ x_tb := x_i5 (List.mem_of_getElem? (i := 186) rfl) rfl
set_option maxRecDepth 20000 in
theorem x_co_185 : Cond.code (x_y 185) (x_cd 185) (x_ml 185) (x_rt 185) ∈ x_tb := x_i6 (List.mem_of_getElem? (i := 50) rfl) rfl
set_option maxRecDepth 20000 in
theorem x_co_186 : Cond.code (x_y 186) (x_cd 186) (x_ml 186) (x_rt 186) ∈ x_tb := x_i6 (List.mem_of_getElem? (i := 58) rfl) rfl
set_option maxRecDepth 20000 in
theorem x_co_187 : Cond.code (x_y 187) (x_cd 187) (x_ml 187) (x_rt 187) ∈ x_tb := x_i6 (List.mem_of_getElem? (i := 54) rfl) rfl
set_option maxRecDepth 20000 in
theorem x_co_188 : Cond.code (x_y 188) (x_cd 188) (x_ml 188) (x_rt 188) ∈ x_tb := x_i6 (List.mem_of_getElem? (i := 82) rfl) rfl
set_option maxRecDepth 20000 in
theorem x_co_189 : Cond.code (x_y 189) (x_cd 189) (x_ml 189) (x_rt 189) ∈ x_tb := x_i6 (List.mem_of_getElem? (i := 78) rfl) rfl
set_option maxRecDepth 20000 in
theorem x_co_190 : Cond.code (x_y 190) (x_cd 190) (x_ml 190) (x_rt 190) ∈ x_tb := x_i6 (List.mem_of_getElem? (i := 74) rfl) rfl
set_option maxRecDepth 20000 in
theorem x_co_191 : Cond.code (x_y 191) (x_cd 191) (x_ml 191) (x_rt 191) ∈ x_tb := x_i6 (List.mem_of_getElem? (i := 70) rfl) rfl
set_option maxRecDepth 20000 in
theorem x_co_192 : Cond.code (x_y 192) (x_cd 192) (x_ml 192) (x_rt 192) ∈ x_tb := x_i6 (List.mem_of_getElem? (i := 66) rfl) rfl
set_option maxRecDepth 20000 in
theorem x_co_193 : Cond.code (x_y 193) (x_cd 193) (x_ml 193) (x_rt 193) ∈ x_tb := x_i6 (List.mem_of_getElem? (i := 62) rfl) rfl
set_option maxRecDepth 20000 in
theorem x_co_194 : Cond.code (x_y 194) (x_cd 194) (x_ml 194) (x_rt 194) ∈ x_tb := x_i6 (List.mem_of_getElem? (i := 112) rfl) rfl
set_option maxRecDepth 20000 in
theorem x_co_195 : Cond.code (x_y 195) (x_cd 195) (x_ml 195) (x_rt 195) ∈ x_tb := x_i6 (List.mem_of_getElem? (i := 109) rfl) rfl
set_option maxRecDepth 20000 in
theorem x_co_196 : Cond.code (x_y 196) (x_cd 196) (x_ml 196) (x_rt 196) ∈ x_tb := x_i6 (List.mem_of_getElem? (i := 117) rfl) rfl
set_option maxRecDepth 20000 in
theorem x_co_197 : Cond.code (x_y 197) (x_cd 197) (x_ml 197) (x_rt 197) ∈ x_tb := x_i6 (List.mem_of_getElem? (i := 106) rfl) rfl
set_option maxRecDepth 20000 in
theorem x_co_198 : Cond.code (x_y 198) (x_cd 198) (x_ml 198) (x_rt 198) ∈ x_tb := x_i6 (List.mem_of_getElem? (i := 94) rfl) rfl
set_option maxRecDepth 20000 in
theorem x_co_199 : Cond.code (x_y 199) (x_cd 199) (x_ml 199) (x_rt 199) ∈ x_tb := x_i6 (List.mem_of_getElem? (i := 102) rfl) rfl
set_option maxRecDepth 20000 in
theorem x_co_200 : Cond.code (x_y 200) (x_cd 200) (x_ml 200) (x_rt 200) ∈ x_tb := x_i6 (List.mem_of_getElem? (i := 121) rfl) rfl
set_option maxRecDepth 20000 in
theorem x_co_201 : Cond.code (x_y 201) (x_cd 201) (x_ml 201) (x_rt 201) ∈ x_tb := x_i6 (List.mem_of_getElem? (i := 86) rfl) rfl
set_option maxRecDepth 20000 in
theorem x_co_202 : Cond.code (x_y 202) (x_cd 202) (x_ml 202) (x_rt 202) ∈ x_tb := x_i6 (List.mem_of_getElem? (i := 129) rfl) rfl
set_option maxRecDepth 20000 in
theorem x_co_203 : Cond.code (x_y 203) (x_cd 203) (x_ml 203) (x_rt 203) ∈ x_tb := x_i6 (List.mem_of_getElem? (i := 125) rfl) rfl
set_option maxRecDepth 20000 in
theorem x_co_204 : Cond.code (x_y 204) (x_cd 204) (x_ml 204) (x_rt 204) ∈ x_tb := x_i6 (List.mem_of_getElem? (i := 133) rfl) rfl
set_option maxRecDepth 20000 in
theorem x_co_205 : Cond.code (x_y 205) (x_cd 205) (x_ml 205) (x_rt 205) ∈ x_tb := x_i6 (List.mem_of_getElem? (i := 150) rfl) rfl
set_option maxRecDepth 20000 in
theorem x_co_206 : Cond.code (x_y 206) (x_cd 206) (x_ml 206) (x_rt 206) ∈ x_tb := x_i6 (List.mem_of_getElem? (i := 158) rfl) rfl
set_option maxRecDepth 20000 in
theorem x_co_207 : Cond.code (x_y 207) (x_cd 207) (x_ml 207) (x_rt 207) ∈ x_tb := x_i6 (List.mem_of_getElem? (i := 138) rfl) rfl
set_option maxRecDepth 20000 in
theorem x_co_208 : Cond.code (x_y 208) (x_cd 208) (x_ml 208) (x_rt 208) ∈ x_tb := x_i6 (List.mem_of_getElem? (i := 162) rfl) rfl
set_option maxRecDepth 20000 in
theorem x_co_209 : Cond.code (x_y 209) (x_cd 209) (x_ml 209) (x_rt 209) ∈ x_tb := x_i6 (List.mem_of_getElem? (i := 166) rfl) rfl
set_option maxRecDepth 20000 in
theorem x_co_210 : Cond.code (x_y 210) (x_cd 210) (x_ml 210) (x_rt 210) ∈ x_tb := x_i6 (List.mem_of_getElem? (i := 176) rfl) rfl
set_option maxRecDepth 20000 in
theorem x_co_211 : Cond.code (x_y 211) (x_cd 211) (x_ml 211) (x_rt 211) ∈ x_tb := x_i6 (List.mem_of_getElem? (i := 170) rfl) rfl
set_option maxRecDepth 20000 in
theorem x_co_212 : Cond.code (x_y 212) (x_cd 212) (x_ml 212) (x_rt 212) ∈ x_tb := x_i6 (List.mem_of_getElem? (i := 185) rfl) rfl
set_option maxRecDepth 20000 in
theorem x_co_213 : Cond.code (x_y 213) (x_cd 213) (x_ml 213) (x_rt 213) ∈ x_tb := x_i6 (List.mem_of_getElem? (i := 189) rfl) rfl
set_option maxRecDepth 20000 in
theorem x_co_214 : Cond.code (x_y 214) (x_cd 214) (x_ml 214) (x_rt 214) ∈ x_tb := x_i6 (List.mem_of_getElem? (i := 193) rfl) rfl
set_option maxRecDepth 20000 in
theorem x_co_215 : Cond.code (x_y 215) (x_cd 215) (x_ml 215) (x_rt 215) ∈ x_tb := x_i6 (List.mem_of_getElem? (i := 181) rfl) rfl
set_option maxRecDepth 20000 in
theorem x_co_216 : Cond.code (x_y 216) (x_cd 216) (x_ml 216) (x_rt 216) ∈ x_tb := x_i6 (List.mem_of_getElem? (i := 197) rfl) rfl
set_option maxRecDepth 20000 in
theorem x_co_217 : Cond.code (x_y 217) (x_cd 217) (x_ml 217) (x_rt 217) ∈ x_tb := x_i6 (List.mem_of_getElem? (i := 201) rfl) rfl
set_option maxRecDepth 20000 in
theorem x_co_218 : Cond.code (x_y 218) (x_cd 218) (x_ml 218) (x_rt 218) ∈ x_tb := x_i6 (List.mem_of_getElem? (i := 205) rfl) rfl
set_option maxRecDepth 20000 in
theorem x_co_219 : Cond.code (x_y 219) (x_cd 219) (x_ml 219) (x_rt 219) ∈ x_tb := x_i6 (List.mem_of_getElem? (i := 209) rfl) rfl
set_option maxRecDepth 20000 in
theorem x_co_220 : Cond.code (x_y 220) (x_cd 220) (x_ml 220) (x_rt 220) ∈ x_tb := x_i6 (List.mem_of_getElem? (i := 213) rfl) rfl
set_option maxRecDepth 20000 in
theorem x_co_221 : Cond.code (x_y 221) (x_cd 221) (x_ml 221) (x_rt 221) ∈ x_tb := x_i6 (List.mem_of_getElem? (i := 217) rfl) rfl
set_option maxRecDepth 20000 in
theorem x_co_222 : Cond.code (x_y 222) (x_cd 222) (x_ml 222) (x_rt 222) ∈ x_tb := x_i6 (List.mem_of_getElem? (i := 225) rfl) rfl
set_option maxRecDepth 20000 in
theorem x_co_223 : Cond.code (x_y 223) (x_cd 223) (x_ml 223) (x_rt 223) ∈ x_tb := x_i6 (List.mem_of_getElem? (i := 221) rfl) rfl
set_option maxRecDepth 20000 in
theorem x_co_224 : Cond.code (x_y 224) (x_cd 224) (x_ml 224) (x_rt 224) ∈ x_tb := x_i7 (List.mem_of_getElem? (i := 5) rfl) rfl
set_option maxRecDepth 20000 in
theorem x_co_225 : Cond.code (x_y 225) (x_cd 225) (x_ml 225) (x_rt 225) ∈ x_tb := x_i7 (List.mem_of_getElem? (i := 9) rfl) rfl
set_option maxRecDepth 20000 in
theorem x_co_226 : Cond.code (x_y 226) (x_cd 226) (x_ml 226) (x_rt 226) ∈ x_tb := x_i7 (List.mem_of_getElem? (i := 1) rfl) rfl
set_option maxRecDepth 20000 in
theorem x_co_227 : Cond.code (x_y 227) (x_cd 227) (x_ml 227) (x_rt 227) ∈ x_tb := x_i6 (List.mem_of_getElem? (i := 233) rfl) rfl
set_option maxRecDepth 20000 in
theorem x_co_228 : Cond.code (x_y 228) (x_cd 228) (x_ml 228) (x_rt 228) ∈ x_tb := x_i6 (List.mem_of_getElem? (i := 237) rfl) rfl
set_option maxRecDepth 20000 in
theorem x_co_229 : Cond.code (x_y 229) (x_cd 229) (x_ml 229) (x_rt 229) ∈ x_tb := x_i6 (List.mem_of_getElem? (i := 229) rfl) rfl
set_option maxRecDepth 20000 in
theorem x_co_230 : Cond.code (x_y 230) (x_cd 230) (x_ml 230) (x_rt 230) ∈ x_tb := x_i7 (List.mem_of_getElem? (i := 14) rfl) rfl
set_option maxRecDepth 20000 in
theorem x_co_231 : Cond.code (x_y 231) (x_cd 231) (x_ml 231) (x_rt 231) ∈ x_tb := x_i7 (List.mem_of_getElem? (i := 26) rfl) rfl
set_option maxRecDepth 20000 in
theorem x_co_232 : Cond.code (x_y 232) (x_cd 232) (x_ml 232) (x_rt 232) ∈ x_tb := x_i7 (List.mem_of_getElem? (i := 22) rfl) rfl
set_option maxRecDepth 20000 in
theorem x_co_233 : Cond.code (x_y 233) (x_cd 233) (x_ml 233) (x_rt 233) ∈ x_tb := x_i7 (List.mem_of_getElem? (i := 18) rfl) rfl
set_option maxRecDepth 20000 in
theorem x_co_234 : Cond.code (x_y 234) (x_cd 234) (x_ml 234) (x_rt 234) ∈ x_tb := x_i7 (List.mem_of_getElem? (i := 31) rfl) rfl
set_option maxRecDepth 20000 in
theorem x_co_235 : Cond.code (x_y 235) (x_cd 235) (x_ml 235) (x_rt 235) ∈ x_tb := x_i7 (List.mem_of_getElem? (i := 43) rfl) rfl
set_option maxRecDepth 20000 in
theorem x_co_236 : Cond.code (x_y 236) (x_cd 236) (x_ml 236) (x_rt 236) ∈ x_tb := x_i7 (List.mem_of_getElem? (i := 35) rfl) rfl
set_option maxRecDepth 20000 in
theorem x_co_237 : Cond.code (x_y 237) (x_cd 237) (x_ml 237) (x_rt 237) ∈ x_tb := x_i7 (List.mem_of_getElem? (i := 39) rfl) rfl
set_option maxRecDepth 20000 in
theorem x_co_238 : Cond.code (x_y 238) (x_cd 238) (x_ml 238) (x_rt 238) ∈ x_tb := x_i7 (List.mem_of_getElem? (i := 47) rfl) rfl
set_option maxRecDepth 20000 in
theorem x_co_239 : Cond.code (x_y 239) (x_cd 239) (x_ml 239) (x_rt 239) ∈ x_tb := x_i7 (List.mem_of_getElem? (i := 55) rfl) rfl
set_option maxRecDepth 20000 in
theorem x_co_240 : Cond.code (x_y 240) (x_cd 240) (x_ml 240) (x_rt 240) ∈ x_tb := x_i7 (List.mem_of_getElem? (i := 51) rfl) rfl
set_option maxRecDepth 20000 in
theorem x_co_241 : Cond.code (x_y 241) (x_cd 241) (x_ml 241) (x_rt 241) ∈ x_tb := x_i7 (List.mem_of_getElem? (i := 59) rfl) rfl
set_option maxRecDepth 20000 in
theorem x_co_242 : Cond.code (x_y 242) (x_cd 242) (x_ml 242) (x_rt 242) ∈ x_tb := x_i7 (List.mem_of_getElem? (i := 63) rfl) rfl
set_option maxRecDepth 20000 in
theorem x_co_243 : Cond.code (x_y 243) (x_cd 243) (x_ml 243) (x_rt 243) ∈ x_tb := x_i7 (List.mem_of_getElem? (i := 67) rfl) rfl
set_option maxRecDepth 20000 in
theorem x_co_244 : Cond.code (x_y 244) (x_cd 244) (x_ml 244) (x_rt 244) ∈ x_tb := x_i7 (List.mem_of_getElem? (i := 71) rfl) rfl
set_option maxRecDepth 20000 in
theorem x_co_245 : Cond.code (x_y 245) (x_cd 245) (x_ml 245) (x_rt 245) ∈ x_tb := x_i7 (List.mem_of_getElem? (i := 78) rfl) rfl
set_option maxRecDepth 20000 in
theorem x_co_246 : Cond.code (x_y 246) (x_cd 246) (x_ml 246) (x_rt 246) ∈ x_tb := x_i7 (List.mem_of_getElem? (i := 82) rfl) rfl
set_option maxRecDepth 20000 in
theorem x_co_248 : Cond.code (x_y 248) (x_cd 248) (x_ml 248) (x_rt 248) ∈ x_tb := x_i3 (List.mem_of_getElem? (i := 147) rfl) rfl
set_option maxRecDepth 20000 in
theorem x_co_249 : Cond.code (x_y 249) (x_cd 249) (x_ml 249) (x_rt 249) ∈ x_tb := x_i3 (List.mem_of_getElem? (i := 150) rfl) rfl
set_option maxRecDepth 20000 in
theorem x_co_250 : Cond.code (x_y 250) (x_cd 250) (x_ml 250) (x_rt 250) ∈ x_tb := x_i3 (List.mem_of_getElem? (i := 154) rfl) rfl
set_option maxRecDepth 20000 in
theorem x_co_255 : Cond.code (x_y 255) (x_cd 255) (x_ml 255) (x_rt 255) ∈ x_tb := x_i3 (List.mem_of_getElem? (i := 37) rfl) rfl
set_option maxRecDepth 20000 in
theorem x_co_256 : Cond.code (x_y 256) (x_cd 256) (x_ml 256) (x_rt 256) ∈ x_tb := x_i3 (List.mem_of_getElem? (i := 47) rfl) rfl
set_option maxRecDepth 20000 in
theorem x_co_257 : Cond.code (x_y 257) (x_cd 257) (x_ml 257) (x_rt 257) ∈ x_tb := x_i3 (List.mem_of_getElem? (i := 104) rfl) rfl
set_option maxRecDepth 20000 in
theorem x_co_258 : Cond.code (x_y 258) (x_cd 258) (x_ml 258) (x_rt 258) ∈ x_tb := x_i3 (List.mem_of_getElem? (i := 108) rfl) rfl
set_option maxRecDepth 20000 in
theorem x_co_259 : Cond.code (x_y 259) (x_cd 259) (x_ml 259) (x_rt 259) ∈ x_tb := x_i3 (List.mem_of_getElem? (i := 41) rfl) rfl
set_option maxRecDepth 20000 in
theorem x_co_260 : Cond.code (x_y 260) (x_cd 260) (x_ml 260) (x_rt 260) ∈ x_tb := x_i3 (List.mem_of_getElem? (i := 51) rfl) rfl
set_option maxRecDepth 20000 in
theorem x_co_261 : Cond.code (x_y 261) (x_cd 261) (x_ml 261) (x_rt 261) ∈ x_tb := x_i3 (List.mem_of_getElem? (i := 57) rfl) rfl
set_option maxRecDepth 20000 in
theorem x_co_262 : Cond.code (x_y 262) (x_cd 262) (x_ml 262) (x_rt 262) ∈ x_tb := x_i3 (List.mem_of_getElem? (i := 135) rfl) rfl
set_option maxRecDepth 20000 in
theorem x_co_263 : Cond.code (x_y 263) (x_cd 263) (x_ml 263) (x_rt 263) ∈ x_tb := x_i3 (List.mem_of_getElem? (i := 54) rfl) rfl
set_option maxRecDepth 20000 in
theorem x_co_264 : Cond.code (x_y 264) (x_cd 264) (x_ml 264) (x_rt 264) ∈ x_tb := x_i3 (List.mem_of_getElem? (i := 115) rfl) rfl
set_option maxRecDepth 20000 in
theorem x_co_265 : Cond.code (x_y 265) (x_cd 265) (x_ml 265) (x_rt 265) ∈ x_tb := x_i3 (List.mem_of_getElem? (i := 112) rfl) rfl
set_option maxRecDepth 20000 in
theorem x_co_266 : Cond.code (x_y 266) (x_cd 266) (x_ml 266) (x_rt 266) ∈ x_tb := x_i3 (List.mem_of_getElem? (i := 120) rfl) rfl
set_option maxRecDepth 20000 in
theorem x_co_267 : Cond.code (x_y 267) (x_cd 267) (x_ml 267) (x_rt 267) ∈ x_tb := x_i3 (List.mem_of_getElem? (i := 75) rfl) rfl
set_option maxRecDepth 20000 in
theorem x_co_268 : Cond.code (x_y 268) (x_cd 268) (x_ml 268) (x_rt 268) ∈ x_tb := x_i3 (List.mem_of_getElem? (i := 71) rfl) rfl
set_option maxRecDepth 20000 in
theorem x_co_269 : Cond.code (x_y 269) (x_cd 269) (x_ml 269) (x_rt 269) ∈ x_tb := x_i3 (List.mem_of_getElem? (i := 123) rfl) rfl
set_option maxRecDepth 20000 in
theorem x_co_270 : Cond.code (x_y 270) (x_cd 270) (x_ml 270) (x_rt 270) ∈ x_tb := x_i3 (List.mem_of_getElem? (i := 129) rfl) rfl
set_option maxRecDepth 20000 in
theorem x_co_271 : Cond.code (x_y 271) (x_cd 271) (x_ml 271) (x_rt 271) ∈ x_tb := x_i3 (List.mem_of_getElem? (i := 141) rfl) rfl
set_option maxRecDepth 20000 in
theorem x_co_272 : Cond.code (x_y 272) (x_cd 272) (x_ml 272) (x_rt 272) ∈ x_tb := x_i3 (List.mem_of_getElem? (i := 144) rfl) rfl
set_option maxRecDepth 20000 in
theorem x_co_273 : Cond.code (x_y 273) (x_cd 273) (x_ml 273) (x_rt 273) ∈ x_tb := x_i3 (List.mem_of_getElem? (i := 65) rfl) rfl
set_option maxRecDepth 20000 in
theorem x_co_274 : Cond.code (x_y 274) (x_cd 274) (x_ml 274) (x_rt 274) ∈ x_tb := x_i3 (List.mem_of_getElem? (i := 68) rfl) rfl
set_option maxRecDepth 20000 in
theorem x_co_275 : Cond.code (x_y 275) (x_cd 275) (x_ml 275) (x_rt 275) ∈ x_tb := x_i3 (List.mem_of_getElem? (i := 132) rfl) rfl
set_option maxRecDepth 20000 in
theorem x_co_276 : Cond.code (x_y 276) (x_cd 276) (x_ml 276) (x_rt 276) ∈ x_tb := x_i4 (List.mem_of_getElem? (i := 178) rfl) rfl
set_option maxRecDepth 20000 in
theorem x_co_277 : Cond.code (x_y 277) (x_cd 277) (x_ml 277) (x_rt 277) ∈ x_tb := x_i3 (List.mem_of_getElem? (i := 62) rfl) rfl
set_option maxRecDepth 20000 in
theorem x_co_278 : Cond.code (x_y 278) (x_cd 278) (x_ml 278) (x_rt 278) ∈ x_tb := x_i3 (List.mem_of_getElem? (i := 138) rfl) rfl
def x_cp0 : List (Nat × Nat × Nat) := [(0, 281, 103), (1, 505, 103), (2, 753, 103), (3, 788, 103), (4, 545, 103), (5, 517, 103), (6, 522, 103), (7, 513, 103), (8, 325, 104), (9, 565, 104), (10, 528, 104), (11, 487, 104), (12, 483, 104), (13, 532, 104), (14, 991, 104), (15, 929, 104), (16, 501, 104), (17, 497, 104), (18, 826, 104), (19, 536, 104), (20, 541, 104), (21, 548, 104), (22, 552, 104), (23, 126, 98), (24, 509, 98), (25, 808, 98), (26, 492, 98), (27, 1064, 98), (28, 350, 105), (29, 943, 105), (30, 950, 105), (31, 954, 105), (32, 958, 105), (33, 962, 105), (34, 966, 105), (35, 970, 105), (36, 974, 105), (37, 275, 102), (38, 589, 102), (39, 735, 102)]
theorem x_cp0_ok : ∀ q ∈ x_cp0, Cond.code (x_y q.1) (x_cd q.1) (x_ml q.1) (x_rt q.1) ∈ x_tb := List.forall_mem_cons.mpr ⟨x_co_0, List.forall_mem_cons.mpr ⟨x_co_1, List.forall_mem_cons.mpr ⟨x_co_2, List.forall_mem_cons.mpr ⟨x_co_3, List.forall_mem_cons.mpr ⟨x_co_4, List.forall_mem_cons.mpr ⟨x_co_5, List.forall_mem_cons.mpr ⟨x_co_6, List.forall_mem_cons.mpr ⟨x_co_7, List.forall_mem_cons.mpr ⟨x_co_8, List.forall_mem_cons.mpr ⟨x_co_9, List.forall_mem_cons.mpr ⟨x_co_10, List.forall_mem_cons.mpr ⟨x_co_11, List.forall_mem_cons.mpr ⟨x_co_12, List.forall_mem_cons.mpr ⟨x_co_13, List.forall_mem_cons.mpr ⟨x_co_14, List.forall_mem_cons.mpr ⟨x_co_15, List.forall_mem_cons.mpr ⟨x_co_16, List.forall_mem_cons.mpr ⟨x_co_17, List.forall_mem_cons.mpr ⟨x_co_18, List.forall_mem_cons.mpr ⟨x_co_19, List.forall_mem_cons.mpr ⟨x_co_20, List.forall_mem_cons.mpr ⟨x_co_21, List.forall_mem_cons.mpr ⟨x_co_22, List.forall_mem_cons.mpr ⟨x_co_23, List.forall_mem_cons.mpr ⟨x_co_24, List.forall_mem_cons.mpr ⟨x_co_25, List.forall_mem_cons.mpr ⟨x_co_26, List.forall_mem_cons.mpr ⟨x_co_27, List.forall_mem_cons.mpr ⟨x_co_28, List.forall_mem_cons.mpr ⟨x_co_29, List.forall_mem_cons.mpr ⟨x_co_30, List.forall_mem_cons.mpr ⟨x_co_31, List.forall_mem_cons.mpr ⟨x_co_32, List.forall_mem_cons.mpr ⟨x_co_33, List.forall_mem_cons.mpr ⟨x_co_34, List.forall_mem_cons.mpr ⟨x_co_35, List.forall_mem_cons.mpr ⟨x_co_36, List.forall_mem_cons.mpr ⟨x_co_37, List.forall_mem_cons.mpr ⟨x_co_38, List.forall_mem_cons.mpr ⟨x_co_39, fun _ h => absurd h List.not_mem_nil⟩⟩⟩⟩⟩⟩⟩⟩⟩⟩⟩⟩⟩⟩⟩⟩⟩⟩⟩⟩⟩⟩⟩⟩⟩⟩⟩⟩⟩⟩⟩⟩⟩⟩⟩⟩⟩⟩⟩⟩
theorem x_cp0_ok2 : ∀ q ∈ x_cp0, lw_tbl[q.2.2]? = some (Cond.initialized (x_y q.1).cls) ∧ (x_y q.1).cls ≠ "java/lang/invoke/MethodHandle" ∧ (x_y q.1).cls ≠ "java/lang/invoke/VarHandle" ∧ plainName (x_y q.1).cls = true ∧ x_ml q.1 ≤ 41 ∧ q.1 ≠ 247 := by decide +kernel
theorem x_cp0_mok : ∀ q ∈ x_cp0, x_mok q.1 := by
  intro q hq
  have h1 := x_cp0_ok q hq
  obtain ⟨h2, h3, h4, h5, h6⟩ := x_cp0_ok2 q hq
  exact ⟨h1, x_in _ h2 rfl, h3, h4, h5, h6⟩
def x_cp1 : List (Nat × Nat × Nat) := [(40, 739, 102), (41, 770, 102), (42, 758, 102), (43, 747, 102), (44, 804, 102), (45, 784, 102), (46, 743, 102), (47, 762, 102), (48, 776, 102), (49, 780, 102), (50, 792, 102), (51, 796, 102), (52, 800, 102), (53, 132, 99), (54, 450, 99), (55, 438, 99), (56, 434, 99), (57, 463, 99), (58, 442, 99), (59, 1068, 99), (60, 244, 101), (61, 577, 101), (62, 661, 101), (63, 597, 101), (64, 600, 101), (65, 664, 101), (66, 593, 101), (67, 604, 101), (68, 608, 101), (69, 668, 101), (70, 675, 101), (71, 392, 106), (72, 998, 106), (73, 1015, 106), (74, 1007, 106), (75, 1002, 106), (76, 118, 97), (77, 427, 97), (78, 446, 97), (79, 454, 97)]
theorem x_cp1_ok : ∀ q ∈ x_cp1, Cond.code (x_y q.1) (x_cd q.1) (x_ml q.1) (x_rt q.1) ∈ x_tb := List.forall_mem_cons.mpr ⟨x_co_40, List.forall_mem_cons.mpr ⟨x_co_41, List.forall_mem_cons.mpr ⟨x_co_42, List.forall_mem_cons.mpr ⟨x_co_43, List.forall_mem_cons.mpr ⟨x_co_44, List.forall_mem_cons.mpr ⟨x_co_45, List.forall_mem_cons.mpr ⟨x_co_46, List.forall_mem_cons.mpr ⟨x_co_47, List.forall_mem_cons.mpr ⟨x_co_48, List.forall_mem_cons.mpr ⟨x_co_49, List.forall_mem_cons.mpr ⟨x_co_50, List.forall_mem_cons.mpr ⟨x_co_51, List.forall_mem_cons.mpr ⟨x_co_52, List.forall_mem_cons.mpr ⟨x_co_53, List.forall_mem_cons.mpr ⟨x_co_54, List.forall_mem_cons.mpr ⟨x_co_55, List.forall_mem_cons.mpr ⟨x_co_56, List.forall_mem_cons.mpr ⟨x_co_57, List.forall_mem_cons.mpr ⟨x_co_58, List.forall_mem_cons.mpr ⟨x_co_59, List.forall_mem_cons.mpr ⟨x_co_60, List.forall_mem_cons.mpr ⟨x_co_61, List.forall_mem_cons.mpr ⟨x_co_62, List.forall_mem_cons.mpr ⟨x_co_63, List.forall_mem_cons.mpr ⟨x_co_64, List.forall_mem_cons.mpr ⟨x_co_65, List.forall_mem_cons.mpr ⟨x_co_66, List.forall_mem_cons.mpr ⟨x_co_67, List.forall_mem_cons.mpr ⟨x_co_68, List.forall_mem_cons.mpr ⟨x_co_69, List.forall_mem_cons.mpr ⟨x_co_70, List.forall_mem_cons.mpr ⟨x_co_71, List.forall_mem_cons.mpr ⟨x_co_72, List.forall_mem_cons.mpr ⟨x_co_73, List.forall_mem_cons.mpr ⟨x_co_74, List.forall_mem_cons.mpr ⟨x_co_75, List.forall_mem_cons.mpr ⟨x_co_76, List.forall_mem_cons.mpr ⟨x_co_77, List.forall_mem_cons.mpr ⟨x_co_78, List.forall_mem_cons.mpr ⟨x_co_79, fun _ h => absurd h List.not_mem_nil⟩⟩⟩⟩⟩⟩⟩⟩⟩⟩⟩⟩⟩⟩⟩⟩⟩⟩⟩⟩⟩⟩⟩⟩⟩⟩⟩⟩⟩⟩⟩⟩⟩⟩⟩⟩⟩⟩⟩⟩
theorem x_cp1_ok2 : ∀ q ∈ x_cp1, lw_tbl[q.2.2]? = some (Cond.initialized (x_y q.1).cls) ∧ (x_y q.1).cls ≠ "java/lang/invoke/MethodHandle" ∧ (x_y q.1).cls ≠ "java/lang/invoke/VarHandle" ∧ plainName (x_y q.1).cls = true ∧ x_ml q.1 ≤ 41 ∧ q.1 ≠ 247 := by decide +kernel
theorem x_cp1_mok : ∀ q ∈ x_cp1, x_mok q.1 := by
  intro q hq
  have h1 := x_cp1_ok q hq
  obtain ⟨h2, h3, h4, h5, h6⟩ := x_cp1_ok2 q hq
  exact ⟨h1, x_in _ h2 rfl, h3, h4, h5, h6⟩
def x_cp2 : List (Nat × Nat × Nat) := [(80, 459, 97), (81, 467, 97), (82, 471, 97), (83, 479, 97), (84, 569, 97), (85, 573, 97), (86, 581, 97), (87, 585, 97), (88, 813, 97), (89, 817, 97), (90, 822, 97), (91, 830, 97), (92, 835, 97), (93, 841, 97), (94, 853, 97), (95, 857, 97), (96, 861, 97), (97, 873, 97), (98, 890, 97), (99, 894, 97), (100, 898, 97), (101, 905, 97), (102, 917, 97), (103, 921, 97), (104, 925, 97), (105, 935, 97), (106, 980, 97), (107, 987, 97), (108, 1011, 97), (109, 1020, 97), (110, 1024, 97), (111, 1028, 97), (112, 1032, 97), (113, 1044, 97), (114, 1048, 97), (115, 1052, 97), (116, 1060, 97), (117, 1073, 97), (118, 1077, 97), (119, 430, 97)]
theorem x_cp2_ok : ∀ q ∈ x_cp2, Cond.code (x_y q.1) (x_cd q.1) (x_ml q.1) (x_rt q.1) ∈ x_tb := List.forall_mem_cons.mpr ⟨x_co_80, List.forall_mem_cons.mpr ⟨x_co_81, List.forall_mem_cons.mpr ⟨x_co_82, List.forall_mem_cons.mpr ⟨x_co_83, List.forall_mem_cons.mpr ⟨x_co_84, List.forall_mem_cons.mpr ⟨x_co_85, List.forall_mem_cons.mpr ⟨x_co_86, List.forall_mem_cons.mpr ⟨x_co_87, List.forall_mem_cons.mpr ⟨x_co_88, List.forall_mem_cons.mpr ⟨x_co_89, List.forall_mem_cons.mpr ⟨x_co_90, List.forall_mem_cons.mpr ⟨x_co_91, List.forall_mem_cons.mpr ⟨x_co_92, List.forall_mem_cons.mpr ⟨x_co_93, List.forall_mem_cons.mpr ⟨x_co_94, List.forall_mem_cons.mpr ⟨x_co_95, List.forall_mem_cons.mpr ⟨x_co_96, List.forall_mem_cons.mpr ⟨x_co_97, List.forall_mem_cons.mpr ⟨x_co_98, List.forall_mem_cons.mpr ⟨x_co_99, List.forall_mem_cons.mpr ⟨x_co_100, List.forall_mem_cons.mpr ⟨x_co_101, List.forall_mem_cons.mpr ⟨x_co_102, List.forall_mem_cons.mpr ⟨x_co_103, List.forall_mem_cons.mpr ⟨x_co_104, List.forall_mem_cons.mpr ⟨x_co_105, List.forall_mem_cons.mpr ⟨x_co_106, List.forall_mem_cons.mpr ⟨x_co_107, List.forall_mem_cons.mpr ⟨x_co_108, List.forall_mem_cons.mpr ⟨x_co_109, List.forall_mem_cons.mpr ⟨x_co_110, List.forall_mem_cons.mpr ⟨x_co_111, List.forall_mem_cons.mpr ⟨x_co_112, List.forall_mem_cons.mpr ⟨x_co_113, List.forall_mem_cons.mpr ⟨x_co_114, List.forall_mem_cons.mpr ⟨x_co_115, List.forall_mem_cons.mpr ⟨x_co_116, List.forall_mem_cons.mpr ⟨x_co_117, List.forall_mem_cons.mpr ⟨x_co_118, List.forall_mem_cons.mpr ⟨x_co_119, fun _ h => absurd h List.not_mem_nil⟩⟩⟩⟩⟩⟩⟩⟩⟩⟩⟩⟩⟩⟩⟩⟩⟩⟩⟩⟩⟩⟩⟩⟩⟩⟩⟩⟩⟩⟩⟩⟩⟩⟩⟩⟩⟩⟩⟩⟩
theorem x_cp2_ok2 : ∀ q ∈ x_cp2, lw_tbl[q.2.2]? = some (Cond.initialized (x_y q.1).cls) ∧ (x_y q.1).cls ≠ "java/lang/invoke/MethodHandle" ∧ (x_y q.1).cls ≠ "java/lang/invoke/VarHandle" ∧ plainName (x_y q.1).cls = true ∧ x_ml q.1 ≤ 41 ∧ q.1 ≠ 247 := by decide +kernel
theorem x_cp2_mok : ∀ q ∈ x_cp2, x_mok q.1 := by
  intro q hq
  have h1 := x_cp2_ok q hq
  obtain ⟨h2, h3, h4, h5, h6⟩ := x_cp2_ok2 q hq
  exact ⟨h1, x_in _ h2 rfl, h3, h4, h5, h6⟩
def x_cp3 : List (Nat × Nat × Nat) := [(120, 474, 97), (121, 983, 97), (122, 939, 97), (123, 845, 97), (124, 849, 97), (125, 885, 97), (126, 881, 97), (127, 877, 97), (128, 909, 97), (129, 913, 97), (130, 901, 97), (131, 868, 97), (132, 865, 97), (133, 1036, 97), (134, 1040, 97), (135, 1056, 97), (136, 1082, 107), (137, 1086, 107), (138, 1610, 107), (139, 1191, 107), (140, 1222, 107), (141, 1203, 107), (142, 1219, 107), (143, 1438, 107), (144, 1394, 107), (145, 1442, 107), (146, 1188, 107), (147, 1195, 107), (148, 1199, 107), (149, 1207, 107), (150, 1450, 107), (151, 1211, 107), (152, 1215, 107), (153, 1386, 107), (154, 1226, 107), (155, 1234, 107), (156, 1230, 107), (157, 1238, 107), (158, 1254, 107), (159, 1261, 107)]
theorem x_cp3_ok : ∀ q ∈ x_cp3, Cond.code (x_y q.1) (x_cd q.1) (x_ml q.1) (x_rt q.1) ∈ x_tb := List.forall_mem_cons.mpr ⟨x_co_120, List.forall_mem_cons.mpr ⟨x_co_121, List.forall_mem_cons.mpr ⟨x_co_122, List.forall_mem_cons.mpr ⟨x_co_123, List.forall_mem_cons.mpr ⟨x_co_124, List.forall_mem_cons.mpr ⟨x_co_125, List.forall_mem_cons.mpr ⟨x_co_126, List.forall_mem_cons.mpr ⟨x_co_127, List.forall_mem_cons.mpr ⟨x_co_128, List.forall_mem_cons.mpr ⟨x_co_129, List.forall_mem_cons.mpr ⟨x_co_130, List.forall_mem_cons.mpr ⟨x_co_131, List.forall_mem_cons.mpr ⟨x_co_132, List.forall_mem_cons.mpr ⟨x_co_133, List.forall_mem_cons.mpr ⟨x_co_134, List.forall_mem_cons.mpr ⟨x_co_135, List.forall_mem_cons.mpr ⟨x_co_136, List.forall_mem_cons.mpr ⟨x_co_137, List.forall_mem_cons.mpr ⟨x_co_138, List.forall_mem_cons.mpr ⟨x_co_139, List.forall_mem_cons.mpr ⟨x_co_140, List.forall_mem_cons.mpr ⟨x_co_141, List.forall_mem_cons.mpr ⟨x_co_142, List.forall_mem_cons.mpr ⟨x_co_143, List.forall_mem_cons.mpr ⟨x_co_144, List.forall_mem_cons.mpr ⟨x_co_145, List.forall_mem_cons.mpr ⟨x_co_146, List.forall_mem_cons.mpr ⟨x_co_147, List.forall_mem_cons.mpr ⟨x_co_148, List.forall_mem_cons.mpr ⟨x_co_149, List.forall_mem_cons.mpr ⟨x_co_150, List.forall_mem_cons.mpr ⟨x_co_151, List.forall_mem_cons.mpr ⟨x_co_152, List.forall_mem_cons.mpr ⟨x_co_153, List.forall_mem_cons.mpr ⟨x_co_154, List.forall_mem_cons.mpr ⟨x_co_155, List.forall_mem_cons.mpr ⟨x_co_156, List.forall_mem_cons.mpr ⟨x_co_157, List.forall_mem_cons.mpr ⟨x_co_158, List.forall_mem_cons.mpr ⟨x_co_159, fun _ h => absurd h List.not_mem_nil⟩⟩⟩⟩⟩⟩⟩⟩⟩⟩⟩⟩⟩⟩⟩⟩⟩⟩⟩⟩⟩⟩⟩⟩⟩⟩⟩⟩⟩⟩⟩⟩⟩⟩⟩⟩⟩⟩⟩⟩
theorem x_cp3_ok2 : ∀ q ∈ x_cp3, lw_tbl[q.2.2]? = some (Cond.initialized (x_y q.1).cls) ∧ (x_y q.1).cls ≠ "java/lang/invoke/MethodHandle" ∧ (x_y q.1).cls ≠ "java/lang/invoke/VarHandle" ∧ plainName (x_y q.1).cls = true ∧ x_ml q.1 ≤ 41 ∧ q.1 ≠ 247 := by decide +kernel
theorem x_cp3_mok : ∀ q ∈ x_cp3, x_mok q.1 := by
  intro q hq
  have h1 := x_cp3_ok q hq
  obtain ⟨h2, h3, h4, h5, h6⟩ := x_cp3_ok2 q hq
  exact ⟨h1, x_in _ h2 rfl, h3, h4, h5, h6⟩
def x_cp4 : List (Nat × Nat × Nat) := [(160, 1257, 107), (161, 1250, 107), (162, 1275, 107), (163, 1278, 107), (164, 1272, 107), (165, 1281, 107), (166, 1297, 107), (167, 1321, 107), (168, 1325, 107), (169, 1329, 107), (170, 1317, 107), (171, 1337, 107), (172, 1333, 107), (173, 1309, 107), (174, 1305, 107), (175, 1313, 107), (176, 1301, 107), (177, 1341, 107), (178, 1293, 107), (179, 1289, 107), (180, 1269, 107), (181, 1285, 107), (182, 1265, 107), (183, 1246, 107), (184, 1242, 107), (185, 1346, 107), (186, 1354, 107), (187, 1350, 107), (188, 1378, 107), (189, 1374, 107), (190, 1370, 107), (191, 1366, 107), (192, 1362, 107), (193, 1358, 107), (194, 1408, 107), (195, 1405, 107), (196, 1413, 107), (197, 1402, 107), (198, 1390, 107), (199, 1398, 107)]
theorem x_cp4_ok : ∀ q ∈ x_cp4, Cond.code (x_y q.1) (x_cd q.1) (x_ml q.1) (x_rt q.1) ∈ x_tb := List.forall_mem_cons.mpr ⟨x_co_160, List.forall_mem_cons.mpr ⟨x_co_161, List.forall_mem_cons.mpr ⟨x_co_162, List.forall_mem_cons.mpr ⟨x_co_163, List.forall_mem_cons.mpr ⟨x_co_164, List.forall_mem_cons.mpr ⟨x_co_165, List.forall_mem_cons.mpr ⟨x_co_166, List.forall_mem_cons.mpr ⟨x_co_167, List.forall_mem_cons.mpr ⟨x_co_168, List.forall_mem_cons.mpr ⟨x_co_169, List.forall_mem_cons.mpr ⟨x_co_170, List.forall_mem_cons.mpr ⟨x_co_171, List.forall_mem_cons.mpr ⟨x_co_172, List.forall_mem_cons.mpr ⟨x_co_173, List.forall_mem_cons.mpr ⟨x_co_174, List.forall_mem_cons.mpr ⟨x_co_175, List.forall_mem_cons.mpr ⟨x_co_176, List.forall_mem_cons.mpr ⟨x_co_177, List.forall_mem_cons.mpr ⟨x_co_178, List.forall_mem_cons.mpr ⟨x_co_179, List.forall_mem_cons.mpr ⟨x_co_180, List.forall_mem_cons.mpr ⟨x_co_181, List.forall_mem_cons.mpr ⟨x_co_182, List.forall_mem_cons.mpr ⟨x_co_183, List.forall_mem_cons.mpr ⟨x_co_184, List.forall_mem_cons.mpr ⟨x_co_185, List.forall_mem_cons.mpr ⟨x_co_186, List.forall_mem_cons.mpr ⟨x_co_187, List.forall_mem_cons.mpr ⟨x_co_188, List.forall_mem_cons.mpr ⟨x_co_189, List.forall_mem_cons.mpr ⟨x_co_190, List.forall_mem_cons.mpr ⟨x_co_191, List.forall_mem_cons.mpr ⟨x_co_192, List.forall_mem_cons.mpr ⟨x_co_193, List.forall_mem_cons.mpr ⟨x_co_194, List.forall_mem_cons.mpr ⟨x_co_195, List.forall_mem_cons.mpr ⟨x_co_196, List.forall_mem_cons.mpr ⟨x_co_197, List.forall_mem_cons.mpr ⟨x_co_198, List.forall_mem_cons.mpr ⟨x_co_199, fun _ h => absurd h List.not_mem_nil⟩⟩⟩⟩⟩⟩⟩⟩⟩⟩⟩⟩⟩⟩⟩⟩⟩⟩⟩⟩⟩⟩⟩⟩⟩⟩⟩⟩⟩⟩⟩⟩⟩⟩⟩⟩⟩⟩⟩⟩
theorem x_cp4_ok2 : ∀ q ∈ x_cp4, lw_tbl[q.2.2]? = some (Cond.initialized (x_y q.1).cls) ∧ (x_y q.1).cls ≠ "java/lang/invoke/MethodHandle" ∧ (x_y q.1).cls ≠ "java/lang/invoke/VarHandle" ∧ plainName (x_y q.1).cls = true ∧ x_ml q.1 ≤ 41 ∧ q.1 ≠ 247 := by decide +kernel
theorem x_cp4_mok : ∀ q ∈ x_cp4, x_mok q.1 := by
  intro q hq
  have h1 := x_cp4_ok q hq
  obtain ⟨h2, h3, h4, h5, h6⟩ := x_cp4_ok2 q hq
  exact ⟨h1, x_in _ h2 rfl, h3, h4, h5, h6⟩
def x_cp5 : List (Nat × Nat × Nat) := [(200, 1417, 107), (201, 1382, 107), (202, 1425, 107), (203, 1421, 107), (204, 1429, 107), (205, 1446, 107), (206, 1454, 107), (207, 1434, 107), (208, 1458, 107), (209, 1462, 107), (210, 1472, 107), (211, 1466, 107), (212, 1481, 107), (213, 1485, 107), (214, 1489, 107), (215, 1477, 107), (216, 1493, 107), (217, 1497, 107), (218, 1501, 107), (219, 1505, 107), (220, 1509, 107), (221, 1513, 107), (222, 1521, 107), (223, 1517, 107), (224, 1541, 107), (225, 1545, 107), (226, 1537, 107), (227, 1529, 107), (228, 1533, 107), (229, 1525, 107), (230, 1550, 107), (231, 1562, 107), (232, 1558, 107), (233, 1554, 107), (234, 1567, 107), (235, 1579, 107), (236, 1571, 107), (237, 1575, 107), (238, 1583, 107), (239, 1591, 107)]
theorem x_cp5_ok : ∀ q ∈ x_cp5, Cond.code (x_y q.1) (x_cd q.1) (x_ml q.1) (x_rt q.1) ∈ x_tb := List.forall_mem_cons.mpr ⟨x_co_200, List.forall_mem_cons.mpr ⟨x_co_201, List.forall_mem_cons.mpr ⟨x_co_202, List.forall_mem_cons.mpr ⟨x_co_203, List.forall_mem_cons.mpr ⟨x_co_204, List.forall_mem_cons.mpr ⟨x_co_205, List.forall_mem_cons.mpr ⟨x_co_206, List.forall_mem_cons.mpr ⟨x_co_207, List.forall_mem_cons.mpr ⟨x_co_208, List.forall_mem_cons.mpr ⟨x_co_209, List.forall_mem_cons.mpr ⟨x_co_210, List.forall_mem_cons.mpr ⟨x_co_211, List.forall_mem_cons.mpr ⟨x_co_212, List.forall_mem_cons.mpr ⟨x_co_213, List.forall_mem_cons.mpr ⟨x_co_214, List.forall_mem_cons.mpr ⟨x_co_215, List.forall_mem_cons.mpr ⟨x_co_216, List.forall_mem_cons.mpr ⟨x_co_217, List.forall_mem_cons.mpr ⟨x_co_218, List.forall_mem_cons.mpr ⟨x_co_219, List.forall_mem_cons.mpr ⟨x_co_220, List.forall_mem_cons.mpr ⟨x_co_221, List.forall_mem_cons.mpr ⟨x_co_222, List.forall_mem_cons.mpr ⟨x_co_223, List.forall_mem_cons.mpr ⟨x_co_224, List.forall_mem_cons.mpr ⟨x_co_225, List.forall_mem_cons.mpr ⟨x_co_226, List.forall_mem_cons.mpr ⟨x_co_227, List.forall_mem_cons.mpr ⟨x_co_228, List.forall_mem_cons.mpr ⟨x_co_229, List.forall_mem_cons.mpr ⟨x_co_230, List.forall_mem_cons.mpr ⟨x_co_231, List.forall_mem_cons.mpr ⟨x_co_232, List.forall_mem_cons.mpr ⟨x_co_233, List.forall_mem_cons.mpr ⟨x_co_234, List.forall_mem_cons.mpr ⟨x_co_235, List.forall_mem_cons.mpr ⟨x_co_236, List.forall_mem_cons.mpr ⟨x_co_237, List.forall_mem_cons.mpr ⟨x_co_238, List.forall_mem_cons.mpr ⟨x_co_239, fun _ h => absurd h List.not_mem_nil⟩⟩⟩⟩⟩⟩⟩⟩⟩⟩⟩⟩⟩⟩⟩⟩⟩⟩⟩⟩⟩⟩⟩⟩⟩⟩⟩⟩⟩⟩⟩⟩⟩⟩⟩⟩⟩⟩⟩⟩
theorem x_cp5_ok2 : ∀ q ∈ x_cp5, lw_tbl[q.2.2]? = some (Cond.initialized (x_y q.1).cls) ∧ (x_y q.1).cls ≠ "java/lang/invoke/MethodHandle" ∧ (x_y q.1).cls ≠ "java/lang/invoke/VarHandle" ∧ plainName (x_y q.1).cls = true ∧ x_ml q.1 ≤ 41 ∧ q.1 ≠ 247 := by decide +kernel
theorem x_cp5_mok : ∀ q ∈ x_cp5, x_mok q.1 := by
  intro q hq
  have h1 := x_cp5_ok q hq
  obtain ⟨h2, h3, h4, h5, h6⟩ := x_cp5_ok2 q hq
  exact ⟨h1, x_in _ h2 rfl, h3, h4, h5, h6⟩
def x_cp6 : List (Nat × Nat × Nat) := [(240, 1587, 107), (241, 1595, 107), (242, 1599, 107), (243, 1603, 107), (244, 1607, 107), (245, 1614, 107), (246, 1618, 107), (248, 723, 112), (249, 726, 112), (250, 730, 112), (255, 613, 108), (256, 623, 108), (257, 680, 108), (258, 684, 108), (259, 617, 108), (260, 627, 108), (261, 633, 108), (262, 711, 108), (263, 630, 109), (264, 691, 109), (265, 688, 109), (266, 696, 109), (267, 651, 111), (268, 647, 111), (269, 699, 111), (270, 705, 111), (271, 717, 111), (272, 720, 111), (273, 641, 111), (274, 644, 111), (275, 708, 111), (276, 994, 113), (277, 638, 110), (278, 714, 110)]
theorem x_cp6_ok : ∀ q ∈ x_cp6, Cond.code (x_y q.1) (x_cd q.1) (x_ml q.1) (x_rt q.1) ∈ x_tb := List.forall_mem_cons.mpr ⟨x_co_240, List.forall_mem_cons.mpr ⟨x_co_241, List.forall_mem_cons.mpr ⟨x_co_242, List.forall_mem_cons.mpr ⟨x_co_243, List.forall_mem_cons.mpr ⟨x_co_244, List.forall_mem_cons.mpr ⟨x_co_245, List.forall_mem_cons.mpr ⟨x_co_246, List.forall_mem_cons.mpr ⟨x_co_248, List.forall_mem_cons.mpr ⟨x_co_249, List.forall_mem_cons.mpr ⟨x_co_250, List.forall_mem_cons.mpr ⟨x_co_255, List.forall_mem_cons.mpr ⟨x_co_256, List.forall_mem_cons.mpr ⟨x_co_257, List.forall_mem_cons.mpr ⟨x_co_258, List.forall_mem_cons.mpr ⟨x_co_259, List.forall_mem_cons.mpr ⟨x_co_260, List.forall_mem_cons.mpr ⟨x_co_261, List.forall_mem_cons.mpr ⟨x_co_262, List.forall_mem_cons.mpr ⟨x_co_263, List.forall_mem_cons.mpr ⟨x_co_264, List.forall_mem_cons.mpr ⟨x_co_265, List.forall_mem_cons.mpr ⟨x_co_266, List.forall_mem_cons.mpr ⟨x_co_267, List.forall_mem_cons.mpr ⟨x_co_268, List.forall_mem_cons.mpr ⟨x_co_269, List.forall_mem_cons.mpr ⟨x_co_270, List.forall_mem_cons.mpr ⟨x_co_271, List.forall_mem_cons.mpr ⟨x_co_272, List.forall_mem_cons.mpr ⟨x_co_273, List.forall_mem_cons.mpr ⟨x_co_274, List.forall_mem_cons.mpr ⟨x_co_275, List.forall_mem_cons.mpr ⟨x_co_276, List.forall_mem_cons.mpr ⟨x_co_277, List.forall_mem_cons.mpr ⟨x_co_278, fun _ h => absurd h List.not_mem_nil⟩⟩⟩⟩⟩⟩⟩⟩⟩⟩⟩⟩⟩⟩⟩⟩⟩⟩⟩⟩⟩⟩⟩⟩⟩⟩⟩⟩⟩⟩⟩⟩⟩⟩
theorem x_cp6_ok2 : ∀ q ∈ x_cp6, lw_tbl[q.2.2]? = some (Cond.initialized (x_y q.1).cls) ∧ (x_y q.1).cls ≠ "java/lang/invoke/MethodHandle" ∧ (x_y q.1).cls ≠ "java/lang/invoke/VarHandle" ∧ plainName (x_y q.1).cls = true ∧ x_ml q.1 ≤ 41 ∧ q.1 ≠ 247 := by decide +kernel
theorem x_cp6_mok : ∀ q ∈ x_cp6, x_mok q.1 := by
  intro q hq
  have h1 := x_cp6_ok q hq
  obtain ⟨h2, h3, h4, h5, h6⟩ := x_cp6_ok2 q hq
  exact ⟨h1, x_in _ h2 rfl, h3, h4, h5, h6⟩
def x_mc (M : Nat) : Bool := (x_cp0.any fun q => q.1 == M) || (x_cp1.any fun q => q.1 == M) || (x_cp2.any fun q => q.1 == M) || (x_cp3.any fun q => q.1 == M) || (x_cp4.any fun q => q.1 == M) || (x_cp5.any fun q => q.1 == M) || (x_cp6.any fun q => q.1 == M)
theorem x_mc_ok {M : Nat} (h : x_mc M = true) : x_mok M := by
  unfold x_mc at h
  simp only [Bool.or_eq_true] at h
  have key : ∀ l : List (Nat × Nat × Nat), (∀ q ∈ l, x_mok q.1) → (l.any fun q => q.1 == M) = true → x_mok M := by
    intro l hl ha
    obtain ⟨q, hq, h1⟩ := List.any_eq_true.mp ha
    have e1 : q.1 = M := by simpa using h1
    exact e1 ▸ hl q hq
  rcases h with ((((((h | h) | h) | h) | h) | h) | h)
  · exact key _ x_cp0_mok h
  · exact key _ x_cp1_mok h
  · exact key _ x_cp2_mok h
  · exact key _ x_cp3_mok h
  · exact key _ x_cp4_mok h
  · exact key _ x_cp5_mok h
  · exact key _ x_cp6_mok h
def x_cks : List (Nat × Nat × Nat × Nat) := [(8, 9, 2, 122), (8, 12, 6, 240), (8, 26, 4, 271), (8, 35, 1, 321), (8, 44, 3, 346), (8, 51, 7, 388), (0, 9, 5, 283), (2, 9, 5, 128), (2, 53, 0, 155), (3, 9, 5, 352), (4, 9, 0, 277), (10, 7, 8, 114), (10, 10, 9, 1078)]
theorem x_cks_ok0 : ∀ q ∈ x_cks, lw_tbl[q.2.2.2]? = some (Cond.classLink (x_cnn.getD q.1 "") q.2.1 (x_cn.getD q.2.2.1 "")) := by decide +kernel
def x_ck (M i c : Nat) : Bool := x_cks.any fun q => q.1 == x_oc M && q.2.1 == i && q.2.2.1 == c
theorem x_ck_ok {M i c : Nat} (hM : M < 279) (h : x_ck M i c = true) : Cond.classLink (x_y M).cls i (x_cn.getD c "") ∈ x_tb := by
  unfold x_ck at h
  obtain ⟨q, hq, h1⟩ := List.any_eq_true.mp h
  simp only [Bool.and_eq_true, beq_iff_eq] at h1
  obtain ⟨⟨e1, e2⟩, e3⟩ := h1
  have h2 := x_cks_ok0 q hq
  rw [e1, e2, e3, ← x_oc_ok M hM] at h2
  exact x_in _ h2 rfl
def x_pin : List (Nat × Nat) := [(278, 103), (322, 104), (123, 98), (347, 105), (272, 102), (129, 99), (241, 101), (389, 106), (115, 97), (1079, 107)]
theorem x_pin_ok0 : ∀ c, c < 10 → lw_tbl[(x_pin.getD c (0, 0)).1]? = some (Cond.instantiable (x_cn.getD c "") (x_ft.getD c []).length) ∧ lw_tbl[(x_pin.getD c (0, 0)).2]? = some (Cond.initialized (x_cn.getD c "")) := by decide +kernel
theorem x_pin_ok {c : Nat} (hc : c < 10) : Cond.instantiable (x_cn.getD c "") (x_ft.getD c []).length ∈ x_tb ∧ Cond.initialized (x_cn.getD c "") ∈ x_tb := ⟨x_in _ (x_pin_ok0 c hc).1 rfl, x_in _ (x_pin_ok0 c hc).2 rfl⟩
def x_qcs : List (Nat × Nat × Int × Nat) := [(8, 170, 65535, 836), (7, 23, 1103515245, 1003), (9, 108, 100000, 1258), (9, 275, 65535, 1430), (9, 313, 1000000000, 1546), (9, 336, 1103515245, 1563), (11, 76, 56320, 731), (11, 110, 55232, 727), (15, 227, 65536, 702)]
theorem x_qcs_ok0 : ∀ q ∈ x_qcs, lw_tbl[q.2.2.2]? = some (Cond.constant (x_cnn.getD q.1 "") q.2.1 (Int32.ofInt q.2.2.1)) := by decide +kernel
def x_qc (M i : Nat) (v : Int) : Bool := x_qcs.any fun q => q.1 == x_oc M && q.2.1 == i && q.2.2.1 == v
theorem x_qc_ok {M i : Nat} {v : Int} (hM : M < 279) (h : x_qc M i v = true) : Cond.constant (x_y M).cls i (Int32.ofInt v) ∈ x_tb := by
  unfold x_qc at h
  obtain ⟨q, hq, h1⟩ := List.any_eq_true.mp h
  simp only [Bool.and_eq_true, beq_iff_eq] at h1
  obtain ⟨⟨e1, e2⟩, e3⟩ := h1
  have h2 := x_qcs_ok0 q hq
  rw [e1, e2, e3, ← x_oc_ok M hM] at h2
  exact x_in _ h2 rfl
def x_qls : List (Nat × Nat × Int × Nat) := [(8, 189, -1, 862), (8, 199, 100, 869), (1, 143, -1000000000, 559), (1, 145, 1000000000, 560), (9, 194, 28530, 1342), (9, 238, 1000000000, 1409), (9, 240, -1000000000, 1410), (9, 291, -1, 1467), (9, 293, 10, 1468), (9, 299, 100, 1473)]
theorem x_qls_ok0 : ∀ q ∈ x_qls, lw_tbl[q.2.2.2]? = some (Cond.constantLong (x_cnn.getD q.1 "") q.2.1 (Int64.ofInt q.2.2.1)) := by decide +kernel
def x_ql (M i : Nat) (v : Int) : Bool := x_qls.any fun q => q.1 == x_oc M && q.2.1 == i && q.2.2.1 == v
theorem x_ql_ok {M i : Nat} {v : Int} (hM : M < 279) (h : x_ql M i v = true) : Cond.constantLong (x_y M).cls i (Int64.ofInt v) ∈ x_tb := by
  unfold x_ql at h
  obtain ⟨q, hq, h1⟩ := List.any_eq_true.mp h
  simp only [Bool.and_eq_true, beq_iff_eq] at h1
  obtain ⟨⟨e1, e2⟩, e3⟩ := h1
  have h2 := x_qls_ok0 q hq
  rw [e1, e2, e3, ← x_oc_ok M hM] at h2
  exact x_in _ h2 rfl
def x_obs : List (Nat × Nat × Nat) := [(8, 3, 119), (0, 3, 282), (1, 3, 326), (2, 3, 127), (3, 3, 351), (4, 3, 276), (5, 3, 133), (6, 3, 245), (7, 3, 393), (9, 1, 1083)]
theorem x_obs_ok0 : ∀ q ∈ x_obs, lw_tbl[q.2.2]? = some (Cond.methodLink (x_cnn.getD q.1 "") q.2.1 Lib.objectInit) := by decide +kernel
def x_ob (M i : Nat) : Bool := x_obs.any fun q => q.1 == x_oc M && q.2.1 == i
theorem x_ob_ok {M i : Nat} (hM : M < 279) (h : x_ob M i = true) : Cond.methodLink (x_y M).cls i Lib.objectInit ∈ x_tb := by
  unfold x_ob at h
  obtain ⟨q, hq, h1⟩ := List.any_eq_true.mp h
  simp only [Bool.and_eq_true, beq_iff_eq] at h1
  obtain ⟨e1, e2⟩ := h1
  have h2 := x_obs_ok0 q hq
  rw [e1, e2, ← x_oc_ok M hM] at h2
  exact x_in _ h2 rfl
