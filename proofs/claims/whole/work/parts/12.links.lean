-- laid by wip/whole/gen.py
def kTabB (tbl : List Jvm.Cond) (cl : List vw_C) (zs : kZt) (mi : Nat → Option kMi) (own : String) (tb : kTab) (p1 p2 p3 p4 p5 p6 : List Nat) : Bool :=
  kAll2 (fun x p => match cl[x.2.1]? with
    | some q => decide (x.2.2 < q.2.2) && decide ((q.2.1 x.2.2).1 = q.1) && kAt_ tbl p (.fieldLink own x.1 q.1 (q.2.1 x.2.2).2.1 (q.2.1 x.2.2).2.2.1)
    | none => false) tb.1 p1
  && kAll2 (fun x p => zs.1.any (fun z => z.2.2 == x.2 && (kAt_ tbl p (.fieldLink own x.1 z.1 z.2.1 "[I") || decide (Jvm.Cond.fieldLinkNest own x.1 z.1 z.2.1 "[I" "PennyALap" ∈ zs.2)))) tb.2.1 p2
  && kAll2 (fun x p => kAt_ tbl p (.constant own x.1 (Int32.ofInt x.2))) tb.2.2.1 p3
  && kAll2 (fun x p => kAt_ tbl p (.constantLong own x.1 (Int64.ofInt x.2))) tb.2.2.2.1 p4
  && kAll2 (fun x p => match mi x.2.1 with
    | some M' => decide (M'.2.2.2.2.2.1 = x.2.2.2) && decide (x.2.2.1 = if x.2.2.2 = true then M'.2.2.2.2.1 else M'.2.2.2.2.1 + 1) && (kAt_ tbl p (.methodLink own x.1 M'.1) || (x.2.2.2 && decide (Jvm.Cond.methodLinkNest own x.1 M'.1 "PennyALap" ∈ zs.2)))
    | none => false) tb.2.2.2.2.1 p5
  && kAll2 (fun x p => (if x.2 = 1 then kAt_ tbl p (.methodLink own x.1 Lib.Math.max.name) else if x.2 = 2 then kAt_ tbl p (.methodLink own x.1 Lib.Math.min.name) else kAt_ tbl p (.methodLink own x.1 arraycopyName))) tb.2.2.2.2.2 p6
def kLibOk (tbl : List Jvm.Cond) : Prop := (Jvm.Cond.static Lib.Math.max.name ∈ tbl ∧ Jvm.Cond.initialized "java/lang/Math" ∈ tbl ∧ Jvm.Cond.code Lib.Math.max.name Lib.Math.max.code 2 (some .int) ∈ tbl) ∧ (Jvm.Cond.static Lib.Math.min.name ∈ tbl ∧ Jvm.Cond.initialized "java/lang/Math" ∈ tbl ∧ Jvm.Cond.code Lib.Math.min.name Lib.Math.min.code 2 (some .int) ∈ tbl) ∧ (Jvm.Cond.native arraycopyName ∈ tbl ∧ Jvm.Cond.static arraycopyName ∈ tbl ∧ Jvm.Cond.initialized "java/lang/System" ∈ tbl)
theorem kTabB_ok {tbl : List Jvm.Cond} {cl : List vw_C} {zs : kZt} {mi : Nat → Option kMi} {own : String} {tb : kTab} {p1 p2 p3 p4 p5 p6 : List Nat} (hL : kLibOk (tbl.filter goodWord)) (h : kTabB tbl cl zs mi own tb p1 p2 p3 p4 p5 p6 = true) : kTabOk (tbl.filter goodWord) cl zs mi own tb := by
  unfold kTabB at h
  simp only [Bool.and_eq_true] at h
  obtain ⟨⟨⟨⟨⟨h1, h2⟩, h3⟩, h4⟩, h5⟩, h6⟩ := h
  refine ⟨fun x hx => ?_, fun x hx => ?_, fun x hx => ?_, fun x hx => ?_, fun x hx => ?_, fun x hx => ?_⟩
  · obtain ⟨p, hp⟩ := kAll2_ok _ _ h1 x hx
    split at hp
    · rename_i q hq
      simp only [Bool.and_eq_true, decide_eq_true_eq] at hp
      exact ⟨q, hq, hp.1.1, hp.1.2, kAt_mem hp.2⟩
    · cases hp
  · obtain ⟨p, hp⟩ := kAll2_ok _ _ h2 x hx
    obtain ⟨z, hz, hzz⟩ := List.any_eq_true.mp hp
    simp only [Bool.and_eq_true, Bool.or_eq_true, beq_iff_eq] at hzz
    refine ⟨z.1, z.2.1, "PennyALap", by rw [← hzz.1]; exact hz, ?_⟩
    rcases hzz.2 with g | g
    · exact Or.inl (kAt_mem g)
    · exact Or.inr (of_decide_eq_true g)
  · obtain ⟨p, hp⟩ := kAll2_ok _ _ h3 x hx
    exact kAt_mem hp
  · obtain ⟨p, hp⟩ := kAll2_ok _ _ h4 x hx
    exact kAt_mem hp
  · obtain ⟨p, hp⟩ := kAll2_ok _ _ h5 x hx
    split at hp
    · rename_i M' hM
      simp only [Bool.and_eq_true, Bool.or_eq_true, decide_eq_true_eq] at hp
      refine ⟨M', hM, hp.1.1, hp.1.2, ?_⟩
      rcases hp.2 with g | g
      · exact Or.inl (kAt_mem g)
      · exact Or.inr ⟨g.1, _, g.2⟩
    · cases hp
  · obtain ⟨p, hp⟩ := kAll2_ok _ _ h6 x hx
    refine ⟨fun q => ?_, fun q => ?_, fun q => ?_⟩
    · rw [if_pos q] at hp; exact ⟨kAt_mem hp, hL.1⟩
    · rw [if_neg (by omega), if_pos q] at hp; exact ⟨kAt_mem hp, hL.2.1⟩
    · rw [if_neg (by omega), if_neg (by omega)] at hp; exact ⟨kAt_mem hp, hL.2.2⟩
set_option maxRecDepth 100000 in
theorem kLib : kLibOk kTbl := ⟨⟨kAt_mem (p := 579) (by decide +kernel), kAt_mem (p := 100) (by decide +kernel), List.mem_filter.mpr ⟨(List.mem_append_right _ (List.mem_append_right _ (List.mem_append_right _ (List.mem_append_left _ (List.mem_of_getElem? (i := 13) rfl))))), rfl⟩⟩, ⟨kAt_mem (p := 576) (by decide +kernel), kAt_mem (p := 100) (by decide +kernel), List.mem_filter.mpr ⟨(List.mem_append_right _ (List.mem_append_right _ (List.mem_append_right _ (List.mem_append_left _ (List.mem_of_getElem? (i := 10) rfl))))), rfl⟩⟩, kAt_mem (p := 454) (by decide +kernel), kAt_mem (p := 453) (by decide +kernel), kAt_mem (p := 99) (by decide +kernel)⟩
def kTb0 : kTab := ([(11, 0, 0), (15, 0, 2), (18, 0, 1), (22, 0, 3)], [(32, 1003), (47, 1004)], [], [], [(25, 3, 2, false), (29, 2, 2, false), (35, 9, 5, false), (39, 4, 2, false), (43, 11, 6, false), (50, 12, 5, false), (53, 10, 6, false)], [])
set_option maxRecDepth 100000 in
theorem kTb0_ok : kTabOk kTbl kCl kZs kMi_ RX0 kTb0 := kTabB_ok kLib (show kTabB lw_tbl kCl kZs kMi_ RX0 kTb0 [292, 294, 293, 295] [992, 990] [] [] [973, 989, 977, 981, 985, 994, 998] [] = true by decide +kernel)
def kTb1 : kTab := ([(11, 1, 0), (15, 1, 1), (18, 1, 2), (21, 1, 3), (28, 1, 4)], [], [], [], [(25, 15, 1, false), (37, 45, 3, false)], [(31, 3)])
set_option maxRecDepth 100000 in
theorem kTb1_ok : kTabOk kTbl kCl kZs kMi_ RX1 kTb1 := kTabB_ok kLib (show kTabB lw_tbl kCl kZs kMi_ RX1 kTb1 [174, 175, 176, 177, 178] [] [] [] [448, 944] [452] = true by decide +kernel)
def kTb2 : kTab := ([(9, 2, 2), (15, 2, 3), (18, 2, 4), (22, 2, 0), (26, 2, 1)], [], [], [], [(30, 39, 1, false), (36, 42, 2, false), (40, 104, 2, false), (45, 54, 3, false), (49, 21, 1, false), (52, 22, 2, false), (56, 46, 3, false), (67, 20, 3, false)], [(59, 1), (64, 2)])
set_option maxRecDepth 100000 in
theorem kTb2_ok : kTabOk kTbl kCl kZs kMi_ RX2 kTb2 := kTabB_ok kLib (show kTabB lw_tbl kCl kZs kMi_ RX2 kTb2 [240, 241, 242, 238, 239] [] [] [] [780, 781, 782, 783, 792, 796, 800, 819] [801, 802] = true by decide +kernel)
def kTb3 : kTab := ([(9, 3, 0), (15, 3, 1), (18, 3, 2), (21, 3, 3), (25, 3, 4), (28, 3, 5), (31, 3, 6), (34, 3, 7)], [], [], [], [], [(37, 3)])
set_option maxRecDepth 100000 in
theorem kTb3_ok : kTabOk kTbl kCl kZs kMi_ RX3 kTb3 := kTabB_ok kLib (show kTabB lw_tbl kCl kZs kMi_ RX3 kTb3 [261, 262, 263, 264, 265, 266, 267, 268] [] [] [] [] [931] = true by decide +kernel)
def kTb4 : kTab := ([(11, 4, 1), (15, 4, 2), (18, 4, 0), (25, 4, 3), (29, 4, 4)], [(22, 1002), (51, 1000), (54, 1001)], [], [], [(32, 41, 2, false), (36, 43, 3, false), (40, 44, 2, false), (44, 45, 3, false), (48, 40, 2, false), (57, 118, 3, true), (61, 46, 3, false), (64, 72, 1, false), (70, 73, 5, false), (74, 74, 3, false), (85, 50, 4, false), (89, 52, 3, false), (92, 53, 3, false), (95, 54, 3, false)], [(77, 2), (82, 1)])
set_option maxRecDepth 100000 in
theorem kTb4_ok : kTabOk kTbl kCl kZs kMi_ RX4 kTb4 := kTabB_ok kLib (show kTabB lw_tbl kCl kZs kMi_ RX4 kTb4 [153, 154, 152, 155, 156] [150, 394, 395] [] [] [468, 374, 553, 378, 390, 396, 549, 554, 558, 562, 647, 615, 611, 631] [575, 578] = true by decide +kernel)
def kTb5 : kTab := ([(11, 5, 0), (15, 5, 3), (18, 5, 5), (21, 5, 7), (24, 5, 8), (27, 5, 1), (35, 5, 6), (38, 5, 4), (41, 5, 2)], [], [], [], [(31, 61, 1, false), (44, 62, 1, false), (48, 63, 3, false), (52, 67, 1, false), (55, 68, 2, false), (59, 64, 2, false), (63, 71, 1, true), (67, 69, 1, true), (70, 66, 1, false), (73, 70, 1, true), (76, 65, 1, false), (79, 75, 2, true), (83, 76, 3, true), (87, 77, 1, true)], [])
set_option maxRecDepth 100000 in
theorem kTb5_ok : kTabOk kTbl kCl kZs kMi_ RX5 kTb5 := kTabB_ok kLib (show kTabB lw_tbl kCl kZs kMi_ RX5 kTb5 [115, 118, 120, 122, 123, 116, 121, 119, 117] [] [] [] [497, 501, 505, 513, 524, 509, 535, 517, 520, 528, 531, 566, 572, 569] [] = true by decide +kernel)
def kTb6 : kTab := ([(13, 6, 2), (17, 6, 3), (20, 6, 4), (23, 6, 0), (27, 6, 1), (61, 8, 2)], [], [], [], [(31, 105, 2, false), (35, 38, 1, false), (41, 79, 2, false), (44, 80, 3, false), (48, 82, 2, false), (51, 106, 2, false), (55, 57, 3, false), (58, 107, 3, false), (69, 81, 4, false), (73, 40, 2, false)], [(64, 1)])
set_option maxRecDepth 100000 in
theorem kTb6_ok : kTabOk kTbl kCl kZs kMi_ RX6 kTb6 := kTabB_ok kLib (show kTabB lw_tbl kCl kZs kMi_ RX6 kTb6 [218, 219, 220, 216, 217, 199] [] [] [] [730, 731, 732, 742, 747, 736, 740, 741, 751, 767] [746] = true by decide +kernel)
def kTb7 : kTab := ([(9, 7, 0), (15, 7, 1), (18, 7, 2), (21, 7, 3)], [], [], [], [(25, 86, 2, false), (29, 88, 2, false), (32, 92, 3, false), (36, 99, 2, true), (40, 100, 4, false)], [(44, 4)])
set_option maxRecDepth 100000 in
theorem kTb7_ok : kTabOk kTbl kCl kZs kMi_ RX7 kTb7 := kTabB_ok kLib (show kTabB lw_tbl kCl kZs kMi_ RX7 kTb7 [311, 312, 313, 314] [] [] [] [413, 422, 430, 1039, 1068] [1069] = true by decide +kernel)
def kTb8 : kTab := ([(9, 8, 1), (15, 8, 2), (18, 8, 3), (21, 8, 0)], [], [(65, 1103515245)], [], [(25, 46, 3, false), (31, 50, 4, false), (35, 38, 1, false), (39, 102, 3, false), (42, 40, 2, false), (51, 118, 3, true), (55, 105, 2, false), (59, 107, 3, false), (62, 111, 4, false), (69, 56, 3, false), (72, 116, 1, false), (75, 57, 3, false), (78, 39, 1, false), (81, 42, 2, false), (85, 104, 2, false), (88, 55, 3, false)], [(46, 2), (66, 1)])
set_option maxRecDepth 100000 in
theorem kTb8_ok : kTabOk kTbl kCl kZs kMi_ RX8 kTb8 := kTabB_ok kLib (show kTabB lw_tbl kCl kZs kMi_ RX8 kTb8 [197, 198, 200, 196] [] [868] [] [597, 598, 589, 593, 665, 721, 708, 717, 864, 607, 623, 627, 656, 660, 661, 666] [712, 869] = true by decide +kernel)
def kTb9 : kTab := ([(10, 9, 0), (21, 9, 1), (28, 9, 2), (37, 9, 3), (46, 9, 4), (53, 9, 5), (60, 9, 6), (64, 9, 7), (70, 9, 9), (77, 9, 10), (312, 9, 8)], [(81, 1000), (85, 1001), (258, 1002)], [(217, 99999)], [(351, (-9223372036854775808))], [(88, 118, 3, true), (92, 47, 2, false), (96, 48, 4, false), (99, 49, 4, false), (103, 86, 2, false), (107, 90, 3, false), (111, 123, 4, false), (114, 93, 2, false), (117, 97, 3, false), (121, 43, 3, false), (124, 44, 2, false), (127, 45, 3, false), (131, 14, 4, false), (135, 41, 2, false), (138, 40, 2, false), (141, 42, 2, false), (144, 27, 2, false), (147, 25, 2, false), (150, 26, 2, false), (153, 59, 2, false), (156, 60, 1, false), (160, 119, 4, true), (164, 50, 4, false), (167, 103, 2, false), (171, 112, 1, false), (174, 113, 1, false), (177, 114, 1, false), (180, 102, 3, false), (183, 56, 3, false), (186, 57, 3, false), (189, 46, 3, false), (192, 51, 3, false), (195, 115, 1, false), (198, 116, 1, false), (201, 117, 1, false), (204, 53, 3, false), (207, 54, 3, false), (209, 52, 3, false), (218, 108, 2, false), (221, 109, 2, false), (224, 78, 2, false), (227, 84, 1, false), (230, 85, 1, false), (233, 83, 2, false), (234, 142, 3, false), (237, 20, 3, false), (240, 23, 2, false), (243, 24, 2, false), (246, 18, 1, false), (249, 19, 2, false), (252, 144, 2, false), (255, 104, 2, false), (264, 149, 4, false), (267, 150, 3, false), (270, 38, 1, false), (273, 110, 3, false), (276, 34, 3, false), (279, 55, 3, false), (283, 35, 4, false), (287, 33, 1, false), (290, 36, 1, false), (293, 28, 1, false), (296, 29, 1, false), (299, 31, 1, false), (302, 30, 1, false), (305, 32, 1, false), (308, 37, 2, false), (316, 16, 2, false), (320, 17, 2, false), (323, 2, 2, false), (326, 5, 2, false), (329, 8, 4, false), (331, 7, 2, false), (334, 3, 2, false), (337, 95, 3, false), (340, 96, 4, false), (343, 91, 3, false), (346, 98, 4, false), (353, 87, 2, false), (356, 88, 2, false), (359, 89, 3, false), (362, 100, 4, false), (365, 101, 6, false), (369, 94, 2, false), (372, 4, 2, false), (375, 6, 3, false), (378, 39, 1, false), (381, 58, 1, false), (384, 13, 1, false), (387, 0, 1, false), (389, 1, 1, false)], [(212, 1), (261, 2)])
set_option maxRecDepth 100000 in
theorem kTb9_ok : kTabOk kTbl kCl kZs kMi_ RX9 kTb9 := kTabB_ok kLib (show kTabB lw_tbl kCl kZs kMi_ RX9 kTb9 [325, 326, 327, 328, 329, 330, 331, 332, 334, 335, 333] [363, 365, 841] [703] [1046] [367, 370, 386, 397, 405, 409, 414, 418, 426, 438, 439, 443, 444, 459, 463, 464, 469, 473, 477, 485, 493, 542, 545, 585, 599, 603, 619, 635, 636, 637, 642, 643, 652, 670, 671, 679, 680, 697, 704, 713, 726, 755, 759, 763, 772, 788, 807, 815, 776, 784, 824, 828, 847, 851, 855, 860, 874, 882, 883, 891, 895, 903, 907, 911, 915, 919, 927, 940, 949, 957, 961, 969, 1006, 1014, 1015, 1023, 1031, 1035, 1051, 1055, 1056, 1060, 1064, 1074, 1078, 1079, 1087, 1088, 1092, 1096, 1100] [698, 842] = true by decide +kernel)
def kTb10 : kTab := ([(7, 10, 2), (13, 10, 3), (16, 10, 4), (19, 10, 5), (22, 10, 7), (25, 10, 8), (28, 10, 9), (31, 10, 10), (34, 10, 11), (37, 10, 12), (40, 10, 14), (44, 10, 15), (47, 10, 19), (50, 10, 20), (53, 10, 21), (56, 10, 22), (59, 10, 23), (63, 10, 29), (66, 10, 30), (69, 10, 31), (72, 10, 32), (76, 10, 33), (79, 10, 34), (82, 10, 35), (85, 10, 37), (88, 10, 38), (91, 10, 39), (94, 10, 40), (97, 10, 41), (100, 10, 43), (103, 10, 44), (106, 10, 45), (109, 10, 46), (112, 10, 48), (115, 10, 49), (118, 10, 50), (121, 10, 52), (124, 10, 54), (127, 10, 55), (130, 10, 56), (133, 10, 57), (137, 10, 58), (143, 10, 1), (150, 10, 6), (166, 10, 13), (169, 10, 16), (176, 10, 18), (179, 10, 17), (199, 10, 24), (202, 10, 25), (205, 10, 26), (208, 10, 28), (211, 10, 27), (266, 10, 36), (355, 10, 42), (362, 10, 47), (365, 10, 51), (368, 10, 53)], [], [(322, 99999), (358, 1103515245)], [(164, 2), (418, (-9223372036854775808))], [(146, 170, 3, true), (153, 171, 2, false), (157, 174, 4, false), (161, 276, 1, true), (172, 177, 3, false), (182, 178, 4, false), (186, 172, 2, false), (189, 182, 3, false), (193, 183, 2, true), (196, 179, 4, false), (214, 188, 1, false), (217, 187, 1, false), (221, 189, 3, false), (225, 190, 1, true), (229, 191, 1, false), (233, 193, 1, false), (236, 198, 1, false), (239, 192, 1, false), (242, 194, 1, false), (245, 195, 1, false), (248, 196, 1, false), (251, 197, 1, false), (254, 199, 1, false), (257, 201, 3, true), (260, 202, 4, false), (263, 200, 2, false), (270, 203, 2, false), (273, 205, 4, false), (276, 209, 3, false), (279, 211, 3, false), (282, 212, 3, false), (285, 213, 3, false), (288, 208, 3, false), (291, 216, 3, false), (294, 219, 1, false), (297, 207, 1, true), (300, 217, 2, false), (304, 215, 3, false), (307, 218, 1, false), (310, 220, 1, false), (313, 222, 1, false), (316, 223, 1, false), (319, 225, 3, false), (323, 231, 2, false), (326, 234, 3, false), (329, 236, 2, false), (332, 235, 3, false), (335, 237, 2, false), (339, 239, 1, true), (342, 233, 3, false), (345, 238, 5, false), (349, 243, 3, false), (352, 248, 3, false), (359, 250, 3, false), (371, 259, 2, false), (374, 263, 3, false), (377, 262, 2, true), (380, 264, 3, false), (383, 265, 3, false), (386, 266, 3, false), (389, 267, 3, false), (392, 271, 3, false), (395, 269, 3, false), (398, 270, 3, false), (401, 268, 3, false), (404, 272, 3, false), (407, 258, 2, false), (410, 273, 3, false), (413, 279, 3, false)], [])
set_option maxRecDepth 100000 in
theorem kTb10_ok : kTabOk kTbl kCl kZs kMi_ RX10 kTb10 := kTabB_ok kLib (show kTabB lw_tbl kCl kZs kMi_ RX10 kTb10 [1111, 1112, 1113, 1114, 1116, 1117, 1118, 1119, 1120, 1121, 1123, 1124, 1128, 1129, 1130, 1131, 1132, 1138, 1139, 1140, 1141, 1142, 1143, 1144, 1146, 1147, 1148, 1149, 1150, 1152, 1153, 1154, 1155, 1157, 1158, 1159, 1161, 1163, 1164, 1165, 1166, 1167, 1110, 1115, 1122, 1125, 1127, 1126, 1133, 1134, 1135, 1137, 1136, 1145, 1151, 1156, 1160, 1162] [] [1532, 1616] [1315, 1732] [1293, 1300, 1304, 1312, 1347, 1320, 1336, 1332, 1340, 1343, 1410, 1395, 1402, 1399, 1406, 1391, 1371, 1414, 1387, 1383, 1379, 1375, 1367, 1434, 1430, 1363, 1426, 1422, 1441, 1453, 1449, 1457, 1472, 1480, 1492, 1465, 1468, 1476, 1484, 1488, 1500, 1504, 1512, 1537, 1564, 1556, 1560, 1568, 1545, 1548, 1552, 1584, 1604, 1612, 1664, 1668, 1661, 1672, 1657, 1684, 1680, 1688, 1696, 1692, 1676, 1704, 1653, 1700, 1724] [] = true by decide +kernel)
def kTb11 : kTab := ([], [], [], [(177, 4294967295)], [(13, 120, 2, false), (17, 173, 2, false), (18, 121, 3, false), (22, 175, 3, false), (23, 122, 4, false), (27, 176, 4, false), (28, 124, 4, false), (31, 184, 4, false), (32, 125, 3, false), (35, 185, 3, false), (36, 126, 2, false), (39, 186, 2, false), (40, 127, 1, false), (44, 204, 1, false), (45, 128, 3, false), (48, 206, 3, false), (49, 129, 4, false), (52, 221, 4, false), (53, 130, 3, false), (56, 210, 3, false), (57, 131, 3, false), (60, 224, 3, false), (61, 132, 4, false), (64, 214, 4, false), (65, 133, 3, false), (68, 226, 3, false), (69, 134, 2, false), (72, 227, 2, false), (73, 135, 3, false), (76, 228, 3, false), (77, 136, 2, false), (80, 229, 2, false), (81, 137, 2, false), (84, 230, 2, false), (85, 138, 3, false), (88, 232, 3, false), (89, 139, 3, false), (92, 240, 3, false), (93, 140, 3, false), (96, 241, 3, false), (97, 141, 4, false), (100, 242, 4, false), (101, 143, 3, false), (104, 244, 3, false), (105, 145, 4, false), (108, 245, 4, false), (109, 146, 2, false), (112, 246, 2, false), (113, 147, 4, false), (116, 247, 4, false), (117, 148, 4, false), (120, 249, 4, false), (121, 151, 4, false), (124, 251, 4, false), (125, 152, 2, false), (128, 252, 2, false), (129, 153, 2, false), (132, 253, 2, false), (133, 154, 1, false), (136, 254, 1, false), (137, 155, 2, false), (140, 255, 2, false), (141, 156, 1, false), (144, 256, 1, false), (145, 157, 1, false), (148, 257, 1, false), (149, 158, 1, false), (152, 180, 1, false), (153, 159, 1, false), (156, 181, 1, false), (157, 160, 2, false), (160, 261, 2, false), (161, 161, 4, false), (164, 274, 4, false), (165, 162, 2, false), (168, 260, 2, false), (169, 163, 3, false), (172, 277, 3, false), (173, 164, 4, false), (176, 278, 4, false), (179, 165, 4, false), (183, 280, 4, false), (184, 166, 3, false), (188, 281, 3, false), (189, 167, 6, false), (193, 282, 6, false), (194, 168, 3, false), (197, 283, 3, false), (198, 169, 2, false), (201, 275, 2, false)], [])
set_option maxRecDepth 100000 in
theorem kTb11_ok : kTabOk kTbl kCl kZs kMi_ RL kTb11 := kTabB_ok kLib (show kTabB lw_tbl kCl kZs kMi_ RL kTb11 [] [] [] [1741] [359, 1289, 382, 1296, 401, 1308, 434, 1328, 455, 1351, 481, 1355, 489, 1359, 538, 1418, 581, 1461, 638, 1437, 648, 1496, 675, 1445, 681, 1508, 685, 1516, 689, 1520, 693, 1524, 699, 1528, 722, 1533, 768, 1541, 803, 1572, 811, 1576, 820, 1580, 829, 1588, 833, 1592, 837, 1596, 843, 1600, 856, 1608, 870, 1617, 878, 1621, 887, 1625, 899, 1629, 923, 1633, 932, 1637, 936, 1316, 945, 1324, 953, 1645, 965, 1649, 1002, 1641, 1010, 1712, 1019, 1716, 1027, 1720, 1042, 1728, 1047, 1733, 1070, 1737, 1083, 1708] [] = true by decide +kernel)
def kPlt : List (Nat × Nat × Int) := [(0, 1, 0), (0, 3, 0), (1, 3, 0), (1, 4, 0), (3, 3, 0), (3, 4, 0), (3, 5, 0), (3, 6, 0), (3, 7, 0), (4, 3, 0), (4, 4, 0), (5, 1, 0), (5, 2, 0), (5, 3, 2), (5, 4, 0), (5, 5, 2), (5, 6, 0), (9, 8, 1), (10, 1, 0), (10, 6, 0), (10, 13, 0), (10, 14, 0), (10, 15, 0), (10, 16, 0), (10, 17, 0), (10, 18, 0), (10, 24, 0), (10, 25, 0), (10, 26, 0), (10, 27, 0), (10, 28, 0), (10, 36, 1), (10, 42, 0), (10, 47, 1), (10, 51, 0), (10, 53, 0)]
theorem kPlt_ok : kPlOk kCl kPlt := by
  intro x hx
  simp only [kPlt, List.mem_cons, List.not_mem_nil, or_false] at hx
  rcases hx with rfl | rfl | rfl | rfl | rfl | rfl | rfl | rfl | rfl | rfl | rfl | rfl | rfl | rfl | rfl | rfl | rfl | rfl | rfl | rfl | rfl | rfl | rfl | rfl | rfl | rfl | rfl | rfl | rfl | rfl | rfl | rfl | rfl | rfl | rfl | rfl
  · exact ⟨_, tyX0, rfl, rfl, tyX0_ok, nmX0, by decide⟩
  · exact ⟨_, tyX0, rfl, rfl, tyX0_ok, nmX0, by decide⟩
  · exact ⟨_, tyX1, rfl, rfl, tyX1_ok, nmX1, by decide⟩
  · exact ⟨_, tyX1, rfl, rfl, tyX1_ok, nmX1, by decide⟩
  · exact ⟨_, tyX3, rfl, rfl, tyX3_ok, nmX3, by decide⟩
  · exact ⟨_, tyX3, rfl, rfl, tyX3_ok, nmX3, by decide⟩
  · exact ⟨_, tyX3, rfl, rfl, tyX3_ok, nmX3, by decide⟩
  · exact ⟨_, tyX3, rfl, rfl, tyX3_ok, nmX3, by decide⟩
  · exact ⟨_, tyX3, rfl, rfl, tyX3_ok, nmX3, by decide⟩
  · exact ⟨_, tyX4, rfl, rfl, tyX4_ok, nmX4, by decide⟩
  · exact ⟨_, tyX4, rfl, rfl, tyX4_ok, nmX4, by decide⟩
  · exact ⟨_, tyX5, rfl, rfl, tyX5_ok, nmX5, by decide⟩
  · exact ⟨_, tyX5, rfl, rfl, tyX5_ok, nmX5, by decide⟩
  · exact ⟨_, tyX5, rfl, rfl, tyX5_ok, nmX5, by decide⟩
  · exact ⟨_, tyX5, rfl, rfl, tyX5_ok, nmX5, by decide⟩
  · exact ⟨_, tyX5, rfl, rfl, tyX5_ok, nmX5, by decide⟩
  · exact ⟨_, tyX5, rfl, rfl, tyX5_ok, nmX5, by decide⟩
  · exact ⟨_, tyX9, rfl, rfl, tyX9_ok, nmX9, by decide⟩
  · exact ⟨_, tyX10, rfl, rfl, tyX10_ok, nmX10, by decide⟩
  · exact ⟨_, tyX10, rfl, rfl, tyX10_ok, nmX10, by decide⟩
  · exact ⟨_, tyX10, rfl, rfl, tyX10_ok, nmX10, by decide⟩
  · exact ⟨_, tyX10, rfl, rfl, tyX10_ok, nmX10, by decide⟩
  · exact ⟨_, tyX10, rfl, rfl, tyX10_ok, nmX10, by decide⟩
  · exact ⟨_, tyX10, rfl, rfl, tyX10_ok, nmX10, by decide⟩
  · exact ⟨_, tyX10, rfl, rfl, tyX10_ok, nmX10, by decide⟩
  · exact ⟨_, tyX10, rfl, rfl, tyX10_ok, nmX10, by decide⟩
  · exact ⟨_, tyX10, rfl, rfl, tyX10_ok, nmX10, by decide⟩
  · exact ⟨_, tyX10, rfl, rfl, tyX10_ok, nmX10, by decide⟩
  · exact ⟨_, tyX10, rfl, rfl, tyX10_ok, nmX10, by decide⟩
  · exact ⟨_, tyX10, rfl, rfl, tyX10_ok, nmX10, by decide⟩
  · exact ⟨_, tyX10, rfl, rfl, tyX10_ok, nmX10, by decide⟩
  · exact ⟨_, tyX10, rfl, rfl, tyX10_ok, nmX10, by decide⟩
  · exact ⟨_, tyX10, rfl, rfl, tyX10_ok, nmX10, by decide⟩
  · exact ⟨_, tyX10, rfl, rfl, tyX10_ok, nmX10, by decide⟩
  · exact ⟨_, tyX10, rfl, rfl, tyX10_ok, nmX10, by decide⟩
  · exact ⟨_, tyX10, rfl, rfl, tyX10_ok, nmX10, by decide⟩
set_option maxRecDepth 100000 in
theorem kUw0 : ∀ w ∈ u_ws RX0 TX0 4, w ∈ kTbl := fun w h => (kAll2_ok (f := fun w p => kAt_ lw_tbl p w) _ [296, 298, 300, 302] (by decide +kernel) w h).elim (fun _ q => kAt_mem q)
set_option maxRecDepth 100000 in
theorem kUw1 : ∀ w ∈ u_ws RX1 TX1 5, w ∈ kTbl := fun w h => (kAll2_ok (f := fun w p => kAt_ lw_tbl p w) _ [179, 181, 183, 185, 187] (by decide +kernel) w h).elim (fun _ q => kAt_mem q)
set_option maxRecDepth 100000 in
theorem kUw2 : ∀ w ∈ u_ws RX2 TX2 5, w ∈ kTbl := fun w h => (kAll2_ok (f := fun w p => kAt_ lw_tbl p w) _ [243, 245, 247, 249, 251] (by decide +kernel) w h).elim (fun _ q => kAt_mem q)
set_option maxRecDepth 100000 in
theorem kUw3 : ∀ w ∈ u_ws RX3 TX3 8, w ∈ kTbl := fun w h => (kAll2_ok (f := fun w p => kAt_ lw_tbl p w) _ [269, 271, 273, 275, 277, 279, 281, 283] (by decide +kernel) w h).elim (fun _ q => kAt_mem q)
set_option maxRecDepth 100000 in
theorem kUw4 : ∀ w ∈ u_ws RX4 TX4 5, w ∈ kTbl := fun w h => (kAll2_ok (f := fun w p => kAt_ lw_tbl p w) _ [157, 159, 161, 163, 165] (by decide +kernel) w h).elim (fun _ q => kAt_mem q)
set_option maxRecDepth 100000 in
theorem kUw5 : ∀ w ∈ u_ws RX5 TX5 9, w ∈ kTbl := fun w h => (kAll2_ok (f := fun w p => kAt_ lw_tbl p w) _ [124, 126, 128, 130, 132, 134, 136, 138, 140] (by decide +kernel) w h).elim (fun _ q => kAt_mem q)
set_option maxRecDepth 100000 in
theorem kUw6 : ∀ w ∈ u_ws RX6 TX6 5, w ∈ kTbl := fun w h => (kAll2_ok (f := fun w p => kAt_ lw_tbl p w) _ [221, 223, 225, 227, 229] (by decide +kernel) w h).elim (fun _ q => kAt_mem q)
set_option maxRecDepth 100000 in
theorem kUw7 : ∀ w ∈ u_ws RX7 TX7 4, w ∈ kTbl := fun w h => (kAll2_ok (f := fun w p => kAt_ lw_tbl p w) _ [315, 317, 319, 321] (by decide +kernel) w h).elim (fun _ q => kAt_mem q)
set_option maxRecDepth 100000 in
theorem kUw8 : ∀ w ∈ u_ws RX8 TX8 4, w ∈ kTbl := fun w h => (kAll2_ok (f := fun w p => kAt_ lw_tbl p w) _ [201, 203, 205, 207] (by decide +kernel) w h).elim (fun _ q => kAt_mem q)
set_option maxRecDepth 100000 in
theorem kUw9 : ∀ w ∈ u_ws RX9 TX9 11, w ∈ kTbl := fun w h => (kAll2_ok (f := fun w p => kAt_ lw_tbl p w) _ [336, 338, 340, 342, 344, 346, 348, 350, 352, 354, 356] (by decide +kernel) w h).elim (fun _ q => kAt_mem q)
set_option maxRecDepth 100000 in
theorem kUw10 : ∀ w ∈ u_ws RX10 TX10 59, w ∈ kTbl := fun w h => (kAll2_ok (f := fun w p => kAt_ lw_tbl p w) _ [1168, 1170, 1172, 1174, 1176, 1178, 1180, 1182, 1184, 1186, 1188, 1190, 1192, 1194, 1196, 1198, 1200, 1202, 1204, 1206, 1208, 1210, 1212, 1214, 1216, 1218, 1220, 1222, 1224, 1226, 1228, 1230, 1232, 1234, 1236, 1238, 1240, 1242, 1244, 1246, 1248, 1250, 1252, 1254, 1256, 1258, 1260, 1262, 1264, 1266, 1268, 1270, 1272, 1274, 1276, 1278, 1280, 1282, 1284] (by decide +kernel) w h).elim (fun _ q => kAt_mem q)
theorem kCl_ok : kClOk kTbl kCl := by
  intro a q h
  match a, h with
  | 0, h => cases h; exact kUw0
  | 1, h => cases h; exact kUw1
  | 2, h => cases h; exact kUw2
  | 3, h => cases h; exact kUw3
  | 4, h => cases h; exact kUw4
  | 5, h => cases h; exact kUw5
  | 6, h => cases h; exact kUw6
  | 7, h => cases h; exact kUw7
  | 8, h => cases h; exact kUw8
  | 9, h => cases h; exact kUw9
  | 10, h => cases h; exact kUw10
  | a + 11, h => cases h
