-- laid by wip/whole/law.py
def c295p0 : List (Nat × List kIt) := [(18, b295_18), (228, b295_228), (237, b295_237), (246, b295_246), (251, b295_251)]
set_option maxRecDepth 100000 in
theorem kc295p0 : c295p0.all (fun q => kOkB kTb11 kPlt cL_law (some .boolean) q.1 q.2) = true := by decide +kernel
def c295p1 : List (Nat × List kIt) := [(265, b295_265), (279, b295_279), (284, b295_284)]
set_option maxRecDepth 100000 in
theorem kc295p1 : c295p1.all (fun q => kOkB kTb11 kPlt cL_law (some .boolean) q.1 q.2) = true := by decide +kernel
def c295p2 : List (Nat × List kIt) := [(303, b295_303), (322, b295_322), (327, b295_327)]
set_option maxRecDepth 100000 in
theorem kc295p2 : c295p2.all (fun q => kOkB kTb11 kPlt cL_law (some .boolean) q.1 q.2) = true := by decide +kernel
def c295p3 : List (Nat × List kIt) := [(346, b295_346), (365, b295_365), (370, b295_370)]
set_option maxRecDepth 100000 in
theorem kc295p3 : c295p3.all (fun q => kOkB kTb11 kPlt cL_law (some .boolean) q.1 q.2) = true := by decide +kernel
def c295p4 : List (Nat × List kIt) := [(384, b295_384), (398, b295_398), (403, b295_403), (412, b295_412), (421, b295_421), (426, b295_426), (430, b295_430), (434, b295_434)]
set_option maxRecDepth 100000 in
theorem kc295p4 : c295p4.all (fun q => kOkB kTb11 kPlt cL_law (some .boolean) q.1 q.2) = true := by decide +kernel
def c295p5 : List (Nat × List kIt) := [(439, b295_439), (453, b295_453), (467, b295_467)]
set_option maxRecDepth 100000 in
theorem kc295p5 : c295p5.all (fun q => kOkB kTb11 kPlt cL_law (some .boolean) q.1 q.2) = true := by decide +kernel
def c295p6 : List (Nat × List kIt) := [(472, b295_472), (491, b295_491), (510, b295_510)]
set_option maxRecDepth 100000 in
theorem kc295p6 : c295p6.all (fun q => kOkB kTb11 kPlt cL_law (some .boolean) q.1 q.2) = true := by decide +kernel
def c295p7 : List (Nat × List kIt) := [(515, b295_515), (529, b295_529), (543, b295_543), (548, b295_548)]
set_option maxRecDepth 100000 in
theorem kc295p7 : c295p7.all (fun q => kOkB kTb11 kPlt cL_law (some .boolean) q.1 q.2) = true := by decide +kernel
def c295p8 : List (Nat × List kIt) := [(562, b295_562), (576, b295_576), (581, b295_581)]
set_option maxRecDepth 100000 in
theorem kc295p8 : c295p8.all (fun q => kOkB kTb11 kPlt cL_law (some .boolean) q.1 q.2) = true := by decide +kernel
def c295p9 : List (Nat × List kIt) := [(600, b295_600), (619, b295_619), (624, b295_624)]
set_option maxRecDepth 100000 in
theorem kc295p9 : c295p9.all (fun q => kOkB kTb11 kPlt cL_law (some .boolean) q.1 q.2) = true := by decide +kernel
def c295p10 : List (Nat × List kIt) := [(638, b295_638), (652, b295_652), (657, b295_657), (666, b295_666), (675, b295_675)]
set_option maxRecDepth 100000 in
theorem kc295p10 : c295p10.all (fun q => kOkB kTb11 kPlt cL_law (some .boolean) q.1 q.2) = true := by decide +kernel
def c295p11 : List (Nat × List kIt) := [(680, b295_680), (694, b295_694), (708, b295_708), (713, b295_713), (722, b295_722)]
set_option maxRecDepth 100000 in
theorem kc295p11 : c295p11.all (fun q => kOkB kTb11 kPlt cL_law (some .boolean) q.1 q.2) = true := by decide +kernel
def c295p12 : List (Nat × List kIt) := [(731, b295_731), (736, b295_736), (745, b295_745), (754, b295_754), (759, b295_759)]
set_option maxRecDepth 100000 in
theorem kc295p12 : c295p12.all (fun q => kOkB kTb11 kPlt cL_law (some .boolean) q.1 q.2) = true := by decide +kernel
def c295p13 : List (Nat × List kIt) := [(773, b295_773), (787, b295_787), (792, b295_792), (806, b295_806), (820, b295_820)]
set_option maxRecDepth 100000 in
theorem kc295p13 : c295p13.all (fun q => kOkB kTb11 kPlt cL_law (some .boolean) q.1 q.2) = true := by decide +kernel
def c295p14 : List (Nat × List kIt) := [(825, b295_825), (839, b295_839), (853, b295_853)]
set_option maxRecDepth 100000 in
theorem kc295p14 : c295p14.all (fun q => kOkB kTb11 kPlt cL_law (some .boolean) q.1 q.2) = true := by decide +kernel
def c295p15 : List (Nat × List kIt) := [(858, b295_858), (877, b295_877), (896, b295_896)]
set_option maxRecDepth 100000 in
theorem kc295p15 : c295p15.all (fun q => kOkB kTb11 kPlt cL_law (some .boolean) q.1 q.2) = true := by decide +kernel
def c295p16 : List (Nat × List kIt) := [(901, b295_901), (915, b295_915), (929, b295_929)]
set_option maxRecDepth 100000 in
theorem kc295p16 : c295p16.all (fun q => kOkB kTb11 kPlt cL_law (some .boolean) q.1 q.2) = true := by decide +kernel
def c295p17 : List (Nat × List kIt) := [(934, b295_934), (953, b295_953), (972, b295_972)]
set_option maxRecDepth 100000 in
theorem kc295p17 : c295p17.all (fun q => kOkB kTb11 kPlt cL_law (some .boolean) q.1 q.2) = true := by decide +kernel
def c295p18 : List (Nat × List kIt) := [(977, b295_977), (986, b295_986), (995, b295_995), (1000, b295_1000)]
set_option maxRecDepth 100000 in
theorem kc295p18 : c295p18.all (fun q => kOkB kTb11 kPlt cL_law (some .boolean) q.1 q.2) = true := by decide +kernel
def c295p19 : List (Nat × List kIt) := [(1019, b295_1019), (1038, b295_1038), (1043, b295_1043)]
set_option maxRecDepth 100000 in
theorem kc295p19 : c295p19.all (fun q => kOkB kTb11 kPlt cL_law (some .boolean) q.1 q.2) = true := by decide +kernel
def c295p20 : List (Nat × List kIt) := [(1062, b295_1062), (1081, b295_1081), (1086, b295_1086)]
set_option maxRecDepth 100000 in
theorem kc295p20 : c295p20.all (fun q => kOkB kTb11 kPlt cL_law (some .boolean) q.1 q.2) = true := by decide +kernel
def c295p21 : List (Nat × List kIt) := [(1105, b295_1105), (1124, b295_1124), (1129, b295_1129), (1138, b295_1138), (1147, b295_1147)]
set_option maxRecDepth 100000 in
theorem kc295p21 : c295p21.all (fun q => kOkB kTb11 kPlt cL_law (some .boolean) q.1 q.2) = true := by decide +kernel
def c295p22 : List (Nat × List kIt) := [(1152, b295_1152), (1161, b295_1161), (1170, b295_1170), (1175, b295_1175), (1179, b295_1179), (1183, b295_1183), (1188, b295_1188), (1197, b295_1197)]
set_option maxRecDepth 100000 in
theorem kc295p22 : c295p22.all (fun q => kOkB kTb11 kPlt cL_law (some .boolean) q.1 q.2) = true := by decide +kernel
def c295p23 : List (Nat × List kIt) := [(1206, b295_1206), (1211, b295_1211), (1215, b295_1215), (1219, b295_1219), (1224, b295_1224), (1228, b295_1228), (1232, b295_1232), (1237, b295_1237), (1241, b295_1241), (1245, b295_1245), (1250, b295_1250), (1254, b295_1254), (1258, b295_1258)]
set_option maxRecDepth 100000 in
theorem kc295p23 : c295p23.all (fun q => kOkB kTb11 kPlt cL_law (some .boolean) q.1 q.2) = true := by decide +kernel
def c295p24 : List (Nat × List kIt) := [(1263, b295_1263), (1272, b295_1272), (1281, b295_1281), (1286, b295_1286)]
set_option maxRecDepth 100000 in
theorem kc295p24 : c295p24.all (fun q => kOkB kTb11 kPlt cL_law (some .boolean) q.1 q.2) = true := by decide +kernel
def c295p25 : List (Nat × List kIt) := [(1305, b295_1305), (1324, b295_1324), (1329, b295_1329), (1338, b295_1338), (1347, b295_1347)]
set_option maxRecDepth 100000 in
theorem kc295p25 : c295p25.all (fun q => kOkB kTb11 kPlt cL_law (some .boolean) q.1 q.2) = true := by decide +kernel
def c295p26 : List (Nat × List kIt) := [(1352, b295_1352), (1366, b295_1366), (1380, b295_1380)]
set_option maxRecDepth 100000 in
theorem kc295p26 : c295p26.all (fun q => kOkB kTb11 kPlt cL_law (some .boolean) q.1 q.2) = true := by decide +kernel
def c295p27 : List (Nat × List kIt) := [(1385, b295_1385), (1404, b295_1404), (1423, b295_1423)]
set_option maxRecDepth 100000 in
theorem kc295p27 : c295p27.all (fun q => kOkB kTb11 kPlt cL_law (some .boolean) q.1 q.2) = true := by decide +kernel
def c295p28 : List (Nat × List kIt) := [(1428, b295_1428)]
set_option maxRecDepth 100000 in
theorem kc295p28 : c295p28.all (fun q => kOkB kTb11 kPlt cL_law (some .boolean) q.1 q.2) = true := by decide +kernel
def c295p29 : List (Nat × List kIt) := [(1462, b295_1462), (1496, b295_1496)]
set_option maxRecDepth 100000 in
theorem kc295p29 : c295p29.all (fun q => kOkB kTb11 kPlt cL_law (some .boolean) q.1 q.2) = true := by decide +kernel
def c295p30 : List (Nat × List kIt) := [(1501, b295_1501), (1515, b295_1515), (1529, b295_1529)]
set_option maxRecDepth 100000 in
theorem kc295p30 : c295p30.all (fun q => kOkB kTb11 kPlt cL_law (some .boolean) q.1 q.2) = true := by decide +kernel
def c295p31 : List (Nat × List kIt) := [(1535, b295_1535)]
set_option maxRecDepth 100000 in
theorem kc295p31 : c295p31.all (fun q => kOkB kTb11 kPlt cL_law (some .boolean) q.1 q.2) = true := by decide +kernel
def c295p32 : List (Nat × List kIt) := [(1564, b295_1564), (1593, b295_1593), (1598, b295_1598)]
set_option maxRecDepth 100000 in
theorem kc295p32 : c295p32.all (fun q => kOkB kTb11 kPlt cL_law (some .boolean) q.1 q.2) = true := by decide +kernel
def c295p33 : List (Nat × List kIt) := [(1612, b295_1612), (1626, b295_1626), (1631, b295_1631), (1640, b295_1640), (1649, b295_1649), (1654, b295_1654), (1660, b295_1660)]
set_option maxRecDepth 100000 in
theorem kc295p33 : c295p33.all (fun q => kOkB kTb11 kPlt cL_law (some .boolean) q.1 q.2) = true := by decide +kernel
theorem kc295 : c295.tail.all (fun q => kOkB kTb11 kPlt cL_law (some .boolean) q.1 q.2) = true := by
  rw [show c295.tail = c295p0 ++ (c295p1 ++ (c295p2 ++ (c295p3 ++ (c295p4 ++ (c295p5 ++ (c295p6 ++ (c295p7 ++ (c295p8 ++ (c295p9 ++ (c295p10 ++ (c295p11 ++ (c295p12 ++ (c295p13 ++ (c295p14 ++ (c295p15 ++ (c295p16 ++ (c295p17 ++ (c295p18 ++ (c295p19 ++ (c295p20 ++ (c295p21 ++ (c295p22 ++ (c295p23 ++ (c295p24 ++ (c295p25 ++ (c295p26 ++ (c295p27 ++ (c295p28 ++ (c295p29 ++ (c295p30 ++ (c295p31 ++ (c295p32 ++ (c295p33))))))))))))))))))))))))))))))))) from rfl]
  simp only [List.all_append, kc295p0, kc295p1, kc295p2, kc295p3, kc295p4, kc295p5, kc295p6, kc295p7, kc295p8, kc295p9, kc295p10, kc295p11, kc295p12, kc295p13, kc295p14, kc295p15, kc295p16, kc295p17, kc295p18, kc295p19, kc295p20, kc295p21, kc295p22, kc295p23, kc295p24, kc295p25, kc295p26, kc295p27, kc295p28, kc295p29, kc295p30, kc295p31, kc295p32, kc295p33, Bool.and_self]
