-- laid by wip/whole/gen.py
set_option maxRecDepth 100000 in
theorem kc72 : c72.all (fun q => kOkB kTb5 kPlt cX5_isThere (some .boolean) q.1 q.2) = true := by decide +kernel
set_option maxRecDepth 100000 in
theorem kc73 : c73.all (fun q => kOkB kTb5 kPlt cX5_ofChild none q.1 q.2) = true := by decide +kernel
set_option maxRecDepth 100000 in
theorem kc74 : c74.all (fun q => kOkB kTb5 kPlt cX5_gives (some .int) q.1 q.2) = true := by decide +kernel
set_option maxRecDepth 100000 in
theorem kc75 : c75.all (fun q => kOkB kTb5 kPlt cX5_turned (some .int) q.1 q.2) = true := by decide +kernel
set_option maxRecDepth 100000 in
theorem kc76 : c76.all (fun q => kOkB kTb5 kPlt cX5_joined (some .int) q.1 q.2) = true := by decide +kernel
set_option maxRecDepth 100000 in
theorem kc77 : c77.all (fun q => kOkB kTb5 kPlt cX5_truth (some .int) q.1 q.2) = true := by decide +kernel
set_option maxRecDepth 100000 in
theorem kc78 : c78.all (fun q => kOkB kTb6 kPlt cX6_make none q.1 q.2) = true := by decide +kernel
set_option maxRecDepth 100000 in
theorem kc79 : c79.all (fun q => kOkB kTb6 kPlt cX6_weigh none q.1 q.2) = true := by decide +kernel
set_option maxRecDepth 100000 in
theorem kc80 : c80.all (fun q => kOkB kTb6 kPlt cX6_bestOf (some .int) q.1 q.2) = true := by decide +kernel
set_option maxRecDepth 100000 in
theorem kc81 : c81.all (fun q => kOkB kTb6 kPlt cX6_worthWith (some .int) q.1 q.2) = true := by decide +kernel
set_option maxRecDepth 100000 in
theorem kc82 : c82.all (fun q => kOkB kTb6 kPlt cX6_choose none q.1 q.2) = true := by decide +kernel
set_option maxRecDepth 100000 in
theorem kc83 : c83.all (fun q => kOkB kTb6 kPlt cX6_lapsOf (some .int) q.1 q.2) = true := by decide +kernel
set_option maxRecDepth 100000 in
theorem kc84 : c84.all (fun q => kOkB kTb6 kPlt cX6_pence (some .int) q.1 q.2) = true := by decide +kernel
set_option maxRecDepth 100000 in
theorem kc85 : c85.all (fun q => kOkB kTb6 kPlt cX6_minutesUsed (some .int) q.1 q.2) = true := by decide +kernel
set_option maxRecDepth 100000 in
theorem kc86 : c86.all (fun q => kOkB kTb7 kPlt cX7_isShelf (some .boolean) q.1 q.2) = true := by decide +kernel
set_option maxRecDepth 100000 in
theorem kc87 : c87.all (fun q => kOkB kTb7 kPlt cX7_isEmpty (some .boolean) q.1 q.2) = true := by decide +kernel
set_option maxRecDepth 100000 in
theorem kc88 : c88.all (fun q => kOkB kTb7 kPlt cX7_isRow (some .boolean) q.1 q.2) = true := by decide +kernel
set_option maxRecDepth 100000 in
theorem kc89 : c89.all (fun q => kOkB kTb7 kPlt cX7_areAlike (some .boolean) q.1 q.2) = true := by decide +kernel
set_option maxRecDepth 100000 in
theorem kc90 : c90.all (fun q => kOkB kTb7 kPlt cX7_refusal (some .int) q.1 q.2) = true := by decide +kernel
set_option maxRecDepth 100000 in
theorem kc91 : c91.all (fun q => kOkB kTb7 kPlt cX7_placeRefusal (some .int) q.1 q.2) = true := by decide +kernel
set_option maxRecDepth 100000 in
theorem kc92 : c92.all (fun q => kOkB kTb7 kPlt cX7_isPlace (some .boolean) q.1 q.2) = true := by decide +kernel
set_option maxRecDepth 100000 in
theorem kc93 : c93.all (fun q => kOkB kTb7 kPlt cX7_size (some .int) q.1 q.2) = true := by decide +kernel
set_option maxRecDepth 100000 in
theorem kc94 : c94.all (fun q => kOkB kTb7 kPlt cX7_bodyOn (some .int) q.1 q.2) = true := by decide +kernel
set_option maxRecDepth 100000 in
theorem kc95 : c95.all (fun q => kOkB kTb7 kPlt cX7_hold none q.1 q.2) = true := by decide +kernel
set_option maxRecDepth 100000 in
theorem kc96 : c96.all (fun q => kOkB kTb7 kPlt cX7_holdRow none q.1 q.2) = true := by decide +kernel
set_option maxRecDepth 100000 in
theorem kc97 : c97.all (fun q => kOkB kTb7 kPlt cX7_value (some .long) q.1 q.2) = true := by decide +kernel
set_option maxRecDepth 100000 in
theorem kc98 : c98.all (fun q => kOkB kTb7 kPlt cX7_become none q.1 q.2) = true := by decide +kernel
set_option maxRecDepth 100000 in
theorem kc99 : c99.all (fun q => kOkB kTb7 kPlt cX7_cut (some .long) q.1 q.2) = true := by decide +kernel
set_option maxRecDepth 100000 in
theorem kc100 : c100.all (fun q => kOkB kTb7 kPlt cX7_hasPart (some .boolean) q.1 q.2) = true := by decide +kernel
set_option maxRecDepth 100000 in
theorem kc101 : c101.all (fun q => kOkB kTb7 kPlt cX7_copyPart none q.1 q.2) = true := by decide +kernel
set_option maxRecDepth 100000 in
theorem kc102 : c102.all (fun q => kOkB kTb8 kPlt cX8_lapsIn (some .int) q.1 q.2) = true := by decide +kernel
set_option maxRecDepth 100000 in
theorem kc103 : c103.all (fun q => kOkB kTb8 kPlt cX8_think none q.1 q.2) = true := by decide +kernel
set_option maxRecDepth 100000 in
theorem kc104 : c104.all (fun q => kOkB kTb8 kPlt cX8_lapsNow (some .int) q.1 q.2) = true := by decide +kernel
set_option maxRecDepth 100000 in
theorem kc105 : c105.all (fun q => kOkB kTb8 kPlt cX8_timeLaps none q.1 q.2) = true := by decide +kernel
set_option maxRecDepth 100000 in
theorem kc106 : c106.all (fun q => kOkB kTb8 kPlt cX8_reachOf (some .int) q.1 q.2) = true := by decide +kernel
set_option maxRecDepth 100000 in
theorem kc107 : c107.all (fun q => kOkB kTb8 kPlt cX8_endOf (some .int) q.1 q.2) = true := by decide +kernel
set_option maxRecDepth 100000 in
theorem kc108 : c108.all (fun q => kOkB kTb8 kPlt cX8_beginMinutes none q.1 q.2) = true := by decide +kernel
set_option maxRecDepth 100000 in
theorem kc109 : c109.all (fun q => kOkB kTb8 kPlt cX8_goOnTo (some .boolean) q.1 q.2) = true := by decide +kernel
set_option maxRecDepth 100000 in
theorem kc110 : c110.all (fun q => kOkB kTb8 kPlt cX8_drawField (some .int) q.1 q.2) = true := by decide +kernel
set_option maxRecDepth 100000 in
theorem kc111 : c111.all (fun q => kOkB kTb8 kPlt cX8_drawLaps (some .int) q.1 q.2) = true := by decide +kernel
set_option maxRecDepth 100000 in
theorem kc112 : c112.all (fun q => kOkB kTb8 kPlt cX8_lapsOfAll (some .int) q.1 q.2) = true := by decide +kernel
set_option maxRecDepth 100000 in
theorem kc113 : c113.all (fun q => kOkB kTb8 kPlt cX8_owedByAll (some .int) q.1 q.2) = true := by decide +kernel
set_option maxRecDepth 100000 in
theorem kc114 : c114.all (fun q => kOkB kTb8 kPlt cX8_paidByAll (some .int) q.1 q.2) = true := by decide +kernel
set_option maxRecDepth 100000 in
theorem kc115 : c115.all (fun q => kOkB kTb8 kPlt cX8_surprised (some .int) q.1 q.2) = true := by decide +kernel
set_option maxRecDepth 100000 in
theorem kc116 : c116.all (fun q => kOkB kTb8 kPlt cX8_mostLaps (some .int) q.1 q.2) = true := by decide +kernel
set_option maxRecDepth 100000 in
theorem kc117 : c117.all (fun q => kOkB kTb8 kPlt cX8_mostPence (some .int) q.1 q.2) = true := by decide +kernel
set_option maxRecDepth 100000 in
theorem kc118 : c118.all (fun q => kOkB kTb9 kPlt cX9_within (some .boolean) q.1 q.2) = true := by decide +kernel
set_option maxRecDepth 100000 in
theorem kc119 : c119.all (fun q => kOkB kTb9 kPlt cX9_isPair (some .boolean) q.1 q.2) = true := by decide +kernel
set_option maxRecDepth 100000 in
theorem kc120 : c120.all (fun q => kOkB kTb9 kPlt cX9_child (some .int) q.1 q.2) = true := by decide +kernel
set_option maxRecDepth 100000 in
theorem kc121 : c121.all (fun q => kOkB kTb9 kPlt cX9_sponsor (some .int) q.1 q.2) = true := by decide +kernel
set_option maxRecDepth 100000 in
theorem kc122 : c122.all (fun q => kOkB kTb9 kPlt cX9_sponsors (some .int) q.1 q.2) = true := by decide +kernel
set_option maxRecDepth 100000 in
theorem kc123 : c123.all (fun q => kOkB kTb9 kPlt cX9_sponsorsFromRow (some .int) q.1 q.2) = true := by decide +kernel
set_option maxRecDepth 100000 in
theorem kc124 : c124.all (fun q => kOkB kTb9 kPlt cX9_mend (some .int) q.1 q.2) = true := by decide +kernel
set_option maxRecDepth 100000 in
theorem kc125 : c125.all (fun q => kOkB kTb9 kPlt cX9_of (some .int) q.1 q.2) = true := by decide +kernel
set_option maxRecDepth 100000 in
theorem kc126 : c126.all (fun q => kOkB kTb9 kPlt cX9_feed (some .int) q.1 q.2) = true := by decide +kernel
set_option maxRecDepth 100000 in
theorem kc127 : c127.all (fun q => kOkB kTb9 kPlt cX9_law (some .int) q.1 q.2) = true := by decide +kernel
set_option maxRecDepth 100000 in
theorem kc128 : c128.all (fun q => kOkB kTb9 kPlt cX9_lap (some .int) q.1 q.2) = true := by decide +kernel
set_option maxRecDepth 100000 in
theorem kc129 : c129.all (fun q => kOkB kTb9 kPlt cX9_laps (some .int) q.1 q.2) = true := by decide +kernel
set_option maxRecDepth 100000 in
theorem kc130 : c130.all (fun q => kOkB kTb9 kPlt cX9_minutes (some .int) q.1 q.2) = true := by decide +kernel
set_option maxRecDepth 100000 in
theorem kc131 : c131.all (fun q => kOkB kTb9 kPlt cX9_most (some .int) q.1 q.2) = true := by decide +kernel
set_option maxRecDepth 100000 in
theorem kc132 : c132.all (fun q => kOkB kTb9 kPlt cX9_owes (some .int) q.1 q.2) = true := by decide +kernel
set_option maxRecDepth 100000 in
theorem kc133 : c133.all (fun q => kOkB kTb9 kPlt cX9_more (some .int) q.1 q.2) = true := by decide +kernel
set_option maxRecDepth 100000 in
theorem kc134 : c134.all (fun q => kOkB kTb9 kPlt cX9_done (some .int) q.1 q.2) = true := by decide +kernel
set_option maxRecDepth 100000 in
theorem kc135 : c135.all (fun q => kOkB kTb9 kPlt cX9_lapOrSum (some .int) q.1 q.2) = true := by decide +kernel
set_option maxRecDepth 100000 in
theorem kc136 : c136.all (fun q => kOkB kTb9 kPlt cX9_top (some .int) q.1 q.2) = true := by decide +kernel
set_option maxRecDepth 100000 in
theorem kc137 : c137.all (fun q => kOkB kTb9 kPlt cX9_howLong (some .int) q.1 q.2) = true := by decide +kernel
set_option maxRecDepth 100000 in
theorem kc138 : c138.all (fun q => kOkB kTb9 kPlt cX9_field (some .int) q.1 q.2) = true := by decide +kernel
set_option maxRecDepth 100000 in
theorem kc139 : c139.all (fun q => kOkB kTb9 kPlt cX9_comes (some .int) q.1 q.2) = true := by decide +kernel
set_option maxRecDepth 100000 in
theorem kc140 : c140.all (fun q => kOkB kTb9 kPlt cX9_by (some .int) q.1 q.2) = true := by decide +kernel
set_option maxRecDepth 100000 in
theorem kc141 : c141.all (fun q => kOkB kTb9 kPlt cX9_remind (some .int) q.1 q.2) = true := by decide +kernel
set_option maxRecDepth 100000 in
theorem kc142 : c142.all (fun q => kOkB kTb9 kPlt cX9_readReminders none q.1 q.2) = true := by decide +kernel
set_option maxRecDepth 100000 in
theorem kc143 : c143.all (fun q => kOkB kTb9 kPlt cX9_judge (some .int) q.1 q.2) = true := by decide +kernel
