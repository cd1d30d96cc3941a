-- laid by wip/whole/gen.py
set_option maxRecDepth 100000 in
theorem kc0 : c0.all (fun q => kOkB kTb0 kPlt cX0_bodies (some .int) q.1 q.2) = true := by decide +kernel
set_option maxRecDepth 100000 in
theorem kc1 : c1.all (fun q => kOkB kTb0 kPlt cX0_ran (some .int) q.1 q.2) = true := by decide +kernel
set_option maxRecDepth 100000 in
theorem kc2 : c2.all (fun q => kOkB kTb0 kPlt cX0_isKind (some .boolean) q.1 q.2) = true := by decide +kernel
set_option maxRecDepth 100000 in
theorem kc3 : c3.all (fun q => kOkB kTb0 kPlt cX0_isBody (some .boolean) q.1 q.2) = true := by decide +kernel
set_option maxRecDepth 100000 in
theorem kc4 : c4.all (fun q => kOkB kTb0 kPlt cX0_kindOf (some .int) q.1 q.2) = true := by decide +kernel
set_option maxRecDepth 100000 in
theorem kc5 : c5.all (fun q => kOkB kTb0 kPlt cX0_bodyComes (some .int) q.1 q.2) = true := by decide +kernel
set_option maxRecDepth 100000 in
theorem kc6 : c6.all (fun q => kOkB kTb0 kPlt cX0_isUnder (some .boolean) q.1 q.2) = true := by decide +kernel
set_option maxRecDepth 100000 in
theorem kc7 : c7.all (fun q => kOkB kTb0 kPlt cX0_traced (some .int) q.1 q.2) = true := by decide +kernel
set_option maxRecDepth 100000 in
theorem kc8 : c8.all (fun q => kOkB kTb0 kPlt cX0_begin (some .int) q.1 q.2) = true := by decide +kernel
set_option maxRecDepth 100000 in
theorem kc9 : c9.all (fun q => kOkB kTb0 kPlt cX0_own (some .int) q.1 q.2) = true := by decide +kernel
set_option maxRecDepth 100000 in
theorem kc10 : c10.all (fun q => kOkB kTb0 kPlt cX0_higher (some .int) q.1 q.2) = true := by decide +kernel
set_option maxRecDepth 100000 in
theorem kc11 : c11.all (fun q => kOkB kTb0 kPlt cX0_from (some .int) q.1 q.2) = true := by decide +kernel
set_option maxRecDepth 100000 in
theorem kc12 : c12.all (fun q => kOkB kTb0 kPlt cX0_perform (some .int) q.1 q.2) = true := by decide +kernel
set_option maxRecDepth 100000 in
theorem kc13 : c13.all (fun q => kOkB kTb1 kPlt cX1_undoable (some .int) q.1 q.2) = true := by decide +kernel
set_option maxRecDepth 100000 in
theorem kc14 : c14.all (fun q => kOkB kTb1 kPlt cX1_add none q.1 q.2) = true := by decide +kernel
set_option maxRecDepth 100000 in
theorem kc15 : c15.all (fun q => kOkB kTb1 kPlt cX1_forgetOldest none q.1 q.2) = true := by decide +kernel
set_option maxRecDepth 100000 in
theorem kc16 : c16.all (fun q => kOkB kTb1 kPlt cX1_undoOne (some .int) q.1 q.2) = true := by decide +kernel
set_option maxRecDepth 100000 in
theorem kc17 : c17.all (fun q => kOkB kTb1 kPlt cX1_redoOne (some .int) q.1 q.2) = true := by decide +kernel
set_option maxRecDepth 100000 in
theorem kc18 : c18.all (fun q => kOkB kTb2 kPlt cX2_begin none q.1 q.2) = true := by decide +kernel
set_option maxRecDepth 100000 in
theorem kc19 : c19.all (fun q => kOkB kTb2 kPlt cX2_remindIn none q.1 q.2) = true := by decide +kernel
set_option maxRecDepth 100000 in
theorem kc20 : c20.all (fun q => kOkB kTb2 kPlt cX2_cameBy (some .int) q.1 q.2) = true := by decide +kernel
set_option maxRecDepth 100000 in
theorem kc21 : c21.all (fun q => kOkB kTb2 kPlt cX2_startWeeks none q.1 q.2) = true := by decide +kernel
set_option maxRecDepth 100000 in
theorem kc22 : c22.all (fun q => kOkB kTb2 kPlt cX2_comesIn (some .int) q.1 q.2) = true := by decide +kernel
set_option maxRecDepth 100000 in
theorem kc23 : c23.all (fun q => kOkB kTb2 kPlt cX2_weeksTill (some .int) q.1 q.2) = true := by decide +kernel
set_option maxRecDepth 100000 in
theorem kc24 : c24.all (fun q => kOkB kTb2 kPlt cX2_bestWeek (some .int) q.1 q.2) = true := by decide +kernel
set_option maxRecDepth 100000 in
theorem kc25 : c25.all (fun q => kOkB kTb3 kPlt cX3_lapsOf (some .int) q.1 q.2) = true := by decide +kernel
set_option maxRecDepth 100000 in
theorem kc26 : c26.all (fun q => kOkB kTb3 kPlt cX3_minutesOf (some .int) q.1 q.2) = true := by decide +kernel
set_option maxRecDepth 100000 in
theorem kc27 : c27.all (fun q => kOkB kTb3 kPlt cX3_paidBy (some .int) q.1 q.2) = true := by decide +kernel
set_option maxRecDepth 100000 in
theorem kc28 : c28.all (fun q => kOkB kTb3 kPlt cX3_ledLaps (some .int) q.1 q.2) = true := by decide +kernel
set_option maxRecDepth 100000 in
theorem kc29 : c29.all (fun q => kOkB kTb3 kPlt cX3_ledPence (some .int) q.1 q.2) = true := by decide +kernel
set_option maxRecDepth 100000 in
theorem kc30 : c30.all (fun q => kOkB kTb3 kPlt cX3_ledMinutes (some .int) q.1 q.2) = true := by decide +kernel
set_option maxRecDepth 100000 in
theorem kc31 : c31.all (fun q => kOkB kTb3 kPlt cX3_fields (some .int) q.1 q.2) = true := by decide +kernel
set_option maxRecDepth 100000 in
theorem kc32 : c32.all (fun q => kOkB kTb3 kPlt cX3_surprises (some .int) q.1 q.2) = true := by decide +kernel
set_option maxRecDepth 100000 in
theorem kc33 : c33.all (fun q => kOkB kTb3 kPlt cX3_lapsOfField (some .int) q.1 q.2) = true := by decide +kernel
set_option maxRecDepth 100000 in
theorem kc34 : c34.all (fun q => kOkB kTb3 kPlt cX3_lapRun none q.1 q.2) = true := by decide +kernel
set_option maxRecDepth 100000 in
theorem kc35 : c35.all (fun q => kOkB kTb3 kPlt cX3_asked none q.1 q.2) = true := by decide +kernel
set_option maxRecDepth 100000 in
theorem kc36 : c36.all (fun q => kOkB kTb3 kPlt cX3_newField none q.1 q.2) = true := by decide +kernel
set_option maxRecDepth 100000 in
theorem kc37 : c37.all (fun q => kOkB kTb3 kPlt cX3_becomeLike none q.1 q.2) = true := by decide +kernel
set_option maxRecDepth 100000 in
theorem kc38 : c38.all (fun q => kOkB kTb4 kPlt cX4_childCount (some .int) q.1 q.2) = true := by decide +kernel
set_option maxRecDepth 100000 in
theorem kc39 : c39.all (fun q => kOkB kTb4 kPlt cX4_sponsorCount (some .int) q.1 q.2) = true := by decide +kernel
set_option maxRecDepth 100000 in
theorem kc40 : c40.all (fun q => kOkB kTb4 kPlt cX4_isChild (some .boolean) q.1 q.2) = true := by decide +kernel
set_option maxRecDepth 100000 in
theorem kc41 : c41.all (fun q => kOkB kTb4 kPlt cX4_isSponsor (some .boolean) q.1 q.2) = true := by decide +kernel
set_option maxRecDepth 100000 in
theorem kc42 : c42.all (fun q => kOkB kTb4 kPlt cX4_childOf (some .int) q.1 q.2) = true := by decide +kernel
set_option maxRecDepth 100000 in
theorem kc43 : c43.all (fun q => kOkB kTb4 kPlt cX4_place (some .int) q.1 q.2) = true := by decide +kernel
set_option maxRecDepth 100000 in
theorem kc44 : c44.all (fun q => kOkB kTb4 kPlt cX4_at (some .int) q.1 q.2) = true := by decide +kernel
set_option maxRecDepth 100000 in
theorem kc45 : c45.all (fun q => kOkB kTb4 kPlt cX4_become none q.1 q.2) = true := by decide +kernel
set_option maxRecDepth 100000 in
theorem kc46 : c46.all (fun q => kOkB kTb4 kPlt cX4_told (some .int) q.1 q.2) = true := by decide +kernel
set_option maxRecDepth 100000 in
theorem kc47 : c47.all (fun q => kOkB kTb4 kPlt cX4_childComes (some .int) q.1 q.2) = true := by decide +kernel
set_option maxRecDepth 100000 in
theorem kc48 : c48.all (fun q => kOkB kTb4 kPlt cX4_maySponsor (some .boolean) q.1 q.2) = true := by decide +kernel
set_option maxRecDepth 100000 in
theorem kc49 : c49.all (fun q => kOkB kTb4 kPlt cX4_sponsorComes (some .int) q.1 q.2) = true := by decide +kernel
set_option maxRecDepth 100000 in
theorem kc50 : c50.all (fun q => kOkB kTb4 kPlt cX4_lapTakes (some .int) q.1 q.2) = true := by decide +kernel
set_option maxRecDepth 100000 in
theorem kc51 : c51.all (fun q => kOkB kTb4 kPlt cX4_minutesOfLaps (some .int) q.1 q.2) = true := by decide +kernel
set_option maxRecDepth 100000 in
theorem kc52 : c52.all (fun q => kOkB kTb4 kPlt cX4_owedWithoutTop (some .int) q.1 q.2) = true := by decide +kernel
set_option maxRecDepth 100000 in
theorem kc53 : c53.all (fun q => kOkB kTb4 kPlt cX4_owedBy (some .int) q.1 q.2) = true := by decide +kernel
set_option maxRecDepth 100000 in
theorem kc54 : c54.all (fun q => kOkB kTb4 kPlt cX4_paidBy (some .int) q.1 q.2) = true := by decide +kernel
set_option maxRecDepth 100000 in
theorem kc55 : c55.all (fun q => kOkB kTb4 kPlt cX4_isSurprised (some .boolean) q.1 q.2) = true := by decide +kernel
set_option maxRecDepth 100000 in
theorem kc56 : c56.all (fun q => kOkB kTb4 kPlt cX4_owedTo (some .int) q.1 q.2) = true := by decide +kernel
set_option maxRecDepth 100000 in
theorem kc57 : c57.all (fun q => kOkB kTb4 kPlt cX4_paidTo (some .int) q.1 q.2) = true := by decide +kernel
set_option maxRecDepth 100000 in
theorem kc58 : c58.all (fun q => kOkB kTb5 kPlt cX5_fed (some .int) q.1 q.2) = true := by decide +kernel
set_option maxRecDepth 100000 in
theorem kc59 : c59.all (fun q => kOkB kTb5 kPlt cX5_takeByte (some .int) q.1 q.2) = true := by decide +kernel
set_option maxRecDepth 100000 in
theorem kc60 : c60.all (fun q => kOkB kTb5 kPlt cX5_takeTape (some .int) q.1 q.2) = true := by decide +kernel
set_option maxRecDepth 100000 in
theorem kc61 : c61.all (fun q => kOkB kTb5 kPlt cX5_readLines (some .int) q.1 q.2) = true := by decide +kernel
set_option maxRecDepth 100000 in
theorem kc62 : c62.all (fun q => kOkB kTb5 kPlt cX5_readLine (some .boolean) q.1 q.2) = true := by decide +kernel
set_option maxRecDepth 100000 in
theorem kc63 : c63.all (fun q => kOkB kTb5 kPlt cX5_readJoined (some .boolean) q.1 q.2) = true := by decide +kernel
set_option maxRecDepth 100000 in
theorem kc64 : c64.all (fun q => kOkB kTb5 kPlt cX5_readOperand (some .boolean) q.1 q.2) = true := by decide +kernel
set_option maxRecDepth 100000 in
theorem kc65 : c65.all (fun q => kOkB kTb5 kPlt cX5_readClosing (some .boolean) q.1 q.2) = true := by decide +kernel
set_option maxRecDepth 100000 in
theorem kc66 : c66.all (fun q => kOkB kTb5 kPlt cX5_readNumber none q.1 q.2) = true := by decide +kernel
set_option maxRecDepth 100000 in
theorem kc67 : c67.all (fun q => kOkB kTb5 kPlt cX5_sign (some .int) q.1 q.2) = true := by decide +kernel
set_option maxRecDepth 100000 in
theorem kc68 : c68.all (fun q => kOkB kTb5 kPlt cX5_write none q.1 q.2) = true := by decide +kernel
set_option maxRecDepth 100000 in
theorem kc69 : c69.all (fun q => kOkB kTb5 kPlt cX5_isDigit (some .boolean) q.1 q.2) = true := by decide +kernel
set_option maxRecDepth 100000 in
theorem kc70 : c70.all (fun q => kOkB kTb5 kPlt cX5_nameOf (some .int) q.1 q.2) = true := by decide +kernel
set_option maxRecDepth 100000 in
theorem kc71 : c71.all (fun q => kOkB kTb5 kPlt cX5_levelOf (some .int) q.1 q.2) = true := by decide +kernel
set_option maxRecDepth 100000 in
theorem kc72 : c72.all (fun q => kOkB kTb5 kPlt cX5_isThere (some .boolean) q.1 q.2) = true := by decide +kernel
set_option maxRecDepth 100000 in
theorem kc73 : c73.all (fun q => kOkB kTb5 kPlt cX5_ofChild none q.1 q.2) = true := by decide +kernel
set_option maxRecDepth 100000 in
theorem kc74 : c74.all (fun q => kOkB kTb5 kPlt cX5_gives (some .int) q.1 q.2) = true := by decide +kernel
set_option maxRecDepth 100000 in
theorem kc75 : c75.all (fun q => kOkB kTb5 kPlt cX5_turned (some .int) q.1 q.2) = true := by decide +kernel
set_option maxRecDepth 100000 in
theorem kc76 : c76.all (fun q => kOkB kTb5 kPlt cX5_joined (some .int) q.1 q.2) = true := by decide +kernel
set_option maxRecDepth 100000 in
theorem kc77 : c77.all (fun q => kOkB kTb5 kPlt cX5_truth (some .int) q.1 q.2) = true := by decide +kernel
set_option maxRecDepth 100000 in
theorem kc78 : c78.all (fun q => kOkB kTb6 kPlt cX6_make none q.1 q.2) = true := by decide +kernel
set_option maxRecDepth 100000 in
theorem kc79 : c79.all (fun q => kOkB kTb6 kPlt cX6_weigh none q.1 q.2) = true := by decide +kernel
set_option maxRecDepth 100000 in
theorem kc80 : c80.all (fun q => kOkB kTb6 kPlt cX6_bestOf (some .int) q.1 q.2) = true := by decide +kernel
set_option maxRecDepth 100000 in
theorem kc81 : c81.all (fun q => kOkB kTb6 kPlt cX6_worthWith (some .int) q.1 q.2) = true := by decide +kernel
set_option maxRecDepth 100000 in
theorem kc82 : c82.all (fun q => kOkB kTb6 kPlt cX6_choose none q.1 q.2) = true := by decide +kernel
set_option maxRecDepth 100000 in
theorem kc83 : c83.all (fun q => kOkB kTb6 kPlt cX6_lapsOf (some .int) q.1 q.2) = true := by decide +kernel
set_option maxRecDepth 100000 in
theorem kc84 : c84.all (fun q => kOkB kTb6 kPlt cX6_pence (some .int) q.1 q.2) = true := by decide +kernel
set_option maxRecDepth 100000 in
theorem kc85 : c85.all (fun q => kOkB kTb6 kPlt cX6_minutesUsed (some .int) q.1 q.2) = true := by decide +kernel
set_option maxRecDepth 100000 in
theorem kc86 : c86.all (fun q => kOkB kTb7 kPlt cX7_isShelf (some .boolean) q.1 q.2) = true := by decide +kernel
set_option maxRecDepth 100000 in
theorem kc87 : c87.all (fun q => kOkB kTb7 kPlt cX7_isEmpty (some .boolean) q.1 q.2) = true := by decide +kernel
set_option maxRecDepth 100000 in
theorem kc88 : c88.all (fun q => kOkB kTb7 kPlt cX7_isRow (some .boolean) q.1 q.2) = true := by decide +kernel
set_option maxRecDepth 100000 in
theorem kc89 : c89.all (fun q => kOkB kTb7 kPlt cX7_areAlike (some .boolean) q.1 q.2) = true := by decide +kernel
set_option maxRecDepth 100000 in
theorem kc90 : c90.all (fun q => kOkB kTb7 kPlt cX7_refusal (some .int) q.1 q.2) = true := by decide +kernel
set_option maxRecDepth 100000 in
theorem kc91 : c91.all (fun q => kOkB kTb7 kPlt cX7_placeRefusal (some .int) q.1 q.2) = true := by decide +kernel
set_option maxRecDepth 100000 in
theorem kc92 : c92.all (fun q => kOkB kTb7 kPlt cX7_isPlace (some .boolean) q.1 q.2) = true := by decide +kernel
set_option maxRecDepth 100000 in
theorem kc93 : c93.all (fun q => kOkB kTb7 kPlt cX7_size (some .int) q.1 q.2) = true := by decide +kernel
set_option maxRecDepth 100000 in
theorem kc94 : c94.all (fun q => kOkB kTb7 kPlt cX7_bodyOn (some .int) q.1 q.2) = true := by decide +kernel
set_option maxRecDepth 100000 in
theorem kc95 : c95.all (fun q => kOkB kTb7 kPlt cX7_hold none q.1 q.2) = true := by decide +kernel
set_option maxRecDepth 100000 in
theorem kc96 : c96.all (fun q => kOkB kTb7 kPlt cX7_holdRow none q.1 q.2) = true := by decide +kernel
set_option maxRecDepth 100000 in
theorem kc97 : c97.all (fun q => kOkB kTb7 kPlt cX7_value (some .long) q.1 q.2) = true := by decide +kernel
set_option maxRecDepth 100000 in
theorem kc98 : c98.all (fun q => kOkB kTb7 kPlt cX7_become none q.1 q.2) = true := by decide +kernel
set_option maxRecDepth 100000 in
theorem kc99 : c99.all (fun q => kOkB kTb7 kPlt cX7_cut (some .long) q.1 q.2) = true := by decide +kernel
set_option maxRecDepth 100000 in
theorem kc100 : c100.all (fun q => kOkB kTb7 kPlt cX7_hasPart (some .boolean) q.1 q.2) = true := by decide +kernel
set_option maxRecDepth 100000 in
theorem kc101 : c101.all (fun q => kOkB kTb7 kPlt cX7_copyPart none q.1 q.2) = true := by decide +kernel
set_option maxRecDepth 100000 in
theorem kc102 : c102.all (fun q => kOkB kTb8 kPlt cX8_lapsIn (some .int) q.1 q.2) = true := by decide +kernel
set_option maxRecDepth 100000 in
theorem kc103 : c103.all (fun q => kOkB kTb8 kPlt cX8_think none q.1 q.2) = true := by decide +kernel
set_option maxRecDepth 100000 in
theorem kc104 : c104.all (fun q => kOkB kTb8 kPlt cX8_lapsNow (some .int) q.1 q.2) = true := by decide +kernel
set_option maxRecDepth 100000 in
theorem kc105 : c105.all (fun q => kOkB kTb8 kPlt cX8_timeLaps none q.1 q.2) = true := by decide +kernel
set_option maxRecDepth 100000 in
theorem kc106 : c106.all (fun q => kOkB kTb8 kPlt cX8_reachOf (some .int) q.1 q.2) = true := by decide +kernel
set_option maxRecDepth 100000 in
theorem kc107 : c107.all (fun q => kOkB kTb8 kPlt cX8_endOf (some .int) q.1 q.2) = true := by decide +kernel
set_option maxRecDepth 100000 in
theorem kc108 : c108.all (fun q => kOkB kTb8 kPlt cX8_beginMinutes none q.1 q.2) = true := by decide +kernel
set_option maxRecDepth 100000 in
theorem kc109 : c109.all (fun q => kOkB kTb8 kPlt cX8_goOnTo (some .boolean) q.1 q.2) = true := by decide +kernel
set_option maxRecDepth 100000 in
theorem kc110 : c110.all (fun q => kOkB kTb8 kPlt cX8_drawField (some .int) q.1 q.2) = true := by decide +kernel
set_option maxRecDepth 100000 in
theorem kc111 : c111.all (fun q => kOkB kTb8 kPlt cX8_drawLaps (some .int) q.1 q.2) = true := by decide +kernel
set_option maxRecDepth 100000 in
theorem kc112 : c112.all (fun q => kOkB kTb8 kPlt cX8_lapsOfAll (some .int) q.1 q.2) = true := by decide +kernel
set_option maxRecDepth 100000 in
theorem kc113 : c113.all (fun q => kOkB kTb8 kPlt cX8_owedByAll (some .int) q.1 q.2) = true := by decide +kernel
set_option maxRecDepth 100000 in
theorem kc114 : c114.all (fun q => kOkB kTb8 kPlt cX8_paidByAll (some .int) q.1 q.2) = true := by decide +kernel
set_option maxRecDepth 100000 in
theorem kc115 : c115.all (fun q => kOkB kTb8 kPlt cX8_surprised (some .int) q.1 q.2) = true := by decide +kernel
set_option maxRecDepth 100000 in
theorem kc116 : c116.all (fun q => kOkB kTb8 kPlt cX8_mostLaps (some .int) q.1 q.2) = true := by decide +kernel
set_option maxRecDepth 100000 in
theorem kc117 : c117.all (fun q => kOkB kTb8 kPlt cX8_mostPence (some .int) q.1 q.2) = true := by decide +kernel
set_option maxRecDepth 100000 in
theorem kc118 : c118.all (fun q => kOkB kTb9 kPlt cX9_within (some .boolean) q.1 q.2) = true := by decide +kernel
set_option maxRecDepth 100000 in
theorem kc119 : c119.all (fun q => kOkB kTb9 kPlt cX9_isPair (some .boolean) q.1 q.2) = true := by decide +kernel
set_option maxRecDepth 100000 in
theorem kc120 : c120.all (fun q => kOkB kTb9 kPlt cX9_child (some .int) q.1 q.2) = true := by decide +kernel
set_option maxRecDepth 100000 in
theorem kc121 : c121.all (fun q => kOkB kTb9 kPlt cX9_sponsor (some .int) q.1 q.2) = true := by decide +kernel
set_option maxRecDepth 100000 in
theorem kc122 : c122.all (fun q => kOkB kTb9 kPlt cX9_sponsors (some .int) q.1 q.2) = true := by decide +kernel
set_option maxRecDepth 100000 in
theorem kc123 : c123.all (fun q => kOkB kTb9 kPlt cX9_sponsorsFromRow (some .int) q.1 q.2) = true := by decide +kernel
set_option maxRecDepth 100000 in
theorem kc124 : c124.all (fun q => kOkB kTb9 kPlt cX9_mend (some .int) q.1 q.2) = true := by decide +kernel
set_option maxRecDepth 100000 in
theorem kc125 : c125.all (fun q => kOkB kTb9 kPlt cX9_of (some .int) q.1 q.2) = true := by decide +kernel
set_option maxRecDepth 100000 in
theorem kc126 : c126.all (fun q => kOkB kTb9 kPlt cX9_feed (some .int) q.1 q.2) = true := by decide +kernel
set_option maxRecDepth 100000 in
theorem kc127 : c127.all (fun q => kOkB kTb9 kPlt cX9_law (some .int) q.1 q.2) = true := by decide +kernel
set_option maxRecDepth 100000 in
theorem kc128 : c128.all (fun q => kOkB kTb9 kPlt cX9_lap (some .int) q.1 q.2) = true := by decide +kernel
set_option maxRecDepth 100000 in
theorem kc129 : c129.all (fun q => kOkB kTb9 kPlt cX9_laps (some .int) q.1 q.2) = true := by decide +kernel
set_option maxRecDepth 100000 in
theorem kc130 : c130.all (fun q => kOkB kTb9 kPlt cX9_minutes (some .int) q.1 q.2) = true := by decide +kernel
set_option maxRecDepth 100000 in
theorem kc131 : c131.all (fun q => kOkB kTb9 kPlt cX9_most (some .int) q.1 q.2) = true := by decide +kernel
set_option maxRecDepth 100000 in
theorem kc132 : c132.all (fun q => kOkB kTb9 kPlt cX9_owes (some .int) q.1 q.2) = true := by decide +kernel
set_option maxRecDepth 100000 in
theorem kc133 : c133.all (fun q => kOkB kTb9 kPlt cX9_more (some .int) q.1 q.2) = true := by decide +kernel
set_option maxRecDepth 100000 in
theorem kc134 : c134.all (fun q => kOkB kTb9 kPlt cX9_done (some .int) q.1 q.2) = true := by decide +kernel
set_option maxRecDepth 100000 in
theorem kc135 : c135.all (fun q => kOkB kTb9 kPlt cX9_lapOrSum (some .int) q.1 q.2) = true := by decide +kernel
set_option maxRecDepth 100000 in
theorem kc136 : c136.all (fun q => kOkB kTb9 kPlt cX9_top (some .int) q.1 q.2) = true := by decide +kernel
set_option maxRecDepth 100000 in
theorem kc137 : c137.all (fun q => kOkB kTb9 kPlt cX9_howLong (some .int) q.1 q.2) = true := by decide +kernel
set_option maxRecDepth 100000 in
theorem kc138 : c138.all (fun q => kOkB kTb9 kPlt cX9_field (some .int) q.1 q.2) = true := by decide +kernel
set_option maxRecDepth 100000 in
theorem kc139 : c139.all (fun q => kOkB kTb9 kPlt cX9_comes (some .int) q.1 q.2) = true := by decide +kernel
set_option maxRecDepth 100000 in
theorem kc140 : c140.all (fun q => kOkB kTb9 kPlt cX9_by (some .int) q.1 q.2) = true := by decide +kernel
set_option maxRecDepth 100000 in
theorem kc141 : c141.all (fun q => kOkB kTb9 kPlt cX9_remind (some .int) q.1 q.2) = true := by decide +kernel
set_option maxRecDepth 100000 in
theorem kc142 : c142.all (fun q => kOkB kTb9 kPlt cX9_readReminders none q.1 q.2) = true := by decide +kernel
set_option maxRecDepth 100000 in
theorem kc143 : c143.all (fun q => kOkB kTb9 kPlt cX9_judge (some .int) q.1 q.2) = true := by decide +kernel
set_option maxRecDepth 100000 in
theorem kc144 : c144.all (fun q => kOkB kTb9 kPlt cX9_firstAmiss (some .int) q.1 q.2) = true := by decide +kernel
set_option maxRecDepth 100000 in
theorem kc145 : c145.all (fun q => kOkB kTb9 kPlt cX9_lapsFor (some .int) q.1 q.2) = true := by decide +kernel
set_option maxRecDepth 100000 in
theorem kc146 : c146.all (fun q => kOkB kTb9 kPlt cX9_minutesFor (some .int) q.1 q.2) = true := by decide +kernel
set_option maxRecDepth 100000 in
theorem kc147 : c147.all (fun q => kOkB kTb9 kPlt cX9_whose (some .int) q.1 q.2) = true := by decide +kernel
set_option maxRecDepth 100000 in
theorem kc148 : c148.all (fun q => kOkB kTb9 kPlt cX9_oak (some .int) q.1 q.2) = true := by decide +kernel
set_option maxRecDepth 100000 in
theorem kc149 : c149.all (fun q => kOkB kTb9 kPlt cX9_cheats (some .boolean) q.1 q.2) = true := by decide +kernel
set_option maxRecDepth 100000 in
theorem kc150 : c150.all (fun q => kOkB kTb9 kPlt cX9_lapsSaid (some .int) q.1 q.2) = true := by decide +kernel
set_option maxRecDepth 100000 in
theorem kc151 : c151.all (fun q => kOkB kTb9 kPlt cX9_drawn (some .int) q.1 q.2) = true := by decide +kernel
set_option maxRecDepth 100000 in
theorem kc152 : c152.all (fun q => kOkB kTb9 kPlt cX9_run (some .int) q.1 q.2) = true := by decide +kernel
set_option maxRecDepth 100000 in
theorem kc153 : c153.all (fun q => kOkB kTb9 kPlt cX9_ask (some .int) q.1 q.2) = true := by decide +kernel
set_option maxRecDepth 100000 in
theorem kc154 : c154.all (fun q => kOkB kTb9 kPlt cX9_anew (some .int) q.1 q.2) = true := by decide +kernel
set_option maxRecDepth 100000 in
theorem kc155 : c155.all (fun q => kOkB kTb9 kPlt cX9_led (some .int) q.1 q.2) = true := by decide +kernel
set_option maxRecDepth 100000 in
theorem kc156 : c156.all (fun q => kOkB kTb9 kPlt cX9_image (some .int) q.1 q.2) = true := by decide +kernel
set_option maxRecDepth 100000 in
theorem kc157 : c157.all (fun q => kOkB kTb9 kPlt cX9_back (some .int) q.1 q.2) = true := by decide +kernel
set_option maxRecDepth 100000 in
theorem kc158 : c158.all (fun q => kOkB kTb9 kPlt cX9_undo (some .int) q.1 q.2) = true := by decide +kernel
set_option maxRecDepth 100000 in
theorem kc159 : c159.all (fun q => kOkB kTb9 kPlt cX9_redo (some .int) q.1 q.2) = true := by decide +kernel
set_option maxRecDepth 100000 in
theorem kc160 : c160.all (fun q => kOkB kTb9 kPlt cX9_body (some .int) q.1 q.2) = true := by decide +kernel
set_option maxRecDepth 100000 in
theorem kc161 : c161.all (fun q => kOkB kTb9 kPlt cX9_act (some .int) q.1 q.2) = true := by decide +kernel
set_option maxRecDepth 100000 in
theorem kc162 : c162.all (fun q => kOkB kTb9 kPlt cX9_trace (some .int) q.1 q.2) = true := by decide +kernel
set_option maxRecDepth 100000 in
theorem kc163 : c163.all (fun q => kOkB kTb9 kPlt cX9_keep (some .int) q.1 q.2) = true := by decide +kernel
set_option maxRecDepth 100000 in
theorem kc164 : c164.all (fun q => kOkB kTb9 kPlt cX9_row (some .int) q.1 q.2) = true := by decide +kernel
set_option maxRecDepth 100000 in
theorem kc165 : c165.all (fun q => kOkB kTb9 kPlt cX9_put (some .int) q.1 q.2) = true := by decide +kernel
set_option maxRecDepth 100000 in
theorem kc166 : c166.all (fun q => kOkB kTb9 kPlt cX9_element (some .long) q.1 q.2) = true := by decide +kernel
set_option maxRecDepth 100000 in
theorem kc167 : c167.all (fun q => kOkB kTb9 kPlt cX9_shift (some .int) q.1 q.2) = true := by decide +kernel
set_option maxRecDepth 100000 in
theorem kc168 : c168.all (fun q => kOkB kTb9 kPlt cX9_taken (some .int) q.1 q.2) = true := by decide +kernel
set_option maxRecDepth 100000 in
theorem kc169 : c169.all (fun q => kOkB kTb9 kPlt cX9_count (some .int) q.1 q.2) = true := by decide +kernel
set_option maxRecDepth 100000 in
theorem kc170 : c170.all (fun q => kOkB kTb10 kPlt cX10_in (some .boolean) q.1 q.2) = true := by decide +kernel
set_option maxRecDepth 100000 in
theorem kc171 : c171.all (fun q => kOkB kTb10 kPlt cX10_isChild (some .boolean) q.1 q.2) = true := by decide +kernel
set_option maxRecDepth 100000 in
theorem kc172 : c172.all (fun q => kOkB kTb10 kPlt cX10_isSponsor (some .boolean) q.1 q.2) = true := by decide +kernel
set_option maxRecDepth 100000 in
theorem kc173 : c173.all (fun q => kOkB kTb10 kPlt cX10_child (some .int) q.1 q.2) = true := by decide +kernel
set_option maxRecDepth 100000 in
theorem kc174 : c174.all (fun q => kOkB kTb10 kPlt cX10_addSponsor (some .int) q.1 q.2) = true := by decide +kernel
set_option maxRecDepth 100000 in
theorem kc175 : c175.all (fun q => kOkB kTb10 kPlt cX10_sponsor (some .int) q.1 q.2) = true := by decide +kernel
set_option maxRecDepth 100000 in
theorem kc176 : c176.all (fun q => kOkB kTb10 kPlt cX10_sponsors (some .int) q.1 q.2) = true := by decide +kernel
set_option maxRecDepth 100000 in
theorem kc177 : c177.all (fun q => kOkB kTb10 kPlt cX10_valueAt (some .int) q.1 q.2) = true := by decide +kernel
set_option maxRecDepth 100000 in
theorem kc178 : c178.all (fun q => kOkB kTb10 kPlt cX10_lays none q.1 q.2) = true := by decide +kernel
set_option maxRecDepth 100000 in
theorem kc179 : c179.all (fun q => kOkB kTb10 kPlt cX10_changes (some .int) q.1 q.2) = true := by decide +kernel
set_option maxRecDepth 100000 in
theorem kc180 : c180.all (fun q => kOkB kTb10 kPlt cX10_undo (some .int) q.1 q.2) = true := by decide +kernel
set_option maxRecDepth 100000 in
theorem kc181 : c181.all (fun q => kOkB kTb10 kPlt cX10_redo (some .int) q.1 q.2) = true := by decide +kernel
set_option maxRecDepth 100000 in
theorem kc182 : c182.all (fun q => kOkB kTb10 kPlt cX10_isOne (some .boolean) q.1 q.2) = true := by decide +kernel
set_option maxRecDepth 100000 in
theorem kc183 : c183.all (fun q => kOkB kTb10 kPlt cX10_mayBe (some .boolean) q.1 q.2) = true := by decide +kernel
set_option maxRecDepth 100000 in
theorem kc184 : c184.all (fun q => kOkB kTb10 kPlt cX10_mend (some .int) q.1 q.2) = true := by decide +kernel
set_option maxRecDepth 100000 in
theorem kc185 : c185.all (fun q => kOkB kTb10 kPlt cX10_of (some .int) q.1 q.2) = true := by decide +kernel
set_option maxRecDepth 100000 in
theorem kc186 : c186.all (fun q => kOkB kTb10 kPlt cX10_feed (some .int) q.1 q.2) = true := by decide +kernel
set_option maxRecDepth 100000 in
theorem kc187 : c187.all (fun q => kOkB kTb10 kPlt cX10_look (some .int) q.1 q.2) = true := by decide +kernel
set_option maxRecDepth 100000 in
theorem kc188 : c188.all (fun q => kOkB kTb10 kPlt cX10_wrong none q.1 q.2) = true := by decide +kernel
set_option maxRecDepth 100000 in
theorem kc189 : c189.all (fun q => kOkB kTb10 kPlt cX10_addStep none q.1 q.2) = true := by decide +kernel
set_option maxRecDepth 100000 in
theorem kc190 : c190.all (fun q => kOkB kTb10 kPlt cX10_nameOf (some .int) q.1 q.2) = true := by decide +kernel
set_option maxRecDepth 100000 in
theorem kc191 : c191.all (fun q => kOkB kTb10 kPlt cX10_opens (some .boolean) q.1 q.2) = true := by decide +kernel
set_option maxRecDepth 100000 in
theorem kc192 : c192.all (fun q => kOkB kTb10 kPlt cX10_figure none q.1 q.2) = true := by decide +kernel
set_option maxRecDepth 100000 in
theorem kc193 : c193.all (fun q => kOkB kTb10 kPlt cX10_operand none q.1 q.2) = true := by decide +kernel
set_option maxRecDepth 100000 in
theorem kc194 : c194.all (fun q => kOkB kTb10 kPlt cX10_product none q.1 q.2) = true := by decide +kernel
set_option maxRecDepth 100000 in
theorem kc195 : c195.all (fun q => kOkB kTb10 kPlt cX10_sum none q.1 q.2) = true := by decide +kernel
set_option maxRecDepth 100000 in
theorem kc196 : c196.all (fun q => kOkB kTb10 kPlt cX10_compared none q.1 q.2) = true := by decide +kernel
set_option maxRecDepth 100000 in
theorem kc197 : c197.all (fun q => kOkB kTb10 kPlt cX10_both none q.1 q.2) = true := by decide +kernel
set_option maxRecDepth 100000 in
theorem kc198 : c198.all (fun q => kOkB kTb10 kPlt cX10_either none q.1 q.2) = true := by decide +kernel
set_option maxRecDepth 100000 in
theorem kc199 : c199.all (fun q => kOkB kTb10 kPlt cX10_line none q.1 q.2) = true := by decide +kernel
set_option maxRecDepth 100000 in
theorem kc200 : c200.all (fun q => kOkB kTb10 kPlt cX10_readText (some .int) q.1 q.2) = true := by decide +kernel
set_option maxRecDepth 100000 in
theorem kc201 : c201.all (fun q => kOkB kTb10 kPlt cX10_twoOf (some .int) q.1 q.2) = true := by decide +kernel
set_option maxRecDepth 100000 in
theorem kc202 : c202.all (fun q => kOkB kTb10 kPlt cX10_worked (some .int) q.1 q.2) = true := by decide +kernel
set_option maxRecDepth 100000 in
theorem kc203 : c203.all (fun q => kOkB kTb10 kPlt cX10_gives (some .int) q.1 q.2) = true := by decide +kernel
set_option maxRecDepth 100000 in
theorem kc204 : c204.all (fun q => kOkB kTb10 kPlt cX10_law (some .int) q.1 q.2) = true := by decide +kernel
set_option maxRecDepth 100000 in
theorem kc205 : c205.all (fun q => kOkB kTb10 kPlt cX10_lapOf (some .int) q.1 q.2) = true := by decide +kernel
set_option maxRecDepth 100000 in
theorem kc206 : c206.all (fun q => kOkB kTb10 kPlt cX10_lap (some .int) q.1 q.2) = true := by decide +kernel
set_option maxRecDepth 100000 in
theorem kc207 : c207.all (fun q => kOkB kTb10 kPlt cX10_isTime (some .boolean) q.1 q.2) = true := by decide +kernel
set_option maxRecDepth 100000 in
theorem kc208 : c208.all (fun q => kOkB kTb10 kPlt cX10_lapsBy (some .int) q.1 q.2) = true := by decide +kernel
set_option maxRecDepth 100000 in
theorem kc209 : c209.all (fun q => kOkB kTb10 kPlt cX10_minutesOf (some .int) q.1 q.2) = true := by decide +kernel
set_option maxRecDepth 100000 in
theorem kc210 : c210.all (fun q => kOkB kTb10 kPlt cX10_minutes (some .int) q.1 q.2) = true := by decide +kernel
set_option maxRecDepth 100000 in
theorem kc211 : c211.all (fun q => kOkB kTb10 kPlt cX10_plainOf (some .int) q.1 q.2) = true := by decide +kernel
set_option maxRecDepth 100000 in
theorem kc212 : c212.all (fun q => kOkB kTb10 kPlt cX10_owesOf (some .int) q.1 q.2) = true := by decide +kernel
set_option maxRecDepth 100000 in
theorem kc213 : c213.all (fun q => kOkB kTb10 kPlt cX10_paysOf (some .int) q.1 q.2) = true := by decide +kernel
set_option maxRecDepth 100000 in
theorem kc214 : c214.all (fun q => kOkB kTb10 kPlt cX10_owes (some .int) q.1 q.2) = true := by decide +kernel
set_option maxRecDepth 100000 in
theorem kc215 : c215.all (fun q => kOkB kTb10 kPlt cX10_owedTo (some .int) q.1 q.2) = true := by decide +kernel
set_option maxRecDepth 100000 in
theorem kc216 : c216.all (fun q => kOkB kTb10 kPlt cX10_paidTo (some .int) q.1 q.2) = true := by decide +kernel
set_option maxRecDepth 100000 in
theorem kc217 : c217.all (fun q => kOkB kTb10 kPlt cX10_goTo none q.1 q.2) = true := by decide +kernel
set_option maxRecDepth 100000 in
theorem kc218 : c218.all (fun q => kOkB kTb10 kPlt cX10_lapsAll (some .int) q.1 q.2) = true := by decide +kernel
set_option maxRecDepth 100000 in
theorem kc219 : c219.all (fun q => kOkB kTb10 kPlt cX10_mostLaps (some .int) q.1 q.2) = true := by decide +kernel
set_option maxRecDepth 100000 in
theorem kc220 : c220.all (fun q => kOkB kTb10 kPlt cX10_paidAll (some .int) q.1 q.2) = true := by decide +kernel
set_option maxRecDepth 100000 in
theorem kc221 : c221.all (fun q => kOkB kTb10 kPlt cX10_laps (some .int) q.1 q.2) = true := by decide +kernel
set_option maxRecDepth 100000 in
theorem kc222 : c222.all (fun q => kOkB kTb10 kPlt cX10_surprised (some .int) q.1 q.2) = true := by decide +kernel
set_option maxRecDepth 100000 in
theorem kc223 : c223.all (fun q => kOkB kTb10 kPlt cX10_mostPence (some .int) q.1 q.2) = true := by decide +kernel
set_option maxRecDepth 100000 in
theorem kc224 : c224.all (fun q => kOkB kTb10 kPlt cX10_most (some .int) q.1 q.2) = true := by decide +kernel
set_option maxRecDepth 100000 in
theorem kc225 : c225.all (fun q => kOkB kTb10 kPlt cX10_moreBy (some .int) q.1 q.2) = true := by decide +kernel
set_option maxRecDepth 100000 in
theorem kc226 : c226.all (fun q => kOkB kTb10 kPlt cX10_more (some .int) q.1 q.2) = true := by decide +kernel
set_option maxRecDepth 100000 in
theorem kc227 : c227.all (fun q => kOkB kTb10 kPlt cX10_done (some .int) q.1 q.2) = true := by decide +kernel
set_option maxRecDepth 100000 in
theorem kc228 : c228.all (fun q => kOkB kTb10 kPlt cX10_lapOrSum (some .int) q.1 q.2) = true := by decide +kernel
set_option maxRecDepth 100000 in
theorem kc229 : c229.all (fun q => kOkB kTb10 kPlt cX10_top (some .int) q.1 q.2) = true := by decide +kernel
set_option maxRecDepth 100000 in
theorem kc230 : c230.all (fun q => kOkB kTb10 kPlt cX10_howLong (some .int) q.1 q.2) = true := by decide +kernel
set_option maxRecDepth 100000 in
theorem kc231 : c231.all (fun q => kOkB kTb10 kPlt cX10_partFrom none q.1 q.2) = true := by decide +kernel
set_option maxRecDepth 100000 in
theorem kc232 : c232.all (fun q => kOkB kTb10 kPlt cX10_field (some .int) q.1 q.2) = true := by decide +kernel
set_option maxRecDepth 100000 in
theorem kc233 : c233.all (fun q => kOkB kTb10 kPlt cX10_rowFault (some .int) q.1 q.2) = true := by decide +kernel
set_option maxRecDepth 100000 in
theorem kc234 : c234.all (fun q => kOkB kTb10 kPlt cX10_at (some .int) q.1 q.2) = true := by decide +kernel
set_option maxRecDepth 100000 in
theorem kc235 : c235.all (fun q => kOkB kTb10 kPlt cX10_isTold (some .boolean) q.1 q.2) = true := by decide +kernel
set_option maxRecDepth 100000 in
theorem kc236 : c236.all (fun q => kOkB kTb10 kPlt cX10_beginRest (some .int) q.1 q.2) = true := by decide +kernel
set_option maxRecDepth 100000 in
theorem kc237 : c237.all (fun q => kOkB kTb10 kPlt cX10_weekComes (some .int) q.1 q.2) = true := by decide +kernel
set_option maxRecDepth 100000 in
theorem kc238 : c238.all (fun q => kOkB kTb10 kPlt cX10_comesBy (some .int) q.1 q.2) = true := by decide +kernel
set_option maxRecDepth 100000 in
theorem kc239 : c239.all (fun q => kOkB kTb10 kPlt cX10_areWeeks (some .boolean) q.1 q.2) = true := by decide +kernel
set_option maxRecDepth 100000 in
theorem kc240 : c240.all (fun q => kOkB kTb10 kPlt cX10_comes (some .int) q.1 q.2) = true := by decide +kernel
set_option maxRecDepth 100000 in
theorem kc241 : c241.all (fun q => kOkB kTb10 kPlt cX10_by (some .int) q.1 q.2) = true := by decide +kernel
set_option maxRecDepth 100000 in
theorem kc242 : c242.all (fun q => kOkB kTb10 kPlt cX10_remind (some .int) q.1 q.2) = true := by decide +kernel
set_option maxRecDepth 100000 in
theorem kc243 : c243.all (fun q => kOkB kTb10 kPlt cX10_wrongSheet (some .int) q.1 q.2) = true := by decide +kernel
set_option maxRecDepth 100000 in
theorem kc244 : c244.all (fun q => kOkB kTb10 kPlt cX10_judge (some .int) q.1 q.2) = true := by decide +kernel
set_option maxRecDepth 100000 in
theorem kc245 : c245.all (fun q => kOkB kTb10 kPlt cX10_lapsFor (some .int) q.1 q.2) = true := by decide +kernel
set_option maxRecDepth 100000 in
theorem kc246 : c246.all (fun q => kOkB kTb10 kPlt cX10_minutesFor (some .int) q.1 q.2) = true := by decide +kernel
set_option maxRecDepth 100000 in
theorem kc247 : c247.all (fun q => kOkB kTb10 kPlt cX10_whose (some .int) q.1 q.2) = true := by decide +kernel
set_option maxRecDepth 100000 in
theorem kc248 : c248.all (fun q => kOkB kTb10 kPlt cX10_saidBy (some .int) q.1 q.2) = true := by decide +kernel
set_option maxRecDepth 100000 in
theorem kc249 : c249.all (fun q => kOkB kTb10 kPlt cX10_oak (some .int) q.1 q.2) = true := by decide +kernel
set_option maxRecDepth 100000 in
theorem kc250 : c250.all (fun q => kOkB kTb10 kPlt cX10_drawnLaps (some .int) q.1 q.2) = true := by decide +kernel
set_option maxRecDepth 100000 in
theorem kc251 : c251.all (fun q => kOkB kTb10 kPlt cX10_drawn (some .int) q.1 q.2) = true := by decide +kernel
set_option maxRecDepth 100000 in
theorem kc252 : c252.all (fun q => kOkB kTb10 kPlt cX10_run (some .int) q.1 q.2) = true := by decide +kernel
set_option maxRecDepth 100000 in
theorem kc253 : c253.all (fun q => kOkB kTb10 kPlt cX10_ask (some .int) q.1 q.2) = true := by decide +kernel
set_option maxRecDepth 100000 in
theorem kc254 : c254.all (fun q => kOkB kTb10 kPlt cX10_anew (some .int) q.1 q.2) = true := by decide +kernel
set_option maxRecDepth 100000 in
theorem kc255 : c255.all (fun q => kOkB kTb10 kPlt cX10_led (some .int) q.1 q.2) = true := by decide +kernel
set_option maxRecDepth 100000 in
theorem kc256 : c256.all (fun q => kOkB kTb10 kPlt cX10_image (some .int) q.1 q.2) = true := by decide +kernel
set_option maxRecDepth 100000 in
theorem kc257 : c257.all (fun q => kOkB kTb10 kPlt cX10_back (some .int) q.1 q.2) = true := by decide +kernel
set_option maxRecDepth 100000 in
theorem kc258 : c258.all (fun q => kOkB kTb10 kPlt cX10_isBody (some .boolean) q.1 q.2) = true := by decide +kernel
set_option maxRecDepth 100000 in
theorem kc259 : c259.all (fun q => kOkB kTb10 kPlt cX10_ran none q.1 q.2) = true := by decide +kernel
set_option maxRecDepth 100000 in
theorem kc260 : c260.all (fun q => kOkB kTb10 kPlt cX10_trace (some .int) q.1 q.2) = true := by decide +kernel
set_option maxRecDepth 100000 in
theorem kc261 : c261.all (fun q => kOkB kTb10 kPlt cX10_body (some .int) q.1 q.2) = true := by decide +kernel
set_option maxRecDepth 100000 in
theorem kc262 : c262.all (fun q => kOkB kTb10 kPlt cX10_isUnder (some .boolean) q.1 q.2) = true := by decide +kernel
set_option maxRecDepth 100000 in
theorem kc263 : c263.all (fun q => kOkB kTb10 kPlt cX10_plainRuns (some .int) q.1 q.2) = true := by decide +kernel
set_option maxRecDepth 100000 in
theorem kc264 : c264.all (fun q => kOkB kTb10 kPlt cX10_prizeRuns (some .int) q.1 q.2) = true := by decide +kernel
set_option maxRecDepth 100000 in
theorem kc265 : c265.all (fun q => kOkB kTb10 kPlt cX10_running (some .int) q.1 q.2) = true := by decide +kernel
set_option maxRecDepth 100000 in
theorem kc266 : c266.all (fun q => kOkB kTb10 kPlt cX10_plainOwes (some .int) q.1 q.2) = true := by decide +kernel
set_option maxRecDepth 100000 in
theorem kc267 : c267.all (fun q => kOkB kTb10 kPlt cX10_sumOwes (some .int) q.1 q.2) = true := by decide +kernel
set_option maxRecDepth 100000 in
theorem kc268 : c268.all (fun q => kOkB kTb10 kPlt cX10_owing (some .int) q.1 q.2) = true := by decide +kernel
set_option maxRecDepth 100000 in
theorem kc269 : c269.all (fun q => kOkB kTb10 kPlt cX10_plainPays (some .int) q.1 q.2) = true := by decide +kernel
set_option maxRecDepth 100000 in
theorem kc270 : c270.all (fun q => kOkB kTb10 kPlt cX10_oakPays (some .int) q.1 q.2) = true := by decide +kernel
set_option maxRecDepth 100000 in
theorem kc271 : c271.all (fun q => kOkB kTb10 kPlt cX10_paying (some .int) q.1 q.2) = true := by decide +kernel
set_option maxRecDepth 100000 in
theorem kc272 : c272.all (fun q => kOkB kTb10 kPlt cX10_plainTells (some .int) q.1 q.2) = true := by decide +kernel
set_option maxRecDepth 100000 in
theorem kc273 : c273.all (fun q => kOkB kTb10 kPlt cX10_telling (some .int) q.1 q.2) = true := by decide +kernel
set_option maxRecDepth 100000 in
theorem kc274 : c274.all (fun q => kOkB kTb10 kPlt cX10_act (some .int) q.1 q.2) = true := by decide +kernel
set_option maxRecDepth 100000 in
theorem kc275 : c275.all (fun q => kOkB kTb10 kPlt cX10_count (some .int) q.1 q.2) = true := by decide +kernel
set_option maxRecDepth 100000 in
theorem kc276 : c276.all (fun q => kOkB kTb10 kPlt cX10_isShelf (some .boolean) q.1 q.2) = true := by decide +kernel
set_option maxRecDepth 100000 in
theorem kc277 : c277.all (fun q => kOkB kTb10 kPlt cX10_keep (some .int) q.1 q.2) = true := by decide +kernel
set_option maxRecDepth 100000 in
theorem kc278 : c278.all (fun q => kOkB kTb10 kPlt cX10_row (some .int) q.1 q.2) = true := by decide +kernel
set_option maxRecDepth 100000 in
theorem kc279 : c279.all (fun q => kOkB kTb10 kPlt cX10_whyNoPlace (some .int) q.1 q.2) = true := by decide +kernel
set_option maxRecDepth 100000 in
theorem kc280 : c280.all (fun q => kOkB kTb10 kPlt cX10_put (some .int) q.1 q.2) = true := by decide +kernel
set_option maxRecDepth 100000 in
theorem kc281 : c281.all (fun q => kOkB kTb10 kPlt cX10_element (some .long) q.1 q.2) = true := by decide +kernel
set_option maxRecDepth 100000 in
theorem kc282 : c282.all (fun q => kOkB kTb10 kPlt cX10_shift (some .int) q.1 q.2) = true := by decide +kernel
set_option maxRecDepth 100000 in
theorem kc283 : c283.all (fun q => kOkB kTb10 kPlt cX10_taken (some .int) q.1 q.2) = true := by decide +kernel
set_option maxRecDepth 100000 in
theorem kc284 : c284.all (fun q => kOkB kTb0 kPlt cX0_init none q.1 q.2) = true := by decide +kernel
set_option maxRecDepth 100000 in
theorem kc285 : c285.all (fun q => kOkB kTb1 kPlt cX1_init none q.1 q.2) = true := by decide +kernel
set_option maxRecDepth 100000 in
theorem kc286 : c286.all (fun q => kOkB kTb2 kPlt cX2_init none q.1 q.2) = true := by decide +kernel
set_option maxRecDepth 100000 in
theorem kc287 : c287.all (fun q => kOkB kTb3 kPlt cX3_init none q.1 q.2) = true := by decide +kernel
set_option maxRecDepth 100000 in
theorem kc288 : c288.all (fun q => kOkB kTb4 kPlt cX4_init none q.1 q.2) = true := by decide +kernel
set_option maxRecDepth 100000 in
theorem kc289 : c289.all (fun q => kOkB kTb5 kPlt cX5_init none q.1 q.2) = true := by decide +kernel
set_option maxRecDepth 100000 in
theorem kc290 : c290.all (fun q => kOkB kTb6 kPlt cX6_init none q.1 q.2) = true := by decide +kernel
set_option maxRecDepth 100000 in
theorem kc291 : c291.all (fun q => kOkB kTb7 kPlt cX7_init none q.1 q.2) = true := by decide +kernel
set_option maxRecDepth 100000 in
theorem kc292 : c292.all (fun q => kOkB kTb8 kPlt cX8_init none q.1 q.2) = true := by decide +kernel
set_option maxRecDepth 100000 in
theorem kc293 : c293.all (fun q => kOkB kTb9 kPlt cX9_init none q.1 q.2) = true := by decide +kernel
set_option maxRecDepth 100000 in
theorem kc294 : c294.all (fun q => kOkB kTb10 kPlt cX10_init none q.1 q.2) = true := by decide +kernel
set_option maxRecDepth 100000 in
theorem kc295 : c295.all (fun q => kOkB kTb11 kPlt cL_law (some .boolean) q.1 q.2) = true := by decide +kernel
