-- laid by wip/whole/gen.py
set_option maxRecDepth 100000 in
theorem kc0 : c0.all (fun q => kOkB kTb0 kPlt cX0_bodies (some .int) q.1 q.2) = true := by decide +kernel
set_option maxRecDepth 100000 in
theorem kc1 : c1.all (fun q => kOkB kTb0 kPlt cX0_ran (some .int) q.1 q.2) = true := by decide +kernel
set_option maxRecDepth 100000 in
theorem kc2 : c2.all (fun q => kOkB kTb0 kPlt cX0_isKind (some .boolean) q.1 q.2) = true := by decide +kernel
set_option maxRecDepth 100000 in
theorem kc3 : c3.all (fun q => kOkB kTb0 kPlt cX0_isBody (some .boolean) q.1 q.2) = true := by decide +kernel
set_option maxRecDepth 100000 in
theorem kc4 : c4.all (fun q => kOkB kTb0 kPlt cX0_kindOf (some .int) q.1 q.2) = true := by decide +kernel
set_option maxRecDepth 100000 in
theorem kc5 : c5.all (fun q => kOkB kTb0 kPlt cX0_bodyComes (some .int) q.1 q.2) = true := by decide +kernel
set_option maxRecDepth 100000 in
theorem kc6 : c6.all (fun q => kOkB kTb0 kPlt cX0_isUnder (some .boolean) q.1 q.2) = true := by decide +kernel
set_option maxRecDepth 100000 in
theorem kc7 : c7.all (fun q => kOkB kTb0 kPlt cX0_traced (some .int) q.1 q.2) = true := by decide +kernel
set_option maxRecDepth 100000 in
theorem kc8 : c8.all (fun q => kOkB kTb0 kPlt cX0_begin (some .int) q.1 q.2) = true := by decide +kernel
set_option maxRecDepth 100000 in
theorem kc9 : c9.all (fun q => kOkB kTb0 kPlt cX0_own (some .int) q.1 q.2) = true := by decide +kernel
set_option maxRecDepth 100000 in
theorem kc10 : c10.all (fun q => kOkB kTb0 kPlt cX0_higher (some .int) q.1 q.2) = true := by decide +kernel
set_option maxRecDepth 100000 in
theorem kc11 : c11.all (fun q => kOkB kTb0 kPlt cX0_from (some .int) q.1 q.2) = true := by decide +kernel
set_option maxRecDepth 100000 in
theorem kc12 : c12.all (fun q => kOkB kTb0 kPlt cX0_perform (some .int) q.1 q.2) = true := by decide +kernel
set_option maxRecDepth 100000 in
theorem kc13 : c13.all (fun q => kOkB kTb1 kPlt cX1_undoable (some .int) q.1 q.2) = true := by decide +kernel
set_option maxRecDepth 100000 in
theorem kc14 : c14.all (fun q => kOkB kTb1 kPlt cX1_add none q.1 q.2) = true := by decide +kernel
set_option maxRecDepth 100000 in
theorem kc15 : c15.all (fun q => kOkB kTb1 kPlt cX1_forgetOldest none q.1 q.2) = true := by decide +kernel
set_option maxRecDepth 100000 in
theorem kc16 : c16.all (fun q => kOkB kTb1 kPlt cX1_undoOne (some .int) q.1 q.2) = true := by decide +kernel
set_option maxRecDepth 100000 in
theorem kc17 : c17.all (fun q => kOkB kTb1 kPlt cX1_redoOne (some .int) q.1 q.2) = true := by decide +kernel
set_option maxRecDepth 100000 in
theorem kc18 : c18.all (fun q => kOkB kTb2 kPlt cX2_begin none q.1 q.2) = true := by decide +kernel
set_option maxRecDepth 100000 in
theorem kc19 : c19.all (fun q => kOkB kTb2 kPlt cX2_remindIn none q.1 q.2) = true := by decide +kernel
set_option maxRecDepth 100000 in
theorem kc20 : c20.all (fun q => kOkB kTb2 kPlt cX2_cameBy (some .int) q.1 q.2) = true := by decide +kernel
set_option maxRecDepth 100000 in
theorem kc21 : c21.all (fun q => kOkB kTb2 kPlt cX2_startWeeks none q.1 q.2) = true := by decide +kernel
set_option maxRecDepth 100000 in
theorem kc22 : c22.all (fun q => kOkB kTb2 kPlt cX2_comesIn (some .int) q.1 q.2) = true := by decide +kernel
set_option maxRecDepth 100000 in
theorem kc23 : c23.all (fun q => kOkB kTb2 kPlt cX2_weeksTill (some .int) q.1 q.2) = true := by decide +kernel
set_option maxRecDepth 100000 in
theorem kc24 : c24.all (fun q => kOkB kTb2 kPlt cX2_bestWeek (some .int) q.1 q.2) = true := by decide +kernel
set_option maxRecDepth 100000 in
theorem kc25 : c25.all (fun q => kOkB kTb3 kPlt cX3_lapsOf (some .int) q.1 q.2) = true := by decide +kernel
set_option maxRecDepth 100000 in
theorem kc26 : c26.all (fun q => kOkB kTb3 kPlt cX3_minutesOf (some .int) q.1 q.2) = true := by decide +kernel
set_option maxRecDepth 100000 in
theorem kc27 : c27.all (fun q => kOkB kTb3 kPlt cX3_paidBy (some .int) q.1 q.2) = true := by decide +kernel
set_option maxRecDepth 100000 in
theorem kc28 : c28.all (fun q => kOkB kTb3 kPlt cX3_ledLaps (some .int) q.1 q.2) = true := by decide +kernel
set_option maxRecDepth 100000 in
theorem kc29 : c29.all (fun q => kOkB kTb3 kPlt cX3_ledPence (some .int) q.1 q.2) = true := by decide +kernel
set_option maxRecDepth 100000 in
theorem kc30 : c30.all (fun q => kOkB kTb3 kPlt cX3_ledMinutes (some .int) q.1 q.2) = true := by decide +kernel
set_option maxRecDepth 100000 in
theorem kc31 : c31.all (fun q => kOkB kTb3 kPlt cX3_fields (some .int) q.1 q.2) = true := by decide +kernel
set_option maxRecDepth 100000 in
theorem kc32 : c32.all (fun q => kOkB kTb3 kPlt cX3_surprises (some .int) q.1 q.2) = true := by decide +kernel
set_option maxRecDepth 100000 in
theorem kc33 : c33.all (fun q => kOkB kTb3 kPlt cX3_lapsOfField (some .int) q.1 q.2) = true := by decide +kernel
set_option maxRecDepth 100000 in
theorem kc34 : c34.all (fun q => kOkB kTb3 kPlt cX3_lapRun none q.1 q.2) = true := by decide +kernel
set_option maxRecDepth 100000 in
theorem kc35 : c35.all (fun q => kOkB kTb3 kPlt cX3_asked none q.1 q.2) = true := by decide +kernel
set_option maxRecDepth 100000 in
theorem kc36 : c36.all (fun q => kOkB kTb3 kPlt cX3_newField none q.1 q.2) = true := by decide +kernel
set_option maxRecDepth 100000 in
theorem kc37 : c37.all (fun q => kOkB kTb3 kPlt cX3_becomeLike none q.1 q.2) = true := by decide +kernel
set_option maxRecDepth 100000 in
theorem kc38 : c38.all (fun q => kOkB kTb4 kPlt cX4_childCount (some .int) q.1 q.2) = true := by decide +kernel
set_option maxRecDepth 100000 in
theorem kc39 : c39.all (fun q => kOkB kTb4 kPlt cX4_sponsorCount (some .int) q.1 q.2) = true := by decide +kernel
set_option maxRecDepth 100000 in
theorem kc40 : c40.all (fun q => kOkB kTb4 kPlt cX4_isChild (some .boolean) q.1 q.2) = true := by decide +kernel
set_option maxRecDepth 100000 in
theorem kc41 : c41.all (fun q => kOkB kTb4 kPlt cX4_isSponsor (some .boolean) q.1 q.2) = true := by decide +kernel
set_option maxRecDepth 100000 in
theorem kc42 : c42.all (fun q => kOkB kTb4 kPlt cX4_childOf (some .int) q.1 q.2) = true := by decide +kernel
set_option maxRecDepth 100000 in
theorem kc43 : c43.all (fun q => kOkB kTb4 kPlt cX4_place (some .int) q.1 q.2) = true := by decide +kernel
set_option maxRecDepth 100000 in
theorem kc44 : c44.all (fun q => kOkB kTb4 kPlt cX4_at (some .int) q.1 q.2) = true := by decide +kernel
set_option maxRecDepth 100000 in
theorem kc45 : c45.all (fun q => kOkB kTb4 kPlt cX4_become none q.1 q.2) = true := by decide +kernel
set_option maxRecDepth 100000 in
theorem kc46 : c46.all (fun q => kOkB kTb4 kPlt cX4_told (some .int) q.1 q.2) = true := by decide +kernel
set_option maxRecDepth 100000 in
theorem kc47 : c47.all (fun q => kOkB kTb4 kPlt cX4_childComes (some .int) q.1 q.2) = true := by decide +kernel
set_option maxRecDepth 100000 in
theorem kc48 : c48.all (fun q => kOkB kTb4 kPlt cX4_maySponsor (some .boolean) q.1 q.2) = true := by decide +kernel
set_option maxRecDepth 100000 in
theorem kc49 : c49.all (fun q => kOkB kTb4 kPlt cX4_sponsorComes (some .int) q.1 q.2) = true := by decide +kernel
set_option maxRecDepth 100000 in
theorem kc50 : c50.all (fun q => kOkB kTb4 kPlt cX4_lapTakes (some .int) q.1 q.2) = true := by decide +kernel
set_option maxRecDepth 100000 in
theorem kc51 : c51.all (fun q => kOkB kTb4 kPlt cX4_minutesOfLaps (some .int) q.1 q.2) = true := by decide +kernel
set_option maxRecDepth 100000 in
theorem kc52 : c52.all (fun q => kOkB kTb4 kPlt cX4_owedWithoutTop (some .int) q.1 q.2) = true := by decide +kernel
set_option maxRecDepth 100000 in
theorem kc53 : c53.all (fun q => kOkB kTb4 kPlt cX4_owedBy (some .int) q.1 q.2) = true := by decide +kernel
set_option maxRecDepth 100000 in
theorem kc54 : c54.all (fun q => kOkB kTb4 kPlt cX4_paidBy (some .int) q.1 q.2) = true := by decide +kernel
set_option maxRecDepth 100000 in
theorem kc55 : c55.all (fun q => kOkB kTb4 kPlt cX4_isSurprised (some .boolean) q.1 q.2) = true := by decide +kernel
set_option maxRecDepth 100000 in
theorem kc56 : c56.all (fun q => kOkB kTb4 kPlt cX4_owedTo (some .int) q.1 q.2) = true := by decide +kernel
set_option maxRecDepth 100000 in
theorem kc57 : c57.all (fun q => kOkB kTb4 kPlt cX4_paidTo (some .int) q.1 q.2) = true := by decide +kernel
set_option maxRecDepth 100000 in
theorem kc58 : c58.all (fun q => kOkB kTb5 kPlt cX5_fed (some .int) q.1 q.2) = true := by decide +kernel
set_option maxRecDepth 100000 in
theorem kc59 : c59.all (fun q => kOkB kTb5 kPlt cX5_takeByte (some .int) q.1 q.2) = true := by decide +kernel
set_option maxRecDepth 100000 in
theorem kc60 : c60.all (fun q => kOkB kTb5 kPlt cX5_takeTape (some .int) q.1 q.2) = true := by decide +kernel
set_option maxRecDepth 100000 in
theorem kc61 : c61.all (fun q => kOkB kTb5 kPlt cX5_readLines (some .int) q.1 q.2) = true := by decide +kernel
set_option maxRecDepth 100000 in
theorem kc62 : c62.all (fun q => kOkB kTb5 kPlt cX5_readLine (some .boolean) q.1 q.2) = true := by decide +kernel
set_option maxRecDepth 100000 in
theorem kc63 : c63.all (fun q => kOkB kTb5 kPlt cX5_readJoined (some .boolean) q.1 q.2) = true := by decide +kernel
set_option maxRecDepth 100000 in
theorem kc64 : c64.all (fun q => kOkB kTb5 kPlt cX5_readOperand (some .boolean) q.1 q.2) = true := by decide +kernel
set_option maxRecDepth 100000 in
theorem kc65 : c65.all (fun q => kOkB kTb5 kPlt cX5_readClosing (some .boolean) q.1 q.2) = true := by decide +kernel
set_option maxRecDepth 100000 in
theorem kc66 : c66.all (fun q => kOkB kTb5 kPlt cX5_readNumber none q.1 q.2) = true := by decide +kernel
set_option maxRecDepth 100000 in
theorem kc67 : c67.all (fun q => kOkB kTb5 kPlt cX5_sign (some .int) q.1 q.2) = true := by decide +kernel
set_option maxRecDepth 100000 in
theorem kc68 : c68.all (fun q => kOkB kTb5 kPlt cX5_write none q.1 q.2) = true := by decide +kernel
set_option maxRecDepth 100000 in
theorem kc69 : c69.all (fun q => kOkB kTb5 kPlt cX5_isDigit (some .boolean) q.1 q.2) = true := by decide +kernel
set_option maxRecDepth 100000 in
theorem kc70 : c70.all (fun q => kOkB kTb5 kPlt cX5_nameOf (some .int) q.1 q.2) = true := by decide +kernel
set_option maxRecDepth 100000 in
theorem kc71 : c71.all (fun q => kOkB kTb5 kPlt cX5_levelOf (some .int) q.1 q.2) = true := by decide +kernel
