-- laid by wip/whole/gen.py
set_option maxRecDepth 100000 in
theorem kc216 : c216.all (fun q => kOkB kTb10 kPlt cX10_paidTo (some .int) q.1 q.2) = true := by decide +kernel
set_option maxRecDepth 100000 in
theorem kc217 : c217.all (fun q => kOkB kTb10 kPlt cX10_goTo none q.1 q.2) = true := by decide +kernel
set_option maxRecDepth 100000 in
theorem kc218 : c218.all (fun q => kOkB kTb10 kPlt cX10_lapsAll (some .int) q.1 q.2) = true := by decide +kernel
set_option maxRecDepth 100000 in
theorem kc219 : c219.all (fun q => kOkB kTb10 kPlt cX10_mostLaps (some .int) q.1 q.2) = true := by decide +kernel
set_option maxRecDepth 100000 in
theorem kc220 : c220.all (fun q => kOkB kTb10 kPlt cX10_paidAll (some .int) q.1 q.2) = true := by decide +kernel
set_option maxRecDepth 100000 in
theorem kc221 : c221.all (fun q => kOkB kTb10 kPlt cX10_laps (some .int) q.1 q.2) = true := by decide +kernel
set_option maxRecDepth 100000 in
theorem kc222 : c222.all (fun q => kOkB kTb10 kPlt cX10_surprised (some .int) q.1 q.2) = true := by decide +kernel
set_option maxRecDepth 100000 in
theorem kc223 : c223.all (fun q => kOkB kTb10 kPlt cX10_mostPence (some .int) q.1 q.2) = true := by decide +kernel
set_option maxRecDepth 100000 in
theorem kc224 : c224.all (fun q => kOkB kTb10 kPlt cX10_most (some .int) q.1 q.2) = true := by decide +kernel
set_option maxRecDepth 100000 in
theorem kc225 : c225.all (fun q => kOkB kTb10 kPlt cX10_moreBy (some .int) q.1 q.2) = true := by decide +kernel
set_option maxRecDepth 100000 in
theorem kc226 : c226.all (fun q => kOkB kTb10 kPlt cX10_more (some .int) q.1 q.2) = true := by decide +kernel
set_option maxRecDepth 100000 in
theorem kc227 : c227.all (fun q => kOkB kTb10 kPlt cX10_done (some .int) q.1 q.2) = true := by decide +kernel
set_option maxRecDepth 100000 in
theorem kc228 : c228.all (fun q => kOkB kTb10 kPlt cX10_lapOrSum (some .int) q.1 q.2) = true := by decide +kernel
set_option maxRecDepth 100000 in
theorem kc229 : c229.all (fun q => kOkB kTb10 kPlt cX10_top (some .int) q.1 q.2) = true := by decide +kernel
set_option maxRecDepth 100000 in
theorem kc230 : c230.all (fun q => kOkB kTb10 kPlt cX10_howLong (some .int) q.1 q.2) = true := by decide +kernel
set_option maxRecDepth 100000 in
theorem kc231 : c231.all (fun q => kOkB kTb10 kPlt cX10_partFrom none q.1 q.2) = true := by decide +kernel
set_option maxRecDepth 100000 in
theorem kc232 : c232.all (fun q => kOkB kTb10 kPlt cX10_field (some .int) q.1 q.2) = true := by decide +kernel
set_option maxRecDepth 100000 in
theorem kc233 : c233.all (fun q => kOkB kTb10 kPlt cX10_rowFault (some .int) q.1 q.2) = true := by decide +kernel
set_option maxRecDepth 100000 in
theorem kc234 : c234.all (fun q => kOkB kTb10 kPlt cX10_at (some .int) q.1 q.2) = true := by decide +kernel
set_option maxRecDepth 100000 in
theorem kc235 : c235.all (fun q => kOkB kTb10 kPlt cX10_isTold (some .boolean) q.1 q.2) = true := by decide +kernel
set_option maxRecDepth 100000 in
theorem kc236 : c236.all (fun q => kOkB kTb10 kPlt cX10_beginRest (some .int) q.1 q.2) = true := by decide +kernel
set_option maxRecDepth 100000 in
theorem kc237 : c237.all (fun q => kOkB kTb10 kPlt cX10_weekComes (some .int) q.1 q.2) = true := by decide +kernel
set_option maxRecDepth 100000 in
theorem kc238 : c238.all (fun q => kOkB kTb10 kPlt cX10_comesBy (some .int) q.1 q.2) = true := by decide +kernel
set_option maxRecDepth 100000 in
theorem kc239 : c239.all (fun q => kOkB kTb10 kPlt cX10_areWeeks (some .boolean) q.1 q.2) = true := by decide +kernel
set_option maxRecDepth 100000 in
theorem kc240 : c240.all (fun q => kOkB kTb10 kPlt cX10_comes (some .int) q.1 q.2) = true := by decide +kernel
set_option maxRecDepth 100000 in
theorem kc241 : c241.all (fun q => kOkB kTb10 kPlt cX10_by (some .int) q.1 q.2) = true := by decide +kernel
set_option maxRecDepth 100000 in
theorem kc242 : c242.all (fun q => kOkB kTb10 kPlt cX10_remind (some .int) q.1 q.2) = true := by decide +kernel
set_option maxRecDepth 100000 in
theorem kc243 : c243.all (fun q => kOkB kTb10 kPlt cX10_wrongSheet (some .int) q.1 q.2) = true := by decide +kernel
set_option maxRecDepth 100000 in
theorem kc244 : c244.all (fun q => kOkB kTb10 kPlt cX10_judge (some .int) q.1 q.2) = true := by decide +kernel
set_option maxRecDepth 100000 in
theorem kc245 : c245.all (fun q => kOkB kTb10 kPlt cX10_lapsFor (some .int) q.1 q.2) = true := by decide +kernel
set_option maxRecDepth 100000 in
theorem kc246 : c246.all (fun q => kOkB kTb10 kPlt cX10_minutesFor (some .int) q.1 q.2) = true := by decide +kernel
set_option maxRecDepth 100000 in
theorem kc247 : c247.all (fun q => kOkB kTb10 kPlt cX10_whose (some .int) q.1 q.2) = true := by decide +kernel
set_option maxRecDepth 100000 in
theorem kc248 : c248.all (fun q => kOkB kTb10 kPlt cX10_saidBy (some .int) q.1 q.2) = true := by decide +kernel
set_option maxRecDepth 100000 in
theorem kc249 : c249.all (fun q => kOkB kTb10 kPlt cX10_oak (some .int) q.1 q.2) = true := by decide +kernel
set_option maxRecDepth 100000 in
theorem kc250 : c250.all (fun q => kOkB kTb10 kPlt cX10_drawnLaps (some .int) q.1 q.2) = true := by decide +kernel
set_option maxRecDepth 100000 in
theorem kc251 : c251.all (fun q => kOkB kTb10 kPlt cX10_drawn (some .int) q.1 q.2) = true := by decide +kernel
set_option maxRecDepth 100000 in
theorem kc252 : c252.all (fun q => kOkB kTb10 kPlt cX10_run (some .int) q.1 q.2) = true := by decide +kernel
set_option maxRecDepth 100000 in
theorem kc253 : c253.all (fun q => kOkB kTb10 kPlt cX10_ask (some .int) q.1 q.2) = true := by decide +kernel
set_option maxRecDepth 100000 in
theorem kc254 : c254.all (fun q => kOkB kTb10 kPlt cX10_anew (some .int) q.1 q.2) = true := by decide +kernel
set_option maxRecDepth 100000 in
theorem kc255 : c255.all (fun q => kOkB kTb10 kPlt cX10_led (some .int) q.1 q.2) = true := by decide +kernel
set_option maxRecDepth 100000 in
theorem kc256 : c256.all (fun q => kOkB kTb10 kPlt cX10_image (some .int) q.1 q.2) = true := by decide +kernel
set_option maxRecDepth 100000 in
theorem kc257 : c257.all (fun q => kOkB kTb10 kPlt cX10_back (some .int) q.1 q.2) = true := by decide +kernel
set_option maxRecDepth 100000 in
theorem kc258 : c258.all (fun q => kOkB kTb10 kPlt cX10_isBody (some .boolean) q.1 q.2) = true := by decide +kernel
set_option maxRecDepth 100000 in
theorem kc259 : c259.all (fun q => kOkB kTb10 kPlt cX10_ran none q.1 q.2) = true := by decide +kernel
set_option maxRecDepth 100000 in
theorem kc260 : c260.all (fun q => kOkB kTb10 kPlt cX10_trace (some .int) q.1 q.2) = true := by decide +kernel
set_option maxRecDepth 100000 in
theorem kc261 : c261.all (fun q => kOkB kTb10 kPlt cX10_body (some .int) q.1 q.2) = true := by decide +kernel
set_option maxRecDepth 100000 in
theorem kc262 : c262.all (fun q => kOkB kTb10 kPlt cX10_isUnder (some .boolean) q.1 q.2) = true := by decide +kernel
set_option maxRecDepth 100000 in
theorem kc263 : c263.all (fun q => kOkB kTb10 kPlt cX10_plainRuns (some .int) q.1 q.2) = true := by decide +kernel
set_option maxRecDepth 100000 in
theorem kc264 : c264.all (fun q => kOkB kTb10 kPlt cX10_prizeRuns (some .int) q.1 q.2) = true := by decide +kernel
set_option maxRecDepth 100000 in
theorem kc265 : c265.all (fun q => kOkB kTb10 kPlt cX10_running (some .int) q.1 q.2) = true := by decide +kernel
set_option maxRecDepth 100000 in
theorem kc266 : c266.all (fun q => kOkB kTb10 kPlt cX10_plainOwes (some .int) q.1 q.2) = true := by decide +kernel
set_option maxRecDepth 100000 in
theorem kc267 : c267.all (fun q => kOkB kTb10 kPlt cX10_sumOwes (some .int) q.1 q.2) = true := by decide +kernel
set_option maxRecDepth 100000 in
theorem kc268 : c268.all (fun q => kOkB kTb10 kPlt cX10_owing (some .int) q.1 q.2) = true := by decide +kernel
set_option maxRecDepth 100000 in
theorem kc269 : c269.all (fun q => kOkB kTb10 kPlt cX10_plainPays (some .int) q.1 q.2) = true := by decide +kernel
set_option maxRecDepth 100000 in
theorem kc270 : c270.all (fun q => kOkB kTb10 kPlt cX10_oakPays (some .int) q.1 q.2) = true := by decide +kernel
set_option maxRecDepth 100000 in
theorem kc271 : c271.all (fun q => kOkB kTb10 kPlt cX10_paying (some .int) q.1 q.2) = true := by decide +kernel
set_option maxRecDepth 100000 in
theorem kc272 : c272.all (fun q => kOkB kTb10 kPlt cX10_plainTells (some .int) q.1 q.2) = true := by decide +kernel
set_option maxRecDepth 100000 in
theorem kc273 : c273.all (fun q => kOkB kTb10 kPlt cX10_telling (some .int) q.1 q.2) = true := by decide +kernel
set_option maxRecDepth 100000 in
theorem kc274 : c274.all (fun q => kOkB kTb10 kPlt cX10_act (some .int) q.1 q.2) = true := by decide +kernel
set_option maxRecDepth 100000 in
theorem kc275 : c275.all (fun q => kOkB kTb10 kPlt cX10_count (some .int) q.1 q.2) = true := by decide +kernel
set_option maxRecDepth 100000 in
theorem kc276 : c276.all (fun q => kOkB kTb10 kPlt cX10_isShelf (some .boolean) q.1 q.2) = true := by decide +kernel
set_option maxRecDepth 100000 in
theorem kc277 : c277.all (fun q => kOkB kTb10 kPlt cX10_keep (some .int) q.1 q.2) = true := by decide +kernel
set_option maxRecDepth 100000 in
theorem kc278 : c278.all (fun q => kOkB kTb10 kPlt cX10_row (some .int) q.1 q.2) = true := by decide +kernel
set_option maxRecDepth 100000 in
theorem kc279 : c279.all (fun q => kOkB kTb10 kPlt cX10_whyNoPlace (some .int) q.1 q.2) = true := by decide +kernel
set_option maxRecDepth 100000 in
theorem kc280 : c280.all (fun q => kOkB kTb10 kPlt cX10_put (some .int) q.1 q.2) = true := by decide +kernel
set_option maxRecDepth 100000 in
theorem kc281 : c281.all (fun q => kOkB kTb10 kPlt cX10_element (some .long) q.1 q.2) = true := by decide +kernel
set_option maxRecDepth 100000 in
theorem kc282 : c282.all (fun q => kOkB kTb10 kPlt cX10_shift (some .int) q.1 q.2) = true := by decide +kernel
set_option maxRecDepth 100000 in
theorem kc283 : c283.all (fun q => kOkB kTb10 kPlt cX10_taken (some .int) q.1 q.2) = true := by decide +kernel
