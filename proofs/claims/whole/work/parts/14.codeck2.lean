-- laid by wip/whole/gen.py
set_option maxRecDepth 100000 in
theorem kc144 : c144.all (fun q => kOkB kTb9 kPlt cX9_firstAmiss (some .int) q.1 q.2) = true := by decide +kernel
set_option maxRecDepth 100000 in
theorem kc145 : c145.all (fun q => kOkB kTb9 kPlt cX9_lapsFor (some .int) q.1 q.2) = true := by decide +kernel
set_option maxRecDepth 100000 in
theorem kc146 : c146.all (fun q => kOkB kTb9 kPlt cX9_minutesFor (some .int) q.1 q.2) = true := by decide +kernel
set_option maxRecDepth 100000 in
theorem kc147 : c147.all (fun q => kOkB kTb9 kPlt cX9_whose (some .int) q.1 q.2) = true := by decide +kernel
set_option maxRecDepth 100000 in
theorem kc148 : c148.all (fun q => kOkB kTb9 kPlt cX9_oak (some .int) q.1 q.2) = true := by decide +kernel
set_option maxRecDepth 100000 in
theorem kc149 : c149.all (fun q => kOkB kTb9 kPlt cX9_cheats (some .boolean) q.1 q.2) = true := by decide +kernel
set_option maxRecDepth 100000 in
theorem kc150 : c150.all (fun q => kOkB kTb9 kPlt cX9_lapsSaid (some .int) q.1 q.2) = true := by decide +kernel
set_option maxRecDepth 100000 in
theorem kc151 : c151.all (fun q => kOkB kTb9 kPlt cX9_drawn (some .int) q.1 q.2) = true := by decide +kernel
set_option maxRecDepth 100000 in
theorem kc152 : c152.all (fun q => kOkB kTb9 kPlt cX9_run (some .int) q.1 q.2) = true := by decide +kernel
set_option maxRecDepth 100000 in
theorem kc153 : c153.all (fun q => kOkB kTb9 kPlt cX9_ask (some .int) q.1 q.2) = true := by decide +kernel
set_option maxRecDepth 100000 in
theorem kc154 : c154.all (fun q => kOkB kTb9 kPlt cX9_anew (some .int) q.1 q.2) = true := by decide +kernel
set_option maxRecDepth 100000 in
theorem kc155 : c155.all (fun q => kOkB kTb9 kPlt cX9_led (some .int) q.1 q.2) = true := by decide +kernel
set_option maxRecDepth 100000 in
theorem kc156 : c156.all (fun q => kOkB kTb9 kPlt cX9_image (some .int) q.1 q.2) = true := by decide +kernel
set_option maxRecDepth 100000 in
theorem kc157 : c157.all (fun q => kOkB kTb9 kPlt cX9_back (some .int) q.1 q.2) = true := by decide +kernel
set_option maxRecDepth 100000 in
theorem kc158 : c158.all (fun q => kOkB kTb9 kPlt cX9_undo (some .int) q.1 q.2) = true := by decide +kernel
set_option maxRecDepth 100000 in
theorem kc159 : c159.all (fun q => kOkB kTb9 kPlt cX9_redo (some .int) q.1 q.2) = true := by decide +kernel
set_option maxRecDepth 100000 in
theorem kc160 : c160.all (fun q => kOkB kTb9 kPlt cX9_body (some .int) q.1 q.2) = true := by decide +kernel
set_option maxRecDepth 100000 in
theorem kc161 : c161.all (fun q => kOkB kTb9 kPlt cX9_act (some .int) q.1 q.2) = true := by decide +kernel
set_option maxRecDepth 100000 in
theorem kc162 : c162.all (fun q => kOkB kTb9 kPlt cX9_trace (some .int) q.1 q.2) = true := by decide +kernel
set_option maxRecDepth 100000 in
theorem kc163 : c163.all (fun q => kOkB kTb9 kPlt cX9_keep (some .int) q.1 q.2) = true := by decide +kernel
set_option maxRecDepth 100000 in
theorem kc164 : c164.all (fun q => kOkB kTb9 kPlt cX9_row (some .int) q.1 q.2) = true := by decide +kernel
set_option maxRecDepth 100000 in
theorem kc165 : c165.all (fun q => kOkB kTb9 kPlt cX9_put (some .int) q.1 q.2) = true := by decide +kernel
set_option maxRecDepth 100000 in
theorem kc166 : c166.all (fun q => kOkB kTb9 kPlt cX9_element (some .long) q.1 q.2) = true := by decide +kernel
set_option maxRecDepth 100000 in
theorem kc167 : c167.all (fun q => kOkB kTb9 kPlt cX9_shift (some .int) q.1 q.2) = true := by decide +kernel
set_option maxRecDepth 100000 in
theorem kc168 : c168.all (fun q => kOkB kTb9 kPlt cX9_taken (some .int) q.1 q.2) = true := by decide +kernel
set_option maxRecDepth 100000 in
theorem kc169 : c169.all (fun q => kOkB kTb9 kPlt cX9_count (some .int) q.1 q.2) = true := by decide +kernel
set_option maxRecDepth 100000 in
theorem kc170 : c170.all (fun q => kOkB kTb10 kPlt cX10_in (some .boolean) q.1 q.2) = true := by decide +kernel
set_option maxRecDepth 100000 in
theorem kc171 : c171.all (fun q => kOkB kTb10 kPlt cX10_isChild (some .boolean) q.1 q.2) = true := by decide +kernel
set_option maxRecDepth 100000 in
theorem kc172 : c172.all (fun q => kOkB kTb10 kPlt cX10_isSponsor (some .boolean) q.1 q.2) = true := by decide +kernel
set_option maxRecDepth 100000 in
theorem kc173 : c173.all (fun q => kOkB kTb10 kPlt cX10_child (some .int) q.1 q.2) = true := by decide +kernel
set_option maxRecDepth 100000 in
theorem kc174 : c174.all (fun q => kOkB kTb10 kPlt cX10_addSponsor (some .int) q.1 q.2) = true := by decide +kernel
set_option maxRecDepth 100000 in
theorem kc175 : c175.all (fun q => kOkB kTb10 kPlt cX10_sponsor (some .int) q.1 q.2) = true := by decide +kernel
set_option maxRecDepth 100000 in
theorem kc176 : c176.all (fun q => kOkB kTb10 kPlt cX10_sponsors (some .int) q.1 q.2) = true := by decide +kernel
set_option maxRecDepth 100000 in
theorem kc177 : c177.all (fun q => kOkB kTb10 kPlt cX10_valueAt (some .int) q.1 q.2) = true := by decide +kernel
set_option maxRecDepth 100000 in
theorem kc178 : c178.all (fun q => kOkB kTb10 kPlt cX10_lays none q.1 q.2) = true := by decide +kernel
set_option maxRecDepth 100000 in
theorem kc179 : c179.all (fun q => kOkB kTb10 kPlt cX10_changes (some .int) q.1 q.2) = true := by decide +kernel
set_option maxRecDepth 100000 in
theorem kc180 : c180.all (fun q => kOkB kTb10 kPlt cX10_undo (some .int) q.1 q.2) = true := by decide +kernel
set_option maxRecDepth 100000 in
theorem kc181 : c181.all (fun q => kOkB kTb10 kPlt cX10_redo (some .int) q.1 q.2) = true := by decide +kernel
set_option maxRecDepth 100000 in
theorem kc182 : c182.all (fun q => kOkB kTb10 kPlt cX10_isOne (some .boolean) q.1 q.2) = true := by decide +kernel
set_option maxRecDepth 100000 in
theorem kc183 : c183.all (fun q => kOkB kTb10 kPlt cX10_mayBe (some .boolean) q.1 q.2) = true := by decide +kernel
set_option maxRecDepth 100000 in
theorem kc184 : c184.all (fun q => kOkB kTb10 kPlt cX10_mend (some .int) q.1 q.2) = true := by decide +kernel
set_option maxRecDepth 100000 in
theorem kc185 : c185.all (fun q => kOkB kTb10 kPlt cX10_of (some .int) q.1 q.2) = true := by decide +kernel
set_option maxRecDepth 100000 in
theorem kc186 : c186.all (fun q => kOkB kTb10 kPlt cX10_feed (some .int) q.1 q.2) = true := by decide +kernel
set_option maxRecDepth 100000 in
theorem kc187 : c187.all (fun q => kOkB kTb10 kPlt cX10_look (some .int) q.1 q.2) = true := by decide +kernel
set_option maxRecDepth 100000 in
theorem kc188 : c188.all (fun q => kOkB kTb10 kPlt cX10_wrong none q.1 q.2) = true := by decide +kernel
set_option maxRecDepth 100000 in
theorem kc189 : c189.all (fun q => kOkB kTb10 kPlt cX10_addStep none q.1 q.2) = true := by decide +kernel
set_option maxRecDepth 100000 in
theorem kc190 : c190.all (fun q => kOkB kTb10 kPlt cX10_nameOf (some .int) q.1 q.2) = true := by decide +kernel
set_option maxRecDepth 100000 in
theorem kc191 : c191.all (fun q => kOkB kTb10 kPlt cX10_opens (some .boolean) q.1 q.2) = true := by decide +kernel
set_option maxRecDepth 100000 in
theorem kc192 : c192.all (fun q => kOkB kTb10 kPlt cX10_figure none q.1 q.2) = true := by decide +kernel
set_option maxRecDepth 100000 in
theorem kc193 : c193.all (fun q => kOkB kTb10 kPlt cX10_operand none q.1 q.2) = true := by decide +kernel
set_option maxRecDepth 100000 in
theorem kc194 : c194.all (fun q => kOkB kTb10 kPlt cX10_product none q.1 q.2) = true := by decide +kernel
set_option maxRecDepth 100000 in
theorem kc195 : c195.all (fun q => kOkB kTb10 kPlt cX10_sum none q.1 q.2) = true := by decide +kernel
set_option maxRecDepth 100000 in
theorem kc196 : c196.all (fun q => kOkB kTb10 kPlt cX10_compared none q.1 q.2) = true := by decide +kernel
set_option maxRecDepth 100000 in
theorem kc197 : c197.all (fun q => kOkB kTb10 kPlt cX10_both none q.1 q.2) = true := by decide +kernel
set_option maxRecDepth 100000 in
theorem kc198 : c198.all (fun q => kOkB kTb10 kPlt cX10_either none q.1 q.2) = true := by decide +kernel
set_option maxRecDepth 100000 in
theorem kc199 : c199.all (fun q => kOkB kTb10 kPlt cX10_line none q.1 q.2) = true := by decide +kernel
set_option maxRecDepth 100000 in
theorem kc200 : c200.all (fun q => kOkB kTb10 kPlt cX10_readText (some .int) q.1 q.2) = true := by decide +kernel
set_option maxRecDepth 100000 in
theorem kc201 : c201.all (fun q => kOkB kTb10 kPlt cX10_twoOf (some .int) q.1 q.2) = true := by decide +kernel
set_option maxRecDepth 100000 in
theorem kc202 : c202.all (fun q => kOkB kTb10 kPlt cX10_worked (some .int) q.1 q.2) = true := by decide +kernel
set_option maxRecDepth 100000 in
theorem kc203 : c203.all (fun q => kOkB kTb10 kPlt cX10_gives (some .int) q.1 q.2) = true := by decide +kernel
set_option maxRecDepth 100000 in
theorem kc204 : c204.all (fun q => kOkB kTb10 kPlt cX10_law (some .int) q.1 q.2) = true := by decide +kernel
set_option maxRecDepth 100000 in
theorem kc205 : c205.all (fun q => kOkB kTb10 kPlt cX10_lapOf (some .int) q.1 q.2) = true := by decide +kernel
set_option maxRecDepth 100000 in
theorem kc206 : c206.all (fun q => kOkB kTb10 kPlt cX10_lap (some .int) q.1 q.2) = true := by decide +kernel
set_option maxRecDepth 100000 in
theorem kc207 : c207.all (fun q => kOkB kTb10 kPlt cX10_isTime (some .boolean) q.1 q.2) = true := by decide +kernel
set_option maxRecDepth 100000 in
theorem kc208 : c208.all (fun q => kOkB kTb10 kPlt cX10_lapsBy (some .int) q.1 q.2) = true := by decide +kernel
set_option maxRecDepth 100000 in
theorem kc209 : c209.all (fun q => kOkB kTb10 kPlt cX10_minutesOf (some .int) q.1 q.2) = true := by decide +kernel
set_option maxRecDepth 100000 in
theorem kc210 : c210.all (fun q => kOkB kTb10 kPlt cX10_minutes (some .int) q.1 q.2) = true := by decide +kernel
set_option maxRecDepth 100000 in
theorem kc211 : c211.all (fun q => kOkB kTb10 kPlt cX10_plainOf (some .int) q.1 q.2) = true := by decide +kernel
set_option maxRecDepth 100000 in
theorem kc212 : c212.all (fun q => kOkB kTb10 kPlt cX10_owesOf (some .int) q.1 q.2) = true := by decide +kernel
set_option maxRecDepth 100000 in
theorem kc213 : c213.all (fun q => kOkB kTb10 kPlt cX10_paysOf (some .int) q.1 q.2) = true := by decide +kernel
set_option maxRecDepth 100000 in
theorem kc214 : c214.all (fun q => kOkB kTb10 kPlt cX10_owes (some .int) q.1 q.2) = true := by decide +kernel
set_option maxRecDepth 100000 in
theorem kc215 : c215.all (fun q => kOkB kTb10 kPlt cX10_owedTo (some .int) q.1 q.2) = true := by decide +kernel
