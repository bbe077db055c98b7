set_option maxRecDepth 100000 in
theorem km_d169_0 : ((km_c169.drop 0).take 30).all (km_okd cX9_dropsOut) = true := by decide +kernel
set_option maxRecDepth 100000 in
theorem km_d169_1 : ((km_c169.drop 30).take 30).all (km_okd cX9_dropsOut) = true := by decide +kernel
set_option maxRecDepth 100000 in
theorem km_d169_2 : ((km_c169.drop 60).take 30).all (km_okd cX9_dropsOut) = true := by decide +kernel
set_option maxRecDepth 100000 in
theorem km_d169_3 : ((km_c169.drop 90).take 30).all (km_okd cX9_dropsOut) = true := by decide +kernel
theorem km_d169 : km_okc km_q169 = true := km_dall (km_dstep km_d169_0 (km_dstep km_d169_1 (km_dstep km_d169_2 (km_dlast (by decide +kernel) km_d169_3))))
set_option maxRecDepth 100000 in
theorem km_d170_0 : ((km_c170.drop 0).take 30).all (km_okd cX9_goesOut) = true := by decide +kernel
set_option maxRecDepth 100000 in
theorem km_d170_1 : ((km_c170.drop 30).take 30).all (km_okd cX9_goesOut) = true := by decide +kernel
theorem km_d170 : km_okc km_q170 = true := km_dall (km_dstep km_d170_0 (km_dlast (by decide +kernel) km_d170_1))
set_option maxRecDepth 100000 in
theorem km_d171_0 : ((km_c171.drop 0).take 30).all (km_okd cX9_loosens) = true := by decide +kernel
set_option maxRecDepth 100000 in
theorem km_d171_1 : ((km_c171.drop 30).take 30).all (km_okd cX9_loosens) = true := by decide +kernel
theorem km_d171 : km_okc km_q171 = true := km_dall (km_dstep km_d171_0 (km_dlast (by decide +kernel) km_d171_1))
set_option maxRecDepth 100000 in
theorem km_d172_0 : ((km_c172.drop 0).take 30).all (km_okd cX9_whereOf) = true := by decide +kernel
theorem km_d172 : km_okc km_q172 = true := km_dall (km_dlast (by decide +kernel) km_d172_0)
set_option maxRecDepth 100000 in
theorem km_d173_0 : ((km_c173.drop 0).take 30).all (km_okd cX9_slides) = true := by decide +kernel
set_option maxRecDepth 100000 in
theorem km_d173_1 : ((km_c173.drop 30).take 30).all (km_okd cX9_slides) = true := by decide +kernel
theorem km_d173 : km_okc km_q173 = true := km_dall (km_dstep km_d173_0 (km_dlast (by decide +kernel) km_d173_1))
set_option maxRecDepth 100000 in
theorem km_d174_0 : ((km_c174.drop 0).take 30).all (km_okd cX9_exchanges) = true := by decide +kernel
theorem km_d174 : km_okc km_q174 = true := km_dall (km_dlast (by decide +kernel) km_d174_0)
set_option maxRecDepth 100000 in
theorem km_d175_0 : ((km_c175.drop 0).take 30).all (km_okd cX9_switchesAt) = true := by decide +kernel
set_option maxRecDepth 100000 in
theorem km_d175_1 : ((km_c175.drop 30).take 30).all (km_okd cX9_switchesAt) = true := by decide +kernel
theorem km_d175 : km_okc km_q175 = true := km_dall (km_dstep km_d175_0 (km_dlast (by decide +kernel) km_d175_1))
set_option maxRecDepth 100000 in
theorem km_d176_0 : ((km_c176.drop 0).take 30).all (km_okd cX9_marks) = true := by decide +kernel
set_option maxRecDepth 100000 in
theorem km_d176_1 : ((km_c176.drop 30).take 30).all (km_okd cX9_marks) = true := by decide +kernel
theorem km_d176 : km_okc km_q176 = true := km_dall (km_dstep km_d176_0 (km_dlast (by decide +kernel) km_d176_1))
set_option maxRecDepth 100000 in
theorem km_d177_0 : ((km_c177.drop 0).take 30).all (km_okd cX9_undo) = true := by decide +kernel
set_option maxRecDepth 100000 in
theorem km_d177_1 : ((km_c177.drop 30).take 30).all (km_okd cX9_undo) = true := by decide +kernel
theorem km_d177 : km_okc km_q177 = true := km_dall (km_dstep km_d177_0 (km_dlast (by decide +kernel) km_d177_1))
set_option maxRecDepth 100000 in
theorem km_d178_0 : ((km_c178.drop 0).take 30).all (km_okd cX9_hold) = true := by decide +kernel
set_option maxRecDepth 100000 in
theorem km_d178_1 : ((km_c178.drop 30).take 30).all (km_okd cX9_hold) = true := by decide +kernel
theorem km_d178 : km_okc km_q178 = true := km_dall (km_dstep km_d178_0 (km_dlast (by decide +kernel) km_d178_1))
set_option maxRecDepth 100000 in
theorem km_d179_0 : ((km_c179.drop 0).take 30).all (km_okd cX9_hasHeld) = true := by decide +kernel
set_option maxRecDepth 100000 in
theorem km_d179_1 : ((km_c179.drop 30).take 30).all (km_okd cX9_hasHeld) = true := by decide +kernel
theorem km_d179 : km_okc km_q179 = true := km_dall (km_dstep km_d179_0 (km_dlast (by decide +kernel) km_d179_1))
set_option maxRecDepth 100000 in
theorem km_d180_0 : ((km_c180.drop 0).take 30).all (km_okd cX9_restore) = true := by decide +kernel
theorem km_d180 : km_okc km_q180 = true := km_dall (km_dlast (by decide +kernel) km_d180_0)
set_option maxRecDepth 100000 in
theorem km_d181_0 : ((km_c181.drop 0).take 30).all (km_okd cX9_out) = true := by decide +kernel
set_option maxRecDepth 100000 in
theorem km_d181_1 : ((km_c181.drop 30).take 30).all (km_okd cX9_out) = true := by decide +kernel
theorem km_d181 : km_okc km_q181 = true := km_dall (km_dstep km_d181_0 (km_dlast (by decide +kernel) km_d181_1))
set_option maxRecDepth 100000 in
theorem km_d182_0 : ((km_c182.drop 0).take 30).all (km_okd cX9_slide) = true := by decide +kernel
theorem km_d182 : km_okc km_q182 = true := km_dall (km_dlast (by decide +kernel) km_d182_0)
set_option maxRecDepth 100000 in
theorem km_d183_0 : ((km_c183.drop 0).take 30).all (km_okd cX9_kink) = true := by decide +kernel
set_option maxRecDepth 100000 in
theorem km_d183_1 : ((km_c183.drop 30).take 30).all (km_okd cX9_kink) = true := by decide +kernel
set_option maxRecDepth 100000 in
theorem km_d183_2 : ((km_c183.drop 60).take 30).all (km_okd cX9_kink) = true := by decide +kernel
set_option maxRecDepth 100000 in
theorem km_d183_3 : ((km_c183.drop 90).take 30).all (km_okd cX9_kink) = true := by decide +kernel
set_option maxRecDepth 100000 in
theorem km_d183_4 : ((km_c183.drop 120).take 30).all (km_okd cX9_kink) = true := by decide +kernel
theorem km_d183 : km_okc km_q183 = true := km_dall (km_dstep km_d183_0 (km_dstep km_d183_1 (km_dstep km_d183_2 (km_dstep km_d183_3 (km_dlast (by decide +kernel) km_d183_4)))))
set_option maxRecDepth 100000 in
theorem km_d184_0 : ((km_c184.drop 0).take 30).all (km_okd cX9_loosen) = true := by decide +kernel
theorem km_d184 : km_okc km_q184 = true := km_dall (km_dlast (by decide +kernel) km_d184_0)
set_option maxRecDepth 100000 in
theorem km_d185_0 : ((km_c185.drop 0).take 30).all (km_okd cX9_mirror) = true := by decide +kernel
theorem km_d185 : km_okc km_q185 = true := km_dall (km_dlast (by decide +kernel) km_d185_0)
set_option maxRecDepth 100000 in
theorem km_d186_0 : ((km_c186.drop 0).take 30).all (km_okd cX9_round) = true := by decide +kernel
set_option maxRecDepth 100000 in
theorem km_d186_1 : ((km_c186.drop 30).take 30).all (km_okd cX9_round) = true := by decide +kernel
set_option maxRecDepth 100000 in
theorem km_d186_2 : ((km_c186.drop 60).take 30).all (km_okd cX9_round) = true := by decide +kernel
set_option maxRecDepth 100000 in
theorem km_d186_3 : ((km_c186.drop 90).take 30).all (km_okd cX9_round) = true := by decide +kernel
theorem km_d186 : km_okc km_q186 = true := km_dall (km_dstep km_d186_0 (km_dstep km_d186_1 (km_dstep km_d186_2 (km_dlast (by decide +kernel) km_d186_3))))
set_option maxRecDepth 100000 in
theorem km_d187_0 : ((km_c187.drop 0).take 30).all (km_okd cX9_switches) = true := by decide +kernel
theorem km_d187 : km_okc km_q187 = true := km_dall (km_dlast (by decide +kernel) km_d187_0)
set_option maxRecDepth 100000 in
theorem km_d188_0 : ((km_c188.drop 0).take 30).all (km_okd cX9_sum) = true := by decide +kernel
set_option maxRecDepth 100000 in
theorem km_d188_1 : ((km_c188.drop 30).take 30).all (km_okd cX9_sum) = true := by decide +kernel
set_option maxRecDepth 100000 in
theorem km_d188_2 : ((km_c188.drop 60).take 30).all (km_okd cX9_sum) = true := by decide +kernel
set_option maxRecDepth 100000 in
theorem km_d188_3 : ((km_c188.drop 90).take 30).all (km_okd cX9_sum) = true := by decide +kernel
set_option maxRecDepth 100000 in
theorem km_d188_4 : ((km_c188.drop 120).take 30).all (km_okd cX9_sum) = true := by decide +kernel
set_option maxRecDepth 100000 in
theorem km_d188_5 : ((km_c188.drop 150).take 30).all (km_okd cX9_sum) = true := by decide +kernel
theorem km_d188 : km_okc km_q188 = true := km_dall (km_dstep km_d188_0 (km_dstep km_d188_1 (km_dstep km_d188_2 (km_dstep km_d188_3 (km_dstep km_d188_4 (km_dlast (by decide +kernel) km_d188_5))))))
set_option maxRecDepth 100000 in
theorem km_d189_0 : ((km_c189.drop 0).take 30).all (km_okd cX9_ring) = true := by decide +kernel
set_option maxRecDepth 100000 in
theorem km_d189_1 : ((km_c189.drop 30).take 30).all (km_okd cX9_ring) = true := by decide +kernel
set_option maxRecDepth 100000 in
theorem km_d189_2 : ((km_c189.drop 60).take 30).all (km_okd cX9_ring) = true := by decide +kernel
theorem km_d189 : km_okc km_q189 = true := km_dall (km_dstep km_d189_0 (km_dstep km_d189_1 (km_dlast (by decide +kernel) km_d189_2)))
set_option maxRecDepth 100000 in
theorem km_d190_0 : ((km_c190.drop 0).take 30).all (km_okd cX9_passAt) = true := by decide +kernel
theorem km_d190 : km_okc km_q190 = true := km_dall (km_dlast (by decide +kernel) km_d190_0)
set_option maxRecDepth 100000 in
theorem km_d191_0 : ((km_c191.drop 0).take 30).all (km_okd cX9_crossing) = true := by decide +kernel
set_option maxRecDepth 100000 in
theorem km_d191_1 : ((km_c191.drop 30).take 30).all (km_okd cX9_crossing) = true := by decide +kernel
set_option maxRecDepth 100000 in
theorem km_d191_2 : ((km_c191.drop 60).take 30).all (km_okd cX9_crossing) = true := by decide +kernel
theorem km_d191 : km_okc km_q191 = true := km_dall (km_dstep km_d191_0 (km_dstep km_d191_1 (km_dlast (by decide +kernel) km_d191_2)))
set_option maxRecDepth 100000 in
theorem km_d192_0 : ((km_c192.drop 0).take 30).all (km_okd cX9_face) = true := by decide +kernel
set_option maxRecDepth 100000 in
theorem km_d192_1 : ((km_c192.drop 30).take 30).all (km_okd cX9_face) = true := by decide +kernel
set_option maxRecDepth 100000 in
theorem km_d192_2 : ((km_c192.drop 60).take 30).all (km_okd cX9_face) = true := by decide +kernel
theorem km_d192 : km_okc km_q192 = true := km_dall (km_dstep km_d192_0 (km_dstep km_d192_1 (km_dlast (by decide +kernel) km_d192_2)))
set_option maxRecDepth 100000 in
theorem km_d193_0 : ((km_c193.drop 0).take 30).all (km_okd cX9_looseMany) = true := by decide +kernel
theorem km_d193 : km_okc km_q193 = true := km_dall (km_dlast (by decide +kernel) km_d193_0)
set_option maxRecDepth 100000 in
theorem km_d194_0 : ((km_c194.drop 0).take 30).all (km_okd cX9_loopsOf) = true := by decide +kernel
set_option maxRecDepth 100000 in
theorem km_d194_1 : ((km_c194.drop 30).take 30).all (km_okd cX9_loopsOf) = true := by decide +kernel
set_option maxRecDepth 100000 in
theorem km_d194_2 : ((km_c194.drop 60).take 30).all (km_okd cX9_loopsOf) = true := by decide +kernel
theorem km_d194 : km_okc km_q194 = true := km_dall (km_dstep km_d194_0 (km_dstep km_d194_1 (km_dlast (by decide +kernel) km_d194_2)))
set_option maxRecDepth 100000 in
theorem km_d195_0 : ((km_c195.drop 0).take 30).all (km_okd cX9_loops) = true := by decide +kernel
theorem km_d195 : km_okc km_q195 = true := km_dall (km_dlast (by decide +kernel) km_d195_0)
set_option maxRecDepth 100000 in
theorem km_d196_0 : ((km_c196.drop 0).take 30).all (km_okd cX9_laysBracket) = true := by decide +kernel
set_option maxRecDepth 100000 in
theorem km_d196_1 : ((km_c196.drop 30).take 30).all (km_okd cX9_laysBracket) = true := by decide +kernel
set_option maxRecDepth 100000 in
theorem km_d196_2 : ((km_c196.drop 60).take 30).all (km_okd cX9_laysBracket) = true := by decide +kernel
theorem km_d196 : km_okc km_q196 = true := km_dall (km_dstep km_d196_0 (km_dstep km_d196_1 (km_dlast (by decide +kernel) km_d196_2)))
set_option maxRecDepth 100000 in
theorem km_d197_0 : ((km_c197.drop 0).take 30).all (km_okd cX9_timesLoop) = true := by decide +kernel
set_option maxRecDepth 100000 in
theorem km_d197_1 : ((km_c197.drop 30).take 30).all (km_okd cX9_timesLoop) = true := by decide +kernel
theorem km_d197 : km_okc km_q197 = true := km_dall (km_dstep km_d197_0 (km_dlast (by decide +kernel) km_d197_1))
set_option maxRecDepth 100000 in
theorem km_d198_0 : ((km_c198.drop 0).take 30).all (km_okd cX9_writhe) = true := by decide +kernel
theorem km_d198 : km_okc km_q198 = true := km_dall (km_dlast (by decide +kernel) km_d198_0)
set_option maxRecDepth 100000 in
theorem km_d199_0 : ((km_c199.drop 0).take 30).all (km_okd cX9_knottedAt) = true := by decide +kernel
set_option maxRecDepth 100000 in
theorem km_d199_1 : ((km_c199.drop 30).take 30).all (km_okd cX9_knottedAt) = true := by decide +kernel
theorem km_d199 : km_okc km_q199 = true := km_dall (km_dstep km_d199_0 (km_dlast (by decide +kernel) km_d199_1))
set_option maxRecDepth 100000 in
theorem km_d200_0 : ((km_c200.drop 0).take 30).all (km_okd cX9_coefficient) = true := by decide +kernel
theorem km_d200 : km_okc km_q200 = true := km_dall (km_dlast (by decide +kernel) km_d200_0)
set_option maxRecDepth 100000 in
theorem km_d201_0 : ((km_c201.drop 0).take 30).all (km_okd cX9_span) = true := by decide +kernel
set_option maxRecDepth 100000 in
theorem km_d201_1 : ((km_c201.drop 30).take 30).all (km_okd cX9_span) = true := by decide +kernel
theorem km_d201 : km_okc km_q201 = true := km_dall (km_dstep km_d201_0 (km_dlast (by decide +kernel) km_d201_1))
set_option maxRecDepth 100000 in
theorem km_d202_0 : ((km_c202.drop 0).take 30).all (km_okd cX9_winding) = true := by decide +kernel
set_option maxRecDepth 100000 in
theorem km_d202_1 : ((km_c202.drop 30).take 30).all (km_okd cX9_winding) = true := by decide +kernel
set_option maxRecDepth 100000 in
theorem km_d202_2 : ((km_c202.drop 60).take 30).all (km_okd cX9_winding) = true := by decide +kernel
theorem km_d202 : km_okc km_q202 = true := km_dall (km_dstep km_d202_0 (km_dstep km_d202_1 (km_dlast (by decide +kernel) km_d202_2)))
set_option maxRecDepth 100000 in
theorem km_d203_0 : ((km_c203.drop 0).take 30).all (km_okd cX9_laysArcs) = true := by decide +kernel
set_option maxRecDepth 100000 in
theorem km_d203_1 : ((km_c203.drop 30).take 30).all (km_okd cX9_laysArcs) = true := by decide +kernel
set_option maxRecDepth 100000 in
theorem km_d203_2 : ((km_c203.drop 60).take 30).all (km_okd cX9_laysArcs) = true := by decide +kernel
set_option maxRecDepth 100000 in
theorem km_d203_3 : ((km_c203.drop 90).take 30).all (km_okd cX9_laysArcs) = true := by decide +kernel
theorem km_d203 : km_okc km_q203 = true := km_dall (km_dstep km_d203_0 (km_dstep km_d203_1 (km_dstep km_d203_2 (km_dlast (by decide +kernel) km_d203_3))))
set_option maxRecDepth 100000 in
theorem km_d204_0 : ((km_c204.drop 0).take 30).all (km_okd cX9_laysRows) = true := by decide +kernel
set_option maxRecDepth 100000 in
theorem km_d204_1 : ((km_c204.drop 30).take 30).all (km_okd cX9_laysRows) = true := by decide +kernel
set_option maxRecDepth 100000 in
theorem km_d204_2 : ((km_c204.drop 60).take 30).all (km_okd cX9_laysRows) = true := by decide +kernel
theorem km_d204 : km_okc km_q204 = true := km_dall (km_dstep km_d204_0 (km_dstep km_d204_1 (km_dlast (by decide +kernel) km_d204_2)))
set_option maxRecDepth 100000 in
theorem km_d205_0 : ((km_c205.drop 0).take 30).all (km_okd cX9_colourings) = true := by decide +kernel
set_option maxRecDepth 100000 in
theorem km_d205_1 : ((km_c205.drop 30).take 30).all (km_okd cX9_colourings) = true := by decide +kernel
set_option maxRecDepth 100000 in
theorem km_d205_2 : ((km_c205.drop 60).take 30).all (km_okd cX9_colourings) = true := by decide +kernel
set_option maxRecDepth 100000 in
theorem km_d205_3 : ((km_c205.drop 90).take 30).all (km_okd cX9_colourings) = true := by decide +kernel
theorem km_d205 : km_okc km_q205 = true := km_dall (km_dstep km_d205_0 (km_dstep km_d205_1 (km_dstep km_d205_2 (km_dlast (by decide +kernel) km_d205_3))))
set_option maxRecDepth 100000 in
theorem km_d206_0 : ((km_c206.drop 0).take 30).all (km_okd cX9_rest) = true := by decide +kernel
theorem km_d206 : km_okc km_q206 = true := km_dall (km_dlast (by decide +kernel) km_d206_0)
set_option maxRecDepth 100000 in
theorem km_d207_0 : ((km_c207.drop 0).take 30).all (km_okd cX9_exchangesRows) = true := by decide +kernel
set_option maxRecDepth 100000 in
theorem km_d207_1 : ((km_c207.drop 30).take 30).all (km_okd cX9_exchangesRows) = true := by decide +kernel
theorem km_d207 : km_okc km_q207 = true := km_dall (km_dstep km_d207_0 (km_dlast (by decide +kernel) km_d207_1))
set_option maxRecDepth 100000 in
theorem km_d208_0 : ((km_c208.drop 0).take 30).all (km_okd cX9_clears) = true := by decide +kernel
set_option maxRecDepth 100000 in
theorem km_d208_1 : ((km_c208.drop 30).take 30).all (km_okd cX9_clears) = true := by decide +kernel
set_option maxRecDepth 100000 in
theorem km_d208_2 : ((km_c208.drop 60).take 30).all (km_okd cX9_clears) = true := by decide +kernel
theorem km_d208 : km_okc km_q208 = true := km_dall (km_dstep km_d208_0 (km_dstep km_d208_1 (km_dlast (by decide +kernel) km_d208_2)))
set_option maxRecDepth 100000 in
theorem km_d209_0 : ((km_c209.drop 0).take 30).all (km_okd cX9_determinant) = true := by decide +kernel
set_option maxRecDepth 100000 in
theorem km_d209_1 : ((km_c209.drop 30).take 30).all (km_okd cX9_determinant) = true := by decide +kernel
set_option maxRecDepth 100000 in
theorem km_d209_2 : ((km_c209.drop 60).take 30).all (km_okd cX9_determinant) = true := by decide +kernel
set_option maxRecDepth 100000 in
theorem km_d209_3 : ((km_c209.drop 90).take 30).all (km_okd cX9_determinant) = true := by decide +kernel
set_option maxRecDepth 100000 in
theorem km_d209_4 : ((km_c209.drop 120).take 30).all (km_okd cX9_determinant) = true := by decide +kernel
set_option maxRecDepth 100000 in
theorem km_d209_5 : ((km_c209.drop 150).take 30).all (km_okd cX9_determinant) = true := by decide +kernel
theorem km_d209 : km_okc km_q209 = true := km_dall (km_dstep km_d209_0 (km_dstep km_d209_1 (km_dstep km_d209_2 (km_dstep km_d209_3 (km_dstep km_d209_4 (km_dlast (by decide +kernel) km_d209_5))))))
set_option maxRecDepth 100000 in
theorem km_d210_0 : ((km_c210.drop 0).take 30).all (km_okd cX9_fewestSwitches) = true := by decide +kernel
set_option maxRecDepth 100000 in
theorem km_d210_1 : ((km_c210.drop 30).take 30).all (km_okd cX9_fewestSwitches) = true := by decide +kernel
set_option maxRecDepth 100000 in
theorem km_d210_2 : ((km_c210.drop 60).take 30).all (km_okd cX9_fewestSwitches) = true := by decide +kernel
theorem km_d210 : km_okc km_q210 = true := km_dall (km_dstep km_d210_0 (km_dstep km_d210_1 (km_dlast (by decide +kernel) km_d210_2)))
set_option maxRecDepth 100000 in
theorem km_d211_0 : ((km_c211.drop 0).take 30).all (km_okd cX9_freed) = true := by decide +kernel
theorem km_d211 : km_okc km_q211 = true := km_dall (km_dlast (by decide +kernel) km_d211_0)
set_option maxRecDepth 100000 in
theorem km_d212_0 : ((km_c212.drop 0).take 30).all (km_okd cX9_isLooser) = true := by decide +kernel
set_option maxRecDepth 100000 in
theorem km_d212_1 : ((km_c212.drop 30).take 30).all (km_okd cX9_isLooser) = true := by decide +kernel
theorem km_d212 : km_okc km_q212 = true := km_dall (km_dstep km_d212_0 (km_dlast (by decide +kernel) km_d212_1))
set_option maxRecDepth 100000 in
theorem km_d213_0 : ((km_c213.drop 0).take 30).all (km_okd cX9_looser) = true := by decide +kernel
set_option maxRecDepth 100000 in
theorem km_d213_1 : ((km_c213.drop 30).take 30).all (km_okd cX9_looser) = true := by decide +kernel
set_option maxRecDepth 100000 in
theorem km_d213_2 : ((km_c213.drop 60).take 30).all (km_okd cX9_looser) = true := by decide +kernel
set_option maxRecDepth 100000 in
theorem km_d213_3 : ((km_c213.drop 90).take 30).all (km_okd cX9_looser) = true := by decide +kernel
set_option maxRecDepth 100000 in
theorem km_d213_4 : ((km_c213.drop 120).take 30).all (km_okd cX9_looser) = true := by decide +kernel
theorem km_d213 : km_okc km_q213 = true := km_dall (km_dstep km_d213_0 (km_dstep km_d213_1 (km_dstep km_d213_2 (km_dstep km_d213_3 (km_dlast (by decide +kernel) km_d213_4)))))
set_option maxRecDepth 100000 in
theorem km_d214_0 : ((km_c214.drop 0).take 30).all (km_okd cX9_areRowsAlike) = true := by decide +kernel
set_option maxRecDepth 100000 in
theorem km_d214_1 : ((km_c214.drop 30).take 30).all (km_okd cX9_areRowsAlike) = true := by decide +kernel
set_option maxRecDepth 100000 in
theorem km_d214_2 : ((km_c214.drop 60).take 30).all (km_okd cX9_areRowsAlike) = true := by decide +kernel
set_option maxRecDepth 100000 in
theorem km_d214_3 : ((km_c214.drop 90).take 30).all (km_okd cX9_areRowsAlike) = true := by decide +kernel
theorem km_d214 : km_okc km_q214 = true := km_dall (km_dstep km_d214_0 (km_dstep km_d214_1 (km_dstep km_d214_2 (km_dlast (by decide +kernel) km_d214_3))))
set_option maxRecDepth 100000 in
theorem km_d215_0 : ((km_c215.drop 0).take 30).all (km_okd cX9_alike) = true := by decide +kernel
set_option maxRecDepth 100000 in
theorem km_d215_1 : ((km_c215.drop 30).take 30).all (km_okd cX9_alike) = true := by decide +kernel
set_option maxRecDepth 100000 in
theorem km_d215_2 : ((km_c215.drop 60).take 30).all (km_okd cX9_alike) = true := by decide +kernel
theorem km_d215 : km_okc km_q215 = true := km_dall (km_dstep km_d215_0 (km_dstep km_d215_1 (km_dlast (by decide +kernel) km_d215_2)))
set_option maxRecDepth 100000 in
theorem km_d216_0 : ((km_c216.drop 0).take 30).all (km_okd cX9_takeTurns) = true := by decide +kernel
set_option maxRecDepth 100000 in
theorem km_d216_1 : ((km_c216.drop 30).take 30).all (km_okd cX9_takeTurns) = true := by decide +kernel
theorem km_d216 : km_okc km_q216 = true := km_dall (km_dstep km_d216_0 (km_dlast (by decide +kernel) km_d216_1))
set_option maxRecDepth 100000 in
theorem km_d217_0 : ((km_c217.drop 0).take 30).all (km_okd cX9_count) = true := by decide +kernel
set_option maxRecDepth 100000 in
theorem km_d217_1 : ((km_c217.drop 30).take 30).all (km_okd cX9_count) = true := by decide +kernel
set_option maxRecDepth 100000 in
theorem km_d217_2 : ((km_c217.drop 60).take 30).all (km_okd cX9_count) = true := by decide +kernel
set_option maxRecDepth 100000 in
theorem km_d217_3 : ((km_c217.drop 90).take 30).all (km_okd cX9_count) = true := by decide +kernel
theorem km_d217 : km_okc km_q217 = true := km_dall (km_dstep km_d217_0 (km_dstep km_d217_1 (km_dstep km_d217_2 (km_dlast (by decide +kernel) km_d217_3))))
set_option maxRecDepth 100000 in
theorem km_d218_0 : ((km_c218.drop 0).take 30).all (km_okd cJ6_bitCount_0f7a4) = true := by decide +kernel
set_option maxRecDepth 100000 in
theorem km_d218_1 : ((km_c218.drop 30).take 30).all (km_okd cJ6_bitCount_0f7a4) = true := by decide +kernel
theorem km_d218 : km_okc km_q218 = true := km_dall (km_dstep km_d218_0 (km_dlast (by decide +kernel) km_d218_1))
set_option maxRecDepth 100000 in
theorem km_d219_0 : ((km_c219.drop 0).take 30).all (km_okd cJ9_floorMod_f86c9) = true := by decide +kernel
theorem km_d219 : km_okc km_q219 = true := km_dall (km_dlast (by decide +kernel) km_d219_0)
set_option maxRecDepth 100000 in
theorem km_d220_0 : ((km_c220.drop 0).take 30).all (km_okd cJ9_abs_067f4) = true := by decide +kernel
theorem km_d220 : km_okc km_q220 = true := km_dall (km_dlast (by decide +kernel) km_d220_0)
set_option maxRecDepth 100000 in
theorem km_d221_0 : ((km_c221.drop 0).take 30).all (km_okd cJ9_max_7cf53) = true := by decide +kernel
theorem km_d221 : km_okc km_q221 = true := km_dall (km_dlast (by decide +kernel) km_d221_0)
set_option maxRecDepth 100000 in
theorem km_d222_0 : ((km_c222.drop 0).take 30).all (km_okd cJ9_min_7cf53) = true := by decide +kernel
theorem km_d222 : km_okc km_q222 = true := km_dall (km_dlast (by decide +kernel) km_d222_0)
set_option maxRecDepth 100000 in
theorem km_d223_0 : ((km_c223.drop 0).take 30).all (km_okd cL_law) = true := by decide +kernel
set_option maxRecDepth 100000 in
theorem km_d223_1 : ((km_c223.drop 30).take 30).all (km_okd cL_law) = true := by decide +kernel
set_option maxRecDepth 100000 in
theorem km_d223_2 : ((km_c223.drop 60).take 30).all (km_okd cL_law) = true := by decide +kernel
set_option maxRecDepth 100000 in
theorem km_d223_3 : ((km_c223.drop 90).take 30).all (km_okd cL_law) = true := by decide +kernel
set_option maxRecDepth 100000 in
theorem km_d223_4 : ((km_c223.drop 120).take 30).all (km_okd cL_law) = true := by decide +kernel
set_option maxRecDepth 100000 in
theorem km_d223_5 : ((km_c223.drop 150).take 30).all (km_okd cL_law) = true := by decide +kernel
set_option maxRecDepth 100000 in
theorem km_d223_6 : ((km_c223.drop 180).take 30).all (km_okd cL_law) = true := by decide +kernel
set_option maxRecDepth 100000 in
theorem km_d223_7 : ((km_c223.drop 210).take 30).all (km_okd cL_law) = true := by decide +kernel
set_option maxRecDepth 100000 in
theorem km_d223_8 : ((km_c223.drop 240).take 30).all (km_okd cL_law) = true := by decide +kernel
set_option maxRecDepth 100000 in
theorem km_d223_9 : ((km_c223.drop 270).take 30).all (km_okd cL_law) = true := by decide +kernel
set_option maxRecDepth 100000 in
theorem km_d223_10 : ((km_c223.drop 300).take 30).all (km_okd cL_law) = true := by decide +kernel
set_option maxRecDepth 100000 in
theorem km_d223_11 : ((km_c223.drop 330).take 30).all (km_okd cL_law) = true := by decide +kernel
set_option maxRecDepth 100000 in
theorem km_d223_12 : ((km_c223.drop 360).take 30).all (km_okd cL_law) = true := by decide +kernel
set_option maxRecDepth 100000 in
theorem km_d223_13 : ((km_c223.drop 390).take 30).all (km_okd cL_law) = true := by decide +kernel
set_option maxRecDepth 100000 in
theorem km_d223_14 : ((km_c223.drop 420).take 30).all (km_okd cL_law) = true := by decide +kernel
set_option maxRecDepth 100000 in
theorem km_d223_15 : ((km_c223.drop 450).take 30).all (km_okd cL_law) = true := by decide +kernel
set_option maxRecDepth 100000 in
theorem km_d223_16 : ((km_c223.drop 480).take 30).all (km_okd cL_law) = true := by decide +kernel
set_option maxRecDepth 100000 in
theorem km_d223_17 : ((km_c223.drop 510).take 30).all (km_okd cL_law) = true := by decide +kernel
set_option maxRecDepth 100000 in
theorem km_d223_18 : ((km_c223.drop 540).take 30).all (km_okd cL_law) = true := by decide +kernel
theorem km_d223 : km_okc km_q223 = true := km_dall (km_dstep km_d223_0 (km_dstep km_d223_1 (km_dstep km_d223_2 (km_dstep km_d223_3 (km_dstep km_d223_4 (km_dstep km_d223_5 (km_dstep km_d223_6 (km_dstep km_d223_7 (km_dstep km_d223_8 (km_dstep km_d223_9 (km_dstep km_d223_10 (km_dstep km_d223_11 (km_dstep km_d223_12 (km_dstep km_d223_13 (km_dstep km_d223_14 (km_dstep km_d223_15 (km_dstep km_d223_16 (km_dstep km_d223_17 (km_dlast (by decide +kernel) km_d223_18)))))))))))))))))))
