set_option maxRecDepth 100000 in
theorem km_d0_0 : ((km_c0.drop 0).take 30).all (km_okd cX0_init) = true := by decide +kernel
theorem km_d0 : km_okc km_q0 = true := km_dall (km_dlast (by decide +kernel) km_d0_0)
set_option maxRecDepth 100000 in
theorem km_d1_0 : ((km_c1.drop 0).take 30).all (km_okd cX0_number) = true := by decide +kernel
set_option maxRecDepth 100000 in
theorem km_d1_1 : ((km_c1.drop 30).take 30).all (km_okd cX0_number) = true := by decide +kernel
set_option maxRecDepth 100000 in
theorem km_d1_2 : ((km_c1.drop 60).take 30).all (km_okd cX0_number) = true := by decide +kernel
theorem km_d1 : km_okc km_q1 = true := km_dall (km_dstep km_d1_0 (km_dstep km_d1_1 (km_dlast (by decide +kernel) km_d1_2)))
set_option maxRecDepth 100000 in
theorem km_d2_0 : ((km_c2.drop 0).take 30).all (km_okd cX0_fill) = true := by decide +kernel
theorem km_d2 : km_okc km_q2 = true := km_dall (km_dlast (by decide +kernel) km_d2_0)
set_option maxRecDepth 100000 in
theorem km_d3_0 : ((km_c3.drop 0).take 30).all (km_okd cX0_numberRing) = true := by decide +kernel
set_option maxRecDepth 100000 in
theorem km_d3_1 : ((km_c3.drop 30).take 30).all (km_okd cX0_numberRing) = true := by decide +kernel
theorem km_d3 : km_okc km_q3 = true := km_dall (km_dstep km_d3_0 (km_dlast (by decide +kernel) km_d3_1))
set_option maxRecDepth 100000 in
theorem km_d4_0 : ((km_c4.drop 0).take 30).all (km_okd cX0_writeRows) = true := by decide +kernel
set_option maxRecDepth 100000 in
theorem km_d4_1 : ((km_c4.drop 30).take 30).all (km_okd cX0_writeRows) = true := by decide +kernel
set_option maxRecDepth 100000 in
theorem km_d4_2 : ((km_c4.drop 60).take 30).all (km_okd cX0_writeRows) = true := by decide +kernel
theorem km_d4 : km_okc km_q4 = true := km_dall (km_dstep km_d4_0 (km_dstep km_d4_1 (km_dlast (by decide +kernel) km_d4_2)))
set_option maxRecDepth 100000 in
theorem km_d5_0 : ((km_c5.drop 0).take 30).all (km_okd cX0_determinant) = true := by decide +kernel
set_option maxRecDepth 100000 in
theorem km_d5_1 : ((km_c5.drop 30).take 30).all (km_okd cX0_determinant) = true := by decide +kernel
theorem km_d5 : km_okc km_q5 = true := km_dall (km_dstep km_d5_0 (km_dlast (by decide +kernel) km_d5_1))
set_option maxRecDepth 100000 in
theorem km_d6_0 : ((km_c6.drop 0).take 30).all (km_okd cX0_eliminated) = true := by decide +kernel
set_option maxRecDepth 100000 in
theorem km_d6_1 : ((km_c6.drop 30).take 30).all (km_okd cX0_eliminated) = true := by decide +kernel
set_option maxRecDepth 100000 in
theorem km_d6_2 : ((km_c6.drop 60).take 30).all (km_okd cX0_eliminated) = true := by decide +kernel
set_option maxRecDepth 100000 in
theorem km_d6_3 : ((km_c6.drop 90).take 30).all (km_okd cX0_eliminated) = true := by decide +kernel
theorem km_d6 : km_okc km_q6 = true := km_dall (km_dstep km_d6_0 (km_dstep km_d6_1 (km_dstep km_d6_2 (km_dlast (by decide +kernel) km_d6_3))))
set_option maxRecDepth 100000 in
theorem km_d7_0 : ((km_c7.drop 0).take 30).all (km_okd cX0_pivotRow) = true := by decide +kernel
theorem km_d7 : km_okc km_q7 = true := km_dall (km_dlast (by decide +kernel) km_d7_0)
set_option maxRecDepth 100000 in
theorem km_d8_0 : ((km_c8.drop 0).take 30).all (km_okd cX0_swapRows) = true := by decide +kernel
set_option maxRecDepth 100000 in
theorem km_d8_1 : ((km_c8.drop 30).take 30).all (km_okd cX0_swapRows) = true := by decide +kernel
theorem km_d8 : km_okc km_q8 = true := km_dall (km_dstep km_d8_0 (km_dlast (by decide +kernel) km_d8_1))
set_option maxRecDepth 100000 in
theorem km_d9_0 : ((km_c9.drop 0).take 30).all (km_okd cX0_colouringsBy) = true := by decide +kernel
set_option maxRecDepth 100000 in
theorem km_d9_1 : ((km_c9.drop 30).take 30).all (km_okd cX0_colouringsBy) = true := by decide +kernel
theorem km_d9 : km_okc km_q9 = true := km_dall (km_dstep km_d9_0 (km_dlast (by decide +kernel) km_d9_1))
set_option maxRecDepth 100000 in
theorem km_d10_0 : ((km_c10.drop 0).take 30).all (km_okd cX0_rank) = true := by decide +kernel
set_option maxRecDepth 100000 in
theorem km_d10_1 : ((km_c10.drop 30).take 30).all (km_okd cX0_rank) = true := by decide +kernel
theorem km_d10 : km_okc km_q10 = true := km_dall (km_dstep km_d10_0 (km_dlast (by decide +kernel) km_d10_1))
set_option maxRecDepth 100000 in
theorem km_d11_0 : ((km_c11.drop 0).take 30).all (km_okd cX0_clear) = true := by decide +kernel
set_option maxRecDepth 100000 in
theorem km_d11_1 : ((km_c11.drop 30).take 30).all (km_okd cX0_clear) = true := by decide +kernel
theorem km_d11 : km_okc km_q11 = true := km_dall (km_dstep km_d11_0 (km_dlast (by decide +kernel) km_d11_1))
set_option maxRecDepth 100000 in
theorem km_d12_0 : ((km_c12.drop 0).take 30).all (km_okd cX1_init) = true := by decide +kernel
theorem km_d12 : km_okc km_q12 = true := km_dall (km_dlast (by decide +kernel) km_d12_0)
set_option maxRecDepth 100000 in
theorem km_d13_0 : ((km_c13.drop 0).take 30).all (km_okd cX1_addUp) = true := by decide +kernel
set_option maxRecDepth 100000 in
theorem km_d13_1 : ((km_c13.drop 30).take 30).all (km_okd cX1_addUp) = true := by decide +kernel
set_option maxRecDepth 100000 in
theorem km_d13_2 : ((km_c13.drop 60).take 30).all (km_okd cX1_addUp) = true := by decide +kernel
theorem km_d13 : km_okc km_q13 = true := km_dall (km_dstep km_d13_0 (km_dstep km_d13_1 (km_dlast (by decide +kernel) km_d13_2)))
set_option maxRecDepth 100000 in
theorem km_d14_0 : ((km_c14.drop 0).take 30).all (km_okd cX1_tallyStates) = true := by decide +kernel
set_option maxRecDepth 100000 in
theorem km_d14_1 : ((km_c14.drop 30).take 30).all (km_okd cX1_tallyStates) = true := by decide +kernel
theorem km_d14 : km_okc km_q14 = true := km_dall (km_dstep km_d14_0 (km_dlast (by decide +kernel) km_d14_1))
set_option maxRecDepth 100000 in
theorem km_d15_0 : ((km_c15.drop 0).take 30).all (km_okd cX1_addPower) = true := by decide +kernel
set_option maxRecDepth 100000 in
theorem km_d15_1 : ((km_c15.drop 30).take 30).all (km_okd cX1_addPower) = true := by decide +kernel
theorem km_d15 : km_okc km_q15 = true := km_dall (km_dstep km_d15_0 (km_dlast (by decide +kernel) km_d15_1))
set_option maxRecDepth 100000 in
theorem km_d16_0 : ((km_c16.drop 0).take 30).all (km_okd cX1_at) = true := by decide +kernel
theorem km_d16 : km_okc km_q16 = true := km_dall (km_dlast (by decide +kernel) km_d16_0)
set_option maxRecDepth 100000 in
theorem km_d17_0 : ((km_c17.drop 0).take 30).all (km_okd cX1_knottedAt) = true := by decide +kernel
theorem km_d17 : km_okc km_q17 = true := km_dall (km_dlast (by decide +kernel) km_d17_0)
set_option maxRecDepth 100000 in
theorem km_d18_0 : ((km_c18.drop 0).take 30).all (km_okd cX1_knottedAlike) = true := by decide +kernel
theorem km_d18 : km_okc km_q18 = true := km_dall (km_dlast (by decide +kernel) km_d18_0)
set_option maxRecDepth 100000 in
theorem km_d19_0 : ((km_c19.drop 0).take 30).all (km_okd cX1_span) = true := by decide +kernel
set_option maxRecDepth 100000 in
theorem km_d19_1 : ((km_c19.drop 30).take 30).all (km_okd cX1_span) = true := by decide +kernel
theorem km_d19 : km_okc km_q19 = true := km_dall (km_dstep km_d19_0 (km_dlast (by decide +kernel) km_d19_1))
set_option maxRecDepth 100000 in
theorem km_d20_0 : ((km_c20.drop 0).take 30).all (km_okd cX2_init) = true := by decide +kernel
set_option maxRecDepth 100000 in
theorem km_d20_1 : ((km_c20.drop 30).take 30).all (km_okd cX2_init) = true := by decide +kernel
theorem km_d20 : km_okc km_q20 = true := km_dall (km_dstep km_d20_0 (km_dlast (by decide +kernel) km_d20_1))
set_option maxRecDepth 100000 in
theorem km_d21_0 : ((km_c21.drop 0).take 30).all (km_okd cX2_trace) = true := by decide +kernel
theorem km_d21 : km_okc km_q21 = true := km_dall (km_dlast (by decide +kernel) km_d21_0)
set_option maxRecDepth 100000 in
theorem km_d22_0 : ((km_c22.drop 0).take 30).all (km_okd cX2_joinPasses) = true := by decide +kernel
set_option maxRecDepth 100000 in
theorem km_d22_1 : ((km_c22.drop 30).take 30).all (km_okd cX2_joinPasses) = true := by decide +kernel
theorem km_d22 : km_okc km_q22 = true := km_dall (km_dstep km_d22_0 (km_dlast (by decide +kernel) km_d22_1))
set_option maxRecDepth 100000 in
theorem km_d23_0 : ((km_c23.drop 0).take 30).all (km_okd cX2_joinEnds) = true := by decide +kernel
set_option maxRecDepth 100000 in
theorem km_d23_1 : ((km_c23.drop 30).take 30).all (km_okd cX2_joinEnds) = true := by decide +kernel
set_option maxRecDepth 100000 in
theorem km_d23_2 : ((km_c23.drop 60).take 30).all (km_okd cX2_joinEnds) = true := by decide +kernel
theorem km_d23 : km_okc km_q23 = true := km_dall (km_dstep km_d23_0 (km_dstep km_d23_1 (km_dlast (by decide +kernel) km_d23_2)))
set_option maxRecDepth 100000 in
theorem km_d24_0 : ((km_c24.drop 0).take 30).all (km_okd cX2_joinEnd) = true := by decide +kernel
theorem km_d24 : km_okc km_q24 = true := km_dall (km_dlast (by decide +kernel) km_d24_0)
set_option maxRecDepth 100000 in
theorem km_d25_0 : ((km_c25.drop 0).take 30).all (km_okd cX2_walkFaces) = true := by decide +kernel
set_option maxRecDepth 100000 in
theorem km_d25_1 : ((km_c25.drop 30).take 30).all (km_okd cX2_walkFaces) = true := by decide +kernel
set_option maxRecDepth 100000 in
theorem km_d25_2 : ((km_c25.drop 60).take 30).all (km_okd cX2_walkFaces) = true := by decide +kernel
theorem km_d25 : km_okc km_q25 = true := km_dall (km_dstep km_d25_0 (km_dstep km_d25_1 (km_dlast (by decide +kernel) km_d25_2)))
set_option maxRecDepth 100000 in
theorem km_d26_0 : ((km_c26.drop 0).take 30).all (km_okd cX2_judged) = true := by decide +kernel
set_option maxRecDepth 100000 in
theorem km_d26_1 : ((km_c26.drop 30).take 30).all (km_okd cX2_judged) = true := by decide +kernel
set_option maxRecDepth 100000 in
theorem km_d26_2 : ((km_c26.drop 60).take 30).all (km_okd cX2_judged) = true := by decide +kernel
theorem km_d26 : km_okc km_q26 = true := km_dall (km_dstep km_d26_0 (km_dstep km_d26_1 (km_dlast (by decide +kernel) km_d26_2)))
set_option maxRecDepth 100000 in
theorem km_d27_0 : ((km_c27.drop 0).take 30).all (km_okd cX2_corners) = true := by decide +kernel
theorem km_d27 : km_okc km_q27 = true := km_dall (km_dlast (by decide +kernel) km_d27_0)
set_option maxRecDepth 100000 in
theorem km_d28_0 : ((km_c28.drop 0).take 30).all (km_okd cX2_crossingsAt) = true := by decide +kernel
set_option maxRecDepth 100000 in
theorem km_d28_1 : ((km_c28.drop 30).take 30).all (km_okd cX2_crossingsAt) = true := by decide +kernel
theorem km_d28 : km_okc km_q28 = true := km_dall (km_dstep km_d28_0 (km_dlast (by decide +kernel) km_d28_1))
set_option maxRecDepth 100000 in
theorem km_d29_0 : ((km_c29.drop 0).take 30).all (km_okd cX2_edgeAt) = true := by decide +kernel
theorem km_d29 : km_okc km_q29 = true := km_dall (km_dlast (by decide +kernel) km_d29_0)
set_option maxRecDepth 100000 in
theorem km_d30_0 : ((km_c30.drop 0).take 30).all (km_okd cX2_facesOfKind) = true := by decide +kernel
theorem km_d30 : km_okc km_q30 = true := km_dall (km_dlast (by decide +kernel) km_d30_0)
set_option maxRecDepth 100000 in
theorem km_d31_0 : ((km_c31.drop 0).take 30).all (km_okd cX2_firstToGo) = true := by decide +kernel
set_option maxRecDepth 100000 in
theorem km_d31_1 : ((km_c31.drop 30).take 30).all (km_okd cX2_firstToGo) = true := by decide +kernel
theorem km_d31 : km_okc km_q31 = true := km_dall (km_dstep km_d31_0 (km_dlast (by decide +kernel) km_d31_1))
set_option maxRecDepth 100000 in
theorem km_d32_0 : ((km_c32.drop 0).take 30).all (km_okd cX2_partsOf) = true := by decide +kernel
set_option maxRecDepth 100000 in
theorem km_d32_1 : ((km_c32.drop 30).take 30).all (km_okd cX2_partsOf) = true := by decide +kernel
theorem km_d32 : km_okc km_q32 = true := km_dall (km_dstep km_d32_0 (km_dlast (by decide +kernel) km_d32_1))
set_option maxRecDepth 100000 in
theorem km_d33_0 : ((km_c33.drop 0).take 30).all (km_okd cX2_partWith) = true := by decide +kernel
set_option maxRecDepth 100000 in
theorem km_d33_1 : ((km_c33.drop 30).take 30).all (km_okd cX2_partWith) = true := by decide +kernel
theorem km_d33 : km_okc km_q33 = true := km_dall (km_dstep km_d33_0 (km_dlast (by decide +kernel) km_d33_1))
set_option maxRecDepth 100000 in
theorem km_d34_0 : ((km_c34.drop 0).take 30).all (km_okd cX2_isPlane) = true := by decide +kernel
theorem km_d34 : km_okc km_q34 = true := km_dall (km_dlast (by decide +kernel) km_d34_0)
set_option maxRecDepth 100000 in
theorem km_d35_0 : ((km_c35.drop 0).take 30).all (km_okd cX2_loopsOf) = true := by decide +kernel
set_option maxRecDepth 100000 in
theorem km_d35_1 : ((km_c35.drop 30).take 30).all (km_okd cX2_loopsOf) = true := by decide +kernel
set_option maxRecDepth 100000 in
theorem km_d35_2 : ((km_c35.drop 60).take 30).all (km_okd cX2_loopsOf) = true := by decide +kernel
theorem km_d35 : km_okc km_q35 = true := km_dall (km_dstep km_d35_0 (km_dstep km_d35_1 (km_dlast (by decide +kernel) km_d35_2)))
set_option maxRecDepth 100000 in
theorem km_d36_0 : ((km_c36.drop 0).take 30).all (km_okd cX3_init) = true := by decide +kernel
theorem km_d36 : km_okc km_q36 = true := km_dall (km_dlast (by decide +kernel) km_d36_0)
set_option maxRecDepth 100000 in
theorem km_d37_0 : ((km_c37.drop 0).take 30).all (km_okd cX3_forget) = true := by decide +kernel
theorem km_d37 : km_okc km_q37 = true := km_dall (km_dlast (by decide +kernel) km_d37_0)
set_option maxRecDepth 100000 in
theorem km_d38_0 : ((km_c38.drop 0).take 30).all (km_okd cX3_keep) = true := by decide +kernel
theorem km_d38 : km_okc km_q38 = true := km_dall (km_dlast (by decide +kernel) km_d38_0)
set_option maxRecDepth 100000 in
theorem km_d39_0 : ((km_c39.drop 0).take 30).all (km_okd cX3_bringBack) = true := by decide +kernel
set_option maxRecDepth 100000 in
theorem km_d39_1 : ((km_c39.drop 30).take 30).all (km_okd cX3_bringBack) = true := by decide +kernel
theorem km_d39 : km_okc km_q39 = true := km_dall (km_dstep km_d39_0 (km_dlast (by decide +kernel) km_d39_1))
set_option maxRecDepth 100000 in
theorem km_d40_0 : ((km_c40.drop 0).take 30).all (km_okd cX4_init) = true := by decide +kernel
set_option maxRecDepth 100000 in
theorem km_d40_1 : ((km_c40.drop 30).take 30).all (km_okd cX4_init) = true := by decide +kernel
theorem km_d40 : km_okc km_q40 = true := km_dall (km_dstep km_d40_0 (km_dlast (by decide +kernel) km_d40_1))
set_option maxRecDepth 100000 in
theorem km_d41_0 : ((km_c41.drop 0).take 30).all (km_okd cX4_reads) = true := by decide +kernel
set_option maxRecDepth 100000 in
theorem km_d41_1 : ((km_c41.drop 30).take 30).all (km_okd cX4_reads) = true := by decide +kernel
theorem km_d41 : km_okc km_q41 = true := km_dall (km_dstep km_d41_0 (km_dlast (by decide +kernel) km_d41_1))
set_option maxRecDepth 100000 in
theorem km_d42_0 : ((km_c42.drop 0).take 30).all (km_okd cX4_fails) = true := by decide +kernel
theorem km_d42 : km_okc km_q42 = true := km_dall (km_dlast (by decide +kernel) km_d42_0)
set_option maxRecDepth 100000 in
theorem km_d43_0 : ((km_c43.drop 0).take 30).all (km_okd cX4_takesTokens) = true := by decide +kernel
set_option maxRecDepth 100000 in
theorem km_d43_1 : ((km_c43.drop 30).take 30).all (km_okd cX4_takesTokens) = true := by decide +kernel
set_option maxRecDepth 100000 in
theorem km_d43_2 : ((km_c43.drop 60).take 30).all (km_okd cX4_takesTokens) = true := by decide +kernel
theorem km_d43 : km_okc km_q43 = true := km_dall (km_dstep km_d43_0 (km_dstep km_d43_1 (km_dlast (by decide +kernel) km_d43_2)))
set_option maxRecDepth 100000 in
theorem km_d44_0 : ((km_c44.drop 0).take 30).all (km_okd cX4_stateBehind) = true := by decide +kernel
set_option maxRecDepth 100000 in
theorem km_d44_1 : ((km_c44.drop 30).take 30).all (km_okd cX4_stateBehind) = true := by decide +kernel
set_option maxRecDepth 100000 in
theorem km_d44_2 : ((km_c44.drop 60).take 30).all (km_okd cX4_stateBehind) = true := by decide +kernel
theorem km_d44 : km_okc km_q44 = true := km_dall (km_dstep km_d44_0 (km_dstep km_d44_1 (km_dlast (by decide +kernel) km_d44_2)))
set_option maxRecDepth 100000 in
theorem km_d45_0 : ((km_c45.drop 0).take 30).all (km_okd cX4_takes) = true := by decide +kernel
set_option maxRecDepth 100000 in
theorem km_d45_1 : ((km_c45.drop 30).take 30).all (km_okd cX4_takes) = true := by decide +kernel
theorem km_d45 : km_okc km_q45 = true := km_dall (km_dstep km_d45_0 (km_dlast (by decide +kernel) km_d45_1))
set_option maxRecDepth 100000 in
theorem km_d46_0 : ((km_c46.drop 0).take 30).all (km_okd cX4_takesRing) = true := by decide +kernel
theorem km_d46 : km_okc km_q46 = true := km_dall (km_dlast (by decide +kernel) km_d46_0)
set_option maxRecDepth 100000 in
theorem km_d47_0 : ((km_c47.drop 0).take 30).all (km_okd cX4_takesSign) = true := by decide +kernel
theorem km_d47 : km_okc km_q47 = true := km_dall (km_dlast (by decide +kernel) km_d47_0)
set_option maxRecDepth 100000 in
theorem km_d48_0 : ((km_c48.drop 0).take 30).all (km_okd cX4_takesInt) = true := by decide +kernel
set_option maxRecDepth 100000 in
theorem km_d48_1 : ((km_c48.drop 30).take 30).all (km_okd cX4_takesInt) = true := by decide +kernel
set_option maxRecDepth 100000 in
theorem km_d48_2 : ((km_c48.drop 60).take 30).all (km_okd cX4_takesInt) = true := by decide +kernel
theorem km_d48 : km_okc km_q48 = true := km_dall (km_dstep km_d48_0 (km_dstep km_d48_1 (km_dlast (by decide +kernel) km_d48_2)))
set_option maxRecDepth 100000 in
theorem km_d49_0 : ((km_c49.drop 0).take 30).all (km_okd cX4_takesNumber) = true := by decide +kernel
set_option maxRecDepth 100000 in
theorem km_d49_1 : ((km_c49.drop 30).take 30).all (km_okd cX4_takesNumber) = true := by decide +kernel
theorem km_d49 : km_okc km_q49 = true := km_dall (km_dstep km_d49_0 (km_dlast (by decide +kernel) km_d49_1))
set_option maxRecDepth 100000 in
theorem km_d50_0 : ((km_c50.drop 0).take 30).all (km_okd cX4_ringsStand) = true := by decide +kernel
set_option maxRecDepth 100000 in
theorem km_d50_1 : ((km_c50.drop 30).take 30).all (km_okd cX4_ringsStand) = true := by decide +kernel
set_option maxRecDepth 100000 in
theorem km_d50_2 : ((km_c50.drop 60).take 30).all (km_okd cX4_ringsStand) = true := by decide +kernel
set_option maxRecDepth 100000 in
theorem km_d50_3 : ((km_c50.drop 90).take 30).all (km_okd cX4_ringsStand) = true := by decide +kernel
theorem km_d50 : km_okc km_q50 = true := km_dall (km_dstep km_d50_0 (km_dstep km_d50_1 (km_dstep km_d50_2 (km_dlast (by decide +kernel) km_d50_3))))
set_option maxRecDepth 100000 in
theorem km_d51_0 : ((km_c51.drop 0).take 30).all (km_okd cX4_isPartner) = true := by decide +kernel
theorem km_d51 : km_okc km_q51 = true := km_dall (km_dlast (by decide +kernel) km_d51_0)
set_option maxRecDepth 100000 in
theorem km_d52_0 : ((km_c52.drop 0).take 30).all (km_okd cX4_string) = true := by decide +kernel
set_option maxRecDepth 100000 in
theorem km_d52_1 : ((km_c52.drop 30).take 30).all (km_okd cX4_string) = true := by decide +kernel
set_option maxRecDepth 100000 in
theorem km_d52_2 : ((km_c52.drop 60).take 30).all (km_okd cX4_string) = true := by decide +kernel
theorem km_d52 : km_okc km_q52 = true := km_dall (km_dstep km_d52_0 (km_dstep km_d52_1 (km_dlast (by decide +kernel) km_d52_2)))
set_option maxRecDepth 100000 in
theorem km_d53_0 : ((km_c53.drop 0).take 30).all (km_okd cX4_braidStands) = true := by decide +kernel
set_option maxRecDepth 100000 in
theorem km_d53_1 : ((km_c53.drop 30).take 30).all (km_okd cX4_braidStands) = true := by decide +kernel
theorem km_d53 : km_okc km_q53 = true := km_dall (km_dstep km_d53_0 (km_dlast (by decide +kernel) km_d53_1))
set_option maxRecDepth 100000 in
theorem km_d54_0 : ((km_c54.drop 0).take 30).all (km_okd cX4_weave) = true := by decide +kernel
set_option maxRecDepth 100000 in
theorem km_d54_1 : ((km_c54.drop 30).take 30).all (km_okd cX4_weave) = true := by decide +kernel
set_option maxRecDepth 100000 in
theorem km_d54_2 : ((km_c54.drop 60).take 30).all (km_okd cX4_weave) = true := by decide +kernel
set_option maxRecDepth 100000 in
theorem km_d54_3 : ((km_c54.drop 90).take 30).all (km_okd cX4_weave) = true := by decide +kernel
set_option maxRecDepth 100000 in
theorem km_d54_4 : ((km_c54.drop 120).take 30).all (km_okd cX4_weave) = true := by decide +kernel
theorem km_d54 : km_okc km_q54 = true := km_dall (km_dstep km_d54_0 (km_dstep km_d54_1 (km_dstep km_d54_2 (km_dstep km_d54_3 (km_dlast (by decide +kernel) km_d54_4)))))
set_option maxRecDepth 100000 in
theorem km_d55_0 : ((km_c55.drop 0).take 30).all (km_okd cX4_placeBehind) = true := by decide +kernel
theorem km_d55 : km_okc km_q55 = true := km_dall (km_dlast (by decide +kernel) km_d55_0)
set_option maxRecDepth 100000 in
theorem km_d56_0 : ((km_c56.drop 0).take 30).all (km_okd cX5_init) = true := by decide +kernel
theorem km_d56 : km_okc km_q56 = true := km_dall (km_dlast (by decide +kernel) km_d56_0)
set_option maxRecDepth 100000 in
theorem km_d57_0 : ((km_c57.drop 0).take 30).all (km_okd cX5_copy) = true := by decide +kernel
set_option maxRecDepth 100000 in
theorem km_d57_1 : ((km_c57.drop 30).take 30).all (km_okd cX5_copy) = true := by decide +kernel
theorem km_d57 : km_okc km_q57 = true := km_dall (km_dstep km_d57_0 (km_dlast (by decide +kernel) km_d57_1))
set_option maxRecDepth 100000 in
theorem km_d58_0 : ((km_c58.drop 0).take 30).all (km_okd cX5_same) = true := by decide +kernel
set_option maxRecDepth 100000 in
theorem km_d58_1 : ((km_c58.drop 30).take 30).all (km_okd cX5_same) = true := by decide +kernel
set_option maxRecDepth 100000 in
theorem km_d58_2 : ((km_c58.drop 60).take 30).all (km_okd cX5_same) = true := by decide +kernel
theorem km_d58 : km_okc km_q58 = true := km_dall (km_dstep km_d58_0 (km_dstep km_d58_1 (km_dlast (by decide +kernel) km_d58_2)))
set_option maxRecDepth 100000 in
theorem km_d59_0 : ((km_c59.drop 0).take 30).all (km_okd cX5_edges) = true := by decide +kernel
theorem km_d59 : km_okc km_q59 = true := km_dall (km_dlast (by decide +kernel) km_d59_0)
set_option maxRecDepth 100000 in
theorem km_d60_0 : ((km_c60.drop 0).take 30).all (km_okd cX5_allCrossings) = true := by decide +kernel
theorem km_d60 : km_okc km_q60 = true := km_dall (km_dlast (by decide +kernel) km_d60_0)
set_option maxRecDepth 100000 in
theorem km_d61_0 : ((km_c61.drop 0).take 30).all (km_okd cX5_crossingOf) = true := by decide +kernel
theorem km_d61 : km_okc km_q61 = true := km_dall (km_dlast (by decide +kernel) km_d61_0)
set_option maxRecDepth 100000 in
theorem km_d62_0 : ((km_c62.drop 0).take 30).all (km_okd cX5_isOver) = true := by decide +kernel
theorem km_d62 : km_okc km_q62 = true := km_dall (km_dlast (by decide +kernel) km_d62_0)
set_option maxRecDepth 100000 in
theorem km_d63_0 : ((km_c63.drop 0).take 30).all (km_okd cX5_writhe) = true := by decide +kernel
theorem km_d63 : km_okc km_q63 = true := km_dall (km_dlast (by decide +kernel) km_d63_0)
set_option maxRecDepth 100000 in
theorem km_d64_0 : ((km_c64.drop 0).take 30).all (km_okd cX5_looseRings) = true := by decide +kernel
theorem km_d64 : km_okc km_q64 = true := km_dall (km_dlast (by decide +kernel) km_d64_0)
set_option maxRecDepth 100000 in
theorem km_d65_0 : ((km_c65.drop 0).take 30).all (km_okd cX5_takesTurns) = true := by decide +kernel
set_option maxRecDepth 100000 in
theorem km_d65_1 : ((km_c65.drop 30).take 30).all (km_okd cX5_takesTurns) = true := by decide +kernel
theorem km_d65 : km_okc km_q65 = true := km_dall (km_dstep km_d65_0 (km_dlast (by decide +kernel) km_d65_1))
set_option maxRecDepth 100000 in
theorem km_d66_0 : ((km_c66.drop 0).take 30).all (km_okd cX5_turnOver) = true := by decide +kernel
set_option maxRecDepth 100000 in
theorem km_d66_1 : ((km_c66.drop 30).take 30).all (km_okd cX5_turnOver) = true := by decide +kernel
theorem km_d66 : km_okc km_q66 = true := km_dall (km_dstep km_d66_0 (km_dlast (by decide +kernel) km_d66_1))
set_option maxRecDepth 100000 in
theorem km_d67_0 : ((km_c67.drop 0).take 30).all (km_okd cX5_reverse) = true := by decide +kernel
set_option maxRecDepth 100000 in
theorem km_d67_1 : ((km_c67.drop 30).take 30).all (km_okd cX5_reverse) = true := by decide +kernel
set_option maxRecDepth 100000 in
theorem km_d67_2 : ((km_c67.drop 60).take 30).all (km_okd cX5_reverse) = true := by decide +kernel
theorem km_d67 : km_okc km_q67 = true := km_dall (km_dstep km_d67_0 (km_dstep km_d67_1 (km_dlast (by decide +kernel) km_d67_2)))
set_option maxRecDepth 100000 in
theorem km_d68_0 : ((km_c68.drop 0).take 30).all (km_okd cX5_exchange) = true := by decide +kernel
theorem km_d68 : km_okc km_q68 = true := km_dall (km_dlast (by decide +kernel) km_d68_0)
set_option maxRecDepth 100000 in
theorem km_d69_0 : ((km_c69.drop 0).take 30).all (km_okd cX5_swap) = true := by decide +kernel
theorem km_d69 : km_okc km_q69 = true := km_dall (km_dlast (by decide +kernel) km_d69_0)
set_option maxRecDepth 100000 in
theorem km_d70_0 : ((km_c70.drop 0).take 30).all (km_okd cX5_curl) = true := by decide +kernel
set_option maxRecDepth 100000 in
theorem km_d70_1 : ((km_c70.drop 30).take 30).all (km_okd cX5_curl) = true := by decide +kernel
set_option maxRecDepth 100000 in
theorem km_d70_2 : ((km_c70.drop 60).take 30).all (km_okd cX5_curl) = true := by decide +kernel
set_option maxRecDepth 100000 in
theorem km_d70_3 : ((km_c70.drop 90).take 30).all (km_okd cX5_curl) = true := by decide +kernel
theorem km_d70 : km_okc km_q70 = true := km_dall (km_dstep km_d70_0 (km_dstep km_d70_1 (km_dstep km_d70_2 (km_dlast (by decide +kernel) km_d70_3))))
set_option maxRecDepth 100000 in
theorem km_d71_0 : ((km_c71.drop 0).take 30).all (km_okd cX5_drop) = true := by decide +kernel
set_option maxRecDepth 100000 in
theorem km_d71_1 : ((km_c71.drop 30).take 30).all (km_okd cX5_drop) = true := by decide +kernel
set_option maxRecDepth 100000 in
theorem km_d71_2 : ((km_c71.drop 60).take 30).all (km_okd cX5_drop) = true := by decide +kernel
set_option maxRecDepth 100000 in
theorem km_d71_3 : ((km_c71.drop 90).take 30).all (km_okd cX5_drop) = true := by decide +kernel
theorem km_d71 : km_okc km_q71 = true := km_dall (km_dstep km_d71_0 (km_dstep km_d71_1 (km_dstep km_d71_2 (km_dlast (by decide +kernel) km_d71_3))))
set_option maxRecDepth 100000 in
theorem km_d72_0 : ((km_c72.drop 0).take 30).all (km_okd cX5_goneAhead) = true := by decide +kernel
theorem km_d72 : km_okc km_q72 = true := km_dall (km_dlast (by decide +kernel) km_d72_0)
set_option maxRecDepth 100000 in
theorem km_d73_0 : ((km_c73.drop 0).take 30).all (km_okd cX5_shed) = true := by decide +kernel
set_option maxRecDepth 100000 in
theorem km_d73_1 : ((km_c73.drop 30).take 30).all (km_okd cX5_shed) = true := by decide +kernel
theorem km_d73 : km_okc km_q73 = true := km_dall (km_dstep km_d73_0 (km_dlast (by decide +kernel) km_d73_1))
set_option maxRecDepth 100000 in
theorem km_d74_0 : ((km_c74.drop 0).take 30).all (km_okd cX5_canTake) = true := by decide +kernel
theorem km_d74 : km_okc km_q74 = true := km_dall (km_dlast (by decide +kernel) km_d74_0)
set_option maxRecDepth 100000 in
theorem km_d75_0 : ((km_c75.drop 0).take 30).all (km_okd cX5_take) = true := by decide +kernel
set_option maxRecDepth 100000 in
theorem km_d75_1 : ((km_c75.drop 30).take 30).all (km_okd cX5_take) = true := by decide +kernel
set_option maxRecDepth 100000 in
theorem km_d75_2 : ((km_c75.drop 60).take 30).all (km_okd cX5_take) = true := by decide +kernel
set_option maxRecDepth 100000 in
theorem km_d75_3 : ((km_c75.drop 90).take 30).all (km_okd cX5_take) = true := by decide +kernel
set_option maxRecDepth 100000 in
theorem km_d75_4 : ((km_c75.drop 120).take 30).all (km_okd cX5_take) = true := by decide +kernel
theorem km_d75 : km_okc km_q75 = true := km_dall (km_dstep km_d75_0 (km_dstep km_d75_1 (km_dstep km_d75_2 (km_dstep km_d75_3 (km_dlast (by decide +kernel) km_d75_4)))))
set_option maxRecDepth 100000 in
theorem km_d76_0 : ((km_c76.drop 0).take 30).all (km_okd cX6_init) = true := by decide +kernel
set_option maxRecDepth 100000 in
theorem km_d76_1 : ((km_c76.drop 30).take 30).all (km_okd cX6_init) = true := by decide +kernel
theorem km_d76 : km_okc km_q76 = true := km_dall (km_dstep km_d76_0 (km_dlast (by decide +kernel) km_d76_1))
set_option maxRecDepth 100000 in
theorem km_d77_0 : ((km_c77.drop 0).take 30).all (km_okd cX6_reachFewer) = true := by decide +kernel
theorem km_d77 : km_okc km_q77 = true := km_dall (km_dlast (by decide +kernel) km_d77_0)
set_option maxRecDepth 100000 in
theorem km_d78_0 : ((km_c78.drop 0).take 30).all (km_okd cX6_finds) = true := by decide +kernel
set_option maxRecDepth 100000 in
theorem km_d78_1 : ((km_c78.drop 30).take 30).all (km_okd cX6_finds) = true := by decide +kernel
set_option maxRecDepth 100000 in
theorem km_d78_2 : ((km_c78.drop 60).take 30).all (km_okd cX6_finds) = true := by decide +kernel
theorem km_d78 : km_okc km_q78 = true := km_dall (km_dstep km_d78_0 (km_dstep km_d78_1 (km_dlast (by decide +kernel) km_d78_2)))
set_option maxRecDepth 100000 in
theorem km_d79_0 : ((km_c79.drop 0).take 30).all (km_okd cX7_init) = true := by decide +kernel
theorem km_d79 : km_okc km_q79 = true := km_dall (km_dlast (by decide +kernel) km_d79_0)
