set_option maxRecDepth 100000 in
theorem km_d80_0 : ((km_c80.drop 0).take 30).all (km_okd cX7_put) = true := by decide +kernel
theorem km_d80 : km_okc km_q80 = true := km_dall (km_dlast (by decide +kernel) km_d80_0)
set_option maxRecDepth 100000 in
theorem km_d81_0 : ((km_c81.drop 0).take 30).all (km_okd cX7_begin) = true := by decide +kernel
theorem km_d81 : km_okc km_q81 = true := km_dall (km_dlast (by decide +kernel) km_d81_0)
set_option maxRecDepth 100000 in
theorem km_d82_0 : ((km_c82.drop 0).take 30).all (km_okd cX7_step) = true := by decide +kernel
set_option maxRecDepth 100000 in
theorem km_d82_1 : ((km_c82.drop 30).take 30).all (km_okd cX7_step) = true := by decide +kernel
set_option maxRecDepth 100000 in
theorem km_d82_2 : ((km_c82.drop 60).take 30).all (km_okd cX7_step) = true := by decide +kernel
theorem km_d82 : km_okc km_q82 = true := km_dall (km_dstep km_d82_0 (km_dstep km_d82_1 (km_dlast (by decide +kernel) km_d82_2)))
set_option maxRecDepth 100000 in
theorem km_d83_0 : ((km_c83.drop 0).take 30).all (km_okd cX7_stepWord) = true := by decide +kernel
set_option maxRecDepth 100000 in
theorem km_d83_1 : ((km_c83.drop 30).take 30).all (km_okd cX7_stepWord) = true := by decide +kernel
theorem km_d83 : km_okc km_q83 = true := km_dall (km_dstep km_d83_0 (km_dlast (by decide +kernel) km_d83_1))
set_option maxRecDepth 100000 in
theorem km_d84_0 : ((km_c84.drop 0).take 30).all (km_okd cX7_spells) = true := by decide +kernel
set_option maxRecDepth 100000 in
theorem km_d84_1 : ((km_c84.drop 30).take 30).all (km_okd cX7_spells) = true := by decide +kernel
theorem km_d84 : km_okc km_q84 = true := km_dall (km_dstep km_d84_0 (km_dlast (by decide +kernel) km_d84_1))
set_option maxRecDepth 100000 in
theorem km_d85_0 : ((km_c85.drop 0).take 30).all (km_okd cX7_stepInt) = true := by decide +kernel
set_option maxRecDepth 100000 in
theorem km_d85_1 : ((km_c85.drop 30).take 30).all (km_okd cX7_stepInt) = true := by decide +kernel
theorem km_d85 : km_okc km_q85 = true := km_dall (km_dstep km_d85_0 (km_dlast (by decide +kernel) km_d85_1))
set_option maxRecDepth 100000 in
theorem km_d86_0 : ((km_c86.drop 0).take 30).all (km_okd cX7_byteAt) = true := by decide +kernel
theorem km_d86 : km_okc km_q86 = true := km_dall (km_dlast (by decide +kernel) km_d86_0)
set_option maxRecDepth 100000 in
theorem km_d87_0 : ((km_c87.drop 0).take 30).all (km_okd cX7_isBlank) = true := by decide +kernel
theorem km_d87 : km_okc km_q87 = true := km_dall (km_dlast (by decide +kernel) km_d87_0)
set_option maxRecDepth 100000 in
theorem km_d88_0 : ((km_c88.drop 0).take 30).all (km_okd cX7_isLetter) = true := by decide +kernel
theorem km_d88 : km_okc km_q88 = true := km_dall (km_dlast (by decide +kernel) km_d88_0)
set_option maxRecDepth 100000 in
theorem km_d89_0 : ((km_c89.drop 0).take 30).all (km_okd cX7_isDigit) = true := by decide +kernel
theorem km_d89 : km_okc km_q89 = true := km_dall (km_dlast (by decide +kernel) km_d89_0)
set_option maxRecDepth 100000 in
theorem km_d90_0 : ((km_c90.drop 0).take 30).all (km_okd cX8_init) = true := by decide +kernel
set_option maxRecDepth 100000 in
theorem km_d90_1 : ((km_c90.drop 30).take 30).all (km_okd cX8_init) = true := by decide +kernel
set_option maxRecDepth 100000 in
theorem km_d90_2 : ((km_c90.drop 60).take 30).all (km_okd cX8_init) = true := by decide +kernel
theorem km_d90 : km_okc km_q90 = true := km_dall (km_dstep km_d90_0 (km_dstep km_d90_1 (km_dlast (by decide +kernel) km_d90_2)))
set_option maxRecDepth 100000 in
theorem km_d91_0 : ((km_c91.drop 0).take 30).all (km_okd cX8_feed) = true := by decide +kernel
set_option maxRecDepth 100000 in
theorem km_d91_1 : ((km_c91.drop 30).take 30).all (km_okd cX8_feed) = true := by decide +kernel
theorem km_d91 : km_okc km_q91 = true := km_dall (km_dstep km_d91_0 (km_dlast (by decide +kernel) km_d91_1))
set_option maxRecDepth 100000 in
theorem km_d92_0 : ((km_c92.drop 0).take 30).all (km_okd cX8_back) = true := by decide +kernel
theorem km_d92 : km_okc km_q92 = true := km_dall (km_dlast (by decide +kernel) km_d92_0)
set_option maxRecDepth 100000 in
theorem km_d93_0 : ((km_c93.drop 0).take 30).all (km_okd cX8_read) = true := by decide +kernel
set_option maxRecDepth 100000 in
theorem km_d93_1 : ((km_c93.drop 30).take 30).all (km_okd cX8_read) = true := by decide +kernel
theorem km_d93 : km_okc km_q93 = true := km_dall (km_dstep km_d93_0 (km_dlast (by decide +kernel) km_d93_1))
set_option maxRecDepth 100000 in
theorem km_d94_0 : ((km_c94.drop 0).take 30).all (km_okd cX8_place) = true := by decide +kernel
theorem km_d94 : km_okc km_q94 = true := km_dall (km_dlast (by decide +kernel) km_d94_0)
set_option maxRecDepth 100000 in
theorem km_d95_0 : ((km_c95.drop 0).take 30).all (km_okd cX8_out) = true := by decide +kernel
theorem km_d95 : km_okc km_q95 = true := km_dall (km_dlast (by decide +kernel) km_d95_0)
set_option maxRecDepth 100000 in
theorem km_d96_0 : ((km_c96.drop 0).take 30).all (km_okd cX8_slide) = true := by decide +kernel
theorem km_d96 : km_okc km_q96 = true := km_dall (km_dlast (by decide +kernel) km_d96_0)
set_option maxRecDepth 100000 in
theorem km_d97_0 : ((km_c97.drop 0).take 30).all (km_okd cX8_kink) = true := by decide +kernel
theorem km_d97 : km_okc km_q97 = true := km_dall (km_dlast (by decide +kernel) km_d97_0)
set_option maxRecDepth 100000 in
theorem km_d98_0 : ((km_c98.drop 0).take 30).all (km_okd cX8_loosen) = true := by decide +kernel
theorem km_d98 : km_okc km_q98 = true := km_dall (km_dlast (by decide +kernel) km_d98_0)
set_option maxRecDepth 100000 in
theorem km_d99_0 : ((km_c99.drop 0).take 30).all (km_okd cX8_mirror) = true := by decide +kernel
theorem km_d99 : km_okc km_q99 = true := km_dall (km_dlast (by decide +kernel) km_d99_0)
set_option maxRecDepth 100000 in
theorem km_d100_0 : ((km_c100.drop 0).take 30).all (km_okd cX8_round) = true := by decide +kernel
theorem km_d100 : km_okc km_q100 = true := km_dall (km_dlast (by decide +kernel) km_d100_0)
set_option maxRecDepth 100000 in
theorem km_d101_0 : ((km_c101.drop 0).take 30).all (km_okd cX8_switches) = true := by decide +kernel
theorem km_d101 : km_okc km_q101 = true := km_dall (km_dlast (by decide +kernel) km_d101_0)
set_option maxRecDepth 100000 in
theorem km_d102_0 : ((km_c102.drop 0).take 30).all (km_okd cX8_sum) = true := by decide +kernel
theorem km_d102 : km_okc km_q102 = true := km_dall (km_dlast (by decide +kernel) km_d102_0)
set_option maxRecDepth 100000 in
theorem km_d103_0 : ((km_c103.drop 0).take 30).all (km_okd cX8_undo) = true := by decide +kernel
theorem km_d103 : km_okc km_q103 = true := km_dall (km_dlast (by decide +kernel) km_d103_0)
set_option maxRecDepth 100000 in
theorem km_d104_0 : ((km_c104.drop 0).take 30).all (km_okd cX8_ring) = true := by decide +kernel
set_option maxRecDepth 100000 in
theorem km_d104_1 : ((km_c104.drop 30).take 30).all (km_okd cX8_ring) = true := by decide +kernel
set_option maxRecDepth 100000 in
theorem km_d104_2 : ((km_c104.drop 60).take 30).all (km_okd cX8_ring) = true := by decide +kernel
theorem km_d104 : km_okc km_q104 = true := km_dall (km_dstep km_d104_0 (km_dstep km_d104_1 (km_dlast (by decide +kernel) km_d104_2)))
set_option maxRecDepth 100000 in
theorem km_d105_0 : ((km_c105.drop 0).take 30).all (km_okd cX8_crossing) = true := by decide +kernel
set_option maxRecDepth 100000 in
theorem km_d105_1 : ((km_c105.drop 30).take 30).all (km_okd cX8_crossing) = true := by decide +kernel
theorem km_d105 : km_okc km_q105 = true := km_dall (km_dstep km_d105_0 (km_dlast (by decide +kernel) km_d105_1))
set_option maxRecDepth 100000 in
theorem km_d106_0 : ((km_c106.drop 0).take 30).all (km_okd cX8_face) = true := by decide +kernel
set_option maxRecDepth 100000 in
theorem km_d106_1 : ((km_c106.drop 30).take 30).all (km_okd cX8_face) = true := by decide +kernel
theorem km_d106 : km_okc km_q106 = true := km_dall (km_dstep km_d106_0 (km_dlast (by decide +kernel) km_d106_1))
set_option maxRecDepth 100000 in
theorem km_d107_0 : ((km_c107.drop 0).take 30).all (km_okd cX8_loops) = true := by decide +kernel
theorem km_d107 : km_okc km_q107 = true := km_dall (km_dlast (by decide +kernel) km_d107_0)
set_option maxRecDepth 100000 in
theorem km_d108_0 : ((km_c108.drop 0).take 30).all (km_okd cX8_coefficient) = true := by decide +kernel
theorem km_d108 : km_okc km_q108 = true := km_dall (km_dlast (by decide +kernel) km_d108_0)
set_option maxRecDepth 100000 in
theorem km_d109_0 : ((km_c109.drop 0).take 30).all (km_okd cX8_winding) = true := by decide +kernel
set_option maxRecDepth 100000 in
theorem km_d109_1 : ((km_c109.drop 30).take 30).all (km_okd cX8_winding) = true := by decide +kernel
set_option maxRecDepth 100000 in
theorem km_d109_2 : ((km_c109.drop 60).take 30).all (km_okd cX8_winding) = true := by decide +kernel
theorem km_d109 : km_okc km_q109 = true := km_dall (km_dstep km_d109_0 (km_dstep km_d109_1 (km_dlast (by decide +kernel) km_d109_2)))
set_option maxRecDepth 100000 in
theorem km_d110_0 : ((km_c110.drop 0).take 30).all (km_okd cX8_colourings) = true := by decide +kernel
theorem km_d110 : km_okc km_q110 = true := km_dall (km_dlast (by decide +kernel) km_d110_0)
set_option maxRecDepth 100000 in
theorem km_d111_0 : ((km_c111.drop 0).take 30).all (km_okd cX8_freed) = true := by decide +kernel
theorem km_d111 : km_okc km_q111 = true := km_dall (km_dlast (by decide +kernel) km_d111_0)
set_option maxRecDepth 100000 in
theorem km_d112_0 : ((km_c112.drop 0).take 30).all (km_okd cX8_looser) = true := by decide +kernel
theorem km_d112 : km_okc km_q112 = true := km_dall (km_dlast (by decide +kernel) km_d112_0)
set_option maxRecDepth 100000 in
theorem km_d113_0 : ((km_c113.drop 0).take 30).all (km_okd cX8_alike) = true := by decide +kernel
set_option maxRecDepth 100000 in
theorem km_d113_1 : ((km_c113.drop 30).take 30).all (km_okd cX8_alike) = true := by decide +kernel
theorem km_d113 : km_okc km_q113 = true := km_dall (km_dstep km_d113_0 (km_dlast (by decide +kernel) km_d113_1))
set_option maxRecDepth 100000 in
theorem km_d114_0 : ((km_c114.drop 0).take 30).all (km_okd cX8_hold) = true := by decide +kernel
theorem km_d114 : km_okc km_q114 = true := km_dall (km_dlast (by decide +kernel) km_d114_0)
set_option maxRecDepth 100000 in
theorem km_d115_0 : ((km_c115.drop 0).take 30).all (km_okd cX8_restore) = true := by decide +kernel
theorem km_d115 : km_okc km_q115 = true := km_dall (km_dlast (by decide +kernel) km_d115_0)
set_option maxRecDepth 100000 in
theorem km_d116_0 : ((km_c116.drop 0).take 30).all (km_okd cX8_count) = true := by decide +kernel
set_option maxRecDepth 100000 in
theorem km_d116_1 : ((km_c116.drop 30).take 30).all (km_okd cX8_count) = true := by decide +kernel
set_option maxRecDepth 100000 in
theorem km_d116_2 : ((km_c116.drop 60).take 30).all (km_okd cX8_count) = true := by decide +kernel
theorem km_d116 : km_okc km_q116 = true := km_dall (km_dstep km_d116_0 (km_dstep km_d116_1 (km_dlast (by decide +kernel) km_d116_2)))
set_option maxRecDepth 100000 in
theorem km_d117_0 : ((km_c117.drop 0).take 30).all (km_okd cX8_changed) = true := by decide +kernel
theorem km_d117 : km_okc km_q117 = true := km_dall (km_dlast (by decide +kernel) km_d117_0)
set_option maxRecDepth 100000 in
theorem km_d118_0 : ((km_c118.drop 0).take 30).all (km_okd cX8_holds) = true := by decide +kernel
theorem km_d118 : km_okc km_q118 = true := km_dall (km_dlast (by decide +kernel) km_d118_0)
set_option maxRecDepth 100000 in
theorem km_d119_0 : ((km_c119.drop 0).take 30).all (km_okd cX8_slotsHeld) = true := by decide +kernel
theorem km_d119 : km_okc km_q119 = true := km_dall (km_dlast (by decide +kernel) km_d119_0)
set_option maxRecDepth 100000 in
theorem km_d120_0 : ((km_c120.drop 0).take 30).all (km_okd cX8_kindOfFace) = true := by decide +kernel
theorem km_d120 : km_okc km_q120 = true := km_dall (km_dlast (by decide +kernel) km_d120_0)
set_option maxRecDepth 100000 in
theorem km_d121_0 : ((km_c121.drop 0).take 30).all (km_okd cX8_ownBracket) = true := by decide +kernel
theorem km_d121 : km_okc km_q121 = true := km_dall (km_dlast (by decide +kernel) km_d121_0)
set_option maxRecDepth 100000 in
theorem km_d122_0 : ((km_c122.drop 0).take 30).all (km_okd cX8_fewestSwitches) = true := by decide +kernel
theorem km_d122 : km_okc km_q122 = true := km_dall (km_dlast (by decide +kernel) km_d122_0)
set_option maxRecDepth 100000 in
theorem km_d123_0 : ((km_c123.drop 0).take 30).all (km_okd cX8_comesLoose) = true := by decide +kernel
theorem km_d123 : km_okc km_q123 = true := km_dall (km_dlast (by decide +kernel) km_d123_0)
set_option maxRecDepth 100000 in
theorem km_d124_0 : ((km_c124.drop 0).take 30).all (km_okd cX9_init) = true := by decide +kernel
set_option maxRecDepth 100000 in
theorem km_d124_1 : ((km_c124.drop 30).take 30).all (km_okd cX9_init) = true := by decide +kernel
set_option maxRecDepth 100000 in
theorem km_d124_2 : ((km_c124.drop 60).take 30).all (km_okd cX9_init) = true := by decide +kernel
set_option maxRecDepth 100000 in
theorem km_d124_3 : ((km_c124.drop 90).take 30).all (km_okd cX9_init) = true := by decide +kernel
set_option maxRecDepth 100000 in
theorem km_d124_4 : ((km_c124.drop 120).take 30).all (km_okd cX9_init) = true := by decide +kernel
set_option maxRecDepth 100000 in
theorem km_d124_5 : ((km_c124.drop 150).take 30).all (km_okd cX9_init) = true := by decide +kernel
set_option maxRecDepth 100000 in
theorem km_d124_6 : ((km_c124.drop 180).take 30).all (km_okd cX9_init) = true := by decide +kernel
theorem km_d124 : km_okc km_q124 = true := km_dall (km_dstep km_d124_0 (km_dstep km_d124_1 (km_dstep km_d124_2 (km_dstep km_d124_3 (km_dstep km_d124_4 (km_dstep km_d124_5 (km_dlast (by decide +kernel) km_d124_6)))))))
set_option maxRecDepth 100000 in
theorem km_d125_0 : ((km_c125.drop 0).take 30).all (km_okd cX9_feed) = true := by decide +kernel
theorem km_d125 : km_okc km_q125 = true := km_dall (km_dlast (by decide +kernel) km_d125_0)
set_option maxRecDepth 100000 in
theorem km_d126_0 : ((km_c126.drop 0).take 30).all (km_okd cX9_lays) = true := by decide +kernel
theorem km_d126 : km_okc km_q126 = true := km_dall (km_dlast (by decide +kernel) km_d126_0)
set_option maxRecDepth 100000 in
theorem km_d127_0 : ((km_c127.drop 0).take 30).all (km_okd cX9_back) = true := by decide +kernel
theorem km_d127 : km_okc km_q127 = true := km_dall (km_dlast (by decide +kernel) km_d127_0)
set_option maxRecDepth 100000 in
theorem km_d128_0 : ((km_c128.drop 0).take 30).all (km_okd cX9_byteAt) = true := by decide +kernel
theorem km_d128 : km_okc km_q128 = true := km_dall (km_dlast (by decide +kernel) km_d128_0)
set_option maxRecDepth 100000 in
theorem km_d129_0 : ((km_c129.drop 0).take 30).all (km_okd cX9_isDigit) = true := by decide +kernel
theorem km_d129 : km_okc km_q129 = true := km_dall (km_dlast (by decide +kernel) km_d129_0)
set_option maxRecDepth 100000 in
theorem km_d130_0 : ((km_c130.drop 0).take 30).all (km_okd cX9_isLetter) = true := by decide +kernel
theorem km_d130 : km_okc km_q130 = true := km_dall (km_dlast (by decide +kernel) km_d130_0)
set_option maxRecDepth 100000 in
theorem km_d131_0 : ((km_c131.drop 0).take 30).all (km_okd cX9_appends) = true := by decide +kernel
theorem km_d131 : km_okc km_q131 = true := km_dall (km_dlast (by decide +kernel) km_d131_0)
set_option maxRecDepth 100000 in
theorem km_d132_0 : ((km_c132.drop 0).take 30).all (km_okd cX9_letters) = true := by decide +kernel
theorem km_d132 : km_okc km_q132 = true := km_dall (km_dlast (by decide +kernel) km_d132_0)
set_option maxRecDepth 100000 in
theorem km_d133_0 : ((km_c133.drop 0).take 30).all (km_okd cX9_token) = true := by decide +kernel
set_option maxRecDepth 100000 in
theorem km_d133_1 : ((km_c133.drop 30).take 30).all (km_okd cX9_token) = true := by decide +kernel
theorem km_d133 : km_okc km_q133 = true := km_dall (km_dstep km_d133_0 (km_dlast (by decide +kernel) km_d133_1))
set_option maxRecDepth 100000 in
theorem km_d134_0 : ((km_c134.drop 0).take 30).all (km_okd cX9_cutsText) = true := by decide +kernel
set_option maxRecDepth 100000 in
theorem km_d134_1 : ((km_c134.drop 30).take 30).all (km_okd cX9_cutsText) = true := by decide +kernel
set_option maxRecDepth 100000 in
theorem km_d134_2 : ((km_c134.drop 60).take 30).all (km_okd cX9_cutsText) = true := by decide +kernel
set_option maxRecDepth 100000 in
theorem km_d134_3 : ((km_c134.drop 90).take 30).all (km_okd cX9_cutsText) = true := by decide +kernel
set_option maxRecDepth 100000 in
theorem km_d134_4 : ((km_c134.drop 120).take 30).all (km_okd cX9_cutsText) = true := by decide +kernel
set_option maxRecDepth 100000 in
theorem km_d134_5 : ((km_c134.drop 150).take 30).all (km_okd cX9_cutsText) = true := by decide +kernel
theorem km_d134 : km_okc km_q134 = true := km_dall (km_dstep km_d134_0 (km_dstep km_d134_1 (km_dstep km_d134_2 (km_dstep km_d134_3 (km_dstep km_d134_4 (km_dlast (by decide +kernel) km_d134_5))))))
set_option maxRecDepth 100000 in
theorem km_d135_0 : ((km_c135.drop 0).take 30).all (km_okd cX9_sign) = true := by decide +kernel
theorem km_d135 : km_okc km_q135 = true := km_dall (km_dlast (by decide +kernel) km_d135_0)
set_option maxRecDepth 100000 in
theorem km_d136_0 : ((km_c136.drop 0).take 30).all (km_okd cX9_is) = true := by decide +kernel
theorem km_d136 : km_okc km_q136 = true := km_dall (km_dlast (by decide +kernel) km_d136_0)
set_option maxRecDepth 100000 in
theorem km_d137_0 : ((km_c137.drop 0).take 30).all (km_okd cX9_fail) = true := by decide +kernel
theorem km_d137 : km_okc km_q137 = true := km_dall (km_dlast (by decide +kernel) km_d137_0)
set_option maxRecDepth 100000 in
theorem km_d138_0 : ((km_c138.drop 0).take 30).all (km_okd cX9_wrong) = true := by decide +kernel
set_option maxRecDepth 100000 in
theorem km_d138_1 : ((km_c138.drop 30).take 30).all (km_okd cX9_wrong) = true := by decide +kernel
theorem km_d138 : km_okc km_q138 = true := km_dall (km_dstep km_d138_0 (km_dlast (by decide +kernel) km_d138_1))
set_option maxRecDepth 100000 in
theorem km_d139_0 : ((km_c139.drop 0).take 30).all (km_okd cX9_passes) = true := by decide +kernel
theorem km_d139 : km_okc km_q139 = true := km_dall (km_dlast (by decide +kernel) km_d139_0)
set_option maxRecDepth 100000 in
theorem km_d140_0 : ((km_c140.drop 0).take 30).all (km_okd cX9_must) = true := by decide +kernel
theorem km_d140 : km_okc km_q140 = true := km_dall (km_dlast (by decide +kernel) km_d140_0)
set_option maxRecDepth 100000 in
theorem km_d141_0 : ((km_c141.drop 0).take 30).all (km_okd cX9_read) = true := by decide +kernel
set_option maxRecDepth 100000 in
theorem km_d141_1 : ((km_c141.drop 30).take 30).all (km_okd cX9_read) = true := by decide +kernel
set_option maxRecDepth 100000 in
theorem km_d141_2 : ((km_c141.drop 60).take 30).all (km_okd cX9_read) = true := by decide +kernel
set_option maxRecDepth 100000 in
theorem km_d141_3 : ((km_c141.drop 90).take 30).all (km_okd cX9_read) = true := by decide +kernel
set_option maxRecDepth 100000 in
theorem km_d141_4 : ((km_c141.drop 120).take 30).all (km_okd cX9_read) = true := by decide +kernel
theorem km_d141 : km_okc km_q141 = true := km_dall (km_dstep km_d141_0 (km_dstep km_d141_1 (km_dstep km_d141_2 (km_dstep km_d141_3 (km_dlast (by decide +kernel) km_d141_4)))))
set_option maxRecDepth 100000 in
theorem km_d142_0 : ((km_c142.drop 0).take 30).all (km_okd cX9_place) = true := by decide +kernel
theorem km_d142 : km_okc km_q142 = true := km_dall (km_dlast (by decide +kernel) km_d142_0)
set_option maxRecDepth 100000 in
theorem km_d143_0 : ((km_c143.drop 0).take 30).all (km_okd cX9_tellBraid) = true := by decide +kernel
set_option maxRecDepth 100000 in
theorem km_d143_1 : ((km_c143.drop 30).take 30).all (km_okd cX9_tellBraid) = true := by decide +kernel
theorem km_d143 : km_okc km_q143 = true := km_dall (km_dstep km_d143_0 (km_dlast (by decide +kernel) km_d143_1))
set_option maxRecDepth 100000 in
theorem km_d144_0 : ((km_c144.drop 0).take 30).all (km_okd cX9_tellRing) = true := by decide +kernel
set_option maxRecDepth 100000 in
theorem km_d144_1 : ((km_c144.drop 30).take 30).all (km_okd cX9_tellRing) = true := by decide +kernel
set_option maxRecDepth 100000 in
theorem km_d144_2 : ((km_c144.drop 60).take 30).all (km_okd cX9_tellRing) = true := by decide +kernel
theorem km_d144 : km_okc km_q144 = true := km_dall (km_dstep km_d144_0 (km_dstep km_d144_1 (km_dlast (by decide +kernel) km_d144_2)))
set_option maxRecDepth 100000 in
theorem km_d145_0 : ((km_c145.drop 0).take 30).all (km_okd cX9_unlikeAt) = true := by decide +kernel
theorem km_d145 : km_okc km_q145 = true := km_dall (km_dlast (by decide +kernel) km_d145_0)
set_option maxRecDepth 100000 in
theorem km_d146_0 : ((km_c146.drop 0).take 30).all (km_okd cX9_meets) = true := by decide +kernel
theorem km_d146 : km_okc km_q146 = true := km_dall (km_dlast (by decide +kernel) km_d146_0)
set_option maxRecDepth 100000 in
theorem km_d147_0 : ((km_c147.drop 0).take 30).all (km_okd cX9_means) = true := by decide +kernel
set_option maxRecDepth 100000 in
theorem km_d147_1 : ((km_c147.drop 30).take 30).all (km_okd cX9_means) = true := by decide +kernel
theorem km_d147 : km_okc km_q147 = true := km_dall (km_dstep km_d147_0 (km_dlast (by decide +kernel) km_d147_1))
set_option maxRecDepth 100000 in
theorem km_d148_0 : ((km_c148.drop 0).take 30).all (km_okd cX9_meansRings) = true := by decide +kernel
set_option maxRecDepth 100000 in
theorem km_d148_1 : ((km_c148.drop 30).take 30).all (km_okd cX9_meansRings) = true := by decide +kernel
set_option maxRecDepth 100000 in
theorem km_d148_2 : ((km_c148.drop 60).take 30).all (km_okd cX9_meansRings) = true := by decide +kernel
set_option maxRecDepth 100000 in
theorem km_d148_3 : ((km_c148.drop 90).take 30).all (km_okd cX9_meansRings) = true := by decide +kernel
set_option maxRecDepth 100000 in
theorem km_d148_4 : ((km_c148.drop 120).take 30).all (km_okd cX9_meansRings) = true := by decide +kernel
set_option maxRecDepth 100000 in
theorem km_d148_5 : ((km_c148.drop 150).take 30).all (km_okd cX9_meansRings) = true := by decide +kernel
theorem km_d148 : km_okc km_q148 = true := km_dall (km_dstep km_d148_0 (km_dstep km_d148_1 (km_dstep km_d148_2 (km_dstep km_d148_3 (km_dstep km_d148_4 (km_dlast (by decide +kernel) km_d148_5))))))
set_option maxRecDepth 100000 in
theorem km_d149_0 : ((km_c149.drop 0).take 30).all (km_okd cX9_adds) = true := by decide +kernel
theorem km_d149 : km_okc km_q149 = true := km_dall (km_dlast (by decide +kernel) km_d149_0)
set_option maxRecDepth 100000 in
theorem km_d150_0 : ((km_c150.drop 0).take 30).all (km_okd cX9_lacks) = true := by decide +kernel
theorem km_d150 : km_okc km_q150 = true := km_dall (km_dlast (by decide +kernel) km_d150_0)
set_option maxRecDepth 100000 in
theorem km_d151_0 : ((km_c151.drop 0).take 30).all (km_okd cX9_meansBraid) = true := by decide +kernel
set_option maxRecDepth 100000 in
theorem km_d151_1 : ((km_c151.drop 30).take 30).all (km_okd cX9_meansBraid) = true := by decide +kernel
set_option maxRecDepth 100000 in
theorem km_d151_2 : ((km_c151.drop 60).take 30).all (km_okd cX9_meansBraid) = true := by decide +kernel
set_option maxRecDepth 100000 in
theorem km_d151_3 : ((km_c151.drop 90).take 30).all (km_okd cX9_meansBraid) = true := by decide +kernel
set_option maxRecDepth 100000 in
theorem km_d151_4 : ((km_c151.drop 120).take 30).all (km_okd cX9_meansBraid) = true := by decide +kernel
theorem km_d151 : km_okc km_q151 = true := km_dall (km_dstep km_d151_0 (km_dstep km_d151_1 (km_dstep km_d151_2 (km_dstep km_d151_3 (km_dlast (by decide +kernel) km_d151_4)))))
set_option maxRecDepth 100000 in
theorem km_d152_0 : ((km_c152.drop 0).take 30).all (km_okd cX9_goesDown) = true := by decide +kernel
set_option maxRecDepth 100000 in
theorem km_d152_1 : ((km_c152.drop 30).take 30).all (km_okd cX9_goesDown) = true := by decide +kernel
set_option maxRecDepth 100000 in
theorem km_d152_2 : ((km_c152.drop 60).take 30).all (km_okd cX9_goesDown) = true := by decide +kernel
theorem km_d152 : km_okc km_q152 = true := km_dall (km_dstep km_d152_0 (km_dstep km_d152_1 (km_dlast (by decide +kernel) km_d152_2)))
set_option maxRecDepth 100000 in
theorem km_d153_0 : ((km_c153.drop 0).take 30).all (km_okd cX9_in) = true := by decide +kernel
theorem km_d153 : km_okc km_q153 = true := km_dall (km_dlast (by decide +kernel) km_d153_0)
set_option maxRecDepth 100000 in
theorem km_d154_0 : ((km_c154.drop 0).take 30).all (km_okd cX9_has) = true := by decide +kernel
theorem km_d154 : km_okc km_q154 = true := km_dall (km_dlast (by decide +kernel) km_d154_0)
set_option maxRecDepth 100000 in
theorem km_d155_0 : ((km_c155.drop 0).take 30).all (km_okd cX9_bitsOf) = true := by decide +kernel
theorem km_d155 : km_okc km_q155 = true := km_dall (km_dlast (by decide +kernel) km_d155_0)
set_option maxRecDepth 100000 in
theorem km_d156_0 : ((km_c156.drop 0).take 30).all (km_okd cX9_copies) = true := by decide +kernel
theorem km_d156 : km_okc km_q156 = true := km_dall (km_dlast (by decide +kernel) km_d156_0)
set_option maxRecDepth 100000 in
theorem km_d157_0 : ((km_c157.drop 0).take 30).all (km_okd cX9_laysEdges) = true := by decide +kernel
set_option maxRecDepth 100000 in
theorem km_d157_1 : ((km_c157.drop 30).take 30).all (km_okd cX9_laysEdges) = true := by decide +kernel
set_option maxRecDepth 100000 in
theorem km_d157_2 : ((km_c157.drop 60).take 30).all (km_okd cX9_laysEdges) = true := by decide +kernel
set_option maxRecDepth 100000 in
theorem km_d157_3 : ((km_c157.drop 90).take 30).all (km_okd cX9_laysEdges) = true := by decide +kernel
set_option maxRecDepth 100000 in
theorem km_d157_4 : ((km_c157.drop 120).take 30).all (km_okd cX9_laysEdges) = true := by decide +kernel
theorem km_d157 : km_okc km_q157 = true := km_dall (km_dstep km_d157_0 (km_dstep km_d157_1 (km_dstep km_d157_2 (km_dstep km_d157_3 (km_dlast (by decide +kernel) km_d157_4)))))
set_option maxRecDepth 100000 in
theorem km_d158_0 : ((km_c158.drop 0).take 30).all (km_okd cX9_endIn) = true := by decide +kernel
theorem km_d158 : km_okc km_q158 = true := km_dall (km_dlast (by decide +kernel) km_d158_0)
set_option maxRecDepth 100000 in
theorem km_d159_0 : ((km_c159.drop 0).take 30).all (km_okd cX9_turnsTo) = true := by decide +kernel
set_option maxRecDepth 100000 in
theorem km_d159_1 : ((km_c159.drop 30).take 30).all (km_okd cX9_turnsTo) = true := by decide +kernel
set_option maxRecDepth 100000 in
theorem km_d159_2 : ((km_c159.drop 60).take 30).all (km_okd cX9_turnsTo) = true := by decide +kernel
theorem km_d159 : km_okc km_q159 = true := km_dall (km_dstep km_d159_0 (km_dstep km_d159_1 (km_dlast (by decide +kernel) km_d159_2)))
set_option maxRecDepth 100000 in
theorem km_d160_0 : ((km_c160.drop 0).take 30).all (km_okd cX9_crossingBehind) = true := by decide +kernel
theorem km_d160 : km_okc km_q160 = true := km_dall (km_dlast (by decide +kernel) km_d160_0)
set_option maxRecDepth 100000 in
theorem km_d161_0 : ((km_c161.drop 0).take 30).all (km_okd cX9_laysFaces) = true := by decide +kernel
set_option maxRecDepth 100000 in
theorem km_d161_1 : ((km_c161.drop 30).take 30).all (km_okd cX9_laysFaces) = true := by decide +kernel
set_option maxRecDepth 100000 in
theorem km_d161_2 : ((km_c161.drop 60).take 30).all (km_okd cX9_laysFaces) = true := by decide +kernel
theorem km_d161 : km_okc km_q161 = true := km_dall (km_dstep km_d161_0 (km_dstep km_d161_1 (km_dlast (by decide +kernel) km_d161_2)))
set_option maxRecDepth 100000 in
theorem km_d162_0 : ((km_c162.drop 0).take 30).all (km_okd cX9_partsOf) = true := by decide +kernel
set_option maxRecDepth 100000 in
theorem km_d162_1 : ((km_c162.drop 30).take 30).all (km_okd cX9_partsOf) = true := by decide +kernel
theorem km_d162 : km_okc km_q162 = true := km_dall (km_dstep km_d162_0 (km_dlast (by decide +kernel) km_d162_1))
set_option maxRecDepth 100000 in
theorem km_d163_0 : ((km_c163.drop 0).take 30).all (km_okd cX9_joins) = true := by decide +kernel
set_option maxRecDepth 100000 in
theorem km_d163_1 : ((km_c163.drop 30).take 30).all (km_okd cX9_joins) = true := by decide +kernel
theorem km_d163 : km_okc km_q163 = true := km_dall (km_dstep km_d163_0 (km_dlast (by decide +kernel) km_d163_1))
set_option maxRecDepth 100000 in
theorem km_d164_0 : ((km_c164.drop 0).take 30).all (km_okd cX9_canBeDrawn) = true := by decide +kernel
theorem km_d164 : km_okc km_q164 = true := km_dall (km_dlast (by decide +kernel) km_d164_0)
set_option maxRecDepth 100000 in
theorem km_d165_0 : ((km_c165.drop 0).take 30).all (km_okd cX9_oversOf) = true := by decide +kernel
theorem km_d165 : km_okc km_q165 = true := km_dall (km_dlast (by decide +kernel) km_d165_0)
set_option maxRecDepth 100000 in
theorem km_d166_0 : ((km_c166.drop 0).take 30).all (km_okd cX9_kindOf) = true := by decide +kernel
set_option maxRecDepth 100000 in
theorem km_d166_1 : ((km_c166.drop 30).take 30).all (km_okd cX9_kindOf) = true := by decide +kernel
set_option maxRecDepth 100000 in
theorem km_d166_2 : ((km_c166.drop 60).take 30).all (km_okd cX9_kindOf) = true := by decide +kernel
set_option maxRecDepth 100000 in
theorem km_d166_3 : ((km_c166.drop 90).take 30).all (km_okd cX9_kindOf) = true := by decide +kernel
theorem km_d166 : km_okc km_q166 = true := km_dall (km_dstep km_d166_0 (km_dstep km_d166_1 (km_dstep km_d166_2 (km_dlast (by decide +kernel) km_d166_3))))
set_option maxRecDepth 100000 in
theorem km_d167_0 : ((km_c167.drop 0).take 30).all (km_okd cX9_kindMany) = true := by decide +kernel
theorem km_d167 : km_okc km_q167 = true := km_dall (km_dlast (by decide +kernel) km_d167_0)
set_option maxRecDepth 100000 in
theorem km_d168_0 : ((km_c168.drop 0).take 30).all (km_okd cX9_firstOf) = true := by decide +kernel
theorem km_d168 : km_okc km_q168 = true := km_dall (km_dlast (by decide +kernel) km_d168_0)
