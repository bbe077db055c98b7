def km_G : List Cond := lw_tbl.filter goodWord
theorem km_inG {w : Cond} {i : Nat} (h : lw_tbl[i]? = some w) (hg : goodWord w = true) : w ∈ km_G := List.mem_filter.mpr ⟨List.mem_of_getElem? h, hg⟩
def km_Nw : List Cond := [.methodLinkNest RX8 9 yX7_init RX8, .methodLinkNest RX8 18 yX4_init RX8, .methodLinkNest RX8 25 yX5_init RX8, .methodLinkNest RX8 32 yX2_init RX8, .methodLinkNest RX8 39 yX0_init RX8, .methodLinkNest RX8 46 yX1_init RX8, .methodLinkNest RX3 17 yX5_init RX8, .methodLinkNest RX6 23 yX5_init RX8, .methodLinkNest RX6 24 yX2_init RX8]
def km_Mp : List (Nat × Nat × Nat × Nat) := [(320, 100, 319, 9999), (687, 100, 685, 686), (692, 100, 691, 24), (696, 100, 695, 25), (895, 100, 894, 32), (974, 100, 972, 973), (978, 100, 977, 39), (907, 100, 906, 34), (911, 100, 910, 35), (891, 100, 889, 890), (903, 100, 902, 33), (915, 100, 914, 36), (341, 101, 340, 9999), (854, 101, 852, 853), (862, 101, 861, 30), (869, 101, 868, 31), (877, 101, 875, 876), (873, 101, 871, 872), (955, 101, 953, 954), (985, 101, 983, 984), (262, 99, 261, 9999), (609, 99, 607, 608), (613, 99, 612, 17), (617, 99, 616, 18), (633, 99, 632, 19), (637, 99, 636, 20), (641, 99, 640, 21), (645, 99, 643, 644), (649, 99, 647, 648), (825, 99, 823, 824), (990, 99, 988, 989), (761, 99, 759, 760), (663, 99, 661, 662), (667, 99, 666, 22), (659, 99, 657, 658), (838, 99, 836, 837), (357, 102, 356, 9999), (671, 102, 669, 670), (712, 102, 710, 711), (811, 102, 809, 810), (155, 97, 154, 9999), (462, 97, 460, 461), (555, 97, 554, 5), (466, 97, 465, 0), (558, 97, 557, 9999), (562, 97, 561, 6), (566, 97, 565, 7), (570, 97, 569, 8), (574, 97, 573, 9), (578, 97, 577, 10), (597, 97, 596, 14), (601, 97, 600, 15), (605, 97, 604, 16), (585, 97, 584, 11), (589, 97, 588, 12), (593, 97, 592, 13), (220, 98, 219, 9999), (675, 98, 673, 674), (951, 98, 949, 950), (621, 98, 619, 620), (771, 98, 769, 770), (625, 98, 623, 624), (629, 98, 627, 628), (858, 98, 856, 857), (842, 98, 840, 841), (994, 98, 992, 993), (775, 98, 773, 774), (783, 98, 781, 782), (734, 98, 732, 733), (738, 98, 737, 27), (747, 98, 745, 746), (721, 98, 719, 720), (725, 98, 724, 9999), (756, 98, 754, 755), (799, 98, 797, 798), (803, 98, 801, 802), (377, 103, 376, 9999), (936, 103, 934, 935), (940, 103, 939, 9999), (124, 96, 123, 9999), (450, 96, 448, 449), (470, 96, 468, 469), (474, 96, 472, 473), (488, 96, 487, 2), (493, 96, 492, 3), (551, 96, 550, 4), (478, 96, 477, 1), (481, 96, 480, 9999), (484, 96, 483, 9999), (547, 96, 546, 9999), (116, 95, 115, 9999), (446, 95, 444, 445), (454, 95, 452, 453), (458, 95, 456, 457), (700, 95, 698, 699), (704, 95, 702, 703), (730, 95, 728, 729), (742, 95, 740, 741), (752, 95, 750, 751), (767, 95, 765, 766), (779, 95, 777, 778), (787, 95, 785, 786), (791, 95, 789, 790), (807, 95, 805, 806), (815, 95, 813, 814), (820, 95, 818, 819), (829, 95, 827, 828), (834, 95, 832, 833), (846, 95, 844, 845), (882, 95, 880, 881), (886, 95, 884, 885), (919, 95, 917, 918), (932, 95, 930, 931), (947, 95, 945, 946), (960, 95, 958, 959), (964, 95, 962, 963), (968, 95, 966, 967), (682, 95, 681, 23), (795, 95, 794, 28), (999, 95, 998, 40), (708, 95, 707, 26), (850, 95, 849, 29), (923, 95, 922, 37), (928, 95, 927, 38), (1004, 104, 1003, 9999), (1172, 104, 1170, 1171), (1176, 104, 1175, 41), (1180, 104, 1178, 1179), (1192, 104, 1191, 43), (1202, 104, 1201, 9999), (1199, 104, 1198, 9999), (1011, 104, 1010, 9999), (1008, 104, 1007, 9999), (1196, 104, 1195, 44), (1188, 104, 1187, 42), (1206, 104, 1205, 45), (1210, 104, 1209, 46), (1222, 104, 1221, 49), (1253, 104, 1252, 56), (1218, 104, 1217, 48), (1226, 104, 1225, 50), (1184, 104, 1182, 1183), (1306, 104, 1304, 1305), (1214, 104, 1213, 47), (1230, 104, 1229, 51), (1238, 104, 1237, 53), (1234, 104, 1233, 52), (1242, 104, 1241, 54), (1267, 104, 1266, 58), (1263, 104, 1262, 9999), (1271, 104, 1270, 59), (1246, 104, 1245, 55), (1260, 104, 1259, 57), (1249, 104, 1248, 9999), (1256, 104, 1255, 9999), (1443, 104, 1442, 9999), (1302, 104, 1301, 9999), (1283, 104, 1282, 62), (1287, 104, 1286, 63), (1291, 104, 1290, 64), (1334, 104, 1333, 69), (1279, 104, 1278, 61), (1295, 104, 1294, 65), (1299, 104, 1298, 66), (1275, 104, 1274, 60), (1338, 104, 1337, 70), (1330, 104, 1329, 68), (1519, 104, 1518, 92), (1381, 104, 1380, 77), (1349, 104, 1348, 9999), (1346, 104, 1345, 72), (1377, 104, 1376, 76), (1365, 104, 1364, 75), (1357, 104, 1356, 73), (1361, 104, 1360, 74), (1388, 104, 1387, 9999), (1342, 104, 1341, 71), (1310, 104, 1308, 1309), (1314, 104, 1312, 1313), (1322, 104, 1321, 67), (1318, 104, 1316, 1317), (1326, 104, 1324, 1325), (1353, 104, 1351, 1352), (1369, 104, 1367, 1368), (1373, 104, 1371, 1372), (1385, 104, 1383, 1384), (1392, 104, 1390, 1391), (1396, 104, 1394, 1395), (1400, 104, 1398, 1399), (1404, 104, 1402, 1403), (1417, 104, 1416, 79), (1408, 104, 1406, 1407), (1421, 104, 1419, 1420), (1432, 104, 1431, 9999), (1429, 104, 1428, 80), (1425, 104, 1423, 1424), (1440, 104, 1439, 81), (1447, 104, 1446, 82), (1454, 104, 1453, 9999), (1451, 104, 1450, 83), (1436, 104, 1434, 1435), (1515, 104, 1514, 91), (1458, 104, 1456, 1457), (1413, 104, 1412, 78), (1467, 104, 1466, 84), (1462, 104, 1460, 1461), (1471, 104, 1470, 9999), (1475, 104, 1474, 85), (1479, 104, 1478, 86), (1511, 104, 1510, 90), (1487, 104, 1486, 87), (1483, 104, 1481, 1482), (1495, 104, 1494, 88), (1491, 104, 1489, 1490), (1503, 104, 1502, 89), (1499, 104, 1497, 1498), (1523, 104, 1522, 93), (1507, 104, 1505, 1506), (652, 110, 651, 9999), (899, 109, 898, 9999), (981, 109, 980, 9999), (581, 109, 580, 9999), (716, 109, 715, 9999)]
def km_gw (i : Nat) (w : Cond) : Bool := decide (lw_tbl[i]? = some w) && goodWord w
theorem km_gw_s {i : Nat} {w : Cond} (h : km_gw i w = true) : w ∈ km_G := by
  unfold km_gw at h
  rw [Bool.and_eq_true] at h
  exact km_inG (of_decide_eq_true h.1) h.2
def km_okM (x : km_Q × (Nat × Nat × Nat × Nat)) : Bool :=
  km_gw x.2.2.1 (.initialized x.1.1.cls) && (km_gw x.2.2.2.1 (cond x.1.2.2.2.2.2.2.1 (.static x.1.1) (.instanceMethod x.1.1)) &&
  ((Nat.beq x.2.2.2.2 9999 || km_gw x.2.2.2.2 (.selects x.1.1.cls x.1.1 x.1.1)) && (plainFor x.1.1 && (decide (x.1.1.cls ≠ "java/lang/invoke/MethodHandle" ∧ x.1.1.cls ≠ "java/lang/invoke/VarHandle") &&
  (decide ((parseMethodDescriptor x.1.1.desc).map (fun d => d.parameters.length) = some (x.1.2.2.2.2.2.1 - cond x.1.2.2.2.2.2.2.1 0 1)) && (decide (km_R x.1.2.2.2.2.1 = x.1.1.cls) && (Nat.ble x.1.2.2.1 40 && Nat.ble (cond x.1.2.2.2.2.2.2.1 0 1) x.1.2.2.2.2.2.1)))))))
set_option maxRecDepth 100000 in
theorem km_M0 : ((((km_T.take 223).zip km_Mp).drop 0).take 16).all km_okM = true := by decide +kernel
set_option maxRecDepth 100000 in
theorem km_M16 : ((((km_T.take 223).zip km_Mp).drop 16).take 16).all km_okM = true := by decide +kernel
set_option maxRecDepth 100000 in
theorem km_M32 : ((((km_T.take 223).zip km_Mp).drop 32).take 16).all km_okM = true := by decide +kernel
set_option maxRecDepth 100000 in
theorem km_M48 : ((((km_T.take 223).zip km_Mp).drop 48).take 16).all km_okM = true := by decide +kernel
set_option maxRecDepth 100000 in
theorem km_M64 : ((((km_T.take 223).zip km_Mp).drop 64).take 16).all km_okM = true := by decide +kernel
set_option maxRecDepth 100000 in
theorem km_M80 : ((((km_T.take 223).zip km_Mp).drop 80).take 16).all km_okM = true := by decide +kernel
set_option maxRecDepth 100000 in
theorem km_M96 : ((((km_T.take 223).zip km_Mp).drop 96).take 16).all km_okM = true := by decide +kernel
set_option maxRecDepth 100000 in
theorem km_M112 : ((((km_T.take 223).zip km_Mp).drop 112).take 16).all km_okM = true := by decide +kernel
set_option maxRecDepth 100000 in
theorem km_M128 : ((((km_T.take 223).zip km_Mp).drop 128).take 16).all km_okM = true := by decide +kernel
set_option maxRecDepth 100000 in
theorem km_M144 : ((((km_T.take 223).zip km_Mp).drop 144).take 16).all km_okM = true := by decide +kernel
set_option maxRecDepth 100000 in
theorem km_M160 : ((((km_T.take 223).zip km_Mp).drop 160).take 16).all km_okM = true := by decide +kernel
set_option maxRecDepth 100000 in
theorem km_M176 : ((((km_T.take 223).zip km_Mp).drop 176).take 16).all km_okM = true := by decide +kernel
set_option maxRecDepth 100000 in
theorem km_M192 : ((((km_T.take 223).zip km_Mp).drop 192).take 16).all km_okM = true := by decide +kernel
set_option maxRecDepth 100000 in
theorem km_M208 : ((((km_T.take 223).zip km_Mp).drop 208).take 16).all km_okM = true := by decide +kernel
theorem km_dlast2 {α : Type} {l : List α} {p : α → Bool} {a n : Nat} (h : Nat.ble l.length (a + n) = true) (h1 : ((l.drop a).take n).all p = true) : (l.drop a).all p = true := by
  have h2 : (l.drop a).take n = l.drop a := List.take_of_length_le (by rw [List.length_drop]; have := Nat.le_of_ble_eq_true h; omega)
  rw [h2] at h1
  exact h1
theorem km_dstep2 {α : Type} {l : List α} {p : α → Bool} {a n : Nat} (h1 : ((l.drop a).take n).all p = true) (h2 : (l.drop (a + n)).all p = true) : (l.drop a).all p = true := by
  rw [← List.take_append_drop n (l.drop a), List.all_append, h1, List.drop_drop, h2]
  rfl
set_option maxRecDepth 100000 in
theorem km_M_ok : ((km_T.take 223).zip km_Mp).all km_okM = true := km_dstep2 km_M0 (km_dstep2 km_M16 (km_dstep2 km_M32 (km_dstep2 km_M48 (km_dstep2 km_M64 (km_dstep2 km_M80 (km_dstep2 km_M96 (km_dstep2 km_M112 (km_dstep2 km_M128 (km_dstep2 km_M144 (km_dstep2 km_M160 (km_dstep2 km_M176 (km_dstep2 km_M192 (km_dlast2 (by decide +kernel) km_M208)))))))))))))
def km_cw (q : km_Q) : Prop := Cond.code q.1 q.2.1 q.2.2.1 q.2.2.2.1 ∈ lw_tbl
theorem km_t0 {w : Cond} (h : w ∈ tables_1) : w ∈ lw_tbl := List.mem_append_right _ h
theorem km_t1 {w : Cond} (h : w ∈ tables_1_1) : w ∈ lw_tbl := km_t0 (List.mem_append_left _ h)
theorem km_t2 {w : Cond} (h : w ∈ tables_1_2) : w ∈ lw_tbl := km_t0 (List.mem_append_right _ (List.mem_append_left _ h))
theorem km_t3 {w : Cond} (h : w ∈ tables_1_3) : w ∈ lw_tbl := km_t0 (List.mem_append_right _ (List.mem_append_right _ (List.mem_append_left _ h)))
theorem km_t4 {w : Cond} (h : w ∈ tables_1_4) : w ∈ lw_tbl := km_t0 (List.mem_append_right _ (List.mem_append_right _ (List.mem_append_right _ (List.mem_append_left _ h))))
theorem km_t5 {w : Cond} (h : w ∈ tables_1_5) : w ∈ lw_tbl := km_t0 (List.mem_append_right _ (List.mem_append_right _ (List.mem_append_right _ (List.mem_append_right _ (List.mem_append_left _ h)))))
theorem km_t6 {w : Cond} (h : w ∈ tables_1_6) : w ∈ lw_tbl := km_t0 (List.mem_append_right _ (List.mem_append_right _ (List.mem_append_right _ (List.mem_append_right _ (List.mem_append_right _ (h))))))
set_option maxRecDepth 100000 in
theorem km_cw0 : km_cw km_q0 := km_t1 (List.mem_of_getElem? (i := 226) rfl)
set_option maxRecDepth 100000 in
theorem km_cw1 : km_cw km_q1 := km_t3 (List.mem_of_getElem? (i := 113) rfl)
set_option maxRecDepth 100000 in
theorem km_cw2 : km_cw km_q2 := km_t3 (List.mem_of_getElem? (i := 118) rfl)
set_option maxRecDepth 100000 in
theorem km_cw3 : km_cw km_q3 := km_t3 (List.mem_of_getElem? (i := 122) rfl)
set_option maxRecDepth 100000 in
theorem km_cw4 : km_cw km_q4 := km_t4 (List.mem_of_getElem? (i := 81) rfl)
set_option maxRecDepth 100000 in
theorem km_cw5 : km_cw km_q5 := km_t4 (List.mem_of_getElem? (i := 160) rfl)
set_option maxRecDepth 100000 in
theorem km_cw6 : km_cw km_q6 := km_t4 (List.mem_of_getElem? (i := 164) rfl)
set_option maxRecDepth 100000 in
theorem km_cw7 : km_cw km_q7 := km_t4 (List.mem_of_getElem? (i := 93) rfl)
set_option maxRecDepth 100000 in
theorem km_cw8 : km_cw km_q8 := km_t4 (List.mem_of_getElem? (i := 97) rfl)
set_option maxRecDepth 100000 in
theorem km_cw9 : km_cw km_q9 := km_t4 (List.mem_of_getElem? (i := 77) rfl)
set_option maxRecDepth 100000 in
theorem km_cw10 : km_cw km_q10 := km_t4 (List.mem_of_getElem? (i := 89) rfl)
set_option maxRecDepth 100000 in
theorem km_cw11 : km_cw km_q11 := km_t4 (List.mem_of_getElem? (i := 101) rfl)
set_option maxRecDepth 100000 in
theorem km_cw12 : km_cw km_q12 := km_t2 (List.mem_of_getElem? (i := 7) rfl)
set_option maxRecDepth 100000 in
theorem km_cw13 : km_cw km_q13 := km_t4 (List.mem_of_getElem? (i := 40) rfl)
set_option maxRecDepth 100000 in
theorem km_cw14 : km_cw km_q14 := km_t4 (List.mem_of_getElem? (i := 48) rfl)
set_option maxRecDepth 100000 in
theorem km_cw15 : km_cw km_q15 := km_t4 (List.mem_of_getElem? (i := 55) rfl)
set_option maxRecDepth 100000 in
theorem km_cw16 : km_cw km_q16 := km_t4 (List.mem_of_getElem? (i := 63) rfl)
set_option maxRecDepth 100000 in
theorem km_cw17 : km_cw km_q17 := km_t4 (List.mem_of_getElem? (i := 59) rfl)
set_option maxRecDepth 100000 in
theorem km_cw18 : km_cw km_q18 := km_t4 (List.mem_of_getElem? (i := 141) rfl)
set_option maxRecDepth 100000 in
theorem km_cw19 : km_cw km_q19 := km_t4 (List.mem_of_getElem? (i := 171) rfl)
set_option maxRecDepth 100000 in
theorem km_cw20 : km_cw km_q20 := km_t1 (List.mem_of_getElem? (i := 168) rfl)
set_option maxRecDepth 100000 in
theorem km_cw21 : km_cw km_q21 := km_t3 (List.mem_of_getElem? (i := 35) rfl)
set_option maxRecDepth 100000 in
theorem km_cw22 : km_cw km_q22 := km_t3 (List.mem_of_getElem? (i := 39) rfl)
set_option maxRecDepth 100000 in
theorem km_cw23 : km_cw km_q23 := km_t3 (List.mem_of_getElem? (i := 43) rfl)
set_option maxRecDepth 100000 in
theorem km_cw24 : km_cw km_q24 := km_t3 (List.mem_of_getElem? (i := 59) rfl)
set_option maxRecDepth 100000 in
theorem km_cw25 : km_cw km_q25 := km_t3 (List.mem_of_getElem? (i := 63) rfl)
set_option maxRecDepth 100000 in
theorem km_cw26 : km_cw km_q26 := km_t3 (List.mem_of_getElem? (i := 67) rfl)
set_option maxRecDepth 100000 in
theorem km_cw27 : km_cw km_q27 := km_t3 (List.mem_of_getElem? (i := 71) rfl)
set_option maxRecDepth 100000 in
theorem km_cw28 : km_cw km_q28 := km_t3 (List.mem_of_getElem? (i := 75) rfl)
set_option maxRecDepth 100000 in
theorem km_cw29 : km_cw km_q29 := km_t4 (List.mem_of_getElem? (i := 11) rfl)
set_option maxRecDepth 100000 in
theorem km_cw30 : km_cw km_q30 := km_t4 (List.mem_of_getElem? (i := 176) rfl)
set_option maxRecDepth 100000 in
theorem km_cw31 : km_cw km_q31 := km_t3 (List.mem_of_getElem? (i := 187) rfl)
set_option maxRecDepth 100000 in
theorem km_cw32 : km_cw km_q32 := km_t3 (List.mem_of_getElem? (i := 89) rfl)
set_option maxRecDepth 100000 in
theorem km_cw33 : km_cw km_q33 := km_t3 (List.mem_of_getElem? (i := 93) rfl)
set_option maxRecDepth 100000 in
theorem km_cw34 : km_cw km_q34 := km_t3 (List.mem_of_getElem? (i := 85) rfl)
set_option maxRecDepth 100000 in
theorem km_cw35 : km_cw km_q35 := km_t4 (List.mem_of_getElem? (i := 24) rfl)
set_option maxRecDepth 100000 in
theorem km_cw36 : km_cw km_q36 := km_t2 (List.mem_of_getElem? (i := 23) rfl)
set_option maxRecDepth 100000 in
theorem km_cw37 : km_cw km_q37 := km_t3 (List.mem_of_getElem? (i := 97) rfl)
set_option maxRecDepth 100000 in
theorem km_cw38 : km_cw km_q38 := km_t3 (List.mem_of_getElem? (i := 138) rfl)
set_option maxRecDepth 100000 in
theorem km_cw39 : km_cw km_q39 := km_t3 (List.mem_of_getElem? (i := 237) rfl)
set_option maxRecDepth 100000 in
theorem km_cw40 : km_cw km_q40 := km_t1 (List.mem_of_getElem? (i := 61) rfl)
set_option maxRecDepth 100000 in
theorem km_cw41 : km_cw km_q41 := km_t2 (List.mem_of_getElem? (i := 128) rfl)
set_option maxRecDepth 100000 in
theorem km_cw42 : km_cw km_q42 := km_t2 (List.mem_of_getElem? (i := 221) rfl)
set_option maxRecDepth 100000 in
theorem km_cw43 : km_cw km_q43 := km_t2 (List.mem_of_getElem? (i := 132) rfl)
set_option maxRecDepth 100000 in
theorem km_cw44 : km_cw km_q44 := km_t2 (List.mem_of_getElem? (i := 224) rfl)
set_option maxRecDepth 100000 in
theorem km_cw45 : km_cw km_q45 := km_t2 (List.mem_of_getElem? (i := 228) rfl)
set_option maxRecDepth 100000 in
theorem km_cw46 : km_cw km_q46 := km_t2 (List.mem_of_getElem? (i := 232) rfl)
set_option maxRecDepth 100000 in
theorem km_cw47 : km_cw km_q47 := km_t2 (List.mem_of_getElem? (i := 236) rfl)
set_option maxRecDepth 100000 in
theorem km_cw48 : km_cw km_q48 := km_t3 (List.mem_of_getElem? (i := 0) rfl)
set_option maxRecDepth 100000 in
theorem km_cw49 : km_cw km_q49 := km_t3 (List.mem_of_getElem? (i := 4) rfl)
set_option maxRecDepth 100000 in
theorem km_cw50 : km_cw km_q50 := km_t3 (List.mem_of_getElem? (i := 23) rfl)
set_option maxRecDepth 100000 in
theorem km_cw51 : km_cw km_q51 := km_t3 (List.mem_of_getElem? (i := 27) rfl)
set_option maxRecDepth 100000 in
theorem km_cw52 : km_cw km_q52 := km_t3 (List.mem_of_getElem? (i := 31) rfl)
set_option maxRecDepth 100000 in
theorem km_cw53 : km_cw km_q53 := km_t3 (List.mem_of_getElem? (i := 11) rfl)
set_option maxRecDepth 100000 in
theorem km_cw54 : km_cw km_q54 := km_t3 (List.mem_of_getElem? (i := 15) rfl)
set_option maxRecDepth 100000 in
theorem km_cw55 : km_cw km_q55 := km_t3 (List.mem_of_getElem? (i := 19) rfl)
set_option maxRecDepth 100000 in
theorem km_cw56 : km_cw km_q56 := km_t1 (List.mem_of_getElem? (i := 126) rfl)
set_option maxRecDepth 100000 in
theorem km_cw57 : km_cw km_q57 := km_t3 (List.mem_of_getElem? (i := 101) rfl)
set_option maxRecDepth 100000 in
theorem km_cw58 : km_cw km_q58 := km_t4 (List.mem_of_getElem? (i := 137) rfl)
set_option maxRecDepth 100000 in
theorem km_cw59 : km_cw km_q59 := km_t3 (List.mem_of_getElem? (i := 47) rfl)
set_option maxRecDepth 100000 in
theorem km_cw60 : km_cw km_q60 := km_t3 (List.mem_of_getElem? (i := 197) rfl)
set_option maxRecDepth 100000 in
theorem km_cw61 : km_cw km_q61 := km_t3 (List.mem_of_getElem? (i := 51) rfl)
set_option maxRecDepth 100000 in
theorem km_cw62 : km_cw km_q62 := km_t3 (List.mem_of_getElem? (i := 55) rfl)
set_option maxRecDepth 100000 in
theorem km_cw63 : km_cw km_q63 := km_t4 (List.mem_of_getElem? (i := 44) rfl)
set_option maxRecDepth 100000 in
theorem km_cw64 : km_cw km_q64 := km_t4 (List.mem_of_getElem? (i := 28) rfl)
set_option maxRecDepth 100000 in
theorem km_cw65 : km_cw km_q65 := km_t4 (List.mem_of_getElem? (i := 180) rfl)
set_option maxRecDepth 100000 in
theorem km_cw66 : km_cw km_q66 := km_t3 (List.mem_of_getElem? (i := 201) rfl)
set_option maxRecDepth 100000 in
theorem km_cw67 : km_cw km_q67 := km_t3 (List.mem_of_getElem? (i := 209) rfl)
set_option maxRecDepth 100000 in
theorem km_cw68 : km_cw km_q68 := km_t3 (List.mem_of_getElem? (i := 160) rfl)
set_option maxRecDepth 100000 in
theorem km_cw69 : km_cw km_q69 := km_t3 (List.mem_of_getElem? (i := 164) rfl)
set_option maxRecDepth 100000 in
theorem km_cw70 : km_cw km_q70 := km_t3 (List.mem_of_getElem? (i := 173) rfl)
set_option maxRecDepth 100000 in
theorem km_cw71 : km_cw km_q71 := km_t3 (List.mem_of_getElem? (i := 147) rfl)
set_option maxRecDepth 100000 in
theorem km_cw72 : km_cw km_q72 := km_t3 (List.mem_of_getElem? (i := 151) rfl)
set_option maxRecDepth 100000 in
theorem km_cw73 : km_cw km_q73 := km_t3 (List.mem_of_getElem? (i := 182) rfl)
set_option maxRecDepth 100000 in
theorem km_cw74 : km_cw km_q74 := km_t3 (List.mem_of_getElem? (i := 225) rfl)
set_option maxRecDepth 100000 in
theorem km_cw75 : km_cw km_q75 := km_t3 (List.mem_of_getElem? (i := 229) rfl)
set_option maxRecDepth 100000 in
theorem km_cw76 : km_cw km_q76 := km_t2 (List.mem_of_getElem? (i := 43) rfl)
set_option maxRecDepth 100000 in
theorem km_cw77 : km_cw km_q77 := km_t4 (List.mem_of_getElem? (i := 122) rfl)
set_option maxRecDepth 100000 in
theorem km_cw78 : km_cw km_q78 := km_t4 (List.mem_of_getElem? (i := 126) rfl)
set_option maxRecDepth 100000 in
theorem km_cw79 : km_cw km_q79 := km_t1 (List.mem_of_getElem? (i := 30) rfl)
set_option maxRecDepth 100000 in
theorem km_cw80 : km_cw km_q80 := km_t2 (List.mem_of_getElem? (i := 116) rfl)
set_option maxRecDepth 100000 in
theorem km_cw81 : km_cw km_q81 := km_t2 (List.mem_of_getElem? (i := 136) rfl)
set_option maxRecDepth 100000 in
theorem km_cw82 : km_cw km_q82 := km_t2 (List.mem_of_getElem? (i := 140) rfl)
set_option maxRecDepth 100000 in
theorem km_cw83 : km_cw km_q83 := km_t2 (List.mem_of_getElem? (i := 154) rfl)
set_option maxRecDepth 100000 in
theorem km_cw84 : km_cw km_q84 := km_t2 (List.mem_of_getElem? (i := 159) rfl)
set_option maxRecDepth 100000 in
theorem km_cw85 : km_cw km_q85 := km_t2 (List.mem_of_getElem? (i := 217) rfl)
set_option maxRecDepth 100000 in
theorem km_cw86 : km_cw km_q86 := km_t2 (List.mem_of_getElem? (i := 144) rfl)
set_option maxRecDepth 100000 in
theorem km_cw87 : km_cw km_q87 := km_t2 (List.mem_of_getElem? (i := 147) rfl)
set_option maxRecDepth 100000 in
theorem km_cw88 : km_cw km_q88 := km_t2 (List.mem_of_getElem? (i := 150) rfl)
set_option maxRecDepth 100000 in
theorem km_cw89 : km_cw km_q89 := km_t2 (List.mem_of_getElem? (i := 213) rfl)
set_option maxRecDepth 100000 in
theorem km_cw90 : km_cw km_q90 := km_t1 (List.mem_of_getElem? (i := 22) rfl)
set_option maxRecDepth 100000 in
theorem km_cw91 : km_cw km_q91 := km_t2 (List.mem_of_getElem? (i := 112) rfl)
set_option maxRecDepth 100000 in
theorem km_cw92 : km_cw km_q92 := km_t2 (List.mem_of_getElem? (i := 120) rfl)
set_option maxRecDepth 100000 in
theorem km_cw93 : km_cw km_q93 := km_t2 (List.mem_of_getElem? (i := 124) rfl)
set_option maxRecDepth 100000 in
theorem km_cw94 : km_cw km_q94 := km_t3 (List.mem_of_getElem? (i := 126) rfl)
set_option maxRecDepth 100000 in
theorem km_cw95 : km_cw km_q95 := km_t3 (List.mem_of_getElem? (i := 130) rfl)
set_option maxRecDepth 100000 in
theorem km_cw96 : km_cw km_q96 := km_t3 (List.mem_of_getElem? (i := 156) rfl)
set_option maxRecDepth 100000 in
theorem km_cw97 : km_cw km_q97 := km_t3 (List.mem_of_getElem? (i := 168) rfl)
set_option maxRecDepth 100000 in
theorem km_cw98 : km_cw km_q98 := km_t3 (List.mem_of_getElem? (i := 178) rfl)
set_option maxRecDepth 100000 in
theorem km_cw99 : km_cw km_q99 := km_t3 (List.mem_of_getElem? (i := 193) rfl)
set_option maxRecDepth 100000 in
theorem km_cw100 : km_cw km_q100 := km_t3 (List.mem_of_getElem? (i := 205) rfl)
set_option maxRecDepth 100000 in
theorem km_cw101 : km_cw km_q101 := km_t3 (List.mem_of_getElem? (i := 213) rfl)
set_option maxRecDepth 100000 in
theorem km_cw102 : km_cw km_q102 := km_t3 (List.mem_of_getElem? (i := 217) rfl)
set_option maxRecDepth 100000 in
theorem km_cw103 : km_cw km_q103 := km_t3 (List.mem_of_getElem? (i := 233) rfl)
set_option maxRecDepth 100000 in
theorem km_cw104 : km_cw km_q104 := km_t4 (List.mem_of_getElem? (i := 1) rfl)
set_option maxRecDepth 100000 in
theorem km_cw105 : km_cw km_q105 := km_t4 (List.mem_of_getElem? (i := 6) rfl)
set_option maxRecDepth 100000 in
theorem km_cw106 : km_cw km_q106 := km_t4 (List.mem_of_getElem? (i := 15) rfl)
set_option maxRecDepth 100000 in
theorem km_cw107 : km_cw km_q107 := km_t4 (List.mem_of_getElem? (i := 20) rfl)
set_option maxRecDepth 100000 in
theorem km_cw108 : km_cw km_q108 := km_t4 (List.mem_of_getElem? (i := 32) rfl)
set_option maxRecDepth 100000 in
theorem km_cw109 : km_cw km_q109 := km_t4 (List.mem_of_getElem? (i := 68) rfl)
set_option maxRecDepth 100000 in
theorem km_cw110 : km_cw km_q110 := km_t4 (List.mem_of_getElem? (i := 72) rfl)
set_option maxRecDepth 100000 in
theorem km_cw111 : km_cw km_q111 := km_t4 (List.mem_of_getElem? (i := 105) rfl)
set_option maxRecDepth 100000 in
theorem km_cw112 : km_cw km_q112 := km_t4 (List.mem_of_getElem? (i := 118) rfl)
set_option maxRecDepth 100000 in
theorem km_cw113 : km_cw km_q113 := km_t4 (List.mem_of_getElem? (i := 133) rfl)
set_option maxRecDepth 100000 in
theorem km_cw114 : km_cw km_q114 := km_t4 (List.mem_of_getElem? (i := 146) rfl)
set_option maxRecDepth 100000 in
theorem km_cw115 : km_cw km_q115 := km_t4 (List.mem_of_getElem? (i := 150) rfl)
set_option maxRecDepth 100000 in
theorem km_cw116 : km_cw km_q116 := km_t4 (List.mem_of_getElem? (i := 154) rfl)
set_option maxRecDepth 100000 in
theorem km_cw117 : km_cw km_q117 := km_t3 (List.mem_of_getElem? (i := 108) rfl)
set_option maxRecDepth 100000 in
theorem km_cw118 : km_cw km_q118 := km_t3 (List.mem_of_getElem? (i := 221) rfl)
set_option maxRecDepth 100000 in
theorem km_cw119 : km_cw km_q119 := km_t4 (List.mem_of_getElem? (i := 185) rfl)
set_option maxRecDepth 100000 in
theorem km_cw120 : km_cw km_q120 := km_t3 (List.mem_of_getElem? (i := 134) rfl)
set_option maxRecDepth 100000 in
theorem km_cw121 : km_cw km_q121 := km_t4 (List.mem_of_getElem? (i := 36) rfl)
set_option maxRecDepth 100000 in
theorem km_cw122 : km_cw km_q122 := km_t4 (List.mem_of_getElem? (i := 109) rfl)
set_option maxRecDepth 100000 in
theorem km_cw123 : km_cw km_q123 := km_t4 (List.mem_of_getElem? (i := 114) rfl)
set_option maxRecDepth 100000 in
theorem km_cw124 : km_cw km_q124 := km_t4 (List.mem_of_getElem? (i := 190) rfl)
set_option maxRecDepth 100000 in
theorem km_cw125 : km_cw km_q125 := km_t5 (List.mem_of_getElem? (i := 118) rfl)
set_option maxRecDepth 100000 in
theorem km_cw126 : km_cw km_q126 := km_t5 (List.mem_of_getElem? (i := 122) rfl)
set_option maxRecDepth 100000 in
theorem km_cw127 : km_cw km_q127 := km_t5 (List.mem_of_getElem? (i := 126) rfl)
set_option maxRecDepth 100000 in
theorem km_cw128 : km_cw km_q128 := km_t5 (List.mem_of_getElem? (i := 138) rfl)
set_option maxRecDepth 100000 in
theorem km_cw129 : km_cw km_q129 := km_t5 (List.mem_of_getElem? (i := 148) rfl)
set_option maxRecDepth 100000 in
theorem km_cw130 : km_cw km_q130 := km_t5 (List.mem_of_getElem? (i := 145) rfl)
set_option maxRecDepth 100000 in
theorem km_cw131 : km_cw km_q131 := km_t4 (List.mem_of_getElem? (i := 197) rfl)
set_option maxRecDepth 100000 in
theorem km_cw132 : km_cw km_q132 := km_t4 (List.mem_of_getElem? (i := 194) rfl)
set_option maxRecDepth 100000 in
theorem km_cw133 : km_cw km_q133 := km_t5 (List.mem_of_getElem? (i := 142) rfl)
set_option maxRecDepth 100000 in
theorem km_cw134 : km_cw km_q134 := km_t5 (List.mem_of_getElem? (i := 134) rfl)
set_option maxRecDepth 100000 in
theorem km_cw135 : km_cw km_q135 := km_t5 (List.mem_of_getElem? (i := 152) rfl)
set_option maxRecDepth 100000 in
theorem km_cw136 : km_cw km_q136 := km_t5 (List.mem_of_getElem? (i := 156) rfl)
set_option maxRecDepth 100000 in
theorem km_cw137 : km_cw km_q137 := km_t5 (List.mem_of_getElem? (i := 168) rfl)
set_option maxRecDepth 100000 in
theorem km_cw138 : km_cw km_q138 := km_t5 (List.mem_of_getElem? (i := 199) rfl)
set_option maxRecDepth 100000 in
theorem km_cw139 : km_cw km_q139 := km_t5 (List.mem_of_getElem? (i := 164) rfl)
set_option maxRecDepth 100000 in
theorem km_cw140 : km_cw km_q140 := km_t5 (List.mem_of_getElem? (i := 172) rfl)
set_option maxRecDepth 100000 in
theorem km_cw141 : km_cw km_q141 := km_t5 (List.mem_of_getElem? (i := 130) rfl)
set_option maxRecDepth 100000 in
theorem km_cw142 : km_cw km_q142 := km_t6 (List.mem_of_getElem? (i := 12) rfl)
set_option maxRecDepth 100000 in
theorem km_cw143 : km_cw km_q143 := km_t5 (List.mem_of_getElem? (i := 160) rfl)
set_option maxRecDepth 100000 in
theorem km_cw144 : km_cw km_q144 := km_t5 (List.mem_of_getElem? (i := 176) rfl)
set_option maxRecDepth 100000 in
theorem km_cw145 : km_cw km_q145 := km_t5 (List.mem_of_getElem? (i := 184) rfl)
set_option maxRecDepth 100000 in
theorem km_cw146 : km_cw km_q146 := km_t5 (List.mem_of_getElem? (i := 180) rfl)
set_option maxRecDepth 100000 in
theorem km_cw147 : km_cw km_q147 := km_t5 (List.mem_of_getElem? (i := 188) rfl)
set_option maxRecDepth 100000 in
theorem km_cw148 : km_cw km_q148 := km_t5 (List.mem_of_getElem? (i := 213) rfl)
set_option maxRecDepth 100000 in
theorem km_cw149 : km_cw km_q149 := km_t5 (List.mem_of_getElem? (i := 209) rfl)
set_option maxRecDepth 100000 in
theorem km_cw150 : km_cw km_q150 := km_t5 (List.mem_of_getElem? (i := 217) rfl)
set_option maxRecDepth 100000 in
theorem km_cw151 : km_cw km_q151 := km_t5 (List.mem_of_getElem? (i := 192) rfl)
set_option maxRecDepth 100000 in
theorem km_cw152 : km_cw km_q152 := km_t5 (List.mem_of_getElem? (i := 206) rfl)
set_option maxRecDepth 100000 in
theorem km_cw153 : km_cw km_q153 := km_t5 (List.mem_of_getElem? (i := 195) rfl)
set_option maxRecDepth 100000 in
theorem km_cw154 : km_cw km_q154 := km_t5 (List.mem_of_getElem? (i := 202) rfl)
set_option maxRecDepth 100000 in
theorem km_cw155 : km_cw km_q155 := km_t6 (List.mem_of_getElem? (i := 149) rfl)
set_option maxRecDepth 100000 in
theorem km_cw156 : km_cw km_q156 := km_t6 (List.mem_of_getElem? (i := 8) rfl)
set_option maxRecDepth 100000 in
theorem km_cw157 : km_cw km_q157 := km_t5 (List.mem_of_getElem? (i := 229) rfl)
set_option maxRecDepth 100000 in
theorem km_cw158 : km_cw km_q158 := km_t5 (List.mem_of_getElem? (i := 233) rfl)
set_option maxRecDepth 100000 in
theorem km_cw159 : km_cw km_q159 := km_t5 (List.mem_of_getElem? (i := 237) rfl)
set_option maxRecDepth 100000 in
theorem km_cw160 : km_cw km_q160 := km_t6 (List.mem_of_getElem? (i := 40) rfl)
set_option maxRecDepth 100000 in
theorem km_cw161 : km_cw km_q161 := km_t5 (List.mem_of_getElem? (i := 225) rfl)
set_option maxRecDepth 100000 in
theorem km_cw162 : km_cw km_q162 := km_t6 (List.mem_of_getElem? (i := 1) rfl)
set_option maxRecDepth 100000 in
theorem km_cw163 : km_cw km_q163 := km_t6 (List.mem_of_getElem? (i := 5) rfl)
set_option maxRecDepth 100000 in
theorem km_cw164 : km_cw km_q164 := km_t5 (List.mem_of_getElem? (i := 221) rfl)
set_option maxRecDepth 100000 in
theorem km_cw165 : km_cw km_q165 := km_t6 (List.mem_of_getElem? (i := 44) rfl)
set_option maxRecDepth 100000 in
theorem km_cw166 : km_cw km_q166 := km_t6 (List.mem_of_getElem? (i := 36) rfl)
set_option maxRecDepth 100000 in
theorem km_cw167 : km_cw km_q167 := km_t6 (List.mem_of_getElem? (i := 225) rfl)
set_option maxRecDepth 100000 in
theorem km_cw168 : km_cw km_q168 := km_t6 (List.mem_of_getElem? (i := 87) rfl)
set_option maxRecDepth 100000 in
theorem km_cw169 : km_cw km_q169 := km_t6 (List.mem_of_getElem? (i := 55) rfl)
set_option maxRecDepth 100000 in
theorem km_cw170 : km_cw km_q170 := km_t6 (List.mem_of_getElem? (i := 52) rfl)
set_option maxRecDepth 100000 in
theorem km_cw171 : km_cw km_q171 := km_t6 (List.mem_of_getElem? (i := 83) rfl)
set_option maxRecDepth 100000 in
theorem km_cw172 : km_cw km_q172 := km_t6 (List.mem_of_getElem? (i := 71) rfl)
set_option maxRecDepth 100000 in
theorem km_cw173 : km_cw km_q173 := km_t6 (List.mem_of_getElem? (i := 63) rfl)
set_option maxRecDepth 100000 in
theorem km_cw174 : km_cw km_q174 := km_t6 (List.mem_of_getElem? (i := 67) rfl)
set_option maxRecDepth 100000 in
theorem km_cw175 : km_cw km_q175 := km_t6 (List.mem_of_getElem? (i := 94) rfl)
set_option maxRecDepth 100000 in
theorem km_cw176 : km_cw km_q176 := km_t6 (List.mem_of_getElem? (i := 48) rfl)
set_option maxRecDepth 100000 in
theorem km_cw177 : km_cw km_q177 := km_t6 (List.mem_of_getElem? (i := 16) rfl)
set_option maxRecDepth 100000 in
theorem km_cw178 : km_cw km_q178 := km_t6 (List.mem_of_getElem? (i := 20) rfl)
set_option maxRecDepth 100000 in
theorem km_cw179 : km_cw km_q179 := km_t6 (List.mem_of_getElem? (i := 28) rfl)
set_option maxRecDepth 100000 in
theorem km_cw180 : km_cw km_q180 := km_t6 (List.mem_of_getElem? (i := 24) rfl)
set_option maxRecDepth 100000 in
theorem km_cw181 : km_cw km_q181 := km_t6 (List.mem_of_getElem? (i := 32) rfl)
set_option maxRecDepth 100000 in
theorem km_cw182 : km_cw km_q182 := km_t6 (List.mem_of_getElem? (i := 59) rfl)
set_option maxRecDepth 100000 in
theorem km_cw183 : km_cw km_q183 := km_t6 (List.mem_of_getElem? (i := 75) rfl)
set_option maxRecDepth 100000 in
theorem km_cw184 : km_cw km_q184 := km_t6 (List.mem_of_getElem? (i := 79) rfl)
set_option maxRecDepth 100000 in
theorem km_cw185 : km_cw km_q185 := km_t6 (List.mem_of_getElem? (i := 91) rfl)
set_option maxRecDepth 100000 in
theorem km_cw186 : km_cw km_q186 := km_t6 (List.mem_of_getElem? (i := 98) rfl)
set_option maxRecDepth 100000 in
theorem km_cw187 : km_cw km_q187 := km_t6 (List.mem_of_getElem? (i := 102) rfl)
set_option maxRecDepth 100000 in
theorem km_cw188 : km_cw km_q188 := km_t6 (List.mem_of_getElem? (i := 106) rfl)
set_option maxRecDepth 100000 in
theorem km_cw189 : km_cw km_q189 := km_t6 (List.mem_of_getElem? (i := 110) rfl)
set_option maxRecDepth 100000 in
theorem km_cw190 : km_cw km_q190 := km_t6 (List.mem_of_getElem? (i := 123) rfl)
set_option maxRecDepth 100000 in
theorem km_cw191 : km_cw km_q191 := km_t6 (List.mem_of_getElem? (i := 114) rfl)
set_option maxRecDepth 100000 in
theorem km_cw192 : km_cw km_q192 := km_t6 (List.mem_of_getElem? (i := 127) rfl)
set_option maxRecDepth 100000 in
theorem km_cw193 : km_cw km_q193 := km_t6 (List.mem_of_getElem? (i := 138) rfl)
set_option maxRecDepth 100000 in
theorem km_cw194 : km_cw km_q194 := km_t6 (List.mem_of_getElem? (i := 135) rfl)
set_option maxRecDepth 100000 in
theorem km_cw195 : km_cw km_q195 := km_t6 (List.mem_of_getElem? (i := 131) rfl)
set_option maxRecDepth 100000 in
theorem km_cw196 : km_cw km_q196 := km_t6 (List.mem_of_getElem? (i := 146) rfl)
set_option maxRecDepth 100000 in
theorem km_cw197 : km_cw km_q197 := km_t6 (List.mem_of_getElem? (i := 153) rfl)
set_option maxRecDepth 100000 in
theorem km_cw198 : km_cw km_q198 := km_t6 (List.mem_of_getElem? (i := 160) rfl)
set_option maxRecDepth 100000 in
theorem km_cw199 : km_cw km_q199 := km_t6 (List.mem_of_getElem? (i := 157) rfl)
set_option maxRecDepth 100000 in
theorem km_cw200 : km_cw km_q200 := km_t6 (List.mem_of_getElem? (i := 142) rfl)
set_option maxRecDepth 100000 in
theorem km_cw201 : km_cw km_q201 := km_t6 (List.mem_of_getElem? (i := 221) rfl)
set_option maxRecDepth 100000 in
theorem km_cw202 : km_cw km_q202 := km_t6 (List.mem_of_getElem? (i := 164) rfl)
set_option maxRecDepth 100000 in
theorem km_cw203 : km_cw km_q203 := km_t6 (List.mem_of_getElem? (i := 119) rfl)
set_option maxRecDepth 100000 in
theorem km_cw204 : km_cw km_q204 := km_t6 (List.mem_of_getElem? (i := 173) rfl)
set_option maxRecDepth 100000 in
theorem km_cw205 : km_cw km_q205 := km_t6 (List.mem_of_getElem? (i := 168) rfl)
set_option maxRecDepth 100000 in
theorem km_cw206 : km_cw km_q206 := km_t6 (List.mem_of_getElem? (i := 177) rfl)
set_option maxRecDepth 100000 in
theorem km_cw207 : km_cw km_q207 := km_t6 (List.mem_of_getElem? (i := 181) rfl)
set_option maxRecDepth 100000 in
theorem km_cw208 : km_cw km_q208 := km_t6 (List.mem_of_getElem? (i := 185) rfl)
set_option maxRecDepth 100000 in
theorem km_cw209 : km_cw km_q209 := km_t6 (List.mem_of_getElem? (i := 217) rfl)
set_option maxRecDepth 100000 in
theorem km_cw210 : km_cw km_q210 := km_t6 (List.mem_of_getElem? (i := 193) rfl)
set_option maxRecDepth 100000 in
theorem km_cw211 : km_cw km_q211 := km_t6 (List.mem_of_getElem? (i := 189) rfl)
set_option maxRecDepth 100000 in
theorem km_cw212 : km_cw km_q212 := km_t6 (List.mem_of_getElem? (i := 201) rfl)
set_option maxRecDepth 100000 in
theorem km_cw213 : km_cw km_q213 := km_t6 (List.mem_of_getElem? (i := 197) rfl)
set_option maxRecDepth 100000 in
theorem km_cw214 : km_cw km_q214 := km_t6 (List.mem_of_getElem? (i := 209) rfl)
set_option maxRecDepth 100000 in
theorem km_cw215 : km_cw km_q215 := km_t6 (List.mem_of_getElem? (i := 205) rfl)
set_option maxRecDepth 100000 in
theorem km_cw216 : km_cw km_q216 := km_t6 (List.mem_of_getElem? (i := 229) rfl)
set_option maxRecDepth 100000 in
theorem km_cw217 : km_cw km_q217 := km_t6 (List.mem_of_getElem? (i := 213) rfl)
set_option maxRecDepth 100000 in
theorem km_cw218 : km_cw km_q218 := km_t3 (List.mem_of_getElem? (i := 78) rfl)
set_option maxRecDepth 100000 in
theorem km_cw219 : km_cw km_q219 := km_t4 (List.mem_of_getElem? (i := 85) rfl)
set_option maxRecDepth 100000 in
theorem km_cw220 : km_cw km_q220 := km_t4 (List.mem_of_getElem? (i := 167) rfl)
set_option maxRecDepth 100000 in
theorem km_cw221 : km_cw km_q221 := km_t3 (List.mem_of_getElem? (i := 7) rfl)
set_option maxRecDepth 100000 in
theorem km_cw222 : km_cw km_q222 := km_t3 (List.mem_of_getElem? (i := 142) rfl)
theorem km_cwl0 : ∀ x ∈ [km_q0, km_q1, km_q2, km_q3, km_q4, km_q5, km_q6, km_q7, km_q8, km_q9, km_q10, km_q11, km_q12, km_q13, km_q14, km_q15], km_cw x := List.forall_mem_cons.mpr ⟨km_cw0, List.forall_mem_cons.mpr ⟨km_cw1, List.forall_mem_cons.mpr ⟨km_cw2, List.forall_mem_cons.mpr ⟨km_cw3, List.forall_mem_cons.mpr ⟨km_cw4, List.forall_mem_cons.mpr ⟨km_cw5, List.forall_mem_cons.mpr ⟨km_cw6, List.forall_mem_cons.mpr ⟨km_cw7, List.forall_mem_cons.mpr ⟨km_cw8, List.forall_mem_cons.mpr ⟨km_cw9, List.forall_mem_cons.mpr ⟨km_cw10, List.forall_mem_cons.mpr ⟨km_cw11, List.forall_mem_cons.mpr ⟨km_cw12, List.forall_mem_cons.mpr ⟨km_cw13, List.forall_mem_cons.mpr ⟨km_cw14, List.forall_mem_cons.mpr ⟨km_cw15, fun _ h => absurd h List.not_mem_nil⟩⟩⟩⟩⟩⟩⟩⟩⟩⟩⟩⟩⟩⟩⟩⟩
theorem km_cwl16 : ∀ x ∈ [km_q16, km_q17, km_q18, km_q19, km_q20, km_q21, km_q22, km_q23, km_q24, km_q25, km_q26, km_q27, km_q28, km_q29, km_q30, km_q31], km_cw x := List.forall_mem_cons.mpr ⟨km_cw16, List.forall_mem_cons.mpr ⟨km_cw17, List.forall_mem_cons.mpr ⟨km_cw18, List.forall_mem_cons.mpr ⟨km_cw19, List.forall_mem_cons.mpr ⟨km_cw20, List.forall_mem_cons.mpr ⟨km_cw21, List.forall_mem_cons.mpr ⟨km_cw22, List.forall_mem_cons.mpr ⟨km_cw23, List.forall_mem_cons.mpr ⟨km_cw24, List.forall_mem_cons.mpr ⟨km_cw25, List.forall_mem_cons.mpr ⟨km_cw26, List.forall_mem_cons.mpr ⟨km_cw27, List.forall_mem_cons.mpr ⟨km_cw28, List.forall_mem_cons.mpr ⟨km_cw29, List.forall_mem_cons.mpr ⟨km_cw30, List.forall_mem_cons.mpr ⟨km_cw31, fun _ h => absurd h List.not_mem_nil⟩⟩⟩⟩⟩⟩⟩⟩⟩⟩⟩⟩⟩⟩⟩⟩
theorem km_cwl32 : ∀ x ∈ [km_q32, km_q33, km_q34, km_q35, km_q36, km_q37, km_q38, km_q39, km_q40, km_q41, km_q42, km_q43, km_q44, km_q45, km_q46, km_q47], km_cw x := List.forall_mem_cons.mpr ⟨km_cw32, List.forall_mem_cons.mpr ⟨km_cw33, List.forall_mem_cons.mpr ⟨km_cw34, List.forall_mem_cons.mpr ⟨km_cw35, List.forall_mem_cons.mpr ⟨km_cw36, List.forall_mem_cons.mpr ⟨km_cw37, List.forall_mem_cons.mpr ⟨km_cw38, List.forall_mem_cons.mpr ⟨km_cw39, List.forall_mem_cons.mpr ⟨km_cw40, List.forall_mem_cons.mpr ⟨km_cw41, List.forall_mem_cons.mpr ⟨km_cw42, List.forall_mem_cons.mpr ⟨km_cw43, List.forall_mem_cons.mpr ⟨km_cw44, List.forall_mem_cons.mpr ⟨km_cw45, List.forall_mem_cons.mpr ⟨km_cw46, List.forall_mem_cons.mpr ⟨km_cw47, fun _ h => absurd h List.not_mem_nil⟩⟩⟩⟩⟩⟩⟩⟩⟩⟩⟩⟩⟩⟩⟩⟩
theorem km_cwl48 : ∀ x ∈ [km_q48, km_q49, km_q50, km_q51, km_q52, km_q53, km_q54, km_q55, km_q56, km_q57, km_q58, km_q59, km_q60, km_q61, km_q62, km_q63], km_cw x := List.forall_mem_cons.mpr ⟨km_cw48, List.forall_mem_cons.mpr ⟨km_cw49, List.forall_mem_cons.mpr ⟨km_cw50, List.forall_mem_cons.mpr ⟨km_cw51, List.forall_mem_cons.mpr ⟨km_cw52, List.forall_mem_cons.mpr ⟨km_cw53, List.forall_mem_cons.mpr ⟨km_cw54, List.forall_mem_cons.mpr ⟨km_cw55, List.forall_mem_cons.mpr ⟨km_cw56, List.forall_mem_cons.mpr ⟨km_cw57, List.forall_mem_cons.mpr ⟨km_cw58, List.forall_mem_cons.mpr ⟨km_cw59, List.forall_mem_cons.mpr ⟨km_cw60, List.forall_mem_cons.mpr ⟨km_cw61, List.forall_mem_cons.mpr ⟨km_cw62, List.forall_mem_cons.mpr ⟨km_cw63, fun _ h => absurd h List.not_mem_nil⟩⟩⟩⟩⟩⟩⟩⟩⟩⟩⟩⟩⟩⟩⟩⟩
theorem km_cwl64 : ∀ x ∈ [km_q64, km_q65, km_q66, km_q67, km_q68, km_q69, km_q70, km_q71, km_q72, km_q73, km_q74, km_q75, km_q76, km_q77, km_q78, km_q79], km_cw x := List.forall_mem_cons.mpr ⟨km_cw64, List.forall_mem_cons.mpr ⟨km_cw65, List.forall_mem_cons.mpr ⟨km_cw66, List.forall_mem_cons.mpr ⟨km_cw67, List.forall_mem_cons.mpr ⟨km_cw68, List.forall_mem_cons.mpr ⟨km_cw69, List.forall_mem_cons.mpr ⟨km_cw70, List.forall_mem_cons.mpr ⟨km_cw71, List.forall_mem_cons.mpr ⟨km_cw72, List.forall_mem_cons.mpr ⟨km_cw73, List.forall_mem_cons.mpr ⟨km_cw74, List.forall_mem_cons.mpr ⟨km_cw75, List.forall_mem_cons.mpr ⟨km_cw76, List.forall_mem_cons.mpr ⟨km_cw77, List.forall_mem_cons.mpr ⟨km_cw78, List.forall_mem_cons.mpr ⟨km_cw79, fun _ h => absurd h List.not_mem_nil⟩⟩⟩⟩⟩⟩⟩⟩⟩⟩⟩⟩⟩⟩⟩⟩
theorem km_cwl80 : ∀ x ∈ [km_q80, km_q81, km_q82, km_q83, km_q84, km_q85, km_q86, km_q87, km_q88, km_q89, km_q90, km_q91, km_q92, km_q93, km_q94, km_q95], km_cw x := List.forall_mem_cons.mpr ⟨km_cw80, List.forall_mem_cons.mpr ⟨km_cw81, List.forall_mem_cons.mpr ⟨km_cw82, List.forall_mem_cons.mpr ⟨km_cw83, List.forall_mem_cons.mpr ⟨km_cw84, List.forall_mem_cons.mpr ⟨km_cw85, List.forall_mem_cons.mpr ⟨km_cw86, List.forall_mem_cons.mpr ⟨km_cw87, List.forall_mem_cons.mpr ⟨km_cw88, List.forall_mem_cons.mpr ⟨km_cw89, List.forall_mem_cons.mpr ⟨km_cw90, List.forall_mem_cons.mpr ⟨km_cw91, List.forall_mem_cons.mpr ⟨km_cw92, List.forall_mem_cons.mpr ⟨km_cw93, List.forall_mem_cons.mpr ⟨km_cw94, List.forall_mem_cons.mpr ⟨km_cw95, fun _ h => absurd h List.not_mem_nil⟩⟩⟩⟩⟩⟩⟩⟩⟩⟩⟩⟩⟩⟩⟩⟩
theorem km_cwl96 : ∀ x ∈ [km_q96, km_q97, km_q98, km_q99, km_q100, km_q101, km_q102, km_q103, km_q104, km_q105, km_q106, km_q107, km_q108, km_q109, km_q110, km_q111], km_cw x := List.forall_mem_cons.mpr ⟨km_cw96, List.forall_mem_cons.mpr ⟨km_cw97, List.forall_mem_cons.mpr ⟨km_cw98, List.forall_mem_cons.mpr ⟨km_cw99, List.forall_mem_cons.mpr ⟨km_cw100, List.forall_mem_cons.mpr ⟨km_cw101, List.forall_mem_cons.mpr ⟨km_cw102, List.forall_mem_cons.mpr ⟨km_cw103, List.forall_mem_cons.mpr ⟨km_cw104, List.forall_mem_cons.mpr ⟨km_cw105, List.forall_mem_cons.mpr ⟨km_cw106, List.forall_mem_cons.mpr ⟨km_cw107, List.forall_mem_cons.mpr ⟨km_cw108, List.forall_mem_cons.mpr ⟨km_cw109, List.forall_mem_cons.mpr ⟨km_cw110, List.forall_mem_cons.mpr ⟨km_cw111, fun _ h => absurd h List.not_mem_nil⟩⟩⟩⟩⟩⟩⟩⟩⟩⟩⟩⟩⟩⟩⟩⟩
theorem km_cwl112 : ∀ x ∈ [km_q112, km_q113, km_q114, km_q115, km_q116, km_q117, km_q118, km_q119, km_q120, km_q121, km_q122, km_q123, km_q124, km_q125, km_q126, km_q127], km_cw x := List.forall_mem_cons.mpr ⟨km_cw112, List.forall_mem_cons.mpr ⟨km_cw113, List.forall_mem_cons.mpr ⟨km_cw114, List.forall_mem_cons.mpr ⟨km_cw115, List.forall_mem_cons.mpr ⟨km_cw116, List.forall_mem_cons.mpr ⟨km_cw117, List.forall_mem_cons.mpr ⟨km_cw118, List.forall_mem_cons.mpr ⟨km_cw119, List.forall_mem_cons.mpr ⟨km_cw120, List.forall_mem_cons.mpr ⟨km_cw121, List.forall_mem_cons.mpr ⟨km_cw122, List.forall_mem_cons.mpr ⟨km_cw123, List.forall_mem_cons.mpr ⟨km_cw124, List.forall_mem_cons.mpr ⟨km_cw125, List.forall_mem_cons.mpr ⟨km_cw126, List.forall_mem_cons.mpr ⟨km_cw127, fun _ h => absurd h List.not_mem_nil⟩⟩⟩⟩⟩⟩⟩⟩⟩⟩⟩⟩⟩⟩⟩⟩
theorem km_cwl128 : ∀ x ∈ [km_q128, km_q129, km_q130, km_q131, km_q132, km_q133, km_q134, km_q135, km_q136, km_q137, km_q138, km_q139, km_q140, km_q141, km_q142, km_q143], km_cw x := List.forall_mem_cons.mpr ⟨km_cw128, List.forall_mem_cons.mpr ⟨km_cw129, List.forall_mem_cons.mpr ⟨km_cw130, List.forall_mem_cons.mpr ⟨km_cw131, List.forall_mem_cons.mpr ⟨km_cw132, List.forall_mem_cons.mpr ⟨km_cw133, List.forall_mem_cons.mpr ⟨km_cw134, List.forall_mem_cons.mpr ⟨km_cw135, List.forall_mem_cons.mpr ⟨km_cw136, List.forall_mem_cons.mpr ⟨km_cw137, List.forall_mem_cons.mpr ⟨km_cw138, List.forall_mem_cons.mpr ⟨km_cw139, List.forall_mem_cons.mpr ⟨km_cw140, List.forall_mem_cons.mpr ⟨km_cw141, List.forall_mem_cons.mpr ⟨km_cw142, List.forall_mem_cons.mpr ⟨km_cw143, fun _ h => absurd h List.not_mem_nil⟩⟩⟩⟩⟩⟩⟩⟩⟩⟩⟩⟩⟩⟩⟩⟩
theorem km_cwl144 : ∀ x ∈ [km_q144, km_q145, km_q146, km_q147, km_q148, km_q149, km_q150, km_q151, km_q152, km_q153, km_q154, km_q155, km_q156, km_q157, km_q158, km_q159], km_cw x := List.forall_mem_cons.mpr ⟨km_cw144, List.forall_mem_cons.mpr ⟨km_cw145, List.forall_mem_cons.mpr ⟨km_cw146, List.forall_mem_cons.mpr ⟨km_cw147, List.forall_mem_cons.mpr ⟨km_cw148, List.forall_mem_cons.mpr ⟨km_cw149, List.forall_mem_cons.mpr ⟨km_cw150, List.forall_mem_cons.mpr ⟨km_cw151, List.forall_mem_cons.mpr ⟨km_cw152, List.forall_mem_cons.mpr ⟨km_cw153, List.forall_mem_cons.mpr ⟨km_cw154, List.forall_mem_cons.mpr ⟨km_cw155, List.forall_mem_cons.mpr ⟨km_cw156, List.forall_mem_cons.mpr ⟨km_cw157, List.forall_mem_cons.mpr ⟨km_cw158, List.forall_mem_cons.mpr ⟨km_cw159, fun _ h => absurd h List.not_mem_nil⟩⟩⟩⟩⟩⟩⟩⟩⟩⟩⟩⟩⟩⟩⟩⟩
theorem km_cwl160 : ∀ x ∈ [km_q160, km_q161, km_q162, km_q163, km_q164, km_q165, km_q166, km_q167, km_q168, km_q169, km_q170, km_q171, km_q172, km_q173, km_q174, km_q175], km_cw x := List.forall_mem_cons.mpr ⟨km_cw160, List.forall_mem_cons.mpr ⟨km_cw161, List.forall_mem_cons.mpr ⟨km_cw162, List.forall_mem_cons.mpr ⟨km_cw163, List.forall_mem_cons.mpr ⟨km_cw164, List.forall_mem_cons.mpr ⟨km_cw165, List.forall_mem_cons.mpr ⟨km_cw166, List.forall_mem_cons.mpr ⟨km_cw167, List.forall_mem_cons.mpr ⟨km_cw168, List.forall_mem_cons.mpr ⟨km_cw169, List.forall_mem_cons.mpr ⟨km_cw170, List.forall_mem_cons.mpr ⟨km_cw171, List.forall_mem_cons.mpr ⟨km_cw172, List.forall_mem_cons.mpr ⟨km_cw173, List.forall_mem_cons.mpr ⟨km_cw174, List.forall_mem_cons.mpr ⟨km_cw175, fun _ h => absurd h List.not_mem_nil⟩⟩⟩⟩⟩⟩⟩⟩⟩⟩⟩⟩⟩⟩⟩⟩
theorem km_cwl176 : ∀ x ∈ [km_q176, km_q177, km_q178, km_q179, km_q180, km_q181, km_q182, km_q183, km_q184, km_q185, km_q186, km_q187, km_q188, km_q189, km_q190, km_q191], km_cw x := List.forall_mem_cons.mpr ⟨km_cw176, List.forall_mem_cons.mpr ⟨km_cw177, List.forall_mem_cons.mpr ⟨km_cw178, List.forall_mem_cons.mpr ⟨km_cw179, List.forall_mem_cons.mpr ⟨km_cw180, List.forall_mem_cons.mpr ⟨km_cw181, List.forall_mem_cons.mpr ⟨km_cw182, List.forall_mem_cons.mpr ⟨km_cw183, List.forall_mem_cons.mpr ⟨km_cw184, List.forall_mem_cons.mpr ⟨km_cw185, List.forall_mem_cons.mpr ⟨km_cw186, List.forall_mem_cons.mpr ⟨km_cw187, List.forall_mem_cons.mpr ⟨km_cw188, List.forall_mem_cons.mpr ⟨km_cw189, List.forall_mem_cons.mpr ⟨km_cw190, List.forall_mem_cons.mpr ⟨km_cw191, fun _ h => absurd h List.not_mem_nil⟩⟩⟩⟩⟩⟩⟩⟩⟩⟩⟩⟩⟩⟩⟩⟩
theorem km_cwl192 : ∀ x ∈ [km_q192, km_q193, km_q194, km_q195, km_q196, km_q197, km_q198, km_q199, km_q200, km_q201, km_q202, km_q203, km_q204, km_q205, km_q206, km_q207], km_cw x := List.forall_mem_cons.mpr ⟨km_cw192, List.forall_mem_cons.mpr ⟨km_cw193, List.forall_mem_cons.mpr ⟨km_cw194, List.forall_mem_cons.mpr ⟨km_cw195, List.forall_mem_cons.mpr ⟨km_cw196, List.forall_mem_cons.mpr ⟨km_cw197, List.forall_mem_cons.mpr ⟨km_cw198, List.forall_mem_cons.mpr ⟨km_cw199, List.forall_mem_cons.mpr ⟨km_cw200, List.forall_mem_cons.mpr ⟨km_cw201, List.forall_mem_cons.mpr ⟨km_cw202, List.forall_mem_cons.mpr ⟨km_cw203, List.forall_mem_cons.mpr ⟨km_cw204, List.forall_mem_cons.mpr ⟨km_cw205, List.forall_mem_cons.mpr ⟨km_cw206, List.forall_mem_cons.mpr ⟨km_cw207, fun _ h => absurd h List.not_mem_nil⟩⟩⟩⟩⟩⟩⟩⟩⟩⟩⟩⟩⟩⟩⟩⟩
theorem km_cwl208 : ∀ x ∈ [km_q208, km_q209, km_q210, km_q211, km_q212, km_q213, km_q214, km_q215, km_q216, km_q217, km_q218, km_q219, km_q220, km_q221, km_q222], km_cw x := List.forall_mem_cons.mpr ⟨km_cw208, List.forall_mem_cons.mpr ⟨km_cw209, List.forall_mem_cons.mpr ⟨km_cw210, List.forall_mem_cons.mpr ⟨km_cw211, List.forall_mem_cons.mpr ⟨km_cw212, List.forall_mem_cons.mpr ⟨km_cw213, List.forall_mem_cons.mpr ⟨km_cw214, List.forall_mem_cons.mpr ⟨km_cw215, List.forall_mem_cons.mpr ⟨km_cw216, List.forall_mem_cons.mpr ⟨km_cw217, List.forall_mem_cons.mpr ⟨km_cw218, List.forall_mem_cons.mpr ⟨km_cw219, List.forall_mem_cons.mpr ⟨km_cw220, List.forall_mem_cons.mpr ⟨km_cw221, List.forall_mem_cons.mpr ⟨km_cw222, fun _ h => absurd h List.not_mem_nil⟩⟩⟩⟩⟩⟩⟩⟩⟩⟩⟩⟩⟩⟩⟩
def km_cwL : List km_Q := [km_q0, km_q1, km_q2, km_q3, km_q4, km_q5, km_q6, km_q7, km_q8, km_q9, km_q10, km_q11, km_q12, km_q13, km_q14, km_q15] ++ ([km_q16, km_q17, km_q18, km_q19, km_q20, km_q21, km_q22, km_q23, km_q24, km_q25, km_q26, km_q27, km_q28, km_q29, km_q30, km_q31] ++ ([km_q32, km_q33, km_q34, km_q35, km_q36, km_q37, km_q38, km_q39, km_q40, km_q41, km_q42, km_q43, km_q44, km_q45, km_q46, km_q47] ++ ([km_q48, km_q49, km_q50, km_q51, km_q52, km_q53, km_q54, km_q55, km_q56, km_q57, km_q58, km_q59, km_q60, km_q61, km_q62, km_q63] ++ ([km_q64, km_q65, km_q66, km_q67, km_q68, km_q69, km_q70, km_q71, km_q72, km_q73, km_q74, km_q75, km_q76, km_q77, km_q78, km_q79] ++ ([km_q80, km_q81, km_q82, km_q83, km_q84, km_q85, km_q86, km_q87, km_q88, km_q89, km_q90, km_q91, km_q92, km_q93, km_q94, km_q95] ++ ([km_q96, km_q97, km_q98, km_q99, km_q100, km_q101, km_q102, km_q103, km_q104, km_q105, km_q106, km_q107, km_q108, km_q109, km_q110, km_q111] ++ ([km_q112, km_q113, km_q114, km_q115, km_q116, km_q117, km_q118, km_q119, km_q120, km_q121, km_q122, km_q123, km_q124, km_q125, km_q126, km_q127] ++ ([km_q128, km_q129, km_q130, km_q131, km_q132, km_q133, km_q134, km_q135, km_q136, km_q137, km_q138, km_q139, km_q140, km_q141, km_q142, km_q143] ++ ([km_q144, km_q145, km_q146, km_q147, km_q148, km_q149, km_q150, km_q151, km_q152, km_q153, km_q154, km_q155, km_q156, km_q157, km_q158, km_q159] ++ ([km_q160, km_q161, km_q162, km_q163, km_q164, km_q165, km_q166, km_q167, km_q168, km_q169, km_q170, km_q171, km_q172, km_q173, km_q174, km_q175] ++ ([km_q176, km_q177, km_q178, km_q179, km_q180, km_q181, km_q182, km_q183, km_q184, km_q185, km_q186, km_q187, km_q188, km_q189, km_q190, km_q191] ++ ([km_q192, km_q193, km_q194, km_q195, km_q196, km_q197, km_q198, km_q199, km_q200, km_q201, km_q202, km_q203, km_q204, km_q205, km_q206, km_q207] ++ ([km_q208, km_q209, km_q210, km_q211, km_q212, km_q213, km_q214, km_q215, km_q216, km_q217, km_q218, km_q219, km_q220, km_q221, km_q222])))))))))))))
theorem km_cwA : ∀ x ∈ km_cwL, km_cw x := List.forall_mem_append.mpr ⟨km_cwl0, List.forall_mem_append.mpr ⟨km_cwl16, List.forall_mem_append.mpr ⟨km_cwl32, List.forall_mem_append.mpr ⟨km_cwl48, List.forall_mem_append.mpr ⟨km_cwl64, List.forall_mem_append.mpr ⟨km_cwl80, List.forall_mem_append.mpr ⟨km_cwl96, List.forall_mem_append.mpr ⟨km_cwl112, List.forall_mem_append.mpr ⟨km_cwl128, List.forall_mem_append.mpr ⟨km_cwl144, List.forall_mem_append.mpr ⟨km_cwl160, List.forall_mem_append.mpr ⟨km_cwl176, List.forall_mem_append.mpr ⟨km_cwl192, km_cwl208⟩⟩⟩⟩⟩⟩⟩⟩⟩⟩⟩⟩⟩
set_option maxRecDepth 100000 in
theorem km_cwM : km_cwL = km_T.take 223 := rfl
set_option maxRecDepth 100000 in
theorem km_M_len : km_Mp.length = 223 ∧ km_T.length = 224 := by decide +kernel
theorem km_M_at {j : Nat} {q : km_Q} (hj : j < 223) (h : km_T[j]? = some q) : ∃ e, km_okM (q, e) = true := by
  have h1 : j < km_Mp.length := by rw [km_M_len.1]; exact hj
  have h2 : ((km_T.take 223).zip km_Mp)[j]? = some (q, km_Mp[j]) := by
    rw [List.getElem?_zip_eq_some]
    exact ⟨by rw [List.getElem?_take_of_lt hj]; exact h, List.getElem?_eq_getElem h1⟩
  exact ⟨_, List.all_eq_true.mp km_M_ok _ (List.mem_of_getElem? h2)⟩
theorem km_cw_at {j : Nat} {q : km_Q} (hj : j < 223) (h : km_T[j]? = some q) : Cond.code q.1 q.2.1 q.2.2.1 q.2.2.2.1 ∈ km_G := by
  have h2 : q ∈ km_cwL := by
    rw [km_cwM]
    exact List.mem_of_getElem? (i := j) (by rw [List.getElem?_take_of_lt hj]; exact h)
  exact List.mem_filter.mpr ⟨km_cwA q h2, rfl⟩
