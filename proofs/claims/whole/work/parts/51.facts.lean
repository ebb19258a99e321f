/-! ===== mm: the tables' words ===== -/
def tLay : List (List Nat) := [[481, 483, 485, 487, 489, 491, 493, 495, 497, 499, 501, 503], [358, 360, 362, 364, 366, 368, 370, 372, 374], [267, 269, 271, 273, 275, 277, 279, 281, 283, 285, 287, 289, 291], [188, 190, 192, 194, 196, 198, 200, 202, 204, 206, 208, 210, 212], [408, 410, 412, 414, 416, 418, 420, 422], [448, 450, 452, 454, 456, 458, 460, 462, 464, 466], [1167, 1169, 1171, 1173, 1175, 1177, 1179, 1181, 1183, 1185, 1187, 1189, 1191, 1193, 1195, 1197, 1199, 1201, 1203, 1205, 1207, 1209, 1211, 1213, 1215, 1217, 1219, 1221, 1223, 1225, 1227, 1229, 1231, 1233, 1235, 1237, 1239, 1241, 1243, 1245, 1247, 1249, 1251, 1253, 1255, 1257, 1259, 1261, 1263, 1265, 1267, 1269, 1271, 1273, 1275, 1277, 1279, 1281, 1283, 1285, 1287, 1289, 1291, 1293, 1295, 1297, 1299, 1301, 1303, 1305, 1307, 1309]]
theorem tTW_in {i : Nat} {w : Cond} (h : lw_tbl[i]? = some w ∧ goodWord w = true) : w ∈ tTW := List.mem_filter.mpr ⟨List.mem_of_getElem? h.1, h.2⟩
theorem tTW_good : ∀ w ∈ tTW, goodWord w = true := fun w h => (List.mem_filter.mp h).2
theorem tSh_in (x : Int) : tSh x = (99, 0) ∨ tSh x ∈ tbS := by
  unfold tSh
  split
  · exact Or.inl rfl
  · by_cases h : x.toNat < tbS.length
    · right
      rw [List.getD_eq_getElem?_getD, List.getElem?_eq_getElem h]
      exact List.getElem_mem h
    · left
      rw [List.getD_eq_getElem?_getD, List.getElem?_eq_none (by omega)]
      rfl
theorem tSh_all {P : Nat × Nat → Prop} (h0 : P (99, 0)) (h : ∀ e ∈ tbS, P e) (x : Int) : P (tSh x) := by
  rcases tSh_in x with q | q
  · rw [q]; exact h0
  · exact h _ q
theorem tSh_N : ∀ e ∈ tbS, ∀ ci, ci < 7 → e.1 = ci → e.2 = tN ci := by decide +kernel
theorem tSh_7 : ∀ e ∈ tbS, e.1 < 106 := by decide +kernel
theorem tSh_0 : (tSh 0).1 = 99 := by decide +kernel
theorem tCl_at : ∀ ci, ci < 7 → tCl[ci]? = some (tNm ci, tFd ci, tN ci)
  | 0, _ => rfl
  | 1, _ => rfl
  | 2, _ => rfl
  | 3, _ => rfl
  | 4, _ => rfl
  | 5, _ => rfl
  | 6, _ => rfl
  | n + 7, h => absurd h (by omega)
theorem tCl_lt {ci : Nat} {q : vw_C} (h : tCl[ci]? = some q) : ci < 7 ∧ q = (tNm ci, tFd ci, tN ci) := by
  have h7 : ci < 7 := (List.getElem?_eq_some_iff.mp h).1
  exact ⟨h7, Option.some.inj (h.symm.trans (tCl_at ci h7))⟩
set_option maxRecDepth 20000 in
theorem tLay_ok : ∀ ci, ci < 7 → ∀ k, k < tN ci → lw_tbl[(tLay.getD ci []).getD k 0]? = some (u_lay (tNm ci) (tFd ci) k) ∧ goodWord (u_lay (tNm ci) (tFd ci) k) = true := by decide +kernel
set_option maxRecDepth 20000 in
theorem tTy_ok : ∀ ci, ci < 7 → ∀ k, k < tN ci → (parseFieldDescriptor (tFd ci k).2.2.1).isSome = true ∧ tTg ci k = mmTy ((parseFieldDescriptor (tFd ci k).2.2.1).getD .int) ∧ tTg ci k ≠ 0 := by decide +kernel
set_option maxRecDepth 20000 in
theorem tNd_ok : ∀ ci, ci < 7 → ∀ a, a < tN ci → ∀ b, b < tN ci → a ≠ b → (tFd ci a).2.1 ≠ (tFd ci b).2.1 := by decide +kernel
set_option maxRecDepth 20000 in
theorem tFl_ok : ∀ e ∈ tFl, e.2.2.1 < 7 ∧ e.2.2.2.1 < tN e.2.2.1 ∧ (lw_tbl[e.2.2.2.2]? = some (Cond.fieldLink (tNm e.1) e.2.1 (tFd e.2.2.1 e.2.2.2.1).1 (tFd e.2.2.1 e.2.2.2.1).2.1 (tFd e.2.2.1 e.2.2.2.1).2.2.1) ∧ goodWord (Cond.fieldLink (tNm e.1) e.2.1 (tFd e.2.2.1 e.2.2.2.1).1 (tFd e.2.2.1 e.2.2.2.1).2.1 (tFd e.2.2.1 e.2.2.2.1).2.2.1) = true) ∧ (tFd e.2.2.1 e.2.2.2.1).1 = tNm e.2.2.1 := by decide +kernel

def tMs : List (Nat × Nat × Nat) := [(130, 147, 129), (131, 155, 129), (132, 161, 129), (133, 169, 129), (132, 217, 218), (133, 221, 222), (131, 296, 0), (138, 383, 129), (139, 429, 129), (130, 507, 508), (130, 512, 1), (130, 515, 516), (130, 519, 520), (131, 523, 524), (131, 531, 532), (131, 536, 2), (131, 539, 540), (131, 544, 3), (131, 548, 4), (131, 552, 5), (131, 556, 6), (131, 560, 7), (131, 564, 8), (131, 568, 9), (131, 572, 10), (131, 576, 11), (131, 580, 12), (132, 583, 584), (132, 587, 588), (132, 591, 129), (132, 594, 595), (131, 599, 13), (132, 602, 603), (131, 607, 14), (131, 611, 15), (131, 615, 16), (131, 620, 17), (131, 624, 18), (131, 627, 129), (132, 630, 631), (131, 635, 19), (131, 639, 20), (132, 643, 644), (131, 648, 21), (131, 652, 22), (132, 655, 656), (132, 660, 661), (131, 665, 23), (132, 668, 669), (132, 673, 674), (131, 678, 24), (131, 682, 25), (131, 686, 26), (131, 690, 27), (133, 693, 694), (131, 698, 28), (131, 702, 29), (131, 706, 30), (131, 709, 129), (131, 713, 31), (131, 717, 32), (131, 721, 33), (131, 725, 34), (131, 729, 35), (133, 732, 733), (131, 736, 737), (131, 741, 742), (138, 745, 746), (130, 749, 750), (130, 753, 754), (132, 757, 758), (138, 761, 762), (138, 765, 766), (142, 769, 129), (130, 775, 776), (132, 779, 780), (132, 784, 785), (130, 788, 789), (130, 793, 36), (130, 797, 37), (130, 800, 801), (130, 805, 806), (138, 809, 810), (130, 813, 814), (130, 818, 819), (139, 822, 823), (133, 826, 827), (133, 830, 831), (133, 834, 835), (133, 839, 38), (133, 842, 129), (133, 845, 129), (133, 860, 39), (130, 867, 868), (139, 871, 872), (139, 876, 129), (130, 879, 880), (130, 884, 40), (139, 887, 888), (139, 892, 41), (139, 897, 42), (139, 901, 43), (130, 904, 905), (132, 908, 909), (139, 912, 913), (139, 916, 917), (130, 920, 129), (130, 923, 924), (130, 928, 44), (138, 931, 932), (130, 940, 45), (130, 944, 46), (138, 947, 948), (138, 952, 47), (138, 955, 956), (130, 959, 960), (130, 964, 48), (130, 970, 49), (130, 973, 974), (130, 977, 978), (130, 981, 982), (130, 985, 986), (130, 989, 990), (132, 993, 994), (138, 997, 998), (130, 1001, 1002), (130, 1005, 1006), (130, 1009, 1010), (130, 1014, 1015), (132, 1018, 1019), (130, 1022, 1023), (139, 1026, 1027), (130, 1030, 1031), (130, 1035, 50), (139, 1038, 1039), (130, 1042, 129), (130, 1045, 1046), (139, 1049, 1050), (130, 1053, 1054), (130, 1059, 1060), (130, 1064, 51), (130, 1067, 129), (130, 1070, 1071), (130, 1074, 1075), (130, 1079, 52), (132, 1082, 1083), (138, 1086, 1087), (140, 1092, 129), (140, 1316, 1317), (140, 1320, 1321), (140, 1324, 1325), (140, 1329, 53), (140, 1333, 54), (140, 1337, 55), (140, 1341, 56), (140, 1345, 57), (140, 1348, 129), (140, 1352, 58), (140, 1356, 59), (140, 1360, 60), (140, 1364, 61), (140, 1368, 62), (140, 1374, 63), (140, 1378, 64), (140, 1382, 65), (140, 1386, 66), (140, 1390, 67), (140, 1393, 129), (140, 1396, 129), (140, 1400, 68), (140, 1404, 69), (140, 1408, 70), (140, 1412, 71), (140, 1416, 72), (140, 1420, 73), (140, 1424, 74), (140, 1428, 75), (140, 1432, 76), (140, 1436, 77), (140, 1440, 78), (140, 1444, 79), (140, 1448, 80), (140, 1452, 81), (140, 1456, 82), (140, 1460, 83), (140, 1464, 84), (140, 1468, 85), (140, 1472, 86), (140, 1476, 87), (140, 1480, 88), (140, 1484, 89), (140, 1488, 90), (140, 1492, 91), (140, 1495, 1496), (140, 1499, 1500), (140, 1504, 92), (140, 1508, 93), (140, 1512, 94), (140, 1516, 95), (140, 1520, 96), (140, 1524, 97), (140, 1527, 129), (140, 1530, 1531), (140, 1536, 1537), (140, 1541, 98), (140, 1545, 99), (140, 1549, 100), (140, 1553, 101), (140, 1557, 102), (140, 1561, 103), (140, 1565, 104), (140, 1568, 1569), (140, 1572, 1573), (140, 1577, 105), (140, 1581, 106), (140, 1585, 107), (140, 1589, 108), (140, 1592, 1593), (140, 1597, 1598), (140, 1602, 109), (140, 1606, 110), (140, 1610, 111), (140, 1616, 112), (140, 1619, 129), (140, 1624, 129), (140, 1628, 1629), (140, 1633, 113), (140, 1636, 1637), (140, 1641, 114), (140, 1645, 115), (140, 1649, 116), (140, 1654, 117), (140, 1657, 1658), (140, 1661, 1662), (140, 1665, 1666), (140, 1670, 118), (140, 1674, 119), (140, 1678, 120), (140, 1682, 121), (140, 1685, 1686), (140, 1689, 1690), (140, 1694, 122), (140, 1701, 1702), (140, 1705, 1706), (140, 1710, 1711), (140, 1716, 123), (140, 1719, 1720), (140, 1724, 1725), (140, 1728, 1729), (140, 1733, 124), (140, 1736, 1737), (140, 1740, 1741), (140, 1746, 125), (140, 1749, 1750), (140, 1755, 126), (140, 1758, 1759), (140, 1762, 1763), (140, 1766, 1767), (140, 1771, 127), (140, 1774, 129), (140, 1777, 1778), (140, 1781, 1782), (140, 1786, 128)]
def tKb (mi : Nat) : Bool := let e := tMs.getD mi (0, 0, 0)
  (match lw_tbl[tCo.getD mi 0]? with | some (.code y _ n r) => decide (y = tY mi ∧ n = tL mi ∧ r = tR mi) | _ => false) && (decide (lw_tbl[e.1]? = some (Cond.initialized (tY mi).cls)) && (decide ((tY mi).cls ≠ "java/lang/invoke/MethodHandle" ∧ (tY mi).cls ≠ "java/lang/invoke/VarHandle") && (decide ((tMp mi).2.1 = 0 ∨ mmRt (tMp mi).2.1 ≠ 0) &&
  (if (tMp mi).2.2.1 = 99 then decide (lw_tbl[e.2.1]? = some (Cond.static (tY mi))) && decide ((parseMethodDescriptor (tY mi).desc).map (fun d => d.parameters.length) = some (tMp mi).1.length) else decide ((tMp mi).2.2.1 < 7) && (decide (tNm (tMp mi).2.2.1 = (tY mi).cls) && (decide ((tMp mi).1.reverse.head? = some 3) && (decide ((parseMethodDescriptor (tY mi).desc).map (fun d => d.parameters.length) = some (tMp mi).1.reverse.tail.length) && (decide (lw_tbl[e.2.1]? = some (Cond.instanceMethod (tY mi))) && (if (tO mi).2 = true then decide ((tY mi).name = "<init>" ∧ tR mi = none) else decide (lw_tbl[e.2.2]? = some (Cond.selects (tY mi).cls (tY mi) (tY mi))))))))))))
set_option maxRecDepth 20000 in
theorem tK0 : (List.range' 0 20).all tKb = true := by decide +kernel
set_option maxRecDepth 20000 in
theorem tK1 : (List.range' 20 20).all tKb = true := by decide +kernel
set_option maxRecDepth 20000 in
theorem tK2 : (List.range' 40 20).all tKb = true := by decide +kernel
set_option maxRecDepth 20000 in
theorem tK3 : (List.range' 60 20).all tKb = true := by decide +kernel
set_option maxRecDepth 20000 in
theorem tK4 : (List.range' 80 20).all tKb = true := by decide +kernel
set_option maxRecDepth 20000 in
theorem tK5 : (List.range' 100 20).all tKb = true := by decide +kernel
set_option maxRecDepth 20000 in
theorem tK6 : (List.range' 120 20).all tKb = true := by decide +kernel
set_option maxRecDepth 20000 in
theorem tK7 : (List.range' 140 20).all tKb = true := by decide +kernel
set_option maxRecDepth 20000 in
theorem tK8 : (List.range' 160 20).all tKb = true := by decide +kernel
set_option maxRecDepth 20000 in
theorem tK9 : (List.range' 180 20).all tKb = true := by decide +kernel
set_option maxRecDepth 20000 in
theorem tK10 : (List.range' 200 20).all tKb = true := by decide +kernel
set_option maxRecDepth 20000 in
theorem tK11 : (List.range' 220 20).all tKb = true := by decide +kernel
set_option maxRecDepth 20000 in
theorem tK12 : (List.range' 240 20).all tKb = true := by decide +kernel
set_option maxRecDepth 20000 in
theorem tK13 : (List.range' 260 3).all tKb = true := by decide +kernel
theorem tK : ∀ mi, mi < 263 → tKb mi = true := by
  intro mi h
  by_cases h0 : mi < 20
  · exact List.all_eq_true.mp tK0 mi (List.mem_range'.mpr ⟨mi - 0, by omega, by omega⟩)
  by_cases h1 : mi < 40
  · exact List.all_eq_true.mp tK1 mi (List.mem_range'.mpr ⟨mi - 20, by omega, by omega⟩)
  by_cases h2 : mi < 60
  · exact List.all_eq_true.mp tK2 mi (List.mem_range'.mpr ⟨mi - 40, by omega, by omega⟩)
  by_cases h3 : mi < 80
  · exact List.all_eq_true.mp tK3 mi (List.mem_range'.mpr ⟨mi - 60, by omega, by omega⟩)
  by_cases h4 : mi < 100
  · exact List.all_eq_true.mp tK4 mi (List.mem_range'.mpr ⟨mi - 80, by omega, by omega⟩)
  by_cases h5 : mi < 120
  · exact List.all_eq_true.mp tK5 mi (List.mem_range'.mpr ⟨mi - 100, by omega, by omega⟩)
  by_cases h6 : mi < 140
  · exact List.all_eq_true.mp tK6 mi (List.mem_range'.mpr ⟨mi - 120, by omega, by omega⟩)
  by_cases h7 : mi < 160
  · exact List.all_eq_true.mp tK7 mi (List.mem_range'.mpr ⟨mi - 140, by omega, by omega⟩)
  by_cases h8 : mi < 180
  · exact List.all_eq_true.mp tK8 mi (List.mem_range'.mpr ⟨mi - 160, by omega, by omega⟩)
  by_cases h9 : mi < 200
  · exact List.all_eq_true.mp tK9 mi (List.mem_range'.mpr ⟨mi - 180, by omega, by omega⟩)
  by_cases h10 : mi < 220
  · exact List.all_eq_true.mp tK10 mi (List.mem_range'.mpr ⟨mi - 200, by omega, by omega⟩)
  by_cases h11 : mi < 240
  · exact List.all_eq_true.mp tK11 mi (List.mem_range'.mpr ⟨mi - 220, by omega, by omega⟩)
  by_cases h12 : mi < 260
  · exact List.all_eq_true.mp tK12 mi (List.mem_range'.mpr ⟨mi - 240, by omega, by omega⟩)
  exact List.all_eq_true.mp tK13 mi (List.mem_range'.mpr ⟨mi - 260, by omega, by omega⟩)

set_option maxRecDepth 20000 in
theorem tMl_ok0 : ∀ e ∈ tMl0, e.2.2.1 < 263 ∧ lw_tbl[e.2.2.2.2.1]? = some (Cond.methodLink (tNm e.1) e.2.1 (tY e.2.2.1)) ∧ (if e.2.2.2.1 = 1 then (tMp e.2.2.1).2.2.1 = 99 else (tMp e.2.2.1).2.2.1 < 7 ∧ (if e.2.2.2.1 = 2 then (tO e.2.2.1).2 = true else e.2.2.2.1 = 0 ∧ (tO e.2.2.1).2 = false)) := by decide +kernel
set_option maxRecDepth 20000 in
theorem tMl_ok1 : ∀ e ∈ tMl1, e.2.2.1 < 263 ∧ lw_tbl[e.2.2.2.2.1]? = some (Cond.methodLink (tNm e.1) e.2.1 (tY e.2.2.1)) ∧ (if e.2.2.2.1 = 1 then (tMp e.2.2.1).2.2.1 = 99 else (tMp e.2.2.1).2.2.1 < 7 ∧ (if e.2.2.2.1 = 2 then (tO e.2.2.1).2 = true else e.2.2.2.1 = 0 ∧ (tO e.2.2.1).2 = false)) := by decide +kernel
set_option maxRecDepth 20000 in
theorem tMl_ok2 : ∀ e ∈ tMl2, e.2.2.1 < 263 ∧ lw_tbl[e.2.2.2.2.1]? = some (Cond.methodLink (tNm e.1) e.2.1 (tY e.2.2.1)) ∧ (if e.2.2.2.1 = 1 then (tMp e.2.2.1).2.2.1 = 99 else (tMp e.2.2.1).2.2.1 < 7 ∧ (if e.2.2.2.1 = 2 then (tO e.2.2.1).2 = true else e.2.2.2.1 = 0 ∧ (tO e.2.2.1).2 = false)) := by decide +kernel
set_option maxRecDepth 20000 in
theorem tMl_ok3 : ∀ e ∈ tMl3, e.2.2.1 < 263 ∧ lw_tbl[e.2.2.2.2.1]? = some (Cond.methodLink (tNm e.1) e.2.1 (tY e.2.2.1)) ∧ (if e.2.2.2.1 = 1 then (tMp e.2.2.1).2.2.1 = 99 else (tMp e.2.2.1).2.2.1 < 7 ∧ (if e.2.2.2.1 = 2 then (tO e.2.2.1).2 = true else e.2.2.2.1 = 0 ∧ (tO e.2.2.1).2 = false)) := by decide +kernel
set_option maxRecDepth 20000 in
theorem tMl_ok4 : ∀ e ∈ tMl4, e.2.2.1 < 263 ∧ lw_tbl[e.2.2.2.2.1]? = some (Cond.methodLink (tNm e.1) e.2.1 (tY e.2.2.1)) ∧ (if e.2.2.2.1 = 1 then (tMp e.2.2.1).2.2.1 = 99 else (tMp e.2.2.1).2.2.1 < 7 ∧ (if e.2.2.2.1 = 2 then (tO e.2.2.1).2 = true else e.2.2.2.1 = 0 ∧ (tO e.2.2.1).2 = false)) := by decide +kernel
theorem tMl_ok : ∀ e ∈ tMl, e.2.2.1 < 263 ∧ lw_tbl[e.2.2.2.2.1]? = some (Cond.methodLink (tNm e.1) e.2.1 (tY e.2.2.1)) ∧ (if e.2.2.2.1 = 1 then (tMp e.2.2.1).2.2.1 = 99 else (tMp e.2.2.1).2.2.1 < 7 ∧ (if e.2.2.2.1 = 2 then (tO e.2.2.1).2 = true else e.2.2.2.1 = 0 ∧ (tO e.2.2.1).2 = false)) := by
  intro e he
  unfold tMl at he
  simp only [List.mem_append] at he
  rcases he with he | he | he | he | he
  · exact tMl_ok0 e he
  · exact tMl_ok1 e he
  · exact tMl_ok2 e he
  · exact tMl_ok3 e he
  · exact tMl_ok4 e he
theorem tC1_ok : ∀ e ∈ tC1, lw_tbl[e.2.2.2]? = some (Jvm.Cond.constant (tNm e.1) e.2.1 (Int32.ofInt e.2.2.1)) ∧ goodWord (Jvm.Cond.constant (tNm e.1) e.2.1 (Int32.ofInt e.2.2.1)) = true := by decide +kernel
theorem tC2_ok : ∀ e ∈ tC2, lw_tbl[e.2.2.2]? = some (Jvm.Cond.constantLong (tNm e.1) e.2.1 (Int64.ofInt e.2.2.1)) ∧ goodWord (Jvm.Cond.constantLong (tNm e.1) e.2.1 (Int64.ofInt e.2.2.1)) = true := by decide +kernel
theorem tNw_ok : ∀ e ∈ tNw, e.2.2.1 < 7 ∧ (lw_tbl[e.2.2.2.1]? = some (Cond.classLink (tNm e.1) e.2.1 (tNm e.2.2.1)) ∧ goodWord (Cond.classLink (tNm e.1) e.2.1 (tNm e.2.2.1)) = true) ∧ (lw_tbl[e.2.2.2.2.1]? = some (Cond.instantiable (tNm e.2.2.1) (tN e.2.2.1)) ∧ goodWord (Cond.instantiable (tNm e.2.2.1) (tN e.2.2.1)) = true) ∧ (lw_tbl[e.2.2.2.2.2]? = some (Cond.initialized (tNm e.2.2.1)) ∧ goodWord (Cond.initialized (tNm e.2.2.1)) = true) := by decide +kernel
theorem tOb_ok : ∀ e ∈ tOb, lw_tbl[e.2.2]? = some (Cond.methodLink (tNm e.1) e.2.1 Lib.objectInit) ∧ goodWord (Cond.methodLink (tNm e.1) e.2.1 Lib.objectInit) = true := by decide +kernel
theorem tOb_i : lw_tbl[150]? = some (Cond.instanceMethod Lib.objectInit) ∧ goodWord (Cond.instanceMethod Lib.objectInit) = true := by decide +kernel
theorem tOb_c : lw_tbl[151]? = some (Cond.code Lib.objectInit ⟨#[0xb1]⟩ 1 none) ∧ goodWord (Cond.code Lib.objectInit ⟨#[0xb1]⟩ 1 none) = true := by decide +kernel
theorem tCp_ok : ∀ e ∈ tCp, lw_tbl[e.2.2]? = some (Cond.methodLink (tNm e.1) e.2.1 arraycopyName) ∧ goodWord (Cond.methodLink (tNm e.1) e.2.1 arraycopyName) = true := by decide +kernel
theorem tCp_n : lw_tbl[936]? = some (Cond.native arraycopyName) ∧ goodWord (Cond.native arraycopyName) = true := by decide +kernel
theorem tCp_s : lw_tbl[935]? = some (Cond.static arraycopyName) ∧ goodWord (Cond.static arraycopyName) = true := by decide +kernel
theorem tCp_i : lw_tbl[143]? = some (Cond.initialized "java/lang/System") ∧ goodWord (Cond.initialized "java/lang/System") = true := by decide +kernel
theorem tAn_ok : ∀ e ∈ tAn, lw_tbl[e.2.2]? = some (Cond.classLink (tNm e.1) e.2.1 "TileHeel$Roofs") ∧ goodWord (Cond.classLink (tNm e.1) e.2.1 "TileHeel$Roofs") = true := by decide +kernel
theorem tAr_ok : ∀ kd, kd < 4 → lw_tbl[([215, 1313, 1312, 1314] : List Nat).getD kd 0]? = some (Cond.arrayClass (mmKt kd)) ∧ goodWord (Cond.arrayClass (mmKt kd)) = true := by decide +kernel
theorem tK_code {mi : Nat} (h : mi < 263) : lw_tbl[tCo.getD mi 0]? = some (Cond.code (tY mi) (tB mi) (tL mi) (tR mi)) := by
  have hk := tK mi h
  unfold tKb at hk
  simp only [Bool.and_eq_true] at hk
  have k1 := hk.1
  unfold tB
  split at k1
  · next y bs n r e =>
    obtain ⟨rfl, rfl, rfl⟩ := of_decide_eq_true k1
    rw [e]
  · cases k1
theorem tF : mmFT tSh tTg tTb tFin tNm tCl tMp tY tB tL tR tTW := by
  refine ⟨tTW_good, ?_, ?_, ?_, ?_, ?_, ?_, ?_, ?_, ?_, ?_, tSh_0, ⟨tFd 4, tN 4, tCl_at 4 (by omega)⟩⟩
  · intro ci C T N h
    obtain ⟨h7, e⟩ := tCl_lt h
    cases e
    refine ⟨rfl, fun w hw => ?_, fun x hx => tSh_all (P := fun e => e.1 = ci → e.2 = tN ci) (fun q => by simp at q; omega) (fun e he => tSh_N e he ci h7) x hx, ⟨fun k => (parseFieldDescriptor (tFd ci k).2.2.1).getD .int, fun k hk => ?_, fun f hf => ((tTy_ok ci h7) f hf).2⟩, tNd_ok ci h7⟩
    · obtain ⟨k, hk, rfl⟩ := List.mem_map.mp hw
      exact tTW_in (tLay_ok ci h7 k (List.mem_range.mp hk))
    · have := (tTy_ok ci h7 k hk).1
      cases e : parseFieldDescriptor (tFd ci k).2.2.1 with
      | none => rw [e] at this; cases this
      | some z =>
        show some z = some ((parseFieldDescriptor (tFd ci k).2.2.1).getD .int)
        rw [e]
        rfl
  · intro ow idx ci f h
    obtain ⟨e, he, hq⟩ := List.mem_map.mp h
    obtain ⟨rfl, rfl, rfl, rfl⟩ := (by simpa using hq : e.1 = ow ∧ e.2.1 = idx ∧ e.2.2.1 = ci ∧ e.2.2.2.1 = f)
    obtain ⟨h1, h2, h3, h4⟩ := tFl_ok e he
    exact ⟨_, _, _, tCl_at _ h1, by omega, h2, tTW_in h3, rfl, h4⟩
  · intro ow idx mi kd h
    obtain ⟨e, he, hq⟩ := List.mem_map.mp h
    obtain ⟨rfl, rfl, rfl, rfl⟩ := (by simpa using hq : e.1 = ow ∧ e.2.1 = idx ∧ e.2.2.1 = mi ∧ e.2.2.2.1 = kd)
    obtain ⟨m1, m2, m3⟩ := tMl_ok e he
    have hk := tK e.2.2.1 m1
    unfold tKb at hk
    simp only [Bool.and_eq_true] at hk
    obtain ⟨k1, k2, k3, k4, k5⟩ := hk
    have hcode : lw_tbl[tCo.getD e.2.2.1 0]? = some (Cond.code (tY e.2.2.1) (tB e.2.2.1) (tL e.2.2.1) (tR e.2.2.1)) := tK_code m1
    refine ⟨tTW_in ⟨m2, rfl⟩, tTW_in ⟨hcode, rfl⟩, tTW_in ⟨of_decide_eq_true k2, rfl⟩, of_decide_eq_true k3, of_decide_eq_true k4, ?_⟩
    by_cases q1 : e.2.2.2.1 = 1
    · rw [if_pos q1] at m3
      rw [if_pos m3] at k5
      simp only [Bool.and_eq_true, decide_eq_true_eq] at k5
      exact Or.inl ⟨q1, m3, tTW_in ⟨k5.1, rfl⟩, k5.2⟩
    · rw [if_neg q1] at m3
      rw [if_neg (show ¬ (tMp e.2.2.1).2.2.1 = 99 by omega)] at k5
      simp only [Bool.and_eq_true, decide_eq_true_eq] at k5
      obtain ⟨g1, g2, g3, g4, g5, g6⟩ := k5
      refine Or.inr ⟨?_, by omega, ⟨tFd _, tN _, by rw [tCl_at _ g1, g2]⟩, ⟨(tMp e.2.2.1).1.reverse.tail, ?_, g4⟩, tTW_in ⟨g5, rfl⟩, fun q => ?_, fun q => ?_⟩
      · by_cases q2 : e.2.2.2.1 = 2
        · exact Or.inr q2
        · rw [if_neg q2] at m3; exact Or.inl m3.2.1
      · cases hr : (tMp e.2.2.1).1.reverse with
        | nil => rw [hr] at g3; cases g3
        | cons a r => rw [hr] at g3; cases g3; rfl
      · rw [if_neg (show ¬ e.2.2.2.1 = 2 by omega)] at m3
        rw [if_neg (by rw [m3.2.2]; exact Bool.false_ne_true)] at g6
        exact tTW_in ⟨of_decide_eq_true g6, rfl⟩
      · rw [if_pos q] at m3
        rw [if_pos m3.2] at g6
        exact of_decide_eq_true g6
  · intro ow idx x h
    obtain ⟨e, he, hq⟩ := List.mem_map.mp h
    obtain ⟨rfl, rfl, rfl⟩ := (by simpa using hq : e.1 = ow ∧ e.2.1 = idx ∧ e.2.2.1 = x)
    exact tTW_in (tC1_ok e he)
  · intro ow idx x h
    obtain ⟨e, he, hq⟩ := List.mem_map.mp h
    obtain ⟨rfl, rfl, rfl⟩ := (by simpa using hq : e.1 = ow ∧ e.2.1 = idx ∧ e.2.2.1 = x)
    exact tTW_in (tC2_ok e he)
  · intro ow idx ci h
    obtain ⟨e, he, hq⟩ := List.mem_map.mp h
    obtain ⟨rfl, rfl, rfl⟩ := (by simpa using hq : e.1 = ow ∧ e.2.1 = idx ∧ e.2.2.1 = ci)
    obtain ⟨h1, h2, h3, h4⟩ := tNw_ok e he
    exact ⟨_, _, _, tCl_at _ h1, by omega, tTW_in h2, tTW_in h3, tTW_in h4⟩
  · intro ow idx h
    obtain ⟨e, he, hq⟩ := List.mem_map.mp h
    obtain ⟨rfl, rfl⟩ := (by simpa using hq : e.1 = ow ∧ e.2.1 = idx)
    exact ⟨tTW_in (tOb_ok e he), tTW_in tOb_i, tTW_in tOb_c⟩
  · intro ow idx h
    obtain ⟨e, he, hq⟩ := List.mem_map.mp h
    obtain ⟨rfl, rfl⟩ := (by simpa using hq : e.1 = ow ∧ e.2.1 = idx)
    exact ⟨tTW_in (tCp_ok e he), tTW_in tCp_n, tTW_in tCp_s, tTW_in tCp_i⟩
  · intro ow idx h
    obtain ⟨e, he, hq⟩ := List.mem_map.mp h
    obtain ⟨rfl, rfl⟩ := (by simpa using hq : e.1 = ow ∧ e.2.1 = idx)
    exact tTW_in (tAn_ok e he)
  · exact fun kd h => tTW_in (tAr_ok kd h)
