abbrev ZI : Type := MethodName × ByteArray × Nat × Option FieldType × Bool × List Nat
def znI : List ZI → Nat → Option ZI
  | [], _ => none
  | a :: _, 0 => some a
  | _ :: l, n + 1 => znI l n
def zmi (mi : Nat) : Option ZI := znI [(yX1_init, cX1_init, 1, none, false, [391, 390, 120]), (yX1_measure, cX1_measure, 3, none, false, [830, 828, 120, 829]), (yX1_take, cX1_take, 7, none, false, [838, 836, 120, 837]), (yX1_give, cX1_give, 5, none, false, [873, 871, 120, 872]), (yX1_bring, cX1_bring, 7, none, false, [895, 893, 120, 894]), (yX1_sold, cX1_sold, 3, (some .int), false, [1089, 1087, 120, 1088]), (yX1_runStep, cX1_runStep, 5, (some .int), false, [961, 959, 120, 960]), (yX2_init, cX2_init, 1, none, false, [212, 211, 117]), (yX2_value, cX2_value, 8, (some .int), false, [884, 882, 117, 883]), (yX2_fact, cX2_fact, 5, (some .int), true, [888, 887, 117]), (yX2_joined, cX2_joined, 3, (some .int), true, [891, 890, 117]), (yX3_init, cX3_init, 1, none, false, [473, 472, 123]), (yX3_lay, cX3_lay, 4, none, false, [1189, 1187, 123, 1188]), (yX4_init, cX4_init, 2, none, false, [191, 190, 116]), (yX4_add, cX4_add, 2, (some .boolean), false, [235, 233, 116, 234]), (yX4_get, cX4_get, 2, (some .int), false, [861, 859, 116, 860]), (yX4_round, cX4_round, 2, (some .int), false, [834, 832, 116, 833]), (yX4_copy, cX4_copy, 2, none, false, [800, 798, 116, 799]), (yX5_init, cX5_init, 1, none, false, [185, 184, 115]), (yX5_clear, cX5_clear, 1, none, false, [228, 226, 115, 227]), (yX5_addTurbine, cX5_addTurbine, 6, none, false, [679, 677, 115, 678]), (yX5_byName, cX5_byName, 4, (some .int), false, [644, 642, 115, 643]), (yX5_isTaken, cX5_isTaken, 3, (some .boolean), false, [675, 673, 115, 674]), (yX5_priceAt, cX5_priceAt, 2, (some .int), false, [966, 964, 115, 965]), (yX5_isSlack, cX5_isSlack, 2, (some .boolean), false, [926, 924, 115, 925]), (yX5_tenths, cX5_tenths, 10, (some .int), false, [848, 846, 115, 847]), (yX5_takenOf, cX5_takenOf, 4, (some .int), false, [868, 866, 115, 867]), (yX5_gives, cX5_gives, 8, (some .int), false, [880, 878, 115, 879]), (yX5_turnedBy, cX5_turnedBy, 1, (some .int), true, [854, 853, 115]), (yX5_left, cX5_left, 2, (some .int), true, [876, 875, 115]), (yX5_drift, cX5_drift, 3, (some .int), true, [851, 850, 115]), (yX5_only, cX5_only, 2, none, true, [231, 230, 115]), (yX6_init, cX6_init, 3, none, false, [318, 317, 118]), (yX6_readPark, cX6_readPark, 3, (some .int), false, [592, 590, 118, 591]), (yX6_readDay, cX6_readDay, 4, (some .int), false, [779, 777, 118, 778]), (yX6_readParkLine, cX6_readParkLine, 2, (some .boolean), false, [619, 618, 118, 2]), (yX6_readTurbine, cX6_readTurbine, 6, (some .boolean), false, [635, 634, 118, 4]), (yX6_readCable, cX6_readCable, 3, (some .boolean), false, [687, 686, 118, 10]), (yX6_readGoal, cX6_readGoal, 2, (some .boolean), false, [695, 694, 118, 12]), (yX6_readList, cX6_readList, 4, (some .boolean), false, [710, 709, 118, 14]), (yX6_readWakes, cX6_readWakes, 2, (some .boolean), false, [714, 713, 118, 15]), (yX6_readWears, cX6_readWears, 1, (some .boolean), false, [718, 717, 118, 16]), (yX6_readSlack, cX6_readSlack, 1, (some .boolean), false, [722, 721, 118, 17]), (yX6_readE, cX6_readE, 4, (some .boolean), false, [726, 725, 118, 18]), (yX6_readTest, cX6_readTest, 3, (some .boolean), false, [730, 729, 118, 19]), (yX6_readSum, cX6_readSum, 4, (some .boolean), false, [734, 733, 118, 20]), (yX6_readProduct, cX6_readProduct, 3, (some .boolean), false, [738, 737, 118, 21]), (yX6_readPart, cX6_readPart, 6, (some .boolean), false, [742, 741, 118, 22]), (yX6_readDayLine, cX6_readDayLine, 2, (some .boolean), false, [783, 782, 118, 25]), (yX6_fail, cX6_fail, 2, (some .boolean), false, [623, 622, 118, 3]), (yX6_once, cX6_once, 2, (some .boolean), false, [706, 705, 118, 13]), (yX6_passSign, cX6_passSign, 2, (some .boolean), false, [683, 682, 118, 9]), (yX6_passWord, cX6_passWord, 2, (some .boolean), false, [661, 660, 118, 6]), (yX6_passNumber, cX6_passNumber, 3, (some .boolean), false, [665, 664, 118, 7]), (yX6_isNumber, cX6_isNumber, 3, (some .boolean), false, [669, 668, 118, 8]), (yX6_isName, cX6_isName, 2, (some .boolean), false, [640, 639, 118, 5]), (yX6_isTurbine, cX6_isTurbine, 1, (some .boolean), false, [691, 690, 118, 11]), (yX6_kindOf, cX6_kindOf, 1, (some .int), true, [647, 646, 118]), (yX6_deedOf, cX6_deedOf, 1, (some .int), true, [786, 785, 118]), (yX6_factOf, cX6_factOf, 1, (some .int), true, [745, 744, 118]), (yX7_init, cX7_init, 1, none, false, [499, 498, 124]), (yX7_seek, cX7_seek, 9, none, false, [1024, 1022, 124, 1023]), (yX7_foresee, cX7_foresee, 11, none, false, [1028, 1027, 124, 31]), (yX7_listTries, cX7_listTries, 6, none, false, [1037, 1036, 124, 32]), (yX7_isNew, cX7_isNew, 5, (some .boolean), false, [1041, 1040, 124, 33]), (yX7_isAlike, cX7_isAlike, 5, (some .boolean), false, [1045, 1044, 124, 34]), (yX7_angleOf, cX7_angleOf, 2, (some .int), false, [1053, 1052, 124, 36]), (yX7_keepRow, cX7_keepRow, 3, none, false, [1072, 1071, 124, 40]), (yX7_next, cX7_next, 3, (some .int), false, [1076, 1075, 124, 41]), (yX7_addFrom, cX7_addFrom, 6, none, false, [1049, 1048, 124, 35]), (yX7_giftOf, cX7_giftOf, 4, (some .int), false, [1062, 1061, 124, 38]), (yX7_sale, cX7_sale, 5, (some .int), false, [1058, 1057, 124, 37]), (yX7_share, cX7_share, 5, (some .int), false, [1068, 1067, 124, 39]), (yX8_init, cX8_init, 1, none, false, [348, 347, 119]), (yX8_begin, cX8_begin, 2, none, false, [462, 460, 119, 461]), (yX8_copy, cX8_copy, 2, none, false, [934, 932, 119, 933]), (yX8_everyone, cX8_everyone, 2, (some .int), false, [469, 467, 119, 468]), (yX8_isOpen, cX8_isOpen, 2, (some .boolean), false, [818, 816, 119, 817]), (yX8_isBroken, cX8_isBroken, 2, (some .boolean), false, [822, 820, 119, 821]), (yX8_runs, cX8_runs, 2, (some .boolean), false, [842, 840, 119, 841]), (yX8_can, cX8_can, 4, (some .boolean), false, [922, 920, 119, 921]), (yX8_act, cX8_act, 6, (some .boolean), false, [940, 938, 119, 939]), (yX8_wear, cX8_wear, 5, none, false, [971, 969, 119, 970]), (yX9_init, cX9_init, 1, none, false, [147, 146, 114]), (yX9_put, cX9_put, 6, none, false, [584, 582, 114, 583]), (yX9_clear, cX9_clear, 1, none, false, [763, 761, 114, 762]), (yX9_start, cX9_start, 1, none, false, [597, 595, 114, 596]), (yX9_pass, cX9_pass, 2, none, false, [601, 599, 114, 600]), (yX9_takeWord, cX9_takeWord, 4, none, false, [605, 604, 114, 0]), (yX9_takeNumber, cX9_takeNumber, 3, none, false, [612, 611, 114, 1]), (yX9_isSign, cX9_isSign, 1, (some .boolean), true, [615, 614, 114]), (yX10_init, cX10_init, 1, none, false, [430, 429, 121]), (yX10_guess, cX10_guess, 8, none, false, [1140, 1138, 121, 1139]), (yX10_mostAlike, cX10_mostAlike, 5, (some .int), false, [1160, 1158, 121, 1159]), (yX10_note, cX10_note, 3, none, false, [1151, 1150, 121, 43]), (yX10_isAsSeen, cX10_isAsSeen, 4, (some .boolean), true, [1146, 1145, 121]), (yX12_init, cX12_init, 2, none, false, [139, 138, 113]), (yX12_feed, cX12_feed, 7, (some .int), false, [580, 578, 113, 579]), (yX12_park, cX12_park, 4, (some .int), false, [588, 586, 113, 587]), (yX12_day, cX12_day, 1, (some .int), false, [775, 773, 113, 774]), (yX12_turbine, cX12_turbine, 3, (some .int), false, [810, 808, 113, 809]), (yX12_wind, cX12_wind, 2, (some .int), false, [826, 824, 113, 825]), (yX12_power, cX12_power, 2, (some .int), false, [902, 900, 113, 901]), (yX12_carried, cX12_carried, 2, (some .int), false, [906, 904, 113, 905]), (yX12_home, cX12_home, 1, (some .int), false, [910, 908, 113, 909]), (yX12_turn, cX12_turn, 4, (some .int), false, [914, 912, 113, 913]), (yX12_shut, cX12_shut, 2, (some .boolean), false, [945, 943, 113, 944]), (yX12_open, cX12_open, 2, (some .boolean), false, [949, 947, 113, 948]), (yX12_mend, cX12_mend, 2, (some .boolean), false, [953, 951, 113, 952]), (yX12_step, cX12_step, 1, (some .int), false, [957, 955, 113, 956]), (yX12_undo, cX12_undo, 1, (some .boolean), false, [976, 974, 113, 975]), (yX12_judged, cX12_judged, 8, (some .int), false, [983, 981, 113, 982]), (yX12_takes, cX12_takes, 3, (some .int), false, [989, 987, 113, 988]), (yX12_later, cX12_later, 3, (some .int), false, [1000, 998, 113, 999]), (yX12_total, cX12_total, 4, (some .int), false, [1004, 1002, 113, 1003]), (yX12_breaks, cX12_breaks, 3, (some .int), false, [1008, 1006, 113, 1007]), (yX12_lost, cX12_lost, 1, (some .int), false, [1012, 1010, 113, 1011]), (yX12_best, cX12_best, 2, (some .int), false, [1016, 1014, 113, 1015]), (yX12_alone, cX12_alone, 3, (some .int), false, [1080, 1078, 113, 1079]), (yX12_idle, cX12_idle, 6, (some .int), false, [1084, 1082, 113, 1083]), (yX12_straight, cX12_straight, 1, (some .int), false, [1093, 1091, 113, 1092]), (yX12_full, cX12_full, 3, (some .int), false, [1098, 1096, 113, 1097]), (yX12_dear, cX12_dear, 4, (some .int), false, [1102, 1100, 113, 1101]), (yX12_fault, cX12_fault, 2, (some .int), false, [1107, 1105, 113, 1106]), (yX12_robbed, cX12_robbed, 4, (some .int), false, [1111, 1109, 113, 1110]), (yX12_front, cX12_front, 3, (some .int), false, [1119, 1117, 113, 1118]), (yX12_shade, cX12_shade, 4, (some .int), false, [1123, 1121, 113, 1122]), (yX12_hops, cX12_hops, 5, (some .int), false, [1127, 1125, 113, 1126]), (yX12_see, cX12_see, 3, (some .boolean), false, [1131, 1129, 113, 1130]), (yX12_winds, cX12_winds, 2, (some .int), false, [1136, 1134, 113, 1135]), (yX12_ask, cX12_ask, 5, (some .int), false, [1156, 1154, 113, 1155]), (yX12_chance, cX12_chance, 7, (some .int), false, [1165, 1163, 113, 1164]), (yX12_rests, cX12_rests, 9, (some .int), false, [1205, 1203, 113, 1204]), (yX12_days, cX12_days, 11, (some .int), false, [1171, 1169, 113, 1170]), (yX12_mark, cX12_mark, 4, (some .boolean), false, [1185, 1183, 113, 1184]), (yX12_count, cX12_count, 2, (some .int), false, [1196, 1194, 113, 1195]), (yX12_stands, cX12_stands, 2, (some .boolean), false, [814, 813, 113, 26]), (yX12_act, cX12_act, 4, (some .boolean), false, [918, 917, 113, 27]), (yX12_remember, cX12_remember, 1, none, false, [930, 929, 113, 28]), (yX12_forgetPast, cX12_forgetPast, 1, none, false, [767, 766, 113, 23]), (yX12_forgetSearches, cX12_forgetSearches, 2, none, false, [771, 770, 113, 24]), (yX12_takenNow, cX12_takenNow, 3, (some .int), false, [993, 992, 113, 29]), (yX12_searched, cX12_searched, 4, (some .int), false, [1020, 1019, 113, 30]), (yX12_ownWind, cX12_ownWind, 5, (some .int), false, [1115, 1114, 113, 42]), (yX12_isDigit, cX12_isDigit, 1, (some .boolean), true, [1208, 1207, 113]), (yX12_keeps, cX12_keeps, 5, (some .boolean), true, [1272, 1271, 113]), (yX12_gain, cX12_gain, 5, (some .int), true, [1275, 1274, 113]), (yX12_drawn, cX12_drawn, 2, (some .long), true, [1174, 1173, 113]), (yX12_below, cX12_below, 3, (some .int), true, [1180, 1179, 113]), (yX13_init, cX13_init, 1, none, false, [1280, 1279, 125]), (yX13_thrown, cX13_thrown, 1, (some .int), false, [1474, 1472, 125, 1473]), (yX13_within, cX13_within, 3, (some .boolean), true, [1562, 1561, 125]), (yX13_between, cX13_between, 3, (some .int), true, [1719, 1718, 125]), (yX13_feed, cX13_feed, 11, (some .int), false, [1478, 1476, 125, 1477]), (yX13_signAt, cX13_signAt, 2, (some .int), false, [1499, 1498, 125, 50]), (yX13_nextToken, cX13_nextToken, 2, none, false, [1495, 1494, 125, 49]), (yX13_isWord, cX13_isWord, 3, (some .boolean), false, [1510, 1509, 125, 52]), (yX13_isSign, cX13_isSign, 2, (some .boolean), false, [1574, 1573, 125, 61]), (yX13_fails, cX13_fails, 2, (some .boolean), false, [1518, 1517, 125, 54]), (yX13_usual, cX13_usual, 3, none, false, [1285, 1284, 125, 45]), (yX13_puts, cX13_puts, 2, none, false, [1618, 1617, 125, 71]), (yX13_fact, cX13_fact, 1, (some .int), false, [1610, 1609, 125, 70]), (yX13_reads, cX13_reads, 6, (some .boolean), false, [1606, 1605, 125, 69]), (yX13_opens, cX13_opens, 2, none, false, [1708, 1707, 125, 88]), (yX13_sums, cX13_sums, 2, none, false, [1712, 1711, 125, 89]), (yX13_tests, cX13_tests, 3, none, false, [1716, 1715, 125, 90]), (yX13_worked, cX13_worked, 6, (some .int), false, [1704, 1703, 125, 87]), (yX13_isKept, cX13_isKept, 1, (some .boolean), false, [1522, 1521, 125, 55]), (yX13_turbineNamed, cX13_turbineNamed, 3, (some .int), false, [1551, 1550, 125, 56]), (yX13_needsNumber, cX13_needsNumber, 3, (some .boolean), false, [1559, 1558, 125, 58]), (yX13_needsBoth, cX13_needsBoth, 5, (some .boolean), false, [1555, 1554, 125, 57]), (yX13_closes, cX13_closes, 1, (some .boolean), false, [1570, 1569, 125, 60]), (yX13_needsTurbine, cX13_needsTurbine, 2, (some .boolean), false, [1582, 1581, 125, 63]), (yX13_stands, cX13_stands, 3, (some .boolean), false, [1566, 1565, 125, 59]), (yX13_readsTurbine, cX13_readsTurbine, 4, (some .boolean), false, [1514, 1513, 125, 53]), (yX13_readsCable, cX13_readsCable, 3, (some .boolean), false, [1578, 1577, 125, 62]), (yX13_isTold, cX13_isTold, 3, (some .boolean), false, [1590, 1589, 125, 65]), (yX13_readsRow, cX13_readsRow, 4, (some .boolean), false, [1586, 1585, 125, 64]), (yX13_readsOne, cX13_readsOne, 3, (some .boolean), false, [1598, 1597, 125, 67]), (yX13_readsWakes, cX13_readsWakes, 2, (some .boolean), false, [1594, 1593, 125, 66]), (yX13_readsGives, cX13_readsGives, 1, (some .boolean), false, [1602, 1601, 125, 68]), (yX13_begins, cX13_begins, 1, none, false, [1491, 1490, 125, 48]), (yX13_readsPark, cX13_readsPark, 1, (some .boolean), false, [1505, 1504, 125, 51]), (yX13_readsAll, cX13_readsAll, 1, (some .boolean), false, [1487, 1486, 125, 47]), (yX13_shifts, cX13_shifts, 3, none, true, [1625, 1624, 125]), (yX13_lays, cX13_lays, 2, none, false, [1622, 1621, 125, 72]), (yX13_copies, cX13_copies, 5, none, true, [1754, 1753, 125]), (yX13_readsLine, cX13_readsLine, 3, (some .boolean), false, [1633, 1632, 125, 73]), (yX13_laysLines, cX13_laysLines, 4, none, false, [1637, 1636, 125, 74]), (yX13_laysSeen, cX13_laysSeen, 4, none, false, [1942, 1941, 125, 111]), (yX13_fresh0, cX13_fresh0, 2, none, false, [1289, 1288, 125, 46]), (yX13_park, cX13_park, 2, (some .int), false, [1483, 1481, 125, 1482]), (yX13_day, cX13_day, 1, (some .int), false, [1629, 1627, 125, 1628]), (yX13_isTurbine, cX13_isTurbine, 2, (some .boolean), false, [1645, 1644, 125, 75]), (yX13_rowOf, cX13_rowOf, 3, (some .int), false, [1665, 1664, 125, 79]), (yX13_priceNow, cX13_priceNow, 1, (some .int), false, [1790, 1789, 125, 100]), (yX13_isShut, cX13_isShut, 2, (some .boolean), false, [1649, 1648, 125, 76]), (yX13_isBroken, cX13_isBroken, 2, (some .boolean), false, [1653, 1652, 125, 77]), (yX13_runs, cX13_runs, 2, (some .boolean), false, [1681, 1680, 125, 83]), (yX13_turnedOf, cX13_turnedOf, 2, (some .int), false, [1689, 1688, 125, 85]), (yX13_looks, cX13_looks, 1, none, false, [1661, 1660, 125, 78]), (yX13_behind, cX13_behind, 8, (some .int), false, [1685, 1684, 125, 84]), (yX13_takesOf, cX13_takesOf, 4, (some .int), false, [1677, 1676, 125, 82]), (yX13_takenOf, cX13_takenOf, 4, (some .int), false, [1673, 1672, 125, 81]), (yX13_windOf, cX13_windOf, 2, (some .int), false, [1669, 1668, 125, 80]), (yX13_powerOf, cX13_powerOf, 3, (some .int), false, [1700, 1699, 125, 86]), (yX13_hopsOf, cX13_hopsOf, 4, (some .int), false, [1739, 1738, 125, 94]), (yX13_homeBy, cX13_homeBy, 5, (some .int), false, [1735, 1734, 125, 93]), (yX13_laysPowers, cX13_laysPowers, 2, none, false, [1731, 1730, 125, 92]), (yX13_homeNow, cX13_homeNow, 1, (some .int), false, [1727, 1726, 125, 91]), (yX13_powersNow, cX13_powersNow, 3, (some .int), false, [1827, 1826, 125, 102]), (yX13_soldNow, cX13_soldNow, 1, (some .int), false, [1786, 1785, 125, 99]), (yX13_passes, cX13_passes, 5, (some .int), false, [1782, 1781, 125, 98]), (yX13_turbine, cX13_turbine, 3, (some .int), false, [1641, 1639, 125, 1640]), (yX13_wind, cX13_wind, 2, (some .int), false, [1657, 1655, 125, 1656]), (yX13_power, cX13_power, 2, (some .int), false, [1696, 1694, 125, 1695]), (yX13_carried, cX13_carried, 2, (some .int), false, [1723, 1721, 125, 1722]), (yX13_home, cX13_home, 1, (some .int), false, [1743, 1741, 125, 1742]), (yX13_keeps, cX13_keeps, 2, none, false, [1751, 1750, 125, 95]), (yX13_turn, cX13_turn, 4, (some .int), false, [1747, 1745, 125, 1746]), (yX13_canMend, cX13_canMend, 2, (some .boolean), false, [1770, 1769, 125, 96]), (yX13_mends, cX13_mends, 2, none, false, [1774, 1773, 125, 97]), (yX13_shut, cX13_shut, 2, (some .boolean), false, [1758, 1756, 125, 1757]), (yX13_open, cX13_open, 2, (some .boolean), false, [1762, 1760, 125, 1761]), (yX13_mend, cX13_mend, 2, (some .boolean), false, [1766, 1764, 125, 1765]), (yX13_step, cX13_step, 1, (some .int), false, [1778, 1776, 125, 1777]), (yX13_undo, cX13_undo, 1, (some .boolean), false, [1794, 1792, 125, 1793]), (yX13_isDone, cX13_isDone, 4, (some .boolean), false, [1803, 1802, 125, 101]), (yX13_judged, cX13_judged, 6, (some .int), false, [1798, 1796, 125, 1797]), (yX13_takes, cX13_takes, 3, (some .int), false, [1807, 1805, 125, 1806]), (yX13_later, cX13_later, 3, (some .int), false, [1811, 1809, 125, 1810]), (yX13_total, cX13_total, 4, (some .int), false, [1815, 1813, 125, 1814]), (yX13_breaks, cX13_breaks, 3, (some .int), false, [1819, 1817, 125, 1818]), (yX13_lost, cX13_lost, 2, (some .int), false, [1823, 1821, 125, 1822]), (yX13_turnsAll, cX13_turnsAll, 7, none, false, [1839, 1838, 125, 104]), (yX13_ownedBy, cX13_ownedBy, 4, (some .int), false, [1835, 1834, 125, 103]), (yX13_powerBy, cX13_powerBy, 4, (some .int), false, [1843, 1842, 125, 105]), (yX13_foundOf, cX13_foundOf, 5, (some .int), false, [1847, 1846, 125, 106]), (yX13_best, cX13_best, 2, (some .int), false, [1831, 1829, 125, 1830]), (yX13_alone, cX13_alone, 3, (some .int), false, [1851, 1849, 125, 1850]), (yX13_idle, cX13_idle, 7, (some .int), false, [1855, 1853, 125, 1854]), (yX13_straight, cX13_straight, 3, (some .int), false, [1859, 1857, 125, 1858]), (yX13_full, cX13_full, 3, (some .int), false, [1863, 1861, 125, 1862]), (yX13_dear, cX13_dear, 5, (some .int), false, [1867, 1865, 125, 1866]), (yX13_fault, cX13_fault, 2, (some .int), false, [1871, 1869, 125, 1870]), (yX13_hops, cX13_hops, 2, (some .int), false, [1875, 1873, 125, 1874]), (yX13_windsOf, cX13_windsOf, 4, (some .int), false, [1883, 1882, 125, 107]), (yX13_robbed, cX13_robbed, 5, (some .int), false, [1879, 1877, 125, 1878]), (yX13_front, cX13_front, 3, (some .int), false, [1887, 1885, 125, 1886]), (yX13_shade, cX13_shade, 4, (some .int), false, [1891, 1889, 125, 1890]), (yX13_laysWinds, cX13_laysWinds, 4, (some .int), false, [1903, 1902, 125, 108]), (yX13_see, cX13_see, 3, (some .boolean), false, [1895, 1893, 125, 1894]), (yX13_winds, cX13_winds, 7, (some .int), false, [1899, 1897, 125, 1898]), (yX13_ask, cX13_ask, 6, (some .int), false, [1907, 1905, 125, 1906]), (yX13_chance, cX13_chance, 7, (some .int), false, [1911, 1909, 125, 1910]), (yX13_getsBy, cX13_getsBy, 5, (some .int), true, [1918, 1917, 125]), (yX13_rests, cX13_rests, 9, (some .int), false, [1915, 1913, 125, 1914]), (yX13_draws, cX13_draws, 2, (some .int), false, [1930, 1929, 125, 110]), (yX13_livesStep, cX13_livesStep, 3, none, false, [1926, 1925, 125, 109]), (yX13_days, cX13_days, 7, (some .int), false, [1922, 1920, 125, 1921]), (yX13_mark, cX13_mark, 5, (some .boolean), false, [1938, 1936, 125, 1937]), (yX13_count, cX13_count, 2, (some .int), false, [1946, 1944, 125, 1945]), (yJ9_floorMod_7cf53, cJ9_floorMod_7cf53, 3, (some .int), true, [979, 978, 129]), (yJ7_fill_53178, cJ7_fill_53178, 4, none, true, [465, 464, 122])] mi
def zgdw (w : Jvm.Cond) : Bool := (w.onTables && w.keeps) || (match w with | .arrayClass _ => true | _ => false)
def zbdw (w : Jvm.Cond) : Bool := match w with
  | .fieldLinkNest .. => true
  | .methodLinkNest .. => true
  | .declares _ => true
  | .castable .. => true
  | .privateMethod _ => true
  | .arrayOver (.object _) => true
  | _ => false
/-- the tables' words that calls keep -/
def lw_tz : List Jvm.Cond := lw_tbl.filter (fun w => zgdw w || zbdw w)
def zlk (j : Nat) (c : Jvm.Cond) : Bool := decide (lw_tbl[j]? = some c) && (zgdw c || zbdw c)
theorem zlk_m {j : Nat} {c : Jvm.Cond} (h : zlk j c = true) : c ∈ lw_tz := by
  obtain ⟨h1, h2⟩ := Bool.and_eq_true_iff.mp h
  exact List.mem_filter.mpr ⟨List.mem_of_getElem? (of_decide_eq_true h1), h2⟩
/-- a method that is called: its words are among the tables' -/
def zokm (q : ZI) : Bool := match q with
  | (y, cc, nl, ret, st, js) => match js with
    | j0 :: j1 :: j2 :: r => zlk j0 (.code y cc nl ret) && zlk j2 (.initialized y.cls) && Nat.ble nl 21 && plainFor y && decide (y.cls ≠ "java/lang/invoke/MethodHandle") && decide (y.cls ≠ "java/lang/invoke/VarHandle") && decide (y.cls ≠ "WakeParkLaw") && (match st with
      | true => zlk j1 (.static y)
      | false => zlk j1 (.instanceMethod y) && (match r with
        | [] => decide (y.name = "<init>") && decide (ret = none)
        | j3 :: _ => zlk j3 (.selects y.cls y y)))
    | _ => false
/-- a field of an object: its word, its place, what it holds -/
def zokf (own : String) (idx : Nat) (ax : List Nat) : Bool := match ax with
  | t :: f :: pl :: tg :: rg :: j :: _ => match t with
    | 12 => (Nat.beq f 0 && Nat.beq pl 5 && zlk j (.fieldLink own idx "WakePark$Word" "free" "Z")) || (Nat.beq f 1 && Nat.beq pl 6 && zlk j (.fieldLink own idx "WakePark$Word" "key" "J"))
    | t => Nat.blt t 12 && Nat.blt f (znf t) && decide (zfp t f = (pl, tg, rg)) && (match vwCl[t]? with
      | some c => zlk j (.fieldLink own idx (c.2.1 f).1 (c.2.1 f).2.1 (c.2.1 f).2.2.1)
      | none => false)
  | _ => false
def zokp (own : String) (ini : Bool) (ax : List Nat) : Bool := match ax with
  | t :: f :: _ => Nat.blt t 12 && (match vwCl[t]? with
    | some c => !((c.2.1 f).2.2.2) || (ini && decide ((c.2.1 f).1 = own))
    | none => false)
  | _ => false
def zoks (own : String) (idx : Nat) (ax : List Nat) : Bool := match ax with
  | t :: i :: j :: _ => match t with
    | 12 => Nat.blt i 30 && zlk j (.fieldLink own idx "WakePark$Word" (zwn i) "LWakePark$Word;")
    | 100 => Nat.beq i 0 && zlk j (.fieldLinkNest own idx "WakePark" "WORDS" "[LWakePark$Word;" "WakePark")
    | 101 => Nat.beq i 0 && zlk j (.fieldLink own idx "WakePark$1" "$SwitchMap$WakePark$Word" "[I")
    | _ => false
  | _ => false
/-- invocations; k: 0 on an object, 1 a constructor, 2 static -/
def zokc (own : String) (idx k : Nat) (ax : List Nat) : Bool := match ax with
  | 0 :: mi :: n :: j :: _ => Nat.beq k 2 && (match zmi mi with
    | some q => q.2.2.2.2.1 && zlk j (.methodLink own idx q.1) && decide ((parseMethodDescriptor q.1.desc).map (fun d => d.parameters.length) = some n)
    | none => false)
  | 1 :: mi :: n :: j :: nest :: tg :: _ => (match zmi mi with
    | some q => !q.2.2.2.2.1 && Nat.blt tg 12 && decide ((parseMethodDescriptor q.1.desc).map (fun d => d.parameters.length) = some (n - 1)) && Nat.blt 0 n && (match vwCl[tg]? with
      | some c => decide (q.1.cls = c.1)
      | none => false) && (match nest with
      | 0 => zlk j (.methodLink own idx q.1)
      | _ => zlk j (.methodLinkNest own idx q.1 "WakePark") && Nat.beq k 1) && (match k with
      | 0 => decide (q.1.name ≠ "<init>")
      | 1 => decide (q.1.name = "<init>") && decide (q.2.2.2.1 = none)
      | _ => false)
    | none => false)
  | 2 :: _ :: _ :: j :: _ => Nat.beq k 1 && zlk j (.methodLink own idx Lib.objectInit)
  | 3 :: _ :: _ :: j :: _ => Nat.beq k 2 && zlk j (.methodLink own idx arraycopyName)
  | 4 :: _ :: _ :: j :: _ => Nat.beq k 0 && zlk j (.methodLink own idx ⟨"WakePark$Word", "ordinal", "()I"⟩)
  | 5 :: _ :: _ :: j :: _ => Nat.beq k 2 && zlk j (.methodLink own idx yL_rests) && decide (own = "WakeParkLaw")
  | 6 :: _ :: _ :: j :: _ => Nat.beq k 2 && zlk j (.methodLink own idx Lib.Math.max.name)
  | 7 :: _ :: _ :: j :: _ => Nat.beq k 2 && zlk j (.methodLink own idx Lib.Math.min.name)
  | 8 :: _ :: _ :: j :: _ => Nat.beq k 2 && zlk j (.methodLink own idx Lib.Math.abs.name)
  | _ => false
def zokn (own : String) (idx : Nat) (ax : List Nat) : Bool := match ax with
  | t :: j :: _ => Nat.blt t 12 && (match vwCl[t]? with
    | some c => zlk j (.classLink own idx c.1)
    | none => false)
  | _ => false
def zokq (own : String) (idx : Nat) (ax : List Nat) : Bool := match ax with
  | t :: j :: _ => Nat.beq (zek t) 4 && (match zty t with
    | .object C => zlk j (.classLink own idx C)
    | _ => false)
  | _ => false
def zat (a : ArrayType) : Nat := match a with
  | .int => 0
  | .long => 1
  | .byte => 2
  | .boolean => 3
  | _ => 9
def zhI (cv : List Int) : Int := match cv with
  | x :: _ => x
  | [] => 0
def zr32b (x : Int) : Bool := decide (-2147483648 ≤ x) && decide (x < 2147483648)
def zr64b (x : Int) : Bool := decide (-9223372036854775808 ≤ x) && decide (x < 9223372036854775808)
def zok2 (own : String) (ini : Bool) (nl pc : Nat) (q : ZE) : Bool := match q with
  | (ins, len, ax, cv) => match ins with
    | .aload _ => Nat.beq len 2
    | .iload _ => Nat.beq len 2
    | .lload _ => Nat.beq len 2
    | .astore i => Nat.beq len 2 && Nat.blt i nl
    | .istore i => Nat.beq len 2 && Nat.blt i nl
    | .lstore i => Nat.beq len 2 && Nat.blt (i + 1) nl
    | .astore_n i => Nat.beq len 1 && Nat.blt i nl
    | .istore_n i => Nat.beq len 1 && Nat.blt i nl
    | .lstore_n i => Nat.beq len 1 && Nat.blt (i + 1) nl
    | .iinc i n => Nat.beq len 3 && Nat.blt i nl && zr32b n
    | .iconst n => Nat.beq len 1 && zr32b n
    | .bipush n => Nat.beq len 2 && zr32b n && decide ((Int8.ofInt n).toInt32 = Int32.ofInt n)
    | .sipush n => Nat.beq len 3 && zr32b n && decide ((Int16.ofInt n).toInt32 = Int32.ofInt n)
    | .ldc idx => Nat.beq len 2 && zr32b (zhI cv) && zlk (zhd ax) (.constant own idx (Int32.ofInt (zhI cv)))
    | .ldc_w idx => Nat.beq len 3 && zr32b (zhI cv) && zlk (zhd ax) (.constant own idx (Int32.ofInt (zhI cv)))
    | .ldc2_w idx => Nat.beq len 3 && zr64b (zhI cv) && zlk (zhd ax) (.constantLong own idx (Int64.ofInt (zhI cv)))
    | .goto off => Nat.beq len 3 && decide ((pc : Int) + off = (zhd ax : Int))
    | .ifCond _ off => Nat.beq len 3 && decide ((pc : Int) + off = (zhd ax : Int))
    | .if_icmp _ off => Nat.beq len 3 && decide ((pc : Int) + off = (zhd ax : Int))
    | .if_acmp _ off => Nat.beq len 3 && decide ((pc : Int) + off = (zhd ax : Int))
    | .ifnull off => Nat.beq len 3 && decide ((pc : Int) + off = (zhd ax : Int))
    | .ifnonnull off => Nat.beq len 3 && decide ((pc : Int) + off = (zhd ax : Int))
    | .tableswitch d lo hi offs => decide ((pc : Int) + d = (zhd ax : Int)) && decide (cv = (List.range offs.size).map (fun k : Nat => lo + (k : Int))) && decide (offs.toList.map (fun o => (pc : Int) + o) = (ax.drop 1).map (fun t : Nat => (t : Int))) && decide (hi = lo + (offs.size : Int) - 1)
    | .getfield idx => Nat.beq len 3 && zokf own idx ax
    | .putfield idx => Nat.beq len 3 && zokf own idx ax && zokp own ini ax
    | .getstatic idx => Nat.beq len 3 && zoks own idx ax
    | .invokevirtual idx => Nat.beq len 3 && zokc own idx 0 ax
    | .invokespecial idx => Nat.beq len 3 && zokc own idx 1 ax
    | .invokestatic idx => Nat.beq len 3 && zokc own idx 2 ax
    | .new idx => Nat.beq len 3 && zokn own idx ax
    | .newarray a => Nat.beq len 2 && Nat.beq (zek (zhd ax)) (zat a) && Nat.ble (zek (zhd ax)) 3 && Nat.blt (zhd ax) 104
    | .anewarray idx => Nat.beq len 3 && zokq own idx ax && Nat.blt (zhd ax) 104
    | .dup2 => Nat.beq len 1
    | _ => Nat.beq len 1
def zokr (ret : Option FieldType) (q : ZE) : Bool := match q.1 with
  | .ireturn => match q.2.2.1 with
    | [] => decide (ret = some .int)
    | _ => decide (ret = some .boolean)
  | .lreturn => decide (ret = some .long)
  | .return_ => decide (ret = none)
  | _ => true
def zok (own : String) (ini : Bool) (nl : Nat) (cc : ByteArray) (q : Nat × ZE) : Bool := decide (decode cc q.1 = .ok (q.2.1, q.2.2.1)) && zok2 own ini nl q.1 q.2
def zokt (q : ZI) (tab : ZT) : Bool := tab.all (fun z => zok q.1.cls (decide (q.1.name = "<init>")) q.2.2.1 q.2.1 z && zokr q.2.2.2.1 z.2)
def zckm (mi : Nat) (tab : ZT) (nl : Nat) : Bool := match zmi mi with
  | some q => zokt q tab && Nat.beq q.2.2.1 nl && zokm q
  | none => false
