/-! ===== text constants: their bytes, and where the premises say them (by program, wip/p26/mkstart.py) ===== -/
def sBt : List (List Nat) := [[40, 41, 91, 93, 59, 44, 43, 45, 42, 47, 60, 62, 61],
  [116, 111, 110, 103, 117, 101],
  [101, 97, 115, 101],
  [114, 111, 111, 116],
  [111, 102],
  [108, 101, 116, 116, 101, 114, 115],
  [104, 97, 114, 100],
  [119, 111, 114, 100],
  [102, 114, 111, 109],
  [115, 112, 101, 108, 108, 101, 114],
  [112, 97, 115, 115, 101, 115],
  [107, 110, 111, 119, 115],
  [114, 111, 117, 110, 100],
  [116, 111, 108, 108],
  [108, 97, 112, 115],
  [119, 111, 114, 100, 115],
  [104, 105, 110, 116],
  [112, 97, 115, 115],
  [97, 112, 112, 101, 97, 108],
  [119, 104, 101, 110],
  [116, 117, 114, 110],
  [108, 101, 102, 116],
  [112, 111, 105, 110, 116, 115],
  [109, 105, 115, 115, 101, 115],
  [103, 97, 112],
  [105, 110],
  [110, 101, 120, 116],
  [110, 111, 116],
  [97, 110, 100],
  [111, 114],
  [109, 105, 110],
  [109, 97, 120],
  [],
  [32, 115],
  [32, 119],
  [103, 97, 112],
  [62],
  [112, 111, 105, 110, 116, 115],
  [62, 61],
  [109, 105, 115, 115, 101, 115],
  [61, 49],
  [116, 117, 114, 110, 32, 62, 32],
  [108, 101, 102, 116, 60, 61],
  [32, 97, 110, 100, 32, 112, 97, 115, 115, 101, 115],
  [62, 48],
  [110, 111, 116, 32, 110, 101, 120, 116],
  [32, 111, 114, 32, 104, 97, 114, 100],
  [91, 105, 110],
  [93, 97, 110, 100, 32, 103, 97, 112],
  [45, 104, 97, 114, 100],
  [47, 50, 60],
  [49, 61, 49],
  [109, 105, 110, 40, 112, 111, 105, 110, 116, 115],
  [44],
  [41, 42, 50, 62, 116, 117, 114, 110, 47, 51],
  [116, 111, 110, 103, 117, 101, 32, 116],
  [32, 101, 97, 115, 101, 32],
  [59],
  [32, 59, 10],
  [114, 111, 111, 116, 32, 114],
  [32, 111, 102, 32, 116],
  [32, 108, 101, 116, 116, 101, 114, 115, 32],
  [32, 104, 97, 114, 100, 32],
  [119, 111, 114, 100, 32, 119],
  [32, 102, 114, 111, 109],
  [32, 114],
  [115, 112, 101, 108, 108, 101, 114, 32, 115],
  [32, 112, 97, 115, 115, 101, 115, 32],
  [32, 107, 110, 111, 119, 115, 32, 116],
  [32],
  [59, 10],
  [114, 111, 117, 110, 100, 32, 113],
  [32, 116, 111, 108, 108, 32],
  [32, 108, 97, 112, 115, 32],
  [32, 119, 111, 114, 100, 115],
  [104, 105, 110, 116],
  [112, 97, 115, 115],
  [97, 112, 112, 101, 97, 108],
  [32, 119, 104, 101, 110, 32],
  [110, 111, 98, 111, 100, 121, 32, 111, 110, 32, 116, 117, 114, 110, 32, 99, 97, 110, 32, 116, 97, 107, 101, 32, 97, 32, 104, 105, 110, 116],
  [110, 111, 98, 111, 100, 121, 32, 111, 110, 32, 116, 117, 114, 110, 32, 99, 97, 110, 32, 112, 97, 115, 115, 32, 116, 104, 101, 32, 119, 111, 114, 100, 32, 111, 110]]
def sB (i : Nat) : List Nat := sBt.getD i []
def sRow (i : Nat) : String × Nat × String × Nat := sTab.getD i ("", 0, "", 0)
abbrev sTm (i : Nat) : Term := .string (sRow i).1 (sRow i).2.1
abbrev sVl (i : Nat) : Term := .field (sTm i) "java/lang/String" "value" "[B"
def sWd (i : Nat) : List Cond := [.exactly (sTm i) "java/lang/String", .eq (.field (sTm i) "java/lang/String" "coder" "B") (.int 0), .arrayOf (sVl i) .byte, .eq (.length (sVl i)) (.int (Int32.ofNat (sB i).length))] ++ (List.range (sB i).length).map (fun j => .eq (.elem (sVl i) (.int (Int32.ofNat j))) (.int (Int32.ofNat ((sB i).getD j 0))))
def sIx : List (List Nat) := [[888, 889, 890, 891, 892, 893, 894, 895, 896, 897, 898, 899, 900, 901, 902, 903, 904],
  [628, 629, 630, 631, 632, 633, 634, 635, 636, 637],
  [638, 639, 640, 641, 642, 643, 644, 645],
  [646, 647, 648, 649, 650, 651, 652, 653],
  [654, 655, 656, 657, 658, 659],
  [660, 661, 662, 663, 664, 665, 666, 667, 668, 669, 670],
  [671, 672, 673, 674, 675, 676, 677, 678],
  [679, 680, 681, 682, 683, 684, 685, 686],
  [687, 688, 689, 690, 691, 692, 693, 694],
  [695, 696, 697, 698, 699, 700, 701, 702, 703, 704, 705],
  [706, 707, 708, 709, 710, 711, 712, 713, 714, 715],
  [716, 717, 718, 719, 720, 721, 722, 723, 724],
  [725, 726, 727, 728, 729, 730, 731, 732, 733],
  [734, 735, 736, 737, 738, 739, 740, 741],
  [742, 743, 744, 745, 746, 747, 748, 749],
  [750, 751, 752, 753, 754, 755, 756, 757, 758],
  [759, 760, 761, 762, 763, 764, 765, 766],
  [767, 768, 769, 770, 771, 772, 773, 774],
  [775, 776, 777, 778, 779, 780, 781, 782, 783, 784],
  [785, 786, 787, 788, 789, 790, 791, 792],
  [793, 794, 795, 796, 797, 798, 799, 800],
  [801, 802, 803, 804, 805, 806, 807, 808],
  [809, 810, 811, 812, 813, 814, 815, 816, 817, 818],
  [819, 820, 821, 822, 823, 824, 825, 826, 827, 828],
  [829, 830, 831, 832, 833, 834, 835],
  [836, 837, 838, 839, 840, 841],
  [842, 843, 844, 845, 846, 847, 848, 849],
  [850, 851, 852, 853, 854, 855, 856],
  [857, 858, 859, 860, 861, 862, 863],
  [864, 865, 866, 867, 868, 869],
  [870, 871, 872, 873, 874, 875, 876],
  [877, 878, 879, 880, 881, 882, 883],
  [884, 885, 886, 887],
  [1130, 1131, 1132, 1133, 1134, 1135],
  [1095, 1096, 1097, 1098, 1099, 1100],
  [1146, 1147, 1148, 1149, 1150, 1151, 1152],
  [1154, 1155, 1156, 1157, 1158],
  [1159, 1160, 1161, 1162, 1163, 1164, 1165, 1166, 1167, 1168],
  [1170, 1171, 1172, 1173, 1174, 1175],
  [1176, 1177, 1178, 1179, 1180, 1181, 1182, 1183, 1184, 1185],
  [1187, 1188, 1189, 1190, 1191, 1192],
  [1193, 1194, 1195, 1196, 1197, 1198, 1199, 1200, 1201, 1202, 1203],
  [1204, 1205, 1206, 1207, 1208, 1209, 1210, 1211, 1212, 1213],
  [1214, 1215, 1216, 1217, 1218, 1219, 1220, 1221, 1222, 1223, 1224, 1225, 1226, 1227, 1228],
  [1229, 1230, 1231, 1232, 1233, 1234],
  [1235, 1236, 1237, 1238, 1239, 1240, 1241, 1242, 1243, 1244, 1245, 1246],
  [1247, 1248, 1249, 1250, 1251, 1252, 1253, 1254, 1255, 1256, 1257, 1258],
  [1259, 1260, 1261, 1262, 1263, 1264, 1265],
  [1266, 1267, 1268, 1269, 1270, 1271, 1272, 1273, 1274, 1275, 1276, 1277],
  [1278, 1279, 1280, 1281, 1282, 1283, 1284, 1285, 1286],
  [1287, 1288, 1289, 1290, 1291, 1292, 1293],
  [1294, 1295, 1296, 1297, 1298, 1299, 1300],
  [1301, 1302, 1303, 1304, 1305, 1306, 1307, 1308, 1309, 1310, 1311, 1312, 1313, 1314],
  [1315, 1316, 1317, 1318, 1319],
  [1320, 1321, 1322, 1323, 1324, 1325, 1326, 1327, 1328, 1329, 1330, 1331, 1332, 1333],
  [905, 906, 907, 908, 909, 910, 911, 912, 913, 914, 915, 916],
  [917, 918, 919, 920, 921, 922, 923, 924, 925, 926],
  [927, 928, 929, 930, 931],
  [932, 933, 934, 935, 936, 937, 938],
  [939, 940, 941, 942, 943, 944, 945, 946, 947, 948],
  [949, 950, 951, 952, 953, 954, 955, 956, 957],
  [958, 959, 960, 961, 962, 963, 964, 965, 966, 967, 968, 969, 970],
  [971, 972, 973, 974, 975, 976, 977, 978, 979, 980],
  [981, 982, 983, 984, 985, 986, 987, 988, 989, 990],
  [991, 992, 993, 994, 995, 996, 997, 998, 999],
  [1000, 1001, 1002, 1003, 1004, 1005],
  [1006, 1007, 1008, 1009, 1010, 1011, 1012, 1013, 1014, 1015, 1016, 1017, 1018],
  [1019, 1020, 1021, 1022, 1023, 1024, 1025, 1026, 1027, 1028, 1029, 1030],
  [1031, 1032, 1033, 1034, 1035, 1036, 1037, 1038, 1039, 1040, 1041, 1042],
  [1043, 1044, 1045, 1046, 1047],
  [1048, 1049, 1050, 1051, 1052, 1053],
  [1054, 1055, 1056, 1057, 1058, 1059, 1060, 1061, 1062, 1063, 1064],
  [1065, 1066, 1067, 1068, 1069, 1070, 1071, 1072, 1073, 1074],
  [1075, 1076, 1077, 1078, 1079, 1080, 1081, 1082, 1083, 1084],
  [1085, 1086, 1087, 1088, 1089, 1090, 1091, 1092, 1093, 1094],
  [1101, 1102, 1103, 1104, 1105, 1106, 1107, 1108],
  [1110, 1111, 1112, 1113, 1114, 1115, 1116, 1117],
  [1119, 1120, 1121, 1122, 1123, 1124, 1125, 1126, 1127, 1128],
  [1136, 1137, 1138, 1139, 1140, 1141, 1142, 1143, 1144, 1145],
  [1334, 1335, 1336, 1337, 1338, 1339, 1340, 1341, 1342, 1343, 1344, 1345, 1346, 1347, 1348, 1349, 1350, 1351, 1352, 1353, 1354, 1355, 1356, 1357, 1358, 1359, 1360, 1361, 1362, 1363, 1364, 1365, 1366, 1367],
  [1368, 1369, 1370, 1371, 1372, 1373, 1374, 1375, 1376, 1377, 1378, 1379, 1380, 1381, 1382, 1383, 1384, 1385, 1386, 1387, 1388, 1389, 1390, 1391, 1392, 1393, 1394, 1395, 1396, 1397, 1398, 1399, 1400, 1401, 1402, 1403, 1404, 1405, 1406]]
def sTx : List Nat := [1049, 1011, 1012, 1013, 1014, 1015, 1016, 1017, 1018, 1019, 1020, 1021, 1022, 1023, 1024, 1025, 1026, 1027, 1028, 1029, 1030, 1031, 1032, 1033, 1034, 1035, 1036, 1037, 1038, 1039, 1040, 1041, 1042, 1487, 1481, 1570, 1571, 1572, 1573, 1574, 1575, 1576, 1577, 1578, 1579, 1580, 1581, 1582, 1583, 1584, 1585, 1586, 1587, 1588, 1589, 1339, 1460, 1461, 1462, 1464, 1465, 1466, 1467, 1469, 1470, 1471, 1472, 1473, 1474, 1475, 1476, 1477, 1478, 1479, 1480, 1484, 1485, 1486, 1488, 1600, 1608]
def sFl : List Cond := flatC (Jvm.Cond.and given_1 narrow_1)
def sCk (i : Nat) : Bool := decide ((sWd i).length = (sIx.getD i []).length) && ((sWd i).zip (sIx.getD i [])).all (fun p => decide (sFl[p.2]? = some p.1)) && decide (tables_1[sTx.getD i 0]? = some (.stringRef (sRow i).1 (sRow i).2.1 (sRow i).2.2.1))
theorem sk_0 : sCk 0 = true := by decide +kernel
theorem sk_1 : sCk 1 = true := by decide +kernel
theorem sk_2 : sCk 2 = true := by decide +kernel
theorem sk_3 : sCk 3 = true := by decide +kernel
theorem sk_4 : sCk 4 = true := by decide +kernel
theorem sk_5 : sCk 5 = true := by decide +kernel
theorem sk_6 : sCk 6 = true := by decide +kernel
theorem sk_7 : sCk 7 = true := by decide +kernel
theorem sk_8 : sCk 8 = true := by decide +kernel
theorem sk_9 : sCk 9 = true := by decide +kernel
theorem sk_10 : sCk 10 = true := by decide +kernel
theorem sk_11 : sCk 11 = true := by decide +kernel
theorem sk_12 : sCk 12 = true := by decide +kernel
theorem sk_13 : sCk 13 = true := by decide +kernel
theorem sk_14 : sCk 14 = true := by decide +kernel
theorem sk_15 : sCk 15 = true := by decide +kernel
theorem sk_16 : sCk 16 = true := by decide +kernel
theorem sk_17 : sCk 17 = true := by decide +kernel
theorem sk_18 : sCk 18 = true := by decide +kernel
theorem sk_19 : sCk 19 = true := by decide +kernel
theorem sk_20 : sCk 20 = true := by decide +kernel
theorem sk_21 : sCk 21 = true := by decide +kernel
theorem sk_22 : sCk 22 = true := by decide +kernel
theorem sk_23 : sCk 23 = true := by decide +kernel
theorem sk_24 : sCk 24 = true := by decide +kernel
theorem sk_25 : sCk 25 = true := by decide +kernel
theorem sk_26 : sCk 26 = true := by decide +kernel
theorem sk_27 : sCk 27 = true := by decide +kernel
theorem sk_28 : sCk 28 = true := by decide +kernel
theorem sk_29 : sCk 29 = true := by decide +kernel
theorem sk_30 : sCk 30 = true := by decide +kernel
theorem sk_31 : sCk 31 = true := by decide +kernel
theorem sk_32 : sCk 32 = true := by decide +kernel
theorem sk_33 : sCk 33 = true := by decide +kernel
theorem sk_34 : sCk 34 = true := by decide +kernel
theorem sk_35 : sCk 35 = true := by decide +kernel
theorem sk_36 : sCk 36 = true := by decide +kernel
theorem sk_37 : sCk 37 = true := by decide +kernel
theorem sk_38 : sCk 38 = true := by decide +kernel
theorem sk_39 : sCk 39 = true := by decide +kernel
theorem sk_40 : sCk 40 = true := by decide +kernel
theorem sk_41 : sCk 41 = true := by decide +kernel
theorem sk_42 : sCk 42 = true := by decide +kernel
theorem sk_43 : sCk 43 = true := by decide +kernel
theorem sk_44 : sCk 44 = true := by decide +kernel
theorem sk_45 : sCk 45 = true := by decide +kernel
theorem sk_46 : sCk 46 = true := by decide +kernel
theorem sk_47 : sCk 47 = true := by decide +kernel
theorem sk_48 : sCk 48 = true := by decide +kernel
theorem sk_49 : sCk 49 = true := by decide +kernel
theorem sk_50 : sCk 50 = true := by decide +kernel
theorem sk_51 : sCk 51 = true := by decide +kernel
theorem sk_52 : sCk 52 = true := by decide +kernel
theorem sk_53 : sCk 53 = true := by decide +kernel
theorem sk_54 : sCk 54 = true := by decide +kernel
theorem sk_55 : sCk 55 = true := by decide +kernel
theorem sk_56 : sCk 56 = true := by decide +kernel
theorem sk_57 : sCk 57 = true := by decide +kernel
theorem sk_58 : sCk 58 = true := by decide +kernel
theorem sk_59 : sCk 59 = true := by decide +kernel
theorem sk_60 : sCk 60 = true := by decide +kernel
theorem sk_61 : sCk 61 = true := by decide +kernel
theorem sk_62 : sCk 62 = true := by decide +kernel
theorem sk_63 : sCk 63 = true := by decide +kernel
theorem sk_64 : sCk 64 = true := by decide +kernel
theorem sk_65 : sCk 65 = true := by decide +kernel
theorem sk_66 : sCk 66 = true := by decide +kernel
theorem sk_67 : sCk 67 = true := by decide +kernel
theorem sk_68 : sCk 68 = true := by decide +kernel
theorem sk_69 : sCk 69 = true := by decide +kernel
theorem sk_70 : sCk 70 = true := by decide +kernel
theorem sk_71 : sCk 71 = true := by decide +kernel
theorem sk_72 : sCk 72 = true := by decide +kernel
theorem sk_73 : sCk 73 = true := by decide +kernel
theorem sk_74 : sCk 74 = true := by decide +kernel
theorem sk_75 : sCk 75 = true := by decide +kernel
theorem sk_76 : sCk 76 = true := by decide +kernel
theorem sk_77 : sCk 77 = true := by decide +kernel
theorem sk_78 : sCk 78 = true := by decide +kernel
theorem sk_79 : sCk 79 = true := by decide +kernel
theorem sk_80 : sCk 80 = true := by decide +kernel
theorem sk_all : ∀ i, i < 81 → sCk i = true := fun i h => match i, h with
  | 0, _ => sk_0
  | 1, _ => sk_1
  | 2, _ => sk_2
  | 3, _ => sk_3
  | 4, _ => sk_4
  | 5, _ => sk_5
  | 6, _ => sk_6
  | 7, _ => sk_7
  | 8, _ => sk_8
  | 9, _ => sk_9
  | 10, _ => sk_10
  | 11, _ => sk_11
  | 12, _ => sk_12
  | 13, _ => sk_13
  | 14, _ => sk_14
  | 15, _ => sk_15
  | 16, _ => sk_16
  | 17, _ => sk_17
  | 18, _ => sk_18
  | 19, _ => sk_19
  | 20, _ => sk_20
  | 21, _ => sk_21
  | 22, _ => sk_22
  | 23, _ => sk_23
  | 24, _ => sk_24
  | 25, _ => sk_25
  | 26, _ => sk_26
  | 27, _ => sk_27
  | 28, _ => sk_28
  | 29, _ => sk_29
  | 30, _ => sk_30
  | 31, _ => sk_31
  | 32, _ => sk_32
  | 33, _ => sk_33
  | 34, _ => sk_34
  | 35, _ => sk_35
  | 36, _ => sk_36
  | 37, _ => sk_37
  | 38, _ => sk_38
  | 39, _ => sk_39
  | 40, _ => sk_40
  | 41, _ => sk_41
  | 42, _ => sk_42
  | 43, _ => sk_43
  | 44, _ => sk_44
  | 45, _ => sk_45
  | 46, _ => sk_46
  | 47, _ => sk_47
  | 48, _ => sk_48
  | 49, _ => sk_49
  | 50, _ => sk_50
  | 51, _ => sk_51
  | 52, _ => sk_52
  | 53, _ => sk_53
  | 54, _ => sk_54
  | 55, _ => sk_55
  | 56, _ => sk_56
  | 57, _ => sk_57
  | 58, _ => sk_58
  | 59, _ => sk_59
  | 60, _ => sk_60
  | 61, _ => sk_61
  | 62, _ => sk_62
  | 63, _ => sk_63
  | 64, _ => sk_64
  | 65, _ => sk_65
  | 66, _ => sk_66
  | 67, _ => sk_67
  | 68, _ => sk_68
  | 69, _ => sk_69
  | 70, _ => sk_70
  | 71, _ => sk_71
  | 72, _ => sk_72
  | 73, _ => sk_73
  | 74, _ => sk_74
  | 75, _ => sk_75
  | 76, _ => sk_76
  | 77, _ => sk_77
  | 78, _ => sk_78
  | 79, _ => sk_79
  | 80, _ => sk_80
  | n + 81, h => absurd h (by omega)
def dOneWd : List Cond := [.arrayOf (.static "java/lang/Integer" "DigitOnes" "[B") .byte, .eq (.length (.static "java/lang/Integer" "DigitOnes" "[B")) (.int (Int32.ofNat 100))] ++ (List.range 100).map (fun j => .eq (.elem (.static "java/lang/Integer" "DigitOnes" "[B") (.int (Int32.ofNat j))) (.int (Int32.ofNat (48 + j % 10))))
def dOneIx : List Nat := [12, 13, 14, 15, 16, 17, 18, 19, 20, 21, 22, 23, 24, 25, 26, 27, 28, 29, 30, 31, 32, 33, 34, 35, 36, 37, 38, 39, 40, 41, 42, 43, 44, 45, 46, 47, 48, 49, 50, 51, 52, 53, 54, 55, 56, 57, 58, 59, 60, 61, 62, 63, 64, 65, 66, 67, 68, 69, 70, 71, 72, 73, 74, 75, 76, 77, 78, 79, 80, 81, 82, 83, 84, 85, 86, 87, 88, 89, 90, 91, 92, 93, 94, 95, 96, 97, 98, 99, 100, 101, 102, 103, 104, 105, 106, 107, 108, 109, 110, 111, 112, 113]
theorem dOne_ok : (decide (dOneWd.length = dOneIx.length) && (dOneWd.zip dOneIx).all (fun p => decide (sFl[p.2]? = some p.1))) = true := by decide +kernel
def dTenWd : List Cond := [.arrayOf (.static "java/lang/Integer" "DigitTens" "[B") .byte, .eq (.length (.static "java/lang/Integer" "DigitTens" "[B")) (.int (Int32.ofNat 100))] ++ (List.range 100).map (fun j => .eq (.elem (.static "java/lang/Integer" "DigitTens" "[B") (.int (Int32.ofNat j))) (.int (Int32.ofNat (48 + j / 10 % 10))))
def dTenIx : List Nat := [115, 116, 117, 118, 119, 120, 121, 122, 123, 124, 125, 126, 127, 128, 129, 130, 131, 132, 133, 134, 135, 136, 137, 138, 139, 140, 141, 142, 143, 144, 145, 146, 147, 148, 149, 150, 151, 152, 153, 154, 155, 156, 157, 158, 159, 160, 161, 162, 163, 164, 165, 166, 167, 168, 169, 170, 171, 172, 173, 174, 175, 176, 177, 178, 179, 180, 181, 182, 183, 184, 185, 186, 187, 188, 189, 190, 191, 192, 193, 194, 195, 196, 197, 198, 199, 200, 201, 202, 203, 204, 205, 206, 207, 208, 209, 210, 211, 212, 213, 214, 215, 216]
theorem dTen_ok : (decide (dTenWd.length = dTenIx.length) && (dTenWd.zip dTenIx).all (fun p => decide (sFl[p.2]? = some p.1))) = true := by decide +kernel
