/-! the premises by their places -/
def nwL : List Cond := flatC (Jvm.Cond.and given_1 narrow_1)
def kNm : List String := ["PARISH", "ROAD", "FROM", "TO", "DAYS", "NOTICE", "WRITE", "NOTE", "MERGE", "SEND", "AS", "WITH", "BY", "LEAST", "MOST", "SUM", "WHEN", "DAY", "VALUE", "SHEETS", "MARKS", "WAITS", "TORN", "KNOWN", "NOT", "AND", "OR", "MIN", "MAX", "OPEN", "CLOSE", "OPEN_TEST", "CLOSE_TEST", "LINE_END", "COMMA", "PLUS", "MINUS", "TIMES", "OVER", "LESS", "GREATER", "EQUAL", "AT_MOST", "AT_LEAST", "NAME", "NUMBER", "TAPE_END", "WRONG", "TURN"]
def kTe : List Nat := [175, 181, 184, 187, 190, 193, 196, 199, 202, 205, 208, 211, 214, 217, 220, 223, 226, 229, 232, 235, 238, 241, 244, 247, 250, 253, 256, 259, 262, 265, 268, 271, 274, 277, 280, 283, 286, 289, 292, 295, 298, 301, 304, 307, 310, 310, 310, 310, 310]
def kEx : List Nat := [254, 130, 133, 136, 139, 257, 142, 175, 181, 4, 145, 178, 184, 187, 190, 193, 196, 260, 219, 263, 266, 148, 269, 272, 199, 208, 211, 275, 278, 157, 160, 202, 205, 214, 163, 172, 151, 166, 169, 281, 284, 287, 290, 293, 75, 72, 10, 7, 154]
def kOr : List Nat := [255, 131, 134, 137, 140, 258, 143, 176, 182, 5, 146, 179, 185, 188, 191, 194, 197, 261, 220, 264, 267, 149, 270, 273, 200, 209, 212, 276, 279, 158, 161, 203, 206, 215, 164, 173, 152, 167, 170, 282, 285, 288, 291, 294, 76, 73, 11, 8, 155]
def kTt : List Nat := [256, 132, 135, 138, 141, 259, 144, 177, 183, 6, 147, 180, 186, 189, 192, 195, 198, 262, 221, 265, 268, 150, 271, 274, 201, 210, 213, 277, 280, 159, 162, 204, 207, 216, 165, 174, 153, 168, 171, 283, 286, 289, 292, 295, 77, 74, 12, 9, 156]
def kS (i : Nat) : Term := .static "ParishBoards$Kind" (kNm.getD i "") "LParishBoards$Kind;"
theorem rw_ex : ∀ i, i < 49 → nwL[kEx.getD i 0]? = some (.exactly (kS i) "ParishBoards$Kind") := by decide +kernel
theorem rw_or : ∀ i, i < 49 → nwL[kOr.getD i 0]? = some (.eq (.field (kS i) "java/lang/Enum" "ordinal" "I") (.int (Int32.ofNat i))) := by decide +kernel
theorem rw_tt : ∀ i, i < 49 → nwL[kTt.getD i 0]? = some (.eq (.field (kS i) "ParishBoards$Kind" "text" "Ljava/lang/String;") (.string "ParishBoards$Kind" (kTe.getD i 0))) := by decide +kernel
def sTm (i : Nat) : Term := if i < 45 then .string "ParishBoards$Kind" (kTe.getD i 0) else .string "ParishBoardsModel" litIx
def sE : List Nat := [1435, 988, 996, 1004, 1010, 1446, 1018, 1077, 1093, 976, 1027, 1085, 1102, 1108, 1117, 1125, 1132, 1457, 1175, 1465, 1476, 1033, 1486, 1495, 1140, 1157, 1164, 1505, 1513, 1047, 1052, 1147, 1152, 1170, 1057, 1072, 1042, 1062, 1067, 1521, 1526, 1531, 1536, 1542, 984, 959]
def sC : List Nat := [1436, 989, 997, 1005, 1011, 1447, 1019, 1078, 1094, 977, 1028, 1086, 1103, 1109, 1118, 1126, 1133, 1458, 1176, 1466, 1477, 1034, 1487, 1496, 1141, 1158, 1165, 1506, 1514, 1048, 1053, 1148, 1153, 1171, 1058, 1073, 1043, 1063, 1068, 1522, 1527, 1532, 1537, 1543, 985, 960]
def sA : List Nat := [1437, 990, 998, 1006, 1012, 1448, 1020, 1079, 1095, 978, 1029, 1087, 1104, 1110, 1119, 1127, 1134, 1459, 1177, 1467, 1478, 1035, 1488, 1497, 1142, 1159, 1166, 1507, 1515, 1049, 1054, 1149, 1154, 1172, 1059, 1074, 1044, 1064, 1069, 1523, 1528, 1533, 1538, 1544, 986, 961]
def sN : List Nat := [1438, 991, 999, 1007, 1013, 1449, 1021, 1080, 1096, 979, 1030, 1088, 1105, 1111, 1120, 1128, 1135, 1460, 1178, 1468, 1479, 1036, 1489, 1498, 1143, 1160, 1167, 1508, 1516, 1050, 1055, 1150, 1155, 1173, 1060, 1075, 1045, 1065, 1070, 1524, 1529, 1534, 1539, 1545, 987, 962]
def sB : List (List Nat) := [[1439, 1440, 1441, 1442, 1443, 1444], [992, 993, 994, 995], [1000, 1001, 1002, 1003], [1008, 1009], [1014, 1015, 1016, 1017], [1450, 1451, 1452, 1453, 1454, 1455], [1022, 1023, 1024, 1025, 1026], [1081, 1082, 1083, 1084], [1097, 1098, 1099, 1100, 1101], [980, 981, 982, 983], [1031, 1032], [1089, 1090, 1091, 1092], [1106, 1107], [1112, 1113, 1114, 1115, 1116], [1121, 1122, 1123, 1124], [1129, 1130, 1131], [1136, 1137, 1138, 1139], [1461, 1462, 1463], [1179, 1180, 1181, 1182, 1183], [1469, 1470, 1471, 1472, 1473, 1474], [1480, 1481, 1482, 1483, 1484], [1037, 1038, 1039, 1040, 1041], [1490, 1491, 1492, 1493], [1499, 1500, 1501, 1502, 1503], [1144, 1145, 1146], [1161, 1162, 1163], [1168, 1169], [1509, 1510, 1511], [1517, 1518, 1519], [1051], [1056], [1151], [1156], [1174], [1061], [1076], [1046], [1066], [1071], [1525], [1530], [1535], [1540, 1541], [1546, 1547], [], [963, 964, 965, 966, 967, 968, 969, 970, 971, 972, 973, 974, 975]]
def sV (i : Nat) : Term := .field (sTm i) "java/lang/String" "value" "[B"
theorem rw_sE : ∀ i, i < 46 → nwL[sE.getD i 0]? = some (.exactly (sTm i) "java/lang/String") := by decide +kernel
theorem rw_sC : ∀ i, i < 46 → nwL[sC.getD i 0]? = some (.eq (.field (sTm i) "java/lang/String" "coder" "B") (.int 0)) := by decide +kernel
theorem rw_sA : ∀ i, i < 46 → nwL[sA.getD i 0]? = some (.arrayOf (sV i) .byte) := by decide +kernel
theorem rw_sN : ∀ i, i < 46 → nwL[sN.getD i 0]? = some (.eq (.length (sV i)) (.int (Int32.ofNat (kTx.getD i []).length))) := by decide +kernel
theorem rw_sB : ∀ i, i < 46 → ∀ j, j < (kTx.getD i []).length → nwL[(sB.getD i []).getD j 0]? = some (.eq (.elem (sV i) (.int (Int32.ofNat j))) (.int ((kTx.getD i []).getD j 0))) := by decide +kernel
def tKI : Term := .static "ParishBoards" "KINDS" "[LParishBoards$Kind;"
def tSW : Term := .static "ParishBoards$1" "$SwitchMap$ParishBoards$Kind" "[I"
def tWO : Term := .static "ParishBoardsModel" "WORDS" "[Ljava/lang/String;"
def kE : List Nat := [18, 19, 20, 21, 22, 23, 24, 25, 26, 27, 28, 29, 30, 31, 32, 33, 34, 35, 36, 37, 38, 39, 40, 41, 42, 43, 44, 45, 46, 47, 48, 49, 50, 51, 52, 53, 54, 55, 56, 57, 58, 59, 60, 61, 62, 63, 64, 65, 66]
def wE : List Nat := [81, 82, 83, 84, 85, 86, 87, 88, 89, 90, 91, 92, 93, 94, 95, 96, 97, 98, 99, 100, 101, 102, 103, 104, 105, 106, 107, 108, 109, 110, 111, 112, 113, 114, 115, 116, 117, 118, 119, 120, 121, 122, 123, 124, 125, 126, 127, 128, 129]
def dE : List Nat := [225, 226, 227, 228, 229, 230, 231, 232, 233, 234, 235, 236, 237, 238, 239, 240, 241, 242, 243, 244, 245, 246, 247, 248, 249, 250, 251, 252, 253]
def dM : List Nat := [420, 422, 424, 425, 427, 428, 430, 431, 432, 433, 434, 436, 438, 440, 442, 444, 445, 447, 448, 449, 450, 452, 453, 455, 456, 458, 460, 462, 463]
def dQ : List Nat := [1445, 1202, 1211, 1218, 1227, 1456, 1247, 1256, 1266, 1275, 1282, 1291, 1298, 1308, 1317, 1325, 1334, 1464, 1351, 1475, 1485, 1380, 1494, 1504, 1405, 1413, 1420, 1512, 1520]
theorem rw_KI : nwL[15]? = some (.arrayOf tKI (.object "ParishBoards$Kind")) ∧ nwL[16]? = some (.eq (.length tKI) (.int 49)) := by decide +kernel
theorem rw_KE : ∀ j, j < 49 → nwL[kE.getD j 0]? = some (.eq (.elem tKI (.int (Int32.ofNat j))) (kS j)) := by decide +kernel
theorem rw_SW : nwL[79]? = some (.arrayOf tSW .int) ∧ nwL[80]? = some (.eq (.length tSW) (.int 49)) := by decide +kernel
theorem rw_WE : ∀ j, j < 49 → nwL[wE.getD j 0]? = some (.eq (.elem tSW (.int (Int32.ofNat j))) (.int (kSw.getD j 0))) := by decide +kernel
theorem rw_WO : nwL[223]? = some (.arrayOf tWO (.object "java/lang/String")) ∧ nwL[224]? = some (.eq (.length tWO) (.int 29)) := by decide +kernel
theorem rw_DE : ∀ j, j < 29 → nwL[dE.getD j 0]? = some (.eq (.elem tWO (.int (Int32.ofNat j))) (.string "ParishBoardsModel" (dM.getD j 0))) := by decide +kernel
theorem rw_DQ : ∀ j, j < 29 → nwL[dQ.getD j 0]? = some (.eq (sTm j) (.string "ParishBoardsModel" (dM.getD j 0))) ∨ nwL[dQ.getD j 0]? = some (.eq (.string "ParishBoardsModel" (dM.getD j 0)) (sTm j)) := by decide +kernel
theorem rw_CS : nwL[67]? = some (.eq (.static "java/lang/String" "COMPACT_STRINGS" "Z") (.int 1)) := by decide +kernel
