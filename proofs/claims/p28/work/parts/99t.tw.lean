/-! words of the tables, by their places -/
def tLS : List Nat := [1687, 899, 901, 903, 905, 1688, 917, 967, 971, 115, 919, 969, 973, 979, 981, 983, 985, 1689, 1511, 1690, 1691, 941, 1692, 1693, 999, 1009, 1011, 1694, 1695, 951, 953, 1001, 1003, 1013, 959, 965, 943, 961, 963, 1696, 1697, 1698, 1699, 1700, 853, 851, 823, 235, 949]
theorem tw_LS : ∀ i, i < 49 → tables_1[tLS.getD i 0]? = some (.laysStatic "ParishBoards$Kind" (kNm.getD i "") "LParishBoards$Kind;") := by decide +kernel
theorem tw_KI : tables_1[839]? = some (.laysStatic "ParishBoards" "KINDS" "[LParishBoards$Kind;") ∧ tables_1[13]? = some (.initialized "ParishBoards") := by decide +kernel
theorem tw_SW : tables_1[882]? = some (.laysStatic "ParishBoards$1" "$SwitchMap$ParishBoards$Kind" "[I") ∧ tables_1[31]? = some (.initialized "ParishBoards$1") := by decide +kernel
theorem tw_DO : tables_1[1303]? = some (.laysStatic "java/lang/Integer" "DigitOnes" "[B") ∧ tables_1[12]? = some (.initialized "java/lang/Integer") := by decide +kernel
theorem tw_DT : tables_1[1305]? = some (.laysStatic "java/lang/Integer" "DigitTens" "[B") ∧ tables_1[12]? = some (.initialized "java/lang/Integer") := by decide +kernel
theorem tw_CS : tables_1[738]? = some (.laysStatic "java/lang/String" "COMPACT_STRINGS" "Z") ∧ tables_1[3]? = some (.initialized "java/lang/String") := by decide +kernel
theorem tw_SI : tables_1[754]? = some (.laysStatic "jdk/internal/util/Preconditions" "SIOOBE_FORMATTER" "Ljava/util/function/BiFunction;") ∧ tables_1[10]? = some (.initialized "jdk/internal/util/Preconditions") := by decide +kernel
theorem rw_SI : nwL[13]? = some (.isRef (.static "jdk/internal/util/Preconditions" "SIOOBE_FORMATTER" "Ljava/util/function/BiFunction;")) := by decide +kernel
theorem tw_US : tables_1[449]? = some (.laysStatic "java/lang/Throwable" "UNASSIGNED_STACK" "[Ljava/lang/StackTraceElement;") ∧ tables_1[26]? = some (.initialized "java/lang/Throwable") := by decide +kernel
theorem rw_US : nwL[10]? = some (.isRef (.static "java/lang/Throwable" "UNASSIGNED_STACK" "[Ljava/lang/StackTraceElement;")) := by decide +kernel
theorem tw_SU : tables_1[451]? = some (.laysStatic "java/lang/Throwable" "SUPPRESSED_SENTINEL" "Ljava/util/List;") ∧ tables_1[26]? = some (.initialized "java/lang/Throwable") := by decide +kernel
theorem rw_SU : nwL[11]? = some (.isRef (.static "java/lang/Throwable" "SUPPRESSED_SENTINEL" "Ljava/util/List;")) := by decide +kernel
theorem tw_Ki : tables_1[19]? = some (.initialized "ParishBoards$Kind") := by decide +kernel
def tM : List Nat := [790, 722, 463, 537, 554, 563, 589, 598, 603, 608, 683, 1464, 1469, 1499, 1505, 1535, 1540, 1556, 1565]
theorem tw_ms : ∀ i, i < 19 → tables_1[tM.getD i 0]? = some (.stringRef "ParishBoards" (msgs.getD i (0, "")).1 (msgs.getD i (0, "")).2) := by decide +kernel
def nM : List Nat := [820, 786, 577, 594, 620, 638, 663, 690, 718, 745, 762, 1232, 1249, 1277, 1293, 1318, 1362, 1389, 1405]
theorem rw_ms : ∀ i, i < 19 → nwL[nM.getD i 0]? = some (.exactly (.string "ParishBoards" (msgs.getD i (0, "")).1) "java/lang/String") := by decide +kernel
def tLt : List Nat := [1418, 1427, 1347, 1428, 1429, 1430, 1431, 1432, 1433, 1434, 1435, 1436, 1437, 1438, 1419, 1420, 1421, 1180, 1314, 1315, 1319, 1320, 1321, 1322, 1323, 1346, 1407, 1408, 1409, 1410, 1411, 1412, 1413, 1414, 1422, 1423]
theorem tw_li : ∀ i, i < 36 → tables_1[tLt.getD i 0]? = some (.stringRef "ParishBoardsLaw" (lits.getD i (0, "")).1 (lits.getD i (0, "")).2) := by decide +kernel
def tX : List Nat := [783, 715, 424, 426, 428, 430, 1220, 1459]
theorem tw_xw : ∀ i, i < 8 → tables_1[tX.getD i 0]? = some (xws.getD i (.initialized "")) := by decide +kernel
def nNC : List Nat := [485, 486]
theorem rw_nc : ∀ i, i < 2 → nwL[nNC.getD i 0]? = some (.not (.castable (ncs.getD i ("", "")).1 (ncs.getD i ("", "")).2)) := by decide +kernel
