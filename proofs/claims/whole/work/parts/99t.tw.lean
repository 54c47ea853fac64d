/-! words of the tables, by their places -/
def tLS : List Nat := [2117, 561, 563, 565, 567, 2118, 579, 629, 633, 114, 581, 631, 635, 641, 643, 645, 647, 2119, 1152, 2120, 2121, 603, 2122, 2123, 661, 671, 673, 2124, 2125, 613, 615, 663, 665, 675, 621, 627, 605, 623, 625, 2126, 2127, 2128, 2129, 2130, 515, 513, 439, 234, 611]
theorem tw_LS : ∀ i, i < 49 → tables_1[tLS.getD i 0]? = some (.laysStatic "ParishBoards$Kind" (kNm.getD i "") "LParishBoards$Kind;") := by decide +kernel
theorem tw_KI : tables_1[455]? = some (.laysStatic "ParishBoards" "KINDS" "[LParishBoards$Kind;") ∧ tables_1[1]? = some (.initialized "ParishBoards") := by decide +kernel
theorem tw_SW : tables_1[544]? = some (.laysStatic "ParishBoards$1" "$SwitchMap$ParishBoards$Kind" "[I") ∧ tables_1[27]? = some (.initialized "ParishBoards$1") := by decide +kernel
theorem tw_WO : tables_1[1621]? = some (.laysStatic "ParishBoardsModel" "WORDS" "[Ljava/lang/String;") ∧ tables_1[14]? = some (.initialized "ParishBoardsModel") := by decide +kernel
theorem tw_CS : tables_1[465]? = some (.laysStatic "java/lang/String" "COMPACT_STRINGS" "Z") ∧ tables_1[23]? = some (.initialized "java/lang/String") := by decide +kernel
theorem tw_SI : tables_1[485]? = some (.laysStatic "jdk/internal/util/Preconditions" "SIOOBE_FORMATTER" "Ljava/util/function/BiFunction;") ∧ tables_1[25]? = some (.initialized "jdk/internal/util/Preconditions") := by decide +kernel
theorem rw_SI : nwL[68]? = some (.isRef (.static "jdk/internal/util/Preconditions" "SIOOBE_FORMATTER" "Ljava/util/function/BiFunction;")) := by decide +kernel
theorem tw_US : tables_1[930]? = some (.laysStatic "java/lang/Throwable" "UNASSIGNED_STACK" "[Ljava/lang/StackTraceElement;") ∧ tables_1[18]? = some (.initialized "java/lang/Throwable") := by decide +kernel
theorem rw_US : nwL[217]? = some (.isRef (.static "java/lang/Throwable" "UNASSIGNED_STACK" "[Ljava/lang/StackTraceElement;")) := by decide +kernel
theorem tw_SU : tables_1[932]? = some (.laysStatic "java/lang/Throwable" "SUPPRESSED_SENTINEL" "Ljava/util/List;") ∧ tables_1[18]? = some (.initialized "java/lang/Throwable") := by decide +kernel
theorem rw_SU : nwL[218]? = some (.isRef (.static "java/lang/Throwable" "SUPPRESSED_SENTINEL" "Ljava/util/List;")) := by decide +kernel
theorem tw_Ki : tables_1[7]? = some (.initialized "ParishBoards$Kind") := by decide +kernel
def tM : List Nat := [944, 991, 1015, 1033, 1041, 1053, 1061, 1073, 1074, 1082, 1098, 1106, 1111, 1140, 1146, 1173, 1178, 1196, 1208, 1297, 1319]
theorem tw_ms : ∀ i, i < 21 → tables_1[tM.getD i 0]? = some (.stringRef "ParishBoards" (msgs.getD i (0, "")).1 (msgs.getD i (0, "")).2) := by decide +kernel
def nM : List Nat := [442, 472, 506, 523, 549, 567, 592, 619, 647, 674, 691, 715, 732, 760, 776, 801, 845, 872, 888, 904, 932]
theorem rw_ms : ∀ i, i < 21 → nwL[nM.getD i 0]? = some (.exactly (.string "ParishBoards" (msgs.getD i (0, "")).1) "java/lang/String") := by decide +kernel
theorem tw_li : tables_1[1624]? = some (.stringRef "ParishBoardsModel" litIx litTx) := by decide +kernel
def tX : List Nat := [905, 984, 1008, 907, 909, 911]
theorem tw_xw : ∀ i, i < 6 → tables_1[tX.getD i 0]? = some (xws.getD i (.initialized "")) := by decide +kernel
def nNC : List Nat := [328, 345, 346, 329]
theorem rw_nc : ∀ i, i < 4 → nwL[nNC.getD i 0]? = some (.not (.castable (ncs.getD i ("", "")).1 (ncs.getD i ("", "")).2)) := by decide +kernel
