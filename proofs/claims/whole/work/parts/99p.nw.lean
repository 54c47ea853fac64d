/-! the premises by their places -/
def nwL : List Cond := flatC (Jvm.Cond.and given_1 narrow_1)
def kNm : List String := ["PARISH", "ROAD", "FROM", "TO", "DAYS", "NOTICE", "WRITE", "NOTE", "MERGE", "SEND", "AS", "WITH", "BY", "LEAST", "MOST", "SUM", "WHEN", "DAY", "VALUE", "SHEETS", "MARKS", "WAITS", "TORN", "KNOWN", "NOT", "AND", "OR", "MIN", "MAX", "OPEN", "CLOSE", "OPEN_TEST", "CLOSE_TEST", "LINE_END", "COMMA", "PLUS", "MINUS", "TIMES", "OVER", "LESS", "GREATER", "EQUAL", "AT_MOST", "AT_LEAST", "NAME", "NUMBER", "TAPE_END", "WRONG", "TURN"]
def kTe : List Nat := [175, 181, 184, 187, 190, 193, 196, 199, 202, 205, 208, 211, 214, 217, 220, 223, 226, 229, 232, 235, 238, 241, 244, 247, 250, 253, 256, 259, 262, 265, 268, 271, 274, 277, 280, 283, 286, 289, 292, 295, 298, 301, 304, 307, 310, 310, 310, 310, 310]
def kEx : List Nat := [254, 130, 133, 136, 139, 257, 142, 175, 181, 4, 145, 178, 184, 187, 190, 193, 196, 260, 219, 263, 266, 148, 269, 272, 199, 208, 211, 275, 278, 157, 160, 202, 205, 214, 163, 172, 151, 166, 169, 281, 284, 287, 290, 293, 75, 72, 10, 7, 154]
def kOr : List Nat := [255, 131, 134, 137, 140, 258, 143, 176, 182, 5, 146, 179, 185, 188, 191, 194, 197, 261, 220, 264, 267, 149, 270, 273, 200, 209, 212, 276, 279, 158, 161, 203, 206, 215, 164, 173, 152, 167, 170, 282, 285, 288, 291, 294, 76, 73, 11, 8, 155]
def kTt : List Nat := [256, 132, 135, 138, 141, 259, 144, 177, 183, 6, 147, 180, 186, 189, 192, 195, 198, 262, 221, 265, 268, 150, 271, 274, 201, 210, 213, 277, 280, 159, 162, 204, 207, 216, 165, 174, 153, 168, 171, 283, 286, 289, 292, 295, 77, 74, 12, 9, 156]
def kS (i : Nat) : Term := .static "ParishBoards$Kind" (kNm.getD i "") "LParishBoards$Kind;"
theorem rw_ex : ∀ i, i < 49 → nwL[kEx.getD i 0]? = some (.exactly (kS i) "ParishBoards$Kind") := by decide +kernel
theorem rw_or : ∀ i, i < 49 → nwL[kOr.getD i 0]? = some (.eq (.field (kS i) "java/lang/Enum" "ordinal" "I") (.int (Int32.ofNat i))) := by decide +kernel
theorem rw_tt : ∀ i, i < 49 → nwL[kTt.getD i 0]? = some (.eq (.field (kS i) "ParishBoards$Kind" "text" "Ljava/lang/String;") (.string "ParishBoards$Kind" (kTe.getD i 0))) := by decide +kernel
