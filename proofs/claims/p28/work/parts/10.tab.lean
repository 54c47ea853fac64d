/-! the classes: fields and types -/
def T_PB : u_T := fun k => match k with
  | 0 => ("ParishBoards", "tape", "[B", true)
  | 1 => ("ParishBoards", "tapeLength", "I", false)
  | 2 => ("ParishBoards", "errorPosition", "I", false)
  | 3 => ("ParishBoards", "told", "LParishBoards$Plan;", false)
  | 4 => ("ParishBoards", "spare", "LParishBoards$Plan;", false)
  | 5 => ("ParishBoards", "tokens", "LParishBoards$Tokens;", true)
  | 6 => ("ParishBoards", "grammar", "LParishBoards$Grammar;", true)
  | 7 => ("ParishBoards", "names", "LParishBoards$Names;", true)
  | 8 => ("ParishBoards", "now", "LParishBoards$World;", true)
  | _ => ("ParishBoards", "later", "LParishBoards$World;", true)
def y_PB : Nat → FieldType := fun k => match k with
  | 0 => .array .byte
  | 1 => .int
  | 2 => .int
  | 3 => .object "ParishBoards$Plan"
  | 4 => .object "ParishBoards$Plan"
  | 5 => .object "ParishBoards$Tokens"
  | 6 => .object "ParishBoards$Grammar"
  | 7 => .object "ParishBoards$Names"
  | 8 => .object "ParishBoards$World"
  | _ => .object "ParishBoards$World"
def E_PB : CE := ("ParishBoards", T_PB, 10, y_PB)
def T_Bd : u_T := fun k => match k with
  | 0 => ("ParishBoards$Board", "numbers", "[I", true)
  | 1 => ("ParishBoards$Board", "shownSheets", "[I", true)
  | 2 => ("ParishBoards$Board", "waits", "[Z", true)
  | _ => ("ParishBoards$Board", "waitingCount", "I", false)
def y_Bd : Nat → FieldType := fun k => match k with
  | 0 => .array .int
  | 1 => .array .int
  | 2 => .array .boolean
  | _ => .int
def E_Bd : CE := ("ParishBoards$Board", T_Bd, 4, y_Bd)
def T_Cd : u_T := fun k => match k with
  | 0 => ("ParishBoards$Code", "kinds", "[LParishBoards$Kind;", true)
  | 1 => ("ParishBoards$Code", "firsts", "[I", true)
  | 2 => ("ParishBoards$Code", "seconds", "[I", true)
  | 3 => ("ParishBoards$Code", "stack", "[I", true)
  | 4 => ("ParishBoards$Code", "size", "I", false)
  | _ => ("ParishBoards$Code", "top", "I", false)
def y_Cd : Nat → FieldType := fun k => match k with
  | 0 => .array (.object "ParishBoards$Kind")
  | 1 => .array .int
  | 2 => .array .int
  | 3 => .array .int
  | 4 => .int
  | _ => .int
def E_Cd : CE := ("ParishBoards$Code", T_Cd, 6, y_Cd)
def T_Gr : u_T := fun k => match k with
  | 0 => ("ParishBoards$Grammar", "tokens", "LParishBoards$Tokens;", true)
  | 1 => ("ParishBoards$Grammar", "plan", "LParishBoards$Plan;", false)
  | 2 => ("ParishBoards$Grammar", "at", "I", false)
  | _ => ("ParishBoards$Grammar", "next", "LParishBoards$Kind;", false)
def y_Gr : Nat → FieldType := fun k => match k with
  | 0 => .object "ParishBoards$Tokens"
  | 1 => .object "ParishBoards$Plan"
  | 2 => .int
  | _ => .object "ParishBoards$Kind"
def E_Gr : CE := ("ParishBoards$Grammar", T_Gr, 4, y_Gr)
def T_Nm : u_T := fun k => match k with
  | 0 => ("ParishBoards$Names", "parishes", "[J", true)
  | 1 => ("ParishBoards$Names", "notices", "[J", true)
  | 2 => ("ParishBoards$Names", "roads", "[J", true)
  | 3 => ("ParishBoards$Names", "tokens", "LParishBoards$Tokens;", true)
  | 4 => ("ParishBoards$Names", "plan", "LParishBoards$Plan;", false)
  | 5 => ("ParishBoards$Names", "orders", "I", false)
  | 6 => ("ParishBoards$Names", "error", "I", false)
  | _ => ("ParishBoards$Names", "errorToken", "I", false)
def y_Nm : Nat → FieldType := fun k => match k with
  | 0 => .array .long
  | 1 => .array .long
  | 2 => .array .long
  | 3 => .object "ParishBoards$Tokens"
  | 4 => .object "ParishBoards$Plan"
  | 5 => .int
  | 6 => .int
  | _ => .int
def E_Nm : CE := ("ParishBoards$Names", T_Nm, 8, y_Nm)
def T_Od : u_T := fun k => match k with
  | 0 => ("ParishBoards$Order", "kind", "LParishBoards$Kind;", false)
  | 1 => ("ParishBoards$Order", "token", "I", false)
  | 2 => ("ParishBoards$Order", "parish", "I", false)
  | 3 => ("ParishBoards$Order", "notice", "I", false)
  | 4 => ("ParishBoards$Order", "road", "I", false)
  | 5 => ("ParishBoards$Order", "by", "I", false)
  | 6 => ("ParishBoards$Order", "start", "I", false)
  | 7 => ("ParishBoards$Order", "middle", "I", false)
  | _ => ("ParishBoards$Order", "end", "I", false)
def y_Od : Nat → FieldType := fun k => match k with
  | 0 => .object "ParishBoards$Kind"
  | 1 => .int
  | 2 => .int
  | 3 => .int
  | 4 => .int
  | 5 => .int
  | 6 => .int
  | 7 => .int
  | _ => .int
def E_Od : CE := ("ParishBoards$Order", T_Od, 9, y_Od)
def T_Pl : u_T := fun k => match k with
  | 0 => ("ParishBoards$Plan", "code", "LParishBoards$Code;", true)
  | 1 => ("ParishBoards$Plan", "roads", "[LParishBoards$Road;", true)
  | 2 => ("ParishBoards$Plan", "orders", "[LParishBoards$Order;", true)
  | 3 => ("ParishBoards$Plan", "parishes", "I", false)
  | 4 => ("ParishBoards$Plan", "notices", "I", false)
  | 5 => ("ParishBoards$Plan", "roadCount", "I", false)
  | _ => ("ParishBoards$Plan", "orderCount", "I", false)
def y_Pl : Nat → FieldType := fun k => match k with
  | 0 => .object "ParishBoards$Code"
  | 1 => .array (.object "ParishBoards$Road")
  | 2 => .array (.object "ParishBoards$Order")
  | 3 => .int
  | 4 => .int
  | 5 => .int
  | _ => .int
def E_Pl : CE := ("ParishBoards$Plan", T_Pl, 7, y_Pl)
def T_Rd : u_T := fun k => match k with
  | 0 => ("ParishBoards$Road", "comesOn", "[I", true)
  | 1 => ("ParishBoards$Road", "from", "I", false)
  | 2 => ("ParishBoards$Road", "to", "I", false)
  | 3 => ("ParishBoards$Road", "days", "I", false)
  | _ => ("ParishBoards$Road", "sendings", "I", false)
def y_Rd : Nat → FieldType := fun k => match k with
  | 0 => .array .int
  | 1 => .int
  | 2 => .int
  | 3 => .int
  | _ => .int
def E_Rd : CE := ("ParishBoards$Road", T_Rd, 5, y_Rd)
def T_Sh : u_T := fun k => match k with
  | 0 => ("ParishBoards$Sheet", "stamp", "[I", true)
  | 1 => ("ParishBoards$Sheet", "parish", "I", false)
  | 2 => ("ParishBoards$Sheet", "notice", "I", false)
  | 3 => ("ParishBoards$Sheet", "value", "I", false)
  | 4 => ("ParishBoards$Sheet", "marks", "I", false)
  | 5 => ("ParishBoards$Sheet", "day", "I", false)
  | _ => ("ParishBoards$Sheet", "how", "I", false)
def y_Sh : Nat → FieldType := fun k => match k with
  | 0 => .array .int
  | 1 => .int
  | 2 => .int
  | 3 => .int
  | 4 => .int
  | 5 => .int
  | _ => .int
def E_Sh : CE := ("ParishBoards$Sheet", T_Sh, 7, y_Sh)
def T_Tk : u_T := fun k => match k with
  | 0 => ("ParishBoards$Tokens", "kinds", "[LParishBoards$Kind;", true)
  | 1 => ("ParishBoards$Tokens", "starts", "[I", true)
  | 2 => ("ParishBoards$Tokens", "worths", "[J", true)
  | 3 => ("ParishBoards$Tokens", "meanings", "[I", true)
  | 4 => ("ParishBoards$Tokens", "size", "I", false)
  | 5 => ("ParishBoards$Tokens", "bytes", "[B", false)
  | _ => ("ParishBoards$Tokens", "length", "I", false)
def y_Tk : Nat → FieldType := fun k => match k with
  | 0 => .array (.object "ParishBoards$Kind")
  | 1 => .array .int
  | 2 => .array .long
  | 3 => .array .int
  | 4 => .int
  | 5 => .array .byte
  | _ => .int
def E_Tk : CE := ("ParishBoards$Tokens", T_Tk, 7, y_Tk)
def T_Wd : u_T := fun k => match k with
  | 0 => ("ParishBoards$World", "sheets", "[LParishBoards$Sheet;", true)
  | 1 => ("ParishBoards$World", "boards", "[LParishBoards$Board;", true)
  | 2 => ("ParishBoards$World", "roads", "[LParishBoards$Road;", true)
  | 3 => ("ParishBoards$World", "plan", "LParishBoards$Plan;", false)
  | 4 => ("ParishBoards$World", "day", "I", false)
  | 5 => ("ParishBoards$World", "sheetCount", "I", false)
  | 6 => ("ParishBoards$World", "hung", "I", false)
  | _ => ("ParishBoards$World", "carriedOut", "I", false)
def y_Wd : Nat → FieldType := fun k => match k with
  | 0 => .array (.object "ParishBoards$Sheet")
  | 1 => .array (.object "ParishBoards$Board")
  | 2 => .array (.object "ParishBoards$Road")
  | 3 => .object "ParishBoards$Plan"
  | 4 => .int
  | 5 => .int
  | 6 => .int
  | _ => .int
def E_Wd : CE := ("ParishBoards$World", T_Wd, 8, y_Wd)
def T_SI : u_T := fun k => match k with
  | 0 => ("ParishBoardsLaw$Sim", "day", "I", false)
  | 1 => ("ParishBoardsLaw$Sim", "hung", "I", false)
  | 2 => ("ParishBoardsLaw$Sim", "merged", "I", false)
  | 3 => ("ParishBoardsLaw$Sim", "carried", "I", false)
  | 4 => ("ParishBoardsLaw$Sim", "parishes", "I", false)
  | 5 => ("ParishBoardsLaw$Sim", "notices", "I", false)
  | 6 => ("ParishBoardsLaw$Sim", "sheets", "[[I", false)
  | 7 => ("ParishBoardsLaw$Sim", "past", "[[Z", false)
  | 8 => ("ParishBoardsLaw$Sim", "known", "[[Z", false)
  | 9 => ("ParishBoardsLaw$Sim", "shown", "[[Z", false)
  | 10 => ("ParishBoardsLaw$Sim", "waits", "[[Z", false)
  | 11 => ("ParishBoardsLaw$Sim", "roads", "[[I", false)
  | 12 => ("ParishBoardsLaw$Sim", "went", "[[Z", false)
  | 13 => ("ParishBoardsLaw$Sim", "loads", "[[I", false)
  | _ => ("ParishBoardsLaw$Sim", "orders", "[[I", false)
def y_SI : Nat → FieldType := fun k => match k with
  | 0 => .int
  | 1 => .int
  | 2 => .int
  | 3 => .int
  | 4 => .int
  | 5 => .int
  | 6 => .array (.array .int)
  | 7 => .array (.array .boolean)
  | 8 => .array (.array .boolean)
  | 9 => .array (.array .boolean)
  | 10 => .array (.array .boolean)
  | 11 => .array (.array .int)
  | 12 => .array (.array .boolean)
  | 13 => .array (.array .int)
  | _ => .array (.array .int)
def E_SI : CE := ("ParishBoardsLaw$Sim", T_SI, 15, y_SI)
def T_SB : u_T := fun k => match k with
  | 0 => ("java/lang/AbstractStringBuilder", "value", "[B", false)
  | 1 => ("java/lang/AbstractStringBuilder", "coder", "B", false)
  | 2 => ("java/lang/AbstractStringBuilder", "maybeLatin1", "Z", false)
  | _ => ("java/lang/AbstractStringBuilder", "count", "I", false)
def y_SB : Nat → FieldType := fun k => match k with
  | 0 => .array .byte
  | 1 => .byte
  | 2 => .boolean
  | _ => .int
def E_SB : CE := ("java/lang/StringBuilder", T_SB, 4, y_SB)
def T_St : u_T := fun k => match k with
  | 0 => ("java/lang/String", "value", "[B", true)
  | 1 => ("java/lang/String", "coder", "B", true)
  | 2 => ("java/lang/String", "hash", "I", false)
  | _ => ("java/lang/String", "hashIsZero", "Z", false)
def y_St : Nat → FieldType := fun k => match k with
  | 0 => .array .byte
  | 1 => .byte
  | 2 => .int
  | _ => .boolean
def E_St : CE := ("java/lang/String", T_St, 4, y_St)
def T_Ki : u_T := fun k => match k with
  | 0 => ("java/lang/Enum", "ordinal", "I", true)
  | _ => ("ParishBoards$Kind", "text", "Ljava/lang/String;", true)
def y_Ki : Nat → FieldType := fun k => match k with
  | 0 => .int
  | _ => .object "java/lang/String"
def E_Ki : CE := ("ParishBoards$Kind", T_Ki, 2, y_Ki)
def T_Str : u_T := fun k => match k with
  | 0 => ("java/lang/String", "value", "[B", true)
  | _ => ("java/lang/String", "coder", "B", true)
def y_Str : Nat → FieldType := fun k => match k with
  | 0 => .array .byte
  | _ => .byte
def E_Str : CE := ("java/lang/String", T_Str, 2, y_Str)
def CT : List CE := [E_PB, E_Bd, E_Cd, E_Gr, E_Nm, E_Od, E_Pl, E_Rd, E_Sh, E_Tk, E_Wd, E_SI, E_SB, E_St, E_Ki, E_Str]
def ST : List SE := [("ParishBoards", "KINDS", "[LParishBoards$Kind;", .ref (hd 4 0)), ("ParishBoards$1", "$SwitchMap$ParishBoards$Kind", "[I", .ref (hd 3 0)), ("java/lang/Integer", "DigitOnes", "[B", .ref (hd 5 0)), ("java/lang/String", "COMPACT_STRINGS", "Z", .int 1), ("ParishBoards$Kind", "PARISH", "LParishBoards$Kind;", .ref (hd 0 0)), ("ParishBoards$Kind", "ROAD", "LParishBoards$Kind;", .ref (hd 0 1)), ("ParishBoards$Kind", "FROM", "LParishBoards$Kind;", .ref (hd 0 2)), ("ParishBoards$Kind", "TO", "LParishBoards$Kind;", .ref (hd 0 3)), ("ParishBoards$Kind", "DAYS", "LParishBoards$Kind;", .ref (hd 0 4)), ("ParishBoards$Kind", "NOTICE", "LParishBoards$Kind;", .ref (hd 0 5)), ("ParishBoards$Kind", "WRITE", "LParishBoards$Kind;", .ref (hd 0 6)), ("ParishBoards$Kind", "NOTE", "LParishBoards$Kind;", .ref (hd 0 7)), ("ParishBoards$Kind", "MERGE", "LParishBoards$Kind;", .ref (hd 0 8)), ("ParishBoards$Kind", "SEND", "LParishBoards$Kind;", .ref (hd 0 9)), ("ParishBoards$Kind", "AS", "LParishBoards$Kind;", .ref (hd 0 10)), ("ParishBoards$Kind", "WITH", "LParishBoards$Kind;", .ref (hd 0 11)), ("ParishBoards$Kind", "BY", "LParishBoards$Kind;", .ref (hd 0 12)), ("ParishBoards$Kind", "LEAST", "LParishBoards$Kind;", .ref (hd 0 13)), ("ParishBoards$Kind", "MOST", "LParishBoards$Kind;", .ref (hd 0 14)), ("ParishBoards$Kind", "SUM", "LParishBoards$Kind;", .ref (hd 0 15)), ("ParishBoards$Kind", "WHEN", "LParishBoards$Kind;", .ref (hd 0 16)), ("ParishBoards$Kind", "DAY", "LParishBoards$Kind;", .ref (hd 0 17)), ("ParishBoards$Kind", "VALUE", "LParishBoards$Kind;", .ref (hd 0 18)), ("ParishBoards$Kind", "SHEETS", "LParishBoards$Kind;", .ref (hd 0 19)), ("ParishBoards$Kind", "MARKS", "LParishBoards$Kind;", .ref (hd 0 20)), ("ParishBoards$Kind", "WAITS", "LParishBoards$Kind;", .ref (hd 0 21)), ("ParishBoards$Kind", "TORN", "LParishBoards$Kind;", .ref (hd 0 22)), ("ParishBoards$Kind", "KNOWN", "LParishBoards$Kind;", .ref (hd 0 23)), ("ParishBoards$Kind", "NOT", "LParishBoards$Kind;", .ref (hd 0 24)), ("ParishBoards$Kind", "AND", "LParishBoards$Kind;", .ref (hd 0 25)), ("ParishBoards$Kind", "OR", "LParishBoards$Kind;", .ref (hd 0 26)), ("ParishBoards$Kind", "MIN", "LParishBoards$Kind;", .ref (hd 0 27)), ("ParishBoards$Kind", "MAX", "LParishBoards$Kind;", .ref (hd 0 28)), ("ParishBoards$Kind", "OPEN", "LParishBoards$Kind;", .ref (hd 0 29)), ("ParishBoards$Kind", "CLOSE", "LParishBoards$Kind;", .ref (hd 0 30)), ("ParishBoards$Kind", "OPEN_TEST", "LParishBoards$Kind;", .ref (hd 0 31)), ("ParishBoards$Kind", "CLOSE_TEST", "LParishBoards$Kind;", .ref (hd 0 32)), ("ParishBoards$Kind", "LINE_END", "LParishBoards$Kind;", .ref (hd 0 33)), ("ParishBoards$Kind", "COMMA", "LParishBoards$Kind;", .ref (hd 0 34)), ("ParishBoards$Kind", "PLUS", "LParishBoards$Kind;", .ref (hd 0 35)), ("ParishBoards$Kind", "MINUS", "LParishBoards$Kind;", .ref (hd 0 36)), ("ParishBoards$Kind", "TIMES", "LParishBoards$Kind;", .ref (hd 0 37)), ("ParishBoards$Kind", "OVER", "LParishBoards$Kind;", .ref (hd 0 38)), ("ParishBoards$Kind", "LESS", "LParishBoards$Kind;", .ref (hd 0 39)), ("ParishBoards$Kind", "GREATER", "LParishBoards$Kind;", .ref (hd 0 40)), ("ParishBoards$Kind", "EQUAL", "LParishBoards$Kind;", .ref (hd 0 41)), ("ParishBoards$Kind", "AT_MOST", "LParishBoards$Kind;", .ref (hd 0 42)), ("ParishBoards$Kind", "AT_LEAST", "LParishBoards$Kind;", .ref (hd 0 43)), ("ParishBoards$Kind", "NAME", "LParishBoards$Kind;", .ref (hd 0 44)), ("ParishBoards$Kind", "NUMBER", "LParishBoards$Kind;", .ref (hd 0 45)), ("ParishBoards$Kind", "TAPE_END", "LParishBoards$Kind;", .ref (hd 0 46)), ("ParishBoards$Kind", "WRONG", "LParishBoards$Kind;", .ref (hd 0 47)), ("ParishBoards$Kind", "TURN", "LParishBoards$Kind;", .ref (hd 0 48)), ("java/lang/Integer", "DigitTens", "[B", .ref (hd 5 1))]
def FI (ci k : Nat) (q : CE) (ty : FieldType) : Prop := CT[ci]? = some q ∧ k < q.2.2.1 ∧ q.2.2.2 k = ty
theorem ct_PB : CT[0]? = some E_PB := rfl
theorem f_PB_0 : FI 0 0 E_PB (.array .byte) := ⟨rfl, by decide +kernel, rfl⟩
theorem f_PB_1 : FI 0 1 E_PB (.int) := ⟨rfl, by decide +kernel, rfl⟩
theorem f_PB_2 : FI 0 2 E_PB (.int) := ⟨rfl, by decide +kernel, rfl⟩
theorem f_PB_3 : FI 0 3 E_PB (.object "ParishBoards$Plan") := ⟨rfl, by decide +kernel, rfl⟩
theorem f_PB_4 : FI 0 4 E_PB (.object "ParishBoards$Plan") := ⟨rfl, by decide +kernel, rfl⟩
theorem f_PB_5 : FI 0 5 E_PB (.object "ParishBoards$Tokens") := ⟨rfl, by decide +kernel, rfl⟩
theorem f_PB_6 : FI 0 6 E_PB (.object "ParishBoards$Grammar") := ⟨rfl, by decide +kernel, rfl⟩
theorem f_PB_7 : FI 0 7 E_PB (.object "ParishBoards$Names") := ⟨rfl, by decide +kernel, rfl⟩
theorem f_PB_8 : FI 0 8 E_PB (.object "ParishBoards$World") := ⟨rfl, by decide +kernel, rfl⟩
theorem f_PB_9 : FI 0 9 E_PB (.object "ParishBoards$World") := ⟨rfl, by decide +kernel, rfl⟩
theorem ct_Bd : CT[1]? = some E_Bd := rfl
theorem f_Bd_0 : FI 1 0 E_Bd (.array .int) := ⟨rfl, by decide +kernel, rfl⟩
theorem f_Bd_1 : FI 1 1 E_Bd (.array .int) := ⟨rfl, by decide +kernel, rfl⟩
theorem f_Bd_2 : FI 1 2 E_Bd (.array .boolean) := ⟨rfl, by decide +kernel, rfl⟩
theorem f_Bd_3 : FI 1 3 E_Bd (.int) := ⟨rfl, by decide +kernel, rfl⟩
theorem ct_Cd : CT[2]? = some E_Cd := rfl
theorem f_Cd_0 : FI 2 0 E_Cd (.array (.object "ParishBoards$Kind")) := ⟨rfl, by decide +kernel, rfl⟩
theorem f_Cd_1 : FI 2 1 E_Cd (.array .int) := ⟨rfl, by decide +kernel, rfl⟩
theorem f_Cd_2 : FI 2 2 E_Cd (.array .int) := ⟨rfl, by decide +kernel, rfl⟩
theorem f_Cd_3 : FI 2 3 E_Cd (.array .int) := ⟨rfl, by decide +kernel, rfl⟩
theorem f_Cd_4 : FI 2 4 E_Cd (.int) := ⟨rfl, by decide +kernel, rfl⟩
theorem f_Cd_5 : FI 2 5 E_Cd (.int) := ⟨rfl, by decide +kernel, rfl⟩
theorem ct_Gr : CT[3]? = some E_Gr := rfl
theorem f_Gr_0 : FI 3 0 E_Gr (.object "ParishBoards$Tokens") := ⟨rfl, by decide +kernel, rfl⟩
theorem f_Gr_1 : FI 3 1 E_Gr (.object "ParishBoards$Plan") := ⟨rfl, by decide +kernel, rfl⟩
theorem f_Gr_2 : FI 3 2 E_Gr (.int) := ⟨rfl, by decide +kernel, rfl⟩
theorem f_Gr_3 : FI 3 3 E_Gr (.object "ParishBoards$Kind") := ⟨rfl, by decide +kernel, rfl⟩
theorem ct_Nm : CT[4]? = some E_Nm := rfl
theorem f_Nm_0 : FI 4 0 E_Nm (.array .long) := ⟨rfl, by decide +kernel, rfl⟩
theorem f_Nm_1 : FI 4 1 E_Nm (.array .long) := ⟨rfl, by decide +kernel, rfl⟩
theorem f_Nm_2 : FI 4 2 E_Nm (.array .long) := ⟨rfl, by decide +kernel, rfl⟩
theorem f_Nm_3 : FI 4 3 E_Nm (.object "ParishBoards$Tokens") := ⟨rfl, by decide +kernel, rfl⟩
theorem f_Nm_4 : FI 4 4 E_Nm (.object "ParishBoards$Plan") := ⟨rfl, by decide +kernel, rfl⟩
theorem f_Nm_5 : FI 4 5 E_Nm (.int) := ⟨rfl, by decide +kernel, rfl⟩
theorem f_Nm_6 : FI 4 6 E_Nm (.int) := ⟨rfl, by decide +kernel, rfl⟩
theorem f_Nm_7 : FI 4 7 E_Nm (.int) := ⟨rfl, by decide +kernel, rfl⟩
theorem ct_Od : CT[5]? = some E_Od := rfl
theorem f_Od_0 : FI 5 0 E_Od (.object "ParishBoards$Kind") := ⟨rfl, by decide +kernel, rfl⟩
theorem f_Od_1 : FI 5 1 E_Od (.int) := ⟨rfl, by decide +kernel, rfl⟩
theorem f_Od_2 : FI 5 2 E_Od (.int) := ⟨rfl, by decide +kernel, rfl⟩
theorem f_Od_3 : FI 5 3 E_Od (.int) := ⟨rfl, by decide +kernel, rfl⟩
theorem f_Od_4 : FI 5 4 E_Od (.int) := ⟨rfl, by decide +kernel, rfl⟩
theorem f_Od_5 : FI 5 5 E_Od (.int) := ⟨rfl, by decide +kernel, rfl⟩
theorem f_Od_6 : FI 5 6 E_Od (.int) := ⟨rfl, by decide +kernel, rfl⟩
theorem f_Od_7 : FI 5 7 E_Od (.int) := ⟨rfl, by decide +kernel, rfl⟩
theorem f_Od_8 : FI 5 8 E_Od (.int) := ⟨rfl, by decide +kernel, rfl⟩
theorem ct_Pl : CT[6]? = some E_Pl := rfl
theorem f_Pl_0 : FI 6 0 E_Pl (.object "ParishBoards$Code") := ⟨rfl, by decide +kernel, rfl⟩
theorem f_Pl_1 : FI 6 1 E_Pl (.array (.object "ParishBoards$Road")) := ⟨rfl, by decide +kernel, rfl⟩
theorem f_Pl_2 : FI 6 2 E_Pl (.array (.object "ParishBoards$Order")) := ⟨rfl, by decide +kernel, rfl⟩
theorem f_Pl_3 : FI 6 3 E_Pl (.int) := ⟨rfl, by decide +kernel, rfl⟩
theorem f_Pl_4 : FI 6 4 E_Pl (.int) := ⟨rfl, by decide +kernel, rfl⟩
theorem f_Pl_5 : FI 6 5 E_Pl (.int) := ⟨rfl, by decide +kernel, rfl⟩
theorem f_Pl_6 : FI 6 6 E_Pl (.int) := ⟨rfl, by decide +kernel, rfl⟩
theorem ct_Rd : CT[7]? = some E_Rd := rfl
theorem f_Rd_0 : FI 7 0 E_Rd (.array .int) := ⟨rfl, by decide +kernel, rfl⟩
theorem f_Rd_1 : FI 7 1 E_Rd (.int) := ⟨rfl, by decide +kernel, rfl⟩
theorem f_Rd_2 : FI 7 2 E_Rd (.int) := ⟨rfl, by decide +kernel, rfl⟩
theorem f_Rd_3 : FI 7 3 E_Rd (.int) := ⟨rfl, by decide +kernel, rfl⟩
theorem f_Rd_4 : FI 7 4 E_Rd (.int) := ⟨rfl, by decide +kernel, rfl⟩
theorem ct_Sh : CT[8]? = some E_Sh := rfl
theorem f_Sh_0 : FI 8 0 E_Sh (.array .int) := ⟨rfl, by decide +kernel, rfl⟩
theorem f_Sh_1 : FI 8 1 E_Sh (.int) := ⟨rfl, by decide +kernel, rfl⟩
theorem f_Sh_2 : FI 8 2 E_Sh (.int) := ⟨rfl, by decide +kernel, rfl⟩
theorem f_Sh_3 : FI 8 3 E_Sh (.int) := ⟨rfl, by decide +kernel, rfl⟩
theorem f_Sh_4 : FI 8 4 E_Sh (.int) := ⟨rfl, by decide +kernel, rfl⟩
theorem f_Sh_5 : FI 8 5 E_Sh (.int) := ⟨rfl, by decide +kernel, rfl⟩
theorem f_Sh_6 : FI 8 6 E_Sh (.int) := ⟨rfl, by decide +kernel, rfl⟩
theorem ct_Tk : CT[9]? = some E_Tk := rfl
theorem f_Tk_0 : FI 9 0 E_Tk (.array (.object "ParishBoards$Kind")) := ⟨rfl, by decide +kernel, rfl⟩
theorem f_Tk_1 : FI 9 1 E_Tk (.array .int) := ⟨rfl, by decide +kernel, rfl⟩
theorem f_Tk_2 : FI 9 2 E_Tk (.array .long) := ⟨rfl, by decide +kernel, rfl⟩
theorem f_Tk_3 : FI 9 3 E_Tk (.array .int) := ⟨rfl, by decide +kernel, rfl⟩
theorem f_Tk_4 : FI 9 4 E_Tk (.int) := ⟨rfl, by decide +kernel, rfl⟩
theorem f_Tk_5 : FI 9 5 E_Tk (.array .byte) := ⟨rfl, by decide +kernel, rfl⟩
theorem f_Tk_6 : FI 9 6 E_Tk (.int) := ⟨rfl, by decide +kernel, rfl⟩
theorem ct_Wd : CT[10]? = some E_Wd := rfl
theorem f_Wd_0 : FI 10 0 E_Wd (.array (.object "ParishBoards$Sheet")) := ⟨rfl, by decide +kernel, rfl⟩
theorem f_Wd_1 : FI 10 1 E_Wd (.array (.object "ParishBoards$Board")) := ⟨rfl, by decide +kernel, rfl⟩
theorem f_Wd_2 : FI 10 2 E_Wd (.array (.object "ParishBoards$Road")) := ⟨rfl, by decide +kernel, rfl⟩
theorem f_Wd_3 : FI 10 3 E_Wd (.object "ParishBoards$Plan") := ⟨rfl, by decide +kernel, rfl⟩
theorem f_Wd_4 : FI 10 4 E_Wd (.int) := ⟨rfl, by decide +kernel, rfl⟩
theorem f_Wd_5 : FI 10 5 E_Wd (.int) := ⟨rfl, by decide +kernel, rfl⟩
theorem f_Wd_6 : FI 10 6 E_Wd (.int) := ⟨rfl, by decide +kernel, rfl⟩
theorem f_Wd_7 : FI 10 7 E_Wd (.int) := ⟨rfl, by decide +kernel, rfl⟩
theorem ct_SI : CT[11]? = some E_SI := rfl
theorem f_SI_0 : FI 11 0 E_SI (.int) := ⟨rfl, by decide +kernel, rfl⟩
theorem f_SI_1 : FI 11 1 E_SI (.int) := ⟨rfl, by decide +kernel, rfl⟩
theorem f_SI_2 : FI 11 2 E_SI (.int) := ⟨rfl, by decide +kernel, rfl⟩
theorem f_SI_3 : FI 11 3 E_SI (.int) := ⟨rfl, by decide +kernel, rfl⟩
theorem f_SI_4 : FI 11 4 E_SI (.int) := ⟨rfl, by decide +kernel, rfl⟩
theorem f_SI_5 : FI 11 5 E_SI (.int) := ⟨rfl, by decide +kernel, rfl⟩
theorem f_SI_6 : FI 11 6 E_SI (.array (.array .int)) := ⟨rfl, by decide +kernel, rfl⟩
theorem f_SI_7 : FI 11 7 E_SI (.array (.array .boolean)) := ⟨rfl, by decide +kernel, rfl⟩
theorem f_SI_8 : FI 11 8 E_SI (.array (.array .boolean)) := ⟨rfl, by decide +kernel, rfl⟩
theorem f_SI_9 : FI 11 9 E_SI (.array (.array .boolean)) := ⟨rfl, by decide +kernel, rfl⟩
theorem f_SI_10 : FI 11 10 E_SI (.array (.array .boolean)) := ⟨rfl, by decide +kernel, rfl⟩
theorem f_SI_11 : FI 11 11 E_SI (.array (.array .int)) := ⟨rfl, by decide +kernel, rfl⟩
theorem f_SI_12 : FI 11 12 E_SI (.array (.array .boolean)) := ⟨rfl, by decide +kernel, rfl⟩
theorem f_SI_13 : FI 11 13 E_SI (.array (.array .int)) := ⟨rfl, by decide +kernel, rfl⟩
theorem f_SI_14 : FI 11 14 E_SI (.array (.array .int)) := ⟨rfl, by decide +kernel, rfl⟩
theorem ct_SB : CT[12]? = some E_SB := rfl
theorem f_SB_0 : FI 12 0 E_SB (.array .byte) := ⟨rfl, by decide +kernel, rfl⟩
theorem f_SB_1 : FI 12 1 E_SB (.byte) := ⟨rfl, by decide +kernel, rfl⟩
theorem f_SB_2 : FI 12 2 E_SB (.boolean) := ⟨rfl, by decide +kernel, rfl⟩
theorem f_SB_3 : FI 12 3 E_SB (.int) := ⟨rfl, by decide +kernel, rfl⟩
theorem ct_St : CT[13]? = some E_St := rfl
theorem f_St_0 : FI 13 0 E_St (.array .byte) := ⟨rfl, by decide +kernel, rfl⟩
theorem f_St_1 : FI 13 1 E_St (.byte) := ⟨rfl, by decide +kernel, rfl⟩
theorem f_St_2 : FI 13 2 E_St (.int) := ⟨rfl, by decide +kernel, rfl⟩
theorem f_St_3 : FI 13 3 E_St (.boolean) := ⟨rfl, by decide +kernel, rfl⟩
theorem ct_Ki : CT[14]? = some E_Ki := rfl
theorem f_Ki_0 : FI 14 0 E_Ki (.int) := ⟨rfl, by decide +kernel, rfl⟩
theorem f_Ki_1 : FI 14 1 E_Ki (.object "java/lang/String") := ⟨rfl, by decide +kernel, rfl⟩
theorem ct_Str : CT[15]? = some E_Str := rfl
theorem f_Str_0 : FI 15 0 E_Str (.array .byte) := ⟨rfl, by decide +kernel, rfl⟩
theorem f_Str_1 : FI 15 1 E_Str (.byte) := ⟨rfl, by decide +kernel, rfl⟩
theorem st_0 : ("ParishBoards", "KINDS", "[LParishBoards$Kind;", .ref (hd 4 0)) ∈ ST := List.mem_of_getElem? (i := 0) rfl
theorem st_1 : ("ParishBoards$1", "$SwitchMap$ParishBoards$Kind", "[I", .ref (hd 3 0)) ∈ ST := List.mem_of_getElem? (i := 1) rfl
theorem st_2 : ("java/lang/Integer", "DigitOnes", "[B", .ref (hd 5 0)) ∈ ST := List.mem_of_getElem? (i := 2) rfl
theorem st_3 : ("java/lang/String", "COMPACT_STRINGS", "Z", .int 1) ∈ ST := List.mem_of_getElem? (i := 3) rfl
theorem st_4 : ("ParishBoards$Kind", "PARISH", "LParishBoards$Kind;", .ref (hd 0 0)) ∈ ST := List.mem_of_getElem? (i := 4) rfl
theorem st_5 : ("ParishBoards$Kind", "ROAD", "LParishBoards$Kind;", .ref (hd 0 1)) ∈ ST := List.mem_of_getElem? (i := 5) rfl
theorem st_6 : ("ParishBoards$Kind", "FROM", "LParishBoards$Kind;", .ref (hd 0 2)) ∈ ST := List.mem_of_getElem? (i := 6) rfl
theorem st_7 : ("ParishBoards$Kind", "TO", "LParishBoards$Kind;", .ref (hd 0 3)) ∈ ST := List.mem_of_getElem? (i := 7) rfl
theorem st_8 : ("ParishBoards$Kind", "DAYS", "LParishBoards$Kind;", .ref (hd 0 4)) ∈ ST := List.mem_of_getElem? (i := 8) rfl
theorem st_9 : ("ParishBoards$Kind", "NOTICE", "LParishBoards$Kind;", .ref (hd 0 5)) ∈ ST := List.mem_of_getElem? (i := 9) rfl
theorem st_10 : ("ParishBoards$Kind", "WRITE", "LParishBoards$Kind;", .ref (hd 0 6)) ∈ ST := List.mem_of_getElem? (i := 10) rfl
theorem st_11 : ("ParishBoards$Kind", "NOTE", "LParishBoards$Kind;", .ref (hd 0 7)) ∈ ST := List.mem_of_getElem? (i := 11) rfl
theorem st_12 : ("ParishBoards$Kind", "MERGE", "LParishBoards$Kind;", .ref (hd 0 8)) ∈ ST := List.mem_of_getElem? (i := 12) rfl
theorem st_13 : ("ParishBoards$Kind", "SEND", "LParishBoards$Kind;", .ref (hd 0 9)) ∈ ST := List.mem_of_getElem? (i := 13) rfl
theorem st_14 : ("ParishBoards$Kind", "AS", "LParishBoards$Kind;", .ref (hd 0 10)) ∈ ST := List.mem_of_getElem? (i := 14) rfl
theorem st_15 : ("ParishBoards$Kind", "WITH", "LParishBoards$Kind;", .ref (hd 0 11)) ∈ ST := List.mem_of_getElem? (i := 15) rfl
theorem st_16 : ("ParishBoards$Kind", "BY", "LParishBoards$Kind;", .ref (hd 0 12)) ∈ ST := List.mem_of_getElem? (i := 16) rfl
theorem st_17 : ("ParishBoards$Kind", "LEAST", "LParishBoards$Kind;", .ref (hd 0 13)) ∈ ST := List.mem_of_getElem? (i := 17) rfl
theorem st_18 : ("ParishBoards$Kind", "MOST", "LParishBoards$Kind;", .ref (hd 0 14)) ∈ ST := List.mem_of_getElem? (i := 18) rfl
theorem st_19 : ("ParishBoards$Kind", "SUM", "LParishBoards$Kind;", .ref (hd 0 15)) ∈ ST := List.mem_of_getElem? (i := 19) rfl
theorem st_20 : ("ParishBoards$Kind", "WHEN", "LParishBoards$Kind;", .ref (hd 0 16)) ∈ ST := List.mem_of_getElem? (i := 20) rfl
theorem st_21 : ("ParishBoards$Kind", "DAY", "LParishBoards$Kind;", .ref (hd 0 17)) ∈ ST := List.mem_of_getElem? (i := 21) rfl
theorem st_22 : ("ParishBoards$Kind", "VALUE", "LParishBoards$Kind;", .ref (hd 0 18)) ∈ ST := List.mem_of_getElem? (i := 22) rfl
theorem st_23 : ("ParishBoards$Kind", "SHEETS", "LParishBoards$Kind;", .ref (hd 0 19)) ∈ ST := List.mem_of_getElem? (i := 23) rfl
theorem st_24 : ("ParishBoards$Kind", "MARKS", "LParishBoards$Kind;", .ref (hd 0 20)) ∈ ST := List.mem_of_getElem? (i := 24) rfl
theorem st_25 : ("ParishBoards$Kind", "WAITS", "LParishBoards$Kind;", .ref (hd 0 21)) ∈ ST := List.mem_of_getElem? (i := 25) rfl
theorem st_26 : ("ParishBoards$Kind", "TORN", "LParishBoards$Kind;", .ref (hd 0 22)) ∈ ST := List.mem_of_getElem? (i := 26) rfl
theorem st_27 : ("ParishBoards$Kind", "KNOWN", "LParishBoards$Kind;", .ref (hd 0 23)) ∈ ST := List.mem_of_getElem? (i := 27) rfl
theorem st_28 : ("ParishBoards$Kind", "NOT", "LParishBoards$Kind;", .ref (hd 0 24)) ∈ ST := List.mem_of_getElem? (i := 28) rfl
theorem st_29 : ("ParishBoards$Kind", "AND", "LParishBoards$Kind;", .ref (hd 0 25)) ∈ ST := List.mem_of_getElem? (i := 29) rfl
theorem st_30 : ("ParishBoards$Kind", "OR", "LParishBoards$Kind;", .ref (hd 0 26)) ∈ ST := List.mem_of_getElem? (i := 30) rfl
theorem st_31 : ("ParishBoards$Kind", "MIN", "LParishBoards$Kind;", .ref (hd 0 27)) ∈ ST := List.mem_of_getElem? (i := 31) rfl
theorem st_32 : ("ParishBoards$Kind", "MAX", "LParishBoards$Kind;", .ref (hd 0 28)) ∈ ST := List.mem_of_getElem? (i := 32) rfl
theorem st_33 : ("ParishBoards$Kind", "OPEN", "LParishBoards$Kind;", .ref (hd 0 29)) ∈ ST := List.mem_of_getElem? (i := 33) rfl
theorem st_34 : ("ParishBoards$Kind", "CLOSE", "LParishBoards$Kind;", .ref (hd 0 30)) ∈ ST := List.mem_of_getElem? (i := 34) rfl
theorem st_35 : ("ParishBoards$Kind", "OPEN_TEST", "LParishBoards$Kind;", .ref (hd 0 31)) ∈ ST := List.mem_of_getElem? (i := 35) rfl
theorem st_36 : ("ParishBoards$Kind", "CLOSE_TEST", "LParishBoards$Kind;", .ref (hd 0 32)) ∈ ST := List.mem_of_getElem? (i := 36) rfl
theorem st_37 : ("ParishBoards$Kind", "LINE_END", "LParishBoards$Kind;", .ref (hd 0 33)) ∈ ST := List.mem_of_getElem? (i := 37) rfl
theorem st_38 : ("ParishBoards$Kind", "COMMA", "LParishBoards$Kind;", .ref (hd 0 34)) ∈ ST := List.mem_of_getElem? (i := 38) rfl
theorem st_39 : ("ParishBoards$Kind", "PLUS", "LParishBoards$Kind;", .ref (hd 0 35)) ∈ ST := List.mem_of_getElem? (i := 39) rfl
theorem st_40 : ("ParishBoards$Kind", "MINUS", "LParishBoards$Kind;", .ref (hd 0 36)) ∈ ST := List.mem_of_getElem? (i := 40) rfl
theorem st_41 : ("ParishBoards$Kind", "TIMES", "LParishBoards$Kind;", .ref (hd 0 37)) ∈ ST := List.mem_of_getElem? (i := 41) rfl
theorem st_42 : ("ParishBoards$Kind", "OVER", "LParishBoards$Kind;", .ref (hd 0 38)) ∈ ST := List.mem_of_getElem? (i := 42) rfl
theorem st_43 : ("ParishBoards$Kind", "LESS", "LParishBoards$Kind;", .ref (hd 0 39)) ∈ ST := List.mem_of_getElem? (i := 43) rfl
theorem st_44 : ("ParishBoards$Kind", "GREATER", "LParishBoards$Kind;", .ref (hd 0 40)) ∈ ST := List.mem_of_getElem? (i := 44) rfl
theorem st_45 : ("ParishBoards$Kind", "EQUAL", "LParishBoards$Kind;", .ref (hd 0 41)) ∈ ST := List.mem_of_getElem? (i := 45) rfl
theorem st_46 : ("ParishBoards$Kind", "AT_MOST", "LParishBoards$Kind;", .ref (hd 0 42)) ∈ ST := List.mem_of_getElem? (i := 46) rfl
theorem st_47 : ("ParishBoards$Kind", "AT_LEAST", "LParishBoards$Kind;", .ref (hd 0 43)) ∈ ST := List.mem_of_getElem? (i := 47) rfl
theorem st_48 : ("ParishBoards$Kind", "NAME", "LParishBoards$Kind;", .ref (hd 0 44)) ∈ ST := List.mem_of_getElem? (i := 48) rfl
theorem st_49 : ("ParishBoards$Kind", "NUMBER", "LParishBoards$Kind;", .ref (hd 0 45)) ∈ ST := List.mem_of_getElem? (i := 49) rfl
theorem st_50 : ("ParishBoards$Kind", "TAPE_END", "LParishBoards$Kind;", .ref (hd 0 46)) ∈ ST := List.mem_of_getElem? (i := 50) rfl
theorem st_51 : ("ParishBoards$Kind", "WRONG", "LParishBoards$Kind;", .ref (hd 0 47)) ∈ ST := List.mem_of_getElem? (i := 51) rfl
theorem st_52 : ("ParishBoards$Kind", "TURN", "LParishBoards$Kind;", .ref (hd 0 48)) ∈ ST := List.mem_of_getElem? (i := 52) rfl
theorem st_53 : ("java/lang/Integer", "DigitTens", "[B", .ref (hd 5 1)) ∈ ST := List.mem_of_getElem? (i := 53) rfl
