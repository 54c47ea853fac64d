/-- an instruction that reads a static -/
def GLinkO (own : String) (index : Nat) (C n d : String) : Prop := Cond.fieldLink own index C n d ∈ tb ∨ ∃ host, Cond.fieldLinkNest own index C n d host ∈ tb
theorem Wa.gets {ct : List CE} {stt : List SE} {K : KM} {d rc rs : Nat} {Q : Option Value → Mu → Prop} {pc : Nat} {L : List (Nat × Value)} {st : List Value} {μ : Mu} {index : Nat} {C n de : String} {v : Value}
    (hd : decode (kB K) pc = .ok (.getstatic index, 3)) (hsq : (C, n, de, v) ∈ stt) (hw : GLinkO (kO K) index C n de)
    (kk : Wa ct stt K d rc rs Q (pc + 3) L (v :: st) μ) : Wa ct stt K d rc rs Q pc L st μ := by
  intro p l e s m args below meth c R B0 mc ms Z adr0 μ0 hC hd1 hdl hmc hms hE H locs cells slots ls adr hR hX hlo hc hs1 hls hL1 hS
  obtain ⟨g1, cf, kf, fi, f, x, cell, q1, q2, q3, q4, q5, q6, q7, q8⟩ := hR.2.2.2.2.2.1 _ hsq
  have hkk := kk p l e s m args below meth c R B0 mc ms Z adr0 μ0 hC hd1 hdl hmc hms hE H locs cells slots ls adr hR hX hlo hc hs1 hls hL1 (lvv_cons g1 hS)
  rcases hw with hw | ⟨host, hw⟩
  · exact W.gets hC.1 hC.2.1 hC.2.2.2.2.1 (hC.2.2.2.2.2.1 _ hw) q1 q2 q3 q4 q5 (fun z => by rw [z] at q6; cases q6) q7 rfl hd hkk
  · exact va_WgetsN hC.1 hC.2.1 hC.2.2.2.2.1 (hC.2.2.2.2.2.1 _ hw) q1 q2 q3 q4 q5 (fun z => by rw [z] at q6; cases q6) q7 rfl hd hkk
theorem Wa.ldcS {ct : List CE} {stt : List SE} {K : KM} {d rc rs : Nat} {Q : Option Value → Mu → Prop} {pc : Nat} {L : List (Nat × Value)} {st : List Value} {μ : Mu} (j : Nat) {ix : Nat}
    (hd1 : decode (kB K) pc = .ok (.ldc ix, 2)) (hj : j < lits.length) (hix : (lits.getD j (0, "")).1 = ix) (ho : kO K = "ParishBoardsLaw")
    (kk : Wa ct stt K d rc rs Q (pc + 2) L (.ref (hd 1 (45 + j)) :: st) μ) : Wa ct stt K d rc rs Q pc L st μ := by
  subst hix
  intro p l e s m args below meth c R B0 mc ms Z adr0 μ0 hC hd2 hdl hmc hms hE H locs cells slots ls adr hR hX hlo hc hs1 hls hL1 hS
  have hq := hE.1.1 j hj
  have hl := (hX _ hq.1)
  have hkk := kk p l e s m args below meth c R B0 mc ms Z adr0 μ0 hC hd2 hdl hmc hms hE H locs cells slots ls adr hR hX hlo hc hs1 hls hL1 (lvv_cons (fun b hb => by cases hb; exact hl.1) hS)
  exact va_ldcS hC.1 hC.2.1 (own := "ParishBoardsLaw") (tx := (lits.getD j (0, "")).2) (q := adr (hd 1 (45 + j))) (by rw [← ho]; exact hC.2.2.2.2.1) (by rw [hl.2]; exact LitOK.use hE.1 hj) hd1 hkk
theorem sf_Cd_34 : GLinkO "ParishBoards$Code" 34 "ParishBoards$Kind" "NUMBER" "LParishBoards$Kind;" := Or.inl (tb_at 1151 (by decide +kernel) (by decide +kernel))
theorem sf_Cd_48 : GLinkO "ParishBoards$Code" 48 "ParishBoards$1" "$SwitchMap$ParishBoards$Kind" "[I" := Or.inl (tb_at 1677 (by decide +kernel) (by decide +kernel))
theorem sf_Gr_15 : GLinkO "ParishBoards$Grammar" 15 "ParishBoards$Kind" "WRONG" "LParishBoards$Kind;" := Or.inl (tb_at 296 (by decide +kernel) (by decide +kernel))
theorem sf_Gr_38 : GLinkO "ParishBoards$Grammar" 38 "ParishBoards$Kind" "TAPE_END" "LParishBoards$Kind;" := Or.inl (tb_at 938 (by decide +kernel) (by decide +kernel))
theorem sf_Gr_44 : GLinkO "ParishBoards$Grammar" 44 "ParishBoards$Kind" "LINE_END" "LParishBoards$Kind;" := Or.inl (tb_at 1074 (by decide +kernel) (by decide +kernel))
theorem sf_Gr_51 : GLinkO "ParishBoards$Grammar" 51 "ParishBoards$1" "$SwitchMap$ParishBoards$Kind" "[I" := Or.inl (tb_at 943 (by decide +kernel) (by decide +kernel))
theorem sf_Gr_61 : GLinkO "ParishBoards$Grammar" 61 "ParishBoards$Kind" "NAME" "LParishBoards$Kind;" := Or.inl (tb_at 955 (by decide +kernel) (by decide +kernel))
theorem sf_Gr_77 : GLinkO "ParishBoards$Grammar" 77 "ParishBoards$Kind" "ROAD" "LParishBoards$Kind;" := Or.inl (tb_at 960 (by decide +kernel) (by decide +kernel))
theorem sf_Gr_80 : GLinkO "ParishBoards$Grammar" 80 "ParishBoards$Kind" "FROM" "LParishBoards$Kind;" := Or.inl (tb_at 962 (by decide +kernel) (by decide +kernel))
theorem sf_Gr_83 : GLinkO "ParishBoards$Grammar" 83 "ParishBoards$Kind" "TO" "LParishBoards$Kind;" := Or.inl (tb_at 964 (by decide +kernel) (by decide +kernel))
theorem sf_Gr_86 : GLinkO "ParishBoards$Grammar" 86 "ParishBoards$Kind" "DAYS" "LParishBoards$Kind;" := Or.inl (tb_at 966 (by decide +kernel) (by decide +kernel))
theorem sf_Gr_89 : GLinkO "ParishBoards$Grammar" 89 "ParishBoards$Kind" "NUMBER" "LParishBoards$Kind;" := Or.inl (tb_at 968 (by decide +kernel) (by decide +kernel))
theorem sf_Gr_112 : GLinkO "ParishBoards$Grammar" 112 "ParishBoards$Kind" "SEND" "LParishBoards$Kind;" := Or.inl (tb_at 977 (by decide +kernel) (by decide +kernel))
theorem sf_Gr_115 : GLinkO "ParishBoards$Grammar" 115 "ParishBoards$Kind" "WRITE" "LParishBoards$Kind;" := Or.inl (tb_at 978 (by decide +kernel) (by decide +kernel))
theorem sf_Gr_118 : GLinkO "ParishBoards$Grammar" 118 "ParishBoards$Kind" "AS" "LParishBoards$Kind;" := Or.inl (tb_at 980 (by decide +kernel) (by decide +kernel))
theorem sf_Gr_125 : GLinkO "ParishBoards$Grammar" 125 "ParishBoards$Kind" "NOTE" "LParishBoards$Kind;" := Or.inl (tb_at 1028 (by decide +kernel) (by decide +kernel))
theorem sf_Gr_128 : GLinkO "ParishBoards$Grammar" 128 "ParishBoards$Kind" "WITH" "LParishBoards$Kind;" := Or.inl (tb_at 1030 (by decide +kernel) (by decide +kernel))
theorem sf_Gr_131 : GLinkO "ParishBoards$Grammar" 131 "ParishBoards$Kind" "MERGE" "LParishBoards$Kind;" := Or.inl (tb_at 1032 (by decide +kernel) (by decide +kernel))
theorem sf_Gr_134 : GLinkO "ParishBoards$Grammar" 134 "ParishBoards$Kind" "BY" "LParishBoards$Kind;" := Or.inl (tb_at 1034 (by decide +kernel) (by decide +kernel))
theorem sf_Gr_146 : GLinkO "ParishBoards$Grammar" 146 "ParishBoards$Kind" "WHEN" "LParishBoards$Kind;" := Or.inl (tb_at 1046 (by decide +kernel) (by decide +kernel))
theorem sf_Gr_155 : GLinkO "ParishBoards$Grammar" 155 "ParishBoards$Kind" "LEAST" "LParishBoards$Kind;" := Or.inl (tb_at 1040 (by decide +kernel) (by decide +kernel))
theorem sf_Gr_158 : GLinkO "ParishBoards$Grammar" 158 "ParishBoards$Kind" "MOST" "LParishBoards$Kind;" := Or.inl (tb_at 1042 (by decide +kernel) (by decide +kernel))
theorem sf_Gr_161 : GLinkO "ParishBoards$Grammar" 161 "ParishBoards$Kind" "SUM" "LParishBoards$Kind;" := Or.inl (tb_at 1044 (by decide +kernel) (by decide +kernel))
theorem sf_Gr_167 : GLinkO "ParishBoards$Grammar" 167 "ParishBoards$Kind" "OR" "LParishBoards$Kind;" := Or.inl (tb_at 1072 (by decide +kernel) (by decide +kernel))
theorem sf_Gr_177 : GLinkO "ParishBoards$Grammar" 177 "ParishBoards$Kind" "AND" "LParishBoards$Kind;" := Or.inl (tb_at 1070 (by decide +kernel) (by decide +kernel))
theorem sf_Gr_180 : GLinkO "ParishBoards$Grammar" 180 "ParishBoards$Kind" "NOT" "LParishBoards$Kind;" := Or.inl (tb_at 1060 (by decide +kernel) (by decide +kernel))
theorem sf_Gr_187 : GLinkO "ParishBoards$Grammar" 187 "ParishBoards$Kind" "OPEN_TEST" "LParishBoards$Kind;" := Or.inl (tb_at 1062 (by decide +kernel) (by decide +kernel))
theorem sf_Gr_190 : GLinkO "ParishBoards$Grammar" 190 "ParishBoards$Kind" "CLOSE_TEST" "LParishBoards$Kind;" := Or.inl (tb_at 1064 (by decide +kernel) (by decide +kernel))
theorem sf_Gr_202 : GLinkO "ParishBoards$Grammar" 202 "ParishBoards$Kind" "PLUS" "LParishBoards$Kind;" := Or.inl (tb_at 1026 (by decide +kernel) (by decide +kernel))
theorem sf_Gr_205 : GLinkO "ParishBoards$Grammar" 205 "ParishBoards$Kind" "MINUS" "LParishBoards$Kind;" := Or.inl (tb_at 1004 (by decide +kernel) (by decide +kernel))
theorem sf_Gr_211 : GLinkO "ParishBoards$Grammar" 211 "ParishBoards$Kind" "TIMES" "LParishBoards$Kind;" := Or.inl (tb_at 1022 (by decide +kernel) (by decide +kernel))
theorem sf_Gr_214 : GLinkO "ParishBoards$Grammar" 214 "ParishBoards$Kind" "OVER" "LParishBoards$Kind;" := Or.inl (tb_at 1024 (by decide +kernel) (by decide +kernel))
theorem sf_Gr_217 : GLinkO "ParishBoards$Grammar" 217 "ParishBoards$Kind" "TURN" "LParishBoards$Kind;" := Or.inl (tb_at 1010 (by decide +kernel) (by decide +kernel))
theorem sf_Gr_220 : GLinkO "ParishBoards$Grammar" 220 "ParishBoards$Kind" "OPEN" "LParishBoards$Kind;" := Or.inl (tb_at 1012 (by decide +kernel) (by decide +kernel))
theorem sf_Gr_223 : GLinkO "ParishBoards$Grammar" 223 "ParishBoards$Kind" "CLOSE" "LParishBoards$Kind;" := Or.inl (tb_at 1014 (by decide +kernel) (by decide +kernel))
theorem sf_Gr_229 : GLinkO "ParishBoards$Grammar" 229 "ParishBoards$Kind" "COMMA" "LParishBoards$Kind;" := Or.inl (tb_at 1020 (by decide +kernel) (by decide +kernel))
theorem sf_Gr_232 : GLinkO "ParishBoards$Grammar" 232 "ParishBoards$Kind" "WAITS" "LParishBoards$Kind;" := Or.inl (tb_at 1002 (by decide +kernel) (by decide +kernel))
theorem sf_Nm_48 : GLinkO "ParishBoards$Names" 48 "ParishBoards$1" "$SwitchMap$ParishBoards$Kind" "[I" := Or.inl (tb_at 1088 (by decide +kernel) (by decide +kernel))
theorem sf_Od_9 : GLinkO "ParishBoards$Order" 9 "ParishBoards$Kind" "SEND" "LParishBoards$Kind;" := Or.inl (tb_at 176 (by decide +kernel) (by decide +kernel))
theorem sf_Tk_47 : GLinkO "ParishBoards$Tokens" 47 "ParishBoards$Kind" "WRONG" "LParishBoards$Kind;" := Or.inl (tb_at 883 (by decide +kernel) (by decide +kernel))
theorem sf_Tk_51 : GLinkO "ParishBoards$Tokens" 51 "ParishBoards$Kind" "TAPE_END" "LParishBoards$Kind;" := Or.inl (tb_at 884 (by decide +kernel) (by decide +kernel))
theorem sf_Tk_61 : GLinkO "ParishBoards$Tokens" 61 "ParishBoards$Kind" "NUMBER" "LParishBoards$Kind;" := Or.inl (tb_at 912 (by decide +kernel) (by decide +kernel))
theorem sf_Tk_94 : GLinkO "ParishBoards$Tokens" 94 "ParishBoards" "KINDS" "[LParishBoards$Kind;" := Or.inr ⟨"ParishBoards", tb_at 900 (by decide +kernel) (by decide +kernel)⟩
theorem sf_Tk_101 : GLinkO "ParishBoards$Tokens" 101 "ParishBoards$Kind" "NAME" "LParishBoards$Kind;" := Or.inl (tb_at 914 (by decide +kernel) (by decide +kernel))
theorem sf_Wd_160 : GLinkO "ParishBoards$World" 160 "ParishBoards$1" "$SwitchMap$ParishBoards$Kind" "[I" := Or.inl (tb_at 1578 (by decide +kernel) (by decide +kernel))
theorem sf_Wd_189 : GLinkO "ParishBoards$World" 189 "ParishBoards$Kind" "VALUE" "LParishBoards$Kind;" := Or.inl (tb_at 1572 (by decide +kernel) (by decide +kernel))
theorem sf_Wd_260 : GLinkO "ParishBoards$World" 260 "ParishBoards$Kind" "SEND" "LParishBoards$Kind;" := Or.inl (tb_at 1696 (by decide +kernel) (by decide +kernel))
theorem sf_Wd_269 : GLinkO "ParishBoards$World" 269 "ParishBoards$Kind" "MERGE" "LParishBoards$Kind;" := Or.inl (tb_at 1698 (by decide +kernel) (by decide +kernel))
theorem sf_Wd_287 : GLinkO "ParishBoards$World" 287 "ParishBoards$Kind" "NOTE" "LParishBoards$Kind;" := Or.inl (tb_at 1701 (by decide +kernel) (by decide +kernel))
theorem sf_AB_18 : GLinkO "java/lang/AbstractStringBuilder" 18 "java/lang/String" "COMPACT_STRINGS" "Z" := Or.inl (tb_at 1293 (by decide +kernel) (by decide +kernel))
theorem sf_JI_83 : GLinkO "java/lang/Integer" 83 "java/lang/Integer" "DigitOnes" "[B" := Or.inl (tb_at 1364 (by decide +kernel) (by decide +kernel))
theorem sf_JI_87 : GLinkO "java/lang/Integer" 87 "java/lang/Integer" "DigitTens" "[B" := Or.inl (tb_at 1366 (by decide +kernel) (by decide +kernel))
theorem sf_Str_38 : GLinkO "java/lang/String" 38 "java/lang/String" "COMPACT_STRINGS" "Z" := Or.inl (tb_at 799 (by decide +kernel) (by decide +kernel))
theorem sf_Str_1053 : GLinkO "java/lang/String" 1053 "jdk/internal/util/Preconditions" "SIOOBE_FORMATTER" "Ljava/util/function/BiFunction;" := Or.inl (tb_at 815 (by decide +kernel) (by decide +kernel))
