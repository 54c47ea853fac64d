/-! methods and their instructions -/
def K_Wd_tornOnBoards : KM := (⟨"ParishBoards$World", "tornOnBoards", "()I"⟩, prog_13_method_16_code, 3, (some (.int)), "ParishBoards$World", ([], []))
theorem d_Wd_tornOnBoards_0 : decode (kB K_Wd_tornOnBoards) 0 = .ok (.iconst 0, 1) := by decide +kernel
theorem d_Wd_tornOnBoards_1 : decode (kB K_Wd_tornOnBoards) 1 = .ok (.istore_n 1, 1) := by decide +kernel
theorem d_Wd_tornOnBoards_2 : decode (kB K_Wd_tornOnBoards) 2 = .ok (.iconst 0, 1) := by decide +kernel
theorem d_Wd_tornOnBoards_3 : decode (kB K_Wd_tornOnBoards) 3 = .ok (.istore_n 2, 1) := by decide +kernel
theorem d_Wd_tornOnBoards_4 : decode (kB K_Wd_tornOnBoards) 4 = .ok (.iload_n 2, 1) := by decide +kernel
theorem d_Wd_tornOnBoards_5 : decode (kB K_Wd_tornOnBoards) 5 = .ok (.aload_n 0, 1) := by decide +kernel
theorem d_Wd_tornOnBoards_6 : decode (kB K_Wd_tornOnBoards) 6 = .ok (.getfield 42, 3) := by decide +kernel
theorem d_Wd_tornOnBoards_9 : decode (kB K_Wd_tornOnBoards) 9 = .ok (.getfield 65, 3) := by decide +kernel
theorem d_Wd_tornOnBoards_12 : decode (kB K_Wd_tornOnBoards) 12 = .ok (.if_icmp .ge 22, 3) := by decide +kernel
theorem d_Wd_tornOnBoards_15 : decode (kB K_Wd_tornOnBoards) 15 = .ok (.iload_n 1, 1) := by decide +kernel
theorem d_Wd_tornOnBoards_16 : decode (kB K_Wd_tornOnBoards) 16 = .ok (.aload_n 0, 1) := by decide +kernel
theorem d_Wd_tornOnBoards_17 : decode (kB K_Wd_tornOnBoards) 17 = .ok (.getfield 19, 3) := by decide +kernel
theorem d_Wd_tornOnBoards_20 : decode (kB K_Wd_tornOnBoards) 20 = .ok (.iload_n 2, 1) := by decide +kernel
theorem d_Wd_tornOnBoards_21 : decode (kB K_Wd_tornOnBoards) 21 = .ok (.aaload, 1) := by decide +kernel
theorem d_Wd_tornOnBoards_22 : decode (kB K_Wd_tornOnBoards) 22 = .ok (.iconst 2, 1) := by decide +kernel
theorem d_Wd_tornOnBoards_23 : decode (kB K_Wd_tornOnBoards) 23 = .ok (.invokevirtual 96, 3) := by decide +kernel
theorem d_Wd_tornOnBoards_26 : decode (kB K_Wd_tornOnBoards) 26 = .ok (.iadd, 1) := by decide +kernel
theorem d_Wd_tornOnBoards_27 : decode (kB K_Wd_tornOnBoards) 27 = .ok (.istore_n 1, 1) := by decide +kernel
theorem d_Wd_tornOnBoards_28 : decode (kB K_Wd_tornOnBoards) 28 = .ok (.iinc 2 1, 3) := by decide +kernel
theorem d_Wd_tornOnBoards_31 : decode (kB K_Wd_tornOnBoards) 31 = .ok (.goto (-27), 3) := by decide +kernel
theorem d_Wd_tornOnBoards_34 : decode (kB K_Wd_tornOnBoards) 34 = .ok (.iload_n 1, 1) := by decide +kernel
theorem d_Wd_tornOnBoards_35 : decode (kB K_Wd_tornOnBoards) 35 = .ok (.ireturn, 1) := by decide +kernel
def K_Wd_mergedSheets : KM := (⟨"ParishBoards$World", "mergedSheets", "()I"⟩, prog_13_method_17_code, 3, (some (.int)), "ParishBoards$World", ([], []))
theorem d_Wd_mergedSheets_0 : decode (kB K_Wd_mergedSheets) 0 = .ok (.iconst 0, 1) := by decide +kernel
theorem d_Wd_mergedSheets_1 : decode (kB K_Wd_mergedSheets) 1 = .ok (.istore_n 1, 1) := by decide +kernel
theorem d_Wd_mergedSheets_2 : decode (kB K_Wd_mergedSheets) 2 = .ok (.iconst 0, 1) := by decide +kernel
theorem d_Wd_mergedSheets_3 : decode (kB K_Wd_mergedSheets) 3 = .ok (.istore_n 2, 1) := by decide +kernel
theorem d_Wd_mergedSheets_4 : decode (kB K_Wd_mergedSheets) 4 = .ok (.iload_n 2, 1) := by decide +kernel
theorem d_Wd_mergedSheets_5 : decode (kB K_Wd_mergedSheets) 5 = .ok (.aload_n 0, 1) := by decide +kernel
theorem d_Wd_mergedSheets_6 : decode (kB K_Wd_mergedSheets) 6 = .ok (.getfield 33, 3) := by decide +kernel
theorem d_Wd_mergedSheets_9 : decode (kB K_Wd_mergedSheets) 9 = .ok (.if_icmp .ge 30, 3) := by decide +kernel
theorem d_Wd_mergedSheets_12 : decode (kB K_Wd_mergedSheets) 12 = .ok (.iload_n 1, 1) := by decide +kernel
theorem d_Wd_mergedSheets_13 : decode (kB K_Wd_mergedSheets) 13 = .ok (.aload_n 0, 1) := by decide +kernel
theorem d_Wd_mergedSheets_14 : decode (kB K_Wd_mergedSheets) 14 = .ok (.getfield 11, 3) := by decide +kernel
theorem d_Wd_mergedSheets_17 : decode (kB K_Wd_mergedSheets) 17 = .ok (.iload_n 2, 1) := by decide +kernel
theorem d_Wd_mergedSheets_18 : decode (kB K_Wd_mergedSheets) 18 = .ok (.aaload, 1) := by decide +kernel
theorem d_Wd_mergedSheets_19 : decode (kB K_Wd_mergedSheets) 19 = .ok (.getfield 120, 3) := by decide +kernel
theorem d_Wd_mergedSheets_22 : decode (kB K_Wd_mergedSheets) 22 = .ok (.iconst 2, 1) := by decide +kernel
theorem d_Wd_mergedSheets_23 : decode (kB K_Wd_mergedSheets) 23 = .ok (.if_icmp .ne 7, 3) := by decide +kernel
theorem d_Wd_mergedSheets_26 : decode (kB K_Wd_mergedSheets) 26 = .ok (.iconst 1, 1) := by decide +kernel
theorem d_Wd_mergedSheets_27 : decode (kB K_Wd_mergedSheets) 27 = .ok (.goto 4, 3) := by decide +kernel
theorem d_Wd_mergedSheets_30 : decode (kB K_Wd_mergedSheets) 30 = .ok (.iconst 0, 1) := by decide +kernel
theorem d_Wd_mergedSheets_31 : decode (kB K_Wd_mergedSheets) 31 = .ok (.iadd, 1) := by decide +kernel
theorem d_Wd_mergedSheets_32 : decode (kB K_Wd_mergedSheets) 32 = .ok (.istore_n 1, 1) := by decide +kernel
theorem d_Wd_mergedSheets_33 : decode (kB K_Wd_mergedSheets) 33 = .ok (.iinc 2 1, 3) := by decide +kernel
theorem d_Wd_mergedSheets_36 : decode (kB K_Wd_mergedSheets) 36 = .ok (.goto (-32), 3) := by decide +kernel
theorem d_Wd_mergedSheets_39 : decode (kB K_Wd_mergedSheets) 39 = .ok (.iload_n 1, 1) := by decide +kernel
theorem d_Wd_mergedSheets_40 : decode (kB K_Wd_mergedSheets) 40 = .ok (.ireturn, 1) := by decide +kernel
def K_Wd_answer : KM := (⟨"ParishBoards$World", "answer", "(LParishBoards$Kind;II)I"⟩, prog_13_method_18_code, 6, (some (.int)), "ParishBoards$World", ([], []))
theorem d_Wd_answer_0 : decode (kB K_Wd_answer) 0 = .ok (.aload_n 0, 1) := by decide +kernel
theorem d_Wd_answer_1 : decode (kB K_Wd_answer) 1 = .ok (.getfield 19, 3) := by decide +kernel
theorem d_Wd_answer_4 : decode (kB K_Wd_answer) 4 = .ok (.iload_n 2, 1) := by decide +kernel
theorem d_Wd_answer_5 : decode (kB K_Wd_answer) 5 = .ok (.aaload, 1) := by decide +kernel
theorem d_Wd_answer_6 : decode (kB K_Wd_answer) 6 = .ok (.astore 4, 2) := by decide +kernel
theorem d_Wd_answer_8 : decode (kB K_Wd_answer) 8 = .ok (.getstatic 160, 3) := by decide +kernel
theorem d_Wd_answer_11 : decode (kB K_Wd_answer) 11 = .ok (.aload_n 1, 1) := by decide +kernel
theorem d_Wd_answer_12 : decode (kB K_Wd_answer) 12 = .ok (.invokevirtual 165, 3) := by decide +kernel
theorem d_Wd_answer_15 : decode (kB K_Wd_answer) 15 = .ok (.iaload, 1) := by decide +kernel
theorem d_Wd_answer_16 : decode (kB K_Wd_answer) 16 = .ok (.tableswitch 159 10 22 #[127, 143, 159, 159, 159, 159, 159, 159, 68, 73, 103, 110, 121], 68) := by decide +kernel
theorem d_Wd_answer_84 : decode (kB K_Wd_answer) 84 = .ok (.aload_n 0, 1) := by decide +kernel
theorem d_Wd_answer_85 : decode (kB K_Wd_answer) 85 = .ok (.getfield 29, 3) := by decide +kernel
theorem d_Wd_answer_88 : decode (kB K_Wd_answer) 88 = .ok (.ireturn, 1) := by decide +kernel
theorem d_Wd_answer_89 : decode (kB K_Wd_answer) 89 = .ok (.aload 4, 2) := by decide +kernel
theorem d_Wd_answer_91 : decode (kB K_Wd_answer) 91 = .ok (.iload_n 3, 1) := by decide +kernel
theorem d_Wd_answer_92 : decode (kB K_Wd_answer) 92 = .ok (.iconst 0, 1) := by decide +kernel
theorem d_Wd_answer_93 : decode (kB K_Wd_answer) 93 = .ok (.invokevirtual 170, 3) := by decide +kernel
theorem d_Wd_answer_96 : decode (kB K_Wd_answer) 96 = .ok (.istore 5, 2) := by decide +kernel
theorem d_Wd_answer_98 : decode (kB K_Wd_answer) 98 = .ok (.iload 5, 2) := by decide +kernel
theorem d_Wd_answer_100 : decode (kB K_Wd_answer) 100 = .ok (.iconst (-1), 1) := by decide +kernel
theorem d_Wd_answer_101 : decode (kB K_Wd_answer) 101 = .ok (.if_icmp .ne 7, 3) := by decide +kernel
theorem d_Wd_answer_104 : decode (kB K_Wd_answer) 104 = .ok (.iconst 0, 1) := by decide +kernel
theorem d_Wd_answer_105 : decode (kB K_Wd_answer) 105 = .ok (.goto 13, 3) := by decide +kernel
theorem d_Wd_answer_108 : decode (kB K_Wd_answer) 108 = .ok (.aload_n 0, 1) := by decide +kernel
theorem d_Wd_answer_109 : decode (kB K_Wd_answer) 109 = .ok (.getfield 11, 3) := by decide +kernel
theorem d_Wd_answer_112 : decode (kB K_Wd_answer) 112 = .ok (.iload 5, 2) := by decide +kernel
theorem d_Wd_answer_114 : decode (kB K_Wd_answer) 114 = .ok (.aaload, 1) := by decide +kernel
theorem d_Wd_answer_115 : decode (kB K_Wd_answer) 115 = .ok (.getfield 113, 3) := by decide +kernel
theorem d_Wd_answer_118 : decode (kB K_Wd_answer) 118 = .ok (.ireturn, 1) := by decide +kernel
theorem d_Wd_answer_119 : decode (kB K_Wd_answer) 119 = .ok (.aload 4, 2) := by decide +kernel
theorem d_Wd_answer_121 : decode (kB K_Wd_answer) 121 = .ok (.iload_n 3, 1) := by decide +kernel
theorem d_Wd_answer_122 : decode (kB K_Wd_answer) 122 = .ok (.invokevirtual 173, 3) := by decide +kernel
theorem d_Wd_answer_125 : decode (kB K_Wd_answer) 125 = .ok (.ireturn, 1) := by decide +kernel
theorem d_Wd_answer_126 : decode (kB K_Wd_answer) 126 = .ok (.aload_n 0, 1) := by decide +kernel
theorem d_Wd_answer_127 : decode (kB K_Wd_answer) 127 = .ok (.aload 4, 2) := by decide +kernel
theorem d_Wd_answer_129 : decode (kB K_Wd_answer) 129 = .ok (.iload_n 3, 1) := by decide +kernel
theorem d_Wd_answer_130 : decode (kB K_Wd_answer) 130 = .ok (.invokevirtual 176, 3) := by decide +kernel
theorem d_Wd_answer_133 : decode (kB K_Wd_answer) 133 = .ok (.invokestatic 180, 3) := by decide +kernel
theorem d_Wd_answer_136 : decode (kB K_Wd_answer) 136 = .ok (.ireturn, 1) := by decide +kernel
theorem d_Wd_answer_137 : decode (kB K_Wd_answer) 137 = .ok (.aload 4, 2) := by decide +kernel
theorem d_Wd_answer_139 : decode (kB K_Wd_answer) 139 = .ok (.getfield 93, 3) := by decide +kernel
theorem d_Wd_answer_142 : decode (kB K_Wd_answer) 142 = .ok (.ireturn, 1) := by decide +kernel
theorem d_Wd_answer_143 : decode (kB K_Wd_answer) 143 = .ok (.aload 4, 2) := by decide +kernel
theorem d_Wd_answer_145 : decode (kB K_Wd_answer) 145 = .ok (.iload_n 3, 1) := by decide +kernel
theorem d_Wd_answer_146 : decode (kB K_Wd_answer) 146 = .ok (.invokevirtual 173, 3) := by decide +kernel
theorem d_Wd_answer_149 : decode (kB K_Wd_answer) 149 = .ok (.iconst 2, 1) := by decide +kernel
theorem d_Wd_answer_150 : decode (kB K_Wd_answer) 150 = .ok (.if_icmp .lt 7, 3) := by decide +kernel
theorem d_Wd_answer_153 : decode (kB K_Wd_answer) 153 = .ok (.iconst 1, 1) := by decide +kernel
theorem d_Wd_answer_154 : decode (kB K_Wd_answer) 154 = .ok (.goto 4, 3) := by decide +kernel
theorem d_Wd_answer_157 : decode (kB K_Wd_answer) 157 = .ok (.iconst 0, 1) := by decide +kernel
theorem d_Wd_answer_158 : decode (kB K_Wd_answer) 158 = .ok (.ireturn, 1) := by decide +kernel
theorem d_Wd_answer_159 : decode (kB K_Wd_answer) 159 = .ok (.aload 4, 2) := by decide +kernel
theorem d_Wd_answer_161 : decode (kB K_Wd_answer) 161 = .ok (.iload_n 3, 1) := by decide +kernel
theorem d_Wd_answer_162 : decode (kB K_Wd_answer) 162 = .ok (.invokevirtual 173, 3) := by decide +kernel
theorem d_Wd_answer_165 : decode (kB K_Wd_answer) 165 = .ok (.iconst 1, 1) := by decide +kernel
theorem d_Wd_answer_166 : decode (kB K_Wd_answer) 166 = .ok (.if_icmp .lt 7, 3) := by decide +kernel
theorem d_Wd_answer_169 : decode (kB K_Wd_answer) 169 = .ok (.iconst 1, 1) := by decide +kernel
theorem d_Wd_answer_170 : decode (kB K_Wd_answer) 170 = .ok (.goto 4, 3) := by decide +kernel
theorem d_Wd_answer_173 : decode (kB K_Wd_answer) 173 = .ok (.iconst 0, 1) := by decide +kernel
theorem d_Wd_answer_174 : decode (kB K_Wd_answer) 174 = .ok (.ireturn, 1) := by decide +kernel
theorem d_Wd_answer_175 : decode (kB K_Wd_answer) 175 = .ok (.iconst 0, 1) := by decide +kernel
theorem d_Wd_answer_176 : decode (kB K_Wd_answer) 176 = .ok (.ireturn, 1) := by decide +kernel
def K_Wd_marksShown : KM := (⟨"ParishBoards$World", "marksShown", "(LParishBoards$Board;I)I"⟩, prog_13_method_19_code, 6, (some (.int)), "ParishBoards$World", ([], []))
theorem d_Wd_marksShown_0 : decode (kB K_Wd_marksShown) 0 = .ok (.iconst 0, 1) := by decide +kernel
theorem d_Wd_marksShown_1 : decode (kB K_Wd_marksShown) 1 = .ok (.istore_n 3, 1) := by decide +kernel
theorem d_Wd_marksShown_2 : decode (kB K_Wd_marksShown) 2 = .ok (.iconst 0, 1) := by decide +kernel
theorem d_Wd_marksShown_3 : decode (kB K_Wd_marksShown) 3 = .ok (.istore 4, 2) := by decide +kernel
theorem d_Wd_marksShown_5 : decode (kB K_Wd_marksShown) 5 = .ok (.iload 4, 2) := by decide +kernel
theorem d_Wd_marksShown_7 : decode (kB K_Wd_marksShown) 7 = .ok (.aload_n 0, 1) := by decide +kernel
theorem d_Wd_marksShown_8 : decode (kB K_Wd_marksShown) 8 = .ok (.getfield 42, 3) := by decide +kernel
theorem d_Wd_marksShown_11 : decode (kB K_Wd_marksShown) 11 = .ok (.getfield 65, 3) := by decide +kernel
theorem d_Wd_marksShown_14 : decode (kB K_Wd_marksShown) 14 = .ok (.if_icmp .ge 41, 3) := by decide +kernel
theorem d_Wd_marksShown_17 : decode (kB K_Wd_marksShown) 17 = .ok (.aload_n 1, 1) := by decide +kernel
theorem d_Wd_marksShown_18 : decode (kB K_Wd_marksShown) 18 = .ok (.iload_n 2, 1) := by decide +kernel
theorem d_Wd_marksShown_19 : decode (kB K_Wd_marksShown) 19 = .ok (.iload 4, 2) := by decide +kernel
theorem d_Wd_marksShown_21 : decode (kB K_Wd_marksShown) 21 = .ok (.invokevirtual 153, 3) := by decide +kernel
theorem d_Wd_marksShown_24 : decode (kB K_Wd_marksShown) 24 = .ok (.istore 5, 2) := by decide +kernel
theorem d_Wd_marksShown_26 : decode (kB K_Wd_marksShown) 26 = .ok (.iload_n 3, 1) := by decide +kernel
theorem d_Wd_marksShown_27 : decode (kB K_Wd_marksShown) 27 = .ok (.iload 5, 2) := by decide +kernel
theorem d_Wd_marksShown_29 : decode (kB K_Wd_marksShown) 29 = .ok (.iconst (-1), 1) := by decide +kernel
theorem d_Wd_marksShown_30 : decode (kB K_Wd_marksShown) 30 = .ok (.if_icmp .ne 7, 3) := by decide +kernel
theorem d_Wd_marksShown_33 : decode (kB K_Wd_marksShown) 33 = .ok (.iconst 0, 1) := by decide +kernel
theorem d_Wd_marksShown_34 : decode (kB K_Wd_marksShown) 34 = .ok (.goto 13, 3) := by decide +kernel
theorem d_Wd_marksShown_37 : decode (kB K_Wd_marksShown) 37 = .ok (.aload_n 0, 1) := by decide +kernel
theorem d_Wd_marksShown_38 : decode (kB K_Wd_marksShown) 38 = .ok (.getfield 11, 3) := by decide +kernel
theorem d_Wd_marksShown_41 : decode (kB K_Wd_marksShown) 41 = .ok (.iload 5, 2) := by decide +kernel
theorem d_Wd_marksShown_43 : decode (kB K_Wd_marksShown) 43 = .ok (.aaload, 1) := by decide +kernel
theorem d_Wd_marksShown_44 : decode (kB K_Wd_marksShown) 44 = .ok (.getfield 116, 3) := by decide +kernel
theorem d_Wd_marksShown_47 : decode (kB K_Wd_marksShown) 47 = .ok (.ior, 1) := by decide +kernel
theorem d_Wd_marksShown_48 : decode (kB K_Wd_marksShown) 48 = .ok (.istore_n 3, 1) := by decide +kernel
theorem d_Wd_marksShown_49 : decode (kB K_Wd_marksShown) 49 = .ok (.iinc 4 1, 3) := by decide +kernel
theorem d_Wd_marksShown_52 : decode (kB K_Wd_marksShown) 52 = .ok (.goto (-47), 3) := by decide +kernel
theorem d_Wd_marksShown_55 : decode (kB K_Wd_marksShown) 55 = .ok (.iload_n 3, 1) := by decide +kernel
theorem d_Wd_marksShown_56 : decode (kB K_Wd_marksShown) 56 = .ok (.ireturn, 1) := by decide +kernel
def K_Wd_isFull : KM := (⟨"ParishBoards$World", "isFull", "()Z"⟩, prog_13_method_20_code, 1, (some (.boolean)), "ParishBoards$World", ([], []))
theorem d_Wd_isFull_0 : decode (kB K_Wd_isFull) 0 = .ok (.aload_n 0, 1) := by decide +kernel
theorem d_Wd_isFull_1 : decode (kB K_Wd_isFull) 1 = .ok (.getfield 33, 3) := by decide +kernel
theorem d_Wd_isFull_4 : decode (kB K_Wd_isFull) 4 = .ok (.bipush 60, 2) := by decide +kernel
theorem d_Wd_isFull_6 : decode (kB K_Wd_isFull) 6 = .ok (.if_icmp .lt 7, 3) := by decide +kernel
theorem d_Wd_isFull_9 : decode (kB K_Wd_isFull) 9 = .ok (.iconst 1, 1) := by decide +kernel
theorem d_Wd_isFull_10 : decode (kB K_Wd_isFull) 10 = .ok (.goto 4, 3) := by decide +kernel
theorem d_Wd_isFull_13 : decode (kB K_Wd_isFull) 13 = .ok (.iconst 0, 1) := by decide +kernel
theorem d_Wd_isFull_14 : decode (kB K_Wd_isFull) 14 = .ok (.ireturn, 1) := by decide +kernel
def K_Wd_canNote : KM := (⟨"ParishBoards$World", "canNote", "(II)Z"⟩, prog_13_method_21_code, 3, (some (.boolean)), "ParishBoards$World", ([], []))
theorem d_Wd_canNote_0 : decode (kB K_Wd_canNote) 0 = .ok (.aload_n 0, 1) := by decide +kernel
theorem d_Wd_canNote_1 : decode (kB K_Wd_canNote) 1 = .ok (.getfield 19, 3) := by decide +kernel
theorem d_Wd_canNote_4 : decode (kB K_Wd_canNote) 4 = .ok (.iload_n 1, 1) := by decide +kernel
theorem d_Wd_canNote_5 : decode (kB K_Wd_canNote) 5 = .ok (.aaload, 1) := by decide +kernel
theorem d_Wd_canNote_6 : decode (kB K_Wd_canNote) 6 = .ok (.iload_n 2, 1) := by decide +kernel
theorem d_Wd_canNote_7 : decode (kB K_Wd_canNote) 7 = .ok (.invokevirtual 173, 3) := by decide +kernel
theorem d_Wd_canNote_10 : decode (kB K_Wd_canNote) 10 = .ok (.iconst 1, 1) := by decide +kernel
theorem d_Wd_canNote_11 : decode (kB K_Wd_canNote) 11 = .ok (.if_icmp .ne 7, 3) := by decide +kernel
theorem d_Wd_canNote_14 : decode (kB K_Wd_canNote) 14 = .ok (.iconst 1, 1) := by decide +kernel
theorem d_Wd_canNote_15 : decode (kB K_Wd_canNote) 15 = .ok (.goto 4, 3) := by decide +kernel
theorem d_Wd_canNote_18 : decode (kB K_Wd_canNote) 18 = .ok (.iconst 0, 1) := by decide +kernel
theorem d_Wd_canNote_19 : decode (kB K_Wd_canNote) 19 = .ok (.ireturn, 1) := by decide +kernel
def K_Wd_canMerge : KM := (⟨"ParishBoards$World", "canMerge", "(II)Z"⟩, prog_13_method_22_code, 3, (some (.boolean)), "ParishBoards$World", ([], []))
theorem d_Wd_canMerge_0 : decode (kB K_Wd_canMerge) 0 = .ok (.aload_n 0, 1) := by decide +kernel
theorem d_Wd_canMerge_1 : decode (kB K_Wd_canMerge) 1 = .ok (.getfield 19, 3) := by decide +kernel
theorem d_Wd_canMerge_4 : decode (kB K_Wd_canMerge) 4 = .ok (.iload_n 1, 1) := by decide +kernel
theorem d_Wd_canMerge_5 : decode (kB K_Wd_canMerge) 5 = .ok (.aaload, 1) := by decide +kernel
theorem d_Wd_canMerge_6 : decode (kB K_Wd_canMerge) 6 = .ok (.iload_n 2, 1) := by decide +kernel
theorem d_Wd_canMerge_7 : decode (kB K_Wd_canMerge) 7 = .ok (.invokevirtual 173, 3) := by decide +kernel
theorem d_Wd_canMerge_10 : decode (kB K_Wd_canMerge) 10 = .ok (.iconst 2, 1) := by decide +kernel
theorem d_Wd_canMerge_11 : decode (kB K_Wd_canMerge) 11 = .ok (.if_icmp .lt 7, 3) := by decide +kernel
theorem d_Wd_canMerge_14 : decode (kB K_Wd_canMerge) 14 = .ok (.iconst 1, 1) := by decide +kernel
theorem d_Wd_canMerge_15 : decode (kB K_Wd_canMerge) 15 = .ok (.goto 4, 3) := by decide +kernel
theorem d_Wd_canMerge_18 : decode (kB K_Wd_canMerge) 18 = .ok (.iconst 0, 1) := by decide +kernel
theorem d_Wd_canMerge_19 : decode (kB K_Wd_canMerge) 19 = .ok (.ireturn, 1) := by decide +kernel
def K_Wd_makeWritten : KM := (⟨"ParishBoards$World", "makeWritten", "(III)I"⟩, prog_13_method_23_code, 5, (some (.int)), "ParishBoards$World", ([], []))
theorem d_Wd_makeWritten_0 : decode (kB K_Wd_makeWritten) 0 = .ok (.aload_n 0, 1) := by decide +kernel
theorem d_Wd_makeWritten_1 : decode (kB K_Wd_makeWritten) 1 = .ok (.aload_n 0, 1) := by decide +kernel
theorem d_Wd_makeWritten_2 : decode (kB K_Wd_makeWritten) 2 = .ok (.getfield 19, 3) := by decide +kernel
theorem d_Wd_makeWritten_5 : decode (kB K_Wd_makeWritten) 5 = .ok (.iload_n 1, 1) := by decide +kernel
theorem d_Wd_makeWritten_6 : decode (kB K_Wd_makeWritten) 6 = .ok (.aaload, 1) := by decide +kernel
theorem d_Wd_makeWritten_7 : decode (kB K_Wd_makeWritten) 7 = .ok (.iload_n 2, 1) := by decide +kernel
theorem d_Wd_makeWritten_8 : decode (kB K_Wd_makeWritten) 8 = .ok (.invokevirtual 176, 3) := by decide +kernel
theorem d_Wd_makeWritten_11 : decode (kB K_Wd_makeWritten) 11 = .ok (.istore 4, 2) := by decide +kernel
theorem d_Wd_makeWritten_13 : decode (kB K_Wd_makeWritten) 13 = .ok (.aload_n 0, 1) := by decide +kernel
theorem d_Wd_makeWritten_14 : decode (kB K_Wd_makeWritten) 14 = .ok (.iload_n 1, 1) := by decide +kernel
theorem d_Wd_makeWritten_15 : decode (kB K_Wd_makeWritten) 15 = .ok (.iload_n 2, 1) := by decide +kernel
theorem d_Wd_makeWritten_16 : decode (kB K_Wd_makeWritten) 16 = .ok (.iload_n 3, 1) := by decide +kernel
theorem d_Wd_makeWritten_17 : decode (kB K_Wd_makeWritten) 17 = .ok (.iload 4, 2) := by decide +kernel
theorem d_Wd_makeWritten_19 : decode (kB K_Wd_makeWritten) 19 = .ok (.iconst 0, 1) := by decide +kernel
theorem d_Wd_makeWritten_20 : decode (kB K_Wd_makeWritten) 20 = .ok (.invokevirtual 185, 3) := by decide +kernel
theorem d_Wd_makeWritten_23 : decode (kB K_Wd_makeWritten) 23 = .ok (.ireturn, 1) := by decide +kernel
def K_Wd_makeNoted : KM := (⟨"ParishBoards$World", "makeNoted", "(III)I"⟩, prog_13_method_24_code, 5, (some (.int)), "ParishBoards$World", ([], []))
theorem d_Wd_makeNoted_0 : decode (kB K_Wd_makeNoted) 0 = .ok (.aload_n 0, 1) := by decide +kernel
theorem d_Wd_makeNoted_1 : decode (kB K_Wd_makeNoted) 1 = .ok (.aload_n 0, 1) := by decide +kernel
theorem d_Wd_makeNoted_2 : decode (kB K_Wd_makeNoted) 2 = .ok (.getfield 19, 3) := by decide +kernel
theorem d_Wd_makeNoted_5 : decode (kB K_Wd_makeNoted) 5 = .ok (.iload_n 1, 1) := by decide +kernel
theorem d_Wd_makeNoted_6 : decode (kB K_Wd_makeNoted) 6 = .ok (.aaload, 1) := by decide +kernel
theorem d_Wd_makeNoted_7 : decode (kB K_Wd_makeNoted) 7 = .ok (.iload_n 2, 1) := by decide +kernel
theorem d_Wd_makeNoted_8 : decode (kB K_Wd_makeNoted) 8 = .ok (.invokevirtual 176, 3) := by decide +kernel
theorem d_Wd_makeNoted_11 : decode (kB K_Wd_makeNoted) 11 = .ok (.iconst 1, 1) := by decide +kernel
theorem d_Wd_makeNoted_12 : decode (kB K_Wd_makeNoted) 12 = .ok (.iload_n 3, 1) := by decide +kernel
theorem d_Wd_makeNoted_13 : decode (kB K_Wd_makeNoted) 13 = .ok (.ishl, 1) := by decide +kernel
theorem d_Wd_makeNoted_14 : decode (kB K_Wd_makeNoted) 14 = .ok (.ior, 1) := by decide +kernel
theorem d_Wd_makeNoted_15 : decode (kB K_Wd_makeNoted) 15 = .ok (.istore 4, 2) := by decide +kernel
theorem d_Wd_makeNoted_17 : decode (kB K_Wd_makeNoted) 17 = .ok (.aload_n 0, 1) := by decide +kernel
theorem d_Wd_makeNoted_18 : decode (kB K_Wd_makeNoted) 18 = .ok (.iload_n 1, 1) := by decide +kernel
theorem d_Wd_makeNoted_19 : decode (kB K_Wd_makeNoted) 19 = .ok (.iload_n 2, 1) := by decide +kernel
theorem d_Wd_makeNoted_20 : decode (kB K_Wd_makeNoted) 20 = .ok (.aload_n 0, 1) := by decide +kernel
theorem d_Wd_makeNoted_21 : decode (kB K_Wd_makeNoted) 21 = .ok (.getstatic 189, 3) := by decide +kernel
theorem d_Wd_makeNoted_24 : decode (kB K_Wd_makeNoted) 24 = .ok (.iload_n 1, 1) := by decide +kernel
theorem d_Wd_makeNoted_25 : decode (kB K_Wd_makeNoted) 25 = .ok (.iload_n 2, 1) := by decide +kernel
theorem d_Wd_makeNoted_26 : decode (kB K_Wd_makeNoted) 26 = .ok (.invokevirtual 193, 3) := by decide +kernel
theorem d_Wd_makeNoted_29 : decode (kB K_Wd_makeNoted) 29 = .ok (.iload 4, 2) := by decide +kernel
theorem d_Wd_makeNoted_31 : decode (kB K_Wd_makeNoted) 31 = .ok (.iconst 1, 1) := by decide +kernel
theorem d_Wd_makeNoted_32 : decode (kB K_Wd_makeNoted) 32 = .ok (.invokevirtual 185, 3) := by decide +kernel
theorem d_Wd_makeNoted_35 : decode (kB K_Wd_makeNoted) 35 = .ok (.ireturn, 1) := by decide +kernel
def K_Wd_makeMerged : KM := (⟨"ParishBoards$World", "makeMerged", "(III)I"⟩, prog_13_method_25_code, 11, (some (.int)), "ParishBoards$World", ([], []))
theorem d_Wd_makeMerged_0 : decode (kB K_Wd_makeMerged) 0 = .ok (.aload_n 0, 1) := by decide +kernel
theorem d_Wd_makeMerged_1 : decode (kB K_Wd_makeMerged) 1 = .ok (.getfield 19, 3) := by decide +kernel
theorem d_Wd_makeMerged_4 : decode (kB K_Wd_makeMerged) 4 = .ok (.iload_n 1, 1) := by decide +kernel
theorem d_Wd_makeMerged_5 : decode (kB K_Wd_makeMerged) 5 = .ok (.aaload, 1) := by decide +kernel
theorem d_Wd_makeMerged_6 : decode (kB K_Wd_makeMerged) 6 = .ok (.astore 4, 2) := by decide +kernel
theorem d_Wd_makeMerged_8 : decode (kB K_Wd_makeMerged) 8 = .ok (.sipush 9999, 3) := by decide +kernel
theorem d_Wd_makeMerged_11 : decode (kB K_Wd_makeMerged) 11 = .ok (.istore 5, 2) := by decide +kernel
theorem d_Wd_makeMerged_13 : decode (kB K_Wd_makeMerged) 13 = .ok (.iconst 0, 1) := by decide +kernel
theorem d_Wd_makeMerged_14 : decode (kB K_Wd_makeMerged) 14 = .ok (.istore 6, 2) := by decide +kernel
theorem d_Wd_makeMerged_16 : decode (kB K_Wd_makeMerged) 16 = .ok (.iconst 0, 1) := by decide +kernel
theorem d_Wd_makeMerged_17 : decode (kB K_Wd_makeMerged) 17 = .ok (.istore 7, 2) := by decide +kernel
theorem d_Wd_makeMerged_19 : decode (kB K_Wd_makeMerged) 19 = .ok (.iconst 0, 1) := by decide +kernel
theorem d_Wd_makeMerged_20 : decode (kB K_Wd_makeMerged) 20 = .ok (.istore 8, 2) := by decide +kernel
theorem d_Wd_makeMerged_22 : decode (kB K_Wd_makeMerged) 22 = .ok (.iload 8, 2) := by decide +kernel
theorem d_Wd_makeMerged_24 : decode (kB K_Wd_makeMerged) 24 = .ok (.aload_n 0, 1) := by decide +kernel
theorem d_Wd_makeMerged_25 : decode (kB K_Wd_makeMerged) 25 = .ok (.getfield 42, 3) := by decide +kernel
theorem d_Wd_makeMerged_28 : decode (kB K_Wd_makeMerged) 28 = .ok (.getfield 65, 3) := by decide +kernel
theorem d_Wd_makeMerged_31 : decode (kB K_Wd_makeMerged) 31 = .ok (.if_icmp .ge 62, 3) := by decide +kernel
theorem d_Wd_makeMerged_34 : decode (kB K_Wd_makeMerged) 34 = .ok (.aload 4, 2) := by decide +kernel
theorem d_Wd_makeMerged_36 : decode (kB K_Wd_makeMerged) 36 = .ok (.iload_n 2, 1) := by decide +kernel
theorem d_Wd_makeMerged_37 : decode (kB K_Wd_makeMerged) 37 = .ok (.iload 8, 2) := by decide +kernel
theorem d_Wd_makeMerged_39 : decode (kB K_Wd_makeMerged) 39 = .ok (.invokevirtual 153, 3) := by decide +kernel
theorem d_Wd_makeMerged_42 : decode (kB K_Wd_makeMerged) 42 = .ok (.istore 9, 2) := by decide +kernel
theorem d_Wd_makeMerged_44 : decode (kB K_Wd_makeMerged) 44 = .ok (.iload 9, 2) := by decide +kernel
theorem d_Wd_makeMerged_46 : decode (kB K_Wd_makeMerged) 46 = .ok (.iconst (-1), 1) := by decide +kernel
theorem d_Wd_makeMerged_47 : decode (kB K_Wd_makeMerged) 47 = .ok (.if_icmp .eq 40, 3) := by decide +kernel
theorem d_Wd_makeMerged_50 : decode (kB K_Wd_makeMerged) 50 = .ok (.aload_n 0, 1) := by decide +kernel
theorem d_Wd_makeMerged_51 : decode (kB K_Wd_makeMerged) 51 = .ok (.getfield 11, 3) := by decide +kernel
theorem d_Wd_makeMerged_54 : decode (kB K_Wd_makeMerged) 54 = .ok (.iload 9, 2) := by decide +kernel
theorem d_Wd_makeMerged_56 : decode (kB K_Wd_makeMerged) 56 = .ok (.aaload, 1) := by decide +kernel
theorem d_Wd_makeMerged_57 : decode (kB K_Wd_makeMerged) 57 = .ok (.getfield 113, 3) := by decide +kernel
theorem d_Wd_makeMerged_60 : decode (kB K_Wd_makeMerged) 60 = .ok (.istore 10, 2) := by decide +kernel
theorem d_Wd_makeMerged_62 : decode (kB K_Wd_makeMerged) 62 = .ok (.iload 5, 2) := by decide +kernel
theorem d_Wd_makeMerged_64 : decode (kB K_Wd_makeMerged) 64 = .ok (.iload 10, 2) := by decide +kernel
theorem d_Wd_makeMerged_66 : decode (kB K_Wd_makeMerged) 66 = .ok (.invokestatic 197, 3) := by decide +kernel
theorem d_Wd_makeMerged_69 : decode (kB K_Wd_makeMerged) 69 = .ok (.istore 5, 2) := by decide +kernel
theorem d_Wd_makeMerged_71 : decode (kB K_Wd_makeMerged) 71 = .ok (.iload 6, 2) := by decide +kernel
theorem d_Wd_makeMerged_73 : decode (kB K_Wd_makeMerged) 73 = .ok (.iload 10, 2) := by decide +kernel
theorem d_Wd_makeMerged_75 : decode (kB K_Wd_makeMerged) 75 = .ok (.invokestatic 202, 3) := by decide +kernel
theorem d_Wd_makeMerged_78 : decode (kB K_Wd_makeMerged) 78 = .ok (.istore 6, 2) := by decide +kernel
theorem d_Wd_makeMerged_80 : decode (kB K_Wd_makeMerged) 80 = .ok (.iload 7, 2) := by decide +kernel
theorem d_Wd_makeMerged_82 : decode (kB K_Wd_makeMerged) 82 = .ok (.iload 10, 2) := by decide +kernel
theorem d_Wd_makeMerged_84 : decode (kB K_Wd_makeMerged) 84 = .ok (.iadd, 1) := by decide +kernel
theorem d_Wd_makeMerged_85 : decode (kB K_Wd_makeMerged) 85 = .ok (.istore 7, 2) := by decide +kernel
theorem d_Wd_makeMerged_87 : decode (kB K_Wd_makeMerged) 87 = .ok (.iinc 8 1, 3) := by decide +kernel
theorem d_Wd_makeMerged_90 : decode (kB K_Wd_makeMerged) 90 = .ok (.goto (-68), 3) := by decide +kernel
theorem d_Wd_makeMerged_93 : decode (kB K_Wd_makeMerged) 93 = .ok (.iload_n 3, 1) := by decide +kernel
theorem d_Wd_makeMerged_94 : decode (kB K_Wd_makeMerged) 94 = .ok (.ifCond .ne 8, 3) := by decide +kernel
theorem d_Wd_makeMerged_97 : decode (kB K_Wd_makeMerged) 97 = .ok (.iload 5, 2) := by decide +kernel
theorem d_Wd_makeMerged_99 : decode (kB K_Wd_makeMerged) 99 = .ok (.goto 21, 3) := by decide +kernel
theorem d_Wd_makeMerged_102 : decode (kB K_Wd_makeMerged) 102 = .ok (.iload_n 3, 1) := by decide +kernel
theorem d_Wd_makeMerged_103 : decode (kB K_Wd_makeMerged) 103 = .ok (.iconst 1, 1) := by decide +kernel
theorem d_Wd_makeMerged_104 : decode (kB K_Wd_makeMerged) 104 = .ok (.if_icmp .ne 8, 3) := by decide +kernel
theorem d_Wd_makeMerged_107 : decode (kB K_Wd_makeMerged) 107 = .ok (.iload 6, 2) := by decide +kernel
theorem d_Wd_makeMerged_109 : decode (kB K_Wd_makeMerged) 109 = .ok (.goto 11, 3) := by decide +kernel
theorem d_Wd_makeMerged_112 : decode (kB K_Wd_makeMerged) 112 = .ok (.iload 7, 2) := by decide +kernel
theorem d_Wd_makeMerged_114 : decode (kB K_Wd_makeMerged) 114 = .ok (.sipush 9999, 3) := by decide +kernel
theorem d_Wd_makeMerged_117 : decode (kB K_Wd_makeMerged) 117 = .ok (.invokestatic 197, 3) := by decide +kernel
theorem d_Wd_makeMerged_120 : decode (kB K_Wd_makeMerged) 120 = .ok (.istore 8, 2) := by decide +kernel
theorem d_Wd_makeMerged_122 : decode (kB K_Wd_makeMerged) 122 = .ok (.aload_n 0, 1) := by decide +kernel
theorem d_Wd_makeMerged_123 : decode (kB K_Wd_makeMerged) 123 = .ok (.iload_n 1, 1) := by decide +kernel
theorem d_Wd_makeMerged_124 : decode (kB K_Wd_makeMerged) 124 = .ok (.iload_n 2, 1) := by decide +kernel
theorem d_Wd_makeMerged_125 : decode (kB K_Wd_makeMerged) 125 = .ok (.iload 8, 2) := by decide +kernel
theorem d_Wd_makeMerged_127 : decode (kB K_Wd_makeMerged) 127 = .ok (.aload_n 0, 1) := by decide +kernel
theorem d_Wd_makeMerged_128 : decode (kB K_Wd_makeMerged) 128 = .ok (.aload 4, 2) := by decide +kernel
theorem d_Wd_makeMerged_130 : decode (kB K_Wd_makeMerged) 130 = .ok (.iload_n 2, 1) := by decide +kernel
theorem d_Wd_makeMerged_131 : decode (kB K_Wd_makeMerged) 131 = .ok (.invokevirtual 176, 3) := by decide +kernel
theorem d_Wd_makeMerged_134 : decode (kB K_Wd_makeMerged) 134 = .ok (.iconst 2, 1) := by decide +kernel
theorem d_Wd_makeMerged_135 : decode (kB K_Wd_makeMerged) 135 = .ok (.invokevirtual 185, 3) := by decide +kernel
theorem d_Wd_makeMerged_138 : decode (kB K_Wd_makeMerged) 138 = .ok (.ireturn, 1) := by decide +kernel
def K_Wd_make : KM := (⟨"ParishBoards$World", "make", "(IIIII)I"⟩, prog_13_method_26_code, 10, (some (.int)), "ParishBoards$World", ([], []))
theorem d_Wd_make_0 : decode (kB K_Wd_make) 0 = .ok (.aload_n 0, 1) := by decide +kernel
theorem d_Wd_make_1 : decode (kB K_Wd_make) 1 = .ok (.invokevirtual 205, 3) := by decide +kernel
theorem d_Wd_make_4 : decode (kB K_Wd_make) 4 = .ok (.ifCond .eq 5, 3) := by decide +kernel
theorem d_Wd_make_7 : decode (kB K_Wd_make) 7 = .ok (.iconst (-1), 1) := by decide +kernel
theorem d_Wd_make_8 : decode (kB K_Wd_make) 8 = .ok (.ireturn, 1) := by decide +kernel
theorem d_Wd_make_9 : decode (kB K_Wd_make) 9 = .ok (.aload_n 0, 1) := by decide +kernel
theorem d_Wd_make_10 : decode (kB K_Wd_make) 10 = .ok (.getfield 33, 3) := by decide +kernel
theorem d_Wd_make_13 : decode (kB K_Wd_make) 13 = .ok (.istore 6, 2) := by decide +kernel
theorem d_Wd_make_15 : decode (kB K_Wd_make) 15 = .ok (.aload_n 0, 1) := by decide +kernel
theorem d_Wd_make_16 : decode (kB K_Wd_make) 16 = .ok (.dup, 1) := by decide +kernel
theorem d_Wd_make_17 : decode (kB K_Wd_make) 17 = .ok (.getfield 33, 3) := by decide +kernel
theorem d_Wd_make_20 : decode (kB K_Wd_make) 20 = .ok (.iconst 1, 1) := by decide +kernel
theorem d_Wd_make_21 : decode (kB K_Wd_make) 21 = .ok (.iadd, 1) := by decide +kernel
theorem d_Wd_make_22 : decode (kB K_Wd_make) 22 = .ok (.putfield 33, 3) := by decide +kernel
theorem d_Wd_make_25 : decode (kB K_Wd_make) 25 = .ok (.aload_n 0, 1) := by decide +kernel
theorem d_Wd_make_26 : decode (kB K_Wd_make) 26 = .ok (.getfield 19, 3) := by decide +kernel
theorem d_Wd_make_29 : decode (kB K_Wd_make) 29 = .ok (.iload_n 1, 1) := by decide +kernel
theorem d_Wd_make_30 : decode (kB K_Wd_make) 30 = .ok (.aaload, 1) := by decide +kernel
theorem d_Wd_make_31 : decode (kB K_Wd_make) 31 = .ok (.astore 7, 2) := by decide +kernel
theorem d_Wd_make_33 : decode (kB K_Wd_make) 33 = .ok (.aload 7, 2) := by decide +kernel
theorem d_Wd_make_35 : decode (kB K_Wd_make) 35 = .ok (.getfield 100, 3) := by decide +kernel
theorem d_Wd_make_38 : decode (kB K_Wd_make) 38 = .ok (.iload_n 1, 1) := by decide +kernel
theorem d_Wd_make_39 : decode (kB K_Wd_make) 39 = .ok (.dup2, 1) := by decide +kernel
theorem d_Wd_make_40 : decode (kB K_Wd_make) 40 = .ok (.iaload, 1) := by decide +kernel
theorem d_Wd_make_41 : decode (kB K_Wd_make) 41 = .ok (.iconst 1, 1) := by decide +kernel
theorem d_Wd_make_42 : decode (kB K_Wd_make) 42 = .ok (.iadd, 1) := by decide +kernel
theorem d_Wd_make_43 : decode (kB K_Wd_make) 43 = .ok (.iastore, 1) := by decide +kernel
theorem d_Wd_make_44 : decode (kB K_Wd_make) 44 = .ok (.aload_n 0, 1) := by decide +kernel
theorem d_Wd_make_45 : decode (kB K_Wd_make) 45 = .ok (.getfield 11, 3) := by decide +kernel
theorem d_Wd_make_48 : decode (kB K_Wd_make) 48 = .ok (.iload 6, 2) := by decide +kernel
theorem d_Wd_make_50 : decode (kB K_Wd_make) 50 = .ok (.aaload, 1) := by decide +kernel
theorem d_Wd_make_51 : decode (kB K_Wd_make) 51 = .ok (.astore 8, 2) := by decide +kernel
theorem d_Wd_make_53 : decode (kB K_Wd_make) 53 = .ok (.aload 8, 2) := by decide +kernel
theorem d_Wd_make_55 : decode (kB K_Wd_make) 55 = .ok (.iload_n 1, 1) := by decide +kernel
theorem d_Wd_make_56 : decode (kB K_Wd_make) 56 = .ok (.putfield 107, 3) := by decide +kernel
theorem d_Wd_make_59 : decode (kB K_Wd_make) 59 = .ok (.aload 8, 2) := by decide +kernel
theorem d_Wd_make_61 : decode (kB K_Wd_make) 61 = .ok (.iload_n 2, 1) := by decide +kernel
theorem d_Wd_make_62 : decode (kB K_Wd_make) 62 = .ok (.putfield 110, 3) := by decide +kernel
theorem d_Wd_make_65 : decode (kB K_Wd_make) 65 = .ok (.aload 8, 2) := by decide +kernel
theorem d_Wd_make_67 : decode (kB K_Wd_make) 67 = .ok (.iload_n 3, 1) := by decide +kernel
theorem d_Wd_make_68 : decode (kB K_Wd_make) 68 = .ok (.putfield 113, 3) := by decide +kernel
theorem d_Wd_make_71 : decode (kB K_Wd_make) 71 = .ok (.aload 8, 2) := by decide +kernel
theorem d_Wd_make_73 : decode (kB K_Wd_make) 73 = .ok (.iload 4, 2) := by decide +kernel
theorem d_Wd_make_75 : decode (kB K_Wd_make) 75 = .ok (.putfield 116, 3) := by decide +kernel
theorem d_Wd_make_78 : decode (kB K_Wd_make) 78 = .ok (.aload 8, 2) := by decide +kernel
theorem d_Wd_make_80 : decode (kB K_Wd_make) 80 = .ok (.aload_n 0, 1) := by decide +kernel
theorem d_Wd_make_81 : decode (kB K_Wd_make) 81 = .ok (.getfield 29, 3) := by decide +kernel
theorem d_Wd_make_84 : decode (kB K_Wd_make) 84 = .ok (.putfield 119, 3) := by decide +kernel
theorem d_Wd_make_87 : decode (kB K_Wd_make) 87 = .ok (.aload 8, 2) := by decide +kernel
theorem d_Wd_make_89 : decode (kB K_Wd_make) 89 = .ok (.iload 5, 2) := by decide +kernel
theorem d_Wd_make_91 : decode (kB K_Wd_make) 91 = .ok (.putfield 120, 3) := by decide +kernel
theorem d_Wd_make_94 : decode (kB K_Wd_make) 94 = .ok (.aload 7, 2) := by decide +kernel
theorem d_Wd_make_96 : decode (kB K_Wd_make) 96 = .ok (.getfield 100, 3) := by decide +kernel
theorem d_Wd_make_99 : decode (kB K_Wd_make) 99 = .ok (.iconst 0, 1) := by decide +kernel
theorem d_Wd_make_100 : decode (kB K_Wd_make) 100 = .ok (.aload 8, 2) := by decide +kernel
theorem d_Wd_make_102 : decode (kB K_Wd_make) 102 = .ok (.getfield 209, 3) := by decide +kernel
theorem d_Wd_make_105 : decode (kB K_Wd_make) 105 = .ok (.iconst 0, 1) := by decide +kernel
theorem d_Wd_make_106 : decode (kB K_Wd_make) 106 = .ok (.iconst 5, 1) := by decide +kernel
theorem d_Wd_make_107 : decode (kB K_Wd_make) 107 = .ok (.invokestatic 212, 3) := by decide +kernel
theorem d_Wd_make_110 : decode (kB K_Wd_make) 110 = .ok (.iconst 0, 1) := by decide +kernel
theorem d_Wd_make_111 : decode (kB K_Wd_make) 111 = .ok (.istore 9, 2) := by decide +kernel
theorem d_Wd_make_113 : decode (kB K_Wd_make) 113 = .ok (.iload 9, 2) := by decide +kernel
theorem d_Wd_make_115 : decode (kB K_Wd_make) 115 = .ok (.aload_n 0, 1) := by decide +kernel
theorem d_Wd_make_116 : decode (kB K_Wd_make) 116 = .ok (.getfield 42, 3) := by decide +kernel
theorem d_Wd_make_119 : decode (kB K_Wd_make) 119 = .ok (.getfield 65, 3) := by decide +kernel
theorem d_Wd_make_122 : decode (kB K_Wd_make) 122 = .ok (.if_icmp .ge 29, 3) := by decide +kernel
theorem d_Wd_make_125 : decode (kB K_Wd_make) 125 = .ok (.aload 7, 2) := by decide +kernel
theorem d_Wd_make_127 : decode (kB K_Wd_make) 127 = .ok (.iload_n 2, 1) := by decide +kernel
theorem d_Wd_make_128 : decode (kB K_Wd_make) 128 = .ok (.iload 9, 2) := by decide +kernel
theorem d_Wd_make_130 : decode (kB K_Wd_make) 130 = .ok (.iload 9, 2) := by decide +kernel
theorem d_Wd_make_132 : decode (kB K_Wd_make) 132 = .ok (.iload_n 1, 1) := by decide +kernel
theorem d_Wd_make_133 : decode (kB K_Wd_make) 133 = .ok (.if_icmp .ne 8, 3) := by decide +kernel
theorem d_Wd_make_136 : decode (kB K_Wd_make) 136 = .ok (.iload 6, 2) := by decide +kernel
theorem d_Wd_make_138 : decode (kB K_Wd_make) 138 = .ok (.goto 4, 3) := by decide +kernel
theorem d_Wd_make_141 : decode (kB K_Wd_make) 141 = .ok (.iconst (-1), 1) := by decide +kernel
theorem d_Wd_make_142 : decode (kB K_Wd_make) 142 = .ok (.invokevirtual 218, 3) := by decide +kernel
theorem d_Wd_make_145 : decode (kB K_Wd_make) 145 = .ok (.iinc 9 1, 3) := by decide +kernel
theorem d_Wd_make_148 : decode (kB K_Wd_make) 148 = .ok (.goto (-35), 3) := by decide +kernel
theorem d_Wd_make_151 : decode (kB K_Wd_make) 151 = .ok (.iload 6, 2) := by decide +kernel
theorem d_Wd_make_153 : decode (kB K_Wd_make) 153 = .ok (.ireturn, 1) := by decide +kernel
def K_Wd_carry : KM := (⟨"ParishBoards$World", "carry", "(I)I"⟩, prog_13_method_27_code, 6, (some (.int)), "ParishBoards$World", ([], []))
theorem d_Wd_carry_0 : decode (kB K_Wd_carry) 0 = .ok (.aload_n 0, 1) := by decide +kernel
theorem d_Wd_carry_1 : decode (kB K_Wd_carry) 1 = .ok (.getfield 25, 3) := by decide +kernel
theorem d_Wd_carry_4 : decode (kB K_Wd_carry) 4 = .ok (.iload_n 1, 1) := by decide +kernel
theorem d_Wd_carry_5 : decode (kB K_Wd_carry) 5 = .ok (.aaload, 1) := by decide +kernel
theorem d_Wd_carry_6 : decode (kB K_Wd_carry) 6 = .ok (.astore_n 2, 1) := by decide +kernel
theorem d_Wd_carry_7 : decode (kB K_Wd_carry) 7 = .ok (.aload_n 0, 1) := by decide +kernel
theorem d_Wd_carry_8 : decode (kB K_Wd_carry) 8 = .ok (.getfield 19, 3) := by decide +kernel
theorem d_Wd_carry_11 : decode (kB K_Wd_carry) 11 = .ok (.aload_n 2, 1) := by decide +kernel
theorem d_Wd_carry_12 : decode (kB K_Wd_carry) 12 = .ok (.getfield 129, 3) := by decide +kernel
theorem d_Wd_carry_15 : decode (kB K_Wd_carry) 15 = .ok (.aaload, 1) := by decide +kernel
theorem d_Wd_carry_16 : decode (kB K_Wd_carry) 16 = .ok (.astore_n 3, 1) := by decide +kernel
theorem d_Wd_carry_17 : decode (kB K_Wd_carry) 17 = .ok (.iconst 0, 1) := by decide +kernel
theorem d_Wd_carry_18 : decode (kB K_Wd_carry) 18 = .ok (.istore 4, 2) := by decide +kernel
theorem d_Wd_carry_20 : decode (kB K_Wd_carry) 20 = .ok (.iconst 0, 1) := by decide +kernel
theorem d_Wd_carry_21 : decode (kB K_Wd_carry) 21 = .ok (.istore 5, 2) := by decide +kernel
theorem d_Wd_carry_23 : decode (kB K_Wd_carry) 23 = .ok (.iload 5, 2) := by decide +kernel
theorem d_Wd_carry_25 : decode (kB K_Wd_carry) 25 = .ok (.aload_n 0, 1) := by decide +kernel
theorem d_Wd_carry_26 : decode (kB K_Wd_carry) 26 = .ok (.getfield 33, 3) := by decide +kernel
theorem d_Wd_carry_29 : decode (kB K_Wd_carry) 29 = .ok (.if_icmp .ge 53, 3) := by decide +kernel
theorem d_Wd_carry_32 : decode (kB K_Wd_carry) 32 = .ok (.aload_n 2, 1) := by decide +kernel
theorem d_Wd_carry_33 : decode (kB K_Wd_carry) 33 = .ok (.getfield 157, 3) := by decide +kernel
theorem d_Wd_carry_36 : decode (kB K_Wd_carry) 36 = .ok (.iload 5, 2) := by decide +kernel
theorem d_Wd_carry_38 : decode (kB K_Wd_carry) 38 = .ok (.iaload, 1) := by decide +kernel
theorem d_Wd_carry_39 : decode (kB K_Wd_carry) 39 = .ok (.iconst (-1), 1) := by decide +kernel
theorem d_Wd_carry_40 : decode (kB K_Wd_carry) 40 = .ok (.if_icmp .ne 36, 3) := by decide +kernel
theorem d_Wd_carry_43 : decode (kB K_Wd_carry) 43 = .ok (.aload_n 3, 1) := by decide +kernel
theorem d_Wd_carry_44 : decode (kB K_Wd_carry) 44 = .ok (.aload_n 0, 1) := by decide +kernel
theorem d_Wd_carry_45 : decode (kB K_Wd_carry) 45 = .ok (.getfield 11, 3) := by decide +kernel
theorem d_Wd_carry_48 : decode (kB K_Wd_carry) 48 = .ok (.iload 5, 2) := by decide +kernel
theorem d_Wd_carry_50 : decode (kB K_Wd_carry) 50 = .ok (.aaload, 1) := by decide +kernel
theorem d_Wd_carry_51 : decode (kB K_Wd_carry) 51 = .ok (.invokevirtual 145, 3) := by decide +kernel
theorem d_Wd_carry_54 : decode (kB K_Wd_carry) 54 = .ok (.ifCond .eq 22, 3) := by decide +kernel
theorem d_Wd_carry_57 : decode (kB K_Wd_carry) 57 = .ok (.aload_n 2, 1) := by decide +kernel
theorem d_Wd_carry_58 : decode (kB K_Wd_carry) 58 = .ok (.getfield 157, 3) := by decide +kernel
theorem d_Wd_carry_61 : decode (kB K_Wd_carry) 61 = .ok (.iload 5, 2) := by decide +kernel
theorem d_Wd_carry_63 : decode (kB K_Wd_carry) 63 = .ok (.aload_n 0, 1) := by decide +kernel
theorem d_Wd_carry_64 : decode (kB K_Wd_carry) 64 = .ok (.getfield 29, 3) := by decide +kernel
theorem d_Wd_carry_67 : decode (kB K_Wd_carry) 67 = .ok (.aload_n 2, 1) := by decide +kernel
theorem d_Wd_carry_68 : decode (kB K_Wd_carry) 68 = .ok (.getfield 135, 3) := by decide +kernel
theorem d_Wd_carry_71 : decode (kB K_Wd_carry) 71 = .ok (.iadd, 1) := by decide +kernel
theorem d_Wd_carry_72 : decode (kB K_Wd_carry) 72 = .ok (.iastore, 1) := by decide +kernel
theorem d_Wd_carry_73 : decode (kB K_Wd_carry) 73 = .ok (.iinc 4 1, 3) := by decide +kernel
theorem d_Wd_carry_76 : decode (kB K_Wd_carry) 76 = .ok (.iinc 5 1, 3) := by decide +kernel
theorem d_Wd_carry_79 : decode (kB K_Wd_carry) 79 = .ok (.goto (-56), 3) := by decide +kernel
theorem d_Wd_carry_82 : decode (kB K_Wd_carry) 82 = .ok (.iload 4, 2) := by decide +kernel
theorem d_Wd_carry_84 : decode (kB K_Wd_carry) 84 = .ok (.ifCond .le 13, 3) := by decide +kernel
theorem d_Wd_carry_87 : decode (kB K_Wd_carry) 87 = .ok (.aload_n 2, 1) := by decide +kernel
theorem d_Wd_carry_88 : decode (kB K_Wd_carry) 88 = .ok (.dup, 1) := by decide +kernel
theorem d_Wd_carry_89 : decode (kB K_Wd_carry) 89 = .ok (.getfield 142, 3) := by decide +kernel
theorem d_Wd_carry_92 : decode (kB K_Wd_carry) 92 = .ok (.iconst 1, 1) := by decide +kernel
theorem d_Wd_carry_93 : decode (kB K_Wd_carry) 93 = .ok (.iadd, 1) := by decide +kernel
theorem d_Wd_carry_94 : decode (kB K_Wd_carry) 94 = .ok (.putfield 142, 3) := by decide +kernel
theorem d_Wd_carry_97 : decode (kB K_Wd_carry) 97 = .ok (.iload 4, 2) := by decide +kernel
theorem d_Wd_carry_99 : decode (kB K_Wd_carry) 99 = .ok (.ireturn, 1) := by decide +kernel
def K_Wd_passDays : KM := (⟨"ParishBoards$World", "passDays", "(I)V"⟩, prog_13_method_28_code, 4, none, "ParishBoards$World", ([], []))
theorem d_Wd_passDays_0 : decode (kB K_Wd_passDays) 0 = .ok (.iconst 0, 1) := by decide +kernel
theorem d_Wd_passDays_1 : decode (kB K_Wd_passDays) 1 = .ok (.istore_n 2, 1) := by decide +kernel
theorem d_Wd_passDays_2 : decode (kB K_Wd_passDays) 2 = .ok (.iload_n 2, 1) := by decide +kernel
theorem d_Wd_passDays_3 : decode (kB K_Wd_passDays) 3 = .ok (.iload_n 1, 1) := by decide +kernel
theorem d_Wd_passDays_4 : decode (kB K_Wd_passDays) 4 = .ok (.if_icmp .ge 126, 3) := by decide +kernel
theorem d_Wd_passDays_7 : decode (kB K_Wd_passDays) 7 = .ok (.iconst 0, 1) := by decide +kernel
theorem d_Wd_passDays_8 : decode (kB K_Wd_passDays) 8 = .ok (.istore_n 3, 1) := by decide +kernel
theorem d_Wd_passDays_9 : decode (kB K_Wd_passDays) 9 = .ok (.iload_n 3, 1) := by decide +kernel
theorem d_Wd_passDays_10 : decode (kB K_Wd_passDays) 10 = .ok (.aload_n 0, 1) := by decide +kernel
theorem d_Wd_passDays_11 : decode (kB K_Wd_passDays) 11 = .ok (.getfield 42, 3) := by decide +kernel
theorem d_Wd_passDays_14 : decode (kB K_Wd_passDays) 14 = .ok (.getfield 74, 3) := by decide +kernel
theorem d_Wd_passDays_17 : decode (kB K_Wd_passDays) 17 = .ok (.if_icmp .ge 39, 3) := by decide +kernel
theorem d_Wd_passDays_20 : decode (kB K_Wd_passDays) 20 = .ok (.aload_n 0, 1) := by decide +kernel
theorem d_Wd_passDays_21 : decode (kB K_Wd_passDays) 21 = .ok (.dup, 1) := by decide +kernel
theorem d_Wd_passDays_22 : decode (kB K_Wd_passDays) 22 = .ok (.getfield 39, 3) := by decide +kernel
theorem d_Wd_passDays_25 : decode (kB K_Wd_passDays) 25 = .ok (.aload_n 0, 1) := by decide +kernel
theorem d_Wd_passDays_26 : decode (kB K_Wd_passDays) 26 = .ok (.aload_n 0, 1) := by decide +kernel
theorem d_Wd_passDays_27 : decode (kB K_Wd_passDays) 27 = .ok (.getfield 42, 3) := by decide +kernel
theorem d_Wd_passDays_30 : decode (kB K_Wd_passDays) 30 = .ok (.getfield 222, 3) := by decide +kernel
theorem d_Wd_passDays_33 : decode (kB K_Wd_passDays) 33 = .ok (.iload_n 3, 1) := by decide +kernel
theorem d_Wd_passDays_34 : decode (kB K_Wd_passDays) 34 = .ok (.aaload, 1) := by decide +kernel
theorem d_Wd_passDays_35 : decode (kB K_Wd_passDays) 35 = .ok (.invokevirtual 226, 3) := by decide +kernel
theorem d_Wd_passDays_38 : decode (kB K_Wd_passDays) 38 = .ok (.ifCond .eq 7, 3) := by decide +kernel
theorem d_Wd_passDays_41 : decode (kB K_Wd_passDays) 41 = .ok (.iconst 1, 1) := by decide +kernel
theorem d_Wd_passDays_42 : decode (kB K_Wd_passDays) 42 = .ok (.goto 4, 3) := by decide +kernel
theorem d_Wd_passDays_45 : decode (kB K_Wd_passDays) 45 = .ok (.iconst 0, 1) := by decide +kernel
theorem d_Wd_passDays_46 : decode (kB K_Wd_passDays) 46 = .ok (.iadd, 1) := by decide +kernel
theorem d_Wd_passDays_47 : decode (kB K_Wd_passDays) 47 = .ok (.putfield 39, 3) := by decide +kernel
theorem d_Wd_passDays_50 : decode (kB K_Wd_passDays) 50 = .ok (.iinc 3 1, 3) := by decide +kernel
theorem d_Wd_passDays_53 : decode (kB K_Wd_passDays) 53 = .ok (.goto (-44), 3) := by decide +kernel
theorem d_Wd_passDays_56 : decode (kB K_Wd_passDays) 56 = .ok (.iconst 0, 1) := by decide +kernel
theorem d_Wd_passDays_57 : decode (kB K_Wd_passDays) 57 = .ok (.istore_n 3, 1) := by decide +kernel
theorem d_Wd_passDays_58 : decode (kB K_Wd_passDays) 58 = .ok (.iload_n 3, 1) := by decide +kernel
theorem d_Wd_passDays_59 : decode (kB K_Wd_passDays) 59 = .ok (.aload_n 0, 1) := by decide +kernel
theorem d_Wd_passDays_60 : decode (kB K_Wd_passDays) 60 = .ok (.getfield 42, 3) := by decide +kernel
theorem d_Wd_passDays_63 : decode (kB K_Wd_passDays) 63 = .ok (.getfield 52, 3) := by decide +kernel
theorem d_Wd_passDays_66 : decode (kB K_Wd_passDays) 66 = .ok (.if_icmp .ge 19, 3) := by decide +kernel
theorem d_Wd_passDays_69 : decode (kB K_Wd_passDays) 69 = .ok (.aload_n 0, 1) := by decide +kernel
theorem d_Wd_passDays_70 : decode (kB K_Wd_passDays) 70 = .ok (.aload_n 0, 1) := by decide +kernel
theorem d_Wd_passDays_71 : decode (kB K_Wd_passDays) 71 = .ok (.getfield 25, 3) := by decide +kernel
theorem d_Wd_passDays_74 : decode (kB K_Wd_passDays) 74 = .ok (.iload_n 3, 1) := by decide +kernel
theorem d_Wd_passDays_75 : decode (kB K_Wd_passDays) 75 = .ok (.aaload, 1) := by decide +kernel
theorem d_Wd_passDays_76 : decode (kB K_Wd_passDays) 76 = .ok (.invokevirtual 230, 3) := by decide +kernel
theorem d_Wd_passDays_79 : decode (kB K_Wd_passDays) 79 = .ok (.iinc 3 1, 3) := by decide +kernel
theorem d_Wd_passDays_82 : decode (kB K_Wd_passDays) 82 = .ok (.goto (-24), 3) := by decide +kernel
theorem d_Wd_passDays_85 : decode (kB K_Wd_passDays) 85 = .ok (.iconst 0, 1) := by decide +kernel
theorem d_Wd_passDays_86 : decode (kB K_Wd_passDays) 86 = .ok (.istore_n 3, 1) := by decide +kernel
theorem d_Wd_passDays_87 : decode (kB K_Wd_passDays) 87 = .ok (.iload_n 3, 1) := by decide +kernel
theorem d_Wd_passDays_88 : decode (kB K_Wd_passDays) 88 = .ok (.aload_n 0, 1) := by decide +kernel
theorem d_Wd_passDays_89 : decode (kB K_Wd_passDays) 89 = .ok (.getfield 42, 3) := by decide +kernel
theorem d_Wd_passDays_92 : decode (kB K_Wd_passDays) 92 = .ok (.getfield 65, 3) := by decide +kernel
theorem d_Wd_passDays_95 : decode (kB K_Wd_passDays) 95 = .ok (.if_icmp .ge 19, 3) := by decide +kernel
theorem d_Wd_passDays_98 : decode (kB K_Wd_passDays) 98 = .ok (.aload_n 0, 1) := by decide +kernel
theorem d_Wd_passDays_99 : decode (kB K_Wd_passDays) 99 = .ok (.aload_n 0, 1) := by decide +kernel
theorem d_Wd_passDays_100 : decode (kB K_Wd_passDays) 100 = .ok (.getfield 19, 3) := by decide +kernel
theorem d_Wd_passDays_103 : decode (kB K_Wd_passDays) 103 = .ok (.iload_n 3, 1) := by decide +kernel
theorem d_Wd_passDays_104 : decode (kB K_Wd_passDays) 104 = .ok (.aaload, 1) := by decide +kernel
theorem d_Wd_passDays_105 : decode (kB K_Wd_passDays) 105 = .ok (.invokevirtual 233, 3) := by decide +kernel
theorem d_Wd_passDays_108 : decode (kB K_Wd_passDays) 108 = .ok (.iinc 3 1, 3) := by decide +kernel
theorem d_Wd_passDays_111 : decode (kB K_Wd_passDays) 111 = .ok (.goto (-24), 3) := by decide +kernel
theorem d_Wd_passDays_114 : decode (kB K_Wd_passDays) 114 = .ok (.aload_n 0, 1) := by decide +kernel
theorem d_Wd_passDays_115 : decode (kB K_Wd_passDays) 115 = .ok (.dup, 1) := by decide +kernel
theorem d_Wd_passDays_116 : decode (kB K_Wd_passDays) 116 = .ok (.getfield 29, 3) := by decide +kernel
theorem d_Wd_passDays_119 : decode (kB K_Wd_passDays) 119 = .ok (.iconst 1, 1) := by decide +kernel
theorem d_Wd_passDays_120 : decode (kB K_Wd_passDays) 120 = .ok (.iadd, 1) := by decide +kernel
theorem d_Wd_passDays_121 : decode (kB K_Wd_passDays) 121 = .ok (.putfield 29, 3) := by decide +kernel
theorem d_Wd_passDays_124 : decode (kB K_Wd_passDays) 124 = .ok (.iinc 2 1, 3) := by decide +kernel
theorem d_Wd_passDays_127 : decode (kB K_Wd_passDays) 127 = .ok (.goto (-125), 3) := by decide +kernel
theorem d_Wd_passDays_130 : decode (kB K_Wd_passDays) 130 = .ok (.return_, 1) := by decide +kernel
def K_Wd_carriesOut : KM := (⟨"ParishBoards$World", "carriesOut", "(LParishBoards$Order;)Z"⟩, prog_13_method_29_code, 4, (some (.boolean)), "ParishBoards$World", ([], []))
theorem d_Wd_carriesOut_0 : decode (kB K_Wd_carriesOut) 0 = .ok (.aload_n 1, 1) := by decide +kernel
theorem d_Wd_carriesOut_1 : decode (kB K_Wd_carriesOut) 1 = .ok (.invokevirtual 236, 3) := by decide +kernel
theorem d_Wd_carriesOut_4 : decode (kB K_Wd_carriesOut) 4 = .ok (.ifCond .eq 27, 3) := by decide +kernel
theorem d_Wd_carriesOut_7 : decode (kB K_Wd_carriesOut) 7 = .ok (.aload_n 0, 1) := by decide +kernel
theorem d_Wd_carriesOut_8 : decode (kB K_Wd_carriesOut) 8 = .ok (.getfield 42, 3) := by decide +kernel
theorem d_Wd_carriesOut_11 : decode (kB K_Wd_carriesOut) 11 = .ok (.getfield 241, 3) := by decide +kernel
theorem d_Wd_carriesOut_14 : decode (kB K_Wd_carriesOut) 14 = .ok (.aload_n 1, 1) := by decide +kernel
theorem d_Wd_carriesOut_15 : decode (kB K_Wd_carriesOut) 15 = .ok (.getfield 245, 3) := by decide +kernel
theorem d_Wd_carriesOut_18 : decode (kB K_Wd_carriesOut) 18 = .ok (.aload_n 1, 1) := by decide +kernel
theorem d_Wd_carriesOut_19 : decode (kB K_Wd_carriesOut) 19 = .ok (.getfield 248, 3) := by decide +kernel
theorem d_Wd_carriesOut_22 : decode (kB K_Wd_carriesOut) 22 = .ok (.aload_n 0, 1) := by decide +kernel
theorem d_Wd_carriesOut_23 : decode (kB K_Wd_carriesOut) 23 = .ok (.invokevirtual 251, 3) := by decide +kernel
theorem d_Wd_carriesOut_26 : decode (kB K_Wd_carriesOut) 26 = .ok (.ifCond .ne 5, 3) := by decide +kernel
theorem d_Wd_carriesOut_29 : decode (kB K_Wd_carriesOut) 29 = .ok (.iconst 0, 1) := by decide +kernel
theorem d_Wd_carriesOut_30 : decode (kB K_Wd_carriesOut) 30 = .ok (.ireturn, 1) := by decide +kernel
theorem d_Wd_carriesOut_31 : decode (kB K_Wd_carriesOut) 31 = .ok (.aload_n 1, 1) := by decide +kernel
theorem d_Wd_carriesOut_32 : decode (kB K_Wd_carriesOut) 32 = .ok (.getfield 257, 3) := by decide +kernel
theorem d_Wd_carriesOut_35 : decode (kB K_Wd_carriesOut) 35 = .ok (.getstatic 260, 3) := by decide +kernel
theorem d_Wd_carriesOut_38 : decode (kB K_Wd_carriesOut) 38 = .ok (.if_acmp .ne 20, 3) := by decide +kernel
theorem d_Wd_carriesOut_41 : decode (kB K_Wd_carriesOut) 41 = .ok (.aload_n 0, 1) := by decide +kernel
theorem d_Wd_carriesOut_42 : decode (kB K_Wd_carriesOut) 42 = .ok (.aload_n 1, 1) := by decide +kernel
theorem d_Wd_carriesOut_43 : decode (kB K_Wd_carriesOut) 43 = .ok (.getfield 263, 3) := by decide +kernel
theorem d_Wd_carriesOut_46 : decode (kB K_Wd_carriesOut) 46 = .ok (.invokevirtual 266, 3) := by decide +kernel
theorem d_Wd_carriesOut_49 : decode (kB K_Wd_carriesOut) 49 = .ok (.ifCond .le 7, 3) := by decide +kernel
theorem d_Wd_carriesOut_52 : decode (kB K_Wd_carriesOut) 52 = .ok (.iconst 1, 1) := by decide +kernel
theorem d_Wd_carriesOut_53 : decode (kB K_Wd_carriesOut) 53 = .ok (.goto 4, 3) := by decide +kernel
theorem d_Wd_carriesOut_56 : decode (kB K_Wd_carriesOut) 56 = .ok (.iconst 0, 1) := by decide +kernel
theorem d_Wd_carriesOut_57 : decode (kB K_Wd_carriesOut) 57 = .ok (.ireturn, 1) := by decide +kernel
theorem d_Wd_carriesOut_58 : decode (kB K_Wd_carriesOut) 58 = .ok (.aload_n 0, 1) := by decide +kernel
theorem d_Wd_carriesOut_59 : decode (kB K_Wd_carriesOut) 59 = .ok (.invokevirtual 205, 3) := by decide +kernel
theorem d_Wd_carriesOut_62 : decode (kB K_Wd_carriesOut) 62 = .ok (.ifCond .eq 5, 3) := by decide +kernel
theorem d_Wd_carriesOut_65 : decode (kB K_Wd_carriesOut) 65 = .ok (.iconst 0, 1) := by decide +kernel
theorem d_Wd_carriesOut_66 : decode (kB K_Wd_carriesOut) 66 = .ok (.ireturn, 1) := by decide +kernel
theorem d_Wd_carriesOut_67 : decode (kB K_Wd_carriesOut) 67 = .ok (.aload_n 1, 1) := by decide +kernel
theorem d_Wd_carriesOut_68 : decode (kB K_Wd_carriesOut) 68 = .ok (.getfield 257, 3) := by decide +kernel
theorem d_Wd_carriesOut_71 : decode (kB K_Wd_carriesOut) 71 = .ok (.getstatic 269, 3) := by decide +kernel
theorem d_Wd_carriesOut_74 : decode (kB K_Wd_carriesOut) 74 = .ok (.if_acmp .ne 44, 3) := by decide +kernel
theorem d_Wd_carriesOut_77 : decode (kB K_Wd_carriesOut) 77 = .ok (.aload_n 0, 1) := by decide +kernel
theorem d_Wd_carriesOut_78 : decode (kB K_Wd_carriesOut) 78 = .ok (.aload_n 1, 1) := by decide +kernel
theorem d_Wd_carriesOut_79 : decode (kB K_Wd_carriesOut) 79 = .ok (.getfield 272, 3) := by decide +kernel
theorem d_Wd_carriesOut_82 : decode (kB K_Wd_carriesOut) 82 = .ok (.aload_n 1, 1) := by decide +kernel
theorem d_Wd_carriesOut_83 : decode (kB K_Wd_carriesOut) 83 = .ok (.getfield 273, 3) := by decide +kernel
theorem d_Wd_carriesOut_86 : decode (kB K_Wd_carriesOut) 86 = .ok (.invokevirtual 274, 3) := by decide +kernel
theorem d_Wd_carriesOut_89 : decode (kB K_Wd_carriesOut) 89 = .ok (.ifCond .eq 27, 3) := by decide +kernel
theorem d_Wd_carriesOut_92 : decode (kB K_Wd_carriesOut) 92 = .ok (.aload_n 0, 1) := by decide +kernel
theorem d_Wd_carriesOut_93 : decode (kB K_Wd_carriesOut) 93 = .ok (.aload_n 1, 1) := by decide +kernel
theorem d_Wd_carriesOut_94 : decode (kB K_Wd_carriesOut) 94 = .ok (.getfield 272, 3) := by decide +kernel
theorem d_Wd_carriesOut_97 : decode (kB K_Wd_carriesOut) 97 = .ok (.aload_n 1, 1) := by decide +kernel
theorem d_Wd_carriesOut_98 : decode (kB K_Wd_carriesOut) 98 = .ok (.getfield 273, 3) := by decide +kernel
theorem d_Wd_carriesOut_101 : decode (kB K_Wd_carriesOut) 101 = .ok (.aload_n 1, 1) := by decide +kernel
theorem d_Wd_carriesOut_102 : decode (kB K_Wd_carriesOut) 102 = .ok (.getfield 277, 3) := by decide +kernel
theorem d_Wd_carriesOut_105 : decode (kB K_Wd_carriesOut) 105 = .ok (.invokevirtual 280, 3) := by decide +kernel
theorem d_Wd_carriesOut_108 : decode (kB K_Wd_carriesOut) 108 = .ok (.iconst (-1), 1) := by decide +kernel
theorem d_Wd_carriesOut_109 : decode (kB K_Wd_carriesOut) 109 = .ok (.if_icmp .eq 7, 3) := by decide +kernel
theorem d_Wd_carriesOut_112 : decode (kB K_Wd_carriesOut) 112 = .ok (.iconst 1, 1) := by decide +kernel
theorem d_Wd_carriesOut_113 : decode (kB K_Wd_carriesOut) 113 = .ok (.goto 4, 3) := by decide +kernel
theorem d_Wd_carriesOut_116 : decode (kB K_Wd_carriesOut) 116 = .ok (.iconst 0, 1) := by decide +kernel
theorem d_Wd_carriesOut_117 : decode (kB K_Wd_carriesOut) 117 = .ok (.ireturn, 1) := by decide +kernel
theorem d_Wd_carriesOut_118 : decode (kB K_Wd_carriesOut) 118 = .ok (.aload_n 0, 1) := by decide +kernel
theorem d_Wd_carriesOut_119 : decode (kB K_Wd_carriesOut) 119 = .ok (.getfield 42, 3) := by decide +kernel
theorem d_Wd_carriesOut_122 : decode (kB K_Wd_carriesOut) 122 = .ok (.getfield 241, 3) := by decide +kernel
theorem d_Wd_carriesOut_125 : decode (kB K_Wd_carriesOut) 125 = .ok (.aload_n 1, 1) := by decide +kernel
theorem d_Wd_carriesOut_126 : decode (kB K_Wd_carriesOut) 126 = .ok (.getfield 284, 3) := by decide +kernel
theorem d_Wd_carriesOut_129 : decode (kB K_Wd_carriesOut) 129 = .ok (.aload_n 1, 1) := by decide +kernel
theorem d_Wd_carriesOut_130 : decode (kB K_Wd_carriesOut) 130 = .ok (.getfield 245, 3) := by decide +kernel
theorem d_Wd_carriesOut_133 : decode (kB K_Wd_carriesOut) 133 = .ok (.aload_n 0, 1) := by decide +kernel
theorem d_Wd_carriesOut_134 : decode (kB K_Wd_carriesOut) 134 = .ok (.invokevirtual 251, 3) := by decide +kernel
theorem d_Wd_carriesOut_137 : decode (kB K_Wd_carriesOut) 137 = .ok (.istore_n 2, 1) := by decide +kernel
theorem d_Wd_carriesOut_138 : decode (kB K_Wd_carriesOut) 138 = .ok (.aload_n 1, 1) := by decide +kernel
theorem d_Wd_carriesOut_139 : decode (kB K_Wd_carriesOut) 139 = .ok (.getfield 257, 3) := by decide +kernel
theorem d_Wd_carriesOut_142 : decode (kB K_Wd_carriesOut) 142 = .ok (.getstatic 287, 3) := by decide +kernel
theorem d_Wd_carriesOut_145 : decode (kB K_Wd_carriesOut) 145 = .ok (.if_acmp .ne 42, 3) := by decide +kernel
theorem d_Wd_carriesOut_148 : decode (kB K_Wd_carriesOut) 148 = .ok (.aload_n 0, 1) := by decide +kernel
theorem d_Wd_carriesOut_149 : decode (kB K_Wd_carriesOut) 149 = .ok (.aload_n 1, 1) := by decide +kernel
theorem d_Wd_carriesOut_150 : decode (kB K_Wd_carriesOut) 150 = .ok (.getfield 272, 3) := by decide +kernel
theorem d_Wd_carriesOut_153 : decode (kB K_Wd_carriesOut) 153 = .ok (.aload_n 1, 1) := by decide +kernel
theorem d_Wd_carriesOut_154 : decode (kB K_Wd_carriesOut) 154 = .ok (.getfield 273, 3) := by decide +kernel
theorem d_Wd_carriesOut_157 : decode (kB K_Wd_carriesOut) 157 = .ok (.iload_n 2, 1) := by decide +kernel
theorem d_Wd_carriesOut_158 : decode (kB K_Wd_carriesOut) 158 = .ok (.invokevirtual 290, 3) := by decide +kernel
theorem d_Wd_carriesOut_161 : decode (kB K_Wd_carriesOut) 161 = .ok (.ifCond .eq 24, 3) := by decide +kernel
theorem d_Wd_carriesOut_164 : decode (kB K_Wd_carriesOut) 164 = .ok (.aload_n 0, 1) := by decide +kernel
theorem d_Wd_carriesOut_165 : decode (kB K_Wd_carriesOut) 165 = .ok (.aload_n 1, 1) := by decide +kernel
theorem d_Wd_carriesOut_166 : decode (kB K_Wd_carriesOut) 166 = .ok (.getfield 272, 3) := by decide +kernel
theorem d_Wd_carriesOut_169 : decode (kB K_Wd_carriesOut) 169 = .ok (.aload_n 1, 1) := by decide +kernel
theorem d_Wd_carriesOut_170 : decode (kB K_Wd_carriesOut) 170 = .ok (.getfield 273, 3) := by decide +kernel
theorem d_Wd_carriesOut_173 : decode (kB K_Wd_carriesOut) 173 = .ok (.iload_n 2, 1) := by decide +kernel
theorem d_Wd_carriesOut_174 : decode (kB K_Wd_carriesOut) 174 = .ok (.invokevirtual 294, 3) := by decide +kernel
theorem d_Wd_carriesOut_177 : decode (kB K_Wd_carriesOut) 177 = .ok (.iconst (-1), 1) := by decide +kernel
theorem d_Wd_carriesOut_178 : decode (kB K_Wd_carriesOut) 178 = .ok (.if_icmp .eq 7, 3) := by decide +kernel
theorem d_Wd_carriesOut_181 : decode (kB K_Wd_carriesOut) 181 = .ok (.iconst 1, 1) := by decide +kernel
theorem d_Wd_carriesOut_182 : decode (kB K_Wd_carriesOut) 182 = .ok (.goto 4, 3) := by decide +kernel
theorem d_Wd_carriesOut_185 : decode (kB K_Wd_carriesOut) 185 = .ok (.iconst 0, 1) := by decide +kernel
theorem d_Wd_carriesOut_186 : decode (kB K_Wd_carriesOut) 186 = .ok (.ireturn, 1) := by decide +kernel
theorem d_Wd_carriesOut_187 : decode (kB K_Wd_carriesOut) 187 = .ok (.iconst 0, 1) := by decide +kernel
theorem d_Wd_carriesOut_188 : decode (kB K_Wd_carriesOut) 188 = .ok (.iload_n 2, 1) := by decide +kernel
theorem d_Wd_carriesOut_189 : decode (kB K_Wd_carriesOut) 189 = .ok (.sipush 9999, 3) := by decide +kernel
theorem d_Wd_carriesOut_192 : decode (kB K_Wd_carriesOut) 192 = .ok (.invokestatic 197, 3) := by decide +kernel
theorem d_Wd_carriesOut_195 : decode (kB K_Wd_carriesOut) 195 = .ok (.invokestatic 202, 3) := by decide +kernel
theorem d_Wd_carriesOut_198 : decode (kB K_Wd_carriesOut) 198 = .ok (.istore_n 3, 1) := by decide +kernel
theorem d_Wd_carriesOut_199 : decode (kB K_Wd_carriesOut) 199 = .ok (.aload_n 0, 1) := by decide +kernel
theorem d_Wd_carriesOut_200 : decode (kB K_Wd_carriesOut) 200 = .ok (.aload_n 1, 1) := by decide +kernel
theorem d_Wd_carriesOut_201 : decode (kB K_Wd_carriesOut) 201 = .ok (.getfield 272, 3) := by decide +kernel
theorem d_Wd_carriesOut_204 : decode (kB K_Wd_carriesOut) 204 = .ok (.aload_n 1, 1) := by decide +kernel
theorem d_Wd_carriesOut_205 : decode (kB K_Wd_carriesOut) 205 = .ok (.getfield 273, 3) := by decide +kernel
theorem d_Wd_carriesOut_208 : decode (kB K_Wd_carriesOut) 208 = .ok (.iload_n 3, 1) := by decide +kernel
theorem d_Wd_carriesOut_209 : decode (kB K_Wd_carriesOut) 209 = .ok (.invokevirtual 297, 3) := by decide +kernel
theorem d_Wd_carriesOut_212 : decode (kB K_Wd_carriesOut) 212 = .ok (.iconst (-1), 1) := by decide +kernel
theorem d_Wd_carriesOut_213 : decode (kB K_Wd_carriesOut) 213 = .ok (.if_icmp .eq 7, 3) := by decide +kernel
theorem d_Wd_carriesOut_216 : decode (kB K_Wd_carriesOut) 216 = .ok (.iconst 1, 1) := by decide +kernel
theorem d_Wd_carriesOut_217 : decode (kB K_Wd_carriesOut) 217 = .ok (.goto 4, 3) := by decide +kernel
theorem d_Wd_carriesOut_220 : decode (kB K_Wd_carriesOut) 220 = .ok (.iconst 0, 1) := by decide +kernel
theorem d_Wd_carriesOut_221 : decode (kB K_Wd_carriesOut) 221 = .ok (.ireturn, 1) := by decide +kernel
def K_Wd_isNewMark : KM := (⟨"ParishBoards$World", "isNewMark", "(III)Z"⟩, prog_13_method_30_code, 4, (some (.boolean)), "ParishBoards$World", ([], []))
theorem d_Wd_isNewMark_0 : decode (kB K_Wd_isNewMark) 0 = .ok (.iload_n 3, 1) := by decide +kernel
theorem d_Wd_isNewMark_1 : decode (kB K_Wd_isNewMark) 1 = .ok (.invokestatic 300, 3) := by decide +kernel
theorem d_Wd_isNewMark_4 : decode (kB K_Wd_isNewMark) 4 = .ok (.ifCond .eq 34, 3) := by decide +kernel
theorem d_Wd_isNewMark_7 : decode (kB K_Wd_isNewMark) 7 = .ok (.aload_n 0, 1) := by decide +kernel
theorem d_Wd_isNewMark_8 : decode (kB K_Wd_isNewMark) 8 = .ok (.iload_n 1, 1) := by decide +kernel
theorem d_Wd_isNewMark_9 : decode (kB K_Wd_isNewMark) 9 = .ok (.iload_n 2, 1) := by decide +kernel
theorem d_Wd_isNewMark_10 : decode (kB K_Wd_isNewMark) 10 = .ok (.invokevirtual 304, 3) := by decide +kernel
theorem d_Wd_isNewMark_13 : decode (kB K_Wd_isNewMark) 13 = .ok (.ifCond .eq 25, 3) := by decide +kernel
theorem d_Wd_isNewMark_16 : decode (kB K_Wd_isNewMark) 16 = .ok (.aload_n 0, 1) := by decide +kernel
theorem d_Wd_isNewMark_17 : decode (kB K_Wd_isNewMark) 17 = .ok (.aload_n 0, 1) := by decide +kernel
theorem d_Wd_isNewMark_18 : decode (kB K_Wd_isNewMark) 18 = .ok (.getfield 19, 3) := by decide +kernel
theorem d_Wd_isNewMark_21 : decode (kB K_Wd_isNewMark) 21 = .ok (.iload_n 1, 1) := by decide +kernel
theorem d_Wd_isNewMark_22 : decode (kB K_Wd_isNewMark) 22 = .ok (.aaload, 1) := by decide +kernel
theorem d_Wd_isNewMark_23 : decode (kB K_Wd_isNewMark) 23 = .ok (.iload_n 2, 1) := by decide +kernel
theorem d_Wd_isNewMark_24 : decode (kB K_Wd_isNewMark) 24 = .ok (.invokevirtual 176, 3) := by decide +kernel
theorem d_Wd_isNewMark_27 : decode (kB K_Wd_isNewMark) 27 = .ok (.iload_n 3, 1) := by decide +kernel
theorem d_Wd_isNewMark_28 : decode (kB K_Wd_isNewMark) 28 = .ok (.ishr, 1) := by decide +kernel
theorem d_Wd_isNewMark_29 : decode (kB K_Wd_isNewMark) 29 = .ok (.iconst 1, 1) := by decide +kernel
theorem d_Wd_isNewMark_30 : decode (kB K_Wd_isNewMark) 30 = .ok (.iand, 1) := by decide +kernel
theorem d_Wd_isNewMark_31 : decode (kB K_Wd_isNewMark) 31 = .ok (.ifCond .ne 7, 3) := by decide +kernel
theorem d_Wd_isNewMark_34 : decode (kB K_Wd_isNewMark) 34 = .ok (.iconst 1, 1) := by decide +kernel
theorem d_Wd_isNewMark_35 : decode (kB K_Wd_isNewMark) 35 = .ok (.goto 4, 3) := by decide +kernel
theorem d_Wd_isNewMark_38 : decode (kB K_Wd_isNewMark) 38 = .ok (.iconst 0, 1) := by decide +kernel
theorem d_Wd_isNewMark_39 : decode (kB K_Wd_isNewMark) 39 = .ok (.ireturn, 1) := by decide +kernel
def K_Wd_bringFrom : KM := (⟨"ParishBoards$World", "bringFrom", "(LParishBoards$Road;)V"⟩, prog_13_method_31_code, 4, none, "ParishBoards$World", ([], []))
theorem d_Wd_bringFrom_0 : decode (kB K_Wd_bringFrom) 0 = .ok (.aload_n 0, 1) := by decide +kernel
theorem d_Wd_bringFrom_1 : decode (kB K_Wd_bringFrom) 1 = .ok (.getfield 19, 3) := by decide +kernel
theorem d_Wd_bringFrom_4 : decode (kB K_Wd_bringFrom) 4 = .ok (.aload_n 1, 1) := by decide +kernel
theorem d_Wd_bringFrom_5 : decode (kB K_Wd_bringFrom) 5 = .ok (.getfield 132, 3) := by decide +kernel
theorem d_Wd_bringFrom_8 : decode (kB K_Wd_bringFrom) 8 = .ok (.aaload, 1) := by decide +kernel
theorem d_Wd_bringFrom_9 : decode (kB K_Wd_bringFrom) 9 = .ok (.astore_n 2, 1) := by decide +kernel
theorem d_Wd_bringFrom_10 : decode (kB K_Wd_bringFrom) 10 = .ok (.iconst 0, 1) := by decide +kernel
theorem d_Wd_bringFrom_11 : decode (kB K_Wd_bringFrom) 11 = .ok (.istore_n 3, 1) := by decide +kernel
theorem d_Wd_bringFrom_12 : decode (kB K_Wd_bringFrom) 12 = .ok (.iload_n 3, 1) := by decide +kernel
theorem d_Wd_bringFrom_13 : decode (kB K_Wd_bringFrom) 13 = .ok (.aload_n 0, 1) := by decide +kernel
theorem d_Wd_bringFrom_14 : decode (kB K_Wd_bringFrom) 14 = .ok (.getfield 33, 3) := by decide +kernel
theorem d_Wd_bringFrom_17 : decode (kB K_Wd_bringFrom) 17 = .ok (.if_icmp .ge 40, 3) := by decide +kernel
theorem d_Wd_bringFrom_20 : decode (kB K_Wd_bringFrom) 20 = .ok (.aload_n 1, 1) := by decide +kernel
theorem d_Wd_bringFrom_21 : decode (kB K_Wd_bringFrom) 21 = .ok (.getfield 157, 3) := by decide +kernel
theorem d_Wd_bringFrom_24 : decode (kB K_Wd_bringFrom) 24 = .ok (.iload_n 3, 1) := by decide +kernel
theorem d_Wd_bringFrom_25 : decode (kB K_Wd_bringFrom) 25 = .ok (.iaload, 1) := by decide +kernel
theorem d_Wd_bringFrom_26 : decode (kB K_Wd_bringFrom) 26 = .ok (.aload_n 0, 1) := by decide +kernel
theorem d_Wd_bringFrom_27 : decode (kB K_Wd_bringFrom) 27 = .ok (.getfield 29, 3) := by decide +kernel
theorem d_Wd_bringFrom_30 : decode (kB K_Wd_bringFrom) 30 = .ok (.if_icmp .ne 21, 3) := by decide +kernel
theorem d_Wd_bringFrom_33 : decode (kB K_Wd_bringFrom) 33 = .ok (.aload_n 2, 1) := by decide +kernel
theorem d_Wd_bringFrom_34 : decode (kB K_Wd_bringFrom) 34 = .ok (.aload_n 0, 1) := by decide +kernel
theorem d_Wd_bringFrom_35 : decode (kB K_Wd_bringFrom) 35 = .ok (.getfield 11, 3) := by decide +kernel
theorem d_Wd_bringFrom_38 : decode (kB K_Wd_bringFrom) 38 = .ok (.iload_n 3, 1) := by decide +kernel
theorem d_Wd_bringFrom_39 : decode (kB K_Wd_bringFrom) 39 = .ok (.aaload, 1) := by decide +kernel
theorem d_Wd_bringFrom_40 : decode (kB K_Wd_bringFrom) 40 = .ok (.invokevirtual 145, 3) := by decide +kernel
theorem d_Wd_bringFrom_43 : decode (kB K_Wd_bringFrom) 43 = .ok (.ifCond .ne 8, 3) := by decide +kernel
theorem d_Wd_bringFrom_46 : decode (kB K_Wd_bringFrom) 46 = .ok (.aload_n 2, 1) := by decide +kernel
theorem d_Wd_bringFrom_47 : decode (kB K_Wd_bringFrom) 47 = .ok (.iload_n 3, 1) := by decide +kernel
theorem d_Wd_bringFrom_48 : decode (kB K_Wd_bringFrom) 48 = .ok (.invokevirtual 307, 3) := by decide +kernel
theorem d_Wd_bringFrom_51 : decode (kB K_Wd_bringFrom) 51 = .ok (.iinc 3 1, 3) := by decide +kernel
theorem d_Wd_bringFrom_54 : decode (kB K_Wd_bringFrom) 54 = .ok (.goto (-42), 3) := by decide +kernel
theorem d_Wd_bringFrom_57 : decode (kB K_Wd_bringFrom) 57 = .ok (.return_, 1) := by decide +kernel
def K_Wd_hangOn : KM := (⟨"ParishBoards$World", "hangOn", "(LParishBoards$Board;)V"⟩, prog_13_method_32_code, 3, none, "ParishBoards$World", ([], []))
theorem d_Wd_hangOn_0 : decode (kB K_Wd_hangOn) 0 = .ok (.iconst 0, 1) := by decide +kernel
theorem d_Wd_hangOn_1 : decode (kB K_Wd_hangOn) 1 = .ok (.istore_n 2, 1) := by decide +kernel
theorem d_Wd_hangOn_2 : decode (kB K_Wd_hangOn) 2 = .ok (.iload_n 2, 1) := by decide +kernel
theorem d_Wd_hangOn_3 : decode (kB K_Wd_hangOn) 3 = .ok (.aload_n 0, 1) := by decide +kernel
theorem d_Wd_hangOn_4 : decode (kB K_Wd_hangOn) 4 = .ok (.getfield 33, 3) := by decide +kernel
theorem d_Wd_hangOn_7 : decode (kB K_Wd_hangOn) 7 = .ok (.if_icmp .ge 44, 3) := by decide +kernel
theorem d_Wd_hangOn_10 : decode (kB K_Wd_hangOn) 10 = .ok (.aload_n 1, 1) := by decide +kernel
theorem d_Wd_hangOn_11 : decode (kB K_Wd_hangOn) 11 = .ok (.getfield 93, 3) := by decide +kernel
theorem d_Wd_hangOn_14 : decode (kB K_Wd_hangOn) 14 = .ok (.ifCond .le 37, 3) := by decide +kernel
theorem d_Wd_hangOn_17 : decode (kB K_Wd_hangOn) 17 = .ok (.aload_n 1, 1) := by decide +kernel
theorem d_Wd_hangOn_18 : decode (kB K_Wd_hangOn) 18 = .ok (.getfield 311, 3) := by decide +kernel
theorem d_Wd_hangOn_21 : decode (kB K_Wd_hangOn) 21 = .ok (.iload_n 2, 1) := by decide +kernel
theorem d_Wd_hangOn_22 : decode (kB K_Wd_hangOn) 22 = .ok (.baload, 1) := by decide +kernel
theorem d_Wd_hangOn_23 : decode (kB K_Wd_hangOn) 23 = .ok (.ifCond .eq 22, 3) := by decide +kernel
theorem d_Wd_hangOn_26 : decode (kB K_Wd_hangOn) 26 = .ok (.aload_n 1, 1) := by decide +kernel
theorem d_Wd_hangOn_27 : decode (kB K_Wd_hangOn) 27 = .ok (.aload_n 0, 1) := by decide +kernel
theorem d_Wd_hangOn_28 : decode (kB K_Wd_hangOn) 28 = .ok (.getfield 11, 3) := by decide +kernel
theorem d_Wd_hangOn_31 : decode (kB K_Wd_hangOn) 31 = .ok (.iload_n 2, 1) := by decide +kernel
theorem d_Wd_hangOn_32 : decode (kB K_Wd_hangOn) 32 = .ok (.aaload, 1) := by decide +kernel
theorem d_Wd_hangOn_33 : decode (kB K_Wd_hangOn) 33 = .ok (.invokevirtual 315, 3) := by decide +kernel
theorem d_Wd_hangOn_36 : decode (kB K_Wd_hangOn) 36 = .ok (.ifCond .eq 9, 3) := by decide +kernel
theorem d_Wd_hangOn_39 : decode (kB K_Wd_hangOn) 39 = .ok (.aload_n 0, 1) := by decide +kernel
theorem d_Wd_hangOn_40 : decode (kB K_Wd_hangOn) 40 = .ok (.aload_n 1, 1) := by decide +kernel
theorem d_Wd_hangOn_41 : decode (kB K_Wd_hangOn) 41 = .ok (.iload_n 2, 1) := by decide +kernel
theorem d_Wd_hangOn_42 : decode (kB K_Wd_hangOn) 42 = .ok (.invokevirtual 318, 3) := by decide +kernel
theorem d_Wd_hangOn_45 : decode (kB K_Wd_hangOn) 45 = .ok (.iinc 2 1, 3) := by decide +kernel
theorem d_Wd_hangOn_48 : decode (kB K_Wd_hangOn) 48 = .ok (.goto (-46), 3) := by decide +kernel
theorem d_Wd_hangOn_51 : decode (kB K_Wd_hangOn) 51 = .ok (.return_, 1) := by decide +kernel
def K_Wd_hang : KM := (⟨"ParishBoards$World", "hang", "(LParishBoards$Board;I)V"⟩, prog_13_method_33_code, 6, none, "ParishBoards$World", ([], []))
theorem d_Wd_hang_0 : decode (kB K_Wd_hang) 0 = .ok (.aload_n 0, 1) := by decide +kernel
theorem d_Wd_hang_1 : decode (kB K_Wd_hang) 1 = .ok (.getfield 11, 3) := by decide +kernel
theorem d_Wd_hang_4 : decode (kB K_Wd_hang) 4 = .ok (.iload_n 2, 1) := by decide +kernel
theorem d_Wd_hang_5 : decode (kB K_Wd_hang) 5 = .ok (.aaload, 1) := by decide +kernel
theorem d_Wd_hang_6 : decode (kB K_Wd_hang) 6 = .ok (.astore_n 3, 1) := by decide +kernel
theorem d_Wd_hang_7 : decode (kB K_Wd_hang) 7 = .ok (.aload_n 1, 1) := by decide +kernel
theorem d_Wd_hang_8 : decode (kB K_Wd_hang) 8 = .ok (.iload_n 2, 1) := by decide +kernel
theorem d_Wd_hang_9 : decode (kB K_Wd_hang) 9 = .ok (.invokevirtual 322, 3) := by decide +kernel
theorem d_Wd_hang_12 : decode (kB K_Wd_hang) 12 = .ok (.aload_n 1, 1) := by decide +kernel
theorem d_Wd_hang_13 : decode (kB K_Wd_hang) 13 = .ok (.getfield 100, 3) := by decide +kernel
theorem d_Wd_hang_16 : decode (kB K_Wd_hang) 16 = .ok (.aload_n 3, 1) := by decide +kernel
theorem d_Wd_hang_17 : decode (kB K_Wd_hang) 17 = .ok (.getfield 107, 3) := by decide +kernel
theorem d_Wd_hang_20 : decode (kB K_Wd_hang) 20 = .ok (.dup2, 1) := by decide +kernel
theorem d_Wd_hang_21 : decode (kB K_Wd_hang) 21 = .ok (.iaload, 1) := by decide +kernel
theorem d_Wd_hang_22 : decode (kB K_Wd_hang) 22 = .ok (.iconst 1, 1) := by decide +kernel
theorem d_Wd_hang_23 : decode (kB K_Wd_hang) 23 = .ok (.iadd, 1) := by decide +kernel
theorem d_Wd_hang_24 : decode (kB K_Wd_hang) 24 = .ok (.iastore, 1) := by decide +kernel
theorem d_Wd_hang_25 : decode (kB K_Wd_hang) 25 = .ok (.iconst 0, 1) := by decide +kernel
theorem d_Wd_hang_26 : decode (kB K_Wd_hang) 26 = .ok (.istore 4, 2) := by decide +kernel
theorem d_Wd_hang_28 : decode (kB K_Wd_hang) 28 = .ok (.iload 4, 2) := by decide +kernel
theorem d_Wd_hang_30 : decode (kB K_Wd_hang) 30 = .ok (.aload_n 0, 1) := by decide +kernel
theorem d_Wd_hang_31 : decode (kB K_Wd_hang) 31 = .ok (.getfield 42, 3) := by decide +kernel
theorem d_Wd_hang_34 : decode (kB K_Wd_hang) 34 = .ok (.getfield 65, 3) := by decide +kernel
theorem d_Wd_hang_37 : decode (kB K_Wd_hang) 37 = .ok (.if_icmp .ge 52, 3) := by decide +kernel
theorem d_Wd_hang_40 : decode (kB K_Wd_hang) 40 = .ok (.aload_n 1, 1) := by decide +kernel
theorem d_Wd_hang_41 : decode (kB K_Wd_hang) 41 = .ok (.aload_n 3, 1) := by decide +kernel
theorem d_Wd_hang_42 : decode (kB K_Wd_hang) 42 = .ok (.getfield 110, 3) := by decide +kernel
theorem d_Wd_hang_45 : decode (kB K_Wd_hang) 45 = .ok (.iload 4, 2) := by decide +kernel
theorem d_Wd_hang_47 : decode (kB K_Wd_hang) 47 = .ok (.invokevirtual 153, 3) := by decide +kernel
theorem d_Wd_hang_50 : decode (kB K_Wd_hang) 50 = .ok (.istore 5, 2) := by decide +kernel
theorem d_Wd_hang_52 : decode (kB K_Wd_hang) 52 = .ok (.iload 5, 2) := by decide +kernel
theorem d_Wd_hang_54 : decode (kB K_Wd_hang) 54 = .ok (.iconst (-1), 1) := by decide +kernel
theorem d_Wd_hang_55 : decode (kB K_Wd_hang) 55 = .ok (.if_icmp .eq 28, 3) := by decide +kernel
theorem d_Wd_hang_58 : decode (kB K_Wd_hang) 58 = .ok (.aload_n 0, 1) := by decide +kernel
theorem d_Wd_hang_59 : decode (kB K_Wd_hang) 59 = .ok (.getfield 11, 3) := by decide +kernel
theorem d_Wd_hang_62 : decode (kB K_Wd_hang) 62 = .ok (.iload 5, 2) := by decide +kernel
theorem d_Wd_hang_64 : decode (kB K_Wd_hang) 64 = .ok (.aaload, 1) := by decide +kernel
theorem d_Wd_hang_65 : decode (kB K_Wd_hang) 65 = .ok (.aload_n 3, 1) := by decide +kernel
theorem d_Wd_hang_66 : decode (kB K_Wd_hang) 66 = .ok (.invokevirtual 325, 3) := by decide +kernel
theorem d_Wd_hang_69 : decode (kB K_Wd_hang) 69 = .ok (.ifCond .eq 14, 3) := by decide +kernel
theorem d_Wd_hang_72 : decode (kB K_Wd_hang) 72 = .ok (.aload_n 1, 1) := by decide +kernel
theorem d_Wd_hang_73 : decode (kB K_Wd_hang) 73 = .ok (.aload_n 3, 1) := by decide +kernel
theorem d_Wd_hang_74 : decode (kB K_Wd_hang) 74 = .ok (.getfield 110, 3) := by decide +kernel
theorem d_Wd_hang_77 : decode (kB K_Wd_hang) 77 = .ok (.iload 4, 2) := by decide +kernel
theorem d_Wd_hang_79 : decode (kB K_Wd_hang) 79 = .ok (.iconst (-1), 1) := by decide +kernel
theorem d_Wd_hang_80 : decode (kB K_Wd_hang) 80 = .ok (.invokevirtual 218, 3) := by decide +kernel
theorem d_Wd_hang_83 : decode (kB K_Wd_hang) 83 = .ok (.iinc 4 1, 3) := by decide +kernel
theorem d_Wd_hang_86 : decode (kB K_Wd_hang) 86 = .ok (.goto (-58), 3) := by decide +kernel
theorem d_Wd_hang_89 : decode (kB K_Wd_hang) 89 = .ok (.aload_n 1, 1) := by decide +kernel
theorem d_Wd_hang_90 : decode (kB K_Wd_hang) 90 = .ok (.aload_n 3, 1) := by decide +kernel
theorem d_Wd_hang_91 : decode (kB K_Wd_hang) 91 = .ok (.getfield 110, 3) := by decide +kernel
theorem d_Wd_hang_94 : decode (kB K_Wd_hang) 94 = .ok (.aload_n 3, 1) := by decide +kernel
theorem d_Wd_hang_95 : decode (kB K_Wd_hang) 95 = .ok (.getfield 107, 3) := by decide +kernel
theorem d_Wd_hang_98 : decode (kB K_Wd_hang) 98 = .ok (.iload_n 2, 1) := by decide +kernel
theorem d_Wd_hang_99 : decode (kB K_Wd_hang) 99 = .ok (.invokevirtual 218, 3) := by decide +kernel
theorem d_Wd_hang_102 : decode (kB K_Wd_hang) 102 = .ok (.aload_n 0, 1) := by decide +kernel
theorem d_Wd_hang_103 : decode (kB K_Wd_hang) 103 = .ok (.dup, 1) := by decide +kernel
theorem d_Wd_hang_104 : decode (kB K_Wd_hang) 104 = .ok (.getfield 36, 3) := by decide +kernel
theorem d_Wd_hang_107 : decode (kB K_Wd_hang) 107 = .ok (.iconst 1, 1) := by decide +kernel
theorem d_Wd_hang_108 : decode (kB K_Wd_hang) 108 = .ok (.iadd, 1) := by decide +kernel
theorem d_Wd_hang_109 : decode (kB K_Wd_hang) 109 = .ok (.putfield 36, 3) := by decide +kernel
theorem d_Wd_hang_112 : decode (kB K_Wd_hang) 112 = .ok (.return_, 1) := by decide +kernel
def K_PB_init : KM := (⟨"ParishBoards", "<init>", "()V"⟩, prog_1_method_1_code, 1, none, "ParishBoards", ([], []))
theorem d_PB_init_0 : decode (kB K_PB_init) 0 = .ok (.aload_n 0, 1) := by decide +kernel
theorem d_PB_init_1 : decode (kB K_PB_init) 1 = .ok (.invokespecial 1, 3) := by decide +kernel
theorem d_PB_init_4 : decode (kB K_PB_init) 4 = .ok (.aload_n 0, 1) := by decide +kernel
theorem d_PB_init_5 : decode (kB K_PB_init) 5 = .ok (.sipush 2000, 3) := by decide +kernel
theorem d_PB_init_8 : decode (kB K_PB_init) 8 = .ok (.newarray .byte, 2) := by decide +kernel
theorem d_PB_init_10 : decode (kB K_PB_init) 10 = .ok (.putfield 9, 3) := by decide +kernel
theorem d_PB_init_13 : decode (kB K_PB_init) 13 = .ok (.aload_n 0, 1) := by decide +kernel
theorem d_PB_init_14 : decode (kB K_PB_init) 14 = .ok (.iconst 0, 1) := by decide +kernel
theorem d_PB_init_15 : decode (kB K_PB_init) 15 = .ok (.putfield 13, 3) := by decide +kernel
theorem d_PB_init_18 : decode (kB K_PB_init) 18 = .ok (.aload_n 0, 1) := by decide +kernel
theorem d_PB_init_19 : decode (kB K_PB_init) 19 = .ok (.iconst (-1), 1) := by decide +kernel
theorem d_PB_init_20 : decode (kB K_PB_init) 20 = .ok (.putfield 17, 3) := by decide +kernel
theorem d_PB_init_23 : decode (kB K_PB_init) 23 = .ok (.aload_n 0, 1) := by decide +kernel
theorem d_PB_init_24 : decode (kB K_PB_init) 24 = .ok (.new 20, 3) := by decide +kernel
theorem d_PB_init_27 : decode (kB K_PB_init) 27 = .ok (.dup, 1) := by decide +kernel
theorem d_PB_init_28 : decode (kB K_PB_init) 28 = .ok (.invokespecial 22, 3) := by decide +kernel
theorem d_PB_init_31 : decode (kB K_PB_init) 31 = .ok (.putfield 23, 3) := by decide +kernel
theorem d_PB_init_34 : decode (kB K_PB_init) 34 = .ok (.aload_n 0, 1) := by decide +kernel
theorem d_PB_init_35 : decode (kB K_PB_init) 35 = .ok (.new 20, 3) := by decide +kernel
theorem d_PB_init_38 : decode (kB K_PB_init) 38 = .ok (.dup, 1) := by decide +kernel
theorem d_PB_init_39 : decode (kB K_PB_init) 39 = .ok (.invokespecial 22, 3) := by decide +kernel
theorem d_PB_init_42 : decode (kB K_PB_init) 42 = .ok (.putfield 27, 3) := by decide +kernel
theorem d_PB_init_45 : decode (kB K_PB_init) 45 = .ok (.aload_n 0, 1) := by decide +kernel
theorem d_PB_init_46 : decode (kB K_PB_init) 46 = .ok (.new 30, 3) := by decide +kernel
theorem d_PB_init_49 : decode (kB K_PB_init) 49 = .ok (.dup, 1) := by decide +kernel
theorem d_PB_init_50 : decode (kB K_PB_init) 50 = .ok (.invokespecial 32, 3) := by decide +kernel
theorem d_PB_init_53 : decode (kB K_PB_init) 53 = .ok (.putfield 33, 3) := by decide +kernel
theorem d_PB_init_56 : decode (kB K_PB_init) 56 = .ok (.aload_n 0, 1) := by decide +kernel
theorem d_PB_init_57 : decode (kB K_PB_init) 57 = .ok (.new 37, 3) := by decide +kernel
theorem d_PB_init_60 : decode (kB K_PB_init) 60 = .ok (.dup, 1) := by decide +kernel
theorem d_PB_init_61 : decode (kB K_PB_init) 61 = .ok (.aload_n 0, 1) := by decide +kernel
theorem d_PB_init_62 : decode (kB K_PB_init) 62 = .ok (.getfield 33, 3) := by decide +kernel
theorem d_PB_init_65 : decode (kB K_PB_init) 65 = .ok (.aload_n 0, 1) := by decide +kernel
theorem d_PB_init_66 : decode (kB K_PB_init) 66 = .ok (.getfield 27, 3) := by decide +kernel
theorem d_PB_init_69 : decode (kB K_PB_init) 69 = .ok (.invokespecial 39, 3) := by decide +kernel
theorem d_PB_init_72 : decode (kB K_PB_init) 72 = .ok (.putfield 42, 3) := by decide +kernel
theorem d_PB_init_75 : decode (kB K_PB_init) 75 = .ok (.aload_n 0, 1) := by decide +kernel
theorem d_PB_init_76 : decode (kB K_PB_init) 76 = .ok (.new 46, 3) := by decide +kernel
theorem d_PB_init_79 : decode (kB K_PB_init) 79 = .ok (.dup, 1) := by decide +kernel
theorem d_PB_init_80 : decode (kB K_PB_init) 80 = .ok (.aload_n 0, 1) := by decide +kernel
theorem d_PB_init_81 : decode (kB K_PB_init) 81 = .ok (.getfield 33, 3) := by decide +kernel
theorem d_PB_init_84 : decode (kB K_PB_init) 84 = .ok (.aload_n 0, 1) := by decide +kernel
theorem d_PB_init_85 : decode (kB K_PB_init) 85 = .ok (.getfield 27, 3) := by decide +kernel
theorem d_PB_init_88 : decode (kB K_PB_init) 88 = .ok (.invokespecial 48, 3) := by decide +kernel
theorem d_PB_init_91 : decode (kB K_PB_init) 91 = .ok (.putfield 49, 3) := by decide +kernel
theorem d_PB_init_94 : decode (kB K_PB_init) 94 = .ok (.aload_n 0, 1) := by decide +kernel
theorem d_PB_init_95 : decode (kB K_PB_init) 95 = .ok (.new 53, 3) := by decide +kernel
theorem d_PB_init_98 : decode (kB K_PB_init) 98 = .ok (.dup, 1) := by decide +kernel
theorem d_PB_init_99 : decode (kB K_PB_init) 99 = .ok (.aload_n 0, 1) := by decide +kernel
theorem d_PB_init_100 : decode (kB K_PB_init) 100 = .ok (.getfield 23, 3) := by decide +kernel
theorem d_PB_init_103 : decode (kB K_PB_init) 103 = .ok (.invokespecial 55, 3) := by decide +kernel
theorem d_PB_init_106 : decode (kB K_PB_init) 106 = .ok (.putfield 58, 3) := by decide +kernel
theorem d_PB_init_109 : decode (kB K_PB_init) 109 = .ok (.aload_n 0, 1) := by decide +kernel
theorem d_PB_init_110 : decode (kB K_PB_init) 110 = .ok (.new 53, 3) := by decide +kernel
theorem d_PB_init_113 : decode (kB K_PB_init) 113 = .ok (.dup, 1) := by decide +kernel
theorem d_PB_init_114 : decode (kB K_PB_init) 114 = .ok (.aload_n 0, 1) := by decide +kernel
theorem d_PB_init_115 : decode (kB K_PB_init) 115 = .ok (.getfield 23, 3) := by decide +kernel
theorem d_PB_init_118 : decode (kB K_PB_init) 118 = .ok (.invokespecial 55, 3) := by decide +kernel
theorem d_PB_init_121 : decode (kB K_PB_init) 121 = .ok (.putfield 62, 3) := by decide +kernel
theorem d_PB_init_124 : decode (kB K_PB_init) 124 = .ok (.return_, 1) := by decide +kernel
def K_PB_feed : KM := (⟨"ParishBoards", "feed", "(IIIII)I"⟩, prog_1_method_2_code, 6, (some (.int)), "ParishBoards", ([(13, 0)], []))
theorem d_PB_feed_0 : decode (kB K_PB_feed) 0 = .ok (.aload_n 0, 1) := by decide +kernel
theorem d_PB_feed_1 : decode (kB K_PB_feed) 1 = .ok (.getfield 13, 3) := by decide +kernel
theorem d_PB_feed_4 : decode (kB K_PB_feed) 4 = .ok (.bipush 20, 2) := by decide +kernel
theorem d_PB_feed_6 : decode (kB K_PB_feed) 6 = .ok (.iadd, 1) := by decide +kernel
theorem d_PB_feed_7 : decode (kB K_PB_feed) 7 = .ok (.sipush 2000, 3) := by decide +kernel
theorem d_PB_feed_10 : decode (kB K_PB_feed) 10 = .ok (.if_icmp .le 13, 3) := by decide +kernel
theorem d_PB_feed_13 : decode (kB K_PB_feed) 13 = .ok (.new 65, 3) := by decide +kernel
theorem d_PB_feed_16 : decode (kB K_PB_feed) 16 = .ok (.dup, 1) := by decide +kernel
theorem d_PB_feed_17 : decode (kB K_PB_feed) 17 = .ok (.ldc 67, 2) := by decide +kernel
theorem d_PB_feed_19 : decode (kB K_PB_feed) 19 = .ok (.invokespecial 69, 3) := by decide +kernel
theorem d_PB_feed_22 : decode (kB K_PB_feed) 22 = .ok (.athrow, 1) := by decide +kernel
theorem d_PB_feed_23 : decode (kB K_PB_feed) 23 = .ok (.aload_n 0, 1) := by decide +kernel
theorem d_PB_feed_24 : decode (kB K_PB_feed) 24 = .ok (.iload_n 1, 1) := by decide +kernel
theorem d_PB_feed_25 : decode (kB K_PB_feed) 25 = .ok (.invokevirtual 72, 3) := by decide +kernel
theorem d_PB_feed_28 : decode (kB K_PB_feed) 28 = .ok (.aload_n 0, 1) := by decide +kernel
theorem d_PB_feed_29 : decode (kB K_PB_feed) 29 = .ok (.iload_n 2, 1) := by decide +kernel
theorem d_PB_feed_30 : decode (kB K_PB_feed) 30 = .ok (.invokevirtual 72, 3) := by decide +kernel
theorem d_PB_feed_33 : decode (kB K_PB_feed) 33 = .ok (.aload_n 0, 1) := by decide +kernel
theorem d_PB_feed_34 : decode (kB K_PB_feed) 34 = .ok (.iload_n 3, 1) := by decide +kernel
theorem d_PB_feed_35 : decode (kB K_PB_feed) 35 = .ok (.invokevirtual 72, 3) := by decide +kernel
theorem d_PB_feed_38 : decode (kB K_PB_feed) 38 = .ok (.aload_n 0, 1) := by decide +kernel
theorem d_PB_feed_39 : decode (kB K_PB_feed) 39 = .ok (.iload 4, 2) := by decide +kernel
theorem d_PB_feed_41 : decode (kB K_PB_feed) 41 = .ok (.invokevirtual 72, 3) := by decide +kernel
theorem d_PB_feed_44 : decode (kB K_PB_feed) 44 = .ok (.aload_n 0, 1) := by decide +kernel
theorem d_PB_feed_45 : decode (kB K_PB_feed) 45 = .ok (.iload 5, 2) := by decide +kernel
theorem d_PB_feed_47 : decode (kB K_PB_feed) 47 = .ok (.invokevirtual 72, 3) := by decide +kernel
theorem d_PB_feed_50 : decode (kB K_PB_feed) 50 = .ok (.aload_n 0, 1) := by decide +kernel
theorem d_PB_feed_51 : decode (kB K_PB_feed) 51 = .ok (.getfield 13, 3) := by decide +kernel
theorem d_PB_feed_54 : decode (kB K_PB_feed) 54 = .ok (.ireturn, 1) := by decide +kernel
def K_PB_trim : KM := (⟨"ParishBoards", "trim", "(I)I"⟩, prog_1_method_3_code, 2, (some (.int)), "ParishBoards", ([(12, 1)], []))
theorem d_PB_trim_0 : decode (kB K_PB_trim) 0 = .ok (.iload_n 1, 1) := by decide +kernel
theorem d_PB_trim_1 : decode (kB K_PB_trim) 1 = .ok (.ifCond .lt 11, 3) := by decide +kernel
theorem d_PB_trim_4 : decode (kB K_PB_trim) 4 = .ok (.iload_n 1, 1) := by decide +kernel
theorem d_PB_trim_5 : decode (kB K_PB_trim) 5 = .ok (.aload_n 0, 1) := by decide +kernel
theorem d_PB_trim_6 : decode (kB K_PB_trim) 6 = .ok (.getfield 13, 3) := by decide +kernel
theorem d_PB_trim_9 : decode (kB K_PB_trim) 9 = .ok (.if_icmp .le 13, 3) := by decide +kernel
theorem d_PB_trim_12 : decode (kB K_PB_trim) 12 = .ok (.new 76, 3) := by decide +kernel
theorem d_PB_trim_15 : decode (kB K_PB_trim) 15 = .ok (.dup, 1) := by decide +kernel
theorem d_PB_trim_16 : decode (kB K_PB_trim) 16 = .ok (.ldc 78, 2) := by decide +kernel
theorem d_PB_trim_18 : decode (kB K_PB_trim) 18 = .ok (.invokespecial 80, 3) := by decide +kernel
theorem d_PB_trim_21 : decode (kB K_PB_trim) 21 = .ok (.athrow, 1) := by decide +kernel
theorem d_PB_trim_22 : decode (kB K_PB_trim) 22 = .ok (.aload_n 0, 1) := by decide +kernel
theorem d_PB_trim_23 : decode (kB K_PB_trim) 23 = .ok (.iload_n 1, 1) := by decide +kernel
theorem d_PB_trim_24 : decode (kB K_PB_trim) 24 = .ok (.putfield 13, 3) := by decide +kernel
theorem d_PB_trim_27 : decode (kB K_PB_trim) 27 = .ok (.iload_n 1, 1) := by decide +kernel
theorem d_PB_trim_28 : decode (kB K_PB_trim) 28 = .ok (.ireturn, 1) := by decide +kernel
def K_PB_teach : KM := (⟨"ParishBoards", "teach", "()I"⟩, prog_1_method_4_code, 3, (some (.int)), "ParishBoards", ([], []))
theorem d_PB_teach_0 : decode (kB K_PB_teach) 0 = .ok (.aload_n 0, 1) := by decide +kernel
theorem d_PB_teach_1 : decode (kB K_PB_teach) 1 = .ok (.getfield 33, 3) := by decide +kernel
theorem d_PB_teach_4 : decode (kB K_PB_teach) 4 = .ok (.aload_n 0, 1) := by decide +kernel
theorem d_PB_teach_5 : decode (kB K_PB_teach) 5 = .ok (.getfield 9, 3) := by decide +kernel
theorem d_PB_teach_8 : decode (kB K_PB_teach) 8 = .ok (.aload_n 0, 1) := by decide +kernel
theorem d_PB_teach_9 : decode (kB K_PB_teach) 9 = .ok (.getfield 13, 3) := by decide +kernel
theorem d_PB_teach_12 : decode (kB K_PB_teach) 12 = .ok (.invokevirtual 81, 3) := by decide +kernel
theorem d_PB_teach_15 : decode (kB K_PB_teach) 15 = .ok (.aload_n 0, 1) := by decide +kernel
theorem d_PB_teach_16 : decode (kB K_PB_teach) 16 = .ok (.iconst 0, 1) := by decide +kernel
theorem d_PB_teach_17 : decode (kB K_PB_teach) 17 = .ok (.putfield 13, 3) := by decide +kernel
theorem d_PB_teach_20 : decode (kB K_PB_teach) 20 = .ok (.aload_n 0, 1) := by decide +kernel
theorem d_PB_teach_21 : decode (kB K_PB_teach) 21 = .ok (.getfield 27, 3) := by decide +kernel
theorem d_PB_teach_24 : decode (kB K_PB_teach) 24 = .ok (.invokevirtual 85, 3) := by decide +kernel
theorem d_PB_teach_27 : decode (kB K_PB_teach) 27 = .ok (.aload_n 0, 1) := by decide +kernel
theorem d_PB_teach_28 : decode (kB K_PB_teach) 28 = .ok (.getfield 42, 3) := by decide +kernel
theorem d_PB_teach_31 : decode (kB K_PB_teach) 31 = .ok (.aload_n 0, 1) := by decide +kernel
theorem d_PB_teach_32 : decode (kB K_PB_teach) 32 = .ok (.getfield 27, 3) := by decide +kernel
theorem d_PB_teach_35 : decode (kB K_PB_teach) 35 = .ok (.invokevirtual 88, 3) := by decide +kernel
theorem d_PB_teach_38 : decode (kB K_PB_teach) 38 = .ok (.istore_n 1, 1) := by decide +kernel
theorem d_PB_teach_39 : decode (kB K_PB_teach) 39 = .ok (.iload_n 1, 1) := by decide +kernel
theorem d_PB_teach_40 : decode (kB K_PB_teach) 40 = .ok (.iconst (-1), 1) := by decide +kernel
theorem d_PB_teach_41 : decode (kB K_PB_teach) 41 = .ok (.if_icmp .eq 17, 3) := by decide +kernel
theorem d_PB_teach_44 : decode (kB K_PB_teach) 44 = .ok (.aload_n 0, 1) := by decide +kernel
theorem d_PB_teach_45 : decode (kB K_PB_teach) 45 = .ok (.aload_n 0, 1) := by decide +kernel
theorem d_PB_teach_46 : decode (kB K_PB_teach) 46 = .ok (.getfield 33, 3) := by decide +kernel
theorem d_PB_teach_49 : decode (kB K_PB_teach) 49 = .ok (.iload_n 1, 1) := by decide +kernel
theorem d_PB_teach_50 : decode (kB K_PB_teach) 50 = .ok (.invokevirtual 92, 3) := by decide +kernel
theorem d_PB_teach_53 : decode (kB K_PB_teach) 53 = .ok (.putfield 17, 3) := by decide +kernel
theorem d_PB_teach_56 : decode (kB K_PB_teach) 56 = .ok (.iconst 1, 1) := by decide +kernel
theorem d_PB_teach_57 : decode (kB K_PB_teach) 57 = .ok (.ireturn, 1) := by decide +kernel
theorem d_PB_teach_58 : decode (kB K_PB_teach) 58 = .ok (.aload_n 0, 1) := by decide +kernel
theorem d_PB_teach_59 : decode (kB K_PB_teach) 59 = .ok (.getfield 49, 3) := by decide +kernel
theorem d_PB_teach_62 : decode (kB K_PB_teach) 62 = .ok (.aload_n 0, 1) := by decide +kernel
theorem d_PB_teach_63 : decode (kB K_PB_teach) 63 = .ok (.getfield 27, 3) := by decide +kernel
theorem d_PB_teach_66 : decode (kB K_PB_teach) 66 = .ok (.invokevirtual 96, 3) := by decide +kernel
theorem d_PB_teach_69 : decode (kB K_PB_teach) 69 = .ok (.istore_n 2, 1) := by decide +kernel
theorem d_PB_teach_70 : decode (kB K_PB_teach) 70 = .ok (.iload_n 2, 1) := by decide +kernel
theorem d_PB_teach_71 : decode (kB K_PB_teach) 71 = .ok (.ifCond .eq 23, 3) := by decide +kernel
theorem d_PB_teach_74 : decode (kB K_PB_teach) 74 = .ok (.aload_n 0, 1) := by decide +kernel
theorem d_PB_teach_75 : decode (kB K_PB_teach) 75 = .ok (.aload_n 0, 1) := by decide +kernel
theorem d_PB_teach_76 : decode (kB K_PB_teach) 76 = .ok (.getfield 33, 3) := by decide +kernel
theorem d_PB_teach_79 : decode (kB K_PB_teach) 79 = .ok (.aload_n 0, 1) := by decide +kernel
theorem d_PB_teach_80 : decode (kB K_PB_teach) 80 = .ok (.getfield 49, 3) := by decide +kernel
theorem d_PB_teach_83 : decode (kB K_PB_teach) 83 = .ok (.getfield 99, 3) := by decide +kernel
theorem d_PB_teach_86 : decode (kB K_PB_teach) 86 = .ok (.invokevirtual 92, 3) := by decide +kernel
theorem d_PB_teach_89 : decode (kB K_PB_teach) 89 = .ok (.putfield 17, 3) := by decide +kernel
theorem d_PB_teach_92 : decode (kB K_PB_teach) 92 = .ok (.iload_n 2, 1) := by decide +kernel
theorem d_PB_teach_93 : decode (kB K_PB_teach) 93 = .ok (.ireturn, 1) := by decide +kernel
theorem d_PB_teach_94 : decode (kB K_PB_teach) 94 = .ok (.aload_n 0, 1) := by decide +kernel
theorem d_PB_teach_95 : decode (kB K_PB_teach) 95 = .ok (.iconst (-1), 1) := by decide +kernel
theorem d_PB_teach_96 : decode (kB K_PB_teach) 96 = .ok (.putfield 17, 3) := by decide +kernel
theorem d_PB_teach_99 : decode (kB K_PB_teach) 99 = .ok (.aload_n 0, 1) := by decide +kernel
theorem d_PB_teach_100 : decode (kB K_PB_teach) 100 = .ok (.invokevirtual 102, 3) := by decide +kernel
theorem d_PB_teach_103 : decode (kB K_PB_teach) 103 = .ok (.iconst 0, 1) := by decide +kernel
theorem d_PB_teach_104 : decode (kB K_PB_teach) 104 = .ok (.ireturn, 1) := by decide +kernel
def K_PB_count : KM := (⟨"ParishBoards", "count", "(I)I"⟩, prog_1_method_6_code, 2, (some (.int)), "ParishBoards", ([(10, 2)], []))
theorem d_PB_count_0 : decode (kB K_PB_count) 0 = .ok (.iload_n 1, 1) := by decide +kernel
theorem d_PB_count_1 : decode (kB K_PB_count) 1 = .ok (.ifCond .lt 9, 3) := by decide +kernel
theorem d_PB_count_4 : decode (kB K_PB_count) 4 = .ok (.iload_n 1, 1) := by decide +kernel
theorem d_PB_count_5 : decode (kB K_PB_count) 5 = .ok (.bipush 13, 2) := by decide +kernel
theorem d_PB_count_7 : decode (kB K_PB_count) 7 = .ok (.if_icmp .lt 13, 3) := by decide +kernel
theorem d_PB_count_10 : decode (kB K_PB_count) 10 = .ok (.new 105, 3) := by decide +kernel
theorem d_PB_count_13 : decode (kB K_PB_count) 13 = .ok (.dup, 1) := by decide +kernel
theorem d_PB_count_14 : decode (kB K_PB_count) 14 = .ok (.ldc 107, 2) := by decide +kernel
theorem d_PB_count_16 : decode (kB K_PB_count) 16 = .ok (.invokespecial 109, 3) := by decide +kernel
theorem d_PB_count_19 : decode (kB K_PB_count) 19 = .ok (.athrow, 1) := by decide +kernel
theorem d_PB_count_20 : decode (kB K_PB_count) 20 = .ok (.aload_n 0, 1) := by decide +kernel
theorem d_PB_count_21 : decode (kB K_PB_count) 21 = .ok (.iload_n 1, 1) := by decide +kernel
theorem d_PB_count_22 : decode (kB K_PB_count) 22 = .ok (.invokevirtual 110, 3) := by decide +kernel
theorem d_PB_count_25 : decode (kB K_PB_count) 25 = .ok (.ireturn, 1) := by decide +kernel
def K_PB_parish : KM := (⟨"ParishBoards", "parish", "(II)I"⟩, prog_1_method_7_code, 3, (some (.int)), "ParishBoards", ([(18, 2)], []))
theorem d_PB_parish_0 : decode (kB K_PB_parish) 0 = .ok (.aload_n 0, 1) := by decide +kernel
theorem d_PB_parish_1 : decode (kB K_PB_parish) 1 = .ok (.iload_n 1, 1) := by decide +kernel
theorem d_PB_parish_2 : decode (kB K_PB_parish) 2 = .ok (.invokevirtual 113, 3) := by decide +kernel
theorem d_PB_parish_5 : decode (kB K_PB_parish) 5 = .ok (.ifCond .eq 13, 3) := by decide +kernel
theorem d_PB_parish_8 : decode (kB K_PB_parish) 8 = .ok (.iload_n 2, 1) := by decide +kernel
theorem d_PB_parish_9 : decode (kB K_PB_parish) 9 = .ok (.ifCond .lt 9, 3) := by decide +kernel
theorem d_PB_parish_12 : decode (kB K_PB_parish) 12 = .ok (.iload_n 2, 1) := by decide +kernel
theorem d_PB_parish_13 : decode (kB K_PB_parish) 13 = .ok (.bipush 6, 2) := by decide +kernel
theorem d_PB_parish_15 : decode (kB K_PB_parish) 15 = .ok (.if_icmp .lt 13, 3) := by decide +kernel
theorem d_PB_parish_18 : decode (kB K_PB_parish) 18 = .ok (.new 105, 3) := by decide +kernel
theorem d_PB_parish_21 : decode (kB K_PB_parish) 21 = .ok (.dup, 1) := by decide +kernel
theorem d_PB_parish_22 : decode (kB K_PB_parish) 22 = .ok (.ldc 117, 2) := by decide +kernel
theorem d_PB_parish_24 : decode (kB K_PB_parish) 24 = .ok (.invokespecial 109, 3) := by decide +kernel
theorem d_PB_parish_27 : decode (kB K_PB_parish) 27 = .ok (.athrow, 1) := by decide +kernel
theorem d_PB_parish_28 : decode (kB K_PB_parish) 28 = .ok (.aload_n 0, 1) := by decide +kernel
theorem d_PB_parish_29 : decode (kB K_PB_parish) 29 = .ok (.getfield 58, 3) := by decide +kernel
theorem d_PB_parish_32 : decode (kB K_PB_parish) 32 = .ok (.iload_n 1, 1) := by decide +kernel
theorem d_PB_parish_33 : decode (kB K_PB_parish) 33 = .ok (.iload_n 2, 1) := by decide +kernel
theorem d_PB_parish_34 : decode (kB K_PB_parish) 34 = .ok (.invokevirtual 119, 3) := by decide +kernel
theorem d_PB_parish_37 : decode (kB K_PB_parish) 37 = .ok (.ireturn, 1) := by decide +kernel
def K_PB_knows : KM := (⟨"ParishBoards", "knows", "(II)I"⟩, prog_1_method_8_code, 3, (some (.int)), "ParishBoards", ([(16, 2)], []))
theorem d_PB_knows_0 : decode (kB K_PB_knows) 0 = .ok (.aload_n 0, 1) := by decide +kernel
theorem d_PB_knows_1 : decode (kB K_PB_knows) 1 = .ok (.iload_n 1, 1) := by decide +kernel
theorem d_PB_knows_2 : decode (kB K_PB_knows) 2 = .ok (.invokevirtual 113, 3) := by decide +kernel
theorem d_PB_knows_5 : decode (kB K_PB_knows) 5 = .ok (.ifCond .eq 11, 3) := by decide +kernel
theorem d_PB_knows_8 : decode (kB K_PB_knows) 8 = .ok (.aload_n 0, 1) := by decide +kernel
theorem d_PB_knows_9 : decode (kB K_PB_knows) 9 = .ok (.iload_n 2, 1) := by decide +kernel
theorem d_PB_knows_10 : decode (kB K_PB_knows) 10 = .ok (.invokevirtual 113, 3) := by decide +kernel
theorem d_PB_knows_13 : decode (kB K_PB_knows) 13 = .ok (.ifCond .ne 13, 3) := by decide +kernel
theorem d_PB_knows_16 : decode (kB K_PB_knows) 16 = .ok (.new 105, 3) := by decide +kernel
theorem d_PB_knows_19 : decode (kB K_PB_knows) 19 = .ok (.dup, 1) := by decide +kernel
theorem d_PB_knows_20 : decode (kB K_PB_knows) 20 = .ok (.ldc 123, 2) := by decide +kernel
theorem d_PB_knows_22 : decode (kB K_PB_knows) 22 = .ok (.invokespecial 109, 3) := by decide +kernel
theorem d_PB_knows_25 : decode (kB K_PB_knows) 25 = .ok (.athrow, 1) := by decide +kernel
theorem d_PB_knows_26 : decode (kB K_PB_knows) 26 = .ok (.aload_n 0, 1) := by decide +kernel
theorem d_PB_knows_27 : decode (kB K_PB_knows) 27 = .ok (.getfield 58, 3) := by decide +kernel
theorem d_PB_knows_30 : decode (kB K_PB_knows) 30 = .ok (.getfield 125, 3) := by decide +kernel
theorem d_PB_knows_33 : decode (kB K_PB_knows) 33 = .ok (.iload_n 1, 1) := by decide +kernel
theorem d_PB_knows_34 : decode (kB K_PB_knows) 34 = .ok (.aaload, 1) := by decide +kernel
theorem d_PB_knows_35 : decode (kB K_PB_knows) 35 = .ok (.getfield 129, 3) := by decide +kernel
theorem d_PB_knows_38 : decode (kB K_PB_knows) 38 = .ok (.iload_n 2, 1) := by decide +kernel
theorem d_PB_knows_39 : decode (kB K_PB_knows) 39 = .ok (.iaload, 1) := by decide +kernel
theorem d_PB_knows_40 : decode (kB K_PB_knows) 40 = .ok (.ireturn, 1) := by decide +kernel
def K_PB_sheet : KM := (⟨"ParishBoards", "sheet", "(II)I"⟩, prog_1_method_9_code, 3, (some (.int)), "ParishBoards", ([(18, 2)], []))
theorem d_PB_sheet_0 : decode (kB K_PB_sheet) 0 = .ok (.aload_n 0, 1) := by decide +kernel
theorem d_PB_sheet_1 : decode (kB K_PB_sheet) 1 = .ok (.iload_n 1, 1) := by decide +kernel
theorem d_PB_sheet_2 : decode (kB K_PB_sheet) 2 = .ok (.invokevirtual 135, 3) := by decide +kernel
theorem d_PB_sheet_5 : decode (kB K_PB_sheet) 5 = .ok (.ifCond .eq 13, 3) := by decide +kernel
theorem d_PB_sheet_8 : decode (kB K_PB_sheet) 8 = .ok (.iload_n 2, 1) := by decide +kernel
theorem d_PB_sheet_9 : decode (kB K_PB_sheet) 9 = .ok (.ifCond .lt 9, 3) := by decide +kernel
theorem d_PB_sheet_12 : decode (kB K_PB_sheet) 12 = .ok (.iload_n 2, 1) := by decide +kernel
theorem d_PB_sheet_13 : decode (kB K_PB_sheet) 13 = .ok (.bipush 8, 2) := by decide +kernel
theorem d_PB_sheet_15 : decode (kB K_PB_sheet) 15 = .ok (.if_icmp .lt 13, 3) := by decide +kernel
theorem d_PB_sheet_18 : decode (kB K_PB_sheet) 18 = .ok (.new 105, 3) := by decide +kernel
theorem d_PB_sheet_21 : decode (kB K_PB_sheet) 21 = .ok (.dup, 1) := by decide +kernel
theorem d_PB_sheet_22 : decode (kB K_PB_sheet) 22 = .ok (.ldc 138, 2) := by decide +kernel
theorem d_PB_sheet_24 : decode (kB K_PB_sheet) 24 = .ok (.invokespecial 109, 3) := by decide +kernel
theorem d_PB_sheet_27 : decode (kB K_PB_sheet) 27 = .ok (.athrow, 1) := by decide +kernel
theorem d_PB_sheet_28 : decode (kB K_PB_sheet) 28 = .ok (.aload_n 0, 1) := by decide +kernel
theorem d_PB_sheet_29 : decode (kB K_PB_sheet) 29 = .ok (.getfield 58, 3) := by decide +kernel
theorem d_PB_sheet_32 : decode (kB K_PB_sheet) 32 = .ok (.iload_n 1, 1) := by decide +kernel
theorem d_PB_sheet_33 : decode (kB K_PB_sheet) 33 = .ok (.iload_n 2, 1) := by decide +kernel
theorem d_PB_sheet_34 : decode (kB K_PB_sheet) 34 = .ok (.invokevirtual 140, 3) := by decide +kernel
theorem d_PB_sheet_37 : decode (kB K_PB_sheet) 37 = .ok (.ireturn, 1) := by decide +kernel
def K_PB_stamp : KM := (⟨"ParishBoards", "stamp", "(II)I"⟩, prog_1_method_10_code, 3, (some (.int)), "ParishBoards", ([(16, 2)], []))
theorem d_PB_stamp_0 : decode (kB K_PB_stamp) 0 = .ok (.aload_n 0, 1) := by decide +kernel
theorem d_PB_stamp_1 : decode (kB K_PB_stamp) 1 = .ok (.iload_n 1, 1) := by decide +kernel
theorem d_PB_stamp_2 : decode (kB K_PB_stamp) 2 = .ok (.invokevirtual 135, 3) := by decide +kernel
theorem d_PB_stamp_5 : decode (kB K_PB_stamp) 5 = .ok (.ifCond .eq 11, 3) := by decide +kernel
theorem d_PB_stamp_8 : decode (kB K_PB_stamp) 8 = .ok (.aload_n 0, 1) := by decide +kernel
theorem d_PB_stamp_9 : decode (kB K_PB_stamp) 9 = .ok (.iload_n 2, 1) := by decide +kernel
theorem d_PB_stamp_10 : decode (kB K_PB_stamp) 10 = .ok (.invokevirtual 113, 3) := by decide +kernel
theorem d_PB_stamp_13 : decode (kB K_PB_stamp) 13 = .ok (.ifCond .ne 13, 3) := by decide +kernel
theorem d_PB_stamp_16 : decode (kB K_PB_stamp) 16 = .ok (.new 105, 3) := by decide +kernel
theorem d_PB_stamp_19 : decode (kB K_PB_stamp) 19 = .ok (.dup, 1) := by decide +kernel
theorem d_PB_stamp_20 : decode (kB K_PB_stamp) 20 = .ok (.ldc 143, 2) := by decide +kernel
theorem d_PB_stamp_22 : decode (kB K_PB_stamp) 22 = .ok (.invokespecial 109, 3) := by decide +kernel
theorem d_PB_stamp_25 : decode (kB K_PB_stamp) 25 = .ok (.athrow, 1) := by decide +kernel
theorem d_PB_stamp_26 : decode (kB K_PB_stamp) 26 = .ok (.aload_n 0, 1) := by decide +kernel
theorem d_PB_stamp_27 : decode (kB K_PB_stamp) 27 = .ok (.getfield 58, 3) := by decide +kernel
theorem d_PB_stamp_30 : decode (kB K_PB_stamp) 30 = .ok (.getfield 145, 3) := by decide +kernel
theorem d_PB_stamp_33 : decode (kB K_PB_stamp) 33 = .ok (.iload_n 1, 1) := by decide +kernel
theorem d_PB_stamp_34 : decode (kB K_PB_stamp) 34 = .ok (.aaload, 1) := by decide +kernel
theorem d_PB_stamp_35 : decode (kB K_PB_stamp) 35 = .ok (.getfield 149, 3) := by decide +kernel
theorem d_PB_stamp_38 : decode (kB K_PB_stamp) 38 = .ok (.iload_n 2, 1) := by decide +kernel
theorem d_PB_stamp_39 : decode (kB K_PB_stamp) 39 = .ok (.iaload, 1) := by decide +kernel
theorem d_PB_stamp_40 : decode (kB K_PB_stamp) 40 = .ok (.ireturn, 1) := by decide +kernel
def K_PB_shown : KM := (⟨"ParishBoards", "shown", "(III)I"⟩, prog_1_method_11_code, 5, (some (.int)), "ParishBoards", ([(9, 2), (41, 2)], []))
theorem d_PB_shown_0 : decode (kB K_PB_shown) 0 = .ok (.aload_n 0, 1) := by decide +kernel
theorem d_PB_shown_1 : decode (kB K_PB_shown) 1 = .ok (.iload_n 1, 1) := by decide +kernel
theorem d_PB_shown_2 : decode (kB K_PB_shown) 2 = .ok (.iload_n 2, 1) := by decide +kernel
theorem d_PB_shown_3 : decode (kB K_PB_shown) 3 = .ok (.invokevirtual 154, 3) := by decide +kernel
theorem d_PB_shown_6 : decode (kB K_PB_shown) 6 = .ok (.ifCond .ne 13, 3) := by decide +kernel
theorem d_PB_shown_9 : decode (kB K_PB_shown) 9 = .ok (.new 105, 3) := by decide +kernel
theorem d_PB_shown_12 : decode (kB K_PB_shown) 12 = .ok (.dup, 1) := by decide +kernel
theorem d_PB_shown_13 : decode (kB K_PB_shown) 13 = .ok (.ldc 158, 2) := by decide +kernel
theorem d_PB_shown_15 : decode (kB K_PB_shown) 15 = .ok (.invokespecial 109, 3) := by decide +kernel
theorem d_PB_shown_18 : decode (kB K_PB_shown) 18 = .ok (.athrow, 1) := by decide +kernel
theorem d_PB_shown_19 : decode (kB K_PB_shown) 19 = .ok (.aload_n 0, 1) := by decide +kernel
theorem d_PB_shown_20 : decode (kB K_PB_shown) 20 = .ok (.getfield 58, 3) := by decide +kernel
theorem d_PB_shown_23 : decode (kB K_PB_shown) 23 = .ok (.getfield 125, 3) := by decide +kernel
theorem d_PB_shown_26 : decode (kB K_PB_shown) 26 = .ok (.iload_n 1, 1) := by decide +kernel
theorem d_PB_shown_27 : decode (kB K_PB_shown) 27 = .ok (.aaload, 1) := by decide +kernel
theorem d_PB_shown_28 : decode (kB K_PB_shown) 28 = .ok (.iload_n 2, 1) := by decide +kernel
theorem d_PB_shown_29 : decode (kB K_PB_shown) 29 = .ok (.iload_n 3, 1) := by decide +kernel
theorem d_PB_shown_30 : decode (kB K_PB_shown) 30 = .ok (.invokevirtual 160, 3) := by decide +kernel
theorem d_PB_shown_33 : decode (kB K_PB_shown) 33 = .ok (.istore 4, 2) := by decide +kernel
theorem d_PB_shown_35 : decode (kB K_PB_shown) 35 = .ok (.iload 4, 2) := by decide +kernel
theorem d_PB_shown_37 : decode (kB K_PB_shown) 37 = .ok (.iconst (-1), 1) := by decide +kernel
theorem d_PB_shown_38 : decode (kB K_PB_shown) 38 = .ok (.if_icmp .ne 13, 3) := by decide +kernel
theorem d_PB_shown_41 : decode (kB K_PB_shown) 41 = .ok (.new 105, 3) := by decide +kernel
theorem d_PB_shown_44 : decode (kB K_PB_shown) 44 = .ok (.dup, 1) := by decide +kernel
theorem d_PB_shown_45 : decode (kB K_PB_shown) 45 = .ok (.ldc 163, 2) := by decide +kernel
theorem d_PB_shown_47 : decode (kB K_PB_shown) 47 = .ok (.invokespecial 109, 3) := by decide +kernel
theorem d_PB_shown_50 : decode (kB K_PB_shown) 50 = .ok (.athrow, 1) := by decide +kernel
theorem d_PB_shown_51 : decode (kB K_PB_shown) 51 = .ok (.iload 4, 2) := by decide +kernel
theorem d_PB_shown_53 : decode (kB K_PB_shown) 53 = .ok (.ireturn, 1) := by decide +kernel
def K_PB_compare : KM := (⟨"ParishBoards", "compare", "(II)I"⟩, prog_1_method_12_code, 3, (some (.int)), "ParishBoards", ([(16, 2)], []))
theorem d_PB_compare_0 : decode (kB K_PB_compare) 0 = .ok (.aload_n 0, 1) := by decide +kernel
theorem d_PB_compare_1 : decode (kB K_PB_compare) 1 = .ok (.iload_n 1, 1) := by decide +kernel
theorem d_PB_compare_2 : decode (kB K_PB_compare) 2 = .ok (.invokevirtual 135, 3) := by decide +kernel
theorem d_PB_compare_5 : decode (kB K_PB_compare) 5 = .ok (.ifCond .eq 11, 3) := by decide +kernel
theorem d_PB_compare_8 : decode (kB K_PB_compare) 8 = .ok (.aload_n 0, 1) := by decide +kernel
theorem d_PB_compare_9 : decode (kB K_PB_compare) 9 = .ok (.iload_n 2, 1) := by decide +kernel
theorem d_PB_compare_10 : decode (kB K_PB_compare) 10 = .ok (.invokevirtual 135, 3) := by decide +kernel
theorem d_PB_compare_13 : decode (kB K_PB_compare) 13 = .ok (.ifCond .ne 13, 3) := by decide +kernel
theorem d_PB_compare_16 : decode (kB K_PB_compare) 16 = .ok (.new 105, 3) := by decide +kernel
theorem d_PB_compare_19 : decode (kB K_PB_compare) 19 = .ok (.dup, 1) := by decide +kernel
theorem d_PB_compare_20 : decode (kB K_PB_compare) 20 = .ok (.ldc 165, 2) := by decide +kernel
theorem d_PB_compare_22 : decode (kB K_PB_compare) 22 = .ok (.invokespecial 109, 3) := by decide +kernel
theorem d_PB_compare_25 : decode (kB K_PB_compare) 25 = .ok (.athrow, 1) := by decide +kernel
theorem d_PB_compare_26 : decode (kB K_PB_compare) 26 = .ok (.iload_n 1, 1) := by decide +kernel
theorem d_PB_compare_27 : decode (kB K_PB_compare) 27 = .ok (.iload_n 2, 1) := by decide +kernel
theorem d_PB_compare_28 : decode (kB K_PB_compare) 28 = .ok (.if_icmp .ne 5, 3) := by decide +kernel
theorem d_PB_compare_31 : decode (kB K_PB_compare) 31 = .ok (.iconst 0, 1) := by decide +kernel
theorem d_PB_compare_32 : decode (kB K_PB_compare) 32 = .ok (.ireturn, 1) := by decide +kernel
theorem d_PB_compare_33 : decode (kB K_PB_compare) 33 = .ok (.aload_n 0, 1) := by decide +kernel
theorem d_PB_compare_34 : decode (kB K_PB_compare) 34 = .ok (.getfield 58, 3) := by decide +kernel
theorem d_PB_compare_37 : decode (kB K_PB_compare) 37 = .ok (.getfield 145, 3) := by decide +kernel
theorem d_PB_compare_40 : decode (kB K_PB_compare) 40 = .ok (.iload_n 1, 1) := by decide +kernel
theorem d_PB_compare_41 : decode (kB K_PB_compare) 41 = .ok (.aaload, 1) := by decide +kernel
theorem d_PB_compare_42 : decode (kB K_PB_compare) 42 = .ok (.aload_n 0, 1) := by decide +kernel
theorem d_PB_compare_43 : decode (kB K_PB_compare) 43 = .ok (.getfield 58, 3) := by decide +kernel
theorem d_PB_compare_46 : decode (kB K_PB_compare) 46 = .ok (.getfield 145, 3) := by decide +kernel
theorem d_PB_compare_49 : decode (kB K_PB_compare) 49 = .ok (.iload_n 2, 1) := by decide +kernel
theorem d_PB_compare_50 : decode (kB K_PB_compare) 50 = .ok (.aaload, 1) := by decide +kernel
theorem d_PB_compare_51 : decode (kB K_PB_compare) 51 = .ok (.invokevirtual 167, 3) := by decide +kernel
theorem d_PB_compare_54 : decode (kB K_PB_compare) 54 = .ok (.ifCond .eq 5, 3) := by decide +kernel
theorem d_PB_compare_57 : decode (kB K_PB_compare) 57 = .ok (.iconst 1, 1) := by decide +kernel
theorem d_PB_compare_58 : decode (kB K_PB_compare) 58 = .ok (.ireturn, 1) := by decide +kernel
theorem d_PB_compare_59 : decode (kB K_PB_compare) 59 = .ok (.aload_n 0, 1) := by decide +kernel
theorem d_PB_compare_60 : decode (kB K_PB_compare) 60 = .ok (.getfield 58, 3) := by decide +kernel
theorem d_PB_compare_63 : decode (kB K_PB_compare) 63 = .ok (.getfield 145, 3) := by decide +kernel
theorem d_PB_compare_66 : decode (kB K_PB_compare) 66 = .ok (.iload_n 2, 1) := by decide +kernel
theorem d_PB_compare_67 : decode (kB K_PB_compare) 67 = .ok (.aaload, 1) := by decide +kernel
theorem d_PB_compare_68 : decode (kB K_PB_compare) 68 = .ok (.aload_n 0, 1) := by decide +kernel
theorem d_PB_compare_69 : decode (kB K_PB_compare) 69 = .ok (.getfield 58, 3) := by decide +kernel
theorem d_PB_compare_72 : decode (kB K_PB_compare) 72 = .ok (.getfield 145, 3) := by decide +kernel
theorem d_PB_compare_75 : decode (kB K_PB_compare) 75 = .ok (.iload_n 1, 1) := by decide +kernel
theorem d_PB_compare_76 : decode (kB K_PB_compare) 76 = .ok (.aaload, 1) := by decide +kernel
theorem d_PB_compare_77 : decode (kB K_PB_compare) 77 = .ok (.invokevirtual 167, 3) := by decide +kernel
theorem d_PB_compare_80 : decode (kB K_PB_compare) 80 = .ok (.ifCond .eq 7, 3) := by decide +kernel
theorem d_PB_compare_83 : decode (kB K_PB_compare) 83 = .ok (.iconst 2, 1) := by decide +kernel
theorem d_PB_compare_84 : decode (kB K_PB_compare) 84 = .ok (.goto 4, 3) := by decide +kernel
theorem d_PB_compare_87 : decode (kB K_PB_compare) 87 = .ok (.iconst 3, 1) := by decide +kernel
theorem d_PB_compare_88 : decode (kB K_PB_compare) 88 = .ok (.ireturn, 1) := by decide +kernel
def K_PB_road : KM := (⟨"ParishBoards", "road", "(II)I"⟩, prog_1_method_13_code, 3, (some (.int)), "ParishBoards", ([(17, 2)], []))
theorem d_PB_road_0 : decode (kB K_PB_road) 0 = .ok (.aload_n 0, 1) := by decide +kernel
theorem d_PB_road_1 : decode (kB K_PB_road) 1 = .ok (.iload_n 1, 1) := by decide +kernel
theorem d_PB_road_2 : decode (kB K_PB_road) 2 = .ok (.invokevirtual 171, 3) := by decide +kernel
theorem d_PB_road_5 : decode (kB K_PB_road) 5 = .ok (.ifCond .eq 12, 3) := by decide +kernel
theorem d_PB_road_8 : decode (kB K_PB_road) 8 = .ok (.iload_n 2, 1) := by decide +kernel
theorem d_PB_road_9 : decode (kB K_PB_road) 9 = .ok (.ifCond .lt 8, 3) := by decide +kernel
theorem d_PB_road_12 : decode (kB K_PB_road) 12 = .ok (.iload_n 2, 1) := by decide +kernel
theorem d_PB_road_13 : decode (kB K_PB_road) 13 = .ok (.iconst 5, 1) := by decide +kernel
theorem d_PB_road_14 : decode (kB K_PB_road) 14 = .ok (.if_icmp .lt 13, 3) := by decide +kernel
theorem d_PB_road_17 : decode (kB K_PB_road) 17 = .ok (.new 105, 3) := by decide +kernel
theorem d_PB_road_20 : decode (kB K_PB_road) 20 = .ok (.dup, 1) := by decide +kernel
theorem d_PB_road_21 : decode (kB K_PB_road) 21 = .ok (.ldc 174, 2) := by decide +kernel
theorem d_PB_road_23 : decode (kB K_PB_road) 23 = .ok (.invokespecial 109, 3) := by decide +kernel
theorem d_PB_road_26 : decode (kB K_PB_road) 26 = .ok (.athrow, 1) := by decide +kernel
theorem d_PB_road_27 : decode (kB K_PB_road) 27 = .ok (.aload_n 0, 1) := by decide +kernel
theorem d_PB_road_28 : decode (kB K_PB_road) 28 = .ok (.getfield 58, 3) := by decide +kernel
theorem d_PB_road_31 : decode (kB K_PB_road) 31 = .ok (.iload_n 1, 1) := by decide +kernel
theorem d_PB_road_32 : decode (kB K_PB_road) 32 = .ok (.iload_n 2, 1) := by decide +kernel
theorem d_PB_road_33 : decode (kB K_PB_road) 33 = .ok (.invokevirtual 176, 3) := by decide +kernel
theorem d_PB_road_36 : decode (kB K_PB_road) 36 = .ok (.ireturn, 1) := by decide +kernel
def K_PB_write : KM := (⟨"ParishBoards", "write", "(III)I"⟩, prog_1_method_14_code, 4, (some (.int)), "ParishBoards", ([(9, 2), (30, 1), (50, 0)], []))
theorem d_PB_write_0 : decode (kB K_PB_write) 0 = .ok (.aload_n 0, 1) := by decide +kernel
theorem d_PB_write_1 : decode (kB K_PB_write) 1 = .ok (.iload_n 1, 1) := by decide +kernel
theorem d_PB_write_2 : decode (kB K_PB_write) 2 = .ok (.iload_n 2, 1) := by decide +kernel
theorem d_PB_write_3 : decode (kB K_PB_write) 3 = .ok (.invokevirtual 154, 3) := by decide +kernel
theorem d_PB_write_6 : decode (kB K_PB_write) 6 = .ok (.ifCond .ne 13, 3) := by decide +kernel
theorem d_PB_write_9 : decode (kB K_PB_write) 9 = .ok (.new 105, 3) := by decide +kernel
theorem d_PB_write_12 : decode (kB K_PB_write) 12 = .ok (.dup, 1) := by decide +kernel
theorem d_PB_write_13 : decode (kB K_PB_write) 13 = .ok (.ldc 158, 2) := by decide +kernel
theorem d_PB_write_15 : decode (kB K_PB_write) 15 = .ok (.invokespecial 109, 3) := by decide +kernel
theorem d_PB_write_18 : decode (kB K_PB_write) 18 = .ok (.athrow, 1) := by decide +kernel
theorem d_PB_write_19 : decode (kB K_PB_write) 19 = .ok (.iload_n 3, 1) := by decide +kernel
theorem d_PB_write_20 : decode (kB K_PB_write) 20 = .ok (.ifCond .lt 10, 3) := by decide +kernel
theorem d_PB_write_23 : decode (kB K_PB_write) 23 = .ok (.iload_n 3, 1) := by decide +kernel
theorem d_PB_write_24 : decode (kB K_PB_write) 24 = .ok (.sipush 9999, 3) := by decide +kernel
theorem d_PB_write_27 : decode (kB K_PB_write) 27 = .ok (.if_icmp .le 13, 3) := by decide +kernel
theorem d_PB_write_30 : decode (kB K_PB_write) 30 = .ok (.new 76, 3) := by decide +kernel
theorem d_PB_write_33 : decode (kB K_PB_write) 33 = .ok (.dup, 1) := by decide +kernel
theorem d_PB_write_34 : decode (kB K_PB_write) 34 = .ok (.ldc 179, 2) := by decide +kernel
theorem d_PB_write_36 : decode (kB K_PB_write) 36 = .ok (.invokespecial 80, 3) := by decide +kernel
theorem d_PB_write_39 : decode (kB K_PB_write) 39 = .ok (.athrow, 1) := by decide +kernel
theorem d_PB_write_40 : decode (kB K_PB_write) 40 = .ok (.aload_n 0, 1) := by decide +kernel
theorem d_PB_write_41 : decode (kB K_PB_write) 41 = .ok (.getfield 58, 3) := by decide +kernel
theorem d_PB_write_44 : decode (kB K_PB_write) 44 = .ok (.invokevirtual 181, 3) := by decide +kernel
theorem d_PB_write_47 : decode (kB K_PB_write) 47 = .ok (.ifCond .eq 13, 3) := by decide +kernel
theorem d_PB_write_50 : decode (kB K_PB_write) 50 = .ok (.new 65, 3) := by decide +kernel
theorem d_PB_write_53 : decode (kB K_PB_write) 53 = .ok (.dup, 1) := by decide +kernel
theorem d_PB_write_54 : decode (kB K_PB_write) 54 = .ok (.ldc 185, 2) := by decide +kernel
theorem d_PB_write_56 : decode (kB K_PB_write) 56 = .ok (.invokespecial 69, 3) := by decide +kernel
theorem d_PB_write_59 : decode (kB K_PB_write) 59 = .ok (.athrow, 1) := by decide +kernel
theorem d_PB_write_60 : decode (kB K_PB_write) 60 = .ok (.aload_n 0, 1) := by decide +kernel
theorem d_PB_write_61 : decode (kB K_PB_write) 61 = .ok (.getfield 58, 3) := by decide +kernel
theorem d_PB_write_64 : decode (kB K_PB_write) 64 = .ok (.iload_n 1, 1) := by decide +kernel
theorem d_PB_write_65 : decode (kB K_PB_write) 65 = .ok (.iload_n 2, 1) := by decide +kernel
theorem d_PB_write_66 : decode (kB K_PB_write) 66 = .ok (.iload_n 3, 1) := by decide +kernel
theorem d_PB_write_67 : decode (kB K_PB_write) 67 = .ok (.invokevirtual 187, 3) := by decide +kernel
theorem d_PB_write_70 : decode (kB K_PB_write) 70 = .ok (.ireturn, 1) := by decide +kernel
def K_PB_note : KM := (⟨"ParishBoards", "note", "(III)I"⟩, prog_1_method_15_code, 4, (some (.int)), "ParishBoards", ([(9, 2), (26, 1), (58, 0)], []))
theorem d_PB_note_0 : decode (kB K_PB_note) 0 = .ok (.aload_n 0, 1) := by decide +kernel
theorem d_PB_note_1 : decode (kB K_PB_note) 1 = .ok (.iload_n 1, 1) := by decide +kernel
theorem d_PB_note_2 : decode (kB K_PB_note) 2 = .ok (.iload_n 2, 1) := by decide +kernel
theorem d_PB_note_3 : decode (kB K_PB_note) 3 = .ok (.invokevirtual 154, 3) := by decide +kernel
theorem d_PB_note_6 : decode (kB K_PB_note) 6 = .ok (.ifCond .ne 13, 3) := by decide +kernel
theorem d_PB_note_9 : decode (kB K_PB_note) 9 = .ok (.new 105, 3) := by decide +kernel
theorem d_PB_note_12 : decode (kB K_PB_note) 12 = .ok (.dup, 1) := by decide +kernel
theorem d_PB_note_13 : decode (kB K_PB_note) 13 = .ok (.ldc 158, 2) := by decide +kernel
theorem d_PB_note_15 : decode (kB K_PB_note) 15 = .ok (.invokespecial 109, 3) := by decide +kernel
theorem d_PB_note_18 : decode (kB K_PB_note) 18 = .ok (.athrow, 1) := by decide +kernel
theorem d_PB_note_19 : decode (kB K_PB_note) 19 = .ok (.iload_n 3, 1) := by decide +kernel
theorem d_PB_note_20 : decode (kB K_PB_note) 20 = .ok (.invokestatic 191, 3) := by decide +kernel
theorem d_PB_note_23 : decode (kB K_PB_note) 23 = .ok (.ifCond .ne 13, 3) := by decide +kernel
theorem d_PB_note_26 : decode (kB K_PB_note) 26 = .ok (.new 76, 3) := by decide +kernel
theorem d_PB_note_29 : decode (kB K_PB_note) 29 = .ok (.dup, 1) := by decide +kernel
theorem d_PB_note_30 : decode (kB K_PB_note) 30 = .ok (.ldc 194, 2) := by decide +kernel
theorem d_PB_note_32 : decode (kB K_PB_note) 32 = .ok (.invokespecial 80, 3) := by decide +kernel
theorem d_PB_note_35 : decode (kB K_PB_note) 35 = .ok (.athrow, 1) := by decide +kernel
theorem d_PB_note_36 : decode (kB K_PB_note) 36 = .ok (.aload_n 0, 1) := by decide +kernel
theorem d_PB_note_37 : decode (kB K_PB_note) 37 = .ok (.getfield 58, 3) := by decide +kernel
theorem d_PB_note_40 : decode (kB K_PB_note) 40 = .ok (.invokevirtual 181, 3) := by decide +kernel
theorem d_PB_note_43 : decode (kB K_PB_note) 43 = .ok (.ifCond .ne 15, 3) := by decide +kernel
theorem d_PB_note_46 : decode (kB K_PB_note) 46 = .ok (.aload_n 0, 1) := by decide +kernel
theorem d_PB_note_47 : decode (kB K_PB_note) 47 = .ok (.getfield 58, 3) := by decide +kernel
theorem d_PB_note_50 : decode (kB K_PB_note) 50 = .ok (.iload_n 1, 1) := by decide +kernel
theorem d_PB_note_51 : decode (kB K_PB_note) 51 = .ok (.iload_n 2, 1) := by decide +kernel
theorem d_PB_note_52 : decode (kB K_PB_note) 52 = .ok (.invokevirtual 196, 3) := by decide +kernel
theorem d_PB_note_55 : decode (kB K_PB_note) 55 = .ok (.ifCond .ne 13, 3) := by decide +kernel
theorem d_PB_note_58 : decode (kB K_PB_note) 58 = .ok (.new 65, 3) := by decide +kernel
theorem d_PB_note_61 : decode (kB K_PB_note) 61 = .ok (.dup, 1) := by decide +kernel
theorem d_PB_note_62 : decode (kB K_PB_note) 62 = .ok (.ldc 199, 2) := by decide +kernel
theorem d_PB_note_64 : decode (kB K_PB_note) 64 = .ok (.invokespecial 69, 3) := by decide +kernel
theorem d_PB_note_67 : decode (kB K_PB_note) 67 = .ok (.athrow, 1) := by decide +kernel
theorem d_PB_note_68 : decode (kB K_PB_note) 68 = .ok (.aload_n 0, 1) := by decide +kernel
theorem d_PB_note_69 : decode (kB K_PB_note) 69 = .ok (.getfield 58, 3) := by decide +kernel
theorem d_PB_note_72 : decode (kB K_PB_note) 72 = .ok (.iload_n 1, 1) := by decide +kernel
theorem d_PB_note_73 : decode (kB K_PB_note) 73 = .ok (.iload_n 2, 1) := by decide +kernel
theorem d_PB_note_74 : decode (kB K_PB_note) 74 = .ok (.iload_n 3, 1) := by decide +kernel
theorem d_PB_note_75 : decode (kB K_PB_note) 75 = .ok (.invokevirtual 201, 3) := by decide +kernel
theorem d_PB_note_78 : decode (kB K_PB_note) 78 = .ok (.ireturn, 1) := by decide +kernel
def K_PB_merge : KM := (⟨"ParishBoards", "merge", "(III)I"⟩, prog_1_method_16_code, 4, (some (.int)), "ParishBoards", ([(18, 2), (50, 0)], []))
theorem d_PB_merge_0 : decode (kB K_PB_merge) 0 = .ok (.aload_n 0, 1) := by decide +kernel
theorem d_PB_merge_1 : decode (kB K_PB_merge) 1 = .ok (.iload_n 1, 1) := by decide +kernel
theorem d_PB_merge_2 : decode (kB K_PB_merge) 2 = .ok (.iload_n 2, 1) := by decide +kernel
theorem d_PB_merge_3 : decode (kB K_PB_merge) 3 = .ok (.invokevirtual 154, 3) := by decide +kernel
theorem d_PB_merge_6 : decode (kB K_PB_merge) 6 = .ok (.ifCond .eq 12, 3) := by decide +kernel
theorem d_PB_merge_9 : decode (kB K_PB_merge) 9 = .ok (.iload_n 3, 1) := by decide +kernel
theorem d_PB_merge_10 : decode (kB K_PB_merge) 10 = .ok (.ifCond .lt 8, 3) := by decide +kernel
theorem d_PB_merge_13 : decode (kB K_PB_merge) 13 = .ok (.iload_n 3, 1) := by decide +kernel
theorem d_PB_merge_14 : decode (kB K_PB_merge) 14 = .ok (.iconst 2, 1) := by decide +kernel
theorem d_PB_merge_15 : decode (kB K_PB_merge) 15 = .ok (.if_icmp .le 13, 3) := by decide +kernel
theorem d_PB_merge_18 : decode (kB K_PB_merge) 18 = .ok (.new 105, 3) := by decide +kernel
theorem d_PB_merge_21 : decode (kB K_PB_merge) 21 = .ok (.dup, 1) := by decide +kernel
theorem d_PB_merge_22 : decode (kB K_PB_merge) 22 = .ok (.ldc 204, 2) := by decide +kernel
theorem d_PB_merge_24 : decode (kB K_PB_merge) 24 = .ok (.invokespecial 109, 3) := by decide +kernel
theorem d_PB_merge_27 : decode (kB K_PB_merge) 27 = .ok (.athrow, 1) := by decide +kernel
theorem d_PB_merge_28 : decode (kB K_PB_merge) 28 = .ok (.aload_n 0, 1) := by decide +kernel
theorem d_PB_merge_29 : decode (kB K_PB_merge) 29 = .ok (.getfield 58, 3) := by decide +kernel
theorem d_PB_merge_32 : decode (kB K_PB_merge) 32 = .ok (.invokevirtual 181, 3) := by decide +kernel
theorem d_PB_merge_35 : decode (kB K_PB_merge) 35 = .ok (.ifCond .ne 15, 3) := by decide +kernel
theorem d_PB_merge_38 : decode (kB K_PB_merge) 38 = .ok (.aload_n 0, 1) := by decide +kernel
theorem d_PB_merge_39 : decode (kB K_PB_merge) 39 = .ok (.getfield 58, 3) := by decide +kernel
theorem d_PB_merge_42 : decode (kB K_PB_merge) 42 = .ok (.iload_n 1, 1) := by decide +kernel
theorem d_PB_merge_43 : decode (kB K_PB_merge) 43 = .ok (.iload_n 2, 1) := by decide +kernel
theorem d_PB_merge_44 : decode (kB K_PB_merge) 44 = .ok (.invokevirtual 206, 3) := by decide +kernel
theorem d_PB_merge_47 : decode (kB K_PB_merge) 47 = .ok (.ifCond .ne 13, 3) := by decide +kernel
theorem d_PB_merge_50 : decode (kB K_PB_merge) 50 = .ok (.new 65, 3) := by decide +kernel
theorem d_PB_merge_53 : decode (kB K_PB_merge) 53 = .ok (.dup, 1) := by decide +kernel
theorem d_PB_merge_54 : decode (kB K_PB_merge) 54 = .ok (.ldc 209, 2) := by decide +kernel
theorem d_PB_merge_56 : decode (kB K_PB_merge) 56 = .ok (.invokespecial 69, 3) := by decide +kernel
theorem d_PB_merge_59 : decode (kB K_PB_merge) 59 = .ok (.athrow, 1) := by decide +kernel
theorem d_PB_merge_60 : decode (kB K_PB_merge) 60 = .ok (.aload_n 0, 1) := by decide +kernel
theorem d_PB_merge_61 : decode (kB K_PB_merge) 61 = .ok (.getfield 58, 3) := by decide +kernel
theorem d_PB_merge_64 : decode (kB K_PB_merge) 64 = .ok (.iload_n 1, 1) := by decide +kernel
theorem d_PB_merge_65 : decode (kB K_PB_merge) 65 = .ok (.iload_n 2, 1) := by decide +kernel
theorem d_PB_merge_66 : decode (kB K_PB_merge) 66 = .ok (.iload_n 3, 1) := by decide +kernel
theorem d_PB_merge_67 : decode (kB K_PB_merge) 67 = .ok (.invokevirtual 211, 3) := by decide +kernel
theorem d_PB_merge_70 : decode (kB K_PB_merge) 70 = .ok (.ireturn, 1) := by decide +kernel
def K_PB_send : KM := (⟨"ParishBoards", "send", "(I)I"⟩, prog_1_method_17_code, 2, (some (.int)), "ParishBoards", ([(8, 2)], []))
theorem d_PB_send_0 : decode (kB K_PB_send) 0 = .ok (.aload_n 0, 1) := by decide +kernel
theorem d_PB_send_1 : decode (kB K_PB_send) 1 = .ok (.iload_n 1, 1) := by decide +kernel
theorem d_PB_send_2 : decode (kB K_PB_send) 2 = .ok (.invokevirtual 171, 3) := by decide +kernel
theorem d_PB_send_5 : decode (kB K_PB_send) 5 = .ok (.ifCond .ne 13, 3) := by decide +kernel
theorem d_PB_send_8 : decode (kB K_PB_send) 8 = .ok (.new 105, 3) := by decide +kernel
theorem d_PB_send_11 : decode (kB K_PB_send) 11 = .ok (.dup, 1) := by decide +kernel
theorem d_PB_send_12 : decode (kB K_PB_send) 12 = .ok (.ldc 214, 2) := by decide +kernel
theorem d_PB_send_14 : decode (kB K_PB_send) 14 = .ok (.invokespecial 109, 3) := by decide +kernel
theorem d_PB_send_17 : decode (kB K_PB_send) 17 = .ok (.athrow, 1) := by decide +kernel
theorem d_PB_send_18 : decode (kB K_PB_send) 18 = .ok (.aload_n 0, 1) := by decide +kernel
theorem d_PB_send_19 : decode (kB K_PB_send) 19 = .ok (.getfield 58, 3) := by decide +kernel
theorem d_PB_send_22 : decode (kB K_PB_send) 22 = .ok (.iload_n 1, 1) := by decide +kernel
theorem d_PB_send_23 : decode (kB K_PB_send) 23 = .ok (.invokevirtual 216, 3) := by decide +kernel
theorem d_PB_send_26 : decode (kB K_PB_send) 26 = .ok (.ireturn, 1) := by decide +kernel
def K_PB_setDays : KM := (⟨"ParishBoards", "setDays", "(II)I"⟩, prog_1_method_18_code, 4, (some (.int)), "ParishBoards", ([(8, 2), (29, 1)], []))
theorem d_PB_setDays_0 : decode (kB K_PB_setDays) 0 = .ok (.aload_n 0, 1) := by decide +kernel
theorem d_PB_setDays_1 : decode (kB K_PB_setDays) 1 = .ok (.iload_n 1, 1) := by decide +kernel
theorem d_PB_setDays_2 : decode (kB K_PB_setDays) 2 = .ok (.invokevirtual 171, 3) := by decide +kernel
theorem d_PB_setDays_5 : decode (kB K_PB_setDays) 5 = .ok (.ifCond .ne 13, 3) := by decide +kernel
theorem d_PB_setDays_8 : decode (kB K_PB_setDays) 8 = .ok (.new 105, 3) := by decide +kernel
theorem d_PB_setDays_11 : decode (kB K_PB_setDays) 11 = .ok (.dup, 1) := by decide +kernel
theorem d_PB_setDays_12 : decode (kB K_PB_setDays) 12 = .ok (.ldc 214, 2) := by decide +kernel
theorem d_PB_setDays_14 : decode (kB K_PB_setDays) 14 = .ok (.invokespecial 109, 3) := by decide +kernel
theorem d_PB_setDays_17 : decode (kB K_PB_setDays) 17 = .ok (.athrow, 1) := by decide +kernel
theorem d_PB_setDays_18 : decode (kB K_PB_setDays) 18 = .ok (.iload_n 2, 1) := by decide +kernel
theorem d_PB_setDays_19 : decode (kB K_PB_setDays) 19 = .ok (.iconst 1, 1) := by decide +kernel
theorem d_PB_setDays_20 : decode (kB K_PB_setDays) 20 = .ok (.if_icmp .lt 9, 3) := by decide +kernel
theorem d_PB_setDays_23 : decode (kB K_PB_setDays) 23 = .ok (.iload_n 2, 1) := by decide +kernel
theorem d_PB_setDays_24 : decode (kB K_PB_setDays) 24 = .ok (.bipush 9, 2) := by decide +kernel
theorem d_PB_setDays_26 : decode (kB K_PB_setDays) 26 = .ok (.if_icmp .le 13, 3) := by decide +kernel
theorem d_PB_setDays_29 : decode (kB K_PB_setDays) 29 = .ok (.new 76, 3) := by decide +kernel
theorem d_PB_setDays_32 : decode (kB K_PB_setDays) 32 = .ok (.dup, 1) := by decide +kernel
theorem d_PB_setDays_33 : decode (kB K_PB_setDays) 33 = .ok (.ldc 219, 2) := by decide +kernel
theorem d_PB_setDays_35 : decode (kB K_PB_setDays) 35 = .ok (.invokespecial 80, 3) := by decide +kernel
theorem d_PB_setDays_38 : decode (kB K_PB_setDays) 38 = .ok (.athrow, 1) := by decide +kernel
theorem d_PB_setDays_39 : decode (kB K_PB_setDays) 39 = .ok (.aload_n 0, 1) := by decide +kernel
theorem d_PB_setDays_40 : decode (kB K_PB_setDays) 40 = .ok (.getfield 58, 3) := by decide +kernel
theorem d_PB_setDays_43 : decode (kB K_PB_setDays) 43 = .ok (.getfield 221, 3) := by decide +kernel
theorem d_PB_setDays_46 : decode (kB K_PB_setDays) 46 = .ok (.iload_n 1, 1) := by decide +kernel
theorem d_PB_setDays_47 : decode (kB K_PB_setDays) 47 = .ok (.aaload, 1) := by decide +kernel
theorem d_PB_setDays_48 : decode (kB K_PB_setDays) 48 = .ok (.getfield 225, 3) := by decide +kernel
theorem d_PB_setDays_51 : decode (kB K_PB_setDays) 51 = .ok (.istore_n 3, 1) := by decide +kernel
theorem d_PB_setDays_52 : decode (kB K_PB_setDays) 52 = .ok (.aload_n 0, 1) := by decide +kernel
theorem d_PB_setDays_53 : decode (kB K_PB_setDays) 53 = .ok (.getfield 58, 3) := by decide +kernel
theorem d_PB_setDays_56 : decode (kB K_PB_setDays) 56 = .ok (.getfield 221, 3) := by decide +kernel
theorem d_PB_setDays_59 : decode (kB K_PB_setDays) 59 = .ok (.iload_n 1, 1) := by decide +kernel
theorem d_PB_setDays_60 : decode (kB K_PB_setDays) 60 = .ok (.aaload, 1) := by decide +kernel
theorem d_PB_setDays_61 : decode (kB K_PB_setDays) 61 = .ok (.iload_n 2, 1) := by decide +kernel
theorem d_PB_setDays_62 : decode (kB K_PB_setDays) 62 = .ok (.putfield 225, 3) := by decide +kernel
theorem d_PB_setDays_65 : decode (kB K_PB_setDays) 65 = .ok (.iload_n 3, 1) := by decide +kernel
theorem d_PB_setDays_66 : decode (kB K_PB_setDays) 66 = .ok (.ireturn, 1) := by decide +kernel
def K_PB_pass : KM := (⟨"ParishBoards", "pass", "(I)I"⟩, prog_1_method_19_code, 3, (some (.int)), "ParishBoards", ([(11, 1)], []))
theorem d_PB_pass_0 : decode (kB K_PB_pass) 0 = .ok (.iload_n 1, 1) := by decide +kernel
theorem d_PB_pass_1 : decode (kB K_PB_pass) 1 = .ok (.iconst 1, 1) := by decide +kernel
theorem d_PB_pass_2 : decode (kB K_PB_pass) 2 = .ok (.if_icmp .lt 9, 3) := by decide +kernel
theorem d_PB_pass_5 : decode (kB K_PB_pass) 5 = .ok (.iload_n 1, 1) := by decide +kernel
theorem d_PB_pass_6 : decode (kB K_PB_pass) 6 = .ok (.bipush 60, 2) := by decide +kernel
theorem d_PB_pass_8 : decode (kB K_PB_pass) 8 = .ok (.if_icmp .le 13, 3) := by decide +kernel
theorem d_PB_pass_11 : decode (kB K_PB_pass) 11 = .ok (.new 76, 3) := by decide +kernel
theorem d_PB_pass_14 : decode (kB K_PB_pass) 14 = .ok (.dup, 1) := by decide +kernel
theorem d_PB_pass_15 : decode (kB K_PB_pass) 15 = .ok (.ldc 219, 2) := by decide +kernel
theorem d_PB_pass_17 : decode (kB K_PB_pass) 17 = .ok (.invokespecial 80, 3) := by decide +kernel
theorem d_PB_pass_20 : decode (kB K_PB_pass) 20 = .ok (.athrow, 1) := by decide +kernel
theorem d_PB_pass_21 : decode (kB K_PB_pass) 21 = .ok (.aload_n 0, 1) := by decide +kernel
theorem d_PB_pass_22 : decode (kB K_PB_pass) 22 = .ok (.getfield 58, 3) := by decide +kernel
theorem d_PB_pass_25 : decode (kB K_PB_pass) 25 = .ok (.getfield 230, 3) := by decide +kernel
theorem d_PB_pass_28 : decode (kB K_PB_pass) 28 = .ok (.istore_n 2, 1) := by decide +kernel
theorem d_PB_pass_29 : decode (kB K_PB_pass) 29 = .ok (.aload_n 0, 1) := by decide +kernel
theorem d_PB_pass_30 : decode (kB K_PB_pass) 30 = .ok (.getfield 58, 3) := by decide +kernel
theorem d_PB_pass_33 : decode (kB K_PB_pass) 33 = .ok (.iload_n 1, 1) := by decide +kernel
theorem d_PB_pass_34 : decode (kB K_PB_pass) 34 = .ok (.invokevirtual 233, 3) := by decide +kernel
theorem d_PB_pass_37 : decode (kB K_PB_pass) 37 = .ok (.aload_n 0, 1) := by decide +kernel
theorem d_PB_pass_38 : decode (kB K_PB_pass) 38 = .ok (.getfield 58, 3) := by decide +kernel
theorem d_PB_pass_41 : decode (kB K_PB_pass) 41 = .ok (.getfield 230, 3) := by decide +kernel
theorem d_PB_pass_44 : decode (kB K_PB_pass) 44 = .ok (.iload_n 2, 1) := by decide +kernel
theorem d_PB_pass_45 : decode (kB K_PB_pass) 45 = .ok (.isub, 1) := by decide +kernel
theorem d_PB_pass_46 : decode (kB K_PB_pass) 46 = .ok (.ireturn, 1) := by decide +kernel
def K_PB_alike : KM := (⟨"ParishBoards", "alike", "()Z"⟩, prog_1_method_22_code, 2, (some (.boolean)), "ParishBoards", ([], []))
theorem d_PB_alike_0 : decode (kB K_PB_alike) 0 = .ok (.iconst 1, 1) := by decide +kernel
theorem d_PB_alike_1 : decode (kB K_PB_alike) 1 = .ok (.istore_n 1, 1) := by decide +kernel
theorem d_PB_alike_2 : decode (kB K_PB_alike) 2 = .ok (.iload_n 1, 1) := by decide +kernel
theorem d_PB_alike_3 : decode (kB K_PB_alike) 3 = .ok (.aload_n 0, 1) := by decide +kernel
theorem d_PB_alike_4 : decode (kB K_PB_alike) 4 = .ok (.getfield 23, 3) := by decide +kernel
theorem d_PB_alike_7 : decode (kB K_PB_alike) 7 = .ok (.getfield 250, 3) := by decide +kernel
theorem d_PB_alike_10 : decode (kB K_PB_alike) 10 = .ok (.if_icmp .ge 35, 3) := by decide +kernel
theorem d_PB_alike_13 : decode (kB K_PB_alike) 13 = .ok (.aload_n 0, 1) := by decide +kernel
theorem d_PB_alike_14 : decode (kB K_PB_alike) 14 = .ok (.getfield 58, 3) := by decide +kernel
theorem d_PB_alike_17 : decode (kB K_PB_alike) 17 = .ok (.getfield 125, 3) := by decide +kernel
theorem d_PB_alike_20 : decode (kB K_PB_alike) 20 = .ok (.iload_n 1, 1) := by decide +kernel
theorem d_PB_alike_21 : decode (kB K_PB_alike) 21 = .ok (.aaload, 1) := by decide +kernel
theorem d_PB_alike_22 : decode (kB K_PB_alike) 22 = .ok (.aload_n 0, 1) := by decide +kernel
theorem d_PB_alike_23 : decode (kB K_PB_alike) 23 = .ok (.getfield 58, 3) := by decide +kernel
theorem d_PB_alike_26 : decode (kB K_PB_alike) 26 = .ok (.getfield 125, 3) := by decide +kernel
theorem d_PB_alike_29 : decode (kB K_PB_alike) 29 = .ok (.iconst 0, 1) := by decide +kernel
theorem d_PB_alike_30 : decode (kB K_PB_alike) 30 = .ok (.aaload, 1) := by decide +kernel
theorem d_PB_alike_31 : decode (kB K_PB_alike) 31 = .ok (.invokevirtual 253, 3) := by decide +kernel
theorem d_PB_alike_34 : decode (kB K_PB_alike) 34 = .ok (.ifCond .ne 5, 3) := by decide +kernel
theorem d_PB_alike_37 : decode (kB K_PB_alike) 37 = .ok (.iconst 0, 1) := by decide +kernel
theorem d_PB_alike_38 : decode (kB K_PB_alike) 38 = .ok (.ireturn, 1) := by decide +kernel
theorem d_PB_alike_39 : decode (kB K_PB_alike) 39 = .ok (.iinc 1 1, 3) := by decide +kernel
theorem d_PB_alike_42 : decode (kB K_PB_alike) 42 = .ok (.goto (-40), 3) := by decide +kernel
theorem d_PB_alike_45 : decode (kB K_PB_alike) 45 = .ok (.iconst 1, 1) := by decide +kernel
theorem d_PB_alike_46 : decode (kB K_PB_alike) 46 = .ok (.ireturn, 1) := by decide +kernel
def K_PB_missed : KM := (⟨"ParishBoards", "missed", "()I"⟩, prog_1_method_23_code, 2, (some (.int)), "ParishBoards", ([], []))
theorem d_PB_missed_0 : decode (kB K_PB_missed) 0 = .ok (.iconst 0, 1) := by decide +kernel
theorem d_PB_missed_1 : decode (kB K_PB_missed) 1 = .ok (.istore_n 1, 1) := by decide +kernel
theorem d_PB_missed_2 : decode (kB K_PB_missed) 2 = .ok (.iload_n 1, 1) := by decide +kernel
theorem d_PB_missed_3 : decode (kB K_PB_missed) 3 = .ok (.aload_n 0, 1) := by decide +kernel
theorem d_PB_missed_4 : decode (kB K_PB_missed) 4 = .ok (.getfield 58, 3) := by decide +kernel
theorem d_PB_missed_7 : decode (kB K_PB_missed) 7 = .ok (.getfield 257, 3) := by decide +kernel
theorem d_PB_missed_10 : decode (kB K_PB_missed) 10 = .ok (.if_icmp .ge 29, 3) := by decide +kernel
theorem d_PB_missed_13 : decode (kB K_PB_missed) 13 = .ok (.aload_n 0, 1) := by decide +kernel
theorem d_PB_missed_14 : decode (kB K_PB_missed) 14 = .ok (.getfield 58, 3) := by decide +kernel
theorem d_PB_missed_17 : decode (kB K_PB_missed) 17 = .ok (.iload_n 1, 1) := by decide +kernel
theorem d_PB_missed_18 : decode (kB K_PB_missed) 18 = .ok (.invokevirtual 260, 3) := by decide +kernel
theorem d_PB_missed_21 : decode (kB K_PB_missed) 21 = .ok (.aload_n 0, 1) := by decide +kernel
theorem d_PB_missed_22 : decode (kB K_PB_missed) 22 = .ok (.getfield 23, 3) := by decide +kernel
theorem d_PB_missed_25 : decode (kB K_PB_missed) 25 = .ok (.getfield 250, 3) := by decide +kernel
theorem d_PB_missed_28 : decode (kB K_PB_missed) 28 = .ok (.if_icmp .ge 5, 3) := by decide +kernel
theorem d_PB_missed_31 : decode (kB K_PB_missed) 31 = .ok (.iload_n 1, 1) := by decide +kernel
theorem d_PB_missed_32 : decode (kB K_PB_missed) 32 = .ok (.ireturn, 1) := by decide +kernel
theorem d_PB_missed_33 : decode (kB K_PB_missed) 33 = .ok (.iinc 1 1, 3) := by decide +kernel
theorem d_PB_missed_36 : decode (kB K_PB_missed) 36 = .ok (.goto (-34), 3) := by decide +kernel
theorem d_PB_missed_39 : decode (kB K_PB_missed) 39 = .ok (.iconst (-1), 1) := by decide +kernel
theorem d_PB_missed_40 : decode (kB K_PB_missed) 40 = .ok (.ireturn, 1) := by decide +kernel
def K_PB_mean : KM := (⟨"ParishBoards", "mean", "()D"⟩, prog_1_method_25_code, 1, (some (.double)), "ParishBoards", ([], []))
theorem d_PB_mean_0 : decode (kB K_PB_mean) 0 = .ok (.aload_n 0, 1) := by decide +kernel
theorem d_PB_mean_1 : decode (kB K_PB_mean) 1 = .ok (.getfield 23, 3) := by decide +kernel
theorem d_PB_mean_4 : decode (kB K_PB_mean) 4 = .ok (.getfield 250, 3) := by decide +kernel
theorem d_PB_mean_7 : decode (kB K_PB_mean) 7 = .ok (.ifCond .ne 5, 3) := by decide +kernel
theorem d_PB_mean_10 : decode (kB K_PB_mean) 10 = .ok (.dconst 0, 1) := by decide +kernel
theorem d_PB_mean_11 : decode (kB K_PB_mean) 11 = .ok (.dreturn, 1) := by decide +kernel
theorem d_PB_mean_12 : decode (kB K_PB_mean) 12 = .ok (.aload_n 0, 1) := by decide +kernel
theorem d_PB_mean_13 : decode (kB K_PB_mean) 13 = .ok (.getfield 58, 3) := by decide +kernel
theorem d_PB_mean_16 : decode (kB K_PB_mean) 16 = .ok (.invokevirtual 266, 3) := by decide +kernel
theorem d_PB_mean_19 : decode (kB K_PB_mean) 19 = .ok (.i2d, 1) := by decide +kernel
theorem d_PB_mean_20 : decode (kB K_PB_mean) 20 = .ok (.aload_n 0, 1) := by decide +kernel
theorem d_PB_mean_21 : decode (kB K_PB_mean) 21 = .ok (.getfield 23, 3) := by decide +kernel
theorem d_PB_mean_24 : decode (kB K_PB_mean) 24 = .ok (.getfield 250, 3) := by decide +kernel
theorem d_PB_mean_27 : decode (kB K_PB_mean) 27 = .ok (.i2d, 1) := by decide +kernel
theorem d_PB_mean_28 : decode (kB K_PB_mean) 28 = .ok (.ddiv, 1) := by decide +kernel
theorem d_PB_mean_29 : decode (kB K_PB_mean) 29 = .ok (.dreturn, 1) := by decide +kernel
