/-! methods and their instructions -/
def K_SI_counted : KM := (⟨"ParishBoardsLaw$Sim", "counted", "(I)I"⟩, prog_15_method_22_code, 9, (some (.int)), "ParishBoardsLaw$Sim", ([], []))
theorem d_SI_counted_0 : decode (kB K_SI_counted) 0 = .ok (.iconst 0, 1) := by decide +kernel
theorem d_SI_counted_1 : decode (kB K_SI_counted) 1 = .ok (.istore_n 2, 1) := by decide +kernel
theorem d_SI_counted_2 : decode (kB K_SI_counted) 2 = .ok (.iconst 0, 1) := by decide +kernel
theorem d_SI_counted_3 : decode (kB K_SI_counted) 3 = .ok (.istore_n 3, 1) := by decide +kernel
theorem d_SI_counted_4 : decode (kB K_SI_counted) 4 = .ok (.iconst 0, 1) := by decide +kernel
theorem d_SI_counted_5 : decode (kB K_SI_counted) 5 = .ok (.istore 4, 2) := by decide +kernel
theorem d_SI_counted_7 : decode (kB K_SI_counted) 7 = .ok (.aload_n 0, 1) := by decide +kernel
theorem d_SI_counted_8 : decode (kB K_SI_counted) 8 = .ok (.getfield 24, 3) := by decide +kernel
theorem d_SI_counted_11 : decode (kB K_SI_counted) 11 = .ok (.astore 5, 2) := by decide +kernel
theorem d_SI_counted_13 : decode (kB K_SI_counted) 13 = .ok (.aload 5, 2) := by decide +kernel
theorem d_SI_counted_15 : decode (kB K_SI_counted) 15 = .ok (.arraylength, 1) := by decide +kernel
theorem d_SI_counted_16 : decode (kB K_SI_counted) 16 = .ok (.istore 6, 2) := by decide +kernel
theorem d_SI_counted_18 : decode (kB K_SI_counted) 18 = .ok (.iconst 0, 1) := by decide +kernel
theorem d_SI_counted_19 : decode (kB K_SI_counted) 19 = .ok (.istore 7, 2) := by decide +kernel
theorem d_SI_counted_21 : decode (kB K_SI_counted) 21 = .ok (.iload 7, 2) := by decide +kernel
theorem d_SI_counted_23 : decode (kB K_SI_counted) 23 = .ok (.iload 6, 2) := by decide +kernel
theorem d_SI_counted_25 : decode (kB K_SI_counted) 25 = .ok (.if_icmp .ge 24, 3) := by decide +kernel
theorem d_SI_counted_28 : decode (kB K_SI_counted) 28 = .ok (.aload 5, 2) := by decide +kernel
theorem d_SI_counted_30 : decode (kB K_SI_counted) 30 = .ok (.iload 7, 2) := by decide +kernel
theorem d_SI_counted_32 : decode (kB K_SI_counted) 32 = .ok (.aaload, 1) := by decide +kernel
theorem d_SI_counted_33 : decode (kB K_SI_counted) 33 = .ok (.astore 8, 2) := by decide +kernel
theorem d_SI_counted_35 : decode (kB K_SI_counted) 35 = .ok (.iload_n 2, 1) := by decide +kernel
theorem d_SI_counted_36 : decode (kB K_SI_counted) 36 = .ok (.aload 8, 2) := by decide +kernel
theorem d_SI_counted_38 : decode (kB K_SI_counted) 38 = .ok (.arraylength, 1) := by decide +kernel
theorem d_SI_counted_39 : decode (kB K_SI_counted) 39 = .ok (.iconst 2, 1) := by decide +kernel
theorem d_SI_counted_40 : decode (kB K_SI_counted) 40 = .ok (.isub, 1) := by decide +kernel
theorem d_SI_counted_41 : decode (kB K_SI_counted) 41 = .ok (.iadd, 1) := by decide +kernel
theorem d_SI_counted_42 : decode (kB K_SI_counted) 42 = .ok (.istore_n 2, 1) := by decide +kernel
theorem d_SI_counted_43 : decode (kB K_SI_counted) 43 = .ok (.iinc 7 1, 3) := by decide +kernel
theorem d_SI_counted_46 : decode (kB K_SI_counted) 46 = .ok (.goto (-25), 3) := by decide +kernel
theorem d_SI_counted_49 : decode (kB K_SI_counted) 49 = .ok (.iconst 0, 1) := by decide +kernel
theorem d_SI_counted_50 : decode (kB K_SI_counted) 50 = .ok (.istore 5, 2) := by decide +kernel
theorem d_SI_counted_52 : decode (kB K_SI_counted) 52 = .ok (.iload 5, 2) := by decide +kernel
theorem d_SI_counted_54 : decode (kB K_SI_counted) 54 = .ok (.aload_n 0, 1) := by decide +kernel
theorem d_SI_counted_55 : decode (kB K_SI_counted) 55 = .ok (.getfield 30, 3) := by decide +kernel
theorem d_SI_counted_58 : decode (kB K_SI_counted) 58 = .ok (.if_icmp .ge 63, 3) := by decide +kernel
theorem d_SI_counted_61 : decode (kB K_SI_counted) 61 = .ok (.iload_n 3, 1) := by decide +kernel
theorem d_SI_counted_62 : decode (kB K_SI_counted) 62 = .ok (.aload_n 0, 1) := by decide +kernel
theorem d_SI_counted_63 : decode (kB K_SI_counted) 63 = .ok (.getfield 44, 3) := by decide +kernel
theorem d_SI_counted_66 : decode (kB K_SI_counted) 66 = .ok (.iload 5, 2) := by decide +kernel
theorem d_SI_counted_68 : decode (kB K_SI_counted) 68 = .ok (.aaload, 1) := by decide +kernel
theorem d_SI_counted_69 : decode (kB K_SI_counted) 69 = .ok (.invokestatic 102, 3) := by decide +kernel
theorem d_SI_counted_72 : decode (kB K_SI_counted) 72 = .ok (.iadd, 1) := by decide +kernel
theorem d_SI_counted_73 : decode (kB K_SI_counted) 73 = .ok (.istore_n 3, 1) := by decide +kernel
theorem d_SI_counted_74 : decode (kB K_SI_counted) 74 = .ok (.iconst 0, 1) := by decide +kernel
theorem d_SI_counted_75 : decode (kB K_SI_counted) 75 = .ok (.istore 6, 2) := by decide +kernel
theorem d_SI_counted_77 : decode (kB K_SI_counted) 77 = .ok (.iload 6, 2) := by decide +kernel
theorem d_SI_counted_79 : decode (kB K_SI_counted) 79 = .ok (.aload_n 0, 1) := by decide +kernel
theorem d_SI_counted_80 : decode (kB K_SI_counted) 80 = .ok (.getfield 34, 3) := by decide +kernel
theorem d_SI_counted_83 : decode (kB K_SI_counted) 83 = .ok (.if_icmp .ge 32, 3) := by decide +kernel
theorem d_SI_counted_86 : decode (kB K_SI_counted) 86 = .ok (.iload 4, 2) := by decide +kernel
theorem d_SI_counted_88 : decode (kB K_SI_counted) 88 = .ok (.aload_n 0, 1) := by decide +kernel
theorem d_SI_counted_89 : decode (kB K_SI_counted) 89 = .ok (.iload 5, 2) := by decide +kernel
theorem d_SI_counted_91 : decode (kB K_SI_counted) 91 = .ok (.iload 6, 2) := by decide +kernel
theorem d_SI_counted_93 : decode (kB K_SI_counted) 93 = .ok (.invokevirtual 72, 3) := by decide +kernel
theorem d_SI_counted_96 : decode (kB K_SI_counted) 96 = .ok (.arraylength, 1) := by decide +kernel
theorem d_SI_counted_97 : decode (kB K_SI_counted) 97 = .ok (.iconst 1, 1) := by decide +kernel
theorem d_SI_counted_98 : decode (kB K_SI_counted) 98 = .ok (.if_icmp .le 7, 3) := by decide +kernel
theorem d_SI_counted_101 : decode (kB K_SI_counted) 101 = .ok (.iconst 1, 1) := by decide +kernel
theorem d_SI_counted_102 : decode (kB K_SI_counted) 102 = .ok (.goto 4, 3) := by decide +kernel
theorem d_SI_counted_105 : decode (kB K_SI_counted) 105 = .ok (.iconst 0, 1) := by decide +kernel
theorem d_SI_counted_106 : decode (kB K_SI_counted) 106 = .ok (.iadd, 1) := by decide +kernel
theorem d_SI_counted_107 : decode (kB K_SI_counted) 107 = .ok (.istore 4, 2) := by decide +kernel
theorem d_SI_counted_109 : decode (kB K_SI_counted) 109 = .ok (.iinc 6 1, 3) := by decide +kernel
theorem d_SI_counted_112 : decode (kB K_SI_counted) 112 = .ok (.goto (-35), 3) := by decide +kernel
theorem d_SI_counted_115 : decode (kB K_SI_counted) 115 = .ok (.iinc 5 1, 3) := by decide +kernel
theorem d_SI_counted_118 : decode (kB K_SI_counted) 118 = .ok (.goto (-66), 3) := by decide +kernel
theorem d_SI_counted_121 : decode (kB K_SI_counted) 121 = .ok (.bipush 13, 2) := by decide +kernel
theorem d_SI_counted_123 : decode (kB K_SI_counted) 123 = .ok (.newarray .int, 2) := by decide +kernel
theorem d_SI_counted_125 : decode (kB K_SI_counted) 125 = .ok (.dup, 1) := by decide +kernel
theorem d_SI_counted_126 : decode (kB K_SI_counted) 126 = .ok (.iconst 0, 1) := by decide +kernel
theorem d_SI_counted_127 : decode (kB K_SI_counted) 127 = .ok (.aload_n 0, 1) := by decide +kernel
theorem d_SI_counted_128 : decode (kB K_SI_counted) 128 = .ok (.getfield 52, 3) := by decide +kernel
theorem d_SI_counted_131 : decode (kB K_SI_counted) 131 = .ok (.iastore, 1) := by decide +kernel
theorem d_SI_counted_132 : decode (kB K_SI_counted) 132 = .ok (.dup, 1) := by decide +kernel
theorem d_SI_counted_133 : decode (kB K_SI_counted) 133 = .ok (.iconst 1, 1) := by decide +kernel
theorem d_SI_counted_134 : decode (kB K_SI_counted) 134 = .ok (.aload_n 0, 1) := by decide +kernel
theorem d_SI_counted_135 : decode (kB K_SI_counted) 135 = .ok (.getfield 30, 3) := by decide +kernel
theorem d_SI_counted_138 : decode (kB K_SI_counted) 138 = .ok (.iastore, 1) := by decide +kernel
theorem d_SI_counted_139 : decode (kB K_SI_counted) 139 = .ok (.dup, 1) := by decide +kernel
theorem d_SI_counted_140 : decode (kB K_SI_counted) 140 = .ok (.iconst 2, 1) := by decide +kernel
theorem d_SI_counted_141 : decode (kB K_SI_counted) 141 = .ok (.aload_n 0, 1) := by decide +kernel
theorem d_SI_counted_142 : decode (kB K_SI_counted) 142 = .ok (.getfield 34, 3) := by decide +kernel
theorem d_SI_counted_145 : decode (kB K_SI_counted) 145 = .ok (.iastore, 1) := by decide +kernel
theorem d_SI_counted_146 : decode (kB K_SI_counted) 146 = .ok (.dup, 1) := by decide +kernel
theorem d_SI_counted_147 : decode (kB K_SI_counted) 147 = .ok (.iconst 3, 1) := by decide +kernel
theorem d_SI_counted_148 : decode (kB K_SI_counted) 148 = .ok (.aload_n 0, 1) := by decide +kernel
theorem d_SI_counted_149 : decode (kB K_SI_counted) 149 = .ok (.getfield 21, 3) := by decide +kernel
theorem d_SI_counted_152 : decode (kB K_SI_counted) 152 = .ok (.arraylength, 1) := by decide +kernel
theorem d_SI_counted_153 : decode (kB K_SI_counted) 153 = .ok (.iastore, 1) := by decide +kernel
theorem d_SI_counted_154 : decode (kB K_SI_counted) 154 = .ok (.dup, 1) := by decide +kernel
theorem d_SI_counted_155 : decode (kB K_SI_counted) 155 = .ok (.iconst 4, 1) := by decide +kernel
theorem d_SI_counted_156 : decode (kB K_SI_counted) 156 = .ok (.aload_n 0, 1) := by decide +kernel
theorem d_SI_counted_157 : decode (kB K_SI_counted) 157 = .ok (.getfield 27, 3) := by decide +kernel
theorem d_SI_counted_160 : decode (kB K_SI_counted) 160 = .ok (.arraylength, 1) := by decide +kernel
theorem d_SI_counted_161 : decode (kB K_SI_counted) 161 = .ok (.iastore, 1) := by decide +kernel
theorem d_SI_counted_162 : decode (kB K_SI_counted) 162 = .ok (.dup, 1) := by decide +kernel
theorem d_SI_counted_163 : decode (kB K_SI_counted) 163 = .ok (.iconst 5, 1) := by decide +kernel
theorem d_SI_counted_164 : decode (kB K_SI_counted) 164 = .ok (.aload_n 0, 1) := by decide +kernel
theorem d_SI_counted_165 : decode (kB K_SI_counted) 165 = .ok (.getfield 9, 3) := by decide +kernel
theorem d_SI_counted_168 : decode (kB K_SI_counted) 168 = .ok (.arraylength, 1) := by decide +kernel
theorem d_SI_counted_169 : decode (kB K_SI_counted) 169 = .ok (.iastore, 1) := by decide +kernel
theorem d_SI_counted_170 : decode (kB K_SI_counted) 170 = .ok (.dup, 1) := by decide +kernel
theorem d_SI_counted_171 : decode (kB K_SI_counted) 171 = .ok (.bipush 6, 2) := by decide +kernel
theorem d_SI_counted_173 : decode (kB K_SI_counted) 173 = .ok (.iload_n 2, 1) := by decide +kernel
theorem d_SI_counted_174 : decode (kB K_SI_counted) 174 = .ok (.iastore, 1) := by decide +kernel
theorem d_SI_counted_175 : decode (kB K_SI_counted) 175 = .ok (.dup, 1) := by decide +kernel
theorem d_SI_counted_176 : decode (kB K_SI_counted) 176 = .ok (.bipush 7, 2) := by decide +kernel
theorem d_SI_counted_178 : decode (kB K_SI_counted) 178 = .ok (.iload_n 3, 1) := by decide +kernel
theorem d_SI_counted_179 : decode (kB K_SI_counted) 179 = .ok (.iastore, 1) := by decide +kernel
theorem d_SI_counted_180 : decode (kB K_SI_counted) 180 = .ok (.dup, 1) := by decide +kernel
theorem d_SI_counted_181 : decode (kB K_SI_counted) 181 = .ok (.bipush 8, 2) := by decide +kernel
theorem d_SI_counted_183 : decode (kB K_SI_counted) 183 = .ok (.iload 4, 2) := by decide +kernel
theorem d_SI_counted_185 : decode (kB K_SI_counted) 185 = .ok (.iastore, 1) := by decide +kernel
theorem d_SI_counted_186 : decode (kB K_SI_counted) 186 = .ok (.dup, 1) := by decide +kernel
theorem d_SI_counted_187 : decode (kB K_SI_counted) 187 = .ok (.bipush 9, 2) := by decide +kernel
theorem d_SI_counted_189 : decode (kB K_SI_counted) 189 = .ok (.aload_n 0, 1) := by decide +kernel
theorem d_SI_counted_190 : decode (kB K_SI_counted) 190 = .ok (.getfield 55, 3) := by decide +kernel
theorem d_SI_counted_193 : decode (kB K_SI_counted) 193 = .ok (.iastore, 1) := by decide +kernel
theorem d_SI_counted_194 : decode (kB K_SI_counted) 194 = .ok (.dup, 1) := by decide +kernel
theorem d_SI_counted_195 : decode (kB K_SI_counted) 195 = .ok (.bipush 10, 2) := by decide +kernel
theorem d_SI_counted_197 : decode (kB K_SI_counted) 197 = .ok (.aload_n 0, 1) := by decide +kernel
theorem d_SI_counted_198 : decode (kB K_SI_counted) 198 = .ok (.getfield 58, 3) := by decide +kernel
theorem d_SI_counted_201 : decode (kB K_SI_counted) 201 = .ok (.iastore, 1) := by decide +kernel
theorem d_SI_counted_202 : decode (kB K_SI_counted) 202 = .ok (.dup, 1) := by decide +kernel
theorem d_SI_counted_203 : decode (kB K_SI_counted) 203 = .ok (.bipush 11, 2) := by decide +kernel
theorem d_SI_counted_205 : decode (kB K_SI_counted) 205 = .ok (.aload_n 0, 1) := by decide +kernel
theorem d_SI_counted_206 : decode (kB K_SI_counted) 206 = .ok (.getfield 61, 3) := by decide +kernel
theorem d_SI_counted_209 : decode (kB K_SI_counted) 209 = .ok (.iastore, 1) := by decide +kernel
theorem d_SI_counted_210 : decode (kB K_SI_counted) 210 = .ok (.dup, 1) := by decide +kernel
theorem d_SI_counted_211 : decode (kB K_SI_counted) 211 = .ok (.bipush 12, 2) := by decide +kernel
theorem d_SI_counted_213 : decode (kB K_SI_counted) 213 = .ok (.iconst 0, 1) := by decide +kernel
theorem d_SI_counted_214 : decode (kB K_SI_counted) 214 = .ok (.iastore, 1) := by decide +kernel
theorem d_SI_counted_215 : decode (kB K_SI_counted) 215 = .ok (.astore 5, 2) := by decide +kernel
theorem d_SI_counted_217 : decode (kB K_SI_counted) 217 = .ok (.aload 5, 2) := by decide +kernel
theorem d_SI_counted_219 : decode (kB K_SI_counted) 219 = .ok (.iload_n 1, 1) := by decide +kernel
theorem d_SI_counted_220 : decode (kB K_SI_counted) 220 = .ok (.iaload, 1) := by decide +kernel
theorem d_SI_counted_221 : decode (kB K_SI_counted) 221 = .ok (.ireturn, 1) := by decide +kernel
def K_SI_isSame : KM := (⟨"ParishBoardsLaw$Sim", "isSame", "(LParishBoards;)Z"⟩, prog_15_method_23_code, 11, (some (.boolean)), "ParishBoardsLaw$Sim", ([], []))
theorem d_SI_isSame_0 : decode (kB K_SI_isSame) 0 = .ok (.iconst 0, 1) := by decide +kernel
theorem d_SI_isSame_1 : decode (kB K_SI_isSame) 1 = .ok (.istore_n 2, 1) := by decide +kernel
theorem d_SI_isSame_2 : decode (kB K_SI_isSame) 2 = .ok (.iload_n 2, 1) := by decide +kernel
theorem d_SI_isSame_3 : decode (kB K_SI_isSame) 3 = .ok (.bipush 13, 2) := by decide +kernel
theorem d_SI_isSame_5 : decode (kB K_SI_isSame) 5 = .ok (.if_icmp .ge 24, 3) := by decide +kernel
theorem d_SI_isSame_8 : decode (kB K_SI_isSame) 8 = .ok (.aload_n 1, 1) := by decide +kernel
theorem d_SI_isSame_9 : decode (kB K_SI_isSame) 9 = .ok (.iload_n 2, 1) := by decide +kernel
theorem d_SI_isSame_10 : decode (kB K_SI_isSame) 10 = .ok (.invokevirtual 143, 3) := by decide +kernel
theorem d_SI_isSame_13 : decode (kB K_SI_isSame) 13 = .ok (.aload_n 0, 1) := by decide +kernel
theorem d_SI_isSame_14 : decode (kB K_SI_isSame) 14 = .ok (.iload_n 2, 1) := by decide +kernel
theorem d_SI_isSame_15 : decode (kB K_SI_isSame) 15 = .ok (.invokevirtual 148, 3) := by decide +kernel
theorem d_SI_isSame_18 : decode (kB K_SI_isSame) 18 = .ok (.if_icmp .eq 5, 3) := by decide +kernel
theorem d_SI_isSame_21 : decode (kB K_SI_isSame) 21 = .ok (.iconst 0, 1) := by decide +kernel
theorem d_SI_isSame_22 : decode (kB K_SI_isSame) 22 = .ok (.ireturn, 1) := by decide +kernel
theorem d_SI_isSame_23 : decode (kB K_SI_isSame) 23 = .ok (.iinc 2 1, 3) := by decide +kernel
theorem d_SI_isSame_26 : decode (kB K_SI_isSame) 26 = .ok (.goto (-24), 3) := by decide +kernel
theorem d_SI_isSame_29 : decode (kB K_SI_isSame) 29 = .ok (.iconst 0, 1) := by decide +kernel
theorem d_SI_isSame_30 : decode (kB K_SI_isSame) 30 = .ok (.istore_n 2, 1) := by decide +kernel
theorem d_SI_isSame_31 : decode (kB K_SI_isSame) 31 = .ok (.iload_n 2, 1) := by decide +kernel
theorem d_SI_isSame_32 : decode (kB K_SI_isSame) 32 = .ok (.aload_n 0, 1) := by decide +kernel
theorem d_SI_isSame_33 : decode (kB K_SI_isSame) 33 = .ok (.getfield 30, 3) := by decide +kernel
theorem d_SI_isSame_36 : decode (kB K_SI_isSame) 36 = .ok (.if_icmp .ge 342, 3) := by decide +kernel
theorem d_SI_isSame_39 : decode (kB K_SI_isSame) 39 = .ok (.iconst 0, 1) := by decide +kernel
theorem d_SI_isSame_40 : decode (kB K_SI_isSame) 40 = .ok (.istore_n 3, 1) := by decide +kernel
theorem d_SI_isSame_41 : decode (kB K_SI_isSame) 41 = .ok (.iconst 0, 1) := by decide +kernel
theorem d_SI_isSame_42 : decode (kB K_SI_isSame) 42 = .ok (.istore 4, 2) := by decide +kernel
theorem d_SI_isSame_44 : decode (kB K_SI_isSame) 44 = .ok (.iconst 0, 1) := by decide +kernel
theorem d_SI_isSame_45 : decode (kB K_SI_isSame) 45 = .ok (.istore 5, 2) := by decide +kernel
theorem d_SI_isSame_47 : decode (kB K_SI_isSame) 47 = .ok (.iconst 0, 1) := by decide +kernel
theorem d_SI_isSame_48 : decode (kB K_SI_isSame) 48 = .ok (.istore 6, 2) := by decide +kernel
theorem d_SI_isSame_50 : decode (kB K_SI_isSame) 50 = .ok (.iconst 0, 1) := by decide +kernel
theorem d_SI_isSame_51 : decode (kB K_SI_isSame) 51 = .ok (.istore 7, 2) := by decide +kernel
theorem d_SI_isSame_53 : decode (kB K_SI_isSame) 53 = .ok (.iload 7, 2) := by decide +kernel
theorem d_SI_isSame_55 : decode (kB K_SI_isSame) 55 = .ok (.aload_n 0, 1) := by decide +kernel
theorem d_SI_isSame_56 : decode (kB K_SI_isSame) 56 = .ok (.getfield 34, 3) := by decide +kernel
theorem d_SI_isSame_59 : decode (kB K_SI_isSame) 59 = .ok (.if_icmp .ge 85, 3) := by decide +kernel
theorem d_SI_isSame_62 : decode (kB K_SI_isSame) 62 = .ok (.aload_n 0, 1) := by decide +kernel
theorem d_SI_isSame_63 : decode (kB K_SI_isSame) 63 = .ok (.iload_n 2, 1) := by decide +kernel
theorem d_SI_isSame_64 : decode (kB K_SI_isSame) 64 = .ok (.iload 7, 2) := by decide +kernel
theorem d_SI_isSame_66 : decode (kB K_SI_isSame) 66 = .ok (.invokevirtual 72, 3) := by decide +kernel
theorem d_SI_isSame_69 : decode (kB K_SI_isSame) 69 = .ok (.astore 8, 2) := by decide +kernel
theorem d_SI_isSame_71 : decode (kB K_SI_isSame) 71 = .ok (.iconst 0, 1) := by decide +kernel
theorem d_SI_isSame_72 : decode (kB K_SI_isSame) 72 = .ok (.istore 9, 2) := by decide +kernel
theorem d_SI_isSame_74 : decode (kB K_SI_isSame) 74 = .ok (.iload 9, 2) := by decide +kernel
theorem d_SI_isSame_76 : decode (kB K_SI_isSame) 76 = .ok (.aload 8, 2) := by decide +kernel
theorem d_SI_isSame_78 : decode (kB K_SI_isSame) 78 = .ok (.arraylength, 1) := by decide +kernel
theorem d_SI_isSame_79 : decode (kB K_SI_isSame) 79 = .ok (.if_icmp .ge 28, 3) := by decide +kernel
theorem d_SI_isSame_82 : decode (kB K_SI_isSame) 82 = .ok (.aload_n 1, 1) := by decide +kernel
theorem d_SI_isSame_83 : decode (kB K_SI_isSame) 83 = .ok (.iload_n 2, 1) := by decide +kernel
theorem d_SI_isSame_84 : decode (kB K_SI_isSame) 84 = .ok (.iload 7, 2) := by decide +kernel
theorem d_SI_isSame_86 : decode (kB K_SI_isSame) 86 = .ok (.iload 9, 2) := by decide +kernel
theorem d_SI_isSame_88 : decode (kB K_SI_isSame) 88 = .ok (.invokevirtual 151, 3) := by decide +kernel
theorem d_SI_isSame_91 : decode (kB K_SI_isSame) 91 = .ok (.aload 8, 2) := by decide +kernel
theorem d_SI_isSame_93 : decode (kB K_SI_isSame) 93 = .ok (.iload 9, 2) := by decide +kernel
theorem d_SI_isSame_95 : decode (kB K_SI_isSame) 95 = .ok (.iaload, 1) := by decide +kernel
theorem d_SI_isSame_96 : decode (kB K_SI_isSame) 96 = .ok (.if_icmp .eq 5, 3) := by decide +kernel
theorem d_SI_isSame_99 : decode (kB K_SI_isSame) 99 = .ok (.iconst 0, 1) := by decide +kernel
theorem d_SI_isSame_100 : decode (kB K_SI_isSame) 100 = .ok (.ireturn, 1) := by decide +kernel
theorem d_SI_isSame_101 : decode (kB K_SI_isSame) 101 = .ok (.iinc 9 1, 3) := by decide +kernel
theorem d_SI_isSame_104 : decode (kB K_SI_isSame) 104 = .ok (.goto (-30), 3) := by decide +kernel
theorem d_SI_isSame_107 : decode (kB K_SI_isSame) 107 = .ok (.iload_n 3, 1) := by decide +kernel
theorem d_SI_isSame_108 : decode (kB K_SI_isSame) 108 = .ok (.aload 8, 2) := by decide +kernel
theorem d_SI_isSame_110 : decode (kB K_SI_isSame) 110 = .ok (.arraylength, 1) := by decide +kernel
theorem d_SI_isSame_111 : decode (kB K_SI_isSame) 111 = .ok (.ifCond .le 7, 3) := by decide +kernel
theorem d_SI_isSame_114 : decode (kB K_SI_isSame) 114 = .ok (.iconst 1, 1) := by decide +kernel
theorem d_SI_isSame_115 : decode (kB K_SI_isSame) 115 = .ok (.goto 4, 3) := by decide +kernel
theorem d_SI_isSame_118 : decode (kB K_SI_isSame) 118 = .ok (.iconst 0, 1) := by decide +kernel
theorem d_SI_isSame_119 : decode (kB K_SI_isSame) 119 = .ok (.iadd, 1) := by decide +kernel
theorem d_SI_isSame_120 : decode (kB K_SI_isSame) 120 = .ok (.istore_n 3, 1) := by decide +kernel
theorem d_SI_isSame_121 : decode (kB K_SI_isSame) 121 = .ok (.iload 4, 2) := by decide +kernel
theorem d_SI_isSame_123 : decode (kB K_SI_isSame) 123 = .ok (.aload 8, 2) := by decide +kernel
theorem d_SI_isSame_125 : decode (kB K_SI_isSame) 125 = .ok (.arraylength, 1) := by decide +kernel
theorem d_SI_isSame_126 : decode (kB K_SI_isSame) 126 = .ok (.iconst 1, 1) := by decide +kernel
theorem d_SI_isSame_127 : decode (kB K_SI_isSame) 127 = .ok (.if_icmp .le 7, 3) := by decide +kernel
theorem d_SI_isSame_130 : decode (kB K_SI_isSame) 130 = .ok (.iconst 1, 1) := by decide +kernel
theorem d_SI_isSame_131 : decode (kB K_SI_isSame) 131 = .ok (.goto 4, 3) := by decide +kernel
theorem d_SI_isSame_134 : decode (kB K_SI_isSame) 134 = .ok (.iconst 0, 1) := by decide +kernel
theorem d_SI_isSame_135 : decode (kB K_SI_isSame) 135 = .ok (.iadd, 1) := by decide +kernel
theorem d_SI_isSame_136 : decode (kB K_SI_isSame) 136 = .ok (.istore 4, 2) := by decide +kernel
theorem d_SI_isSame_138 : decode (kB K_SI_isSame) 138 = .ok (.iinc 7 1, 3) := by decide +kernel
theorem d_SI_isSame_141 : decode (kB K_SI_isSame) 141 = .ok (.goto (-88), 3) := by decide +kernel
theorem d_SI_isSame_144 : decode (kB K_SI_isSame) 144 = .ok (.aload_n 0, 1) := by decide +kernel
theorem d_SI_isSame_145 : decode (kB K_SI_isSame) 145 = .ok (.getfield 21, 3) := by decide +kernel
theorem d_SI_isSame_148 : decode (kB K_SI_isSame) 148 = .ok (.astore 7, 2) := by decide +kernel
theorem d_SI_isSame_150 : decode (kB K_SI_isSame) 150 = .ok (.aload 7, 2) := by decide +kernel
theorem d_SI_isSame_152 : decode (kB K_SI_isSame) 152 = .ok (.arraylength, 1) := by decide +kernel
theorem d_SI_isSame_153 : decode (kB K_SI_isSame) 153 = .ok (.istore 8, 2) := by decide +kernel
theorem d_SI_isSame_155 : decode (kB K_SI_isSame) 155 = .ok (.iconst 0, 1) := by decide +kernel
theorem d_SI_isSame_156 : decode (kB K_SI_isSame) 156 = .ok (.istore 9, 2) := by decide +kernel
theorem d_SI_isSame_158 : decode (kB K_SI_isSame) 158 = .ok (.iload 9, 2) := by decide +kernel
theorem d_SI_isSame_160 : decode (kB K_SI_isSame) 160 = .ok (.iload 8, 2) := by decide +kernel
theorem d_SI_isSame_162 : decode (kB K_SI_isSame) 162 = .ok (.if_icmp .ge 34, 3) := by decide +kernel
theorem d_SI_isSame_165 : decode (kB K_SI_isSame) 165 = .ok (.aload 7, 2) := by decide +kernel
theorem d_SI_isSame_167 : decode (kB K_SI_isSame) 167 = .ok (.iload 9, 2) := by decide +kernel
theorem d_SI_isSame_169 : decode (kB K_SI_isSame) 169 = .ok (.aaload, 1) := by decide +kernel
theorem d_SI_isSame_170 : decode (kB K_SI_isSame) 170 = .ok (.astore 10, 2) := by decide +kernel
theorem d_SI_isSame_172 : decode (kB K_SI_isSame) 172 = .ok (.iload 5, 2) := by decide +kernel
theorem d_SI_isSame_174 : decode (kB K_SI_isSame) 174 = .ok (.aload 10, 2) := by decide +kernel
theorem d_SI_isSame_176 : decode (kB K_SI_isSame) 176 = .ok (.iconst 0, 1) := by decide +kernel
theorem d_SI_isSame_177 : decode (kB K_SI_isSame) 177 = .ok (.iaload, 1) := by decide +kernel
theorem d_SI_isSame_178 : decode (kB K_SI_isSame) 178 = .ok (.iload_n 2, 1) := by decide +kernel
theorem d_SI_isSame_179 : decode (kB K_SI_isSame) 179 = .ok (.if_icmp .ne 7, 3) := by decide +kernel
theorem d_SI_isSame_182 : decode (kB K_SI_isSame) 182 = .ok (.iconst 1, 1) := by decide +kernel
theorem d_SI_isSame_183 : decode (kB K_SI_isSame) 183 = .ok (.goto 4, 3) := by decide +kernel
theorem d_SI_isSame_186 : decode (kB K_SI_isSame) 186 = .ok (.iconst 0, 1) := by decide +kernel
theorem d_SI_isSame_187 : decode (kB K_SI_isSame) 187 = .ok (.iadd, 1) := by decide +kernel
theorem d_SI_isSame_188 : decode (kB K_SI_isSame) 188 = .ok (.istore 5, 2) := by decide +kernel
theorem d_SI_isSame_190 : decode (kB K_SI_isSame) 190 = .ok (.iinc 9 1, 3) := by decide +kernel
theorem d_SI_isSame_193 : decode (kB K_SI_isSame) 193 = .ok (.goto (-35), 3) := by decide +kernel
theorem d_SI_isSame_196 : decode (kB K_SI_isSame) 196 = .ok (.aload_n 0, 1) := by decide +kernel
theorem d_SI_isSame_197 : decode (kB K_SI_isSame) 197 = .ok (.getfield 9, 3) := by decide +kernel
theorem d_SI_isSame_200 : decode (kB K_SI_isSame) 200 = .ok (.astore 7, 2) := by decide +kernel
theorem d_SI_isSame_202 : decode (kB K_SI_isSame) 202 = .ok (.aload 7, 2) := by decide +kernel
theorem d_SI_isSame_204 : decode (kB K_SI_isSame) 204 = .ok (.arraylength, 1) := by decide +kernel
theorem d_SI_isSame_205 : decode (kB K_SI_isSame) 205 = .ok (.istore 8, 2) := by decide +kernel
theorem d_SI_isSame_207 : decode (kB K_SI_isSame) 207 = .ok (.iconst 0, 1) := by decide +kernel
theorem d_SI_isSame_208 : decode (kB K_SI_isSame) 208 = .ok (.istore 9, 2) := by decide +kernel
theorem d_SI_isSame_210 : decode (kB K_SI_isSame) 210 = .ok (.iload 9, 2) := by decide +kernel
theorem d_SI_isSame_212 : decode (kB K_SI_isSame) 212 = .ok (.iload 8, 2) := by decide +kernel
theorem d_SI_isSame_214 : decode (kB K_SI_isSame) 214 = .ok (.if_icmp .ge 34, 3) := by decide +kernel
theorem d_SI_isSame_217 : decode (kB K_SI_isSame) 217 = .ok (.aload 7, 2) := by decide +kernel
theorem d_SI_isSame_219 : decode (kB K_SI_isSame) 219 = .ok (.iload 9, 2) := by decide +kernel
theorem d_SI_isSame_221 : decode (kB K_SI_isSame) 221 = .ok (.aaload, 1) := by decide +kernel
theorem d_SI_isSame_222 : decode (kB K_SI_isSame) 222 = .ok (.astore 10, 2) := by decide +kernel
theorem d_SI_isSame_224 : decode (kB K_SI_isSame) 224 = .ok (.iload 6, 2) := by decide +kernel
theorem d_SI_isSame_226 : decode (kB K_SI_isSame) 226 = .ok (.aload 10, 2) := by decide +kernel
theorem d_SI_isSame_228 : decode (kB K_SI_isSame) 228 = .ok (.iconst 0, 1) := by decide +kernel
theorem d_SI_isSame_229 : decode (kB K_SI_isSame) 229 = .ok (.iaload, 1) := by decide +kernel
theorem d_SI_isSame_230 : decode (kB K_SI_isSame) 230 = .ok (.iload_n 2, 1) := by decide +kernel
theorem d_SI_isSame_231 : decode (kB K_SI_isSame) 231 = .ok (.if_icmp .ne 7, 3) := by decide +kernel
theorem d_SI_isSame_234 : decode (kB K_SI_isSame) 234 = .ok (.iconst 1, 1) := by decide +kernel
theorem d_SI_isSame_235 : decode (kB K_SI_isSame) 235 = .ok (.goto 4, 3) := by decide +kernel
theorem d_SI_isSame_238 : decode (kB K_SI_isSame) 238 = .ok (.iconst 0, 1) := by decide +kernel
theorem d_SI_isSame_239 : decode (kB K_SI_isSame) 239 = .ok (.iadd, 1) := by decide +kernel
theorem d_SI_isSame_240 : decode (kB K_SI_isSame) 240 = .ok (.istore 6, 2) := by decide +kernel
theorem d_SI_isSame_242 : decode (kB K_SI_isSame) 242 = .ok (.iinc 9 1, 3) := by decide +kernel
theorem d_SI_isSame_245 : decode (kB K_SI_isSame) 245 = .ok (.goto (-35), 3) := by decide +kernel
theorem d_SI_isSame_248 : decode (kB K_SI_isSame) 248 = .ok (.bipush 6, 2) := by decide +kernel
theorem d_SI_isSame_250 : decode (kB K_SI_isSame) 250 = .ok (.newarray .int, 2) := by decide +kernel
theorem d_SI_isSame_252 : decode (kB K_SI_isSame) 252 = .ok (.dup, 1) := by decide +kernel
theorem d_SI_isSame_253 : decode (kB K_SI_isSame) 253 = .ok (.iconst 0, 1) := by decide +kernel
theorem d_SI_isSame_254 : decode (kB K_SI_isSame) 254 = .ok (.aload_n 0, 1) := by decide +kernel
theorem d_SI_isSame_255 : decode (kB K_SI_isSame) 255 = .ok (.getfield 38, 3) := by decide +kernel
theorem d_SI_isSame_258 : decode (kB K_SI_isSame) 258 = .ok (.iload_n 2, 1) := by decide +kernel
theorem d_SI_isSame_259 : decode (kB K_SI_isSame) 259 = .ok (.aaload, 1) := by decide +kernel
theorem d_SI_isSame_260 : decode (kB K_SI_isSame) 260 = .ok (.invokestatic 102, 3) := by decide +kernel
theorem d_SI_isSame_263 : decode (kB K_SI_isSame) 263 = .ok (.iastore, 1) := by decide +kernel
theorem d_SI_isSame_264 : decode (kB K_SI_isSame) 264 = .ok (.dup, 1) := by decide +kernel
theorem d_SI_isSame_265 : decode (kB K_SI_isSame) 265 = .ok (.iconst 1, 1) := by decide +kernel
theorem d_SI_isSame_266 : decode (kB K_SI_isSame) 266 = .ok (.aload_n 0, 1) := by decide +kernel
theorem d_SI_isSame_267 : decode (kB K_SI_isSame) 267 = .ok (.getfield 44, 3) := by decide +kernel
theorem d_SI_isSame_270 : decode (kB K_SI_isSame) 270 = .ok (.iload_n 2, 1) := by decide +kernel
theorem d_SI_isSame_271 : decode (kB K_SI_isSame) 271 = .ok (.aaload, 1) := by decide +kernel
theorem d_SI_isSame_272 : decode (kB K_SI_isSame) 272 = .ok (.invokestatic 102, 3) := by decide +kernel
theorem d_SI_isSame_275 : decode (kB K_SI_isSame) 275 = .ok (.iastore, 1) := by decide +kernel
theorem d_SI_isSame_276 : decode (kB K_SI_isSame) 276 = .ok (.dup, 1) := by decide +kernel
theorem d_SI_isSame_277 : decode (kB K_SI_isSame) 277 = .ok (.iconst 2, 1) := by decide +kernel
theorem d_SI_isSame_278 : decode (kB K_SI_isSame) 278 = .ok (.iload_n 3, 1) := by decide +kernel
theorem d_SI_isSame_279 : decode (kB K_SI_isSame) 279 = .ok (.iastore, 1) := by decide +kernel
theorem d_SI_isSame_280 : decode (kB K_SI_isSame) 280 = .ok (.dup, 1) := by decide +kernel
theorem d_SI_isSame_281 : decode (kB K_SI_isSame) 281 = .ok (.iconst 3, 1) := by decide +kernel
theorem d_SI_isSame_282 : decode (kB K_SI_isSame) 282 = .ok (.iload 4, 2) := by decide +kernel
theorem d_SI_isSame_284 : decode (kB K_SI_isSame) 284 = .ok (.iastore, 1) := by decide +kernel
theorem d_SI_isSame_285 : decode (kB K_SI_isSame) 285 = .ok (.dup, 1) := by decide +kernel
theorem d_SI_isSame_286 : decode (kB K_SI_isSame) 286 = .ok (.iconst 4, 1) := by decide +kernel
theorem d_SI_isSame_287 : decode (kB K_SI_isSame) 287 = .ok (.iload 6, 2) := by decide +kernel
theorem d_SI_isSame_289 : decode (kB K_SI_isSame) 289 = .ok (.iastore, 1) := by decide +kernel
theorem d_SI_isSame_290 : decode (kB K_SI_isSame) 290 = .ok (.dup, 1) := by decide +kernel
theorem d_SI_isSame_291 : decode (kB K_SI_isSame) 291 = .ok (.iconst 5, 1) := by decide +kernel
theorem d_SI_isSame_292 : decode (kB K_SI_isSame) 292 = .ok (.iload 5, 2) := by decide +kernel
theorem d_SI_isSame_294 : decode (kB K_SI_isSame) 294 = .ok (.iastore, 1) := by decide +kernel
theorem d_SI_isSame_295 : decode (kB K_SI_isSame) 295 = .ok (.astore 7, 2) := by decide +kernel
theorem d_SI_isSame_297 : decode (kB K_SI_isSame) 297 = .ok (.iconst 0, 1) := by decide +kernel
theorem d_SI_isSame_298 : decode (kB K_SI_isSame) 298 = .ok (.istore 8, 2) := by decide +kernel
theorem d_SI_isSame_300 : decode (kB K_SI_isSame) 300 = .ok (.iload 8, 2) := by decide +kernel
theorem d_SI_isSame_302 : decode (kB K_SI_isSame) 302 = .ok (.bipush 6, 2) := by decide +kernel
theorem d_SI_isSame_304 : decode (kB K_SI_isSame) 304 = .ok (.if_icmp .ge 26, 3) := by decide +kernel
theorem d_SI_isSame_307 : decode (kB K_SI_isSame) 307 = .ok (.aload_n 1, 1) := by decide +kernel
theorem d_SI_isSame_308 : decode (kB K_SI_isSame) 308 = .ok (.iload_n 2, 1) := by decide +kernel
theorem d_SI_isSame_309 : decode (kB K_SI_isSame) 309 = .ok (.iload 8, 2) := by decide +kernel
theorem d_SI_isSame_311 : decode (kB K_SI_isSame) 311 = .ok (.invokevirtual 153, 3) := by decide +kernel
theorem d_SI_isSame_314 : decode (kB K_SI_isSame) 314 = .ok (.aload 7, 2) := by decide +kernel
theorem d_SI_isSame_316 : decode (kB K_SI_isSame) 316 = .ok (.iload 8, 2) := by decide +kernel
theorem d_SI_isSame_318 : decode (kB K_SI_isSame) 318 = .ok (.iaload, 1) := by decide +kernel
theorem d_SI_isSame_319 : decode (kB K_SI_isSame) 319 = .ok (.if_icmp .eq 5, 3) := by decide +kernel
theorem d_SI_isSame_322 : decode (kB K_SI_isSame) 322 = .ok (.iconst 0, 1) := by decide +kernel
theorem d_SI_isSame_323 : decode (kB K_SI_isSame) 323 = .ok (.ireturn, 1) := by decide +kernel
theorem d_SI_isSame_324 : decode (kB K_SI_isSame) 324 = .ok (.iinc 8 1, 3) := by decide +kernel
theorem d_SI_isSame_327 : decode (kB K_SI_isSame) 327 = .ok (.goto (-27), 3) := by decide +kernel
theorem d_SI_isSame_330 : decode (kB K_SI_isSame) 330 = .ok (.iconst 0, 1) := by decide +kernel
theorem d_SI_isSame_331 : decode (kB K_SI_isSame) 331 = .ok (.istore 8, 2) := by decide +kernel
theorem d_SI_isSame_333 : decode (kB K_SI_isSame) 333 = .ok (.iload 8, 2) := by decide +kernel
theorem d_SI_isSame_335 : decode (kB K_SI_isSame) 335 = .ok (.aload_n 0, 1) := by decide +kernel
theorem d_SI_isSame_336 : decode (kB K_SI_isSame) 336 = .ok (.getfield 30, 3) := by decide +kernel
theorem d_SI_isSame_339 : decode (kB K_SI_isSame) 339 = .ok (.if_icmp .ge 33, 3) := by decide +kernel
theorem d_SI_isSame_342 : decode (kB K_SI_isSame) 342 = .ok (.aload_n 1, 1) := by decide +kernel
theorem d_SI_isSame_343 : decode (kB K_SI_isSame) 343 = .ok (.iload_n 2, 1) := by decide +kernel
theorem d_SI_isSame_344 : decode (kB K_SI_isSame) 344 = .ok (.iload 8, 2) := by decide +kernel
theorem d_SI_isSame_346 : decode (kB K_SI_isSame) 346 = .ok (.invokevirtual 156, 3) := by decide +kernel
theorem d_SI_isSame_349 : decode (kB K_SI_isSame) 349 = .ok (.aload_n 0, 1) := by decide +kernel
theorem d_SI_isSame_350 : decode (kB K_SI_isSame) 350 = .ok (.aload_n 0, 1) := by decide +kernel
theorem d_SI_isSame_351 : decode (kB K_SI_isSame) 351 = .ok (.getfield 38, 3) := by decide +kernel
theorem d_SI_isSame_354 : decode (kB K_SI_isSame) 354 = .ok (.iload_n 2, 1) := by decide +kernel
theorem d_SI_isSame_355 : decode (kB K_SI_isSame) 355 = .ok (.aaload, 1) := by decide +kernel
theorem d_SI_isSame_356 : decode (kB K_SI_isSame) 356 = .ok (.iload 8, 2) := by decide +kernel
theorem d_SI_isSame_358 : decode (kB K_SI_isSame) 358 = .ok (.invokevirtual 159, 3) := by decide +kernel
theorem d_SI_isSame_361 : decode (kB K_SI_isSame) 361 = .ok (.if_icmp .eq 5, 3) := by decide +kernel
theorem d_SI_isSame_364 : decode (kB K_SI_isSame) 364 = .ok (.iconst 0, 1) := by decide +kernel
theorem d_SI_isSame_365 : decode (kB K_SI_isSame) 365 = .ok (.ireturn, 1) := by decide +kernel
theorem d_SI_isSame_366 : decode (kB K_SI_isSame) 366 = .ok (.iinc 8 1, 3) := by decide +kernel
theorem d_SI_isSame_369 : decode (kB K_SI_isSame) 369 = .ok (.goto (-36), 3) := by decide +kernel
theorem d_SI_isSame_372 : decode (kB K_SI_isSame) 372 = .ok (.iinc 2 1, 3) := by decide +kernel
theorem d_SI_isSame_375 : decode (kB K_SI_isSame) 375 = .ok (.goto (-344), 3) := by decide +kernel
theorem d_SI_isSame_378 : decode (kB K_SI_isSame) 378 = .ok (.iconst (-1), 1) := by decide +kernel
theorem d_SI_isSame_379 : decode (kB K_SI_isSame) 379 = .ok (.istore_n 2, 1) := by decide +kernel
theorem d_SI_isSame_380 : decode (kB K_SI_isSame) 380 = .ok (.aload_n 0, 1) := by decide +kernel
theorem d_SI_isSame_381 : decode (kB K_SI_isSame) 381 = .ok (.getfield 9, 3) := by decide +kernel
theorem d_SI_isSame_384 : decode (kB K_SI_isSame) 384 = .ok (.arraylength, 1) := by decide +kernel
theorem d_SI_isSame_385 : decode (kB K_SI_isSame) 385 = .ok (.iconst 1, 1) := by decide +kernel
theorem d_SI_isSame_386 : decode (kB K_SI_isSame) 386 = .ok (.isub, 1) := by decide +kernel
theorem d_SI_isSame_387 : decode (kB K_SI_isSame) 387 = .ok (.istore_n 3, 1) := by decide +kernel
theorem d_SI_isSame_388 : decode (kB K_SI_isSame) 388 = .ok (.iload_n 3, 1) := by decide +kernel
theorem d_SI_isSame_389 : decode (kB K_SI_isSame) 389 = .ok (.ifCond .lt 251, 3) := by decide +kernel
theorem d_SI_isSame_392 : decode (kB K_SI_isSame) 392 = .ok (.iconst 0, 1) := by decide +kernel
theorem d_SI_isSame_393 : decode (kB K_SI_isSame) 393 = .ok (.istore 4, 2) := by decide +kernel
theorem d_SI_isSame_395 : decode (kB K_SI_isSame) 395 = .ok (.iconst 0, 1) := by decide +kernel
theorem d_SI_isSame_396 : decode (kB K_SI_isSame) 396 = .ok (.istore 5, 2) := by decide +kernel
theorem d_SI_isSame_398 : decode (kB K_SI_isSame) 398 = .ok (.iconst 0, 1) := by decide +kernel
theorem d_SI_isSame_399 : decode (kB K_SI_isSame) 399 = .ok (.istore 6, 2) := by decide +kernel
theorem d_SI_isSame_401 : decode (kB K_SI_isSame) 401 = .ok (.iload 6, 2) := by decide +kernel
theorem d_SI_isSame_403 : decode (kB K_SI_isSame) 403 = .ok (.aload_n 0, 1) := by decide +kernel
theorem d_SI_isSame_404 : decode (kB K_SI_isSame) 404 = .ok (.getfield 30, 3) := by decide +kernel
theorem d_SI_isSame_407 : decode (kB K_SI_isSame) 407 = .ok (.if_icmp .ge 77, 3) := by decide +kernel
theorem d_SI_isSame_410 : decode (kB K_SI_isSame) 410 = .ok (.iload 4, 2) := by decide +kernel
theorem d_SI_isSame_412 : decode (kB K_SI_isSame) 412 = .ok (.aload_n 0, 1) := by decide +kernel
theorem d_SI_isSame_413 : decode (kB K_SI_isSame) 413 = .ok (.getfield 38, 3) := by decide +kernel
theorem d_SI_isSame_416 : decode (kB K_SI_isSame) 416 = .ok (.iload 6, 2) := by decide +kernel
theorem d_SI_isSame_418 : decode (kB K_SI_isSame) 418 = .ok (.aaload, 1) := by decide +kernel
theorem d_SI_isSame_419 : decode (kB K_SI_isSame) 419 = .ok (.iload_n 3, 1) := by decide +kernel
theorem d_SI_isSame_420 : decode (kB K_SI_isSame) 420 = .ok (.baload, 1) := by decide +kernel
theorem d_SI_isSame_421 : decode (kB K_SI_isSame) 421 = .ok (.ifCond .eq 7, 3) := by decide +kernel
theorem d_SI_isSame_424 : decode (kB K_SI_isSame) 424 = .ok (.iconst 1, 1) := by decide +kernel
theorem d_SI_isSame_425 : decode (kB K_SI_isSame) 425 = .ok (.goto 4, 3) := by decide +kernel
theorem d_SI_isSame_428 : decode (kB K_SI_isSame) 428 = .ok (.iconst 0, 1) := by decide +kernel
theorem d_SI_isSame_429 : decode (kB K_SI_isSame) 429 = .ok (.iadd, 1) := by decide +kernel
theorem d_SI_isSame_430 : decode (kB K_SI_isSame) 430 = .ok (.istore 4, 2) := by decide +kernel
theorem d_SI_isSame_432 : decode (kB K_SI_isSame) 432 = .ok (.iload 5, 2) := by decide +kernel
theorem d_SI_isSame_434 : decode (kB K_SI_isSame) 434 = .ok (.aload_n 0, 1) := by decide +kernel
theorem d_SI_isSame_435 : decode (kB K_SI_isSame) 435 = .ok (.getfield 41, 3) := by decide +kernel
theorem d_SI_isSame_438 : decode (kB K_SI_isSame) 438 = .ok (.iload 6, 2) := by decide +kernel
theorem d_SI_isSame_440 : decode (kB K_SI_isSame) 440 = .ok (.aaload, 1) := by decide +kernel
theorem d_SI_isSame_441 : decode (kB K_SI_isSame) 441 = .ok (.iload_n 3, 1) := by decide +kernel
theorem d_SI_isSame_442 : decode (kB K_SI_isSame) 442 = .ok (.baload, 1) := by decide +kernel
theorem d_SI_isSame_443 : decode (kB K_SI_isSame) 443 = .ok (.ifCond .eq 7, 3) := by decide +kernel
theorem d_SI_isSame_446 : decode (kB K_SI_isSame) 446 = .ok (.iconst 1, 1) := by decide +kernel
theorem d_SI_isSame_447 : decode (kB K_SI_isSame) 447 = .ok (.goto 4, 3) := by decide +kernel
theorem d_SI_isSame_450 : decode (kB K_SI_isSame) 450 = .ok (.iconst 0, 1) := by decide +kernel
theorem d_SI_isSame_451 : decode (kB K_SI_isSame) 451 = .ok (.iadd, 1) := by decide +kernel
theorem d_SI_isSame_452 : decode (kB K_SI_isSame) 452 = .ok (.istore 5, 2) := by decide +kernel
theorem d_SI_isSame_454 : decode (kB K_SI_isSame) 454 = .ok (.aload_n 1, 1) := by decide +kernel
theorem d_SI_isSame_455 : decode (kB K_SI_isSame) 455 = .ok (.iload_n 3, 1) := by decide +kernel
theorem d_SI_isSame_456 : decode (kB K_SI_isSame) 456 = .ok (.iload 6, 2) := by decide +kernel
theorem d_SI_isSame_458 : decode (kB K_SI_isSame) 458 = .ok (.invokevirtual 163, 3) := by decide +kernel
theorem d_SI_isSame_461 : decode (kB K_SI_isSame) 461 = .ok (.aload_n 0, 1) := by decide +kernel
theorem d_SI_isSame_462 : decode (kB K_SI_isSame) 462 = .ok (.aload_n 0, 1) := by decide +kernel
theorem d_SI_isSame_463 : decode (kB K_SI_isSame) 463 = .ok (.getfield 17, 3) := by decide +kernel
theorem d_SI_isSame_466 : decode (kB K_SI_isSame) 466 = .ok (.iload_n 3, 1) := by decide +kernel
theorem d_SI_isSame_467 : decode (kB K_SI_isSame) 467 = .ok (.aaload, 1) := by decide +kernel
theorem d_SI_isSame_468 : decode (kB K_SI_isSame) 468 = .ok (.iload 6, 2) := by decide +kernel
theorem d_SI_isSame_470 : decode (kB K_SI_isSame) 470 = .ok (.invokevirtual 159, 3) := by decide +kernel
theorem d_SI_isSame_473 : decode (kB K_SI_isSame) 473 = .ok (.if_icmp .eq 5, 3) := by decide +kernel
theorem d_SI_isSame_476 : decode (kB K_SI_isSame) 476 = .ok (.iconst 0, 1) := by decide +kernel
theorem d_SI_isSame_477 : decode (kB K_SI_isSame) 477 = .ok (.ireturn, 1) := by decide +kernel
theorem d_SI_isSame_478 : decode (kB K_SI_isSame) 478 = .ok (.iinc 6 1, 3) := by decide +kernel
theorem d_SI_isSame_481 : decode (kB K_SI_isSame) 481 = .ok (.goto (-80), 3) := by decide +kernel
theorem d_SI_isSame_484 : decode (kB K_SI_isSame) 484 = .ok (.iload 4, 2) := by decide +kernel
theorem d_SI_isSame_486 : decode (kB K_SI_isSame) 486 = .ok (.aload_n 0, 1) := by decide +kernel
theorem d_SI_isSame_487 : decode (kB K_SI_isSame) 487 = .ok (.getfield 30, 3) := by decide +kernel
theorem d_SI_isSame_490 : decode (kB K_SI_isSame) 490 = .ok (.if_icmp .ge 7, 3) := by decide +kernel
theorem d_SI_isSame_493 : decode (kB K_SI_isSame) 493 = .ok (.iload_n 3, 1) := by decide +kernel
theorem d_SI_isSame_494 : decode (kB K_SI_isSame) 494 = .ok (.goto 4, 3) := by decide +kernel
theorem d_SI_isSame_497 : decode (kB K_SI_isSame) 497 = .ok (.iload_n 2, 1) := by decide +kernel
theorem d_SI_isSame_498 : decode (kB K_SI_isSame) 498 = .ok (.istore_n 2, 1) := by decide +kernel
theorem d_SI_isSame_499 : decode (kB K_SI_isSame) 499 = .ok (.iconst 0, 1) := by decide +kernel
theorem d_SI_isSame_500 : decode (kB K_SI_isSame) 500 = .ok (.istore 6, 2) := by decide +kernel
theorem d_SI_isSame_502 : decode (kB K_SI_isSame) 502 = .ok (.iload 6, 2) := by decide +kernel
theorem d_SI_isSame_504 : decode (kB K_SI_isSame) 504 = .ok (.bipush 6, 2) := by decide +kernel
theorem d_SI_isSame_506 : decode (kB K_SI_isSame) 506 = .ok (.if_icmp .ge 30, 3) := by decide +kernel
theorem d_SI_isSame_509 : decode (kB K_SI_isSame) 509 = .ok (.aload_n 1, 1) := by decide +kernel
theorem d_SI_isSame_510 : decode (kB K_SI_isSame) 510 = .ok (.iload_n 3, 1) := by decide +kernel
theorem d_SI_isSame_511 : decode (kB K_SI_isSame) 511 = .ok (.iload 6, 2) := by decide +kernel
theorem d_SI_isSame_513 : decode (kB K_SI_isSame) 513 = .ok (.invokevirtual 166, 3) := by decide +kernel
theorem d_SI_isSame_516 : decode (kB K_SI_isSame) 516 = .ok (.aload_n 0, 1) := by decide +kernel
theorem d_SI_isSame_517 : decode (kB K_SI_isSame) 517 = .ok (.getfield 9, 3) := by decide +kernel
theorem d_SI_isSame_520 : decode (kB K_SI_isSame) 520 = .ok (.iload_n 3, 1) := by decide +kernel
theorem d_SI_isSame_521 : decode (kB K_SI_isSame) 521 = .ok (.aaload, 1) := by decide +kernel
theorem d_SI_isSame_522 : decode (kB K_SI_isSame) 522 = .ok (.iload 6, 2) := by decide +kernel
theorem d_SI_isSame_524 : decode (kB K_SI_isSame) 524 = .ok (.iaload, 1) := by decide +kernel
theorem d_SI_isSame_525 : decode (kB K_SI_isSame) 525 = .ok (.if_icmp .eq 5, 3) := by decide +kernel
theorem d_SI_isSame_528 : decode (kB K_SI_isSame) 528 = .ok (.iconst 0, 1) := by decide +kernel
theorem d_SI_isSame_529 : decode (kB K_SI_isSame) 529 = .ok (.ireturn, 1) := by decide +kernel
theorem d_SI_isSame_530 : decode (kB K_SI_isSame) 530 = .ok (.iinc 6 1, 3) := by decide +kernel
theorem d_SI_isSame_533 : decode (kB K_SI_isSame) 533 = .ok (.goto (-31), 3) := by decide +kernel
theorem d_SI_isSame_536 : decode (kB K_SI_isSame) 536 = .ok (.aload_n 1, 1) := by decide +kernel
theorem d_SI_isSame_537 : decode (kB K_SI_isSame) 537 = .ok (.iload_n 3, 1) := by decide +kernel
theorem d_SI_isSame_538 : decode (kB K_SI_isSame) 538 = .ok (.bipush 6, 2) := by decide +kernel
theorem d_SI_isSame_540 : decode (kB K_SI_isSame) 540 = .ok (.invokevirtual 166, 3) := by decide +kernel
theorem d_SI_isSame_543 : decode (kB K_SI_isSame) 543 = .ok (.iload 4, 2) := by decide +kernel
theorem d_SI_isSame_545 : decode (kB K_SI_isSame) 545 = .ok (.if_icmp .ne 15, 3) := by decide +kernel
theorem d_SI_isSame_548 : decode (kB K_SI_isSame) 548 = .ok (.aload_n 1, 1) := by decide +kernel
theorem d_SI_isSame_549 : decode (kB K_SI_isSame) 549 = .ok (.iload_n 3, 1) := by decide +kernel
theorem d_SI_isSame_550 : decode (kB K_SI_isSame) 550 = .ok (.bipush 7, 2) := by decide +kernel
theorem d_SI_isSame_552 : decode (kB K_SI_isSame) 552 = .ok (.invokevirtual 166, 3) := by decide +kernel
theorem d_SI_isSame_555 : decode (kB K_SI_isSame) 555 = .ok (.iload 5, 2) := by decide +kernel
theorem d_SI_isSame_557 : decode (kB K_SI_isSame) 557 = .ok (.if_icmp .eq 5, 3) := by decide +kernel
theorem d_SI_isSame_560 : decode (kB K_SI_isSame) 560 = .ok (.iconst 0, 1) := by decide +kernel
theorem d_SI_isSame_561 : decode (kB K_SI_isSame) 561 = .ok (.ireturn, 1) := by decide +kernel
theorem d_SI_isSame_562 : decode (kB K_SI_isSame) 562 = .ok (.bipush 7, 2) := by decide +kernel
theorem d_SI_isSame_564 : decode (kB K_SI_isSame) 564 = .ok (.iload_n 3, 1) := by decide +kernel
theorem d_SI_isSame_565 : decode (kB K_SI_isSame) 565 = .ok (.imul, 1) := by decide +kernel
theorem d_SI_isSame_566 : decode (kB K_SI_isSame) 566 = .ok (.aload_n 0, 1) := by decide +kernel
theorem d_SI_isSame_567 : decode (kB K_SI_isSame) 567 = .ok (.getfield 52, 3) := by decide +kernel
theorem d_SI_isSame_570 : decode (kB K_SI_isSame) 570 = .ok (.iadd, 1) := by decide +kernel
theorem d_SI_isSame_571 : decode (kB K_SI_isSame) 571 = .ok (.aload_n 0, 1) := by decide +kernel
theorem d_SI_isSame_572 : decode (kB K_SI_isSame) 572 = .ok (.getfield 9, 3) := by decide +kernel
theorem d_SI_isSame_575 : decode (kB K_SI_isSame) 575 = .ok (.arraylength, 1) := by decide +kernel
theorem d_SI_isSame_576 : decode (kB K_SI_isSame) 576 = .ok (.irem, 1) := by decide +kernel
theorem d_SI_isSame_577 : decode (kB K_SI_isSame) 577 = .ok (.istore 6, 2) := by decide +kernel
theorem d_SI_isSame_579 : decode (kB K_SI_isSame) 579 = .ok (.aload_n 1, 1) := by decide +kernel
theorem d_SI_isSame_580 : decode (kB K_SI_isSame) 580 = .ok (.iload_n 3, 1) := by decide +kernel
theorem d_SI_isSame_581 : decode (kB K_SI_isSame) 581 = .ok (.iload 6, 2) := by decide +kernel
theorem d_SI_isSame_583 : decode (kB K_SI_isSame) 583 = .ok (.invokevirtual 169, 3) := by decide +kernel
theorem d_SI_isSame_586 : decode (kB K_SI_isSame) 586 = .ok (.iload_n 3, 1) := by decide +kernel
theorem d_SI_isSame_587 : decode (kB K_SI_isSame) 587 = .ok (.iload 6, 2) := by decide +kernel
theorem d_SI_isSame_589 : decode (kB K_SI_isSame) 589 = .ok (.if_icmp .ne 7, 3) := by decide +kernel
theorem d_SI_isSame_592 : decode (kB K_SI_isSame) 592 = .ok (.iconst 0, 1) := by decide +kernel
theorem d_SI_isSame_593 : decode (kB K_SI_isSame) 593 = .ok (.goto 36, 3) := by decide +kernel
theorem d_SI_isSame_596 : decode (kB K_SI_isSame) 596 = .ok (.aload_n 0, 1) := by decide +kernel
theorem d_SI_isSame_597 : decode (kB K_SI_isSame) 597 = .ok (.getfield 17, 3) := by decide +kernel
theorem d_SI_isSame_600 : decode (kB K_SI_isSame) 600 = .ok (.iload 6, 2) := by decide +kernel
theorem d_SI_isSame_602 : decode (kB K_SI_isSame) 602 = .ok (.aaload, 1) := by decide +kernel
theorem d_SI_isSame_603 : decode (kB K_SI_isSame) 603 = .ok (.iload_n 3, 1) := by decide +kernel
theorem d_SI_isSame_604 : decode (kB K_SI_isSame) 604 = .ok (.baload, 1) := by decide +kernel
theorem d_SI_isSame_605 : decode (kB K_SI_isSame) 605 = .ok (.ifCond .eq 7, 3) := by decide +kernel
theorem d_SI_isSame_608 : decode (kB K_SI_isSame) 608 = .ok (.iconst 1, 1) := by decide +kernel
theorem d_SI_isSame_609 : decode (kB K_SI_isSame) 609 = .ok (.goto 20, 3) := by decide +kernel
theorem d_SI_isSame_612 : decode (kB K_SI_isSame) 612 = .ok (.aload_n 0, 1) := by decide +kernel
theorem d_SI_isSame_613 : decode (kB K_SI_isSame) 613 = .ok (.getfield 17, 3) := by decide +kernel
theorem d_SI_isSame_616 : decode (kB K_SI_isSame) 616 = .ok (.iload_n 3, 1) := by decide +kernel
theorem d_SI_isSame_617 : decode (kB K_SI_isSame) 617 = .ok (.aaload, 1) := by decide +kernel
theorem d_SI_isSame_618 : decode (kB K_SI_isSame) 618 = .ok (.iload 6, 2) := by decide +kernel
theorem d_SI_isSame_620 : decode (kB K_SI_isSame) 620 = .ok (.baload, 1) := by decide +kernel
theorem d_SI_isSame_621 : decode (kB K_SI_isSame) 621 = .ok (.ifCond .eq 7, 3) := by decide +kernel
theorem d_SI_isSame_624 : decode (kB K_SI_isSame) 624 = .ok (.iconst 2, 1) := by decide +kernel
theorem d_SI_isSame_625 : decode (kB K_SI_isSame) 625 = .ok (.goto 4, 3) := by decide +kernel
theorem d_SI_isSame_628 : decode (kB K_SI_isSame) 628 = .ok (.iconst 3, 1) := by decide +kernel
theorem d_SI_isSame_629 : decode (kB K_SI_isSame) 629 = .ok (.if_icmp .eq 5, 3) := by decide +kernel
theorem d_SI_isSame_632 : decode (kB K_SI_isSame) 632 = .ok (.iconst 0, 1) := by decide +kernel
theorem d_SI_isSame_633 : decode (kB K_SI_isSame) 633 = .ok (.ireturn, 1) := by decide +kernel
theorem d_SI_isSame_634 : decode (kB K_SI_isSame) 634 = .ok (.iinc 3 (-1), 3) := by decide +kernel
theorem d_SI_isSame_637 : decode (kB K_SI_isSame) 637 = .ok (.goto (-249), 3) := by decide +kernel
theorem d_SI_isSame_640 : decode (kB K_SI_isSame) 640 = .ok (.iconst 1, 1) := by decide +kernel
theorem d_SI_isSame_641 : decode (kB K_SI_isSame) 641 = .ok (.istore_n 3, 1) := by decide +kernel
theorem d_SI_isSame_642 : decode (kB K_SI_isSame) 642 = .ok (.iconst 1, 1) := by decide +kernel
theorem d_SI_isSame_643 : decode (kB K_SI_isSame) 643 = .ok (.istore 4, 2) := by decide +kernel
theorem d_SI_isSame_645 : decode (kB K_SI_isSame) 645 = .ok (.iload 4, 2) := by decide +kernel
theorem d_SI_isSame_647 : decode (kB K_SI_isSame) 647 = .ok (.aload_n 0, 1) := by decide +kernel
theorem d_SI_isSame_648 : decode (kB K_SI_isSame) 648 = .ok (.getfield 30, 3) := by decide +kernel
theorem d_SI_isSame_651 : decode (kB K_SI_isSame) 651 = .ok (.if_icmp .ge 58, 3) := by decide +kernel
theorem d_SI_isSame_654 : decode (kB K_SI_isSame) 654 = .ok (.iconst 0, 1) := by decide +kernel
theorem d_SI_isSame_655 : decode (kB K_SI_isSame) 655 = .ok (.istore 5, 2) := by decide +kernel
theorem d_SI_isSame_657 : decode (kB K_SI_isSame) 657 = .ok (.iload 5, 2) := by decide +kernel
theorem d_SI_isSame_659 : decode (kB K_SI_isSame) 659 = .ok (.aload_n 0, 1) := by decide +kernel
theorem d_SI_isSame_660 : decode (kB K_SI_isSame) 660 = .ok (.getfield 9, 3) := by decide +kernel
theorem d_SI_isSame_663 : decode (kB K_SI_isSame) 663 = .ok (.arraylength, 1) := by decide +kernel
theorem d_SI_isSame_664 : decode (kB K_SI_isSame) 664 = .ok (.if_icmp .ge 39, 3) := by decide +kernel
theorem d_SI_isSame_667 : decode (kB K_SI_isSame) 667 = .ok (.iload_n 3, 1) := by decide +kernel
theorem d_SI_isSame_668 : decode (kB K_SI_isSame) 668 = .ok (.aload_n 0, 1) := by decide +kernel
theorem d_SI_isSame_669 : decode (kB K_SI_isSame) 669 = .ok (.getfield 41, 3) := by decide +kernel
theorem d_SI_isSame_672 : decode (kB K_SI_isSame) 672 = .ok (.iload 4, 2) := by decide +kernel
theorem d_SI_isSame_674 : decode (kB K_SI_isSame) 674 = .ok (.aaload, 1) := by decide +kernel
theorem d_SI_isSame_675 : decode (kB K_SI_isSame) 675 = .ok (.iload 5, 2) := by decide +kernel
theorem d_SI_isSame_677 : decode (kB K_SI_isSame) 677 = .ok (.baload, 1) := by decide +kernel
theorem d_SI_isSame_678 : decode (kB K_SI_isSame) 678 = .ok (.aload_n 0, 1) := by decide +kernel
theorem d_SI_isSame_679 : decode (kB K_SI_isSame) 679 = .ok (.getfield 41, 3) := by decide +kernel
theorem d_SI_isSame_682 : decode (kB K_SI_isSame) 682 = .ok (.iconst 0, 1) := by decide +kernel
theorem d_SI_isSame_683 : decode (kB K_SI_isSame) 683 = .ok (.aaload, 1) := by decide +kernel
theorem d_SI_isSame_684 : decode (kB K_SI_isSame) 684 = .ok (.iload 5, 2) := by decide +kernel
theorem d_SI_isSame_686 : decode (kB K_SI_isSame) 686 = .ok (.baload, 1) := by decide +kernel
theorem d_SI_isSame_687 : decode (kB K_SI_isSame) 687 = .ok (.if_icmp .ne 7, 3) := by decide +kernel
theorem d_SI_isSame_690 : decode (kB K_SI_isSame) 690 = .ok (.iconst 1, 1) := by decide +kernel
theorem d_SI_isSame_691 : decode (kB K_SI_isSame) 691 = .ok (.goto 4, 3) := by decide +kernel
theorem d_SI_isSame_694 : decode (kB K_SI_isSame) 694 = .ok (.iconst 0, 1) := by decide +kernel
theorem d_SI_isSame_695 : decode (kB K_SI_isSame) 695 = .ok (.iand, 1) := by decide +kernel
theorem d_SI_isSame_696 : decode (kB K_SI_isSame) 696 = .ok (.istore_n 3, 1) := by decide +kernel
theorem d_SI_isSame_697 : decode (kB K_SI_isSame) 697 = .ok (.iinc 5 1, 3) := by decide +kernel
theorem d_SI_isSame_700 : decode (kB K_SI_isSame) 700 = .ok (.goto (-43), 3) := by decide +kernel
theorem d_SI_isSame_703 : decode (kB K_SI_isSame) 703 = .ok (.iinc 4 1, 3) := by decide +kernel
theorem d_SI_isSame_706 : decode (kB K_SI_isSame) 706 = .ok (.goto (-61), 3) := by decide +kernel
theorem d_SI_isSame_709 : decode (kB K_SI_isSame) 709 = .ok (.iconst 0, 1) := by decide +kernel
theorem d_SI_isSame_710 : decode (kB K_SI_isSame) 710 = .ok (.istore 4, 2) := by decide +kernel
theorem d_SI_isSame_712 : decode (kB K_SI_isSame) 712 = .ok (.iload 4, 2) := by decide +kernel
theorem d_SI_isSame_714 : decode (kB K_SI_isSame) 714 = .ok (.aload_n 0, 1) := by decide +kernel
theorem d_SI_isSame_715 : decode (kB K_SI_isSame) 715 = .ok (.getfield 21, 3) := by decide +kernel
theorem d_SI_isSame_718 : decode (kB K_SI_isSame) 718 = .ok (.arraylength, 1) := by decide +kernel
theorem d_SI_isSame_719 : decode (kB K_SI_isSame) 719 = .ok (.if_icmp .ge 160, 3) := by decide +kernel
theorem d_SI_isSame_722 : decode (kB K_SI_isSame) 722 = .ok (.iconst 0, 1) := by decide +kernel
theorem d_SI_isSame_723 : decode (kB K_SI_isSame) 723 = .ok (.istore 5, 2) := by decide +kernel
theorem d_SI_isSame_725 : decode (kB K_SI_isSame) 725 = .ok (.aload_n 0, 1) := by decide +kernel
theorem d_SI_isSame_726 : decode (kB K_SI_isSame) 726 = .ok (.getfield 24, 3) := by decide +kernel
theorem d_SI_isSame_729 : decode (kB K_SI_isSame) 729 = .ok (.astore 6, 2) := by decide +kernel
theorem d_SI_isSame_731 : decode (kB K_SI_isSame) 731 = .ok (.aload 6, 2) := by decide +kernel
theorem d_SI_isSame_733 : decode (kB K_SI_isSame) 733 = .ok (.arraylength, 1) := by decide +kernel
theorem d_SI_isSame_734 : decode (kB K_SI_isSame) 734 = .ok (.istore 7, 2) := by decide +kernel
theorem d_SI_isSame_736 : decode (kB K_SI_isSame) 736 = .ok (.iconst 0, 1) := by decide +kernel
theorem d_SI_isSame_737 : decode (kB K_SI_isSame) 737 = .ok (.istore 8, 2) := by decide +kernel
theorem d_SI_isSame_739 : decode (kB K_SI_isSame) 739 = .ok (.iload 8, 2) := by decide +kernel
theorem d_SI_isSame_741 : decode (kB K_SI_isSame) 741 = .ok (.iload 7, 2) := by decide +kernel
theorem d_SI_isSame_743 : decode (kB K_SI_isSame) 743 = .ok (.if_icmp .ge 39, 3) := by decide +kernel
theorem d_SI_isSame_746 : decode (kB K_SI_isSame) 746 = .ok (.aload 6, 2) := by decide +kernel
theorem d_SI_isSame_748 : decode (kB K_SI_isSame) 748 = .ok (.iload 8, 2) := by decide +kernel
theorem d_SI_isSame_750 : decode (kB K_SI_isSame) 750 = .ok (.aaload, 1) := by decide +kernel
theorem d_SI_isSame_751 : decode (kB K_SI_isSame) 751 = .ok (.astore 9, 2) := by decide +kernel
theorem d_SI_isSame_753 : decode (kB K_SI_isSame) 753 = .ok (.iload 5, 2) := by decide +kernel
theorem d_SI_isSame_755 : decode (kB K_SI_isSame) 755 = .ok (.aload 9, 2) := by decide +kernel
theorem d_SI_isSame_757 : decode (kB K_SI_isSame) 757 = .ok (.iconst 0, 1) := by decide +kernel
theorem d_SI_isSame_758 : decode (kB K_SI_isSame) 758 = .ok (.iaload, 1) := by decide +kernel
theorem d_SI_isSame_759 : decode (kB K_SI_isSame) 759 = .ok (.iload 4, 2) := by decide +kernel
theorem d_SI_isSame_761 : decode (kB K_SI_isSame) 761 = .ok (.if_icmp .ne 11, 3) := by decide +kernel
theorem d_SI_isSame_764 : decode (kB K_SI_isSame) 764 = .ok (.aload 9, 2) := by decide +kernel
theorem d_SI_isSame_766 : decode (kB K_SI_isSame) 766 = .ok (.arraylength, 1) := by decide +kernel
theorem d_SI_isSame_767 : decode (kB K_SI_isSame) 767 = .ok (.iconst 2, 1) := by decide +kernel
theorem d_SI_isSame_768 : decode (kB K_SI_isSame) 768 = .ok (.isub, 1) := by decide +kernel
theorem d_SI_isSame_769 : decode (kB K_SI_isSame) 769 = .ok (.goto 4, 3) := by decide +kernel
theorem d_SI_isSame_772 : decode (kB K_SI_isSame) 772 = .ok (.iconst 0, 1) := by decide +kernel
theorem d_SI_isSame_773 : decode (kB K_SI_isSame) 773 = .ok (.iadd, 1) := by decide +kernel
theorem d_SI_isSame_774 : decode (kB K_SI_isSame) 774 = .ok (.istore 5, 2) := by decide +kernel
theorem d_SI_isSame_776 : decode (kB K_SI_isSame) 776 = .ok (.iinc 8 1, 3) := by decide +kernel
theorem d_SI_isSame_779 : decode (kB K_SI_isSame) 779 = .ok (.goto (-40), 3) := by decide +kernel
theorem d_SI_isSame_782 : decode (kB K_SI_isSame) 782 = .ok (.iconst 5, 1) := by decide +kernel
theorem d_SI_isSame_783 : decode (kB K_SI_isSame) 783 = .ok (.newarray .int, 2) := by decide +kernel
theorem d_SI_isSame_785 : decode (kB K_SI_isSame) 785 = .ok (.dup, 1) := by decide +kernel
theorem d_SI_isSame_786 : decode (kB K_SI_isSame) 786 = .ok (.iconst 0, 1) := by decide +kernel
theorem d_SI_isSame_787 : decode (kB K_SI_isSame) 787 = .ok (.aload_n 0, 1) := by decide +kernel
theorem d_SI_isSame_788 : decode (kB K_SI_isSame) 788 = .ok (.getfield 21, 3) := by decide +kernel
theorem d_SI_isSame_791 : decode (kB K_SI_isSame) 791 = .ok (.iload 4, 2) := by decide +kernel
theorem d_SI_isSame_793 : decode (kB K_SI_isSame) 793 = .ok (.aaload, 1) := by decide +kernel
theorem d_SI_isSame_794 : decode (kB K_SI_isSame) 794 = .ok (.iconst 0, 1) := by decide +kernel
theorem d_SI_isSame_795 : decode (kB K_SI_isSame) 795 = .ok (.iaload, 1) := by decide +kernel
theorem d_SI_isSame_796 : decode (kB K_SI_isSame) 796 = .ok (.iastore, 1) := by decide +kernel
theorem d_SI_isSame_797 : decode (kB K_SI_isSame) 797 = .ok (.dup, 1) := by decide +kernel
theorem d_SI_isSame_798 : decode (kB K_SI_isSame) 798 = .ok (.iconst 1, 1) := by decide +kernel
theorem d_SI_isSame_799 : decode (kB K_SI_isSame) 799 = .ok (.aload_n 0, 1) := by decide +kernel
theorem d_SI_isSame_800 : decode (kB K_SI_isSame) 800 = .ok (.getfield 21, 3) := by decide +kernel
theorem d_SI_isSame_803 : decode (kB K_SI_isSame) 803 = .ok (.iload 4, 2) := by decide +kernel
theorem d_SI_isSame_805 : decode (kB K_SI_isSame) 805 = .ok (.aaload, 1) := by decide +kernel
theorem d_SI_isSame_806 : decode (kB K_SI_isSame) 806 = .ok (.iconst 1, 1) := by decide +kernel
theorem d_SI_isSame_807 : decode (kB K_SI_isSame) 807 = .ok (.iaload, 1) := by decide +kernel
theorem d_SI_isSame_808 : decode (kB K_SI_isSame) 808 = .ok (.iastore, 1) := by decide +kernel
theorem d_SI_isSame_809 : decode (kB K_SI_isSame) 809 = .ok (.dup, 1) := by decide +kernel
theorem d_SI_isSame_810 : decode (kB K_SI_isSame) 810 = .ok (.iconst 2, 1) := by decide +kernel
theorem d_SI_isSame_811 : decode (kB K_SI_isSame) 811 = .ok (.aload_n 0, 1) := by decide +kernel
theorem d_SI_isSame_812 : decode (kB K_SI_isSame) 812 = .ok (.getfield 21, 3) := by decide +kernel
theorem d_SI_isSame_815 : decode (kB K_SI_isSame) 815 = .ok (.iload 4, 2) := by decide +kernel
theorem d_SI_isSame_817 : decode (kB K_SI_isSame) 817 = .ok (.aaload, 1) := by decide +kernel
theorem d_SI_isSame_818 : decode (kB K_SI_isSame) 818 = .ok (.iconst 2, 1) := by decide +kernel
theorem d_SI_isSame_819 : decode (kB K_SI_isSame) 819 = .ok (.iaload, 1) := by decide +kernel
theorem d_SI_isSame_820 : decode (kB K_SI_isSame) 820 = .ok (.iastore, 1) := by decide +kernel
theorem d_SI_isSame_821 : decode (kB K_SI_isSame) 821 = .ok (.dup, 1) := by decide +kernel
theorem d_SI_isSame_822 : decode (kB K_SI_isSame) 822 = .ok (.iconst 3, 1) := by decide +kernel
theorem d_SI_isSame_823 : decode (kB K_SI_isSame) 823 = .ok (.iload 5, 2) := by decide +kernel
theorem d_SI_isSame_825 : decode (kB K_SI_isSame) 825 = .ok (.iastore, 1) := by decide +kernel
theorem d_SI_isSame_826 : decode (kB K_SI_isSame) 826 = .ok (.dup, 1) := by decide +kernel
theorem d_SI_isSame_827 : decode (kB K_SI_isSame) 827 = .ok (.iconst 4, 1) := by decide +kernel
theorem d_SI_isSame_828 : decode (kB K_SI_isSame) 828 = .ok (.aload_n 0, 1) := by decide +kernel
theorem d_SI_isSame_829 : decode (kB K_SI_isSame) 829 = .ok (.getfield 21, 3) := by decide +kernel
theorem d_SI_isSame_832 : decode (kB K_SI_isSame) 832 = .ok (.iload 4, 2) := by decide +kernel
theorem d_SI_isSame_834 : decode (kB K_SI_isSame) 834 = .ok (.aaload, 1) := by decide +kernel
theorem d_SI_isSame_835 : decode (kB K_SI_isSame) 835 = .ok (.iconst 3, 1) := by decide +kernel
theorem d_SI_isSame_836 : decode (kB K_SI_isSame) 836 = .ok (.iaload, 1) := by decide +kernel
theorem d_SI_isSame_837 : decode (kB K_SI_isSame) 837 = .ok (.iastore, 1) := by decide +kernel
theorem d_SI_isSame_838 : decode (kB K_SI_isSame) 838 = .ok (.astore 6, 2) := by decide +kernel
theorem d_SI_isSame_840 : decode (kB K_SI_isSame) 840 = .ok (.iconst 0, 1) := by decide +kernel
theorem d_SI_isSame_841 : decode (kB K_SI_isSame) 841 = .ok (.istore 7, 2) := by decide +kernel
theorem d_SI_isSame_843 : decode (kB K_SI_isSame) 843 = .ok (.iload 7, 2) := by decide +kernel
theorem d_SI_isSame_845 : decode (kB K_SI_isSame) 845 = .ok (.iconst 5, 1) := by decide +kernel
theorem d_SI_isSame_846 : decode (kB K_SI_isSame) 846 = .ok (.if_icmp .ge 27, 3) := by decide +kernel
theorem d_SI_isSame_849 : decode (kB K_SI_isSame) 849 = .ok (.aload_n 1, 1) := by decide +kernel
theorem d_SI_isSame_850 : decode (kB K_SI_isSame) 850 = .ok (.iload 4, 2) := by decide +kernel
theorem d_SI_isSame_852 : decode (kB K_SI_isSame) 852 = .ok (.iload 7, 2) := by decide +kernel
theorem d_SI_isSame_854 : decode (kB K_SI_isSame) 854 = .ok (.invokevirtual 172, 3) := by decide +kernel
theorem d_SI_isSame_857 : decode (kB K_SI_isSame) 857 = .ok (.aload 6, 2) := by decide +kernel
theorem d_SI_isSame_859 : decode (kB K_SI_isSame) 859 = .ok (.iload 7, 2) := by decide +kernel
theorem d_SI_isSame_861 : decode (kB K_SI_isSame) 861 = .ok (.iaload, 1) := by decide +kernel
theorem d_SI_isSame_862 : decode (kB K_SI_isSame) 862 = .ok (.if_icmp .eq 5, 3) := by decide +kernel
theorem d_SI_isSame_865 : decode (kB K_SI_isSame) 865 = .ok (.iconst 0, 1) := by decide +kernel
theorem d_SI_isSame_866 : decode (kB K_SI_isSame) 866 = .ok (.ireturn, 1) := by decide +kernel
theorem d_SI_isSame_867 : decode (kB K_SI_isSame) 867 = .ok (.iinc 7 1, 3) := by decide +kernel
theorem d_SI_isSame_870 : decode (kB K_SI_isSame) 870 = .ok (.goto (-27), 3) := by decide +kernel
theorem d_SI_isSame_873 : decode (kB K_SI_isSame) 873 = .ok (.iinc 4 1, 3) := by decide +kernel
theorem d_SI_isSame_876 : decode (kB K_SI_isSame) 876 = .ok (.goto (-164), 3) := by decide +kernel
theorem d_SI_isSame_879 : decode (kB K_SI_isSame) 879 = .ok (.aload_n 1, 1) := by decide +kernel
theorem d_SI_isSame_880 : decode (kB K_SI_isSame) 880 = .ok (.invokevirtual 175, 3) := by decide +kernel
theorem d_SI_isSame_883 : decode (kB K_SI_isSame) 883 = .ok (.iload_n 2, 1) := by decide +kernel
theorem d_SI_isSame_884 : decode (kB K_SI_isSame) 884 = .ok (.if_icmp .ne 45, 3) := by decide +kernel
theorem d_SI_isSame_887 : decode (kB K_SI_isSame) 887 = .ok (.aload_n 1, 1) := by decide +kernel
theorem d_SI_isSame_888 : decode (kB K_SI_isSame) 888 = .ok (.invokevirtual 179, 3) := by decide +kernel
theorem d_SI_isSame_891 : decode (kB K_SI_isSame) 891 = .ok (.iload_n 3, 1) := by decide +kernel
theorem d_SI_isSame_892 : decode (kB K_SI_isSame) 892 = .ok (.if_icmp .ne 37, 3) := by decide +kernel
theorem d_SI_isSame_895 : decode (kB K_SI_isSame) 895 = .ok (.aload_n 1, 1) := by decide +kernel
theorem d_SI_isSame_896 : decode (kB K_SI_isSame) 896 = .ok (.invokevirtual 183, 3) := by decide +kernel
theorem d_SI_isSame_899 : decode (kB K_SI_isSame) 899 = .ok (.aload_n 0, 1) := by decide +kernel
theorem d_SI_isSame_900 : decode (kB K_SI_isSame) 900 = .ok (.getfield 30, 3) := by decide +kernel
theorem d_SI_isSame_903 : decode (kB K_SI_isSame) 903 = .ok (.ifCond .ne 7, 3) := by decide +kernel
theorem d_SI_isSame_906 : decode (kB K_SI_isSame) 906 = .ok (.dconst 0, 1) := by decide +kernel
theorem d_SI_isSame_907 : decode (kB K_SI_isSame) 907 = .ok (.goto 14, 3) := by decide +kernel
theorem d_SI_isSame_910 : decode (kB K_SI_isSame) 910 = .ok (.aload_n 0, 1) := by decide +kernel
theorem d_SI_isSame_911 : decode (kB K_SI_isSame) 911 = .ok (.invokevirtual 187, 3) := by decide +kernel
theorem d_SI_isSame_914 : decode (kB K_SI_isSame) 914 = .ok (.i2d, 1) := by decide +kernel
theorem d_SI_isSame_915 : decode (kB K_SI_isSame) 915 = .ok (.aload_n 0, 1) := by decide +kernel
theorem d_SI_isSame_916 : decode (kB K_SI_isSame) 916 = .ok (.getfield 30, 3) := by decide +kernel
theorem d_SI_isSame_919 : decode (kB K_SI_isSame) 919 = .ok (.i2d, 1) := by decide +kernel
theorem d_SI_isSame_920 : decode (kB K_SI_isSame) 920 = .ok (.ddiv, 1) := by decide +kernel
theorem d_SI_isSame_921 : decode (kB K_SI_isSame) 921 = .ok (.dcmp .l, 1) := by decide +kernel
theorem d_SI_isSame_922 : decode (kB K_SI_isSame) 922 = .ok (.ifCond .ne 7, 3) := by decide +kernel
theorem d_SI_isSame_925 : decode (kB K_SI_isSame) 925 = .ok (.iconst 1, 1) := by decide +kernel
theorem d_SI_isSame_926 : decode (kB K_SI_isSame) 926 = .ok (.goto 4, 3) := by decide +kernel
theorem d_SI_isSame_929 : decode (kB K_SI_isSame) 929 = .ok (.iconst 0, 1) := by decide +kernel
theorem d_SI_isSame_930 : decode (kB K_SI_isSame) 930 = .ok (.ireturn, 1) := by decide +kernel
def K_AB_init_d00df : KM := (⟨"java/lang/AbstractStringBuilder", "<init>", "(I)V"⟩, prog_19_method_2_code, 2, none, "java/lang/AbstractStringBuilder", ([], []))
theorem d_AB_init_d00df_0 : decode (kB K_AB_init_d00df) 0 = .ok (.aload_n 0, 1) := by decide +kernel
theorem d_AB_init_d00df_1 : decode (kB K_AB_init_d00df) 1 = .ok (.invokespecial 3, 3) := by decide +kernel
theorem d_AB_init_d00df_4 : decode (kB K_AB_init_d00df) 4 = .ok (.getstatic 18, 3) := by decide +kernel
theorem d_AB_init_d00df_7 : decode (kB K_AB_init_d00df) 7 = .ok (.ifCond .eq 18, 3) := by decide +kernel
theorem d_AB_init_d00df_10 : decode (kB K_AB_init_d00df) 10 = .ok (.aload_n 0, 1) := by decide +kernel
theorem d_AB_init_d00df_11 : decode (kB K_AB_init_d00df) 11 = .ok (.iload_n 1, 1) := by decide +kernel
theorem d_AB_init_d00df_12 : decode (kB K_AB_init_d00df) 12 = .ok (.newarray .byte, 2) := by decide +kernel
theorem d_AB_init_d00df_14 : decode (kB K_AB_init_d00df) 14 = .ok (.putfield 15, 3) := by decide +kernel
theorem d_AB_init_d00df_17 : decode (kB K_AB_init_d00df) 17 = .ok (.aload_n 0, 1) := by decide +kernel
theorem d_AB_init_d00df_18 : decode (kB K_AB_init_d00df) 18 = .ok (.iconst 0, 1) := by decide +kernel
theorem d_AB_init_d00df_19 : decode (kB K_AB_init_d00df) 19 = .ok (.putfield 22, 3) := by decide +kernel
theorem d_AB_init_d00df_22 : decode (kB K_AB_init_d00df) 22 = .ok (.goto 16, 3) := by decide +kernel
theorem d_AB_init_d00df_25 : decode (kB K_AB_init_d00df) 25 = .ok (.aload_n 0, 1) := by decide +kernel
theorem d_AB_init_d00df_26 : decode (kB K_AB_init_d00df) 26 = .ok (.iload_n 1, 1) := by decide +kernel
theorem d_AB_init_d00df_27 : decode (kB K_AB_init_d00df) 27 = .ok (.invokestatic 26, 3) := by decide +kernel
theorem d_AB_init_d00df_30 : decode (kB K_AB_init_d00df) 30 = .ok (.putfield 15, 3) := by decide +kernel
theorem d_AB_init_d00df_33 : decode (kB K_AB_init_d00df) 33 = .ok (.aload_n 0, 1) := by decide +kernel
theorem d_AB_init_d00df_34 : decode (kB K_AB_init_d00df) 34 = .ok (.iconst 1, 1) := by decide +kernel
theorem d_AB_init_d00df_35 : decode (kB K_AB_init_d00df) 35 = .ok (.putfield 22, 3) := by decide +kernel
theorem d_AB_init_d00df_38 : decode (kB K_AB_init_d00df) 38 = .ok (.return_, 1) := by decide +kernel
def K_AB_length_8abf5 : KM := (⟨"java/lang/AbstractStringBuilder", "length", "()I"⟩, prog_19_method_6_code, 1, (some (.int)), "java/lang/AbstractStringBuilder", ([], []))
theorem d_AB_length_8abf5_0 : decode (kB K_AB_length_8abf5) 0 = .ok (.aload_n 0, 1) := by decide +kernel
theorem d_AB_length_8abf5_1 : decode (kB K_AB_length_8abf5) 1 = .ok (.getfield 79, 3) := by decide +kernel
theorem d_AB_length_8abf5_4 : decode (kB K_AB_length_8abf5) 4 = .ok (.ireturn, 1) := by decide +kernel
def K_AB_ensureCapacityInternal_d00df : KM := (⟨"java/lang/AbstractStringBuilder", "ensureCapacityInternal", "(I)V"⟩, prog_19_method_9_code, 3, none, "java/lang/AbstractStringBuilder", ([], []))
theorem d_AB_ensureCapacityInternal_d00df_0 : decode (kB K_AB_ensureCapacityInternal_d00df) 0 = .ok (.aload_n 0, 1) := by decide +kernel
theorem d_AB_ensureCapacityInternal_d00df_1 : decode (kB K_AB_ensureCapacityInternal_d00df) 1 = .ok (.getfield 15, 3) := by decide +kernel
theorem d_AB_ensureCapacityInternal_d00df_4 : decode (kB K_AB_ensureCapacityInternal_d00df) 4 = .ok (.arraylength, 1) := by decide +kernel
theorem d_AB_ensureCapacityInternal_d00df_5 : decode (kB K_AB_ensureCapacityInternal_d00df) 5 = .ok (.aload_n 0, 1) := by decide +kernel
theorem d_AB_ensureCapacityInternal_d00df_6 : decode (kB K_AB_ensureCapacityInternal_d00df) 6 = .ok (.getfield 22, 3) := by decide +kernel
theorem d_AB_ensureCapacityInternal_d00df_9 : decode (kB K_AB_ensureCapacityInternal_d00df) 9 = .ok (.ishr, 1) := by decide +kernel
theorem d_AB_ensureCapacityInternal_d00df_10 : decode (kB K_AB_ensureCapacityInternal_d00df) 10 = .ok (.istore_n 2, 1) := by decide +kernel
theorem d_AB_ensureCapacityInternal_d00df_11 : decode (kB K_AB_ensureCapacityInternal_d00df) 11 = .ok (.iload_n 1, 1) := by decide +kernel
theorem d_AB_ensureCapacityInternal_d00df_12 : decode (kB K_AB_ensureCapacityInternal_d00df) 12 = .ok (.iload_n 2, 1) := by decide +kernel
theorem d_AB_ensureCapacityInternal_d00df_13 : decode (kB K_AB_ensureCapacityInternal_d00df) 13 = .ok (.isub, 1) := by decide +kernel
theorem d_AB_ensureCapacityInternal_d00df_14 : decode (kB K_AB_ensureCapacityInternal_d00df) 14 = .ok (.ifCond .le 24, 3) := by decide +kernel
theorem d_AB_ensureCapacityInternal_d00df_17 : decode (kB K_AB_ensureCapacityInternal_d00df) 17 = .ok (.aload_n 0, 1) := by decide +kernel
theorem d_AB_ensureCapacityInternal_d00df_18 : decode (kB K_AB_ensureCapacityInternal_d00df) 18 = .ok (.aload_n 0, 1) := by decide +kernel
theorem d_AB_ensureCapacityInternal_d00df_19 : decode (kB K_AB_ensureCapacityInternal_d00df) 19 = .ok (.getfield 15, 3) := by decide +kernel
theorem d_AB_ensureCapacityInternal_d00df_22 : decode (kB K_AB_ensureCapacityInternal_d00df) 22 = .ok (.aload_n 0, 1) := by decide +kernel
theorem d_AB_ensureCapacityInternal_d00df_23 : decode (kB K_AB_ensureCapacityInternal_d00df) 23 = .ok (.iload_n 1, 1) := by decide +kernel
theorem d_AB_ensureCapacityInternal_d00df_24 : decode (kB K_AB_ensureCapacityInternal_d00df) 24 = .ok (.invokevirtual 104, 3) := by decide +kernel
theorem d_AB_ensureCapacityInternal_d00df_27 : decode (kB K_AB_ensureCapacityInternal_d00df) 27 = .ok (.aload_n 0, 1) := by decide +kernel
theorem d_AB_ensureCapacityInternal_d00df_28 : decode (kB K_AB_ensureCapacityInternal_d00df) 28 = .ok (.getfield 22, 3) := by decide +kernel
theorem d_AB_ensureCapacityInternal_d00df_31 : decode (kB K_AB_ensureCapacityInternal_d00df) 31 = .ok (.ishl, 1) := by decide +kernel
theorem d_AB_ensureCapacityInternal_d00df_32 : decode (kB K_AB_ensureCapacityInternal_d00df) 32 = .ok (.invokestatic 108, 3) := by decide +kernel
theorem d_AB_ensureCapacityInternal_d00df_35 : decode (kB K_AB_ensureCapacityInternal_d00df) 35 = .ok (.putfield 15, 3) := by decide +kernel
theorem d_AB_ensureCapacityInternal_d00df_38 : decode (kB K_AB_ensureCapacityInternal_d00df) 38 = .ok (.return_, 1) := by decide +kernel
def K_AB_newCapacity_0f7a4 : KM := (⟨"java/lang/AbstractStringBuilder", "newCapacity", "(I)I"⟩, prog_19_method_10_code, 6, (some (.int)), "java/lang/AbstractStringBuilder", ([], []))
theorem d_AB_newCapacity_0f7a4_0 : decode (kB K_AB_newCapacity_0f7a4) 0 = .ok (.aload_n 0, 1) := by decide +kernel
theorem d_AB_newCapacity_0f7a4_1 : decode (kB K_AB_newCapacity_0f7a4) 1 = .ok (.getfield 15, 3) := by decide +kernel
theorem d_AB_newCapacity_0f7a4_4 : decode (kB K_AB_newCapacity_0f7a4) 4 = .ok (.arraylength, 1) := by decide +kernel
theorem d_AB_newCapacity_0f7a4_5 : decode (kB K_AB_newCapacity_0f7a4) 5 = .ok (.istore_n 2, 1) := by decide +kernel
theorem d_AB_newCapacity_0f7a4_6 : decode (kB K_AB_newCapacity_0f7a4) 6 = .ok (.iload_n 1, 1) := by decide +kernel
theorem d_AB_newCapacity_0f7a4_7 : decode (kB K_AB_newCapacity_0f7a4) 7 = .ok (.aload_n 0, 1) := by decide +kernel
theorem d_AB_newCapacity_0f7a4_8 : decode (kB K_AB_newCapacity_0f7a4) 8 = .ok (.getfield 22, 3) := by decide +kernel
theorem d_AB_newCapacity_0f7a4_11 : decode (kB K_AB_newCapacity_0f7a4) 11 = .ok (.ishl, 1) := by decide +kernel
theorem d_AB_newCapacity_0f7a4_12 : decode (kB K_AB_newCapacity_0f7a4) 12 = .ok (.istore_n 3, 1) := by decide +kernel
theorem d_AB_newCapacity_0f7a4_13 : decode (kB K_AB_newCapacity_0f7a4) 13 = .ok (.iload_n 3, 1) := by decide +kernel
theorem d_AB_newCapacity_0f7a4_14 : decode (kB K_AB_newCapacity_0f7a4) 14 = .ok (.iload_n 2, 1) := by decide +kernel
theorem d_AB_newCapacity_0f7a4_15 : decode (kB K_AB_newCapacity_0f7a4) 15 = .ok (.isub, 1) := by decide +kernel
theorem d_AB_newCapacity_0f7a4_16 : decode (kB K_AB_newCapacity_0f7a4) 16 = .ok (.istore 4, 2) := by decide +kernel
theorem d_AB_newCapacity_0f7a4_18 : decode (kB K_AB_newCapacity_0f7a4) 18 = .ok (.iload_n 2, 1) := by decide +kernel
theorem d_AB_newCapacity_0f7a4_19 : decode (kB K_AB_newCapacity_0f7a4) 19 = .ok (.iload 4, 2) := by decide +kernel
theorem d_AB_newCapacity_0f7a4_21 : decode (kB K_AB_newCapacity_0f7a4) 21 = .ok (.iload_n 2, 1) := by decide +kernel
theorem d_AB_newCapacity_0f7a4_22 : decode (kB K_AB_newCapacity_0f7a4) 22 = .ok (.iconst 2, 1) := by decide +kernel
theorem d_AB_newCapacity_0f7a4_23 : decode (kB K_AB_newCapacity_0f7a4) 23 = .ok (.aload_n 0, 1) := by decide +kernel
theorem d_AB_newCapacity_0f7a4_24 : decode (kB K_AB_newCapacity_0f7a4) 24 = .ok (.getfield 22, 3) := by decide +kernel
theorem d_AB_newCapacity_0f7a4_27 : decode (kB K_AB_newCapacity_0f7a4) 27 = .ok (.ishl, 1) := by decide +kernel
theorem d_AB_newCapacity_0f7a4_28 : decode (kB K_AB_newCapacity_0f7a4) 28 = .ok (.iadd, 1) := by decide +kernel
theorem d_AB_newCapacity_0f7a4_29 : decode (kB K_AB_newCapacity_0f7a4) 29 = .ok (.invokestatic 114, 3) := by decide +kernel
theorem d_AB_newCapacity_0f7a4_32 : decode (kB K_AB_newCapacity_0f7a4) 32 = .ok (.istore 5, 2) := by decide +kernel
theorem d_AB_newCapacity_0f7a4_34 : decode (kB K_AB_newCapacity_0f7a4) 34 = .ok (.iload 5, 2) := by decide +kernel
theorem d_AB_newCapacity_0f7a4_36 : decode (kB K_AB_newCapacity_0f7a4) 36 = .ok (.ldc 39, 2) := by decide +kernel
theorem d_AB_newCapacity_0f7a4_38 : decode (kB K_AB_newCapacity_0f7a4) 38 = .ok (.if_icmp .ne 13, 3) := by decide +kernel
theorem d_AB_newCapacity_0f7a4_41 : decode (kB K_AB_newCapacity_0f7a4) 41 = .ok (.new 120, 3) := by decide +kernel
theorem d_AB_newCapacity_0f7a4_44 : decode (kB K_AB_newCapacity_0f7a4) 44 = .ok (.dup, 1) := by decide +kernel
theorem d_AB_newCapacity_0f7a4_45 : decode (kB K_AB_newCapacity_0f7a4) 45 = .ok (.ldc 122, 2) := by decide +kernel
theorem d_AB_newCapacity_0f7a4_47 : decode (kB K_AB_newCapacity_0f7a4) 47 = .ok (.invokespecial 124, 3) := by decide +kernel
theorem d_AB_newCapacity_0f7a4_50 : decode (kB K_AB_newCapacity_0f7a4) 50 = .ok (.athrow, 1) := by decide +kernel
theorem d_AB_newCapacity_0f7a4_51 : decode (kB K_AB_newCapacity_0f7a4) 51 = .ok (.iload 5, 2) := by decide +kernel
theorem d_AB_newCapacity_0f7a4_53 : decode (kB K_AB_newCapacity_0f7a4) 53 = .ok (.aload_n 0, 1) := by decide +kernel
theorem d_AB_newCapacity_0f7a4_54 : decode (kB K_AB_newCapacity_0f7a4) 54 = .ok (.getfield 22, 3) := by decide +kernel
theorem d_AB_newCapacity_0f7a4_57 : decode (kB K_AB_newCapacity_0f7a4) 57 = .ok (.ishr, 1) := by decide +kernel
theorem d_AB_newCapacity_0f7a4_58 : decode (kB K_AB_newCapacity_0f7a4) 58 = .ok (.ireturn, 1) := by decide +kernel
def K_AB_append_cf1ce : KM := (⟨"java/lang/AbstractStringBuilder", "append", "(Ljava/lang/String;)Ljava/lang/AbstractStringBuilder;"⟩, prog_19_method_22_code, 3, (some (.object "java/lang/AbstractStringBuilder")), "java/lang/AbstractStringBuilder", ([], []))
theorem d_AB_append_cf1ce_0 : decode (kB K_AB_append_cf1ce) 0 = .ok (.aload_n 1, 1) := by decide +kernel
theorem d_AB_append_cf1ce_1 : decode (kB K_AB_append_cf1ce) 1 = .ok (.ifnonnull 8, 3) := by decide +kernel
theorem d_AB_append_cf1ce_4 : decode (kB K_AB_append_cf1ce) 4 = .ok (.aload_n 0, 1) := by decide +kernel
theorem d_AB_append_cf1ce_5 : decode (kB K_AB_append_cf1ce) 5 = .ok (.invokevirtual 204, 3) := by decide +kernel
theorem d_AB_append_cf1ce_8 : decode (kB K_AB_append_cf1ce) 8 = .ok (.areturn, 1) := by decide +kernel
theorem d_AB_append_cf1ce_9 : decode (kB K_AB_append_cf1ce) 9 = .ok (.aload_n 1, 1) := by decide +kernel
theorem d_AB_append_cf1ce_10 : decode (kB K_AB_append_cf1ce) 10 = .ok (.invokevirtual 32, 3) := by decide +kernel
theorem d_AB_append_cf1ce_13 : decode (kB K_AB_append_cf1ce) 13 = .ok (.istore_n 2, 1) := by decide +kernel
theorem d_AB_append_cf1ce_14 : decode (kB K_AB_append_cf1ce) 14 = .ok (.aload_n 0, 1) := by decide +kernel
theorem d_AB_append_cf1ce_15 : decode (kB K_AB_append_cf1ce) 15 = .ok (.aload_n 0, 1) := by decide +kernel
theorem d_AB_append_cf1ce_16 : decode (kB K_AB_append_cf1ce) 16 = .ok (.getfield 79, 3) := by decide +kernel
theorem d_AB_append_cf1ce_19 : decode (kB K_AB_append_cf1ce) 19 = .ok (.iload_n 2, 1) := by decide +kernel
theorem d_AB_append_cf1ce_20 : decode (kB K_AB_append_cf1ce) 20 = .ok (.iadd, 1) := by decide +kernel
theorem d_AB_append_cf1ce_21 : decode (kB K_AB_append_cf1ce) 21 = .ok (.invokevirtual 100, 3) := by decide +kernel
theorem d_AB_append_cf1ce_24 : decode (kB K_AB_append_cf1ce) 24 = .ok (.aload_n 0, 1) := by decide +kernel
theorem d_AB_append_cf1ce_25 : decode (kB K_AB_append_cf1ce) 25 = .ok (.aload_n 0, 1) := by decide +kernel
theorem d_AB_append_cf1ce_26 : decode (kB K_AB_append_cf1ce) 26 = .ok (.getfield 79, 3) := by decide +kernel
theorem d_AB_append_cf1ce_29 : decode (kB K_AB_append_cf1ce) 29 = .ok (.aload_n 1, 1) := by decide +kernel
theorem d_AB_append_cf1ce_30 : decode (kB K_AB_append_cf1ce) 30 = .ok (.invokevirtual 208, 3) := by decide +kernel
theorem d_AB_append_cf1ce_33 : decode (kB K_AB_append_cf1ce) 33 = .ok (.aload_n 0, 1) := by decide +kernel
theorem d_AB_append_cf1ce_34 : decode (kB K_AB_append_cf1ce) 34 = .ok (.dup, 1) := by decide +kernel
theorem d_AB_append_cf1ce_35 : decode (kB K_AB_append_cf1ce) 35 = .ok (.getfield 79, 3) := by decide +kernel
theorem d_AB_append_cf1ce_38 : decode (kB K_AB_append_cf1ce) 38 = .ok (.iload_n 2, 1) := by decide +kernel
theorem d_AB_append_cf1ce_39 : decode (kB K_AB_append_cf1ce) 39 = .ok (.iadd, 1) := by decide +kernel
theorem d_AB_append_cf1ce_40 : decode (kB K_AB_append_cf1ce) 40 = .ok (.putfield 79, 3) := by decide +kernel
theorem d_AB_append_cf1ce_43 : decode (kB K_AB_append_cf1ce) 43 = .ok (.aload_n 0, 1) := by decide +kernel
theorem d_AB_append_cf1ce_44 : decode (kB K_AB_append_cf1ce) 44 = .ok (.areturn, 1) := by decide +kernel
def K_AB_append_c97b9 : KM := (⟨"java/lang/AbstractStringBuilder", "append", "(I)Ljava/lang/AbstractStringBuilder;"⟩, prog_19_method_32_code, 4, (some (.object "java/lang/AbstractStringBuilder")), "java/lang/AbstractStringBuilder", ([], []))
theorem d_AB_append_c97b9_0 : decode (kB K_AB_append_c97b9) 0 = .ok (.aload_n 0, 1) := by decide +kernel
theorem d_AB_append_c97b9_1 : decode (kB K_AB_append_c97b9) 1 = .ok (.getfield 79, 3) := by decide +kernel
theorem d_AB_append_c97b9_4 : decode (kB K_AB_append_c97b9) 4 = .ok (.istore_n 2, 1) := by decide +kernel
theorem d_AB_append_c97b9_5 : decode (kB K_AB_append_c97b9) 5 = .ok (.iload_n 2, 1) := by decide +kernel
theorem d_AB_append_c97b9_6 : decode (kB K_AB_append_c97b9) 6 = .ok (.iload_n 1, 1) := by decide +kernel
theorem d_AB_append_c97b9_7 : decode (kB K_AB_append_c97b9) 7 = .ok (.invokestatic 245, 3) := by decide +kernel
theorem d_AB_append_c97b9_10 : decode (kB K_AB_append_c97b9) 10 = .ok (.iadd, 1) := by decide +kernel
theorem d_AB_append_c97b9_11 : decode (kB K_AB_append_c97b9) 11 = .ok (.istore_n 3, 1) := by decide +kernel
theorem d_AB_append_c97b9_12 : decode (kB K_AB_append_c97b9) 12 = .ok (.aload_n 0, 1) := by decide +kernel
theorem d_AB_append_c97b9_13 : decode (kB K_AB_append_c97b9) 13 = .ok (.iload_n 3, 1) := by decide +kernel
theorem d_AB_append_c97b9_14 : decode (kB K_AB_append_c97b9) 14 = .ok (.invokevirtual 100, 3) := by decide +kernel
theorem d_AB_append_c97b9_17 : decode (kB K_AB_append_c97b9) 17 = .ok (.aload_n 0, 1) := by decide +kernel
theorem d_AB_append_c97b9_18 : decode (kB K_AB_append_c97b9) 18 = .ok (.invokevirtual 83, 3) := by decide +kernel
theorem d_AB_append_c97b9_21 : decode (kB K_AB_append_c97b9) 21 = .ok (.ifCond .eq 16, 3) := by decide +kernel
theorem d_AB_append_c97b9_24 : decode (kB K_AB_append_c97b9) 24 = .ok (.iload_n 1, 1) := by decide +kernel
theorem d_AB_append_c97b9_25 : decode (kB K_AB_append_c97b9) 25 = .ok (.iload_n 3, 1) := by decide +kernel
theorem d_AB_append_c97b9_26 : decode (kB K_AB_append_c97b9) 26 = .ok (.aload_n 0, 1) := by decide +kernel
theorem d_AB_append_c97b9_27 : decode (kB K_AB_append_c97b9) 27 = .ok (.getfield 15, 3) := by decide +kernel
theorem d_AB_append_c97b9_30 : decode (kB K_AB_append_c97b9) 30 = .ok (.invokestatic 248, 3) := by decide +kernel
theorem d_AB_append_c97b9_33 : decode (kB K_AB_append_c97b9) 33 = .ok (.pop, 1) := by decide +kernel
theorem d_AB_append_c97b9_34 : decode (kB K_AB_append_c97b9) 34 = .ok (.goto 14, 3) := by decide +kernel
theorem d_AB_append_c97b9_37 : decode (kB K_AB_append_c97b9) 37 = .ok (.iload_n 1, 1) := by decide +kernel
theorem d_AB_append_c97b9_38 : decode (kB K_AB_append_c97b9) 38 = .ok (.iload_n 2, 1) := by decide +kernel
theorem d_AB_append_c97b9_39 : decode (kB K_AB_append_c97b9) 39 = .ok (.iload_n 3, 1) := by decide +kernel
theorem d_AB_append_c97b9_40 : decode (kB K_AB_append_c97b9) 40 = .ok (.aload_n 0, 1) := by decide +kernel
theorem d_AB_append_c97b9_41 : decode (kB K_AB_append_c97b9) 41 = .ok (.getfield 15, 3) := by decide +kernel
theorem d_AB_append_c97b9_44 : decode (kB K_AB_append_c97b9) 44 = .ok (.invokestatic 251, 3) := by decide +kernel
theorem d_AB_append_c97b9_47 : decode (kB K_AB_append_c97b9) 47 = .ok (.pop, 1) := by decide +kernel
theorem d_AB_append_c97b9_48 : decode (kB K_AB_append_c97b9) 48 = .ok (.aload_n 0, 1) := by decide +kernel
theorem d_AB_append_c97b9_49 : decode (kB K_AB_append_c97b9) 49 = .ok (.iload_n 3, 1) := by decide +kernel
theorem d_AB_append_c97b9_50 : decode (kB K_AB_append_c97b9) 50 = .ok (.putfield 79, 3) := by decide +kernel
theorem d_AB_append_c97b9_53 : decode (kB K_AB_append_c97b9) 53 = .ok (.aload_n 0, 1) := by decide +kernel
theorem d_AB_append_c97b9_54 : decode (kB K_AB_append_c97b9) 54 = .ok (.areturn, 1) := by decide +kernel
def K_AB_getValue_6d5f1 : KM := (⟨"java/lang/AbstractStringBuilder", "getValue", "()[B"⟩, prog_19_method_64_code, 1, (some (.array (.byte))), "java/lang/AbstractStringBuilder", ([], []))
theorem d_AB_getValue_6d5f1_0 : decode (kB K_AB_getValue_6d5f1) 0 = .ok (.aload_n 0, 1) := by decide +kernel
theorem d_AB_getValue_6d5f1_1 : decode (kB K_AB_getValue_6d5f1) 1 = .ok (.getfield 15, 3) := by decide +kernel
theorem d_AB_getValue_6d5f1_4 : decode (kB K_AB_getValue_6d5f1) 4 = .ok (.areturn, 1) := by decide +kernel
def K_AB_isLatin1_aae02 : KM := (⟨"java/lang/AbstractStringBuilder", "isLatin1", "()Z"⟩, prog_19_method_68_code, 1, (some (.boolean)), "java/lang/AbstractStringBuilder", ([], []))
theorem d_AB_isLatin1_aae02_0 : decode (kB K_AB_isLatin1_aae02) 0 = .ok (.getstatic 18, 3) := by decide +kernel
theorem d_AB_isLatin1_aae02_3 : decode (kB K_AB_isLatin1_aae02) 3 = .ok (.ifCond .eq 14, 3) := by decide +kernel
theorem d_AB_isLatin1_aae02_6 : decode (kB K_AB_isLatin1_aae02) 6 = .ok (.aload_n 0, 1) := by decide +kernel
theorem d_AB_isLatin1_aae02_7 : decode (kB K_AB_isLatin1_aae02) 7 = .ok (.getfield 22, 3) := by decide +kernel
theorem d_AB_isLatin1_aae02_10 : decode (kB K_AB_isLatin1_aae02) 10 = .ok (.ifCond .ne 7, 3) := by decide +kernel
theorem d_AB_isLatin1_aae02_13 : decode (kB K_AB_isLatin1_aae02) 13 = .ok (.iconst 1, 1) := by decide +kernel
theorem d_AB_isLatin1_aae02_14 : decode (kB K_AB_isLatin1_aae02) 14 = .ok (.goto 4, 3) := by decide +kernel
theorem d_AB_isLatin1_aae02_17 : decode (kB K_AB_isLatin1_aae02) 17 = .ok (.iconst 0, 1) := by decide +kernel
theorem d_AB_isLatin1_aae02_18 : decode (kB K_AB_isLatin1_aae02) 18 = .ok (.ireturn, 1) := by decide +kernel
def K_AB_inflateIfNeededFor_a7421 : KM := (⟨"java/lang/AbstractStringBuilder", "inflateIfNeededFor", "(Ljava/lang/String;)V"⟩, prog_19_method_71_code, 2, none, "java/lang/AbstractStringBuilder", ([], []))
theorem d_AB_inflateIfNeededFor_a7421_0 : decode (kB K_AB_inflateIfNeededFor_a7421) 0 = .ok (.getstatic 18, 3) := by decide +kernel
theorem d_AB_inflateIfNeededFor_a7421_3 : decode (kB K_AB_inflateIfNeededFor_a7421) 3 = .ok (.ifCond .eq 18, 3) := by decide +kernel
theorem d_AB_inflateIfNeededFor_a7421_6 : decode (kB K_AB_inflateIfNeededFor_a7421) 6 = .ok (.aload_n 0, 1) := by decide +kernel
theorem d_AB_inflateIfNeededFor_a7421_7 : decode (kB K_AB_inflateIfNeededFor_a7421) 7 = .ok (.getfield 22, 3) := by decide +kernel
theorem d_AB_inflateIfNeededFor_a7421_10 : decode (kB K_AB_inflateIfNeededFor_a7421) 10 = .ok (.aload_n 1, 1) := by decide +kernel
theorem d_AB_inflateIfNeededFor_a7421_11 : decode (kB K_AB_inflateIfNeededFor_a7421) 11 = .ok (.invokevirtual 40, 3) := by decide +kernel
theorem d_AB_inflateIfNeededFor_a7421_14 : decode (kB K_AB_inflateIfNeededFor_a7421) 14 = .ok (.if_icmp .eq 7, 3) := by decide +kernel
theorem d_AB_inflateIfNeededFor_a7421_17 : decode (kB K_AB_inflateIfNeededFor_a7421) 17 = .ok (.aload_n 0, 1) := by decide +kernel
theorem d_AB_inflateIfNeededFor_a7421_18 : decode (kB K_AB_inflateIfNeededFor_a7421) 18 = .ok (.invokevirtual 195, 3) := by decide +kernel
theorem d_AB_inflateIfNeededFor_a7421_21 : decode (kB K_AB_inflateIfNeededFor_a7421) 21 = .ok (.return_, 1) := by decide +kernel
def K_AB_putStringAt_47b60 : KM := (⟨"java/lang/AbstractStringBuilder", "putStringAt", "(ILjava/lang/String;)V"⟩, prog_19_method_73_code, 3, none, "java/lang/AbstractStringBuilder", ([], []))
theorem d_AB_putStringAt_47b60_0 : decode (kB K_AB_putStringAt_47b60) 0 = .ok (.aload_n 0, 1) := by decide +kernel
theorem d_AB_putStringAt_47b60_1 : decode (kB K_AB_putStringAt_47b60) 1 = .ok (.aload_n 2, 1) := by decide +kernel
theorem d_AB_putStringAt_47b60_2 : decode (kB K_AB_putStringAt_47b60) 2 = .ok (.invokevirtual 397, 3) := by decide +kernel
theorem d_AB_putStringAt_47b60_5 : decode (kB K_AB_putStringAt_47b60) 5 = .ok (.aload_n 2, 1) := by decide +kernel
theorem d_AB_putStringAt_47b60_6 : decode (kB K_AB_putStringAt_47b60) 6 = .ok (.aload_n 0, 1) := by decide +kernel
theorem d_AB_putStringAt_47b60_7 : decode (kB K_AB_putStringAt_47b60) 7 = .ok (.getfield 15, 3) := by decide +kernel
theorem d_AB_putStringAt_47b60_10 : decode (kB K_AB_putStringAt_47b60) 10 = .ok (.iload_n 1, 1) := by decide +kernel
theorem d_AB_putStringAt_47b60_11 : decode (kB K_AB_putStringAt_47b60) 11 = .ok (.aload_n 0, 1) := by decide +kernel
theorem d_AB_putStringAt_47b60_12 : decode (kB K_AB_putStringAt_47b60) 12 = .ok (.getfield 22, 3) := by decide +kernel
theorem d_AB_putStringAt_47b60_15 : decode (kB K_AB_putStringAt_47b60) 15 = .ok (.invokevirtual 399, 3) := by decide +kernel
theorem d_AB_putStringAt_47b60_18 : decode (kB K_AB_putStringAt_47b60) 18 = .ok (.return_, 1) := by decide +kernel
def K_En_ordinal_8abf5 : KM := (⟨"java/lang/Enum", "ordinal", "()I"⟩, prog_21_method_2_code, 1, (some (.int)), "java/lang/Enum", ([], []))
theorem d_En_ordinal_8abf5_0 : decode (kB K_En_ordinal_8abf5) 0 = .ok (.aload_n 0, 1) := by decide +kernel
theorem d_En_ordinal_8abf5_1 : decode (kB K_En_ordinal_8abf5) 1 = .ok (.getfield 7, 3) := by decide +kernel
theorem d_En_ordinal_8abf5_4 : decode (kB K_En_ordinal_8abf5) 4 = .ok (.ireturn, 1) := by decide +kernel
def K_JI_getChars_ba4f3 : KM := (⟨"java/lang/Integer", "getChars", "(II[B)I"⟩, prog_26_method_12_code, 7, (some (.int)), "java/lang/Integer", ([], []))
theorem d_JI_getChars_ba4f3_0 : decode (kB K_JI_getChars_ba4f3) 0 = .ok (.iload_n 1, 1) := by decide +kernel
theorem d_JI_getChars_ba4f3_1 : decode (kB K_JI_getChars_ba4f3) 1 = .ok (.istore 5, 2) := by decide +kernel
theorem d_JI_getChars_ba4f3_3 : decode (kB K_JI_getChars_ba4f3) 3 = .ok (.iload_n 0, 1) := by decide +kernel
theorem d_JI_getChars_ba4f3_4 : decode (kB K_JI_getChars_ba4f3) 4 = .ok (.ifCond .ge 7, 3) := by decide +kernel
theorem d_JI_getChars_ba4f3_7 : decode (kB K_JI_getChars_ba4f3) 7 = .ok (.iconst 1, 1) := by decide +kernel
theorem d_JI_getChars_ba4f3_8 : decode (kB K_JI_getChars_ba4f3) 8 = .ok (.goto 4, 3) := by decide +kernel
theorem d_JI_getChars_ba4f3_11 : decode (kB K_JI_getChars_ba4f3) 11 = .ok (.iconst 0, 1) := by decide +kernel
theorem d_JI_getChars_ba4f3_12 : decode (kB K_JI_getChars_ba4f3) 12 = .ok (.istore 6, 2) := by decide +kernel
theorem d_JI_getChars_ba4f3_14 : decode (kB K_JI_getChars_ba4f3) 14 = .ok (.iload 6, 2) := by decide +kernel
theorem d_JI_getChars_ba4f3_16 : decode (kB K_JI_getChars_ba4f3) 16 = .ok (.ifCond .ne 6, 3) := by decide +kernel
theorem d_JI_getChars_ba4f3_19 : decode (kB K_JI_getChars_ba4f3) 19 = .ok (.iload_n 0, 1) := by decide +kernel
theorem d_JI_getChars_ba4f3_20 : decode (kB K_JI_getChars_ba4f3) 20 = .ok (.ineg, 1) := by decide +kernel
theorem d_JI_getChars_ba4f3_21 : decode (kB K_JI_getChars_ba4f3) 21 = .ok (.istore_n 0, 1) := by decide +kernel
theorem d_JI_getChars_ba4f3_22 : decode (kB K_JI_getChars_ba4f3) 22 = .ok (.iload_n 0, 1) := by decide +kernel
theorem d_JI_getChars_ba4f3_23 : decode (kB K_JI_getChars_ba4f3) 23 = .ok (.bipush (-100), 2) := by decide +kernel
theorem d_JI_getChars_ba4f3_25 : decode (kB K_JI_getChars_ba4f3) 25 = .ok (.if_icmp .gt 47, 3) := by decide +kernel
theorem d_JI_getChars_ba4f3_28 : decode (kB K_JI_getChars_ba4f3) 28 = .ok (.iload_n 0, 1) := by decide +kernel
theorem d_JI_getChars_ba4f3_29 : decode (kB K_JI_getChars_ba4f3) 29 = .ok (.bipush 100, 2) := by decide +kernel
theorem d_JI_getChars_ba4f3_31 : decode (kB K_JI_getChars_ba4f3) 31 = .ok (.idiv, 1) := by decide +kernel
theorem d_JI_getChars_ba4f3_32 : decode (kB K_JI_getChars_ba4f3) 32 = .ok (.istore_n 3, 1) := by decide +kernel
theorem d_JI_getChars_ba4f3_33 : decode (kB K_JI_getChars_ba4f3) 33 = .ok (.iload_n 3, 1) := by decide +kernel
theorem d_JI_getChars_ba4f3_34 : decode (kB K_JI_getChars_ba4f3) 34 = .ok (.bipush 100, 2) := by decide +kernel
theorem d_JI_getChars_ba4f3_36 : decode (kB K_JI_getChars_ba4f3) 36 = .ok (.imul, 1) := by decide +kernel
theorem d_JI_getChars_ba4f3_37 : decode (kB K_JI_getChars_ba4f3) 37 = .ok (.iload_n 0, 1) := by decide +kernel
theorem d_JI_getChars_ba4f3_38 : decode (kB K_JI_getChars_ba4f3) 38 = .ok (.isub, 1) := by decide +kernel
theorem d_JI_getChars_ba4f3_39 : decode (kB K_JI_getChars_ba4f3) 39 = .ok (.istore 4, 2) := by decide +kernel
theorem d_JI_getChars_ba4f3_41 : decode (kB K_JI_getChars_ba4f3) 41 = .ok (.iload_n 3, 1) := by decide +kernel
theorem d_JI_getChars_ba4f3_42 : decode (kB K_JI_getChars_ba4f3) 42 = .ok (.istore_n 0, 1) := by decide +kernel
theorem d_JI_getChars_ba4f3_43 : decode (kB K_JI_getChars_ba4f3) 43 = .ok (.aload_n 2, 1) := by decide +kernel
theorem d_JI_getChars_ba4f3_44 : decode (kB K_JI_getChars_ba4f3) 44 = .ok (.iinc 5 (-1), 3) := by decide +kernel
theorem d_JI_getChars_ba4f3_47 : decode (kB K_JI_getChars_ba4f3) 47 = .ok (.iload 5, 2) := by decide +kernel
theorem d_JI_getChars_ba4f3_49 : decode (kB K_JI_getChars_ba4f3) 49 = .ok (.getstatic 83, 3) := by decide +kernel
theorem d_JI_getChars_ba4f3_52 : decode (kB K_JI_getChars_ba4f3) 52 = .ok (.iload 4, 2) := by decide +kernel
theorem d_JI_getChars_ba4f3_54 : decode (kB K_JI_getChars_ba4f3) 54 = .ok (.baload, 1) := by decide +kernel
theorem d_JI_getChars_ba4f3_55 : decode (kB K_JI_getChars_ba4f3) 55 = .ok (.bastore, 1) := by decide +kernel
theorem d_JI_getChars_ba4f3_56 : decode (kB K_JI_getChars_ba4f3) 56 = .ok (.aload_n 2, 1) := by decide +kernel
theorem d_JI_getChars_ba4f3_57 : decode (kB K_JI_getChars_ba4f3) 57 = .ok (.iinc 5 (-1), 3) := by decide +kernel
theorem d_JI_getChars_ba4f3_60 : decode (kB K_JI_getChars_ba4f3) 60 = .ok (.iload 5, 2) := by decide +kernel
theorem d_JI_getChars_ba4f3_62 : decode (kB K_JI_getChars_ba4f3) 62 = .ok (.getstatic 87, 3) := by decide +kernel
theorem d_JI_getChars_ba4f3_65 : decode (kB K_JI_getChars_ba4f3) 65 = .ok (.iload 4, 2) := by decide +kernel
theorem d_JI_getChars_ba4f3_67 : decode (kB K_JI_getChars_ba4f3) 67 = .ok (.baload, 1) := by decide +kernel
theorem d_JI_getChars_ba4f3_68 : decode (kB K_JI_getChars_ba4f3) 68 = .ok (.bastore, 1) := by decide +kernel
theorem d_JI_getChars_ba4f3_69 : decode (kB K_JI_getChars_ba4f3) 69 = .ok (.goto (-47), 3) := by decide +kernel
theorem d_JI_getChars_ba4f3_72 : decode (kB K_JI_getChars_ba4f3) 72 = .ok (.aload_n 2, 1) := by decide +kernel
theorem d_JI_getChars_ba4f3_73 : decode (kB K_JI_getChars_ba4f3) 73 = .ok (.iinc 5 (-1), 3) := by decide +kernel
theorem d_JI_getChars_ba4f3_76 : decode (kB K_JI_getChars_ba4f3) 76 = .ok (.iload 5, 2) := by decide +kernel
theorem d_JI_getChars_ba4f3_78 : decode (kB K_JI_getChars_ba4f3) 78 = .ok (.getstatic 83, 3) := by decide +kernel
theorem d_JI_getChars_ba4f3_81 : decode (kB K_JI_getChars_ba4f3) 81 = .ok (.iload_n 0, 1) := by decide +kernel
theorem d_JI_getChars_ba4f3_82 : decode (kB K_JI_getChars_ba4f3) 82 = .ok (.ineg, 1) := by decide +kernel
theorem d_JI_getChars_ba4f3_83 : decode (kB K_JI_getChars_ba4f3) 83 = .ok (.baload, 1) := by decide +kernel
theorem d_JI_getChars_ba4f3_84 : decode (kB K_JI_getChars_ba4f3) 84 = .ok (.bastore, 1) := by decide +kernel
theorem d_JI_getChars_ba4f3_85 : decode (kB K_JI_getChars_ba4f3) 85 = .ok (.iload_n 0, 1) := by decide +kernel
theorem d_JI_getChars_ba4f3_86 : decode (kB K_JI_getChars_ba4f3) 86 = .ok (.bipush (-9), 2) := by decide +kernel
theorem d_JI_getChars_ba4f3_88 : decode (kB K_JI_getChars_ba4f3) 88 = .ok (.if_icmp .ge 16, 3) := by decide +kernel
theorem d_JI_getChars_ba4f3_91 : decode (kB K_JI_getChars_ba4f3) 91 = .ok (.aload_n 2, 1) := by decide +kernel
theorem d_JI_getChars_ba4f3_92 : decode (kB K_JI_getChars_ba4f3) 92 = .ok (.iinc 5 (-1), 3) := by decide +kernel
theorem d_JI_getChars_ba4f3_95 : decode (kB K_JI_getChars_ba4f3) 95 = .ok (.iload 5, 2) := by decide +kernel
theorem d_JI_getChars_ba4f3_97 : decode (kB K_JI_getChars_ba4f3) 97 = .ok (.getstatic 87, 3) := by decide +kernel
theorem d_JI_getChars_ba4f3_100 : decode (kB K_JI_getChars_ba4f3) 100 = .ok (.iload_n 0, 1) := by decide +kernel
theorem d_JI_getChars_ba4f3_101 : decode (kB K_JI_getChars_ba4f3) 101 = .ok (.ineg, 1) := by decide +kernel
theorem d_JI_getChars_ba4f3_102 : decode (kB K_JI_getChars_ba4f3) 102 = .ok (.baload, 1) := by decide +kernel
theorem d_JI_getChars_ba4f3_103 : decode (kB K_JI_getChars_ba4f3) 103 = .ok (.bastore, 1) := by decide +kernel
theorem d_JI_getChars_ba4f3_104 : decode (kB K_JI_getChars_ba4f3) 104 = .ok (.iload 6, 2) := by decide +kernel
theorem d_JI_getChars_ba4f3_106 : decode (kB K_JI_getChars_ba4f3) 106 = .ok (.ifCond .eq 12, 3) := by decide +kernel
theorem d_JI_getChars_ba4f3_109 : decode (kB K_JI_getChars_ba4f3) 109 = .ok (.aload_n 2, 1) := by decide +kernel
theorem d_JI_getChars_ba4f3_110 : decode (kB K_JI_getChars_ba4f3) 110 = .ok (.iinc 5 (-1), 3) := by decide +kernel
theorem d_JI_getChars_ba4f3_113 : decode (kB K_JI_getChars_ba4f3) 113 = .ok (.iload 5, 2) := by decide +kernel
theorem d_JI_getChars_ba4f3_115 : decode (kB K_JI_getChars_ba4f3) 115 = .ok (.bipush 45, 2) := by decide +kernel
theorem d_JI_getChars_ba4f3_117 : decode (kB K_JI_getChars_ba4f3) 117 = .ok (.bastore, 1) := by decide +kernel
theorem d_JI_getChars_ba4f3_118 : decode (kB K_JI_getChars_ba4f3) 118 = .ok (.iload 5, 2) := by decide +kernel
theorem d_JI_getChars_ba4f3_120 : decode (kB K_JI_getChars_ba4f3) 120 = .ok (.ireturn, 1) := by decide +kernel
def K_JI_stringSize_0f7a4 : KM := (⟨"java/lang/Integer", "stringSize", "(I)I"⟩, prog_26_method_13_code, 4, (some (.int)), "java/lang/Integer", ([], []))
theorem d_JI_stringSize_0f7a4_0 : decode (kB K_JI_stringSize_0f7a4) 0 = .ok (.iconst 1, 1) := by decide +kernel
theorem d_JI_stringSize_0f7a4_1 : decode (kB K_JI_stringSize_0f7a4) 1 = .ok (.istore_n 1, 1) := by decide +kernel
theorem d_JI_stringSize_0f7a4_2 : decode (kB K_JI_stringSize_0f7a4) 2 = .ok (.iload_n 0, 1) := by decide +kernel
theorem d_JI_stringSize_0f7a4_3 : decode (kB K_JI_stringSize_0f7a4) 3 = .ok (.ifCond .lt 8, 3) := by decide +kernel
theorem d_JI_stringSize_0f7a4_6 : decode (kB K_JI_stringSize_0f7a4) 6 = .ok (.iconst 0, 1) := by decide +kernel
theorem d_JI_stringSize_0f7a4_7 : decode (kB K_JI_stringSize_0f7a4) 7 = .ok (.istore_n 1, 1) := by decide +kernel
theorem d_JI_stringSize_0f7a4_8 : decode (kB K_JI_stringSize_0f7a4) 8 = .ok (.iload_n 0, 1) := by decide +kernel
theorem d_JI_stringSize_0f7a4_9 : decode (kB K_JI_stringSize_0f7a4) 9 = .ok (.ineg, 1) := by decide +kernel
theorem d_JI_stringSize_0f7a4_10 : decode (kB K_JI_stringSize_0f7a4) 10 = .ok (.istore_n 0, 1) := by decide +kernel
theorem d_JI_stringSize_0f7a4_11 : decode (kB K_JI_stringSize_0f7a4) 11 = .ok (.bipush (-10), 2) := by decide +kernel
theorem d_JI_stringSize_0f7a4_13 : decode (kB K_JI_stringSize_0f7a4) 13 = .ok (.istore_n 2, 1) := by decide +kernel
theorem d_JI_stringSize_0f7a4_14 : decode (kB K_JI_stringSize_0f7a4) 14 = .ok (.iconst 1, 1) := by decide +kernel
theorem d_JI_stringSize_0f7a4_15 : decode (kB K_JI_stringSize_0f7a4) 15 = .ok (.istore_n 3, 1) := by decide +kernel
theorem d_JI_stringSize_0f7a4_16 : decode (kB K_JI_stringSize_0f7a4) 16 = .ok (.iload_n 3, 1) := by decide +kernel
theorem d_JI_stringSize_0f7a4_17 : decode (kB K_JI_stringSize_0f7a4) 17 = .ok (.bipush 10, 2) := by decide +kernel
theorem d_JI_stringSize_0f7a4_19 : decode (kB K_JI_stringSize_0f7a4) 19 = .ok (.if_icmp .ge 23, 3) := by decide +kernel
theorem d_JI_stringSize_0f7a4_22 : decode (kB K_JI_stringSize_0f7a4) 22 = .ok (.iload_n 0, 1) := by decide +kernel
theorem d_JI_stringSize_0f7a4_23 : decode (kB K_JI_stringSize_0f7a4) 23 = .ok (.iload_n 2, 1) := by decide +kernel
theorem d_JI_stringSize_0f7a4_24 : decode (kB K_JI_stringSize_0f7a4) 24 = .ok (.if_icmp .le 7, 3) := by decide +kernel
theorem d_JI_stringSize_0f7a4_27 : decode (kB K_JI_stringSize_0f7a4) 27 = .ok (.iload_n 3, 1) := by decide +kernel
theorem d_JI_stringSize_0f7a4_28 : decode (kB K_JI_stringSize_0f7a4) 28 = .ok (.iload_n 1, 1) := by decide +kernel
theorem d_JI_stringSize_0f7a4_29 : decode (kB K_JI_stringSize_0f7a4) 29 = .ok (.iadd, 1) := by decide +kernel
theorem d_JI_stringSize_0f7a4_30 : decode (kB K_JI_stringSize_0f7a4) 30 = .ok (.ireturn, 1) := by decide +kernel
theorem d_JI_stringSize_0f7a4_31 : decode (kB K_JI_stringSize_0f7a4) 31 = .ok (.bipush 10, 2) := by decide +kernel
theorem d_JI_stringSize_0f7a4_33 : decode (kB K_JI_stringSize_0f7a4) 33 = .ok (.iload_n 2, 1) := by decide +kernel
theorem d_JI_stringSize_0f7a4_34 : decode (kB K_JI_stringSize_0f7a4) 34 = .ok (.imul, 1) := by decide +kernel
theorem d_JI_stringSize_0f7a4_35 : decode (kB K_JI_stringSize_0f7a4) 35 = .ok (.istore_n 2, 1) := by decide +kernel
theorem d_JI_stringSize_0f7a4_36 : decode (kB K_JI_stringSize_0f7a4) 36 = .ok (.iinc 3 1, 3) := by decide +kernel
theorem d_JI_stringSize_0f7a4_39 : decode (kB K_JI_stringSize_0f7a4) 39 = .ok (.goto (-23), 3) := by decide +kernel
theorem d_JI_stringSize_0f7a4_42 : decode (kB K_JI_stringSize_0f7a4) 42 = .ok (.bipush 10, 2) := by decide +kernel
theorem d_JI_stringSize_0f7a4_44 : decode (kB K_JI_stringSize_0f7a4) 44 = .ok (.iload_n 1, 1) := by decide +kernel
theorem d_JI_stringSize_0f7a4_45 : decode (kB K_JI_stringSize_0f7a4) 45 = .ok (.iadd, 1) := by decide +kernel
theorem d_JI_stringSize_0f7a4_46 : decode (kB K_JI_stringSize_0f7a4) 46 = .ok (.ireturn, 1) := by decide +kernel
def K_JI_bitCount_0f7a4 : KM := (⟨"java/lang/Integer", "bitCount", "(I)I"⟩, prog_26_method_49_code, 1, (some (.int)), "java/lang/Integer", ([], []))
theorem d_JI_bitCount_0f7a4_0 : decode (kB K_JI_bitCount_0f7a4) 0 = .ok (.iload_n 0, 1) := by decide +kernel
theorem d_JI_bitCount_0f7a4_1 : decode (kB K_JI_bitCount_0f7a4) 1 = .ok (.iload_n 0, 1) := by decide +kernel
theorem d_JI_bitCount_0f7a4_2 : decode (kB K_JI_bitCount_0f7a4) 2 = .ok (.iconst 1, 1) := by decide +kernel
theorem d_JI_bitCount_0f7a4_3 : decode (kB K_JI_bitCount_0f7a4) 3 = .ok (.iushr, 1) := by decide +kernel
theorem d_JI_bitCount_0f7a4_4 : decode (kB K_JI_bitCount_0f7a4) 4 = .ok (.ldc_w 265, 3) := by decide +kernel
theorem d_JI_bitCount_0f7a4_7 : decode (kB K_JI_bitCount_0f7a4) 7 = .ok (.iand, 1) := by decide +kernel
theorem d_JI_bitCount_0f7a4_8 : decode (kB K_JI_bitCount_0f7a4) 8 = .ok (.isub, 1) := by decide +kernel
theorem d_JI_bitCount_0f7a4_9 : decode (kB K_JI_bitCount_0f7a4) 9 = .ok (.istore_n 0, 1) := by decide +kernel
theorem d_JI_bitCount_0f7a4_10 : decode (kB K_JI_bitCount_0f7a4) 10 = .ok (.iload_n 0, 1) := by decide +kernel
theorem d_JI_bitCount_0f7a4_11 : decode (kB K_JI_bitCount_0f7a4) 11 = .ok (.ldc_w 266, 3) := by decide +kernel
theorem d_JI_bitCount_0f7a4_14 : decode (kB K_JI_bitCount_0f7a4) 14 = .ok (.iand, 1) := by decide +kernel
theorem d_JI_bitCount_0f7a4_15 : decode (kB K_JI_bitCount_0f7a4) 15 = .ok (.iload_n 0, 1) := by decide +kernel
theorem d_JI_bitCount_0f7a4_16 : decode (kB K_JI_bitCount_0f7a4) 16 = .ok (.iconst 2, 1) := by decide +kernel
theorem d_JI_bitCount_0f7a4_17 : decode (kB K_JI_bitCount_0f7a4) 17 = .ok (.iushr, 1) := by decide +kernel
theorem d_JI_bitCount_0f7a4_18 : decode (kB K_JI_bitCount_0f7a4) 18 = .ok (.ldc_w 266, 3) := by decide +kernel
theorem d_JI_bitCount_0f7a4_21 : decode (kB K_JI_bitCount_0f7a4) 21 = .ok (.iand, 1) := by decide +kernel
theorem d_JI_bitCount_0f7a4_22 : decode (kB K_JI_bitCount_0f7a4) 22 = .ok (.iadd, 1) := by decide +kernel
theorem d_JI_bitCount_0f7a4_23 : decode (kB K_JI_bitCount_0f7a4) 23 = .ok (.istore_n 0, 1) := by decide +kernel
theorem d_JI_bitCount_0f7a4_24 : decode (kB K_JI_bitCount_0f7a4) 24 = .ok (.iload_n 0, 1) := by decide +kernel
theorem d_JI_bitCount_0f7a4_25 : decode (kB K_JI_bitCount_0f7a4) 25 = .ok (.iload_n 0, 1) := by decide +kernel
theorem d_JI_bitCount_0f7a4_26 : decode (kB K_JI_bitCount_0f7a4) 26 = .ok (.iconst 4, 1) := by decide +kernel
theorem d_JI_bitCount_0f7a4_27 : decode (kB K_JI_bitCount_0f7a4) 27 = .ok (.iushr, 1) := by decide +kernel
theorem d_JI_bitCount_0f7a4_28 : decode (kB K_JI_bitCount_0f7a4) 28 = .ok (.iadd, 1) := by decide +kernel
theorem d_JI_bitCount_0f7a4_29 : decode (kB K_JI_bitCount_0f7a4) 29 = .ok (.ldc_w 267, 3) := by decide +kernel
theorem d_JI_bitCount_0f7a4_32 : decode (kB K_JI_bitCount_0f7a4) 32 = .ok (.iand, 1) := by decide +kernel
theorem d_JI_bitCount_0f7a4_33 : decode (kB K_JI_bitCount_0f7a4) 33 = .ok (.istore_n 0, 1) := by decide +kernel
theorem d_JI_bitCount_0f7a4_34 : decode (kB K_JI_bitCount_0f7a4) 34 = .ok (.iload_n 0, 1) := by decide +kernel
theorem d_JI_bitCount_0f7a4_35 : decode (kB K_JI_bitCount_0f7a4) 35 = .ok (.iload_n 0, 1) := by decide +kernel
theorem d_JI_bitCount_0f7a4_36 : decode (kB K_JI_bitCount_0f7a4) 36 = .ok (.bipush 8, 2) := by decide +kernel
theorem d_JI_bitCount_0f7a4_38 : decode (kB K_JI_bitCount_0f7a4) 38 = .ok (.iushr, 1) := by decide +kernel
theorem d_JI_bitCount_0f7a4_39 : decode (kB K_JI_bitCount_0f7a4) 39 = .ok (.iadd, 1) := by decide +kernel
theorem d_JI_bitCount_0f7a4_40 : decode (kB K_JI_bitCount_0f7a4) 40 = .ok (.istore_n 0, 1) := by decide +kernel
theorem d_JI_bitCount_0f7a4_41 : decode (kB K_JI_bitCount_0f7a4) 41 = .ok (.iload_n 0, 1) := by decide +kernel
theorem d_JI_bitCount_0f7a4_42 : decode (kB K_JI_bitCount_0f7a4) 42 = .ok (.iload_n 0, 1) := by decide +kernel
theorem d_JI_bitCount_0f7a4_43 : decode (kB K_JI_bitCount_0f7a4) 43 = .ok (.bipush 16, 2) := by decide +kernel
theorem d_JI_bitCount_0f7a4_45 : decode (kB K_JI_bitCount_0f7a4) 45 = .ok (.iushr, 1) := by decide +kernel
theorem d_JI_bitCount_0f7a4_46 : decode (kB K_JI_bitCount_0f7a4) 46 = .ok (.iadd, 1) := by decide +kernel
theorem d_JI_bitCount_0f7a4_47 : decode (kB K_JI_bitCount_0f7a4) 47 = .ok (.istore_n 0, 1) := by decide +kernel
theorem d_JI_bitCount_0f7a4_48 : decode (kB K_JI_bitCount_0f7a4) 48 = .ok (.iload_n 0, 1) := by decide +kernel
theorem d_JI_bitCount_0f7a4_49 : decode (kB K_JI_bitCount_0f7a4) 49 = .ok (.bipush 63, 2) := by decide +kernel
theorem d_JI_bitCount_0f7a4_51 : decode (kB K_JI_bitCount_0f7a4) 51 = .ok (.iand, 1) := by decide +kernel
theorem d_JI_bitCount_0f7a4_52 : decode (kB K_JI_bitCount_0f7a4) 52 = .ok (.ireturn, 1) := by decide +kernel
def K_JM_max_7cf53 : KM := (⟨"java/lang/Math", "max", "(II)I"⟩, prog_27_method_65_code, 2, (some (.int)), "java/lang/Math", ([], []))
theorem d_JM_max_7cf53_0 : decode (kB K_JM_max_7cf53) 0 = .ok (.iload_n 0, 1) := by decide +kernel
theorem d_JM_max_7cf53_1 : decode (kB K_JM_max_7cf53) 1 = .ok (.iload_n 1, 1) := by decide +kernel
theorem d_JM_max_7cf53_2 : decode (kB K_JM_max_7cf53) 2 = .ok (.if_icmp .lt 7, 3) := by decide +kernel
theorem d_JM_max_7cf53_5 : decode (kB K_JM_max_7cf53) 5 = .ok (.iload_n 0, 1) := by decide +kernel
theorem d_JM_max_7cf53_6 : decode (kB K_JM_max_7cf53) 6 = .ok (.goto 4, 3) := by decide +kernel
theorem d_JM_max_7cf53_9 : decode (kB K_JM_max_7cf53) 9 = .ok (.iload_n 1, 1) := by decide +kernel
theorem d_JM_max_7cf53_10 : decode (kB K_JM_max_7cf53) 10 = .ok (.ireturn, 1) := by decide +kernel
def K_JM_min_7cf53 : KM := (⟨"java/lang/Math", "min", "(II)I"⟩, prog_27_method_69_code, 2, (some (.int)), "java/lang/Math", ([], []))
theorem d_JM_min_7cf53_0 : decode (kB K_JM_min_7cf53) 0 = .ok (.iload_n 0, 1) := by decide +kernel
theorem d_JM_min_7cf53_1 : decode (kB K_JM_min_7cf53) 1 = .ok (.iload_n 1, 1) := by decide +kernel
theorem d_JM_min_7cf53_2 : decode (kB K_JM_min_7cf53) 2 = .ok (.if_icmp .gt 7, 3) := by decide +kernel
theorem d_JM_min_7cf53_5 : decode (kB K_JM_min_7cf53) 5 = .ok (.iload_n 0, 1) := by decide +kernel
theorem d_JM_min_7cf53_6 : decode (kB K_JM_min_7cf53) 6 = .ok (.goto 4, 3) := by decide +kernel
theorem d_JM_min_7cf53_9 : decode (kB K_JM_min_7cf53) 9 = .ok (.iload_n 1, 1) := by decide +kernel
theorem d_JM_min_7cf53_10 : decode (kB K_JM_min_7cf53) 10 = .ok (.ireturn, 1) := by decide +kernel
def K_Str_init_81219 : KM := (⟨"java/lang/String", "<init>", "(Ljava/lang/StringBuilder;)V"⟩, prog_29_method_53_code, 2, none, "java/lang/String", ([], []))
theorem d_Str_init_81219_0 : decode (kB K_Str_init_81219) 0 = .ok (.aload_n 0, 1) := by decide +kernel
theorem d_Str_init_81219_1 : decode (kB K_Str_init_81219) 1 = .ok (.aload_n 1, 1) := by decide +kernel
theorem d_Str_init_81219_2 : decode (kB K_Str_init_81219) 2 = .ok (.aconst_null, 1) := by decide +kernel
theorem d_Str_init_81219_3 : decode (kB K_Str_init_81219) 3 = .ok (.invokespecial 489, 3) := by decide +kernel
theorem d_Str_init_81219_6 : decode (kB K_Str_init_81219) 6 = .ok (.return_, 1) := by decide +kernel
def K_Str_length_8abf5 : KM := (⟨"java/lang/String", "length", "()I"⟩, prog_29_method_54_code, 1, (some (.int)), "java/lang/String", ([], []))
theorem d_Str_length_8abf5_0 : decode (kB K_Str_length_8abf5) 0 = .ok (.aload_n 0, 1) := by decide +kernel
theorem d_Str_length_8abf5_1 : decode (kB K_Str_length_8abf5) 1 = .ok (.getfield 9, 3) := by decide +kernel
theorem d_Str_length_8abf5_4 : decode (kB K_Str_length_8abf5) 4 = .ok (.arraylength, 1) := by decide +kernel
theorem d_Str_length_8abf5_5 : decode (kB K_Str_length_8abf5) 5 = .ok (.aload_n 0, 1) := by decide +kernel
theorem d_Str_length_8abf5_6 : decode (kB K_Str_length_8abf5) 6 = .ok (.invokevirtual 335, 3) := by decide +kernel
theorem d_Str_length_8abf5_9 : decode (kB K_Str_length_8abf5) 9 = .ok (.ishr, 1) := by decide +kernel
theorem d_Str_length_8abf5_10 : decode (kB K_Str_length_8abf5) 10 = .ok (.ireturn, 1) := by decide +kernel
def K_Str_charAt_5068e : KM := (⟨"java/lang/String", "charAt", "(I)C"⟩, prog_29_method_56_code, 2, (some (.char)), "java/lang/String", ([], []))
theorem d_Str_charAt_5068e_0 : decode (kB K_Str_charAt_5068e) 0 = .ok (.aload_n 0, 1) := by decide +kernel
theorem d_Str_charAt_5068e_1 : decode (kB K_Str_charAt_5068e) 1 = .ok (.invokevirtual 492, 3) := by decide +kernel
theorem d_Str_charAt_5068e_4 : decode (kB K_Str_charAt_5068e) 4 = .ok (.ifCond .eq 12, 3) := by decide +kernel
theorem d_Str_charAt_5068e_7 : decode (kB K_Str_charAt_5068e) 7 = .ok (.aload_n 0, 1) := by decide +kernel
theorem d_Str_charAt_5068e_8 : decode (kB K_Str_charAt_5068e) 8 = .ok (.getfield 9, 3) := by decide +kernel
theorem d_Str_charAt_5068e_11 : decode (kB K_Str_charAt_5068e) 11 = .ok (.iload_n 1, 1) := by decide +kernel
theorem d_Str_charAt_5068e_12 : decode (kB K_Str_charAt_5068e) 12 = .ok (.invokestatic 495, 3) := by decide +kernel
theorem d_Str_charAt_5068e_15 : decode (kB K_Str_charAt_5068e) 15 = .ok (.ireturn, 1) := by decide +kernel
theorem d_Str_charAt_5068e_16 : decode (kB K_Str_charAt_5068e) 16 = .ok (.aload_n 0, 1) := by decide +kernel
theorem d_Str_charAt_5068e_17 : decode (kB K_Str_charAt_5068e) 17 = .ok (.getfield 9, 3) := by decide +kernel
theorem d_Str_charAt_5068e_20 : decode (kB K_Str_charAt_5068e) 20 = .ok (.iload_n 1, 1) := by decide +kernel
theorem d_Str_charAt_5068e_21 : decode (kB K_Str_charAt_5068e) 21 = .ok (.invokestatic 498, 3) := by decide +kernel
theorem d_Str_charAt_5068e_24 : decode (kB K_Str_charAt_5068e) 24 = .ok (.ireturn, 1) := by decide +kernel
def K_Str_getBytes_840e7 : KM := (⟨"java/lang/String", "getBytes", "([BIB)V"⟩, prog_29_method_147_code, 4, none, "java/lang/String", ([], []))
theorem d_Str_getBytes_840e7_0 : decode (kB K_Str_getBytes_840e7) 0 = .ok (.aload_n 0, 1) := by decide +kernel
theorem d_Str_getBytes_840e7_1 : decode (kB K_Str_getBytes_840e7) 1 = .ok (.invokevirtual 335, 3) := by decide +kernel
theorem d_Str_getBytes_840e7_4 : decode (kB K_Str_getBytes_840e7) 4 = .ok (.iload_n 3, 1) := by decide +kernel
theorem d_Str_getBytes_840e7_5 : decode (kB K_Str_getBytes_840e7) 5 = .ok (.if_icmp .ne 23, 3) := by decide +kernel
theorem d_Str_getBytes_840e7_8 : decode (kB K_Str_getBytes_840e7) 8 = .ok (.aload_n 0, 1) := by decide +kernel
theorem d_Str_getBytes_840e7_9 : decode (kB K_Str_getBytes_840e7) 9 = .ok (.getfield 9, 3) := by decide +kernel
theorem d_Str_getBytes_840e7_12 : decode (kB K_Str_getBytes_840e7) 12 = .ok (.iconst 0, 1) := by decide +kernel
theorem d_Str_getBytes_840e7_13 : decode (kB K_Str_getBytes_840e7) 13 = .ok (.aload_n 1, 1) := by decide +kernel
theorem d_Str_getBytes_840e7_14 : decode (kB K_Str_getBytes_840e7) 14 = .ok (.iload_n 2, 1) := by decide +kernel
theorem d_Str_getBytes_840e7_15 : decode (kB K_Str_getBytes_840e7) 15 = .ok (.iload_n 3, 1) := by decide +kernel
theorem d_Str_getBytes_840e7_16 : decode (kB K_Str_getBytes_840e7) 16 = .ok (.ishl, 1) := by decide +kernel
theorem d_Str_getBytes_840e7_17 : decode (kB K_Str_getBytes_840e7) 17 = .ok (.aload_n 0, 1) := by decide +kernel
theorem d_Str_getBytes_840e7_18 : decode (kB K_Str_getBytes_840e7) 18 = .ok (.getfield 9, 3) := by decide +kernel
theorem d_Str_getBytes_840e7_21 : decode (kB K_Str_getBytes_840e7) 21 = .ok (.arraylength, 1) := by decide +kernel
theorem d_Str_getBytes_840e7_22 : decode (kB K_Str_getBytes_840e7) 22 = .ok (.invokestatic 212, 3) := by decide +kernel
theorem d_Str_getBytes_840e7_25 : decode (kB K_Str_getBytes_840e7) 25 = .ok (.goto 18, 3) := by decide +kernel
theorem d_Str_getBytes_840e7_28 : decode (kB K_Str_getBytes_840e7) 28 = .ok (.aload_n 0, 1) := by decide +kernel
theorem d_Str_getBytes_840e7_29 : decode (kB K_Str_getBytes_840e7) 29 = .ok (.getfield 9, 3) := by decide +kernel
theorem d_Str_getBytes_840e7_32 : decode (kB K_Str_getBytes_840e7) 32 = .ok (.iconst 0, 1) := by decide +kernel
theorem d_Str_getBytes_840e7_33 : decode (kB K_Str_getBytes_840e7) 33 = .ok (.aload_n 1, 1) := by decide +kernel
theorem d_Str_getBytes_840e7_34 : decode (kB K_Str_getBytes_840e7) 34 = .ok (.iload_n 2, 1) := by decide +kernel
theorem d_Str_getBytes_840e7_35 : decode (kB K_Str_getBytes_840e7) 35 = .ok (.aload_n 0, 1) := by decide +kernel
theorem d_Str_getBytes_840e7_36 : decode (kB K_Str_getBytes_840e7) 36 = .ok (.getfield 9, 3) := by decide +kernel
theorem d_Str_getBytes_840e7_39 : decode (kB K_Str_getBytes_840e7) 39 = .ok (.arraylength, 1) := by decide +kernel
theorem d_Str_getBytes_840e7_40 : decode (kB K_Str_getBytes_840e7) 40 = .ok (.invokestatic 106, 3) := by decide +kernel
theorem d_Str_getBytes_840e7_43 : decode (kB K_Str_getBytes_840e7) 43 = .ok (.return_, 1) := by decide +kernel
def K_Str_init_db425 : KM := (⟨"java/lang/String", "<init>", "(Ljava/lang/AbstractStringBuilder;Ljava/lang/Void;)V"⟩, prog_29_method_150_code, 5, none, "java/lang/String", ([], []))
theorem d_Str_init_db425_0 : decode (kB K_Str_init_db425) 0 = .ok (.aload_n 0, 1) := by decide +kernel
theorem d_Str_init_db425_1 : decode (kB K_Str_init_db425) 1 = .ok (.invokespecial 1, 3) := by decide +kernel
theorem d_Str_init_db425_4 : decode (kB K_Str_init_db425) 4 = .ok (.aload_n 1, 1) := by decide +kernel
theorem d_Str_init_db425_5 : decode (kB K_Str_init_db425) 5 = .ok (.invokevirtual 552, 3) := by decide +kernel
theorem d_Str_init_db425_8 : decode (kB K_Str_init_db425) 8 = .ok (.astore_n 3, 1) := by decide +kernel
theorem d_Str_init_db425_9 : decode (kB K_Str_init_db425) 9 = .ok (.aload_n 1, 1) := by decide +kernel
theorem d_Str_init_db425_10 : decode (kB K_Str_init_db425) 10 = .ok (.invokevirtual 549, 3) := by decide +kernel
theorem d_Str_init_db425_13 : decode (kB K_Str_init_db425) 13 = .ok (.istore 4, 2) := by decide +kernel
theorem d_Str_init_db425_15 : decode (kB K_Str_init_db425) 15 = .ok (.aload_n 1, 1) := by decide +kernel
theorem d_Str_init_db425_16 : decode (kB K_Str_init_db425) 16 = .ok (.invokevirtual 1047, 3) := by decide +kernel
theorem d_Str_init_db425_19 : decode (kB K_Str_init_db425) 19 = .ok (.ifCond .eq 22, 3) := by decide +kernel
theorem d_Str_init_db425_22 : decode (kB K_Str_init_db425) 22 = .ok (.aload_n 0, 1) := by decide +kernel
theorem d_Str_init_db425_23 : decode (kB K_Str_init_db425) 23 = .ok (.iconst 0, 1) := by decide +kernel
theorem d_Str_init_db425_24 : decode (kB K_Str_init_db425) 24 = .ok (.putfield 15, 3) := by decide +kernel
theorem d_Str_init_db425_27 : decode (kB K_Str_init_db425) 27 = .ok (.aload_n 0, 1) := by decide +kernel
theorem d_Str_init_db425_28 : decode (kB K_Str_init_db425) 28 = .ok (.aload_n 3, 1) := by decide +kernel
theorem d_Str_init_db425_29 : decode (kB K_Str_init_db425) 29 = .ok (.iconst 0, 1) := by decide +kernel
theorem d_Str_init_db425_30 : decode (kB K_Str_init_db425) 30 = .ok (.iload 4, 2) := by decide +kernel
theorem d_Str_init_db425_32 : decode (kB K_Str_init_db425) 32 = .ok (.invokestatic 54, 3) := by decide +kernel
theorem d_Str_init_db425_35 : decode (kB K_Str_init_db425) 35 = .ok (.putfield 9, 3) := by decide +kernel
theorem d_Str_init_db425_38 : decode (kB K_Str_init_db425) 38 = .ok (.goto 59, 3) := by decide +kernel
theorem d_Str_init_db425_41 : decode (kB K_Str_init_db425) 41 = .ok (.getstatic 38, 3) := by decide +kernel
theorem d_Str_init_db425_44 : decode (kB K_Str_init_db425) 44 = .ok (.ifCond .eq 35, 3) := by decide +kernel
theorem d_Str_init_db425_47 : decode (kB K_Str_init_db425) 47 = .ok (.aload_n 1, 1) := by decide +kernel
theorem d_Str_init_db425_48 : decode (kB K_Str_init_db425) 48 = .ok (.getfield 1048, 3) := by decide +kernel
theorem d_Str_init_db425_51 : decode (kB K_Str_init_db425) 51 = .ok (.ifCond .eq 28, 3) := by decide +kernel
theorem d_Str_init_db425_54 : decode (kB K_Str_init_db425) 54 = .ok (.aload_n 0, 1) := by decide +kernel
theorem d_Str_init_db425_55 : decode (kB K_Str_init_db425) 55 = .ok (.aload_n 3, 1) := by decide +kernel
theorem d_Str_init_db425_56 : decode (kB K_Str_init_db425) 56 = .ok (.iconst 0, 1) := by decide +kernel
theorem d_Str_init_db425_57 : decode (kB K_Str_init_db425) 57 = .ok (.iload 4, 2) := by decide +kernel
theorem d_Str_init_db425_59 : decode (kB K_Str_init_db425) 59 = .ok (.invokestatic 1051, 3) := by decide +kernel
theorem d_Str_init_db425_62 : decode (kB K_Str_init_db425) 62 = .ok (.putfield 9, 3) := by decide +kernel
theorem d_Str_init_db425_65 : decode (kB K_Str_init_db425) 65 = .ok (.aload_n 0, 1) := by decide +kernel
theorem d_Str_init_db425_66 : decode (kB K_Str_init_db425) 66 = .ok (.aload_n 0, 1) := by decide +kernel
theorem d_Str_init_db425_67 : decode (kB K_Str_init_db425) 67 = .ok (.getfield 9, 3) := by decide +kernel
theorem d_Str_init_db425_70 : decode (kB K_Str_init_db425) 70 = .ok (.iload 4, 2) := by decide +kernel
theorem d_Str_init_db425_72 : decode (kB K_Str_init_db425) 72 = .ok (.invokestatic 47, 3) := by decide +kernel
theorem d_Str_init_db425_75 : decode (kB K_Str_init_db425) 75 = .ok (.putfield 15, 3) := by decide +kernel
theorem d_Str_init_db425_78 : decode (kB K_Str_init_db425) 78 = .ok (.return_, 1) := by decide +kernel
theorem d_Str_init_db425_79 : decode (kB K_Str_init_db425) 79 = .ok (.aload_n 0, 1) := by decide +kernel
theorem d_Str_init_db425_80 : decode (kB K_Str_init_db425) 80 = .ok (.iconst 1, 1) := by decide +kernel
theorem d_Str_init_db425_81 : decode (kB K_Str_init_db425) 81 = .ok (.putfield 15, 3) := by decide +kernel
theorem d_Str_init_db425_84 : decode (kB K_Str_init_db425) 84 = .ok (.aload_n 0, 1) := by decide +kernel
theorem d_Str_init_db425_85 : decode (kB K_Str_init_db425) 85 = .ok (.aload_n 3, 1) := by decide +kernel
theorem d_Str_init_db425_86 : decode (kB K_Str_init_db425) 86 = .ok (.iconst 0, 1) := by decide +kernel
theorem d_Str_init_db425_87 : decode (kB K_Str_init_db425) 87 = .ok (.iload 4, 2) := by decide +kernel
theorem d_Str_init_db425_89 : decode (kB K_Str_init_db425) 89 = .ok (.iconst 1, 1) := by decide +kernel
theorem d_Str_init_db425_90 : decode (kB K_Str_init_db425) 90 = .ok (.ishl, 1) := by decide +kernel
theorem d_Str_init_db425_91 : decode (kB K_Str_init_db425) 91 = .ok (.invokestatic 54, 3) := by decide +kernel
theorem d_Str_init_db425_94 : decode (kB K_Str_init_db425) 94 = .ok (.putfield 9, 3) := by decide +kernel
theorem d_Str_init_db425_97 : decode (kB K_Str_init_db425) 97 = .ok (.return_, 1) := by decide +kernel
def K_Str_coder_7d493 : KM := (⟨"java/lang/String", "coder", "()B"⟩, prog_29_method_152_code, 1, (some (.byte)), "java/lang/String", ([], []))
theorem d_Str_coder_7d493_0 : decode (kB K_Str_coder_7d493) 0 = .ok (.getstatic 38, 3) := by decide +kernel
theorem d_Str_coder_7d493_3 : decode (kB K_Str_coder_7d493) 3 = .ok (.ifCond .eq 10, 3) := by decide +kernel
theorem d_Str_coder_7d493_6 : decode (kB K_Str_coder_7d493) 6 = .ok (.aload_n 0, 1) := by decide +kernel
theorem d_Str_coder_7d493_7 : decode (kB K_Str_coder_7d493) 7 = .ok (.getfield 15, 3) := by decide +kernel
theorem d_Str_coder_7d493_10 : decode (kB K_Str_coder_7d493) 10 = .ok (.goto 4, 3) := by decide +kernel
theorem d_Str_coder_7d493_13 : decode (kB K_Str_coder_7d493) 13 = .ok (.iconst 1, 1) := by decide +kernel
theorem d_Str_coder_7d493_14 : decode (kB K_Str_coder_7d493) 14 = .ok (.ireturn, 1) := by decide +kernel
def K_Str_isLatin1_aae02 : KM := (⟨"java/lang/String", "isLatin1", "()Z"⟩, prog_29_method_154_code, 1, (some (.boolean)), "java/lang/String", ([], []))
theorem d_Str_isLatin1_aae02_0 : decode (kB K_Str_isLatin1_aae02) 0 = .ok (.getstatic 38, 3) := by decide +kernel
theorem d_Str_isLatin1_aae02_3 : decode (kB K_Str_isLatin1_aae02) 3 = .ok (.ifCond .eq 14, 3) := by decide +kernel
theorem d_Str_isLatin1_aae02_6 : decode (kB K_Str_isLatin1_aae02) 6 = .ok (.aload_n 0, 1) := by decide +kernel
theorem d_Str_isLatin1_aae02_7 : decode (kB K_Str_isLatin1_aae02) 7 = .ok (.getfield 15, 3) := by decide +kernel
theorem d_Str_isLatin1_aae02_10 : decode (kB K_Str_isLatin1_aae02) 10 = .ok (.ifCond .ne 7, 3) := by decide +kernel
theorem d_Str_isLatin1_aae02_13 : decode (kB K_Str_isLatin1_aae02) 13 = .ok (.iconst 1, 1) := by decide +kernel
theorem d_Str_isLatin1_aae02_14 : decode (kB K_Str_isLatin1_aae02) 14 = .ok (.goto 4, 3) := by decide +kernel
theorem d_Str_isLatin1_aae02_17 : decode (kB K_Str_isLatin1_aae02) 17 = .ok (.iconst 0, 1) := by decide +kernel
theorem d_Str_isLatin1_aae02_18 : decode (kB K_Str_isLatin1_aae02) 18 = .ok (.ireturn, 1) := by decide +kernel
def K_Str_checkIndex_df160 : KM := (⟨"java/lang/String", "checkIndex", "(II)V"⟩, prog_29_method_155_code, 2, none, "java/lang/String", ([], []))
theorem d_Str_checkIndex_df160_0 : decode (kB K_Str_checkIndex_df160) 0 = .ok (.iload_n 0, 1) := by decide +kernel
theorem d_Str_checkIndex_df160_1 : decode (kB K_Str_checkIndex_df160) 1 = .ok (.iload_n 1, 1) := by decide +kernel
theorem d_Str_checkIndex_df160_2 : decode (kB K_Str_checkIndex_df160) 2 = .ok (.getstatic 1053, 3) := by decide +kernel
theorem d_Str_checkIndex_df160_5 : decode (kB K_Str_checkIndex_df160) 5 = .ok (.invokestatic 1059, 3) := by decide +kernel
theorem d_Str_checkIndex_df160_8 : decode (kB K_Str_checkIndex_df160) 8 = .ok (.pop, 1) := by decide +kernel
theorem d_Str_checkIndex_df160_9 : decode (kB K_Str_checkIndex_df160) 9 = .ok (.return_, 1) := by decide +kernel
def K_SB_init_da8c8 : KM := (⟨"java/lang/StringBuilder", "<init>", "()V"⟩, prog_30_method_1_code, 1, none, "java/lang/StringBuilder", ([], []))
theorem d_SB_init_da8c8_0 : decode (kB K_SB_init_da8c8) 0 = .ok (.aload_n 0, 1) := by decide +kernel
theorem d_SB_init_da8c8_1 : decode (kB K_SB_init_da8c8) 1 = .ok (.bipush 16, 2) := by decide +kernel
theorem d_SB_init_da8c8_3 : decode (kB K_SB_init_da8c8) 3 = .ok (.invokespecial 1, 3) := by decide +kernel
theorem d_SB_init_da8c8_6 : decode (kB K_SB_init_da8c8) 6 = .ok (.return_, 1) := by decide +kernel
def K_SB_append_15ec4 : KM := (⟨"java/lang/StringBuilder", "append", "(Ljava/lang/String;)Ljava/lang/StringBuilder;"⟩, prog_30_method_7_code, 2, (some (.object "java/lang/StringBuilder")), "java/lang/StringBuilder", ([], []))
theorem d_SB_append_15ec4_0 : decode (kB K_SB_append_15ec4) 0 = .ok (.aload_n 0, 1) := by decide +kernel
theorem d_SB_append_15ec4_1 : decode (kB K_SB_append_15ec4) 1 = .ok (.aload_n 1, 1) := by decide +kernel
theorem d_SB_append_15ec4_2 : decode (kB K_SB_append_15ec4) 2 = .ok (.invokespecial 29, 3) := by decide +kernel
theorem d_SB_append_15ec4_5 : decode (kB K_SB_append_15ec4) 5 = .ok (.pop, 1) := by decide +kernel
theorem d_SB_append_15ec4_6 : decode (kB K_SB_append_15ec4) 6 = .ok (.aload_n 0, 1) := by decide +kernel
theorem d_SB_append_15ec4_7 : decode (kB K_SB_append_15ec4) 7 = .ok (.areturn, 1) := by decide +kernel
def K_SB_append_bf812 : KM := (⟨"java/lang/StringBuilder", "append", "(I)Ljava/lang/StringBuilder;"⟩, prog_30_method_15_code, 2, (some (.object "java/lang/StringBuilder")), "java/lang/StringBuilder", ([], []))
theorem d_SB_append_bf812_0 : decode (kB K_SB_append_bf812) 0 = .ok (.aload_n 0, 1) := by decide +kernel
theorem d_SB_append_bf812_1 : decode (kB K_SB_append_bf812) 1 = .ok (.iload_n 1, 1) := by decide +kernel
theorem d_SB_append_bf812_2 : decode (kB K_SB_append_bf812) 2 = .ok (.invokespecial 53, 3) := by decide +kernel
theorem d_SB_append_bf812_5 : decode (kB K_SB_append_bf812) 5 = .ok (.pop, 1) := by decide +kernel
theorem d_SB_append_bf812_6 : decode (kB K_SB_append_bf812) 6 = .ok (.aload_n 0, 1) := by decide +kernel
theorem d_SB_append_bf812_7 : decode (kB K_SB_append_bf812) 7 = .ok (.areturn, 1) := by decide +kernel
def K_SB_toString_0e30d : KM := (⟨"java/lang/StringBuilder", "toString", "()Ljava/lang/String;"⟩, prog_30_method_42_code, 1, (some (.object "java/lang/String")), "java/lang/StringBuilder", ([], []))
theorem d_SB_toString_0e30d_0 : decode (kB K_SB_toString_0e30d) 0 = .ok (.new 18, 3) := by decide +kernel
theorem d_SB_toString_0e30d_3 : decode (kB K_SB_toString_0e30d) 3 = .ok (.dup, 1) := by decide +kernel
theorem d_SB_toString_0e30d_4 : decode (kB K_SB_toString_0e30d) 4 = .ok (.aload_n 0, 1) := by decide +kernel
theorem d_SB_toString_0e30d_5 : decode (kB K_SB_toString_0e30d) 5 = .ok (.invokespecial 137, 3) := by decide +kernel
theorem d_SB_toString_0e30d_8 : decode (kB K_SB_toString_0e30d) 8 = .ok (.areturn, 1) := by decide +kernel
def K_SB_length_8abf5 : KM := (⟨"java/lang/StringBuilder", "length", "()I"⟩, prog_30_method_93_code, 1, (some (.int)), "java/lang/StringBuilder", ([], []))
theorem d_SB_length_8abf5_0 : decode (kB K_SB_length_8abf5) 0 = .ok (.aload_n 0, 1) := by decide +kernel
theorem d_SB_length_8abf5_1 : decode (kB K_SB_length_8abf5) 1 = .ok (.invokespecial 343, 3) := by decide +kernel
theorem d_SB_length_8abf5_4 : decode (kB K_SB_length_8abf5) 4 = .ok (.ireturn, 1) := by decide +kernel
def K_SL_charAt_3b067 : KM := (⟨"java/lang/StringLatin1", "charAt", "([BI)C"⟩, prog_31_method_2_code, 2, (some (.char)), "java/lang/StringLatin1", ([], []))
theorem d_SL_charAt_3b067_0 : decode (kB K_SL_charAt_3b067) 0 = .ok (.iload_n 1, 1) := by decide +kernel
theorem d_SL_charAt_3b067_1 : decode (kB K_SL_charAt_3b067) 1 = .ok (.aload_n 0, 1) := by decide +kernel
theorem d_SL_charAt_3b067_2 : decode (kB K_SL_charAt_3b067) 2 = .ok (.arraylength, 1) := by decide +kernel
theorem d_SL_charAt_3b067_3 : decode (kB K_SL_charAt_3b067) 3 = .ok (.invokestatic 9, 3) := by decide +kernel
theorem d_SL_charAt_3b067_6 : decode (kB K_SL_charAt_3b067) 6 = .ok (.aload_n 0, 1) := by decide +kernel
theorem d_SL_charAt_3b067_7 : decode (kB K_SL_charAt_3b067) 7 = .ok (.iload_n 1, 1) := by decide +kernel
theorem d_SL_charAt_3b067_8 : decode (kB K_SL_charAt_3b067) 8 = .ok (.baload, 1) := by decide +kernel
theorem d_SL_charAt_3b067_9 : decode (kB K_SL_charAt_3b067) 9 = .ok (.sipush 255, 3) := by decide +kernel
theorem d_SL_charAt_3b067_12 : decode (kB K_SL_charAt_3b067) 12 = .ok (.iand, 1) := by decide +kernel
theorem d_SL_charAt_3b067_13 : decode (kB K_SL_charAt_3b067) 13 = .ok (.i2c, 1) := by decide +kernel
theorem d_SL_charAt_3b067_14 : decode (kB K_SL_charAt_3b067) 14 = .ok (.ireturn, 1) := by decide +kernel
def K_Ars_copyOf_9075b : KM := (⟨"java/util/Arrays", "copyOf", "([BI)[B"⟩, prog_35_method_121_code, 3, (some (.array (.byte))), "java/util/Arrays", ([], []))
theorem d_Ars_copyOf_9075b_0 : decode (kB K_Ars_copyOf_9075b) 0 = .ok (.iload_n 1, 1) := by decide +kernel
theorem d_Ars_copyOf_9075b_1 : decode (kB K_Ars_copyOf_9075b) 1 = .ok (.aload_n 0, 1) := by decide +kernel
theorem d_Ars_copyOf_9075b_2 : decode (kB K_Ars_copyOf_9075b) 2 = .ok (.arraylength, 1) := by decide +kernel
theorem d_Ars_copyOf_9075b_3 : decode (kB K_Ars_copyOf_9075b) 3 = .ok (.if_icmp .ne 11, 3) := by decide +kernel
theorem d_Ars_copyOf_9075b_6 : decode (kB K_Ars_copyOf_9075b) 6 = .ok (.aload_n 0, 1) := by decide +kernel
theorem d_Ars_copyOf_9075b_7 : decode (kB K_Ars_copyOf_9075b) 7 = .ok (.invokevirtual 310, 3) := by decide +kernel
theorem d_Ars_copyOf_9075b_10 : decode (kB K_Ars_copyOf_9075b) 10 = .ok (.checkcast 311, 3) := by decide +kernel
theorem d_Ars_copyOf_9075b_13 : decode (kB K_Ars_copyOf_9075b) 13 = .ok (.areturn, 1) := by decide +kernel
theorem d_Ars_copyOf_9075b_14 : decode (kB K_Ars_copyOf_9075b) 14 = .ok (.iload_n 1, 1) := by decide +kernel
theorem d_Ars_copyOf_9075b_15 : decode (kB K_Ars_copyOf_9075b) 15 = .ok (.newarray .byte, 2) := by decide +kernel
theorem d_Ars_copyOf_9075b_17 : decode (kB K_Ars_copyOf_9075b) 17 = .ok (.astore_n 2, 1) := by decide +kernel
theorem d_Ars_copyOf_9075b_18 : decode (kB K_Ars_copyOf_9075b) 18 = .ok (.aload_n 0, 1) := by decide +kernel
theorem d_Ars_copyOf_9075b_19 : decode (kB K_Ars_copyOf_9075b) 19 = .ok (.iconst 0, 1) := by decide +kernel
theorem d_Ars_copyOf_9075b_20 : decode (kB K_Ars_copyOf_9075b) 20 = .ok (.aload_n 2, 1) := by decide +kernel
theorem d_Ars_copyOf_9075b_21 : decode (kB K_Ars_copyOf_9075b) 21 = .ok (.iconst 0, 1) := by decide +kernel
theorem d_Ars_copyOf_9075b_22 : decode (kB K_Ars_copyOf_9075b) 22 = .ok (.aload_n 0, 1) := by decide +kernel
theorem d_Ars_copyOf_9075b_23 : decode (kB K_Ars_copyOf_9075b) 23 = .ok (.arraylength, 1) := by decide +kernel
theorem d_Ars_copyOf_9075b_24 : decode (kB K_Ars_copyOf_9075b) 24 = .ok (.iload_n 1, 1) := by decide +kernel
theorem d_Ars_copyOf_9075b_25 : decode (kB K_Ars_copyOf_9075b) 25 = .ok (.invokestatic 304, 3) := by decide +kernel
theorem d_Ars_copyOf_9075b_28 : decode (kB K_Ars_copyOf_9075b) 28 = .ok (.invokestatic 150, 3) := by decide +kernel
theorem d_Ars_copyOf_9075b_31 : decode (kB K_Ars_copyOf_9075b) 31 = .ok (.aload_n 2, 1) := by decide +kernel
theorem d_Ars_copyOf_9075b_32 : decode (kB K_Ars_copyOf_9075b) 32 = .ok (.areturn, 1) := by decide +kernel
def K_Ars_checkLength_df160 : KM := (⟨"java/util/Arrays", "checkLength", "(II)V"⟩, prog_35_method_131_code, 2, none, "java/util/Arrays", ([], []))
theorem d_Ars_checkLength_df160_0 : decode (kB K_Ars_checkLength_df160) 0 = .ok (.iload_n 1, 1) := by decide +kernel
theorem d_Ars_checkLength_df160_1 : decode (kB K_Ars_checkLength_df160) 1 = .ok (.iload_n 0, 1) := by decide +kernel
theorem d_Ars_checkLength_df160_2 : decode (kB K_Ars_checkLength_df160) 2 = .ok (.if_icmp .ge 35, 3) := by decide +kernel
theorem d_Ars_checkLength_df160_5 : decode (kB K_Ars_checkLength_df160) 5 = .ok (.new 43, 3) := by decide +kernel
theorem d_Ars_checkLength_df160_8 : decode (kB K_Ars_checkLength_df160) 8 = .ok (.dup, 1) := by decide +kernel
theorem d_Ars_checkLength_df160_9 : decode (kB K_Ars_checkLength_df160) 9 = .ok (.new 45, 3) := by decide +kernel
theorem d_Ars_checkLength_df160_12 : decode (kB K_Ars_checkLength_df160) 12 = .ok (.dup, 1) := by decide +kernel
theorem d_Ars_checkLength_df160_13 : decode (kB K_Ars_checkLength_df160) 13 = .ok (.invokespecial 47, 3) := by decide +kernel
theorem d_Ars_checkLength_df160_16 : decode (kB K_Ars_checkLength_df160) 16 = .ok (.iload_n 0, 1) := by decide +kernel
theorem d_Ars_checkLength_df160_17 : decode (kB K_Ars_checkLength_df160) 17 = .ok (.invokevirtual 54, 3) := by decide +kernel
theorem d_Ars_checkLength_df160_20 : decode (kB K_Ars_checkLength_df160) 20 = .ok (.ldc_w 337, 3) := by decide +kernel
theorem d_Ars_checkLength_df160_23 : decode (kB K_Ars_checkLength_df160) 23 = .ok (.invokevirtual 50, 3) := by decide +kernel
theorem d_Ars_checkLength_df160_26 : decode (kB K_Ars_checkLength_df160) 26 = .ok (.iload_n 1, 1) := by decide +kernel
theorem d_Ars_checkLength_df160_27 : decode (kB K_Ars_checkLength_df160) 27 = .ok (.invokevirtual 54, 3) := by decide +kernel
theorem d_Ars_checkLength_df160_30 : decode (kB K_Ars_checkLength_df160) 30 = .ok (.invokevirtual 61, 3) := by decide +kernel
theorem d_Ars_checkLength_df160_33 : decode (kB K_Ars_checkLength_df160) 33 = .ok (.invokespecial 65, 3) := by decide +kernel
theorem d_Ars_checkLength_df160_36 : decode (kB K_Ars_checkLength_df160) 36 = .ok (.athrow, 1) := by decide +kernel
theorem d_Ars_checkLength_df160_37 : decode (kB K_Ars_checkLength_df160) 37 = .ok (.return_, 1) := by decide +kernel
def K_Ars_copyOfRange_39247 : KM := (⟨"java/util/Arrays", "copyOfRange", "([BII)[B"⟩, prog_35_method_132_code, 3, (some (.array (.byte))), "java/util/Arrays", ([], []))
theorem d_Ars_copyOfRange_39247_0 : decode (kB K_Ars_copyOfRange_39247) 0 = .ok (.iload_n 1, 1) := by decide +kernel
theorem d_Ars_copyOfRange_39247_1 : decode (kB K_Ars_copyOfRange_39247) 1 = .ok (.ifCond .ne 9, 3) := by decide +kernel
theorem d_Ars_copyOfRange_39247_4 : decode (kB K_Ars_copyOfRange_39247) 4 = .ok (.iload_n 2, 1) := by decide +kernel
theorem d_Ars_copyOfRange_39247_5 : decode (kB K_Ars_copyOfRange_39247) 5 = .ok (.aload_n 0, 1) := by decide +kernel
theorem d_Ars_copyOfRange_39247_6 : decode (kB K_Ars_copyOfRange_39247) 6 = .ok (.arraylength, 1) := by decide +kernel
theorem d_Ars_copyOfRange_39247_7 : decode (kB K_Ars_copyOfRange_39247) 7 = .ok (.if_icmp .eq 10, 3) := by decide +kernel
theorem d_Ars_copyOfRange_39247_10 : decode (kB K_Ars_copyOfRange_39247) 10 = .ok (.aload_n 0, 1) := by decide +kernel
theorem d_Ars_copyOfRange_39247_11 : decode (kB K_Ars_copyOfRange_39247) 11 = .ok (.iload_n 1, 1) := by decide +kernel
theorem d_Ars_copyOfRange_39247_12 : decode (kB K_Ars_copyOfRange_39247) 12 = .ok (.iload_n 2, 1) := by decide +kernel
theorem d_Ars_copyOfRange_39247_13 : decode (kB K_Ars_copyOfRange_39247) 13 = .ok (.invokestatic 339, 3) := by decide +kernel
theorem d_Ars_copyOfRange_39247_16 : decode (kB K_Ars_copyOfRange_39247) 16 = .ok (.areturn, 1) := by decide +kernel
theorem d_Ars_copyOfRange_39247_17 : decode (kB K_Ars_copyOfRange_39247) 17 = .ok (.aload_n 0, 1) := by decide +kernel
theorem d_Ars_copyOfRange_39247_18 : decode (kB K_Ars_copyOfRange_39247) 18 = .ok (.invokevirtual 310, 3) := by decide +kernel
theorem d_Ars_copyOfRange_39247_21 : decode (kB K_Ars_copyOfRange_39247) 21 = .ok (.checkcast 311, 3) := by decide +kernel
theorem d_Ars_copyOfRange_39247_24 : decode (kB K_Ars_copyOfRange_39247) 24 = .ok (.areturn, 1) := by decide +kernel
def K_Ars_copyOfRangeByte_39247 : KM := (⟨"java/util/Arrays", "copyOfRangeByte", "([BII)[B"⟩, prog_35_method_133_code, 5, (some (.array (.byte))), "java/util/Arrays", ([], []))
theorem d_Ars_copyOfRangeByte_39247_0 : decode (kB K_Ars_copyOfRangeByte_39247) 0 = .ok (.iload_n 1, 1) := by decide +kernel
theorem d_Ars_copyOfRangeByte_39247_1 : decode (kB K_Ars_copyOfRangeByte_39247) 1 = .ok (.iload_n 2, 1) := by decide +kernel
theorem d_Ars_copyOfRangeByte_39247_2 : decode (kB K_Ars_copyOfRangeByte_39247) 2 = .ok (.invokestatic 343, 3) := by decide +kernel
theorem d_Ars_copyOfRangeByte_39247_5 : decode (kB K_Ars_copyOfRangeByte_39247) 5 = .ok (.iload_n 2, 1) := by decide +kernel
theorem d_Ars_copyOfRangeByte_39247_6 : decode (kB K_Ars_copyOfRangeByte_39247) 6 = .ok (.iload_n 1, 1) := by decide +kernel
theorem d_Ars_copyOfRangeByte_39247_7 : decode (kB K_Ars_copyOfRangeByte_39247) 7 = .ok (.isub, 1) := by decide +kernel
theorem d_Ars_copyOfRangeByte_39247_8 : decode (kB K_Ars_copyOfRangeByte_39247) 8 = .ok (.istore_n 3, 1) := by decide +kernel
theorem d_Ars_copyOfRangeByte_39247_9 : decode (kB K_Ars_copyOfRangeByte_39247) 9 = .ok (.iload_n 3, 1) := by decide +kernel
theorem d_Ars_copyOfRangeByte_39247_10 : decode (kB K_Ars_copyOfRangeByte_39247) 10 = .ok (.newarray .byte, 2) := by decide +kernel
theorem d_Ars_copyOfRangeByte_39247_12 : decode (kB K_Ars_copyOfRangeByte_39247) 12 = .ok (.astore 4, 2) := by decide +kernel
theorem d_Ars_copyOfRangeByte_39247_14 : decode (kB K_Ars_copyOfRangeByte_39247) 14 = .ok (.aload_n 0, 1) := by decide +kernel
theorem d_Ars_copyOfRangeByte_39247_15 : decode (kB K_Ars_copyOfRangeByte_39247) 15 = .ok (.iload_n 1, 1) := by decide +kernel
theorem d_Ars_copyOfRangeByte_39247_16 : decode (kB K_Ars_copyOfRangeByte_39247) 16 = .ok (.aload 4, 2) := by decide +kernel
theorem d_Ars_copyOfRangeByte_39247_18 : decode (kB K_Ars_copyOfRangeByte_39247) 18 = .ok (.iconst 0, 1) := by decide +kernel
theorem d_Ars_copyOfRangeByte_39247_19 : decode (kB K_Ars_copyOfRangeByte_39247) 19 = .ok (.aload_n 0, 1) := by decide +kernel
theorem d_Ars_copyOfRangeByte_39247_20 : decode (kB K_Ars_copyOfRangeByte_39247) 20 = .ok (.arraylength, 1) := by decide +kernel
theorem d_Ars_copyOfRangeByte_39247_21 : decode (kB K_Ars_copyOfRangeByte_39247) 21 = .ok (.iload_n 1, 1) := by decide +kernel
theorem d_Ars_copyOfRangeByte_39247_22 : decode (kB K_Ars_copyOfRangeByte_39247) 22 = .ok (.isub, 1) := by decide +kernel
theorem d_Ars_copyOfRangeByte_39247_23 : decode (kB K_Ars_copyOfRangeByte_39247) 23 = .ok (.iload_n 3, 1) := by decide +kernel
theorem d_Ars_copyOfRangeByte_39247_24 : decode (kB K_Ars_copyOfRangeByte_39247) 24 = .ok (.invokestatic 304, 3) := by decide +kernel
theorem d_Ars_copyOfRangeByte_39247_27 : decode (kB K_Ars_copyOfRangeByte_39247) 27 = .ok (.invokestatic 150, 3) := by decide +kernel
theorem d_Ars_copyOfRangeByte_39247_30 : decode (kB K_Ars_copyOfRangeByte_39247) 30 = .ok (.aload 4, 2) := by decide +kernel
theorem d_Ars_copyOfRangeByte_39247_32 : decode (kB K_Ars_copyOfRangeByte_39247) 32 = .ok (.areturn, 1) := by decide +kernel
def K_Asu_newLength_cabcc : KM := (⟨"jdk/internal/util/ArraysSupport", "newLength", "(III)I"⟩, prog_36_method_27_code, 4, (some (.int)), "jdk/internal/util/ArraysSupport", ([], []))
theorem d_Asu_newLength_cabcc_0 : decode (kB K_Asu_newLength_cabcc) 0 = .ok (.iload_n 0, 1) := by decide +kernel
theorem d_Asu_newLength_cabcc_1 : decode (kB K_Asu_newLength_cabcc) 1 = .ok (.iload_n 1, 1) := by decide +kernel
theorem d_Asu_newLength_cabcc_2 : decode (kB K_Asu_newLength_cabcc) 2 = .ok (.iload_n 2, 1) := by decide +kernel
theorem d_Asu_newLength_cabcc_3 : decode (kB K_Asu_newLength_cabcc) 3 = .ok (.invokestatic 194, 3) := by decide +kernel
theorem d_Asu_newLength_cabcc_6 : decode (kB K_Asu_newLength_cabcc) 6 = .ok (.iadd, 1) := by decide +kernel
theorem d_Asu_newLength_cabcc_7 : decode (kB K_Asu_newLength_cabcc) 7 = .ok (.istore_n 3, 1) := by decide +kernel
theorem d_Asu_newLength_cabcc_8 : decode (kB K_Asu_newLength_cabcc) 8 = .ok (.iconst 0, 1) := by decide +kernel
theorem d_Asu_newLength_cabcc_9 : decode (kB K_Asu_newLength_cabcc) 9 = .ok (.iload_n 3, 1) := by decide +kernel
theorem d_Asu_newLength_cabcc_10 : decode (kB K_Asu_newLength_cabcc) 10 = .ok (.if_icmp .ge 11, 3) := by decide +kernel
theorem d_Asu_newLength_cabcc_13 : decode (kB K_Asu_newLength_cabcc) 13 = .ok (.iload_n 3, 1) := by decide +kernel
theorem d_Asu_newLength_cabcc_14 : decode (kB K_Asu_newLength_cabcc) 14 = .ok (.ldc 200, 2) := by decide +kernel
theorem d_Asu_newLength_cabcc_16 : decode (kB K_Asu_newLength_cabcc) 16 = .ok (.if_icmp .gt 5, 3) := by decide +kernel
theorem d_Asu_newLength_cabcc_19 : decode (kB K_Asu_newLength_cabcc) 19 = .ok (.iload_n 3, 1) := by decide +kernel
theorem d_Asu_newLength_cabcc_20 : decode (kB K_Asu_newLength_cabcc) 20 = .ok (.ireturn, 1) := by decide +kernel
theorem d_Asu_newLength_cabcc_21 : decode (kB K_Asu_newLength_cabcc) 21 = .ok (.iload_n 0, 1) := by decide +kernel
theorem d_Asu_newLength_cabcc_22 : decode (kB K_Asu_newLength_cabcc) 22 = .ok (.iload_n 1, 1) := by decide +kernel
theorem d_Asu_newLength_cabcc_23 : decode (kB K_Asu_newLength_cabcc) 23 = .ok (.invokestatic 201, 3) := by decide +kernel
theorem d_Asu_newLength_cabcc_26 : decode (kB K_Asu_newLength_cabcc) 26 = .ok (.ireturn, 1) := by decide +kernel
def K_Pre_checkIndex_8e157 : KM := (⟨"jdk/internal/util/Preconditions", "checkIndex", "(IILjava/util/function/BiFunction;)I"⟩, prog_37_method_11_code, 3, (some (.int)), "jdk/internal/util/Preconditions", ([], []))
theorem d_Pre_checkIndex_8e157_0 : decode (kB K_Pre_checkIndex_8e157) 0 = .ok (.iload_n 0, 1) := by decide +kernel
theorem d_Pre_checkIndex_8e157_1 : decode (kB K_Pre_checkIndex_8e157) 1 = .ok (.ifCond .lt 8, 3) := by decide +kernel
theorem d_Pre_checkIndex_8e157_4 : decode (kB K_Pre_checkIndex_8e157) 4 = .ok (.iload_n 0, 1) := by decide +kernel
theorem d_Pre_checkIndex_8e157_5 : decode (kB K_Pre_checkIndex_8e157) 5 = .ok (.iload_n 1, 1) := by decide +kernel
theorem d_Pre_checkIndex_8e157_6 : decode (kB K_Pre_checkIndex_8e157) 6 = .ok (.if_icmp .lt 10, 3) := by decide +kernel
theorem d_Pre_checkIndex_8e157_9 : decode (kB K_Pre_checkIndex_8e157) 9 = .ok (.aload_n 2, 1) := by decide +kernel
theorem d_Pre_checkIndex_8e157_10 : decode (kB K_Pre_checkIndex_8e157) 10 = .ok (.iload_n 0, 1) := by decide +kernel
theorem d_Pre_checkIndex_8e157_11 : decode (kB K_Pre_checkIndex_8e157) 11 = .ok (.iload_n 1, 1) := by decide +kernel
theorem d_Pre_checkIndex_8e157_12 : decode (kB K_Pre_checkIndex_8e157) 12 = .ok (.invokestatic 95, 3) := by decide +kernel
theorem d_Pre_checkIndex_8e157_15 : decode (kB K_Pre_checkIndex_8e157) 15 = .ok (.athrow, 1) := by decide +kernel
theorem d_Pre_checkIndex_8e157_16 : decode (kB K_Pre_checkIndex_8e157) 16 = .ok (.iload_n 0, 1) := by decide +kernel
theorem d_Pre_checkIndex_8e157_17 : decode (kB K_Pre_checkIndex_8e157) 17 = .ok (.ireturn, 1) := by decide +kernel
def K_LW_below : KM := (⟨"ParishBoardsLaw", "below", "(II)I"⟩, method_2_code, 2, (some (.int)), "ParishBoardsLaw", ([], []))
theorem d_LW_below_0 : decode (kB K_LW_below) 0 = .ok (.iload_n 0, 1) := by decide +kernel
theorem d_LW_below_1 : decode (kB K_LW_below) 1 = .ok (.ldc 7, 2) := by decide +kernel
theorem d_LW_below_3 : decode (kB K_LW_below) 3 = .ok (.iand, 1) := by decide +kernel
theorem d_LW_below_4 : decode (kB K_LW_below) 4 = .ok (.iload_n 1, 1) := by decide +kernel
theorem d_LW_below_5 : decode (kB K_LW_below) 5 = .ok (.irem, 1) := by decide +kernel
theorem d_LW_below_6 : decode (kB K_LW_below) 6 = .ok (.ireturn, 1) := by decide +kernel
def K_LW_cell : KM := (⟨"ParishBoardsLaw", "cell", "([II)I"⟩, method_3_code, 2, (some (.int)), "ParishBoardsLaw", ([], []))
theorem d_LW_cell_0 : decode (kB K_LW_cell) 0 = .ok (.iload_n 1, 1) := by decide +kernel
theorem d_LW_cell_1 : decode (kB K_LW_cell) 1 = .ok (.aload_n 0, 1) := by decide +kernel
theorem d_LW_cell_2 : decode (kB K_LW_cell) 2 = .ok (.arraylength, 1) := by decide +kernel
theorem d_LW_cell_3 : decode (kB K_LW_cell) 3 = .ok (.if_icmp .ge 9, 3) := by decide +kernel
theorem d_LW_cell_6 : decode (kB K_LW_cell) 6 = .ok (.aload_n 0, 1) := by decide +kernel
theorem d_LW_cell_7 : decode (kB K_LW_cell) 7 = .ok (.iload_n 1, 1) := by decide +kernel
theorem d_LW_cell_8 : decode (kB K_LW_cell) 8 = .ok (.iaload, 1) := by decide +kernel
theorem d_LW_cell_9 : decode (kB K_LW_cell) 9 = .ok (.goto 9, 3) := by decide +kernel
theorem d_LW_cell_12 : decode (kB K_LW_cell) 12 = .ok (.ldc 8, 2) := by decide +kernel
theorem d_LW_cell_14 : decode (kB K_LW_cell) 14 = .ok (.iload_n 1, 1) := by decide +kernel
theorem d_LW_cell_15 : decode (kB K_LW_cell) 15 = .ok (.iconst 3, 1) := by decide +kernel
theorem d_LW_cell_16 : decode (kB K_LW_cell) 16 = .ok (.iadd, 1) := by decide +kernel
theorem d_LW_cell_17 : decode (kB K_LW_cell) 17 = .ok (.imul, 1) := by decide +kernel
theorem d_LW_cell_18 : decode (kB K_LW_cell) 18 = .ok (.ireturn, 1) := by decide +kernel
def K_LW_taught : KM := (⟨"ParishBoardsLaw", "taught", "(LParishBoards;Ljava/lang/String;)I"⟩, method_4_code, 5, (some (.int)), "ParishBoardsLaw", ([], []))
theorem d_LW_taught_0 : decode (kB K_LW_taught) 0 = .ok (.iconst 5, 1) := by decide +kernel
theorem d_LW_taught_1 : decode (kB K_LW_taught) 1 = .ok (.newarray .int, 2) := by decide +kernel
theorem d_LW_taught_3 : decode (kB K_LW_taught) 3 = .ok (.astore_n 2, 1) := by decide +kernel
theorem d_LW_taught_4 : decode (kB K_LW_taught) 4 = .ok (.aload_n 0, 1) := by decide +kernel
theorem d_LW_taught_5 : decode (kB K_LW_taught) 5 = .ok (.iconst 0, 1) := by decide +kernel
theorem d_LW_taught_6 : decode (kB K_LW_taught) 6 = .ok (.invokevirtual 9, 3) := by decide +kernel
theorem d_LW_taught_9 : decode (kB K_LW_taught) 9 = .ok (.pop, 1) := by decide +kernel
theorem d_LW_taught_10 : decode (kB K_LW_taught) 10 = .ok (.iconst 0, 1) := by decide +kernel
theorem d_LW_taught_11 : decode (kB K_LW_taught) 11 = .ok (.istore_n 3, 1) := by decide +kernel
theorem d_LW_taught_12 : decode (kB K_LW_taught) 12 = .ok (.iload_n 3, 1) := by decide +kernel
theorem d_LW_taught_13 : decode (kB K_LW_taught) 13 = .ok (.aload_n 1, 1) := by decide +kernel
theorem d_LW_taught_14 : decode (kB K_LW_taught) 14 = .ok (.invokevirtual 15, 3) := by decide +kernel
theorem d_LW_taught_17 : decode (kB K_LW_taught) 17 = .ok (.if_icmp .ge 85, 3) := by decide +kernel
theorem d_LW_taught_20 : decode (kB K_LW_taught) 20 = .ok (.iconst 0, 1) := by decide +kernel
theorem d_LW_taught_21 : decode (kB K_LW_taught) 21 = .ok (.istore 4, 2) := by decide +kernel
theorem d_LW_taught_23 : decode (kB K_LW_taught) 23 = .ok (.iload 4, 2) := by decide +kernel
theorem d_LW_taught_25 : decode (kB K_LW_taught) 25 = .ok (.bipush 20, 2) := by decide +kernel
theorem d_LW_taught_27 : decode (kB K_LW_taught) 27 = .ok (.if_icmp .ge 49, 3) := by decide +kernel
theorem d_LW_taught_30 : decode (kB K_LW_taught) 30 = .ok (.aload_n 2, 1) := by decide +kernel
theorem d_LW_taught_31 : decode (kB K_LW_taught) 31 = .ok (.iload 4, 2) := by decide +kernel
theorem d_LW_taught_33 : decode (kB K_LW_taught) 33 = .ok (.iconst 4, 1) := by decide +kernel
theorem d_LW_taught_34 : decode (kB K_LW_taught) 34 = .ok (.idiv, 1) := by decide +kernel
theorem d_LW_taught_35 : decode (kB K_LW_taught) 35 = .ok (.aload_n 2, 1) := by decide +kernel
theorem d_LW_taught_36 : decode (kB K_LW_taught) 36 = .ok (.iload 4, 2) := by decide +kernel
theorem d_LW_taught_38 : decode (kB K_LW_taught) 38 = .ok (.iconst 4, 1) := by decide +kernel
theorem d_LW_taught_39 : decode (kB K_LW_taught) 39 = .ok (.idiv, 1) := by decide +kernel
theorem d_LW_taught_40 : decode (kB K_LW_taught) 40 = .ok (.iaload, 1) := by decide +kernel
theorem d_LW_taught_41 : decode (kB K_LW_taught) 41 = .ok (.bipush 8, 2) := by decide +kernel
theorem d_LW_taught_43 : decode (kB K_LW_taught) 43 = .ok (.ishl, 1) := by decide +kernel
theorem d_LW_taught_44 : decode (kB K_LW_taught) 44 = .ok (.iload_n 3, 1) := by decide +kernel
theorem d_LW_taught_45 : decode (kB K_LW_taught) 45 = .ok (.iload 4, 2) := by decide +kernel
theorem d_LW_taught_47 : decode (kB K_LW_taught) 47 = .ok (.iadd, 1) := by decide +kernel
theorem d_LW_taught_48 : decode (kB K_LW_taught) 48 = .ok (.aload_n 1, 1) := by decide +kernel
theorem d_LW_taught_49 : decode (kB K_LW_taught) 49 = .ok (.invokevirtual 15, 3) := by decide +kernel
theorem d_LW_taught_52 : decode (kB K_LW_taught) 52 = .ok (.if_icmp .ge 14, 3) := by decide +kernel
theorem d_LW_taught_55 : decode (kB K_LW_taught) 55 = .ok (.aload_n 1, 1) := by decide +kernel
theorem d_LW_taught_56 : decode (kB K_LW_taught) 56 = .ok (.iload_n 3, 1) := by decide +kernel
theorem d_LW_taught_57 : decode (kB K_LW_taught) 57 = .ok (.iload 4, 2) := by decide +kernel
theorem d_LW_taught_59 : decode (kB K_LW_taught) 59 = .ok (.iadd, 1) := by decide +kernel
theorem d_LW_taught_60 : decode (kB K_LW_taught) 60 = .ok (.invokevirtual 21, 3) := by decide +kernel
theorem d_LW_taught_63 : decode (kB K_LW_taught) 63 = .ok (.goto 5, 3) := by decide +kernel
theorem d_LW_taught_66 : decode (kB K_LW_taught) 66 = .ok (.bipush 32, 2) := by decide +kernel
theorem d_LW_taught_68 : decode (kB K_LW_taught) 68 = .ok (.ior, 1) := by decide +kernel
theorem d_LW_taught_69 : decode (kB K_LW_taught) 69 = .ok (.iastore, 1) := by decide +kernel
theorem d_LW_taught_70 : decode (kB K_LW_taught) 70 = .ok (.iinc 4 1, 3) := by decide +kernel
theorem d_LW_taught_73 : decode (kB K_LW_taught) 73 = .ok (.goto (-50), 3) := by decide +kernel
theorem d_LW_taught_76 : decode (kB K_LW_taught) 76 = .ok (.aload_n 0, 1) := by decide +kernel
theorem d_LW_taught_77 : decode (kB K_LW_taught) 77 = .ok (.aload_n 2, 1) := by decide +kernel
theorem d_LW_taught_78 : decode (kB K_LW_taught) 78 = .ok (.iconst 0, 1) := by decide +kernel
theorem d_LW_taught_79 : decode (kB K_LW_taught) 79 = .ok (.iaload, 1) := by decide +kernel
theorem d_LW_taught_80 : decode (kB K_LW_taught) 80 = .ok (.aload_n 2, 1) := by decide +kernel
theorem d_LW_taught_81 : decode (kB K_LW_taught) 81 = .ok (.iconst 1, 1) := by decide +kernel
theorem d_LW_taught_82 : decode (kB K_LW_taught) 82 = .ok (.iaload, 1) := by decide +kernel
theorem d_LW_taught_83 : decode (kB K_LW_taught) 83 = .ok (.aload_n 2, 1) := by decide +kernel
theorem d_LW_taught_84 : decode (kB K_LW_taught) 84 = .ok (.iconst 2, 1) := by decide +kernel
theorem d_LW_taught_85 : decode (kB K_LW_taught) 85 = .ok (.iaload, 1) := by decide +kernel
theorem d_LW_taught_86 : decode (kB K_LW_taught) 86 = .ok (.aload_n 2, 1) := by decide +kernel
theorem d_LW_taught_87 : decode (kB K_LW_taught) 87 = .ok (.iconst 3, 1) := by decide +kernel
theorem d_LW_taught_88 : decode (kB K_LW_taught) 88 = .ok (.iaload, 1) := by decide +kernel
theorem d_LW_taught_89 : decode (kB K_LW_taught) 89 = .ok (.aload_n 2, 1) := by decide +kernel
theorem d_LW_taught_90 : decode (kB K_LW_taught) 90 = .ok (.iconst 4, 1) := by decide +kernel
theorem d_LW_taught_91 : decode (kB K_LW_taught) 91 = .ok (.iaload, 1) := by decide +kernel
theorem d_LW_taught_92 : decode (kB K_LW_taught) 92 = .ok (.invokevirtual 25, 3) := by decide +kernel
theorem d_LW_taught_95 : decode (kB K_LW_taught) 95 = .ok (.pop, 1) := by decide +kernel
theorem d_LW_taught_96 : decode (kB K_LW_taught) 96 = .ok (.iinc 3 20, 3) := by decide +kernel
theorem d_LW_taught_99 : decode (kB K_LW_taught) 99 = .ok (.goto (-87), 3) := by decide +kernel
theorem d_LW_taught_102 : decode (kB K_LW_taught) 102 = .ok (.aload_n 0, 1) := by decide +kernel
theorem d_LW_taught_103 : decode (kB K_LW_taught) 103 = .ok (.aload_n 1, 1) := by decide +kernel
theorem d_LW_taught_104 : decode (kB K_LW_taught) 104 = .ok (.invokevirtual 15, 3) := by decide +kernel
theorem d_LW_taught_107 : decode (kB K_LW_taught) 107 = .ok (.invokevirtual 9, 3) := by decide +kernel
theorem d_LW_taught_110 : decode (kB K_LW_taught) 110 = .ok (.pop, 1) := by decide +kernel
theorem d_LW_taught_111 : decode (kB K_LW_taught) 111 = .ok (.aload_n 0, 1) := by decide +kernel
theorem d_LW_taught_112 : decode (kB K_LW_taught) 112 = .ok (.invokevirtual 29, 3) := by decide +kernel
theorem d_LW_taught_115 : decode (kB K_LW_taught) 115 = .ok (.ireturn, 1) := by decide +kernel
