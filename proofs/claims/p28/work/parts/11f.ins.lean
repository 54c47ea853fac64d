/-! methods and their instructions -/
def K_LW_test : KM := (⟨"ParishBoardsLaw", "test", "([I)Ljava/lang/String;"⟩, method_5_code, 3, (some (.object "java/lang/String")), "ParishBoardsLaw", ([], []))
theorem d_LW_test_0 : decode (kB K_LW_test) 0 = .ok (.aload_n 0, 1) := by decide +kernel
theorem d_LW_test_1 : decode (kB K_LW_test) 1 = .ok (.bipush 6, 2) := by decide +kernel
theorem d_LW_test_3 : decode (kB K_LW_test) 3 = .ok (.iaload, 1) := by decide +kernel
theorem d_LW_test_4 : decode (kB K_LW_test) 4 = .ok (.istore_n 1, 1) := by decide +kernel
theorem d_LW_test_5 : decode (kB K_LW_test) 5 = .ok (.aload_n 0, 1) := by decide +kernel
theorem d_LW_test_6 : decode (kB K_LW_test) 6 = .ok (.bipush 7, 2) := by decide +kernel
theorem d_LW_test_8 : decode (kB K_LW_test) 8 = .ok (.iaload, 1) := by decide +kernel
theorem d_LW_test_9 : decode (kB K_LW_test) 9 = .ok (.istore_n 2, 1) := by decide +kernel
theorem d_LW_test_10 : decode (kB K_LW_test) 10 = .ok (.aload_n 0, 1) := by decide +kernel
theorem d_LW_test_11 : decode (kB K_LW_test) 11 = .ok (.iconst 5, 1) := by decide +kernel
theorem d_LW_test_12 : decode (kB K_LW_test) 12 = .ok (.iaload, 1) := by decide +kernel
theorem d_LW_test_13 : decode (kB K_LW_test) 13 = .ok (.tableswitch 182 0 4 #[35, 38, 67, 101, 139], 35) := by decide +kernel
theorem d_LW_test_48 : decode (kB K_LW_test) 48 = .ok (.ldc 32, 2) := by decide +kernel
theorem d_LW_test_50 : decode (kB K_LW_test) 50 = .ok (.areturn, 1) := by decide +kernel
theorem d_LW_test_51 : decode (kB K_LW_test) 51 = .ok (.new 34, 3) := by decide +kernel
theorem d_LW_test_54 : decode (kB K_LW_test) 54 = .ok (.dup, 1) := by decide +kernel
theorem d_LW_test_55 : decode (kB K_LW_test) 55 = .ok (.invokespecial 36, 3) := by decide +kernel
theorem d_LW_test_58 : decode (kB K_LW_test) 58 = .ok (.ldc 37, 2) := by decide +kernel
theorem d_LW_test_60 : decode (kB K_LW_test) 60 = .ok (.invokevirtual 39, 3) := by decide +kernel
theorem d_LW_test_63 : decode (kB K_LW_test) 63 = .ok (.iload_n 1, 1) := by decide +kernel
theorem d_LW_test_64 : decode (kB K_LW_test) 64 = .ok (.invokevirtual 43, 3) := by decide +kernel
theorem d_LW_test_67 : decode (kB K_LW_test) 67 = .ok (.ldc 46, 2) := by decide +kernel
theorem d_LW_test_69 : decode (kB K_LW_test) 69 = .ok (.invokevirtual 39, 3) := by decide +kernel
theorem d_LW_test_72 : decode (kB K_LW_test) 72 = .ok (.iload_n 2, 1) := by decide +kernel
theorem d_LW_test_73 : decode (kB K_LW_test) 73 = .ok (.invokevirtual 43, 3) := by decide +kernel
theorem d_LW_test_76 : decode (kB K_LW_test) 76 = .ok (.invokevirtual 48, 3) := by decide +kernel
theorem d_LW_test_79 : decode (kB K_LW_test) 79 = .ok (.areturn, 1) := by decide +kernel
theorem d_LW_test_80 : decode (kB K_LW_test) 80 = .ok (.new 34, 3) := by decide +kernel
theorem d_LW_test_83 : decode (kB K_LW_test) 83 = .ok (.dup, 1) := by decide +kernel
theorem d_LW_test_84 : decode (kB K_LW_test) 84 = .ok (.invokespecial 36, 3) := by decide +kernel
theorem d_LW_test_87 : decode (kB K_LW_test) 87 = .ok (.ldc 52, 2) := by decide +kernel
theorem d_LW_test_89 : decode (kB K_LW_test) 89 = .ok (.invokevirtual 39, 3) := by decide +kernel
theorem d_LW_test_92 : decode (kB K_LW_test) 92 = .ok (.iload_n 1, 1) := by decide +kernel
theorem d_LW_test_93 : decode (kB K_LW_test) 93 = .ok (.invokevirtual 43, 3) := by decide +kernel
theorem d_LW_test_96 : decode (kB K_LW_test) 96 = .ok (.ldc 46, 2) := by decide +kernel
theorem d_LW_test_98 : decode (kB K_LW_test) 98 = .ok (.invokevirtual 39, 3) := by decide +kernel
theorem d_LW_test_101 : decode (kB K_LW_test) 101 = .ok (.iload_n 2, 1) := by decide +kernel
theorem d_LW_test_102 : decode (kB K_LW_test) 102 = .ok (.invokevirtual 43, 3) := by decide +kernel
theorem d_LW_test_105 : decode (kB K_LW_test) 105 = .ok (.ldc 54, 2) := by decide +kernel
theorem d_LW_test_107 : decode (kB K_LW_test) 107 = .ok (.invokevirtual 39, 3) := by decide +kernel
theorem d_LW_test_110 : decode (kB K_LW_test) 110 = .ok (.invokevirtual 48, 3) := by decide +kernel
theorem d_LW_test_113 : decode (kB K_LW_test) 113 = .ok (.areturn, 1) := by decide +kernel
theorem d_LW_test_114 : decode (kB K_LW_test) 114 = .ok (.new 34, 3) := by decide +kernel
theorem d_LW_test_117 : decode (kB K_LW_test) 117 = .ok (.dup, 1) := by decide +kernel
theorem d_LW_test_118 : decode (kB K_LW_test) 118 = .ok (.invokespecial 36, 3) := by decide +kernel
theorem d_LW_test_121 : decode (kB K_LW_test) 121 = .ok (.ldc 56, 2) := by decide +kernel
theorem d_LW_test_123 : decode (kB K_LW_test) 123 = .ok (.invokevirtual 39, 3) := by decide +kernel
theorem d_LW_test_126 : decode (kB K_LW_test) 126 = .ok (.iload_n 1, 1) := by decide +kernel
theorem d_LW_test_127 : decode (kB K_LW_test) 127 = .ok (.invokevirtual 43, 3) := by decide +kernel
theorem d_LW_test_130 : decode (kB K_LW_test) 130 = .ok (.ldc 58, 2) := by decide +kernel
theorem d_LW_test_132 : decode (kB K_LW_test) 132 = .ok (.invokevirtual 39, 3) := by decide +kernel
theorem d_LW_test_135 : decode (kB K_LW_test) 135 = .ok (.iload_n 1, 1) := by decide +kernel
theorem d_LW_test_136 : decode (kB K_LW_test) 136 = .ok (.invokevirtual 43, 3) := by decide +kernel
theorem d_LW_test_139 : decode (kB K_LW_test) 139 = .ok (.ldc 60, 2) := by decide +kernel
theorem d_LW_test_141 : decode (kB K_LW_test) 141 = .ok (.invokevirtual 39, 3) := by decide +kernel
theorem d_LW_test_144 : decode (kB K_LW_test) 144 = .ok (.iload_n 2, 1) := by decide +kernel
theorem d_LW_test_145 : decode (kB K_LW_test) 145 = .ok (.invokevirtual 43, 3) := by decide +kernel
theorem d_LW_test_148 : decode (kB K_LW_test) 148 = .ok (.invokevirtual 48, 3) := by decide +kernel
theorem d_LW_test_151 : decode (kB K_LW_test) 151 = .ok (.areturn, 1) := by decide +kernel
theorem d_LW_test_152 : decode (kB K_LW_test) 152 = .ok (.new 34, 3) := by decide +kernel
theorem d_LW_test_155 : decode (kB K_LW_test) 155 = .ok (.dup, 1) := by decide +kernel
theorem d_LW_test_156 : decode (kB K_LW_test) 156 = .ok (.invokespecial 36, 3) := by decide +kernel
theorem d_LW_test_159 : decode (kB K_LW_test) 159 = .ok (.ldc 62, 2) := by decide +kernel
theorem d_LW_test_161 : decode (kB K_LW_test) 161 = .ok (.invokevirtual 39, 3) := by decide +kernel
theorem d_LW_test_164 : decode (kB K_LW_test) 164 = .ok (.iload_n 1, 1) := by decide +kernel
theorem d_LW_test_165 : decode (kB K_LW_test) 165 = .ok (.invokevirtual 43, 3) := by decide +kernel
theorem d_LW_test_168 : decode (kB K_LW_test) 168 = .ok (.ldc 64, 2) := by decide +kernel
theorem d_LW_test_170 : decode (kB K_LW_test) 170 = .ok (.invokevirtual 39, 3) := by decide +kernel
theorem d_LW_test_173 : decode (kB K_LW_test) 173 = .ok (.iload_n 2, 1) := by decide +kernel
theorem d_LW_test_174 : decode (kB K_LW_test) 174 = .ok (.invokevirtual 43, 3) := by decide +kernel
theorem d_LW_test_177 : decode (kB K_LW_test) 177 = .ok (.ldc 66, 2) := by decide +kernel
theorem d_LW_test_179 : decode (kB K_LW_test) 179 = .ok (.invokevirtual 39, 3) := by decide +kernel
theorem d_LW_test_182 : decode (kB K_LW_test) 182 = .ok (.iload_n 1, 1) := by decide +kernel
theorem d_LW_test_183 : decode (kB K_LW_test) 183 = .ok (.invokevirtual 43, 3) := by decide +kernel
theorem d_LW_test_186 : decode (kB K_LW_test) 186 = .ok (.ldc 68, 2) := by decide +kernel
theorem d_LW_test_188 : decode (kB K_LW_test) 188 = .ok (.invokevirtual 39, 3) := by decide +kernel
theorem d_LW_test_191 : decode (kB K_LW_test) 191 = .ok (.invokevirtual 48, 3) := by decide +kernel
theorem d_LW_test_194 : decode (kB K_LW_test) 194 = .ok (.areturn, 1) := by decide +kernel
theorem d_LW_test_195 : decode (kB K_LW_test) 195 = .ok (.new 34, 3) := by decide +kernel
theorem d_LW_test_198 : decode (kB K_LW_test) 198 = .ok (.dup, 1) := by decide +kernel
theorem d_LW_test_199 : decode (kB K_LW_test) 199 = .ok (.invokespecial 36, 3) := by decide +kernel
theorem d_LW_test_202 : decode (kB K_LW_test) 202 = .ok (.ldc 70, 2) := by decide +kernel
theorem d_LW_test_204 : decode (kB K_LW_test) 204 = .ok (.invokevirtual 39, 3) := by decide +kernel
theorem d_LW_test_207 : decode (kB K_LW_test) 207 = .ok (.iload_n 1, 1) := by decide +kernel
theorem d_LW_test_208 : decode (kB K_LW_test) 208 = .ok (.invokevirtual 43, 3) := by decide +kernel
theorem d_LW_test_211 : decode (kB K_LW_test) 211 = .ok (.ldc 46, 2) := by decide +kernel
theorem d_LW_test_213 : decode (kB K_LW_test) 213 = .ok (.invokevirtual 39, 3) := by decide +kernel
theorem d_LW_test_216 : decode (kB K_LW_test) 216 = .ok (.iload_n 2, 1) := by decide +kernel
theorem d_LW_test_217 : decode (kB K_LW_test) 217 = .ok (.invokevirtual 43, 3) := by decide +kernel
theorem d_LW_test_220 : decode (kB K_LW_test) 220 = .ok (.ldc 72, 2) := by decide +kernel
theorem d_LW_test_222 : decode (kB K_LW_test) 222 = .ok (.invokevirtual 39, 3) := by decide +kernel
theorem d_LW_test_225 : decode (kB K_LW_test) 225 = .ok (.iload_n 1, 1) := by decide +kernel
theorem d_LW_test_226 : decode (kB K_LW_test) 226 = .ok (.invokevirtual 43, 3) := by decide +kernel
theorem d_LW_test_229 : decode (kB K_LW_test) 229 = .ok (.ldc 46, 2) := by decide +kernel
theorem d_LW_test_231 : decode (kB K_LW_test) 231 = .ok (.invokevirtual 39, 3) := by decide +kernel
theorem d_LW_test_234 : decode (kB K_LW_test) 234 = .ok (.iload_n 2, 1) := by decide +kernel
theorem d_LW_test_235 : decode (kB K_LW_test) 235 = .ok (.invokevirtual 43, 3) := by decide +kernel
theorem d_LW_test_238 : decode (kB K_LW_test) 238 = .ok (.invokevirtual 48, 3) := by decide +kernel
theorem d_LW_test_241 : decode (kB K_LW_test) 241 = .ok (.areturn, 1) := by decide +kernel
def K_LW_sum : KM := (⟨"ParishBoardsLaw", "sum", "([I)Ljava/lang/String;"⟩, method_6_code, 1, (some (.object "java/lang/String")), "ParishBoardsLaw", ([], []))
theorem d_LW_sum_0 : decode (kB K_LW_sum) 0 = .ok (.aload_n 0, 1) := by decide +kernel
theorem d_LW_sum_1 : decode (kB K_LW_sum) 1 = .ok (.iconst 3, 1) := by decide +kernel
theorem d_LW_sum_2 : decode (kB K_LW_sum) 2 = .ok (.iaload, 1) := by decide +kernel
theorem d_LW_sum_3 : decode (kB K_LW_sum) 3 = .ok (.ifCond .ne 27, 3) := by decide +kernel
theorem d_LW_sum_6 : decode (kB K_LW_sum) 6 = .ok (.new 34, 3) := by decide +kernel
theorem d_LW_sum_9 : decode (kB K_LW_sum) 9 = .ok (.dup, 1) := by decide +kernel
theorem d_LW_sum_10 : decode (kB K_LW_sum) 10 = .ok (.invokespecial 36, 3) := by decide +kernel
theorem d_LW_sum_13 : decode (kB K_LW_sum) 13 = .ok (.ldc 32, 2) := by decide +kernel
theorem d_LW_sum_15 : decode (kB K_LW_sum) 15 = .ok (.invokevirtual 39, 3) := by decide +kernel
theorem d_LW_sum_18 : decode (kB K_LW_sum) 18 = .ok (.aload_n 0, 1) := by decide +kernel
theorem d_LW_sum_19 : decode (kB K_LW_sum) 19 = .ok (.iconst 4, 1) := by decide +kernel
theorem d_LW_sum_20 : decode (kB K_LW_sum) 20 = .ok (.iaload, 1) := by decide +kernel
theorem d_LW_sum_21 : decode (kB K_LW_sum) 21 = .ok (.invokevirtual 43, 3) := by decide +kernel
theorem d_LW_sum_24 : decode (kB K_LW_sum) 24 = .ok (.invokevirtual 48, 3) := by decide +kernel
theorem d_LW_sum_27 : decode (kB K_LW_sum) 27 = .ok (.goto 77, 3) := by decide +kernel
theorem d_LW_sum_30 : decode (kB K_LW_sum) 30 = .ok (.aload_n 0, 1) := by decide +kernel
theorem d_LW_sum_31 : decode (kB K_LW_sum) 31 = .ok (.iconst 3, 1) := by decide +kernel
theorem d_LW_sum_32 : decode (kB K_LW_sum) 32 = .ok (.iaload, 1) := by decide +kernel
theorem d_LW_sum_33 : decode (kB K_LW_sum) 33 = .ok (.iconst 1, 1) := by decide +kernel
theorem d_LW_sum_34 : decode (kB K_LW_sum) 34 = .ok (.if_icmp .ne 27, 3) := by decide +kernel
theorem d_LW_sum_37 : decode (kB K_LW_sum) 37 = .ok (.new 34, 3) := by decide +kernel
theorem d_LW_sum_40 : decode (kB K_LW_sum) 40 = .ok (.dup, 1) := by decide +kernel
theorem d_LW_sum_41 : decode (kB K_LW_sum) 41 = .ok (.invokespecial 36, 3) := by decide +kernel
theorem d_LW_sum_44 : decode (kB K_LW_sum) 44 = .ok (.ldc 74, 2) := by decide +kernel
theorem d_LW_sum_46 : decode (kB K_LW_sum) 46 = .ok (.invokevirtual 39, 3) := by decide +kernel
theorem d_LW_sum_49 : decode (kB K_LW_sum) 49 = .ok (.aload_n 0, 1) := by decide +kernel
theorem d_LW_sum_50 : decode (kB K_LW_sum) 50 = .ok (.iconst 4, 1) := by decide +kernel
theorem d_LW_sum_51 : decode (kB K_LW_sum) 51 = .ok (.iaload, 1) := by decide +kernel
theorem d_LW_sum_52 : decode (kB K_LW_sum) 52 = .ok (.invokevirtual 43, 3) := by decide +kernel
theorem d_LW_sum_55 : decode (kB K_LW_sum) 55 = .ok (.invokevirtual 48, 3) := by decide +kernel
theorem d_LW_sum_58 : decode (kB K_LW_sum) 58 = .ok (.goto 46, 3) := by decide +kernel
theorem d_LW_sum_61 : decode (kB K_LW_sum) 61 = .ok (.new 34, 3) := by decide +kernel
theorem d_LW_sum_64 : decode (kB K_LW_sum) 64 = .ok (.dup, 1) := by decide +kernel
theorem d_LW_sum_65 : decode (kB K_LW_sum) 65 = .ok (.invokespecial 36, 3) := by decide +kernel
theorem d_LW_sum_68 : decode (kB K_LW_sum) 68 = .ok (.aload_n 0, 1) := by decide +kernel
theorem d_LW_sum_69 : decode (kB K_LW_sum) 69 = .ok (.iconst 4, 1) := by decide +kernel
theorem d_LW_sum_70 : decode (kB K_LW_sum) 70 = .ok (.iaload, 1) := by decide +kernel
theorem d_LW_sum_71 : decode (kB K_LW_sum) 71 = .ok (.invokevirtual 43, 3) := by decide +kernel
theorem d_LW_sum_74 : decode (kB K_LW_sum) 74 = .ok (.ldc 76, 2) := by decide +kernel
theorem d_LW_sum_76 : decode (kB K_LW_sum) 76 = .ok (.invokevirtual 39, 3) := by decide +kernel
theorem d_LW_sum_79 : decode (kB K_LW_sum) 79 = .ok (.aload_n 0, 1) := by decide +kernel
theorem d_LW_sum_80 : decode (kB K_LW_sum) 80 = .ok (.iconst 1, 1) := by decide +kernel
theorem d_LW_sum_81 : decode (kB K_LW_sum) 81 = .ok (.iaload, 1) := by decide +kernel
theorem d_LW_sum_82 : decode (kB K_LW_sum) 82 = .ok (.invokevirtual 43, 3) := by decide +kernel
theorem d_LW_sum_85 : decode (kB K_LW_sum) 85 = .ok (.ldc 46, 2) := by decide +kernel
theorem d_LW_sum_87 : decode (kB K_LW_sum) 87 = .ok (.invokevirtual 39, 3) := by decide +kernel
theorem d_LW_sum_90 : decode (kB K_LW_sum) 90 = .ok (.aload_n 0, 1) := by decide +kernel
theorem d_LW_sum_91 : decode (kB K_LW_sum) 91 = .ok (.iconst 2, 1) := by decide +kernel
theorem d_LW_sum_92 : decode (kB K_LW_sum) 92 = .ok (.iaload, 1) := by decide +kernel
theorem d_LW_sum_93 : decode (kB K_LW_sum) 93 = .ok (.invokevirtual 43, 3) := by decide +kernel
theorem d_LW_sum_96 : decode (kB K_LW_sum) 96 = .ok (.ldc 78, 2) := by decide +kernel
theorem d_LW_sum_98 : decode (kB K_LW_sum) 98 = .ok (.invokevirtual 39, 3) := by decide +kernel
theorem d_LW_sum_101 : decode (kB K_LW_sum) 101 = .ok (.invokevirtual 48, 3) := by decide +kernel
theorem d_LW_sum_104 : decode (kB K_LW_sum) 104 = .ok (.areturn, 1) := by decide +kernel
def K_LW_list : KM := (⟨"ParishBoardsLaw", "list", "([ILjava/lang/StringBuilder;)LParishBoardsLaw$Sim;"⟩, method_7_code, 14, (some (.object "ParishBoardsLaw$Sim")), "ParishBoardsLaw", ([], []))
theorem d_LW_list_0 : decode (kB K_LW_list) 0 = .ok (.new 80, 3) := by decide +kernel
theorem d_LW_list_3 : decode (kB K_LW_list) 3 = .ok (.dup, 1) := by decide +kernel
theorem d_LW_list_4 : decode (kB K_LW_list) 4 = .ok (.invokespecial 82, 3) := by decide +kernel
theorem d_LW_list_7 : decode (kB K_LW_list) 7 = .ok (.astore_n 2, 1) := by decide +kernel
theorem d_LW_list_8 : decode (kB K_LW_list) 8 = .ok (.iconst 2, 1) := by decide +kernel
theorem d_LW_list_9 : decode (kB K_LW_list) 9 = .ok (.aload_n 0, 1) := by decide +kernel
theorem d_LW_list_10 : decode (kB K_LW_list) 10 = .ok (.iconst 0, 1) := by decide +kernel
theorem d_LW_list_11 : decode (kB K_LW_list) 11 = .ok (.invokestatic 83, 3) := by decide +kernel
theorem d_LW_list_14 : decode (kB K_LW_list) 14 = .ok (.iconst 4, 1) := by decide +kernel
theorem d_LW_list_15 : decode (kB K_LW_list) 15 = .ok (.invokestatic 89, 3) := by decide +kernel
theorem d_LW_list_18 : decode (kB K_LW_list) 18 = .ok (.iadd, 1) := by decide +kernel
theorem d_LW_list_19 : decode (kB K_LW_list) 19 = .ok (.istore_n 3, 1) := by decide +kernel
theorem d_LW_list_20 : decode (kB K_LW_list) 20 = .ok (.iconst 1, 1) := by decide +kernel
theorem d_LW_list_21 : decode (kB K_LW_list) 21 = .ok (.aload_n 0, 1) := by decide +kernel
theorem d_LW_list_22 : decode (kB K_LW_list) 22 = .ok (.iconst 0, 1) := by decide +kernel
theorem d_LW_list_23 : decode (kB K_LW_list) 23 = .ok (.invokestatic 83, 3) := by decide +kernel
theorem d_LW_list_26 : decode (kB K_LW_list) 26 = .ok (.iconst 4, 1) := by decide +kernel
theorem d_LW_list_27 : decode (kB K_LW_list) 27 = .ok (.ishr, 1) := by decide +kernel
theorem d_LW_list_28 : decode (kB K_LW_list) 28 = .ok (.iconst 3, 1) := by decide +kernel
theorem d_LW_list_29 : decode (kB K_LW_list) 29 = .ok (.invokestatic 89, 3) := by decide +kernel
theorem d_LW_list_32 : decode (kB K_LW_list) 32 = .ok (.iadd, 1) := by decide +kernel
theorem d_LW_list_33 : decode (kB K_LW_list) 33 = .ok (.istore 4, 2) := by decide +kernel
theorem d_LW_list_35 : decode (kB K_LW_list) 35 = .ok (.aload_n 2, 1) := by decide +kernel
theorem d_LW_list_36 : decode (kB K_LW_list) 36 = .ok (.iload_n 3, 1) := by decide +kernel
theorem d_LW_list_37 : decode (kB K_LW_list) 37 = .ok (.iload 4, 2) := by decide +kernel
theorem d_LW_list_39 : decode (kB K_LW_list) 39 = .ok (.invokevirtual 93, 3) := by decide +kernel
theorem d_LW_list_42 : decode (kB K_LW_list) 42 = .ok (.iconst 0, 1) := by decide +kernel
theorem d_LW_list_43 : decode (kB K_LW_list) 43 = .ok (.istore 5, 2) := by decide +kernel
theorem d_LW_list_45 : decode (kB K_LW_list) 45 = .ok (.iload 5, 2) := by decide +kernel
theorem d_LW_list_47 : decode (kB K_LW_list) 47 = .ok (.iload_n 3, 1) := by decide +kernel
theorem d_LW_list_48 : decode (kB K_LW_list) 48 = .ok (.if_icmp .ge 26, 3) := by decide +kernel
theorem d_LW_list_51 : decode (kB K_LW_list) 51 = .ok (.aload_n 1, 1) := by decide +kernel
theorem d_LW_list_52 : decode (kB K_LW_list) 52 = .ok (.ldc 97, 2) := by decide +kernel
theorem d_LW_list_54 : decode (kB K_LW_list) 54 = .ok (.invokevirtual 39, 3) := by decide +kernel
theorem d_LW_list_57 : decode (kB K_LW_list) 57 = .ok (.iload 5, 2) := by decide +kernel
theorem d_LW_list_59 : decode (kB K_LW_list) 59 = .ok (.invokevirtual 43, 3) := by decide +kernel
theorem d_LW_list_62 : decode (kB K_LW_list) 62 = .ok (.ldc 99, 2) := by decide +kernel
theorem d_LW_list_64 : decode (kB K_LW_list) 64 = .ok (.invokevirtual 39, 3) := by decide +kernel
theorem d_LW_list_67 : decode (kB K_LW_list) 67 = .ok (.pop, 1) := by decide +kernel
theorem d_LW_list_68 : decode (kB K_LW_list) 68 = .ok (.iinc 5 1, 3) := by decide +kernel
theorem d_LW_list_71 : decode (kB K_LW_list) 71 = .ok (.goto (-26), 3) := by decide +kernel
theorem d_LW_list_74 : decode (kB K_LW_list) 74 = .ok (.iconst 0, 1) := by decide +kernel
theorem d_LW_list_75 : decode (kB K_LW_list) 75 = .ok (.istore 5, 2) := by decide +kernel
theorem d_LW_list_77 : decode (kB K_LW_list) 77 = .ok (.iload 5, 2) := by decide +kernel
theorem d_LW_list_79 : decode (kB K_LW_list) 79 = .ok (.iload 4, 2) := by decide +kernel
theorem d_LW_list_81 : decode (kB K_LW_list) 81 = .ok (.if_icmp .ge 26, 3) := by decide +kernel
theorem d_LW_list_84 : decode (kB K_LW_list) 84 = .ok (.aload_n 1, 1) := by decide +kernel
theorem d_LW_list_85 : decode (kB K_LW_list) 85 = .ok (.ldc 101, 2) := by decide +kernel
theorem d_LW_list_87 : decode (kB K_LW_list) 87 = .ok (.invokevirtual 39, 3) := by decide +kernel
theorem d_LW_list_90 : decode (kB K_LW_list) 90 = .ok (.iload 5, 2) := by decide +kernel
theorem d_LW_list_92 : decode (kB K_LW_list) 92 = .ok (.invokevirtual 43, 3) := by decide +kernel
theorem d_LW_list_95 : decode (kB K_LW_list) 95 = .ok (.ldc 99, 2) := by decide +kernel
theorem d_LW_list_97 : decode (kB K_LW_list) 97 = .ok (.invokevirtual 39, 3) := by decide +kernel
theorem d_LW_list_100 : decode (kB K_LW_list) 100 = .ok (.pop, 1) := by decide +kernel
theorem d_LW_list_101 : decode (kB K_LW_list) 101 = .ok (.iinc 5 1, 3) := by decide +kernel
theorem d_LW_list_104 : decode (kB K_LW_list) 104 = .ok (.goto (-27), 3) := by decide +kernel
theorem d_LW_list_107 : decode (kB K_LW_list) 107 = .ok (.iconst 1, 1) := by decide +kernel
theorem d_LW_list_108 : decode (kB K_LW_list) 108 = .ok (.aload_n 0, 1) := by decide +kernel
theorem d_LW_list_109 : decode (kB K_LW_list) 109 = .ok (.iconst 1, 1) := by decide +kernel
theorem d_LW_list_110 : decode (kB K_LW_list) 110 = .ok (.invokestatic 83, 3) := by decide +kernel
theorem d_LW_list_113 : decode (kB K_LW_list) 113 = .ok (.bipush 8, 2) := by decide +kernel
theorem d_LW_list_115 : decode (kB K_LW_list) 115 = .ok (.invokestatic 89, 3) := by decide +kernel
theorem d_LW_list_118 : decode (kB K_LW_list) 118 = .ok (.iadd, 1) := by decide +kernel
theorem d_LW_list_119 : decode (kB K_LW_list) 119 = .ok (.istore 5, 2) := by decide +kernel
theorem d_LW_list_121 : decode (kB K_LW_list) 121 = .ok (.iconst 0, 1) := by decide +kernel
theorem d_LW_list_122 : decode (kB K_LW_list) 122 = .ok (.istore 6, 2) := by decide +kernel
theorem d_LW_list_124 : decode (kB K_LW_list) 124 = .ok (.iload 6, 2) := by decide +kernel
theorem d_LW_list_126 : decode (kB K_LW_list) 126 = .ok (.iload 5, 2) := by decide +kernel
theorem d_LW_list_128 : decode (kB K_LW_list) 128 = .ok (.if_icmp .ge 184, 3) := by decide +kernel
theorem d_LW_list_131 : decode (kB K_LW_list) 131 = .ok (.aload_n 0, 1) := by decide +kernel
theorem d_LW_list_132 : decode (kB K_LW_list) 132 = .ok (.iconst 2, 1) := by decide +kernel
theorem d_LW_list_133 : decode (kB K_LW_list) 133 = .ok (.iload 6, 2) := by decide +kernel
theorem d_LW_list_135 : decode (kB K_LW_list) 135 = .ok (.iconst 4, 1) := by decide +kernel
theorem d_LW_list_136 : decode (kB K_LW_list) 136 = .ok (.irem, 1) := by decide +kernel
theorem d_LW_list_137 : decode (kB K_LW_list) 137 = .ok (.iadd, 1) := by decide +kernel
theorem d_LW_list_138 : decode (kB K_LW_list) 138 = .ok (.invokestatic 83, 3) := by decide +kernel
theorem d_LW_list_141 : decode (kB K_LW_list) 141 = .ok (.iload 6, 2) := by decide +kernel
theorem d_LW_list_143 : decode (kB K_LW_list) 143 = .ok (.ishr, 1) := by decide +kernel
theorem d_LW_list_144 : decode (kB K_LW_list) 144 = .ok (.istore 7, 2) := by decide +kernel
theorem d_LW_list_146 : decode (kB K_LW_list) 146 = .ok (.iload 6, 2) := by decide +kernel
theorem d_LW_list_148 : decode (kB K_LW_list) 148 = .ok (.iload_n 3, 1) := by decide +kernel
theorem d_LW_list_149 : decode (kB K_LW_list) 149 = .ok (.if_icmp .ge 8, 3) := by decide +kernel
theorem d_LW_list_152 : decode (kB K_LW_list) 152 = .ok (.iload 6, 2) := by decide +kernel
theorem d_LW_list_154 : decode (kB K_LW_list) 154 = .ok (.goto 9, 3) := by decide +kernel
theorem d_LW_list_157 : decode (kB K_LW_list) 157 = .ok (.iload 7, 2) := by decide +kernel
theorem d_LW_list_159 : decode (kB K_LW_list) 159 = .ok (.iload_n 3, 1) := by decide +kernel
theorem d_LW_list_160 : decode (kB K_LW_list) 160 = .ok (.invokestatic 89, 3) := by decide +kernel
theorem d_LW_list_163 : decode (kB K_LW_list) 163 = .ok (.istore 8, 2) := by decide +kernel
theorem d_LW_list_165 : decode (kB K_LW_list) 165 = .ok (.iload 8, 2) := by decide +kernel
theorem d_LW_list_167 : decode (kB K_LW_list) 167 = .ok (.iload 6, 2) := by decide +kernel
theorem d_LW_list_169 : decode (kB K_LW_list) 169 = .ok (.iload_n 3, 1) := by decide +kernel
theorem d_LW_list_170 : decode (kB K_LW_list) 170 = .ok (.if_icmp .ge 7, 3) := by decide +kernel
theorem d_LW_list_173 : decode (kB K_LW_list) 173 = .ok (.iconst 1, 1) := by decide +kernel
theorem d_LW_list_174 : decode (kB K_LW_list) 174 = .ok (.goto 15, 3) := by decide +kernel
theorem d_LW_list_177 : decode (kB K_LW_list) 177 = .ok (.iconst 1, 1) := by decide +kernel
theorem d_LW_list_178 : decode (kB K_LW_list) 178 = .ok (.iload 7, 2) := by decide +kernel
theorem d_LW_list_180 : decode (kB K_LW_list) 180 = .ok (.iconst 2, 1) := by decide +kernel
theorem d_LW_list_181 : decode (kB K_LW_list) 181 = .ok (.ishr, 1) := by decide +kernel
theorem d_LW_list_182 : decode (kB K_LW_list) 182 = .ok (.iload_n 3, 1) := by decide +kernel
theorem d_LW_list_183 : decode (kB K_LW_list) 183 = .ok (.iconst 1, 1) := by decide +kernel
theorem d_LW_list_184 : decode (kB K_LW_list) 184 = .ok (.isub, 1) := by decide +kernel
theorem d_LW_list_185 : decode (kB K_LW_list) 185 = .ok (.invokestatic 89, 3) := by decide +kernel
theorem d_LW_list_188 : decode (kB K_LW_list) 188 = .ok (.iadd, 1) := by decide +kernel
theorem d_LW_list_189 : decode (kB K_LW_list) 189 = .ok (.iadd, 1) := by decide +kernel
theorem d_LW_list_190 : decode (kB K_LW_list) 190 = .ok (.iload_n 3, 1) := by decide +kernel
theorem d_LW_list_191 : decode (kB K_LW_list) 191 = .ok (.irem, 1) := by decide +kernel
theorem d_LW_list_192 : decode (kB K_LW_list) 192 = .ok (.istore 9, 2) := by decide +kernel
theorem d_LW_list_194 : decode (kB K_LW_list) 194 = .ok (.aload_n 2, 1) := by decide +kernel
theorem d_LW_list_195 : decode (kB K_LW_list) 195 = .ok (.aload_n 2, 1) := by decide +kernel
theorem d_LW_list_196 : decode (kB K_LW_list) 196 = .ok (.getfield 103, 3) := by decide +kernel
theorem d_LW_list_199 : decode (kB K_LW_list) 199 = .ok (.iconst 4, 1) := by decide +kernel
theorem d_LW_list_200 : decode (kB K_LW_list) 200 = .ok (.newarray .int, 2) := by decide +kernel
theorem d_LW_list_202 : decode (kB K_LW_list) 202 = .ok (.dup, 1) := by decide +kernel
theorem d_LW_list_203 : decode (kB K_LW_list) 203 = .ok (.iconst 0, 1) := by decide +kernel
theorem d_LW_list_204 : decode (kB K_LW_list) 204 = .ok (.iload 8, 2) := by decide +kernel
theorem d_LW_list_206 : decode (kB K_LW_list) 206 = .ok (.iastore, 1) := by decide +kernel
theorem d_LW_list_207 : decode (kB K_LW_list) 207 = .ok (.dup, 1) := by decide +kernel
theorem d_LW_list_208 : decode (kB K_LW_list) 208 = .ok (.iconst 1, 1) := by decide +kernel
theorem d_LW_list_209 : decode (kB K_LW_list) 209 = .ok (.iload 9, 2) := by decide +kernel
theorem d_LW_list_211 : decode (kB K_LW_list) 211 = .ok (.iastore, 1) := by decide +kernel
theorem d_LW_list_212 : decode (kB K_LW_list) 212 = .ok (.dup, 1) := by decide +kernel
theorem d_LW_list_213 : decode (kB K_LW_list) 213 = .ok (.iconst 2, 1) := by decide +kernel
theorem d_LW_list_214 : decode (kB K_LW_list) 214 = .ok (.iconst 1, 1) := by decide +kernel
theorem d_LW_list_215 : decode (kB K_LW_list) 215 = .ok (.iload 7, 2) := by decide +kernel
theorem d_LW_list_217 : decode (kB K_LW_list) 217 = .ok (.iconst 4, 1) := by decide +kernel
theorem d_LW_list_218 : decode (kB K_LW_list) 218 = .ok (.ishr, 1) := by decide +kernel
theorem d_LW_list_219 : decode (kB K_LW_list) 219 = .ok (.iload 7, 2) := by decide +kernel
theorem d_LW_list_221 : decode (kB K_LW_list) 221 = .ok (.bipush 6, 2) := by decide +kernel
theorem d_LW_list_223 : decode (kB K_LW_list) 223 = .ok (.ishr, 1) := by decide +kernel
theorem d_LW_list_224 : decode (kB K_LW_list) 224 = .ok (.iconst 3, 1) := by decide +kernel
theorem d_LW_list_225 : decode (kB K_LW_list) 225 = .ok (.invokestatic 89, 3) := by decide +kernel
theorem d_LW_list_228 : decode (kB K_LW_list) 228 = .ok (.ifCond .ne 8, 3) := by decide +kernel
theorem d_LW_list_231 : decode (kB K_LW_list) 231 = .ok (.bipush 9, 2) := by decide +kernel
theorem d_LW_list_233 : decode (kB K_LW_list) 233 = .ok (.goto 4, 3) := by decide +kernel
theorem d_LW_list_236 : decode (kB K_LW_list) 236 = .ok (.iconst 3, 1) := by decide +kernel
theorem d_LW_list_237 : decode (kB K_LW_list) 237 = .ok (.invokestatic 89, 3) := by decide +kernel
theorem d_LW_list_240 : decode (kB K_LW_list) 240 = .ok (.iadd, 1) := by decide +kernel
theorem d_LW_list_241 : decode (kB K_LW_list) 241 = .ok (.iastore, 1) := by decide +kernel
theorem d_LW_list_242 : decode (kB K_LW_list) 242 = .ok (.dup, 1) := by decide +kernel
theorem d_LW_list_243 : decode (kB K_LW_list) 243 = .ok (.iconst 3, 1) := by decide +kernel
theorem d_LW_list_244 : decode (kB K_LW_list) 244 = .ok (.iconst 0, 1) := by decide +kernel
theorem d_LW_list_245 : decode (kB K_LW_list) 245 = .ok (.iastore, 1) := by decide +kernel
theorem d_LW_list_246 : decode (kB K_LW_list) 246 = .ok (.invokestatic 107, 3) := by decide +kernel
theorem d_LW_list_249 : decode (kB K_LW_list) 249 = .ok (.putfield 103, 3) := by decide +kernel
theorem d_LW_list_252 : decode (kB K_LW_list) 252 = .ok (.aload_n 1, 1) := by decide +kernel
theorem d_LW_list_253 : decode (kB K_LW_list) 253 = .ok (.ldc 111, 2) := by decide +kernel
theorem d_LW_list_255 : decode (kB K_LW_list) 255 = .ok (.invokevirtual 39, 3) := by decide +kernel
theorem d_LW_list_258 : decode (kB K_LW_list) 258 = .ok (.iload 6, 2) := by decide +kernel
theorem d_LW_list_260 : decode (kB K_LW_list) 260 = .ok (.invokevirtual 43, 3) := by decide +kernel
theorem d_LW_list_263 : decode (kB K_LW_list) 263 = .ok (.ldc 113, 2) := by decide +kernel
theorem d_LW_list_265 : decode (kB K_LW_list) 265 = .ok (.invokevirtual 39, 3) := by decide +kernel
theorem d_LW_list_268 : decode (kB K_LW_list) 268 = .ok (.iload 8, 2) := by decide +kernel
theorem d_LW_list_270 : decode (kB K_LW_list) 270 = .ok (.invokevirtual 43, 3) := by decide +kernel
theorem d_LW_list_273 : decode (kB K_LW_list) 273 = .ok (.ldc 115, 2) := by decide +kernel
theorem d_LW_list_275 : decode (kB K_LW_list) 275 = .ok (.invokevirtual 39, 3) := by decide +kernel
theorem d_LW_list_278 : decode (kB K_LW_list) 278 = .ok (.iload 9, 2) := by decide +kernel
theorem d_LW_list_280 : decode (kB K_LW_list) 280 = .ok (.invokevirtual 43, 3) := by decide +kernel
theorem d_LW_list_283 : decode (kB K_LW_list) 283 = .ok (.ldc 117, 2) := by decide +kernel
theorem d_LW_list_285 : decode (kB K_LW_list) 285 = .ok (.invokevirtual 39, 3) := by decide +kernel
theorem d_LW_list_288 : decode (kB K_LW_list) 288 = .ok (.aload_n 2, 1) := by decide +kernel
theorem d_LW_list_289 : decode (kB K_LW_list) 289 = .ok (.getfield 103, 3) := by decide +kernel
theorem d_LW_list_292 : decode (kB K_LW_list) 292 = .ok (.iload 6, 2) := by decide +kernel
theorem d_LW_list_294 : decode (kB K_LW_list) 294 = .ok (.aaload, 1) := by decide +kernel
theorem d_LW_list_295 : decode (kB K_LW_list) 295 = .ok (.iconst 2, 1) := by decide +kernel
theorem d_LW_list_296 : decode (kB K_LW_list) 296 = .ok (.iaload, 1) := by decide +kernel
theorem d_LW_list_297 : decode (kB K_LW_list) 297 = .ok (.invokevirtual 43, 3) := by decide +kernel
theorem d_LW_list_300 : decode (kB K_LW_list) 300 = .ok (.ldc 119, 2) := by decide +kernel
theorem d_LW_list_302 : decode (kB K_LW_list) 302 = .ok (.invokevirtual 39, 3) := by decide +kernel
theorem d_LW_list_305 : decode (kB K_LW_list) 305 = .ok (.pop, 1) := by decide +kernel
theorem d_LW_list_306 : decode (kB K_LW_list) 306 = .ok (.iinc 6 1, 3) := by decide +kernel
theorem d_LW_list_309 : decode (kB K_LW_list) 309 = .ok (.goto (-185), 3) := by decide +kernel
theorem d_LW_list_312 : decode (kB K_LW_list) 312 = .ok (.aload_n 2, 1) := by decide +kernel
theorem d_LW_list_313 : decode (kB K_LW_list) 313 = .ok (.iload 5, 2) := by decide +kernel
theorem d_LW_list_315 : decode (kB K_LW_list) 315 = .ok (.bipush 60, 2) := by decide +kernel
theorem d_LW_list_317 : decode (kB K_LW_list) 317 = .ok (.multianewarray 121 2, 4) := by decide +kernel
theorem d_LW_list_321 : decode (kB K_LW_list) 321 = .ok (.putfield 123, 3) := by decide +kernel
theorem d_LW_list_324 : decode (kB K_LW_list) 324 = .ok (.aload_n 0, 1) := by decide +kernel
theorem d_LW_list_325 : decode (kB K_LW_list) 325 = .ok (.bipush 6, 2) := by decide +kernel
theorem d_LW_list_327 : decode (kB K_LW_list) 327 = .ok (.invokestatic 83, 3) := by decide +kernel
theorem d_LW_list_330 : decode (kB K_LW_list) 330 = .ok (.bipush 11, 2) := by decide +kernel
theorem d_LW_list_332 : decode (kB K_LW_list) 332 = .ok (.invokestatic 89, 3) := by decide +kernel
theorem d_LW_list_335 : decode (kB K_LW_list) 335 = .ok (.istore 6, 2) := by decide +kernel
theorem d_LW_list_337 : decode (kB K_LW_list) 337 = .ok (.iload 6, 2) := by decide +kernel
theorem d_LW_list_339 : decode (kB K_LW_list) 339 = .ok (.ifCond .le 516, 3) := by decide +kernel
theorem d_LW_list_342 : decode (kB K_LW_list) 342 = .ok (.aload_n 0, 1) := by decide +kernel
theorem d_LW_list_343 : decode (kB K_LW_list) 343 = .ok (.bipush 7, 2) := by decide +kernel
theorem d_LW_list_345 : decode (kB K_LW_list) 345 = .ok (.invokestatic 83, 3) := by decide +kernel
theorem d_LW_list_348 : decode (kB K_LW_list) 348 = .ok (.iload 6, 2) := by decide +kernel
theorem d_LW_list_350 : decode (kB K_LW_list) 350 = .ok (.ishr, 1) := by decide +kernel
theorem d_LW_list_351 : decode (kB K_LW_list) 351 = .ok (.bipush 71, 2) := by decide +kernel
theorem d_LW_list_353 : decode (kB K_LW_list) 353 = .ok (.iload 6, 2) := by decide +kernel
theorem d_LW_list_355 : decode (kB K_LW_list) 355 = .ok (.imul, 1) := by decide +kernel
theorem d_LW_list_356 : decode (kB K_LW_list) 356 = .ok (.iadd, 1) := by decide +kernel
theorem d_LW_list_357 : decode (kB K_LW_list) 357 = .ok (.istore 7, 2) := by decide +kernel
theorem d_LW_list_359 : decode (kB K_LW_list) 359 = .ok (.iload 7, 2) := by decide +kernel
theorem d_LW_list_361 : decode (kB K_LW_list) 361 = .ok (.bipush 6, 2) := by decide +kernel
theorem d_LW_list_363 : decode (kB K_LW_list) 363 = .ok (.invokestatic 89, 3) := by decide +kernel
theorem d_LW_list_366 : decode (kB K_LW_list) 366 = .ok (.iconst 3, 1) := by decide +kernel
theorem d_LW_list_367 : decode (kB K_LW_list) 367 = .ok (.if_icmp .ge 7, 3) := by decide +kernel
theorem d_LW_list_370 : decode (kB K_LW_list) 370 = .ok (.iconst 3, 1) := by decide +kernel
theorem d_LW_list_371 : decode (kB K_LW_list) 371 = .ok (.goto 11, 3) := by decide +kernel
theorem d_LW_list_374 : decode (kB K_LW_list) 374 = .ok (.iload 7, 2) := by decide +kernel
theorem d_LW_list_376 : decode (kB K_LW_list) 376 = .ok (.iconst 2, 1) := by decide +kernel
theorem d_LW_list_377 : decode (kB K_LW_list) 377 = .ok (.ishr, 1) := by decide +kernel
theorem d_LW_list_378 : decode (kB K_LW_list) 378 = .ok (.iconst 3, 1) := by decide +kernel
theorem d_LW_list_379 : decode (kB K_LW_list) 379 = .ok (.invokestatic 89, 3) := by decide +kernel
theorem d_LW_list_382 : decode (kB K_LW_list) 382 = .ok (.istore 8, 2) := by decide +kernel
theorem d_LW_list_384 : decode (kB K_LW_list) 384 = .ok (.iload 7, 2) := by decide +kernel
theorem d_LW_list_386 : decode (kB K_LW_list) 386 = .ok (.iconst 3, 1) := by decide +kernel
theorem d_LW_list_387 : decode (kB K_LW_list) 387 = .ok (.ishr, 1) := by decide +kernel
theorem d_LW_list_388 : decode (kB K_LW_list) 388 = .ok (.iload_n 3, 1) := by decide +kernel
theorem d_LW_list_389 : decode (kB K_LW_list) 389 = .ok (.invokestatic 89, 3) := by decide +kernel
theorem d_LW_list_392 : decode (kB K_LW_list) 392 = .ok (.istore 9, 2) := by decide +kernel
theorem d_LW_list_394 : decode (kB K_LW_list) 394 = .ok (.iload 7, 2) := by decide +kernel
theorem d_LW_list_396 : decode (kB K_LW_list) 396 = .ok (.iconst 5, 1) := by decide +kernel
theorem d_LW_list_397 : decode (kB K_LW_list) 397 = .ok (.ishr, 1) := by decide +kernel
theorem d_LW_list_398 : decode (kB K_LW_list) 398 = .ok (.iload 4, 2) := by decide +kernel
theorem d_LW_list_400 : decode (kB K_LW_list) 400 = .ok (.invokestatic 89, 3) := by decide +kernel
theorem d_LW_list_403 : decode (kB K_LW_list) 403 = .ok (.istore 10, 2) := by decide +kernel
theorem d_LW_list_405 : decode (kB K_LW_list) 405 = .ok (.bipush 8, 2) := by decide +kernel
theorem d_LW_list_407 : decode (kB K_LW_list) 407 = .ok (.newarray .int, 2) := by decide +kernel
theorem d_LW_list_409 : decode (kB K_LW_list) 409 = .ok (.dup, 1) := by decide +kernel
theorem d_LW_list_410 : decode (kB K_LW_list) 410 = .ok (.iconst 0, 1) := by decide +kernel
theorem d_LW_list_411 : decode (kB K_LW_list) 411 = .ok (.iload 8, 2) := by decide +kernel
theorem d_LW_list_413 : decode (kB K_LW_list) 413 = .ok (.iastore, 1) := by decide +kernel
theorem d_LW_list_414 : decode (kB K_LW_list) 414 = .ok (.dup, 1) := by decide +kernel
theorem d_LW_list_415 : decode (kB K_LW_list) 415 = .ok (.iconst 1, 1) := by decide +kernel
theorem d_LW_list_416 : decode (kB K_LW_list) 416 = .ok (.iload 8, 2) := by decide +kernel
theorem d_LW_list_418 : decode (kB K_LW_list) 418 = .ok (.iconst 3, 1) := by decide +kernel
theorem d_LW_list_419 : decode (kB K_LW_list) 419 = .ok (.if_icmp .ne 15, 3) := by decide +kernel
theorem d_LW_list_422 : decode (kB K_LW_list) 422 = .ok (.iload 7, 2) := by decide +kernel
theorem d_LW_list_424 : decode (kB K_LW_list) 424 = .ok (.iconst 4, 1) := by decide +kernel
theorem d_LW_list_425 : decode (kB K_LW_list) 425 = .ok (.ishr, 1) := by decide +kernel
theorem d_LW_list_426 : decode (kB K_LW_list) 426 = .ok (.iload 5, 2) := by decide +kernel
theorem d_LW_list_428 : decode (kB K_LW_list) 428 = .ok (.invokestatic 89, 3) := by decide +kernel
theorem d_LW_list_431 : decode (kB K_LW_list) 431 = .ok (.goto 5, 3) := by decide +kernel
theorem d_LW_list_434 : decode (kB K_LW_list) 434 = .ok (.iload 9, 2) := by decide +kernel
theorem d_LW_list_436 : decode (kB K_LW_list) 436 = .ok (.iastore, 1) := by decide +kernel
theorem d_LW_list_437 : decode (kB K_LW_list) 437 = .ok (.dup, 1) := by decide +kernel
theorem d_LW_list_438 : decode (kB K_LW_list) 438 = .ok (.iconst 2, 1) := by decide +kernel
theorem d_LW_list_439 : decode (kB K_LW_list) 439 = .ok (.iload 10, 2) := by decide +kernel
theorem d_LW_list_441 : decode (kB K_LW_list) 441 = .ok (.iastore, 1) := by decide +kernel
theorem d_LW_list_442 : decode (kB K_LW_list) 442 = .ok (.dup, 1) := by decide +kernel
theorem d_LW_list_443 : decode (kB K_LW_list) 443 = .ok (.iconst 3, 1) := by decide +kernel
theorem d_LW_list_444 : decode (kB K_LW_list) 444 = .ok (.iload 7, 2) := by decide +kernel
theorem d_LW_list_446 : decode (kB K_LW_list) 446 = .ok (.bipush 6, 2) := by decide +kernel
theorem d_LW_list_448 : decode (kB K_LW_list) 448 = .ok (.ishr, 1) := by decide +kernel
theorem d_LW_list_449 : decode (kB K_LW_list) 449 = .ok (.iconst 3, 1) := by decide +kernel
theorem d_LW_list_450 : decode (kB K_LW_list) 450 = .ok (.invokestatic 89, 3) := by decide +kernel
theorem d_LW_list_453 : decode (kB K_LW_list) 453 = .ok (.iastore, 1) := by decide +kernel
theorem d_LW_list_454 : decode (kB K_LW_list) 454 = .ok (.dup, 1) := by decide +kernel
theorem d_LW_list_455 : decode (kB K_LW_list) 455 = .ok (.iconst 4, 1) := by decide +kernel
theorem d_LW_list_456 : decode (kB K_LW_list) 456 = .ok (.iload 7, 2) := by decide +kernel
theorem d_LW_list_458 : decode (kB K_LW_list) 458 = .ok (.bipush 7, 2) := by decide +kernel
theorem d_LW_list_460 : decode (kB K_LW_list) 460 = .ok (.ishr, 1) := by decide +kernel
theorem d_LW_list_461 : decode (kB K_LW_list) 461 = .ok (.bipush 16, 2) := by decide +kernel
theorem d_LW_list_463 : decode (kB K_LW_list) 463 = .ok (.invokestatic 89, 3) := by decide +kernel
theorem d_LW_list_466 : decode (kB K_LW_list) 466 = .ok (.iastore, 1) := by decide +kernel
theorem d_LW_list_467 : decode (kB K_LW_list) 467 = .ok (.dup, 1) := by decide +kernel
theorem d_LW_list_468 : decode (kB K_LW_list) 468 = .ok (.iconst 5, 1) := by decide +kernel
theorem d_LW_list_469 : decode (kB K_LW_list) 469 = .ok (.iload 7, 2) := by decide +kernel
theorem d_LW_list_471 : decode (kB K_LW_list) 471 = .ok (.bipush 8, 2) := by decide +kernel
theorem d_LW_list_473 : decode (kB K_LW_list) 473 = .ok (.ishr, 1) := by decide +kernel
theorem d_LW_list_474 : decode (kB K_LW_list) 474 = .ok (.bipush 6, 2) := by decide +kernel
theorem d_LW_list_476 : decode (kB K_LW_list) 476 = .ok (.invokestatic 89, 3) := by decide +kernel
theorem d_LW_list_479 : decode (kB K_LW_list) 479 = .ok (.iastore, 1) := by decide +kernel
theorem d_LW_list_480 : decode (kB K_LW_list) 480 = .ok (.dup, 1) := by decide +kernel
theorem d_LW_list_481 : decode (kB K_LW_list) 481 = .ok (.bipush 6, 2) := by decide +kernel
theorem d_LW_list_483 : decode (kB K_LW_list) 483 = .ok (.iload 7, 2) := by decide +kernel
theorem d_LW_list_485 : decode (kB K_LW_list) 485 = .ok (.iconst 2, 1) := by decide +kernel
theorem d_LW_list_486 : decode (kB K_LW_list) 486 = .ok (.ishr, 1) := by decide +kernel
theorem d_LW_list_487 : decode (kB K_LW_list) 487 = .ok (.iload_n 3, 1) := by decide +kernel
theorem d_LW_list_488 : decode (kB K_LW_list) 488 = .ok (.invokestatic 89, 3) := by decide +kernel
theorem d_LW_list_491 : decode (kB K_LW_list) 491 = .ok (.iastore, 1) := by decide +kernel
theorem d_LW_list_492 : decode (kB K_LW_list) 492 = .ok (.dup, 1) := by decide +kernel
theorem d_LW_list_493 : decode (kB K_LW_list) 493 = .ok (.bipush 7, 2) := by decide +kernel
theorem d_LW_list_495 : decode (kB K_LW_list) 495 = .ok (.iload 7, 2) := by decide +kernel
theorem d_LW_list_497 : decode (kB K_LW_list) 497 = .ok (.iconst 4, 1) := by decide +kernel
theorem d_LW_list_498 : decode (kB K_LW_list) 498 = .ok (.ishr, 1) := by decide +kernel
theorem d_LW_list_499 : decode (kB K_LW_list) 499 = .ok (.iload 4, 2) := by decide +kernel
theorem d_LW_list_501 : decode (kB K_LW_list) 501 = .ok (.invokestatic 89, 3) := by decide +kernel
theorem d_LW_list_504 : decode (kB K_LW_list) 504 = .ok (.iastore, 1) := by decide +kernel
theorem d_LW_list_505 : decode (kB K_LW_list) 505 = .ok (.astore 11, 2) := by decide +kernel
theorem d_LW_list_507 : decode (kB K_LW_list) 507 = .ok (.iload 8, 2) := by decide +kernel
theorem d_LW_list_509 : decode (kB K_LW_list) 509 = .ok (.iconst 2, 1) := by decide +kernel
theorem d_LW_list_510 : decode (kB K_LW_list) 510 = .ok (.if_icmp .ne 16, 3) := by decide +kernel
theorem d_LW_list_513 : decode (kB K_LW_list) 513 = .ok (.aload 11, 2) := by decide +kernel
theorem d_LW_list_515 : decode (kB K_LW_list) 515 = .ok (.iconst 4, 1) := by decide +kernel
theorem d_LW_list_516 : decode (kB K_LW_list) 516 = .ok (.iload 7, 2) := by decide +kernel
theorem d_LW_list_518 : decode (kB K_LW_list) 518 = .ok (.bipush 6, 2) := by decide +kernel
theorem d_LW_list_520 : decode (kB K_LW_list) 520 = .ok (.ishr, 1) := by decide +kernel
theorem d_LW_list_521 : decode (kB K_LW_list) 521 = .ok (.iconst 3, 1) := by decide +kernel
theorem d_LW_list_522 : decode (kB K_LW_list) 522 = .ok (.invokestatic 89, 3) := by decide +kernel
theorem d_LW_list_525 : decode (kB K_LW_list) 525 = .ok (.iastore, 1) := by decide +kernel
theorem d_LW_list_526 : decode (kB K_LW_list) 526 = .ok (.iload 8, 2) := by decide +kernel
theorem d_LW_list_528 : decode (kB K_LW_list) 528 = .ok (.iconst 2, 1) := by decide +kernel
theorem d_LW_list_529 : decode (kB K_LW_list) 529 = .ok (.if_icmp .ge 15, 3) := by decide +kernel
theorem d_LW_list_532 : decode (kB K_LW_list) 532 = .ok (.aload 11, 2) := by decide +kernel
theorem d_LW_list_534 : decode (kB K_LW_list) 534 = .ok (.iconst 5, 1) := by decide +kernel
theorem d_LW_list_535 : decode (kB K_LW_list) 535 = .ok (.iaload, 1) := by decide +kernel
theorem d_LW_list_536 : decode (kB K_LW_list) 536 = .ok (.ifCond .ne 8, 3) := by decide +kernel
theorem d_LW_list_539 : decode (kB K_LW_list) 539 = .ok (.aload 11, 2) := by decide +kernel
theorem d_LW_list_541 : decode (kB K_LW_list) 541 = .ok (.iconst 5, 1) := by decide +kernel
theorem d_LW_list_542 : decode (kB K_LW_list) 542 = .ok (.iconst 5, 1) := by decide +kernel
theorem d_LW_list_543 : decode (kB K_LW_list) 543 = .ok (.iastore, 1) := by decide +kernel
theorem d_LW_list_544 : decode (kB K_LW_list) 544 = .ok (.aload 11, 2) := by decide +kernel
theorem d_LW_list_546 : decode (kB K_LW_list) 546 = .ok (.iconst 5, 1) := by decide +kernel
theorem d_LW_list_547 : decode (kB K_LW_list) 547 = .ok (.iaload, 1) := by decide +kernel
theorem d_LW_list_548 : decode (kB K_LW_list) 548 = .ok (.iconst 3, 1) := by decide +kernel
theorem d_LW_list_549 : decode (kB K_LW_list) 549 = .ok (.if_icmp .ne 20, 3) := by decide +kernel
theorem d_LW_list_552 : decode (kB K_LW_list) 552 = .ok (.aload 11, 2) := by decide +kernel
theorem d_LW_list_554 : decode (kB K_LW_list) 554 = .ok (.bipush 6, 2) := by decide +kernel
theorem d_LW_list_556 : decode (kB K_LW_list) 556 = .ok (.iconst 2, 1) := by decide +kernel
theorem d_LW_list_557 : decode (kB K_LW_list) 557 = .ok (.iload 7, 2) := by decide +kernel
theorem d_LW_list_559 : decode (kB K_LW_list) 559 = .ok (.bipush 9, 2) := by decide +kernel
theorem d_LW_list_561 : decode (kB K_LW_list) 561 = .ok (.ishr, 1) := by decide +kernel
theorem d_LW_list_562 : decode (kB K_LW_list) 562 = .ok (.bipush 7, 2) := by decide +kernel
theorem d_LW_list_564 : decode (kB K_LW_list) 564 = .ok (.invokestatic 89, 3) := by decide +kernel
theorem d_LW_list_567 : decode (kB K_LW_list) 567 = .ok (.iadd, 1) := by decide +kernel
theorem d_LW_list_568 : decode (kB K_LW_list) 568 = .ok (.iastore, 1) := by decide +kernel
theorem d_LW_list_569 : decode (kB K_LW_list) 569 = .ok (.aload 11, 2) := by decide +kernel
theorem d_LW_list_571 : decode (kB K_LW_list) 571 = .ok (.iconst 5, 1) := by decide +kernel
theorem d_LW_list_572 : decode (kB K_LW_list) 572 = .ok (.iaload, 1) := by decide +kernel
theorem d_LW_list_573 : decode (kB K_LW_list) 573 = .ok (.iconst 3, 1) := by decide +kernel
theorem d_LW_list_574 : decode (kB K_LW_list) 574 = .ok (.if_icmp .ne 20, 3) := by decide +kernel
theorem d_LW_list_577 : decode (kB K_LW_list) 577 = .ok (.aload 11, 2) := by decide +kernel
theorem d_LW_list_579 : decode (kB K_LW_list) 579 = .ok (.bipush 7, 2) := by decide +kernel
theorem d_LW_list_581 : decode (kB K_LW_list) 581 = .ok (.iload 7, 2) := by decide +kernel
theorem d_LW_list_583 : decode (kB K_LW_list) 583 = .ok (.iconst 4, 1) := by decide +kernel
theorem d_LW_list_584 : decode (kB K_LW_list) 584 = .ok (.ishr, 1) := by decide +kernel
theorem d_LW_list_585 : decode (kB K_LW_list) 585 = .ok (.aload 11, 2) := by decide +kernel
theorem d_LW_list_587 : decode (kB K_LW_list) 587 = .ok (.bipush 6, 2) := by decide +kernel
theorem d_LW_list_589 : decode (kB K_LW_list) 589 = .ok (.iaload, 1) := by decide +kernel
theorem d_LW_list_590 : decode (kB K_LW_list) 590 = .ok (.invokestatic 89, 3) := by decide +kernel
theorem d_LW_list_593 : decode (kB K_LW_list) 593 = .ok (.iastore, 1) := by decide +kernel
theorem d_LW_list_594 : decode (kB K_LW_list) 594 = .ok (.aload 11, 2) := by decide +kernel
theorem d_LW_list_596 : decode (kB K_LW_list) 596 = .ok (.iconst 5, 1) := by decide +kernel
theorem d_LW_list_597 : decode (kB K_LW_list) 597 = .ok (.iaload, 1) := by decide +kernel
theorem d_LW_list_598 : decode (kB K_LW_list) 598 = .ok (.iconst 4, 1) := by decide +kernel
theorem d_LW_list_599 : decode (kB K_LW_list) 599 = .ok (.if_icmp .ne 17, 3) := by decide +kernel
theorem d_LW_list_602 : decode (kB K_LW_list) 602 = .ok (.aload 11, 2) := by decide +kernel
theorem d_LW_list_604 : decode (kB K_LW_list) 604 = .ok (.bipush 7, 2) := by decide +kernel
theorem d_LW_list_606 : decode (kB K_LW_list) 606 = .ok (.iload 7, 2) := by decide +kernel
theorem d_LW_list_608 : decode (kB K_LW_list) 608 = .ok (.bipush 9, 2) := by decide +kernel
theorem d_LW_list_610 : decode (kB K_LW_list) 610 = .ok (.ishr, 1) := by decide +kernel
theorem d_LW_list_611 : decode (kB K_LW_list) 611 = .ok (.iconst 3, 1) := by decide +kernel
theorem d_LW_list_612 : decode (kB K_LW_list) 612 = .ok (.invokestatic 89, 3) := by decide +kernel
theorem d_LW_list_615 : decode (kB K_LW_list) 615 = .ok (.iastore, 1) := by decide +kernel
theorem d_LW_list_616 : decode (kB K_LW_list) 616 = .ok (.new 34, 3) := by decide +kernel
theorem d_LW_list_619 : decode (kB K_LW_list) 619 = .ok (.dup, 1) := by decide +kernel
theorem d_LW_list_620 : decode (kB K_LW_list) 620 = .ok (.invokespecial 36, 3) := by decide +kernel
theorem d_LW_list_623 : decode (kB K_LW_list) 623 = .ok (.ldc 126, 2) := by decide +kernel
theorem d_LW_list_625 : decode (kB K_LW_list) 625 = .ok (.invokevirtual 39, 3) := by decide +kernel
theorem d_LW_list_628 : decode (kB K_LW_list) 628 = .ok (.iload 9, 2) := by decide +kernel
theorem d_LW_list_630 : decode (kB K_LW_list) 630 = .ok (.invokevirtual 43, 3) := by decide +kernel
theorem d_LW_list_633 : decode (kB K_LW_list) 633 = .ok (.ldc 46, 2) := by decide +kernel
theorem d_LW_list_635 : decode (kB K_LW_list) 635 = .ok (.invokevirtual 39, 3) := by decide +kernel
theorem d_LW_list_638 : decode (kB K_LW_list) 638 = .ok (.iload 10, 2) := by decide +kernel
theorem d_LW_list_640 : decode (kB K_LW_list) 640 = .ok (.invokevirtual 43, 3) := by decide +kernel
theorem d_LW_list_643 : decode (kB K_LW_list) 643 = .ok (.invokevirtual 48, 3) := by decide +kernel
theorem d_LW_list_646 : decode (kB K_LW_list) 646 = .ok (.astore 12, 2) := by decide +kernel
theorem d_LW_list_648 : decode (kB K_LW_list) 648 = .ok (.iconst 3, 1) := by decide +kernel
theorem d_LW_list_649 : decode (kB K_LW_list) 649 = .ok (.anewarray 16, 3) := by decide +kernel
theorem d_LW_list_652 : decode (kB K_LW_list) 652 = .ok (.dup, 1) := by decide +kernel
theorem d_LW_list_653 : decode (kB K_LW_list) 653 = .ok (.iconst 0, 1) := by decide +kernel
theorem d_LW_list_654 : decode (kB K_LW_list) 654 = .ok (.ldc 128, 2) := by decide +kernel
theorem d_LW_list_656 : decode (kB K_LW_list) 656 = .ok (.aastore, 1) := by decide +kernel
theorem d_LW_list_657 : decode (kB K_LW_list) 657 = .ok (.dup, 1) := by decide +kernel
theorem d_LW_list_658 : decode (kB K_LW_list) 658 = .ok (.iconst 1, 1) := by decide +kernel
theorem d_LW_list_659 : decode (kB K_LW_list) 659 = .ok (.ldc 130, 2) := by decide +kernel
theorem d_LW_list_661 : decode (kB K_LW_list) 661 = .ok (.aastore, 1) := by decide +kernel
theorem d_LW_list_662 : decode (kB K_LW_list) 662 = .ok (.dup, 1) := by decide +kernel
theorem d_LW_list_663 : decode (kB K_LW_list) 663 = .ok (.iconst 2, 1) := by decide +kernel
theorem d_LW_list_664 : decode (kB K_LW_list) 664 = .ok (.ldc 132, 2) := by decide +kernel
theorem d_LW_list_666 : decode (kB K_LW_list) 666 = .ok (.aastore, 1) := by decide +kernel
theorem d_LW_list_667 : decode (kB K_LW_list) 667 = .ok (.astore 13, 2) := by decide +kernel
theorem d_LW_list_669 : decode (kB K_LW_list) 669 = .ok (.aload_n 1, 1) := by decide +kernel
theorem d_LW_list_670 : decode (kB K_LW_list) 670 = .ok (.iload 8, 2) := by decide +kernel
theorem d_LW_list_672 : decode (kB K_LW_list) 672 = .ok (.iconst 3, 1) := by decide +kernel
theorem d_LW_list_673 : decode (kB K_LW_list) 673 = .ok (.if_icmp .ne 28, 3) := by decide +kernel
theorem d_LW_list_676 : decode (kB K_LW_list) 676 = .ok (.new 34, 3) := by decide +kernel
theorem d_LW_list_679 : decode (kB K_LW_list) 679 = .ok (.dup, 1) := by decide +kernel
theorem d_LW_list_680 : decode (kB K_LW_list) 680 = .ok (.invokespecial 36, 3) := by decide +kernel
theorem d_LW_list_683 : decode (kB K_LW_list) 683 = .ok (.ldc 134, 2) := by decide +kernel
theorem d_LW_list_685 : decode (kB K_LW_list) 685 = .ok (.invokevirtual 39, 3) := by decide +kernel
theorem d_LW_list_688 : decode (kB K_LW_list) 688 = .ok (.aload 11, 2) := by decide +kernel
theorem d_LW_list_690 : decode (kB K_LW_list) 690 = .ok (.iconst 1, 1) := by decide +kernel
theorem d_LW_list_691 : decode (kB K_LW_list) 691 = .ok (.iaload, 1) := by decide +kernel
theorem d_LW_list_692 : decode (kB K_LW_list) 692 = .ok (.invokevirtual 43, 3) := by decide +kernel
theorem d_LW_list_695 : decode (kB K_LW_list) 695 = .ok (.invokevirtual 48, 3) := by decide +kernel
theorem d_LW_list_698 : decode (kB K_LW_list) 698 = .ok (.goto 121, 3) := by decide +kernel
theorem d_LW_list_701 : decode (kB K_LW_list) 701 = .ok (.iload 8, 2) := by decide +kernel
theorem d_LW_list_703 : decode (kB K_LW_list) 703 = .ok (.iconst 2, 1) := by decide +kernel
theorem d_LW_list_704 : decode (kB K_LW_list) 704 = .ok (.if_icmp .ne 41, 3) := by decide +kernel
theorem d_LW_list_707 : decode (kB K_LW_list) 707 = .ok (.new 34, 3) := by decide +kernel
theorem d_LW_list_710 : decode (kB K_LW_list) 710 = .ok (.dup, 1) := by decide +kernel
theorem d_LW_list_711 : decode (kB K_LW_list) 711 = .ok (.invokespecial 36, 3) := by decide +kernel
theorem d_LW_list_714 : decode (kB K_LW_list) 714 = .ok (.ldc 136, 2) := by decide +kernel
theorem d_LW_list_716 : decode (kB K_LW_list) 716 = .ok (.invokevirtual 39, 3) := by decide +kernel
theorem d_LW_list_719 : decode (kB K_LW_list) 719 = .ok (.aload 12, 2) := by decide +kernel
theorem d_LW_list_721 : decode (kB K_LW_list) 721 = .ok (.invokevirtual 39, 3) := by decide +kernel
theorem d_LW_list_724 : decode (kB K_LW_list) 724 = .ok (.ldc 138, 2) := by decide +kernel
theorem d_LW_list_726 : decode (kB K_LW_list) 726 = .ok (.invokevirtual 39, 3) := by decide +kernel
theorem d_LW_list_729 : decode (kB K_LW_list) 729 = .ok (.aload 13, 2) := by decide +kernel
theorem d_LW_list_731 : decode (kB K_LW_list) 731 = .ok (.aload 11, 2) := by decide +kernel
theorem d_LW_list_733 : decode (kB K_LW_list) 733 = .ok (.iconst 4, 1) := by decide +kernel
theorem d_LW_list_734 : decode (kB K_LW_list) 734 = .ok (.iaload, 1) := by decide +kernel
theorem d_LW_list_735 : decode (kB K_LW_list) 735 = .ok (.aaload, 1) := by decide +kernel
theorem d_LW_list_736 : decode (kB K_LW_list) 736 = .ok (.invokevirtual 39, 3) := by decide +kernel
theorem d_LW_list_739 : decode (kB K_LW_list) 739 = .ok (.invokevirtual 48, 3) := by decide +kernel
theorem d_LW_list_742 : decode (kB K_LW_list) 742 = .ok (.goto 77, 3) := by decide +kernel
theorem d_LW_list_745 : decode (kB K_LW_list) 745 = .ok (.iload 8, 2) := by decide +kernel
theorem d_LW_list_747 : decode (kB K_LW_list) 747 = .ok (.ifCond .ne 39, 3) := by decide +kernel
theorem d_LW_list_750 : decode (kB K_LW_list) 750 = .ok (.new 34, 3) := by decide +kernel
theorem d_LW_list_753 : decode (kB K_LW_list) 753 = .ok (.dup, 1) := by decide +kernel
theorem d_LW_list_754 : decode (kB K_LW_list) 754 = .ok (.invokespecial 36, 3) := by decide +kernel
theorem d_LW_list_757 : decode (kB K_LW_list) 757 = .ok (.ldc 140, 2) := by decide +kernel
theorem d_LW_list_759 : decode (kB K_LW_list) 759 = .ok (.invokevirtual 39, 3) := by decide +kernel
theorem d_LW_list_762 : decode (kB K_LW_list) 762 = .ok (.aload 12, 2) := by decide +kernel
theorem d_LW_list_764 : decode (kB K_LW_list) 764 = .ok (.invokevirtual 39, 3) := by decide +kernel
theorem d_LW_list_767 : decode (kB K_LW_list) 767 = .ok (.ldc 142, 2) := by decide +kernel
theorem d_LW_list_769 : decode (kB K_LW_list) 769 = .ok (.invokevirtual 39, 3) := by decide +kernel
theorem d_LW_list_772 : decode (kB K_LW_list) 772 = .ok (.aload 11, 2) := by decide +kernel
theorem d_LW_list_774 : decode (kB K_LW_list) 774 = .ok (.invokestatic 144, 3) := by decide +kernel
theorem d_LW_list_777 : decode (kB K_LW_list) 777 = .ok (.invokevirtual 39, 3) := by decide +kernel
theorem d_LW_list_780 : decode (kB K_LW_list) 780 = .ok (.invokevirtual 48, 3) := by decide +kernel
theorem d_LW_list_783 : decode (kB K_LW_list) 783 = .ok (.goto 36, 3) := by decide +kernel
theorem d_LW_list_786 : decode (kB K_LW_list) 786 = .ok (.new 34, 3) := by decide +kernel
theorem d_LW_list_789 : decode (kB K_LW_list) 789 = .ok (.dup, 1) := by decide +kernel
theorem d_LW_list_790 : decode (kB K_LW_list) 790 = .ok (.invokespecial 36, 3) := by decide +kernel
theorem d_LW_list_793 : decode (kB K_LW_list) 793 = .ok (.ldc 147, 2) := by decide +kernel
theorem d_LW_list_795 : decode (kB K_LW_list) 795 = .ok (.invokevirtual 39, 3) := by decide +kernel
theorem d_LW_list_798 : decode (kB K_LW_list) 798 = .ok (.aload 12, 2) := by decide +kernel
theorem d_LW_list_800 : decode (kB K_LW_list) 800 = .ok (.invokevirtual 39, 3) := by decide +kernel
theorem d_LW_list_803 : decode (kB K_LW_list) 803 = .ok (.ldc 149, 2) := by decide +kernel
theorem d_LW_list_805 : decode (kB K_LW_list) 805 = .ok (.invokevirtual 39, 3) := by decide +kernel
theorem d_LW_list_808 : decode (kB K_LW_list) 808 = .ok (.aload 11, 2) := by decide +kernel
theorem d_LW_list_810 : decode (kB K_LW_list) 810 = .ok (.invokestatic 144, 3) := by decide +kernel
theorem d_LW_list_813 : decode (kB K_LW_list) 813 = .ok (.invokevirtual 39, 3) := by decide +kernel
theorem d_LW_list_816 : decode (kB K_LW_list) 816 = .ok (.invokevirtual 48, 3) := by decide +kernel
theorem d_LW_list_819 : decode (kB K_LW_list) 819 = .ok (.invokevirtual 39, 3) := by decide +kernel
theorem d_LW_list_822 : decode (kB K_LW_list) 822 = .ok (.aload 11, 2) := by decide +kernel
theorem d_LW_list_824 : decode (kB K_LW_list) 824 = .ok (.invokestatic 151, 3) := by decide +kernel
theorem d_LW_list_827 : decode (kB K_LW_list) 827 = .ok (.invokevirtual 39, 3) := by decide +kernel
theorem d_LW_list_830 : decode (kB K_LW_list) 830 = .ok (.ldc 119, 2) := by decide +kernel
theorem d_LW_list_832 : decode (kB K_LW_list) 832 = .ok (.invokevirtual 39, 3) := by decide +kernel
theorem d_LW_list_835 : decode (kB K_LW_list) 835 = .ok (.pop, 1) := by decide +kernel
theorem d_LW_list_836 : decode (kB K_LW_list) 836 = .ok (.aload_n 2, 1) := by decide +kernel
theorem d_LW_list_837 : decode (kB K_LW_list) 837 = .ok (.aload_n 2, 1) := by decide +kernel
theorem d_LW_list_838 : decode (kB K_LW_list) 838 = .ok (.getfield 154, 3) := by decide +kernel
theorem d_LW_list_841 : decode (kB K_LW_list) 841 = .ok (.aload 11, 2) := by decide +kernel
theorem d_LW_list_843 : decode (kB K_LW_list) 843 = .ok (.invokestatic 107, 3) := by decide +kernel
theorem d_LW_list_846 : decode (kB K_LW_list) 846 = .ok (.putfield 154, 3) := by decide +kernel
theorem d_LW_list_849 : decode (kB K_LW_list) 849 = .ok (.iinc 6 (-1), 3) := by decide +kernel
theorem d_LW_list_852 : decode (kB K_LW_list) 852 = .ok (.goto (-515), 3) := by decide +kernel
theorem d_LW_list_855 : decode (kB K_LW_list) 855 = .ok (.aload_n 2, 1) := by decide +kernel
theorem d_LW_list_856 : decode (kB K_LW_list) 856 = .ok (.areturn, 1) := by decide +kernel
def K_LW_act : KM := (⟨"ParishBoardsLaw", "act", "(LParishBoards;LParishBoardsLaw$Sim;I)Z"⟩, method_8_code, 10, (some (.boolean)), "ParishBoardsLaw", ([], [(36, 318, 321, 190)]))
theorem d_LW_act_0 : decode (kB K_LW_act) 0 = .ok (.iload_n 2, 1) := by decide +kernel
theorem d_LW_act_1 : decode (kB K_LW_act) 1 = .ok (.iconst 3, 1) := by decide +kernel
theorem d_LW_act_2 : decode (kB K_LW_act) 2 = .ok (.ishr, 1) := by decide +kernel
theorem d_LW_act_3 : decode (kB K_LW_act) 3 = .ok (.aload_n 1, 1) := by decide +kernel
theorem d_LW_act_4 : decode (kB K_LW_act) 4 = .ok (.getfield 157, 3) := by decide +kernel
theorem d_LW_act_7 : decode (kB K_LW_act) 7 = .ok (.invokestatic 89, 3) := by decide +kernel
theorem d_LW_act_10 : decode (kB K_LW_act) 10 = .ok (.istore_n 3, 1) := by decide +kernel
theorem d_LW_act_11 : decode (kB K_LW_act) 11 = .ok (.iload_n 2, 1) := by decide +kernel
theorem d_LW_act_12 : decode (kB K_LW_act) 12 = .ok (.iconst 5, 1) := by decide +kernel
theorem d_LW_act_13 : decode (kB K_LW_act) 13 = .ok (.ishr, 1) := by decide +kernel
theorem d_LW_act_14 : decode (kB K_LW_act) 14 = .ok (.aload_n 1, 1) := by decide +kernel
theorem d_LW_act_15 : decode (kB K_LW_act) 15 = .ok (.getfield 161, 3) := by decide +kernel
theorem d_LW_act_18 : decode (kB K_LW_act) 18 = .ok (.invokestatic 89, 3) := by decide +kernel
theorem d_LW_act_21 : decode (kB K_LW_act) 21 = .ok (.istore 4, 2) := by decide +kernel
theorem d_LW_act_23 : decode (kB K_LW_act) 23 = .ok (.iload_n 2, 1) := by decide +kernel
theorem d_LW_act_24 : decode (kB K_LW_act) 24 = .ok (.iconst 4, 1) := by decide +kernel
theorem d_LW_act_25 : decode (kB K_LW_act) 25 = .ok (.ishr, 1) := by decide +kernel
theorem d_LW_act_26 : decode (kB K_LW_act) 26 = .ok (.aload_n 1, 1) := by decide +kernel
theorem d_LW_act_27 : decode (kB K_LW_act) 27 = .ok (.getfield 103, 3) := by decide +kernel
theorem d_LW_act_30 : decode (kB K_LW_act) 30 = .ok (.arraylength, 1) := by decide +kernel
theorem d_LW_act_31 : decode (kB K_LW_act) 31 = .ok (.invokestatic 89, 3) := by decide +kernel
theorem d_LW_act_34 : decode (kB K_LW_act) 34 = .ok (.istore 5, 2) := by decide +kernel
theorem d_LW_act_36 : decode (kB K_LW_act) 36 = .ok (.iload_n 2, 1) := by decide +kernel
theorem d_LW_act_37 : decode (kB K_LW_act) 37 = .ok (.bipush 11, 2) := by decide +kernel
theorem d_LW_act_39 : decode (kB K_LW_act) 39 = .ok (.invokestatic 89, 3) := by decide +kernel
theorem d_LW_act_42 : decode (kB K_LW_act) 42 = .ok (.tableswitch 237 0 8 #[50, 50, 50, 91, 130, 130, 167, 167, 186], 50) := by decide +kernel
theorem d_LW_act_92 : decode (kB K_LW_act) 92 = .ok (.aload_n 1, 1) := by decide +kernel
theorem d_LW_act_93 : decode (kB K_LW_act) 93 = .ok (.iload_n 3, 1) := by decide +kernel
theorem d_LW_act_94 : decode (kB K_LW_act) 94 = .ok (.iload 4, 2) := by decide +kernel
theorem d_LW_act_96 : decode (kB K_LW_act) 96 = .ok (.iload_n 2, 1) := by decide +kernel
theorem d_LW_act_97 : decode (kB K_LW_act) 97 = .ok (.bipush 6, 2) := by decide +kernel
theorem d_LW_act_99 : decode (kB K_LW_act) 99 = .ok (.ishr, 1) := by decide +kernel
theorem d_LW_act_100 : decode (kB K_LW_act) 100 = .ok (.sipush 10000, 3) := by decide +kernel
theorem d_LW_act_103 : decode (kB K_LW_act) 103 = .ok (.invokestatic 89, 3) := by decide +kernel
theorem d_LW_act_106 : decode (kB K_LW_act) 106 = .ok (.invokevirtual 164, 3) := by decide +kernel
theorem d_LW_act_109 : decode (kB K_LW_act) 109 = .ok (.istore 6, 2) := by decide +kernel
theorem d_LW_act_111 : decode (kB K_LW_act) 111 = .ok (.aload_n 0, 1) := by decide +kernel
theorem d_LW_act_112 : decode (kB K_LW_act) 112 = .ok (.iload_n 3, 1) := by decide +kernel
theorem d_LW_act_113 : decode (kB K_LW_act) 113 = .ok (.iload 4, 2) := by decide +kernel
theorem d_LW_act_115 : decode (kB K_LW_act) 115 = .ok (.iload_n 2, 1) := by decide +kernel
theorem d_LW_act_116 : decode (kB K_LW_act) 116 = .ok (.bipush 6, 2) := by decide +kernel
theorem d_LW_act_118 : decode (kB K_LW_act) 118 = .ok (.ishr, 1) := by decide +kernel
theorem d_LW_act_119 : decode (kB K_LW_act) 119 = .ok (.sipush 10000, 3) := by decide +kernel
theorem d_LW_act_122 : decode (kB K_LW_act) 122 = .ok (.invokestatic 89, 3) := by decide +kernel
theorem d_LW_act_125 : decode (kB K_LW_act) 125 = .ok (.invokevirtual 167, 3) := by decide +kernel
theorem d_LW_act_128 : decode (kB K_LW_act) 128 = .ok (.istore 7, 2) := by decide +kernel
theorem d_LW_act_130 : decode (kB K_LW_act) 130 = .ok (.goto 188, 3) := by decide +kernel
theorem d_LW_act_133 : decode (kB K_LW_act) 133 = .ok (.aload_n 1, 1) := by decide +kernel
theorem d_LW_act_134 : decode (kB K_LW_act) 134 = .ok (.iload_n 3, 1) := by decide +kernel
theorem d_LW_act_135 : decode (kB K_LW_act) 135 = .ok (.iload 4, 2) := by decide +kernel
theorem d_LW_act_137 : decode (kB K_LW_act) 137 = .ok (.iload_n 2, 1) := by decide +kernel
theorem d_LW_act_138 : decode (kB K_LW_act) 138 = .ok (.bipush 6, 2) := by decide +kernel
theorem d_LW_act_140 : decode (kB K_LW_act) 140 = .ok (.ishr, 1) := by decide +kernel
theorem d_LW_act_141 : decode (kB K_LW_act) 141 = .ok (.bipush 16, 2) := by decide +kernel
theorem d_LW_act_143 : decode (kB K_LW_act) 143 = .ok (.invokestatic 89, 3) := by decide +kernel
theorem d_LW_act_146 : decode (kB K_LW_act) 146 = .ok (.invokevirtual 168, 3) := by decide +kernel
theorem d_LW_act_149 : decode (kB K_LW_act) 149 = .ok (.istore 6, 2) := by decide +kernel
theorem d_LW_act_151 : decode (kB K_LW_act) 151 = .ok (.aload_n 0, 1) := by decide +kernel
theorem d_LW_act_152 : decode (kB K_LW_act) 152 = .ok (.iload_n 3, 1) := by decide +kernel
theorem d_LW_act_153 : decode (kB K_LW_act) 153 = .ok (.iload 4, 2) := by decide +kernel
theorem d_LW_act_155 : decode (kB K_LW_act) 155 = .ok (.iload_n 2, 1) := by decide +kernel
theorem d_LW_act_156 : decode (kB K_LW_act) 156 = .ok (.bipush 6, 2) := by decide +kernel
theorem d_LW_act_158 : decode (kB K_LW_act) 158 = .ok (.ishr, 1) := by decide +kernel
theorem d_LW_act_159 : decode (kB K_LW_act) 159 = .ok (.bipush 16, 2) := by decide +kernel
theorem d_LW_act_161 : decode (kB K_LW_act) 161 = .ok (.invokestatic 89, 3) := by decide +kernel
theorem d_LW_act_164 : decode (kB K_LW_act) 164 = .ok (.invokevirtual 170, 3) := by decide +kernel
theorem d_LW_act_167 : decode (kB K_LW_act) 167 = .ok (.istore 7, 2) := by decide +kernel
theorem d_LW_act_169 : decode (kB K_LW_act) 169 = .ok (.goto 149, 3) := by decide +kernel
theorem d_LW_act_172 : decode (kB K_LW_act) 172 = .ok (.aload_n 1, 1) := by decide +kernel
theorem d_LW_act_173 : decode (kB K_LW_act) 173 = .ok (.iload_n 3, 1) := by decide +kernel
theorem d_LW_act_174 : decode (kB K_LW_act) 174 = .ok (.iload 4, 2) := by decide +kernel
theorem d_LW_act_176 : decode (kB K_LW_act) 176 = .ok (.iload_n 2, 1) := by decide +kernel
theorem d_LW_act_177 : decode (kB K_LW_act) 177 = .ok (.bipush 6, 2) := by decide +kernel
theorem d_LW_act_179 : decode (kB K_LW_act) 179 = .ok (.ishr, 1) := by decide +kernel
theorem d_LW_act_180 : decode (kB K_LW_act) 180 = .ok (.iconst 3, 1) := by decide +kernel
theorem d_LW_act_181 : decode (kB K_LW_act) 181 = .ok (.invokestatic 89, 3) := by decide +kernel
theorem d_LW_act_184 : decode (kB K_LW_act) 184 = .ok (.invokevirtual 171, 3) := by decide +kernel
theorem d_LW_act_187 : decode (kB K_LW_act) 187 = .ok (.istore 6, 2) := by decide +kernel
theorem d_LW_act_189 : decode (kB K_LW_act) 189 = .ok (.aload_n 0, 1) := by decide +kernel
theorem d_LW_act_190 : decode (kB K_LW_act) 190 = .ok (.iload_n 3, 1) := by decide +kernel
theorem d_LW_act_191 : decode (kB K_LW_act) 191 = .ok (.iload 4, 2) := by decide +kernel
theorem d_LW_act_193 : decode (kB K_LW_act) 193 = .ok (.iload_n 2, 1) := by decide +kernel
theorem d_LW_act_194 : decode (kB K_LW_act) 194 = .ok (.bipush 6, 2) := by decide +kernel
theorem d_LW_act_196 : decode (kB K_LW_act) 196 = .ok (.ishr, 1) := by decide +kernel
theorem d_LW_act_197 : decode (kB K_LW_act) 197 = .ok (.iconst 3, 1) := by decide +kernel
theorem d_LW_act_198 : decode (kB K_LW_act) 198 = .ok (.invokestatic 89, 3) := by decide +kernel
theorem d_LW_act_201 : decode (kB K_LW_act) 201 = .ok (.invokevirtual 173, 3) := by decide +kernel
theorem d_LW_act_204 : decode (kB K_LW_act) 204 = .ok (.istore 7, 2) := by decide +kernel
theorem d_LW_act_206 : decode (kB K_LW_act) 206 = .ok (.goto 112, 3) := by decide +kernel
theorem d_LW_act_209 : decode (kB K_LW_act) 209 = .ok (.aload_n 1, 1) := by decide +kernel
theorem d_LW_act_210 : decode (kB K_LW_act) 210 = .ok (.iload 5, 2) := by decide +kernel
theorem d_LW_act_212 : decode (kB K_LW_act) 212 = .ok (.invokevirtual 174, 3) := by decide +kernel
theorem d_LW_act_215 : decode (kB K_LW_act) 215 = .ok (.istore 6, 2) := by decide +kernel
theorem d_LW_act_217 : decode (kB K_LW_act) 217 = .ok (.aload_n 0, 1) := by decide +kernel
theorem d_LW_act_218 : decode (kB K_LW_act) 218 = .ok (.iload 5, 2) := by decide +kernel
theorem d_LW_act_220 : decode (kB K_LW_act) 220 = .ok (.invokevirtual 177, 3) := by decide +kernel
theorem d_LW_act_223 : decode (kB K_LW_act) 223 = .ok (.istore 7, 2) := by decide +kernel
theorem d_LW_act_225 : decode (kB K_LW_act) 225 = .ok (.goto 93, 3) := by decide +kernel
theorem d_LW_act_228 : decode (kB K_LW_act) 228 = .ok (.aload_n 1, 1) := by decide +kernel
theorem d_LW_act_229 : decode (kB K_LW_act) 229 = .ok (.getfield 103, 3) := by decide +kernel
theorem d_LW_act_232 : decode (kB K_LW_act) 232 = .ok (.iload 5, 2) := by decide +kernel
theorem d_LW_act_234 : decode (kB K_LW_act) 234 = .ok (.aaload, 1) := by decide +kernel
theorem d_LW_act_235 : decode (kB K_LW_act) 235 = .ok (.iconst 2, 1) := by decide +kernel
theorem d_LW_act_236 : decode (kB K_LW_act) 236 = .ok (.iaload, 1) := by decide +kernel
theorem d_LW_act_237 : decode (kB K_LW_act) 237 = .ok (.istore 6, 2) := by decide +kernel
theorem d_LW_act_239 : decode (kB K_LW_act) 239 = .ok (.aload_n 1, 1) := by decide +kernel
theorem d_LW_act_240 : decode (kB K_LW_act) 240 = .ok (.getfield 103, 3) := by decide +kernel
theorem d_LW_act_243 : decode (kB K_LW_act) 243 = .ok (.iload 5, 2) := by decide +kernel
theorem d_LW_act_245 : decode (kB K_LW_act) 245 = .ok (.aaload, 1) := by decide +kernel
theorem d_LW_act_246 : decode (kB K_LW_act) 246 = .ok (.iconst 2, 1) := by decide +kernel
theorem d_LW_act_247 : decode (kB K_LW_act) 247 = .ok (.iconst 1, 1) := by decide +kernel
theorem d_LW_act_248 : decode (kB K_LW_act) 248 = .ok (.iload_n 2, 1) := by decide +kernel
theorem d_LW_act_249 : decode (kB K_LW_act) 249 = .ok (.bipush 7, 2) := by decide +kernel
theorem d_LW_act_251 : decode (kB K_LW_act) 251 = .ok (.ishr, 1) := by decide +kernel
theorem d_LW_act_252 : decode (kB K_LW_act) 252 = .ok (.bipush 9, 2) := by decide +kernel
theorem d_LW_act_254 : decode (kB K_LW_act) 254 = .ok (.invokestatic 89, 3) := by decide +kernel
theorem d_LW_act_257 : decode (kB K_LW_act) 257 = .ok (.iadd, 1) := by decide +kernel
theorem d_LW_act_258 : decode (kB K_LW_act) 258 = .ok (.iastore, 1) := by decide +kernel
theorem d_LW_act_259 : decode (kB K_LW_act) 259 = .ok (.aload_n 0, 1) := by decide +kernel
theorem d_LW_act_260 : decode (kB K_LW_act) 260 = .ok (.iload 5, 2) := by decide +kernel
theorem d_LW_act_262 : decode (kB K_LW_act) 262 = .ok (.aload_n 1, 1) := by decide +kernel
theorem d_LW_act_263 : decode (kB K_LW_act) 263 = .ok (.getfield 103, 3) := by decide +kernel
theorem d_LW_act_266 : decode (kB K_LW_act) 266 = .ok (.iload 5, 2) := by decide +kernel
theorem d_LW_act_268 : decode (kB K_LW_act) 268 = .ok (.aaload, 1) := by decide +kernel
theorem d_LW_act_269 : decode (kB K_LW_act) 269 = .ok (.iconst 2, 1) := by decide +kernel
theorem d_LW_act_270 : decode (kB K_LW_act) 270 = .ok (.iaload, 1) := by decide +kernel
theorem d_LW_act_271 : decode (kB K_LW_act) 271 = .ok (.invokevirtual 178, 3) := by decide +kernel
theorem d_LW_act_274 : decode (kB K_LW_act) 274 = .ok (.istore 7, 2) := by decide +kernel
theorem d_LW_act_276 : decode (kB K_LW_act) 276 = .ok (.goto 42, 3) := by decide +kernel
theorem d_LW_act_279 : decode (kB K_LW_act) 279 = .ok (.iconst 1, 1) := by decide +kernel
theorem d_LW_act_280 : decode (kB K_LW_act) 280 = .ok (.iload_n 2, 1) := by decide +kernel
theorem d_LW_act_281 : decode (kB K_LW_act) 281 = .ok (.iconst 4, 1) := by decide +kernel
theorem d_LW_act_282 : decode (kB K_LW_act) 282 = .ok (.ishr, 1) := by decide +kernel
theorem d_LW_act_283 : decode (kB K_LW_act) 283 = .ok (.iconst 5, 1) := by decide +kernel
theorem d_LW_act_284 : decode (kB K_LW_act) 284 = .ok (.invokestatic 89, 3) := by decide +kernel
theorem d_LW_act_287 : decode (kB K_LW_act) 287 = .ok (.iadd, 1) := by decide +kernel
theorem d_LW_act_288 : decode (kB K_LW_act) 288 = .ok (.istore 8, 2) := by decide +kernel
theorem d_LW_act_290 : decode (kB K_LW_act) 290 = .ok (.aload_n 1, 1) := by decide +kernel
theorem d_LW_act_291 : decode (kB K_LW_act) 291 = .ok (.getfield 181, 3) := by decide +kernel
theorem d_LW_act_294 : decode (kB K_LW_act) 294 = .ok (.istore 9, 2) := by decide +kernel
theorem d_LW_act_296 : decode (kB K_LW_act) 296 = .ok (.aload_n 1, 1) := by decide +kernel
theorem d_LW_act_297 : decode (kB K_LW_act) 297 = .ok (.iload 8, 2) := by decide +kernel
theorem d_LW_act_299 : decode (kB K_LW_act) 299 = .ok (.invokevirtual 184, 3) := by decide +kernel
theorem d_LW_act_302 : decode (kB K_LW_act) 302 = .ok (.getfield 181, 3) := by decide +kernel
theorem d_LW_act_305 : decode (kB K_LW_act) 305 = .ok (.iload 9, 2) := by decide +kernel
theorem d_LW_act_307 : decode (kB K_LW_act) 307 = .ok (.isub, 1) := by decide +kernel
theorem d_LW_act_308 : decode (kB K_LW_act) 308 = .ok (.istore 6, 2) := by decide +kernel
theorem d_LW_act_310 : decode (kB K_LW_act) 310 = .ok (.aload_n 0, 1) := by decide +kernel
theorem d_LW_act_311 : decode (kB K_LW_act) 311 = .ok (.iload 8, 2) := by decide +kernel
theorem d_LW_act_313 : decode (kB K_LW_act) 313 = .ok (.invokevirtual 188, 3) := by decide +kernel
theorem d_LW_act_316 : decode (kB K_LW_act) 316 = .ok (.istore 7, 2) := by decide +kernel
theorem d_LW_act_318 : decode (kB K_LW_act) 318 = .ok (.goto 24, 3) := by decide +kernel
theorem d_LW_act_321 : decode (kB K_LW_act) 321 = .ok (.astore 8, 2) := by decide +kernel
theorem d_LW_act_323 : decode (kB K_LW_act) 323 = .ok (.aload_n 1, 1) := by decide +kernel
theorem d_LW_act_324 : decode (kB K_LW_act) 324 = .ok (.getfield 192, 3) := by decide +kernel
theorem d_LW_act_327 : decode (kB K_LW_act) 327 = .ok (.arraylength, 1) := by decide +kernel
theorem d_LW_act_328 : decode (kB K_LW_act) 328 = .ok (.aload_n 0, 1) := by decide +kernel
theorem d_LW_act_329 : decode (kB K_LW_act) 329 = .ok (.iconst 5, 1) := by decide +kernel
theorem d_LW_act_330 : decode (kB K_LW_act) 330 = .ok (.invokevirtual 195, 3) := by decide +kernel
theorem d_LW_act_333 : decode (kB K_LW_act) 333 = .ok (.if_icmp .ne 7, 3) := by decide +kernel
theorem d_LW_act_336 : decode (kB K_LW_act) 336 = .ok (.iconst 1, 1) := by decide +kernel
theorem d_LW_act_337 : decode (kB K_LW_act) 337 = .ok (.goto 4, 3) := by decide +kernel
theorem d_LW_act_340 : decode (kB K_LW_act) 340 = .ok (.iconst 0, 1) := by decide +kernel
theorem d_LW_act_341 : decode (kB K_LW_act) 341 = .ok (.ireturn, 1) := by decide +kernel
theorem d_LW_act_342 : decode (kB K_LW_act) 342 = .ok (.iload 6, 2) := by decide +kernel
theorem d_LW_act_344 : decode (kB K_LW_act) 344 = .ok (.iload 7, 2) := by decide +kernel
theorem d_LW_act_346 : decode (kB K_LW_act) 346 = .ok (.if_icmp .ne 7, 3) := by decide +kernel
theorem d_LW_act_349 : decode (kB K_LW_act) 349 = .ok (.iconst 1, 1) := by decide +kernel
theorem d_LW_act_350 : decode (kB K_LW_act) 350 = .ok (.goto 4, 3) := by decide +kernel
theorem d_LW_act_353 : decode (kB K_LW_act) 353 = .ok (.iconst 0, 1) := by decide +kernel
theorem d_LW_act_354 : decode (kB K_LW_act) 354 = .ok (.ireturn, 1) := by decide +kernel
def K_LW_law : KM := (⟨"ParishBoardsLaw", "law", "([I)Z"⟩, code, 25, (some (.boolean)), "ParishBoardsLaw", ([], []))
theorem d_LW_law_0 : decode (kB K_LW_law) 0 = .ok (.new 34, 3) := by decide +kernel
theorem d_LW_law_3 : decode (kB K_LW_law) 3 = .ok (.dup, 1) := by decide +kernel
theorem d_LW_law_4 : decode (kB K_LW_law) 4 = .ok (.invokespecial 36, 3) := by decide +kernel
theorem d_LW_law_7 : decode (kB K_LW_law) 7 = .ok (.astore_n 1, 1) := by decide +kernel
theorem d_LW_law_8 : decode (kB K_LW_law) 8 = .ok (.aload_n 0, 1) := by decide +kernel
theorem d_LW_law_9 : decode (kB K_LW_law) 9 = .ok (.aload_n 1, 1) := by decide +kernel
theorem d_LW_law_10 : decode (kB K_LW_law) 10 = .ok (.invokestatic 198, 3) := by decide +kernel
theorem d_LW_law_13 : decode (kB K_LW_law) 13 = .ok (.astore_n 2, 1) := by decide +kernel
theorem d_LW_law_14 : decode (kB K_LW_law) 14 = .ok (.new 10, 3) := by decide +kernel
theorem d_LW_law_17 : decode (kB K_LW_law) 17 = .ok (.dup, 1) := by decide +kernel
theorem d_LW_law_18 : decode (kB K_LW_law) 18 = .ok (.invokespecial 202, 3) := by decide +kernel
theorem d_LW_law_21 : decode (kB K_LW_law) 21 = .ok (.astore_n 3, 1) := by decide +kernel
theorem d_LW_law_22 : decode (kB K_LW_law) 22 = .ok (.aload_n 3, 1) := by decide +kernel
theorem d_LW_law_23 : decode (kB K_LW_law) 23 = .ok (.aload_n 1, 1) := by decide +kernel
theorem d_LW_law_24 : decode (kB K_LW_law) 24 = .ok (.invokevirtual 48, 3) := by decide +kernel
theorem d_LW_law_27 : decode (kB K_LW_law) 27 = .ok (.invokestatic 203, 3) := by decide +kernel
theorem d_LW_law_30 : decode (kB K_LW_law) 30 = .ok (.ifCond .eq 5, 3) := by decide +kernel
theorem d_LW_law_33 : decode (kB K_LW_law) 33 = .ok (.iconst 0, 1) := by decide +kernel
theorem d_LW_law_34 : decode (kB K_LW_law) 34 = .ok (.ireturn, 1) := by decide +kernel
theorem d_LW_law_35 : decode (kB K_LW_law) 35 = .ok (.bipush 12, 2) := by decide +kernel
theorem d_LW_law_37 : decode (kB K_LW_law) 37 = .ok (.newarray .int, 2) := by decide +kernel
theorem d_LW_law_39 : decode (kB K_LW_law) 39 = .ok (.astore 4, 2) := by decide +kernel
theorem d_LW_law_41 : decode (kB K_LW_law) 41 = .ok (.iconst 0, 1) := by decide +kernel
theorem d_LW_law_42 : decode (kB K_LW_law) 42 = .ok (.istore 5, 2) := by decide +kernel
theorem d_LW_law_44 : decode (kB K_LW_law) 44 = .ok (.iload 5, 2) := by decide +kernel
theorem d_LW_law_46 : decode (kB K_LW_law) 46 = .ok (.bipush 9, 2) := by decide +kernel
theorem d_LW_law_48 : decode (kB K_LW_law) 48 = .ok (.if_icmp .ge 1052, 3) := by decide +kernel
theorem d_LW_law_51 : decode (kB K_LW_law) 51 = .ok (.aload_n 0, 1) := by decide +kernel
theorem d_LW_law_52 : decode (kB K_LW_law) 52 = .ok (.iload 5, 2) := by decide +kernel
theorem d_LW_law_54 : decode (kB K_LW_law) 54 = .ok (.iconst 2, 1) := by decide +kernel
theorem d_LW_law_55 : decode (kB K_LW_law) 55 = .ok (.iadd, 1) := by decide +kernel
theorem d_LW_law_56 : decode (kB K_LW_law) 56 = .ok (.invokestatic 83, 3) := by decide +kernel
theorem d_LW_law_59 : decode (kB K_LW_law) 59 = .ok (.iconst 1, 1) := by decide +kernel
theorem d_LW_law_60 : decode (kB K_LW_law) 60 = .ok (.ishr, 1) := by decide +kernel
theorem d_LW_law_61 : decode (kB K_LW_law) 61 = .ok (.bipush 67, 2) := by decide +kernel
theorem d_LW_law_63 : decode (kB K_LW_law) 63 = .ok (.iload 5, 2) := by decide +kernel
theorem d_LW_law_65 : decode (kB K_LW_law) 65 = .ok (.imul, 1) := by decide +kernel
theorem d_LW_law_66 : decode (kB K_LW_law) 66 = .ok (.iadd, 1) := by decide +kernel
theorem d_LW_law_67 : decode (kB K_LW_law) 67 = .ok (.istore 6, 2) := by decide +kernel
theorem d_LW_law_69 : decode (kB K_LW_law) 69 = .ok (.iconst 0, 1) := by decide +kernel
theorem d_LW_law_70 : decode (kB K_LW_law) 70 = .ok (.istore 7, 2) := by decide +kernel
theorem d_LW_law_72 : decode (kB K_LW_law) 72 = .ok (.iload 7, 2) := by decide +kernel
theorem d_LW_law_74 : decode (kB K_LW_law) 74 = .ok (.iconst 2, 1) := by decide +kernel
theorem d_LW_law_75 : decode (kB K_LW_law) 75 = .ok (.if_icmp .ge 32, 3) := by decide +kernel
theorem d_LW_law_78 : decode (kB K_LW_law) 78 = .ok (.aload_n 3, 1) := by decide +kernel
theorem d_LW_law_79 : decode (kB K_LW_law) 79 = .ok (.aload_n 2, 1) := by decide +kernel
theorem d_LW_law_80 : decode (kB K_LW_law) 80 = .ok (.iload 6, 2) := by decide +kernel
theorem d_LW_law_82 : decode (kB K_LW_law) 82 = .ok (.iconst 3, 1) := by decide +kernel
theorem d_LW_law_83 : decode (kB K_LW_law) 83 = .ok (.iload 7, 2) := by decide +kernel
theorem d_LW_law_85 : decode (kB K_LW_law) 85 = .ok (.imul, 1) := by decide +kernel
theorem d_LW_law_86 : decode (kB K_LW_law) 86 = .ok (.ishr, 1) := by decide +kernel
theorem d_LW_law_87 : decode (kB K_LW_law) 87 = .ok (.bipush 29, 2) := by decide +kernel
theorem d_LW_law_89 : decode (kB K_LW_law) 89 = .ok (.iload 7, 2) := by decide +kernel
theorem d_LW_law_91 : decode (kB K_LW_law) 91 = .ok (.imul, 1) := by decide +kernel
theorem d_LW_law_92 : decode (kB K_LW_law) 92 = .ok (.iadd, 1) := by decide +kernel
theorem d_LW_law_93 : decode (kB K_LW_law) 93 = .ok (.invokestatic 207, 3) := by decide +kernel
theorem d_LW_law_96 : decode (kB K_LW_law) 96 = .ok (.ifCond .ne 5, 3) := by decide +kernel
theorem d_LW_law_99 : decode (kB K_LW_law) 99 = .ok (.iconst 0, 1) := by decide +kernel
theorem d_LW_law_100 : decode (kB K_LW_law) 100 = .ok (.ireturn, 1) := by decide +kernel
theorem d_LW_law_101 : decode (kB K_LW_law) 101 = .ok (.iinc 7 1, 3) := by decide +kernel
theorem d_LW_law_104 : decode (kB K_LW_law) 104 = .ok (.goto (-32), 3) := by decide +kernel
theorem d_LW_law_107 : decode (kB K_LW_law) 107 = .ok (.aload_n 3, 1) := by decide +kernel
theorem d_LW_law_108 : decode (kB K_LW_law) 108 = .ok (.invokevirtual 211, 3) := by decide +kernel
theorem d_LW_law_111 : decode (kB K_LW_law) 111 = .ok (.lstore 7, 2) := by decide +kernel
theorem d_LW_law_113 : decode (kB K_LW_law) 113 = .ok (.aload_n 3, 1) := by decide +kernel
theorem d_LW_law_114 : decode (kB K_LW_law) 114 = .ok (.iconst 1, 1) := by decide +kernel
theorem d_LW_law_115 : decode (kB K_LW_law) 115 = .ok (.invokevirtual 195, 3) := by decide +kernel
theorem d_LW_law_118 : decode (kB K_LW_law) 118 = .ok (.istore 9, 2) := by decide +kernel
theorem d_LW_law_120 : decode (kB K_LW_law) 120 = .ok (.aload_n 3, 1) := by decide +kernel
theorem d_LW_law_121 : decode (kB K_LW_law) 121 = .ok (.iconst 5, 1) := by decide +kernel
theorem d_LW_law_122 : decode (kB K_LW_law) 122 = .ok (.invokevirtual 195, 3) := by decide +kernel
theorem d_LW_law_125 : decode (kB K_LW_law) 125 = .ok (.istore 10, 2) := by decide +kernel
theorem d_LW_law_127 : decode (kB K_LW_law) 127 = .ok (.iconst 4, 1) := by decide +kernel
theorem d_LW_law_128 : decode (kB K_LW_law) 128 = .ok (.newarray .int, 2) := by decide +kernel
theorem d_LW_law_130 : decode (kB K_LW_law) 130 = .ok (.dup, 1) := by decide +kernel
theorem d_LW_law_131 : decode (kB K_LW_law) 131 = .ok (.iconst 0, 1) := by decide +kernel
theorem d_LW_law_132 : decode (kB K_LW_law) 132 = .ok (.iconst 5, 1) := by decide +kernel
theorem d_LW_law_133 : decode (kB K_LW_law) 133 = .ok (.iastore, 1) := by decide +kernel
theorem d_LW_law_134 : decode (kB K_LW_law) 134 = .ok (.dup, 1) := by decide +kernel
theorem d_LW_law_135 : decode (kB K_LW_law) 135 = .ok (.iconst 1, 1) := by decide +kernel
theorem d_LW_law_136 : decode (kB K_LW_law) 136 = .ok (.bipush 9, 2) := by decide +kernel
theorem d_LW_law_138 : decode (kB K_LW_law) 138 = .ok (.iastore, 1) := by decide +kernel
theorem d_LW_law_139 : decode (kB K_LW_law) 139 = .ok (.dup, 1) := by decide +kernel
theorem d_LW_law_140 : decode (kB K_LW_law) 140 = .ok (.iconst 2, 1) := by decide +kernel
theorem d_LW_law_141 : decode (kB K_LW_law) 141 = .ok (.bipush 10, 2) := by decide +kernel
theorem d_LW_law_143 : decode (kB K_LW_law) 143 = .ok (.iastore, 1) := by decide +kernel
theorem d_LW_law_144 : decode (kB K_LW_law) 144 = .ok (.dup, 1) := by decide +kernel
theorem d_LW_law_145 : decode (kB K_LW_law) 145 = .ok (.iconst 3, 1) := by decide +kernel
theorem d_LW_law_146 : decode (kB K_LW_law) 146 = .ok (.bipush 11, 2) := by decide +kernel
theorem d_LW_law_148 : decode (kB K_LW_law) 148 = .ok (.iastore, 1) := by decide +kernel
theorem d_LW_law_149 : decode (kB K_LW_law) 149 = .ok (.astore 11, 2) := by decide +kernel
theorem d_LW_law_151 : decode (kB K_LW_law) 151 = .ok (.aload 11, 2) := by decide +kernel
theorem d_LW_law_153 : decode (kB K_LW_law) 153 = .ok (.astore 12, 2) := by decide +kernel
theorem d_LW_law_155 : decode (kB K_LW_law) 155 = .ok (.aload 12, 2) := by decide +kernel
theorem d_LW_law_157 : decode (kB K_LW_law) 157 = .ok (.arraylength, 1) := by decide +kernel
theorem d_LW_law_158 : decode (kB K_LW_law) 158 = .ok (.istore 13, 2) := by decide +kernel
theorem d_LW_law_160 : decode (kB K_LW_law) 160 = .ok (.iconst 0, 1) := by decide +kernel
theorem d_LW_law_161 : decode (kB K_LW_law) 161 = .ok (.istore 14, 2) := by decide +kernel
theorem d_LW_law_163 : decode (kB K_LW_law) 163 = .ok (.iload 14, 2) := by decide +kernel
theorem d_LW_law_165 : decode (kB K_LW_law) 165 = .ok (.iload 13, 2) := by decide +kernel
theorem d_LW_law_167 : decode (kB K_LW_law) 167 = .ok (.if_icmp .ge 43, 3) := by decide +kernel
theorem d_LW_law_170 : decode (kB K_LW_law) 170 = .ok (.aload 12, 2) := by decide +kernel
theorem d_LW_law_172 : decode (kB K_LW_law) 172 = .ok (.iload 14, 2) := by decide +kernel
theorem d_LW_law_174 : decode (kB K_LW_law) 174 = .ok (.iaload, 1) := by decide +kernel
theorem d_LW_law_175 : decode (kB K_LW_law) 175 = .ok (.istore 15, 2) := by decide +kernel
theorem d_LW_law_177 : decode (kB K_LW_law) 177 = .ok (.aload_n 3, 1) := by decide +kernel
theorem d_LW_law_178 : decode (kB K_LW_law) 178 = .ok (.iload 15, 2) := by decide +kernel
theorem d_LW_law_180 : decode (kB K_LW_law) 180 = .ok (.invokevirtual 195, 3) := by decide +kernel
theorem d_LW_law_183 : decode (kB K_LW_law) 183 = .ok (.aload 4, 2) := by decide +kernel
theorem d_LW_law_185 : decode (kB K_LW_law) 185 = .ok (.iload 15, 2) := by decide +kernel
theorem d_LW_law_187 : decode (kB K_LW_law) 187 = .ok (.iaload, 1) := by decide +kernel
theorem d_LW_law_188 : decode (kB K_LW_law) 188 = .ok (.if_icmp .ge 5, 3) := by decide +kernel
theorem d_LW_law_191 : decode (kB K_LW_law) 191 = .ok (.iconst 0, 1) := by decide +kernel
theorem d_LW_law_192 : decode (kB K_LW_law) 192 = .ok (.ireturn, 1) := by decide +kernel
theorem d_LW_law_193 : decode (kB K_LW_law) 193 = .ok (.aload 4, 2) := by decide +kernel
theorem d_LW_law_195 : decode (kB K_LW_law) 195 = .ok (.iload 15, 2) := by decide +kernel
theorem d_LW_law_197 : decode (kB K_LW_law) 197 = .ok (.aload_n 3, 1) := by decide +kernel
theorem d_LW_law_198 : decode (kB K_LW_law) 198 = .ok (.iload 15, 2) := by decide +kernel
theorem d_LW_law_200 : decode (kB K_LW_law) 200 = .ok (.invokevirtual 195, 3) := by decide +kernel
theorem d_LW_law_203 : decode (kB K_LW_law) 203 = .ok (.iastore, 1) := by decide +kernel
theorem d_LW_law_204 : decode (kB K_LW_law) 204 = .ok (.iinc 14 1, 3) := by decide +kernel
theorem d_LW_law_207 : decode (kB K_LW_law) 207 = .ok (.goto (-44), 3) := by decide +kernel
theorem d_LW_law_210 : decode (kB K_LW_law) 210 = .ok (.iconst 0, 1) := by decide +kernel
theorem d_LW_law_211 : decode (kB K_LW_law) 211 = .ok (.istore 12, 2) := by decide +kernel
theorem d_LW_law_213 : decode (kB K_LW_law) 213 = .ok (.iconst 0, 1) := by decide +kernel
theorem d_LW_law_214 : decode (kB K_LW_law) 214 = .ok (.istore 13, 2) := by decide +kernel
theorem d_LW_law_216 : decode (kB K_LW_law) 216 = .ok (.iconst 0, 1) := by decide +kernel
theorem d_LW_law_217 : decode (kB K_LW_law) 217 = .ok (.istore 14, 2) := by decide +kernel
theorem d_LW_law_219 : decode (kB K_LW_law) 219 = .ok (.iconst 0, 1) := by decide +kernel
theorem d_LW_law_220 : decode (kB K_LW_law) 220 = .ok (.istore 15, 2) := by decide +kernel
theorem d_LW_law_222 : decode (kB K_LW_law) 222 = .ok (.iload 15, 2) := by decide +kernel
theorem d_LW_law_224 : decode (kB K_LW_law) 224 = .ok (.iload 9, 2) := by decide +kernel
theorem d_LW_law_226 : decode (kB K_LW_law) 226 = .ok (.if_icmp .ge 451, 3) := by decide +kernel
theorem d_LW_law_229 : decode (kB K_LW_law) 229 = .ok (.iconst 0, 1) := by decide +kernel
theorem d_LW_law_230 : decode (kB K_LW_law) 230 = .ok (.istore 16, 2) := by decide +kernel
theorem d_LW_law_232 : decode (kB K_LW_law) 232 = .ok (.iconst 0, 1) := by decide +kernel
theorem d_LW_law_233 : decode (kB K_LW_law) 233 = .ok (.istore 17, 2) := by decide +kernel
theorem d_LW_law_235 : decode (kB K_LW_law) 235 = .ok (.iload 17, 2) := by decide +kernel
theorem d_LW_law_237 : decode (kB K_LW_law) 237 = .ok (.iload 9, 2) := by decide +kernel
theorem d_LW_law_239 : decode (kB K_LW_law) 239 = .ok (.if_icmp .ge 67, 3) := by decide +kernel
theorem d_LW_law_242 : decode (kB K_LW_law) 242 = .ok (.iload 16, 2) := by decide +kernel
theorem d_LW_law_244 : decode (kB K_LW_law) 244 = .ok (.aload_n 3, 1) := by decide +kernel
theorem d_LW_law_245 : decode (kB K_LW_law) 245 = .ok (.iload 15, 2) := by decide +kernel
theorem d_LW_law_247 : decode (kB K_LW_law) 247 = .ok (.iload 17, 2) := by decide +kernel
theorem d_LW_law_249 : decode (kB K_LW_law) 249 = .ok (.invokevirtual 215, 3) := by decide +kernel
theorem d_LW_law_252 : decode (kB K_LW_law) 252 = .ok (.iadd, 1) := by decide +kernel
theorem d_LW_law_253 : decode (kB K_LW_law) 253 = .ok (.istore 16, 2) := by decide +kernel
theorem d_LW_law_255 : decode (kB K_LW_law) 255 = .ok (.aload_n 3, 1) := by decide +kernel
theorem d_LW_law_256 : decode (kB K_LW_law) 256 = .ok (.iload 15, 2) := by decide +kernel
theorem d_LW_law_258 : decode (kB K_LW_law) 258 = .ok (.iload 17, 2) := by decide +kernel
theorem d_LW_law_260 : decode (kB K_LW_law) 260 = .ok (.invokevirtual 215, 3) := by decide +kernel
theorem d_LW_law_263 : decode (kB K_LW_law) 263 = .ok (.aload_n 3, 1) := by decide +kernel
theorem d_LW_law_264 : decode (kB K_LW_law) 264 = .ok (.iload 17, 2) := by decide +kernel
theorem d_LW_law_266 : decode (kB K_LW_law) 266 = .ok (.iconst 4, 1) := by decide +kernel
theorem d_LW_law_267 : decode (kB K_LW_law) 267 = .ok (.invokevirtual 218, 3) := by decide +kernel
theorem d_LW_law_270 : decode (kB K_LW_law) 270 = .ok (.if_icmp .gt 28, 3) := by decide +kernel
theorem d_LW_law_273 : decode (kB K_LW_law) 273 = .ok (.iload 15, 2) := by decide +kernel
theorem d_LW_law_275 : decode (kB K_LW_law) 275 = .ok (.iload 17, 2) := by decide +kernel
theorem d_LW_law_277 : decode (kB K_LW_law) 277 = .ok (.if_icmp .ne 23, 3) := by decide +kernel
theorem d_LW_law_280 : decode (kB K_LW_law) 280 = .ok (.aload_n 3, 1) := by decide +kernel
theorem d_LW_law_281 : decode (kB K_LW_law) 281 = .ok (.iload 15, 2) := by decide +kernel
theorem d_LW_law_283 : decode (kB K_LW_law) 283 = .ok (.iload 17, 2) := by decide +kernel
theorem d_LW_law_285 : decode (kB K_LW_law) 285 = .ok (.invokevirtual 215, 3) := by decide +kernel
theorem d_LW_law_288 : decode (kB K_LW_law) 288 = .ok (.aload_n 3, 1) := by decide +kernel
theorem d_LW_law_289 : decode (kB K_LW_law) 289 = .ok (.iload 17, 2) := by decide +kernel
theorem d_LW_law_291 : decode (kB K_LW_law) 291 = .ok (.iconst 4, 1) := by decide +kernel
theorem d_LW_law_292 : decode (kB K_LW_law) 292 = .ok (.invokevirtual 218, 3) := by decide +kernel
theorem d_LW_law_295 : decode (kB K_LW_law) 295 = .ok (.if_icmp .eq 5, 3) := by decide +kernel
theorem d_LW_law_298 : decode (kB K_LW_law) 298 = .ok (.iconst 0, 1) := by decide +kernel
theorem d_LW_law_299 : decode (kB K_LW_law) 299 = .ok (.ireturn, 1) := by decide +kernel
theorem d_LW_law_300 : decode (kB K_LW_law) 300 = .ok (.iinc 17 1, 3) := by decide +kernel
theorem d_LW_law_303 : decode (kB K_LW_law) 303 = .ok (.goto (-68), 3) := by decide +kernel
theorem d_LW_law_306 : decode (kB K_LW_law) 306 = .ok (.iload 16, 2) := by decide +kernel
theorem d_LW_law_308 : decode (kB K_LW_law) 308 = .ok (.aload_n 3, 1) := by decide +kernel
theorem d_LW_law_309 : decode (kB K_LW_law) 309 = .ok (.iload 15, 2) := by decide +kernel
theorem d_LW_law_311 : decode (kB K_LW_law) 311 = .ok (.iconst 0, 1) := by decide +kernel
theorem d_LW_law_312 : decode (kB K_LW_law) 312 = .ok (.invokevirtual 218, 3) := by decide +kernel
theorem d_LW_law_315 : decode (kB K_LW_law) 315 = .ok (.if_icmp .ne 35, 3) := by decide +kernel
theorem d_LW_law_318 : decode (kB K_LW_law) 318 = .ok (.iload 16, 2) := by decide +kernel
theorem d_LW_law_320 : decode (kB K_LW_law) 320 = .ok (.aload_n 3, 1) := by decide +kernel
theorem d_LW_law_321 : decode (kB K_LW_law) 321 = .ok (.iload 15, 2) := by decide +kernel
theorem d_LW_law_323 : decode (kB K_LW_law) 323 = .ok (.iconst 1, 1) := by decide +kernel
theorem d_LW_law_324 : decode (kB K_LW_law) 324 = .ok (.invokevirtual 218, 3) := by decide +kernel
theorem d_LW_law_327 : decode (kB K_LW_law) 327 = .ok (.iadd, 1) := by decide +kernel
theorem d_LW_law_328 : decode (kB K_LW_law) 328 = .ok (.iload 10, 2) := by decide +kernel
theorem d_LW_law_330 : decode (kB K_LW_law) 330 = .ok (.if_icmp .gt 20, 3) := by decide +kernel
theorem d_LW_law_333 : decode (kB K_LW_law) 333 = .ok (.aload_n 3, 1) := by decide +kernel
theorem d_LW_law_334 : decode (kB K_LW_law) 334 = .ok (.iload 15, 2) := by decide +kernel
theorem d_LW_law_336 : decode (kB K_LW_law) 336 = .ok (.iconst 3, 1) := by decide +kernel
theorem d_LW_law_337 : decode (kB K_LW_law) 337 = .ok (.invokevirtual 218, 3) := by decide +kernel
theorem d_LW_law_340 : decode (kB K_LW_law) 340 = .ok (.aload_n 3, 1) := by decide +kernel
theorem d_LW_law_341 : decode (kB K_LW_law) 341 = .ok (.iload 15, 2) := by decide +kernel
theorem d_LW_law_343 : decode (kB K_LW_law) 343 = .ok (.iconst 2, 1) := by decide +kernel
theorem d_LW_law_344 : decode (kB K_LW_law) 344 = .ok (.invokevirtual 218, 3) := by decide +kernel
theorem d_LW_law_347 : decode (kB K_LW_law) 347 = .ok (.if_icmp .le 5, 3) := by decide +kernel
theorem d_LW_law_350 : decode (kB K_LW_law) 350 = .ok (.iconst 0, 1) := by decide +kernel
theorem d_LW_law_351 : decode (kB K_LW_law) 351 = .ok (.ireturn, 1) := by decide +kernel
theorem d_LW_law_352 : decode (kB K_LW_law) 352 = .ok (.iload 12, 2) := by decide +kernel
theorem d_LW_law_354 : decode (kB K_LW_law) 354 = .ok (.iload 16, 2) := by decide +kernel
theorem d_LW_law_356 : decode (kB K_LW_law) 356 = .ok (.iadd, 1) := by decide +kernel
theorem d_LW_law_357 : decode (kB K_LW_law) 357 = .ok (.istore 12, 2) := by decide +kernel
theorem d_LW_law_359 : decode (kB K_LW_law) 359 = .ok (.iload 13, 2) := by decide +kernel
theorem d_LW_law_361 : decode (kB K_LW_law) 361 = .ok (.aload_n 3, 1) := by decide +kernel
theorem d_LW_law_362 : decode (kB K_LW_law) 362 = .ok (.iload 15, 2) := by decide +kernel
theorem d_LW_law_364 : decode (kB K_LW_law) 364 = .ok (.iconst 1, 1) := by decide +kernel
theorem d_LW_law_365 : decode (kB K_LW_law) 365 = .ok (.invokevirtual 218, 3) := by decide +kernel
theorem d_LW_law_368 : decode (kB K_LW_law) 368 = .ok (.iadd, 1) := by decide +kernel
theorem d_LW_law_369 : decode (kB K_LW_law) 369 = .ok (.istore 13, 2) := by decide +kernel
theorem d_LW_law_371 : decode (kB K_LW_law) 371 = .ok (.iload 14, 2) := by decide +kernel
theorem d_LW_law_373 : decode (kB K_LW_law) 373 = .ok (.aload_n 3, 1) := by decide +kernel
theorem d_LW_law_374 : decode (kB K_LW_law) 374 = .ok (.iload 15, 2) := by decide +kernel
theorem d_LW_law_376 : decode (kB K_LW_law) 376 = .ok (.iconst 3, 1) := by decide +kernel
theorem d_LW_law_377 : decode (kB K_LW_law) 377 = .ok (.invokevirtual 218, 3) := by decide +kernel
theorem d_LW_law_380 : decode (kB K_LW_law) 380 = .ok (.iadd, 1) := by decide +kernel
theorem d_LW_law_381 : decode (kB K_LW_law) 381 = .ok (.istore 14, 2) := by decide +kernel
theorem d_LW_law_383 : decode (kB K_LW_law) 383 = .ok (.iconst 0, 1) := by decide +kernel
theorem d_LW_law_384 : decode (kB K_LW_law) 384 = .ok (.istore 17, 2) := by decide +kernel
theorem d_LW_law_386 : decode (kB K_LW_law) 386 = .ok (.iload 17, 2) := by decide +kernel
theorem d_LW_law_388 : decode (kB K_LW_law) 388 = .ok (.aload_n 3, 1) := by decide +kernel
theorem d_LW_law_389 : decode (kB K_LW_law) 389 = .ok (.iconst 2, 1) := by decide +kernel
theorem d_LW_law_390 : decode (kB K_LW_law) 390 = .ok (.invokevirtual 195, 3) := by decide +kernel
theorem d_LW_law_393 : decode (kB K_LW_law) 393 = .ok (.if_icmp .ge 278, 3) := by decide +kernel
theorem d_LW_law_396 : decode (kB K_LW_law) 396 = .ok (.aload_n 2, 1) := by decide +kernel
theorem d_LW_law_397 : decode (kB K_LW_law) 397 = .ok (.iload 15, 2) := by decide +kernel
theorem d_LW_law_399 : decode (kB K_LW_law) 399 = .ok (.iload 17, 2) := by decide +kernel
theorem d_LW_law_401 : decode (kB K_LW_law) 401 = .ok (.invokevirtual 221, 3) := by decide +kernel
theorem d_LW_law_404 : decode (kB K_LW_law) 404 = .ok (.astore 18, 2) := by decide +kernel
theorem d_LW_law_406 : decode (kB K_LW_law) 406 = .ok (.iconst 0, 1) := by decide +kernel
theorem d_LW_law_407 : decode (kB K_LW_law) 407 = .ok (.istore 19, 2) := by decide +kernel
theorem d_LW_law_409 : decode (kB K_LW_law) 409 = .ok (.iload 19, 2) := by decide +kernel
theorem d_LW_law_411 : decode (kB K_LW_law) 411 = .ok (.aload 18, 2) := by decide +kernel
theorem d_LW_law_413 : decode (kB K_LW_law) 413 = .ok (.arraylength, 1) := by decide +kernel
theorem d_LW_law_414 : decode (kB K_LW_law) 414 = .ok (.if_icmp .ge 127, 3) := by decide +kernel
theorem d_LW_law_417 : decode (kB K_LW_law) 417 = .ok (.aload_n 3, 1) := by decide +kernel
theorem d_LW_law_418 : decode (kB K_LW_law) 418 = .ok (.iload 15, 2) := by decide +kernel
theorem d_LW_law_420 : decode (kB K_LW_law) 420 = .ok (.iload 17, 2) := by decide +kernel
theorem d_LW_law_422 : decode (kB K_LW_law) 422 = .ok (.iload 19, 2) := by decide +kernel
theorem d_LW_law_424 : decode (kB K_LW_law) 424 = .ok (.invokevirtual 225, 3) := by decide +kernel
theorem d_LW_law_427 : decode (kB K_LW_law) 427 = .ok (.istore 20, 2) := by decide +kernel
theorem d_LW_law_429 : decode (kB K_LW_law) 429 = .ok (.iload 20, 2) := by decide +kernel
theorem d_LW_law_431 : decode (kB K_LW_law) 431 = .ok (.aload 18, 2) := by decide +kernel
theorem d_LW_law_433 : decode (kB K_LW_law) 433 = .ok (.iload 19, 2) := by decide +kernel
theorem d_LW_law_435 : decode (kB K_LW_law) 435 = .ok (.iaload, 1) := by decide +kernel
theorem d_LW_law_436 : decode (kB K_LW_law) 436 = .ok (.if_icmp .ne 44, 3) := by decide +kernel
theorem d_LW_law_439 : decode (kB K_LW_law) 439 = .ok (.aload_n 3, 1) := by decide +kernel
theorem d_LW_law_440 : decode (kB K_LW_law) 440 = .ok (.iload 20, 2) := by decide +kernel
theorem d_LW_law_442 : decode (kB K_LW_law) 442 = .ok (.iconst 1, 1) := by decide +kernel
theorem d_LW_law_443 : decode (kB K_LW_law) 443 = .ok (.invokevirtual 228, 3) := by decide +kernel
theorem d_LW_law_446 : decode (kB K_LW_law) 446 = .ok (.iload 17, 2) := by decide +kernel
theorem d_LW_law_448 : decode (kB K_LW_law) 448 = .ok (.if_icmp .ne 32, 3) := by decide +kernel
theorem d_LW_law_451 : decode (kB K_LW_law) 451 = .ok (.aload_n 3, 1) := by decide +kernel
theorem d_LW_law_452 : decode (kB K_LW_law) 452 = .ok (.iload 20, 2) := by decide +kernel
theorem d_LW_law_454 : decode (kB K_LW_law) 454 = .ok (.aload_n 3, 1) := by decide +kernel
theorem d_LW_law_455 : decode (kB K_LW_law) 455 = .ok (.iload 20, 2) := by decide +kernel
theorem d_LW_law_457 : decode (kB K_LW_law) 457 = .ok (.iconst 0, 1) := by decide +kernel
theorem d_LW_law_458 : decode (kB K_LW_law) 458 = .ok (.invokevirtual 228, 3) := by decide +kernel
theorem d_LW_law_461 : decode (kB K_LW_law) 461 = .ok (.invokevirtual 231, 3) := by decide +kernel
theorem d_LW_law_464 : decode (kB K_LW_law) 464 = .ok (.aload_n 3, 1) := by decide +kernel
theorem d_LW_law_465 : decode (kB K_LW_law) 465 = .ok (.iload 15, 2) := by decide +kernel
theorem d_LW_law_467 : decode (kB K_LW_law) 467 = .ok (.aload_n 3, 1) := by decide +kernel
theorem d_LW_law_468 : decode (kB K_LW_law) 468 = .ok (.iload 20, 2) := by decide +kernel
theorem d_LW_law_470 : decode (kB K_LW_law) 470 = .ok (.iconst 0, 1) := by decide +kernel
theorem d_LW_law_471 : decode (kB K_LW_law) 471 = .ok (.invokevirtual 228, 3) := by decide +kernel
theorem d_LW_law_474 : decode (kB K_LW_law) 474 = .ok (.invokevirtual 215, 3) := by decide +kernel
theorem d_LW_law_477 : decode (kB K_LW_law) 477 = .ok (.if_icmp .le 5, 3) := by decide +kernel
theorem d_LW_law_480 : decode (kB K_LW_law) 480 = .ok (.iconst 0, 1) := by decide +kernel
theorem d_LW_law_481 : decode (kB K_LW_law) 481 = .ok (.ireturn, 1) := by decide +kernel
theorem d_LW_law_482 : decode (kB K_LW_law) 482 = .ok (.iconst 0, 1) := by decide +kernel
theorem d_LW_law_483 : decode (kB K_LW_law) 483 = .ok (.istore 21, 2) := by decide +kernel
theorem d_LW_law_485 : decode (kB K_LW_law) 485 = .ok (.iload 21, 2) := by decide +kernel
theorem d_LW_law_487 : decode (kB K_LW_law) 487 = .ok (.iload 19, 2) := by decide +kernel
theorem d_LW_law_489 : decode (kB K_LW_law) 489 = .ok (.if_icmp .ge 46, 3) := by decide +kernel
theorem d_LW_law_492 : decode (kB K_LW_law) 492 = .ok (.aload_n 3, 1) := by decide +kernel
theorem d_LW_law_493 : decode (kB K_LW_law) 493 = .ok (.iload 20, 2) := by decide +kernel
theorem d_LW_law_495 : decode (kB K_LW_law) 495 = .ok (.aload 18, 2) := by decide +kernel
theorem d_LW_law_497 : decode (kB K_LW_law) 497 = .ok (.iload 21, 2) := by decide +kernel
theorem d_LW_law_499 : decode (kB K_LW_law) 499 = .ok (.iaload, 1) := by decide +kernel
theorem d_LW_law_500 : decode (kB K_LW_law) 500 = .ok (.invokevirtual 234, 3) := by decide +kernel
theorem d_LW_law_503 : decode (kB K_LW_law) 503 = .ok (.iconst 3, 1) := by decide +kernel
theorem d_LW_law_504 : decode (kB K_LW_law) 504 = .ok (.if_icmp .ne 23, 3) := by decide +kernel
theorem d_LW_law_507 : decode (kB K_LW_law) 507 = .ok (.aload_n 3, 1) := by decide +kernel
theorem d_LW_law_508 : decode (kB K_LW_law) 508 = .ok (.iload 20, 2) := by decide +kernel
theorem d_LW_law_510 : decode (kB K_LW_law) 510 = .ok (.iconst 0, 1) := by decide +kernel
theorem d_LW_law_511 : decode (kB K_LW_law) 511 = .ok (.invokevirtual 228, 3) := by decide +kernel
theorem d_LW_law_514 : decode (kB K_LW_law) 514 = .ok (.aload_n 3, 1) := by decide +kernel
theorem d_LW_law_515 : decode (kB K_LW_law) 515 = .ok (.aload 18, 2) := by decide +kernel
theorem d_LW_law_517 : decode (kB K_LW_law) 517 = .ok (.iload 21, 2) := by decide +kernel
theorem d_LW_law_519 : decode (kB K_LW_law) 519 = .ok (.iaload, 1) := by decide +kernel
theorem d_LW_law_520 : decode (kB K_LW_law) 520 = .ok (.iconst 0, 1) := by decide +kernel
theorem d_LW_law_521 : decode (kB K_LW_law) 521 = .ok (.invokevirtual 228, 3) := by decide +kernel
theorem d_LW_law_524 : decode (kB K_LW_law) 524 = .ok (.if_icmp .gt 5, 3) := by decide +kernel
theorem d_LW_law_527 : decode (kB K_LW_law) 527 = .ok (.iconst 0, 1) := by decide +kernel
theorem d_LW_law_528 : decode (kB K_LW_law) 528 = .ok (.ireturn, 1) := by decide +kernel
theorem d_LW_law_529 : decode (kB K_LW_law) 529 = .ok (.iinc 21 1, 3) := by decide +kernel
theorem d_LW_law_532 : decode (kB K_LW_law) 532 = .ok (.goto (-47), 3) := by decide +kernel
theorem d_LW_law_535 : decode (kB K_LW_law) 535 = .ok (.iinc 19 1, 3) := by decide +kernel
theorem d_LW_law_538 : decode (kB K_LW_law) 538 = .ok (.goto (-129), 3) := by decide +kernel
theorem d_LW_law_541 : decode (kB K_LW_law) 541 = .ok (.iconst 0, 1) := by decide +kernel
theorem d_LW_law_542 : decode (kB K_LW_law) 542 = .ok (.istore 19, 2) := by decide +kernel
theorem d_LW_law_544 : decode (kB K_LW_law) 544 = .ok (.iload 19, 2) := by decide +kernel
theorem d_LW_law_546 : decode (kB K_LW_law) 546 = .ok (.iload 10, 2) := by decide +kernel
theorem d_LW_law_548 : decode (kB K_LW_law) 548 = .ok (.if_icmp .ge 117, 3) := by decide +kernel
theorem d_LW_law_551 : decode (kB K_LW_law) 551 = .ok (.aload_n 3, 1) := by decide +kernel
theorem d_LW_law_552 : decode (kB K_LW_law) 552 = .ok (.iload 19, 2) := by decide +kernel
theorem d_LW_law_554 : decode (kB K_LW_law) 554 = .ok (.iconst 1, 1) := by decide +kernel
theorem d_LW_law_555 : decode (kB K_LW_law) 555 = .ok (.invokevirtual 228, 3) := by decide +kernel
theorem d_LW_law_558 : decode (kB K_LW_law) 558 = .ok (.iload 17, 2) := by decide +kernel
theorem d_LW_law_560 : decode (kB K_LW_law) 560 = .ok (.if_icmp .ne 99, 3) := by decide +kernel
theorem d_LW_law_563 : decode (kB K_LW_law) 563 = .ok (.aload_n 3, 1) := by decide +kernel
theorem d_LW_law_564 : decode (kB K_LW_law) 564 = .ok (.iload 19, 2) := by decide +kernel
theorem d_LW_law_566 : decode (kB K_LW_law) 566 = .ok (.aload_n 3, 1) := by decide +kernel
theorem d_LW_law_567 : decode (kB K_LW_law) 567 = .ok (.iload 19, 2) := by decide +kernel
theorem d_LW_law_569 : decode (kB K_LW_law) 569 = .ok (.iconst 0, 1) := by decide +kernel
theorem d_LW_law_570 : decode (kB K_LW_law) 570 = .ok (.invokevirtual 228, 3) := by decide +kernel
theorem d_LW_law_573 : decode (kB K_LW_law) 573 = .ok (.invokevirtual 231, 3) := by decide +kernel
theorem d_LW_law_576 : decode (kB K_LW_law) 576 = .ok (.aload_n 3, 1) := by decide +kernel
theorem d_LW_law_577 : decode (kB K_LW_law) 577 = .ok (.iload 15, 2) := by decide +kernel
theorem d_LW_law_579 : decode (kB K_LW_law) 579 = .ok (.aload_n 3, 1) := by decide +kernel
theorem d_LW_law_580 : decode (kB K_LW_law) 580 = .ok (.iload 19, 2) := by decide +kernel
theorem d_LW_law_582 : decode (kB K_LW_law) 582 = .ok (.iconst 0, 1) := by decide +kernel
theorem d_LW_law_583 : decode (kB K_LW_law) 583 = .ok (.invokevirtual 228, 3) := by decide +kernel
theorem d_LW_law_586 : decode (kB K_LW_law) 586 = .ok (.invokevirtual 215, 3) := by decide +kernel
theorem d_LW_law_589 : decode (kB K_LW_law) 589 = .ok (.if_icmp .le 6, 3) := by decide +kernel
theorem d_LW_law_592 : decode (kB K_LW_law) 592 = .ok (.goto 67, 3) := by decide +kernel
theorem d_LW_law_595 : decode (kB K_LW_law) 595 = .ok (.iconst 0, 1) := by decide +kernel
theorem d_LW_law_596 : decode (kB K_LW_law) 596 = .ok (.istore 20, 2) := by decide +kernel
theorem d_LW_law_598 : decode (kB K_LW_law) 598 = .ok (.aload 18, 2) := by decide +kernel
theorem d_LW_law_600 : decode (kB K_LW_law) 600 = .ok (.astore 21, 2) := by decide +kernel
theorem d_LW_law_602 : decode (kB K_LW_law) 602 = .ok (.aload 21, 2) := by decide +kernel
theorem d_LW_law_604 : decode (kB K_LW_law) 604 = .ok (.arraylength, 1) := by decide +kernel
theorem d_LW_law_605 : decode (kB K_LW_law) 605 = .ok (.istore 22, 2) := by decide +kernel
theorem d_LW_law_607 : decode (kB K_LW_law) 607 = .ok (.iconst 0, 1) := by decide +kernel
theorem d_LW_law_608 : decode (kB K_LW_law) 608 = .ok (.istore 23, 2) := by decide +kernel
theorem d_LW_law_610 : decode (kB K_LW_law) 610 = .ok (.iload 23, 2) := by decide +kernel
theorem d_LW_law_612 : decode (kB K_LW_law) 612 = .ok (.iload 22, 2) := by decide +kernel
theorem d_LW_law_614 : decode (kB K_LW_law) 614 = .ok (.if_icmp .ge 38, 3) := by decide +kernel
theorem d_LW_law_617 : decode (kB K_LW_law) 617 = .ok (.aload 21, 2) := by decide +kernel
theorem d_LW_law_619 : decode (kB K_LW_law) 619 = .ok (.iload 23, 2) := by decide +kernel
theorem d_LW_law_621 : decode (kB K_LW_law) 621 = .ok (.iaload, 1) := by decide +kernel
theorem d_LW_law_622 : decode (kB K_LW_law) 622 = .ok (.istore 24, 2) := by decide +kernel
theorem d_LW_law_624 : decode (kB K_LW_law) 624 = .ok (.iload 20, 2) := by decide +kernel
theorem d_LW_law_626 : decode (kB K_LW_law) 626 = .ok (.aload_n 3, 1) := by decide +kernel
theorem d_LW_law_627 : decode (kB K_LW_law) 627 = .ok (.iload 19, 2) := by decide +kernel
theorem d_LW_law_629 : decode (kB K_LW_law) 629 = .ok (.iload 24, 2) := by decide +kernel
theorem d_LW_law_631 : decode (kB K_LW_law) 631 = .ok (.invokevirtual 234, 3) := by decide +kernel
theorem d_LW_law_634 : decode (kB K_LW_law) 634 = .ok (.iconst 2, 1) := by decide +kernel
theorem d_LW_law_635 : decode (kB K_LW_law) 635 = .ok (.if_icmp .ge 7, 3) := by decide +kernel
theorem d_LW_law_638 : decode (kB K_LW_law) 638 = .ok (.iconst 1, 1) := by decide +kernel
theorem d_LW_law_639 : decode (kB K_LW_law) 639 = .ok (.goto 4, 3) := by decide +kernel
theorem d_LW_law_642 : decode (kB K_LW_law) 642 = .ok (.iconst 0, 1) := by decide +kernel
theorem d_LW_law_643 : decode (kB K_LW_law) 643 = .ok (.ior, 1) := by decide +kernel
theorem d_LW_law_644 : decode (kB K_LW_law) 644 = .ok (.istore 20, 2) := by decide +kernel
theorem d_LW_law_646 : decode (kB K_LW_law) 646 = .ok (.iinc 23 1, 3) := by decide +kernel
theorem d_LW_law_649 : decode (kB K_LW_law) 649 = .ok (.goto (-39), 3) := by decide +kernel
theorem d_LW_law_652 : decode (kB K_LW_law) 652 = .ok (.iload 20, 2) := by decide +kernel
theorem d_LW_law_654 : decode (kB K_LW_law) 654 = .ok (.ifCond .ne 5, 3) := by decide +kernel
theorem d_LW_law_657 : decode (kB K_LW_law) 657 = .ok (.iconst 0, 1) := by decide +kernel
theorem d_LW_law_658 : decode (kB K_LW_law) 658 = .ok (.ireturn, 1) := by decide +kernel
theorem d_LW_law_659 : decode (kB K_LW_law) 659 = .ok (.iinc 19 1, 3) := by decide +kernel
theorem d_LW_law_662 : decode (kB K_LW_law) 662 = .ok (.goto (-118), 3) := by decide +kernel
theorem d_LW_law_665 : decode (kB K_LW_law) 665 = .ok (.iinc 17 1, 3) := by decide +kernel
theorem d_LW_law_668 : decode (kB K_LW_law) 668 = .ok (.goto (-282), 3) := by decide +kernel
theorem d_LW_law_671 : decode (kB K_LW_law) 671 = .ok (.iinc 15 1, 3) := by decide +kernel
theorem d_LW_law_674 : decode (kB K_LW_law) 674 = .ok (.goto (-452), 3) := by decide +kernel
theorem d_LW_law_677 : decode (kB K_LW_law) 677 = .ok (.iload 13, 2) := by decide +kernel
theorem d_LW_law_679 : decode (kB K_LW_law) 679 = .ok (.aload_n 3, 1) := by decide +kernel
theorem d_LW_law_680 : decode (kB K_LW_law) 680 = .ok (.bipush 7, 2) := by decide +kernel
theorem d_LW_law_682 : decode (kB K_LW_law) 682 = .ok (.invokevirtual 195, 3) := by decide +kernel
theorem d_LW_law_685 : decode (kB K_LW_law) 685 = .ok (.if_icmp .ne 29, 3) := by decide +kernel
theorem d_LW_law_688 : decode (kB K_LW_law) 688 = .ok (.iload 14, 2) := by decide +kernel
theorem d_LW_law_690 : decode (kB K_LW_law) 690 = .ok (.aload_n 3, 1) := by decide +kernel
theorem d_LW_law_691 : decode (kB K_LW_law) 691 = .ok (.bipush 8, 2) := by decide +kernel
theorem d_LW_law_693 : decode (kB K_LW_law) 693 = .ok (.invokevirtual 195, 3) := by decide +kernel
theorem d_LW_law_696 : decode (kB K_LW_law) 696 = .ok (.if_icmp .ne 18, 3) := by decide +kernel
theorem d_LW_law_699 : decode (kB K_LW_law) 699 = .ok (.aload_n 3, 1) := by decide +kernel
theorem d_LW_law_700 : decode (kB K_LW_law) 700 = .ok (.invokevirtual 237, 3) := by decide +kernel
theorem d_LW_law_703 : decode (kB K_LW_law) 703 = .ok (.iload 12, 2) := by decide +kernel
theorem d_LW_law_705 : decode (kB K_LW_law) 705 = .ok (.i2d, 1) := by decide +kernel
theorem d_LW_law_706 : decode (kB K_LW_law) 706 = .ok (.iload 9, 2) := by decide +kernel
theorem d_LW_law_708 : decode (kB K_LW_law) 708 = .ok (.i2d, 1) := by decide +kernel
theorem d_LW_law_709 : decode (kB K_LW_law) 709 = .ok (.ddiv, 1) := by decide +kernel
theorem d_LW_law_710 : decode (kB K_LW_law) 710 = .ok (.dcmp .l, 1) := by decide +kernel
theorem d_LW_law_711 : decode (kB K_LW_law) 711 = .ok (.ifCond .eq 5, 3) := by decide +kernel
theorem d_LW_law_714 : decode (kB K_LW_law) 714 = .ok (.iconst 0, 1) := by decide +kernel
theorem d_LW_law_715 : decode (kB K_LW_law) 715 = .ok (.ireturn, 1) := by decide +kernel
theorem d_LW_law_716 : decode (kB K_LW_law) 716 = .ok (.iconst 0, 1) := by decide +kernel
theorem d_LW_law_717 : decode (kB K_LW_law) 717 = .ok (.istore 15, 2) := by decide +kernel
theorem d_LW_law_719 : decode (kB K_LW_law) 719 = .ok (.iload 15, 2) := by decide +kernel
theorem d_LW_law_721 : decode (kB K_LW_law) 721 = .ok (.iload 10, 2) := by decide +kernel
theorem d_LW_law_723 : decode (kB K_LW_law) 723 = .ok (.if_icmp .ge 307, 3) := by decide +kernel
theorem d_LW_law_726 : decode (kB K_LW_law) 726 = .ok (.aload_n 3, 1) := by decide +kernel
theorem d_LW_law_727 : decode (kB K_LW_law) 727 = .ok (.iload 15, 2) := by decide +kernel
theorem d_LW_law_729 : decode (kB K_LW_law) 729 = .ok (.iconst 0, 1) := by decide +kernel
theorem d_LW_law_730 : decode (kB K_LW_law) 730 = .ok (.invokevirtual 228, 3) := by decide +kernel
theorem d_LW_law_733 : decode (kB K_LW_law) 733 = .ok (.istore 16, 2) := by decide +kernel
theorem d_LW_law_735 : decode (kB K_LW_law) 735 = .ok (.aload_n 3, 1) := by decide +kernel
theorem d_LW_law_736 : decode (kB K_LW_law) 736 = .ok (.iload 15, 2) := by decide +kernel
theorem d_LW_law_738 : decode (kB K_LW_law) 738 = .ok (.bipush 6, 2) := by decide +kernel
theorem d_LW_law_740 : decode (kB K_LW_law) 740 = .ok (.invokevirtual 228, 3) := by decide +kernel
theorem d_LW_law_743 : decode (kB K_LW_law) 743 = .ok (.iconst 1, 1) := by decide +kernel
theorem d_LW_law_744 : decode (kB K_LW_law) 744 = .ok (.if_icmp .lt 107, 3) := by decide +kernel
theorem d_LW_law_747 : decode (kB K_LW_law) 747 = .ok (.aload_n 3, 1) := by decide +kernel
theorem d_LW_law_748 : decode (kB K_LW_law) 748 = .ok (.iload 15, 2) := by decide +kernel
theorem d_LW_law_750 : decode (kB K_LW_law) 750 = .ok (.bipush 7, 2) := by decide +kernel
theorem d_LW_law_752 : decode (kB K_LW_law) 752 = .ok (.invokevirtual 228, 3) := by decide +kernel
theorem d_LW_law_755 : decode (kB K_LW_law) 755 = .ok (.aload_n 3, 1) := by decide +kernel
theorem d_LW_law_756 : decode (kB K_LW_law) 756 = .ok (.iload 15, 2) := by decide +kernel
theorem d_LW_law_758 : decode (kB K_LW_law) 758 = .ok (.bipush 6, 2) := by decide +kernel
theorem d_LW_law_760 : decode (kB K_LW_law) 760 = .ok (.invokevirtual 228, 3) := by decide +kernel
theorem d_LW_law_763 : decode (kB K_LW_law) 763 = .ok (.if_icmp .gt 88, 3) := by decide +kernel
theorem d_LW_law_766 : decode (kB K_LW_law) 766 = .ok (.aload_n 3, 1) := by decide +kernel
theorem d_LW_law_767 : decode (kB K_LW_law) 767 = .ok (.iload 15, 2) := by decide +kernel
theorem d_LW_law_769 : decode (kB K_LW_law) 769 = .ok (.bipush 6, 2) := by decide +kernel
theorem d_LW_law_771 : decode (kB K_LW_law) 771 = .ok (.invokevirtual 228, 3) := by decide +kernel
theorem d_LW_law_774 : decode (kB K_LW_law) 774 = .ok (.iload 9, 2) := by decide +kernel
theorem d_LW_law_776 : decode (kB K_LW_law) 776 = .ok (.if_icmp .gt 75, 3) := by decide +kernel
theorem d_LW_law_779 : decode (kB K_LW_law) 779 = .ok (.aload_n 3, 1) := by decide +kernel
theorem d_LW_law_780 : decode (kB K_LW_law) 780 = .ok (.iload 15, 2) := by decide +kernel
theorem d_LW_law_782 : decode (kB K_LW_law) 782 = .ok (.iconst 2, 1) := by decide +kernel
theorem d_LW_law_783 : decode (kB K_LW_law) 783 = .ok (.invokevirtual 228, 3) := by decide +kernel
theorem d_LW_law_786 : decode (kB K_LW_law) 786 = .ok (.ifCond .lt 65, 3) := by decide +kernel
theorem d_LW_law_789 : decode (kB K_LW_law) 789 = .ok (.aload_n 3, 1) := by decide +kernel
theorem d_LW_law_790 : decode (kB K_LW_law) 790 = .ok (.iload 15, 2) := by decide +kernel
theorem d_LW_law_792 : decode (kB K_LW_law) 792 = .ok (.iconst 2, 1) := by decide +kernel
theorem d_LW_law_793 : decode (kB K_LW_law) 793 = .ok (.invokevirtual 228, 3) := by decide +kernel
theorem d_LW_law_796 : decode (kB K_LW_law) 796 = .ok (.sipush 9999, 3) := by decide +kernel
theorem d_LW_law_799 : decode (kB K_LW_law) 799 = .ok (.if_icmp .gt 52, 3) := by decide +kernel
theorem d_LW_law_802 : decode (kB K_LW_law) 802 = .ok (.aload_n 3, 1) := by decide +kernel
theorem d_LW_law_803 : decode (kB K_LW_law) 803 = .ok (.iload 15, 2) := by decide +kernel
theorem d_LW_law_805 : decode (kB K_LW_law) 805 = .ok (.iconst 3, 1) := by decide +kernel
theorem d_LW_law_806 : decode (kB K_LW_law) 806 = .ok (.invokevirtual 228, 3) := by decide +kernel
theorem d_LW_law_809 : decode (kB K_LW_law) 809 = .ok (.ifCond .lt 42, 3) := by decide +kernel
theorem d_LW_law_812 : decode (kB K_LW_law) 812 = .ok (.aload_n 3, 1) := by decide +kernel
theorem d_LW_law_813 : decode (kB K_LW_law) 813 = .ok (.iload 15, 2) := by decide +kernel
theorem d_LW_law_815 : decode (kB K_LW_law) 815 = .ok (.iconst 3, 1) := by decide +kernel
theorem d_LW_law_816 : decode (kB K_LW_law) 816 = .ok (.invokevirtual 228, 3) := by decide +kernel
theorem d_LW_law_819 : decode (kB K_LW_law) 819 = .ok (.ldc 241, 2) := by decide +kernel
theorem d_LW_law_821 : decode (kB K_LW_law) 821 = .ok (.if_icmp .gt 30, 3) := by decide +kernel
theorem d_LW_law_824 : decode (kB K_LW_law) 824 = .ok (.aload_n 3, 1) := by decide +kernel
theorem d_LW_law_825 : decode (kB K_LW_law) 825 = .ok (.iload 15, 2) := by decide +kernel
theorem d_LW_law_827 : decode (kB K_LW_law) 827 = .ok (.iconst 4, 1) := by decide +kernel
theorem d_LW_law_828 : decode (kB K_LW_law) 828 = .ok (.invokevirtual 228, 3) := by decide +kernel
theorem d_LW_law_831 : decode (kB K_LW_law) 831 = .ok (.aload_n 3, 1) := by decide +kernel
theorem d_LW_law_832 : decode (kB K_LW_law) 832 = .ok (.iconst 0, 1) := by decide +kernel
theorem d_LW_law_833 : decode (kB K_LW_law) 833 = .ok (.invokevirtual 195, 3) := by decide +kernel
theorem d_LW_law_836 : decode (kB K_LW_law) 836 = .ok (.if_icmp .gt 15, 3) := by decide +kernel
theorem d_LW_law_839 : decode (kB K_LW_law) 839 = .ok (.aload_n 3, 1) := by decide +kernel
theorem d_LW_law_840 : decode (kB K_LW_law) 840 = .ok (.iload 15, 2) := by decide +kernel
theorem d_LW_law_842 : decode (kB K_LW_law) 842 = .ok (.iload 16, 2) := by decide +kernel
theorem d_LW_law_844 : decode (kB K_LW_law) 844 = .ok (.invokevirtual 231, 3) := by decide +kernel
theorem d_LW_law_847 : decode (kB K_LW_law) 847 = .ok (.iconst 1, 1) := by decide +kernel
theorem d_LW_law_848 : decode (kB K_LW_law) 848 = .ok (.if_icmp .ge 5, 3) := by decide +kernel
theorem d_LW_law_851 : decode (kB K_LW_law) 851 = .ok (.iconst 0, 1) := by decide +kernel
theorem d_LW_law_852 : decode (kB K_LW_law) 852 = .ok (.ireturn, 1) := by decide +kernel
theorem d_LW_law_853 : decode (kB K_LW_law) 853 = .ok (.iload 6, 2) := by decide +kernel
theorem d_LW_law_855 : decode (kB K_LW_law) 855 = .ok (.iconst 5, 1) := by decide +kernel
theorem d_LW_law_856 : decode (kB K_LW_law) 856 = .ok (.iload 15, 2) := by decide +kernel
theorem d_LW_law_858 : decode (kB K_LW_law) 858 = .ok (.imul, 1) := by decide +kernel
theorem d_LW_law_859 : decode (kB K_LW_law) 859 = .ok (.iadd, 1) := by decide +kernel
theorem d_LW_law_860 : decode (kB K_LW_law) 860 = .ok (.iload 10, 2) := by decide +kernel
theorem d_LW_law_862 : decode (kB K_LW_law) 862 = .ok (.invokestatic 89, 3) := by decide +kernel
theorem d_LW_law_865 : decode (kB K_LW_law) 865 = .ok (.istore 17, 2) := by decide +kernel
theorem d_LW_law_867 : decode (kB K_LW_law) 867 = .ok (.aload_n 3, 1) := by decide +kernel
theorem d_LW_law_868 : decode (kB K_LW_law) 868 = .ok (.iload 15, 2) := by decide +kernel
theorem d_LW_law_870 : decode (kB K_LW_law) 870 = .ok (.iload 17, 2) := by decide +kernel
theorem d_LW_law_872 : decode (kB K_LW_law) 872 = .ok (.invokevirtual 234, 3) := by decide +kernel
theorem d_LW_law_875 : decode (kB K_LW_law) 875 = .ok (.istore 18, 2) := by decide +kernel
theorem d_LW_law_877 : decode (kB K_LW_law) 877 = .ok (.aload_n 3, 1) := by decide +kernel
theorem d_LW_law_878 : decode (kB K_LW_law) 878 = .ok (.iload 17, 2) := by decide +kernel
theorem d_LW_law_880 : decode (kB K_LW_law) 880 = .ok (.iload 15, 2) := by decide +kernel
theorem d_LW_law_882 : decode (kB K_LW_law) 882 = .ok (.invokevirtual 234, 3) := by decide +kernel
theorem d_LW_law_885 : decode (kB K_LW_law) 885 = .ok (.iload 18, 2) := by decide +kernel
theorem d_LW_law_887 : decode (kB K_LW_law) 887 = .ok (.iconst 1, 1) := by decide +kernel
theorem d_LW_law_888 : decode (kB K_LW_law) 888 = .ok (.if_icmp .ne 7, 3) := by decide +kernel
theorem d_LW_law_891 : decode (kB K_LW_law) 891 = .ok (.iconst 2, 1) := by decide +kernel
theorem d_LW_law_892 : decode (kB K_LW_law) 892 = .ok (.goto 15, 3) := by decide +kernel
theorem d_LW_law_895 : decode (kB K_LW_law) 895 = .ok (.iload 18, 2) := by decide +kernel
theorem d_LW_law_897 : decode (kB K_LW_law) 897 = .ok (.iconst 2, 1) := by decide +kernel
theorem d_LW_law_898 : decode (kB K_LW_law) 898 = .ok (.if_icmp .ne 7, 3) := by decide +kernel
theorem d_LW_law_901 : decode (kB K_LW_law) 901 = .ok (.iconst 1, 1) := by decide +kernel
theorem d_LW_law_902 : decode (kB K_LW_law) 902 = .ok (.goto 5, 3) := by decide +kernel
theorem d_LW_law_905 : decode (kB K_LW_law) 905 = .ok (.iload 18, 2) := by decide +kernel
theorem d_LW_law_907 : decode (kB K_LW_law) 907 = .ok (.if_icmp .ne 16, 3) := by decide +kernel
theorem d_LW_law_910 : decode (kB K_LW_law) 910 = .ok (.iload 18, 2) := by decide +kernel
theorem d_LW_law_912 : decode (kB K_LW_law) 912 = .ok (.iconst 1, 1) := by decide +kernel
theorem d_LW_law_913 : decode (kB K_LW_law) 913 = .ok (.if_icmp .ne 12, 3) := by decide +kernel
theorem d_LW_law_916 : decode (kB K_LW_law) 916 = .ok (.iload 15, 2) := by decide +kernel
theorem d_LW_law_918 : decode (kB K_LW_law) 918 = .ok (.iload 17, 2) := by decide +kernel
theorem d_LW_law_920 : decode (kB K_LW_law) 920 = .ok (.if_icmp .le 5, 3) := by decide +kernel
theorem d_LW_law_923 : decode (kB K_LW_law) 923 = .ok (.iconst 0, 1) := by decide +kernel
theorem d_LW_law_924 : decode (kB K_LW_law) 924 = .ok (.ireturn, 1) := by decide +kernel
theorem d_LW_law_925 : decode (kB K_LW_law) 925 = .ok (.iconst 0, 1) := by decide +kernel
theorem d_LW_law_926 : decode (kB K_LW_law) 926 = .ok (.istore 19, 2) := by decide +kernel
theorem d_LW_law_928 : decode (kB K_LW_law) 928 = .ok (.iload 19, 2) := by decide +kernel
theorem d_LW_law_930 : decode (kB K_LW_law) 930 = .ok (.iload 9, 2) := by decide +kernel
theorem d_LW_law_932 : decode (kB K_LW_law) 932 = .ok (.if_icmp .ge 92, 3) := by decide +kernel
theorem d_LW_law_935 : decode (kB K_LW_law) 935 = .ok (.iload 18, 2) := by decide +kernel
theorem d_LW_law_937 : decode (kB K_LW_law) 937 = .ok (.iconst 1, 1) := by decide +kernel
theorem d_LW_law_938 : decode (kB K_LW_law) 938 = .ok (.if_icmp .ne 24, 3) := by decide +kernel
theorem d_LW_law_941 : decode (kB K_LW_law) 941 = .ok (.aload_n 3, 1) := by decide +kernel
theorem d_LW_law_942 : decode (kB K_LW_law) 942 = .ok (.iload 15, 2) := by decide +kernel
theorem d_LW_law_944 : decode (kB K_LW_law) 944 = .ok (.iload 19, 2) := by decide +kernel
theorem d_LW_law_946 : decode (kB K_LW_law) 946 = .ok (.invokevirtual 231, 3) := by decide +kernel
theorem d_LW_law_949 : decode (kB K_LW_law) 949 = .ok (.aload_n 3, 1) := by decide +kernel
theorem d_LW_law_950 : decode (kB K_LW_law) 950 = .ok (.iload 17, 2) := by decide +kernel
theorem d_LW_law_952 : decode (kB K_LW_law) 952 = .ok (.iload 19, 2) := by decide +kernel
theorem d_LW_law_954 : decode (kB K_LW_law) 954 = .ok (.invokevirtual 231, 3) := by decide +kernel
theorem d_LW_law_957 : decode (kB K_LW_law) 957 = .ok (.if_icmp .le 5, 3) := by decide +kernel
theorem d_LW_law_960 : decode (kB K_LW_law) 960 = .ok (.iconst 0, 1) := by decide +kernel
theorem d_LW_law_961 : decode (kB K_LW_law) 961 = .ok (.ireturn, 1) := by decide +kernel
theorem d_LW_law_962 : decode (kB K_LW_law) 962 = .ok (.aload_n 3, 1) := by decide +kernel
theorem d_LW_law_963 : decode (kB K_LW_law) 963 = .ok (.iload 19, 2) := by decide +kernel
theorem d_LW_law_965 : decode (kB K_LW_law) 965 = .ok (.iload 16, 2) := by decide +kernel
theorem d_LW_law_967 : decode (kB K_LW_law) 967 = .ok (.invokevirtual 215, 3) := by decide +kernel
theorem d_LW_law_970 : decode (kB K_LW_law) 970 = .ok (.aload_n 3, 1) := by decide +kernel
theorem d_LW_law_971 : decode (kB K_LW_law) 971 = .ok (.iload 15, 2) := by decide +kernel
theorem d_LW_law_973 : decode (kB K_LW_law) 973 = .ok (.iload 16, 2) := by decide +kernel
theorem d_LW_law_975 : decode (kB K_LW_law) 975 = .ok (.invokevirtual 231, 3) := by decide +kernel
theorem d_LW_law_978 : decode (kB K_LW_law) 978 = .ok (.if_icmp .lt 40, 3) := by decide +kernel
theorem d_LW_law_981 : decode (kB K_LW_law) 981 = .ok (.iconst 0, 1) := by decide +kernel
theorem d_LW_law_982 : decode (kB K_LW_law) 982 = .ok (.istore 20, 2) := by decide +kernel
theorem d_LW_law_984 : decode (kB K_LW_law) 984 = .ok (.iload 20, 2) := by decide +kernel
theorem d_LW_law_986 : decode (kB K_LW_law) 986 = .ok (.iload 9, 2) := by decide +kernel
theorem d_LW_law_988 : decode (kB K_LW_law) 988 = .ok (.if_icmp .ge 30, 3) := by decide +kernel
theorem d_LW_law_991 : decode (kB K_LW_law) 991 = .ok (.aload_n 3, 1) := by decide +kernel
theorem d_LW_law_992 : decode (kB K_LW_law) 992 = .ok (.iload 19, 2) := by decide +kernel
theorem d_LW_law_994 : decode (kB K_LW_law) 994 = .ok (.iload 20, 2) := by decide +kernel
theorem d_LW_law_996 : decode (kB K_LW_law) 996 = .ok (.invokevirtual 215, 3) := by decide +kernel
theorem d_LW_law_999 : decode (kB K_LW_law) 999 = .ok (.aload_n 3, 1) := by decide +kernel
theorem d_LW_law_1000 : decode (kB K_LW_law) 1000 = .ok (.iload 15, 2) := by decide +kernel
theorem d_LW_law_1002 : decode (kB K_LW_law) 1002 = .ok (.iload 20, 2) := by decide +kernel
theorem d_LW_law_1004 : decode (kB K_LW_law) 1004 = .ok (.invokevirtual 231, 3) := by decide +kernel
theorem d_LW_law_1007 : decode (kB K_LW_law) 1007 = .ok (.if_icmp .ge 5, 3) := by decide +kernel
theorem d_LW_law_1010 : decode (kB K_LW_law) 1010 = .ok (.iconst 0, 1) := by decide +kernel
theorem d_LW_law_1011 : decode (kB K_LW_law) 1011 = .ok (.ireturn, 1) := by decide +kernel
theorem d_LW_law_1012 : decode (kB K_LW_law) 1012 = .ok (.iinc 20 1, 3) := by decide +kernel
theorem d_LW_law_1015 : decode (kB K_LW_law) 1015 = .ok (.goto (-31), 3) := by decide +kernel
theorem d_LW_law_1018 : decode (kB K_LW_law) 1018 = .ok (.iinc 19 1, 3) := by decide +kernel
theorem d_LW_law_1021 : decode (kB K_LW_law) 1021 = .ok (.goto (-93), 3) := by decide +kernel
theorem d_LW_law_1024 : decode (kB K_LW_law) 1024 = .ok (.iinc 15 1, 3) := by decide +kernel
theorem d_LW_law_1027 : decode (kB K_LW_law) 1027 = .ok (.goto (-308), 3) := by decide +kernel
theorem d_LW_law_1030 : decode (kB K_LW_law) 1030 = .ok (.aload_n 3, 1) := by decide +kernel
theorem d_LW_law_1031 : decode (kB K_LW_law) 1031 = .ok (.invokevirtual 242, 3) := by decide +kernel
theorem d_LW_law_1034 : decode (kB K_LW_law) 1034 = .ok (.istore 15, 2) := by decide +kernel
theorem d_LW_law_1036 : decode (kB K_LW_law) 1036 = .ok (.iload 15, 2) := by decide +kernel
theorem d_LW_law_1038 : decode (kB K_LW_law) 1038 = .ok (.ifCond .ge 7, 3) := by decide +kernel
theorem d_LW_law_1041 : decode (kB K_LW_law) 1041 = .ok (.iconst 1, 1) := by decide +kernel
theorem d_LW_law_1042 : decode (kB K_LW_law) 1042 = .ok (.goto 4, 3) := by decide +kernel
theorem d_LW_law_1045 : decode (kB K_LW_law) 1045 = .ok (.iconst 0, 1) := by decide +kernel
theorem d_LW_law_1046 : decode (kB K_LW_law) 1046 = .ok (.iload 12, 2) := by decide +kernel
theorem d_LW_law_1048 : decode (kB K_LW_law) 1048 = .ok (.iload 9, 2) := by decide +kernel
theorem d_LW_law_1050 : decode (kB K_LW_law) 1050 = .ok (.iload 10, 2) := by decide +kernel
theorem d_LW_law_1052 : decode (kB K_LW_law) 1052 = .ok (.imul, 1) := by decide +kernel
theorem d_LW_law_1053 : decode (kB K_LW_law) 1053 = .ok (.if_icmp .ne 7, 3) := by decide +kernel
theorem d_LW_law_1056 : decode (kB K_LW_law) 1056 = .ok (.iconst 1, 1) := by decide +kernel
theorem d_LW_law_1057 : decode (kB K_LW_law) 1057 = .ok (.goto 4, 3) := by decide +kernel
theorem d_LW_law_1060 : decode (kB K_LW_law) 1060 = .ok (.iconst 0, 1) := by decide +kernel
theorem d_LW_law_1061 : decode (kB K_LW_law) 1061 = .ok (.if_icmp .ne 31, 3) := by decide +kernel
theorem d_LW_law_1064 : decode (kB K_LW_law) 1064 = .ok (.iload 15, 2) := by decide +kernel
theorem d_LW_law_1066 : decode (kB K_LW_law) 1066 = .ok (.ifCond .lt 16, 3) := by decide +kernel
theorem d_LW_law_1069 : decode (kB K_LW_law) 1069 = .ok (.aload_n 3, 1) := by decide +kernel
theorem d_LW_law_1070 : decode (kB K_LW_law) 1070 = .ok (.iload 15, 2) := by decide +kernel
theorem d_LW_law_1072 : decode (kB K_LW_law) 1072 = .ok (.bipush 6, 2) := by decide +kernel
theorem d_LW_law_1074 : decode (kB K_LW_law) 1074 = .ok (.invokevirtual 228, 3) := by decide +kernel
theorem d_LW_law_1077 : decode (kB K_LW_law) 1077 = .ok (.iload 9, 2) := by decide +kernel
theorem d_LW_law_1079 : decode (kB K_LW_law) 1079 = .ok (.if_icmp .eq 13, 3) := by decide +kernel
theorem d_LW_law_1082 : decode (kB K_LW_law) 1082 = .ok (.aload_n 3, 1) := by decide +kernel
theorem d_LW_law_1083 : decode (kB K_LW_law) 1083 = .ok (.invokevirtual 211, 3) := by decide +kernel
theorem d_LW_law_1086 : decode (kB K_LW_law) 1086 = .ok (.lload 7, 2) := by decide +kernel
theorem d_LW_law_1088 : decode (kB K_LW_law) 1088 = .ok (.lcmp, 1) := by decide +kernel
theorem d_LW_law_1089 : decode (kB K_LW_law) 1089 = .ok (.ifCond .eq 5, 3) := by decide +kernel
theorem d_LW_law_1092 : decode (kB K_LW_law) 1092 = .ok (.iconst 0, 1) := by decide +kernel
theorem d_LW_law_1093 : decode (kB K_LW_law) 1093 = .ok (.ireturn, 1) := by decide +kernel
theorem d_LW_law_1094 : decode (kB K_LW_law) 1094 = .ok (.iinc 5 1, 3) := by decide +kernel
theorem d_LW_law_1097 : decode (kB K_LW_law) 1097 = .ok (.goto (-1053), 3) := by decide +kernel
theorem d_LW_law_1100 : decode (kB K_LW_law) 1100 = .ok (.aload_n 2, 1) := by decide +kernel
theorem d_LW_law_1101 : decode (kB K_LW_law) 1101 = .ok (.aload_n 3, 1) := by decide +kernel
theorem d_LW_law_1102 : decode (kB K_LW_law) 1102 = .ok (.invokevirtual 245, 3) := by decide +kernel
theorem d_LW_law_1105 : decode (kB K_LW_law) 1105 = .ok (.ireturn, 1) := by decide +kernel
