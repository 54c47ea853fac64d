/-! methods and their instructions -/
def K_MM_isPlan : KM := (⟨"ParishBoardsModel", "isPlan", "()Z"⟩, prog_15_method_23_code, 2, (some (.boolean)), "ParishBoardsModel", [])
theorem d_MM_isPlan_0 : decode (kB K_MM_isPlan) 0 = .ok (.aload_n 0, 1) := by decide +kernel
theorem d_MM_isPlan_1 : decode (kB K_MM_isPlan) 1 = .ok (.sipush 900, 3) := by decide +kernel
theorem d_MM_isPlan_4 : decode (kB K_MM_isPlan) 4 = .ok (.invokevirtual 130, 3) := by decide +kernel
theorem d_MM_isPlan_7 : decode (kB K_MM_isPlan) 7 = .ok (.ifCond .ne 73, 3) := by decide +kernel
theorem d_MM_isPlan_10 : decode (kB K_MM_isPlan) 10 = .ok (.aload_n 0, 1) := by decide +kernel
theorem d_MM_isPlan_11 : decode (kB K_MM_isPlan) 11 = .ok (.iconst 0, 1) := by decide +kernel
theorem d_MM_isPlan_12 : decode (kB K_MM_isPlan) 12 = .ok (.invokevirtual 130, 3) := by decide +kernel
theorem d_MM_isPlan_15 : decode (kB K_MM_isPlan) 15 = .ok (.ifCond .eq 11, 3) := by decide +kernel
theorem d_MM_isPlan_18 : decode (kB K_MM_isPlan) 18 = .ok (.aload_n 0, 1) := by decide +kernel
theorem d_MM_isPlan_19 : decode (kB K_MM_isPlan) 19 = .ok (.iconst 1, 1) := by decide +kernel
theorem d_MM_isPlan_20 : decode (kB K_MM_isPlan) 20 = .ok (.invokevirtual 140, 3) := by decide +kernel
theorem d_MM_isPlan_23 : decode (kB K_MM_isPlan) 23 = .ok (.goto 38, 3) := by decide +kernel
theorem d_MM_isPlan_26 : decode (kB K_MM_isPlan) 26 = .ok (.aload_n 0, 1) := by decide +kernel
theorem d_MM_isPlan_27 : decode (kB K_MM_isPlan) 27 = .ok (.iconst 5, 1) := by decide +kernel
theorem d_MM_isPlan_28 : decode (kB K_MM_isPlan) 28 = .ok (.invokevirtual 130, 3) := by decide +kernel
theorem d_MM_isPlan_31 : decode (kB K_MM_isPlan) 31 = .ok (.ifCond .eq 11, 3) := by decide +kernel
theorem d_MM_isPlan_34 : decode (kB K_MM_isPlan) 34 = .ok (.aload_n 0, 1) := by decide +kernel
theorem d_MM_isPlan_35 : decode (kB K_MM_isPlan) 35 = .ok (.iconst 2, 1) := by decide +kernel
theorem d_MM_isPlan_36 : decode (kB K_MM_isPlan) 36 = .ok (.invokevirtual 140, 3) := by decide +kernel
theorem d_MM_isPlan_39 : decode (kB K_MM_isPlan) 39 = .ok (.goto 22, 3) := by decide +kernel
theorem d_MM_isPlan_42 : decode (kB K_MM_isPlan) 42 = .ok (.aload_n 0, 1) := by decide +kernel
theorem d_MM_isPlan_43 : decode (kB K_MM_isPlan) 43 = .ok (.iconst 1, 1) := by decide +kernel
theorem d_MM_isPlan_44 : decode (kB K_MM_isPlan) 44 = .ok (.invokevirtual 130, 3) := by decide +kernel
theorem d_MM_isPlan_47 : decode (kB K_MM_isPlan) 47 = .ok (.ifCond .eq 10, 3) := by decide +kernel
theorem d_MM_isPlan_50 : decode (kB K_MM_isPlan) 50 = .ok (.aload_n 0, 1) := by decide +kernel
theorem d_MM_isPlan_51 : decode (kB K_MM_isPlan) 51 = .ok (.invokevirtual 143, 3) := by decide +kernel
theorem d_MM_isPlan_54 : decode (kB K_MM_isPlan) 54 = .ok (.goto 7, 3) := by decide +kernel
theorem d_MM_isPlan_57 : decode (kB K_MM_isPlan) 57 = .ok (.aload_n 0, 1) := by decide +kernel
theorem d_MM_isPlan_58 : decode (kB K_MM_isPlan) 58 = .ok (.invokevirtual 147, 3) := by decide +kernel
theorem d_MM_isPlan_61 : decode (kB K_MM_isPlan) 61 = .ok (.istore_n 1, 1) := by decide +kernel
theorem d_MM_isPlan_62 : decode (kB K_MM_isPlan) 62 = .ok (.iload_n 1, 1) := by decide +kernel
theorem d_MM_isPlan_63 : decode (kB K_MM_isPlan) 63 = .ok (.ifCond .eq 12, 3) := by decide +kernel
theorem d_MM_isPlan_66 : decode (kB K_MM_isPlan) 66 = .ok (.aload_n 0, 1) := by decide +kernel
theorem d_MM_isPlan_67 : decode (kB K_MM_isPlan) 67 = .ok (.bipush 59, 2) := by decide +kernel
theorem d_MM_isPlan_69 : decode (kB K_MM_isPlan) 69 = .ok (.invokevirtual 150, 3) := by decide +kernel
theorem d_MM_isPlan_72 : decode (kB K_MM_isPlan) 72 = .ok (.ifCond .ne 5, 3) := by decide +kernel
theorem d_MM_isPlan_75 : decode (kB K_MM_isPlan) 75 = .ok (.iconst 0, 1) := by decide +kernel
theorem d_MM_isPlan_76 : decode (kB K_MM_isPlan) 76 = .ok (.ireturn, 1) := by decide +kernel
theorem d_MM_isPlan_77 : decode (kB K_MM_isPlan) 77 = .ok (.goto (-77), 3) := by decide +kernel
theorem d_MM_isPlan_80 : decode (kB K_MM_isPlan) 80 = .ok (.iconst 1, 1) := by decide +kernel
theorem d_MM_isPlan_81 : decode (kB K_MM_isPlan) 81 = .ok (.ireturn, 1) := by decide +kernel
def K_MM_isNew : KM := (⟨"ParishBoardsModel", "isNew", "(I)Z"⟩, prog_15_method_24_code, 2, (some (.boolean)), "ParishBoardsModel", [])
theorem d_MM_isNew_0 : decode (kB K_MM_isNew) 0 = .ok (.aload_n 0, 1) := by decide +kernel
theorem d_MM_isNew_1 : decode (kB K_MM_isNew) 1 = .ok (.dup, 1) := by decide +kernel
theorem d_MM_isNew_2 : decode (kB K_MM_isNew) 2 = .ok (.getfield 127, 3) := by decide +kernel
theorem d_MM_isNew_5 : decode (kB K_MM_isNew) 5 = .ok (.iconst 1, 1) := by decide +kernel
theorem d_MM_isNew_6 : decode (kB K_MM_isNew) 6 = .ok (.iadd, 1) := by decide +kernel
theorem d_MM_isNew_7 : decode (kB K_MM_isNew) 7 = .ok (.putfield 127, 3) := by decide +kernel
theorem d_MM_isNew_10 : decode (kB K_MM_isNew) 10 = .ok (.aload_n 0, 1) := by decide +kernel
theorem d_MM_isNew_11 : decode (kB K_MM_isNew) 11 = .ok (.bipush 40, 2) := by decide +kernel
theorem d_MM_isNew_13 : decode (kB K_MM_isNew) 13 = .ok (.iload_n 1, 1) := by decide +kernel
theorem d_MM_isNew_14 : decode (kB K_MM_isNew) 14 = .ok (.invokevirtual 154, 3) := by decide +kernel
theorem d_MM_isNew_17 : decode (kB K_MM_isNew) 17 = .ok (.ireturn, 1) := by decide +kernel
def K_MM_isRoadLine : KM := (⟨"ParishBoardsModel", "isRoadLine", "()Z"⟩, prog_15_method_25_code, 1, (some (.boolean)), "ParishBoardsModel", [])
theorem d_MM_isRoadLine_0 : decode (kB K_MM_isRoadLine) 0 = .ok (.aload_n 0, 1) := by decide +kernel
theorem d_MM_isRoadLine_1 : decode (kB K_MM_isRoadLine) 1 = .ok (.iconst 3, 1) := by decide +kernel
theorem d_MM_isRoadLine_2 : decode (kB K_MM_isRoadLine) 2 = .ok (.invokevirtual 140, 3) := by decide +kernel
theorem d_MM_isRoadLine_5 : decode (kB K_MM_isRoadLine) 5 = .ok (.ifCond .eq 62, 3) := by decide +kernel
theorem d_MM_isRoadLine_8 : decode (kB K_MM_isRoadLine) 8 = .ok (.aload_n 0, 1) := by decide +kernel
theorem d_MM_isRoadLine_9 : decode (kB K_MM_isRoadLine) 9 = .ok (.iconst 2, 1) := by decide +kernel
theorem d_MM_isRoadLine_10 : decode (kB K_MM_isRoadLine) 10 = .ok (.invokevirtual 133, 3) := by decide +kernel
theorem d_MM_isRoadLine_13 : decode (kB K_MM_isRoadLine) 13 = .ok (.ifCond .eq 54, 3) := by decide +kernel
theorem d_MM_isRoadLine_16 : decode (kB K_MM_isRoadLine) 16 = .ok (.aload_n 0, 1) := by decide +kernel
theorem d_MM_isRoadLine_17 : decode (kB K_MM_isRoadLine) 17 = .ok (.bipush 40, 2) := by decide +kernel
theorem d_MM_isRoadLine_19 : decode (kB K_MM_isRoadLine) 19 = .ok (.iconst 4, 1) := by decide +kernel
theorem d_MM_isRoadLine_20 : decode (kB K_MM_isRoadLine) 20 = .ok (.invokevirtual 154, 3) := by decide +kernel
theorem d_MM_isRoadLine_23 : decode (kB K_MM_isRoadLine) 23 = .ok (.ifCond .eq 44, 3) := by decide +kernel
theorem d_MM_isRoadLine_26 : decode (kB K_MM_isRoadLine) 26 = .ok (.aload_n 0, 1) := by decide +kernel
theorem d_MM_isRoadLine_27 : decode (kB K_MM_isRoadLine) 27 = .ok (.iconst 3, 1) := by decide +kernel
theorem d_MM_isRoadLine_28 : decode (kB K_MM_isRoadLine) 28 = .ok (.invokevirtual 133, 3) := by decide +kernel
theorem d_MM_isRoadLine_31 : decode (kB K_MM_isRoadLine) 31 = .ok (.ifCond .eq 36, 3) := by decide +kernel
theorem d_MM_isRoadLine_34 : decode (kB K_MM_isRoadLine) 34 = .ok (.aload_n 0, 1) := by decide +kernel
theorem d_MM_isRoadLine_35 : decode (kB K_MM_isRoadLine) 35 = .ok (.bipush 40, 2) := by decide +kernel
theorem d_MM_isRoadLine_37 : decode (kB K_MM_isRoadLine) 37 = .ok (.iconst 5, 1) := by decide +kernel
theorem d_MM_isRoadLine_38 : decode (kB K_MM_isRoadLine) 38 = .ok (.invokevirtual 154, 3) := by decide +kernel
theorem d_MM_isRoadLine_41 : decode (kB K_MM_isRoadLine) 41 = .ok (.ifCond .eq 26, 3) := by decide +kernel
theorem d_MM_isRoadLine_44 : decode (kB K_MM_isRoadLine) 44 = .ok (.aload_n 0, 1) := by decide +kernel
theorem d_MM_isRoadLine_45 : decode (kB K_MM_isRoadLine) 45 = .ok (.iconst 4, 1) := by decide +kernel
theorem d_MM_isRoadLine_46 : decode (kB K_MM_isRoadLine) 46 = .ok (.invokevirtual 133, 3) := by decide +kernel
theorem d_MM_isRoadLine_49 : decode (kB K_MM_isRoadLine) 49 = .ok (.ifCond .eq 18, 3) := by decide +kernel
theorem d_MM_isRoadLine_52 : decode (kB K_MM_isRoadLine) 52 = .ok (.aload_n 0, 1) := by decide +kernel
theorem d_MM_isRoadLine_53 : decode (kB K_MM_isRoadLine) 53 = .ok (.bipush 41, 2) := by decide +kernel
theorem d_MM_isRoadLine_55 : decode (kB K_MM_isRoadLine) 55 = .ok (.bipush 6, 2) := by decide +kernel
theorem d_MM_isRoadLine_57 : decode (kB K_MM_isRoadLine) 57 = .ok (.invokevirtual 154, 3) := by decide +kernel
theorem d_MM_isRoadLine_60 : decode (kB K_MM_isRoadLine) 60 = .ok (.ifCond .eq 7, 3) := by decide +kernel
theorem d_MM_isRoadLine_63 : decode (kB K_MM_isRoadLine) 63 = .ok (.iconst 1, 1) := by decide +kernel
theorem d_MM_isRoadLine_64 : decode (kB K_MM_isRoadLine) 64 = .ok (.goto 4, 3) := by decide +kernel
theorem d_MM_isRoadLine_67 : decode (kB K_MM_isRoadLine) 67 = .ok (.iconst 0, 1) := by decide +kernel
theorem d_MM_isRoadLine_68 : decode (kB K_MM_isRoadLine) 68 = .ok (.ireturn, 1) := by decide +kernel
def K_MM_isOrderLine : KM := (⟨"ParishBoardsModel", "isOrderLine", "()Z"⟩, prog_15_method_26_code, 4, (some (.boolean)), "ParishBoardsModel", [])
theorem d_MM_isOrderLine_0 : decode (kB K_MM_isOrderLine) 0 = .ok (.aload_n 0, 1) := by decide +kernel
theorem d_MM_isOrderLine_1 : decode (kB K_MM_isOrderLine) 1 = .ok (.getfield 17, 3) := by decide +kernel
theorem d_MM_isOrderLine_4 : decode (kB K_MM_isOrderLine) 4 = .ok (.aload_n 0, 1) := by decide +kernel
theorem d_MM_isOrderLine_5 : decode (kB K_MM_isOrderLine) 5 = .ok (.getfield 127, 3) := by decide +kernel
theorem d_MM_isOrderLine_8 : decode (kB K_MM_isOrderLine) 8 = .ok (.iaload, 1) := by decide +kernel
theorem d_MM_isOrderLine_9 : decode (kB K_MM_isOrderLine) 9 = .ok (.istore_n 1, 1) := by decide +kernel
theorem d_MM_isOrderLine_10 : decode (kB K_MM_isOrderLine) 10 = .ok (.iload_n 1, 1) := by decide +kernel
theorem d_MM_isOrderLine_11 : decode (kB K_MM_isOrderLine) 11 = .ok (.bipush 6, 2) := by decide +kernel
theorem d_MM_isOrderLine_13 : decode (kB K_MM_isOrderLine) 13 = .ok (.bipush 9, 2) := by decide +kernel
theorem d_MM_isOrderLine_15 : decode (kB K_MM_isOrderLine) 15 = .ok (.invokestatic 63, 3) := by decide +kernel
theorem d_MM_isOrderLine_18 : decode (kB K_MM_isOrderLine) 18 = .ok (.ifCond .ne 5, 3) := by decide +kernel
theorem d_MM_isOrderLine_21 : decode (kB K_MM_isOrderLine) 21 = .ok (.iconst 0, 1) := by decide +kernel
theorem d_MM_isOrderLine_22 : decode (kB K_MM_isOrderLine) 22 = .ok (.ireturn, 1) := by decide +kernel
theorem d_MM_isOrderLine_23 : decode (kB K_MM_isOrderLine) 23 = .ok (.aload_n 0, 1) := by decide +kernel
theorem d_MM_isOrderLine_24 : decode (kB K_MM_isOrderLine) 24 = .ok (.getfield 26, 3) := by decide +kernel
theorem d_MM_isOrderLine_27 : decode (kB K_MM_isOrderLine) 27 = .ok (.aload_n 0, 1) := by decide +kernel
theorem d_MM_isOrderLine_28 : decode (kB K_MM_isOrderLine) 28 = .ok (.getfield 127, 3) := by decide +kernel
theorem d_MM_isOrderLine_31 : decode (kB K_MM_isOrderLine) 31 = .ok (.bipush 7, 2) := by decide +kernel
theorem d_MM_isOrderLine_33 : decode (kB K_MM_isOrderLine) 33 = .ok (.iastore, 1) := by decide +kernel
theorem d_MM_isOrderLine_34 : decode (kB K_MM_isOrderLine) 34 = .ok (.aload_n 0, 1) := by decide +kernel
theorem d_MM_isOrderLine_35 : decode (kB K_MM_isOrderLine) 35 = .ok (.dup, 1) := by decide +kernel
theorem d_MM_isOrderLine_36 : decode (kB K_MM_isOrderLine) 36 = .ok (.getfield 127, 3) := by decide +kernel
theorem d_MM_isOrderLine_39 : decode (kB K_MM_isOrderLine) 39 = .ok (.iconst 1, 1) := by decide +kernel
theorem d_MM_isOrderLine_40 : decode (kB K_MM_isOrderLine) 40 = .ok (.iadd, 1) := by decide +kernel
theorem d_MM_isOrderLine_41 : decode (kB K_MM_isOrderLine) 41 = .ok (.putfield 127, 3) := by decide +kernel
theorem d_MM_isOrderLine_44 : decode (kB K_MM_isOrderLine) 44 = .ok (.aload_n 0, 1) := by decide +kernel
theorem d_MM_isOrderLine_45 : decode (kB K_MM_isOrderLine) 45 = .ok (.getfield 39, 3) := by decide +kernel
theorem d_MM_isOrderLine_48 : decode (kB K_MM_isOrderLine) 48 = .ok (.getfield 158, 3) := by decide +kernel
theorem d_MM_isOrderLine_51 : decode (kB K_MM_isOrderLine) 51 = .ok (.bipush 20, 2) := by decide +kernel
theorem d_MM_isOrderLine_53 : decode (kB K_MM_isOrderLine) 53 = .ok (.invokestatic 80, 3) := by decide +kernel
theorem d_MM_isOrderLine_56 : decode (kB K_MM_isOrderLine) 56 = .ok (.istore_n 2, 1) := by decide +kernel
theorem d_MM_isOrderLine_57 : decode (kB K_MM_isOrderLine) 57 = .ok (.aload_n 0, 1) := by decide +kernel
theorem d_MM_isOrderLine_58 : decode (kB K_MM_isOrderLine) 58 = .ok (.getfield 39, 3) := by decide +kernel
theorem d_MM_isOrderLine_61 : decode (kB K_MM_isOrderLine) 61 = .ok (.dup, 1) := by decide +kernel
theorem d_MM_isOrderLine_62 : decode (kB K_MM_isOrderLine) 62 = .ok (.getfield 158, 3) := by decide +kernel
theorem d_MM_isOrderLine_65 : decode (kB K_MM_isOrderLine) 65 = .ok (.iconst 1, 1) := by decide +kernel
theorem d_MM_isOrderLine_66 : decode (kB K_MM_isOrderLine) 66 = .ok (.iadd, 1) := by decide +kernel
theorem d_MM_isOrderLine_67 : decode (kB K_MM_isOrderLine) 67 = .ok (.putfield 158, 3) := by decide +kernel
theorem d_MM_isOrderLine_70 : decode (kB K_MM_isOrderLine) 70 = .ok (.iload_n 1, 1) := by decide +kernel
theorem d_MM_isOrderLine_71 : decode (kB K_MM_isOrderLine) 71 = .ok (.bipush 9, 2) := by decide +kernel
theorem d_MM_isOrderLine_73 : decode (kB K_MM_isOrderLine) 73 = .ok (.if_icmp .ne 17, 3) := by decide +kernel
theorem d_MM_isOrderLine_76 : decode (kB K_MM_isOrderLine) 76 = .ok (.aload_n 0, 1) := by decide +kernel
theorem d_MM_isOrderLine_77 : decode (kB K_MM_isOrderLine) 77 = .ok (.bipush 40, 2) := by decide +kernel
theorem d_MM_isOrderLine_79 : decode (kB K_MM_isOrderLine) 79 = .ok (.bipush 10, 2) := by decide +kernel
theorem d_MM_isOrderLine_81 : decode (kB K_MM_isOrderLine) 81 = .ok (.invokevirtual 154, 3) := by decide +kernel
theorem d_MM_isOrderLine_84 : decode (kB K_MM_isOrderLine) 84 = .ok (.ifCond .ne 30, 3) := by decide +kernel
theorem d_MM_isOrderLine_87 : decode (kB K_MM_isOrderLine) 87 = .ok (.goto 25, 3) := by decide +kernel
theorem d_MM_isOrderLine_90 : decode (kB K_MM_isOrderLine) 90 = .ok (.aload_n 0, 1) := by decide +kernel
theorem d_MM_isOrderLine_91 : decode (kB K_MM_isOrderLine) 91 = .ok (.bipush 40, 2) := by decide +kernel
theorem d_MM_isOrderLine_93 : decode (kB K_MM_isOrderLine) 93 = .ok (.bipush 8, 2) := by decide +kernel
theorem d_MM_isOrderLine_95 : decode (kB K_MM_isOrderLine) 95 = .ok (.invokevirtual 154, 3) := by decide +kernel
theorem d_MM_isOrderLine_98 : decode (kB K_MM_isOrderLine) 98 = .ok (.ifCond .eq 14, 3) := by decide +kernel
theorem d_MM_isOrderLine_101 : decode (kB K_MM_isOrderLine) 101 = .ok (.aload_n 0, 1) := by decide +kernel
theorem d_MM_isOrderLine_102 : decode (kB K_MM_isOrderLine) 102 = .ok (.bipush 40, 2) := by decide +kernel
theorem d_MM_isOrderLine_104 : decode (kB K_MM_isOrderLine) 104 = .ok (.bipush 9, 2) := by decide +kernel
theorem d_MM_isOrderLine_106 : decode (kB K_MM_isOrderLine) 106 = .ok (.invokevirtual 154, 3) := by decide +kernel
theorem d_MM_isOrderLine_109 : decode (kB K_MM_isOrderLine) 109 = .ok (.ifCond .ne 5, 3) := by decide +kernel
theorem d_MM_isOrderLine_112 : decode (kB K_MM_isOrderLine) 112 = .ok (.iconst 0, 1) := by decide +kernel
theorem d_MM_isOrderLine_113 : decode (kB K_MM_isOrderLine) 113 = .ok (.ireturn, 1) := by decide +kernel
theorem d_MM_isOrderLine_114 : decode (kB K_MM_isOrderLine) 114 = .ok (.aload_n 0, 1) := by decide +kernel
theorem d_MM_isOrderLine_115 : decode (kB K_MM_isOrderLine) 115 = .ok (.getfield 39, 3) := by decide +kernel
theorem d_MM_isOrderLine_118 : decode (kB K_MM_isOrderLine) 118 = .ok (.getfield 161, 3) := by decide +kernel
theorem d_MM_isOrderLine_121 : decode (kB K_MM_isOrderLine) 121 = .ok (.iload_n 2, 1) := by decide +kernel
theorem d_MM_isOrderLine_122 : decode (kB K_MM_isOrderLine) 122 = .ok (.aload_n 0, 1) := by decide +kernel
theorem d_MM_isOrderLine_123 : decode (kB K_MM_isOrderLine) 123 = .ok (.getfield 39, 3) := by decide +kernel
theorem d_MM_isOrderLine_126 : decode (kB K_MM_isOrderLine) 126 = .ok (.getfield 139, 3) := by decide +kernel
theorem d_MM_isOrderLine_129 : decode (kB K_MM_isOrderLine) 129 = .ok (.iastore, 1) := by decide +kernel
theorem d_MM_isOrderLine_130 : decode (kB K_MM_isOrderLine) 130 = .ok (.iload_n 1, 1) := by decide +kernel
theorem d_MM_isOrderLine_131 : decode (kB K_MM_isOrderLine) 131 = .ok (.bipush 6, 2) := by decide +kernel
theorem d_MM_isOrderLine_133 : decode (kB K_MM_isOrderLine) 133 = .ok (.if_icmp .eq 9, 3) := by decide +kernel
theorem d_MM_isOrderLine_136 : decode (kB K_MM_isOrderLine) 136 = .ok (.iload_n 1, 1) := by decide +kernel
theorem d_MM_isOrderLine_137 : decode (kB K_MM_isOrderLine) 137 = .ok (.bipush 7, 2) := by decide +kernel
theorem d_MM_isOrderLine_139 : decode (kB K_MM_isOrderLine) 139 = .ok (.if_icmp .ne 7, 3) := by decide +kernel
theorem d_MM_isOrderLine_142 : decode (kB K_MM_isOrderLine) 142 = .ok (.iconst 1, 1) := by decide +kernel
theorem d_MM_isOrderLine_143 : decode (kB K_MM_isOrderLine) 143 = .ok (.goto 4, 3) := by decide +kernel
theorem d_MM_isOrderLine_146 : decode (kB K_MM_isOrderLine) 146 = .ok (.iconst 0, 1) := by decide +kernel
theorem d_MM_isOrderLine_147 : decode (kB K_MM_isOrderLine) 147 = .ok (.istore_n 3, 1) := by decide +kernel
theorem d_MM_isOrderLine_148 : decode (kB K_MM_isOrderLine) 148 = .ok (.iload_n 3, 1) := by decide +kernel
theorem d_MM_isOrderLine_149 : decode (kB K_MM_isOrderLine) 149 = .ok (.ifCond .eq 32, 3) := by decide +kernel
theorem d_MM_isOrderLine_152 : decode (kB K_MM_isOrderLine) 152 = .ok (.aload_n 0, 1) := by decide +kernel
theorem d_MM_isOrderLine_153 : decode (kB K_MM_isOrderLine) 153 = .ok (.iload_n 1, 1) := by decide +kernel
theorem d_MM_isOrderLine_154 : decode (kB K_MM_isOrderLine) 154 = .ok (.bipush 6, 2) := by decide +kernel
theorem d_MM_isOrderLine_156 : decode (kB K_MM_isOrderLine) 156 = .ok (.if_icmp .ne 8, 3) := by decide +kernel
theorem d_MM_isOrderLine_159 : decode (kB K_MM_isOrderLine) 159 = .ok (.bipush 10, 2) := by decide +kernel
theorem d_MM_isOrderLine_161 : decode (kB K_MM_isOrderLine) 161 = .ok (.goto 5, 3) := by decide +kernel
theorem d_MM_isOrderLine_164 : decode (kB K_MM_isOrderLine) 164 = .ok (.bipush 11, 2) := by decide +kernel
theorem d_MM_isOrderLine_166 : decode (kB K_MM_isOrderLine) 166 = .ok (.invokevirtual 133, 3) := by decide +kernel
theorem d_MM_isOrderLine_169 : decode (kB K_MM_isOrderLine) 169 = .ok (.ifCond .eq 10, 3) := by decide +kernel
theorem d_MM_isOrderLine_172 : decode (kB K_MM_isOrderLine) 172 = .ok (.aload_n 0, 1) := by decide +kernel
theorem d_MM_isOrderLine_173 : decode (kB K_MM_isOrderLine) 173 = .ok (.invokevirtual 164, 3) := by decide +kernel
theorem d_MM_isOrderLine_176 : decode (kB K_MM_isOrderLine) 176 = .ok (.ifCond .ne 5, 3) := by decide +kernel
theorem d_MM_isOrderLine_179 : decode (kB K_MM_isOrderLine) 179 = .ok (.iconst 0, 1) := by decide +kernel
theorem d_MM_isOrderLine_180 : decode (kB K_MM_isOrderLine) 180 = .ok (.ireturn, 1) := by decide +kernel
theorem d_MM_isOrderLine_181 : decode (kB K_MM_isOrderLine) 181 = .ok (.iload_n 1, 1) := by decide +kernel
theorem d_MM_isOrderLine_182 : decode (kB K_MM_isOrderLine) 182 = .ok (.bipush 8, 2) := by decide +kernel
theorem d_MM_isOrderLine_184 : decode (kB K_MM_isOrderLine) 184 = .ok (.if_icmp .ne 21, 3) := by decide +kernel
theorem d_MM_isOrderLine_187 : decode (kB K_MM_isOrderLine) 187 = .ok (.aload_n 0, 1) := by decide +kernel
theorem d_MM_isOrderLine_188 : decode (kB K_MM_isOrderLine) 188 = .ok (.bipush 12, 2) := by decide +kernel
theorem d_MM_isOrderLine_190 : decode (kB K_MM_isOrderLine) 190 = .ok (.invokevirtual 133, 3) := by decide +kernel
theorem d_MM_isOrderLine_193 : decode (kB K_MM_isOrderLine) 193 = .ok (.ifCond .eq 10, 3) := by decide +kernel
theorem d_MM_isOrderLine_196 : decode (kB K_MM_isOrderLine) 196 = .ok (.aload_n 0, 1) := by decide +kernel
theorem d_MM_isOrderLine_197 : decode (kB K_MM_isOrderLine) 197 = .ok (.invokevirtual 167, 3) := by decide +kernel
theorem d_MM_isOrderLine_200 : decode (kB K_MM_isOrderLine) 200 = .ok (.ifCond .ne 5, 3) := by decide +kernel
theorem d_MM_isOrderLine_203 : decode (kB K_MM_isOrderLine) 203 = .ok (.iconst 0, 1) := by decide +kernel
theorem d_MM_isOrderLine_204 : decode (kB K_MM_isOrderLine) 204 = .ok (.ireturn, 1) := by decide +kernel
theorem d_MM_isOrderLine_205 : decode (kB K_MM_isOrderLine) 205 = .ok (.aload_n 0, 1) := by decide +kernel
theorem d_MM_isOrderLine_206 : decode (kB K_MM_isOrderLine) 206 = .ok (.getfield 39, 3) := by decide +kernel
theorem d_MM_isOrderLine_209 : decode (kB K_MM_isOrderLine) 209 = .ok (.getfield 170, 3) := by decide +kernel
theorem d_MM_isOrderLine_212 : decode (kB K_MM_isOrderLine) 212 = .ok (.iload_n 2, 1) := by decide +kernel
theorem d_MM_isOrderLine_213 : decode (kB K_MM_isOrderLine) 213 = .ok (.aload_n 0, 1) := by decide +kernel
theorem d_MM_isOrderLine_214 : decode (kB K_MM_isOrderLine) 214 = .ok (.getfield 39, 3) := by decide +kernel
theorem d_MM_isOrderLine_217 : decode (kB K_MM_isOrderLine) 217 = .ok (.getfield 139, 3) := by decide +kernel
theorem d_MM_isOrderLine_220 : decode (kB K_MM_isOrderLine) 220 = .ok (.iastore, 1) := by decide +kernel
theorem d_MM_isOrderLine_221 : decode (kB K_MM_isOrderLine) 221 = .ok (.aload_n 0, 1) := by decide +kernel
theorem d_MM_isOrderLine_222 : decode (kB K_MM_isOrderLine) 222 = .ok (.getfield 39, 3) := by decide +kernel
theorem d_MM_isOrderLine_225 : decode (kB K_MM_isOrderLine) 225 = .ok (.getfield 173, 3) := by decide +kernel
theorem d_MM_isOrderLine_228 : decode (kB K_MM_isOrderLine) 228 = .ok (.iload_n 2, 1) := by decide +kernel
theorem d_MM_isOrderLine_229 : decode (kB K_MM_isOrderLine) 229 = .ok (.aload_n 0, 1) := by decide +kernel
theorem d_MM_isOrderLine_230 : decode (kB K_MM_isOrderLine) 230 = .ok (.getfield 39, 3) := by decide +kernel
theorem d_MM_isOrderLine_233 : decode (kB K_MM_isOrderLine) 233 = .ok (.getfield 139, 3) := by decide +kernel
theorem d_MM_isOrderLine_236 : decode (kB K_MM_isOrderLine) 236 = .ok (.iastore, 1) := by decide +kernel
theorem d_MM_isOrderLine_237 : decode (kB K_MM_isOrderLine) 237 = .ok (.iload_n 3, 1) := by decide +kernel
theorem d_MM_isOrderLine_238 : decode (kB K_MM_isOrderLine) 238 = .ok (.ifCond .ne 14, 3) := by decide +kernel
theorem d_MM_isOrderLine_241 : decode (kB K_MM_isOrderLine) 241 = .ok (.aload_n 0, 1) := by decide +kernel
theorem d_MM_isOrderLine_242 : decode (kB K_MM_isOrderLine) 242 = .ok (.bipush 16, 2) := by decide +kernel
theorem d_MM_isOrderLine_244 : decode (kB K_MM_isOrderLine) 244 = .ok (.invokevirtual 130, 3) := by decide +kernel
theorem d_MM_isOrderLine_247 : decode (kB K_MM_isOrderLine) 247 = .ok (.ifCond .ne 5, 3) := by decide +kernel
theorem d_MM_isOrderLine_250 : decode (kB K_MM_isOrderLine) 250 = .ok (.iconst 1, 1) := by decide +kernel
theorem d_MM_isOrderLine_251 : decode (kB K_MM_isOrderLine) 251 = .ok (.ireturn, 1) := by decide +kernel
theorem d_MM_isOrderLine_252 : decode (kB K_MM_isOrderLine) 252 = .ok (.aload_n 0, 1) := by decide +kernel
theorem d_MM_isOrderLine_253 : decode (kB K_MM_isOrderLine) 253 = .ok (.bipush 16, 2) := by decide +kernel
theorem d_MM_isOrderLine_255 : decode (kB K_MM_isOrderLine) 255 = .ok (.invokevirtual 133, 3) := by decide +kernel
theorem d_MM_isOrderLine_258 : decode (kB K_MM_isOrderLine) 258 = .ok (.ifCond .eq 10, 3) := by decide +kernel
theorem d_MM_isOrderLine_261 : decode (kB K_MM_isOrderLine) 261 = .ok (.aload_n 0, 1) := by decide +kernel
theorem d_MM_isOrderLine_262 : decode (kB K_MM_isOrderLine) 262 = .ok (.invokevirtual 176, 3) := by decide +kernel
theorem d_MM_isOrderLine_265 : decode (kB K_MM_isOrderLine) 265 = .ok (.ifCond .ne 5, 3) := by decide +kernel
theorem d_MM_isOrderLine_268 : decode (kB K_MM_isOrderLine) 268 = .ok (.iconst 0, 1) := by decide +kernel
theorem d_MM_isOrderLine_269 : decode (kB K_MM_isOrderLine) 269 = .ok (.ireturn, 1) := by decide +kernel
theorem d_MM_isOrderLine_270 : decode (kB K_MM_isOrderLine) 270 = .ok (.aload_n 0, 1) := by decide +kernel
theorem d_MM_isOrderLine_271 : decode (kB K_MM_isOrderLine) 271 = .ok (.getfield 39, 3) := by decide +kernel
theorem d_MM_isOrderLine_274 : decode (kB K_MM_isOrderLine) 274 = .ok (.getfield 173, 3) := by decide +kernel
theorem d_MM_isOrderLine_277 : decode (kB K_MM_isOrderLine) 277 = .ok (.iload_n 2, 1) := by decide +kernel
theorem d_MM_isOrderLine_278 : decode (kB K_MM_isOrderLine) 278 = .ok (.aload_n 0, 1) := by decide +kernel
theorem d_MM_isOrderLine_279 : decode (kB K_MM_isOrderLine) 279 = .ok (.getfield 39, 3) := by decide +kernel
theorem d_MM_isOrderLine_282 : decode (kB K_MM_isOrderLine) 282 = .ok (.getfield 139, 3) := by decide +kernel
theorem d_MM_isOrderLine_285 : decode (kB K_MM_isOrderLine) 285 = .ok (.iastore, 1) := by decide +kernel
theorem d_MM_isOrderLine_286 : decode (kB K_MM_isOrderLine) 286 = .ok (.iconst 1, 1) := by decide +kernel
theorem d_MM_isOrderLine_287 : decode (kB K_MM_isOrderLine) 287 = .ok (.ireturn, 1) := by decide +kernel
def K_MM_isWay : KM := (⟨"ParishBoardsModel", "isWay", "()Z"⟩, prog_15_method_27_code, 1, (some (.boolean)), "ParishBoardsModel", [])
theorem d_MM_isWay_0 : decode (kB K_MM_isWay) 0 = .ok (.aload_n 0, 1) := by decide +kernel
theorem d_MM_isWay_1 : decode (kB K_MM_isWay) 1 = .ok (.getfield 26, 3) := by decide +kernel
theorem d_MM_isWay_4 : decode (kB K_MM_isWay) 4 = .ok (.aload_n 0, 1) := by decide +kernel
theorem d_MM_isWay_5 : decode (kB K_MM_isWay) 5 = .ok (.getfield 127, 3) := by decide +kernel
theorem d_MM_isWay_8 : decode (kB K_MM_isWay) 8 = .ok (.bipush 11, 2) := by decide +kernel
theorem d_MM_isWay_10 : decode (kB K_MM_isWay) 10 = .ok (.iastore, 1) := by decide +kernel
theorem d_MM_isWay_11 : decode (kB K_MM_isWay) 11 = .ok (.aload_n 0, 1) := by decide +kernel
theorem d_MM_isWay_12 : decode (kB K_MM_isWay) 12 = .ok (.getfield 17, 3) := by decide +kernel
theorem d_MM_isWay_15 : decode (kB K_MM_isWay) 15 = .ok (.aload_n 0, 1) := by decide +kernel
theorem d_MM_isWay_16 : decode (kB K_MM_isWay) 16 = .ok (.getfield 127, 3) := by decide +kernel
theorem d_MM_isWay_19 : decode (kB K_MM_isWay) 19 = .ok (.iaload, 1) := by decide +kernel
theorem d_MM_isWay_20 : decode (kB K_MM_isWay) 20 = .ok (.bipush 13, 2) := by decide +kernel
theorem d_MM_isWay_22 : decode (kB K_MM_isWay) 22 = .ok (.bipush 15, 2) := by decide +kernel
theorem d_MM_isWay_24 : decode (kB K_MM_isWay) 24 = .ok (.invokestatic 63, 3) := by decide +kernel
theorem d_MM_isWay_27 : decode (kB K_MM_isWay) 27 = .ok (.ifCond .ne 5, 3) := by decide +kernel
theorem d_MM_isWay_30 : decode (kB K_MM_isWay) 30 = .ok (.iconst 0, 1) := by decide +kernel
theorem d_MM_isWay_31 : decode (kB K_MM_isWay) 31 = .ok (.ireturn, 1) := by decide +kernel
theorem d_MM_isWay_32 : decode (kB K_MM_isWay) 32 = .ok (.aload_n 0, 1) := by decide +kernel
theorem d_MM_isWay_33 : decode (kB K_MM_isWay) 33 = .ok (.dup, 1) := by decide +kernel
theorem d_MM_isWay_34 : decode (kB K_MM_isWay) 34 = .ok (.getfield 127, 3) := by decide +kernel
theorem d_MM_isWay_37 : decode (kB K_MM_isWay) 37 = .ok (.iconst 1, 1) := by decide +kernel
theorem d_MM_isWay_38 : decode (kB K_MM_isWay) 38 = .ok (.iadd, 1) := by decide +kernel
theorem d_MM_isWay_39 : decode (kB K_MM_isWay) 39 = .ok (.putfield 127, 3) := by decide +kernel
theorem d_MM_isWay_42 : decode (kB K_MM_isWay) 42 = .ok (.iconst 1, 1) := by decide +kernel
theorem d_MM_isWay_43 : decode (kB K_MM_isWay) 43 = .ok (.ireturn, 1) := by decide +kernel
def K_MM_isTest : KM := (⟨"ParishBoardsModel", "isTest", "()Z"⟩, prog_15_method_28_code, 1, (some (.boolean)), "ParishBoardsModel", [])
theorem d_MM_isTest_0 : decode (kB K_MM_isTest) 0 = .ok (.aload_n 0, 1) := by decide +kernel
theorem d_MM_isTest_1 : decode (kB K_MM_isTest) 1 = .ok (.invokevirtual 179, 3) := by decide +kernel
theorem d_MM_isTest_4 : decode (kB K_MM_isTest) 4 = .ok (.ifCond .ne 5, 3) := by decide +kernel
theorem d_MM_isTest_7 : decode (kB K_MM_isTest) 7 = .ok (.iconst 0, 1) := by decide +kernel
theorem d_MM_isTest_8 : decode (kB K_MM_isTest) 8 = .ok (.ireturn, 1) := by decide +kernel
theorem d_MM_isTest_9 : decode (kB K_MM_isTest) 9 = .ok (.aload_n 0, 1) := by decide +kernel
theorem d_MM_isTest_10 : decode (kB K_MM_isTest) 10 = .ok (.bipush 26, 2) := by decide +kernel
theorem d_MM_isTest_12 : decode (kB K_MM_isTest) 12 = .ok (.invokevirtual 133, 3) := by decide +kernel
theorem d_MM_isTest_15 : decode (kB K_MM_isTest) 15 = .ok (.ifCond .eq 21, 3) := by decide +kernel
theorem d_MM_isTest_18 : decode (kB K_MM_isTest) 18 = .ok (.aload_n 0, 1) := by decide +kernel
theorem d_MM_isTest_19 : decode (kB K_MM_isTest) 19 = .ok (.invokevirtual 179, 3) := by decide +kernel
theorem d_MM_isTest_22 : decode (kB K_MM_isTest) 22 = .ok (.ifCond .ne 5, 3) := by decide +kernel
theorem d_MM_isTest_25 : decode (kB K_MM_isTest) 25 = .ok (.iconst 0, 1) := by decide +kernel
theorem d_MM_isTest_26 : decode (kB K_MM_isTest) 26 = .ok (.ireturn, 1) := by decide +kernel
theorem d_MM_isTest_27 : decode (kB K_MM_isTest) 27 = .ok (.aload_n 0, 1) := by decide +kernel
theorem d_MM_isTest_28 : decode (kB K_MM_isTest) 28 = .ok (.bipush 26, 2) := by decide +kernel
theorem d_MM_isTest_30 : decode (kB K_MM_isTest) 30 = .ok (.invokevirtual 182, 3) := by decide +kernel
theorem d_MM_isTest_33 : decode (kB K_MM_isTest) 33 = .ok (.goto (-24), 3) := by decide +kernel
theorem d_MM_isTest_36 : decode (kB K_MM_isTest) 36 = .ok (.iconst 1, 1) := by decide +kernel
theorem d_MM_isTest_37 : decode (kB K_MM_isTest) 37 = .ok (.ireturn, 1) := by decide +kernel
def K_MM_isBoth : KM := (⟨"ParishBoardsModel", "isBoth", "()Z"⟩, prog_15_method_29_code, 1, (some (.boolean)), "ParishBoardsModel", [])
theorem d_MM_isBoth_0 : decode (kB K_MM_isBoth) 0 = .ok (.aload_n 0, 1) := by decide +kernel
theorem d_MM_isBoth_1 : decode (kB K_MM_isBoth) 1 = .ok (.invokevirtual 186, 3) := by decide +kernel
theorem d_MM_isBoth_4 : decode (kB K_MM_isBoth) 4 = .ok (.ifCond .ne 5, 3) := by decide +kernel
theorem d_MM_isBoth_7 : decode (kB K_MM_isBoth) 7 = .ok (.iconst 0, 1) := by decide +kernel
theorem d_MM_isBoth_8 : decode (kB K_MM_isBoth) 8 = .ok (.ireturn, 1) := by decide +kernel
theorem d_MM_isBoth_9 : decode (kB K_MM_isBoth) 9 = .ok (.aload_n 0, 1) := by decide +kernel
theorem d_MM_isBoth_10 : decode (kB K_MM_isBoth) 10 = .ok (.bipush 25, 2) := by decide +kernel
theorem d_MM_isBoth_12 : decode (kB K_MM_isBoth) 12 = .ok (.invokevirtual 133, 3) := by decide +kernel
theorem d_MM_isBoth_15 : decode (kB K_MM_isBoth) 15 = .ok (.ifCond .eq 21, 3) := by decide +kernel
theorem d_MM_isBoth_18 : decode (kB K_MM_isBoth) 18 = .ok (.aload_n 0, 1) := by decide +kernel
theorem d_MM_isBoth_19 : decode (kB K_MM_isBoth) 19 = .ok (.invokevirtual 186, 3) := by decide +kernel
theorem d_MM_isBoth_22 : decode (kB K_MM_isBoth) 22 = .ok (.ifCond .ne 5, 3) := by decide +kernel
theorem d_MM_isBoth_25 : decode (kB K_MM_isBoth) 25 = .ok (.iconst 0, 1) := by decide +kernel
theorem d_MM_isBoth_26 : decode (kB K_MM_isBoth) 26 = .ok (.ireturn, 1) := by decide +kernel
theorem d_MM_isBoth_27 : decode (kB K_MM_isBoth) 27 = .ok (.aload_n 0, 1) := by decide +kernel
theorem d_MM_isBoth_28 : decode (kB K_MM_isBoth) 28 = .ok (.bipush 25, 2) := by decide +kernel
theorem d_MM_isBoth_30 : decode (kB K_MM_isBoth) 30 = .ok (.invokevirtual 182, 3) := by decide +kernel
theorem d_MM_isBoth_33 : decode (kB K_MM_isBoth) 33 = .ok (.goto (-24), 3) := by decide +kernel
theorem d_MM_isBoth_36 : decode (kB K_MM_isBoth) 36 = .ok (.iconst 1, 1) := by decide +kernel
theorem d_MM_isBoth_37 : decode (kB K_MM_isBoth) 37 = .ok (.ireturn, 1) := by decide +kernel
def K_MM_isDeeper : KM := (⟨"ParishBoardsModel", "isDeeper", "()Z"⟩, prog_15_method_30_code, 1, (some (.boolean)), "ParishBoardsModel", [])
theorem d_MM_isDeeper_0 : decode (kB K_MM_isDeeper) 0 = .ok (.aload_n 0, 1) := by decide +kernel
theorem d_MM_isDeeper_1 : decode (kB K_MM_isDeeper) 1 = .ok (.getfield 189, 3) := by decide +kernel
theorem d_MM_isDeeper_4 : decode (kB K_MM_isDeeper) 4 = .ok (.bipush 8, 2) := by decide +kernel
theorem d_MM_isDeeper_6 : decode (kB K_MM_isDeeper) 6 = .ok (.if_icmp .ne 5, 3) := by decide +kernel
theorem d_MM_isDeeper_9 : decode (kB K_MM_isDeeper) 9 = .ok (.iconst 0, 1) := by decide +kernel
theorem d_MM_isDeeper_10 : decode (kB K_MM_isDeeper) 10 = .ok (.ireturn, 1) := by decide +kernel
theorem d_MM_isDeeper_11 : decode (kB K_MM_isDeeper) 11 = .ok (.aload_n 0, 1) := by decide +kernel
theorem d_MM_isDeeper_12 : decode (kB K_MM_isDeeper) 12 = .ok (.dup, 1) := by decide +kernel
theorem d_MM_isDeeper_13 : decode (kB K_MM_isDeeper) 13 = .ok (.getfield 189, 3) := by decide +kernel
theorem d_MM_isDeeper_16 : decode (kB K_MM_isDeeper) 16 = .ok (.iconst 1, 1) := by decide +kernel
theorem d_MM_isDeeper_17 : decode (kB K_MM_isDeeper) 17 = .ok (.iadd, 1) := by decide +kernel
theorem d_MM_isDeeper_18 : decode (kB K_MM_isDeeper) 18 = .ok (.putfield 189, 3) := by decide +kernel
theorem d_MM_isDeeper_21 : decode (kB K_MM_isDeeper) 21 = .ok (.aload_n 0, 1) := by decide +kernel
theorem d_MM_isDeeper_22 : decode (kB K_MM_isDeeper) 22 = .ok (.dup, 1) := by decide +kernel
theorem d_MM_isDeeper_23 : decode (kB K_MM_isDeeper) 23 = .ok (.getfield 127, 3) := by decide +kernel
theorem d_MM_isDeeper_26 : decode (kB K_MM_isDeeper) 26 = .ok (.iconst 1, 1) := by decide +kernel
theorem d_MM_isDeeper_27 : decode (kB K_MM_isDeeper) 27 = .ok (.iadd, 1) := by decide +kernel
theorem d_MM_isDeeper_28 : decode (kB K_MM_isDeeper) 28 = .ok (.putfield 127, 3) := by decide +kernel
theorem d_MM_isDeeper_31 : decode (kB K_MM_isDeeper) 31 = .ok (.iconst 1, 1) := by decide +kernel
theorem d_MM_isDeeper_32 : decode (kB K_MM_isDeeper) 32 = .ok (.ireturn, 1) := by decide +kernel
def K_MM_isName : KM := (⟨"ParishBoardsModel", "isName", "(I)Z"⟩, prog_15_method_31_code, 2, (some (.boolean)), "ParishBoardsModel", [])
theorem d_MM_isName_0 : decode (kB K_MM_isName) 0 = .ok (.aload_n 0, 1) := by decide +kernel
theorem d_MM_isName_1 : decode (kB K_MM_isName) 1 = .ok (.getfield 39, 3) := by decide +kernel
theorem d_MM_isName_4 : decode (kB K_MM_isName) 4 = .ok (.getfield 192, 3) := by decide +kernel
theorem d_MM_isName_7 : decode (kB K_MM_isName) 7 = .ok (.aload_n 0, 1) := by decide +kernel
theorem d_MM_isName_8 : decode (kB K_MM_isName) 8 = .ok (.getfield 39, 3) := by decide +kernel
theorem d_MM_isName_11 : decode (kB K_MM_isName) 11 = .ok (.getfield 195, 3) := by decide +kernel
theorem d_MM_isName_14 : decode (kB K_MM_isName) 14 = .ok (.aload_n 0, 1) := by decide +kernel
theorem d_MM_isName_15 : decode (kB K_MM_isName) 15 = .ok (.getfield 39, 3) := by decide +kernel
theorem d_MM_isName_18 : decode (kB K_MM_isName) 18 = .ok (.getfield 139, 3) := by decide +kernel
theorem d_MM_isName_21 : decode (kB K_MM_isName) 21 = .ok (.iastore, 1) := by decide +kernel
theorem d_MM_isName_22 : decode (kB K_MM_isName) 22 = .ok (.aload_n 0, 1) := by decide +kernel
theorem d_MM_isName_23 : decode (kB K_MM_isName) 23 = .ok (.getfield 39, 3) := by decide +kernel
theorem d_MM_isName_26 : decode (kB K_MM_isName) 26 = .ok (.dup, 1) := by decide +kernel
theorem d_MM_isName_27 : decode (kB K_MM_isName) 27 = .ok (.getfield 195, 3) := by decide +kernel
theorem d_MM_isName_30 : decode (kB K_MM_isName) 30 = .ok (.iconst 1, 1) := by decide +kernel
theorem d_MM_isName_31 : decode (kB K_MM_isName) 31 = .ok (.iadd, 1) := by decide +kernel
theorem d_MM_isName_32 : decode (kB K_MM_isName) 32 = .ok (.putfield 195, 3) := by decide +kernel
theorem d_MM_isName_35 : decode (kB K_MM_isName) 35 = .ok (.aload_n 0, 1) := by decide +kernel
theorem d_MM_isName_36 : decode (kB K_MM_isName) 36 = .ok (.aload_n 0, 1) := by decide +kernel
theorem d_MM_isName_37 : decode (kB K_MM_isName) 37 = .ok (.getfield 127, 3) := by decide +kernel
theorem d_MM_isName_40 : decode (kB K_MM_isName) 40 = .ok (.invokevirtual 182, 3) := by decide +kernel
theorem d_MM_isName_43 : decode (kB K_MM_isName) 43 = .ok (.aload_n 0, 1) := by decide +kernel
theorem d_MM_isName_44 : decode (kB K_MM_isName) 44 = .ok (.bipush 40, 2) := by decide +kernel
theorem d_MM_isName_46 : decode (kB K_MM_isName) 46 = .ok (.iload_n 1, 1) := by decide +kernel
theorem d_MM_isName_47 : decode (kB K_MM_isName) 47 = .ok (.invokevirtual 154, 3) := by decide +kernel
theorem d_MM_isName_50 : decode (kB K_MM_isName) 50 = .ok (.ireturn, 1) := by decide +kernel
def K_MM_isNamed : KM := (⟨"ParishBoardsModel", "isNamed", "(I)Z"⟩, prog_15_method_32_code, 2, (some (.boolean)), "ParishBoardsModel", [])
theorem d_MM_isNamed_0 : decode (kB K_MM_isNamed) 0 = .ok (.aload_n 0, 1) := by decide +kernel
theorem d_MM_isNamed_1 : decode (kB K_MM_isNamed) 1 = .ok (.aload_n 0, 1) := by decide +kernel
theorem d_MM_isNamed_2 : decode (kB K_MM_isNamed) 2 = .ok (.getfield 17, 3) := by decide +kernel
theorem d_MM_isNamed_5 : decode (kB K_MM_isNamed) 5 = .ok (.aload_n 0, 1) := by decide +kernel
theorem d_MM_isNamed_6 : decode (kB K_MM_isNamed) 6 = .ok (.getfield 127, 3) := by decide +kernel
theorem d_MM_isNamed_9 : decode (kB K_MM_isNamed) 9 = .ok (.iaload, 1) := by decide +kernel
theorem d_MM_isNamed_10 : decode (kB K_MM_isNamed) 10 = .ok (.invokevirtual 182, 3) := by decide +kernel
theorem d_MM_isNamed_13 : decode (kB K_MM_isNamed) 13 = .ok (.aload_n 0, 1) := by decide +kernel
theorem d_MM_isNamed_14 : decode (kB K_MM_isNamed) 14 = .ok (.dup, 1) := by decide +kernel
theorem d_MM_isNamed_15 : decode (kB K_MM_isNamed) 15 = .ok (.getfield 127, 3) := by decide +kernel
theorem d_MM_isNamed_18 : decode (kB K_MM_isNamed) 18 = .ok (.iconst 1, 1) := by decide +kernel
theorem d_MM_isNamed_19 : decode (kB K_MM_isNamed) 19 = .ok (.iadd, 1) := by decide +kernel
theorem d_MM_isNamed_20 : decode (kB K_MM_isNamed) 20 = .ok (.putfield 127, 3) := by decide +kernel
theorem d_MM_isNamed_23 : decode (kB K_MM_isNamed) 23 = .ok (.aload_n 0, 1) := by decide +kernel
theorem d_MM_isNamed_24 : decode (kB K_MM_isNamed) 24 = .ok (.iload_n 1, 1) := by decide +kernel
theorem d_MM_isNamed_25 : decode (kB K_MM_isNamed) 25 = .ok (.invokevirtual 198, 3) := by decide +kernel
theorem d_MM_isNamed_28 : decode (kB K_MM_isNamed) 28 = .ok (.ireturn, 1) := by decide +kernel
def K_MM_isSingle : KM := (⟨"ParishBoardsModel", "isSingle", "()Z"⟩, prog_15_method_33_code, 2, (some (.boolean)), "ParishBoardsModel", [])
theorem d_MM_isSingle_0 : decode (kB K_MM_isSingle) 0 = .ok (.aload_n 0, 1) := by decide +kernel
theorem d_MM_isSingle_1 : decode (kB K_MM_isSingle) 1 = .ok (.bipush 24, 2) := by decide +kernel
theorem d_MM_isSingle_3 : decode (kB K_MM_isSingle) 3 = .ok (.invokevirtual 130, 3) := by decide +kernel
theorem d_MM_isSingle_6 : decode (kB K_MM_isSingle) 6 = .ok (.ifCond .eq 37, 3) := by decide +kernel
theorem d_MM_isSingle_9 : decode (kB K_MM_isSingle) 9 = .ok (.aload_n 0, 1) := by decide +kernel
theorem d_MM_isSingle_10 : decode (kB K_MM_isSingle) 10 = .ok (.invokevirtual 201, 3) := by decide +kernel
theorem d_MM_isSingle_13 : decode (kB K_MM_isSingle) 13 = .ok (.ifCond .eq 10, 3) := by decide +kernel
theorem d_MM_isSingle_16 : decode (kB K_MM_isSingle) 16 = .ok (.aload_n 0, 1) := by decide +kernel
theorem d_MM_isSingle_17 : decode (kB K_MM_isSingle) 17 = .ok (.invokevirtual 186, 3) := by decide +kernel
theorem d_MM_isSingle_20 : decode (kB K_MM_isSingle) 20 = .ok (.ifCond .ne 5, 3) := by decide +kernel
theorem d_MM_isSingle_23 : decode (kB K_MM_isSingle) 23 = .ok (.iconst 0, 1) := by decide +kernel
theorem d_MM_isSingle_24 : decode (kB K_MM_isSingle) 24 = .ok (.ireturn, 1) := by decide +kernel
theorem d_MM_isSingle_25 : decode (kB K_MM_isSingle) 25 = .ok (.aload_n 0, 1) := by decide +kernel
theorem d_MM_isSingle_26 : decode (kB K_MM_isSingle) 26 = .ok (.dup, 1) := by decide +kernel
theorem d_MM_isSingle_27 : decode (kB K_MM_isSingle) 27 = .ok (.getfield 189, 3) := by decide +kernel
theorem d_MM_isSingle_30 : decode (kB K_MM_isSingle) 30 = .ok (.iconst 1, 1) := by decide +kernel
theorem d_MM_isSingle_31 : decode (kB K_MM_isSingle) 31 = .ok (.isub, 1) := by decide +kernel
theorem d_MM_isSingle_32 : decode (kB K_MM_isSingle) 32 = .ok (.putfield 189, 3) := by decide +kernel
theorem d_MM_isSingle_35 : decode (kB K_MM_isSingle) 35 = .ok (.aload_n 0, 1) := by decide +kernel
theorem d_MM_isSingle_36 : decode (kB K_MM_isSingle) 36 = .ok (.bipush 24, 2) := by decide +kernel
theorem d_MM_isSingle_38 : decode (kB K_MM_isSingle) 38 = .ok (.invokevirtual 182, 3) := by decide +kernel
theorem d_MM_isSingle_41 : decode (kB K_MM_isSingle) 41 = .ok (.iconst 1, 1) := by decide +kernel
theorem d_MM_isSingle_42 : decode (kB K_MM_isSingle) 42 = .ok (.ireturn, 1) := by decide +kernel
theorem d_MM_isSingle_43 : decode (kB K_MM_isSingle) 43 = .ok (.aload_n 0, 1) := by decide +kernel
theorem d_MM_isSingle_44 : decode (kB K_MM_isSingle) 44 = .ok (.bipush 91, 2) := by decide +kernel
theorem d_MM_isSingle_46 : decode (kB K_MM_isSingle) 46 = .ok (.invokevirtual 204, 3) := by decide +kernel
theorem d_MM_isSingle_49 : decode (kB K_MM_isSingle) 49 = .ok (.ifCond .eq 36, 3) := by decide +kernel
theorem d_MM_isSingle_52 : decode (kB K_MM_isSingle) 52 = .ok (.aload_n 0, 1) := by decide +kernel
theorem d_MM_isSingle_53 : decode (kB K_MM_isSingle) 53 = .ok (.invokevirtual 201, 3) := by decide +kernel
theorem d_MM_isSingle_56 : decode (kB K_MM_isSingle) 56 = .ok (.ifCond .eq 10, 3) := by decide +kernel
theorem d_MM_isSingle_59 : decode (kB K_MM_isSingle) 59 = .ok (.aload_n 0, 1) := by decide +kernel
theorem d_MM_isSingle_60 : decode (kB K_MM_isSingle) 60 = .ok (.invokevirtual 176, 3) := by decide +kernel
theorem d_MM_isSingle_63 : decode (kB K_MM_isSingle) 63 = .ok (.ifCond .ne 5, 3) := by decide +kernel
theorem d_MM_isSingle_66 : decode (kB K_MM_isSingle) 66 = .ok (.iconst 0, 1) := by decide +kernel
theorem d_MM_isSingle_67 : decode (kB K_MM_isSingle) 67 = .ok (.ireturn, 1) := by decide +kernel
theorem d_MM_isSingle_68 : decode (kB K_MM_isSingle) 68 = .ok (.aload_n 0, 1) := by decide +kernel
theorem d_MM_isSingle_69 : decode (kB K_MM_isSingle) 69 = .ok (.dup, 1) := by decide +kernel
theorem d_MM_isSingle_70 : decode (kB K_MM_isSingle) 70 = .ok (.getfield 189, 3) := by decide +kernel
theorem d_MM_isSingle_73 : decode (kB K_MM_isSingle) 73 = .ok (.iconst 1, 1) := by decide +kernel
theorem d_MM_isSingle_74 : decode (kB K_MM_isSingle) 74 = .ok (.isub, 1) := by decide +kernel
theorem d_MM_isSingle_75 : decode (kB K_MM_isSingle) 75 = .ok (.putfield 189, 3) := by decide +kernel
theorem d_MM_isSingle_78 : decode (kB K_MM_isSingle) 78 = .ok (.aload_n 0, 1) := by decide +kernel
theorem d_MM_isSingle_79 : decode (kB K_MM_isSingle) 79 = .ok (.bipush 93, 2) := by decide +kernel
theorem d_MM_isSingle_81 : decode (kB K_MM_isSingle) 81 = .ok (.invokevirtual 150, 3) := by decide +kernel
theorem d_MM_isSingle_84 : decode (kB K_MM_isSingle) 84 = .ok (.ireturn, 1) := by decide +kernel
theorem d_MM_isSingle_85 : decode (kB K_MM_isSingle) 85 = .ok (.aload_n 0, 1) := by decide +kernel
theorem d_MM_isSingle_86 : decode (kB K_MM_isSingle) 86 = .ok (.bipush 22, 2) := by decide +kernel
theorem d_MM_isSingle_88 : decode (kB K_MM_isSingle) 88 = .ok (.invokevirtual 130, 3) := by decide +kernel
theorem d_MM_isSingle_91 : decode (kB K_MM_isSingle) 91 = .ok (.ifCond .ne 12, 3) := by decide +kernel
theorem d_MM_isSingle_94 : decode (kB K_MM_isSingle) 94 = .ok (.aload_n 0, 1) := by decide +kernel
theorem d_MM_isSingle_95 : decode (kB K_MM_isSingle) 95 = .ok (.bipush 23, 2) := by decide +kernel
theorem d_MM_isSingle_97 : decode (kB K_MM_isSingle) 97 = .ok (.invokevirtual 130, 3) := by decide +kernel
theorem d_MM_isSingle_100 : decode (kB K_MM_isSingle) 100 = .ok (.ifCond .eq 27, 3) := by decide +kernel
theorem d_MM_isSingle_103 : decode (kB K_MM_isSingle) 103 = .ok (.aload_n 0, 1) := by decide +kernel
theorem d_MM_isSingle_104 : decode (kB K_MM_isSingle) 104 = .ok (.bipush 12, 2) := by decide +kernel
theorem d_MM_isSingle_106 : decode (kB K_MM_isSingle) 106 = .ok (.invokevirtual 207, 3) := by decide +kernel
theorem d_MM_isSingle_109 : decode (kB K_MM_isSingle) 109 = .ok (.ifCond .eq 16, 3) := by decide +kernel
theorem d_MM_isSingle_112 : decode (kB K_MM_isSingle) 112 = .ok (.aload_n 0, 1) := by decide +kernel
theorem d_MM_isSingle_113 : decode (kB K_MM_isSingle) 113 = .ok (.bipush 13, 2) := by decide +kernel
theorem d_MM_isSingle_115 : decode (kB K_MM_isSingle) 115 = .ok (.invokevirtual 198, 3) := by decide +kernel
theorem d_MM_isSingle_118 : decode (kB K_MM_isSingle) 118 = .ok (.ifCond .eq 7, 3) := by decide +kernel
theorem d_MM_isSingle_121 : decode (kB K_MM_isSingle) 121 = .ok (.iconst 1, 1) := by decide +kernel
theorem d_MM_isSingle_122 : decode (kB K_MM_isSingle) 122 = .ok (.goto 4, 3) := by decide +kernel
theorem d_MM_isSingle_125 : decode (kB K_MM_isSingle) 125 = .ok (.iconst 0, 1) := by decide +kernel
theorem d_MM_isSingle_126 : decode (kB K_MM_isSingle) 126 = .ok (.ireturn, 1) := by decide +kernel
theorem d_MM_isSingle_127 : decode (kB K_MM_isSingle) 127 = .ok (.aload_n 0, 1) := by decide +kernel
theorem d_MM_isSingle_128 : decode (kB K_MM_isSingle) 128 = .ok (.invokevirtual 164, 3) := by decide +kernel
theorem d_MM_isSingle_131 : decode (kB K_MM_isSingle) 131 = .ok (.ifCond .ne 5, 3) := by decide +kernel
theorem d_MM_isSingle_134 : decode (kB K_MM_isSingle) 134 = .ok (.iconst 0, 1) := by decide +kernel
theorem d_MM_isSingle_135 : decode (kB K_MM_isSingle) 135 = .ok (.ireturn, 1) := by decide +kernel
theorem d_MM_isSingle_136 : decode (kB K_MM_isSingle) 136 = .ok (.aload_n 0, 1) := by decide +kernel
theorem d_MM_isSingle_137 : decode (kB K_MM_isSingle) 137 = .ok (.bipush 60, 2) := by decide +kernel
theorem d_MM_isSingle_139 : decode (kB K_MM_isSingle) 139 = .ok (.invokevirtual 204, 3) := by decide +kernel
theorem d_MM_isSingle_142 : decode (kB K_MM_isSingle) 142 = .ok (.ifCond .eq 8, 3) := by decide +kernel
theorem d_MM_isSingle_145 : decode (kB K_MM_isSingle) 145 = .ok (.bipush 38, 2) := by decide +kernel
theorem d_MM_isSingle_147 : decode (kB K_MM_isSingle) 147 = .ok (.goto 62, 3) := by decide +kernel
theorem d_MM_isSingle_150 : decode (kB K_MM_isSingle) 150 = .ok (.aload_n 0, 1) := by decide +kernel
theorem d_MM_isSingle_151 : decode (kB K_MM_isSingle) 151 = .ok (.bipush 62, 2) := by decide +kernel
theorem d_MM_isSingle_153 : decode (kB K_MM_isSingle) 153 = .ok (.invokevirtual 204, 3) := by decide +kernel
theorem d_MM_isSingle_156 : decode (kB K_MM_isSingle) 156 = .ok (.ifCond .eq 8, 3) := by decide +kernel
theorem d_MM_isSingle_159 : decode (kB K_MM_isSingle) 159 = .ok (.bipush 39, 2) := by decide +kernel
theorem d_MM_isSingle_161 : decode (kB K_MM_isSingle) 161 = .ok (.goto 48, 3) := by decide +kernel
theorem d_MM_isSingle_164 : decode (kB K_MM_isSingle) 164 = .ok (.aload_n 0, 1) := by decide +kernel
theorem d_MM_isSingle_165 : decode (kB K_MM_isSingle) 165 = .ok (.bipush 61, 2) := by decide +kernel
theorem d_MM_isSingle_167 : decode (kB K_MM_isSingle) 167 = .ok (.invokevirtual 204, 3) := by decide +kernel
theorem d_MM_isSingle_170 : decode (kB K_MM_isSingle) 170 = .ok (.ifCond .eq 8, 3) := by decide +kernel
theorem d_MM_isSingle_173 : decode (kB K_MM_isSingle) 173 = .ok (.bipush 42, 2) := by decide +kernel
theorem d_MM_isSingle_175 : decode (kB K_MM_isSingle) 175 = .ok (.goto 34, 3) := by decide +kernel
theorem d_MM_isSingle_178 : decode (kB K_MM_isSingle) 178 = .ok (.aload_n 0, 1) := by decide +kernel
theorem d_MM_isSingle_179 : decode (kB K_MM_isSingle) 179 = .ok (.sipush 300, 3) := by decide +kernel
theorem d_MM_isSingle_182 : decode (kB K_MM_isSingle) 182 = .ok (.invokevirtual 130, 3) := by decide +kernel
theorem d_MM_isSingle_185 : decode (kB K_MM_isSingle) 185 = .ok (.ifCond .eq 8, 3) := by decide +kernel
theorem d_MM_isSingle_188 : decode (kB K_MM_isSingle) 188 = .ok (.bipush 43, 2) := by decide +kernel
theorem d_MM_isSingle_190 : decode (kB K_MM_isSingle) 190 = .ok (.goto 19, 3) := by decide +kernel
theorem d_MM_isSingle_193 : decode (kB K_MM_isSingle) 193 = .ok (.aload_n 0, 1) := by decide +kernel
theorem d_MM_isSingle_194 : decode (kB K_MM_isSingle) 194 = .ok (.sipush 301, 3) := by decide +kernel
theorem d_MM_isSingle_197 : decode (kB K_MM_isSingle) 197 = .ok (.invokevirtual 130, 3) := by decide +kernel
theorem d_MM_isSingle_200 : decode (kB K_MM_isSingle) 200 = .ok (.ifCond .eq 8, 3) := by decide +kernel
theorem d_MM_isSingle_203 : decode (kB K_MM_isSingle) 203 = .ok (.bipush 44, 2) := by decide +kernel
theorem d_MM_isSingle_205 : decode (kB K_MM_isSingle) 205 = .ok (.goto 4, 3) := by decide +kernel
theorem d_MM_isSingle_208 : decode (kB K_MM_isSingle) 208 = .ok (.iconst (-1), 1) := by decide +kernel
theorem d_MM_isSingle_209 : decode (kB K_MM_isSingle) 209 = .ok (.istore_n 1, 1) := by decide +kernel
theorem d_MM_isSingle_210 : decode (kB K_MM_isSingle) 210 = .ok (.iload_n 1, 1) := by decide +kernel
theorem d_MM_isSingle_211 : decode (kB K_MM_isSingle) 211 = .ok (.iconst (-1), 1) := by decide +kernel
theorem d_MM_isSingle_212 : decode (kB K_MM_isSingle) 212 = .ok (.if_icmp .ne 5, 3) := by decide +kernel
theorem d_MM_isSingle_215 : decode (kB K_MM_isSingle) 215 = .ok (.iconst 0, 1) := by decide +kernel
theorem d_MM_isSingle_216 : decode (kB K_MM_isSingle) 216 = .ok (.ireturn, 1) := by decide +kernel
theorem d_MM_isSingle_217 : decode (kB K_MM_isSingle) 217 = .ok (.aload_n 0, 1) := by decide +kernel
theorem d_MM_isSingle_218 : decode (kB K_MM_isSingle) 218 = .ok (.dup, 1) := by decide +kernel
theorem d_MM_isSingle_219 : decode (kB K_MM_isSingle) 219 = .ok (.getfield 127, 3) := by decide +kernel
theorem d_MM_isSingle_222 : decode (kB K_MM_isSingle) 222 = .ok (.iconst 1, 1) := by decide +kernel
theorem d_MM_isSingle_223 : decode (kB K_MM_isSingle) 223 = .ok (.iadd, 1) := by decide +kernel
theorem d_MM_isSingle_224 : decode (kB K_MM_isSingle) 224 = .ok (.putfield 127, 3) := by decide +kernel
theorem d_MM_isSingle_227 : decode (kB K_MM_isSingle) 227 = .ok (.aload_n 0, 1) := by decide +kernel
theorem d_MM_isSingle_228 : decode (kB K_MM_isSingle) 228 = .ok (.invokevirtual 164, 3) := by decide +kernel
theorem d_MM_isSingle_231 : decode (kB K_MM_isSingle) 231 = .ok (.ifCond .ne 5, 3) := by decide +kernel
theorem d_MM_isSingle_234 : decode (kB K_MM_isSingle) 234 = .ok (.iconst 0, 1) := by decide +kernel
theorem d_MM_isSingle_235 : decode (kB K_MM_isSingle) 235 = .ok (.ireturn, 1) := by decide +kernel
theorem d_MM_isSingle_236 : decode (kB K_MM_isSingle) 236 = .ok (.aload_n 0, 1) := by decide +kernel
theorem d_MM_isSingle_237 : decode (kB K_MM_isSingle) 237 = .ok (.iload_n 1, 1) := by decide +kernel
theorem d_MM_isSingle_238 : decode (kB K_MM_isSingle) 238 = .ok (.invokevirtual 182, 3) := by decide +kernel
theorem d_MM_isSingle_241 : decode (kB K_MM_isSingle) 241 = .ok (.iconst 1, 1) := by decide +kernel
theorem d_MM_isSingle_242 : decode (kB K_MM_isSingle) 242 = .ok (.ireturn, 1) := by decide +kernel
def K_MM_isSum : KM := (⟨"ParishBoardsModel", "isSum", "()Z"⟩, prog_15_method_34_code, 2, (some (.boolean)), "ParishBoardsModel", [])
theorem d_MM_isSum_0 : decode (kB K_MM_isSum) 0 = .ok (.aload_n 0, 1) := by decide +kernel
theorem d_MM_isSum_1 : decode (kB K_MM_isSum) 1 = .ok (.invokevirtual 210, 3) := by decide +kernel
theorem d_MM_isSum_4 : decode (kB K_MM_isSum) 4 = .ok (.ifCond .ne 5, 3) := by decide +kernel
theorem d_MM_isSum_7 : decode (kB K_MM_isSum) 7 = .ok (.iconst 0, 1) := by decide +kernel
theorem d_MM_isSum_8 : decode (kB K_MM_isSum) 8 = .ok (.ireturn, 1) := by decide +kernel
theorem d_MM_isSum_9 : decode (kB K_MM_isSum) 9 = .ok (.aload_n 0, 1) := by decide +kernel
theorem d_MM_isSum_10 : decode (kB K_MM_isSum) 10 = .ok (.bipush 43, 2) := by decide +kernel
theorem d_MM_isSum_12 : decode (kB K_MM_isSum) 12 = .ok (.invokevirtual 204, 3) := by decide +kernel
theorem d_MM_isSum_15 : decode (kB K_MM_isSum) 15 = .ok (.ifCond .ne 12, 3) := by decide +kernel
theorem d_MM_isSum_18 : decode (kB K_MM_isSum) 18 = .ok (.aload_n 0, 1) := by decide +kernel
theorem d_MM_isSum_19 : decode (kB K_MM_isSum) 19 = .ok (.bipush 45, 2) := by decide +kernel
theorem d_MM_isSum_21 : decode (kB K_MM_isSum) 21 = .ok (.invokevirtual 204, 3) := by decide +kernel
theorem d_MM_isSum_24 : decode (kB K_MM_isSum) 24 = .ok (.ifCond .eq 47, 3) := by decide +kernel
theorem d_MM_isSum_27 : decode (kB K_MM_isSum) 27 = .ok (.aload_n 0, 1) := by decide +kernel
theorem d_MM_isSum_28 : decode (kB K_MM_isSum) 28 = .ok (.bipush 43, 2) := by decide +kernel
theorem d_MM_isSum_30 : decode (kB K_MM_isSum) 30 = .ok (.invokevirtual 204, 3) := by decide +kernel
theorem d_MM_isSum_33 : decode (kB K_MM_isSum) 33 = .ok (.ifCond .eq 8, 3) := by decide +kernel
theorem d_MM_isSum_36 : decode (kB K_MM_isSum) 36 = .ok (.bipush 34, 2) := by decide +kernel
theorem d_MM_isSum_38 : decode (kB K_MM_isSum) 38 = .ok (.goto 5, 3) := by decide +kernel
theorem d_MM_isSum_41 : decode (kB K_MM_isSum) 41 = .ok (.bipush 35, 2) := by decide +kernel
theorem d_MM_isSum_43 : decode (kB K_MM_isSum) 43 = .ok (.istore_n 1, 1) := by decide +kernel
theorem d_MM_isSum_44 : decode (kB K_MM_isSum) 44 = .ok (.aload_n 0, 1) := by decide +kernel
theorem d_MM_isSum_45 : decode (kB K_MM_isSum) 45 = .ok (.dup, 1) := by decide +kernel
theorem d_MM_isSum_46 : decode (kB K_MM_isSum) 46 = .ok (.getfield 127, 3) := by decide +kernel
theorem d_MM_isSum_49 : decode (kB K_MM_isSum) 49 = .ok (.iconst 1, 1) := by decide +kernel
theorem d_MM_isSum_50 : decode (kB K_MM_isSum) 50 = .ok (.iadd, 1) := by decide +kernel
theorem d_MM_isSum_51 : decode (kB K_MM_isSum) 51 = .ok (.putfield 127, 3) := by decide +kernel
theorem d_MM_isSum_54 : decode (kB K_MM_isSum) 54 = .ok (.aload_n 0, 1) := by decide +kernel
theorem d_MM_isSum_55 : decode (kB K_MM_isSum) 55 = .ok (.invokevirtual 210, 3) := by decide +kernel
theorem d_MM_isSum_58 : decode (kB K_MM_isSum) 58 = .ok (.ifCond .ne 5, 3) := by decide +kernel
theorem d_MM_isSum_61 : decode (kB K_MM_isSum) 61 = .ok (.iconst 0, 1) := by decide +kernel
theorem d_MM_isSum_62 : decode (kB K_MM_isSum) 62 = .ok (.ireturn, 1) := by decide +kernel
theorem d_MM_isSum_63 : decode (kB K_MM_isSum) 63 = .ok (.aload_n 0, 1) := by decide +kernel
theorem d_MM_isSum_64 : decode (kB K_MM_isSum) 64 = .ok (.iload_n 1, 1) := by decide +kernel
theorem d_MM_isSum_65 : decode (kB K_MM_isSum) 65 = .ok (.invokevirtual 182, 3) := by decide +kernel
theorem d_MM_isSum_68 : decode (kB K_MM_isSum) 68 = .ok (.goto (-59), 3) := by decide +kernel
theorem d_MM_isSum_71 : decode (kB K_MM_isSum) 71 = .ok (.iconst 1, 1) := by decide +kernel
theorem d_MM_isSum_72 : decode (kB K_MM_isSum) 72 = .ok (.ireturn, 1) := by decide +kernel
def K_MM_isProduct : KM := (⟨"ParishBoardsModel", "isProduct", "()Z"⟩, prog_15_method_35_code, 2, (some (.boolean)), "ParishBoardsModel", [])
theorem d_MM_isProduct_0 : decode (kB K_MM_isProduct) 0 = .ok (.aload_n 0, 1) := by decide +kernel
theorem d_MM_isProduct_1 : decode (kB K_MM_isProduct) 1 = .ok (.invokevirtual 213, 3) := by decide +kernel
theorem d_MM_isProduct_4 : decode (kB K_MM_isProduct) 4 = .ok (.ifCond .ne 5, 3) := by decide +kernel
theorem d_MM_isProduct_7 : decode (kB K_MM_isProduct) 7 = .ok (.iconst 0, 1) := by decide +kernel
theorem d_MM_isProduct_8 : decode (kB K_MM_isProduct) 8 = .ok (.ireturn, 1) := by decide +kernel
theorem d_MM_isProduct_9 : decode (kB K_MM_isProduct) 9 = .ok (.aload_n 0, 1) := by decide +kernel
theorem d_MM_isProduct_10 : decode (kB K_MM_isProduct) 10 = .ok (.bipush 42, 2) := by decide +kernel
theorem d_MM_isProduct_12 : decode (kB K_MM_isProduct) 12 = .ok (.invokevirtual 204, 3) := by decide +kernel
theorem d_MM_isProduct_15 : decode (kB K_MM_isProduct) 15 = .ok (.ifCond .ne 12, 3) := by decide +kernel
theorem d_MM_isProduct_18 : decode (kB K_MM_isProduct) 18 = .ok (.aload_n 0, 1) := by decide +kernel
theorem d_MM_isProduct_19 : decode (kB K_MM_isProduct) 19 = .ok (.bipush 47, 2) := by decide +kernel
theorem d_MM_isProduct_21 : decode (kB K_MM_isProduct) 21 = .ok (.invokevirtual 204, 3) := by decide +kernel
theorem d_MM_isProduct_24 : decode (kB K_MM_isProduct) 24 = .ok (.ifCond .eq 47, 3) := by decide +kernel
theorem d_MM_isProduct_27 : decode (kB K_MM_isProduct) 27 = .ok (.aload_n 0, 1) := by decide +kernel
theorem d_MM_isProduct_28 : decode (kB K_MM_isProduct) 28 = .ok (.bipush 42, 2) := by decide +kernel
theorem d_MM_isProduct_30 : decode (kB K_MM_isProduct) 30 = .ok (.invokevirtual 204, 3) := by decide +kernel
theorem d_MM_isProduct_33 : decode (kB K_MM_isProduct) 33 = .ok (.ifCond .eq 8, 3) := by decide +kernel
theorem d_MM_isProduct_36 : decode (kB K_MM_isProduct) 36 = .ok (.bipush 36, 2) := by decide +kernel
theorem d_MM_isProduct_38 : decode (kB K_MM_isProduct) 38 = .ok (.goto 5, 3) := by decide +kernel
theorem d_MM_isProduct_41 : decode (kB K_MM_isProduct) 41 = .ok (.bipush 37, 2) := by decide +kernel
theorem d_MM_isProduct_43 : decode (kB K_MM_isProduct) 43 = .ok (.istore_n 1, 1) := by decide +kernel
theorem d_MM_isProduct_44 : decode (kB K_MM_isProduct) 44 = .ok (.aload_n 0, 1) := by decide +kernel
theorem d_MM_isProduct_45 : decode (kB K_MM_isProduct) 45 = .ok (.dup, 1) := by decide +kernel
theorem d_MM_isProduct_46 : decode (kB K_MM_isProduct) 46 = .ok (.getfield 127, 3) := by decide +kernel
theorem d_MM_isProduct_49 : decode (kB K_MM_isProduct) 49 = .ok (.iconst 1, 1) := by decide +kernel
theorem d_MM_isProduct_50 : decode (kB K_MM_isProduct) 50 = .ok (.iadd, 1) := by decide +kernel
theorem d_MM_isProduct_51 : decode (kB K_MM_isProduct) 51 = .ok (.putfield 127, 3) := by decide +kernel
theorem d_MM_isProduct_54 : decode (kB K_MM_isProduct) 54 = .ok (.aload_n 0, 1) := by decide +kernel
theorem d_MM_isProduct_55 : decode (kB K_MM_isProduct) 55 = .ok (.invokevirtual 213, 3) := by decide +kernel
theorem d_MM_isProduct_58 : decode (kB K_MM_isProduct) 58 = .ok (.ifCond .ne 5, 3) := by decide +kernel
theorem d_MM_isProduct_61 : decode (kB K_MM_isProduct) 61 = .ok (.iconst 0, 1) := by decide +kernel
theorem d_MM_isProduct_62 : decode (kB K_MM_isProduct) 62 = .ok (.ireturn, 1) := by decide +kernel
theorem d_MM_isProduct_63 : decode (kB K_MM_isProduct) 63 = .ok (.aload_n 0, 1) := by decide +kernel
theorem d_MM_isProduct_64 : decode (kB K_MM_isProduct) 64 = .ok (.iload_n 1, 1) := by decide +kernel
theorem d_MM_isProduct_65 : decode (kB K_MM_isProduct) 65 = .ok (.invokevirtual 182, 3) := by decide +kernel
theorem d_MM_isProduct_68 : decode (kB K_MM_isProduct) 68 = .ok (.goto (-59), 3) := by decide +kernel
theorem d_MM_isProduct_71 : decode (kB K_MM_isProduct) 71 = .ok (.iconst 1, 1) := by decide +kernel
theorem d_MM_isProduct_72 : decode (kB K_MM_isProduct) 72 = .ok (.ireturn, 1) := by decide +kernel
def K_MM_isInside : KM := (⟨"ParishBoardsModel", "isInside", "(IZ)Z"⟩, prog_15_method_36_code, 3, (some (.boolean)), "ParishBoardsModel", [])
theorem d_MM_isInside_0 : decode (kB K_MM_isInside) 0 = .ok (.aload_n 0, 1) := by decide +kernel
theorem d_MM_isInside_1 : decode (kB K_MM_isInside) 1 = .ok (.bipush 40, 2) := by decide +kernel
theorem d_MM_isInside_3 : decode (kB K_MM_isInside) 3 = .ok (.invokevirtual 204, 3) := by decide +kernel
theorem d_MM_isInside_6 : decode (kB K_MM_isInside) 6 = .ok (.ifCond .eq 37, 3) := by decide +kernel
theorem d_MM_isInside_9 : decode (kB K_MM_isInside) 9 = .ok (.aload_n 0, 1) := by decide +kernel
theorem d_MM_isInside_10 : decode (kB K_MM_isInside) 10 = .ok (.invokevirtual 201, 3) := by decide +kernel
theorem d_MM_isInside_13 : decode (kB K_MM_isInside) 13 = .ok (.ifCond .eq 30, 3) := by decide +kernel
theorem d_MM_isInside_16 : decode (kB K_MM_isInside) 16 = .ok (.aload_n 0, 1) := by decide +kernel
theorem d_MM_isInside_17 : decode (kB K_MM_isInside) 17 = .ok (.invokevirtual 164, 3) := by decide +kernel
theorem d_MM_isInside_20 : decode (kB K_MM_isInside) 20 = .ok (.ifCond .eq 23, 3) := by decide +kernel
theorem d_MM_isInside_23 : decode (kB K_MM_isInside) 23 = .ok (.iload_n 2, 1) := by decide +kernel
theorem d_MM_isInside_24 : decode (kB K_MM_isInside) 24 = .ok (.ifCond .eq 21, 3) := by decide +kernel
theorem d_MM_isInside_27 : decode (kB K_MM_isInside) 27 = .ok (.aload_n 0, 1) := by decide +kernel
theorem d_MM_isInside_28 : decode (kB K_MM_isInside) 28 = .ok (.bipush 44, 2) := by decide +kernel
theorem d_MM_isInside_30 : decode (kB K_MM_isInside) 30 = .ok (.invokevirtual 150, 3) := by decide +kernel
theorem d_MM_isInside_33 : decode (kB K_MM_isInside) 33 = .ok (.ifCond .eq 10, 3) := by decide +kernel
theorem d_MM_isInside_36 : decode (kB K_MM_isInside) 36 = .ok (.aload_n 0, 1) := by decide +kernel
theorem d_MM_isInside_37 : decode (kB K_MM_isInside) 37 = .ok (.invokevirtual 164, 3) := by decide +kernel
theorem d_MM_isInside_40 : decode (kB K_MM_isInside) 40 = .ok (.ifCond .ne 5, 3) := by decide +kernel
theorem d_MM_isInside_43 : decode (kB K_MM_isInside) 43 = .ok (.iconst 0, 1) := by decide +kernel
theorem d_MM_isInside_44 : decode (kB K_MM_isInside) 44 = .ok (.ireturn, 1) := by decide +kernel
theorem d_MM_isInside_45 : decode (kB K_MM_isInside) 45 = .ok (.aload_n 0, 1) := by decide +kernel
theorem d_MM_isInside_46 : decode (kB K_MM_isInside) 46 = .ok (.dup, 1) := by decide +kernel
theorem d_MM_isInside_47 : decode (kB K_MM_isInside) 47 = .ok (.getfield 189, 3) := by decide +kernel
theorem d_MM_isInside_50 : decode (kB K_MM_isInside) 50 = .ok (.iconst 1, 1) := by decide +kernel
theorem d_MM_isInside_51 : decode (kB K_MM_isInside) 51 = .ok (.isub, 1) := by decide +kernel
theorem d_MM_isInside_52 : decode (kB K_MM_isInside) 52 = .ok (.putfield 189, 3) := by decide +kernel
theorem d_MM_isInside_55 : decode (kB K_MM_isInside) 55 = .ok (.iload_n 2, 1) := by decide +kernel
theorem d_MM_isInside_56 : decode (kB K_MM_isInside) 56 = .ok (.ifCond .eq 8, 3) := by decide +kernel
theorem d_MM_isInside_59 : decode (kB K_MM_isInside) 59 = .ok (.aload_n 0, 1) := by decide +kernel
theorem d_MM_isInside_60 : decode (kB K_MM_isInside) 60 = .ok (.iload_n 1, 1) := by decide +kernel
theorem d_MM_isInside_61 : decode (kB K_MM_isInside) 61 = .ok (.invokevirtual 182, 3) := by decide +kernel
theorem d_MM_isInside_64 : decode (kB K_MM_isInside) 64 = .ok (.aload_n 0, 1) := by decide +kernel
theorem d_MM_isInside_65 : decode (kB K_MM_isInside) 65 = .ok (.bipush 41, 2) := by decide +kernel
theorem d_MM_isInside_67 : decode (kB K_MM_isInside) 67 = .ok (.invokevirtual 150, 3) := by decide +kernel
theorem d_MM_isInside_70 : decode (kB K_MM_isInside) 70 = .ok (.ireturn, 1) := by decide +kernel
def K_MM_isValue : KM := (⟨"ParishBoardsModel", "isValue", "()Z"⟩, prog_15_method_37_code, 2, (some (.boolean)), "ParishBoardsModel", [])
theorem d_MM_isValue_0 : decode (kB K_MM_isValue) 0 = .ok (.aload_n 0, 1) := by decide +kernel
theorem d_MM_isValue_1 : decode (kB K_MM_isValue) 1 = .ok (.getfield 17, 3) := by decide +kernel
theorem d_MM_isValue_4 : decode (kB K_MM_isValue) 4 = .ok (.aload_n 0, 1) := by decide +kernel
theorem d_MM_isValue_5 : decode (kB K_MM_isValue) 5 = .ok (.getfield 127, 3) := by decide +kernel
theorem d_MM_isValue_8 : decode (kB K_MM_isValue) 8 = .ok (.iaload, 1) := by decide +kernel
theorem d_MM_isValue_9 : decode (kB K_MM_isValue) 9 = .ok (.istore_n 1, 1) := by decide +kernel
theorem d_MM_isValue_10 : decode (kB K_MM_isValue) 10 = .ok (.aload_n 0, 1) := by decide +kernel
theorem d_MM_isValue_11 : decode (kB K_MM_isValue) 11 = .ok (.bipush 41, 2) := by decide +kernel
theorem d_MM_isValue_13 : decode (kB K_MM_isValue) 13 = .ok (.invokevirtual 130, 3) := by decide +kernel
theorem d_MM_isValue_16 : decode (kB K_MM_isValue) 16 = .ok (.ifCond .eq 33, 3) := by decide +kernel
theorem d_MM_isValue_19 : decode (kB K_MM_isValue) 19 = .ok (.aload_n 0, 1) := by decide +kernel
theorem d_MM_isValue_20 : decode (kB K_MM_isValue) 20 = .ok (.bipush 32, 2) := by decide +kernel
theorem d_MM_isValue_22 : decode (kB K_MM_isValue) 22 = .ok (.invokevirtual 182, 3) := by decide +kernel
theorem d_MM_isValue_25 : decode (kB K_MM_isValue) 25 = .ok (.aload_n 0, 1) := by decide +kernel
theorem d_MM_isValue_26 : decode (kB K_MM_isValue) 26 = .ok (.aload_n 0, 1) := by decide +kernel
theorem d_MM_isValue_27 : decode (kB K_MM_isValue) 27 = .ok (.aload_n 0, 1) := by decide +kernel
theorem d_MM_isValue_28 : decode (kB K_MM_isValue) 28 = .ok (.getfield 127, 3) := by decide +kernel
theorem d_MM_isValue_31 : decode (kB K_MM_isValue) 31 = .ok (.invokevirtual 216, 3) := by decide +kernel
theorem d_MM_isValue_34 : decode (kB K_MM_isValue) 34 = .ok (.invokevirtual 182, 3) := by decide +kernel
theorem d_MM_isValue_37 : decode (kB K_MM_isValue) 37 = .ok (.aload_n 0, 1) := by decide +kernel
theorem d_MM_isValue_38 : decode (kB K_MM_isValue) 38 = .ok (.dup, 1) := by decide +kernel
theorem d_MM_isValue_39 : decode (kB K_MM_isValue) 39 = .ok (.getfield 127, 3) := by decide +kernel
theorem d_MM_isValue_42 : decode (kB K_MM_isValue) 42 = .ok (.iconst 1, 1) := by decide +kernel
theorem d_MM_isValue_43 : decode (kB K_MM_isValue) 43 = .ok (.iadd, 1) := by decide +kernel
theorem d_MM_isValue_44 : decode (kB K_MM_isValue) 44 = .ok (.putfield 127, 3) := by decide +kernel
theorem d_MM_isValue_47 : decode (kB K_MM_isValue) 47 = .ok (.iconst 1, 1) := by decide +kernel
theorem d_MM_isValue_48 : decode (kB K_MM_isValue) 48 = .ok (.ireturn, 1) := by decide +kernel
theorem d_MM_isValue_49 : decode (kB K_MM_isValue) 49 = .ok (.aload_n 0, 1) := by decide +kernel
theorem d_MM_isValue_50 : decode (kB K_MM_isValue) 50 = .ok (.bipush 17, 2) := by decide +kernel
theorem d_MM_isValue_52 : decode (kB K_MM_isValue) 52 = .ok (.invokevirtual 130, 3) := by decide +kernel
theorem d_MM_isValue_55 : decode (kB K_MM_isValue) 55 = .ok (.ifCond .eq 20, 3) := by decide +kernel
theorem d_MM_isValue_58 : decode (kB K_MM_isValue) 58 = .ok (.aload_n 0, 1) := by decide +kernel
theorem d_MM_isValue_59 : decode (kB K_MM_isValue) 59 = .ok (.iload_n 1, 1) := by decide +kernel
theorem d_MM_isValue_60 : decode (kB K_MM_isValue) 60 = .ok (.invokevirtual 182, 3) := by decide +kernel
theorem d_MM_isValue_63 : decode (kB K_MM_isValue) 63 = .ok (.aload_n 0, 1) := by decide +kernel
theorem d_MM_isValue_64 : decode (kB K_MM_isValue) 64 = .ok (.dup, 1) := by decide +kernel
theorem d_MM_isValue_65 : decode (kB K_MM_isValue) 65 = .ok (.getfield 127, 3) := by decide +kernel
theorem d_MM_isValue_68 : decode (kB K_MM_isValue) 68 = .ok (.iconst 1, 1) := by decide +kernel
theorem d_MM_isValue_69 : decode (kB K_MM_isValue) 69 = .ok (.iadd, 1) := by decide +kernel
theorem d_MM_isValue_70 : decode (kB K_MM_isValue) 70 = .ok (.putfield 127, 3) := by decide +kernel
theorem d_MM_isValue_73 : decode (kB K_MM_isValue) 73 = .ok (.iconst 1, 1) := by decide +kernel
theorem d_MM_isValue_74 : decode (kB K_MM_isValue) 74 = .ok (.ireturn, 1) := by decide +kernel
theorem d_MM_isValue_75 : decode (kB K_MM_isValue) 75 = .ok (.aload_n 0, 1) := by decide +kernel
theorem d_MM_isValue_76 : decode (kB K_MM_isValue) 76 = .ok (.bipush 18, 2) := by decide +kernel
theorem d_MM_isValue_78 : decode (kB K_MM_isValue) 78 = .ok (.invokevirtual 130, 3) := by decide +kernel
theorem d_MM_isValue_81 : decode (kB K_MM_isValue) 81 = .ok (.ifCond .ne 21, 3) := by decide +kernel
theorem d_MM_isValue_84 : decode (kB K_MM_isValue) 84 = .ok (.aload_n 0, 1) := by decide +kernel
theorem d_MM_isValue_85 : decode (kB K_MM_isValue) 85 = .ok (.bipush 19, 2) := by decide +kernel
theorem d_MM_isValue_87 : decode (kB K_MM_isValue) 87 = .ok (.invokevirtual 130, 3) := by decide +kernel
theorem d_MM_isValue_90 : decode (kB K_MM_isValue) 90 = .ok (.ifCond .ne 12, 3) := by decide +kernel
theorem d_MM_isValue_93 : decode (kB K_MM_isValue) 93 = .ok (.aload_n 0, 1) := by decide +kernel
theorem d_MM_isValue_94 : decode (kB K_MM_isValue) 94 = .ok (.bipush 20, 2) := by decide +kernel
theorem d_MM_isValue_96 : decode (kB K_MM_isValue) 96 = .ok (.invokevirtual 130, 3) := by decide +kernel
theorem d_MM_isValue_99 : decode (kB K_MM_isValue) 99 = .ok (.ifCond .eq 27, 3) := by decide +kernel
theorem d_MM_isValue_102 : decode (kB K_MM_isValue) 102 = .ok (.aload_n 0, 1) := by decide +kernel
theorem d_MM_isValue_103 : decode (kB K_MM_isValue) 103 = .ok (.bipush 12, 2) := by decide +kernel
theorem d_MM_isValue_105 : decode (kB K_MM_isValue) 105 = .ok (.invokevirtual 207, 3) := by decide +kernel
theorem d_MM_isValue_108 : decode (kB K_MM_isValue) 108 = .ok (.ifCond .eq 16, 3) := by decide +kernel
theorem d_MM_isValue_111 : decode (kB K_MM_isValue) 111 = .ok (.aload_n 0, 1) := by decide +kernel
theorem d_MM_isValue_112 : decode (kB K_MM_isValue) 112 = .ok (.bipush 13, 2) := by decide +kernel
theorem d_MM_isValue_114 : decode (kB K_MM_isValue) 114 = .ok (.invokevirtual 198, 3) := by decide +kernel
theorem d_MM_isValue_117 : decode (kB K_MM_isValue) 117 = .ok (.ifCond .eq 7, 3) := by decide +kernel
theorem d_MM_isValue_120 : decode (kB K_MM_isValue) 120 = .ok (.iconst 1, 1) := by decide +kernel
theorem d_MM_isValue_121 : decode (kB K_MM_isValue) 121 = .ok (.goto 4, 3) := by decide +kernel
theorem d_MM_isValue_124 : decode (kB K_MM_isValue) 124 = .ok (.iconst 0, 1) := by decide +kernel
theorem d_MM_isValue_125 : decode (kB K_MM_isValue) 125 = .ok (.ireturn, 1) := by decide +kernel
theorem d_MM_isValue_126 : decode (kB K_MM_isValue) 126 = .ok (.aload_n 0, 1) := by decide +kernel
theorem d_MM_isValue_127 : decode (kB K_MM_isValue) 127 = .ok (.bipush 21, 2) := by decide +kernel
theorem d_MM_isValue_129 : decode (kB K_MM_isValue) 129 = .ok (.invokevirtual 130, 3) := by decide +kernel
theorem d_MM_isValue_132 : decode (kB K_MM_isValue) 132 = .ok (.ifCond .eq 10, 3) := by decide +kernel
theorem d_MM_isValue_135 : decode (kB K_MM_isValue) 135 = .ok (.aload_n 0, 1) := by decide +kernel
theorem d_MM_isValue_136 : decode (kB K_MM_isValue) 136 = .ok (.bipush 12, 2) := by decide +kernel
theorem d_MM_isValue_138 : decode (kB K_MM_isValue) 138 = .ok (.invokevirtual 207, 3) := by decide +kernel
theorem d_MM_isValue_141 : decode (kB K_MM_isValue) 141 = .ok (.ireturn, 1) := by decide +kernel
theorem d_MM_isValue_142 : decode (kB K_MM_isValue) 142 = .ok (.aload_n 0, 1) := by decide +kernel
theorem d_MM_isValue_143 : decode (kB K_MM_isValue) 143 = .ok (.bipush 45, 2) := by decide +kernel
theorem d_MM_isValue_145 : decode (kB K_MM_isValue) 145 = .ok (.invokevirtual 204, 3) := by decide +kernel
theorem d_MM_isValue_148 : decode (kB K_MM_isValue) 148 = .ok (.ifCond .eq 37, 3) := by decide +kernel
theorem d_MM_isValue_151 : decode (kB K_MM_isValue) 151 = .ok (.aload_n 0, 1) := by decide +kernel
theorem d_MM_isValue_152 : decode (kB K_MM_isValue) 152 = .ok (.invokevirtual 201, 3) := by decide +kernel
theorem d_MM_isValue_155 : decode (kB K_MM_isValue) 155 = .ok (.ifCond .eq 10, 3) := by decide +kernel
theorem d_MM_isValue_158 : decode (kB K_MM_isValue) 158 = .ok (.aload_n 0, 1) := by decide +kernel
theorem d_MM_isValue_159 : decode (kB K_MM_isValue) 159 = .ok (.invokevirtual 213, 3) := by decide +kernel
theorem d_MM_isValue_162 : decode (kB K_MM_isValue) 162 = .ok (.ifCond .ne 5, 3) := by decide +kernel
theorem d_MM_isValue_165 : decode (kB K_MM_isValue) 165 = .ok (.iconst 0, 1) := by decide +kernel
theorem d_MM_isValue_166 : decode (kB K_MM_isValue) 166 = .ok (.ireturn, 1) := by decide +kernel
theorem d_MM_isValue_167 : decode (kB K_MM_isValue) 167 = .ok (.aload_n 0, 1) := by decide +kernel
theorem d_MM_isValue_168 : decode (kB K_MM_isValue) 168 = .ok (.dup, 1) := by decide +kernel
theorem d_MM_isValue_169 : decode (kB K_MM_isValue) 169 = .ok (.getfield 189, 3) := by decide +kernel
theorem d_MM_isValue_172 : decode (kB K_MM_isValue) 172 = .ok (.iconst 1, 1) := by decide +kernel
theorem d_MM_isValue_173 : decode (kB K_MM_isValue) 173 = .ok (.isub, 1) := by decide +kernel
theorem d_MM_isValue_174 : decode (kB K_MM_isValue) 174 = .ok (.putfield 189, 3) := by decide +kernel
theorem d_MM_isValue_177 : decode (kB K_MM_isValue) 177 = .ok (.aload_n 0, 1) := by decide +kernel
theorem d_MM_isValue_178 : decode (kB K_MM_isValue) 178 = .ok (.bipush 33, 2) := by decide +kernel
theorem d_MM_isValue_180 : decode (kB K_MM_isValue) 180 = .ok (.invokevirtual 182, 3) := by decide +kernel
theorem d_MM_isValue_183 : decode (kB K_MM_isValue) 183 = .ok (.iconst 1, 1) := by decide +kernel
theorem d_MM_isValue_184 : decode (kB K_MM_isValue) 184 = .ok (.ireturn, 1) := by decide +kernel
theorem d_MM_isValue_185 : decode (kB K_MM_isValue) 185 = .ok (.aload_n 0, 1) := by decide +kernel
theorem d_MM_isValue_186 : decode (kB K_MM_isValue) 186 = .ok (.iload_n 1, 1) := by decide +kernel
theorem d_MM_isValue_187 : decode (kB K_MM_isValue) 187 = .ok (.aload_n 0, 1) := by decide +kernel
theorem d_MM_isValue_188 : decode (kB K_MM_isValue) 188 = .ok (.bipush 27, 2) := by decide +kernel
theorem d_MM_isValue_190 : decode (kB K_MM_isValue) 190 = .ok (.invokevirtual 133, 3) := by decide +kernel
theorem d_MM_isValue_193 : decode (kB K_MM_isValue) 193 = .ok (.ifCond .ne 12, 3) := by decide +kernel
theorem d_MM_isValue_196 : decode (kB K_MM_isValue) 196 = .ok (.aload_n 0, 1) := by decide +kernel
theorem d_MM_isValue_197 : decode (kB K_MM_isValue) 197 = .ok (.bipush 28, 2) := by decide +kernel
theorem d_MM_isValue_199 : decode (kB K_MM_isValue) 199 = .ok (.invokevirtual 133, 3) := by decide +kernel
theorem d_MM_isValue_202 : decode (kB K_MM_isValue) 202 = .ok (.ifCond .eq 7, 3) := by decide +kernel
theorem d_MM_isValue_205 : decode (kB K_MM_isValue) 205 = .ok (.iconst 1, 1) := by decide +kernel
theorem d_MM_isValue_206 : decode (kB K_MM_isValue) 206 = .ok (.goto 4, 3) := by decide +kernel
theorem d_MM_isValue_209 : decode (kB K_MM_isValue) 209 = .ok (.iconst 0, 1) := by decide +kernel
theorem d_MM_isValue_210 : decode (kB K_MM_isValue) 210 = .ok (.invokevirtual 219, 3) := by decide +kernel
theorem d_MM_isValue_213 : decode (kB K_MM_isValue) 213 = .ok (.ireturn, 1) := by decide +kernel
def K_MM_numberAt : KM := (⟨"ParishBoardsModel", "numberAt", "(I)I"⟩, prog_15_method_38_code, 4, (some (.int)), "ParishBoardsModel", [])
theorem d_MM_numberAt_0 : decode (kB K_MM_numberAt) 0 = .ok (.iconst 0, 1) := by decide +kernel
theorem d_MM_numberAt_1 : decode (kB K_MM_numberAt) 1 = .ok (.istore_n 2, 1) := by decide +kernel
theorem d_MM_numberAt_2 : decode (kB K_MM_numberAt) 2 = .ok (.iconst 0, 1) := by decide +kernel
theorem d_MM_numberAt_3 : decode (kB K_MM_numberAt) 3 = .ok (.istore_n 3, 1) := by decide +kernel
theorem d_MM_numberAt_4 : decode (kB K_MM_numberAt) 4 = .ok (.iload_n 3, 1) := by decide +kernel
theorem d_MM_numberAt_5 : decode (kB K_MM_numberAt) 5 = .ok (.aload_n 0, 1) := by decide +kernel
theorem d_MM_numberAt_6 : decode (kB K_MM_numberAt) 6 = .ok (.getfield 23, 3) := by decide +kernel
theorem d_MM_numberAt_9 : decode (kB K_MM_numberAt) 9 = .ok (.iload_n 1, 1) := by decide +kernel
theorem d_MM_numberAt_10 : decode (kB K_MM_numberAt) 10 = .ok (.iaload, 1) := by decide +kernel
theorem d_MM_numberAt_11 : decode (kB K_MM_numberAt) 11 = .ok (.if_icmp .ge 31, 3) := by decide +kernel
theorem d_MM_numberAt_14 : decode (kB K_MM_numberAt) 14 = .ok (.bipush 10, 2) := by decide +kernel
theorem d_MM_numberAt_16 : decode (kB K_MM_numberAt) 16 = .ok (.iload_n 2, 1) := by decide +kernel
theorem d_MM_numberAt_17 : decode (kB K_MM_numberAt) 17 = .ok (.imul, 1) := by decide +kernel
theorem d_MM_numberAt_18 : decode (kB K_MM_numberAt) 18 = .ok (.aload_n 0, 1) := by decide +kernel
theorem d_MM_numberAt_19 : decode (kB K_MM_numberAt) 19 = .ok (.getfield 9, 3) := by decide +kernel
theorem d_MM_numberAt_22 : decode (kB K_MM_numberAt) 22 = .ok (.aload_n 0, 1) := by decide +kernel
theorem d_MM_numberAt_23 : decode (kB K_MM_numberAt) 23 = .ok (.getfield 20, 3) := by decide +kernel
theorem d_MM_numberAt_26 : decode (kB K_MM_numberAt) 26 = .ok (.iload_n 1, 1) := by decide +kernel
theorem d_MM_numberAt_27 : decode (kB K_MM_numberAt) 27 = .ok (.iaload, 1) := by decide +kernel
theorem d_MM_numberAt_28 : decode (kB K_MM_numberAt) 28 = .ok (.iload_n 3, 1) := by decide +kernel
theorem d_MM_numberAt_29 : decode (kB K_MM_numberAt) 29 = .ok (.iadd, 1) := by decide +kernel
theorem d_MM_numberAt_30 : decode (kB K_MM_numberAt) 30 = .ok (.iaload, 1) := by decide +kernel
theorem d_MM_numberAt_31 : decode (kB K_MM_numberAt) 31 = .ok (.iadd, 1) := by decide +kernel
theorem d_MM_numberAt_32 : decode (kB K_MM_numberAt) 32 = .ok (.bipush 48, 2) := by decide +kernel
theorem d_MM_numberAt_34 : decode (kB K_MM_numberAt) 34 = .ok (.isub, 1) := by decide +kernel
theorem d_MM_numberAt_35 : decode (kB K_MM_numberAt) 35 = .ok (.istore_n 2, 1) := by decide +kernel
theorem d_MM_numberAt_36 : decode (kB K_MM_numberAt) 36 = .ok (.iinc 3 1, 3) := by decide +kernel
theorem d_MM_numberAt_39 : decode (kB K_MM_numberAt) 39 = .ok (.goto (-35), 3) := by decide +kernel
theorem d_MM_numberAt_42 : decode (kB K_MM_numberAt) 42 = .ok (.iload_n 2, 1) := by decide +kernel
theorem d_MM_numberAt_43 : decode (kB K_MM_numberAt) 43 = .ok (.ireturn, 1) := by decide +kernel
def K_MM_isSame : KM := (⟨"ParishBoardsModel", "isSame", "(II)Z"⟩, prog_15_method_39_code, 4, (some (.boolean)), "ParishBoardsModel", [])
theorem d_MM_isSame_0 : decode (kB K_MM_isSame) 0 = .ok (.aload_n 0, 1) := by decide +kernel
theorem d_MM_isSame_1 : decode (kB K_MM_isSame) 1 = .ok (.getfield 23, 3) := by decide +kernel
theorem d_MM_isSame_4 : decode (kB K_MM_isSame) 4 = .ok (.iload_n 1, 1) := by decide +kernel
theorem d_MM_isSame_5 : decode (kB K_MM_isSame) 5 = .ok (.iaload, 1) := by decide +kernel
theorem d_MM_isSame_6 : decode (kB K_MM_isSame) 6 = .ok (.aload_n 0, 1) := by decide +kernel
theorem d_MM_isSame_7 : decode (kB K_MM_isSame) 7 = .ok (.getfield 23, 3) := by decide +kernel
theorem d_MM_isSame_10 : decode (kB K_MM_isSame) 10 = .ok (.iload_n 2, 1) := by decide +kernel
theorem d_MM_isSame_11 : decode (kB K_MM_isSame) 11 = .ok (.iaload, 1) := by decide +kernel
theorem d_MM_isSame_12 : decode (kB K_MM_isSame) 12 = .ok (.if_icmp .eq 5, 3) := by decide +kernel
theorem d_MM_isSame_15 : decode (kB K_MM_isSame) 15 = .ok (.iconst 0, 1) := by decide +kernel
theorem d_MM_isSame_16 : decode (kB K_MM_isSame) 16 = .ok (.ireturn, 1) := by decide +kernel
theorem d_MM_isSame_17 : decode (kB K_MM_isSame) 17 = .ok (.iconst 0, 1) := by decide +kernel
theorem d_MM_isSame_18 : decode (kB K_MM_isSame) 18 = .ok (.istore_n 3, 1) := by decide +kernel
theorem d_MM_isSame_19 : decode (kB K_MM_isSame) 19 = .ok (.iload_n 3, 1) := by decide +kernel
theorem d_MM_isSame_20 : decode (kB K_MM_isSame) 20 = .ok (.aload_n 0, 1) := by decide +kernel
theorem d_MM_isSame_21 : decode (kB K_MM_isSame) 21 = .ok (.getfield 23, 3) := by decide +kernel
theorem d_MM_isSame_24 : decode (kB K_MM_isSame) 24 = .ok (.iload_n 1, 1) := by decide +kernel
theorem d_MM_isSame_25 : decode (kB K_MM_isSame) 25 = .ok (.iaload, 1) := by decide +kernel
theorem d_MM_isSame_26 : decode (kB K_MM_isSame) 26 = .ok (.if_icmp .ge 40, 3) := by decide +kernel
theorem d_MM_isSame_29 : decode (kB K_MM_isSame) 29 = .ok (.aload_n 0, 1) := by decide +kernel
theorem d_MM_isSame_30 : decode (kB K_MM_isSame) 30 = .ok (.getfield 9, 3) := by decide +kernel
theorem d_MM_isSame_33 : decode (kB K_MM_isSame) 33 = .ok (.aload_n 0, 1) := by decide +kernel
theorem d_MM_isSame_34 : decode (kB K_MM_isSame) 34 = .ok (.getfield 20, 3) := by decide +kernel
theorem d_MM_isSame_37 : decode (kB K_MM_isSame) 37 = .ok (.iload_n 1, 1) := by decide +kernel
theorem d_MM_isSame_38 : decode (kB K_MM_isSame) 38 = .ok (.iaload, 1) := by decide +kernel
theorem d_MM_isSame_39 : decode (kB K_MM_isSame) 39 = .ok (.iload_n 3, 1) := by decide +kernel
theorem d_MM_isSame_40 : decode (kB K_MM_isSame) 40 = .ok (.iadd, 1) := by decide +kernel
theorem d_MM_isSame_41 : decode (kB K_MM_isSame) 41 = .ok (.iaload, 1) := by decide +kernel
theorem d_MM_isSame_42 : decode (kB K_MM_isSame) 42 = .ok (.aload_n 0, 1) := by decide +kernel
theorem d_MM_isSame_43 : decode (kB K_MM_isSame) 43 = .ok (.getfield 9, 3) := by decide +kernel
theorem d_MM_isSame_46 : decode (kB K_MM_isSame) 46 = .ok (.aload_n 0, 1) := by decide +kernel
theorem d_MM_isSame_47 : decode (kB K_MM_isSame) 47 = .ok (.getfield 20, 3) := by decide +kernel
theorem d_MM_isSame_50 : decode (kB K_MM_isSame) 50 = .ok (.iload_n 2, 1) := by decide +kernel
theorem d_MM_isSame_51 : decode (kB K_MM_isSame) 51 = .ok (.iaload, 1) := by decide +kernel
theorem d_MM_isSame_52 : decode (kB K_MM_isSame) 52 = .ok (.iload_n 3, 1) := by decide +kernel
theorem d_MM_isSame_53 : decode (kB K_MM_isSame) 53 = .ok (.iadd, 1) := by decide +kernel
theorem d_MM_isSame_54 : decode (kB K_MM_isSame) 54 = .ok (.iaload, 1) := by decide +kernel
theorem d_MM_isSame_55 : decode (kB K_MM_isSame) 55 = .ok (.if_icmp .eq 5, 3) := by decide +kernel
theorem d_MM_isSame_58 : decode (kB K_MM_isSame) 58 = .ok (.iconst 0, 1) := by decide +kernel
theorem d_MM_isSame_59 : decode (kB K_MM_isSame) 59 = .ok (.ireturn, 1) := by decide +kernel
theorem d_MM_isSame_60 : decode (kB K_MM_isSame) 60 = .ok (.iinc 3 1, 3) := by decide +kernel
theorem d_MM_isSame_63 : decode (kB K_MM_isSame) 63 = .ok (.goto (-44), 3) := by decide +kernel
theorem d_MM_isSame_66 : decode (kB K_MM_isSame) 66 = .ok (.iconst 1, 1) := by decide +kernel
theorem d_MM_isSame_67 : decode (kB K_MM_isSame) 67 = .ok (.ireturn, 1) := by decide +kernel
def K_MM_told : KM := (⟨"ParishBoardsModel", "told", "(II)I"⟩, prog_15_method_40_code, 5, (some (.int)), "ParishBoardsModel", [])
theorem d_MM_told_0 : decode (kB K_MM_told) 0 = .ok (.iconst 0, 1) := by decide +kernel
theorem d_MM_told_1 : decode (kB K_MM_told) 1 = .ok (.istore_n 3, 1) := by decide +kernel
theorem d_MM_told_2 : decode (kB K_MM_told) 2 = .ok (.iconst 0, 1) := by decide +kernel
theorem d_MM_told_3 : decode (kB K_MM_told) 3 = .ok (.istore 4, 2) := by decide +kernel
theorem d_MM_told_5 : decode (kB K_MM_told) 5 = .ok (.iload 4, 2) := by decide +kernel
theorem d_MM_told_7 : decode (kB K_MM_told) 7 = .ok (.iload_n 1, 1) := by decide +kernel
theorem d_MM_told_8 : decode (kB K_MM_told) 8 = .ok (.if_icmp .ge 38, 3) := by decide +kernel
theorem d_MM_told_11 : decode (kB K_MM_told) 11 = .ok (.aload_n 0, 1) := by decide +kernel
theorem d_MM_told_12 : decode (kB K_MM_told) 12 = .ok (.getfield 26, 3) := by decide +kernel
theorem d_MM_told_15 : decode (kB K_MM_told) 15 = .ok (.iload 4, 2) := by decide +kernel
theorem d_MM_told_17 : decode (kB K_MM_told) 17 = .ok (.iaload, 1) := by decide +kernel
theorem d_MM_told_18 : decode (kB K_MM_told) 18 = .ok (.iload_n 2, 1) := by decide +kernel
theorem d_MM_told_19 : decode (kB K_MM_told) 19 = .ok (.if_icmp .eq 6, 3) := by decide +kernel
theorem d_MM_told_22 : decode (kB K_MM_told) 22 = .ok (.goto 18, 3) := by decide +kernel
theorem d_MM_told_25 : decode (kB K_MM_told) 25 = .ok (.aload_n 0, 1) := by decide +kernel
theorem d_MM_told_26 : decode (kB K_MM_told) 26 = .ok (.iload 4, 2) := by decide +kernel
theorem d_MM_told_28 : decode (kB K_MM_told) 28 = .ok (.iload_n 1, 1) := by decide +kernel
theorem d_MM_told_29 : decode (kB K_MM_told) 29 = .ok (.invokevirtual 223, 3) := by decide +kernel
theorem d_MM_told_32 : decode (kB K_MM_told) 32 = .ok (.ifCond .eq 5, 3) := by decide +kernel
theorem d_MM_told_35 : decode (kB K_MM_told) 35 = .ok (.iload_n 3, 1) := by decide +kernel
theorem d_MM_told_36 : decode (kB K_MM_told) 36 = .ok (.ireturn, 1) := by decide +kernel
theorem d_MM_told_37 : decode (kB K_MM_told) 37 = .ok (.iinc 3 1, 3) := by decide +kernel
theorem d_MM_told_40 : decode (kB K_MM_told) 40 = .ok (.iinc 4 1, 3) := by decide +kernel
theorem d_MM_told_43 : decode (kB K_MM_told) 43 = .ok (.goto (-38), 3) := by decide +kernel
theorem d_MM_told_46 : decode (kB K_MM_told) 46 = .ok (.iconst (-1), 1) := by decide +kernel
theorem d_MM_told_47 : decode (kB K_MM_told) 47 = .ok (.ireturn, 1) := by decide +kernel
def K_MM_look : KM := (⟨"ParishBoardsModel", "look", "(II)I"⟩, prog_15_method_41_code, 3, (some (.int)), "ParishBoardsModel", [])
theorem d_MM_look_0 : decode (kB K_MM_look) 0 = .ok (.aload_n 0, 1) := by decide +kernel
theorem d_MM_look_1 : decode (kB K_MM_look) 1 = .ok (.getfield 29, 3) := by decide +kernel
theorem d_MM_look_4 : decode (kB K_MM_look) 4 = .ok (.iload_n 1, 1) := by decide +kernel
theorem d_MM_look_5 : decode (kB K_MM_look) 5 = .ok (.aload_n 0, 1) := by decide +kernel
theorem d_MM_look_6 : decode (kB K_MM_look) 6 = .ok (.iload_n 1, 1) := by decide +kernel
theorem d_MM_look_7 : decode (kB K_MM_look) 7 = .ok (.iload_n 2, 1) := by decide +kernel
theorem d_MM_look_8 : decode (kB K_MM_look) 8 = .ok (.invokevirtual 226, 3) := by decide +kernel
theorem d_MM_look_11 : decode (kB K_MM_look) 11 = .ok (.iastore, 1) := by decide +kernel
theorem d_MM_look_12 : decode (kB K_MM_look) 12 = .ok (.aload_n 0, 1) := by decide +kernel
theorem d_MM_look_13 : decode (kB K_MM_look) 13 = .ok (.getfield 29, 3) := by decide +kernel
theorem d_MM_look_16 : decode (kB K_MM_look) 16 = .ok (.iload_n 1, 1) := by decide +kernel
theorem d_MM_look_17 : decode (kB K_MM_look) 17 = .ok (.iaload, 1) := by decide +kernel
theorem d_MM_look_18 : decode (kB K_MM_look) 18 = .ok (.iconst (-1), 1) := by decide +kernel
theorem d_MM_look_19 : decode (kB K_MM_look) 19 = .ok (.if_icmp .ne 7, 3) := by decide +kernel
theorem d_MM_look_22 : decode (kB K_MM_look) 22 = .ok (.iconst 3, 1) := by decide +kernel
theorem d_MM_look_23 : decode (kB K_MM_look) 23 = .ok (.goto 4, 3) := by decide +kernel
theorem d_MM_look_26 : decode (kB K_MM_look) 26 = .ok (.iconst 0, 1) := by decide +kernel
theorem d_MM_look_27 : decode (kB K_MM_look) 27 = .ok (.ireturn, 1) := by decide +kernel
def K_MM_isNew_ : KM := (⟨"ParishBoardsModel", "isNew", "(III)I"⟩, prog_15_method_42_code, 4, (some (.int)), "ParishBoardsModel", [])
theorem d_MM_isNew__0 : decode (kB K_MM_isNew_) 0 = .ok (.aload_n 0, 1) := by decide +kernel
theorem d_MM_isNew__1 : decode (kB K_MM_isNew_) 1 = .ok (.iload_n 1, 1) := by decide +kernel
theorem d_MM_isNew__2 : decode (kB K_MM_isNew_) 2 = .ok (.aload_n 0, 1) := by decide +kernel
theorem d_MM_isNew__3 : decode (kB K_MM_isNew_) 3 = .ok (.getfield 26, 3) := by decide +kernel
theorem d_MM_isNew__6 : decode (kB K_MM_isNew_) 6 = .ok (.iload_n 1, 1) := by decide +kernel
theorem d_MM_isNew__7 : decode (kB K_MM_isNew_) 7 = .ok (.iaload, 1) := by decide +kernel
theorem d_MM_isNew__8 : decode (kB K_MM_isNew_) 8 = .ok (.invokevirtual 226, 3) := by decide +kernel
theorem d_MM_isNew__11 : decode (kB K_MM_isNew_) 11 = .ok (.iconst (-1), 1) := by decide +kernel
theorem d_MM_isNew__12 : decode (kB K_MM_isNew_) 12 = .ok (.if_icmp .eq 7, 3) := by decide +kernel
theorem d_MM_isNew__15 : decode (kB K_MM_isNew_) 15 = .ok (.iconst 2, 1) := by decide +kernel
theorem d_MM_isNew__16 : decode (kB K_MM_isNew_) 16 = .ok (.goto 13, 3) := by decide +kernel
theorem d_MM_isNew__19 : decode (kB K_MM_isNew_) 19 = .ok (.iload_n 2, 1) := by decide +kernel
theorem d_MM_isNew__20 : decode (kB K_MM_isNew_) 20 = .ok (.iload_n 3, 1) := by decide +kernel
theorem d_MM_isNew__21 : decode (kB K_MM_isNew_) 21 = .ok (.if_icmp .ne 7, 3) := by decide +kernel
theorem d_MM_isNew__24 : decode (kB K_MM_isNew_) 24 = .ok (.iconst 4, 1) := by decide +kernel
theorem d_MM_isNew__25 : decode (kB K_MM_isNew_) 25 = .ok (.goto 4, 3) := by decide +kernel
theorem d_MM_isNew__28 : decode (kB K_MM_isNew_) 28 = .ok (.iconst 0, 1) := by decide +kernel
theorem d_MM_isNew__29 : decode (kB K_MM_isNew_) 29 = .ok (.ireturn, 1) := by decide +kernel
def K_MM_inRange : KM := (⟨"ParishBoardsModel", "inRange", "(III)I"⟩, prog_15_method_43_code, 4, (some (.int)), "ParishBoardsModel", [])
theorem d_MM_inRange_0 : decode (kB K_MM_inRange) 0 = .ok (.aload_n 0, 1) := by decide +kernel
theorem d_MM_inRange_1 : decode (kB K_MM_inRange) 1 = .ok (.iload_n 1, 1) := by decide +kernel
theorem d_MM_inRange_2 : decode (kB K_MM_inRange) 2 = .ok (.invokevirtual 216, 3) := by decide +kernel
theorem d_MM_inRange_5 : decode (kB K_MM_inRange) 5 = .ok (.iload_n 2, 1) := by decide +kernel
theorem d_MM_inRange_6 : decode (kB K_MM_inRange) 6 = .ok (.iload_n 3, 1) := by decide +kernel
theorem d_MM_inRange_7 : decode (kB K_MM_inRange) 7 = .ok (.invokestatic 63, 3) := by decide +kernel
theorem d_MM_inRange_10 : decode (kB K_MM_inRange) 10 = .ok (.ifCond .eq 7, 3) := by decide +kernel
theorem d_MM_inRange_13 : decode (kB K_MM_inRange) 13 = .ok (.iconst 0, 1) := by decide +kernel
theorem d_MM_inRange_14 : decode (kB K_MM_inRange) 14 = .ok (.goto 4, 3) := by decide +kernel
theorem d_MM_inRange_17 : decode (kB K_MM_inRange) 17 = .ok (.iconst 5, 1) := by decide +kernel
theorem d_MM_inRange_18 : decode (kB K_MM_inRange) 18 = .ok (.ireturn, 1) := by decide +kernel
def K_MM_newParish : KM := (⟨"ParishBoardsModel", "newParish", "(I)I"⟩, prog_15_method_44_code, 3, (some (.int)), "ParishBoardsModel", [])
theorem d_MM_newParish_0 : decode (kB K_MM_newParish) 0 = .ok (.aload_n 0, 1) := by decide +kernel
theorem d_MM_newParish_1 : decode (kB K_MM_newParish) 1 = .ok (.iload_n 1, 1) := by decide +kernel
theorem d_MM_newParish_2 : decode (kB K_MM_newParish) 2 = .ok (.aload_n 0, 1) := by decide +kernel
theorem d_MM_newParish_3 : decode (kB K_MM_newParish) 3 = .ok (.getfield 39, 3) := by decide +kernel
theorem d_MM_newParish_6 : decode (kB K_MM_newParish) 6 = .ok (.getfield 60, 3) := by decide +kernel
theorem d_MM_newParish_9 : decode (kB K_MM_newParish) 9 = .ok (.iconst 5, 1) := by decide +kernel
theorem d_MM_newParish_10 : decode (kB K_MM_newParish) 10 = .ok (.invokevirtual 229, 3) := by decide +kernel
theorem d_MM_newParish_13 : decode (kB K_MM_newParish) 13 = .ok (.istore_n 2, 1) := by decide +kernel
theorem d_MM_newParish_14 : decode (kB K_MM_newParish) 14 = .ok (.aload_n 0, 1) := by decide +kernel
theorem d_MM_newParish_15 : decode (kB K_MM_newParish) 15 = .ok (.getfield 39, 3) := by decide +kernel
theorem d_MM_newParish_18 : decode (kB K_MM_newParish) 18 = .ok (.dup, 1) := by decide +kernel
theorem d_MM_newParish_19 : decode (kB K_MM_newParish) 19 = .ok (.getfield 60, 3) := by decide +kernel
theorem d_MM_newParish_22 : decode (kB K_MM_newParish) 22 = .ok (.iload_n 2, 1) := by decide +kernel
theorem d_MM_newParish_23 : decode (kB K_MM_newParish) 23 = .ok (.ifCond .ne 7, 3) := by decide +kernel
theorem d_MM_newParish_26 : decode (kB K_MM_newParish) 26 = .ok (.iconst 1, 1) := by decide +kernel
theorem d_MM_newParish_27 : decode (kB K_MM_newParish) 27 = .ok (.goto 4, 3) := by decide +kernel
theorem d_MM_newParish_30 : decode (kB K_MM_newParish) 30 = .ok (.iconst 0, 1) := by decide +kernel
theorem d_MM_newParish_31 : decode (kB K_MM_newParish) 31 = .ok (.iadd, 1) := by decide +kernel
theorem d_MM_newParish_32 : decode (kB K_MM_newParish) 32 = .ok (.putfield 60, 3) := by decide +kernel
theorem d_MM_newParish_35 : decode (kB K_MM_newParish) 35 = .ok (.iload_n 2, 1) := by decide +kernel
theorem d_MM_newParish_36 : decode (kB K_MM_newParish) 36 = .ok (.ireturn, 1) := by decide +kernel
def K_MM_newNotice : KM := (⟨"ParishBoardsModel", "newNotice", "(I)I"⟩, prog_15_method_45_code, 3, (some (.int)), "ParishBoardsModel", [])
theorem d_MM_newNotice_0 : decode (kB K_MM_newNotice) 0 = .ok (.aload_n 0, 1) := by decide +kernel
theorem d_MM_newNotice_1 : decode (kB K_MM_newNotice) 1 = .ok (.iload_n 1, 1) := by decide +kernel
theorem d_MM_newNotice_2 : decode (kB K_MM_newNotice) 2 = .ok (.aload_n 0, 1) := by decide +kernel
theorem d_MM_newNotice_3 : decode (kB K_MM_newNotice) 3 = .ok (.getfield 39, 3) := by decide +kernel
theorem d_MM_newNotice_6 : decode (kB K_MM_newNotice) 6 = .ok (.getfield 71, 3) := by decide +kernel
theorem d_MM_newNotice_9 : decode (kB K_MM_newNotice) 9 = .ok (.bipush 6, 2) := by decide +kernel
theorem d_MM_newNotice_11 : decode (kB K_MM_newNotice) 11 = .ok (.invokevirtual 229, 3) := by decide +kernel
theorem d_MM_newNotice_14 : decode (kB K_MM_newNotice) 14 = .ok (.istore_n 2, 1) := by decide +kernel
theorem d_MM_newNotice_15 : decode (kB K_MM_newNotice) 15 = .ok (.aload_n 0, 1) := by decide +kernel
theorem d_MM_newNotice_16 : decode (kB K_MM_newNotice) 16 = .ok (.getfield 39, 3) := by decide +kernel
theorem d_MM_newNotice_19 : decode (kB K_MM_newNotice) 19 = .ok (.dup, 1) := by decide +kernel
theorem d_MM_newNotice_20 : decode (kB K_MM_newNotice) 20 = .ok (.getfield 71, 3) := by decide +kernel
theorem d_MM_newNotice_23 : decode (kB K_MM_newNotice) 23 = .ok (.iload_n 2, 1) := by decide +kernel
theorem d_MM_newNotice_24 : decode (kB K_MM_newNotice) 24 = .ok (.ifCond .ne 7, 3) := by decide +kernel
theorem d_MM_newNotice_27 : decode (kB K_MM_newNotice) 27 = .ok (.iconst 1, 1) := by decide +kernel
theorem d_MM_newNotice_28 : decode (kB K_MM_newNotice) 28 = .ok (.goto 4, 3) := by decide +kernel
theorem d_MM_newNotice_31 : decode (kB K_MM_newNotice) 31 = .ok (.iconst 0, 1) := by decide +kernel
theorem d_MM_newNotice_32 : decode (kB K_MM_newNotice) 32 = .ok (.iadd, 1) := by decide +kernel
theorem d_MM_newNotice_33 : decode (kB K_MM_newNotice) 33 = .ok (.putfield 71, 3) := by decide +kernel
theorem d_MM_newNotice_36 : decode (kB K_MM_newNotice) 36 = .ok (.iload_n 2, 1) := by decide +kernel
theorem d_MM_newNotice_37 : decode (kB K_MM_newNotice) 37 = .ok (.ireturn, 1) := by decide +kernel
def K_MM_newRoad : KM := (⟨"ParishBoardsModel", "newRoad", "(I)I"⟩, prog_15_method_46_code, 3, (some (.int)), "ParishBoardsModel", [])
theorem d_MM_newRoad_0 : decode (kB K_MM_newRoad) 0 = .ok (.aload_n 0, 1) := by decide +kernel
theorem d_MM_newRoad_1 : decode (kB K_MM_newRoad) 1 = .ok (.iload_n 1, 1) := by decide +kernel
theorem d_MM_newRoad_2 : decode (kB K_MM_newRoad) 2 = .ok (.aload_n 0, 1) := by decide +kernel
theorem d_MM_newRoad_3 : decode (kB K_MM_newRoad) 3 = .ok (.getfield 39, 3) := by decide +kernel
theorem d_MM_newRoad_6 : decode (kB K_MM_newRoad) 6 = .ok (.getfield 74, 3) := by decide +kernel
theorem d_MM_newRoad_9 : decode (kB K_MM_newRoad) 9 = .ok (.bipush 8, 2) := by decide +kernel
theorem d_MM_newRoad_11 : decode (kB K_MM_newRoad) 11 = .ok (.invokevirtual 229, 3) := by decide +kernel
theorem d_MM_newRoad_14 : decode (kB K_MM_newRoad) 14 = .ok (.istore_n 2, 1) := by decide +kernel
theorem d_MM_newRoad_15 : decode (kB K_MM_newRoad) 15 = .ok (.aload_n 0, 1) := by decide +kernel
theorem d_MM_newRoad_16 : decode (kB K_MM_newRoad) 16 = .ok (.getfield 39, 3) := by decide +kernel
theorem d_MM_newRoad_19 : decode (kB K_MM_newRoad) 19 = .ok (.dup, 1) := by decide +kernel
theorem d_MM_newRoad_20 : decode (kB K_MM_newRoad) 20 = .ok (.getfield 74, 3) := by decide +kernel
theorem d_MM_newRoad_23 : decode (kB K_MM_newRoad) 23 = .ok (.iload_n 2, 1) := by decide +kernel
theorem d_MM_newRoad_24 : decode (kB K_MM_newRoad) 24 = .ok (.ifCond .ne 7, 3) := by decide +kernel
theorem d_MM_newRoad_27 : decode (kB K_MM_newRoad) 27 = .ok (.iconst 1, 1) := by decide +kernel
theorem d_MM_newRoad_28 : decode (kB K_MM_newRoad) 28 = .ok (.goto 4, 3) := by decide +kernel
theorem d_MM_newRoad_31 : decode (kB K_MM_newRoad) 31 = .ok (.iconst 0, 1) := by decide +kernel
theorem d_MM_newRoad_32 : decode (kB K_MM_newRoad) 32 = .ok (.iadd, 1) := by decide +kernel
theorem d_MM_newRoad_33 : decode (kB K_MM_newRoad) 33 = .ok (.putfield 74, 3) := by decide +kernel
theorem d_MM_newRoad_36 : decode (kB K_MM_newRoad) 36 = .ok (.iload_n 2, 1) := by decide +kernel
theorem d_MM_newRoad_37 : decode (kB K_MM_newRoad) 37 = .ok (.ireturn, 1) := by decide +kernel
def K_MM_order : KM := (⟨"ParishBoardsModel", "order", "(I)I"⟩, prog_15_method_47_code, 2, (some (.int)), "ParishBoardsModel", [])
theorem d_MM_order_0 : decode (kB K_MM_order) 0 = .ok (.aload_n 0, 1) := by decide +kernel
theorem d_MM_order_1 : decode (kB K_MM_order) 1 = .ok (.getfield 39, 3) := by decide +kernel
theorem d_MM_order_4 : decode (kB K_MM_order) 4 = .ok (.getfield 232, 3) := by decide +kernel
theorem d_MM_order_7 : decode (kB K_MM_order) 7 = .ok (.bipush 20, 2) := by decide +kernel
theorem d_MM_order_9 : decode (kB K_MM_order) 9 = .ok (.if_icmp .ne 5, 3) := by decide +kernel
theorem d_MM_order_12 : decode (kB K_MM_order) 12 = .ok (.iconst 4, 1) := by decide +kernel
theorem d_MM_order_13 : decode (kB K_MM_order) 13 = .ok (.ireturn, 1) := by decide +kernel
theorem d_MM_order_14 : decode (kB K_MM_order) 14 = .ok (.aload_n 0, 1) := by decide +kernel
theorem d_MM_order_15 : decode (kB K_MM_order) 15 = .ok (.getfield 39, 3) := by decide +kernel
theorem d_MM_order_18 : decode (kB K_MM_order) 18 = .ok (.getfield 235, 3) := by decide +kernel
theorem d_MM_order_21 : decode (kB K_MM_order) 21 = .ok (.aload_n 0, 1) := by decide +kernel
theorem d_MM_order_22 : decode (kB K_MM_order) 22 = .ok (.getfield 39, 3) := by decide +kernel
theorem d_MM_order_25 : decode (kB K_MM_order) 25 = .ok (.getfield 232, 3) := by decide +kernel
theorem d_MM_order_28 : decode (kB K_MM_order) 28 = .ok (.aload_n 0, 1) := by decide +kernel
theorem d_MM_order_29 : decode (kB K_MM_order) 29 = .ok (.getfield 17, 3) := by decide +kernel
theorem d_MM_order_32 : decode (kB K_MM_order) 32 = .ok (.iload_n 1, 1) := by decide +kernel
theorem d_MM_order_33 : decode (kB K_MM_order) 33 = .ok (.iaload, 1) := by decide +kernel
theorem d_MM_order_34 : decode (kB K_MM_order) 34 = .ok (.iastore, 1) := by decide +kernel
theorem d_MM_order_35 : decode (kB K_MM_order) 35 = .ok (.aload_n 0, 1) := by decide +kernel
theorem d_MM_order_36 : decode (kB K_MM_order) 36 = .ok (.getfield 39, 3) := by decide +kernel
theorem d_MM_order_39 : decode (kB K_MM_order) 39 = .ok (.dup, 1) := by decide +kernel
theorem d_MM_order_40 : decode (kB K_MM_order) 40 = .ok (.getfield 232, 3) := by decide +kernel
theorem d_MM_order_43 : decode (kB K_MM_order) 43 = .ok (.iconst 1, 1) := by decide +kernel
theorem d_MM_order_44 : decode (kB K_MM_order) 44 = .ok (.iadd, 1) := by decide +kernel
theorem d_MM_order_45 : decode (kB K_MM_order) 45 = .ok (.putfield 232, 3) := by decide +kernel
theorem d_MM_order_48 : decode (kB K_MM_order) 48 = .ok (.iconst 0, 1) := by decide +kernel
theorem d_MM_order_49 : decode (kB K_MM_order) 49 = .ok (.ireturn, 1) := by decide +kernel
def K_MM_named : KM := (⟨"ParishBoardsModel", "named", "(I[III)I"⟩, prog_15_method_48_code, 6, (some (.int)), "ParishBoardsModel", [])
theorem d_MM_named_0 : decode (kB K_MM_named) 0 = .ok (.aload_n 0, 1) := by decide +kernel
theorem d_MM_named_1 : decode (kB K_MM_named) 1 = .ok (.iload_n 1, 1) := by decide +kernel
theorem d_MM_named_2 : decode (kB K_MM_named) 2 = .ok (.iload 4, 2) := by decide +kernel
theorem d_MM_named_4 : decode (kB K_MM_named) 4 = .ok (.invokevirtual 238, 3) := by decide +kernel
theorem d_MM_named_7 : decode (kB K_MM_named) 7 = .ok (.istore 5, 2) := by decide +kernel
theorem d_MM_named_9 : decode (kB K_MM_named) 9 = .ok (.aload_n 2, 1) := by decide +kernel
theorem d_MM_named_10 : decode (kB K_MM_named) 10 = .ok (.iload_n 3, 1) := by decide +kernel
theorem d_MM_named_11 : decode (kB K_MM_named) 11 = .ok (.aload_n 0, 1) := by decide +kernel
theorem d_MM_named_12 : decode (kB K_MM_named) 12 = .ok (.getfield 29, 3) := by decide +kernel
theorem d_MM_named_15 : decode (kB K_MM_named) 15 = .ok (.iload_n 1, 1) := by decide +kernel
theorem d_MM_named_16 : decode (kB K_MM_named) 16 = .ok (.iaload, 1) := by decide +kernel
theorem d_MM_named_17 : decode (kB K_MM_named) 17 = .ok (.iastore, 1) := by decide +kernel
theorem d_MM_named_18 : decode (kB K_MM_named) 18 = .ok (.iload 5, 2) := by decide +kernel
theorem d_MM_named_20 : decode (kB K_MM_named) 20 = .ok (.ireturn, 1) := by decide +kernel
def K_MM_whither : KM := (⟨"ParishBoardsModel", "whither", "(I)I"⟩, prog_15_method_49_code, 4, (some (.int)), "ParishBoardsModel", [])
theorem d_MM_whither_0 : decode (kB K_MM_whither) 0 = .ok (.aload_n 0, 1) := by decide +kernel
theorem d_MM_whither_1 : decode (kB K_MM_whither) 1 = .ok (.getfield 39, 3) := by decide +kernel
theorem d_MM_whither_4 : decode (kB K_MM_whither) 4 = .ok (.getfield 74, 3) := by decide +kernel
theorem d_MM_whither_7 : decode (kB K_MM_whither) 7 = .ok (.iconst 1, 1) := by decide +kernel
theorem d_MM_whither_8 : decode (kB K_MM_whither) 8 = .ok (.isub, 1) := by decide +kernel
theorem d_MM_whither_9 : decode (kB K_MM_whither) 9 = .ok (.istore_n 2, 1) := by decide +kernel
theorem d_MM_whither_10 : decode (kB K_MM_whither) 10 = .ok (.aload_n 0, 1) := by decide +kernel
theorem d_MM_whither_11 : decode (kB K_MM_whither) 11 = .ok (.iload_n 1, 1) := by decide +kernel
theorem d_MM_whither_12 : decode (kB K_MM_whither) 12 = .ok (.aload_n 0, 1) := by decide +kernel
theorem d_MM_whither_13 : decode (kB K_MM_whither) 13 = .ok (.getfield 39, 3) := by decide +kernel
theorem d_MM_whither_16 : decode (kB K_MM_whither) 16 = .ok (.getfield 241, 3) := by decide +kernel
theorem d_MM_whither_19 : decode (kB K_MM_whither) 19 = .ok (.iload_n 2, 1) := by decide +kernel
theorem d_MM_whither_20 : decode (kB K_MM_whither) 20 = .ok (.iconst 1, 1) := by decide +kernel
theorem d_MM_whither_21 : decode (kB K_MM_whither) 21 = .ok (.invokevirtual 244, 3) := by decide +kernel
theorem d_MM_whither_24 : decode (kB K_MM_whither) 24 = .ok (.istore_n 3, 1) := by decide +kernel
theorem d_MM_whither_25 : decode (kB K_MM_whither) 25 = .ok (.iload_n 3, 1) := by decide +kernel
theorem d_MM_whither_26 : decode (kB K_MM_whither) 26 = .ok (.ifCond .ne 28, 3) := by decide +kernel
theorem d_MM_whither_29 : decode (kB K_MM_whither) 29 = .ok (.aload_n 0, 1) := by decide +kernel
theorem d_MM_whither_30 : decode (kB K_MM_whither) 30 = .ok (.getfield 39, 3) := by decide +kernel
theorem d_MM_whither_33 : decode (kB K_MM_whither) 33 = .ok (.getfield 241, 3) := by decide +kernel
theorem d_MM_whither_36 : decode (kB K_MM_whither) 36 = .ok (.iload_n 2, 1) := by decide +kernel
theorem d_MM_whither_37 : decode (kB K_MM_whither) 37 = .ok (.iaload, 1) := by decide +kernel
theorem d_MM_whither_38 : decode (kB K_MM_whither) 38 = .ok (.aload_n 0, 1) := by decide +kernel
theorem d_MM_whither_39 : decode (kB K_MM_whither) 39 = .ok (.getfield 39, 3) := by decide +kernel
theorem d_MM_whither_42 : decode (kB K_MM_whither) 42 = .ok (.getfield 248, 3) := by decide +kernel
theorem d_MM_whither_45 : decode (kB K_MM_whither) 45 = .ok (.iload_n 2, 1) := by decide +kernel
theorem d_MM_whither_46 : decode (kB K_MM_whither) 46 = .ok (.iaload, 1) := by decide +kernel
theorem d_MM_whither_47 : decode (kB K_MM_whither) 47 = .ok (.if_icmp .ne 7, 3) := by decide +kernel
theorem d_MM_whither_50 : decode (kB K_MM_whither) 50 = .ok (.iconst 5, 1) := by decide +kernel
theorem d_MM_whither_51 : decode (kB K_MM_whither) 51 = .ok (.goto 4, 3) := by decide +kernel
theorem d_MM_whither_54 : decode (kB K_MM_whither) 54 = .ok (.iload_n 3, 1) := by decide +kernel
theorem d_MM_whither_55 : decode (kB K_MM_whither) 55 = .ok (.ireturn, 1) := by decide +kernel
def K_MM_daysOf : KM := (⟨"ParishBoardsModel", "daysOf", "(I)I"⟩, prog_15_method_50_code, 2, (some (.int)), "ParishBoardsModel", [])
theorem d_MM_daysOf_0 : decode (kB K_MM_daysOf) 0 = .ok (.aload_n 0, 1) := by decide +kernel
theorem d_MM_daysOf_1 : decode (kB K_MM_daysOf) 1 = .ok (.getfield 39, 3) := by decide +kernel
theorem d_MM_daysOf_4 : decode (kB K_MM_daysOf) 4 = .ok (.getfield 251, 3) := by decide +kernel
theorem d_MM_daysOf_7 : decode (kB K_MM_daysOf) 7 = .ok (.aload_n 0, 1) := by decide +kernel
theorem d_MM_daysOf_8 : decode (kB K_MM_daysOf) 8 = .ok (.getfield 39, 3) := by decide +kernel
theorem d_MM_daysOf_11 : decode (kB K_MM_daysOf) 11 = .ok (.getfield 74, 3) := by decide +kernel
theorem d_MM_daysOf_14 : decode (kB K_MM_daysOf) 14 = .ok (.iconst 1, 1) := by decide +kernel
theorem d_MM_daysOf_15 : decode (kB K_MM_daysOf) 15 = .ok (.isub, 1) := by decide +kernel
theorem d_MM_daysOf_16 : decode (kB K_MM_daysOf) 16 = .ok (.aload_n 0, 1) := by decide +kernel
theorem d_MM_daysOf_17 : decode (kB K_MM_daysOf) 17 = .ok (.iload_n 1, 1) := by decide +kernel
theorem d_MM_daysOf_18 : decode (kB K_MM_daysOf) 18 = .ok (.invokevirtual 216, 3) := by decide +kernel
theorem d_MM_daysOf_21 : decode (kB K_MM_daysOf) 21 = .ok (.iastore, 1) := by decide +kernel
theorem d_MM_daysOf_22 : decode (kB K_MM_daysOf) 22 = .ok (.aload_n 0, 1) := by decide +kernel
theorem d_MM_daysOf_23 : decode (kB K_MM_daysOf) 23 = .ok (.iload_n 1, 1) := by decide +kernel
theorem d_MM_daysOf_24 : decode (kB K_MM_daysOf) 24 = .ok (.iconst 1, 1) := by decide +kernel
theorem d_MM_daysOf_25 : decode (kB K_MM_daysOf) 25 = .ok (.bipush 9, 2) := by decide +kernel
theorem d_MM_daysOf_27 : decode (kB K_MM_daysOf) 27 = .ok (.invokevirtual 254, 3) := by decide +kernel
theorem d_MM_daysOf_30 : decode (kB K_MM_daysOf) 30 = .ok (.ireturn, 1) := by decide +kernel
def K_MM_errorOf : KM := (⟨"ParishBoardsModel", "errorOf", "(I)I"⟩, prog_15_method_51_code, 3, (some (.int)), "ParishBoardsModel", [])
theorem d_MM_errorOf_0 : decode (kB K_MM_errorOf) 0 = .ok (.aload_n 0, 1) := by decide +kernel
theorem d_MM_errorOf_1 : decode (kB K_MM_errorOf) 1 = .ok (.getfield 39, 3) := by decide +kernel
theorem d_MM_errorOf_4 : decode (kB K_MM_errorOf) 4 = .ok (.astore_n 2, 1) := by decide +kernel
theorem d_MM_errorOf_5 : decode (kB K_MM_errorOf) 5 = .ok (.aload_n 0, 1) := by decide +kernel
theorem d_MM_errorOf_6 : decode (kB K_MM_errorOf) 6 = .ok (.getfield 26, 3) := by decide +kernel
theorem d_MM_errorOf_9 : decode (kB K_MM_errorOf) 9 = .ok (.iload_n 1, 1) := by decide +kernel
theorem d_MM_errorOf_10 : decode (kB K_MM_errorOf) 10 = .ok (.iaload, 1) := by decide +kernel
theorem d_MM_errorOf_11 : decode (kB K_MM_errorOf) 11 = .ok (.tableswitch 205 1 13 #[65, 71, 77, 83, 100, 106, 112, 118, 135, 152, 169, 191, 198], 65) := by decide +kernel
theorem d_MM_errorOf_76 : decode (kB K_MM_errorOf) 76 = .ok (.aload_n 0, 1) := by decide +kernel
theorem d_MM_errorOf_77 : decode (kB K_MM_errorOf) 77 = .ok (.iload_n 1, 1) := by decide +kernel
theorem d_MM_errorOf_78 : decode (kB K_MM_errorOf) 78 = .ok (.invokevirtual 257, 3) := by decide +kernel
theorem d_MM_errorOf_81 : decode (kB K_MM_errorOf) 81 = .ok (.ireturn, 1) := by decide +kernel
theorem d_MM_errorOf_82 : decode (kB K_MM_errorOf) 82 = .ok (.aload_n 0, 1) := by decide +kernel
theorem d_MM_errorOf_83 : decode (kB K_MM_errorOf) 83 = .ok (.iload_n 1, 1) := by decide +kernel
theorem d_MM_errorOf_84 : decode (kB K_MM_errorOf) 84 = .ok (.invokevirtual 260, 3) := by decide +kernel
theorem d_MM_errorOf_87 : decode (kB K_MM_errorOf) 87 = .ok (.ireturn, 1) := by decide +kernel
theorem d_MM_errorOf_88 : decode (kB K_MM_errorOf) 88 = .ok (.aload_n 0, 1) := by decide +kernel
theorem d_MM_errorOf_89 : decode (kB K_MM_errorOf) 89 = .ok (.iload_n 1, 1) := by decide +kernel
theorem d_MM_errorOf_90 : decode (kB K_MM_errorOf) 90 = .ok (.invokevirtual 263, 3) := by decide +kernel
theorem d_MM_errorOf_93 : decode (kB K_MM_errorOf) 93 = .ok (.ireturn, 1) := by decide +kernel
theorem d_MM_errorOf_94 : decode (kB K_MM_errorOf) 94 = .ok (.aload_n 0, 1) := by decide +kernel
theorem d_MM_errorOf_95 : decode (kB K_MM_errorOf) 95 = .ok (.iload_n 1, 1) := by decide +kernel
theorem d_MM_errorOf_96 : decode (kB K_MM_errorOf) 96 = .ok (.aload_n 2, 1) := by decide +kernel
theorem d_MM_errorOf_97 : decode (kB K_MM_errorOf) 97 = .ok (.getfield 248, 3) := by decide +kernel
theorem d_MM_errorOf_100 : decode (kB K_MM_errorOf) 100 = .ok (.aload_n 2, 1) := by decide +kernel
theorem d_MM_errorOf_101 : decode (kB K_MM_errorOf) 101 = .ok (.getfield 74, 3) := by decide +kernel
theorem d_MM_errorOf_104 : decode (kB K_MM_errorOf) 104 = .ok (.iconst 1, 1) := by decide +kernel
theorem d_MM_errorOf_105 : decode (kB K_MM_errorOf) 105 = .ok (.isub, 1) := by decide +kernel
theorem d_MM_errorOf_106 : decode (kB K_MM_errorOf) 106 = .ok (.iconst 1, 1) := by decide +kernel
theorem d_MM_errorOf_107 : decode (kB K_MM_errorOf) 107 = .ok (.invokevirtual 244, 3) := by decide +kernel
theorem d_MM_errorOf_110 : decode (kB K_MM_errorOf) 110 = .ok (.ireturn, 1) := by decide +kernel
theorem d_MM_errorOf_111 : decode (kB K_MM_errorOf) 111 = .ok (.aload_n 0, 1) := by decide +kernel
theorem d_MM_errorOf_112 : decode (kB K_MM_errorOf) 112 = .ok (.iload_n 1, 1) := by decide +kernel
theorem d_MM_errorOf_113 : decode (kB K_MM_errorOf) 113 = .ok (.invokevirtual 266, 3) := by decide +kernel
theorem d_MM_errorOf_116 : decode (kB K_MM_errorOf) 116 = .ok (.ireturn, 1) := by decide +kernel
theorem d_MM_errorOf_117 : decode (kB K_MM_errorOf) 117 = .ok (.aload_n 0, 1) := by decide +kernel
theorem d_MM_errorOf_118 : decode (kB K_MM_errorOf) 118 = .ok (.iload_n 1, 1) := by decide +kernel
theorem d_MM_errorOf_119 : decode (kB K_MM_errorOf) 119 = .ok (.invokevirtual 268, 3) := by decide +kernel
theorem d_MM_errorOf_122 : decode (kB K_MM_errorOf) 122 = .ok (.ireturn, 1) := by decide +kernel
theorem d_MM_errorOf_123 : decode (kB K_MM_errorOf) 123 = .ok (.aload_n 0, 1) := by decide +kernel
theorem d_MM_errorOf_124 : decode (kB K_MM_errorOf) 124 = .ok (.iload_n 1, 1) := by decide +kernel
theorem d_MM_errorOf_125 : decode (kB K_MM_errorOf) 125 = .ok (.invokevirtual 271, 3) := by decide +kernel
theorem d_MM_errorOf_128 : decode (kB K_MM_errorOf) 128 = .ok (.ireturn, 1) := by decide +kernel
theorem d_MM_errorOf_129 : decode (kB K_MM_errorOf) 129 = .ok (.aload_n 0, 1) := by decide +kernel
theorem d_MM_errorOf_130 : decode (kB K_MM_errorOf) 130 = .ok (.iload_n 1, 1) := by decide +kernel
theorem d_MM_errorOf_131 : decode (kB K_MM_errorOf) 131 = .ok (.aload_n 2, 1) := by decide +kernel
theorem d_MM_errorOf_132 : decode (kB K_MM_errorOf) 132 = .ok (.getfield 274, 3) := by decide +kernel
theorem d_MM_errorOf_135 : decode (kB K_MM_errorOf) 135 = .ok (.aload_n 2, 1) := by decide +kernel
theorem d_MM_errorOf_136 : decode (kB K_MM_errorOf) 136 = .ok (.getfield 232, 3) := by decide +kernel
theorem d_MM_errorOf_139 : decode (kB K_MM_errorOf) 139 = .ok (.iconst 1, 1) := by decide +kernel
theorem d_MM_errorOf_140 : decode (kB K_MM_errorOf) 140 = .ok (.isub, 1) := by decide +kernel
theorem d_MM_errorOf_141 : decode (kB K_MM_errorOf) 141 = .ok (.iconst 1, 1) := by decide +kernel
theorem d_MM_errorOf_142 : decode (kB K_MM_errorOf) 142 = .ok (.invokevirtual 244, 3) := by decide +kernel
theorem d_MM_errorOf_145 : decode (kB K_MM_errorOf) 145 = .ok (.ireturn, 1) := by decide +kernel
theorem d_MM_errorOf_146 : decode (kB K_MM_errorOf) 146 = .ok (.aload_n 0, 1) := by decide +kernel
theorem d_MM_errorOf_147 : decode (kB K_MM_errorOf) 147 = .ok (.iload_n 1, 1) := by decide +kernel
theorem d_MM_errorOf_148 : decode (kB K_MM_errorOf) 148 = .ok (.aload_n 2, 1) := by decide +kernel
theorem d_MM_errorOf_149 : decode (kB K_MM_errorOf) 149 = .ok (.getfield 277, 3) := by decide +kernel
theorem d_MM_errorOf_152 : decode (kB K_MM_errorOf) 152 = .ok (.aload_n 2, 1) := by decide +kernel
theorem d_MM_errorOf_153 : decode (kB K_MM_errorOf) 153 = .ok (.getfield 232, 3) := by decide +kernel
theorem d_MM_errorOf_156 : decode (kB K_MM_errorOf) 156 = .ok (.iconst 1, 1) := by decide +kernel
theorem d_MM_errorOf_157 : decode (kB K_MM_errorOf) 157 = .ok (.isub, 1) := by decide +kernel
theorem d_MM_errorOf_158 : decode (kB K_MM_errorOf) 158 = .ok (.iconst 2, 1) := by decide +kernel
theorem d_MM_errorOf_159 : decode (kB K_MM_errorOf) 159 = .ok (.invokevirtual 244, 3) := by decide +kernel
theorem d_MM_errorOf_162 : decode (kB K_MM_errorOf) 162 = .ok (.ireturn, 1) := by decide +kernel
theorem d_MM_errorOf_163 : decode (kB K_MM_errorOf) 163 = .ok (.aload_n 0, 1) := by decide +kernel
theorem d_MM_errorOf_164 : decode (kB K_MM_errorOf) 164 = .ok (.iload_n 1, 1) := by decide +kernel
theorem d_MM_errorOf_165 : decode (kB K_MM_errorOf) 165 = .ok (.aload_n 2, 1) := by decide +kernel
theorem d_MM_errorOf_166 : decode (kB K_MM_errorOf) 166 = .ok (.getfield 274, 3) := by decide +kernel
theorem d_MM_errorOf_169 : decode (kB K_MM_errorOf) 169 = .ok (.aload_n 2, 1) := by decide +kernel
theorem d_MM_errorOf_170 : decode (kB K_MM_errorOf) 170 = .ok (.getfield 232, 3) := by decide +kernel
theorem d_MM_errorOf_173 : decode (kB K_MM_errorOf) 173 = .ok (.iconst 1, 1) := by decide +kernel
theorem d_MM_errorOf_174 : decode (kB K_MM_errorOf) 174 = .ok (.isub, 1) := by decide +kernel
theorem d_MM_errorOf_175 : decode (kB K_MM_errorOf) 175 = .ok (.iconst 3, 1) := by decide +kernel
theorem d_MM_errorOf_176 : decode (kB K_MM_errorOf) 176 = .ok (.invokevirtual 244, 3) := by decide +kernel
theorem d_MM_errorOf_179 : decode (kB K_MM_errorOf) 179 = .ok (.ireturn, 1) := by decide +kernel
theorem d_MM_errorOf_180 : decode (kB K_MM_errorOf) 180 = .ok (.aload_n 2, 1) := by decide +kernel
theorem d_MM_errorOf_181 : decode (kB K_MM_errorOf) 181 = .ok (.getfield 280, 3) := by decide +kernel
theorem d_MM_errorOf_184 : decode (kB K_MM_errorOf) 184 = .ok (.aload_n 2, 1) := by decide +kernel
theorem d_MM_errorOf_185 : decode (kB K_MM_errorOf) 185 = .ok (.getfield 232, 3) := by decide +kernel
theorem d_MM_errorOf_188 : decode (kB K_MM_errorOf) 188 = .ok (.iconst 1, 1) := by decide +kernel
theorem d_MM_errorOf_189 : decode (kB K_MM_errorOf) 189 = .ok (.isub, 1) := by decide +kernel
theorem d_MM_errorOf_190 : decode (kB K_MM_errorOf) 190 = .ok (.aload_n 0, 1) := by decide +kernel
theorem d_MM_errorOf_191 : decode (kB K_MM_errorOf) 191 = .ok (.getfield 17, 3) := by decide +kernel
theorem d_MM_errorOf_194 : decode (kB K_MM_errorOf) 194 = .ok (.iload_n 1, 1) := by decide +kernel
theorem d_MM_errorOf_195 : decode (kB K_MM_errorOf) 195 = .ok (.iaload, 1) := by decide +kernel
theorem d_MM_errorOf_196 : decode (kB K_MM_errorOf) 196 = .ok (.bipush 13, 2) := by decide +kernel
theorem d_MM_errorOf_198 : decode (kB K_MM_errorOf) 198 = .ok (.isub, 1) := by decide +kernel
theorem d_MM_errorOf_199 : decode (kB K_MM_errorOf) 199 = .ok (.iastore, 1) := by decide +kernel
theorem d_MM_errorOf_200 : decode (kB K_MM_errorOf) 200 = .ok (.iconst 0, 1) := by decide +kernel
theorem d_MM_errorOf_201 : decode (kB K_MM_errorOf) 201 = .ok (.ireturn, 1) := by decide +kernel
theorem d_MM_errorOf_202 : decode (kB K_MM_errorOf) 202 = .ok (.aload_n 0, 1) := by decide +kernel
theorem d_MM_errorOf_203 : decode (kB K_MM_errorOf) 203 = .ok (.iload_n 1, 1) := by decide +kernel
theorem d_MM_errorOf_204 : decode (kB K_MM_errorOf) 204 = .ok (.iconst 1, 1) := by decide +kernel
theorem d_MM_errorOf_205 : decode (kB K_MM_errorOf) 205 = .ok (.invokevirtual 238, 3) := by decide +kernel
theorem d_MM_errorOf_208 : decode (kB K_MM_errorOf) 208 = .ok (.ireturn, 1) := by decide +kernel
theorem d_MM_errorOf_209 : decode (kB K_MM_errorOf) 209 = .ok (.aload_n 0, 1) := by decide +kernel
theorem d_MM_errorOf_210 : decode (kB K_MM_errorOf) 210 = .ok (.iload_n 1, 1) := by decide +kernel
theorem d_MM_errorOf_211 : decode (kB K_MM_errorOf) 211 = .ok (.iconst 2, 1) := by decide +kernel
theorem d_MM_errorOf_212 : decode (kB K_MM_errorOf) 212 = .ok (.invokevirtual 238, 3) := by decide +kernel
theorem d_MM_errorOf_215 : decode (kB K_MM_errorOf) 215 = .ok (.ireturn, 1) := by decide +kernel
theorem d_MM_errorOf_216 : decode (kB K_MM_errorOf) 216 = .ok (.iconst 0, 1) := by decide +kernel
theorem d_MM_errorOf_217 : decode (kB K_MM_errorOf) 217 = .ok (.ireturn, 1) := by decide +kernel
def K_MM_read : KM := (⟨"ParishBoardsModel", "read", "()I"⟩, prog_15_method_52_code, 3, (some (.int)), "ParishBoardsModel", [])
theorem d_MM_read_0 : decode (kB K_MM_read) 0 = .ok (.aload_n 0, 1) := by decide +kernel
theorem d_MM_read_1 : decode (kB K_MM_read) 1 = .ok (.new 32, 3) := by decide +kernel
theorem d_MM_read_4 : decode (kB K_MM_read) 4 = .ok (.dup, 1) := by decide +kernel
theorem d_MM_read_5 : decode (kB K_MM_read) 5 = .ok (.invokespecial 34, 3) := by decide +kernel
theorem d_MM_read_8 : decode (kB K_MM_read) 8 = .ok (.putfield 39, 3) := by decide +kernel
theorem d_MM_read_11 : decode (kB K_MM_read) 11 = .ok (.aload_n 0, 1) := by decide +kernel
theorem d_MM_read_12 : decode (kB K_MM_read) 12 = .ok (.invokevirtual 283, 3) := by decide +kernel
theorem d_MM_read_15 : decode (kB K_MM_read) 15 = .ok (.aload_n 0, 1) := by decide +kernel
theorem d_MM_read_16 : decode (kB K_MM_read) 16 = .ok (.iconst 0, 1) := by decide +kernel
theorem d_MM_read_17 : decode (kB K_MM_read) 17 = .ok (.putfield 127, 3) := by decide +kernel
theorem d_MM_read_20 : decode (kB K_MM_read) 20 = .ok (.aload_n 0, 1) := by decide +kernel
theorem d_MM_read_21 : decode (kB K_MM_read) 21 = .ok (.iconst 0, 1) := by decide +kernel
theorem d_MM_read_22 : decode (kB K_MM_read) 22 = .ok (.putfield 189, 3) := by decide +kernel
theorem d_MM_read_25 : decode (kB K_MM_read) 25 = .ok (.aload_n 0, 1) := by decide +kernel
theorem d_MM_read_26 : decode (kB K_MM_read) 26 = .ok (.invokevirtual 286, 3) := by decide +kernel
theorem d_MM_read_29 : decode (kB K_MM_read) 29 = .ok (.ifCond .ne 18, 3) := by decide +kernel
theorem d_MM_read_32 : decode (kB K_MM_read) 32 = .ok (.aload_n 0, 1) := by decide +kernel
theorem d_MM_read_33 : decode (kB K_MM_read) 33 = .ok (.aload_n 0, 1) := by decide +kernel
theorem d_MM_read_34 : decode (kB K_MM_read) 34 = .ok (.getfield 20, 3) := by decide +kernel
theorem d_MM_read_37 : decode (kB K_MM_read) 37 = .ok (.aload_n 0, 1) := by decide +kernel
theorem d_MM_read_38 : decode (kB K_MM_read) 38 = .ok (.getfield 127, 3) := by decide +kernel
theorem d_MM_read_41 : decode (kB K_MM_read) 41 = .ok (.iaload, 1) := by decide +kernel
theorem d_MM_read_42 : decode (kB K_MM_read) 42 = .ok (.putfield 13, 3) := by decide +kernel
theorem d_MM_read_45 : decode (kB K_MM_read) 45 = .ok (.iconst 1, 1) := by decide +kernel
theorem d_MM_read_46 : decode (kB K_MM_read) 46 = .ok (.ireturn, 1) := by decide +kernel
theorem d_MM_read_47 : decode (kB K_MM_read) 47 = .ok (.aload_n 0, 1) := by decide +kernel
theorem d_MM_read_48 : decode (kB K_MM_read) 48 = .ok (.getfield 127, 3) := by decide +kernel
theorem d_MM_read_51 : decode (kB K_MM_read) 51 = .ok (.istore_n 1, 1) := by decide +kernel
theorem d_MM_read_52 : decode (kB K_MM_read) 52 = .ok (.aload_n 0, 1) := by decide +kernel
theorem d_MM_read_53 : decode (kB K_MM_read) 53 = .ok (.iconst 0, 1) := by decide +kernel
theorem d_MM_read_54 : decode (kB K_MM_read) 54 = .ok (.putfield 127, 3) := by decide +kernel
theorem d_MM_read_57 : decode (kB K_MM_read) 57 = .ok (.aload_n 0, 1) := by decide +kernel
theorem d_MM_read_58 : decode (kB K_MM_read) 58 = .ok (.getfield 127, 3) := by decide +kernel
theorem d_MM_read_61 : decode (kB K_MM_read) 61 = .ok (.iload_n 1, 1) := by decide +kernel
theorem d_MM_read_62 : decode (kB K_MM_read) 62 = .ok (.if_icmp .ge 47, 3) := by decide +kernel
theorem d_MM_read_65 : decode (kB K_MM_read) 65 = .ok (.aload_n 0, 1) := by decide +kernel
theorem d_MM_read_66 : decode (kB K_MM_read) 66 = .ok (.aload_n 0, 1) := by decide +kernel
theorem d_MM_read_67 : decode (kB K_MM_read) 67 = .ok (.getfield 127, 3) := by decide +kernel
theorem d_MM_read_70 : decode (kB K_MM_read) 70 = .ok (.invokevirtual 289, 3) := by decide +kernel
theorem d_MM_read_73 : decode (kB K_MM_read) 73 = .ok (.istore_n 2, 1) := by decide +kernel
theorem d_MM_read_74 : decode (kB K_MM_read) 74 = .ok (.iload_n 2, 1) := by decide +kernel
theorem d_MM_read_75 : decode (kB K_MM_read) 75 = .ok (.ifCond .ne 6, 3) := by decide +kernel
theorem d_MM_read_78 : decode (kB K_MM_read) 78 = .ok (.goto 18, 3) := by decide +kernel
theorem d_MM_read_81 : decode (kB K_MM_read) 81 = .ok (.aload_n 0, 1) := by decide +kernel
theorem d_MM_read_82 : decode (kB K_MM_read) 82 = .ok (.aload_n 0, 1) := by decide +kernel
theorem d_MM_read_83 : decode (kB K_MM_read) 83 = .ok (.getfield 20, 3) := by decide +kernel
theorem d_MM_read_86 : decode (kB K_MM_read) 86 = .ok (.aload_n 0, 1) := by decide +kernel
theorem d_MM_read_87 : decode (kB K_MM_read) 87 = .ok (.getfield 127, 3) := by decide +kernel
theorem d_MM_read_90 : decode (kB K_MM_read) 90 = .ok (.iaload, 1) := by decide +kernel
theorem d_MM_read_91 : decode (kB K_MM_read) 91 = .ok (.putfield 13, 3) := by decide +kernel
theorem d_MM_read_94 : decode (kB K_MM_read) 94 = .ok (.iload_n 2, 1) := by decide +kernel
theorem d_MM_read_95 : decode (kB K_MM_read) 95 = .ok (.ireturn, 1) := by decide +kernel
theorem d_MM_read_96 : decode (kB K_MM_read) 96 = .ok (.aload_n 0, 1) := by decide +kernel
theorem d_MM_read_97 : decode (kB K_MM_read) 97 = .ok (.dup, 1) := by decide +kernel
theorem d_MM_read_98 : decode (kB K_MM_read) 98 = .ok (.getfield 127, 3) := by decide +kernel
theorem d_MM_read_101 : decode (kB K_MM_read) 101 = .ok (.iconst 1, 1) := by decide +kernel
theorem d_MM_read_102 : decode (kB K_MM_read) 102 = .ok (.iadd, 1) := by decide +kernel
theorem d_MM_read_103 : decode (kB K_MM_read) 103 = .ok (.putfield 127, 3) := by decide +kernel
theorem d_MM_read_106 : decode (kB K_MM_read) 106 = .ok (.goto (-49), 3) := by decide +kernel
theorem d_MM_read_109 : decode (kB K_MM_read) 109 = .ok (.iconst 0, 1) := by decide +kernel
theorem d_MM_read_110 : decode (kB K_MM_read) 110 = .ok (.istore_n 2, 1) := by decide +kernel
theorem d_MM_read_111 : decode (kB K_MM_read) 111 = .ok (.iload_n 2, 1) := by decide +kernel
theorem d_MM_read_112 : decode (kB K_MM_read) 112 = .ok (.aload_n 0, 1) := by decide +kernel
theorem d_MM_read_113 : decode (kB K_MM_read) 113 = .ok (.getfield 39, 3) := by decide +kernel
theorem d_MM_read_116 : decode (kB K_MM_read) 116 = .ok (.getfield 195, 3) := by decide +kernel
theorem d_MM_read_119 : decode (kB K_MM_read) 119 = .ok (.if_icmp .ge 48, 3) := by decide +kernel
theorem d_MM_read_122 : decode (kB K_MM_read) 122 = .ok (.aload_n 0, 1) := by decide +kernel
theorem d_MM_read_123 : decode (kB K_MM_read) 123 = .ok (.getfield 39, 3) := by decide +kernel
theorem d_MM_read_126 : decode (kB K_MM_read) 126 = .ok (.getfield 136, 3) := by decide +kernel
theorem d_MM_read_129 : decode (kB K_MM_read) 129 = .ok (.aload_n 0, 1) := by decide +kernel
theorem d_MM_read_130 : decode (kB K_MM_read) 130 = .ok (.getfield 39, 3) := by decide +kernel
theorem d_MM_read_133 : decode (kB K_MM_read) 133 = .ok (.getfield 192, 3) := by decide +kernel
theorem d_MM_read_136 : decode (kB K_MM_read) 136 = .ok (.iload_n 2, 1) := by decide +kernel
theorem d_MM_read_137 : decode (kB K_MM_read) 137 = .ok (.iaload, 1) := by decide +kernel
theorem d_MM_read_138 : decode (kB K_MM_read) 138 = .ok (.aload_n 0, 1) := by decide +kernel
theorem d_MM_read_139 : decode (kB K_MM_read) 139 = .ok (.getfield 29, 3) := by decide +kernel
theorem d_MM_read_142 : decode (kB K_MM_read) 142 = .ok (.aload_n 0, 1) := by decide +kernel
theorem d_MM_read_143 : decode (kB K_MM_read) 143 = .ok (.getfield 39, 3) := by decide +kernel
theorem d_MM_read_146 : decode (kB K_MM_read) 146 = .ok (.getfield 136, 3) := by decide +kernel
theorem d_MM_read_149 : decode (kB K_MM_read) 149 = .ok (.aload_n 0, 1) := by decide +kernel
theorem d_MM_read_150 : decode (kB K_MM_read) 150 = .ok (.getfield 39, 3) := by decide +kernel
theorem d_MM_read_153 : decode (kB K_MM_read) 153 = .ok (.getfield 192, 3) := by decide +kernel
theorem d_MM_read_156 : decode (kB K_MM_read) 156 = .ok (.iload_n 2, 1) := by decide +kernel
theorem d_MM_read_157 : decode (kB K_MM_read) 157 = .ok (.iaload, 1) := by decide +kernel
theorem d_MM_read_158 : decode (kB K_MM_read) 158 = .ok (.iaload, 1) := by decide +kernel
theorem d_MM_read_159 : decode (kB K_MM_read) 159 = .ok (.iaload, 1) := by decide +kernel
theorem d_MM_read_160 : decode (kB K_MM_read) 160 = .ok (.iastore, 1) := by decide +kernel
theorem d_MM_read_161 : decode (kB K_MM_read) 161 = .ok (.iinc 2 1, 3) := by decide +kernel
theorem d_MM_read_164 : decode (kB K_MM_read) 164 = .ok (.goto (-53), 3) := by decide +kernel
theorem d_MM_read_167 : decode (kB K_MM_read) 167 = .ok (.iconst 0, 1) := by decide +kernel
theorem d_MM_read_168 : decode (kB K_MM_read) 168 = .ok (.ireturn, 1) := by decide +kernel
def K_MM_feed : KM := (⟨"ParishBoardsModel", "feed", "(IIIII)I"⟩, prog_15_method_53_code, 8, (some (.int)), "ParishBoardsModel", [])
theorem d_MM_feed_0 : decode (kB K_MM_feed) 0 = .ok (.aload_n 0, 1) := by decide +kernel
theorem d_MM_feed_1 : decode (kB K_MM_feed) 1 = .ok (.iconst 0, 1) := by decide +kernel
theorem d_MM_feed_2 : decode (kB K_MM_feed) 2 = .ok (.putfield 57, 3) := by decide +kernel
theorem d_MM_feed_5 : decode (kB K_MM_feed) 5 = .ok (.aload_n 0, 1) := by decide +kernel
theorem d_MM_feed_6 : decode (kB K_MM_feed) 6 = .ok (.getfield 89, 3) := by decide +kernel
theorem d_MM_feed_9 : decode (kB K_MM_feed) 9 = .ok (.sipush 1980, 3) := by decide +kernel
theorem d_MM_feed_12 : decode (kB K_MM_feed) 12 = .ok (.if_icmp .le 9, 3) := by decide +kernel
theorem d_MM_feed_15 : decode (kB K_MM_feed) 15 = .ok (.aload_n 0, 1) := by decide +kernel
theorem d_MM_feed_16 : decode (kB K_MM_feed) 16 = .ok (.iconst 1, 1) := by decide +kernel
theorem d_MM_feed_17 : decode (kB K_MM_feed) 17 = .ok (.invokevirtual 292, 3) := by decide +kernel
theorem d_MM_feed_20 : decode (kB K_MM_feed) 20 = .ok (.ireturn, 1) := by decide +kernel
theorem d_MM_feed_21 : decode (kB K_MM_feed) 21 = .ok (.iconst 5, 1) := by decide +kernel
theorem d_MM_feed_22 : decode (kB K_MM_feed) 22 = .ok (.newarray .int, 2) := by decide +kernel
theorem d_MM_feed_24 : decode (kB K_MM_feed) 24 = .ok (.dup, 1) := by decide +kernel
theorem d_MM_feed_25 : decode (kB K_MM_feed) 25 = .ok (.iconst 0, 1) := by decide +kernel
theorem d_MM_feed_26 : decode (kB K_MM_feed) 26 = .ok (.iload_n 1, 1) := by decide +kernel
theorem d_MM_feed_27 : decode (kB K_MM_feed) 27 = .ok (.iastore, 1) := by decide +kernel
theorem d_MM_feed_28 : decode (kB K_MM_feed) 28 = .ok (.dup, 1) := by decide +kernel
theorem d_MM_feed_29 : decode (kB K_MM_feed) 29 = .ok (.iconst 1, 1) := by decide +kernel
theorem d_MM_feed_30 : decode (kB K_MM_feed) 30 = .ok (.iload_n 2, 1) := by decide +kernel
theorem d_MM_feed_31 : decode (kB K_MM_feed) 31 = .ok (.iastore, 1) := by decide +kernel
theorem d_MM_feed_32 : decode (kB K_MM_feed) 32 = .ok (.dup, 1) := by decide +kernel
theorem d_MM_feed_33 : decode (kB K_MM_feed) 33 = .ok (.iconst 2, 1) := by decide +kernel
theorem d_MM_feed_34 : decode (kB K_MM_feed) 34 = .ok (.iload_n 3, 1) := by decide +kernel
theorem d_MM_feed_35 : decode (kB K_MM_feed) 35 = .ok (.iastore, 1) := by decide +kernel
theorem d_MM_feed_36 : decode (kB K_MM_feed) 36 = .ok (.dup, 1) := by decide +kernel
theorem d_MM_feed_37 : decode (kB K_MM_feed) 37 = .ok (.iconst 3, 1) := by decide +kernel
theorem d_MM_feed_38 : decode (kB K_MM_feed) 38 = .ok (.iload 4, 2) := by decide +kernel
theorem d_MM_feed_40 : decode (kB K_MM_feed) 40 = .ok (.iastore, 1) := by decide +kernel
theorem d_MM_feed_41 : decode (kB K_MM_feed) 41 = .ok (.dup, 1) := by decide +kernel
theorem d_MM_feed_42 : decode (kB K_MM_feed) 42 = .ok (.iconst 4, 1) := by decide +kernel
theorem d_MM_feed_43 : decode (kB K_MM_feed) 43 = .ok (.iload 5, 2) := by decide +kernel
theorem d_MM_feed_45 : decode (kB K_MM_feed) 45 = .ok (.iastore, 1) := by decide +kernel
theorem d_MM_feed_46 : decode (kB K_MM_feed) 46 = .ok (.astore 6, 2) := by decide +kernel
theorem d_MM_feed_48 : decode (kB K_MM_feed) 48 = .ok (.iconst 0, 1) := by decide +kernel
theorem d_MM_feed_49 : decode (kB K_MM_feed) 49 = .ok (.istore 7, 2) := by decide +kernel
theorem d_MM_feed_51 : decode (kB K_MM_feed) 51 = .ok (.iload 7, 2) := by decide +kernel
theorem d_MM_feed_53 : decode (kB K_MM_feed) 53 = .ok (.bipush 20, 2) := by decide +kernel
theorem d_MM_feed_55 : decode (kB K_MM_feed) 55 = .ok (.if_icmp .ge 43, 3) := by decide +kernel
theorem d_MM_feed_58 : decode (kB K_MM_feed) 58 = .ok (.aload_n 0, 1) := by decide +kernel
theorem d_MM_feed_59 : decode (kB K_MM_feed) 59 = .ok (.getfield 9, 3) := by decide +kernel
theorem d_MM_feed_62 : decode (kB K_MM_feed) 62 = .ok (.aload_n 0, 1) := by decide +kernel
theorem d_MM_feed_63 : decode (kB K_MM_feed) 63 = .ok (.getfield 89, 3) := by decide +kernel
theorem d_MM_feed_66 : decode (kB K_MM_feed) 66 = .ok (.iload 7, 2) := by decide +kernel
theorem d_MM_feed_68 : decode (kB K_MM_feed) 68 = .ok (.iadd, 1) := by decide +kernel
theorem d_MM_feed_69 : decode (kB K_MM_feed) 69 = .ok (.aload 6, 2) := by decide +kernel
theorem d_MM_feed_71 : decode (kB K_MM_feed) 71 = .ok (.iload 7, 2) := by decide +kernel
theorem d_MM_feed_73 : decode (kB K_MM_feed) 73 = .ok (.iconst 4, 1) := by decide +kernel
theorem d_MM_feed_74 : decode (kB K_MM_feed) 74 = .ok (.idiv, 1) := by decide +kernel
theorem d_MM_feed_75 : decode (kB K_MM_feed) 75 = .ok (.iaload, 1) := by decide +kernel
theorem d_MM_feed_76 : decode (kB K_MM_feed) 76 = .ok (.bipush 24, 2) := by decide +kernel
theorem d_MM_feed_78 : decode (kB K_MM_feed) 78 = .ok (.bipush 8, 2) := by decide +kernel
theorem d_MM_feed_80 : decode (kB K_MM_feed) 80 = .ok (.iload 7, 2) := by decide +kernel
theorem d_MM_feed_82 : decode (kB K_MM_feed) 82 = .ok (.iconst 4, 1) := by decide +kernel
theorem d_MM_feed_83 : decode (kB K_MM_feed) 83 = .ok (.irem, 1) := by decide +kernel
theorem d_MM_feed_84 : decode (kB K_MM_feed) 84 = .ok (.imul, 1) := by decide +kernel
theorem d_MM_feed_85 : decode (kB K_MM_feed) 85 = .ok (.isub, 1) := by decide +kernel
theorem d_MM_feed_86 : decode (kB K_MM_feed) 86 = .ok (.ishr, 1) := by decide +kernel
theorem d_MM_feed_87 : decode (kB K_MM_feed) 87 = .ok (.sipush 255, 3) := by decide +kernel
theorem d_MM_feed_90 : decode (kB K_MM_feed) 90 = .ok (.iand, 1) := by decide +kernel
theorem d_MM_feed_91 : decode (kB K_MM_feed) 91 = .ok (.iastore, 1) := by decide +kernel
theorem d_MM_feed_92 : decode (kB K_MM_feed) 92 = .ok (.iinc 7 1, 3) := by decide +kernel
theorem d_MM_feed_95 : decode (kB K_MM_feed) 95 = .ok (.goto (-44), 3) := by decide +kernel
theorem d_MM_feed_98 : decode (kB K_MM_feed) 98 = .ok (.aload_n 0, 1) := by decide +kernel
theorem d_MM_feed_99 : decode (kB K_MM_feed) 99 = .ok (.dup, 1) := by decide +kernel
theorem d_MM_feed_100 : decode (kB K_MM_feed) 100 = .ok (.getfield 89, 3) := by decide +kernel
theorem d_MM_feed_103 : decode (kB K_MM_feed) 103 = .ok (.bipush 20, 2) := by decide +kernel
theorem d_MM_feed_105 : decode (kB K_MM_feed) 105 = .ok (.iadd, 1) := by decide +kernel
theorem d_MM_feed_106 : decode (kB K_MM_feed) 106 = .ok (.putfield 89, 3) := by decide +kernel
theorem d_MM_feed_109 : decode (kB K_MM_feed) 109 = .ok (.aload_n 0, 1) := by decide +kernel
theorem d_MM_feed_110 : decode (kB K_MM_feed) 110 = .ok (.getfield 89, 3) := by decide +kernel
theorem d_MM_feed_113 : decode (kB K_MM_feed) 113 = .ok (.ireturn, 1) := by decide +kernel
def K_MM_trim : KM := (⟨"ParishBoardsModel", "trim", "(I)I"⟩, prog_15_method_54_code, 2, (some (.int)), "ParishBoardsModel", [])
theorem d_MM_trim_0 : decode (kB K_MM_trim) 0 = .ok (.aload_n 0, 1) := by decide +kernel
theorem d_MM_trim_1 : decode (kB K_MM_trim) 1 = .ok (.iconst 0, 1) := by decide +kernel
theorem d_MM_trim_2 : decode (kB K_MM_trim) 2 = .ok (.putfield 57, 3) := by decide +kernel
theorem d_MM_trim_5 : decode (kB K_MM_trim) 5 = .ok (.iload_n 1, 1) := by decide +kernel
theorem d_MM_trim_6 : decode (kB K_MM_trim) 6 = .ok (.iconst 0, 1) := by decide +kernel
theorem d_MM_trim_7 : decode (kB K_MM_trim) 7 = .ok (.aload_n 0, 1) := by decide +kernel
theorem d_MM_trim_8 : decode (kB K_MM_trim) 8 = .ok (.getfield 89, 3) := by decide +kernel
theorem d_MM_trim_11 : decode (kB K_MM_trim) 11 = .ok (.invokestatic 63, 3) := by decide +kernel
theorem d_MM_trim_14 : decode (kB K_MM_trim) 14 = .ok (.ifCond .ne 9, 3) := by decide +kernel
theorem d_MM_trim_17 : decode (kB K_MM_trim) 17 = .ok (.aload_n 0, 1) := by decide +kernel
theorem d_MM_trim_18 : decode (kB K_MM_trim) 18 = .ok (.iconst 1, 1) := by decide +kernel
theorem d_MM_trim_19 : decode (kB K_MM_trim) 19 = .ok (.invokevirtual 292, 3) := by decide +kernel
theorem d_MM_trim_22 : decode (kB K_MM_trim) 22 = .ok (.ireturn, 1) := by decide +kernel
theorem d_MM_trim_23 : decode (kB K_MM_trim) 23 = .ok (.aload_n 0, 1) := by decide +kernel
theorem d_MM_trim_24 : decode (kB K_MM_trim) 24 = .ok (.iload_n 1, 1) := by decide +kernel
theorem d_MM_trim_25 : decode (kB K_MM_trim) 25 = .ok (.putfield 89, 3) := by decide +kernel
theorem d_MM_trim_28 : decode (kB K_MM_trim) 28 = .ok (.iload_n 1, 1) := by decide +kernel
theorem d_MM_trim_29 : decode (kB K_MM_trim) 29 = .ok (.ireturn, 1) := by decide +kernel
def K_MM_teach : KM := (⟨"ParishBoardsModel", "teach", "()I"⟩, prog_15_method_55_code, 2, (some (.int)), "ParishBoardsModel", [])
theorem d_MM_teach_0 : decode (kB K_MM_teach) 0 = .ok (.aload_n 0, 1) := by decide +kernel
theorem d_MM_teach_1 : decode (kB K_MM_teach) 1 = .ok (.iconst 0, 1) := by decide +kernel
theorem d_MM_teach_2 : decode (kB K_MM_teach) 2 = .ok (.putfield 57, 3) := by decide +kernel
theorem d_MM_teach_5 : decode (kB K_MM_teach) 5 = .ok (.aload_n 0, 1) := by decide +kernel
theorem d_MM_teach_6 : decode (kB K_MM_teach) 6 = .ok (.iconst (-1), 1) := by decide +kernel
theorem d_MM_teach_7 : decode (kB K_MM_teach) 7 = .ok (.putfield 13, 3) := by decide +kernel
theorem d_MM_teach_10 : decode (kB K_MM_teach) 10 = .ok (.aload_n 0, 1) := by decide +kernel
theorem d_MM_teach_11 : decode (kB K_MM_teach) 11 = .ok (.invokevirtual 295, 3) := by decide +kernel
theorem d_MM_teach_14 : decode (kB K_MM_teach) 14 = .ok (.istore_n 1, 1) := by decide +kernel
theorem d_MM_teach_15 : decode (kB K_MM_teach) 15 = .ok (.aload_n 0, 1) := by decide +kernel
theorem d_MM_teach_16 : decode (kB K_MM_teach) 16 = .ok (.iconst 0, 1) := by decide +kernel
theorem d_MM_teach_17 : decode (kB K_MM_teach) 17 = .ok (.putfield 89, 3) := by decide +kernel
theorem d_MM_teach_20 : decode (kB K_MM_teach) 20 = .ok (.iload_n 1, 1) := by decide +kernel
theorem d_MM_teach_21 : decode (kB K_MM_teach) 21 = .ok (.ifCond .le 5, 3) := by decide +kernel
theorem d_MM_teach_24 : decode (kB K_MM_teach) 24 = .ok (.iload_n 1, 1) := by decide +kernel
theorem d_MM_teach_25 : decode (kB K_MM_teach) 25 = .ok (.ireturn, 1) := by decide +kernel
theorem d_MM_teach_26 : decode (kB K_MM_teach) 26 = .ok (.aload_n 0, 1) := by decide +kernel
theorem d_MM_teach_27 : decode (kB K_MM_teach) 27 = .ok (.aload_n 0, 1) := by decide +kernel
theorem d_MM_teach_28 : decode (kB K_MM_teach) 28 = .ok (.getfield 39, 3) := by decide +kernel
theorem d_MM_teach_31 : decode (kB K_MM_teach) 31 = .ok (.putfield 35, 3) := by decide +kernel
theorem d_MM_teach_34 : decode (kB K_MM_teach) 34 = .ok (.aload_n 0, 1) := by decide +kernel
theorem d_MM_teach_35 : decode (kB K_MM_teach) 35 = .ok (.getfield 47, 3) := by decide +kernel
theorem d_MM_teach_38 : decode (kB K_MM_teach) 38 = .ok (.invokevirtual 54, 3) := by decide +kernel
theorem d_MM_teach_41 : decode (kB K_MM_teach) 41 = .ok (.iconst 0, 1) := by decide +kernel
theorem d_MM_teach_42 : decode (kB K_MM_teach) 42 = .ok (.ireturn, 1) := by decide +kernel
def K_MM_errorAt : KM := (⟨"ParishBoardsModel", "errorAt", "()I"⟩, prog_15_method_56_code, 1, (some (.int)), "ParishBoardsModel", [])
theorem d_MM_errorAt_0 : decode (kB K_MM_errorAt) 0 = .ok (.aload_n 0, 1) := by decide +kernel
theorem d_MM_errorAt_1 : decode (kB K_MM_errorAt) 1 = .ok (.iconst 0, 1) := by decide +kernel
theorem d_MM_errorAt_2 : decode (kB K_MM_errorAt) 2 = .ok (.putfield 57, 3) := by decide +kernel
theorem d_MM_errorAt_5 : decode (kB K_MM_errorAt) 5 = .ok (.aload_n 0, 1) := by decide +kernel
theorem d_MM_errorAt_6 : decode (kB K_MM_errorAt) 6 = .ok (.getfield 13, 3) := by decide +kernel
theorem d_MM_errorAt_9 : decode (kB K_MM_errorAt) 9 = .ok (.ireturn, 1) := by decide +kernel
def K_MM_counted : KM := (⟨"ParishBoardsModel", "counted", "(I)I"⟩, prog_15_method_57_code, 3, (some (.int)), "ParishBoardsModel", [])
theorem d_MM_counted_0 : decode (kB K_MM_counted) 0 = .ok (.iload_n 1, 1) := by decide +kernel
theorem d_MM_counted_1 : decode (kB K_MM_counted) 1 = .ok (.iconst 5, 1) := by decide +kernel
theorem d_MM_counted_2 : decode (kB K_MM_counted) 2 = .ok (.bipush 11, 2) := by decide +kernel
theorem d_MM_counted_4 : decode (kB K_MM_counted) 4 = .ok (.invokestatic 63, 3) := by decide +kernel
theorem d_MM_counted_7 : decode (kB K_MM_counted) 7 = .ok (.ifCond .eq 12, 3) := by decide +kernel
theorem d_MM_counted_10 : decode (kB K_MM_counted) 10 = .ok (.aload_n 0, 1) := by decide +kernel
theorem d_MM_counted_11 : decode (kB K_MM_counted) 11 = .ok (.getfield 47, 3) := by decide +kernel
theorem d_MM_counted_14 : decode (kB K_MM_counted) 14 = .ok (.iload_n 1, 1) := by decide +kernel
theorem d_MM_counted_15 : decode (kB K_MM_counted) 15 = .ok (.invokevirtual 298, 3) := by decide +kernel
theorem d_MM_counted_18 : decode (kB K_MM_counted) 18 = .ok (.ireturn, 1) := by decide +kernel
theorem d_MM_counted_19 : decode (kB K_MM_counted) 19 = .ok (.iconst 5, 1) := by decide +kernel
theorem d_MM_counted_20 : decode (kB K_MM_counted) 20 = .ok (.newarray .int, 2) := by decide +kernel
theorem d_MM_counted_22 : decode (kB K_MM_counted) 22 = .ok (.dup, 1) := by decide +kernel
theorem d_MM_counted_23 : decode (kB K_MM_counted) 23 = .ok (.iconst 0, 1) := by decide +kernel
theorem d_MM_counted_24 : decode (kB K_MM_counted) 24 = .ok (.aload_n 0, 1) := by decide +kernel
theorem d_MM_counted_25 : decode (kB K_MM_counted) 25 = .ok (.getfield 47, 3) := by decide +kernel
theorem d_MM_counted_28 : decode (kB K_MM_counted) 28 = .ok (.getfield 301, 3) := by decide +kernel
theorem d_MM_counted_31 : decode (kB K_MM_counted) 31 = .ok (.iastore, 1) := by decide +kernel
theorem d_MM_counted_32 : decode (kB K_MM_counted) 32 = .ok (.dup, 1) := by decide +kernel
theorem d_MM_counted_33 : decode (kB K_MM_counted) 33 = .ok (.iconst 1, 1) := by decide +kernel
theorem d_MM_counted_34 : decode (kB K_MM_counted) 34 = .ok (.aload_n 0, 1) := by decide +kernel
theorem d_MM_counted_35 : decode (kB K_MM_counted) 35 = .ok (.getfield 35, 3) := by decide +kernel
theorem d_MM_counted_38 : decode (kB K_MM_counted) 38 = .ok (.getfield 60, 3) := by decide +kernel
theorem d_MM_counted_41 : decode (kB K_MM_counted) 41 = .ok (.iastore, 1) := by decide +kernel
theorem d_MM_counted_42 : decode (kB K_MM_counted) 42 = .ok (.dup, 1) := by decide +kernel
theorem d_MM_counted_43 : decode (kB K_MM_counted) 43 = .ok (.iconst 2, 1) := by decide +kernel
theorem d_MM_counted_44 : decode (kB K_MM_counted) 44 = .ok (.aload_n 0, 1) := by decide +kernel
theorem d_MM_counted_45 : decode (kB K_MM_counted) 45 = .ok (.getfield 35, 3) := by decide +kernel
theorem d_MM_counted_48 : decode (kB K_MM_counted) 48 = .ok (.getfield 71, 3) := by decide +kernel
theorem d_MM_counted_51 : decode (kB K_MM_counted) 51 = .ok (.iastore, 1) := by decide +kernel
theorem d_MM_counted_52 : decode (kB K_MM_counted) 52 = .ok (.dup, 1) := by decide +kernel
theorem d_MM_counted_53 : decode (kB K_MM_counted) 53 = .ok (.iconst 3, 1) := by decide +kernel
theorem d_MM_counted_54 : decode (kB K_MM_counted) 54 = .ok (.aload_n 0, 1) := by decide +kernel
theorem d_MM_counted_55 : decode (kB K_MM_counted) 55 = .ok (.getfield 35, 3) := by decide +kernel
theorem d_MM_counted_58 : decode (kB K_MM_counted) 58 = .ok (.getfield 74, 3) := by decide +kernel
theorem d_MM_counted_61 : decode (kB K_MM_counted) 61 = .ok (.iastore, 1) := by decide +kernel
theorem d_MM_counted_62 : decode (kB K_MM_counted) 62 = .ok (.dup, 1) := by decide +kernel
theorem d_MM_counted_63 : decode (kB K_MM_counted) 63 = .ok (.iconst 4, 1) := by decide +kernel
theorem d_MM_counted_64 : decode (kB K_MM_counted) 64 = .ok (.aload_n 0, 1) := by decide +kernel
theorem d_MM_counted_65 : decode (kB K_MM_counted) 65 = .ok (.getfield 35, 3) := by decide +kernel
theorem d_MM_counted_68 : decode (kB K_MM_counted) 68 = .ok (.getfield 232, 3) := by decide +kernel
theorem d_MM_counted_71 : decode (kB K_MM_counted) 71 = .ok (.iastore, 1) := by decide +kernel
theorem d_MM_counted_72 : decode (kB K_MM_counted) 72 = .ok (.astore_n 2, 1) := by decide +kernel
theorem d_MM_counted_73 : decode (kB K_MM_counted) 73 = .ok (.iload_n 1, 1) := by decide +kernel
theorem d_MM_counted_74 : decode (kB K_MM_counted) 74 = .ok (.iconst 5, 1) := by decide +kernel
theorem d_MM_counted_75 : decode (kB K_MM_counted) 75 = .ok (.if_icmp .ge 9, 3) := by decide +kernel
theorem d_MM_counted_78 : decode (kB K_MM_counted) 78 = .ok (.aload_n 2, 1) := by decide +kernel
theorem d_MM_counted_79 : decode (kB K_MM_counted) 79 = .ok (.iload_n 1, 1) := by decide +kernel
theorem d_MM_counted_80 : decode (kB K_MM_counted) 80 = .ok (.iaload, 1) := by decide +kernel
theorem d_MM_counted_81 : decode (kB K_MM_counted) 81 = .ok (.goto 7, 3) := by decide +kernel
theorem d_MM_counted_84 : decode (kB K_MM_counted) 84 = .ok (.aload_n 0, 1) := by decide +kernel
theorem d_MM_counted_85 : decode (kB K_MM_counted) 85 = .ok (.getfield 89, 3) := by decide +kernel
theorem d_MM_counted_88 : decode (kB K_MM_counted) 88 = .ok (.ireturn, 1) := by decide +kernel
def K_MM_count : KM := (⟨"ParishBoardsModel", "count", "(I)I"⟩, prog_15_method_58_code, 2, (some (.int)), "ParishBoardsModel", [])
theorem d_MM_count_0 : decode (kB K_MM_count) 0 = .ok (.aload_n 0, 1) := by decide +kernel
theorem d_MM_count_1 : decode (kB K_MM_count) 1 = .ok (.iconst 0, 1) := by decide +kernel
theorem d_MM_count_2 : decode (kB K_MM_count) 2 = .ok (.putfield 57, 3) := by decide +kernel
theorem d_MM_count_5 : decode (kB K_MM_count) 5 = .ok (.iload_n 1, 1) := by decide +kernel
theorem d_MM_count_6 : decode (kB K_MM_count) 6 = .ok (.iconst 0, 1) := by decide +kernel
theorem d_MM_count_7 : decode (kB K_MM_count) 7 = .ok (.bipush 12, 2) := by decide +kernel
theorem d_MM_count_9 : decode (kB K_MM_count) 9 = .ok (.invokestatic 63, 3) := by decide +kernel
theorem d_MM_count_12 : decode (kB K_MM_count) 12 = .ok (.ifCond .eq 11, 3) := by decide +kernel
theorem d_MM_count_15 : decode (kB K_MM_count) 15 = .ok (.aload_n 0, 1) := by decide +kernel
theorem d_MM_count_16 : decode (kB K_MM_count) 16 = .ok (.iload_n 1, 1) := by decide +kernel
theorem d_MM_count_17 : decode (kB K_MM_count) 17 = .ok (.invokevirtual 304, 3) := by decide +kernel
theorem d_MM_count_20 : decode (kB K_MM_count) 20 = .ok (.goto 8, 3) := by decide +kernel
theorem d_MM_count_23 : decode (kB K_MM_count) 23 = .ok (.aload_n 0, 1) := by decide +kernel
theorem d_MM_count_24 : decode (kB K_MM_count) 24 = .ok (.iconst 1, 1) := by decide +kernel
theorem d_MM_count_25 : decode (kB K_MM_count) 25 = .ok (.invokevirtual 292, 3) := by decide +kernel
theorem d_MM_count_28 : decode (kB K_MM_count) 28 = .ok (.ireturn, 1) := by decide +kernel
