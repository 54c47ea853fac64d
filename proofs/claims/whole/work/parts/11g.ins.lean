/-! methods and their instructions -/
def K_MM_roadsFrom : KM := (⟨"ParishBoardsModel", "roadsFrom", "(I)I"⟩, prog_15_method_59_code, 4, (some (.int)), "ParishBoardsModel", [])
theorem d_MM_roadsFrom_0 : decode (kB K_MM_roadsFrom) 0 = .ok (.iconst 0, 1) := by decide +kernel
theorem d_MM_roadsFrom_1 : decode (kB K_MM_roadsFrom) 1 = .ok (.istore_n 2, 1) := by decide +kernel
theorem d_MM_roadsFrom_2 : decode (kB K_MM_roadsFrom) 2 = .ok (.iconst 0, 1) := by decide +kernel
theorem d_MM_roadsFrom_3 : decode (kB K_MM_roadsFrom) 3 = .ok (.istore_n 3, 1) := by decide +kernel
theorem d_MM_roadsFrom_4 : decode (kB K_MM_roadsFrom) 4 = .ok (.iload_n 3, 1) := by decide +kernel
theorem d_MM_roadsFrom_5 : decode (kB K_MM_roadsFrom) 5 = .ok (.aload_n 0, 1) := by decide +kernel
theorem d_MM_roadsFrom_6 : decode (kB K_MM_roadsFrom) 6 = .ok (.getfield 35, 3) := by decide +kernel
theorem d_MM_roadsFrom_9 : decode (kB K_MM_roadsFrom) 9 = .ok (.getfield 74, 3) := by decide +kernel
theorem d_MM_roadsFrom_12 : decode (kB K_MM_roadsFrom) 12 = .ok (.if_icmp .ge 30, 3) := by decide +kernel
theorem d_MM_roadsFrom_15 : decode (kB K_MM_roadsFrom) 15 = .ok (.iload_n 2, 1) := by decide +kernel
theorem d_MM_roadsFrom_16 : decode (kB K_MM_roadsFrom) 16 = .ok (.aload_n 0, 1) := by decide +kernel
theorem d_MM_roadsFrom_17 : decode (kB K_MM_roadsFrom) 17 = .ok (.getfield 35, 3) := by decide +kernel
theorem d_MM_roadsFrom_20 : decode (kB K_MM_roadsFrom) 20 = .ok (.getfield 248, 3) := by decide +kernel
theorem d_MM_roadsFrom_23 : decode (kB K_MM_roadsFrom) 23 = .ok (.iload_n 3, 1) := by decide +kernel
theorem d_MM_roadsFrom_24 : decode (kB K_MM_roadsFrom) 24 = .ok (.iaload, 1) := by decide +kernel
theorem d_MM_roadsFrom_25 : decode (kB K_MM_roadsFrom) 25 = .ok (.iload_n 1, 1) := by decide +kernel
theorem d_MM_roadsFrom_26 : decode (kB K_MM_roadsFrom) 26 = .ok (.if_icmp .ne 7, 3) := by decide +kernel
theorem d_MM_roadsFrom_29 : decode (kB K_MM_roadsFrom) 29 = .ok (.iconst 1, 1) := by decide +kernel
theorem d_MM_roadsFrom_30 : decode (kB K_MM_roadsFrom) 30 = .ok (.goto 4, 3) := by decide +kernel
theorem d_MM_roadsFrom_33 : decode (kB K_MM_roadsFrom) 33 = .ok (.iconst 0, 1) := by decide +kernel
theorem d_MM_roadsFrom_34 : decode (kB K_MM_roadsFrom) 34 = .ok (.iadd, 1) := by decide +kernel
theorem d_MM_roadsFrom_35 : decode (kB K_MM_roadsFrom) 35 = .ok (.istore_n 2, 1) := by decide +kernel
theorem d_MM_roadsFrom_36 : decode (kB K_MM_roadsFrom) 36 = .ok (.iinc 3 1, 3) := by decide +kernel
theorem d_MM_roadsFrom_39 : decode (kB K_MM_roadsFrom) 39 = .ok (.goto (-35), 3) := by decide +kernel
theorem d_MM_roadsFrom_42 : decode (kB K_MM_roadsFrom) 42 = .ok (.iload_n 2, 1) := by decide +kernel
theorem d_MM_roadsFrom_43 : decode (kB K_MM_roadsFrom) 43 = .ok (.ireturn, 1) := by decide +kernel
def K_MM_parishTold : KM := (⟨"ParishBoardsModel", "parishTold", "(II)I"⟩, prog_15_method_60_code, 3, (some (.int)), "ParishBoardsModel", [])
theorem d_MM_parishTold_0 : decode (kB K_MM_parishTold) 0 = .ok (.iload_n 2, 1) := by decide +kernel
theorem d_MM_parishTold_1 : decode (kB K_MM_parishTold) 1 = .ok (.tableswitch 83 0 4 #[35, 44, 53, 63, 73], 35) := by decide +kernel
theorem d_MM_parishTold_36 : decode (kB K_MM_parishTold) 36 = .ok (.aload_n 0, 1) := by decide +kernel
theorem d_MM_parishTold_37 : decode (kB K_MM_parishTold) 37 = .ok (.getfield 47, 3) := by decide +kernel
theorem d_MM_parishTold_40 : decode (kB K_MM_parishTold) 40 = .ok (.iload_n 1, 1) := by decide +kernel
theorem d_MM_parishTold_41 : decode (kB K_MM_parishTold) 41 = .ok (.invokevirtual 305, 3) := by decide +kernel
theorem d_MM_parishTold_44 : decode (kB K_MM_parishTold) 44 = .ok (.ireturn, 1) := by decide +kernel
theorem d_MM_parishTold_45 : decode (kB K_MM_parishTold) 45 = .ok (.aload_n 0, 1) := by decide +kernel
theorem d_MM_parishTold_46 : decode (kB K_MM_parishTold) 46 = .ok (.getfield 47, 3) := by decide +kernel
theorem d_MM_parishTold_49 : decode (kB K_MM_parishTold) 49 = .ok (.iload_n 1, 1) := by decide +kernel
theorem d_MM_parishTold_50 : decode (kB K_MM_parishTold) 50 = .ok (.invokevirtual 308, 3) := by decide +kernel
theorem d_MM_parishTold_53 : decode (kB K_MM_parishTold) 53 = .ok (.ireturn, 1) := by decide +kernel
theorem d_MM_parishTold_54 : decode (kB K_MM_parishTold) 54 = .ok (.aload_n 0, 1) := by decide +kernel
theorem d_MM_parishTold_55 : decode (kB K_MM_parishTold) 55 = .ok (.getfield 47, 3) := by decide +kernel
theorem d_MM_parishTold_58 : decode (kB K_MM_parishTold) 58 = .ok (.iload_n 1, 1) := by decide +kernel
theorem d_MM_parishTold_59 : decode (kB K_MM_parishTold) 59 = .ok (.iconst 1, 1) := by decide +kernel
theorem d_MM_parishTold_60 : decode (kB K_MM_parishTold) 60 = .ok (.invokevirtual 311, 3) := by decide +kernel
theorem d_MM_parishTold_63 : decode (kB K_MM_parishTold) 63 = .ok (.ireturn, 1) := by decide +kernel
theorem d_MM_parishTold_64 : decode (kB K_MM_parishTold) 64 = .ok (.aload_n 0, 1) := by decide +kernel
theorem d_MM_parishTold_65 : decode (kB K_MM_parishTold) 65 = .ok (.getfield 47, 3) := by decide +kernel
theorem d_MM_parishTold_68 : decode (kB K_MM_parishTold) 68 = .ok (.iload_n 1, 1) := by decide +kernel
theorem d_MM_parishTold_69 : decode (kB K_MM_parishTold) 69 = .ok (.iconst 2, 1) := by decide +kernel
theorem d_MM_parishTold_70 : decode (kB K_MM_parishTold) 70 = .ok (.invokevirtual 311, 3) := by decide +kernel
theorem d_MM_parishTold_73 : decode (kB K_MM_parishTold) 73 = .ok (.ireturn, 1) := by decide +kernel
theorem d_MM_parishTold_74 : decode (kB K_MM_parishTold) 74 = .ok (.aload_n 0, 1) := by decide +kernel
theorem d_MM_parishTold_75 : decode (kB K_MM_parishTold) 75 = .ok (.getfield 47, 3) := by decide +kernel
theorem d_MM_parishTold_78 : decode (kB K_MM_parishTold) 78 = .ok (.iload_n 1, 1) := by decide +kernel
theorem d_MM_parishTold_79 : decode (kB K_MM_parishTold) 79 = .ok (.iload_n 1, 1) := by decide +kernel
theorem d_MM_parishTold_80 : decode (kB K_MM_parishTold) 80 = .ok (.invokevirtual 314, 3) := by decide +kernel
theorem d_MM_parishTold_83 : decode (kB K_MM_parishTold) 83 = .ok (.ireturn, 1) := by decide +kernel
theorem d_MM_parishTold_84 : decode (kB K_MM_parishTold) 84 = .ok (.aload_n 0, 1) := by decide +kernel
theorem d_MM_parishTold_85 : decode (kB K_MM_parishTold) 85 = .ok (.iload_n 1, 1) := by decide +kernel
theorem d_MM_parishTold_86 : decode (kB K_MM_parishTold) 86 = .ok (.invokevirtual 317, 3) := by decide +kernel
theorem d_MM_parishTold_89 : decode (kB K_MM_parishTold) 89 = .ok (.ireturn, 1) := by decide +kernel
def K_MM_parish : KM := (⟨"ParishBoardsModel", "parish", "(II)I"⟩, prog_15_method_61_code, 3, (some (.int)), "ParishBoardsModel", [])
theorem d_MM_parish_0 : decode (kB K_MM_parish) 0 = .ok (.aload_n 0, 1) := by decide +kernel
theorem d_MM_parish_1 : decode (kB K_MM_parish) 1 = .ok (.iconst 0, 1) := by decide +kernel
theorem d_MM_parish_2 : decode (kB K_MM_parish) 2 = .ok (.putfield 57, 3) := by decide +kernel
theorem d_MM_parish_5 : decode (kB K_MM_parish) 5 = .ok (.aload_n 0, 1) := by decide +kernel
theorem d_MM_parish_6 : decode (kB K_MM_parish) 6 = .ok (.iload_n 1, 1) := by decide +kernel
theorem d_MM_parish_7 : decode (kB K_MM_parish) 7 = .ok (.invokevirtual 67, 3) := by decide +kernel
theorem d_MM_parish_10 : decode (kB K_MM_parish) 10 = .ok (.ifCond .eq 21, 3) := by decide +kernel
theorem d_MM_parish_13 : decode (kB K_MM_parish) 13 = .ok (.iload_n 2, 1) := by decide +kernel
theorem d_MM_parish_14 : decode (kB K_MM_parish) 14 = .ok (.iconst 0, 1) := by decide +kernel
theorem d_MM_parish_15 : decode (kB K_MM_parish) 15 = .ok (.iconst 5, 1) := by decide +kernel
theorem d_MM_parish_16 : decode (kB K_MM_parish) 16 = .ok (.invokestatic 63, 3) := by decide +kernel
theorem d_MM_parish_19 : decode (kB K_MM_parish) 19 = .ok (.ifCond .eq 12, 3) := by decide +kernel
theorem d_MM_parish_22 : decode (kB K_MM_parish) 22 = .ok (.aload_n 0, 1) := by decide +kernel
theorem d_MM_parish_23 : decode (kB K_MM_parish) 23 = .ok (.iload_n 1, 1) := by decide +kernel
theorem d_MM_parish_24 : decode (kB K_MM_parish) 24 = .ok (.iload_n 2, 1) := by decide +kernel
theorem d_MM_parish_25 : decode (kB K_MM_parish) 25 = .ok (.invokevirtual 320, 3) := by decide +kernel
theorem d_MM_parish_28 : decode (kB K_MM_parish) 28 = .ok (.goto 8, 3) := by decide +kernel
theorem d_MM_parish_31 : decode (kB K_MM_parish) 31 = .ok (.aload_n 0, 1) := by decide +kernel
theorem d_MM_parish_32 : decode (kB K_MM_parish) 32 = .ok (.iconst 1, 1) := by decide +kernel
theorem d_MM_parish_33 : decode (kB K_MM_parish) 33 = .ok (.invokevirtual 292, 3) := by decide +kernel
theorem d_MM_parish_36 : decode (kB K_MM_parish) 36 = .ok (.ireturn, 1) := by decide +kernel
def K_MM_knows : KM := (⟨"ParishBoardsModel", "knows", "(II)I"⟩, prog_15_method_62_code, 3, (some (.int)), "ParishBoardsModel", [])
theorem d_MM_knows_0 : decode (kB K_MM_knows) 0 = .ok (.aload_n 0, 1) := by decide +kernel
theorem d_MM_knows_1 : decode (kB K_MM_knows) 1 = .ok (.iconst 0, 1) := by decide +kernel
theorem d_MM_knows_2 : decode (kB K_MM_knows) 2 = .ok (.putfield 57, 3) := by decide +kernel
theorem d_MM_knows_5 : decode (kB K_MM_knows) 5 = .ok (.aload_n 0, 1) := by decide +kernel
theorem d_MM_knows_6 : decode (kB K_MM_knows) 6 = .ok (.iload_n 1, 1) := by decide +kernel
theorem d_MM_knows_7 : decode (kB K_MM_knows) 7 = .ok (.invokevirtual 67, 3) := by decide +kernel
theorem d_MM_knows_10 : decode (kB K_MM_knows) 10 = .ok (.ifCond .eq 23, 3) := by decide +kernel
theorem d_MM_knows_13 : decode (kB K_MM_knows) 13 = .ok (.aload_n 0, 1) := by decide +kernel
theorem d_MM_knows_14 : decode (kB K_MM_knows) 14 = .ok (.iload_n 2, 1) := by decide +kernel
theorem d_MM_knows_15 : decode (kB K_MM_knows) 15 = .ok (.invokevirtual 67, 3) := by decide +kernel
theorem d_MM_knows_18 : decode (kB K_MM_knows) 18 = .ok (.ifCond .eq 15, 3) := by decide +kernel
theorem d_MM_knows_21 : decode (kB K_MM_knows) 21 = .ok (.aload_n 0, 1) := by decide +kernel
theorem d_MM_knows_22 : decode (kB K_MM_knows) 22 = .ok (.getfield 47, 3) := by decide +kernel
theorem d_MM_knows_25 : decode (kB K_MM_knows) 25 = .ok (.iload_n 1, 1) := by decide +kernel
theorem d_MM_knows_26 : decode (kB K_MM_knows) 26 = .ok (.iload_n 2, 1) := by decide +kernel
theorem d_MM_knows_27 : decode (kB K_MM_knows) 27 = .ok (.invokevirtual 314, 3) := by decide +kernel
theorem d_MM_knows_30 : decode (kB K_MM_knows) 30 = .ok (.goto 8, 3) := by decide +kernel
theorem d_MM_knows_33 : decode (kB K_MM_knows) 33 = .ok (.aload_n 0, 1) := by decide +kernel
theorem d_MM_knows_34 : decode (kB K_MM_knows) 34 = .ok (.iconst 1, 1) := by decide +kernel
theorem d_MM_knows_35 : decode (kB K_MM_knows) 35 = .ok (.invokevirtual 292, 3) := by decide +kernel
theorem d_MM_knows_38 : decode (kB K_MM_knows) 38 = .ok (.ireturn, 1) := by decide +kernel
def K_MM_boards : KM := (⟨"ParishBoardsModel", "boards", "(IZ)I"⟩, prog_15_method_63_code, 5, (some (.int)), "ParishBoardsModel", [])
theorem d_MM_boards_0 : decode (kB K_MM_boards) 0 = .ok (.iconst 0, 1) := by decide +kernel
theorem d_MM_boards_1 : decode (kB K_MM_boards) 1 = .ok (.istore_n 3, 1) := by decide +kernel
theorem d_MM_boards_2 : decode (kB K_MM_boards) 2 = .ok (.iconst 0, 1) := by decide +kernel
theorem d_MM_boards_3 : decode (kB K_MM_boards) 3 = .ok (.istore 4, 2) := by decide +kernel
theorem d_MM_boards_5 : decode (kB K_MM_boards) 5 = .ok (.iload 4, 2) := by decide +kernel
theorem d_MM_boards_7 : decode (kB K_MM_boards) 7 = .ok (.aload_n 0, 1) := by decide +kernel
theorem d_MM_boards_8 : decode (kB K_MM_boards) 8 = .ok (.getfield 35, 3) := by decide +kernel
theorem d_MM_boards_11 : decode (kB K_MM_boards) 11 = .ok (.getfield 60, 3) := by decide +kernel
theorem d_MM_boards_14 : decode (kB K_MM_boards) 14 = .ok (.if_icmp .ge 81, 3) := by decide +kernel
theorem d_MM_boards_17 : decode (kB K_MM_boards) 17 = .ok (.iload_n 3, 1) := by decide +kernel
theorem d_MM_boards_18 : decode (kB K_MM_boards) 18 = .ok (.iload_n 2, 1) := by decide +kernel
theorem d_MM_boards_19 : decode (kB K_MM_boards) 19 = .ok (.ifCond .eq 50, 3) := by decide +kernel
theorem d_MM_boards_22 : decode (kB K_MM_boards) 22 = .ok (.aload_n 0, 1) := by decide +kernel
theorem d_MM_boards_23 : decode (kB K_MM_boards) 23 = .ok (.getfield 47, 3) := by decide +kernel
theorem d_MM_boards_26 : decode (kB K_MM_boards) 26 = .ok (.getfield 323, 3) := by decide +kernel
theorem d_MM_boards_29 : decode (kB K_MM_boards) 29 = .ok (.aload_n 0, 1) := by decide +kernel
theorem d_MM_boards_30 : decode (kB K_MM_boards) 30 = .ok (.getfield 47, 3) := by decide +kernel
theorem d_MM_boards_33 : decode (kB K_MM_boards) 33 = .ok (.iload 4, 2) := by decide +kernel
theorem d_MM_boards_35 : decode (kB K_MM_boards) 35 = .ok (.aload_n 0, 1) := by decide +kernel
theorem d_MM_boards_36 : decode (kB K_MM_boards) 36 = .ok (.getfield 47, 3) := by decide +kernel
theorem d_MM_boards_39 : decode (kB K_MM_boards) 39 = .ok (.getfield 326, 3) := by decide +kernel
theorem d_MM_boards_42 : decode (kB K_MM_boards) 42 = .ok (.iload_n 1, 1) := by decide +kernel
theorem d_MM_boards_43 : decode (kB K_MM_boards) 43 = .ok (.iaload, 1) := by decide +kernel
theorem d_MM_boards_44 : decode (kB K_MM_boards) 44 = .ok (.aload_n 0, 1) := by decide +kernel
theorem d_MM_boards_45 : decode (kB K_MM_boards) 45 = .ok (.getfield 47, 3) := by decide +kernel
theorem d_MM_boards_48 : decode (kB K_MM_boards) 48 = .ok (.getfield 329, 3) := by decide +kernel
theorem d_MM_boards_51 : decode (kB K_MM_boards) 51 = .ok (.iload_n 1, 1) := by decide +kernel
theorem d_MM_boards_52 : decode (kB K_MM_boards) 52 = .ok (.iaload, 1) := by decide +kernel
theorem d_MM_boards_53 : decode (kB K_MM_boards) 53 = .ok (.invokevirtual 332, 3) := by decide +kernel
theorem d_MM_boards_56 : decode (kB K_MM_boards) 56 = .ok (.iaload, 1) := by decide +kernel
theorem d_MM_boards_57 : decode (kB K_MM_boards) 57 = .ok (.iload_n 1, 1) := by decide +kernel
theorem d_MM_boards_58 : decode (kB K_MM_boards) 58 = .ok (.if_icmp .ne 7, 3) := by decide +kernel
theorem d_MM_boards_61 : decode (kB K_MM_boards) 61 = .ok (.iconst 1, 1) := by decide +kernel
theorem d_MM_boards_62 : decode (kB K_MM_boards) 62 = .ok (.goto 25, 3) := by decide +kernel
theorem d_MM_boards_65 : decode (kB K_MM_boards) 65 = .ok (.iconst 0, 1) := by decide +kernel
theorem d_MM_boards_66 : decode (kB K_MM_boards) 66 = .ok (.goto 21, 3) := by decide +kernel
theorem d_MM_boards_69 : decode (kB K_MM_boards) 69 = .ok (.aload_n 0, 1) := by decide +kernel
theorem d_MM_boards_70 : decode (kB K_MM_boards) 70 = .ok (.getfield 47, 3) := by decide +kernel
theorem d_MM_boards_73 : decode (kB K_MM_boards) 73 = .ok (.iload 4, 2) := by decide +kernel
theorem d_MM_boards_75 : decode (kB K_MM_boards) 75 = .ok (.iload_n 1, 1) := by decide +kernel
theorem d_MM_boards_76 : decode (kB K_MM_boards) 76 = .ok (.invokevirtual 335, 3) := by decide +kernel
theorem d_MM_boards_79 : decode (kB K_MM_boards) 79 = .ok (.ifCond .eq 7, 3) := by decide +kernel
theorem d_MM_boards_82 : decode (kB K_MM_boards) 82 = .ok (.iconst 1, 1) := by decide +kernel
theorem d_MM_boards_83 : decode (kB K_MM_boards) 83 = .ok (.goto 4, 3) := by decide +kernel
theorem d_MM_boards_86 : decode (kB K_MM_boards) 86 = .ok (.iconst 0, 1) := by decide +kernel
theorem d_MM_boards_87 : decode (kB K_MM_boards) 87 = .ok (.iadd, 1) := by decide +kernel
theorem d_MM_boards_88 : decode (kB K_MM_boards) 88 = .ok (.istore_n 3, 1) := by decide +kernel
theorem d_MM_boards_89 : decode (kB K_MM_boards) 89 = .ok (.iinc 4 1, 3) := by decide +kernel
theorem d_MM_boards_92 : decode (kB K_MM_boards) 92 = .ok (.goto (-87), 3) := by decide +kernel
theorem d_MM_boards_95 : decode (kB K_MM_boards) 95 = .ok (.iload_n 3, 1) := by decide +kernel
theorem d_MM_boards_96 : decode (kB K_MM_boards) 96 = .ok (.ireturn, 1) := by decide +kernel
def K_MM_sheetTold : KM := (⟨"ParishBoardsModel", "sheetTold", "(II)I"⟩, prog_15_method_64_code, 3, (some (.int)), "ParishBoardsModel", [])
theorem d_MM_sheetTold_0 : decode (kB K_MM_sheetTold) 0 = .ok (.iload_n 2, 1) := by decide +kernel
theorem d_MM_sheetTold_1 : decode (kB K_MM_sheetTold) 1 = .ok (.tableswitch 99 0 5 #[39, 49, 59, 69, 79, 89], 39) := by decide +kernel
theorem d_MM_sheetTold_40 : decode (kB K_MM_sheetTold) 40 = .ok (.aload_n 0, 1) := by decide +kernel
theorem d_MM_sheetTold_41 : decode (kB K_MM_sheetTold) 41 = .ok (.getfield 47, 3) := by decide +kernel
theorem d_MM_sheetTold_44 : decode (kB K_MM_sheetTold) 44 = .ok (.getfield 329, 3) := by decide +kernel
theorem d_MM_sheetTold_47 : decode (kB K_MM_sheetTold) 47 = .ok (.iload_n 1, 1) := by decide +kernel
theorem d_MM_sheetTold_48 : decode (kB K_MM_sheetTold) 48 = .ok (.iaload, 1) := by decide +kernel
theorem d_MM_sheetTold_49 : decode (kB K_MM_sheetTold) 49 = .ok (.ireturn, 1) := by decide +kernel
theorem d_MM_sheetTold_50 : decode (kB K_MM_sheetTold) 50 = .ok (.aload_n 0, 1) := by decide +kernel
theorem d_MM_sheetTold_51 : decode (kB K_MM_sheetTold) 51 = .ok (.getfield 47, 3) := by decide +kernel
theorem d_MM_sheetTold_54 : decode (kB K_MM_sheetTold) 54 = .ok (.getfield 326, 3) := by decide +kernel
theorem d_MM_sheetTold_57 : decode (kB K_MM_sheetTold) 57 = .ok (.iload_n 1, 1) := by decide +kernel
theorem d_MM_sheetTold_58 : decode (kB K_MM_sheetTold) 58 = .ok (.iaload, 1) := by decide +kernel
theorem d_MM_sheetTold_59 : decode (kB K_MM_sheetTold) 59 = .ok (.ireturn, 1) := by decide +kernel
theorem d_MM_sheetTold_60 : decode (kB K_MM_sheetTold) 60 = .ok (.aload_n 0, 1) := by decide +kernel
theorem d_MM_sheetTold_61 : decode (kB K_MM_sheetTold) 61 = .ok (.getfield 47, 3) := by decide +kernel
theorem d_MM_sheetTold_64 : decode (kB K_MM_sheetTold) 64 = .ok (.getfield 338, 3) := by decide +kernel
theorem d_MM_sheetTold_67 : decode (kB K_MM_sheetTold) 67 = .ok (.iload_n 1, 1) := by decide +kernel
theorem d_MM_sheetTold_68 : decode (kB K_MM_sheetTold) 68 = .ok (.iaload, 1) := by decide +kernel
theorem d_MM_sheetTold_69 : decode (kB K_MM_sheetTold) 69 = .ok (.ireturn, 1) := by decide +kernel
theorem d_MM_sheetTold_70 : decode (kB K_MM_sheetTold) 70 = .ok (.aload_n 0, 1) := by decide +kernel
theorem d_MM_sheetTold_71 : decode (kB K_MM_sheetTold) 71 = .ok (.getfield 47, 3) := by decide +kernel
theorem d_MM_sheetTold_74 : decode (kB K_MM_sheetTold) 74 = .ok (.getfield 341, 3) := by decide +kernel
theorem d_MM_sheetTold_77 : decode (kB K_MM_sheetTold) 77 = .ok (.iload_n 1, 1) := by decide +kernel
theorem d_MM_sheetTold_78 : decode (kB K_MM_sheetTold) 78 = .ok (.iaload, 1) := by decide +kernel
theorem d_MM_sheetTold_79 : decode (kB K_MM_sheetTold) 79 = .ok (.ireturn, 1) := by decide +kernel
theorem d_MM_sheetTold_80 : decode (kB K_MM_sheetTold) 80 = .ok (.aload_n 0, 1) := by decide +kernel
theorem d_MM_sheetTold_81 : decode (kB K_MM_sheetTold) 81 = .ok (.getfield 47, 3) := by decide +kernel
theorem d_MM_sheetTold_84 : decode (kB K_MM_sheetTold) 84 = .ok (.getfield 344, 3) := by decide +kernel
theorem d_MM_sheetTold_87 : decode (kB K_MM_sheetTold) 87 = .ok (.iload_n 1, 1) := by decide +kernel
theorem d_MM_sheetTold_88 : decode (kB K_MM_sheetTold) 88 = .ok (.iaload, 1) := by decide +kernel
theorem d_MM_sheetTold_89 : decode (kB K_MM_sheetTold) 89 = .ok (.ireturn, 1) := by decide +kernel
theorem d_MM_sheetTold_90 : decode (kB K_MM_sheetTold) 90 = .ok (.aload_n 0, 1) := by decide +kernel
theorem d_MM_sheetTold_91 : decode (kB K_MM_sheetTold) 91 = .ok (.getfield 47, 3) := by decide +kernel
theorem d_MM_sheetTold_94 : decode (kB K_MM_sheetTold) 94 = .ok (.getfield 347, 3) := by decide +kernel
theorem d_MM_sheetTold_97 : decode (kB K_MM_sheetTold) 97 = .ok (.iload_n 1, 1) := by decide +kernel
theorem d_MM_sheetTold_98 : decode (kB K_MM_sheetTold) 98 = .ok (.iaload, 1) := by decide +kernel
theorem d_MM_sheetTold_99 : decode (kB K_MM_sheetTold) 99 = .ok (.ireturn, 1) := by decide +kernel
theorem d_MM_sheetTold_100 : decode (kB K_MM_sheetTold) 100 = .ok (.aload_n 0, 1) := by decide +kernel
theorem d_MM_sheetTold_101 : decode (kB K_MM_sheetTold) 101 = .ok (.iload_n 1, 1) := by decide +kernel
theorem d_MM_sheetTold_102 : decode (kB K_MM_sheetTold) 102 = .ok (.iload_n 2, 1) := by decide +kernel
theorem d_MM_sheetTold_103 : decode (kB K_MM_sheetTold) 103 = .ok (.bipush 7, 2) := by decide +kernel
theorem d_MM_sheetTold_105 : decode (kB K_MM_sheetTold) 105 = .ok (.if_icmp .ne 7, 3) := by decide +kernel
theorem d_MM_sheetTold_108 : decode (kB K_MM_sheetTold) 108 = .ok (.iconst 1, 1) := by decide +kernel
theorem d_MM_sheetTold_109 : decode (kB K_MM_sheetTold) 109 = .ok (.goto 4, 3) := by decide +kernel
theorem d_MM_sheetTold_112 : decode (kB K_MM_sheetTold) 112 = .ok (.iconst 0, 1) := by decide +kernel
theorem d_MM_sheetTold_113 : decode (kB K_MM_sheetTold) 113 = .ok (.invokevirtual 350, 3) := by decide +kernel
theorem d_MM_sheetTold_116 : decode (kB K_MM_sheetTold) 116 = .ok (.ireturn, 1) := by decide +kernel
def K_MM_sheet : KM := (⟨"ParishBoardsModel", "sheet", "(II)I"⟩, prog_15_method_65_code, 3, (some (.int)), "ParishBoardsModel", [])
theorem d_MM_sheet_0 : decode (kB K_MM_sheet) 0 = .ok (.aload_n 0, 1) := by decide +kernel
theorem d_MM_sheet_1 : decode (kB K_MM_sheet) 1 = .ok (.iconst 0, 1) := by decide +kernel
theorem d_MM_sheet_2 : decode (kB K_MM_sheet) 2 = .ok (.putfield 57, 3) := by decide +kernel
theorem d_MM_sheet_5 : decode (kB K_MM_sheet) 5 = .ok (.aload_n 0, 1) := by decide +kernel
theorem d_MM_sheet_6 : decode (kB K_MM_sheet) 6 = .ok (.iload_n 1, 1) := by decide +kernel
theorem d_MM_sheet_7 : decode (kB K_MM_sheet) 7 = .ok (.invokevirtual 354, 3) := by decide +kernel
theorem d_MM_sheet_10 : decode (kB K_MM_sheet) 10 = .ok (.ifCond .eq 22, 3) := by decide +kernel
theorem d_MM_sheet_13 : decode (kB K_MM_sheet) 13 = .ok (.iload_n 2, 1) := by decide +kernel
theorem d_MM_sheet_14 : decode (kB K_MM_sheet) 14 = .ok (.iconst 0, 1) := by decide +kernel
theorem d_MM_sheet_15 : decode (kB K_MM_sheet) 15 = .ok (.bipush 7, 2) := by decide +kernel
theorem d_MM_sheet_17 : decode (kB K_MM_sheet) 17 = .ok (.invokestatic 63, 3) := by decide +kernel
theorem d_MM_sheet_20 : decode (kB K_MM_sheet) 20 = .ok (.ifCond .eq 12, 3) := by decide +kernel
theorem d_MM_sheet_23 : decode (kB K_MM_sheet) 23 = .ok (.aload_n 0, 1) := by decide +kernel
theorem d_MM_sheet_24 : decode (kB K_MM_sheet) 24 = .ok (.iload_n 1, 1) := by decide +kernel
theorem d_MM_sheet_25 : decode (kB K_MM_sheet) 25 = .ok (.iload_n 2, 1) := by decide +kernel
theorem d_MM_sheet_26 : decode (kB K_MM_sheet) 26 = .ok (.invokevirtual 357, 3) := by decide +kernel
theorem d_MM_sheet_29 : decode (kB K_MM_sheet) 29 = .ok (.goto 8, 3) := by decide +kernel
theorem d_MM_sheet_32 : decode (kB K_MM_sheet) 32 = .ok (.aload_n 0, 1) := by decide +kernel
theorem d_MM_sheet_33 : decode (kB K_MM_sheet) 33 = .ok (.iconst 1, 1) := by decide +kernel
theorem d_MM_sheet_34 : decode (kB K_MM_sheet) 34 = .ok (.invokevirtual 292, 3) := by decide +kernel
theorem d_MM_sheet_37 : decode (kB K_MM_sheet) 37 = .ok (.ireturn, 1) := by decide +kernel
def K_MM_stamp : KM := (⟨"ParishBoardsModel", "stamp", "(II)I"⟩, prog_15_method_66_code, 3, (some (.int)), "ParishBoardsModel", [])
theorem d_MM_stamp_0 : decode (kB K_MM_stamp) 0 = .ok (.aload_n 0, 1) := by decide +kernel
theorem d_MM_stamp_1 : decode (kB K_MM_stamp) 1 = .ok (.iconst 0, 1) := by decide +kernel
theorem d_MM_stamp_2 : decode (kB K_MM_stamp) 2 = .ok (.putfield 57, 3) := by decide +kernel
theorem d_MM_stamp_5 : decode (kB K_MM_stamp) 5 = .ok (.aload_n 0, 1) := by decide +kernel
theorem d_MM_stamp_6 : decode (kB K_MM_stamp) 6 = .ok (.iload_n 1, 1) := by decide +kernel
theorem d_MM_stamp_7 : decode (kB K_MM_stamp) 7 = .ok (.invokevirtual 354, 3) := by decide +kernel
theorem d_MM_stamp_10 : decode (kB K_MM_stamp) 10 = .ok (.ifCond .eq 23, 3) := by decide +kernel
theorem d_MM_stamp_13 : decode (kB K_MM_stamp) 13 = .ok (.aload_n 0, 1) := by decide +kernel
theorem d_MM_stamp_14 : decode (kB K_MM_stamp) 14 = .ok (.iload_n 2, 1) := by decide +kernel
theorem d_MM_stamp_15 : decode (kB K_MM_stamp) 15 = .ok (.invokevirtual 67, 3) := by decide +kernel
theorem d_MM_stamp_18 : decode (kB K_MM_stamp) 18 = .ok (.ifCond .eq 15, 3) := by decide +kernel
theorem d_MM_stamp_21 : decode (kB K_MM_stamp) 21 = .ok (.aload_n 0, 1) := by decide +kernel
theorem d_MM_stamp_22 : decode (kB K_MM_stamp) 22 = .ok (.getfield 47, 3) := by decide +kernel
theorem d_MM_stamp_25 : decode (kB K_MM_stamp) 25 = .ok (.iload_n 1, 1) := by decide +kernel
theorem d_MM_stamp_26 : decode (kB K_MM_stamp) 26 = .ok (.iload_n 2, 1) := by decide +kernel
theorem d_MM_stamp_27 : decode (kB K_MM_stamp) 27 = .ok (.invokevirtual 360, 3) := by decide +kernel
theorem d_MM_stamp_30 : decode (kB K_MM_stamp) 30 = .ok (.goto 8, 3) := by decide +kernel
theorem d_MM_stamp_33 : decode (kB K_MM_stamp) 33 = .ok (.aload_n 0, 1) := by decide +kernel
theorem d_MM_stamp_34 : decode (kB K_MM_stamp) 34 = .ok (.iconst 1, 1) := by decide +kernel
theorem d_MM_stamp_35 : decode (kB K_MM_stamp) 35 = .ok (.invokevirtual 292, 3) := by decide +kernel
theorem d_MM_stamp_38 : decode (kB K_MM_stamp) 38 = .ok (.ireturn, 1) := by decide +kernel
def K_MM_shown : KM := (⟨"ParishBoardsModel", "shown", "(III)I"⟩, prog_15_method_67_code, 4, (some (.int)), "ParishBoardsModel", [])
theorem d_MM_shown_0 : decode (kB K_MM_shown) 0 = .ok (.aload_n 0, 1) := by decide +kernel
theorem d_MM_shown_1 : decode (kB K_MM_shown) 1 = .ok (.iconst 0, 1) := by decide +kernel
theorem d_MM_shown_2 : decode (kB K_MM_shown) 2 = .ok (.putfield 57, 3) := by decide +kernel
theorem d_MM_shown_5 : decode (kB K_MM_shown) 5 = .ok (.aload_n 0, 1) := by decide +kernel
theorem d_MM_shown_6 : decode (kB K_MM_shown) 6 = .ok (.iload_n 1, 1) := by decide +kernel
theorem d_MM_shown_7 : decode (kB K_MM_shown) 7 = .ok (.iload_n 2, 1) := by decide +kernel
theorem d_MM_shown_8 : decode (kB K_MM_shown) 8 = .ok (.invokevirtual 363, 3) := by decide +kernel
theorem d_MM_shown_11 : decode (kB K_MM_shown) 11 = .ok (.ifCond .eq 35, 3) := by decide +kernel
theorem d_MM_shown_14 : decode (kB K_MM_shown) 14 = .ok (.iload_n 3, 1) := by decide +kernel
theorem d_MM_shown_15 : decode (kB K_MM_shown) 15 = .ok (.iconst 0, 1) := by decide +kernel
theorem d_MM_shown_16 : decode (kB K_MM_shown) 16 = .ok (.aload_n 0, 1) := by decide +kernel
theorem d_MM_shown_17 : decode (kB K_MM_shown) 17 = .ok (.getfield 47, 3) := by decide +kernel
theorem d_MM_shown_20 : decode (kB K_MM_shown) 20 = .ok (.iload_n 1, 1) := by decide +kernel
theorem d_MM_shown_21 : decode (kB K_MM_shown) 21 = .ok (.iload_n 2, 1) := by decide +kernel
theorem d_MM_shown_22 : decode (kB K_MM_shown) 22 = .ok (.invokevirtual 366, 3) := by decide +kernel
theorem d_MM_shown_25 : decode (kB K_MM_shown) 25 = .ok (.iconst 1, 1) := by decide +kernel
theorem d_MM_shown_26 : decode (kB K_MM_shown) 26 = .ok (.isub, 1) := by decide +kernel
theorem d_MM_shown_27 : decode (kB K_MM_shown) 27 = .ok (.invokestatic 63, 3) := by decide +kernel
theorem d_MM_shown_30 : decode (kB K_MM_shown) 30 = .ok (.ifCond .eq 16, 3) := by decide +kernel
theorem d_MM_shown_33 : decode (kB K_MM_shown) 33 = .ok (.aload_n 0, 1) := by decide +kernel
theorem d_MM_shown_34 : decode (kB K_MM_shown) 34 = .ok (.getfield 47, 3) := by decide +kernel
theorem d_MM_shown_37 : decode (kB K_MM_shown) 37 = .ok (.iload_n 1, 1) := by decide +kernel
theorem d_MM_shown_38 : decode (kB K_MM_shown) 38 = .ok (.iload_n 2, 1) := by decide +kernel
theorem d_MM_shown_39 : decode (kB K_MM_shown) 39 = .ok (.iload_n 3, 1) := by decide +kernel
theorem d_MM_shown_40 : decode (kB K_MM_shown) 40 = .ok (.invokevirtual 369, 3) := by decide +kernel
theorem d_MM_shown_43 : decode (kB K_MM_shown) 43 = .ok (.goto 8, 3) := by decide +kernel
theorem d_MM_shown_46 : decode (kB K_MM_shown) 46 = .ok (.aload_n 0, 1) := by decide +kernel
theorem d_MM_shown_47 : decode (kB K_MM_shown) 47 = .ok (.iconst 1, 1) := by decide +kernel
theorem d_MM_shown_48 : decode (kB K_MM_shown) 48 = .ok (.invokevirtual 292, 3) := by decide +kernel
theorem d_MM_shown_51 : decode (kB K_MM_shown) 51 = .ok (.ireturn, 1) := by decide +kernel
def K_MM_compare : KM := (⟨"ParishBoardsModel", "compare", "(II)I"⟩, prog_15_method_68_code, 3, (some (.int)), "ParishBoardsModel", [])
theorem d_MM_compare_0 : decode (kB K_MM_compare) 0 = .ok (.aload_n 0, 1) := by decide +kernel
theorem d_MM_compare_1 : decode (kB K_MM_compare) 1 = .ok (.iconst 0, 1) := by decide +kernel
theorem d_MM_compare_2 : decode (kB K_MM_compare) 2 = .ok (.putfield 57, 3) := by decide +kernel
theorem d_MM_compare_5 : decode (kB K_MM_compare) 5 = .ok (.aload_n 0, 1) := by decide +kernel
theorem d_MM_compare_6 : decode (kB K_MM_compare) 6 = .ok (.iload_n 1, 1) := by decide +kernel
theorem d_MM_compare_7 : decode (kB K_MM_compare) 7 = .ok (.invokevirtual 354, 3) := by decide +kernel
theorem d_MM_compare_10 : decode (kB K_MM_compare) 10 = .ok (.ifCond .eq 11, 3) := by decide +kernel
theorem d_MM_compare_13 : decode (kB K_MM_compare) 13 = .ok (.aload_n 0, 1) := by decide +kernel
theorem d_MM_compare_14 : decode (kB K_MM_compare) 14 = .ok (.iload_n 2, 1) := by decide +kernel
theorem d_MM_compare_15 : decode (kB K_MM_compare) 15 = .ok (.invokevirtual 354, 3) := by decide +kernel
theorem d_MM_compare_18 : decode (kB K_MM_compare) 18 = .ok (.ifCond .ne 9, 3) := by decide +kernel
theorem d_MM_compare_21 : decode (kB K_MM_compare) 21 = .ok (.aload_n 0, 1) := by decide +kernel
theorem d_MM_compare_22 : decode (kB K_MM_compare) 22 = .ok (.iconst 1, 1) := by decide +kernel
theorem d_MM_compare_23 : decode (kB K_MM_compare) 23 = .ok (.invokevirtual 292, 3) := by decide +kernel
theorem d_MM_compare_26 : decode (kB K_MM_compare) 26 = .ok (.ireturn, 1) := by decide +kernel
theorem d_MM_compare_27 : decode (kB K_MM_compare) 27 = .ok (.iload_n 1, 1) := by decide +kernel
theorem d_MM_compare_28 : decode (kB K_MM_compare) 28 = .ok (.iload_n 2, 1) := by decide +kernel
theorem d_MM_compare_29 : decode (kB K_MM_compare) 29 = .ok (.if_icmp .ne 7, 3) := by decide +kernel
theorem d_MM_compare_32 : decode (kB K_MM_compare) 32 = .ok (.iconst 0, 1) := by decide +kernel
theorem d_MM_compare_33 : decode (kB K_MM_compare) 33 = .ok (.goto 36, 3) := by decide +kernel
theorem d_MM_compare_36 : decode (kB K_MM_compare) 36 = .ok (.aload_n 0, 1) := by decide +kernel
theorem d_MM_compare_37 : decode (kB K_MM_compare) 37 = .ok (.getfield 47, 3) := by decide +kernel
theorem d_MM_compare_40 : decode (kB K_MM_compare) 40 = .ok (.iload_n 1, 1) := by decide +kernel
theorem d_MM_compare_41 : decode (kB K_MM_compare) 41 = .ok (.iload_n 2, 1) := by decide +kernel
theorem d_MM_compare_42 : decode (kB K_MM_compare) 42 = .ok (.invokevirtual 372, 3) := by decide +kernel
theorem d_MM_compare_45 : decode (kB K_MM_compare) 45 = .ok (.ifCond .eq 7, 3) := by decide +kernel
theorem d_MM_compare_48 : decode (kB K_MM_compare) 48 = .ok (.iconst 1, 1) := by decide +kernel
theorem d_MM_compare_49 : decode (kB K_MM_compare) 49 = .ok (.goto 20, 3) := by decide +kernel
theorem d_MM_compare_52 : decode (kB K_MM_compare) 52 = .ok (.aload_n 0, 1) := by decide +kernel
theorem d_MM_compare_53 : decode (kB K_MM_compare) 53 = .ok (.getfield 47, 3) := by decide +kernel
theorem d_MM_compare_56 : decode (kB K_MM_compare) 56 = .ok (.iload_n 2, 1) := by decide +kernel
theorem d_MM_compare_57 : decode (kB K_MM_compare) 57 = .ok (.iload_n 1, 1) := by decide +kernel
theorem d_MM_compare_58 : decode (kB K_MM_compare) 58 = .ok (.invokevirtual 372, 3) := by decide +kernel
theorem d_MM_compare_61 : decode (kB K_MM_compare) 61 = .ok (.ifCond .eq 7, 3) := by decide +kernel
theorem d_MM_compare_64 : decode (kB K_MM_compare) 64 = .ok (.iconst 2, 1) := by decide +kernel
theorem d_MM_compare_65 : decode (kB K_MM_compare) 65 = .ok (.goto 4, 3) := by decide +kernel
theorem d_MM_compare_68 : decode (kB K_MM_compare) 68 = .ok (.iconst 3, 1) := by decide +kernel
theorem d_MM_compare_69 : decode (kB K_MM_compare) 69 = .ok (.ireturn, 1) := by decide +kernel
def K_MM_roadTold : KM := (⟨"ParishBoardsModel", "roadTold", "(II)I"⟩, prog_15_method_69_code, 3, (some (.int)), "ParishBoardsModel", [])
theorem d_MM_roadTold_0 : decode (kB K_MM_roadTold) 0 = .ok (.iload_n 2, 1) := by decide +kernel
theorem d_MM_roadTold_1 : decode (kB K_MM_roadTold) 1 = .ok (.tableswitch 70 0 3 #[31, 41, 51, 61], 31) := by decide +kernel
theorem d_MM_roadTold_32 : decode (kB K_MM_roadTold) 32 = .ok (.aload_n 0, 1) := by decide +kernel
theorem d_MM_roadTold_33 : decode (kB K_MM_roadTold) 33 = .ok (.getfield 35, 3) := by decide +kernel
theorem d_MM_roadTold_36 : decode (kB K_MM_roadTold) 36 = .ok (.getfield 248, 3) := by decide +kernel
theorem d_MM_roadTold_39 : decode (kB K_MM_roadTold) 39 = .ok (.iload_n 1, 1) := by decide +kernel
theorem d_MM_roadTold_40 : decode (kB K_MM_roadTold) 40 = .ok (.iaload, 1) := by decide +kernel
theorem d_MM_roadTold_41 : decode (kB K_MM_roadTold) 41 = .ok (.ireturn, 1) := by decide +kernel
theorem d_MM_roadTold_42 : decode (kB K_MM_roadTold) 42 = .ok (.aload_n 0, 1) := by decide +kernel
theorem d_MM_roadTold_43 : decode (kB K_MM_roadTold) 43 = .ok (.getfield 35, 3) := by decide +kernel
theorem d_MM_roadTold_46 : decode (kB K_MM_roadTold) 46 = .ok (.getfield 241, 3) := by decide +kernel
theorem d_MM_roadTold_49 : decode (kB K_MM_roadTold) 49 = .ok (.iload_n 1, 1) := by decide +kernel
theorem d_MM_roadTold_50 : decode (kB K_MM_roadTold) 50 = .ok (.iaload, 1) := by decide +kernel
theorem d_MM_roadTold_51 : decode (kB K_MM_roadTold) 51 = .ok (.ireturn, 1) := by decide +kernel
theorem d_MM_roadTold_52 : decode (kB K_MM_roadTold) 52 = .ok (.aload_n 0, 1) := by decide +kernel
theorem d_MM_roadTold_53 : decode (kB K_MM_roadTold) 53 = .ok (.getfield 47, 3) := by decide +kernel
theorem d_MM_roadTold_56 : decode (kB K_MM_roadTold) 56 = .ok (.getfield 375, 3) := by decide +kernel
theorem d_MM_roadTold_59 : decode (kB K_MM_roadTold) 59 = .ok (.iload_n 1, 1) := by decide +kernel
theorem d_MM_roadTold_60 : decode (kB K_MM_roadTold) 60 = .ok (.iaload, 1) := by decide +kernel
theorem d_MM_roadTold_61 : decode (kB K_MM_roadTold) 61 = .ok (.ireturn, 1) := by decide +kernel
theorem d_MM_roadTold_62 : decode (kB K_MM_roadTold) 62 = .ok (.aload_n 0, 1) := by decide +kernel
theorem d_MM_roadTold_63 : decode (kB K_MM_roadTold) 63 = .ok (.getfield 47, 3) := by decide +kernel
theorem d_MM_roadTold_66 : decode (kB K_MM_roadTold) 66 = .ok (.iload_n 1, 1) := by decide +kernel
theorem d_MM_roadTold_67 : decode (kB K_MM_roadTold) 67 = .ok (.invokevirtual 376, 3) := by decide +kernel
theorem d_MM_roadTold_70 : decode (kB K_MM_roadTold) 70 = .ok (.ireturn, 1) := by decide +kernel
theorem d_MM_roadTold_71 : decode (kB K_MM_roadTold) 71 = .ok (.aload_n 0, 1) := by decide +kernel
theorem d_MM_roadTold_72 : decode (kB K_MM_roadTold) 72 = .ok (.getfield 47, 3) := by decide +kernel
theorem d_MM_roadTold_75 : decode (kB K_MM_roadTold) 75 = .ok (.getfield 379, 3) := by decide +kernel
theorem d_MM_roadTold_78 : decode (kB K_MM_roadTold) 78 = .ok (.iload_n 1, 1) := by decide +kernel
theorem d_MM_roadTold_79 : decode (kB K_MM_roadTold) 79 = .ok (.iaload, 1) := by decide +kernel
theorem d_MM_roadTold_80 : decode (kB K_MM_roadTold) 80 = .ok (.ireturn, 1) := by decide +kernel
def K_MM_road : KM := (⟨"ParishBoardsModel", "road", "(II)I"⟩, prog_15_method_70_code, 3, (some (.int)), "ParishBoardsModel", [])
theorem d_MM_road_0 : decode (kB K_MM_road) 0 = .ok (.aload_n 0, 1) := by decide +kernel
theorem d_MM_road_1 : decode (kB K_MM_road) 1 = .ok (.iconst 0, 1) := by decide +kernel
theorem d_MM_road_2 : decode (kB K_MM_road) 2 = .ok (.putfield 57, 3) := by decide +kernel
theorem d_MM_road_5 : decode (kB K_MM_road) 5 = .ok (.aload_n 0, 1) := by decide +kernel
theorem d_MM_road_6 : decode (kB K_MM_road) 6 = .ok (.iload_n 1, 1) := by decide +kernel
theorem d_MM_road_7 : decode (kB K_MM_road) 7 = .ok (.invokevirtual 382, 3) := by decide +kernel
theorem d_MM_road_10 : decode (kB K_MM_road) 10 = .ok (.ifCond .eq 21, 3) := by decide +kernel
theorem d_MM_road_13 : decode (kB K_MM_road) 13 = .ok (.iload_n 2, 1) := by decide +kernel
theorem d_MM_road_14 : decode (kB K_MM_road) 14 = .ok (.iconst 0, 1) := by decide +kernel
theorem d_MM_road_15 : decode (kB K_MM_road) 15 = .ok (.iconst 4, 1) := by decide +kernel
theorem d_MM_road_16 : decode (kB K_MM_road) 16 = .ok (.invokestatic 63, 3) := by decide +kernel
theorem d_MM_road_19 : decode (kB K_MM_road) 19 = .ok (.ifCond .eq 12, 3) := by decide +kernel
theorem d_MM_road_22 : decode (kB K_MM_road) 22 = .ok (.aload_n 0, 1) := by decide +kernel
theorem d_MM_road_23 : decode (kB K_MM_road) 23 = .ok (.iload_n 1, 1) := by decide +kernel
theorem d_MM_road_24 : decode (kB K_MM_road) 24 = .ok (.iload_n 2, 1) := by decide +kernel
theorem d_MM_road_25 : decode (kB K_MM_road) 25 = .ok (.invokevirtual 385, 3) := by decide +kernel
theorem d_MM_road_28 : decode (kB K_MM_road) 28 = .ok (.goto 8, 3) := by decide +kernel
theorem d_MM_road_31 : decode (kB K_MM_road) 31 = .ok (.aload_n 0, 1) := by decide +kernel
theorem d_MM_road_32 : decode (kB K_MM_road) 32 = .ok (.iconst 1, 1) := by decide +kernel
theorem d_MM_road_33 : decode (kB K_MM_road) 33 = .ok (.invokevirtual 292, 3) := by decide +kernel
theorem d_MM_road_36 : decode (kB K_MM_road) 36 = .ok (.ireturn, 1) := by decide +kernel
def K_MM_write : KM := (⟨"ParishBoardsModel", "write", "(III)I"⟩, prog_15_method_71_code, 4, (some (.int)), "ParishBoardsModel", [])
theorem d_MM_write_0 : decode (kB K_MM_write) 0 = .ok (.aload_n 0, 1) := by decide +kernel
theorem d_MM_write_1 : decode (kB K_MM_write) 1 = .ok (.iconst 0, 1) := by decide +kernel
theorem d_MM_write_2 : decode (kB K_MM_write) 2 = .ok (.putfield 57, 3) := by decide +kernel
theorem d_MM_write_5 : decode (kB K_MM_write) 5 = .ok (.aload_n 0, 1) := by decide +kernel
theorem d_MM_write_6 : decode (kB K_MM_write) 6 = .ok (.iload_n 1, 1) := by decide +kernel
theorem d_MM_write_7 : decode (kB K_MM_write) 7 = .ok (.iload_n 2, 1) := by decide +kernel
theorem d_MM_write_8 : decode (kB K_MM_write) 8 = .ok (.invokevirtual 363, 3) := by decide +kernel
theorem d_MM_write_11 : decode (kB K_MM_write) 11 = .ok (.ifCond .ne 9, 3) := by decide +kernel
theorem d_MM_write_14 : decode (kB K_MM_write) 14 = .ok (.aload_n 0, 1) := by decide +kernel
theorem d_MM_write_15 : decode (kB K_MM_write) 15 = .ok (.iconst 1, 1) := by decide +kernel
theorem d_MM_write_16 : decode (kB K_MM_write) 16 = .ok (.invokevirtual 292, 3) := by decide +kernel
theorem d_MM_write_19 : decode (kB K_MM_write) 19 = .ok (.ireturn, 1) := by decide +kernel
theorem d_MM_write_20 : decode (kB K_MM_write) 20 = .ok (.iload_n 3, 1) := by decide +kernel
theorem d_MM_write_21 : decode (kB K_MM_write) 21 = .ok (.iconst 0, 1) := by decide +kernel
theorem d_MM_write_22 : decode (kB K_MM_write) 22 = .ok (.sipush 9999, 3) := by decide +kernel
theorem d_MM_write_25 : decode (kB K_MM_write) 25 = .ok (.invokestatic 63, 3) := by decide +kernel
theorem d_MM_write_28 : decode (kB K_MM_write) 28 = .ok (.ifCond .ne 9, 3) := by decide +kernel
theorem d_MM_write_31 : decode (kB K_MM_write) 31 = .ok (.aload_n 0, 1) := by decide +kernel
theorem d_MM_write_32 : decode (kB K_MM_write) 32 = .ok (.iconst 2, 1) := by decide +kernel
theorem d_MM_write_33 : decode (kB K_MM_write) 33 = .ok (.invokevirtual 292, 3) := by decide +kernel
theorem d_MM_write_36 : decode (kB K_MM_write) 36 = .ok (.ireturn, 1) := by decide +kernel
theorem d_MM_write_37 : decode (kB K_MM_write) 37 = .ok (.aload_n 0, 1) := by decide +kernel
theorem d_MM_write_38 : decode (kB K_MM_write) 38 = .ok (.getfield 47, 3) := by decide +kernel
theorem d_MM_write_41 : decode (kB K_MM_write) 41 = .ok (.getfield 77, 3) := by decide +kernel
theorem d_MM_write_44 : decode (kB K_MM_write) 44 = .ok (.bipush 60, 2) := by decide +kernel
theorem d_MM_write_46 : decode (kB K_MM_write) 46 = .ok (.if_icmp .ne 11, 3) := by decide +kernel
theorem d_MM_write_49 : decode (kB K_MM_write) 49 = .ok (.aload_n 0, 1) := by decide +kernel
theorem d_MM_write_50 : decode (kB K_MM_write) 50 = .ok (.iconst 3, 1) := by decide +kernel
theorem d_MM_write_51 : decode (kB K_MM_write) 51 = .ok (.invokevirtual 292, 3) := by decide +kernel
theorem d_MM_write_54 : decode (kB K_MM_write) 54 = .ok (.goto 13, 3) := by decide +kernel
theorem d_MM_write_57 : decode (kB K_MM_write) 57 = .ok (.aload_n 0, 1) := by decide +kernel
theorem d_MM_write_58 : decode (kB K_MM_write) 58 = .ok (.getfield 47, 3) := by decide +kernel
theorem d_MM_write_61 : decode (kB K_MM_write) 61 = .ok (.iload_n 1, 1) := by decide +kernel
theorem d_MM_write_62 : decode (kB K_MM_write) 62 = .ok (.iload_n 2, 1) := by decide +kernel
theorem d_MM_write_63 : decode (kB K_MM_write) 63 = .ok (.iload_n 3, 1) := by decide +kernel
theorem d_MM_write_64 : decode (kB K_MM_write) 64 = .ok (.invokevirtual 388, 3) := by decide +kernel
theorem d_MM_write_67 : decode (kB K_MM_write) 67 = .ok (.ireturn, 1) := by decide +kernel
def K_MM_note : KM := (⟨"ParishBoardsModel", "note", "(III)I"⟩, prog_15_method_72_code, 4, (some (.int)), "ParishBoardsModel", [])
theorem d_MM_note_0 : decode (kB K_MM_note) 0 = .ok (.aload_n 0, 1) := by decide +kernel
theorem d_MM_note_1 : decode (kB K_MM_note) 1 = .ok (.iconst 0, 1) := by decide +kernel
theorem d_MM_note_2 : decode (kB K_MM_note) 2 = .ok (.putfield 57, 3) := by decide +kernel
theorem d_MM_note_5 : decode (kB K_MM_note) 5 = .ok (.aload_n 0, 1) := by decide +kernel
theorem d_MM_note_6 : decode (kB K_MM_note) 6 = .ok (.iload_n 1, 1) := by decide +kernel
theorem d_MM_note_7 : decode (kB K_MM_note) 7 = .ok (.iload_n 2, 1) := by decide +kernel
theorem d_MM_note_8 : decode (kB K_MM_note) 8 = .ok (.invokevirtual 363, 3) := by decide +kernel
theorem d_MM_note_11 : decode (kB K_MM_note) 11 = .ok (.ifCond .ne 9, 3) := by decide +kernel
theorem d_MM_note_14 : decode (kB K_MM_note) 14 = .ok (.aload_n 0, 1) := by decide +kernel
theorem d_MM_note_15 : decode (kB K_MM_note) 15 = .ok (.iconst 1, 1) := by decide +kernel
theorem d_MM_note_16 : decode (kB K_MM_note) 16 = .ok (.invokevirtual 292, 3) := by decide +kernel
theorem d_MM_note_19 : decode (kB K_MM_note) 19 = .ok (.ireturn, 1) := by decide +kernel
theorem d_MM_note_20 : decode (kB K_MM_note) 20 = .ok (.iload_n 3, 1) := by decide +kernel
theorem d_MM_note_21 : decode (kB K_MM_note) 21 = .ok (.iconst 0, 1) := by decide +kernel
theorem d_MM_note_22 : decode (kB K_MM_note) 22 = .ok (.bipush 15, 2) := by decide +kernel
theorem d_MM_note_24 : decode (kB K_MM_note) 24 = .ok (.invokestatic 63, 3) := by decide +kernel
theorem d_MM_note_27 : decode (kB K_MM_note) 27 = .ok (.ifCond .ne 9, 3) := by decide +kernel
theorem d_MM_note_30 : decode (kB K_MM_note) 30 = .ok (.aload_n 0, 1) := by decide +kernel
theorem d_MM_note_31 : decode (kB K_MM_note) 31 = .ok (.iconst 2, 1) := by decide +kernel
theorem d_MM_note_32 : decode (kB K_MM_note) 32 = .ok (.invokevirtual 292, 3) := by decide +kernel
theorem d_MM_note_35 : decode (kB K_MM_note) 35 = .ok (.ireturn, 1) := by decide +kernel
theorem d_MM_note_36 : decode (kB K_MM_note) 36 = .ok (.aload_n 0, 1) := by decide +kernel
theorem d_MM_note_37 : decode (kB K_MM_note) 37 = .ok (.getfield 47, 3) := by decide +kernel
theorem d_MM_note_40 : decode (kB K_MM_note) 40 = .ok (.getfield 77, 3) := by decide +kernel
theorem d_MM_note_43 : decode (kB K_MM_note) 43 = .ok (.bipush 60, 2) := by decide +kernel
theorem d_MM_note_45 : decode (kB K_MM_note) 45 = .ok (.if_icmp .eq 16, 3) := by decide +kernel
theorem d_MM_note_48 : decode (kB K_MM_note) 48 = .ok (.aload_n 0, 1) := by decide +kernel
theorem d_MM_note_49 : decode (kB K_MM_note) 49 = .ok (.getfield 47, 3) := by decide +kernel
theorem d_MM_note_52 : decode (kB K_MM_note) 52 = .ok (.iload_n 1, 1) := by decide +kernel
theorem d_MM_note_53 : decode (kB K_MM_note) 53 = .ok (.iload_n 2, 1) := by decide +kernel
theorem d_MM_note_54 : decode (kB K_MM_note) 54 = .ok (.invokevirtual 366, 3) := by decide +kernel
theorem d_MM_note_57 : decode (kB K_MM_note) 57 = .ok (.iconst 1, 1) := by decide +kernel
theorem d_MM_note_58 : decode (kB K_MM_note) 58 = .ok (.if_icmp .eq 11, 3) := by decide +kernel
theorem d_MM_note_61 : decode (kB K_MM_note) 61 = .ok (.aload_n 0, 1) := by decide +kernel
theorem d_MM_note_62 : decode (kB K_MM_note) 62 = .ok (.iconst 3, 1) := by decide +kernel
theorem d_MM_note_63 : decode (kB K_MM_note) 63 = .ok (.invokevirtual 292, 3) := by decide +kernel
theorem d_MM_note_66 : decode (kB K_MM_note) 66 = .ok (.goto 13, 3) := by decide +kernel
theorem d_MM_note_69 : decode (kB K_MM_note) 69 = .ok (.aload_n 0, 1) := by decide +kernel
theorem d_MM_note_70 : decode (kB K_MM_note) 70 = .ok (.getfield 47, 3) := by decide +kernel
theorem d_MM_note_73 : decode (kB K_MM_note) 73 = .ok (.iload_n 1, 1) := by decide +kernel
theorem d_MM_note_74 : decode (kB K_MM_note) 74 = .ok (.iload_n 2, 1) := by decide +kernel
theorem d_MM_note_75 : decode (kB K_MM_note) 75 = .ok (.iload_n 3, 1) := by decide +kernel
theorem d_MM_note_76 : decode (kB K_MM_note) 76 = .ok (.invokevirtual 391, 3) := by decide +kernel
theorem d_MM_note_79 : decode (kB K_MM_note) 79 = .ok (.ireturn, 1) := by decide +kernel
def K_MM_merge : KM := (⟨"ParishBoardsModel", "merge", "(III)I"⟩, prog_15_method_73_code, 4, (some (.int)), "ParishBoardsModel", [])
theorem d_MM_merge_0 : decode (kB K_MM_merge) 0 = .ok (.aload_n 0, 1) := by decide +kernel
theorem d_MM_merge_1 : decode (kB K_MM_merge) 1 = .ok (.iconst 0, 1) := by decide +kernel
theorem d_MM_merge_2 : decode (kB K_MM_merge) 2 = .ok (.putfield 57, 3) := by decide +kernel
theorem d_MM_merge_5 : decode (kB K_MM_merge) 5 = .ok (.aload_n 0, 1) := by decide +kernel
theorem d_MM_merge_6 : decode (kB K_MM_merge) 6 = .ok (.iload_n 1, 1) := by decide +kernel
theorem d_MM_merge_7 : decode (kB K_MM_merge) 7 = .ok (.iload_n 2, 1) := by decide +kernel
theorem d_MM_merge_8 : decode (kB K_MM_merge) 8 = .ok (.invokevirtual 363, 3) := by decide +kernel
theorem d_MM_merge_11 : decode (kB K_MM_merge) 11 = .ok (.ifCond .eq 12, 3) := by decide +kernel
theorem d_MM_merge_14 : decode (kB K_MM_merge) 14 = .ok (.iload_n 3, 1) := by decide +kernel
theorem d_MM_merge_15 : decode (kB K_MM_merge) 15 = .ok (.iconst 0, 1) := by decide +kernel
theorem d_MM_merge_16 : decode (kB K_MM_merge) 16 = .ok (.iconst 2, 1) := by decide +kernel
theorem d_MM_merge_17 : decode (kB K_MM_merge) 17 = .ok (.invokestatic 63, 3) := by decide +kernel
theorem d_MM_merge_20 : decode (kB K_MM_merge) 20 = .ok (.ifCond .ne 9, 3) := by decide +kernel
theorem d_MM_merge_23 : decode (kB K_MM_merge) 23 = .ok (.aload_n 0, 1) := by decide +kernel
theorem d_MM_merge_24 : decode (kB K_MM_merge) 24 = .ok (.iconst 1, 1) := by decide +kernel
theorem d_MM_merge_25 : decode (kB K_MM_merge) 25 = .ok (.invokevirtual 292, 3) := by decide +kernel
theorem d_MM_merge_28 : decode (kB K_MM_merge) 28 = .ok (.ireturn, 1) := by decide +kernel
theorem d_MM_merge_29 : decode (kB K_MM_merge) 29 = .ok (.aload_n 0, 1) := by decide +kernel
theorem d_MM_merge_30 : decode (kB K_MM_merge) 30 = .ok (.getfield 47, 3) := by decide +kernel
theorem d_MM_merge_33 : decode (kB K_MM_merge) 33 = .ok (.getfield 77, 3) := by decide +kernel
theorem d_MM_merge_36 : decode (kB K_MM_merge) 36 = .ok (.bipush 60, 2) := by decide +kernel
theorem d_MM_merge_38 : decode (kB K_MM_merge) 38 = .ok (.if_icmp .eq 16, 3) := by decide +kernel
theorem d_MM_merge_41 : decode (kB K_MM_merge) 41 = .ok (.aload_n 0, 1) := by decide +kernel
theorem d_MM_merge_42 : decode (kB K_MM_merge) 42 = .ok (.getfield 47, 3) := by decide +kernel
theorem d_MM_merge_45 : decode (kB K_MM_merge) 45 = .ok (.iload_n 1, 1) := by decide +kernel
theorem d_MM_merge_46 : decode (kB K_MM_merge) 46 = .ok (.iload_n 2, 1) := by decide +kernel
theorem d_MM_merge_47 : decode (kB K_MM_merge) 47 = .ok (.invokevirtual 366, 3) := by decide +kernel
theorem d_MM_merge_50 : decode (kB K_MM_merge) 50 = .ok (.iconst 2, 1) := by decide +kernel
theorem d_MM_merge_51 : decode (kB K_MM_merge) 51 = .ok (.if_icmp .ge 11, 3) := by decide +kernel
theorem d_MM_merge_54 : decode (kB K_MM_merge) 54 = .ok (.aload_n 0, 1) := by decide +kernel
theorem d_MM_merge_55 : decode (kB K_MM_merge) 55 = .ok (.iconst 2, 1) := by decide +kernel
theorem d_MM_merge_56 : decode (kB K_MM_merge) 56 = .ok (.invokevirtual 292, 3) := by decide +kernel
theorem d_MM_merge_59 : decode (kB K_MM_merge) 59 = .ok (.goto 13, 3) := by decide +kernel
theorem d_MM_merge_62 : decode (kB K_MM_merge) 62 = .ok (.aload_n 0, 1) := by decide +kernel
theorem d_MM_merge_63 : decode (kB K_MM_merge) 63 = .ok (.getfield 47, 3) := by decide +kernel
theorem d_MM_merge_66 : decode (kB K_MM_merge) 66 = .ok (.iload_n 1, 1) := by decide +kernel
theorem d_MM_merge_67 : decode (kB K_MM_merge) 67 = .ok (.iload_n 2, 1) := by decide +kernel
theorem d_MM_merge_68 : decode (kB K_MM_merge) 68 = .ok (.iload_n 3, 1) := by decide +kernel
theorem d_MM_merge_69 : decode (kB K_MM_merge) 69 = .ok (.invokevirtual 394, 3) := by decide +kernel
theorem d_MM_merge_72 : decode (kB K_MM_merge) 72 = .ok (.ireturn, 1) := by decide +kernel
def K_MM_send : KM := (⟨"ParishBoardsModel", "send", "(I)I"⟩, prog_15_method_74_code, 2, (some (.int)), "ParishBoardsModel", [])
theorem d_MM_send_0 : decode (kB K_MM_send) 0 = .ok (.aload_n 0, 1) := by decide +kernel
theorem d_MM_send_1 : decode (kB K_MM_send) 1 = .ok (.iconst 0, 1) := by decide +kernel
theorem d_MM_send_2 : decode (kB K_MM_send) 2 = .ok (.putfield 57, 3) := by decide +kernel
theorem d_MM_send_5 : decode (kB K_MM_send) 5 = .ok (.aload_n 0, 1) := by decide +kernel
theorem d_MM_send_6 : decode (kB K_MM_send) 6 = .ok (.iload_n 1, 1) := by decide +kernel
theorem d_MM_send_7 : decode (kB K_MM_send) 7 = .ok (.invokevirtual 382, 3) := by decide +kernel
theorem d_MM_send_10 : decode (kB K_MM_send) 10 = .ok (.ifCond .eq 14, 3) := by decide +kernel
theorem d_MM_send_13 : decode (kB K_MM_send) 13 = .ok (.aload_n 0, 1) := by decide +kernel
theorem d_MM_send_14 : decode (kB K_MM_send) 14 = .ok (.getfield 47, 3) := by decide +kernel
theorem d_MM_send_17 : decode (kB K_MM_send) 17 = .ok (.iload_n 1, 1) := by decide +kernel
theorem d_MM_send_18 : decode (kB K_MM_send) 18 = .ok (.invokevirtual 397, 3) := by decide +kernel
theorem d_MM_send_21 : decode (kB K_MM_send) 21 = .ok (.goto 8, 3) := by decide +kernel
theorem d_MM_send_24 : decode (kB K_MM_send) 24 = .ok (.aload_n 0, 1) := by decide +kernel
theorem d_MM_send_25 : decode (kB K_MM_send) 25 = .ok (.iconst 1, 1) := by decide +kernel
theorem d_MM_send_26 : decode (kB K_MM_send) 26 = .ok (.invokevirtual 292, 3) := by decide +kernel
theorem d_MM_send_29 : decode (kB K_MM_send) 29 = .ok (.ireturn, 1) := by decide +kernel
def K_MM_setDays : KM := (⟨"ParishBoardsModel", "setDays", "(II)I"⟩, prog_15_method_75_code, 4, (some (.int)), "ParishBoardsModel", [])
theorem d_MM_setDays_0 : decode (kB K_MM_setDays) 0 = .ok (.aload_n 0, 1) := by decide +kernel
theorem d_MM_setDays_1 : decode (kB K_MM_setDays) 1 = .ok (.iconst 0, 1) := by decide +kernel
theorem d_MM_setDays_2 : decode (kB K_MM_setDays) 2 = .ok (.putfield 57, 3) := by decide +kernel
theorem d_MM_setDays_5 : decode (kB K_MM_setDays) 5 = .ok (.aload_n 0, 1) := by decide +kernel
theorem d_MM_setDays_6 : decode (kB K_MM_setDays) 6 = .ok (.iload_n 1, 1) := by decide +kernel
theorem d_MM_setDays_7 : decode (kB K_MM_setDays) 7 = .ok (.invokevirtual 382, 3) := by decide +kernel
theorem d_MM_setDays_10 : decode (kB K_MM_setDays) 10 = .ok (.ifCond .ne 9, 3) := by decide +kernel
theorem d_MM_setDays_13 : decode (kB K_MM_setDays) 13 = .ok (.aload_n 0, 1) := by decide +kernel
theorem d_MM_setDays_14 : decode (kB K_MM_setDays) 14 = .ok (.iconst 1, 1) := by decide +kernel
theorem d_MM_setDays_15 : decode (kB K_MM_setDays) 15 = .ok (.invokevirtual 292, 3) := by decide +kernel
theorem d_MM_setDays_18 : decode (kB K_MM_setDays) 18 = .ok (.ireturn, 1) := by decide +kernel
theorem d_MM_setDays_19 : decode (kB K_MM_setDays) 19 = .ok (.iload_n 2, 1) := by decide +kernel
theorem d_MM_setDays_20 : decode (kB K_MM_setDays) 20 = .ok (.iconst 1, 1) := by decide +kernel
theorem d_MM_setDays_21 : decode (kB K_MM_setDays) 21 = .ok (.bipush 9, 2) := by decide +kernel
theorem d_MM_setDays_23 : decode (kB K_MM_setDays) 23 = .ok (.invokestatic 63, 3) := by decide +kernel
theorem d_MM_setDays_26 : decode (kB K_MM_setDays) 26 = .ok (.ifCond .ne 9, 3) := by decide +kernel
theorem d_MM_setDays_29 : decode (kB K_MM_setDays) 29 = .ok (.aload_n 0, 1) := by decide +kernel
theorem d_MM_setDays_30 : decode (kB K_MM_setDays) 30 = .ok (.iconst 2, 1) := by decide +kernel
theorem d_MM_setDays_31 : decode (kB K_MM_setDays) 31 = .ok (.invokevirtual 292, 3) := by decide +kernel
theorem d_MM_setDays_34 : decode (kB K_MM_setDays) 34 = .ok (.ireturn, 1) := by decide +kernel
theorem d_MM_setDays_35 : decode (kB K_MM_setDays) 35 = .ok (.aload_n 0, 1) := by decide +kernel
theorem d_MM_setDays_36 : decode (kB K_MM_setDays) 36 = .ok (.getfield 47, 3) := by decide +kernel
theorem d_MM_setDays_39 : decode (kB K_MM_setDays) 39 = .ok (.getfield 375, 3) := by decide +kernel
theorem d_MM_setDays_42 : decode (kB K_MM_setDays) 42 = .ok (.iload_n 1, 1) := by decide +kernel
theorem d_MM_setDays_43 : decode (kB K_MM_setDays) 43 = .ok (.iaload, 1) := by decide +kernel
theorem d_MM_setDays_44 : decode (kB K_MM_setDays) 44 = .ok (.istore_n 3, 1) := by decide +kernel
theorem d_MM_setDays_45 : decode (kB K_MM_setDays) 45 = .ok (.aload_n 0, 1) := by decide +kernel
theorem d_MM_setDays_46 : decode (kB K_MM_setDays) 46 = .ok (.getfield 47, 3) := by decide +kernel
theorem d_MM_setDays_49 : decode (kB K_MM_setDays) 49 = .ok (.getfield 375, 3) := by decide +kernel
theorem d_MM_setDays_52 : decode (kB K_MM_setDays) 52 = .ok (.iload_n 1, 1) := by decide +kernel
theorem d_MM_setDays_53 : decode (kB K_MM_setDays) 53 = .ok (.iload_n 2, 1) := by decide +kernel
theorem d_MM_setDays_54 : decode (kB K_MM_setDays) 54 = .ok (.iastore, 1) := by decide +kernel
theorem d_MM_setDays_55 : decode (kB K_MM_setDays) 55 = .ok (.iload_n 3, 1) := by decide +kernel
theorem d_MM_setDays_56 : decode (kB K_MM_setDays) 56 = .ok (.ireturn, 1) := by decide +kernel
def K_MM_pass : KM := (⟨"ParishBoardsModel", "pass", "(I)I"⟩, prog_15_method_76_code, 3, (some (.int)), "ParishBoardsModel", [])
theorem d_MM_pass_0 : decode (kB K_MM_pass) 0 = .ok (.aload_n 0, 1) := by decide +kernel
theorem d_MM_pass_1 : decode (kB K_MM_pass) 1 = .ok (.iconst 0, 1) := by decide +kernel
theorem d_MM_pass_2 : decode (kB K_MM_pass) 2 = .ok (.putfield 57, 3) := by decide +kernel
theorem d_MM_pass_5 : decode (kB K_MM_pass) 5 = .ok (.iload_n 1, 1) := by decide +kernel
theorem d_MM_pass_6 : decode (kB K_MM_pass) 6 = .ok (.iconst 1, 1) := by decide +kernel
theorem d_MM_pass_7 : decode (kB K_MM_pass) 7 = .ok (.bipush 60, 2) := by decide +kernel
theorem d_MM_pass_9 : decode (kB K_MM_pass) 9 = .ok (.invokestatic 63, 3) := by decide +kernel
theorem d_MM_pass_12 : decode (kB K_MM_pass) 12 = .ok (.ifCond .ne 9, 3) := by decide +kernel
theorem d_MM_pass_15 : decode (kB K_MM_pass) 15 = .ok (.aload_n 0, 1) := by decide +kernel
theorem d_MM_pass_16 : decode (kB K_MM_pass) 16 = .ok (.iconst 1, 1) := by decide +kernel
theorem d_MM_pass_17 : decode (kB K_MM_pass) 17 = .ok (.invokevirtual 292, 3) := by decide +kernel
theorem d_MM_pass_20 : decode (kB K_MM_pass) 20 = .ok (.ireturn, 1) := by decide +kernel
theorem d_MM_pass_21 : decode (kB K_MM_pass) 21 = .ok (.aload_n 0, 1) := by decide +kernel
theorem d_MM_pass_22 : decode (kB K_MM_pass) 22 = .ok (.getfield 47, 3) := by decide +kernel
theorem d_MM_pass_25 : decode (kB K_MM_pass) 25 = .ok (.getfield 400, 3) := by decide +kernel
theorem d_MM_pass_28 : decode (kB K_MM_pass) 28 = .ok (.istore_n 2, 1) := by decide +kernel
theorem d_MM_pass_29 : decode (kB K_MM_pass) 29 = .ok (.aload_n 0, 1) := by decide +kernel
theorem d_MM_pass_30 : decode (kB K_MM_pass) 30 = .ok (.getfield 47, 3) := by decide +kernel
theorem d_MM_pass_33 : decode (kB K_MM_pass) 33 = .ok (.iload_n 1, 1) := by decide +kernel
theorem d_MM_pass_34 : decode (kB K_MM_pass) 34 = .ok (.invokevirtual 403, 3) := by decide +kernel
theorem d_MM_pass_37 : decode (kB K_MM_pass) 37 = .ok (.getfield 400, 3) := by decide +kernel
theorem d_MM_pass_40 : decode (kB K_MM_pass) 40 = .ok (.iload_n 2, 1) := by decide +kernel
theorem d_MM_pass_41 : decode (kB K_MM_pass) 41 = .ok (.isub, 1) := by decide +kernel
theorem d_MM_pass_42 : decode (kB K_MM_pass) 42 = .ok (.ireturn, 1) := by decide +kernel
def K_MM_foresee : KM := (⟨"ParishBoardsModel", "foresee", "(II)I"⟩, prog_15_method_77_code, 3, (some (.int)), "ParishBoardsModel", [])
theorem d_MM_foresee_0 : decode (kB K_MM_foresee) 0 = .ok (.aload_n 0, 1) := by decide +kernel
theorem d_MM_foresee_1 : decode (kB K_MM_foresee) 1 = .ok (.iconst 0, 1) := by decide +kernel
theorem d_MM_foresee_2 : decode (kB K_MM_foresee) 2 = .ok (.putfield 57, 3) := by decide +kernel
theorem d_MM_foresee_5 : decode (kB K_MM_foresee) 5 = .ok (.iload_n 1, 1) := by decide +kernel
theorem d_MM_foresee_6 : decode (kB K_MM_foresee) 6 = .ok (.iconst 1, 1) := by decide +kernel
theorem d_MM_foresee_7 : decode (kB K_MM_foresee) 7 = .ok (.bipush 60, 2) := by decide +kernel
theorem d_MM_foresee_9 : decode (kB K_MM_foresee) 9 = .ok (.invokestatic 63, 3) := by decide +kernel
theorem d_MM_foresee_12 : decode (kB K_MM_foresee) 12 = .ok (.ifCond .ne 9, 3) := by decide +kernel
theorem d_MM_foresee_15 : decode (kB K_MM_foresee) 15 = .ok (.aload_n 0, 1) := by decide +kernel
theorem d_MM_foresee_16 : decode (kB K_MM_foresee) 16 = .ok (.iconst 1, 1) := by decide +kernel
theorem d_MM_foresee_17 : decode (kB K_MM_foresee) 17 = .ok (.invokevirtual 292, 3) := by decide +kernel
theorem d_MM_foresee_20 : decode (kB K_MM_foresee) 20 = .ok (.ireturn, 1) := by decide +kernel
theorem d_MM_foresee_21 : decode (kB K_MM_foresee) 21 = .ok (.iload_n 2, 1) := by decide +kernel
theorem d_MM_foresee_22 : decode (kB K_MM_foresee) 22 = .ok (.iconst 5, 1) := by decide +kernel
theorem d_MM_foresee_23 : decode (kB K_MM_foresee) 23 = .ok (.bipush 11, 2) := by decide +kernel
theorem d_MM_foresee_25 : decode (kB K_MM_foresee) 25 = .ok (.invokestatic 63, 3) := by decide +kernel
theorem d_MM_foresee_28 : decode (kB K_MM_foresee) 28 = .ok (.ifCond .eq 25, 3) := by decide +kernel
theorem d_MM_foresee_31 : decode (kB K_MM_foresee) 31 = .ok (.aload_n 0, 1) := by decide +kernel
theorem d_MM_foresee_32 : decode (kB K_MM_foresee) 32 = .ok (.getfield 51, 3) := by decide +kernel
theorem d_MM_foresee_35 : decode (kB K_MM_foresee) 35 = .ok (.aload_n 0, 1) := by decide +kernel
theorem d_MM_foresee_36 : decode (kB K_MM_foresee) 36 = .ok (.getfield 47, 3) := by decide +kernel
theorem d_MM_foresee_39 : decode (kB K_MM_foresee) 39 = .ok (.invokevirtual 407, 3) := by decide +kernel
theorem d_MM_foresee_42 : decode (kB K_MM_foresee) 42 = .ok (.iload_n 1, 1) := by decide +kernel
theorem d_MM_foresee_43 : decode (kB K_MM_foresee) 43 = .ok (.invokevirtual 403, 3) := by decide +kernel
theorem d_MM_foresee_46 : decode (kB K_MM_foresee) 46 = .ok (.iload_n 2, 1) := by decide +kernel
theorem d_MM_foresee_47 : decode (kB K_MM_foresee) 47 = .ok (.invokevirtual 298, 3) := by decide +kernel
theorem d_MM_foresee_50 : decode (kB K_MM_foresee) 50 = .ok (.goto 8, 3) := by decide +kernel
theorem d_MM_foresee_53 : decode (kB K_MM_foresee) 53 = .ok (.aload_n 0, 1) := by decide +kernel
theorem d_MM_foresee_54 : decode (kB K_MM_foresee) 54 = .ok (.iconst 2, 1) := by decide +kernel
theorem d_MM_foresee_55 : decode (kB K_MM_foresee) 55 = .ok (.invokevirtual 292, 3) := by decide +kernel
theorem d_MM_foresee_58 : decode (kB K_MM_foresee) 58 = .ok (.ireturn, 1) := by decide +kernel
def K_MM_until : KM := (⟨"ParishBoardsModel", "until", "(II)I"⟩, prog_15_method_78_code, 4, (some (.int)), "ParishBoardsModel", [])
theorem d_MM_until_0 : decode (kB K_MM_until) 0 = .ok (.aload_n 0, 1) := by decide +kernel
theorem d_MM_until_1 : decode (kB K_MM_until) 1 = .ok (.iconst 0, 1) := by decide +kernel
theorem d_MM_until_2 : decode (kB K_MM_until) 2 = .ok (.putfield 57, 3) := by decide +kernel
theorem d_MM_until_5 : decode (kB K_MM_until) 5 = .ok (.aload_n 0, 1) := by decide +kernel
theorem d_MM_until_6 : decode (kB K_MM_until) 6 = .ok (.iload_n 1, 1) := by decide +kernel
theorem d_MM_until_7 : decode (kB K_MM_until) 7 = .ok (.invokevirtual 67, 3) := by decide +kernel
theorem d_MM_until_10 : decode (kB K_MM_until) 10 = .ok (.ifCond .eq 11, 3) := by decide +kernel
theorem d_MM_until_13 : decode (kB K_MM_until) 13 = .ok (.aload_n 0, 1) := by decide +kernel
theorem d_MM_until_14 : decode (kB K_MM_until) 14 = .ok (.iload_n 2, 1) := by decide +kernel
theorem d_MM_until_15 : decode (kB K_MM_until) 15 = .ok (.invokevirtual 354, 3) := by decide +kernel
theorem d_MM_until_18 : decode (kB K_MM_until) 18 = .ok (.ifCond .ne 9, 3) := by decide +kernel
theorem d_MM_until_21 : decode (kB K_MM_until) 21 = .ok (.aload_n 0, 1) := by decide +kernel
theorem d_MM_until_22 : decode (kB K_MM_until) 22 = .ok (.iconst 1, 1) := by decide +kernel
theorem d_MM_until_23 : decode (kB K_MM_until) 23 = .ok (.invokevirtual 292, 3) := by decide +kernel
theorem d_MM_until_26 : decode (kB K_MM_until) 26 = .ok (.ireturn, 1) := by decide +kernel
theorem d_MM_until_27 : decode (kB K_MM_until) 27 = .ok (.aload_n 0, 1) := by decide +kernel
theorem d_MM_until_28 : decode (kB K_MM_until) 28 = .ok (.getfield 51, 3) := by decide +kernel
theorem d_MM_until_31 : decode (kB K_MM_until) 31 = .ok (.aload_n 0, 1) := by decide +kernel
theorem d_MM_until_32 : decode (kB K_MM_until) 32 = .ok (.getfield 47, 3) := by decide +kernel
theorem d_MM_until_35 : decode (kB K_MM_until) 35 = .ok (.invokevirtual 407, 3) := by decide +kernel
theorem d_MM_until_38 : decode (kB K_MM_until) 38 = .ok (.pop, 1) := by decide +kernel
theorem d_MM_until_39 : decode (kB K_MM_until) 39 = .ok (.iconst 0, 1) := by decide +kernel
theorem d_MM_until_40 : decode (kB K_MM_until) 40 = .ok (.istore_n 3, 1) := by decide +kernel
theorem d_MM_until_41 : decode (kB K_MM_until) 41 = .ok (.iload_n 3, 1) := by decide +kernel
theorem d_MM_until_42 : decode (kB K_MM_until) 42 = .ok (.bipush 60, 2) := by decide +kernel
theorem d_MM_until_44 : decode (kB K_MM_until) 44 = .ok (.if_icmp .gt 30, 3) := by decide +kernel
theorem d_MM_until_47 : decode (kB K_MM_until) 47 = .ok (.aload_n 0, 1) := by decide +kernel
theorem d_MM_until_48 : decode (kB K_MM_until) 48 = .ok (.getfield 51, 3) := by decide +kernel
theorem d_MM_until_51 : decode (kB K_MM_until) 51 = .ok (.iload_n 1, 1) := by decide +kernel
theorem d_MM_until_52 : decode (kB K_MM_until) 52 = .ok (.iload_n 2, 1) := by decide +kernel
theorem d_MM_until_53 : decode (kB K_MM_until) 53 = .ok (.invokevirtual 335, 3) := by decide +kernel
theorem d_MM_until_56 : decode (kB K_MM_until) 56 = .ok (.ifCond .eq 5, 3) := by decide +kernel
theorem d_MM_until_59 : decode (kB K_MM_until) 59 = .ok (.iload_n 3, 1) := by decide +kernel
theorem d_MM_until_60 : decode (kB K_MM_until) 60 = .ok (.ireturn, 1) := by decide +kernel
theorem d_MM_until_61 : decode (kB K_MM_until) 61 = .ok (.aload_n 0, 1) := by decide +kernel
theorem d_MM_until_62 : decode (kB K_MM_until) 62 = .ok (.getfield 51, 3) := by decide +kernel
theorem d_MM_until_65 : decode (kB K_MM_until) 65 = .ok (.invokevirtual 411, 3) := by decide +kernel
theorem d_MM_until_68 : decode (kB K_MM_until) 68 = .ok (.iinc 3 1, 3) := by decide +kernel
theorem d_MM_until_71 : decode (kB K_MM_until) 71 = .ok (.goto (-30), 3) := by decide +kernel
theorem d_MM_until_74 : decode (kB K_MM_until) 74 = .ok (.iconst (-1), 1) := by decide +kernel
theorem d_MM_until_75 : decode (kB K_MM_until) 75 = .ok (.ireturn, 1) := by decide +kernel
def K_MM_alike : KM := (⟨"ParishBoardsModel", "alike", "()Z"⟩, prog_15_method_79_code, 3, (some (.boolean)), "ParishBoardsModel", [])
theorem d_MM_alike_0 : decode (kB K_MM_alike) 0 = .ok (.aload_n 0, 1) := by decide +kernel
theorem d_MM_alike_1 : decode (kB K_MM_alike) 1 = .ok (.iconst 0, 1) := by decide +kernel
theorem d_MM_alike_2 : decode (kB K_MM_alike) 2 = .ok (.putfield 57, 3) := by decide +kernel
theorem d_MM_alike_5 : decode (kB K_MM_alike) 5 = .ok (.bipush 30, 2) := by decide +kernel
theorem d_MM_alike_7 : decode (kB K_MM_alike) 7 = .ok (.istore_n 1, 1) := by decide +kernel
theorem d_MM_alike_8 : decode (kB K_MM_alike) 8 = .ok (.iconst 0, 1) := by decide +kernel
theorem d_MM_alike_9 : decode (kB K_MM_alike) 9 = .ok (.istore_n 2, 1) := by decide +kernel
theorem d_MM_alike_10 : decode (kB K_MM_alike) 10 = .ok (.iload_n 2, 1) := by decide +kernel
theorem d_MM_alike_11 : decode (kB K_MM_alike) 11 = .ok (.iload_n 1, 1) := by decide +kernel
theorem d_MM_alike_12 : decode (kB K_MM_alike) 12 = .ok (.aload_n 0, 1) := by decide +kernel
theorem d_MM_alike_13 : decode (kB K_MM_alike) 13 = .ok (.getfield 35, 3) := by decide +kernel
theorem d_MM_alike_16 : decode (kB K_MM_alike) 16 = .ok (.getfield 60, 3) := by decide +kernel
theorem d_MM_alike_19 : decode (kB K_MM_alike) 19 = .ok (.imul, 1) := by decide +kernel
theorem d_MM_alike_20 : decode (kB K_MM_alike) 20 = .ok (.if_icmp .ge 34, 3) := by decide +kernel
theorem d_MM_alike_23 : decode (kB K_MM_alike) 23 = .ok (.aload_n 0, 1) := by decide +kernel
theorem d_MM_alike_24 : decode (kB K_MM_alike) 24 = .ok (.getfield 47, 3) := by decide +kernel
theorem d_MM_alike_27 : decode (kB K_MM_alike) 27 = .ok (.getfield 323, 3) := by decide +kernel
theorem d_MM_alike_30 : decode (kB K_MM_alike) 30 = .ok (.iload_n 2, 1) := by decide +kernel
theorem d_MM_alike_31 : decode (kB K_MM_alike) 31 = .ok (.iaload, 1) := by decide +kernel
theorem d_MM_alike_32 : decode (kB K_MM_alike) 32 = .ok (.aload_n 0, 1) := by decide +kernel
theorem d_MM_alike_33 : decode (kB K_MM_alike) 33 = .ok (.getfield 47, 3) := by decide +kernel
theorem d_MM_alike_36 : decode (kB K_MM_alike) 36 = .ok (.getfield 323, 3) := by decide +kernel
theorem d_MM_alike_39 : decode (kB K_MM_alike) 39 = .ok (.iload_n 2, 1) := by decide +kernel
theorem d_MM_alike_40 : decode (kB K_MM_alike) 40 = .ok (.iload_n 1, 1) := by decide +kernel
theorem d_MM_alike_41 : decode (kB K_MM_alike) 41 = .ok (.irem, 1) := by decide +kernel
theorem d_MM_alike_42 : decode (kB K_MM_alike) 42 = .ok (.iaload, 1) := by decide +kernel
theorem d_MM_alike_43 : decode (kB K_MM_alike) 43 = .ok (.if_icmp .eq 5, 3) := by decide +kernel
theorem d_MM_alike_46 : decode (kB K_MM_alike) 46 = .ok (.iconst 0, 1) := by decide +kernel
theorem d_MM_alike_47 : decode (kB K_MM_alike) 47 = .ok (.ireturn, 1) := by decide +kernel
theorem d_MM_alike_48 : decode (kB K_MM_alike) 48 = .ok (.iinc 2 1, 3) := by decide +kernel
theorem d_MM_alike_51 : decode (kB K_MM_alike) 51 = .ok (.goto (-41), 3) := by decide +kernel
theorem d_MM_alike_54 : decode (kB K_MM_alike) 54 = .ok (.iconst 1, 1) := by decide +kernel
theorem d_MM_alike_55 : decode (kB K_MM_alike) 55 = .ok (.ireturn, 1) := by decide +kernel
def K_MM_missed : KM := (⟨"ParishBoardsModel", "missed", "()I"⟩, prog_15_method_80_code, 2, (some (.int)), "ParishBoardsModel", [])
theorem d_MM_missed_0 : decode (kB K_MM_missed) 0 = .ok (.aload_n 0, 1) := by decide +kernel
theorem d_MM_missed_1 : decode (kB K_MM_missed) 1 = .ok (.iconst 0, 1) := by decide +kernel
theorem d_MM_missed_2 : decode (kB K_MM_missed) 2 = .ok (.putfield 57, 3) := by decide +kernel
theorem d_MM_missed_5 : decode (kB K_MM_missed) 5 = .ok (.iconst 0, 1) := by decide +kernel
theorem d_MM_missed_6 : decode (kB K_MM_missed) 6 = .ok (.istore_n 1, 1) := by decide +kernel
theorem d_MM_missed_7 : decode (kB K_MM_missed) 7 = .ok (.iload_n 1, 1) := by decide +kernel
theorem d_MM_missed_8 : decode (kB K_MM_missed) 8 = .ok (.aload_n 0, 1) := by decide +kernel
theorem d_MM_missed_9 : decode (kB K_MM_missed) 9 = .ok (.getfield 47, 3) := by decide +kernel
theorem d_MM_missed_12 : decode (kB K_MM_missed) 12 = .ok (.getfield 77, 3) := by decide +kernel
theorem d_MM_missed_15 : decode (kB K_MM_missed) 15 = .ok (.if_icmp .ge 27, 3) := by decide +kernel
theorem d_MM_missed_18 : decode (kB K_MM_missed) 18 = .ok (.aload_n 0, 1) := by decide +kernel
theorem d_MM_missed_19 : decode (kB K_MM_missed) 19 = .ok (.iload_n 1, 1) := by decide +kernel
theorem d_MM_missed_20 : decode (kB K_MM_missed) 20 = .ok (.iconst 0, 1) := by decide +kernel
theorem d_MM_missed_21 : decode (kB K_MM_missed) 21 = .ok (.invokevirtual 350, 3) := by decide +kernel
theorem d_MM_missed_24 : decode (kB K_MM_missed) 24 = .ok (.aload_n 0, 1) := by decide +kernel
theorem d_MM_missed_25 : decode (kB K_MM_missed) 25 = .ok (.getfield 35, 3) := by decide +kernel
theorem d_MM_missed_28 : decode (kB K_MM_missed) 28 = .ok (.getfield 60, 3) := by decide +kernel
theorem d_MM_missed_31 : decode (kB K_MM_missed) 31 = .ok (.if_icmp .ge 5, 3) := by decide +kernel
theorem d_MM_missed_34 : decode (kB K_MM_missed) 34 = .ok (.iload_n 1, 1) := by decide +kernel
theorem d_MM_missed_35 : decode (kB K_MM_missed) 35 = .ok (.ireturn, 1) := by decide +kernel
theorem d_MM_missed_36 : decode (kB K_MM_missed) 36 = .ok (.iinc 1 1, 3) := by decide +kernel
theorem d_MM_missed_39 : decode (kB K_MM_missed) 39 = .ok (.goto (-32), 3) := by decide +kernel
theorem d_MM_missed_42 : decode (kB K_MM_missed) 42 = .ok (.iconst (-1), 1) := by decide +kernel
theorem d_MM_missed_43 : decode (kB K_MM_missed) 43 = .ok (.ireturn, 1) := by decide +kernel
def K_MM_advise : KM := (⟨"ParishBoardsModel", "advise", "(I)I"⟩, prog_15_method_81_code, 6, (some (.int)), "ParishBoardsModel", [])
theorem d_MM_advise_0 : decode (kB K_MM_advise) 0 = .ok (.aload_n 0, 1) := by decide +kernel
theorem d_MM_advise_1 : decode (kB K_MM_advise) 1 = .ok (.iconst 0, 1) := by decide +kernel
theorem d_MM_advise_2 : decode (kB K_MM_advise) 2 = .ok (.putfield 57, 3) := by decide +kernel
theorem d_MM_advise_5 : decode (kB K_MM_advise) 5 = .ok (.iload_n 1, 1) := by decide +kernel
theorem d_MM_advise_6 : decode (kB K_MM_advise) 6 = .ok (.iconst 1, 1) := by decide +kernel
theorem d_MM_advise_7 : decode (kB K_MM_advise) 7 = .ok (.bipush 30, 2) := by decide +kernel
theorem d_MM_advise_9 : decode (kB K_MM_advise) 9 = .ok (.invokestatic 63, 3) := by decide +kernel
theorem d_MM_advise_12 : decode (kB K_MM_advise) 12 = .ok (.ifCond .ne 9, 3) := by decide +kernel
theorem d_MM_advise_15 : decode (kB K_MM_advise) 15 = .ok (.aload_n 0, 1) := by decide +kernel
theorem d_MM_advise_16 : decode (kB K_MM_advise) 16 = .ok (.iconst 1, 1) := by decide +kernel
theorem d_MM_advise_17 : decode (kB K_MM_advise) 17 = .ok (.invokevirtual 292, 3) := by decide +kernel
theorem d_MM_advise_20 : decode (kB K_MM_advise) 20 = .ok (.ireturn, 1) := by decide +kernel
theorem d_MM_advise_21 : decode (kB K_MM_advise) 21 = .ok (.iconst (-1), 1) := by decide +kernel
theorem d_MM_advise_22 : decode (kB K_MM_advise) 22 = .ok (.istore_n 2, 1) := by decide +kernel
theorem d_MM_advise_23 : decode (kB K_MM_advise) 23 = .ok (.aload_n 0, 1) := by decide +kernel
theorem d_MM_advise_24 : decode (kB K_MM_advise) 24 = .ok (.getfield 51, 3) := by decide +kernel
theorem d_MM_advise_27 : decode (kB K_MM_advise) 27 = .ok (.aload_n 0, 1) := by decide +kernel
theorem d_MM_advise_28 : decode (kB K_MM_advise) 28 = .ok (.getfield 47, 3) := by decide +kernel
theorem d_MM_advise_31 : decode (kB K_MM_advise) 31 = .ok (.invokevirtual 407, 3) := by decide +kernel
theorem d_MM_advise_34 : decode (kB K_MM_advise) 34 = .ok (.iload_n 1, 1) := by decide +kernel
theorem d_MM_advise_35 : decode (kB K_MM_advise) 35 = .ok (.invokevirtual 403, 3) := by decide +kernel
theorem d_MM_advise_38 : decode (kB K_MM_advise) 38 = .ok (.invokevirtual 413, 3) := by decide +kernel
theorem d_MM_advise_41 : decode (kB K_MM_advise) 41 = .ok (.istore_n 3, 1) := by decide +kernel
theorem d_MM_advise_42 : decode (kB K_MM_advise) 42 = .ok (.iconst 0, 1) := by decide +kernel
theorem d_MM_advise_43 : decode (kB K_MM_advise) 43 = .ok (.istore 4, 2) := by decide +kernel
theorem d_MM_advise_45 : decode (kB K_MM_advise) 45 = .ok (.iload 4, 2) := by decide +kernel
theorem d_MM_advise_47 : decode (kB K_MM_advise) 47 = .ok (.aload_n 0, 1) := by decide +kernel
theorem d_MM_advise_48 : decode (kB K_MM_advise) 48 = .ok (.getfield 35, 3) := by decide +kernel
theorem d_MM_advise_51 : decode (kB K_MM_advise) 51 = .ok (.getfield 74, 3) := by decide +kernel
theorem d_MM_advise_54 : decode (kB K_MM_advise) 54 = .ok (.if_icmp .ge 54, 3) := by decide +kernel
theorem d_MM_advise_57 : decode (kB K_MM_advise) 57 = .ok (.aload_n 0, 1) := by decide +kernel
theorem d_MM_advise_58 : decode (kB K_MM_advise) 58 = .ok (.getfield 51, 3) := by decide +kernel
theorem d_MM_advise_61 : decode (kB K_MM_advise) 61 = .ok (.aload_n 0, 1) := by decide +kernel
theorem d_MM_advise_62 : decode (kB K_MM_advise) 62 = .ok (.getfield 47, 3) := by decide +kernel
theorem d_MM_advise_65 : decode (kB K_MM_advise) 65 = .ok (.invokevirtual 407, 3) := by decide +kernel
theorem d_MM_advise_68 : decode (kB K_MM_advise) 68 = .ok (.iload 4, 2) := by decide +kernel
theorem d_MM_advise_70 : decode (kB K_MM_advise) 70 = .ok (.invokevirtual 397, 3) := by decide +kernel
theorem d_MM_advise_73 : decode (kB K_MM_advise) 73 = .ok (.pop, 1) := by decide +kernel
theorem d_MM_advise_74 : decode (kB K_MM_advise) 74 = .ok (.aload_n 0, 1) := by decide +kernel
theorem d_MM_advise_75 : decode (kB K_MM_advise) 75 = .ok (.getfield 51, 3) := by decide +kernel
theorem d_MM_advise_78 : decode (kB K_MM_advise) 78 = .ok (.iload_n 1, 1) := by decide +kernel
theorem d_MM_advise_79 : decode (kB K_MM_advise) 79 = .ok (.invokevirtual 403, 3) := by decide +kernel
theorem d_MM_advise_82 : decode (kB K_MM_advise) 82 = .ok (.invokevirtual 413, 3) := by decide +kernel
theorem d_MM_advise_85 : decode (kB K_MM_advise) 85 = .ok (.istore 5, 2) := by decide +kernel
theorem d_MM_advise_87 : decode (kB K_MM_advise) 87 = .ok (.iload 5, 2) := by decide +kernel
theorem d_MM_advise_89 : decode (kB K_MM_advise) 89 = .ok (.iload_n 3, 1) := by decide +kernel
theorem d_MM_advise_90 : decode (kB K_MM_advise) 90 = .ok (.if_icmp .gt 6, 3) := by decide +kernel
theorem d_MM_advise_93 : decode (kB K_MM_advise) 93 = .ok (.goto 9, 3) := by decide +kernel
theorem d_MM_advise_96 : decode (kB K_MM_advise) 96 = .ok (.iload 4, 2) := by decide +kernel
theorem d_MM_advise_98 : decode (kB K_MM_advise) 98 = .ok (.istore_n 2, 1) := by decide +kernel
theorem d_MM_advise_99 : decode (kB K_MM_advise) 99 = .ok (.iload 5, 2) := by decide +kernel
theorem d_MM_advise_101 : decode (kB K_MM_advise) 101 = .ok (.istore_n 3, 1) := by decide +kernel
theorem d_MM_advise_102 : decode (kB K_MM_advise) 102 = .ok (.iinc 4 1, 3) := by decide +kernel
theorem d_MM_advise_105 : decode (kB K_MM_advise) 105 = .ok (.goto (-60), 3) := by decide +kernel
theorem d_MM_advise_108 : decode (kB K_MM_advise) 108 = .ok (.iload_n 2, 1) := by decide +kernel
theorem d_MM_advise_109 : decode (kB K_MM_advise) 109 = .ok (.ireturn, 1) := by decide +kernel
def K_MM_mean : KM := (⟨"ParishBoardsModel", "mean", "()D"⟩, prog_15_method_82_code, 1, (some (.double)), "ParishBoardsModel", [])
theorem d_MM_mean_0 : decode (kB K_MM_mean) 0 = .ok (.aload_n 0, 1) := by decide +kernel
theorem d_MM_mean_1 : decode (kB K_MM_mean) 1 = .ok (.iconst 0, 1) := by decide +kernel
theorem d_MM_mean_2 : decode (kB K_MM_mean) 2 = .ok (.putfield 57, 3) := by decide +kernel
theorem d_MM_mean_5 : decode (kB K_MM_mean) 5 = .ok (.aload_n 0, 1) := by decide +kernel
theorem d_MM_mean_6 : decode (kB K_MM_mean) 6 = .ok (.getfield 35, 3) := by decide +kernel
theorem d_MM_mean_9 : decode (kB K_MM_mean) 9 = .ok (.getfield 60, 3) := by decide +kernel
theorem d_MM_mean_12 : decode (kB K_MM_mean) 12 = .ok (.ifCond .ne 7, 3) := by decide +kernel
theorem d_MM_mean_15 : decode (kB K_MM_mean) 15 = .ok (.dconst 0, 1) := by decide +kernel
theorem d_MM_mean_16 : decode (kB K_MM_mean) 16 = .ok (.goto 20, 3) := by decide +kernel
theorem d_MM_mean_19 : decode (kB K_MM_mean) 19 = .ok (.aload_n 0, 1) := by decide +kernel
theorem d_MM_mean_20 : decode (kB K_MM_mean) 20 = .ok (.getfield 47, 3) := by decide +kernel
theorem d_MM_mean_23 : decode (kB K_MM_mean) 23 = .ok (.invokevirtual 413, 3) := by decide +kernel
theorem d_MM_mean_26 : decode (kB K_MM_mean) 26 = .ok (.i2d, 1) := by decide +kernel
theorem d_MM_mean_27 : decode (kB K_MM_mean) 27 = .ok (.aload_n 0, 1) := by decide +kernel
theorem d_MM_mean_28 : decode (kB K_MM_mean) 28 = .ok (.getfield 35, 3) := by decide +kernel
theorem d_MM_mean_31 : decode (kB K_MM_mean) 31 = .ok (.getfield 60, 3) := by decide +kernel
theorem d_MM_mean_34 : decode (kB K_MM_mean) 34 = .ok (.i2d, 1) := by decide +kernel
theorem d_MM_mean_35 : decode (kB K_MM_mean) 35 = .ok (.ddiv, 1) := by decide +kernel
theorem d_MM_mean_36 : decode (kB K_MM_mean) 36 = .ok (.dreturn, 1) := by decide +kernel
def K_MM_digest : KM := (⟨"ParishBoardsModel", "digest", "()J"⟩, prog_15_method_83_code, 6, (some (.long)), "ParishBoardsModel", [])
theorem d_MM_digest_0 : decode (kB K_MM_digest) 0 = .ok (.aload_n 0, 1) := by decide +kernel
theorem d_MM_digest_1 : decode (kB K_MM_digest) 1 = .ok (.iconst 0, 1) := by decide +kernel
theorem d_MM_digest_2 : decode (kB K_MM_digest) 2 = .ok (.putfield 57, 3) := by decide +kernel
theorem d_MM_digest_5 : decode (kB K_MM_digest) 5 = .ok (.ldc2_w 416, 3) := by decide +kernel
theorem d_MM_digest_8 : decode (kB K_MM_digest) 8 = .ok (.lstore_n 1, 1) := by decide +kernel
theorem d_MM_digest_9 : decode (kB K_MM_digest) 9 = .ok (.iconst 0, 1) := by decide +kernel
theorem d_MM_digest_10 : decode (kB K_MM_digest) 10 = .ok (.istore_n 3, 1) := by decide +kernel
theorem d_MM_digest_11 : decode (kB K_MM_digest) 11 = .ok (.iload_n 3, 1) := by decide +kernel
theorem d_MM_digest_12 : decode (kB K_MM_digest) 12 = .ok (.bipush 12, 2) := by decide +kernel
theorem d_MM_digest_14 : decode (kB K_MM_digest) 14 = .ok (.if_icmp .gt 22, 3) := by decide +kernel
theorem d_MM_digest_17 : decode (kB K_MM_digest) 17 = .ok (.lload_n 1, 1) := by decide +kernel
theorem d_MM_digest_18 : decode (kB K_MM_digest) 18 = .ok (.ldc2_w 418, 3) := by decide +kernel
theorem d_MM_digest_21 : decode (kB K_MM_digest) 21 = .ok (.lmul, 1) := by decide +kernel
theorem d_MM_digest_22 : decode (kB K_MM_digest) 22 = .ok (.aload_n 0, 1) := by decide +kernel
theorem d_MM_digest_23 : decode (kB K_MM_digest) 23 = .ok (.iload_n 3, 1) := by decide +kernel
theorem d_MM_digest_24 : decode (kB K_MM_digest) 24 = .ok (.invokevirtual 304, 3) := by decide +kernel
theorem d_MM_digest_27 : decode (kB K_MM_digest) 27 = .ok (.i2l, 1) := by decide +kernel
theorem d_MM_digest_28 : decode (kB K_MM_digest) 28 = .ok (.ladd, 1) := by decide +kernel
theorem d_MM_digest_29 : decode (kB K_MM_digest) 29 = .ok (.lstore_n 1, 1) := by decide +kernel
theorem d_MM_digest_30 : decode (kB K_MM_digest) 30 = .ok (.iinc 3 1, 3) := by decide +kernel
theorem d_MM_digest_33 : decode (kB K_MM_digest) 33 = .ok (.goto (-22), 3) := by decide +kernel
theorem d_MM_digest_36 : decode (kB K_MM_digest) 36 = .ok (.iconst 0, 1) := by decide +kernel
theorem d_MM_digest_37 : decode (kB K_MM_digest) 37 = .ok (.istore_n 3, 1) := by decide +kernel
theorem d_MM_digest_38 : decode (kB K_MM_digest) 38 = .ok (.iload_n 3, 1) := by decide +kernel
theorem d_MM_digest_39 : decode (kB K_MM_digest) 39 = .ok (.aload_n 0, 1) := by decide +kernel
theorem d_MM_digest_40 : decode (kB K_MM_digest) 40 = .ok (.getfield 35, 3) := by decide +kernel
theorem d_MM_digest_43 : decode (kB K_MM_digest) 43 = .ok (.getfield 60, 3) := by decide +kernel
theorem d_MM_digest_46 : decode (kB K_MM_digest) 46 = .ok (.if_icmp .ge 143, 3) := by decide +kernel
theorem d_MM_digest_49 : decode (kB K_MM_digest) 49 = .ok (.iconst 0, 1) := by decide +kernel
theorem d_MM_digest_50 : decode (kB K_MM_digest) 50 = .ok (.istore 4, 2) := by decide +kernel
theorem d_MM_digest_52 : decode (kB K_MM_digest) 52 = .ok (.iload 4, 2) := by decide +kernel
theorem d_MM_digest_54 : decode (kB K_MM_digest) 54 = .ok (.iconst 5, 1) := by decide +kernel
theorem d_MM_digest_55 : decode (kB K_MM_digest) 55 = .ok (.if_icmp .gt 24, 3) := by decide +kernel
theorem d_MM_digest_58 : decode (kB K_MM_digest) 58 = .ok (.lload_n 1, 1) := by decide +kernel
theorem d_MM_digest_59 : decode (kB K_MM_digest) 59 = .ok (.ldc2_w 418, 3) := by decide +kernel
theorem d_MM_digest_62 : decode (kB K_MM_digest) 62 = .ok (.lmul, 1) := by decide +kernel
theorem d_MM_digest_63 : decode (kB K_MM_digest) 63 = .ok (.aload_n 0, 1) := by decide +kernel
theorem d_MM_digest_64 : decode (kB K_MM_digest) 64 = .ok (.iload_n 3, 1) := by decide +kernel
theorem d_MM_digest_65 : decode (kB K_MM_digest) 65 = .ok (.iload 4, 2) := by decide +kernel
theorem d_MM_digest_67 : decode (kB K_MM_digest) 67 = .ok (.invokevirtual 320, 3) := by decide +kernel
theorem d_MM_digest_70 : decode (kB K_MM_digest) 70 = .ok (.i2l, 1) := by decide +kernel
theorem d_MM_digest_71 : decode (kB K_MM_digest) 71 = .ok (.ladd, 1) := by decide +kernel
theorem d_MM_digest_72 : decode (kB K_MM_digest) 72 = .ok (.lstore_n 1, 1) := by decide +kernel
theorem d_MM_digest_73 : decode (kB K_MM_digest) 73 = .ok (.iinc 4 1, 3) := by decide +kernel
theorem d_MM_digest_76 : decode (kB K_MM_digest) 76 = .ok (.goto (-24), 3) := by decide +kernel
theorem d_MM_digest_79 : decode (kB K_MM_digest) 79 = .ok (.iconst 0, 1) := by decide +kernel
theorem d_MM_digest_80 : decode (kB K_MM_digest) 80 = .ok (.istore 4, 2) := by decide +kernel
theorem d_MM_digest_82 : decode (kB K_MM_digest) 82 = .ok (.iload 4, 2) := by decide +kernel
theorem d_MM_digest_84 : decode (kB K_MM_digest) 84 = .ok (.aload_n 0, 1) := by decide +kernel
theorem d_MM_digest_85 : decode (kB K_MM_digest) 85 = .ok (.getfield 35, 3) := by decide +kernel
theorem d_MM_digest_88 : decode (kB K_MM_digest) 88 = .ok (.getfield 60, 3) := by decide +kernel
theorem d_MM_digest_91 : decode (kB K_MM_digest) 91 = .ok (.if_icmp .ge 27, 3) := by decide +kernel
theorem d_MM_digest_94 : decode (kB K_MM_digest) 94 = .ok (.lload_n 1, 1) := by decide +kernel
theorem d_MM_digest_95 : decode (kB K_MM_digest) 95 = .ok (.ldc2_w 418, 3) := by decide +kernel
theorem d_MM_digest_98 : decode (kB K_MM_digest) 98 = .ok (.lmul, 1) := by decide +kernel
theorem d_MM_digest_99 : decode (kB K_MM_digest) 99 = .ok (.aload_n 0, 1) := by decide +kernel
theorem d_MM_digest_100 : decode (kB K_MM_digest) 100 = .ok (.getfield 47, 3) := by decide +kernel
theorem d_MM_digest_103 : decode (kB K_MM_digest) 103 = .ok (.iload_n 3, 1) := by decide +kernel
theorem d_MM_digest_104 : decode (kB K_MM_digest) 104 = .ok (.iload 4, 2) := by decide +kernel
theorem d_MM_digest_106 : decode (kB K_MM_digest) 106 = .ok (.invokevirtual 314, 3) := by decide +kernel
theorem d_MM_digest_109 : decode (kB K_MM_digest) 109 = .ok (.i2l, 1) := by decide +kernel
theorem d_MM_digest_110 : decode (kB K_MM_digest) 110 = .ok (.ladd, 1) := by decide +kernel
theorem d_MM_digest_111 : decode (kB K_MM_digest) 111 = .ok (.lstore_n 1, 1) := by decide +kernel
theorem d_MM_digest_112 : decode (kB K_MM_digest) 112 = .ok (.iinc 4 1, 3) := by decide +kernel
theorem d_MM_digest_115 : decode (kB K_MM_digest) 115 = .ok (.goto (-33), 3) := by decide +kernel
theorem d_MM_digest_118 : decode (kB K_MM_digest) 118 = .ok (.iconst 0, 1) := by decide +kernel
theorem d_MM_digest_119 : decode (kB K_MM_digest) 119 = .ok (.istore 4, 2) := by decide +kernel
theorem d_MM_digest_121 : decode (kB K_MM_digest) 121 = .ok (.iload 4, 2) := by decide +kernel
theorem d_MM_digest_123 : decode (kB K_MM_digest) 123 = .ok (.aload_n 0, 1) := by decide +kernel
theorem d_MM_digest_124 : decode (kB K_MM_digest) 124 = .ok (.getfield 35, 3) := by decide +kernel
theorem d_MM_digest_127 : decode (kB K_MM_digest) 127 = .ok (.getfield 71, 3) := by decide +kernel
theorem d_MM_digest_130 : decode (kB K_MM_digest) 130 = .ok (.if_icmp .ge 53, 3) := by decide +kernel
theorem d_MM_digest_133 : decode (kB K_MM_digest) 133 = .ok (.iconst 0, 1) := by decide +kernel
theorem d_MM_digest_134 : decode (kB K_MM_digest) 134 = .ok (.istore 5, 2) := by decide +kernel
theorem d_MM_digest_136 : decode (kB K_MM_digest) 136 = .ok (.iload 5, 2) := by decide +kernel
theorem d_MM_digest_138 : decode (kB K_MM_digest) 138 = .ok (.aload_n 0, 1) := by decide +kernel
theorem d_MM_digest_139 : decode (kB K_MM_digest) 139 = .ok (.getfield 47, 3) := by decide +kernel
theorem d_MM_digest_142 : decode (kB K_MM_digest) 142 = .ok (.iload_n 3, 1) := by decide +kernel
theorem d_MM_digest_143 : decode (kB K_MM_digest) 143 = .ok (.iload 4, 2) := by decide +kernel
theorem d_MM_digest_145 : decode (kB K_MM_digest) 145 = .ok (.invokevirtual 366, 3) := by decide +kernel
theorem d_MM_digest_148 : decode (kB K_MM_digest) 148 = .ok (.if_icmp .ge 29, 3) := by decide +kernel
theorem d_MM_digest_151 : decode (kB K_MM_digest) 151 = .ok (.lload_n 1, 1) := by decide +kernel
theorem d_MM_digest_152 : decode (kB K_MM_digest) 152 = .ok (.ldc2_w 418, 3) := by decide +kernel
theorem d_MM_digest_155 : decode (kB K_MM_digest) 155 = .ok (.lmul, 1) := by decide +kernel
theorem d_MM_digest_156 : decode (kB K_MM_digest) 156 = .ok (.aload_n 0, 1) := by decide +kernel
theorem d_MM_digest_157 : decode (kB K_MM_digest) 157 = .ok (.getfield 47, 3) := by decide +kernel
theorem d_MM_digest_160 : decode (kB K_MM_digest) 160 = .ok (.iload_n 3, 1) := by decide +kernel
theorem d_MM_digest_161 : decode (kB K_MM_digest) 161 = .ok (.iload 4, 2) := by decide +kernel
theorem d_MM_digest_163 : decode (kB K_MM_digest) 163 = .ok (.iload 5, 2) := by decide +kernel
theorem d_MM_digest_165 : decode (kB K_MM_digest) 165 = .ok (.invokevirtual 369, 3) := by decide +kernel
theorem d_MM_digest_168 : decode (kB K_MM_digest) 168 = .ok (.i2l, 1) := by decide +kernel
theorem d_MM_digest_169 : decode (kB K_MM_digest) 169 = .ok (.ladd, 1) := by decide +kernel
theorem d_MM_digest_170 : decode (kB K_MM_digest) 170 = .ok (.lstore_n 1, 1) := by decide +kernel
theorem d_MM_digest_171 : decode (kB K_MM_digest) 171 = .ok (.iinc 5 1, 3) := by decide +kernel
theorem d_MM_digest_174 : decode (kB K_MM_digest) 174 = .ok (.goto (-38), 3) := by decide +kernel
theorem d_MM_digest_177 : decode (kB K_MM_digest) 177 = .ok (.iinc 4 1, 3) := by decide +kernel
theorem d_MM_digest_180 : decode (kB K_MM_digest) 180 = .ok (.goto (-59), 3) := by decide +kernel
theorem d_MM_digest_183 : decode (kB K_MM_digest) 183 = .ok (.iinc 3 1, 3) := by decide +kernel
theorem d_MM_digest_186 : decode (kB K_MM_digest) 186 = .ok (.goto (-148), 3) := by decide +kernel
theorem d_MM_digest_189 : decode (kB K_MM_digest) 189 = .ok (.iconst 0, 1) := by decide +kernel
theorem d_MM_digest_190 : decode (kB K_MM_digest) 190 = .ok (.istore_n 3, 1) := by decide +kernel
theorem d_MM_digest_191 : decode (kB K_MM_digest) 191 = .ok (.iload_n 3, 1) := by decide +kernel
theorem d_MM_digest_192 : decode (kB K_MM_digest) 192 = .ok (.aload_n 0, 1) := by decide +kernel
theorem d_MM_digest_193 : decode (kB K_MM_digest) 193 = .ok (.getfield 47, 3) := by decide +kernel
theorem d_MM_digest_196 : decode (kB K_MM_digest) 196 = .ok (.getfield 77, 3) := by decide +kernel
theorem d_MM_digest_199 : decode (kB K_MM_digest) 199 = .ok (.if_icmp .ge 79, 3) := by decide +kernel
theorem d_MM_digest_202 : decode (kB K_MM_digest) 202 = .ok (.iconst 0, 1) := by decide +kernel
theorem d_MM_digest_203 : decode (kB K_MM_digest) 203 = .ok (.istore 4, 2) := by decide +kernel
theorem d_MM_digest_205 : decode (kB K_MM_digest) 205 = .ok (.iload 4, 2) := by decide +kernel
theorem d_MM_digest_207 : decode (kB K_MM_digest) 207 = .ok (.bipush 7, 2) := by decide +kernel
theorem d_MM_digest_209 : decode (kB K_MM_digest) 209 = .ok (.if_icmp .gt 24, 3) := by decide +kernel
theorem d_MM_digest_212 : decode (kB K_MM_digest) 212 = .ok (.lload_n 1, 1) := by decide +kernel
theorem d_MM_digest_213 : decode (kB K_MM_digest) 213 = .ok (.ldc2_w 418, 3) := by decide +kernel
theorem d_MM_digest_216 : decode (kB K_MM_digest) 216 = .ok (.lmul, 1) := by decide +kernel
theorem d_MM_digest_217 : decode (kB K_MM_digest) 217 = .ok (.aload_n 0, 1) := by decide +kernel
theorem d_MM_digest_218 : decode (kB K_MM_digest) 218 = .ok (.iload_n 3, 1) := by decide +kernel
theorem d_MM_digest_219 : decode (kB K_MM_digest) 219 = .ok (.iload 4, 2) := by decide +kernel
theorem d_MM_digest_221 : decode (kB K_MM_digest) 221 = .ok (.invokevirtual 357, 3) := by decide +kernel
theorem d_MM_digest_224 : decode (kB K_MM_digest) 224 = .ok (.i2l, 1) := by decide +kernel
theorem d_MM_digest_225 : decode (kB K_MM_digest) 225 = .ok (.ladd, 1) := by decide +kernel
theorem d_MM_digest_226 : decode (kB K_MM_digest) 226 = .ok (.lstore_n 1, 1) := by decide +kernel
theorem d_MM_digest_227 : decode (kB K_MM_digest) 227 = .ok (.iinc 4 1, 3) := by decide +kernel
theorem d_MM_digest_230 : decode (kB K_MM_digest) 230 = .ok (.goto (-25), 3) := by decide +kernel
theorem d_MM_digest_233 : decode (kB K_MM_digest) 233 = .ok (.iconst 0, 1) := by decide +kernel
theorem d_MM_digest_234 : decode (kB K_MM_digest) 234 = .ok (.istore 4, 2) := by decide +kernel
theorem d_MM_digest_236 : decode (kB K_MM_digest) 236 = .ok (.iload 4, 2) := by decide +kernel
theorem d_MM_digest_238 : decode (kB K_MM_digest) 238 = .ok (.aload_n 0, 1) := by decide +kernel
theorem d_MM_digest_239 : decode (kB K_MM_digest) 239 = .ok (.getfield 35, 3) := by decide +kernel
theorem d_MM_digest_242 : decode (kB K_MM_digest) 242 = .ok (.getfield 60, 3) := by decide +kernel
theorem d_MM_digest_245 : decode (kB K_MM_digest) 245 = .ok (.if_icmp .ge 27, 3) := by decide +kernel
theorem d_MM_digest_248 : decode (kB K_MM_digest) 248 = .ok (.lload_n 1, 1) := by decide +kernel
theorem d_MM_digest_249 : decode (kB K_MM_digest) 249 = .ok (.ldc2_w 418, 3) := by decide +kernel
theorem d_MM_digest_252 : decode (kB K_MM_digest) 252 = .ok (.lmul, 1) := by decide +kernel
theorem d_MM_digest_253 : decode (kB K_MM_digest) 253 = .ok (.aload_n 0, 1) := by decide +kernel
theorem d_MM_digest_254 : decode (kB K_MM_digest) 254 = .ok (.getfield 47, 3) := by decide +kernel
theorem d_MM_digest_257 : decode (kB K_MM_digest) 257 = .ok (.iload_n 3, 1) := by decide +kernel
theorem d_MM_digest_258 : decode (kB K_MM_digest) 258 = .ok (.iload 4, 2) := by decide +kernel
theorem d_MM_digest_260 : decode (kB K_MM_digest) 260 = .ok (.invokevirtual 360, 3) := by decide +kernel
theorem d_MM_digest_263 : decode (kB K_MM_digest) 263 = .ok (.i2l, 1) := by decide +kernel
theorem d_MM_digest_264 : decode (kB K_MM_digest) 264 = .ok (.ladd, 1) := by decide +kernel
theorem d_MM_digest_265 : decode (kB K_MM_digest) 265 = .ok (.lstore_n 1, 1) := by decide +kernel
theorem d_MM_digest_266 : decode (kB K_MM_digest) 266 = .ok (.iinc 4 1, 3) := by decide +kernel
theorem d_MM_digest_269 : decode (kB K_MM_digest) 269 = .ok (.goto (-33), 3) := by decide +kernel
theorem d_MM_digest_272 : decode (kB K_MM_digest) 272 = .ok (.iinc 3 1, 3) := by decide +kernel
theorem d_MM_digest_275 : decode (kB K_MM_digest) 275 = .ok (.goto (-84), 3) := by decide +kernel
theorem d_MM_digest_278 : decode (kB K_MM_digest) 278 = .ok (.iconst 0, 1) := by decide +kernel
theorem d_MM_digest_279 : decode (kB K_MM_digest) 279 = .ok (.istore_n 3, 1) := by decide +kernel
theorem d_MM_digest_280 : decode (kB K_MM_digest) 280 = .ok (.iload_n 3, 1) := by decide +kernel
theorem d_MM_digest_281 : decode (kB K_MM_digest) 281 = .ok (.aload_n 0, 1) := by decide +kernel
theorem d_MM_digest_282 : decode (kB K_MM_digest) 282 = .ok (.getfield 35, 3) := by decide +kernel
theorem d_MM_digest_285 : decode (kB K_MM_digest) 285 = .ok (.getfield 74, 3) := by decide +kernel
theorem d_MM_digest_288 : decode (kB K_MM_digest) 288 = .ok (.if_icmp .ge 39, 3) := by decide +kernel
theorem d_MM_digest_291 : decode (kB K_MM_digest) 291 = .ok (.iconst 0, 1) := by decide +kernel
theorem d_MM_digest_292 : decode (kB K_MM_digest) 292 = .ok (.istore 4, 2) := by decide +kernel
theorem d_MM_digest_294 : decode (kB K_MM_digest) 294 = .ok (.iload 4, 2) := by decide +kernel
theorem d_MM_digest_296 : decode (kB K_MM_digest) 296 = .ok (.iconst 4, 1) := by decide +kernel
theorem d_MM_digest_297 : decode (kB K_MM_digest) 297 = .ok (.if_icmp .gt 24, 3) := by decide +kernel
theorem d_MM_digest_300 : decode (kB K_MM_digest) 300 = .ok (.lload_n 1, 1) := by decide +kernel
theorem d_MM_digest_301 : decode (kB K_MM_digest) 301 = .ok (.ldc2_w 418, 3) := by decide +kernel
theorem d_MM_digest_304 : decode (kB K_MM_digest) 304 = .ok (.lmul, 1) := by decide +kernel
theorem d_MM_digest_305 : decode (kB K_MM_digest) 305 = .ok (.aload_n 0, 1) := by decide +kernel
theorem d_MM_digest_306 : decode (kB K_MM_digest) 306 = .ok (.iload_n 3, 1) := by decide +kernel
theorem d_MM_digest_307 : decode (kB K_MM_digest) 307 = .ok (.iload 4, 2) := by decide +kernel
theorem d_MM_digest_309 : decode (kB K_MM_digest) 309 = .ok (.invokevirtual 385, 3) := by decide +kernel
theorem d_MM_digest_312 : decode (kB K_MM_digest) 312 = .ok (.i2l, 1) := by decide +kernel
theorem d_MM_digest_313 : decode (kB K_MM_digest) 313 = .ok (.ladd, 1) := by decide +kernel
theorem d_MM_digest_314 : decode (kB K_MM_digest) 314 = .ok (.lstore_n 1, 1) := by decide +kernel
theorem d_MM_digest_315 : decode (kB K_MM_digest) 315 = .ok (.iinc 4 1, 3) := by decide +kernel
theorem d_MM_digest_318 : decode (kB K_MM_digest) 318 = .ok (.goto (-24), 3) := by decide +kernel
theorem d_MM_digest_321 : decode (kB K_MM_digest) 321 = .ok (.iinc 3 1, 3) := by decide +kernel
theorem d_MM_digest_324 : decode (kB K_MM_digest) 324 = .ok (.goto (-44), 3) := by decide +kernel
theorem d_MM_digest_327 : decode (kB K_MM_digest) 327 = .ok (.lload_n 1, 1) := by decide +kernel
theorem d_MM_digest_328 : decode (kB K_MM_digest) 328 = .ok (.lreturn, 1) := by decide +kernel
def K_En_ordinal_8abf5 : KM := (⟨"java/lang/Enum", "ordinal", "()I"⟩, prog_19_method_2_code, 1, (some (.int)), "java/lang/Enum", [])
theorem d_En_ordinal_8abf5_0 : decode (kB K_En_ordinal_8abf5) 0 = .ok (.aload_n 0, 1) := by decide +kernel
theorem d_En_ordinal_8abf5_1 : decode (kB K_En_ordinal_8abf5) 1 = .ok (.getfield 7, 3) := by decide +kernel
theorem d_En_ordinal_8abf5_4 : decode (kB K_En_ordinal_8abf5) 4 = .ok (.ireturn, 1) := by decide +kernel
def K_JI_bitCount_0f7a4 : KM := (⟨"java/lang/Integer", "bitCount", "(I)I"⟩, prog_24_method_49_code, 1, (some (.int)), "java/lang/Integer", [])
theorem d_JI_bitCount_0f7a4_0 : decode (kB K_JI_bitCount_0f7a4) 0 = .ok (.iload_n 0, 1) := by decide +kernel
theorem d_JI_bitCount_0f7a4_1 : decode (kB K_JI_bitCount_0f7a4) 1 = .ok (.iload_n 0, 1) := by decide +kernel
theorem d_JI_bitCount_0f7a4_2 : decode (kB K_JI_bitCount_0f7a4) 2 = .ok (.iconst 1, 1) := by decide +kernel
theorem d_JI_bitCount_0f7a4_3 : decode (kB K_JI_bitCount_0f7a4) 3 = .ok (.iushr, 1) := by decide +kernel
theorem d_JI_bitCount_0f7a4_4 : decode (kB K_JI_bitCount_0f7a4) 4 = .ok (.ldc_w 265, 3) := by decide +kernel
theorem d_JI_bitCount_0f7a4_7 : decode (kB K_JI_bitCount_0f7a4) 7 = .ok (.iand, 1) := by decide +kernel
theorem d_JI_bitCount_0f7a4_8 : decode (kB K_JI_bitCount_0f7a4) 8 = .ok (.isub, 1) := by decide +kernel
theorem d_JI_bitCount_0f7a4_9 : decode (kB K_JI_bitCount_0f7a4) 9 = .ok (.istore_n 0, 1) := by decide +kernel
theorem d_JI_bitCount_0f7a4_10 : decode (kB K_JI_bitCount_0f7a4) 10 = .ok (.iload_n 0, 1) := by decide +kernel
theorem d_JI_bitCount_0f7a4_11 : decode (kB K_JI_bitCount_0f7a4) 11 = .ok (.ldc_w 266, 3) := by decide +kernel
theorem d_JI_bitCount_0f7a4_14 : decode (kB K_JI_bitCount_0f7a4) 14 = .ok (.iand, 1) := by decide +kernel
theorem d_JI_bitCount_0f7a4_15 : decode (kB K_JI_bitCount_0f7a4) 15 = .ok (.iload_n 0, 1) := by decide +kernel
theorem d_JI_bitCount_0f7a4_16 : decode (kB K_JI_bitCount_0f7a4) 16 = .ok (.iconst 2, 1) := by decide +kernel
theorem d_JI_bitCount_0f7a4_17 : decode (kB K_JI_bitCount_0f7a4) 17 = .ok (.iushr, 1) := by decide +kernel
theorem d_JI_bitCount_0f7a4_18 : decode (kB K_JI_bitCount_0f7a4) 18 = .ok (.ldc_w 266, 3) := by decide +kernel
theorem d_JI_bitCount_0f7a4_21 : decode (kB K_JI_bitCount_0f7a4) 21 = .ok (.iand, 1) := by decide +kernel
theorem d_JI_bitCount_0f7a4_22 : decode (kB K_JI_bitCount_0f7a4) 22 = .ok (.iadd, 1) := by decide +kernel
theorem d_JI_bitCount_0f7a4_23 : decode (kB K_JI_bitCount_0f7a4) 23 = .ok (.istore_n 0, 1) := by decide +kernel
theorem d_JI_bitCount_0f7a4_24 : decode (kB K_JI_bitCount_0f7a4) 24 = .ok (.iload_n 0, 1) := by decide +kernel
theorem d_JI_bitCount_0f7a4_25 : decode (kB K_JI_bitCount_0f7a4) 25 = .ok (.iload_n 0, 1) := by decide +kernel
theorem d_JI_bitCount_0f7a4_26 : decode (kB K_JI_bitCount_0f7a4) 26 = .ok (.iconst 4, 1) := by decide +kernel
theorem d_JI_bitCount_0f7a4_27 : decode (kB K_JI_bitCount_0f7a4) 27 = .ok (.iushr, 1) := by decide +kernel
theorem d_JI_bitCount_0f7a4_28 : decode (kB K_JI_bitCount_0f7a4) 28 = .ok (.iadd, 1) := by decide +kernel
theorem d_JI_bitCount_0f7a4_29 : decode (kB K_JI_bitCount_0f7a4) 29 = .ok (.ldc_w 267, 3) := by decide +kernel
theorem d_JI_bitCount_0f7a4_32 : decode (kB K_JI_bitCount_0f7a4) 32 = .ok (.iand, 1) := by decide +kernel
theorem d_JI_bitCount_0f7a4_33 : decode (kB K_JI_bitCount_0f7a4) 33 = .ok (.istore_n 0, 1) := by decide +kernel
theorem d_JI_bitCount_0f7a4_34 : decode (kB K_JI_bitCount_0f7a4) 34 = .ok (.iload_n 0, 1) := by decide +kernel
theorem d_JI_bitCount_0f7a4_35 : decode (kB K_JI_bitCount_0f7a4) 35 = .ok (.iload_n 0, 1) := by decide +kernel
theorem d_JI_bitCount_0f7a4_36 : decode (kB K_JI_bitCount_0f7a4) 36 = .ok (.bipush 8, 2) := by decide +kernel
theorem d_JI_bitCount_0f7a4_38 : decode (kB K_JI_bitCount_0f7a4) 38 = .ok (.iushr, 1) := by decide +kernel
theorem d_JI_bitCount_0f7a4_39 : decode (kB K_JI_bitCount_0f7a4) 39 = .ok (.iadd, 1) := by decide +kernel
theorem d_JI_bitCount_0f7a4_40 : decode (kB K_JI_bitCount_0f7a4) 40 = .ok (.istore_n 0, 1) := by decide +kernel
theorem d_JI_bitCount_0f7a4_41 : decode (kB K_JI_bitCount_0f7a4) 41 = .ok (.iload_n 0, 1) := by decide +kernel
theorem d_JI_bitCount_0f7a4_42 : decode (kB K_JI_bitCount_0f7a4) 42 = .ok (.iload_n 0, 1) := by decide +kernel
theorem d_JI_bitCount_0f7a4_43 : decode (kB K_JI_bitCount_0f7a4) 43 = .ok (.bipush 16, 2) := by decide +kernel
theorem d_JI_bitCount_0f7a4_45 : decode (kB K_JI_bitCount_0f7a4) 45 = .ok (.iushr, 1) := by decide +kernel
theorem d_JI_bitCount_0f7a4_46 : decode (kB K_JI_bitCount_0f7a4) 46 = .ok (.iadd, 1) := by decide +kernel
theorem d_JI_bitCount_0f7a4_47 : decode (kB K_JI_bitCount_0f7a4) 47 = .ok (.istore_n 0, 1) := by decide +kernel
theorem d_JI_bitCount_0f7a4_48 : decode (kB K_JI_bitCount_0f7a4) 48 = .ok (.iload_n 0, 1) := by decide +kernel
theorem d_JI_bitCount_0f7a4_49 : decode (kB K_JI_bitCount_0f7a4) 49 = .ok (.bipush 63, 2) := by decide +kernel
theorem d_JI_bitCount_0f7a4_51 : decode (kB K_JI_bitCount_0f7a4) 51 = .ok (.iand, 1) := by decide +kernel
theorem d_JI_bitCount_0f7a4_52 : decode (kB K_JI_bitCount_0f7a4) 52 = .ok (.ireturn, 1) := by decide +kernel
def K_JM_max_7cf53 : KM := (⟨"java/lang/Math", "max", "(II)I"⟩, prog_25_method_65_code, 2, (some (.int)), "java/lang/Math", [])
theorem d_JM_max_7cf53_0 : decode (kB K_JM_max_7cf53) 0 = .ok (.iload_n 0, 1) := by decide +kernel
theorem d_JM_max_7cf53_1 : decode (kB K_JM_max_7cf53) 1 = .ok (.iload_n 1, 1) := by decide +kernel
theorem d_JM_max_7cf53_2 : decode (kB K_JM_max_7cf53) 2 = .ok (.if_icmp .lt 7, 3) := by decide +kernel
theorem d_JM_max_7cf53_5 : decode (kB K_JM_max_7cf53) 5 = .ok (.iload_n 0, 1) := by decide +kernel
theorem d_JM_max_7cf53_6 : decode (kB K_JM_max_7cf53) 6 = .ok (.goto 4, 3) := by decide +kernel
theorem d_JM_max_7cf53_9 : decode (kB K_JM_max_7cf53) 9 = .ok (.iload_n 1, 1) := by decide +kernel
theorem d_JM_max_7cf53_10 : decode (kB K_JM_max_7cf53) 10 = .ok (.ireturn, 1) := by decide +kernel
def K_JM_min_7cf53 : KM := (⟨"java/lang/Math", "min", "(II)I"⟩, prog_25_method_69_code, 2, (some (.int)), "java/lang/Math", [])
theorem d_JM_min_7cf53_0 : decode (kB K_JM_min_7cf53) 0 = .ok (.iload_n 0, 1) := by decide +kernel
theorem d_JM_min_7cf53_1 : decode (kB K_JM_min_7cf53) 1 = .ok (.iload_n 1, 1) := by decide +kernel
theorem d_JM_min_7cf53_2 : decode (kB K_JM_min_7cf53) 2 = .ok (.if_icmp .gt 7, 3) := by decide +kernel
theorem d_JM_min_7cf53_5 : decode (kB K_JM_min_7cf53) 5 = .ok (.iload_n 0, 1) := by decide +kernel
theorem d_JM_min_7cf53_6 : decode (kB K_JM_min_7cf53) 6 = .ok (.goto 4, 3) := by decide +kernel
theorem d_JM_min_7cf53_9 : decode (kB K_JM_min_7cf53) 9 = .ok (.iload_n 1, 1) := by decide +kernel
theorem d_JM_min_7cf53_10 : decode (kB K_JM_min_7cf53) 10 = .ok (.ireturn, 1) := by decide +kernel
def K_Str_length_8abf5 : KM := (⟨"java/lang/String", "length", "()I"⟩, prog_27_method_54_code, 1, (some (.int)), "java/lang/String", [])
theorem d_Str_length_8abf5_0 : decode (kB K_Str_length_8abf5) 0 = .ok (.aload_n 0, 1) := by decide +kernel
theorem d_Str_length_8abf5_1 : decode (kB K_Str_length_8abf5) 1 = .ok (.getfield 9, 3) := by decide +kernel
theorem d_Str_length_8abf5_4 : decode (kB K_Str_length_8abf5) 4 = .ok (.arraylength, 1) := by decide +kernel
theorem d_Str_length_8abf5_5 : decode (kB K_Str_length_8abf5) 5 = .ok (.aload_n 0, 1) := by decide +kernel
theorem d_Str_length_8abf5_6 : decode (kB K_Str_length_8abf5) 6 = .ok (.invokevirtual 335, 3) := by decide +kernel
theorem d_Str_length_8abf5_9 : decode (kB K_Str_length_8abf5) 9 = .ok (.ishr, 1) := by decide +kernel
theorem d_Str_length_8abf5_10 : decode (kB K_Str_length_8abf5) 10 = .ok (.ireturn, 1) := by decide +kernel
def K_Str_charAt_5068e : KM := (⟨"java/lang/String", "charAt", "(I)C"⟩, prog_27_method_56_code, 2, (some (.char)), "java/lang/String", [])
theorem d_Str_charAt_5068e_0 : decode (kB K_Str_charAt_5068e) 0 = .ok (.aload_n 0, 1) := by decide +kernel
theorem d_Str_charAt_5068e_1 : decode (kB K_Str_charAt_5068e) 1 = .ok (.invokevirtual 492, 3) := by decide +kernel
theorem d_Str_charAt_5068e_4 : decode (kB K_Str_charAt_5068e) 4 = .ok (.ifCond .eq 12, 3) := by decide +kernel
theorem d_Str_charAt_5068e_7 : decode (kB K_Str_charAt_5068e) 7 = .ok (.aload_n 0, 1) := by decide +kernel
theorem d_Str_charAt_5068e_8 : decode (kB K_Str_charAt_5068e) 8 = .ok (.getfield 9, 3) := by decide +kernel
theorem d_Str_charAt_5068e_11 : decode (kB K_Str_charAt_5068e) 11 = .ok (.iload_n 1, 1) := by decide +kernel
theorem d_Str_charAt_5068e_12 : decode (kB K_Str_charAt_5068e) 12 = .ok (.invokestatic 495, 3) := by decide +kernel
theorem d_Str_charAt_5068e_15 : decode (kB K_Str_charAt_5068e) 15 = .ok (.ireturn, 1) := by decide +kernel
theorem d_Str_charAt_5068e_16 : decode (kB K_Str_charAt_5068e) 16 = .ok (.aload_n 0, 1) := by decide +kernel
theorem d_Str_charAt_5068e_17 : decode (kB K_Str_charAt_5068e) 17 = .ok (.getfield 9, 3) := by decide +kernel
theorem d_Str_charAt_5068e_20 : decode (kB K_Str_charAt_5068e) 20 = .ok (.iload_n 1, 1) := by decide +kernel
theorem d_Str_charAt_5068e_21 : decode (kB K_Str_charAt_5068e) 21 = .ok (.invokestatic 498, 3) := by decide +kernel
theorem d_Str_charAt_5068e_24 : decode (kB K_Str_charAt_5068e) 24 = .ok (.ireturn, 1) := by decide +kernel
def K_Str_indexOf_0f7a4 : KM := (⟨"java/lang/String", "indexOf", "(I)I"⟩, prog_27_method_79_code, 2, (some (.int)), "java/lang/String", [])
theorem d_Str_indexOf_0f7a4_0 : decode (kB K_Str_indexOf_0f7a4) 0 = .ok (.aload_n 0, 1) := by decide +kernel
theorem d_Str_indexOf_0f7a4_1 : decode (kB K_Str_indexOf_0f7a4) 1 = .ok (.iload_n 1, 1) := by decide +kernel
theorem d_Str_indexOf_0f7a4_2 : decode (kB K_Str_indexOf_0f7a4) 2 = .ok (.iconst 0, 1) := by decide +kernel
theorem d_Str_indexOf_0f7a4_3 : decode (kB K_Str_indexOf_0f7a4) 3 = .ok (.invokevirtual 633, 3) := by decide +kernel
theorem d_Str_indexOf_0f7a4_6 : decode (kB K_Str_indexOf_0f7a4) 6 = .ok (.ireturn, 1) := by decide +kernel
def K_Str_indexOf_7cf53 : KM := (⟨"java/lang/String", "indexOf", "(II)I"⟩, prog_27_method_80_code, 3, (some (.int)), "java/lang/String", [])
theorem d_Str_indexOf_7cf53_0 : decode (kB K_Str_indexOf_7cf53) 0 = .ok (.aload_n 0, 1) := by decide +kernel
theorem d_Str_indexOf_7cf53_1 : decode (kB K_Str_indexOf_7cf53) 1 = .ok (.invokevirtual 492, 3) := by decide +kernel
theorem d_Str_indexOf_7cf53_4 : decode (kB K_Str_indexOf_7cf53) 4 = .ok (.ifCond .eq 19, 3) := by decide +kernel
theorem d_Str_indexOf_7cf53_7 : decode (kB K_Str_indexOf_7cf53) 7 = .ok (.aload_n 0, 1) := by decide +kernel
theorem d_Str_indexOf_7cf53_8 : decode (kB K_Str_indexOf_7cf53) 8 = .ok (.getfield 9, 3) := by decide +kernel
theorem d_Str_indexOf_7cf53_11 : decode (kB K_Str_indexOf_7cf53) 11 = .ok (.iload_n 1, 1) := by decide +kernel
theorem d_Str_indexOf_7cf53_12 : decode (kB K_Str_indexOf_7cf53) 12 = .ok (.iload_n 2, 1) := by decide +kernel
theorem d_Str_indexOf_7cf53_13 : decode (kB K_Str_indexOf_7cf53) 13 = .ok (.aload_n 0, 1) := by decide +kernel
theorem d_Str_indexOf_7cf53_14 : decode (kB K_Str_indexOf_7cf53) 14 = .ok (.invokevirtual 505, 3) := by decide +kernel
theorem d_Str_indexOf_7cf53_17 : decode (kB K_Str_indexOf_7cf53) 17 = .ok (.invokestatic 637, 3) := by decide +kernel
theorem d_Str_indexOf_7cf53_20 : decode (kB K_Str_indexOf_7cf53) 20 = .ok (.goto 16, 3) := by decide +kernel
theorem d_Str_indexOf_7cf53_23 : decode (kB K_Str_indexOf_7cf53) 23 = .ok (.aload_n 0, 1) := by decide +kernel
theorem d_Str_indexOf_7cf53_24 : decode (kB K_Str_indexOf_7cf53) 24 = .ok (.getfield 9, 3) := by decide +kernel
theorem d_Str_indexOf_7cf53_27 : decode (kB K_Str_indexOf_7cf53) 27 = .ok (.iload_n 1, 1) := by decide +kernel
theorem d_Str_indexOf_7cf53_28 : decode (kB K_Str_indexOf_7cf53) 28 = .ok (.iload_n 2, 1) := by decide +kernel
theorem d_Str_indexOf_7cf53_29 : decode (kB K_Str_indexOf_7cf53) 29 = .ok (.aload_n 0, 1) := by decide +kernel
theorem d_Str_indexOf_7cf53_30 : decode (kB K_Str_indexOf_7cf53) 30 = .ok (.invokevirtual 505, 3) := by decide +kernel
theorem d_Str_indexOf_7cf53_33 : decode (kB K_Str_indexOf_7cf53) 33 = .ok (.invokestatic 640, 3) := by decide +kernel
theorem d_Str_indexOf_7cf53_36 : decode (kB K_Str_indexOf_7cf53) 36 = .ok (.ireturn, 1) := by decide +kernel
def K_Str_coder_7d493 : KM := (⟨"java/lang/String", "coder", "()B"⟩, prog_27_method_152_code, 1, (some (.byte)), "java/lang/String", [])
theorem d_Str_coder_7d493_0 : decode (kB K_Str_coder_7d493) 0 = .ok (.getstatic 38, 3) := by decide +kernel
theorem d_Str_coder_7d493_3 : decode (kB K_Str_coder_7d493) 3 = .ok (.ifCond .eq 10, 3) := by decide +kernel
theorem d_Str_coder_7d493_6 : decode (kB K_Str_coder_7d493) 6 = .ok (.aload_n 0, 1) := by decide +kernel
theorem d_Str_coder_7d493_7 : decode (kB K_Str_coder_7d493) 7 = .ok (.getfield 15, 3) := by decide +kernel
theorem d_Str_coder_7d493_10 : decode (kB K_Str_coder_7d493) 10 = .ok (.goto 4, 3) := by decide +kernel
theorem d_Str_coder_7d493_13 : decode (kB K_Str_coder_7d493) 13 = .ok (.iconst 1, 1) := by decide +kernel
theorem d_Str_coder_7d493_14 : decode (kB K_Str_coder_7d493) 14 = .ok (.ireturn, 1) := by decide +kernel
def K_Str_isLatin1_aae02 : KM := (⟨"java/lang/String", "isLatin1", "()Z"⟩, prog_27_method_154_code, 1, (some (.boolean)), "java/lang/String", [])
theorem d_Str_isLatin1_aae02_0 : decode (kB K_Str_isLatin1_aae02) 0 = .ok (.getstatic 38, 3) := by decide +kernel
theorem d_Str_isLatin1_aae02_3 : decode (kB K_Str_isLatin1_aae02) 3 = .ok (.ifCond .eq 14, 3) := by decide +kernel
theorem d_Str_isLatin1_aae02_6 : decode (kB K_Str_isLatin1_aae02) 6 = .ok (.aload_n 0, 1) := by decide +kernel
theorem d_Str_isLatin1_aae02_7 : decode (kB K_Str_isLatin1_aae02) 7 = .ok (.getfield 15, 3) := by decide +kernel
theorem d_Str_isLatin1_aae02_10 : decode (kB K_Str_isLatin1_aae02) 10 = .ok (.ifCond .ne 7, 3) := by decide +kernel
theorem d_Str_isLatin1_aae02_13 : decode (kB K_Str_isLatin1_aae02) 13 = .ok (.iconst 1, 1) := by decide +kernel
theorem d_Str_isLatin1_aae02_14 : decode (kB K_Str_isLatin1_aae02) 14 = .ok (.goto 4, 3) := by decide +kernel
theorem d_Str_isLatin1_aae02_17 : decode (kB K_Str_isLatin1_aae02) 17 = .ok (.iconst 0, 1) := by decide +kernel
theorem d_Str_isLatin1_aae02_18 : decode (kB K_Str_isLatin1_aae02) 18 = .ok (.ireturn, 1) := by decide +kernel
def K_Str_checkIndex_df160 : KM := (⟨"java/lang/String", "checkIndex", "(II)V"⟩, prog_27_method_155_code, 2, none, "java/lang/String", [])
theorem d_Str_checkIndex_df160_0 : decode (kB K_Str_checkIndex_df160) 0 = .ok (.iload_n 0, 1) := by decide +kernel
theorem d_Str_checkIndex_df160_1 : decode (kB K_Str_checkIndex_df160) 1 = .ok (.iload_n 1, 1) := by decide +kernel
theorem d_Str_checkIndex_df160_2 : decode (kB K_Str_checkIndex_df160) 2 = .ok (.getstatic 1053, 3) := by decide +kernel
theorem d_Str_checkIndex_df160_5 : decode (kB K_Str_checkIndex_df160) 5 = .ok (.invokestatic 1059, 3) := by decide +kernel
theorem d_Str_checkIndex_df160_8 : decode (kB K_Str_checkIndex_df160) 8 = .ok (.pop, 1) := by decide +kernel
theorem d_Str_checkIndex_df160_9 : decode (kB K_Str_checkIndex_df160) 9 = .ok (.return_, 1) := by decide +kernel
def K_SL_charAt_3b067 : KM := (⟨"java/lang/StringLatin1", "charAt", "([BI)C"⟩, prog_28_method_2_code, 2, (some (.char)), "java/lang/StringLatin1", [])
theorem d_SL_charAt_3b067_0 : decode (kB K_SL_charAt_3b067) 0 = .ok (.iload_n 1, 1) := by decide +kernel
theorem d_SL_charAt_3b067_1 : decode (kB K_SL_charAt_3b067) 1 = .ok (.aload_n 0, 1) := by decide +kernel
theorem d_SL_charAt_3b067_2 : decode (kB K_SL_charAt_3b067) 2 = .ok (.arraylength, 1) := by decide +kernel
theorem d_SL_charAt_3b067_3 : decode (kB K_SL_charAt_3b067) 3 = .ok (.invokestatic 9, 3) := by decide +kernel
theorem d_SL_charAt_3b067_6 : decode (kB K_SL_charAt_3b067) 6 = .ok (.aload_n 0, 1) := by decide +kernel
theorem d_SL_charAt_3b067_7 : decode (kB K_SL_charAt_3b067) 7 = .ok (.iload_n 1, 1) := by decide +kernel
theorem d_SL_charAt_3b067_8 : decode (kB K_SL_charAt_3b067) 8 = .ok (.baload, 1) := by decide +kernel
theorem d_SL_charAt_3b067_9 : decode (kB K_SL_charAt_3b067) 9 = .ok (.sipush 255, 3) := by decide +kernel
theorem d_SL_charAt_3b067_12 : decode (kB K_SL_charAt_3b067) 12 = .ok (.iand, 1) := by decide +kernel
theorem d_SL_charAt_3b067_13 : decode (kB K_SL_charAt_3b067) 13 = .ok (.i2c, 1) := by decide +kernel
theorem d_SL_charAt_3b067_14 : decode (kB K_SL_charAt_3b067) 14 = .ok (.ireturn, 1) := by decide +kernel
def K_SL_canEncode_9a6ad : KM := (⟨"java/lang/StringLatin1", "canEncode", "(I)Z"⟩, prog_28_method_4_code, 1, (some (.boolean)), "java/lang/StringLatin1", [])
theorem d_SL_canEncode_9a6ad_0 : decode (kB K_SL_canEncode_9a6ad) 0 = .ok (.iload_n 0, 1) := by decide +kernel
theorem d_SL_canEncode_9a6ad_1 : decode (kB K_SL_canEncode_9a6ad) 1 = .ok (.ifCond .lt 14, 3) := by decide +kernel
theorem d_SL_canEncode_9a6ad_4 : decode (kB K_SL_canEncode_9a6ad) 4 = .ok (.iload_n 0, 1) := by decide +kernel
theorem d_SL_canEncode_9a6ad_5 : decode (kB K_SL_canEncode_9a6ad) 5 = .ok (.sipush 255, 3) := by decide +kernel
theorem d_SL_canEncode_9a6ad_8 : decode (kB K_SL_canEncode_9a6ad) 8 = .ok (.if_icmp .gt 7, 3) := by decide +kernel
theorem d_SL_canEncode_9a6ad_11 : decode (kB K_SL_canEncode_9a6ad) 11 = .ok (.iconst 1, 1) := by decide +kernel
theorem d_SL_canEncode_9a6ad_12 : decode (kB K_SL_canEncode_9a6ad) 12 = .ok (.goto 4, 3) := by decide +kernel
theorem d_SL_canEncode_9a6ad_15 : decode (kB K_SL_canEncode_9a6ad) 15 = .ok (.iconst 0, 1) := by decide +kernel
theorem d_SL_canEncode_9a6ad_16 : decode (kB K_SL_canEncode_9a6ad) 16 = .ok (.ireturn, 1) := by decide +kernel
def K_SL_indexOf_4cfef : KM := (⟨"java/lang/StringLatin1", "indexOf", "([BIII)I"⟩, prog_28_method_22_code, 4, (some (.int)), "java/lang/StringLatin1", [])
theorem d_SL_indexOf_4cfef_0 : decode (kB K_SL_indexOf_4cfef) 0 = .ok (.iload_n 1, 1) := by decide +kernel
theorem d_SL_indexOf_4cfef_1 : decode (kB K_SL_indexOf_4cfef) 1 = .ok (.invokestatic 88, 3) := by decide +kernel
theorem d_SL_indexOf_4cfef_4 : decode (kB K_SL_indexOf_4cfef) 4 = .ok (.ifCond .ne 5, 3) := by decide +kernel
theorem d_SL_indexOf_4cfef_7 : decode (kB K_SL_indexOf_4cfef) 7 = .ok (.iconst (-1), 1) := by decide +kernel
theorem d_SL_indexOf_4cfef_8 : decode (kB K_SL_indexOf_4cfef) 8 = .ok (.ireturn, 1) := by decide +kernel
theorem d_SL_indexOf_4cfef_9 : decode (kB K_SL_indexOf_4cfef) 9 = .ok (.iload_n 2, 1) := by decide +kernel
theorem d_SL_indexOf_4cfef_10 : decode (kB K_SL_indexOf_4cfef) 10 = .ok (.iconst 0, 1) := by decide +kernel
theorem d_SL_indexOf_4cfef_11 : decode (kB K_SL_indexOf_4cfef) 11 = .ok (.invokestatic 92, 3) := by decide +kernel
theorem d_SL_indexOf_4cfef_14 : decode (kB K_SL_indexOf_4cfef) 14 = .ok (.istore_n 2, 1) := by decide +kernel
theorem d_SL_indexOf_4cfef_15 : decode (kB K_SL_indexOf_4cfef) 15 = .ok (.iload_n 3, 1) := by decide +kernel
theorem d_SL_indexOf_4cfef_16 : decode (kB K_SL_indexOf_4cfef) 16 = .ok (.aload_n 0, 1) := by decide +kernel
theorem d_SL_indexOf_4cfef_17 : decode (kB K_SL_indexOf_4cfef) 17 = .ok (.arraylength, 1) := by decide +kernel
theorem d_SL_indexOf_4cfef_18 : decode (kB K_SL_indexOf_4cfef) 18 = .ok (.invokestatic 38, 3) := by decide +kernel
theorem d_SL_indexOf_4cfef_21 : decode (kB K_SL_indexOf_4cfef) 21 = .ok (.istore_n 3, 1) := by decide +kernel
theorem d_SL_indexOf_4cfef_22 : decode (kB K_SL_indexOf_4cfef) 22 = .ok (.iload_n 2, 1) := by decide +kernel
theorem d_SL_indexOf_4cfef_23 : decode (kB K_SL_indexOf_4cfef) 23 = .ok (.iload_n 3, 1) := by decide +kernel
theorem d_SL_indexOf_4cfef_24 : decode (kB K_SL_indexOf_4cfef) 24 = .ok (.if_icmp .lt 5, 3) := by decide +kernel
theorem d_SL_indexOf_4cfef_27 : decode (kB K_SL_indexOf_4cfef) 27 = .ok (.iconst (-1), 1) := by decide +kernel
theorem d_SL_indexOf_4cfef_28 : decode (kB K_SL_indexOf_4cfef) 28 = .ok (.ireturn, 1) := by decide +kernel
theorem d_SL_indexOf_4cfef_29 : decode (kB K_SL_indexOf_4cfef) 29 = .ok (.aload_n 0, 1) := by decide +kernel
theorem d_SL_indexOf_4cfef_30 : decode (kB K_SL_indexOf_4cfef) 30 = .ok (.iload_n 1, 1) := by decide +kernel
theorem d_SL_indexOf_4cfef_31 : decode (kB K_SL_indexOf_4cfef) 31 = .ok (.iload_n 2, 1) := by decide +kernel
theorem d_SL_indexOf_4cfef_32 : decode (kB K_SL_indexOf_4cfef) 32 = .ok (.iload_n 3, 1) := by decide +kernel
theorem d_SL_indexOf_4cfef_33 : decode (kB K_SL_indexOf_4cfef) 33 = .ok (.invokestatic 95, 3) := by decide +kernel
theorem d_SL_indexOf_4cfef_36 : decode (kB K_SL_indexOf_4cfef) 36 = .ok (.ireturn, 1) := by decide +kernel
def K_SL_indexOfChar_4cfef : KM := (⟨"java/lang/StringLatin1", "indexOfChar", "([BIII)I"⟩, prog_28_method_23_code, 6, (some (.int)), "java/lang/StringLatin1", [])
theorem d_SL_indexOfChar_4cfef_0 : decode (kB K_SL_indexOfChar_4cfef) 0 = .ok (.iload_n 1, 1) := by decide +kernel
theorem d_SL_indexOfChar_4cfef_1 : decode (kB K_SL_indexOfChar_4cfef) 1 = .ok (.i2b, 1) := by decide +kernel
theorem d_SL_indexOfChar_4cfef_2 : decode (kB K_SL_indexOfChar_4cfef) 2 = .ok (.istore 4, 2) := by decide +kernel
theorem d_SL_indexOfChar_4cfef_4 : decode (kB K_SL_indexOfChar_4cfef) 4 = .ok (.iload_n 2, 1) := by decide +kernel
theorem d_SL_indexOfChar_4cfef_5 : decode (kB K_SL_indexOfChar_4cfef) 5 = .ok (.istore 5, 2) := by decide +kernel
theorem d_SL_indexOfChar_4cfef_7 : decode (kB K_SL_indexOfChar_4cfef) 7 = .ok (.iload 5, 2) := by decide +kernel
theorem d_SL_indexOfChar_4cfef_9 : decode (kB K_SL_indexOfChar_4cfef) 9 = .ok (.iload_n 3, 1) := by decide +kernel
theorem d_SL_indexOfChar_4cfef_10 : decode (kB K_SL_indexOfChar_4cfef) 10 = .ok (.if_icmp .ge 21, 3) := by decide +kernel
theorem d_SL_indexOfChar_4cfef_13 : decode (kB K_SL_indexOfChar_4cfef) 13 = .ok (.aload_n 0, 1) := by decide +kernel
theorem d_SL_indexOfChar_4cfef_14 : decode (kB K_SL_indexOfChar_4cfef) 14 = .ok (.iload 5, 2) := by decide +kernel
theorem d_SL_indexOfChar_4cfef_16 : decode (kB K_SL_indexOfChar_4cfef) 16 = .ok (.baload, 1) := by decide +kernel
theorem d_SL_indexOfChar_4cfef_17 : decode (kB K_SL_indexOfChar_4cfef) 17 = .ok (.iload 4, 2) := by decide +kernel
theorem d_SL_indexOfChar_4cfef_19 : decode (kB K_SL_indexOfChar_4cfef) 19 = .ok (.if_icmp .ne 6, 3) := by decide +kernel
theorem d_SL_indexOfChar_4cfef_22 : decode (kB K_SL_indexOfChar_4cfef) 22 = .ok (.iload 5, 2) := by decide +kernel
theorem d_SL_indexOfChar_4cfef_24 : decode (kB K_SL_indexOfChar_4cfef) 24 = .ok (.ireturn, 1) := by decide +kernel
theorem d_SL_indexOfChar_4cfef_25 : decode (kB K_SL_indexOfChar_4cfef) 25 = .ok (.iinc 5 1, 3) := by decide +kernel
theorem d_SL_indexOfChar_4cfef_28 : decode (kB K_SL_indexOfChar_4cfef) 28 = .ok (.goto (-21), 3) := by decide +kernel
theorem d_SL_indexOfChar_4cfef_31 : decode (kB K_SL_indexOfChar_4cfef) 31 = .ok (.iconst (-1), 1) := by decide +kernel
theorem d_SL_indexOfChar_4cfef_32 : decode (kB K_SL_indexOfChar_4cfef) 32 = .ok (.ireturn, 1) := by decide +kernel
def K_Pre_checkIndex_8e157 : KM := (⟨"jdk/internal/util/Preconditions", "checkIndex", "(IILjava/util/function/BiFunction;)I"⟩, prog_32_method_11_code, 3, (some (.int)), "jdk/internal/util/Preconditions", [])
theorem d_Pre_checkIndex_8e157_0 : decode (kB K_Pre_checkIndex_8e157) 0 = .ok (.iload_n 0, 1) := by decide +kernel
theorem d_Pre_checkIndex_8e157_1 : decode (kB K_Pre_checkIndex_8e157) 1 = .ok (.ifCond .lt 8, 3) := by decide +kernel
theorem d_Pre_checkIndex_8e157_4 : decode (kB K_Pre_checkIndex_8e157) 4 = .ok (.iload_n 0, 1) := by decide +kernel
theorem d_Pre_checkIndex_8e157_5 : decode (kB K_Pre_checkIndex_8e157) 5 = .ok (.iload_n 1, 1) := by decide +kernel
theorem d_Pre_checkIndex_8e157_6 : decode (kB K_Pre_checkIndex_8e157) 6 = .ok (.if_icmp .lt 10, 3) := by decide +kernel
theorem d_Pre_checkIndex_8e157_9 : decode (kB K_Pre_checkIndex_8e157) 9 = .ok (.aload_n 2, 1) := by decide +kernel
theorem d_Pre_checkIndex_8e157_10 : decode (kB K_Pre_checkIndex_8e157) 10 = .ok (.iload_n 0, 1) := by decide +kernel
theorem d_Pre_checkIndex_8e157_11 : decode (kB K_Pre_checkIndex_8e157) 11 = .ok (.iload_n 1, 1) := by decide +kernel
theorem d_Pre_checkIndex_8e157_12 : decode (kB K_Pre_checkIndex_8e157) 12 = .ok (.invokestatic 95, 3) := by decide +kernel
theorem d_Pre_checkIndex_8e157_15 : decode (kB K_Pre_checkIndex_8e157) 15 = .ok (.athrow, 1) := by decide +kernel
theorem d_Pre_checkIndex_8e157_16 : decode (kB K_Pre_checkIndex_8e157) 16 = .ok (.iload_n 0, 1) := by decide +kernel
theorem d_Pre_checkIndex_8e157_17 : decode (kB K_Pre_checkIndex_8e157) 17 = .ok (.ireturn, 1) := by decide +kernel
def K_LW_feed : KM := (⟨"ParishBoardsLaw", "feed", "(LParishBoards;IIIII[J)I"⟩, method_3_code, 8, (some (.int)), "ParishBoardsLaw", [])
theorem d_LW_feed_0 : decode (kB K_LW_feed) 0 = .ok (.aload 6, 2) := by decide +kernel
theorem d_LW_feed_2 : decode (kB K_LW_feed) 2 = .ok (.iconst 0, 1) := by decide +kernel
theorem d_LW_feed_3 : decode (kB K_LW_feed) 3 = .ok (.aload_n 0, 1) := by decide +kernel
theorem d_LW_feed_4 : decode (kB K_LW_feed) 4 = .ok (.iload_n 1, 1) := by decide +kernel
theorem d_LW_feed_5 : decode (kB K_LW_feed) 5 = .ok (.iload_n 2, 1) := by decide +kernel
theorem d_LW_feed_6 : decode (kB K_LW_feed) 6 = .ok (.iload_n 3, 1) := by decide +kernel
theorem d_LW_feed_7 : decode (kB K_LW_feed) 7 = .ok (.iload 4, 2) := by decide +kernel
theorem d_LW_feed_9 : decode (kB K_LW_feed) 9 = .ok (.iload 5, 2) := by decide +kernel
theorem d_LW_feed_11 : decode (kB K_LW_feed) 11 = .ok (.invokevirtual 7, 3) := by decide +kernel
theorem d_LW_feed_14 : decode (kB K_LW_feed) 14 = .ok (.i2l, 1) := by decide +kernel
theorem d_LW_feed_15 : decode (kB K_LW_feed) 15 = .ok (.lastore, 1) := by decide +kernel
theorem d_LW_feed_16 : decode (kB K_LW_feed) 16 = .ok (.goto 7, 3) := by decide +kernel
theorem d_LW_feed_19 : decode (kB K_LW_feed) 19 = .ok (.astore 7, 2) := by decide +kernel
theorem d_LW_feed_21 : decode (kB K_LW_feed) 21 = .ok (.iconst 1, 1) := by decide +kernel
theorem d_LW_feed_22 : decode (kB K_LW_feed) 22 = .ok (.ireturn, 1) := by decide +kernel
theorem d_LW_feed_23 : decode (kB K_LW_feed) 23 = .ok (.iconst 0, 1) := by decide +kernel
theorem d_LW_feed_24 : decode (kB K_LW_feed) 24 = .ok (.ireturn, 1) := by decide +kernel
def K_LW_trim : KM := (⟨"ParishBoardsLaw", "trim", "(LParishBoards;I[J)I"⟩, method_4_code, 4, (some (.int)), "ParishBoardsLaw", [])
theorem d_LW_trim_0 : decode (kB K_LW_trim) 0 = .ok (.aload_n 2, 1) := by decide +kernel
theorem d_LW_trim_1 : decode (kB K_LW_trim) 1 = .ok (.iconst 0, 1) := by decide +kernel
theorem d_LW_trim_2 : decode (kB K_LW_trim) 2 = .ok (.aload_n 0, 1) := by decide +kernel
theorem d_LW_trim_3 : decode (kB K_LW_trim) 3 = .ok (.iload_n 1, 1) := by decide +kernel
theorem d_LW_trim_4 : decode (kB K_LW_trim) 4 = .ok (.invokevirtual 15, 3) := by decide +kernel
theorem d_LW_trim_7 : decode (kB K_LW_trim) 7 = .ok (.i2l, 1) := by decide +kernel
theorem d_LW_trim_8 : decode (kB K_LW_trim) 8 = .ok (.lastore, 1) := by decide +kernel
theorem d_LW_trim_9 : decode (kB K_LW_trim) 9 = .ok (.goto 6, 3) := by decide +kernel
theorem d_LW_trim_12 : decode (kB K_LW_trim) 12 = .ok (.astore_n 3, 1) := by decide +kernel
theorem d_LW_trim_13 : decode (kB K_LW_trim) 13 = .ok (.iconst 1, 1) := by decide +kernel
theorem d_LW_trim_14 : decode (kB K_LW_trim) 14 = .ok (.ireturn, 1) := by decide +kernel
theorem d_LW_trim_15 : decode (kB K_LW_trim) 15 = .ok (.iconst 0, 1) := by decide +kernel
theorem d_LW_trim_16 : decode (kB K_LW_trim) 16 = .ok (.ireturn, 1) := by decide +kernel
def K_LW_count : KM := (⟨"ParishBoardsLaw", "count", "(LParishBoards;I[J)I"⟩, method_5_code, 4, (some (.int)), "ParishBoardsLaw", [])
theorem d_LW_count_0 : decode (kB K_LW_count) 0 = .ok (.aload_n 2, 1) := by decide +kernel
theorem d_LW_count_1 : decode (kB K_LW_count) 1 = .ok (.iconst 0, 1) := by decide +kernel
theorem d_LW_count_2 : decode (kB K_LW_count) 2 = .ok (.aload_n 0, 1) := by decide +kernel
theorem d_LW_count_3 : decode (kB K_LW_count) 3 = .ok (.iload_n 1, 1) := by decide +kernel
theorem d_LW_count_4 : decode (kB K_LW_count) 4 = .ok (.invokevirtual 21, 3) := by decide +kernel
theorem d_LW_count_7 : decode (kB K_LW_count) 7 = .ok (.i2l, 1) := by decide +kernel
theorem d_LW_count_8 : decode (kB K_LW_count) 8 = .ok (.lastore, 1) := by decide +kernel
theorem d_LW_count_9 : decode (kB K_LW_count) 9 = .ok (.goto 6, 3) := by decide +kernel
theorem d_LW_count_12 : decode (kB K_LW_count) 12 = .ok (.astore_n 3, 1) := by decide +kernel
theorem d_LW_count_13 : decode (kB K_LW_count) 13 = .ok (.iconst 1, 1) := by decide +kernel
theorem d_LW_count_14 : decode (kB K_LW_count) 14 = .ok (.ireturn, 1) := by decide +kernel
theorem d_LW_count_15 : decode (kB K_LW_count) 15 = .ok (.iconst 0, 1) := by decide +kernel
theorem d_LW_count_16 : decode (kB K_LW_count) 16 = .ok (.ireturn, 1) := by decide +kernel
def K_LW_parish : KM := (⟨"ParishBoardsLaw", "parish", "(LParishBoards;II[J)I"⟩, method_6_code, 5, (some (.int)), "ParishBoardsLaw", [])
theorem d_LW_parish_0 : decode (kB K_LW_parish) 0 = .ok (.aload_n 3, 1) := by decide +kernel
theorem d_LW_parish_1 : decode (kB K_LW_parish) 1 = .ok (.iconst 0, 1) := by decide +kernel
theorem d_LW_parish_2 : decode (kB K_LW_parish) 2 = .ok (.aload_n 0, 1) := by decide +kernel
theorem d_LW_parish_3 : decode (kB K_LW_parish) 3 = .ok (.iload_n 1, 1) := by decide +kernel
theorem d_LW_parish_4 : decode (kB K_LW_parish) 4 = .ok (.iload_n 2, 1) := by decide +kernel
theorem d_LW_parish_5 : decode (kB K_LW_parish) 5 = .ok (.invokevirtual 26, 3) := by decide +kernel
theorem d_LW_parish_8 : decode (kB K_LW_parish) 8 = .ok (.i2l, 1) := by decide +kernel
theorem d_LW_parish_9 : decode (kB K_LW_parish) 9 = .ok (.lastore, 1) := by decide +kernel
theorem d_LW_parish_10 : decode (kB K_LW_parish) 10 = .ok (.goto 7, 3) := by decide +kernel
theorem d_LW_parish_13 : decode (kB K_LW_parish) 13 = .ok (.astore 4, 2) := by decide +kernel
theorem d_LW_parish_15 : decode (kB K_LW_parish) 15 = .ok (.iconst 1, 1) := by decide +kernel
theorem d_LW_parish_16 : decode (kB K_LW_parish) 16 = .ok (.ireturn, 1) := by decide +kernel
theorem d_LW_parish_17 : decode (kB K_LW_parish) 17 = .ok (.iconst 0, 1) := by decide +kernel
theorem d_LW_parish_18 : decode (kB K_LW_parish) 18 = .ok (.ireturn, 1) := by decide +kernel
def K_LW_knows : KM := (⟨"ParishBoardsLaw", "knows", "(LParishBoards;II[J)I"⟩, method_7_code, 5, (some (.int)), "ParishBoardsLaw", [])
theorem d_LW_knows_0 : decode (kB K_LW_knows) 0 = .ok (.aload_n 3, 1) := by decide +kernel
theorem d_LW_knows_1 : decode (kB K_LW_knows) 1 = .ok (.iconst 0, 1) := by decide +kernel
theorem d_LW_knows_2 : decode (kB K_LW_knows) 2 = .ok (.aload_n 0, 1) := by decide +kernel
theorem d_LW_knows_3 : decode (kB K_LW_knows) 3 = .ok (.iload_n 1, 1) := by decide +kernel
theorem d_LW_knows_4 : decode (kB K_LW_knows) 4 = .ok (.iload_n 2, 1) := by decide +kernel
theorem d_LW_knows_5 : decode (kB K_LW_knows) 5 = .ok (.invokevirtual 30, 3) := by decide +kernel
theorem d_LW_knows_8 : decode (kB K_LW_knows) 8 = .ok (.i2l, 1) := by decide +kernel
theorem d_LW_knows_9 : decode (kB K_LW_knows) 9 = .ok (.lastore, 1) := by decide +kernel
theorem d_LW_knows_10 : decode (kB K_LW_knows) 10 = .ok (.goto 7, 3) := by decide +kernel
theorem d_LW_knows_13 : decode (kB K_LW_knows) 13 = .ok (.astore 4, 2) := by decide +kernel
theorem d_LW_knows_15 : decode (kB K_LW_knows) 15 = .ok (.iconst 1, 1) := by decide +kernel
theorem d_LW_knows_16 : decode (kB K_LW_knows) 16 = .ok (.ireturn, 1) := by decide +kernel
theorem d_LW_knows_17 : decode (kB K_LW_knows) 17 = .ok (.iconst 0, 1) := by decide +kernel
theorem d_LW_knows_18 : decode (kB K_LW_knows) 18 = .ok (.ireturn, 1) := by decide +kernel
def K_LW_sheet : KM := (⟨"ParishBoardsLaw", "sheet", "(LParishBoards;II[J)I"⟩, method_8_code, 5, (some (.int)), "ParishBoardsLaw", [])
theorem d_LW_sheet_0 : decode (kB K_LW_sheet) 0 = .ok (.aload_n 3, 1) := by decide +kernel
theorem d_LW_sheet_1 : decode (kB K_LW_sheet) 1 = .ok (.iconst 0, 1) := by decide +kernel
theorem d_LW_sheet_2 : decode (kB K_LW_sheet) 2 = .ok (.aload_n 0, 1) := by decide +kernel
theorem d_LW_sheet_3 : decode (kB K_LW_sheet) 3 = .ok (.iload_n 1, 1) := by decide +kernel
theorem d_LW_sheet_4 : decode (kB K_LW_sheet) 4 = .ok (.iload_n 2, 1) := by decide +kernel
theorem d_LW_sheet_5 : decode (kB K_LW_sheet) 5 = .ok (.invokevirtual 33, 3) := by decide +kernel
theorem d_LW_sheet_8 : decode (kB K_LW_sheet) 8 = .ok (.i2l, 1) := by decide +kernel
theorem d_LW_sheet_9 : decode (kB K_LW_sheet) 9 = .ok (.lastore, 1) := by decide +kernel
theorem d_LW_sheet_10 : decode (kB K_LW_sheet) 10 = .ok (.goto 7, 3) := by decide +kernel
theorem d_LW_sheet_13 : decode (kB K_LW_sheet) 13 = .ok (.astore 4, 2) := by decide +kernel
theorem d_LW_sheet_15 : decode (kB K_LW_sheet) 15 = .ok (.iconst 1, 1) := by decide +kernel
theorem d_LW_sheet_16 : decode (kB K_LW_sheet) 16 = .ok (.ireturn, 1) := by decide +kernel
theorem d_LW_sheet_17 : decode (kB K_LW_sheet) 17 = .ok (.iconst 0, 1) := by decide +kernel
theorem d_LW_sheet_18 : decode (kB K_LW_sheet) 18 = .ok (.ireturn, 1) := by decide +kernel
def K_LW_stamp : KM := (⟨"ParishBoardsLaw", "stamp", "(LParishBoards;II[J)I"⟩, method_9_code, 5, (some (.int)), "ParishBoardsLaw", [])
theorem d_LW_stamp_0 : decode (kB K_LW_stamp) 0 = .ok (.aload_n 3, 1) := by decide +kernel
theorem d_LW_stamp_1 : decode (kB K_LW_stamp) 1 = .ok (.iconst 0, 1) := by decide +kernel
theorem d_LW_stamp_2 : decode (kB K_LW_stamp) 2 = .ok (.aload_n 0, 1) := by decide +kernel
theorem d_LW_stamp_3 : decode (kB K_LW_stamp) 3 = .ok (.iload_n 1, 1) := by decide +kernel
theorem d_LW_stamp_4 : decode (kB K_LW_stamp) 4 = .ok (.iload_n 2, 1) := by decide +kernel
theorem d_LW_stamp_5 : decode (kB K_LW_stamp) 5 = .ok (.invokevirtual 36, 3) := by decide +kernel
theorem d_LW_stamp_8 : decode (kB K_LW_stamp) 8 = .ok (.i2l, 1) := by decide +kernel
theorem d_LW_stamp_9 : decode (kB K_LW_stamp) 9 = .ok (.lastore, 1) := by decide +kernel
theorem d_LW_stamp_10 : decode (kB K_LW_stamp) 10 = .ok (.goto 7, 3) := by decide +kernel
theorem d_LW_stamp_13 : decode (kB K_LW_stamp) 13 = .ok (.astore 4, 2) := by decide +kernel
theorem d_LW_stamp_15 : decode (kB K_LW_stamp) 15 = .ok (.iconst 1, 1) := by decide +kernel
theorem d_LW_stamp_16 : decode (kB K_LW_stamp) 16 = .ok (.ireturn, 1) := by decide +kernel
theorem d_LW_stamp_17 : decode (kB K_LW_stamp) 17 = .ok (.iconst 0, 1) := by decide +kernel
theorem d_LW_stamp_18 : decode (kB K_LW_stamp) 18 = .ok (.ireturn, 1) := by decide +kernel
def K_LW_shown : KM := (⟨"ParishBoardsLaw", "shown", "(LParishBoards;III[J)I"⟩, method_10_code, 6, (some (.int)), "ParishBoardsLaw", [])
theorem d_LW_shown_0 : decode (kB K_LW_shown) 0 = .ok (.aload 4, 2) := by decide +kernel
theorem d_LW_shown_2 : decode (kB K_LW_shown) 2 = .ok (.iconst 0, 1) := by decide +kernel
theorem d_LW_shown_3 : decode (kB K_LW_shown) 3 = .ok (.aload_n 0, 1) := by decide +kernel
theorem d_LW_shown_4 : decode (kB K_LW_shown) 4 = .ok (.iload_n 1, 1) := by decide +kernel
theorem d_LW_shown_5 : decode (kB K_LW_shown) 5 = .ok (.iload_n 2, 1) := by decide +kernel
theorem d_LW_shown_6 : decode (kB K_LW_shown) 6 = .ok (.iload_n 3, 1) := by decide +kernel
theorem d_LW_shown_7 : decode (kB K_LW_shown) 7 = .ok (.invokevirtual 39, 3) := by decide +kernel
theorem d_LW_shown_10 : decode (kB K_LW_shown) 10 = .ok (.i2l, 1) := by decide +kernel
theorem d_LW_shown_11 : decode (kB K_LW_shown) 11 = .ok (.lastore, 1) := by decide +kernel
theorem d_LW_shown_12 : decode (kB K_LW_shown) 12 = .ok (.goto 7, 3) := by decide +kernel
theorem d_LW_shown_15 : decode (kB K_LW_shown) 15 = .ok (.astore 5, 2) := by decide +kernel
theorem d_LW_shown_17 : decode (kB K_LW_shown) 17 = .ok (.iconst 1, 1) := by decide +kernel
theorem d_LW_shown_18 : decode (kB K_LW_shown) 18 = .ok (.ireturn, 1) := by decide +kernel
theorem d_LW_shown_19 : decode (kB K_LW_shown) 19 = .ok (.iconst 0, 1) := by decide +kernel
theorem d_LW_shown_20 : decode (kB K_LW_shown) 20 = .ok (.ireturn, 1) := by decide +kernel
def K_LW_compare : KM := (⟨"ParishBoardsLaw", "compare", "(LParishBoards;II[J)I"⟩, method_11_code, 5, (some (.int)), "ParishBoardsLaw", [])
theorem d_LW_compare_0 : decode (kB K_LW_compare) 0 = .ok (.aload_n 3, 1) := by decide +kernel
theorem d_LW_compare_1 : decode (kB K_LW_compare) 1 = .ok (.iconst 0, 1) := by decide +kernel
theorem d_LW_compare_2 : decode (kB K_LW_compare) 2 = .ok (.aload_n 0, 1) := by decide +kernel
theorem d_LW_compare_3 : decode (kB K_LW_compare) 3 = .ok (.iload_n 1, 1) := by decide +kernel
theorem d_LW_compare_4 : decode (kB K_LW_compare) 4 = .ok (.iload_n 2, 1) := by decide +kernel
theorem d_LW_compare_5 : decode (kB K_LW_compare) 5 = .ok (.invokevirtual 43, 3) := by decide +kernel
theorem d_LW_compare_8 : decode (kB K_LW_compare) 8 = .ok (.i2l, 1) := by decide +kernel
theorem d_LW_compare_9 : decode (kB K_LW_compare) 9 = .ok (.lastore, 1) := by decide +kernel
theorem d_LW_compare_10 : decode (kB K_LW_compare) 10 = .ok (.goto 7, 3) := by decide +kernel
theorem d_LW_compare_13 : decode (kB K_LW_compare) 13 = .ok (.astore 4, 2) := by decide +kernel
theorem d_LW_compare_15 : decode (kB K_LW_compare) 15 = .ok (.iconst 1, 1) := by decide +kernel
theorem d_LW_compare_16 : decode (kB K_LW_compare) 16 = .ok (.ireturn, 1) := by decide +kernel
theorem d_LW_compare_17 : decode (kB K_LW_compare) 17 = .ok (.iconst 0, 1) := by decide +kernel
theorem d_LW_compare_18 : decode (kB K_LW_compare) 18 = .ok (.ireturn, 1) := by decide +kernel
def K_LW_road : KM := (⟨"ParishBoardsLaw", "road", "(LParishBoards;II[J)I"⟩, method_12_code, 5, (some (.int)), "ParishBoardsLaw", [])
theorem d_LW_road_0 : decode (kB K_LW_road) 0 = .ok (.aload_n 3, 1) := by decide +kernel
theorem d_LW_road_1 : decode (kB K_LW_road) 1 = .ok (.iconst 0, 1) := by decide +kernel
theorem d_LW_road_2 : decode (kB K_LW_road) 2 = .ok (.aload_n 0, 1) := by decide +kernel
theorem d_LW_road_3 : decode (kB K_LW_road) 3 = .ok (.iload_n 1, 1) := by decide +kernel
theorem d_LW_road_4 : decode (kB K_LW_road) 4 = .ok (.iload_n 2, 1) := by decide +kernel
theorem d_LW_road_5 : decode (kB K_LW_road) 5 = .ok (.invokevirtual 46, 3) := by decide +kernel
theorem d_LW_road_8 : decode (kB K_LW_road) 8 = .ok (.i2l, 1) := by decide +kernel
theorem d_LW_road_9 : decode (kB K_LW_road) 9 = .ok (.lastore, 1) := by decide +kernel
theorem d_LW_road_10 : decode (kB K_LW_road) 10 = .ok (.goto 7, 3) := by decide +kernel
theorem d_LW_road_13 : decode (kB K_LW_road) 13 = .ok (.astore 4, 2) := by decide +kernel
theorem d_LW_road_15 : decode (kB K_LW_road) 15 = .ok (.iconst 1, 1) := by decide +kernel
theorem d_LW_road_16 : decode (kB K_LW_road) 16 = .ok (.ireturn, 1) := by decide +kernel
theorem d_LW_road_17 : decode (kB K_LW_road) 17 = .ok (.iconst 0, 1) := by decide +kernel
theorem d_LW_road_18 : decode (kB K_LW_road) 18 = .ok (.ireturn, 1) := by decide +kernel
def K_LW_write : KM := (⟨"ParishBoardsLaw", "write", "(LParishBoards;III[J)I"⟩, method_13_code, 6, (some (.int)), "ParishBoardsLaw", [])
theorem d_LW_write_0 : decode (kB K_LW_write) 0 = .ok (.aload 4, 2) := by decide +kernel
theorem d_LW_write_2 : decode (kB K_LW_write) 2 = .ok (.iconst 0, 1) := by decide +kernel
theorem d_LW_write_3 : decode (kB K_LW_write) 3 = .ok (.aload_n 0, 1) := by decide +kernel
theorem d_LW_write_4 : decode (kB K_LW_write) 4 = .ok (.iload_n 1, 1) := by decide +kernel
theorem d_LW_write_5 : decode (kB K_LW_write) 5 = .ok (.iload_n 2, 1) := by decide +kernel
theorem d_LW_write_6 : decode (kB K_LW_write) 6 = .ok (.iload_n 3, 1) := by decide +kernel
theorem d_LW_write_7 : decode (kB K_LW_write) 7 = .ok (.invokevirtual 49, 3) := by decide +kernel
theorem d_LW_write_10 : decode (kB K_LW_write) 10 = .ok (.i2l, 1) := by decide +kernel
theorem d_LW_write_11 : decode (kB K_LW_write) 11 = .ok (.lastore, 1) := by decide +kernel
theorem d_LW_write_12 : decode (kB K_LW_write) 12 = .ok (.goto 15, 3) := by decide +kernel
theorem d_LW_write_15 : decode (kB K_LW_write) 15 = .ok (.astore 5, 2) := by decide +kernel
theorem d_LW_write_17 : decode (kB K_LW_write) 17 = .ok (.iconst 1, 1) := by decide +kernel
theorem d_LW_write_18 : decode (kB K_LW_write) 18 = .ok (.ireturn, 1) := by decide +kernel
theorem d_LW_write_19 : decode (kB K_LW_write) 19 = .ok (.astore 5, 2) := by decide +kernel
theorem d_LW_write_21 : decode (kB K_LW_write) 21 = .ok (.iconst 2, 1) := by decide +kernel
theorem d_LW_write_22 : decode (kB K_LW_write) 22 = .ok (.ireturn, 1) := by decide +kernel
theorem d_LW_write_23 : decode (kB K_LW_write) 23 = .ok (.astore 5, 2) := by decide +kernel
theorem d_LW_write_25 : decode (kB K_LW_write) 25 = .ok (.iconst 3, 1) := by decide +kernel
theorem d_LW_write_26 : decode (kB K_LW_write) 26 = .ok (.ireturn, 1) := by decide +kernel
theorem d_LW_write_27 : decode (kB K_LW_write) 27 = .ok (.iconst 0, 1) := by decide +kernel
theorem d_LW_write_28 : decode (kB K_LW_write) 28 = .ok (.ireturn, 1) := by decide +kernel
def K_LW_note : KM := (⟨"ParishBoardsLaw", "note", "(LParishBoards;III[J)I"⟩, method_14_code, 6, (some (.int)), "ParishBoardsLaw", [])
theorem d_LW_note_0 : decode (kB K_LW_note) 0 = .ok (.aload 4, 2) := by decide +kernel
theorem d_LW_note_2 : decode (kB K_LW_note) 2 = .ok (.iconst 0, 1) := by decide +kernel
theorem d_LW_note_3 : decode (kB K_LW_note) 3 = .ok (.aload_n 0, 1) := by decide +kernel
theorem d_LW_note_4 : decode (kB K_LW_note) 4 = .ok (.iload_n 1, 1) := by decide +kernel
theorem d_LW_note_5 : decode (kB K_LW_note) 5 = .ok (.iload_n 2, 1) := by decide +kernel
theorem d_LW_note_6 : decode (kB K_LW_note) 6 = .ok (.iload_n 3, 1) := by decide +kernel
theorem d_LW_note_7 : decode (kB K_LW_note) 7 = .ok (.invokevirtual 52, 3) := by decide +kernel
theorem d_LW_note_10 : decode (kB K_LW_note) 10 = .ok (.i2l, 1) := by decide +kernel
theorem d_LW_note_11 : decode (kB K_LW_note) 11 = .ok (.lastore, 1) := by decide +kernel
theorem d_LW_note_12 : decode (kB K_LW_note) 12 = .ok (.goto 15, 3) := by decide +kernel
theorem d_LW_note_15 : decode (kB K_LW_note) 15 = .ok (.astore 5, 2) := by decide +kernel
theorem d_LW_note_17 : decode (kB K_LW_note) 17 = .ok (.iconst 1, 1) := by decide +kernel
theorem d_LW_note_18 : decode (kB K_LW_note) 18 = .ok (.ireturn, 1) := by decide +kernel
theorem d_LW_note_19 : decode (kB K_LW_note) 19 = .ok (.astore 5, 2) := by decide +kernel
theorem d_LW_note_21 : decode (kB K_LW_note) 21 = .ok (.iconst 2, 1) := by decide +kernel
theorem d_LW_note_22 : decode (kB K_LW_note) 22 = .ok (.ireturn, 1) := by decide +kernel
theorem d_LW_note_23 : decode (kB K_LW_note) 23 = .ok (.astore 5, 2) := by decide +kernel
theorem d_LW_note_25 : decode (kB K_LW_note) 25 = .ok (.iconst 3, 1) := by decide +kernel
theorem d_LW_note_26 : decode (kB K_LW_note) 26 = .ok (.ireturn, 1) := by decide +kernel
theorem d_LW_note_27 : decode (kB K_LW_note) 27 = .ok (.iconst 0, 1) := by decide +kernel
theorem d_LW_note_28 : decode (kB K_LW_note) 28 = .ok (.ireturn, 1) := by decide +kernel
def K_LW_merge : KM := (⟨"ParishBoardsLaw", "merge", "(LParishBoards;III[J)I"⟩, method_15_code, 6, (some (.int)), "ParishBoardsLaw", [])
theorem d_LW_merge_0 : decode (kB K_LW_merge) 0 = .ok (.aload 4, 2) := by decide +kernel
theorem d_LW_merge_2 : decode (kB K_LW_merge) 2 = .ok (.iconst 0, 1) := by decide +kernel
theorem d_LW_merge_3 : decode (kB K_LW_merge) 3 = .ok (.aload_n 0, 1) := by decide +kernel
theorem d_LW_merge_4 : decode (kB K_LW_merge) 4 = .ok (.iload_n 1, 1) := by decide +kernel
theorem d_LW_merge_5 : decode (kB K_LW_merge) 5 = .ok (.iload_n 2, 1) := by decide +kernel
theorem d_LW_merge_6 : decode (kB K_LW_merge) 6 = .ok (.iload_n 3, 1) := by decide +kernel
theorem d_LW_merge_7 : decode (kB K_LW_merge) 7 = .ok (.invokevirtual 55, 3) := by decide +kernel
theorem d_LW_merge_10 : decode (kB K_LW_merge) 10 = .ok (.i2l, 1) := by decide +kernel
theorem d_LW_merge_11 : decode (kB K_LW_merge) 11 = .ok (.lastore, 1) := by decide +kernel
theorem d_LW_merge_12 : decode (kB K_LW_merge) 12 = .ok (.goto 11, 3) := by decide +kernel
theorem d_LW_merge_15 : decode (kB K_LW_merge) 15 = .ok (.astore 5, 2) := by decide +kernel
theorem d_LW_merge_17 : decode (kB K_LW_merge) 17 = .ok (.iconst 1, 1) := by decide +kernel
theorem d_LW_merge_18 : decode (kB K_LW_merge) 18 = .ok (.ireturn, 1) := by decide +kernel
theorem d_LW_merge_19 : decode (kB K_LW_merge) 19 = .ok (.astore 5, 2) := by decide +kernel
theorem d_LW_merge_21 : decode (kB K_LW_merge) 21 = .ok (.iconst 2, 1) := by decide +kernel
theorem d_LW_merge_22 : decode (kB K_LW_merge) 22 = .ok (.ireturn, 1) := by decide +kernel
theorem d_LW_merge_23 : decode (kB K_LW_merge) 23 = .ok (.iconst 0, 1) := by decide +kernel
theorem d_LW_merge_24 : decode (kB K_LW_merge) 24 = .ok (.ireturn, 1) := by decide +kernel
def K_LW_send : KM := (⟨"ParishBoardsLaw", "send", "(LParishBoards;I[J)I"⟩, method_16_code, 4, (some (.int)), "ParishBoardsLaw", [])
theorem d_LW_send_0 : decode (kB K_LW_send) 0 = .ok (.aload_n 2, 1) := by decide +kernel
theorem d_LW_send_1 : decode (kB K_LW_send) 1 = .ok (.iconst 0, 1) := by decide +kernel
theorem d_LW_send_2 : decode (kB K_LW_send) 2 = .ok (.aload_n 0, 1) := by decide +kernel
theorem d_LW_send_3 : decode (kB K_LW_send) 3 = .ok (.iload_n 1, 1) := by decide +kernel
theorem d_LW_send_4 : decode (kB K_LW_send) 4 = .ok (.invokevirtual 58, 3) := by decide +kernel
theorem d_LW_send_7 : decode (kB K_LW_send) 7 = .ok (.i2l, 1) := by decide +kernel
theorem d_LW_send_8 : decode (kB K_LW_send) 8 = .ok (.lastore, 1) := by decide +kernel
theorem d_LW_send_9 : decode (kB K_LW_send) 9 = .ok (.goto 6, 3) := by decide +kernel
theorem d_LW_send_12 : decode (kB K_LW_send) 12 = .ok (.astore_n 3, 1) := by decide +kernel
theorem d_LW_send_13 : decode (kB K_LW_send) 13 = .ok (.iconst 1, 1) := by decide +kernel
theorem d_LW_send_14 : decode (kB K_LW_send) 14 = .ok (.ireturn, 1) := by decide +kernel
theorem d_LW_send_15 : decode (kB K_LW_send) 15 = .ok (.iconst 0, 1) := by decide +kernel
theorem d_LW_send_16 : decode (kB K_LW_send) 16 = .ok (.ireturn, 1) := by decide +kernel
def K_LW_setDays : KM := (⟨"ParishBoardsLaw", "setDays", "(LParishBoards;II[J)I"⟩, method_17_code, 5, (some (.int)), "ParishBoardsLaw", [])
theorem d_LW_setDays_0 : decode (kB K_LW_setDays) 0 = .ok (.aload_n 3, 1) := by decide +kernel
theorem d_LW_setDays_1 : decode (kB K_LW_setDays) 1 = .ok (.iconst 0, 1) := by decide +kernel
theorem d_LW_setDays_2 : decode (kB K_LW_setDays) 2 = .ok (.aload_n 0, 1) := by decide +kernel
theorem d_LW_setDays_3 : decode (kB K_LW_setDays) 3 = .ok (.iload_n 1, 1) := by decide +kernel
theorem d_LW_setDays_4 : decode (kB K_LW_setDays) 4 = .ok (.iload_n 2, 1) := by decide +kernel
theorem d_LW_setDays_5 : decode (kB K_LW_setDays) 5 = .ok (.invokevirtual 61, 3) := by decide +kernel
theorem d_LW_setDays_8 : decode (kB K_LW_setDays) 8 = .ok (.i2l, 1) := by decide +kernel
theorem d_LW_setDays_9 : decode (kB K_LW_setDays) 9 = .ok (.lastore, 1) := by decide +kernel
theorem d_LW_setDays_10 : decode (kB K_LW_setDays) 10 = .ok (.goto 11, 3) := by decide +kernel
theorem d_LW_setDays_13 : decode (kB K_LW_setDays) 13 = .ok (.astore 4, 2) := by decide +kernel
theorem d_LW_setDays_15 : decode (kB K_LW_setDays) 15 = .ok (.iconst 1, 1) := by decide +kernel
theorem d_LW_setDays_16 : decode (kB K_LW_setDays) 16 = .ok (.ireturn, 1) := by decide +kernel
theorem d_LW_setDays_17 : decode (kB K_LW_setDays) 17 = .ok (.astore 4, 2) := by decide +kernel
theorem d_LW_setDays_19 : decode (kB K_LW_setDays) 19 = .ok (.iconst 2, 1) := by decide +kernel
theorem d_LW_setDays_20 : decode (kB K_LW_setDays) 20 = .ok (.ireturn, 1) := by decide +kernel
theorem d_LW_setDays_21 : decode (kB K_LW_setDays) 21 = .ok (.iconst 0, 1) := by decide +kernel
theorem d_LW_setDays_22 : decode (kB K_LW_setDays) 22 = .ok (.ireturn, 1) := by decide +kernel
def K_LW_pass : KM := (⟨"ParishBoardsLaw", "pass", "(LParishBoards;I[J)I"⟩, method_18_code, 4, (some (.int)), "ParishBoardsLaw", [])
theorem d_LW_pass_0 : decode (kB K_LW_pass) 0 = .ok (.aload_n 2, 1) := by decide +kernel
theorem d_LW_pass_1 : decode (kB K_LW_pass) 1 = .ok (.iconst 0, 1) := by decide +kernel
theorem d_LW_pass_2 : decode (kB K_LW_pass) 2 = .ok (.aload_n 0, 1) := by decide +kernel
theorem d_LW_pass_3 : decode (kB K_LW_pass) 3 = .ok (.iload_n 1, 1) := by decide +kernel
theorem d_LW_pass_4 : decode (kB K_LW_pass) 4 = .ok (.invokevirtual 64, 3) := by decide +kernel
theorem d_LW_pass_7 : decode (kB K_LW_pass) 7 = .ok (.i2l, 1) := by decide +kernel
theorem d_LW_pass_8 : decode (kB K_LW_pass) 8 = .ok (.lastore, 1) := by decide +kernel
theorem d_LW_pass_9 : decode (kB K_LW_pass) 9 = .ok (.goto 6, 3) := by decide +kernel
theorem d_LW_pass_12 : decode (kB K_LW_pass) 12 = .ok (.astore_n 3, 1) := by decide +kernel
theorem d_LW_pass_13 : decode (kB K_LW_pass) 13 = .ok (.iconst 1, 1) := by decide +kernel
theorem d_LW_pass_14 : decode (kB K_LW_pass) 14 = .ok (.ireturn, 1) := by decide +kernel
theorem d_LW_pass_15 : decode (kB K_LW_pass) 15 = .ok (.iconst 0, 1) := by decide +kernel
theorem d_LW_pass_16 : decode (kB K_LW_pass) 16 = .ok (.ireturn, 1) := by decide +kernel
def K_LW_foresee : KM := (⟨"ParishBoardsLaw", "foresee", "(LParishBoards;II[J)I"⟩, method_19_code, 5, (some (.int)), "ParishBoardsLaw", [])
theorem d_LW_foresee_0 : decode (kB K_LW_foresee) 0 = .ok (.aload_n 3, 1) := by decide +kernel
theorem d_LW_foresee_1 : decode (kB K_LW_foresee) 1 = .ok (.iconst 0, 1) := by decide +kernel
theorem d_LW_foresee_2 : decode (kB K_LW_foresee) 2 = .ok (.aload_n 0, 1) := by decide +kernel
theorem d_LW_foresee_3 : decode (kB K_LW_foresee) 3 = .ok (.iload_n 1, 1) := by decide +kernel
theorem d_LW_foresee_4 : decode (kB K_LW_foresee) 4 = .ok (.iload_n 2, 1) := by decide +kernel
theorem d_LW_foresee_5 : decode (kB K_LW_foresee) 5 = .ok (.invokevirtual 67, 3) := by decide +kernel
theorem d_LW_foresee_8 : decode (kB K_LW_foresee) 8 = .ok (.i2l, 1) := by decide +kernel
theorem d_LW_foresee_9 : decode (kB K_LW_foresee) 9 = .ok (.lastore, 1) := by decide +kernel
theorem d_LW_foresee_10 : decode (kB K_LW_foresee) 10 = .ok (.goto 11, 3) := by decide +kernel
theorem d_LW_foresee_13 : decode (kB K_LW_foresee) 13 = .ok (.astore 4, 2) := by decide +kernel
theorem d_LW_foresee_15 : decode (kB K_LW_foresee) 15 = .ok (.iconst 1, 1) := by decide +kernel
theorem d_LW_foresee_16 : decode (kB K_LW_foresee) 16 = .ok (.ireturn, 1) := by decide +kernel
theorem d_LW_foresee_17 : decode (kB K_LW_foresee) 17 = .ok (.astore 4, 2) := by decide +kernel
theorem d_LW_foresee_19 : decode (kB K_LW_foresee) 19 = .ok (.iconst 2, 1) := by decide +kernel
theorem d_LW_foresee_20 : decode (kB K_LW_foresee) 20 = .ok (.ireturn, 1) := by decide +kernel
theorem d_LW_foresee_21 : decode (kB K_LW_foresee) 21 = .ok (.iconst 0, 1) := by decide +kernel
theorem d_LW_foresee_22 : decode (kB K_LW_foresee) 22 = .ok (.ireturn, 1) := by decide +kernel
