/-! methods and their instructions -/
def K_MS_arrive : KM := (⟨"ParishBoardsModel$State", "arrive", "()V"⟩, prog_17_method_22_code, 3, none, "ParishBoardsModel$State", [])
theorem d_MS_arrive_0 : decode (kB K_MS_arrive) 0 = .ok (.iconst 0, 1) := by decide +kernel
theorem d_MS_arrive_1 : decode (kB K_MS_arrive) 1 = .ok (.istore_n 1, 1) := by decide +kernel
theorem d_MS_arrive_2 : decode (kB K_MS_arrive) 2 = .ok (.iconst 0, 1) := by decide +kernel
theorem d_MS_arrive_3 : decode (kB K_MS_arrive) 3 = .ok (.istore_n 2, 1) := by decide +kernel
theorem d_MS_arrive_4 : decode (kB K_MS_arrive) 4 = .ok (.iload_n 2, 1) := by decide +kernel
theorem d_MS_arrive_5 : decode (kB K_MS_arrive) 5 = .ok (.aload_n 0, 1) := by decide +kernel
theorem d_MS_arrive_6 : decode (kB K_MS_arrive) 6 = .ok (.getfield 90, 3) := by decide +kernel
theorem d_MS_arrive_9 : decode (kB K_MS_arrive) 9 = .ok (.if_icmp .ge 91, 3) := by decide +kernel
theorem d_MS_arrive_12 : decode (kB K_MS_arrive) 12 = .ok (.aload_n 0, 1) := by decide +kernel
theorem d_MS_arrive_13 : decode (kB K_MS_arrive) 13 = .ok (.getfield 59, 3) := by decide +kernel
theorem d_MS_arrive_16 : decode (kB K_MS_arrive) 16 = .ok (.iload_n 2, 1) := by decide +kernel
theorem d_MS_arrive_17 : decode (kB K_MS_arrive) 17 = .ok (.iaload, 1) := by decide +kernel
theorem d_MS_arrive_18 : decode (kB K_MS_arrive) 18 = .ok (.aload_n 0, 1) := by decide +kernel
theorem d_MS_arrive_19 : decode (kB K_MS_arrive) 19 = .ok (.getfield 74, 3) := by decide +kernel
theorem d_MS_arrive_22 : decode (kB K_MS_arrive) 22 = .ok (.if_icmp .ne 33, 3) := by decide +kernel
theorem d_MS_arrive_25 : decode (kB K_MS_arrive) 25 = .ok (.aload_n 0, 1) := by decide +kernel
theorem d_MS_arrive_26 : decode (kB K_MS_arrive) 26 = .ok (.aload_n 0, 1) := by decide +kernel
theorem d_MS_arrive_27 : decode (kB K_MS_arrive) 27 = .ok (.getfield 3, 3) := by decide +kernel
theorem d_MS_arrive_30 : decode (kB K_MS_arrive) 30 = .ok (.getfield 100, 3) := by decide +kernel
theorem d_MS_arrive_33 : decode (kB K_MS_arrive) 33 = .ok (.getfield 156, 3) := by decide +kernel
theorem d_MS_arrive_36 : decode (kB K_MS_arrive) 36 = .ok (.aload_n 0, 1) := by decide +kernel
theorem d_MS_arrive_37 : decode (kB K_MS_arrive) 37 = .ok (.getfield 56, 3) := by decide +kernel
theorem d_MS_arrive_40 : decode (kB K_MS_arrive) 40 = .ok (.iload_n 2, 1) := by decide +kernel
theorem d_MS_arrive_41 : decode (kB K_MS_arrive) 41 = .ok (.iaload, 1) := by decide +kernel
theorem d_MS_arrive_42 : decode (kB K_MS_arrive) 42 = .ok (.iaload, 1) := by decide +kernel
theorem d_MS_arrive_43 : decode (kB K_MS_arrive) 43 = .ok (.aload_n 0, 1) := by decide +kernel
theorem d_MS_arrive_44 : decode (kB K_MS_arrive) 44 = .ok (.getfield 62, 3) := by decide +kernel
theorem d_MS_arrive_47 : decode (kB K_MS_arrive) 47 = .ok (.iload_n 2, 1) := by decide +kernel
theorem d_MS_arrive_48 : decode (kB K_MS_arrive) 48 = .ok (.laload, 1) := by decide +kernel
theorem d_MS_arrive_49 : decode (kB K_MS_arrive) 49 = .ok (.invokevirtual 159, 3) := by decide +kernel
theorem d_MS_arrive_52 : decode (kB K_MS_arrive) 52 = .ok (.goto 42, 3) := by decide +kernel
theorem d_MS_arrive_55 : decode (kB K_MS_arrive) 55 = .ok (.aload_n 0, 1) := by decide +kernel
theorem d_MS_arrive_56 : decode (kB K_MS_arrive) 56 = .ok (.getfield 56, 3) := by decide +kernel
theorem d_MS_arrive_59 : decode (kB K_MS_arrive) 59 = .ok (.iload_n 1, 1) := by decide +kernel
theorem d_MS_arrive_60 : decode (kB K_MS_arrive) 60 = .ok (.aload_n 0, 1) := by decide +kernel
theorem d_MS_arrive_61 : decode (kB K_MS_arrive) 61 = .ok (.getfield 56, 3) := by decide +kernel
theorem d_MS_arrive_64 : decode (kB K_MS_arrive) 64 = .ok (.iload_n 2, 1) := by decide +kernel
theorem d_MS_arrive_65 : decode (kB K_MS_arrive) 65 = .ok (.iaload, 1) := by decide +kernel
theorem d_MS_arrive_66 : decode (kB K_MS_arrive) 66 = .ok (.iastore, 1) := by decide +kernel
theorem d_MS_arrive_67 : decode (kB K_MS_arrive) 67 = .ok (.aload_n 0, 1) := by decide +kernel
theorem d_MS_arrive_68 : decode (kB K_MS_arrive) 68 = .ok (.getfield 59, 3) := by decide +kernel
theorem d_MS_arrive_71 : decode (kB K_MS_arrive) 71 = .ok (.iload_n 1, 1) := by decide +kernel
theorem d_MS_arrive_72 : decode (kB K_MS_arrive) 72 = .ok (.aload_n 0, 1) := by decide +kernel
theorem d_MS_arrive_73 : decode (kB K_MS_arrive) 73 = .ok (.getfield 59, 3) := by decide +kernel
theorem d_MS_arrive_76 : decode (kB K_MS_arrive) 76 = .ok (.iload_n 2, 1) := by decide +kernel
theorem d_MS_arrive_77 : decode (kB K_MS_arrive) 77 = .ok (.iaload, 1) := by decide +kernel
theorem d_MS_arrive_78 : decode (kB K_MS_arrive) 78 = .ok (.iastore, 1) := by decide +kernel
theorem d_MS_arrive_79 : decode (kB K_MS_arrive) 79 = .ok (.aload_n 0, 1) := by decide +kernel
theorem d_MS_arrive_80 : decode (kB K_MS_arrive) 80 = .ok (.getfield 62, 3) := by decide +kernel
theorem d_MS_arrive_83 : decode (kB K_MS_arrive) 83 = .ok (.iload_n 1, 1) := by decide +kernel
theorem d_MS_arrive_84 : decode (kB K_MS_arrive) 84 = .ok (.aload_n 0, 1) := by decide +kernel
theorem d_MS_arrive_85 : decode (kB K_MS_arrive) 85 = .ok (.getfield 62, 3) := by decide +kernel
theorem d_MS_arrive_88 : decode (kB K_MS_arrive) 88 = .ok (.iload_n 2, 1) := by decide +kernel
theorem d_MS_arrive_89 : decode (kB K_MS_arrive) 89 = .ok (.laload, 1) := by decide +kernel
theorem d_MS_arrive_90 : decode (kB K_MS_arrive) 90 = .ok (.lastore, 1) := by decide +kernel
theorem d_MS_arrive_91 : decode (kB K_MS_arrive) 91 = .ok (.iinc 1 1, 3) := by decide +kernel
theorem d_MS_arrive_94 : decode (kB K_MS_arrive) 94 = .ok (.iinc 2 1, 3) := by decide +kernel
theorem d_MS_arrive_97 : decode (kB K_MS_arrive) 97 = .ok (.goto (-93), 3) := by decide +kernel
theorem d_MS_arrive_100 : decode (kB K_MS_arrive) 100 = .ok (.aload_n 0, 1) := by decide +kernel
theorem d_MS_arrive_101 : decode (kB K_MS_arrive) 101 = .ok (.iload_n 1, 1) := by decide +kernel
theorem d_MS_arrive_102 : decode (kB K_MS_arrive) 102 = .ok (.putfield 90, 3) := by decide +kernel
theorem d_MS_arrive_105 : decode (kB K_MS_arrive) 105 = .ok (.return_, 1) := by decide +kernel
def K_MS_canHang : KM := (⟨"ParishBoardsModel$State", "canHang", "(II)Z"⟩, prog_17_method_23_code, 5, (some (.boolean)), "ParishBoardsModel$State", [])
theorem d_MS_canHang_0 : decode (kB K_MS_canHang) 0 = .ok (.aload_n 0, 1) := by decide +kernel
theorem d_MS_canHang_1 : decode (kB K_MS_canHang) 1 = .ok (.getfield 43, 3) := by decide +kernel
theorem d_MS_canHang_4 : decode (kB K_MS_canHang) 4 = .ok (.iload_n 1, 1) := by decide +kernel
theorem d_MS_canHang_5 : decode (kB K_MS_canHang) 5 = .ok (.laload, 1) := by decide +kernel
theorem d_MS_canHang_6 : decode (kB K_MS_canHang) 6 = .ok (.iload_n 2, 1) := by decide +kernel
theorem d_MS_canHang_7 : decode (kB K_MS_canHang) 7 = .ok (.lshr, 1) := by decide +kernel
theorem d_MS_canHang_8 : decode (kB K_MS_canHang) 8 = .ok (.lconst 1, 1) := by decide +kernel
theorem d_MS_canHang_9 : decode (kB K_MS_canHang) 9 = .ok (.land, 1) := by decide +kernel
theorem d_MS_canHang_10 : decode (kB K_MS_canHang) 10 = .ok (.lconst 1, 1) := by decide +kernel
theorem d_MS_canHang_11 : decode (kB K_MS_canHang) 11 = .ok (.lcmp, 1) := by decide +kernel
theorem d_MS_canHang_12 : decode (kB K_MS_canHang) 12 = .ok (.ifCond .ne 34, 3) := by decide +kernel
theorem d_MS_canHang_15 : decode (kB K_MS_canHang) 15 = .ok (.aload_n 0, 1) := by decide +kernel
theorem d_MS_canHang_16 : decode (kB K_MS_canHang) 16 = .ok (.iload_n 2, 1) := by decide +kernel
theorem d_MS_canHang_17 : decode (kB K_MS_canHang) 17 = .ok (.aload_n 0, 1) := by decide +kernel
theorem d_MS_canHang_18 : decode (kB K_MS_canHang) 18 = .ok (.getfield 15, 3) := by decide +kernel
theorem d_MS_canHang_21 : decode (kB K_MS_canHang) 21 = .ok (.iload_n 2, 1) := by decide +kernel
theorem d_MS_canHang_22 : decode (kB K_MS_canHang) 22 = .ok (.iaload, 1) := by decide +kernel
theorem d_MS_canHang_23 : decode (kB K_MS_canHang) 23 = .ok (.invokevirtual 107, 3) := by decide +kernel
theorem d_MS_canHang_26 : decode (kB K_MS_canHang) 26 = .ok (.aload_n 0, 1) := by decide +kernel
theorem d_MS_canHang_27 : decode (kB K_MS_canHang) 27 = .ok (.iload_n 1, 1) := by decide +kernel
theorem d_MS_canHang_28 : decode (kB K_MS_canHang) 28 = .ok (.aload_n 0, 1) := by decide +kernel
theorem d_MS_canHang_29 : decode (kB K_MS_canHang) 29 = .ok (.getfield 15, 3) := by decide +kernel
theorem d_MS_canHang_32 : decode (kB K_MS_canHang) 32 = .ok (.iload_n 2, 1) := by decide +kernel
theorem d_MS_canHang_33 : decode (kB K_MS_canHang) 33 = .ok (.iaload, 1) := by decide +kernel
theorem d_MS_canHang_34 : decode (kB K_MS_canHang) 34 = .ok (.invokevirtual 111, 3) := by decide +kernel
theorem d_MS_canHang_37 : decode (kB K_MS_canHang) 37 = .ok (.iconst 1, 1) := by decide +kernel
theorem d_MS_canHang_38 : decode (kB K_MS_canHang) 38 = .ok (.iadd, 1) := by decide +kernel
theorem d_MS_canHang_39 : decode (kB K_MS_canHang) 39 = .ok (.if_icmp .ne 7, 3) := by decide +kernel
theorem d_MS_canHang_42 : decode (kB K_MS_canHang) 42 = .ok (.iconst 1, 1) := by decide +kernel
theorem d_MS_canHang_43 : decode (kB K_MS_canHang) 43 = .ok (.goto 4, 3) := by decide +kernel
theorem d_MS_canHang_46 : decode (kB K_MS_canHang) 46 = .ok (.iconst 0, 1) := by decide +kernel
theorem d_MS_canHang_47 : decode (kB K_MS_canHang) 47 = .ok (.istore_n 3, 1) := by decide +kernel
theorem d_MS_canHang_48 : decode (kB K_MS_canHang) 48 = .ok (.iconst 0, 1) := by decide +kernel
theorem d_MS_canHang_49 : decode (kB K_MS_canHang) 49 = .ok (.istore 4, 2) := by decide +kernel
theorem d_MS_canHang_51 : decode (kB K_MS_canHang) 51 = .ok (.iload 4, 2) := by decide +kernel
theorem d_MS_canHang_53 : decode (kB K_MS_canHang) 53 = .ok (.aload_n 0, 1) := by decide +kernel
theorem d_MS_canHang_54 : decode (kB K_MS_canHang) 54 = .ok (.getfield 3, 3) := by decide +kernel
theorem d_MS_canHang_57 : decode (kB K_MS_canHang) 57 = .ok (.getfield 100, 3) := by decide +kernel
theorem d_MS_canHang_60 : decode (kB K_MS_canHang) 60 = .ok (.getfield 114, 3) := by decide +kernel
theorem d_MS_canHang_63 : decode (kB K_MS_canHang) 63 = .ok (.if_icmp .ge 45, 3) := by decide +kernel
theorem d_MS_canHang_66 : decode (kB K_MS_canHang) 66 = .ok (.iload_n 3, 1) := by decide +kernel
theorem d_MS_canHang_67 : decode (kB K_MS_canHang) 67 = .ok (.iload 4, 2) := by decide +kernel
theorem d_MS_canHang_69 : decode (kB K_MS_canHang) 69 = .ok (.aload_n 0, 1) := by decide +kernel
theorem d_MS_canHang_70 : decode (kB K_MS_canHang) 70 = .ok (.getfield 15, 3) := by decide +kernel
theorem d_MS_canHang_73 : decode (kB K_MS_canHang) 73 = .ok (.iload_n 2, 1) := by decide +kernel
theorem d_MS_canHang_74 : decode (kB K_MS_canHang) 74 = .ok (.iaload, 1) := by decide +kernel
theorem d_MS_canHang_75 : decode (kB K_MS_canHang) 75 = .ok (.if_icmp .eq 20, 3) := by decide +kernel
theorem d_MS_canHang_78 : decode (kB K_MS_canHang) 78 = .ok (.aload_n 0, 1) := by decide +kernel
theorem d_MS_canHang_79 : decode (kB K_MS_canHang) 79 = .ok (.iload_n 2, 1) := by decide +kernel
theorem d_MS_canHang_80 : decode (kB K_MS_canHang) 80 = .ok (.iload 4, 2) := by decide +kernel
theorem d_MS_canHang_82 : decode (kB K_MS_canHang) 82 = .ok (.invokevirtual 107, 3) := by decide +kernel
theorem d_MS_canHang_85 : decode (kB K_MS_canHang) 85 = .ok (.aload_n 0, 1) := by decide +kernel
theorem d_MS_canHang_86 : decode (kB K_MS_canHang) 86 = .ok (.iload_n 1, 1) := by decide +kernel
theorem d_MS_canHang_87 : decode (kB K_MS_canHang) 87 = .ok (.iload 4, 2) := by decide +kernel
theorem d_MS_canHang_89 : decode (kB K_MS_canHang) 89 = .ok (.invokevirtual 111, 3) := by decide +kernel
theorem d_MS_canHang_92 : decode (kB K_MS_canHang) 92 = .ok (.if_icmp .gt 7, 3) := by decide +kernel
theorem d_MS_canHang_95 : decode (kB K_MS_canHang) 95 = .ok (.iconst 1, 1) := by decide +kernel
theorem d_MS_canHang_96 : decode (kB K_MS_canHang) 96 = .ok (.goto 4, 3) := by decide +kernel
theorem d_MS_canHang_99 : decode (kB K_MS_canHang) 99 = .ok (.iconst 0, 1) := by decide +kernel
theorem d_MS_canHang_100 : decode (kB K_MS_canHang) 100 = .ok (.iand, 1) := by decide +kernel
theorem d_MS_canHang_101 : decode (kB K_MS_canHang) 101 = .ok (.istore_n 3, 1) := by decide +kernel
theorem d_MS_canHang_102 : decode (kB K_MS_canHang) 102 = .ok (.iinc 4 1, 3) := by decide +kernel
theorem d_MS_canHang_105 : decode (kB K_MS_canHang) 105 = .ok (.goto (-54), 3) := by decide +kernel
theorem d_MS_canHang_108 : decode (kB K_MS_canHang) 108 = .ok (.iload_n 3, 1) := by decide +kernel
theorem d_MS_canHang_109 : decode (kB K_MS_canHang) 109 = .ok (.ireturn, 1) := by decide +kernel
def K_MS_next : KM := (⟨"ParishBoardsModel$State", "next", "(I)I"⟩, prog_17_method_24_code, 3, (some (.int)), "ParishBoardsModel$State", [])
theorem d_MS_next_0 : decode (kB K_MS_next) 0 = .ok (.iconst 0, 1) := by decide +kernel
theorem d_MS_next_1 : decode (kB K_MS_next) 1 = .ok (.istore_n 2, 1) := by decide +kernel
theorem d_MS_next_2 : decode (kB K_MS_next) 2 = .ok (.iload_n 2, 1) := by decide +kernel
theorem d_MS_next_3 : decode (kB K_MS_next) 3 = .ok (.aload_n 0, 1) := by decide +kernel
theorem d_MS_next_4 : decode (kB K_MS_next) 4 = .ok (.getfield 78, 3) := by decide +kernel
theorem d_MS_next_7 : decode (kB K_MS_next) 7 = .ok (.if_icmp .ge 18, 3) := by decide +kernel
theorem d_MS_next_10 : decode (kB K_MS_next) 10 = .ok (.aload_n 0, 1) := by decide +kernel
theorem d_MS_next_11 : decode (kB K_MS_next) 11 = .ok (.iload_n 1, 1) := by decide +kernel
theorem d_MS_next_12 : decode (kB K_MS_next) 12 = .ok (.iload_n 2, 1) := by decide +kernel
theorem d_MS_next_13 : decode (kB K_MS_next) 13 = .ok (.invokevirtual 163, 3) := by decide +kernel
theorem d_MS_next_16 : decode (kB K_MS_next) 16 = .ok (.ifCond .ne 9, 3) := by decide +kernel
theorem d_MS_next_19 : decode (kB K_MS_next) 19 = .ok (.iinc 2 1, 3) := by decide +kernel
theorem d_MS_next_22 : decode (kB K_MS_next) 22 = .ok (.goto (-20), 3) := by decide +kernel
theorem d_MS_next_25 : decode (kB K_MS_next) 25 = .ok (.iload_n 2, 1) := by decide +kernel
theorem d_MS_next_26 : decode (kB K_MS_next) 26 = .ok (.ireturn, 1) := by decide +kernel
def K_MS_hang : KM := (⟨"ParishBoardsModel$State", "hang", "(II)V"⟩, prog_17_method_25_code, 5, none, "ParishBoardsModel$State", [])
theorem d_MS_hang_0 : decode (kB K_MS_hang) 0 = .ok (.aload_n 0, 1) := by decide +kernel
theorem d_MS_hang_1 : decode (kB K_MS_hang) 1 = .ok (.getfield 37, 3) := by decide +kernel
theorem d_MS_hang_4 : decode (kB K_MS_hang) 4 = .ok (.iconst 5, 1) := by decide +kernel
theorem d_MS_hang_5 : decode (kB K_MS_hang) 5 = .ok (.iload_n 1, 1) := by decide +kernel
theorem d_MS_hang_6 : decode (kB K_MS_hang) 6 = .ok (.imul, 1) := by decide +kernel
theorem d_MS_hang_7 : decode (kB K_MS_hang) 7 = .ok (.aload_n 0, 1) := by decide +kernel
theorem d_MS_hang_8 : decode (kB K_MS_hang) 8 = .ok (.getfield 15, 3) := by decide +kernel
theorem d_MS_hang_11 : decode (kB K_MS_hang) 11 = .ok (.iload_n 2, 1) := by decide +kernel
theorem d_MS_hang_12 : decode (kB K_MS_hang) 12 = .ok (.iaload, 1) := by decide +kernel
theorem d_MS_hang_13 : decode (kB K_MS_hang) 13 = .ok (.iadd, 1) := by decide +kernel
theorem d_MS_hang_14 : decode (kB K_MS_hang) 14 = .ok (.dup2, 1) := by decide +kernel
theorem d_MS_hang_15 : decode (kB K_MS_hang) 15 = .ok (.iaload, 1) := by decide +kernel
theorem d_MS_hang_16 : decode (kB K_MS_hang) 16 = .ok (.iconst 1, 1) := by decide +kernel
theorem d_MS_hang_17 : decode (kB K_MS_hang) 17 = .ok (.iadd, 1) := by decide +kernel
theorem d_MS_hang_18 : decode (kB K_MS_hang) 18 = .ok (.iastore, 1) := by decide +kernel
theorem d_MS_hang_19 : decode (kB K_MS_hang) 19 = .ok (.aload_n 0, 1) := by decide +kernel
theorem d_MS_hang_20 : decode (kB K_MS_hang) 20 = .ok (.getfield 43, 3) := by decide +kernel
theorem d_MS_hang_23 : decode (kB K_MS_hang) 23 = .ok (.iload_n 1, 1) := by decide +kernel
theorem d_MS_hang_24 : decode (kB K_MS_hang) 24 = .ok (.dup2, 1) := by decide +kernel
theorem d_MS_hang_25 : decode (kB K_MS_hang) 25 = .ok (.laload, 1) := by decide +kernel
theorem d_MS_hang_26 : decode (kB K_MS_hang) 26 = .ok (.lconst 1, 1) := by decide +kernel
theorem d_MS_hang_27 : decode (kB K_MS_hang) 27 = .ok (.iload_n 2, 1) := by decide +kernel
theorem d_MS_hang_28 : decode (kB K_MS_hang) 28 = .ok (.lshl, 1) := by decide +kernel
theorem d_MS_hang_29 : decode (kB K_MS_hang) 29 = .ok (.ldc2_w 166, 3) := by decide +kernel
theorem d_MS_hang_32 : decode (kB K_MS_hang) 32 = .ok (.lxor, 1) := by decide +kernel
theorem d_MS_hang_33 : decode (kB K_MS_hang) 33 = .ok (.land, 1) := by decide +kernel
theorem d_MS_hang_34 : decode (kB K_MS_hang) 34 = .ok (.lastore, 1) := by decide +kernel
theorem d_MS_hang_35 : decode (kB K_MS_hang) 35 = .ok (.iconst 0, 1) := by decide +kernel
theorem d_MS_hang_36 : decode (kB K_MS_hang) 36 = .ok (.istore_n 3, 1) := by decide +kernel
theorem d_MS_hang_37 : decode (kB K_MS_hang) 37 = .ok (.iload_n 3, 1) := by decide +kernel
theorem d_MS_hang_38 : decode (kB K_MS_hang) 38 = .ok (.iconst 5, 1) := by decide +kernel
theorem d_MS_hang_39 : decode (kB K_MS_hang) 39 = .ok (.if_icmp .ge 62, 3) := by decide +kernel
theorem d_MS_hang_42 : decode (kB K_MS_hang) 42 = .ok (.aload_n 0, 1) := by decide +kernel
theorem d_MS_hang_43 : decode (kB K_MS_hang) 43 = .ok (.getfield 40, 3) := by decide +kernel
theorem d_MS_hang_46 : decode (kB K_MS_hang) 46 = .ok (.aload_n 0, 1) := by decide +kernel
theorem d_MS_hang_47 : decode (kB K_MS_hang) 47 = .ok (.iload_n 1, 1) := by decide +kernel
theorem d_MS_hang_48 : decode (kB K_MS_hang) 48 = .ok (.aload_n 0, 1) := by decide +kernel
theorem d_MS_hang_49 : decode (kB K_MS_hang) 49 = .ok (.getfield 19, 3) := by decide +kernel
theorem d_MS_hang_52 : decode (kB K_MS_hang) 52 = .ok (.iload_n 2, 1) := by decide +kernel
theorem d_MS_hang_53 : decode (kB K_MS_hang) 53 = .ok (.iaload, 1) := by decide +kernel
theorem d_MS_hang_54 : decode (kB K_MS_hang) 54 = .ok (.iload_n 3, 1) := by decide +kernel
theorem d_MS_hang_55 : decode (kB K_MS_hang) 55 = .ok (.invokevirtual 117, 3) := by decide +kernel
theorem d_MS_hang_58 : decode (kB K_MS_hang) 58 = .ok (.iaload, 1) := by decide +kernel
theorem d_MS_hang_59 : decode (kB K_MS_hang) 59 = .ok (.istore 4, 2) := by decide +kernel
theorem d_MS_hang_61 : decode (kB K_MS_hang) 61 = .ok (.iload 4, 2) := by decide +kernel
theorem d_MS_hang_63 : decode (kB K_MS_hang) 63 = .ok (.iconst (-1), 1) := by decide +kernel
theorem d_MS_hang_64 : decode (kB K_MS_hang) 64 = .ok (.if_icmp .eq 31, 3) := by decide +kernel
theorem d_MS_hang_67 : decode (kB K_MS_hang) 67 = .ok (.aload_n 0, 1) := by decide +kernel
theorem d_MS_hang_68 : decode (kB K_MS_hang) 68 = .ok (.iload 4, 2) := by decide +kernel
theorem d_MS_hang_70 : decode (kB K_MS_hang) 70 = .ok (.iload_n 2, 1) := by decide +kernel
theorem d_MS_hang_71 : decode (kB K_MS_hang) 71 = .ok (.invokevirtual 168, 3) := by decide +kernel
theorem d_MS_hang_74 : decode (kB K_MS_hang) 74 = .ok (.ifCond .eq 21, 3) := by decide +kernel
theorem d_MS_hang_77 : decode (kB K_MS_hang) 77 = .ok (.aload_n 0, 1) := by decide +kernel
theorem d_MS_hang_78 : decode (kB K_MS_hang) 78 = .ok (.getfield 40, 3) := by decide +kernel
theorem d_MS_hang_81 : decode (kB K_MS_hang) 81 = .ok (.aload_n 0, 1) := by decide +kernel
theorem d_MS_hang_82 : decode (kB K_MS_hang) 82 = .ok (.iload_n 1, 1) := by decide +kernel
theorem d_MS_hang_83 : decode (kB K_MS_hang) 83 = .ok (.aload_n 0, 1) := by decide +kernel
theorem d_MS_hang_84 : decode (kB K_MS_hang) 84 = .ok (.getfield 19, 3) := by decide +kernel
theorem d_MS_hang_87 : decode (kB K_MS_hang) 87 = .ok (.iload_n 2, 1) := by decide +kernel
theorem d_MS_hang_88 : decode (kB K_MS_hang) 88 = .ok (.iaload, 1) := by decide +kernel
theorem d_MS_hang_89 : decode (kB K_MS_hang) 89 = .ok (.iload_n 3, 1) := by decide +kernel
theorem d_MS_hang_90 : decode (kB K_MS_hang) 90 = .ok (.invokevirtual 117, 3) := by decide +kernel
theorem d_MS_hang_93 : decode (kB K_MS_hang) 93 = .ok (.iconst (-1), 1) := by decide +kernel
theorem d_MS_hang_94 : decode (kB K_MS_hang) 94 = .ok (.iastore, 1) := by decide +kernel
theorem d_MS_hang_95 : decode (kB K_MS_hang) 95 = .ok (.iinc 3 1, 3) := by decide +kernel
theorem d_MS_hang_98 : decode (kB K_MS_hang) 98 = .ok (.goto (-61), 3) := by decide +kernel
theorem d_MS_hang_101 : decode (kB K_MS_hang) 101 = .ok (.aload_n 0, 1) := by decide +kernel
theorem d_MS_hang_102 : decode (kB K_MS_hang) 102 = .ok (.getfield 40, 3) := by decide +kernel
theorem d_MS_hang_105 : decode (kB K_MS_hang) 105 = .ok (.aload_n 0, 1) := by decide +kernel
theorem d_MS_hang_106 : decode (kB K_MS_hang) 106 = .ok (.iload_n 1, 1) := by decide +kernel
theorem d_MS_hang_107 : decode (kB K_MS_hang) 107 = .ok (.aload_n 0, 1) := by decide +kernel
theorem d_MS_hang_108 : decode (kB K_MS_hang) 108 = .ok (.getfield 19, 3) := by decide +kernel
theorem d_MS_hang_111 : decode (kB K_MS_hang) 111 = .ok (.iload_n 2, 1) := by decide +kernel
theorem d_MS_hang_112 : decode (kB K_MS_hang) 112 = .ok (.iaload, 1) := by decide +kernel
theorem d_MS_hang_113 : decode (kB K_MS_hang) 113 = .ok (.aload_n 0, 1) := by decide +kernel
theorem d_MS_hang_114 : decode (kB K_MS_hang) 114 = .ok (.getfield 15, 3) := by decide +kernel
theorem d_MS_hang_117 : decode (kB K_MS_hang) 117 = .ok (.iload_n 2, 1) := by decide +kernel
theorem d_MS_hang_118 : decode (kB K_MS_hang) 118 = .ok (.iaload, 1) := by decide +kernel
theorem d_MS_hang_119 : decode (kB K_MS_hang) 119 = .ok (.invokevirtual 117, 3) := by decide +kernel
theorem d_MS_hang_122 : decode (kB K_MS_hang) 122 = .ok (.iload_n 2, 1) := by decide +kernel
theorem d_MS_hang_123 : decode (kB K_MS_hang) 123 = .ok (.iastore, 1) := by decide +kernel
theorem d_MS_hang_124 : decode (kB K_MS_hang) 124 = .ok (.aload_n 0, 1) := by decide +kernel
theorem d_MS_hang_125 : decode (kB K_MS_hang) 125 = .ok (.dup, 1) := by decide +kernel
theorem d_MS_hang_126 : decode (kB K_MS_hang) 126 = .ok (.getfield 81, 3) := by decide +kernel
theorem d_MS_hang_129 : decode (kB K_MS_hang) 129 = .ok (.iconst 1, 1) := by decide +kernel
theorem d_MS_hang_130 : decode (kB K_MS_hang) 130 = .ok (.iadd, 1) := by decide +kernel
theorem d_MS_hang_131 : decode (kB K_MS_hang) 131 = .ok (.putfield 81, 3) := by decide +kernel
theorem d_MS_hang_134 : decode (kB K_MS_hang) 134 = .ok (.return_, 1) := by decide +kernel
def K_MS_order : KM := (⟨"ParishBoardsModel$State", "order", "(I)Z"⟩, prog_17_method_26_code, 6, (some (.boolean)), "ParishBoardsModel$State", [])
theorem d_MS_order_0 : decode (kB K_MS_order) 0 = .ok (.aload_n 0, 1) := by decide +kernel
theorem d_MS_order_1 : decode (kB K_MS_order) 1 = .ok (.getfield 3, 3) := by decide +kernel
theorem d_MS_order_4 : decode (kB K_MS_order) 4 = .ok (.getfield 100, 3) := by decide +kernel
theorem d_MS_order_7 : decode (kB K_MS_order) 7 = .ok (.getfield 171, 3) := by decide +kernel
theorem d_MS_order_10 : decode (kB K_MS_order) 10 = .ok (.iload_n 1, 1) := by decide +kernel
theorem d_MS_order_11 : decode (kB K_MS_order) 11 = .ok (.iaload, 1) := by decide +kernel
theorem d_MS_order_12 : decode (kB K_MS_order) 12 = .ok (.istore_n 2, 1) := by decide +kernel
theorem d_MS_order_13 : decode (kB K_MS_order) 13 = .ok (.aload_n 0, 1) := by decide +kernel
theorem d_MS_order_14 : decode (kB K_MS_order) 14 = .ok (.getfield 3, 3) := by decide +kernel
theorem d_MS_order_17 : decode (kB K_MS_order) 17 = .ok (.getfield 100, 3) := by decide +kernel
theorem d_MS_order_20 : decode (kB K_MS_order) 20 = .ok (.getfield 174, 3) := by decide +kernel
theorem d_MS_order_23 : decode (kB K_MS_order) 23 = .ok (.iload_n 1, 1) := by decide +kernel
theorem d_MS_order_24 : decode (kB K_MS_order) 24 = .ok (.iaload, 1) := by decide +kernel
theorem d_MS_order_25 : decode (kB K_MS_order) 25 = .ok (.istore_n 3, 1) := by decide +kernel
theorem d_MS_order_26 : decode (kB K_MS_order) 26 = .ok (.aload_n 0, 1) := by decide +kernel
theorem d_MS_order_27 : decode (kB K_MS_order) 27 = .ok (.getfield 3, 3) := by decide +kernel
theorem d_MS_order_30 : decode (kB K_MS_order) 30 = .ok (.getfield 100, 3) := by decide +kernel
theorem d_MS_order_33 : decode (kB K_MS_order) 33 = .ok (.getfield 177, 3) := by decide +kernel
theorem d_MS_order_36 : decode (kB K_MS_order) 36 = .ok (.iload_n 1, 1) := by decide +kernel
theorem d_MS_order_37 : decode (kB K_MS_order) 37 = .ok (.iaload, 1) := by decide +kernel
theorem d_MS_order_38 : decode (kB K_MS_order) 38 = .ok (.bipush 9, 2) := by decide +kernel
theorem d_MS_order_40 : decode (kB K_MS_order) 40 = .ok (.if_icmp .ne 17, 3) := by decide +kernel
theorem d_MS_order_43 : decode (kB K_MS_order) 43 = .ok (.aload_n 0, 1) := by decide +kernel
theorem d_MS_order_44 : decode (kB K_MS_order) 44 = .ok (.iload_n 2, 1) := by decide +kernel
theorem d_MS_order_45 : decode (kB K_MS_order) 45 = .ok (.invokevirtual 180, 3) := by decide +kernel
theorem d_MS_order_48 : decode (kB K_MS_order) 48 = .ok (.ifCond .le 7, 3) := by decide +kernel
theorem d_MS_order_51 : decode (kB K_MS_order) 51 = .ok (.iconst 1, 1) := by decide +kernel
theorem d_MS_order_52 : decode (kB K_MS_order) 52 = .ok (.goto 4, 3) := by decide +kernel
theorem d_MS_order_55 : decode (kB K_MS_order) 55 = .ok (.iconst 0, 1) := by decide +kernel
theorem d_MS_order_56 : decode (kB K_MS_order) 56 = .ok (.ireturn, 1) := by decide +kernel
theorem d_MS_order_57 : decode (kB K_MS_order) 57 = .ok (.aload_n 0, 1) := by decide +kernel
theorem d_MS_order_58 : decode (kB K_MS_order) 58 = .ok (.getfield 78, 3) := by decide +kernel
theorem d_MS_order_61 : decode (kB K_MS_order) 61 = .ok (.bipush 60, 2) := by decide +kernel
theorem d_MS_order_63 : decode (kB K_MS_order) 63 = .ok (.if_icmp .ne 5, 3) := by decide +kernel
theorem d_MS_order_66 : decode (kB K_MS_order) 66 = .ok (.iconst 0, 1) := by decide +kernel
theorem d_MS_order_67 : decode (kB K_MS_order) 67 = .ok (.ireturn, 1) := by decide +kernel
theorem d_MS_order_68 : decode (kB K_MS_order) 68 = .ok (.aload_n 0, 1) := by decide +kernel
theorem d_MS_order_69 : decode (kB K_MS_order) 69 = .ok (.getfield 3, 3) := by decide +kernel
theorem d_MS_order_72 : decode (kB K_MS_order) 72 = .ok (.getfield 100, 3) := by decide +kernel
theorem d_MS_order_75 : decode (kB K_MS_order) 75 = .ok (.getfield 177, 3) := by decide +kernel
theorem d_MS_order_78 : decode (kB K_MS_order) 78 = .ok (.iload_n 1, 1) := by decide +kernel
theorem d_MS_order_79 : decode (kB K_MS_order) 79 = .ok (.iaload, 1) := by decide +kernel
theorem d_MS_order_80 : decode (kB K_MS_order) 80 = .ok (.bipush 8, 2) := by decide +kernel
theorem d_MS_order_82 : decode (kB K_MS_order) 82 = .ok (.if_icmp .ne 7, 3) := by decide +kernel
theorem d_MS_order_85 : decode (kB K_MS_order) 85 = .ok (.iconst 0, 1) := by decide +kernel
theorem d_MS_order_86 : decode (kB K_MS_order) 86 = .ok (.goto 31, 3) := by decide +kernel
theorem d_MS_order_89 : decode (kB K_MS_order) 89 = .ok (.aload_n 0, 1) := by decide +kernel
theorem d_MS_order_90 : decode (kB K_MS_order) 90 = .ok (.aload_n 0, 1) := by decide +kernel
theorem d_MS_order_91 : decode (kB K_MS_order) 91 = .ok (.getfield 3, 3) := by decide +kernel
theorem d_MS_order_94 : decode (kB K_MS_order) 94 = .ok (.getfield 100, 3) := by decide +kernel
theorem d_MS_order_97 : decode (kB K_MS_order) 97 = .ok (.getfield 184, 3) := by decide +kernel
theorem d_MS_order_100 : decode (kB K_MS_order) 100 = .ok (.iload_n 1, 1) := by decide +kernel
theorem d_MS_order_101 : decode (kB K_MS_order) 101 = .ok (.iaload, 1) := by decide +kernel
theorem d_MS_order_102 : decode (kB K_MS_order) 102 = .ok (.aload_n 0, 1) := by decide +kernel
theorem d_MS_order_103 : decode (kB K_MS_order) 103 = .ok (.getfield 3, 3) := by decide +kernel
theorem d_MS_order_106 : decode (kB K_MS_order) 106 = .ok (.getfield 100, 3) := by decide +kernel
theorem d_MS_order_109 : decode (kB K_MS_order) 109 = .ok (.getfield 187, 3) := by decide +kernel
theorem d_MS_order_112 : decode (kB K_MS_order) 112 = .ok (.iload_n 1, 1) := by decide +kernel
theorem d_MS_order_113 : decode (kB K_MS_order) 113 = .ok (.iaload, 1) := by decide +kernel
theorem d_MS_order_114 : decode (kB K_MS_order) 114 = .ok (.invokevirtual 190, 3) := by decide +kernel
theorem d_MS_order_117 : decode (kB K_MS_order) 117 = .ok (.istore 4, 2) := by decide +kernel
theorem d_MS_order_119 : decode (kB K_MS_order) 119 = .ok (.aload_n 0, 1) := by decide +kernel
theorem d_MS_order_120 : decode (kB K_MS_order) 120 = .ok (.iload_n 2, 1) := by decide +kernel
theorem d_MS_order_121 : decode (kB K_MS_order) 121 = .ok (.iload_n 3, 1) := by decide +kernel
theorem d_MS_order_122 : decode (kB K_MS_order) 122 = .ok (.invokevirtual 121, 3) := by decide +kernel
theorem d_MS_order_125 : decode (kB K_MS_order) 125 = .ok (.istore 5, 2) := by decide +kernel
theorem d_MS_order_127 : decode (kB K_MS_order) 127 = .ok (.aload_n 0, 1) := by decide +kernel
theorem d_MS_order_128 : decode (kB K_MS_order) 128 = .ok (.getfield 3, 3) := by decide +kernel
theorem d_MS_order_131 : decode (kB K_MS_order) 131 = .ok (.getfield 100, 3) := by decide +kernel
theorem d_MS_order_134 : decode (kB K_MS_order) 134 = .ok (.getfield 177, 3) := by decide +kernel
theorem d_MS_order_137 : decode (kB K_MS_order) 137 = .ok (.iload_n 1, 1) := by decide +kernel
theorem d_MS_order_138 : decode (kB K_MS_order) 138 = .ok (.iaload, 1) := by decide +kernel
theorem d_MS_order_139 : decode (kB K_MS_order) 139 = .ok (.bipush 8, 2) := by decide +kernel
theorem d_MS_order_141 : decode (kB K_MS_order) 141 = .ok (.if_icmp .ne 37, 3) := by decide +kernel
theorem d_MS_order_144 : decode (kB K_MS_order) 144 = .ok (.iload 5, 2) := by decide +kernel
theorem d_MS_order_146 : decode (kB K_MS_order) 146 = .ok (.iconst 1, 1) := by decide +kernel
theorem d_MS_order_147 : decode (kB K_MS_order) 147 = .ok (.if_icmp .le 29, 3) := by decide +kernel
theorem d_MS_order_150 : decode (kB K_MS_order) 150 = .ok (.aload_n 0, 1) := by decide +kernel
theorem d_MS_order_151 : decode (kB K_MS_order) 151 = .ok (.iload_n 2, 1) := by decide +kernel
theorem d_MS_order_152 : decode (kB K_MS_order) 152 = .ok (.iload_n 3, 1) := by decide +kernel
theorem d_MS_order_153 : decode (kB K_MS_order) 153 = .ok (.aload_n 0, 1) := by decide +kernel
theorem d_MS_order_154 : decode (kB K_MS_order) 154 = .ok (.getfield 3, 3) := by decide +kernel
theorem d_MS_order_157 : decode (kB K_MS_order) 157 = .ok (.getfield 100, 3) := by decide +kernel
theorem d_MS_order_160 : decode (kB K_MS_order) 160 = .ok (.getfield 193, 3) := by decide +kernel
theorem d_MS_order_163 : decode (kB K_MS_order) 163 = .ok (.iload_n 1, 1) := by decide +kernel
theorem d_MS_order_164 : decode (kB K_MS_order) 164 = .ok (.iaload, 1) := by decide +kernel
theorem d_MS_order_165 : decode (kB K_MS_order) 165 = .ok (.invokevirtual 196, 3) := by decide +kernel
theorem d_MS_order_168 : decode (kB K_MS_order) 168 = .ok (.iconst (-1), 1) := by decide +kernel
theorem d_MS_order_169 : decode (kB K_MS_order) 169 = .ok (.if_icmp .eq 7, 3) := by decide +kernel
theorem d_MS_order_172 : decode (kB K_MS_order) 172 = .ok (.iconst 1, 1) := by decide +kernel
theorem d_MS_order_173 : decode (kB K_MS_order) 173 = .ok (.goto 4, 3) := by decide +kernel
theorem d_MS_order_176 : decode (kB K_MS_order) 176 = .ok (.iconst 0, 1) := by decide +kernel
theorem d_MS_order_177 : decode (kB K_MS_order) 177 = .ok (.ireturn, 1) := by decide +kernel
theorem d_MS_order_178 : decode (kB K_MS_order) 178 = .ok (.aload_n 0, 1) := by decide +kernel
theorem d_MS_order_179 : decode (kB K_MS_order) 179 = .ok (.getfield 3, 3) := by decide +kernel
theorem d_MS_order_182 : decode (kB K_MS_order) 182 = .ok (.getfield 100, 3) := by decide +kernel
theorem d_MS_order_185 : decode (kB K_MS_order) 185 = .ok (.getfield 177, 3) := by decide +kernel
theorem d_MS_order_188 : decode (kB K_MS_order) 188 = .ok (.iload_n 1, 1) := by decide +kernel
theorem d_MS_order_189 : decode (kB K_MS_order) 189 = .ok (.iaload, 1) := by decide +kernel
theorem d_MS_order_190 : decode (kB K_MS_order) 190 = .ok (.bipush 6, 2) := by decide +kernel
theorem d_MS_order_192 : decode (kB K_MS_order) 192 = .ok (.if_icmp .ne 31, 3) := by decide +kernel
theorem d_MS_order_195 : decode (kB K_MS_order) 195 = .ok (.aload_n 0, 1) := by decide +kernel
theorem d_MS_order_196 : decode (kB K_MS_order) 196 = .ok (.iload_n 2, 1) := by decide +kernel
theorem d_MS_order_197 : decode (kB K_MS_order) 197 = .ok (.iload_n 3, 1) := by decide +kernel
theorem d_MS_order_198 : decode (kB K_MS_order) 198 = .ok (.iconst 0, 1) := by decide +kernel
theorem d_MS_order_199 : decode (kB K_MS_order) 199 = .ok (.sipush 9999, 3) := by decide +kernel
theorem d_MS_order_202 : decode (kB K_MS_order) 202 = .ok (.iload 4, 2) := by decide +kernel
theorem d_MS_order_204 : decode (kB K_MS_order) 204 = .ok (.invokestatic 131, 3) := by decide +kernel
theorem d_MS_order_207 : decode (kB K_MS_order) 207 = .ok (.invokestatic 136, 3) := by decide +kernel
theorem d_MS_order_210 : decode (kB K_MS_order) 210 = .ok (.invokevirtual 199, 3) := by decide +kernel
theorem d_MS_order_213 : decode (kB K_MS_order) 213 = .ok (.iconst (-1), 1) := by decide +kernel
theorem d_MS_order_214 : decode (kB K_MS_order) 214 = .ok (.if_icmp .eq 7, 3) := by decide +kernel
theorem d_MS_order_217 : decode (kB K_MS_order) 217 = .ok (.iconst 1, 1) := by decide +kernel
theorem d_MS_order_218 : decode (kB K_MS_order) 218 = .ok (.goto 4, 3) := by decide +kernel
theorem d_MS_order_221 : decode (kB K_MS_order) 221 = .ok (.iconst 0, 1) := by decide +kernel
theorem d_MS_order_222 : decode (kB K_MS_order) 222 = .ok (.ireturn, 1) := by decide +kernel
theorem d_MS_order_223 : decode (kB K_MS_order) 223 = .ok (.iload 4, 2) := by decide +kernel
theorem d_MS_order_225 : decode (kB K_MS_order) 225 = .ok (.iconst 0, 1) := by decide +kernel
theorem d_MS_order_226 : decode (kB K_MS_order) 226 = .ok (.bipush 15, 2) := by decide +kernel
theorem d_MS_order_228 : decode (kB K_MS_order) 228 = .ok (.invokestatic 202, 3) := by decide +kernel
theorem d_MS_order_231 : decode (kB K_MS_order) 231 = .ok (.ifCond .eq 39, 3) := by decide +kernel
theorem d_MS_order_234 : decode (kB K_MS_order) 234 = .ok (.iload 5, 2) := by decide +kernel
theorem d_MS_order_236 : decode (kB K_MS_order) 236 = .ok (.iconst 1, 1) := by decide +kernel
theorem d_MS_order_237 : decode (kB K_MS_order) 237 = .ok (.if_icmp .ne 33, 3) := by decide +kernel
theorem d_MS_order_240 : decode (kB K_MS_order) 240 = .ok (.aload_n 0, 1) := by decide +kernel
theorem d_MS_order_241 : decode (kB K_MS_order) 241 = .ok (.iload_n 2, 1) := by decide +kernel
theorem d_MS_order_242 : decode (kB K_MS_order) 242 = .ok (.iload_n 3, 1) := by decide +kernel
theorem d_MS_order_243 : decode (kB K_MS_order) 243 = .ok (.invokevirtual 142, 3) := by decide +kernel
theorem d_MS_order_246 : decode (kB K_MS_order) 246 = .ok (.iload 4, 2) := by decide +kernel
theorem d_MS_order_248 : decode (kB K_MS_order) 248 = .ok (.ishr, 1) := by decide +kernel
theorem d_MS_order_249 : decode (kB K_MS_order) 249 = .ok (.iconst 1, 1) := by decide +kernel
theorem d_MS_order_250 : decode (kB K_MS_order) 250 = .ok (.iand, 1) := by decide +kernel
theorem d_MS_order_251 : decode (kB K_MS_order) 251 = .ok (.ifCond .ne 19, 3) := by decide +kernel
theorem d_MS_order_254 : decode (kB K_MS_order) 254 = .ok (.aload_n 0, 1) := by decide +kernel
theorem d_MS_order_255 : decode (kB K_MS_order) 255 = .ok (.iload_n 2, 1) := by decide +kernel
theorem d_MS_order_256 : decode (kB K_MS_order) 256 = .ok (.iload_n 3, 1) := by decide +kernel
theorem d_MS_order_257 : decode (kB K_MS_order) 257 = .ok (.iload 4, 2) := by decide +kernel
theorem d_MS_order_259 : decode (kB K_MS_order) 259 = .ok (.invokevirtual 206, 3) := by decide +kernel
theorem d_MS_order_262 : decode (kB K_MS_order) 262 = .ok (.iconst (-1), 1) := by decide +kernel
theorem d_MS_order_263 : decode (kB K_MS_order) 263 = .ok (.if_icmp .eq 7, 3) := by decide +kernel
theorem d_MS_order_266 : decode (kB K_MS_order) 266 = .ok (.iconst 1, 1) := by decide +kernel
theorem d_MS_order_267 : decode (kB K_MS_order) 267 = .ok (.goto 4, 3) := by decide +kernel
theorem d_MS_order_270 : decode (kB K_MS_order) 270 = .ok (.iconst 0, 1) := by decide +kernel
theorem d_MS_order_271 : decode (kB K_MS_order) 271 = .ok (.ireturn, 1) := by decide +kernel
def K_MS_holds : KM := (⟨"ParishBoardsModel$State", "holds", "(I)Z"⟩, prog_17_method_27_code, 2, (some (.boolean)), "ParishBoardsModel$State", [])
theorem d_MS_holds_0 : decode (kB K_MS_holds) 0 = .ok (.aload_n 0, 1) := by decide +kernel
theorem d_MS_holds_1 : decode (kB K_MS_holds) 1 = .ok (.getfield 3, 3) := by decide +kernel
theorem d_MS_holds_4 : decode (kB K_MS_holds) 4 = .ok (.getfield 100, 3) := by decide +kernel
theorem d_MS_holds_7 : decode (kB K_MS_holds) 7 = .ok (.getfield 209, 3) := by decide +kernel
theorem d_MS_holds_10 : decode (kB K_MS_holds) 10 = .ok (.iload_n 1, 1) := by decide +kernel
theorem d_MS_holds_11 : decode (kB K_MS_holds) 11 = .ok (.iaload, 1) := by decide +kernel
theorem d_MS_holds_12 : decode (kB K_MS_holds) 12 = .ok (.aload_n 0, 1) := by decide +kernel
theorem d_MS_holds_13 : decode (kB K_MS_holds) 13 = .ok (.getfield 3, 3) := by decide +kernel
theorem d_MS_holds_16 : decode (kB K_MS_holds) 16 = .ok (.getfield 100, 3) := by decide +kernel
theorem d_MS_holds_19 : decode (kB K_MS_holds) 19 = .ok (.getfield 187, 3) := by decide +kernel
theorem d_MS_holds_22 : decode (kB K_MS_holds) 22 = .ok (.iload_n 1, 1) := by decide +kernel
theorem d_MS_holds_23 : decode (kB K_MS_holds) 23 = .ok (.iaload, 1) := by decide +kernel
theorem d_MS_holds_24 : decode (kB K_MS_holds) 24 = .ok (.if_icmp .eq 35, 3) := by decide +kernel
theorem d_MS_holds_27 : decode (kB K_MS_holds) 27 = .ok (.aload_n 0, 1) := by decide +kernel
theorem d_MS_holds_28 : decode (kB K_MS_holds) 28 = .ok (.aload_n 0, 1) := by decide +kernel
theorem d_MS_holds_29 : decode (kB K_MS_holds) 29 = .ok (.getfield 3, 3) := by decide +kernel
theorem d_MS_holds_32 : decode (kB K_MS_holds) 32 = .ok (.getfield 100, 3) := by decide +kernel
theorem d_MS_holds_35 : decode (kB K_MS_holds) 35 = .ok (.getfield 187, 3) := by decide +kernel
theorem d_MS_holds_38 : decode (kB K_MS_holds) 38 = .ok (.iload_n 1, 1) := by decide +kernel
theorem d_MS_holds_39 : decode (kB K_MS_holds) 39 = .ok (.iaload, 1) := by decide +kernel
theorem d_MS_holds_40 : decode (kB K_MS_holds) 40 = .ok (.aload_n 0, 1) := by decide +kernel
theorem d_MS_holds_41 : decode (kB K_MS_holds) 41 = .ok (.getfield 3, 3) := by decide +kernel
theorem d_MS_holds_44 : decode (kB K_MS_holds) 44 = .ok (.getfield 100, 3) := by decide +kernel
theorem d_MS_holds_47 : decode (kB K_MS_holds) 47 = .ok (.getfield 209, 3) := by decide +kernel
theorem d_MS_holds_50 : decode (kB K_MS_holds) 50 = .ok (.iload_n 1, 1) := by decide +kernel
theorem d_MS_holds_51 : decode (kB K_MS_holds) 51 = .ok (.iaload, 1) := by decide +kernel
theorem d_MS_holds_52 : decode (kB K_MS_holds) 52 = .ok (.invokevirtual 190, 3) := by decide +kernel
theorem d_MS_holds_55 : decode (kB K_MS_holds) 55 = .ok (.iconst 1, 1) := by decide +kernel
theorem d_MS_holds_56 : decode (kB K_MS_holds) 56 = .ok (.if_icmp .ne 7, 3) := by decide +kernel
theorem d_MS_holds_59 : decode (kB K_MS_holds) 59 = .ok (.iconst 1, 1) := by decide +kernel
theorem d_MS_holds_60 : decode (kB K_MS_holds) 60 = .ok (.goto 4, 3) := by decide +kernel
theorem d_MS_holds_63 : decode (kB K_MS_holds) 63 = .ok (.iconst 0, 1) := by decide +kernel
theorem d_MS_holds_64 : decode (kB K_MS_holds) 64 = .ok (.ireturn, 1) := by decide +kernel
def K_MS_pass : KM := (⟨"ParishBoardsModel$State", "pass", "()V"⟩, prog_17_method_28_code, 3, none, "ParishBoardsModel$State", [])
theorem d_MS_pass_0 : decode (kB K_MS_pass) 0 = .ok (.iconst 0, 1) := by decide +kernel
theorem d_MS_pass_1 : decode (kB K_MS_pass) 1 = .ok (.istore_n 1, 1) := by decide +kernel
theorem d_MS_pass_2 : decode (kB K_MS_pass) 2 = .ok (.iload_n 1, 1) := by decide +kernel
theorem d_MS_pass_3 : decode (kB K_MS_pass) 3 = .ok (.aload_n 0, 1) := by decide +kernel
theorem d_MS_pass_4 : decode (kB K_MS_pass) 4 = .ok (.getfield 3, 3) := by decide +kernel
theorem d_MS_pass_7 : decode (kB K_MS_pass) 7 = .ok (.getfield 100, 3) := by decide +kernel
theorem d_MS_pass_10 : decode (kB K_MS_pass) 10 = .ok (.getfield 212, 3) := by decide +kernel
theorem d_MS_pass_13 : decode (kB K_MS_pass) 13 = .ok (.if_icmp .ge 35, 3) := by decide +kernel
theorem d_MS_pass_16 : decode (kB K_MS_pass) 16 = .ok (.aload_n 0, 1) := by decide +kernel
theorem d_MS_pass_17 : decode (kB K_MS_pass) 17 = .ok (.iload_n 1, 1) := by decide +kernel
theorem d_MS_pass_18 : decode (kB K_MS_pass) 18 = .ok (.invokevirtual 215, 3) := by decide +kernel
theorem d_MS_pass_21 : decode (kB K_MS_pass) 21 = .ok (.ifCond .eq 21, 3) := by decide +kernel
theorem d_MS_pass_24 : decode (kB K_MS_pass) 24 = .ok (.aload_n 0, 1) := by decide +kernel
theorem d_MS_pass_25 : decode (kB K_MS_pass) 25 = .ok (.iload_n 1, 1) := by decide +kernel
theorem d_MS_pass_26 : decode (kB K_MS_pass) 26 = .ok (.invokevirtual 219, 3) := by decide +kernel
theorem d_MS_pass_29 : decode (kB K_MS_pass) 29 = .ok (.ifCond .eq 13, 3) := by decide +kernel
theorem d_MS_pass_32 : decode (kB K_MS_pass) 32 = .ok (.aload_n 0, 1) := by decide +kernel
theorem d_MS_pass_33 : decode (kB K_MS_pass) 33 = .ok (.dup, 1) := by decide +kernel
theorem d_MS_pass_34 : decode (kB K_MS_pass) 34 = .ok (.getfield 87, 3) := by decide +kernel
theorem d_MS_pass_37 : decode (kB K_MS_pass) 37 = .ok (.iconst 1, 1) := by decide +kernel
theorem d_MS_pass_38 : decode (kB K_MS_pass) 38 = .ok (.iadd, 1) := by decide +kernel
theorem d_MS_pass_39 : decode (kB K_MS_pass) 39 = .ok (.putfield 87, 3) := by decide +kernel
theorem d_MS_pass_42 : decode (kB K_MS_pass) 42 = .ok (.iinc 1 1, 3) := by decide +kernel
theorem d_MS_pass_45 : decode (kB K_MS_pass) 45 = .ok (.goto (-43), 3) := by decide +kernel
theorem d_MS_pass_48 : decode (kB K_MS_pass) 48 = .ok (.aload_n 0, 1) := by decide +kernel
theorem d_MS_pass_49 : decode (kB K_MS_pass) 49 = .ok (.invokevirtual 222, 3) := by decide +kernel
theorem d_MS_pass_52 : decode (kB K_MS_pass) 52 = .ok (.iconst 0, 1) := by decide +kernel
theorem d_MS_pass_53 : decode (kB K_MS_pass) 53 = .ok (.istore_n 1, 1) := by decide +kernel
theorem d_MS_pass_54 : decode (kB K_MS_pass) 54 = .ok (.iload_n 1, 1) := by decide +kernel
theorem d_MS_pass_55 : decode (kB K_MS_pass) 55 = .ok (.aload_n 0, 1) := by decide +kernel
theorem d_MS_pass_56 : decode (kB K_MS_pass) 56 = .ok (.getfield 3, 3) := by decide +kernel
theorem d_MS_pass_59 : decode (kB K_MS_pass) 59 = .ok (.getfield 100, 3) := by decide +kernel
theorem d_MS_pass_62 : decode (kB K_MS_pass) 62 = .ok (.getfield 114, 3) := by decide +kernel
theorem d_MS_pass_65 : decode (kB K_MS_pass) 65 = .ok (.if_icmp .ge 38, 3) := by decide +kernel
theorem d_MS_pass_68 : decode (kB K_MS_pass) 68 = .ok (.aload_n 0, 1) := by decide +kernel
theorem d_MS_pass_69 : decode (kB K_MS_pass) 69 = .ok (.iload_n 1, 1) := by decide +kernel
theorem d_MS_pass_70 : decode (kB K_MS_pass) 70 = .ok (.invokevirtual 225, 3) := by decide +kernel
theorem d_MS_pass_73 : decode (kB K_MS_pass) 73 = .ok (.istore_n 2, 1) := by decide +kernel
theorem d_MS_pass_74 : decode (kB K_MS_pass) 74 = .ok (.iload_n 2, 1) := by decide +kernel
theorem d_MS_pass_75 : decode (kB K_MS_pass) 75 = .ok (.aload_n 0, 1) := by decide +kernel
theorem d_MS_pass_76 : decode (kB K_MS_pass) 76 = .ok (.getfield 78, 3) := by decide +kernel
theorem d_MS_pass_79 : decode (kB K_MS_pass) 79 = .ok (.if_icmp .ge 18, 3) := by decide +kernel
theorem d_MS_pass_82 : decode (kB K_MS_pass) 82 = .ok (.aload_n 0, 1) := by decide +kernel
theorem d_MS_pass_83 : decode (kB K_MS_pass) 83 = .ok (.iload_n 1, 1) := by decide +kernel
theorem d_MS_pass_84 : decode (kB K_MS_pass) 84 = .ok (.iload_n 2, 1) := by decide +kernel
theorem d_MS_pass_85 : decode (kB K_MS_pass) 85 = .ok (.invokevirtual 228, 3) := by decide +kernel
theorem d_MS_pass_88 : decode (kB K_MS_pass) 88 = .ok (.aload_n 0, 1) := by decide +kernel
theorem d_MS_pass_89 : decode (kB K_MS_pass) 89 = .ok (.iload_n 1, 1) := by decide +kernel
theorem d_MS_pass_90 : decode (kB K_MS_pass) 90 = .ok (.invokevirtual 225, 3) := by decide +kernel
theorem d_MS_pass_93 : decode (kB K_MS_pass) 93 = .ok (.istore_n 2, 1) := by decide +kernel
theorem d_MS_pass_94 : decode (kB K_MS_pass) 94 = .ok (.goto (-20), 3) := by decide +kernel
theorem d_MS_pass_97 : decode (kB K_MS_pass) 97 = .ok (.iinc 1 1, 3) := by decide +kernel
theorem d_MS_pass_100 : decode (kB K_MS_pass) 100 = .ok (.goto (-46), 3) := by decide +kernel
theorem d_MS_pass_103 : decode (kB K_MS_pass) 103 = .ok (.aload_n 0, 1) := by decide +kernel
theorem d_MS_pass_104 : decode (kB K_MS_pass) 104 = .ok (.dup, 1) := by decide +kernel
theorem d_MS_pass_105 : decode (kB K_MS_pass) 105 = .ok (.getfield 74, 3) := by decide +kernel
theorem d_MS_pass_108 : decode (kB K_MS_pass) 108 = .ok (.iconst 1, 1) := by decide +kernel
theorem d_MS_pass_109 : decode (kB K_MS_pass) 109 = .ok (.iadd, 1) := by decide +kernel
theorem d_MS_pass_110 : decode (kB K_MS_pass) 110 = .ok (.putfield 74, 3) := by decide +kernel
theorem d_MS_pass_113 : decode (kB K_MS_pass) 113 = .ok (.return_, 1) := by decide +kernel
def K_MS_pass_ : KM := (⟨"ParishBoardsModel$State", "pass", "(I)LParishBoardsModel$State;"⟩, prog_17_method_29_code, 3, (some (.object "ParishBoardsModel$State")), "ParishBoardsModel$State", [])
theorem d_MS_pass__0 : decode (kB K_MS_pass_) 0 = .ok (.iconst 0, 1) := by decide +kernel
theorem d_MS_pass__1 : decode (kB K_MS_pass_) 1 = .ok (.istore_n 2, 1) := by decide +kernel
theorem d_MS_pass__2 : decode (kB K_MS_pass_) 2 = .ok (.iload_n 2, 1) := by decide +kernel
theorem d_MS_pass__3 : decode (kB K_MS_pass_) 3 = .ok (.iload_n 1, 1) := by decide +kernel
theorem d_MS_pass__4 : decode (kB K_MS_pass_) 4 = .ok (.if_icmp .ge 13, 3) := by decide +kernel
theorem d_MS_pass__7 : decode (kB K_MS_pass_) 7 = .ok (.aload_n 0, 1) := by decide +kernel
theorem d_MS_pass__8 : decode (kB K_MS_pass_) 8 = .ok (.invokevirtual 232, 3) := by decide +kernel
theorem d_MS_pass__11 : decode (kB K_MS_pass_) 11 = .ok (.iinc 2 1, 3) := by decide +kernel
theorem d_MS_pass__14 : decode (kB K_MS_pass_) 14 = .ok (.goto (-12), 3) := by decide +kernel
theorem d_MS_pass__17 : decode (kB K_MS_pass_) 17 = .ok (.aload_n 0, 1) := by decide +kernel
theorem d_MS_pass__18 : decode (kB K_MS_pass_) 18 = .ok (.areturn, 1) := by decide +kernel
def K_MS_known : KM := (⟨"ParishBoardsModel$State", "known", "(I)I"⟩, prog_17_method_30_code, 4, (some (.int)), "ParishBoardsModel$State", [])
theorem d_MS_known_0 : decode (kB K_MS_known) 0 = .ok (.iconst 0, 1) := by decide +kernel
theorem d_MS_known_1 : decode (kB K_MS_known) 1 = .ok (.istore_n 2, 1) := by decide +kernel
theorem d_MS_known_2 : decode (kB K_MS_known) 2 = .ok (.iconst 0, 1) := by decide +kernel
theorem d_MS_known_3 : decode (kB K_MS_known) 3 = .ok (.istore_n 3, 1) := by decide +kernel
theorem d_MS_known_4 : decode (kB K_MS_known) 4 = .ok (.iload_n 3, 1) := by decide +kernel
theorem d_MS_known_5 : decode (kB K_MS_known) 5 = .ok (.aload_n 0, 1) := by decide +kernel
theorem d_MS_known_6 : decode (kB K_MS_known) 6 = .ok (.getfield 3, 3) := by decide +kernel
theorem d_MS_known_9 : decode (kB K_MS_known) 9 = .ok (.getfield 100, 3) := by decide +kernel
theorem d_MS_known_12 : decode (kB K_MS_known) 12 = .ok (.getfield 114, 3) := by decide +kernel
theorem d_MS_known_15 : decode (kB K_MS_known) 15 = .ok (.if_icmp .ge 18, 3) := by decide +kernel
theorem d_MS_known_18 : decode (kB K_MS_known) 18 = .ok (.iload_n 2, 1) := by decide +kernel
theorem d_MS_known_19 : decode (kB K_MS_known) 19 = .ok (.aload_n 0, 1) := by decide +kernel
theorem d_MS_known_20 : decode (kB K_MS_known) 20 = .ok (.iload_n 1, 1) := by decide +kernel
theorem d_MS_known_21 : decode (kB K_MS_known) 21 = .ok (.iload_n 3, 1) := by decide +kernel
theorem d_MS_known_22 : decode (kB K_MS_known) 22 = .ok (.invokevirtual 111, 3) := by decide +kernel
theorem d_MS_known_25 : decode (kB K_MS_known) 25 = .ok (.iadd, 1) := by decide +kernel
theorem d_MS_known_26 : decode (kB K_MS_known) 26 = .ok (.istore_n 2, 1) := by decide +kernel
theorem d_MS_known_27 : decode (kB K_MS_known) 27 = .ok (.iinc 3 1, 3) := by decide +kernel
theorem d_MS_known_30 : decode (kB K_MS_known) 30 = .ok (.goto (-26), 3) := by decide +kernel
theorem d_MS_known_33 : decode (kB K_MS_known) 33 = .ok (.iload_n 2, 1) := by decide +kernel
theorem d_MS_known_34 : decode (kB K_MS_known) 34 = .ok (.ireturn, 1) := by decide +kernel
def K_MS_allKnown : KM := (⟨"ParishBoardsModel$State", "allKnown", "()I"⟩, prog_17_method_31_code, 3, (some (.int)), "ParishBoardsModel$State", [])
theorem d_MS_allKnown_0 : decode (kB K_MS_allKnown) 0 = .ok (.iconst 0, 1) := by decide +kernel
theorem d_MS_allKnown_1 : decode (kB K_MS_allKnown) 1 = .ok (.istore_n 1, 1) := by decide +kernel
theorem d_MS_allKnown_2 : decode (kB K_MS_allKnown) 2 = .ok (.iconst 0, 1) := by decide +kernel
theorem d_MS_allKnown_3 : decode (kB K_MS_allKnown) 3 = .ok (.istore_n 2, 1) := by decide +kernel
theorem d_MS_allKnown_4 : decode (kB K_MS_allKnown) 4 = .ok (.iload_n 2, 1) := by decide +kernel
theorem d_MS_allKnown_5 : decode (kB K_MS_allKnown) 5 = .ok (.aload_n 0, 1) := by decide +kernel
theorem d_MS_allKnown_6 : decode (kB K_MS_allKnown) 6 = .ok (.getfield 3, 3) := by decide +kernel
theorem d_MS_allKnown_9 : decode (kB K_MS_allKnown) 9 = .ok (.getfield 100, 3) := by decide +kernel
theorem d_MS_allKnown_12 : decode (kB K_MS_allKnown) 12 = .ok (.getfield 114, 3) := by decide +kernel
theorem d_MS_allKnown_15 : decode (kB K_MS_allKnown) 15 = .ok (.if_icmp .ge 17, 3) := by decide +kernel
theorem d_MS_allKnown_18 : decode (kB K_MS_allKnown) 18 = .ok (.iload_n 1, 1) := by decide +kernel
theorem d_MS_allKnown_19 : decode (kB K_MS_allKnown) 19 = .ok (.aload_n 0, 1) := by decide +kernel
theorem d_MS_allKnown_20 : decode (kB K_MS_allKnown) 20 = .ok (.iload_n 2, 1) := by decide +kernel
theorem d_MS_allKnown_21 : decode (kB K_MS_allKnown) 21 = .ok (.invokevirtual 235, 3) := by decide +kernel
theorem d_MS_allKnown_24 : decode (kB K_MS_allKnown) 24 = .ok (.iadd, 1) := by decide +kernel
theorem d_MS_allKnown_25 : decode (kB K_MS_allKnown) 25 = .ok (.istore_n 1, 1) := by decide +kernel
theorem d_MS_allKnown_26 : decode (kB K_MS_allKnown) 26 = .ok (.iinc 2 1, 3) := by decide +kernel
theorem d_MS_allKnown_29 : decode (kB K_MS_allKnown) 29 = .ok (.goto (-25), 3) := by decide +kernel
theorem d_MS_allKnown_32 : decode (kB K_MS_allKnown) 32 = .ok (.iload_n 1, 1) := by decide +kernel
theorem d_MS_allKnown_33 : decode (kB K_MS_allKnown) 33 = .ok (.ireturn, 1) := by decide +kernel
def K_MS_noticesOf : KM := (⟨"ParishBoardsModel$State", "noticesOf", "(II)I"⟩, prog_17_method_32_code, 5, (some (.int)), "ParishBoardsModel$State", [])
theorem d_MS_noticesOf_0 : decode (kB K_MS_noticesOf) 0 = .ok (.iconst 0, 1) := by decide +kernel
theorem d_MS_noticesOf_1 : decode (kB K_MS_noticesOf) 1 = .ok (.istore_n 3, 1) := by decide +kernel
theorem d_MS_noticesOf_2 : decode (kB K_MS_noticesOf) 2 = .ok (.iconst 0, 1) := by decide +kernel
theorem d_MS_noticesOf_3 : decode (kB K_MS_noticesOf) 3 = .ok (.istore 4, 2) := by decide +kernel
theorem d_MS_noticesOf_5 : decode (kB K_MS_noticesOf) 5 = .ok (.iload 4, 2) := by decide +kernel
theorem d_MS_noticesOf_7 : decode (kB K_MS_noticesOf) 7 = .ok (.aload_n 0, 1) := by decide +kernel
theorem d_MS_noticesOf_8 : decode (kB K_MS_noticesOf) 8 = .ok (.getfield 3, 3) := by decide +kernel
theorem d_MS_noticesOf_11 : decode (kB K_MS_noticesOf) 11 = .ok (.getfield 100, 3) := by decide +kernel
theorem d_MS_noticesOf_14 : decode (kB K_MS_noticesOf) 14 = .ok (.getfield 238, 3) := by decide +kernel
theorem d_MS_noticesOf_17 : decode (kB K_MS_noticesOf) 17 = .ok (.if_icmp .ge 28, 3) := by decide +kernel
theorem d_MS_noticesOf_20 : decode (kB K_MS_noticesOf) 20 = .ok (.iload_n 3, 1) := by decide +kernel
theorem d_MS_noticesOf_21 : decode (kB K_MS_noticesOf) 21 = .ok (.aload_n 0, 1) := by decide +kernel
theorem d_MS_noticesOf_22 : decode (kB K_MS_noticesOf) 22 = .ok (.iload_n 1, 1) := by decide +kernel
theorem d_MS_noticesOf_23 : decode (kB K_MS_noticesOf) 23 = .ok (.iload 4, 2) := by decide +kernel
theorem d_MS_noticesOf_25 : decode (kB K_MS_noticesOf) 25 = .ok (.invokevirtual 121, 3) := by decide +kernel
theorem d_MS_noticesOf_28 : decode (kB K_MS_noticesOf) 28 = .ok (.iload_n 2, 1) := by decide +kernel
theorem d_MS_noticesOf_29 : decode (kB K_MS_noticesOf) 29 = .ok (.if_icmp .lt 7, 3) := by decide +kernel
theorem d_MS_noticesOf_32 : decode (kB K_MS_noticesOf) 32 = .ok (.iconst 1, 1) := by decide +kernel
theorem d_MS_noticesOf_33 : decode (kB K_MS_noticesOf) 33 = .ok (.goto 4, 3) := by decide +kernel
theorem d_MS_noticesOf_36 : decode (kB K_MS_noticesOf) 36 = .ok (.iconst 0, 1) := by decide +kernel
theorem d_MS_noticesOf_37 : decode (kB K_MS_noticesOf) 37 = .ok (.iadd, 1) := by decide +kernel
theorem d_MS_noticesOf_38 : decode (kB K_MS_noticesOf) 38 = .ok (.istore_n 3, 1) := by decide +kernel
theorem d_MS_noticesOf_39 : decode (kB K_MS_noticesOf) 39 = .ok (.iinc 4 1, 3) := by decide +kernel
theorem d_MS_noticesOf_42 : decode (kB K_MS_noticesOf) 42 = .ok (.goto (-37), 3) := by decide +kernel
theorem d_MS_noticesOf_45 : decode (kB K_MS_noticesOf) 45 = .ok (.iload_n 3, 1) := by decide +kernel
theorem d_MS_noticesOf_46 : decode (kB K_MS_noticesOf) 46 = .ok (.ireturn, 1) := by decide +kernel
def K_MS_underWay : KM := (⟨"ParishBoardsModel$State", "underWay", "(I)I"⟩, prog_17_method_33_code, 4, (some (.int)), "ParishBoardsModel$State", [])
theorem d_MS_underWay_0 : decode (kB K_MS_underWay) 0 = .ok (.iconst 0, 1) := by decide +kernel
theorem d_MS_underWay_1 : decode (kB K_MS_underWay) 1 = .ok (.istore_n 2, 1) := by decide +kernel
theorem d_MS_underWay_2 : decode (kB K_MS_underWay) 2 = .ok (.iconst 0, 1) := by decide +kernel
theorem d_MS_underWay_3 : decode (kB K_MS_underWay) 3 = .ok (.istore_n 3, 1) := by decide +kernel
theorem d_MS_underWay_4 : decode (kB K_MS_underWay) 4 = .ok (.iload_n 3, 1) := by decide +kernel
theorem d_MS_underWay_5 : decode (kB K_MS_underWay) 5 = .ok (.aload_n 0, 1) := by decide +kernel
theorem d_MS_underWay_6 : decode (kB K_MS_underWay) 6 = .ok (.getfield 90, 3) := by decide +kernel
theorem d_MS_underWay_9 : decode (kB K_MS_underWay) 9 = .ok (.if_icmp .ge 40, 3) := by decide +kernel
theorem d_MS_underWay_12 : decode (kB K_MS_underWay) 12 = .ok (.iload_n 2, 1) := by decide +kernel
theorem d_MS_underWay_13 : decode (kB K_MS_underWay) 13 = .ok (.iload_n 1, 1) := by decide +kernel
theorem d_MS_underWay_14 : decode (kB K_MS_underWay) 14 = .ok (.iconst (-1), 1) := by decide +kernel
theorem d_MS_underWay_15 : decode (kB K_MS_underWay) 15 = .ok (.if_icmp .eq 13, 3) := by decide +kernel
theorem d_MS_underWay_18 : decode (kB K_MS_underWay) 18 = .ok (.aload_n 0, 1) := by decide +kernel
theorem d_MS_underWay_19 : decode (kB K_MS_underWay) 19 = .ok (.getfield 56, 3) := by decide +kernel
theorem d_MS_underWay_22 : decode (kB K_MS_underWay) 22 = .ok (.iload_n 3, 1) := by decide +kernel
theorem d_MS_underWay_23 : decode (kB K_MS_underWay) 23 = .ok (.iaload, 1) := by decide +kernel
theorem d_MS_underWay_24 : decode (kB K_MS_underWay) 24 = .ok (.iload_n 1, 1) := by decide +kernel
theorem d_MS_underWay_25 : decode (kB K_MS_underWay) 25 = .ok (.if_icmp .ne 15, 3) := by decide +kernel
theorem d_MS_underWay_28 : decode (kB K_MS_underWay) 28 = .ok (.aload_n 0, 1) := by decide +kernel
theorem d_MS_underWay_29 : decode (kB K_MS_underWay) 29 = .ok (.getfield 62, 3) := by decide +kernel
theorem d_MS_underWay_32 : decode (kB K_MS_underWay) 32 = .ok (.iload_n 3, 1) := by decide +kernel
theorem d_MS_underWay_33 : decode (kB K_MS_underWay) 33 = .ok (.laload, 1) := by decide +kernel
theorem d_MS_underWay_34 : decode (kB K_MS_underWay) 34 = .ok (.invokestatic 127, 3) := by decide +kernel
theorem d_MS_underWay_37 : decode (kB K_MS_underWay) 37 = .ok (.goto 4, 3) := by decide +kernel
theorem d_MS_underWay_40 : decode (kB K_MS_underWay) 40 = .ok (.iconst 0, 1) := by decide +kernel
theorem d_MS_underWay_41 : decode (kB K_MS_underWay) 41 = .ok (.iadd, 1) := by decide +kernel
theorem d_MS_underWay_42 : decode (kB K_MS_underWay) 42 = .ok (.istore_n 2, 1) := by decide +kernel
theorem d_MS_underWay_43 : decode (kB K_MS_underWay) 43 = .ok (.iinc 3 1, 3) := by decide +kernel
theorem d_MS_underWay_46 : decode (kB K_MS_underWay) 46 = .ok (.goto (-42), 3) := by decide +kernel
theorem d_MS_underWay_49 : decode (kB K_MS_underWay) 49 = .ok (.iload_n 2, 1) := by decide +kernel
theorem d_MS_underWay_50 : decode (kB K_MS_underWay) 50 = .ok (.ireturn, 1) := by decide +kernel
def K_MS_counted : KM := (⟨"ParishBoardsModel$State", "counted", "(I)I"⟩, prog_17_method_34_code, 4, (some (.int)), "ParishBoardsModel$State", [])
theorem d_MS_counted_0 : decode (kB K_MS_counted) 0 = .ok (.iconst 0, 1) := by decide +kernel
theorem d_MS_counted_1 : decode (kB K_MS_counted) 1 = .ok (.istore_n 2, 1) := by decide +kernel
theorem d_MS_counted_2 : decode (kB K_MS_counted) 2 = .ok (.iload_n 1, 1) := by decide +kernel
theorem d_MS_counted_3 : decode (kB K_MS_counted) 3 = .ok (.tableswitch 123 5 10 #[37, 42, 48, 80, 113, 118], 37) := by decide +kernel
theorem d_MS_counted_40 : decode (kB K_MS_counted) 40 = .ok (.aload_n 0, 1) := by decide +kernel
theorem d_MS_counted_41 : decode (kB K_MS_counted) 41 = .ok (.getfield 78, 3) := by decide +kernel
theorem d_MS_counted_44 : decode (kB K_MS_counted) 44 = .ok (.ireturn, 1) := by decide +kernel
theorem d_MS_counted_45 : decode (kB K_MS_counted) 45 = .ok (.aload_n 0, 1) := by decide +kernel
theorem d_MS_counted_46 : decode (kB K_MS_counted) 46 = .ok (.iconst (-1), 1) := by decide +kernel
theorem d_MS_counted_47 : decode (kB K_MS_counted) 47 = .ok (.invokevirtual 241, 3) := by decide +kernel
theorem d_MS_counted_50 : decode (kB K_MS_counted) 50 = .ok (.ireturn, 1) := by decide +kernel
theorem d_MS_counted_51 : decode (kB K_MS_counted) 51 = .ok (.iconst 0, 1) := by decide +kernel
theorem d_MS_counted_52 : decode (kB K_MS_counted) 52 = .ok (.istore_n 3, 1) := by decide +kernel
theorem d_MS_counted_53 : decode (kB K_MS_counted) 53 = .ok (.iload_n 3, 1) := by decide +kernel
theorem d_MS_counted_54 : decode (kB K_MS_counted) 54 = .ok (.aload_n 0, 1) := by decide +kernel
theorem d_MS_counted_55 : decode (kB K_MS_counted) 55 = .ok (.getfield 3, 3) := by decide +kernel
theorem d_MS_counted_58 : decode (kB K_MS_counted) 58 = .ok (.getfield 100, 3) := by decide +kernel
theorem d_MS_counted_61 : decode (kB K_MS_counted) 61 = .ok (.getfield 114, 3) := by decide +kernel
theorem d_MS_counted_64 : decode (kB K_MS_counted) 64 = .ok (.if_icmp .ge 17, 3) := by decide +kernel
theorem d_MS_counted_67 : decode (kB K_MS_counted) 67 = .ok (.iload_n 2, 1) := by decide +kernel
theorem d_MS_counted_68 : decode (kB K_MS_counted) 68 = .ok (.aload_n 0, 1) := by decide +kernel
theorem d_MS_counted_69 : decode (kB K_MS_counted) 69 = .ok (.iload_n 3, 1) := by decide +kernel
theorem d_MS_counted_70 : decode (kB K_MS_counted) 70 = .ok (.invokevirtual 244, 3) := by decide +kernel
theorem d_MS_counted_73 : decode (kB K_MS_counted) 73 = .ok (.iadd, 1) := by decide +kernel
theorem d_MS_counted_74 : decode (kB K_MS_counted) 74 = .ok (.istore_n 2, 1) := by decide +kernel
theorem d_MS_counted_75 : decode (kB K_MS_counted) 75 = .ok (.iinc 3 1, 3) := by decide +kernel
theorem d_MS_counted_78 : decode (kB K_MS_counted) 78 = .ok (.goto (-25), 3) := by decide +kernel
theorem d_MS_counted_81 : decode (kB K_MS_counted) 81 = .ok (.iload_n 2, 1) := by decide +kernel
theorem d_MS_counted_82 : decode (kB K_MS_counted) 82 = .ok (.ireturn, 1) := by decide +kernel
theorem d_MS_counted_83 : decode (kB K_MS_counted) 83 = .ok (.iconst 0, 1) := by decide +kernel
theorem d_MS_counted_84 : decode (kB K_MS_counted) 84 = .ok (.istore_n 3, 1) := by decide +kernel
theorem d_MS_counted_85 : decode (kB K_MS_counted) 85 = .ok (.iload_n 3, 1) := by decide +kernel
theorem d_MS_counted_86 : decode (kB K_MS_counted) 86 = .ok (.aload_n 0, 1) := by decide +kernel
theorem d_MS_counted_87 : decode (kB K_MS_counted) 87 = .ok (.getfield 3, 3) := by decide +kernel
theorem d_MS_counted_90 : decode (kB K_MS_counted) 90 = .ok (.getfield 100, 3) := by decide +kernel
theorem d_MS_counted_93 : decode (kB K_MS_counted) 93 = .ok (.getfield 114, 3) := by decide +kernel
theorem d_MS_counted_96 : decode (kB K_MS_counted) 96 = .ok (.if_icmp .ge 18, 3) := by decide +kernel
theorem d_MS_counted_99 : decode (kB K_MS_counted) 99 = .ok (.iload_n 2, 1) := by decide +kernel
theorem d_MS_counted_100 : decode (kB K_MS_counted) 100 = .ok (.aload_n 0, 1) := by decide +kernel
theorem d_MS_counted_101 : decode (kB K_MS_counted) 101 = .ok (.iload_n 3, 1) := by decide +kernel
theorem d_MS_counted_102 : decode (kB K_MS_counted) 102 = .ok (.iconst 2, 1) := by decide +kernel
theorem d_MS_counted_103 : decode (kB K_MS_counted) 103 = .ok (.invokevirtual 247, 3) := by decide +kernel
theorem d_MS_counted_106 : decode (kB K_MS_counted) 106 = .ok (.iadd, 1) := by decide +kernel
theorem d_MS_counted_107 : decode (kB K_MS_counted) 107 = .ok (.istore_n 2, 1) := by decide +kernel
theorem d_MS_counted_108 : decode (kB K_MS_counted) 108 = .ok (.iinc 3 1, 3) := by decide +kernel
theorem d_MS_counted_111 : decode (kB K_MS_counted) 111 = .ok (.goto (-26), 3) := by decide +kernel
theorem d_MS_counted_114 : decode (kB K_MS_counted) 114 = .ok (.iload_n 2, 1) := by decide +kernel
theorem d_MS_counted_115 : decode (kB K_MS_counted) 115 = .ok (.ireturn, 1) := by decide +kernel
theorem d_MS_counted_116 : decode (kB K_MS_counted) 116 = .ok (.aload_n 0, 1) := by decide +kernel
theorem d_MS_counted_117 : decode (kB K_MS_counted) 117 = .ok (.getfield 81, 3) := by decide +kernel
theorem d_MS_counted_120 : decode (kB K_MS_counted) 120 = .ok (.ireturn, 1) := by decide +kernel
theorem d_MS_counted_121 : decode (kB K_MS_counted) 121 = .ok (.aload_n 0, 1) := by decide +kernel
theorem d_MS_counted_122 : decode (kB K_MS_counted) 122 = .ok (.getfield 84, 3) := by decide +kernel
theorem d_MS_counted_125 : decode (kB K_MS_counted) 125 = .ok (.ireturn, 1) := by decide +kernel
theorem d_MS_counted_126 : decode (kB K_MS_counted) 126 = .ok (.aload_n 0, 1) := by decide +kernel
theorem d_MS_counted_127 : decode (kB K_MS_counted) 127 = .ok (.getfield 87, 3) := by decide +kernel
theorem d_MS_counted_130 : decode (kB K_MS_counted) 130 = .ok (.ireturn, 1) := by decide +kernel
def K_MS_carryOut : KM := (⟨"ParishBoardsModel$State", "carryOut", "(II)I"⟩, prog_17_method_35_code, 6, (some (.int)), "ParishBoardsModel$State", [])
theorem d_MS_carryOut_0 : decode (kB K_MS_carryOut) 0 = .ok (.iconst (-1), 1) := by decide +kernel
theorem d_MS_carryOut_1 : decode (kB K_MS_carryOut) 1 = .ok (.istore_n 3, 1) := by decide +kernel
theorem d_MS_carryOut_2 : decode (kB K_MS_carryOut) 2 = .ok (.iload_n 1, 1) := by decide +kernel
theorem d_MS_carryOut_3 : decode (kB K_MS_carryOut) 3 = .ok (.istore 4, 2) := by decide +kernel
theorem d_MS_carryOut_5 : decode (kB K_MS_carryOut) 5 = .ok (.iload 4, 2) := by decide +kernel
theorem d_MS_carryOut_7 : decode (kB K_MS_carryOut) 7 = .ok (.iload_n 2, 1) := by decide +kernel
theorem d_MS_carryOut_8 : decode (kB K_MS_carryOut) 8 = .ok (.if_icmp .ge 271, 3) := by decide +kernel
theorem d_MS_carryOut_11 : decode (kB K_MS_carryOut) 11 = .ok (.aload_n 0, 1) := by decide +kernel
theorem d_MS_carryOut_12 : decode (kB K_MS_carryOut) 12 = .ok (.getfield 3, 3) := by decide +kernel
theorem d_MS_carryOut_15 : decode (kB K_MS_carryOut) 15 = .ok (.getfield 100, 3) := by decide +kernel
theorem d_MS_carryOut_18 : decode (kB K_MS_carryOut) 18 = .ok (.getfield 250, 3) := by decide +kernel
theorem d_MS_carryOut_21 : decode (kB K_MS_carryOut) 21 = .ok (.iload 4, 2) := by decide +kernel
theorem d_MS_carryOut_23 : decode (kB K_MS_carryOut) 23 = .ok (.iaload, 1) := by decide +kernel
theorem d_MS_carryOut_24 : decode (kB K_MS_carryOut) 24 = .ok (.istore 5, 2) := by decide +kernel
theorem d_MS_carryOut_26 : decode (kB K_MS_carryOut) 26 = .ok (.iinc 4 1, 3) := by decide +kernel
theorem d_MS_carryOut_29 : decode (kB K_MS_carryOut) 29 = .ok (.iload 5, 2) := by decide +kernel
theorem d_MS_carryOut_31 : decode (kB K_MS_carryOut) 31 = .ok (.bipush 17, 2) := by decide +kernel
theorem d_MS_carryOut_33 : decode (kB K_MS_carryOut) 33 = .ok (.if_icmp .eq 22, 3) := by decide +kernel
theorem d_MS_carryOut_36 : decode (kB K_MS_carryOut) 36 = .ok (.iload 5, 2) := by decide +kernel
theorem d_MS_carryOut_38 : decode (kB K_MS_carryOut) 38 = .ok (.bipush 32, 2) := by decide +kernel
theorem d_MS_carryOut_40 : decode (kB K_MS_carryOut) 40 = .ok (.if_icmp .eq 15, 3) := by decide +kernel
theorem d_MS_carryOut_43 : decode (kB K_MS_carryOut) 43 = .ok (.iload 5, 2) := by decide +kernel
theorem d_MS_carryOut_45 : decode (kB K_MS_carryOut) 45 = .ok (.bipush 18, 2) := by decide +kernel
theorem d_MS_carryOut_47 : decode (kB K_MS_carryOut) 47 = .ok (.bipush 23, 2) := by decide +kernel
theorem d_MS_carryOut_49 : decode (kB K_MS_carryOut) 49 = .ok (.invokestatic 202, 3) := by decide +kernel
theorem d_MS_carryOut_52 : decode (kB K_MS_carryOut) 52 = .ok (.ifCond .eq 148, 3) := by decide +kernel
theorem d_MS_carryOut_55 : decode (kB K_MS_carryOut) 55 = .ok (.iinc 3 1, 3) := by decide +kernel
theorem d_MS_carryOut_58 : decode (kB K_MS_carryOut) 58 = .ok (.aload_n 0, 1) := by decide +kernel
theorem d_MS_carryOut_59 : decode (kB K_MS_carryOut) 59 = .ok (.getfield 65, 3) := by decide +kernel
theorem d_MS_carryOut_62 : decode (kB K_MS_carryOut) 62 = .ok (.iload_n 3, 1) := by decide +kernel
theorem d_MS_carryOut_63 : decode (kB K_MS_carryOut) 63 = .ok (.iload 5, 2) := by decide +kernel
theorem d_MS_carryOut_65 : decode (kB K_MS_carryOut) 65 = .ok (.bipush 17, 2) := by decide +kernel
theorem d_MS_carryOut_67 : decode (kB K_MS_carryOut) 67 = .ok (.if_icmp .ne 10, 3) := by decide +kernel
theorem d_MS_carryOut_70 : decode (kB K_MS_carryOut) 70 = .ok (.aload_n 0, 1) := by decide +kernel
theorem d_MS_carryOut_71 : decode (kB K_MS_carryOut) 71 = .ok (.getfield 74, 3) := by decide +kernel
theorem d_MS_carryOut_74 : decode (kB K_MS_carryOut) 74 = .ok (.goto 87, 3) := by decide +kernel
theorem d_MS_carryOut_77 : decode (kB K_MS_carryOut) 77 = .ok (.iload 5, 2) := by decide +kernel
theorem d_MS_carryOut_79 : decode (kB K_MS_carryOut) 79 = .ok (.bipush 32, 2) := by decide +kernel
theorem d_MS_carryOut_81 : decode (kB K_MS_carryOut) 81 = .ok (.if_icmp .ne 19, 3) := by decide +kernel
theorem d_MS_carryOut_84 : decode (kB K_MS_carryOut) 84 = .ok (.aload_n 0, 1) := by decide +kernel
theorem d_MS_carryOut_85 : decode (kB K_MS_carryOut) 85 = .ok (.getfield 3, 3) := by decide +kernel
theorem d_MS_carryOut_88 : decode (kB K_MS_carryOut) 88 = .ok (.getfield 100, 3) := by decide +kernel
theorem d_MS_carryOut_91 : decode (kB K_MS_carryOut) 91 = .ok (.getfield 250, 3) := by decide +kernel
theorem d_MS_carryOut_94 : decode (kB K_MS_carryOut) 94 = .ok (.iload 4, 2) := by decide +kernel
theorem d_MS_carryOut_96 : decode (kB K_MS_carryOut) 96 = .ok (.iaload, 1) := by decide +kernel
theorem d_MS_carryOut_97 : decode (kB K_MS_carryOut) 97 = .ok (.goto 64, 3) := by decide +kernel
theorem d_MS_carryOut_100 : decode (kB K_MS_carryOut) 100 = .ok (.iload 5, 2) := by decide +kernel
theorem d_MS_carryOut_102 : decode (kB K_MS_carryOut) 102 = .ok (.bipush 21, 2) := by decide +kernel
theorem d_MS_carryOut_104 : decode (kB K_MS_carryOut) 104 = .ok (.if_icmp .ne 23, 3) := by decide +kernel
theorem d_MS_carryOut_107 : decode (kB K_MS_carryOut) 107 = .ok (.aload_n 0, 1) := by decide +kernel
theorem d_MS_carryOut_108 : decode (kB K_MS_carryOut) 108 = .ok (.aload_n 0, 1) := by decide +kernel
theorem d_MS_carryOut_109 : decode (kB K_MS_carryOut) 109 = .ok (.getfield 3, 3) := by decide +kernel
theorem d_MS_carryOut_112 : decode (kB K_MS_carryOut) 112 = .ok (.getfield 100, 3) := by decide +kernel
theorem d_MS_carryOut_115 : decode (kB K_MS_carryOut) 115 = .ok (.getfield 250, 3) := by decide +kernel
theorem d_MS_carryOut_118 : decode (kB K_MS_carryOut) 118 = .ok (.iload 4, 2) := by decide +kernel
theorem d_MS_carryOut_120 : decode (kB K_MS_carryOut) 120 = .ok (.iaload, 1) := by decide +kernel
theorem d_MS_carryOut_121 : decode (kB K_MS_carryOut) 121 = .ok (.invokevirtual 244, 3) := by decide +kernel
theorem d_MS_carryOut_124 : decode (kB K_MS_carryOut) 124 = .ok (.goto 37, 3) := by decide +kernel
theorem d_MS_carryOut_127 : decode (kB K_MS_carryOut) 127 = .ok (.aload_n 0, 1) := by decide +kernel
theorem d_MS_carryOut_128 : decode (kB K_MS_carryOut) 128 = .ok (.iload 5, 2) := by decide +kernel
theorem d_MS_carryOut_130 : decode (kB K_MS_carryOut) 130 = .ok (.aload_n 0, 1) := by decide +kernel
theorem d_MS_carryOut_131 : decode (kB K_MS_carryOut) 131 = .ok (.getfield 3, 3) := by decide +kernel
theorem d_MS_carryOut_134 : decode (kB K_MS_carryOut) 134 = .ok (.getfield 100, 3) := by decide +kernel
theorem d_MS_carryOut_137 : decode (kB K_MS_carryOut) 137 = .ok (.getfield 250, 3) := by decide +kernel
theorem d_MS_carryOut_140 : decode (kB K_MS_carryOut) 140 = .ok (.iload 4, 2) := by decide +kernel
theorem d_MS_carryOut_142 : decode (kB K_MS_carryOut) 142 = .ok (.iaload, 1) := by decide +kernel
theorem d_MS_carryOut_143 : decode (kB K_MS_carryOut) 143 = .ok (.aload_n 0, 1) := by decide +kernel
theorem d_MS_carryOut_144 : decode (kB K_MS_carryOut) 144 = .ok (.getfield 3, 3) := by decide +kernel
theorem d_MS_carryOut_147 : decode (kB K_MS_carryOut) 147 = .ok (.getfield 100, 3) := by decide +kernel
theorem d_MS_carryOut_150 : decode (kB K_MS_carryOut) 150 = .ok (.getfield 250, 3) := by decide +kernel
theorem d_MS_carryOut_153 : decode (kB K_MS_carryOut) 153 = .ok (.iload 4, 2) := by decide +kernel
theorem d_MS_carryOut_155 : decode (kB K_MS_carryOut) 155 = .ok (.iconst 1, 1) := by decide +kernel
theorem d_MS_carryOut_156 : decode (kB K_MS_carryOut) 156 = .ok (.iadd, 1) := by decide +kernel
theorem d_MS_carryOut_157 : decode (kB K_MS_carryOut) 157 = .ok (.iaload, 1) := by decide +kernel
theorem d_MS_carryOut_158 : decode (kB K_MS_carryOut) 158 = .ok (.invokevirtual 253, 3) := by decide +kernel
theorem d_MS_carryOut_161 : decode (kB K_MS_carryOut) 161 = .ok (.iastore, 1) := by decide +kernel
theorem d_MS_carryOut_162 : decode (kB K_MS_carryOut) 162 = .ok (.iload 4, 2) := by decide +kernel
theorem d_MS_carryOut_164 : decode (kB K_MS_carryOut) 164 = .ok (.iload 5, 2) := by decide +kernel
theorem d_MS_carryOut_166 : decode (kB K_MS_carryOut) 166 = .ok (.bipush 17, 2) := by decide +kernel
theorem d_MS_carryOut_168 : decode (kB K_MS_carryOut) 168 = .ok (.if_icmp .ne 7, 3) := by decide +kernel
theorem d_MS_carryOut_171 : decode (kB K_MS_carryOut) 171 = .ok (.iconst 0, 1) := by decide +kernel
theorem d_MS_carryOut_172 : decode (kB K_MS_carryOut) 172 = .ok (.goto 22, 3) := by decide +kernel
theorem d_MS_carryOut_175 : decode (kB K_MS_carryOut) 175 = .ok (.iload 5, 2) := by decide +kernel
theorem d_MS_carryOut_177 : decode (kB K_MS_carryOut) 177 = .ok (.bipush 32, 2) := by decide +kernel
theorem d_MS_carryOut_179 : decode (kB K_MS_carryOut) 179 = .ok (.if_icmp .eq 10, 3) := by decide +kernel
theorem d_MS_carryOut_182 : decode (kB K_MS_carryOut) 182 = .ok (.iload 5, 2) := by decide +kernel
theorem d_MS_carryOut_184 : decode (kB K_MS_carryOut) 184 = .ok (.bipush 21, 2) := by decide +kernel
theorem d_MS_carryOut_186 : decode (kB K_MS_carryOut) 186 = .ok (.if_icmp .ne 7, 3) := by decide +kernel
theorem d_MS_carryOut_189 : decode (kB K_MS_carryOut) 189 = .ok (.iconst 1, 1) := by decide +kernel
theorem d_MS_carryOut_190 : decode (kB K_MS_carryOut) 190 = .ok (.goto 4, 3) := by decide +kernel
theorem d_MS_carryOut_193 : decode (kB K_MS_carryOut) 193 = .ok (.iconst 2, 1) := by decide +kernel
theorem d_MS_carryOut_194 : decode (kB K_MS_carryOut) 194 = .ok (.iadd, 1) := by decide +kernel
theorem d_MS_carryOut_195 : decode (kB K_MS_carryOut) 195 = .ok (.istore 4, 2) := by decide +kernel
theorem d_MS_carryOut_197 : decode (kB K_MS_carryOut) 197 = .ok (.goto 79, 3) := by decide +kernel
theorem d_MS_carryOut_200 : decode (kB K_MS_carryOut) 200 = .ok (.iload 5, 2) := by decide +kernel
theorem d_MS_carryOut_202 : decode (kB K_MS_carryOut) 202 = .ok (.bipush 33, 2) := by decide +kernel
theorem d_MS_carryOut_204 : decode (kB K_MS_carryOut) 204 = .ok (.if_icmp .eq 10, 3) := by decide +kernel
theorem d_MS_carryOut_207 : decode (kB K_MS_carryOut) 207 = .ok (.iload 5, 2) := by decide +kernel
theorem d_MS_carryOut_209 : decode (kB K_MS_carryOut) 209 = .ok (.bipush 24, 2) := by decide +kernel
theorem d_MS_carryOut_211 : decode (kB K_MS_carryOut) 211 = .ok (.if_icmp .ne 37, 3) := by decide +kernel
theorem d_MS_carryOut_214 : decode (kB K_MS_carryOut) 214 = .ok (.aload_n 0, 1) := by decide +kernel
theorem d_MS_carryOut_215 : decode (kB K_MS_carryOut) 215 = .ok (.getfield 65, 3) := by decide +kernel
theorem d_MS_carryOut_218 : decode (kB K_MS_carryOut) 218 = .ok (.iload_n 3, 1) := by decide +kernel
theorem d_MS_carryOut_219 : decode (kB K_MS_carryOut) 219 = .ok (.iload 5, 2) := by decide +kernel
theorem d_MS_carryOut_221 : decode (kB K_MS_carryOut) 221 = .ok (.bipush 33, 2) := by decide +kernel
theorem d_MS_carryOut_223 : decode (kB K_MS_carryOut) 223 = .ok (.if_icmp .ne 13, 3) := by decide +kernel
theorem d_MS_carryOut_226 : decode (kB K_MS_carryOut) 226 = .ok (.aload_n 0, 1) := by decide +kernel
theorem d_MS_carryOut_227 : decode (kB K_MS_carryOut) 227 = .ok (.getfield 65, 3) := by decide +kernel
theorem d_MS_carryOut_230 : decode (kB K_MS_carryOut) 230 = .ok (.iload_n 3, 1) := by decide +kernel
theorem d_MS_carryOut_231 : decode (kB K_MS_carryOut) 231 = .ok (.iaload, 1) := by decide +kernel
theorem d_MS_carryOut_232 : decode (kB K_MS_carryOut) 232 = .ok (.ineg, 1) := by decide +kernel
theorem d_MS_carryOut_233 : decode (kB K_MS_carryOut) 233 = .ok (.goto 11, 3) := by decide +kernel
theorem d_MS_carryOut_236 : decode (kB K_MS_carryOut) 236 = .ok (.iconst 1, 1) := by decide +kernel
theorem d_MS_carryOut_237 : decode (kB K_MS_carryOut) 237 = .ok (.aload_n 0, 1) := by decide +kernel
theorem d_MS_carryOut_238 : decode (kB K_MS_carryOut) 238 = .ok (.getfield 65, 3) := by decide +kernel
theorem d_MS_carryOut_241 : decode (kB K_MS_carryOut) 241 = .ok (.iload_n 3, 1) := by decide +kernel
theorem d_MS_carryOut_242 : decode (kB K_MS_carryOut) 242 = .ok (.iaload, 1) := by decide +kernel
theorem d_MS_carryOut_243 : decode (kB K_MS_carryOut) 243 = .ok (.isub, 1) := by decide +kernel
theorem d_MS_carryOut_244 : decode (kB K_MS_carryOut) 244 = .ok (.iastore, 1) := by decide +kernel
theorem d_MS_carryOut_245 : decode (kB K_MS_carryOut) 245 = .ok (.goto 31, 3) := by decide +kernel
theorem d_MS_carryOut_248 : decode (kB K_MS_carryOut) 248 = .ok (.iinc 3 (-1), 3) := by decide +kernel
theorem d_MS_carryOut_251 : decode (kB K_MS_carryOut) 251 = .ok (.aload_n 0, 1) := by decide +kernel
theorem d_MS_carryOut_252 : decode (kB K_MS_carryOut) 252 = .ok (.getfield 65, 3) := by decide +kernel
theorem d_MS_carryOut_255 : decode (kB K_MS_carryOut) 255 = .ok (.iload_n 3, 1) := by decide +kernel
theorem d_MS_carryOut_256 : decode (kB K_MS_carryOut) 256 = .ok (.iload 5, 2) := by decide +kernel
theorem d_MS_carryOut_258 : decode (kB K_MS_carryOut) 258 = .ok (.aload_n 0, 1) := by decide +kernel
theorem d_MS_carryOut_259 : decode (kB K_MS_carryOut) 259 = .ok (.getfield 65, 3) := by decide +kernel
theorem d_MS_carryOut_262 : decode (kB K_MS_carryOut) 262 = .ok (.iload_n 3, 1) := by decide +kernel
theorem d_MS_carryOut_263 : decode (kB K_MS_carryOut) 263 = .ok (.iaload, 1) := by decide +kernel
theorem d_MS_carryOut_264 : decode (kB K_MS_carryOut) 264 = .ok (.aload_n 0, 1) := by decide +kernel
theorem d_MS_carryOut_265 : decode (kB K_MS_carryOut) 265 = .ok (.getfield 65, 3) := by decide +kernel
theorem d_MS_carryOut_268 : decode (kB K_MS_carryOut) 268 = .ok (.iload_n 3, 1) := by decide +kernel
theorem d_MS_carryOut_269 : decode (kB K_MS_carryOut) 269 = .ok (.iconst 1, 1) := by decide +kernel
theorem d_MS_carryOut_270 : decode (kB K_MS_carryOut) 270 = .ok (.iadd, 1) := by decide +kernel
theorem d_MS_carryOut_271 : decode (kB K_MS_carryOut) 271 = .ok (.iaload, 1) := by decide +kernel
theorem d_MS_carryOut_272 : decode (kB K_MS_carryOut) 272 = .ok (.invokestatic 256, 3) := by decide +kernel
theorem d_MS_carryOut_275 : decode (kB K_MS_carryOut) 275 = .ok (.iastore, 1) := by decide +kernel
theorem d_MS_carryOut_276 : decode (kB K_MS_carryOut) 276 = .ok (.goto (-271), 3) := by decide +kernel
theorem d_MS_carryOut_279 : decode (kB K_MS_carryOut) 279 = .ok (.aload_n 0, 1) := by decide +kernel
theorem d_MS_carryOut_280 : decode (kB K_MS_carryOut) 280 = .ok (.getfield 65, 3) := by decide +kernel
theorem d_MS_carryOut_283 : decode (kB K_MS_carryOut) 283 = .ok (.iconst 0, 1) := by decide +kernel
theorem d_MS_carryOut_284 : decode (kB K_MS_carryOut) 284 = .ok (.iaload, 1) := by decide +kernel
theorem d_MS_carryOut_285 : decode (kB K_MS_carryOut) 285 = .ok (.ireturn, 1) := by decide +kernel
def K_MS_pushed : KM := (⟨"ParishBoardsModel$State", "pushed", "(III)I"⟩, prog_17_method_36_code, 5, (some (.int)), "ParishBoardsModel$State", [])
theorem d_MS_pushed_0 : decode (kB K_MS_pushed) 0 = .ok (.aload_n 0, 1) := by decide +kernel
theorem d_MS_pushed_1 : decode (kB K_MS_pushed) 1 = .ok (.iload_n 2, 1) := by decide +kernel
theorem d_MS_pushed_2 : decode (kB K_MS_pushed) 2 = .ok (.iload_n 3, 1) := by decide +kernel
theorem d_MS_pushed_3 : decode (kB K_MS_pushed) 3 = .ok (.invokevirtual 121, 3) := by decide +kernel
theorem d_MS_pushed_6 : decode (kB K_MS_pushed) 6 = .ok (.istore 4, 2) := by decide +kernel
theorem d_MS_pushed_8 : decode (kB K_MS_pushed) 8 = .ok (.iload_n 1, 1) := by decide +kernel
theorem d_MS_pushed_9 : decode (kB K_MS_pushed) 9 = .ok (.tableswitch 83 18 22 #[35, 57, 60, 83, 71], 35) := by decide +kernel
theorem d_MS_pushed_44 : decode (kB K_MS_pushed) 44 = .ok (.iload 4, 2) := by decide +kernel
theorem d_MS_pushed_46 : decode (kB K_MS_pushed) 46 = .ok (.ifCond .ne 7, 3) := by decide +kernel
theorem d_MS_pushed_49 : decode (kB K_MS_pushed) 49 = .ok (.iconst 0, 1) := by decide +kernel
theorem d_MS_pushed_50 : decode (kB K_MS_pushed) 50 = .ok (.goto 15, 3) := by decide +kernel
theorem d_MS_pushed_53 : decode (kB K_MS_pushed) 53 = .ok (.aload_n 0, 1) := by decide +kernel
theorem d_MS_pushed_54 : decode (kB K_MS_pushed) 54 = .ok (.getfield 22, 3) := by decide +kernel
theorem d_MS_pushed_57 : decode (kB K_MS_pushed) 57 = .ok (.aload_n 0, 1) := by decide +kernel
theorem d_MS_pushed_58 : decode (kB K_MS_pushed) 58 = .ok (.iload_n 2, 1) := by decide +kernel
theorem d_MS_pushed_59 : decode (kB K_MS_pushed) 59 = .ok (.iload_n 3, 1) := by decide +kernel
theorem d_MS_pushed_60 : decode (kB K_MS_pushed) 60 = .ok (.iconst 0, 1) := by decide +kernel
theorem d_MS_pushed_61 : decode (kB K_MS_pushed) 61 = .ok (.invokevirtual 124, 3) := by decide +kernel
theorem d_MS_pushed_64 : decode (kB K_MS_pushed) 64 = .ok (.iaload, 1) := by decide +kernel
theorem d_MS_pushed_65 : decode (kB K_MS_pushed) 65 = .ok (.ireturn, 1) := by decide +kernel
theorem d_MS_pushed_66 : decode (kB K_MS_pushed) 66 = .ok (.iload 4, 2) := by decide +kernel
theorem d_MS_pushed_68 : decode (kB K_MS_pushed) 68 = .ok (.ireturn, 1) := by decide +kernel
theorem d_MS_pushed_69 : decode (kB K_MS_pushed) 69 = .ok (.aload_n 0, 1) := by decide +kernel
theorem d_MS_pushed_70 : decode (kB K_MS_pushed) 70 = .ok (.iload_n 2, 1) := by decide +kernel
theorem d_MS_pushed_71 : decode (kB K_MS_pushed) 71 = .ok (.iload_n 3, 1) := by decide +kernel
theorem d_MS_pushed_72 : decode (kB K_MS_pushed) 72 = .ok (.invokevirtual 142, 3) := by decide +kernel
theorem d_MS_pushed_75 : decode (kB K_MS_pushed) 75 = .ok (.i2l, 1) := by decide +kernel
theorem d_MS_pushed_76 : decode (kB K_MS_pushed) 76 = .ok (.invokestatic 127, 3) := by decide +kernel
theorem d_MS_pushed_79 : decode (kB K_MS_pushed) 79 = .ok (.ireturn, 1) := by decide +kernel
theorem d_MS_pushed_80 : decode (kB K_MS_pushed) 80 = .ok (.iload 4, 2) := by decide +kernel
theorem d_MS_pushed_82 : decode (kB K_MS_pushed) 82 = .ok (.iconst 1, 1) := by decide +kernel
theorem d_MS_pushed_83 : decode (kB K_MS_pushed) 83 = .ok (.if_icmp .le 7, 3) := by decide +kernel
theorem d_MS_pushed_86 : decode (kB K_MS_pushed) 86 = .ok (.iconst 1, 1) := by decide +kernel
theorem d_MS_pushed_87 : decode (kB K_MS_pushed) 87 = .ok (.goto 4, 3) := by decide +kernel
theorem d_MS_pushed_90 : decode (kB K_MS_pushed) 90 = .ok (.iconst 0, 1) := by decide +kernel
theorem d_MS_pushed_91 : decode (kB K_MS_pushed) 91 = .ok (.ireturn, 1) := by decide +kernel
theorem d_MS_pushed_92 : decode (kB K_MS_pushed) 92 = .ok (.iload 4, 2) := by decide +kernel
theorem d_MS_pushed_94 : decode (kB K_MS_pushed) 94 = .ok (.ifCond .le 7, 3) := by decide +kernel
theorem d_MS_pushed_97 : decode (kB K_MS_pushed) 97 = .ok (.iconst 1, 1) := by decide +kernel
theorem d_MS_pushed_98 : decode (kB K_MS_pushed) 98 = .ok (.goto 4, 3) := by decide +kernel
theorem d_MS_pushed_101 : decode (kB K_MS_pushed) 101 = .ok (.iconst 0, 1) := by decide +kernel
theorem d_MS_pushed_102 : decode (kB K_MS_pushed) 102 = .ok (.ireturn, 1) := by decide +kernel
def K_MM_init : KM := (⟨"ParishBoardsModel", "<init>", "()V"⟩, prog_15_method_1_code, 1, none, "ParishBoardsModel", [])
theorem d_MM_init_0 : decode (kB K_MM_init) 0 = .ok (.aload_n 0, 1) := by decide +kernel
theorem d_MM_init_1 : decode (kB K_MM_init) 1 = .ok (.invokespecial 1, 3) := by decide +kernel
theorem d_MM_init_4 : decode (kB K_MM_init) 4 = .ok (.aload_n 0, 1) := by decide +kernel
theorem d_MM_init_5 : decode (kB K_MM_init) 5 = .ok (.sipush 2000, 3) := by decide +kernel
theorem d_MM_init_8 : decode (kB K_MM_init) 8 = .ok (.newarray .int, 2) := by decide +kernel
theorem d_MM_init_10 : decode (kB K_MM_init) 10 = .ok (.putfield 9, 3) := by decide +kernel
theorem d_MM_init_13 : decode (kB K_MM_init) 13 = .ok (.aload_n 0, 1) := by decide +kernel
theorem d_MM_init_14 : decode (kB K_MM_init) 14 = .ok (.iconst (-1), 1) := by decide +kernel
theorem d_MM_init_15 : decode (kB K_MM_init) 15 = .ok (.putfield 13, 3) := by decide +kernel
theorem d_MM_init_18 : decode (kB K_MM_init) 18 = .ok (.aload_n 0, 1) := by decide +kernel
theorem d_MM_init_19 : decode (kB K_MM_init) 19 = .ok (.sipush 401, 3) := by decide +kernel
theorem d_MM_init_22 : decode (kB K_MM_init) 22 = .ok (.newarray .int, 2) := by decide +kernel
theorem d_MM_init_24 : decode (kB K_MM_init) 24 = .ok (.putfield 17, 3) := by decide +kernel
theorem d_MM_init_27 : decode (kB K_MM_init) 27 = .ok (.aload_n 0, 1) := by decide +kernel
theorem d_MM_init_28 : decode (kB K_MM_init) 28 = .ok (.sipush 401, 3) := by decide +kernel
theorem d_MM_init_31 : decode (kB K_MM_init) 31 = .ok (.newarray .int, 2) := by decide +kernel
theorem d_MM_init_33 : decode (kB K_MM_init) 33 = .ok (.putfield 20, 3) := by decide +kernel
theorem d_MM_init_36 : decode (kB K_MM_init) 36 = .ok (.aload_n 0, 1) := by decide +kernel
theorem d_MM_init_37 : decode (kB K_MM_init) 37 = .ok (.sipush 401, 3) := by decide +kernel
theorem d_MM_init_40 : decode (kB K_MM_init) 40 = .ok (.newarray .int, 2) := by decide +kernel
theorem d_MM_init_42 : decode (kB K_MM_init) 42 = .ok (.putfield 23, 3) := by decide +kernel
theorem d_MM_init_45 : decode (kB K_MM_init) 45 = .ok (.aload_n 0, 1) := by decide +kernel
theorem d_MM_init_46 : decode (kB K_MM_init) 46 = .ok (.sipush 401, 3) := by decide +kernel
theorem d_MM_init_49 : decode (kB K_MM_init) 49 = .ok (.newarray .int, 2) := by decide +kernel
theorem d_MM_init_51 : decode (kB K_MM_init) 51 = .ok (.putfield 26, 3) := by decide +kernel
theorem d_MM_init_54 : decode (kB K_MM_init) 54 = .ok (.aload_n 0, 1) := by decide +kernel
theorem d_MM_init_55 : decode (kB K_MM_init) 55 = .ok (.sipush 401, 3) := by decide +kernel
theorem d_MM_init_58 : decode (kB K_MM_init) 58 = .ok (.newarray .int, 2) := by decide +kernel
theorem d_MM_init_60 : decode (kB K_MM_init) 60 = .ok (.putfield 29, 3) := by decide +kernel
theorem d_MM_init_63 : decode (kB K_MM_init) 63 = .ok (.aload_n 0, 1) := by decide +kernel
theorem d_MM_init_64 : decode (kB K_MM_init) 64 = .ok (.new 32, 3) := by decide +kernel
theorem d_MM_init_67 : decode (kB K_MM_init) 67 = .ok (.dup, 1) := by decide +kernel
theorem d_MM_init_68 : decode (kB K_MM_init) 68 = .ok (.invokespecial 34, 3) := by decide +kernel
theorem d_MM_init_71 : decode (kB K_MM_init) 71 = .ok (.putfield 35, 3) := by decide +kernel
theorem d_MM_init_74 : decode (kB K_MM_init) 74 = .ok (.aload_n 0, 1) := by decide +kernel
theorem d_MM_init_75 : decode (kB K_MM_init) 75 = .ok (.aload_n 0, 1) := by decide +kernel
theorem d_MM_init_76 : decode (kB K_MM_init) 76 = .ok (.getfield 35, 3) := by decide +kernel
theorem d_MM_init_79 : decode (kB K_MM_init) 79 = .ok (.putfield 39, 3) := by decide +kernel
theorem d_MM_init_82 : decode (kB K_MM_init) 82 = .ok (.aload_n 0, 1) := by decide +kernel
theorem d_MM_init_83 : decode (kB K_MM_init) 83 = .ok (.new 42, 3) := by decide +kernel
theorem d_MM_init_86 : decode (kB K_MM_init) 86 = .ok (.dup, 1) := by decide +kernel
theorem d_MM_init_87 : decode (kB K_MM_init) 87 = .ok (.aload_n 0, 1) := by decide +kernel
theorem d_MM_init_88 : decode (kB K_MM_init) 88 = .ok (.invokespecial 44, 3) := by decide +kernel
theorem d_MM_init_91 : decode (kB K_MM_init) 91 = .ok (.putfield 47, 3) := by decide +kernel
theorem d_MM_init_94 : decode (kB K_MM_init) 94 = .ok (.aload_n 0, 1) := by decide +kernel
theorem d_MM_init_95 : decode (kB K_MM_init) 95 = .ok (.new 42, 3) := by decide +kernel
theorem d_MM_init_98 : decode (kB K_MM_init) 98 = .ok (.dup, 1) := by decide +kernel
theorem d_MM_init_99 : decode (kB K_MM_init) 99 = .ok (.aload_n 0, 1) := by decide +kernel
theorem d_MM_init_100 : decode (kB K_MM_init) 100 = .ok (.invokespecial 44, 3) := by decide +kernel
theorem d_MM_init_103 : decode (kB K_MM_init) 103 = .ok (.putfield 51, 3) := by decide +kernel
theorem d_MM_init_106 : decode (kB K_MM_init) 106 = .ok (.aload_n 0, 1) := by decide +kernel
theorem d_MM_init_107 : decode (kB K_MM_init) 107 = .ok (.getfield 47, 3) := by decide +kernel
theorem d_MM_init_110 : decode (kB K_MM_init) 110 = .ok (.invokevirtual 54, 3) := by decide +kernel
theorem d_MM_init_113 : decode (kB K_MM_init) 113 = .ok (.return_, 1) := by decide +kernel
def K_MM_thrown : KM := (⟨"ParishBoardsModel", "thrown", "()I"⟩, prog_15_method_2_code, 1, (some (.int)), "ParishBoardsModel", [])
theorem d_MM_thrown_0 : decode (kB K_MM_thrown) 0 = .ok (.aload_n 0, 1) := by decide +kernel
theorem d_MM_thrown_1 : decode (kB K_MM_thrown) 1 = .ok (.getfield 57, 3) := by decide +kernel
theorem d_MM_thrown_4 : decode (kB K_MM_thrown) 4 = .ok (.ireturn, 1) := by decide +kernel
def K_MM_no : KM := (⟨"ParishBoardsModel", "no", "(I)I"⟩, prog_15_method_3_code, 2, (some (.int)), "ParishBoardsModel", [])
theorem d_MM_no_0 : decode (kB K_MM_no) 0 = .ok (.aload_n 0, 1) := by decide +kernel
theorem d_MM_no_1 : decode (kB K_MM_no) 1 = .ok (.iload_n 1, 1) := by decide +kernel
theorem d_MM_no_2 : decode (kB K_MM_no) 2 = .ok (.putfield 57, 3) := by decide +kernel
theorem d_MM_no_5 : decode (kB K_MM_no) 5 = .ok (.iconst 0, 1) := by decide +kernel
theorem d_MM_no_6 : decode (kB K_MM_no) 6 = .ok (.ireturn, 1) := by decide +kernel
def K_MM_bits : KM := (⟨"ParishBoardsModel", "bits", "(J)I"⟩, prog_15_method_4_code, 5, (some (.int)), "ParishBoardsModel", [])
theorem d_MM_bits_0 : decode (kB K_MM_bits) 0 = .ok (.iconst 0, 1) := by decide +kernel
theorem d_MM_bits_1 : decode (kB K_MM_bits) 1 = .ok (.istore_n 2, 1) := by decide +kernel
theorem d_MM_bits_2 : decode (kB K_MM_bits) 2 = .ok (.lload_n 0, 1) := by decide +kernel
theorem d_MM_bits_3 : decode (kB K_MM_bits) 3 = .ok (.lstore_n 3, 1) := by decide +kernel
theorem d_MM_bits_4 : decode (kB K_MM_bits) 4 = .ok (.lload_n 3, 1) := by decide +kernel
theorem d_MM_bits_5 : decode (kB K_MM_bits) 5 = .ok (.lconst 0, 1) := by decide +kernel
theorem d_MM_bits_6 : decode (kB K_MM_bits) 6 = .ok (.lcmp, 1) := by decide +kernel
theorem d_MM_bits_7 : decode (kB K_MM_bits) 7 = .ok (.ifCond .eq 15, 3) := by decide +kernel
theorem d_MM_bits_10 : decode (kB K_MM_bits) 10 = .ok (.iinc 2 1, 3) := by decide +kernel
theorem d_MM_bits_13 : decode (kB K_MM_bits) 13 = .ok (.lload_n 3, 1) := by decide +kernel
theorem d_MM_bits_14 : decode (kB K_MM_bits) 14 = .ok (.lload_n 3, 1) := by decide +kernel
theorem d_MM_bits_15 : decode (kB K_MM_bits) 15 = .ok (.lconst 1, 1) := by decide +kernel
theorem d_MM_bits_16 : decode (kB K_MM_bits) 16 = .ok (.lsub, 1) := by decide +kernel
theorem d_MM_bits_17 : decode (kB K_MM_bits) 17 = .ok (.land, 1) := by decide +kernel
theorem d_MM_bits_18 : decode (kB K_MM_bits) 18 = .ok (.lstore_n 3, 1) := by decide +kernel
theorem d_MM_bits_19 : decode (kB K_MM_bits) 19 = .ok (.goto (-15), 3) := by decide +kernel
theorem d_MM_bits_22 : decode (kB K_MM_bits) 22 = .ok (.iload_n 2, 1) := by decide +kernel
theorem d_MM_bits_23 : decode (kB K_MM_bits) 23 = .ok (.ireturn, 1) := by decide +kernel
def K_MM_isIn : KM := (⟨"ParishBoardsModel", "isIn", "(III)Z"⟩, prog_15_method_5_code, 3, (some (.boolean)), "ParishBoardsModel", [])
theorem d_MM_isIn_0 : decode (kB K_MM_isIn) 0 = .ok (.iload_n 0, 1) := by decide +kernel
theorem d_MM_isIn_1 : decode (kB K_MM_isIn) 1 = .ok (.iload_n 1, 1) := by decide +kernel
theorem d_MM_isIn_2 : decode (kB K_MM_isIn) 2 = .ok (.if_icmp .lt 12, 3) := by decide +kernel
theorem d_MM_isIn_5 : decode (kB K_MM_isIn) 5 = .ok (.iload_n 0, 1) := by decide +kernel
theorem d_MM_isIn_6 : decode (kB K_MM_isIn) 6 = .ok (.iload_n 2, 1) := by decide +kernel
theorem d_MM_isIn_7 : decode (kB K_MM_isIn) 7 = .ok (.if_icmp .gt 7, 3) := by decide +kernel
theorem d_MM_isIn_10 : decode (kB K_MM_isIn) 10 = .ok (.iconst 1, 1) := by decide +kernel
theorem d_MM_isIn_11 : decode (kB K_MM_isIn) 11 = .ok (.goto 4, 3) := by decide +kernel
theorem d_MM_isIn_14 : decode (kB K_MM_isIn) 14 = .ok (.iconst 0, 1) := by decide +kernel
theorem d_MM_isIn_15 : decode (kB K_MM_isIn) 15 = .ok (.ireturn, 1) := by decide +kernel
def K_MM_isParish : KM := (⟨"ParishBoardsModel", "isParish", "(I)Z"⟩, prog_15_method_6_code, 2, (some (.boolean)), "ParishBoardsModel", [])
theorem d_MM_isParish_0 : decode (kB K_MM_isParish) 0 = .ok (.iload_n 1, 1) := by decide +kernel
theorem d_MM_isParish_1 : decode (kB K_MM_isParish) 1 = .ok (.iconst 0, 1) := by decide +kernel
theorem d_MM_isParish_2 : decode (kB K_MM_isParish) 2 = .ok (.aload_n 0, 1) := by decide +kernel
theorem d_MM_isParish_3 : decode (kB K_MM_isParish) 3 = .ok (.getfield 35, 3) := by decide +kernel
theorem d_MM_isParish_6 : decode (kB K_MM_isParish) 6 = .ok (.getfield 60, 3) := by decide +kernel
theorem d_MM_isParish_9 : decode (kB K_MM_isParish) 9 = .ok (.iconst 1, 1) := by decide +kernel
theorem d_MM_isParish_10 : decode (kB K_MM_isParish) 10 = .ok (.isub, 1) := by decide +kernel
theorem d_MM_isParish_11 : decode (kB K_MM_isParish) 11 = .ok (.invokestatic 63, 3) := by decide +kernel
theorem d_MM_isParish_14 : decode (kB K_MM_isParish) 14 = .ok (.ireturn, 1) := by decide +kernel
def K_MM_isNotice : KM := (⟨"ParishBoardsModel", "isNotice", "(II)Z"⟩, prog_15_method_7_code, 3, (some (.boolean)), "ParishBoardsModel", [])
theorem d_MM_isNotice_0 : decode (kB K_MM_isNotice) 0 = .ok (.aload_n 0, 1) := by decide +kernel
theorem d_MM_isNotice_1 : decode (kB K_MM_isNotice) 1 = .ok (.iload_n 1, 1) := by decide +kernel
theorem d_MM_isNotice_2 : decode (kB K_MM_isNotice) 2 = .ok (.invokevirtual 67, 3) := by decide +kernel
theorem d_MM_isNotice_5 : decode (kB K_MM_isNotice) 5 = .ok (.ifCond .eq 24, 3) := by decide +kernel
theorem d_MM_isNotice_8 : decode (kB K_MM_isNotice) 8 = .ok (.iload_n 2, 1) := by decide +kernel
theorem d_MM_isNotice_9 : decode (kB K_MM_isNotice) 9 = .ok (.iconst 0, 1) := by decide +kernel
theorem d_MM_isNotice_10 : decode (kB K_MM_isNotice) 10 = .ok (.aload_n 0, 1) := by decide +kernel
theorem d_MM_isNotice_11 : decode (kB K_MM_isNotice) 11 = .ok (.getfield 35, 3) := by decide +kernel
theorem d_MM_isNotice_14 : decode (kB K_MM_isNotice) 14 = .ok (.getfield 71, 3) := by decide +kernel
theorem d_MM_isNotice_17 : decode (kB K_MM_isNotice) 17 = .ok (.iconst 1, 1) := by decide +kernel
theorem d_MM_isNotice_18 : decode (kB K_MM_isNotice) 18 = .ok (.isub, 1) := by decide +kernel
theorem d_MM_isNotice_19 : decode (kB K_MM_isNotice) 19 = .ok (.invokestatic 63, 3) := by decide +kernel
theorem d_MM_isNotice_22 : decode (kB K_MM_isNotice) 22 = .ok (.ifCond .eq 7, 3) := by decide +kernel
theorem d_MM_isNotice_25 : decode (kB K_MM_isNotice) 25 = .ok (.iconst 1, 1) := by decide +kernel
theorem d_MM_isNotice_26 : decode (kB K_MM_isNotice) 26 = .ok (.goto 4, 3) := by decide +kernel
theorem d_MM_isNotice_29 : decode (kB K_MM_isNotice) 29 = .ok (.iconst 0, 1) := by decide +kernel
theorem d_MM_isNotice_30 : decode (kB K_MM_isNotice) 30 = .ok (.ireturn, 1) := by decide +kernel
def K_MM_isRoad : KM := (⟨"ParishBoardsModel", "isRoad", "(I)Z"⟩, prog_15_method_8_code, 2, (some (.boolean)), "ParishBoardsModel", [])
theorem d_MM_isRoad_0 : decode (kB K_MM_isRoad) 0 = .ok (.iload_n 1, 1) := by decide +kernel
theorem d_MM_isRoad_1 : decode (kB K_MM_isRoad) 1 = .ok (.iconst 0, 1) := by decide +kernel
theorem d_MM_isRoad_2 : decode (kB K_MM_isRoad) 2 = .ok (.aload_n 0, 1) := by decide +kernel
theorem d_MM_isRoad_3 : decode (kB K_MM_isRoad) 3 = .ok (.getfield 35, 3) := by decide +kernel
theorem d_MM_isRoad_6 : decode (kB K_MM_isRoad) 6 = .ok (.getfield 74, 3) := by decide +kernel
theorem d_MM_isRoad_9 : decode (kB K_MM_isRoad) 9 = .ok (.iconst 1, 1) := by decide +kernel
theorem d_MM_isRoad_10 : decode (kB K_MM_isRoad) 10 = .ok (.isub, 1) := by decide +kernel
theorem d_MM_isRoad_11 : decode (kB K_MM_isRoad) 11 = .ok (.invokestatic 63, 3) := by decide +kernel
theorem d_MM_isRoad_14 : decode (kB K_MM_isRoad) 14 = .ok (.ireturn, 1) := by decide +kernel
def K_MM_isSheet : KM := (⟨"ParishBoardsModel", "isSheet", "(I)Z"⟩, prog_15_method_9_code, 2, (some (.boolean)), "ParishBoardsModel", [])
theorem d_MM_isSheet_0 : decode (kB K_MM_isSheet) 0 = .ok (.iload_n 1, 1) := by decide +kernel
theorem d_MM_isSheet_1 : decode (kB K_MM_isSheet) 1 = .ok (.iconst 0, 1) := by decide +kernel
theorem d_MM_isSheet_2 : decode (kB K_MM_isSheet) 2 = .ok (.aload_n 0, 1) := by decide +kernel
theorem d_MM_isSheet_3 : decode (kB K_MM_isSheet) 3 = .ok (.getfield 47, 3) := by decide +kernel
theorem d_MM_isSheet_6 : decode (kB K_MM_isSheet) 6 = .ok (.getfield 77, 3) := by decide +kernel
theorem d_MM_isSheet_9 : decode (kB K_MM_isSheet) 9 = .ok (.iconst 1, 1) := by decide +kernel
theorem d_MM_isSheet_10 : decode (kB K_MM_isSheet) 10 = .ok (.isub, 1) := by decide +kernel
theorem d_MM_isSheet_11 : decode (kB K_MM_isSheet) 11 = .ok (.invokestatic 63, 3) := by decide +kernel
theorem d_MM_isSheet_14 : decode (kB K_MM_isSheet) 14 = .ok (.ireturn, 1) := by decide +kernel
def K_MM_both : KM := (⟨"ParishBoardsModel", "both", "(III)I"⟩, prog_15_method_10_code, 3, (some (.int)), "ParishBoardsModel", [])
theorem d_MM_both_0 : decode (kB K_MM_both) 0 = .ok (.iload_n 0, 1) := by decide +kernel
theorem d_MM_both_1 : decode (kB K_MM_both) 1 = .ok (.tableswitch 190 25 44 #[186, 190, 119, 125, 190, 190, 190, 190, 190, 95, 99, 103, 107, 131, 142, 190, 190, 153, 164, 175], 95) := by decide +kernel
theorem d_MM_both_96 : decode (kB K_MM_both) 96 = .ok (.iload_n 1, 1) := by decide +kernel
theorem d_MM_both_97 : decode (kB K_MM_both) 97 = .ok (.iload_n 2, 1) := by decide +kernel
theorem d_MM_both_98 : decode (kB K_MM_both) 98 = .ok (.iadd, 1) := by decide +kernel
theorem d_MM_both_99 : decode (kB K_MM_both) 99 = .ok (.ireturn, 1) := by decide +kernel
theorem d_MM_both_100 : decode (kB K_MM_both) 100 = .ok (.iload_n 1, 1) := by decide +kernel
theorem d_MM_both_101 : decode (kB K_MM_both) 101 = .ok (.iload_n 2, 1) := by decide +kernel
theorem d_MM_both_102 : decode (kB K_MM_both) 102 = .ok (.isub, 1) := by decide +kernel
theorem d_MM_both_103 : decode (kB K_MM_both) 103 = .ok (.ireturn, 1) := by decide +kernel
theorem d_MM_both_104 : decode (kB K_MM_both) 104 = .ok (.iload_n 1, 1) := by decide +kernel
theorem d_MM_both_105 : decode (kB K_MM_both) 105 = .ok (.iload_n 2, 1) := by decide +kernel
theorem d_MM_both_106 : decode (kB K_MM_both) 106 = .ok (.imul, 1) := by decide +kernel
theorem d_MM_both_107 : decode (kB K_MM_both) 107 = .ok (.ireturn, 1) := by decide +kernel
theorem d_MM_both_108 : decode (kB K_MM_both) 108 = .ok (.iload_n 2, 1) := by decide +kernel
theorem d_MM_both_109 : decode (kB K_MM_both) 109 = .ok (.ifCond .ne 7, 3) := by decide +kernel
theorem d_MM_both_112 : decode (kB K_MM_both) 112 = .ok (.iconst 0, 1) := by decide +kernel
theorem d_MM_both_113 : decode (kB K_MM_both) 113 = .ok (.goto 6, 3) := by decide +kernel
theorem d_MM_both_116 : decode (kB K_MM_both) 116 = .ok (.iload_n 1, 1) := by decide +kernel
theorem d_MM_both_117 : decode (kB K_MM_both) 117 = .ok (.iload_n 2, 1) := by decide +kernel
theorem d_MM_both_118 : decode (kB K_MM_both) 118 = .ok (.idiv, 1) := by decide +kernel
theorem d_MM_both_119 : decode (kB K_MM_both) 119 = .ok (.ireturn, 1) := by decide +kernel
theorem d_MM_both_120 : decode (kB K_MM_both) 120 = .ok (.iload_n 1, 1) := by decide +kernel
theorem d_MM_both_121 : decode (kB K_MM_both) 121 = .ok (.iload_n 2, 1) := by decide +kernel
theorem d_MM_both_122 : decode (kB K_MM_both) 122 = .ok (.invokestatic 80, 3) := by decide +kernel
theorem d_MM_both_125 : decode (kB K_MM_both) 125 = .ok (.ireturn, 1) := by decide +kernel
theorem d_MM_both_126 : decode (kB K_MM_both) 126 = .ok (.iload_n 1, 1) := by decide +kernel
theorem d_MM_both_127 : decode (kB K_MM_both) 127 = .ok (.iload_n 2, 1) := by decide +kernel
theorem d_MM_both_128 : decode (kB K_MM_both) 128 = .ok (.invokestatic 86, 3) := by decide +kernel
theorem d_MM_both_131 : decode (kB K_MM_both) 131 = .ok (.ireturn, 1) := by decide +kernel
theorem d_MM_both_132 : decode (kB K_MM_both) 132 = .ok (.iload_n 1, 1) := by decide +kernel
theorem d_MM_both_133 : decode (kB K_MM_both) 133 = .ok (.iload_n 2, 1) := by decide +kernel
theorem d_MM_both_134 : decode (kB K_MM_both) 134 = .ok (.if_icmp .ge 7, 3) := by decide +kernel
theorem d_MM_both_137 : decode (kB K_MM_both) 137 = .ok (.iconst 1, 1) := by decide +kernel
theorem d_MM_both_138 : decode (kB K_MM_both) 138 = .ok (.goto 4, 3) := by decide +kernel
theorem d_MM_both_141 : decode (kB K_MM_both) 141 = .ok (.iconst 0, 1) := by decide +kernel
theorem d_MM_both_142 : decode (kB K_MM_both) 142 = .ok (.ireturn, 1) := by decide +kernel
theorem d_MM_both_143 : decode (kB K_MM_both) 143 = .ok (.iload_n 1, 1) := by decide +kernel
theorem d_MM_both_144 : decode (kB K_MM_both) 144 = .ok (.iload_n 2, 1) := by decide +kernel
theorem d_MM_both_145 : decode (kB K_MM_both) 145 = .ok (.if_icmp .le 7, 3) := by decide +kernel
theorem d_MM_both_148 : decode (kB K_MM_both) 148 = .ok (.iconst 1, 1) := by decide +kernel
theorem d_MM_both_149 : decode (kB K_MM_both) 149 = .ok (.goto 4, 3) := by decide +kernel
theorem d_MM_both_152 : decode (kB K_MM_both) 152 = .ok (.iconst 0, 1) := by decide +kernel
theorem d_MM_both_153 : decode (kB K_MM_both) 153 = .ok (.ireturn, 1) := by decide +kernel
theorem d_MM_both_154 : decode (kB K_MM_both) 154 = .ok (.iload_n 1, 1) := by decide +kernel
theorem d_MM_both_155 : decode (kB K_MM_both) 155 = .ok (.iload_n 2, 1) := by decide +kernel
theorem d_MM_both_156 : decode (kB K_MM_both) 156 = .ok (.if_icmp .ne 7, 3) := by decide +kernel
theorem d_MM_both_159 : decode (kB K_MM_both) 159 = .ok (.iconst 1, 1) := by decide +kernel
theorem d_MM_both_160 : decode (kB K_MM_both) 160 = .ok (.goto 4, 3) := by decide +kernel
theorem d_MM_both_163 : decode (kB K_MM_both) 163 = .ok (.iconst 0, 1) := by decide +kernel
theorem d_MM_both_164 : decode (kB K_MM_both) 164 = .ok (.ireturn, 1) := by decide +kernel
theorem d_MM_both_165 : decode (kB K_MM_both) 165 = .ok (.iload_n 1, 1) := by decide +kernel
theorem d_MM_both_166 : decode (kB K_MM_both) 166 = .ok (.iload_n 2, 1) := by decide +kernel
theorem d_MM_both_167 : decode (kB K_MM_both) 167 = .ok (.if_icmp .gt 7, 3) := by decide +kernel
theorem d_MM_both_170 : decode (kB K_MM_both) 170 = .ok (.iconst 1, 1) := by decide +kernel
theorem d_MM_both_171 : decode (kB K_MM_both) 171 = .ok (.goto 4, 3) := by decide +kernel
theorem d_MM_both_174 : decode (kB K_MM_both) 174 = .ok (.iconst 0, 1) := by decide +kernel
theorem d_MM_both_175 : decode (kB K_MM_both) 175 = .ok (.ireturn, 1) := by decide +kernel
theorem d_MM_both_176 : decode (kB K_MM_both) 176 = .ok (.iload_n 1, 1) := by decide +kernel
theorem d_MM_both_177 : decode (kB K_MM_both) 177 = .ok (.iload_n 2, 1) := by decide +kernel
theorem d_MM_both_178 : decode (kB K_MM_both) 178 = .ok (.if_icmp .lt 7, 3) := by decide +kernel
theorem d_MM_both_181 : decode (kB K_MM_both) 181 = .ok (.iconst 1, 1) := by decide +kernel
theorem d_MM_both_182 : decode (kB K_MM_both) 182 = .ok (.goto 4, 3) := by decide +kernel
theorem d_MM_both_185 : decode (kB K_MM_both) 185 = .ok (.iconst 0, 1) := by decide +kernel
theorem d_MM_both_186 : decode (kB K_MM_both) 186 = .ok (.ireturn, 1) := by decide +kernel
theorem d_MM_both_187 : decode (kB K_MM_both) 187 = .ok (.iload_n 1, 1) := by decide +kernel
theorem d_MM_both_188 : decode (kB K_MM_both) 188 = .ok (.iload_n 2, 1) := by decide +kernel
theorem d_MM_both_189 : decode (kB K_MM_both) 189 = .ok (.iand, 1) := by decide +kernel
theorem d_MM_both_190 : decode (kB K_MM_both) 190 = .ok (.ireturn, 1) := by decide +kernel
theorem d_MM_both_191 : decode (kB K_MM_both) 191 = .ok (.iload_n 1, 1) := by decide +kernel
theorem d_MM_both_192 : decode (kB K_MM_both) 192 = .ok (.iload_n 2, 1) := by decide +kernel
theorem d_MM_both_193 : decode (kB K_MM_both) 193 = .ok (.ior, 1) := by decide +kernel
theorem d_MM_both_194 : decode (kB K_MM_both) 194 = .ok (.ireturn, 1) := by decide +kernel
def K_MM_isLetter : KM := (⟨"ParishBoardsModel", "isLetter", "(I)Z"⟩, prog_15_method_11_code, 1, (some (.boolean)), "ParishBoardsModel", [])
theorem d_MM_isLetter_0 : decode (kB K_MM_isLetter) 0 = .ok (.iload_n 0, 1) := by decide +kernel
theorem d_MM_isLetter_1 : decode (kB K_MM_isLetter) 1 = .ok (.bipush 97, 2) := by decide +kernel
theorem d_MM_isLetter_3 : decode (kB K_MM_isLetter) 3 = .ok (.if_icmp .lt 13, 3) := by decide +kernel
theorem d_MM_isLetter_6 : decode (kB K_MM_isLetter) 6 = .ok (.iload_n 0, 1) := by decide +kernel
theorem d_MM_isLetter_7 : decode (kB K_MM_isLetter) 7 = .ok (.bipush 122, 2) := by decide +kernel
theorem d_MM_isLetter_9 : decode (kB K_MM_isLetter) 9 = .ok (.if_icmp .gt 7, 3) := by decide +kernel
theorem d_MM_isLetter_12 : decode (kB K_MM_isLetter) 12 = .ok (.iconst 1, 1) := by decide +kernel
theorem d_MM_isLetter_13 : decode (kB K_MM_isLetter) 13 = .ok (.goto 4, 3) := by decide +kernel
theorem d_MM_isLetter_16 : decode (kB K_MM_isLetter) 16 = .ok (.iconst 0, 1) := by decide +kernel
theorem d_MM_isLetter_17 : decode (kB K_MM_isLetter) 17 = .ok (.ireturn, 1) := by decide +kernel
def K_MM_isDigit : KM := (⟨"ParishBoardsModel", "isDigit", "(I)Z"⟩, prog_15_method_12_code, 1, (some (.boolean)), "ParishBoardsModel", [])
theorem d_MM_isDigit_0 : decode (kB K_MM_isDigit) 0 = .ok (.iload_n 0, 1) := by decide +kernel
theorem d_MM_isDigit_1 : decode (kB K_MM_isDigit) 1 = .ok (.bipush 48, 2) := by decide +kernel
theorem d_MM_isDigit_3 : decode (kB K_MM_isDigit) 3 = .ok (.if_icmp .lt 13, 3) := by decide +kernel
theorem d_MM_isDigit_6 : decode (kB K_MM_isDigit) 6 = .ok (.iload_n 0, 1) := by decide +kernel
theorem d_MM_isDigit_7 : decode (kB K_MM_isDigit) 7 = .ok (.bipush 57, 2) := by decide +kernel
theorem d_MM_isDigit_9 : decode (kB K_MM_isDigit) 9 = .ok (.if_icmp .gt 7, 3) := by decide +kernel
theorem d_MM_isDigit_12 : decode (kB K_MM_isDigit) 12 = .ok (.iconst 1, 1) := by decide +kernel
theorem d_MM_isDigit_13 : decode (kB K_MM_isDigit) 13 = .ok (.goto 4, 3) := by decide +kernel
theorem d_MM_isDigit_16 : decode (kB K_MM_isDigit) 16 = .ok (.iconst 0, 1) := by decide +kernel
theorem d_MM_isDigit_17 : decode (kB K_MM_isDigit) 17 = .ok (.ireturn, 1) := by decide +kernel
def K_MM_byteOf : KM := (⟨"ParishBoardsModel", "byteOf", "(I)I"⟩, prog_15_method_13_code, 2, (some (.int)), "ParishBoardsModel", [])
theorem d_MM_byteOf_0 : decode (kB K_MM_byteOf) 0 = .ok (.iload_n 1, 1) := by decide +kernel
theorem d_MM_byteOf_1 : decode (kB K_MM_byteOf) 1 = .ok (.aload_n 0, 1) := by decide +kernel
theorem d_MM_byteOf_2 : decode (kB K_MM_byteOf) 2 = .ok (.getfield 89, 3) := by decide +kernel
theorem d_MM_byteOf_5 : decode (kB K_MM_byteOf) 5 = .ok (.if_icmp .ge 12, 3) := by decide +kernel
theorem d_MM_byteOf_8 : decode (kB K_MM_byteOf) 8 = .ok (.aload_n 0, 1) := by decide +kernel
theorem d_MM_byteOf_9 : decode (kB K_MM_byteOf) 9 = .ok (.getfield 9, 3) := by decide +kernel
theorem d_MM_byteOf_12 : decode (kB K_MM_byteOf) 12 = .ok (.iload_n 1, 1) := by decide +kernel
theorem d_MM_byteOf_13 : decode (kB K_MM_byteOf) 13 = .ok (.iaload, 1) := by decide +kernel
theorem d_MM_byteOf_14 : decode (kB K_MM_byteOf) 14 = .ok (.goto 4, 3) := by decide +kernel
theorem d_MM_byteOf_17 : decode (kB K_MM_byteOf) 17 = .ok (.iconst (-1), 1) := by decide +kernel
theorem d_MM_byteOf_18 : decode (kB K_MM_byteOf) 18 = .ok (.ireturn, 1) := by decide +kernel
def K_MM_kindAt : KM := (⟨"ParishBoardsModel", "kindAt", "(II)I"⟩, prog_15_method_14_code, 6, (some (.int)), "ParishBoardsModel", [])
theorem d_MM_kindAt_0 : decode (kB K_MM_kindAt) 0 = .ok (.aload_n 0, 1) := by decide +kernel
theorem d_MM_kindAt_1 : decode (kB K_MM_kindAt) 1 = .ok (.iload_n 1, 1) := by decide +kernel
theorem d_MM_kindAt_2 : decode (kB K_MM_kindAt) 2 = .ok (.invokevirtual 92, 3) := by decide +kernel
theorem d_MM_kindAt_5 : decode (kB K_MM_kindAt) 5 = .ok (.istore_n 3, 1) := by decide +kernel
theorem d_MM_kindAt_6 : decode (kB K_MM_kindAt) 6 = .ok (.iload_n 1, 1) := by decide +kernel
theorem d_MM_kindAt_7 : decode (kB K_MM_kindAt) 7 = .ok (.iconst 1, 1) := by decide +kernel
theorem d_MM_kindAt_8 : decode (kB K_MM_kindAt) 8 = .ok (.iadd, 1) := by decide +kernel
theorem d_MM_kindAt_9 : decode (kB K_MM_kindAt) 9 = .ok (.istore 4, 2) := by decide +kernel
theorem d_MM_kindAt_11 : decode (kB K_MM_kindAt) 11 = .ok (.iload_n 3, 1) := by decide +kernel
theorem d_MM_kindAt_12 : decode (kB K_MM_kindAt) 12 = .ok (.iconst (-1), 1) := by decide +kernel
theorem d_MM_kindAt_13 : decode (kB K_MM_kindAt) 13 = .ok (.if_icmp .ne 7, 3) := by decide +kernel
theorem d_MM_kindAt_16 : decode (kB K_MM_kindAt) 16 = .ok (.sipush 900, 3) := by decide +kernel
theorem d_MM_kindAt_19 : decode (kB K_MM_kindAt) 19 = .ok (.ireturn, 1) := by decide +kernel
theorem d_MM_kindAt_20 : decode (kB K_MM_kindAt) 20 = .ok (.iload_n 3, 1) := by decide +kernel
theorem d_MM_kindAt_21 : decode (kB K_MM_kindAt) 21 = .ok (.invokestatic 96, 3) := by decide +kernel
theorem d_MM_kindAt_24 : decode (kB K_MM_kindAt) 24 = .ok (.ifCond .ne 10, 3) := by decide +kernel
theorem d_MM_kindAt_27 : decode (kB K_MM_kindAt) 27 = .ok (.iload_n 3, 1) := by decide +kernel
theorem d_MM_kindAt_28 : decode (kB K_MM_kindAt) 28 = .ok (.invokestatic 99, 3) := by decide +kernel
theorem d_MM_kindAt_31 : decode (kB K_MM_kindAt) 31 = .ok (.ifCond .eq 97, 3) := by decide +kernel
theorem d_MM_kindAt_34 : decode (kB K_MM_kindAt) 34 = .ok (.aload_n 0, 1) := by decide +kernel
theorem d_MM_kindAt_35 : decode (kB K_MM_kindAt) 35 = .ok (.iload 4, 2) := by decide +kernel
theorem d_MM_kindAt_37 : decode (kB K_MM_kindAt) 37 = .ok (.invokevirtual 92, 3) := by decide +kernel
theorem d_MM_kindAt_40 : decode (kB K_MM_kindAt) 40 = .ok (.invokestatic 99, 3) := by decide +kernel
theorem d_MM_kindAt_43 : decode (kB K_MM_kindAt) 43 = .ok (.ifCond .ne 22, 3) := by decide +kernel
theorem d_MM_kindAt_46 : decode (kB K_MM_kindAt) 46 = .ok (.iload_n 3, 1) := by decide +kernel
theorem d_MM_kindAt_47 : decode (kB K_MM_kindAt) 47 = .ok (.invokestatic 96, 3) := by decide +kernel
theorem d_MM_kindAt_50 : decode (kB K_MM_kindAt) 50 = .ok (.ifCond .eq 21, 3) := by decide +kernel
theorem d_MM_kindAt_53 : decode (kB K_MM_kindAt) 53 = .ok (.aload_n 0, 1) := by decide +kernel
theorem d_MM_kindAt_54 : decode (kB K_MM_kindAt) 54 = .ok (.iload 4, 2) := by decide +kernel
theorem d_MM_kindAt_56 : decode (kB K_MM_kindAt) 56 = .ok (.invokevirtual 92, 3) := by decide +kernel
theorem d_MM_kindAt_59 : decode (kB K_MM_kindAt) 59 = .ok (.invokestatic 96, 3) := by decide +kernel
theorem d_MM_kindAt_62 : decode (kB K_MM_kindAt) 62 = .ok (.ifCond .eq 9, 3) := by decide +kernel
theorem d_MM_kindAt_65 : decode (kB K_MM_kindAt) 65 = .ok (.iinc 4 1, 3) := by decide +kernel
theorem d_MM_kindAt_68 : decode (kB K_MM_kindAt) 68 = .ok (.goto (-34), 3) := by decide +kernel
theorem d_MM_kindAt_71 : decode (kB K_MM_kindAt) 71 = .ok (.aload_n 0, 1) := by decide +kernel
theorem d_MM_kindAt_72 : decode (kB K_MM_kindAt) 72 = .ok (.getfield 23, 3) := by decide +kernel
theorem d_MM_kindAt_75 : decode (kB K_MM_kindAt) 75 = .ok (.iload_n 2, 1) := by decide +kernel
theorem d_MM_kindAt_76 : decode (kB K_MM_kindAt) 76 = .ok (.iload 4, 2) := by decide +kernel
theorem d_MM_kindAt_78 : decode (kB K_MM_kindAt) 78 = .ok (.iload_n 1, 1) := by decide +kernel
theorem d_MM_kindAt_79 : decode (kB K_MM_kindAt) 79 = .ok (.isub, 1) := by decide +kernel
theorem d_MM_kindAt_80 : decode (kB K_MM_kindAt) 80 = .ok (.iastore, 1) := by decide +kernel
theorem d_MM_kindAt_81 : decode (kB K_MM_kindAt) 81 = .ok (.iload 4, 2) := by decide +kernel
theorem d_MM_kindAt_83 : decode (kB K_MM_kindAt) 83 = .ok (.iload_n 1, 1) := by decide +kernel
theorem d_MM_kindAt_84 : decode (kB K_MM_kindAt) 84 = .ok (.isub, 1) := by decide +kernel
theorem d_MM_kindAt_85 : decode (kB K_MM_kindAt) 85 = .ok (.iload_n 3, 1) := by decide +kernel
theorem d_MM_kindAt_86 : decode (kB K_MM_kindAt) 86 = .ok (.invokestatic 96, 3) := by decide +kernel
theorem d_MM_kindAt_89 : decode (kB K_MM_kindAt) 89 = .ok (.ifCond .eq 8, 3) := by decide +kernel
theorem d_MM_kindAt_92 : decode (kB K_MM_kindAt) 92 = .ok (.bipush 10, 2) := by decide +kernel
theorem d_MM_kindAt_94 : decode (kB K_MM_kindAt) 94 = .ok (.goto 5, 3) := by decide +kernel
theorem d_MM_kindAt_97 : decode (kB K_MM_kindAt) 97 = .ok (.bipush 6, 2) := by decide +kernel
theorem d_MM_kindAt_99 : decode (kB K_MM_kindAt) 99 = .ok (.if_icmp .le 7, 3) := by decide +kernel
theorem d_MM_kindAt_102 : decode (kB K_MM_kindAt) 102 = .ok (.sipush 901, 3) := by decide +kernel
theorem d_MM_kindAt_105 : decode (kB K_MM_kindAt) 105 = .ok (.ireturn, 1) := by decide +kernel
theorem d_MM_kindAt_106 : decode (kB K_MM_kindAt) 106 = .ok (.iload_n 3, 1) := by decide +kernel
theorem d_MM_kindAt_107 : decode (kB K_MM_kindAt) 107 = .ok (.invokestatic 96, 3) := by decide +kernel
theorem d_MM_kindAt_110 : decode (kB K_MM_kindAt) 110 = .ok (.ifCond .eq 15, 3) := by decide +kernel
theorem d_MM_kindAt_113 : decode (kB K_MM_kindAt) 113 = .ok (.aload_n 0, 1) := by decide +kernel
theorem d_MM_kindAt_114 : decode (kB K_MM_kindAt) 114 = .ok (.iload_n 1, 1) := by decide +kernel
theorem d_MM_kindAt_115 : decode (kB K_MM_kindAt) 115 = .ok (.iload 4, 2) := by decide +kernel
theorem d_MM_kindAt_117 : decode (kB K_MM_kindAt) 117 = .ok (.iload_n 1, 1) := by decide +kernel
theorem d_MM_kindAt_118 : decode (kB K_MM_kindAt) 118 = .ok (.isub, 1) := by decide +kernel
theorem d_MM_kindAt_119 : decode (kB K_MM_kindAt) 119 = .ok (.invokevirtual 102, 3) := by decide +kernel
theorem d_MM_kindAt_122 : decode (kB K_MM_kindAt) 122 = .ok (.goto 5, 3) := by decide +kernel
theorem d_MM_kindAt_125 : decode (kB K_MM_kindAt) 125 = .ok (.bipush 41, 2) := by decide +kernel
theorem d_MM_kindAt_127 : decode (kB K_MM_kindAt) 127 = .ok (.ireturn, 1) := by decide +kernel
theorem d_MM_kindAt_128 : decode (kB K_MM_kindAt) 128 = .ok (.iload_n 3, 1) := by decide +kernel
theorem d_MM_kindAt_129 : decode (kB K_MM_kindAt) 129 = .ok (.bipush 60, 2) := by decide +kernel
theorem d_MM_kindAt_131 : decode (kB K_MM_kindAt) 131 = .ok (.if_icmp .eq 9, 3) := by decide +kernel
theorem d_MM_kindAt_134 : decode (kB K_MM_kindAt) 134 = .ok (.iload_n 3, 1) := by decide +kernel
theorem d_MM_kindAt_135 : decode (kB K_MM_kindAt) 135 = .ok (.bipush 62, 2) := by decide +kernel
theorem d_MM_kindAt_137 : decode (kB K_MM_kindAt) 137 = .ok (.if_icmp .ne 18, 3) := by decide +kernel
theorem d_MM_kindAt_140 : decode (kB K_MM_kindAt) 140 = .ok (.aload_n 0, 1) := by decide +kernel
theorem d_MM_kindAt_141 : decode (kB K_MM_kindAt) 141 = .ok (.iload 4, 2) := by decide +kernel
theorem d_MM_kindAt_143 : decode (kB K_MM_kindAt) 143 = .ok (.invokevirtual 92, 3) := by decide +kernel
theorem d_MM_kindAt_146 : decode (kB K_MM_kindAt) 146 = .ok (.bipush 61, 2) := by decide +kernel
theorem d_MM_kindAt_148 : decode (kB K_MM_kindAt) 148 = .ok (.if_icmp .ne 7, 3) := by decide +kernel
theorem d_MM_kindAt_151 : decode (kB K_MM_kindAt) 151 = .ok (.iconst 1, 1) := by decide +kernel
theorem d_MM_kindAt_152 : decode (kB K_MM_kindAt) 152 = .ok (.goto 4, 3) := by decide +kernel
theorem d_MM_kindAt_155 : decode (kB K_MM_kindAt) 155 = .ok (.iconst 0, 1) := by decide +kernel
theorem d_MM_kindAt_156 : decode (kB K_MM_kindAt) 156 = .ok (.istore 5, 2) := by decide +kernel
theorem d_MM_kindAt_158 : decode (kB K_MM_kindAt) 158 = .ok (.aload_n 0, 1) := by decide +kernel
theorem d_MM_kindAt_159 : decode (kB K_MM_kindAt) 159 = .ok (.getfield 23, 3) := by decide +kernel
theorem d_MM_kindAt_162 : decode (kB K_MM_kindAt) 162 = .ok (.iload_n 2, 1) := by decide +kernel
theorem d_MM_kindAt_163 : decode (kB K_MM_kindAt) 163 = .ok (.iload 5, 2) := by decide +kernel
theorem d_MM_kindAt_165 : decode (kB K_MM_kindAt) 165 = .ok (.ifCond .eq 7, 3) := by decide +kernel
theorem d_MM_kindAt_168 : decode (kB K_MM_kindAt) 168 = .ok (.iconst 2, 1) := by decide +kernel
theorem d_MM_kindAt_169 : decode (kB K_MM_kindAt) 169 = .ok (.goto 4, 3) := by decide +kernel
theorem d_MM_kindAt_172 : decode (kB K_MM_kindAt) 172 = .ok (.iconst 1, 1) := by decide +kernel
theorem d_MM_kindAt_173 : decode (kB K_MM_kindAt) 173 = .ok (.iastore, 1) := by decide +kernel
theorem d_MM_kindAt_174 : decode (kB K_MM_kindAt) 174 = .ok (.iload 5, 2) := by decide +kernel
theorem d_MM_kindAt_176 : decode (kB K_MM_kindAt) 176 = .ok (.ifCond .eq 19, 3) := by decide +kernel
theorem d_MM_kindAt_179 : decode (kB K_MM_kindAt) 179 = .ok (.iload_n 3, 1) := by decide +kernel
theorem d_MM_kindAt_180 : decode (kB K_MM_kindAt) 180 = .ok (.bipush 60, 2) := by decide +kernel
theorem d_MM_kindAt_182 : decode (kB K_MM_kindAt) 182 = .ok (.if_icmp .ne 9, 3) := by decide +kernel
theorem d_MM_kindAt_185 : decode (kB K_MM_kindAt) 185 = .ok (.sipush 300, 3) := by decide +kernel
theorem d_MM_kindAt_188 : decode (kB K_MM_kindAt) 188 = .ok (.goto 6, 3) := by decide +kernel
theorem d_MM_kindAt_191 : decode (kB K_MM_kindAt) 191 = .ok (.sipush 301, 3) := by decide +kernel
theorem d_MM_kindAt_194 : decode (kB K_MM_kindAt) 194 = .ok (.ireturn, 1) := by decide +kernel
theorem d_MM_kindAt_195 : decode (kB K_MM_kindAt) 195 = .ok (.iload_n 3, 1) := by decide +kernel
theorem d_MM_kindAt_196 : decode (kB K_MM_kindAt) 196 = .ok (.ifCond .le 27, 3) := by decide +kernel
theorem d_MM_kindAt_199 : decode (kB K_MM_kindAt) 199 = .ok (.iload_n 3, 1) := by decide +kernel
theorem d_MM_kindAt_200 : decode (kB K_MM_kindAt) 200 = .ok (.sipush 128, 3) := by decide +kernel
theorem d_MM_kindAt_203 : decode (kB K_MM_kindAt) 203 = .ok (.if_icmp .ge 20, 3) := by decide +kernel
theorem d_MM_kindAt_206 : decode (kB K_MM_kindAt) 206 = .ok (.ldc 105, 2) := by decide +kernel
theorem d_MM_kindAt_208 : decode (kB K_MM_kindAt) 208 = .ok (.iload_n 3, 1) := by decide +kernel
theorem d_MM_kindAt_209 : decode (kB K_MM_kindAt) 209 = .ok (.i2c, 1) := by decide +kernel
theorem d_MM_kindAt_210 : decode (kB K_MM_kindAt) 210 = .ok (.invokevirtual 107, 3) := by decide +kernel
theorem d_MM_kindAt_213 : decode (kB K_MM_kindAt) 213 = .ok (.ifCond .lt 10, 3) := by decide +kernel
theorem d_MM_kindAt_216 : decode (kB K_MM_kindAt) 216 = .ok (.bipush 50, 2) := by decide +kernel
theorem d_MM_kindAt_218 : decode (kB K_MM_kindAt) 218 = .ok (.iload_n 3, 1) := by decide +kernel
theorem d_MM_kindAt_219 : decode (kB K_MM_kindAt) 219 = .ok (.iadd, 1) := by decide +kernel
theorem d_MM_kindAt_220 : decode (kB K_MM_kindAt) 220 = .ok (.goto 6, 3) := by decide +kernel
theorem d_MM_kindAt_223 : decode (kB K_MM_kindAt) 223 = .ok (.sipush 901, 3) := by decide +kernel
theorem d_MM_kindAt_226 : decode (kB K_MM_kindAt) 226 = .ok (.ireturn, 1) := by decide +kernel
def K_MM_word : KM := (⟨"ParishBoardsModel", "word", "(II)I"⟩, prog_15_method_15_code, 6, (some (.int)), "ParishBoardsModel", [])
theorem d_MM_word_0 : decode (kB K_MM_word) 0 = .ok (.iconst 0, 1) := by decide +kernel
theorem d_MM_word_1 : decode (kB K_MM_word) 1 = .ok (.istore_n 3, 1) := by decide +kernel
theorem d_MM_word_2 : decode (kB K_MM_word) 2 = .ok (.iload_n 3, 1) := by decide +kernel
theorem d_MM_word_3 : decode (kB K_MM_word) 3 = .ok (.getstatic 112, 3) := by decide +kernel
theorem d_MM_word_6 : decode (kB K_MM_word) 6 = .ok (.arraylength, 1) := by decide +kernel
theorem d_MM_word_7 : decode (kB K_MM_word) 7 = .ok (.if_icmp .ge 84, 3) := by decide +kernel
theorem d_MM_word_10 : decode (kB K_MM_word) 10 = .ok (.getstatic 112, 3) := by decide +kernel
theorem d_MM_word_13 : decode (kB K_MM_word) 13 = .ok (.iload_n 3, 1) := by decide +kernel
theorem d_MM_word_14 : decode (kB K_MM_word) 14 = .ok (.aaload, 1) := by decide +kernel
theorem d_MM_word_15 : decode (kB K_MM_word) 15 = .ok (.invokevirtual 116, 3) := by decide +kernel
theorem d_MM_word_18 : decode (kB K_MM_word) 18 = .ok (.iload_n 2, 1) := by decide +kernel
theorem d_MM_word_19 : decode (kB K_MM_word) 19 = .ok (.if_icmp .ne 7, 3) := by decide +kernel
theorem d_MM_word_22 : decode (kB K_MM_word) 22 = .ok (.iconst 1, 1) := by decide +kernel
theorem d_MM_word_23 : decode (kB K_MM_word) 23 = .ok (.goto 4, 3) := by decide +kernel
theorem d_MM_word_26 : decode (kB K_MM_word) 26 = .ok (.iconst 0, 1) := by decide +kernel
theorem d_MM_word_27 : decode (kB K_MM_word) 27 = .ok (.istore 4, 2) := by decide +kernel
theorem d_MM_word_29 : decode (kB K_MM_word) 29 = .ok (.iconst 0, 1) := by decide +kernel
theorem d_MM_word_30 : decode (kB K_MM_word) 30 = .ok (.istore 5, 2) := by decide +kernel
theorem d_MM_word_32 : decode (kB K_MM_word) 32 = .ok (.iload 4, 2) := by decide +kernel
theorem d_MM_word_34 : decode (kB K_MM_word) 34 = .ok (.ifCond .eq 44, 3) := by decide +kernel
theorem d_MM_word_37 : decode (kB K_MM_word) 37 = .ok (.iload 5, 2) := by decide +kernel
theorem d_MM_word_39 : decode (kB K_MM_word) 39 = .ok (.iload_n 2, 1) := by decide +kernel
theorem d_MM_word_40 : decode (kB K_MM_word) 40 = .ok (.if_icmp .ge 38, 3) := by decide +kernel
theorem d_MM_word_43 : decode (kB K_MM_word) 43 = .ok (.getstatic 112, 3) := by decide +kernel
theorem d_MM_word_46 : decode (kB K_MM_word) 46 = .ok (.iload_n 3, 1) := by decide +kernel
theorem d_MM_word_47 : decode (kB K_MM_word) 47 = .ok (.aaload, 1) := by decide +kernel
theorem d_MM_word_48 : decode (kB K_MM_word) 48 = .ok (.iload 5, 2) := by decide +kernel
theorem d_MM_word_50 : decode (kB K_MM_word) 50 = .ok (.invokevirtual 120, 3) := by decide +kernel
theorem d_MM_word_53 : decode (kB K_MM_word) 53 = .ok (.aload_n 0, 1) := by decide +kernel
theorem d_MM_word_54 : decode (kB K_MM_word) 54 = .ok (.getfield 9, 3) := by decide +kernel
theorem d_MM_word_57 : decode (kB K_MM_word) 57 = .ok (.iload_n 1, 1) := by decide +kernel
theorem d_MM_word_58 : decode (kB K_MM_word) 58 = .ok (.iload 5, 2) := by decide +kernel
theorem d_MM_word_60 : decode (kB K_MM_word) 60 = .ok (.iadd, 1) := by decide +kernel
theorem d_MM_word_61 : decode (kB K_MM_word) 61 = .ok (.iaload, 1) := by decide +kernel
theorem d_MM_word_62 : decode (kB K_MM_word) 62 = .ok (.if_icmp .ne 7, 3) := by decide +kernel
theorem d_MM_word_65 : decode (kB K_MM_word) 65 = .ok (.iconst 1, 1) := by decide +kernel
theorem d_MM_word_66 : decode (kB K_MM_word) 66 = .ok (.goto 4, 3) := by decide +kernel
theorem d_MM_word_69 : decode (kB K_MM_word) 69 = .ok (.iconst 0, 1) := by decide +kernel
theorem d_MM_word_70 : decode (kB K_MM_word) 70 = .ok (.istore 4, 2) := by decide +kernel
theorem d_MM_word_72 : decode (kB K_MM_word) 72 = .ok (.iinc 5 1, 3) := by decide +kernel
theorem d_MM_word_75 : decode (kB K_MM_word) 75 = .ok (.goto (-43), 3) := by decide +kernel
theorem d_MM_word_78 : decode (kB K_MM_word) 78 = .ok (.iload 4, 2) := by decide +kernel
theorem d_MM_word_80 : decode (kB K_MM_word) 80 = .ok (.ifCond .eq 5, 3) := by decide +kernel
theorem d_MM_word_83 : decode (kB K_MM_word) 83 = .ok (.iload_n 3, 1) := by decide +kernel
theorem d_MM_word_84 : decode (kB K_MM_word) 84 = .ok (.ireturn, 1) := by decide +kernel
theorem d_MM_word_85 : decode (kB K_MM_word) 85 = .ok (.iinc 3 1, 3) := by decide +kernel
theorem d_MM_word_88 : decode (kB K_MM_word) 88 = .ok (.goto (-86), 3) := by decide +kernel
theorem d_MM_word_91 : decode (kB K_MM_word) 91 = .ok (.bipush 40, 2) := by decide +kernel
theorem d_MM_word_93 : decode (kB K_MM_word) 93 = .ok (.ireturn, 1) := by decide +kernel
def K_MM_cut : KM := (⟨"ParishBoardsModel", "cut", "()V"⟩, prog_15_method_16_code, 3, none, "ParishBoardsModel", [])
theorem d_MM_cut_0 : decode (kB K_MM_cut) 0 = .ok (.iconst 0, 1) := by decide +kernel
theorem d_MM_cut_1 : decode (kB K_MM_cut) 1 = .ok (.istore_n 1, 1) := by decide +kernel
theorem d_MM_cut_2 : decode (kB K_MM_cut) 2 = .ok (.iconst 0, 1) := by decide +kernel
theorem d_MM_cut_3 : decode (kB K_MM_cut) 3 = .ok (.istore_n 2, 1) := by decide +kernel
theorem d_MM_cut_4 : decode (kB K_MM_cut) 4 = .ok (.iload_n 2, 1) := by decide +kernel
theorem d_MM_cut_5 : decode (kB K_MM_cut) 5 = .ok (.sipush 400, 3) := by decide +kernel
theorem d_MM_cut_8 : decode (kB K_MM_cut) 8 = .ok (.if_icmp .gt 118, 3) := by decide +kernel
theorem d_MM_cut_11 : decode (kB K_MM_cut) 11 = .ok (.aload_n 0, 1) := by decide +kernel
theorem d_MM_cut_12 : decode (kB K_MM_cut) 12 = .ok (.iload_n 1, 1) := by decide +kernel
theorem d_MM_cut_13 : decode (kB K_MM_cut) 13 = .ok (.invokevirtual 92, 3) := by decide +kernel
theorem d_MM_cut_16 : decode (kB K_MM_cut) 16 = .ok (.bipush 32, 2) := by decide +kernel
theorem d_MM_cut_18 : decode (kB K_MM_cut) 18 = .ok (.if_icmp .eq 13, 3) := by decide +kernel
theorem d_MM_cut_21 : decode (kB K_MM_cut) 21 = .ok (.aload_n 0, 1) := by decide +kernel
theorem d_MM_cut_22 : decode (kB K_MM_cut) 22 = .ok (.iload_n 1, 1) := by decide +kernel
theorem d_MM_cut_23 : decode (kB K_MM_cut) 23 = .ok (.invokevirtual 92, 3) := by decide +kernel
theorem d_MM_cut_26 : decode (kB K_MM_cut) 26 = .ok (.bipush 10, 2) := by decide +kernel
theorem d_MM_cut_28 : decode (kB K_MM_cut) 28 = .ok (.if_icmp .ne 9, 3) := by decide +kernel
theorem d_MM_cut_31 : decode (kB K_MM_cut) 31 = .ok (.iinc 1 1, 3) := by decide +kernel
theorem d_MM_cut_34 : decode (kB K_MM_cut) 34 = .ok (.goto (-23), 3) := by decide +kernel
theorem d_MM_cut_37 : decode (kB K_MM_cut) 37 = .ok (.aload_n 0, 1) := by decide +kernel
theorem d_MM_cut_38 : decode (kB K_MM_cut) 38 = .ok (.getfield 20, 3) := by decide +kernel
theorem d_MM_cut_41 : decode (kB K_MM_cut) 41 = .ok (.iload_n 2, 1) := by decide +kernel
theorem d_MM_cut_42 : decode (kB K_MM_cut) 42 = .ok (.iload_n 1, 1) := by decide +kernel
theorem d_MM_cut_43 : decode (kB K_MM_cut) 43 = .ok (.iastore, 1) := by decide +kernel
theorem d_MM_cut_44 : decode (kB K_MM_cut) 44 = .ok (.aload_n 0, 1) := by decide +kernel
theorem d_MM_cut_45 : decode (kB K_MM_cut) 45 = .ok (.getfield 26, 3) := by decide +kernel
theorem d_MM_cut_48 : decode (kB K_MM_cut) 48 = .ok (.iload_n 2, 1) := by decide +kernel
theorem d_MM_cut_49 : decode (kB K_MM_cut) 49 = .ok (.iconst 0, 1) := by decide +kernel
theorem d_MM_cut_50 : decode (kB K_MM_cut) 50 = .ok (.iastore, 1) := by decide +kernel
theorem d_MM_cut_51 : decode (kB K_MM_cut) 51 = .ok (.aload_n 0, 1) := by decide +kernel
theorem d_MM_cut_52 : decode (kB K_MM_cut) 52 = .ok (.getfield 29, 3) := by decide +kernel
theorem d_MM_cut_55 : decode (kB K_MM_cut) 55 = .ok (.iload_n 2, 1) := by decide +kernel
theorem d_MM_cut_56 : decode (kB K_MM_cut) 56 = .ok (.iconst 0, 1) := by decide +kernel
theorem d_MM_cut_57 : decode (kB K_MM_cut) 57 = .ok (.iastore, 1) := by decide +kernel
theorem d_MM_cut_58 : decode (kB K_MM_cut) 58 = .ok (.aload_n 0, 1) := by decide +kernel
theorem d_MM_cut_59 : decode (kB K_MM_cut) 59 = .ok (.getfield 17, 3) := by decide +kernel
theorem d_MM_cut_62 : decode (kB K_MM_cut) 62 = .ok (.iload_n 2, 1) := by decide +kernel
theorem d_MM_cut_63 : decode (kB K_MM_cut) 63 = .ok (.aload_n 0, 1) := by decide +kernel
theorem d_MM_cut_64 : decode (kB K_MM_cut) 64 = .ok (.iload_n 1, 1) := by decide +kernel
theorem d_MM_cut_65 : decode (kB K_MM_cut) 65 = .ok (.iload_n 2, 1) := by decide +kernel
theorem d_MM_cut_66 : decode (kB K_MM_cut) 66 = .ok (.invokevirtual 124, 3) := by decide +kernel
theorem d_MM_cut_69 : decode (kB K_MM_cut) 69 = .ok (.iastore, 1) := by decide +kernel
theorem d_MM_cut_70 : decode (kB K_MM_cut) 70 = .ok (.iload_n 2, 1) := by decide +kernel
theorem d_MM_cut_71 : decode (kB K_MM_cut) 71 = .ok (.sipush 400, 3) := by decide +kernel
theorem d_MM_cut_74 : decode (kB K_MM_cut) 74 = .ok (.if_icmp .ne 24, 3) := by decide +kernel
theorem d_MM_cut_77 : decode (kB K_MM_cut) 77 = .ok (.aload_n 0, 1) := by decide +kernel
theorem d_MM_cut_78 : decode (kB K_MM_cut) 78 = .ok (.getfield 17, 3) := by decide +kernel
theorem d_MM_cut_81 : decode (kB K_MM_cut) 81 = .ok (.iload_n 2, 1) := by decide +kernel
theorem d_MM_cut_82 : decode (kB K_MM_cut) 82 = .ok (.iaload, 1) := by decide +kernel
theorem d_MM_cut_83 : decode (kB K_MM_cut) 83 = .ok (.sipush 900, 3) := by decide +kernel
theorem d_MM_cut_86 : decode (kB K_MM_cut) 86 = .ok (.if_icmp .eq 12, 3) := by decide +kernel
theorem d_MM_cut_89 : decode (kB K_MM_cut) 89 = .ok (.aload_n 0, 1) := by decide +kernel
theorem d_MM_cut_90 : decode (kB K_MM_cut) 90 = .ok (.getfield 17, 3) := by decide +kernel
theorem d_MM_cut_93 : decode (kB K_MM_cut) 93 = .ok (.iload_n 2, 1) := by decide +kernel
theorem d_MM_cut_94 : decode (kB K_MM_cut) 94 = .ok (.sipush 901, 3) := by decide +kernel
theorem d_MM_cut_97 : decode (kB K_MM_cut) 97 = .ok (.iastore, 1) := by decide +kernel
theorem d_MM_cut_98 : decode (kB K_MM_cut) 98 = .ok (.aload_n 0, 1) := by decide +kernel
theorem d_MM_cut_99 : decode (kB K_MM_cut) 99 = .ok (.getfield 17, 3) := by decide +kernel
theorem d_MM_cut_102 : decode (kB K_MM_cut) 102 = .ok (.iload_n 2, 1) := by decide +kernel
theorem d_MM_cut_103 : decode (kB K_MM_cut) 103 = .ok (.iaload, 1) := by decide +kernel
theorem d_MM_cut_104 : decode (kB K_MM_cut) 104 = .ok (.sipush 900, 3) := by decide +kernel
theorem d_MM_cut_107 : decode (kB K_MM_cut) 107 = .ok (.if_icmp .lt 4, 3) := by decide +kernel
theorem d_MM_cut_110 : decode (kB K_MM_cut) 110 = .ok (.return_, 1) := by decide +kernel
theorem d_MM_cut_111 : decode (kB K_MM_cut) 111 = .ok (.iload_n 1, 1) := by decide +kernel
theorem d_MM_cut_112 : decode (kB K_MM_cut) 112 = .ok (.aload_n 0, 1) := by decide +kernel
theorem d_MM_cut_113 : decode (kB K_MM_cut) 113 = .ok (.getfield 23, 3) := by decide +kernel
theorem d_MM_cut_116 : decode (kB K_MM_cut) 116 = .ok (.iload_n 2, 1) := by decide +kernel
theorem d_MM_cut_117 : decode (kB K_MM_cut) 117 = .ok (.iaload, 1) := by decide +kernel
theorem d_MM_cut_118 : decode (kB K_MM_cut) 118 = .ok (.iadd, 1) := by decide +kernel
theorem d_MM_cut_119 : decode (kB K_MM_cut) 119 = .ok (.istore_n 1, 1) := by decide +kernel
theorem d_MM_cut_120 : decode (kB K_MM_cut) 120 = .ok (.iinc 2 1, 3) := by decide +kernel
theorem d_MM_cut_123 : decode (kB K_MM_cut) 123 = .ok (.goto (-119), 3) := by decide +kernel
theorem d_MM_cut_126 : decode (kB K_MM_cut) 126 = .ok (.return_, 1) := by decide +kernel
def K_MM_is : KM := (⟨"ParishBoardsModel", "is", "(I)Z"⟩, prog_15_method_17_code, 2, (some (.boolean)), "ParishBoardsModel", [])
theorem d_MM_is_0 : decode (kB K_MM_is) 0 = .ok (.aload_n 0, 1) := by decide +kernel
theorem d_MM_is_1 : decode (kB K_MM_is) 1 = .ok (.getfield 17, 3) := by decide +kernel
theorem d_MM_is_4 : decode (kB K_MM_is) 4 = .ok (.aload_n 0, 1) := by decide +kernel
theorem d_MM_is_5 : decode (kB K_MM_is) 5 = .ok (.getfield 127, 3) := by decide +kernel
theorem d_MM_is_8 : decode (kB K_MM_is) 8 = .ok (.iaload, 1) := by decide +kernel
theorem d_MM_is_9 : decode (kB K_MM_is) 9 = .ok (.iload_n 1, 1) := by decide +kernel
theorem d_MM_is_10 : decode (kB K_MM_is) 10 = .ok (.if_icmp .ne 7, 3) := by decide +kernel
theorem d_MM_is_13 : decode (kB K_MM_is) 13 = .ok (.iconst 1, 1) := by decide +kernel
theorem d_MM_is_14 : decode (kB K_MM_is) 14 = .ok (.goto 4, 3) := by decide +kernel
theorem d_MM_is_17 : decode (kB K_MM_is) 17 = .ok (.iconst 0, 1) := by decide +kernel
theorem d_MM_is_18 : decode (kB K_MM_is) 18 = .ok (.ireturn, 1) := by decide +kernel
def K_MM_isSign : KM := (⟨"ParishBoardsModel", "isSign", "(C)Z"⟩, prog_15_method_18_code, 2, (some (.boolean)), "ParishBoardsModel", [])
theorem d_MM_isSign_0 : decode (kB K_MM_isSign) 0 = .ok (.aload_n 0, 1) := by decide +kernel
theorem d_MM_isSign_1 : decode (kB K_MM_isSign) 1 = .ok (.getfield 17, 3) := by decide +kernel
theorem d_MM_isSign_4 : decode (kB K_MM_isSign) 4 = .ok (.aload_n 0, 1) := by decide +kernel
theorem d_MM_isSign_5 : decode (kB K_MM_isSign) 5 = .ok (.getfield 127, 3) := by decide +kernel
theorem d_MM_isSign_8 : decode (kB K_MM_isSign) 8 = .ok (.iaload, 1) := by decide +kernel
theorem d_MM_isSign_9 : decode (kB K_MM_isSign) 9 = .ok (.bipush 50, 2) := by decide +kernel
theorem d_MM_isSign_11 : decode (kB K_MM_isSign) 11 = .ok (.iload_n 1, 1) := by decide +kernel
theorem d_MM_isSign_12 : decode (kB K_MM_isSign) 12 = .ok (.iadd, 1) := by decide +kernel
theorem d_MM_isSign_13 : decode (kB K_MM_isSign) 13 = .ok (.if_icmp .ne 7, 3) := by decide +kernel
theorem d_MM_isSign_16 : decode (kB K_MM_isSign) 16 = .ok (.iconst 1, 1) := by decide +kernel
theorem d_MM_isSign_17 : decode (kB K_MM_isSign) 17 = .ok (.goto 4, 3) := by decide +kernel
theorem d_MM_isSign_20 : decode (kB K_MM_isSign) 20 = .ok (.iconst 0, 1) := by decide +kernel
theorem d_MM_isSign_21 : decode (kB K_MM_isSign) 21 = .ok (.ireturn, 1) := by decide +kernel
def K_MM_eat : KM := (⟨"ParishBoardsModel", "eat", "(I)Z"⟩, prog_15_method_19_code, 2, (some (.boolean)), "ParishBoardsModel", [])
theorem d_MM_eat_0 : decode (kB K_MM_eat) 0 = .ok (.aload_n 0, 1) := by decide +kernel
theorem d_MM_eat_1 : decode (kB K_MM_eat) 1 = .ok (.iload_n 1, 1) := by decide +kernel
theorem d_MM_eat_2 : decode (kB K_MM_eat) 2 = .ok (.invokevirtual 130, 3) := by decide +kernel
theorem d_MM_eat_5 : decode (kB K_MM_eat) 5 = .ok (.ifCond .ne 5, 3) := by decide +kernel
theorem d_MM_eat_8 : decode (kB K_MM_eat) 8 = .ok (.iconst 0, 1) := by decide +kernel
theorem d_MM_eat_9 : decode (kB K_MM_eat) 9 = .ok (.ireturn, 1) := by decide +kernel
theorem d_MM_eat_10 : decode (kB K_MM_eat) 10 = .ok (.aload_n 0, 1) := by decide +kernel
theorem d_MM_eat_11 : decode (kB K_MM_eat) 11 = .ok (.dup, 1) := by decide +kernel
theorem d_MM_eat_12 : decode (kB K_MM_eat) 12 = .ok (.getfield 127, 3) := by decide +kernel
theorem d_MM_eat_15 : decode (kB K_MM_eat) 15 = .ok (.iconst 1, 1) := by decide +kernel
theorem d_MM_eat_16 : decode (kB K_MM_eat) 16 = .ok (.iadd, 1) := by decide +kernel
theorem d_MM_eat_17 : decode (kB K_MM_eat) 17 = .ok (.putfield 127, 3) := by decide +kernel
theorem d_MM_eat_20 : decode (kB K_MM_eat) 20 = .ok (.iconst 1, 1) := by decide +kernel
theorem d_MM_eat_21 : decode (kB K_MM_eat) 21 = .ok (.ireturn, 1) := by decide +kernel
def K_MM_eatSign : KM := (⟨"ParishBoardsModel", "eatSign", "(C)Z"⟩, prog_15_method_20_code, 2, (some (.boolean)), "ParishBoardsModel", [])
theorem d_MM_eatSign_0 : decode (kB K_MM_eatSign) 0 = .ok (.aload_n 0, 1) := by decide +kernel
theorem d_MM_eatSign_1 : decode (kB K_MM_eatSign) 1 = .ok (.bipush 50, 2) := by decide +kernel
theorem d_MM_eatSign_3 : decode (kB K_MM_eatSign) 3 = .ok (.iload_n 1, 1) := by decide +kernel
theorem d_MM_eatSign_4 : decode (kB K_MM_eatSign) 4 = .ok (.iadd, 1) := by decide +kernel
theorem d_MM_eatSign_5 : decode (kB K_MM_eatSign) 5 = .ok (.invokevirtual 133, 3) := by decide +kernel
theorem d_MM_eatSign_8 : decode (kB K_MM_eatSign) 8 = .ok (.ireturn, 1) := by decide +kernel
def K_MM_eatAs : KM := (⟨"ParishBoardsModel", "eatAs", "(II)Z"⟩, prog_15_method_21_code, 3, (some (.boolean)), "ParishBoardsModel", [])
theorem d_MM_eatAs_0 : decode (kB K_MM_eatAs) 0 = .ok (.aload_n 0, 1) := by decide +kernel
theorem d_MM_eatAs_1 : decode (kB K_MM_eatAs) 1 = .ok (.getfield 26, 3) := by decide +kernel
theorem d_MM_eatAs_4 : decode (kB K_MM_eatAs) 4 = .ok (.aload_n 0, 1) := by decide +kernel
theorem d_MM_eatAs_5 : decode (kB K_MM_eatAs) 5 = .ok (.getfield 127, 3) := by decide +kernel
theorem d_MM_eatAs_8 : decode (kB K_MM_eatAs) 8 = .ok (.iload_n 2, 1) := by decide +kernel
theorem d_MM_eatAs_9 : decode (kB K_MM_eatAs) 9 = .ok (.iastore, 1) := by decide +kernel
theorem d_MM_eatAs_10 : decode (kB K_MM_eatAs) 10 = .ok (.aload_n 0, 1) := by decide +kernel
theorem d_MM_eatAs_11 : decode (kB K_MM_eatAs) 11 = .ok (.iload_n 1, 1) := by decide +kernel
theorem d_MM_eatAs_12 : decode (kB K_MM_eatAs) 12 = .ok (.invokevirtual 133, 3) := by decide +kernel
theorem d_MM_eatAs_15 : decode (kB K_MM_eatAs) 15 = .ok (.ireturn, 1) := by decide +kernel
def K_MM_put : KM := (⟨"ParishBoardsModel", "put", "(I)V"⟩, prog_15_method_22_code, 2, none, "ParishBoardsModel", [])
theorem d_MM_put_0 : decode (kB K_MM_put) 0 = .ok (.aload_n 0, 1) := by decide +kernel
theorem d_MM_put_1 : decode (kB K_MM_put) 1 = .ok (.getfield 39, 3) := by decide +kernel
theorem d_MM_put_4 : decode (kB K_MM_put) 4 = .ok (.getfield 136, 3) := by decide +kernel
theorem d_MM_put_7 : decode (kB K_MM_put) 7 = .ok (.aload_n 0, 1) := by decide +kernel
theorem d_MM_put_8 : decode (kB K_MM_put) 8 = .ok (.getfield 39, 3) := by decide +kernel
theorem d_MM_put_11 : decode (kB K_MM_put) 11 = .ok (.getfield 139, 3) := by decide +kernel
theorem d_MM_put_14 : decode (kB K_MM_put) 14 = .ok (.iload_n 1, 1) := by decide +kernel
theorem d_MM_put_15 : decode (kB K_MM_put) 15 = .ok (.iastore, 1) := by decide +kernel
theorem d_MM_put_16 : decode (kB K_MM_put) 16 = .ok (.aload_n 0, 1) := by decide +kernel
theorem d_MM_put_17 : decode (kB K_MM_put) 17 = .ok (.getfield 39, 3) := by decide +kernel
theorem d_MM_put_20 : decode (kB K_MM_put) 20 = .ok (.dup, 1) := by decide +kernel
theorem d_MM_put_21 : decode (kB K_MM_put) 21 = .ok (.getfield 139, 3) := by decide +kernel
theorem d_MM_put_24 : decode (kB K_MM_put) 24 = .ok (.iconst 1, 1) := by decide +kernel
theorem d_MM_put_25 : decode (kB K_MM_put) 25 = .ok (.iadd, 1) := by decide +kernel
theorem d_MM_put_26 : decode (kB K_MM_put) 26 = .ok (.putfield 139, 3) := by decide +kernel
theorem d_MM_put_29 : decode (kB K_MM_put) 29 = .ok (.return_, 1) := by decide +kernel
