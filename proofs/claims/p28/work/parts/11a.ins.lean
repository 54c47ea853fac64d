/-! methods and their instructions -/
def K_Bd_init : KM := (⟨"ParishBoards$Board", "<init>", "()V"⟩, prog_3_method_1_code, 1, none, "ParishBoards$Board", ([], []))
theorem d_Bd_init_0 : decode (kB K_Bd_init) 0 = .ok (.aload_n 0, 1) := by decide +kernel
theorem d_Bd_init_1 : decode (kB K_Bd_init) 1 = .ok (.invokespecial 3, 3) := by decide +kernel
theorem d_Bd_init_4 : decode (kB K_Bd_init) 4 = .ok (.aload_n 0, 1) := by decide +kernel
theorem d_Bd_init_5 : decode (kB K_Bd_init) 5 = .ok (.iconst 5, 1) := by decide +kernel
theorem d_Bd_init_6 : decode (kB K_Bd_init) 6 = .ok (.newarray .int, 2) := by decide +kernel
theorem d_Bd_init_8 : decode (kB K_Bd_init) 8 = .ok (.putfield 9, 3) := by decide +kernel
theorem d_Bd_init_11 : decode (kB K_Bd_init) 11 = .ok (.aload_n 0, 1) := by decide +kernel
theorem d_Bd_init_12 : decode (kB K_Bd_init) 12 = .ok (.bipush 30, 2) := by decide +kernel
theorem d_Bd_init_14 : decode (kB K_Bd_init) 14 = .ok (.newarray .int, 2) := by decide +kernel
theorem d_Bd_init_16 : decode (kB K_Bd_init) 16 = .ok (.putfield 15, 3) := by decide +kernel
theorem d_Bd_init_19 : decode (kB K_Bd_init) 19 = .ok (.aload_n 0, 1) := by decide +kernel
theorem d_Bd_init_20 : decode (kB K_Bd_init) 20 = .ok (.bipush 60, 2) := by decide +kernel
theorem d_Bd_init_22 : decode (kB K_Bd_init) 22 = .ok (.newarray .boolean, 2) := by decide +kernel
theorem d_Bd_init_24 : decode (kB K_Bd_init) 24 = .ok (.putfield 18, 3) := by decide +kernel
theorem d_Bd_init_27 : decode (kB K_Bd_init) 27 = .ok (.aload_n 0, 1) := by decide +kernel
theorem d_Bd_init_28 : decode (kB K_Bd_init) 28 = .ok (.iconst 0, 1) := by decide +kernel
theorem d_Bd_init_29 : decode (kB K_Bd_init) 29 = .ok (.putfield 22, 3) := by decide +kernel
theorem d_Bd_init_32 : decode (kB K_Bd_init) 32 = .ok (.aload_n 0, 1) := by decide +kernel
theorem d_Bd_init_33 : decode (kB K_Bd_init) 33 = .ok (.invokevirtual 26, 3) := by decide +kernel
theorem d_Bd_init_36 : decode (kB K_Bd_init) 36 = .ok (.return_, 1) := by decide +kernel
def K_Bd_clear : KM := (⟨"ParishBoards$Board", "clear", "()V"⟩, prog_3_method_2_code, 2, none, "ParishBoards$Board", ([], []))
theorem d_Bd_clear_0 : decode (kB K_Bd_clear) 0 = .ok (.iconst 0, 1) := by decide +kernel
theorem d_Bd_clear_1 : decode (kB K_Bd_clear) 1 = .ok (.istore_n 1, 1) := by decide +kernel
theorem d_Bd_clear_2 : decode (kB K_Bd_clear) 2 = .ok (.iload_n 1, 1) := by decide +kernel
theorem d_Bd_clear_3 : decode (kB K_Bd_clear) 3 = .ok (.aload_n 0, 1) := by decide +kernel
theorem d_Bd_clear_4 : decode (kB K_Bd_clear) 4 = .ok (.getfield 9, 3) := by decide +kernel
theorem d_Bd_clear_7 : decode (kB K_Bd_clear) 7 = .ok (.arraylength, 1) := by decide +kernel
theorem d_Bd_clear_8 : decode (kB K_Bd_clear) 8 = .ok (.if_icmp .ge 16, 3) := by decide +kernel
theorem d_Bd_clear_11 : decode (kB K_Bd_clear) 11 = .ok (.aload_n 0, 1) := by decide +kernel
theorem d_Bd_clear_12 : decode (kB K_Bd_clear) 12 = .ok (.getfield 9, 3) := by decide +kernel
theorem d_Bd_clear_15 : decode (kB K_Bd_clear) 15 = .ok (.iload_n 1, 1) := by decide +kernel
theorem d_Bd_clear_16 : decode (kB K_Bd_clear) 16 = .ok (.iconst 0, 1) := by decide +kernel
theorem d_Bd_clear_17 : decode (kB K_Bd_clear) 17 = .ok (.iastore, 1) := by decide +kernel
theorem d_Bd_clear_18 : decode (kB K_Bd_clear) 18 = .ok (.iinc 1 1, 3) := by decide +kernel
theorem d_Bd_clear_21 : decode (kB K_Bd_clear) 21 = .ok (.goto (-19), 3) := by decide +kernel
theorem d_Bd_clear_24 : decode (kB K_Bd_clear) 24 = .ok (.iconst 0, 1) := by decide +kernel
theorem d_Bd_clear_25 : decode (kB K_Bd_clear) 25 = .ok (.istore_n 1, 1) := by decide +kernel
theorem d_Bd_clear_26 : decode (kB K_Bd_clear) 26 = .ok (.iload_n 1, 1) := by decide +kernel
theorem d_Bd_clear_27 : decode (kB K_Bd_clear) 27 = .ok (.aload_n 0, 1) := by decide +kernel
theorem d_Bd_clear_28 : decode (kB K_Bd_clear) 28 = .ok (.getfield 15, 3) := by decide +kernel
theorem d_Bd_clear_31 : decode (kB K_Bd_clear) 31 = .ok (.arraylength, 1) := by decide +kernel
theorem d_Bd_clear_32 : decode (kB K_Bd_clear) 32 = .ok (.if_icmp .ge 16, 3) := by decide +kernel
theorem d_Bd_clear_35 : decode (kB K_Bd_clear) 35 = .ok (.aload_n 0, 1) := by decide +kernel
theorem d_Bd_clear_36 : decode (kB K_Bd_clear) 36 = .ok (.getfield 15, 3) := by decide +kernel
theorem d_Bd_clear_39 : decode (kB K_Bd_clear) 39 = .ok (.iload_n 1, 1) := by decide +kernel
theorem d_Bd_clear_40 : decode (kB K_Bd_clear) 40 = .ok (.iconst (-1), 1) := by decide +kernel
theorem d_Bd_clear_41 : decode (kB K_Bd_clear) 41 = .ok (.iastore, 1) := by decide +kernel
theorem d_Bd_clear_42 : decode (kB K_Bd_clear) 42 = .ok (.iinc 1 1, 3) := by decide +kernel
theorem d_Bd_clear_45 : decode (kB K_Bd_clear) 45 = .ok (.goto (-19), 3) := by decide +kernel
theorem d_Bd_clear_48 : decode (kB K_Bd_clear) 48 = .ok (.iconst 0, 1) := by decide +kernel
theorem d_Bd_clear_49 : decode (kB K_Bd_clear) 49 = .ok (.istore_n 1, 1) := by decide +kernel
theorem d_Bd_clear_50 : decode (kB K_Bd_clear) 50 = .ok (.iload_n 1, 1) := by decide +kernel
theorem d_Bd_clear_51 : decode (kB K_Bd_clear) 51 = .ok (.aload_n 0, 1) := by decide +kernel
theorem d_Bd_clear_52 : decode (kB K_Bd_clear) 52 = .ok (.getfield 18, 3) := by decide +kernel
theorem d_Bd_clear_55 : decode (kB K_Bd_clear) 55 = .ok (.arraylength, 1) := by decide +kernel
theorem d_Bd_clear_56 : decode (kB K_Bd_clear) 56 = .ok (.if_icmp .ge 16, 3) := by decide +kernel
theorem d_Bd_clear_59 : decode (kB K_Bd_clear) 59 = .ok (.aload_n 0, 1) := by decide +kernel
theorem d_Bd_clear_60 : decode (kB K_Bd_clear) 60 = .ok (.getfield 18, 3) := by decide +kernel
theorem d_Bd_clear_63 : decode (kB K_Bd_clear) 63 = .ok (.iload_n 1, 1) := by decide +kernel
theorem d_Bd_clear_64 : decode (kB K_Bd_clear) 64 = .ok (.iconst 0, 1) := by decide +kernel
theorem d_Bd_clear_65 : decode (kB K_Bd_clear) 65 = .ok (.bastore, 1) := by decide +kernel
theorem d_Bd_clear_66 : decode (kB K_Bd_clear) 66 = .ok (.iinc 1 1, 3) := by decide +kernel
theorem d_Bd_clear_69 : decode (kB K_Bd_clear) 69 = .ok (.goto (-19), 3) := by decide +kernel
theorem d_Bd_clear_72 : decode (kB K_Bd_clear) 72 = .ok (.aload_n 0, 1) := by decide +kernel
theorem d_Bd_clear_73 : decode (kB K_Bd_clear) 73 = .ok (.iconst 0, 1) := by decide +kernel
theorem d_Bd_clear_74 : decode (kB K_Bd_clear) 74 = .ok (.putfield 22, 3) := by decide +kernel
theorem d_Bd_clear_77 : decode (kB K_Bd_clear) 77 = .ok (.return_, 1) := by decide +kernel
def K_Bd_has : KM := (⟨"ParishBoards$Board", "has", "(LParishBoards$Sheet;)Z"⟩, prog_3_method_4_code, 2, (some (.boolean)), "ParishBoards$Board", ([], []))
theorem d_Bd_has_0 : decode (kB K_Bd_has) 0 = .ok (.aload_n 0, 1) := by decide +kernel
theorem d_Bd_has_1 : decode (kB K_Bd_has) 1 = .ok (.getfield 9, 3) := by decide +kernel
theorem d_Bd_has_4 : decode (kB K_Bd_has) 4 = .ok (.aload_n 1, 1) := by decide +kernel
theorem d_Bd_has_5 : decode (kB K_Bd_has) 5 = .ok (.getfield 35, 3) := by decide +kernel
theorem d_Bd_has_8 : decode (kB K_Bd_has) 8 = .ok (.iaload, 1) := by decide +kernel
theorem d_Bd_has_9 : decode (kB K_Bd_has) 9 = .ok (.aload_n 1, 1) := by decide +kernel
theorem d_Bd_has_10 : decode (kB K_Bd_has) 10 = .ok (.getfield 40, 3) := by decide +kernel
theorem d_Bd_has_13 : decode (kB K_Bd_has) 13 = .ok (.aload_n 1, 1) := by decide +kernel
theorem d_Bd_has_14 : decode (kB K_Bd_has) 14 = .ok (.getfield 35, 3) := by decide +kernel
theorem d_Bd_has_17 : decode (kB K_Bd_has) 17 = .ok (.iaload, 1) := by decide +kernel
theorem d_Bd_has_18 : decode (kB K_Bd_has) 18 = .ok (.if_icmp .lt 7, 3) := by decide +kernel
theorem d_Bd_has_21 : decode (kB K_Bd_has) 21 = .ok (.iconst 1, 1) := by decide +kernel
theorem d_Bd_has_22 : decode (kB K_Bd_has) 22 = .ok (.goto 4, 3) := by decide +kernel
theorem d_Bd_has_25 : decode (kB K_Bd_has) 25 = .ok (.iconst 0, 1) := by decide +kernel
theorem d_Bd_has_26 : decode (kB K_Bd_has) 26 = .ok (.ireturn, 1) := by decide +kernel
def K_Bd_knownCount : KM := (⟨"ParishBoards$Board", "knownCount", "()I"⟩, prog_3_method_5_code, 6, (some (.int)), "ParishBoards$Board", ([], []))
theorem d_Bd_knownCount_0 : decode (kB K_Bd_knownCount) 0 = .ok (.iconst 0, 1) := by decide +kernel
theorem d_Bd_knownCount_1 : decode (kB K_Bd_knownCount) 1 = .ok (.istore_n 1, 1) := by decide +kernel
theorem d_Bd_knownCount_2 : decode (kB K_Bd_knownCount) 2 = .ok (.aload_n 0, 1) := by decide +kernel
theorem d_Bd_knownCount_3 : decode (kB K_Bd_knownCount) 3 = .ok (.getfield 9, 3) := by decide +kernel
theorem d_Bd_knownCount_6 : decode (kB K_Bd_knownCount) 6 = .ok (.astore_n 2, 1) := by decide +kernel
theorem d_Bd_knownCount_7 : decode (kB K_Bd_knownCount) 7 = .ok (.aload_n 2, 1) := by decide +kernel
theorem d_Bd_knownCount_8 : decode (kB K_Bd_knownCount) 8 = .ok (.arraylength, 1) := by decide +kernel
theorem d_Bd_knownCount_9 : decode (kB K_Bd_knownCount) 9 = .ok (.istore_n 3, 1) := by decide +kernel
theorem d_Bd_knownCount_10 : decode (kB K_Bd_knownCount) 10 = .ok (.iconst 0, 1) := by decide +kernel
theorem d_Bd_knownCount_11 : decode (kB K_Bd_knownCount) 11 = .ok (.istore 4, 2) := by decide +kernel
theorem d_Bd_knownCount_13 : decode (kB K_Bd_knownCount) 13 = .ok (.iload 4, 2) := by decide +kernel
theorem d_Bd_knownCount_15 : decode (kB K_Bd_knownCount) 15 = .ok (.iload_n 3, 1) := by decide +kernel
theorem d_Bd_knownCount_16 : decode (kB K_Bd_knownCount) 16 = .ok (.if_icmp .ge 20, 3) := by decide +kernel
theorem d_Bd_knownCount_19 : decode (kB K_Bd_knownCount) 19 = .ok (.aload_n 2, 1) := by decide +kernel
theorem d_Bd_knownCount_20 : decode (kB K_Bd_knownCount) 20 = .ok (.iload 4, 2) := by decide +kernel
theorem d_Bd_knownCount_22 : decode (kB K_Bd_knownCount) 22 = .ok (.iaload, 1) := by decide +kernel
theorem d_Bd_knownCount_23 : decode (kB K_Bd_knownCount) 23 = .ok (.istore 5, 2) := by decide +kernel
theorem d_Bd_knownCount_25 : decode (kB K_Bd_knownCount) 25 = .ok (.iload_n 1, 1) := by decide +kernel
theorem d_Bd_knownCount_26 : decode (kB K_Bd_knownCount) 26 = .ok (.iload 5, 2) := by decide +kernel
theorem d_Bd_knownCount_28 : decode (kB K_Bd_knownCount) 28 = .ok (.iadd, 1) := by decide +kernel
theorem d_Bd_knownCount_29 : decode (kB K_Bd_knownCount) 29 = .ok (.istore_n 1, 1) := by decide +kernel
theorem d_Bd_knownCount_30 : decode (kB K_Bd_knownCount) 30 = .ok (.iinc 4 1, 3) := by decide +kernel
theorem d_Bd_knownCount_33 : decode (kB K_Bd_knownCount) 33 = .ok (.goto (-20), 3) := by decide +kernel
theorem d_Bd_knownCount_36 : decode (kB K_Bd_knownCount) 36 = .ok (.iload_n 1, 1) := by decide +kernel
theorem d_Bd_knownCount_37 : decode (kB K_Bd_knownCount) 37 = .ok (.ireturn, 1) := by decide +kernel
def K_Bd_canHang : KM := (⟨"ParishBoards$Board", "canHang", "(LParishBoards$Sheet;)Z"⟩, prog_3_method_6_code, 4, (some (.boolean)), "ParishBoards$Board", ([], []))
theorem d_Bd_canHang_0 : decode (kB K_Bd_canHang) 0 = .ok (.iconst 0, 1) := by decide +kernel
theorem d_Bd_canHang_1 : decode (kB K_Bd_canHang) 1 = .ok (.istore_n 2, 1) := by decide +kernel
theorem d_Bd_canHang_2 : decode (kB K_Bd_canHang) 2 = .ok (.iload_n 2, 1) := by decide +kernel
theorem d_Bd_canHang_3 : decode (kB K_Bd_canHang) 3 = .ok (.aload_n 0, 1) := by decide +kernel
theorem d_Bd_canHang_4 : decode (kB K_Bd_canHang) 4 = .ok (.getfield 9, 3) := by decide +kernel
theorem d_Bd_canHang_7 : decode (kB K_Bd_canHang) 7 = .ok (.arraylength, 1) := by decide +kernel
theorem d_Bd_canHang_8 : decode (kB K_Bd_canHang) 8 = .ok (.if_icmp .ge 68, 3) := by decide +kernel
theorem d_Bd_canHang_11 : decode (kB K_Bd_canHang) 11 = .ok (.iload_n 2, 1) := by decide +kernel
theorem d_Bd_canHang_12 : decode (kB K_Bd_canHang) 12 = .ok (.aload_n 1, 1) := by decide +kernel
theorem d_Bd_canHang_13 : decode (kB K_Bd_canHang) 13 = .ok (.getfield 35, 3) := by decide +kernel
theorem d_Bd_canHang_16 : decode (kB K_Bd_canHang) 16 = .ok (.if_icmp .ne 14, 3) := by decide +kernel
theorem d_Bd_canHang_19 : decode (kB K_Bd_canHang) 19 = .ok (.aload_n 1, 1) := by decide +kernel
theorem d_Bd_canHang_20 : decode (kB K_Bd_canHang) 20 = .ok (.getfield 40, 3) := by decide +kernel
theorem d_Bd_canHang_23 : decode (kB K_Bd_canHang) 23 = .ok (.iload_n 2, 1) := by decide +kernel
theorem d_Bd_canHang_24 : decode (kB K_Bd_canHang) 24 = .ok (.iaload, 1) := by decide +kernel
theorem d_Bd_canHang_25 : decode (kB K_Bd_canHang) 25 = .ok (.iconst 1, 1) := by decide +kernel
theorem d_Bd_canHang_26 : decode (kB K_Bd_canHang) 26 = .ok (.isub, 1) := by decide +kernel
theorem d_Bd_canHang_27 : decode (kB K_Bd_canHang) 27 = .ok (.goto 9, 3) := by decide +kernel
theorem d_Bd_canHang_30 : decode (kB K_Bd_canHang) 30 = .ok (.aload_n 1, 1) := by decide +kernel
theorem d_Bd_canHang_31 : decode (kB K_Bd_canHang) 31 = .ok (.getfield 40, 3) := by decide +kernel
theorem d_Bd_canHang_34 : decode (kB K_Bd_canHang) 34 = .ok (.iload_n 2, 1) := by decide +kernel
theorem d_Bd_canHang_35 : decode (kB K_Bd_canHang) 35 = .ok (.iaload, 1) := by decide +kernel
theorem d_Bd_canHang_36 : decode (kB K_Bd_canHang) 36 = .ok (.istore_n 3, 1) := by decide +kernel
theorem d_Bd_canHang_37 : decode (kB K_Bd_canHang) 37 = .ok (.iload_n 2, 1) := by decide +kernel
theorem d_Bd_canHang_38 : decode (kB K_Bd_canHang) 38 = .ok (.aload_n 1, 1) := by decide +kernel
theorem d_Bd_canHang_39 : decode (kB K_Bd_canHang) 39 = .ok (.getfield 35, 3) := by decide +kernel
theorem d_Bd_canHang_42 : decode (kB K_Bd_canHang) 42 = .ok (.if_icmp .ne 16, 3) := by decide +kernel
theorem d_Bd_canHang_45 : decode (kB K_Bd_canHang) 45 = .ok (.aload_n 0, 1) := by decide +kernel
theorem d_Bd_canHang_46 : decode (kB K_Bd_canHang) 46 = .ok (.getfield 9, 3) := by decide +kernel
theorem d_Bd_canHang_49 : decode (kB K_Bd_canHang) 49 = .ok (.iload_n 2, 1) := by decide +kernel
theorem d_Bd_canHang_50 : decode (kB K_Bd_canHang) 50 = .ok (.iaload, 1) := by decide +kernel
theorem d_Bd_canHang_51 : decode (kB K_Bd_canHang) 51 = .ok (.iload_n 3, 1) := by decide +kernel
theorem d_Bd_canHang_52 : decode (kB K_Bd_canHang) 52 = .ok (.if_icmp .eq 18, 3) := by decide +kernel
theorem d_Bd_canHang_55 : decode (kB K_Bd_canHang) 55 = .ok (.goto 13, 3) := by decide +kernel
theorem d_Bd_canHang_58 : decode (kB K_Bd_canHang) 58 = .ok (.aload_n 0, 1) := by decide +kernel
theorem d_Bd_canHang_59 : decode (kB K_Bd_canHang) 59 = .ok (.getfield 9, 3) := by decide +kernel
theorem d_Bd_canHang_62 : decode (kB K_Bd_canHang) 62 = .ok (.iload_n 2, 1) := by decide +kernel
theorem d_Bd_canHang_63 : decode (kB K_Bd_canHang) 63 = .ok (.iaload, 1) := by decide +kernel
theorem d_Bd_canHang_64 : decode (kB K_Bd_canHang) 64 = .ok (.iload_n 3, 1) := by decide +kernel
theorem d_Bd_canHang_65 : decode (kB K_Bd_canHang) 65 = .ok (.if_icmp .ge 5, 3) := by decide +kernel
theorem d_Bd_canHang_68 : decode (kB K_Bd_canHang) 68 = .ok (.iconst 0, 1) := by decide +kernel
theorem d_Bd_canHang_69 : decode (kB K_Bd_canHang) 69 = .ok (.ireturn, 1) := by decide +kernel
theorem d_Bd_canHang_70 : decode (kB K_Bd_canHang) 70 = .ok (.iinc 2 1, 3) := by decide +kernel
theorem d_Bd_canHang_73 : decode (kB K_Bd_canHang) 73 = .ok (.goto (-71), 3) := by decide +kernel
theorem d_Bd_canHang_76 : decode (kB K_Bd_canHang) 76 = .ok (.iconst 1, 1) := by decide +kernel
theorem d_Bd_canHang_77 : decode (kB K_Bd_canHang) 77 = .ok (.ireturn, 1) := by decide +kernel
def K_Bd_keepWaiting : KM := (⟨"ParishBoards$Board", "keepWaiting", "(I)V"⟩, prog_3_method_7_code, 2, none, "ParishBoards$Board", ([], []))
theorem d_Bd_keepWaiting_0 : decode (kB K_Bd_keepWaiting) 0 = .ok (.aload_n 0, 1) := by decide +kernel
theorem d_Bd_keepWaiting_1 : decode (kB K_Bd_keepWaiting) 1 = .ok (.getfield 18, 3) := by decide +kernel
theorem d_Bd_keepWaiting_4 : decode (kB K_Bd_keepWaiting) 4 = .ok (.iload_n 1, 1) := by decide +kernel
theorem d_Bd_keepWaiting_5 : decode (kB K_Bd_keepWaiting) 5 = .ok (.baload, 1) := by decide +kernel
theorem d_Bd_keepWaiting_6 : decode (kB K_Bd_keepWaiting) 6 = .ok (.ifCond .ne 20, 3) := by decide +kernel
theorem d_Bd_keepWaiting_9 : decode (kB K_Bd_keepWaiting) 9 = .ok (.aload_n 0, 1) := by decide +kernel
theorem d_Bd_keepWaiting_10 : decode (kB K_Bd_keepWaiting) 10 = .ok (.getfield 18, 3) := by decide +kernel
theorem d_Bd_keepWaiting_13 : decode (kB K_Bd_keepWaiting) 13 = .ok (.iload_n 1, 1) := by decide +kernel
theorem d_Bd_keepWaiting_14 : decode (kB K_Bd_keepWaiting) 14 = .ok (.iconst 1, 1) := by decide +kernel
theorem d_Bd_keepWaiting_15 : decode (kB K_Bd_keepWaiting) 15 = .ok (.bastore, 1) := by decide +kernel
theorem d_Bd_keepWaiting_16 : decode (kB K_Bd_keepWaiting) 16 = .ok (.aload_n 0, 1) := by decide +kernel
theorem d_Bd_keepWaiting_17 : decode (kB K_Bd_keepWaiting) 17 = .ok (.dup, 1) := by decide +kernel
theorem d_Bd_keepWaiting_18 : decode (kB K_Bd_keepWaiting) 18 = .ok (.getfield 22, 3) := by decide +kernel
theorem d_Bd_keepWaiting_21 : decode (kB K_Bd_keepWaiting) 21 = .ok (.iconst 1, 1) := by decide +kernel
theorem d_Bd_keepWaiting_22 : decode (kB K_Bd_keepWaiting) 22 = .ok (.iadd, 1) := by decide +kernel
theorem d_Bd_keepWaiting_23 : decode (kB K_Bd_keepWaiting) 23 = .ok (.putfield 22, 3) := by decide +kernel
theorem d_Bd_keepWaiting_26 : decode (kB K_Bd_keepWaiting) 26 = .ok (.return_, 1) := by decide +kernel
def K_Bd_endWaiting : KM := (⟨"ParishBoards$Board", "endWaiting", "(I)V"⟩, prog_3_method_8_code, 2, none, "ParishBoards$Board", ([], []))
theorem d_Bd_endWaiting_0 : decode (kB K_Bd_endWaiting) 0 = .ok (.aload_n 0, 1) := by decide +kernel
theorem d_Bd_endWaiting_1 : decode (kB K_Bd_endWaiting) 1 = .ok (.getfield 18, 3) := by decide +kernel
theorem d_Bd_endWaiting_4 : decode (kB K_Bd_endWaiting) 4 = .ok (.iload_n 1, 1) := by decide +kernel
theorem d_Bd_endWaiting_5 : decode (kB K_Bd_endWaiting) 5 = .ok (.baload, 1) := by decide +kernel
theorem d_Bd_endWaiting_6 : decode (kB K_Bd_endWaiting) 6 = .ok (.ifCond .eq 20, 3) := by decide +kernel
theorem d_Bd_endWaiting_9 : decode (kB K_Bd_endWaiting) 9 = .ok (.aload_n 0, 1) := by decide +kernel
theorem d_Bd_endWaiting_10 : decode (kB K_Bd_endWaiting) 10 = .ok (.getfield 18, 3) := by decide +kernel
theorem d_Bd_endWaiting_13 : decode (kB K_Bd_endWaiting) 13 = .ok (.iload_n 1, 1) := by decide +kernel
theorem d_Bd_endWaiting_14 : decode (kB K_Bd_endWaiting) 14 = .ok (.iconst 0, 1) := by decide +kernel
theorem d_Bd_endWaiting_15 : decode (kB K_Bd_endWaiting) 15 = .ok (.bastore, 1) := by decide +kernel
theorem d_Bd_endWaiting_16 : decode (kB K_Bd_endWaiting) 16 = .ok (.aload_n 0, 1) := by decide +kernel
theorem d_Bd_endWaiting_17 : decode (kB K_Bd_endWaiting) 17 = .ok (.dup, 1) := by decide +kernel
theorem d_Bd_endWaiting_18 : decode (kB K_Bd_endWaiting) 18 = .ok (.getfield 22, 3) := by decide +kernel
theorem d_Bd_endWaiting_21 : decode (kB K_Bd_endWaiting) 21 = .ok (.iconst 1, 1) := by decide +kernel
theorem d_Bd_endWaiting_22 : decode (kB K_Bd_endWaiting) 22 = .ok (.isub, 1) := by decide +kernel
theorem d_Bd_endWaiting_23 : decode (kB K_Bd_endWaiting) 23 = .ok (.putfield 22, 3) := by decide +kernel
theorem d_Bd_endWaiting_26 : decode (kB K_Bd_endWaiting) 26 = .ok (.return_, 1) := by decide +kernel
def K_Bd_show : KM := (⟨"ParishBoards$Board", "show", "(III)V"⟩, prog_3_method_9_code, 4, none, "ParishBoards$Board", ([], []))
theorem d_Bd_show_0 : decode (kB K_Bd_show) 0 = .ok (.aload_n 0, 1) := by decide +kernel
theorem d_Bd_show_1 : decode (kB K_Bd_show) 1 = .ok (.getfield 15, 3) := by decide +kernel
theorem d_Bd_show_4 : decode (kB K_Bd_show) 4 = .ok (.iload_n 1, 1) := by decide +kernel
theorem d_Bd_show_5 : decode (kB K_Bd_show) 5 = .ok (.iconst 5, 1) := by decide +kernel
theorem d_Bd_show_6 : decode (kB K_Bd_show) 6 = .ok (.imul, 1) := by decide +kernel
theorem d_Bd_show_7 : decode (kB K_Bd_show) 7 = .ok (.iload_n 2, 1) := by decide +kernel
theorem d_Bd_show_8 : decode (kB K_Bd_show) 8 = .ok (.iadd, 1) := by decide +kernel
theorem d_Bd_show_9 : decode (kB K_Bd_show) 9 = .ok (.iload_n 3, 1) := by decide +kernel
theorem d_Bd_show_10 : decode (kB K_Bd_show) 10 = .ok (.iastore, 1) := by decide +kernel
theorem d_Bd_show_11 : decode (kB K_Bd_show) 11 = .ok (.return_, 1) := by decide +kernel
def K_Bd_shownFrom : KM := (⟨"ParishBoards$Board", "shownFrom", "(II)I"⟩, prog_3_method_10_code, 3, (some (.int)), "ParishBoards$Board", ([], []))
theorem d_Bd_shownFrom_0 : decode (kB K_Bd_shownFrom) 0 = .ok (.aload_n 0, 1) := by decide +kernel
theorem d_Bd_shownFrom_1 : decode (kB K_Bd_shownFrom) 1 = .ok (.getfield 15, 3) := by decide +kernel
theorem d_Bd_shownFrom_4 : decode (kB K_Bd_shownFrom) 4 = .ok (.iload_n 1, 1) := by decide +kernel
theorem d_Bd_shownFrom_5 : decode (kB K_Bd_shownFrom) 5 = .ok (.iconst 5, 1) := by decide +kernel
theorem d_Bd_shownFrom_6 : decode (kB K_Bd_shownFrom) 6 = .ok (.imul, 1) := by decide +kernel
theorem d_Bd_shownFrom_7 : decode (kB K_Bd_shownFrom) 7 = .ok (.iload_n 2, 1) := by decide +kernel
theorem d_Bd_shownFrom_8 : decode (kB K_Bd_shownFrom) 8 = .ok (.iadd, 1) := by decide +kernel
theorem d_Bd_shownFrom_9 : decode (kB K_Bd_shownFrom) 9 = .ok (.iaload, 1) := by decide +kernel
theorem d_Bd_shownFrom_10 : decode (kB K_Bd_shownFrom) 10 = .ok (.ireturn, 1) := by decide +kernel
def K_Bd_shownAt : KM := (⟨"ParishBoards$Board", "shownAt", "(II)I"⟩, prog_3_method_11_code, 6, (some (.int)), "ParishBoards$Board", ([], []))
theorem d_Bd_shownAt_0 : decode (kB K_Bd_shownAt) 0 = .ok (.iload_n 2, 1) := by decide +kernel
theorem d_Bd_shownAt_1 : decode (kB K_Bd_shownAt) 1 = .ok (.istore_n 3, 1) := by decide +kernel
theorem d_Bd_shownAt_2 : decode (kB K_Bd_shownAt) 2 = .ok (.iconst 0, 1) := by decide +kernel
theorem d_Bd_shownAt_3 : decode (kB K_Bd_shownAt) 3 = .ok (.istore 4, 2) := by decide +kernel
theorem d_Bd_shownAt_5 : decode (kB K_Bd_shownAt) 5 = .ok (.iload 4, 2) := by decide +kernel
theorem d_Bd_shownAt_7 : decode (kB K_Bd_shownAt) 7 = .ok (.iconst 5, 1) := by decide +kernel
theorem d_Bd_shownAt_8 : decode (kB K_Bd_shownAt) 8 = .ok (.if_icmp .ge 49, 3) := by decide +kernel
theorem d_Bd_shownAt_11 : decode (kB K_Bd_shownAt) 11 = .ok (.iload_n 3, 1) := by decide +kernel
theorem d_Bd_shownAt_12 : decode (kB K_Bd_shownAt) 12 = .ok (.ifCond .lt 45, 3) := by decide +kernel
theorem d_Bd_shownAt_15 : decode (kB K_Bd_shownAt) 15 = .ok (.aload_n 0, 1) := by decide +kernel
theorem d_Bd_shownAt_16 : decode (kB K_Bd_shownAt) 16 = .ok (.iload_n 1, 1) := by decide +kernel
theorem d_Bd_shownAt_17 : decode (kB K_Bd_shownAt) 17 = .ok (.iload 4, 2) := by decide +kernel
theorem d_Bd_shownAt_19 : decode (kB K_Bd_shownAt) 19 = .ok (.invokevirtual 43, 3) := by decide +kernel
theorem d_Bd_shownAt_22 : decode (kB K_Bd_shownAt) 22 = .ok (.istore 5, 2) := by decide +kernel
theorem d_Bd_shownAt_24 : decode (kB K_Bd_shownAt) 24 = .ok (.iload 5, 2) := by decide +kernel
theorem d_Bd_shownAt_26 : decode (kB K_Bd_shownAt) 26 = .ok (.iconst (-1), 1) := by decide +kernel
theorem d_Bd_shownAt_27 : decode (kB K_Bd_shownAt) 27 = .ok (.if_icmp .eq 10, 3) := by decide +kernel
theorem d_Bd_shownAt_30 : decode (kB K_Bd_shownAt) 30 = .ok (.iload_n 3, 1) := by decide +kernel
theorem d_Bd_shownAt_31 : decode (kB K_Bd_shownAt) 31 = .ok (.ifCond .ne 6, 3) := by decide +kernel
theorem d_Bd_shownAt_34 : decode (kB K_Bd_shownAt) 34 = .ok (.iload 5, 2) := by decide +kernel
theorem d_Bd_shownAt_36 : decode (kB K_Bd_shownAt) 36 = .ok (.ireturn, 1) := by decide +kernel
theorem d_Bd_shownAt_37 : decode (kB K_Bd_shownAt) 37 = .ok (.iload_n 3, 1) := by decide +kernel
theorem d_Bd_shownAt_38 : decode (kB K_Bd_shownAt) 38 = .ok (.iload 5, 2) := by decide +kernel
theorem d_Bd_shownAt_40 : decode (kB K_Bd_shownAt) 40 = .ok (.iconst (-1), 1) := by decide +kernel
theorem d_Bd_shownAt_41 : decode (kB K_Bd_shownAt) 41 = .ok (.if_icmp .ne 7, 3) := by decide +kernel
theorem d_Bd_shownAt_44 : decode (kB K_Bd_shownAt) 44 = .ok (.iconst 0, 1) := by decide +kernel
theorem d_Bd_shownAt_45 : decode (kB K_Bd_shownAt) 45 = .ok (.goto 4, 3) := by decide +kernel
theorem d_Bd_shownAt_48 : decode (kB K_Bd_shownAt) 48 = .ok (.iconst 1, 1) := by decide +kernel
theorem d_Bd_shownAt_49 : decode (kB K_Bd_shownAt) 49 = .ok (.isub, 1) := by decide +kernel
theorem d_Bd_shownAt_50 : decode (kB K_Bd_shownAt) 50 = .ok (.istore_n 3, 1) := by decide +kernel
theorem d_Bd_shownAt_51 : decode (kB K_Bd_shownAt) 51 = .ok (.iinc 4 1, 3) := by decide +kernel
theorem d_Bd_shownAt_54 : decode (kB K_Bd_shownAt) 54 = .ok (.goto (-49), 3) := by decide +kernel
theorem d_Bd_shownAt_57 : decode (kB K_Bd_shownAt) 57 = .ok (.iconst (-1), 1) := by decide +kernel
theorem d_Bd_shownAt_58 : decode (kB K_Bd_shownAt) 58 = .ok (.ireturn, 1) := by decide +kernel
def K_Bd_shownCount : KM := (⟨"ParishBoards$Board", "shownCount", "(I)I"⟩, prog_3_method_12_code, 4, (some (.int)), "ParishBoards$Board", ([], []))
theorem d_Bd_shownCount_0 : decode (kB K_Bd_shownCount) 0 = .ok (.iconst 0, 1) := by decide +kernel
theorem d_Bd_shownCount_1 : decode (kB K_Bd_shownCount) 1 = .ok (.istore_n 2, 1) := by decide +kernel
theorem d_Bd_shownCount_2 : decode (kB K_Bd_shownCount) 2 = .ok (.iconst 0, 1) := by decide +kernel
theorem d_Bd_shownCount_3 : decode (kB K_Bd_shownCount) 3 = .ok (.istore_n 3, 1) := by decide +kernel
theorem d_Bd_shownCount_4 : decode (kB K_Bd_shownCount) 4 = .ok (.iload_n 3, 1) := by decide +kernel
theorem d_Bd_shownCount_5 : decode (kB K_Bd_shownCount) 5 = .ok (.iconst 5, 1) := by decide +kernel
theorem d_Bd_shownCount_6 : decode (kB K_Bd_shownCount) 6 = .ok (.if_icmp .ge 27, 3) := by decide +kernel
theorem d_Bd_shownCount_9 : decode (kB K_Bd_shownCount) 9 = .ok (.iload_n 2, 1) := by decide +kernel
theorem d_Bd_shownCount_10 : decode (kB K_Bd_shownCount) 10 = .ok (.aload_n 0, 1) := by decide +kernel
theorem d_Bd_shownCount_11 : decode (kB K_Bd_shownCount) 11 = .ok (.iload_n 1, 1) := by decide +kernel
theorem d_Bd_shownCount_12 : decode (kB K_Bd_shownCount) 12 = .ok (.iload_n 3, 1) := by decide +kernel
theorem d_Bd_shownCount_13 : decode (kB K_Bd_shownCount) 13 = .ok (.invokevirtual 43, 3) := by decide +kernel
theorem d_Bd_shownCount_16 : decode (kB K_Bd_shownCount) 16 = .ok (.iconst (-1), 1) := by decide +kernel
theorem d_Bd_shownCount_17 : decode (kB K_Bd_shownCount) 17 = .ok (.if_icmp .ne 7, 3) := by decide +kernel
theorem d_Bd_shownCount_20 : decode (kB K_Bd_shownCount) 20 = .ok (.iconst 0, 1) := by decide +kernel
theorem d_Bd_shownCount_21 : decode (kB K_Bd_shownCount) 21 = .ok (.goto 4, 3) := by decide +kernel
theorem d_Bd_shownCount_24 : decode (kB K_Bd_shownCount) 24 = .ok (.iconst 1, 1) := by decide +kernel
theorem d_Bd_shownCount_25 : decode (kB K_Bd_shownCount) 25 = .ok (.iadd, 1) := by decide +kernel
theorem d_Bd_shownCount_26 : decode (kB K_Bd_shownCount) 26 = .ok (.istore_n 2, 1) := by decide +kernel
theorem d_Bd_shownCount_27 : decode (kB K_Bd_shownCount) 27 = .ok (.iinc 3 1, 3) := by decide +kernel
theorem d_Bd_shownCount_30 : decode (kB K_Bd_shownCount) 30 = .ok (.goto (-26), 3) := by decide +kernel
theorem d_Bd_shownCount_33 : decode (kB K_Bd_shownCount) 33 = .ok (.iload_n 2, 1) := by decide +kernel
theorem d_Bd_shownCount_34 : decode (kB K_Bd_shownCount) 34 = .ok (.ireturn, 1) := by decide +kernel
def K_Bd_noticesWith : KM := (⟨"ParishBoards$Board", "noticesWith", "(I)I"⟩, prog_3_method_13_code, 4, (some (.int)), "ParishBoards$Board", ([], []))
theorem d_Bd_noticesWith_0 : decode (kB K_Bd_noticesWith) 0 = .ok (.iconst 0, 1) := by decide +kernel
theorem d_Bd_noticesWith_1 : decode (kB K_Bd_noticesWith) 1 = .ok (.istore_n 2, 1) := by decide +kernel
theorem d_Bd_noticesWith_2 : decode (kB K_Bd_noticesWith) 2 = .ok (.iconst 0, 1) := by decide +kernel
theorem d_Bd_noticesWith_3 : decode (kB K_Bd_noticesWith) 3 = .ok (.istore_n 3, 1) := by decide +kernel
theorem d_Bd_noticesWith_4 : decode (kB K_Bd_noticesWith) 4 = .ok (.iload_n 3, 1) := by decide +kernel
theorem d_Bd_noticesWith_5 : decode (kB K_Bd_noticesWith) 5 = .ok (.bipush 6, 2) := by decide +kernel
theorem d_Bd_noticesWith_7 : decode (kB K_Bd_noticesWith) 7 = .ok (.if_icmp .ge 26, 3) := by decide +kernel
theorem d_Bd_noticesWith_10 : decode (kB K_Bd_noticesWith) 10 = .ok (.iload_n 2, 1) := by decide +kernel
theorem d_Bd_noticesWith_11 : decode (kB K_Bd_noticesWith) 11 = .ok (.aload_n 0, 1) := by decide +kernel
theorem d_Bd_noticesWith_12 : decode (kB K_Bd_noticesWith) 12 = .ok (.iload_n 3, 1) := by decide +kernel
theorem d_Bd_noticesWith_13 : decode (kB K_Bd_noticesWith) 13 = .ok (.invokevirtual 47, 3) := by decide +kernel
theorem d_Bd_noticesWith_16 : decode (kB K_Bd_noticesWith) 16 = .ok (.iload_n 1, 1) := by decide +kernel
theorem d_Bd_noticesWith_17 : decode (kB K_Bd_noticesWith) 17 = .ok (.if_icmp .lt 7, 3) := by decide +kernel
theorem d_Bd_noticesWith_20 : decode (kB K_Bd_noticesWith) 20 = .ok (.iconst 1, 1) := by decide +kernel
theorem d_Bd_noticesWith_21 : decode (kB K_Bd_noticesWith) 21 = .ok (.goto 4, 3) := by decide +kernel
theorem d_Bd_noticesWith_24 : decode (kB K_Bd_noticesWith) 24 = .ok (.iconst 0, 1) := by decide +kernel
theorem d_Bd_noticesWith_25 : decode (kB K_Bd_noticesWith) 25 = .ok (.iadd, 1) := by decide +kernel
theorem d_Bd_noticesWith_26 : decode (kB K_Bd_noticesWith) 26 = .ok (.istore_n 2, 1) := by decide +kernel
theorem d_Bd_noticesWith_27 : decode (kB K_Bd_noticesWith) 27 = .ok (.iinc 3 1, 3) := by decide +kernel
theorem d_Bd_noticesWith_30 : decode (kB K_Bd_noticesWith) 30 = .ok (.goto (-26), 3) := by decide +kernel
theorem d_Bd_noticesWith_33 : decode (kB K_Bd_noticesWith) 33 = .ok (.iload_n 2, 1) := by decide +kernel
theorem d_Bd_noticesWith_34 : decode (kB K_Bd_noticesWith) 34 = .ok (.ireturn, 1) := by decide +kernel
def K_Bd_showsAsMuchAs : KM := (⟨"ParishBoards$Board", "showsAsMuchAs", "(LParishBoards$Board;)Z"⟩, prog_3_method_14_code, 3, (some (.boolean)), "ParishBoards$Board", ([], []))
theorem d_Bd_showsAsMuchAs_0 : decode (kB K_Bd_showsAsMuchAs) 0 = .ok (.iconst 0, 1) := by decide +kernel
theorem d_Bd_showsAsMuchAs_1 : decode (kB K_Bd_showsAsMuchAs) 1 = .ok (.istore_n 2, 1) := by decide +kernel
theorem d_Bd_showsAsMuchAs_2 : decode (kB K_Bd_showsAsMuchAs) 2 = .ok (.iload_n 2, 1) := by decide +kernel
theorem d_Bd_showsAsMuchAs_3 : decode (kB K_Bd_showsAsMuchAs) 3 = .ok (.aload_n 0, 1) := by decide +kernel
theorem d_Bd_showsAsMuchAs_4 : decode (kB K_Bd_showsAsMuchAs) 4 = .ok (.getfield 15, 3) := by decide +kernel
theorem d_Bd_showsAsMuchAs_7 : decode (kB K_Bd_showsAsMuchAs) 7 = .ok (.arraylength, 1) := by decide +kernel
theorem d_Bd_showsAsMuchAs_8 : decode (kB K_Bd_showsAsMuchAs) 8 = .ok (.if_icmp .ge 26, 3) := by decide +kernel
theorem d_Bd_showsAsMuchAs_11 : decode (kB K_Bd_showsAsMuchAs) 11 = .ok (.aload_n 0, 1) := by decide +kernel
theorem d_Bd_showsAsMuchAs_12 : decode (kB K_Bd_showsAsMuchAs) 12 = .ok (.getfield 15, 3) := by decide +kernel
theorem d_Bd_showsAsMuchAs_15 : decode (kB K_Bd_showsAsMuchAs) 15 = .ok (.iload_n 2, 1) := by decide +kernel
theorem d_Bd_showsAsMuchAs_16 : decode (kB K_Bd_showsAsMuchAs) 16 = .ok (.iaload, 1) := by decide +kernel
theorem d_Bd_showsAsMuchAs_17 : decode (kB K_Bd_showsAsMuchAs) 17 = .ok (.aload_n 1, 1) := by decide +kernel
theorem d_Bd_showsAsMuchAs_18 : decode (kB K_Bd_showsAsMuchAs) 18 = .ok (.getfield 15, 3) := by decide +kernel
theorem d_Bd_showsAsMuchAs_21 : decode (kB K_Bd_showsAsMuchAs) 21 = .ok (.iload_n 2, 1) := by decide +kernel
theorem d_Bd_showsAsMuchAs_22 : decode (kB K_Bd_showsAsMuchAs) 22 = .ok (.iaload, 1) := by decide +kernel
theorem d_Bd_showsAsMuchAs_23 : decode (kB K_Bd_showsAsMuchAs) 23 = .ok (.if_icmp .eq 5, 3) := by decide +kernel
theorem d_Bd_showsAsMuchAs_26 : decode (kB K_Bd_showsAsMuchAs) 26 = .ok (.iconst 0, 1) := by decide +kernel
theorem d_Bd_showsAsMuchAs_27 : decode (kB K_Bd_showsAsMuchAs) 27 = .ok (.ireturn, 1) := by decide +kernel
theorem d_Bd_showsAsMuchAs_28 : decode (kB K_Bd_showsAsMuchAs) 28 = .ok (.iinc 2 1, 3) := by decide +kernel
theorem d_Bd_showsAsMuchAs_31 : decode (kB K_Bd_showsAsMuchAs) 31 = .ok (.goto (-29), 3) := by decide +kernel
theorem d_Bd_showsAsMuchAs_34 : decode (kB K_Bd_showsAsMuchAs) 34 = .ok (.iconst 1, 1) := by decide +kernel
theorem d_Bd_showsAsMuchAs_35 : decode (kB K_Bd_showsAsMuchAs) 35 = .ok (.ireturn, 1) := by decide +kernel
def K_Cd_init : KM := (⟨"ParishBoards$Code", "<init>", "()V"⟩, prog_4_method_1_code, 1, none, "ParishBoards$Code", ([], []))
theorem d_Cd_init_0 : decode (kB K_Cd_init) 0 = .ok (.aload_n 0, 1) := by decide +kernel
theorem d_Cd_init_1 : decode (kB K_Cd_init) 1 = .ok (.invokespecial 3, 3) := by decide +kernel
theorem d_Cd_init_4 : decode (kB K_Cd_init) 4 = .ok (.aload_n 0, 1) := by decide +kernel
theorem d_Cd_init_5 : decode (kB K_Cd_init) 5 = .ok (.sipush 400, 3) := by decide +kernel
theorem d_Cd_init_8 : decode (kB K_Cd_init) 8 = .ok (.anewarray 9, 3) := by decide +kernel
theorem d_Cd_init_11 : decode (kB K_Cd_init) 11 = .ok (.putfield 11, 3) := by decide +kernel
theorem d_Cd_init_14 : decode (kB K_Cd_init) 14 = .ok (.aload_n 0, 1) := by decide +kernel
theorem d_Cd_init_15 : decode (kB K_Cd_init) 15 = .ok (.sipush 400, 3) := by decide +kernel
theorem d_Cd_init_18 : decode (kB K_Cd_init) 18 = .ok (.newarray .int, 2) := by decide +kernel
theorem d_Cd_init_20 : decode (kB K_Cd_init) 20 = .ok (.putfield 17, 3) := by decide +kernel
theorem d_Cd_init_23 : decode (kB K_Cd_init) 23 = .ok (.aload_n 0, 1) := by decide +kernel
theorem d_Cd_init_24 : decode (kB K_Cd_init) 24 = .ok (.sipush 400, 3) := by decide +kernel
theorem d_Cd_init_27 : decode (kB K_Cd_init) 27 = .ok (.newarray .int, 2) := by decide +kernel
theorem d_Cd_init_29 : decode (kB K_Cd_init) 29 = .ok (.putfield 21, 3) := by decide +kernel
theorem d_Cd_init_32 : decode (kB K_Cd_init) 32 = .ok (.aload_n 0, 1) := by decide +kernel
theorem d_Cd_init_33 : decode (kB K_Cd_init) 33 = .ok (.sipush 400, 3) := by decide +kernel
theorem d_Cd_init_36 : decode (kB K_Cd_init) 36 = .ok (.newarray .int, 2) := by decide +kernel
theorem d_Cd_init_38 : decode (kB K_Cd_init) 38 = .ok (.putfield 24, 3) := by decide +kernel
theorem d_Cd_init_41 : decode (kB K_Cd_init) 41 = .ok (.aload_n 0, 1) := by decide +kernel
theorem d_Cd_init_42 : decode (kB K_Cd_init) 42 = .ok (.iconst 0, 1) := by decide +kernel
theorem d_Cd_init_43 : decode (kB K_Cd_init) 43 = .ok (.putfield 27, 3) := by decide +kernel
theorem d_Cd_init_46 : decode (kB K_Cd_init) 46 = .ok (.aload_n 0, 1) := by decide +kernel
theorem d_Cd_init_47 : decode (kB K_Cd_init) 47 = .ok (.iconst 0, 1) := by decide +kernel
theorem d_Cd_init_48 : decode (kB K_Cd_init) 48 = .ok (.putfield 31, 3) := by decide +kernel
theorem d_Cd_init_51 : decode (kB K_Cd_init) 51 = .ok (.return_, 1) := by decide +kernel
def K_Cd_add : KM := (⟨"ParishBoards$Code", "add", "(LParishBoards$Kind;I)V"⟩, prog_4_method_2_code, 3, none, "ParishBoards$Code", ([], []))
theorem d_Cd_add_0 : decode (kB K_Cd_add) 0 = .ok (.aload_n 0, 1) := by decide +kernel
theorem d_Cd_add_1 : decode (kB K_Cd_add) 1 = .ok (.getfield 27, 3) := by decide +kernel
theorem d_Cd_add_4 : decode (kB K_Cd_add) 4 = .ok (.sipush 400, 3) := by decide +kernel
theorem d_Cd_add_7 : decode (kB K_Cd_add) 7 = .ok (.if_icmp .ge 43, 3) := by decide +kernel
theorem d_Cd_add_10 : decode (kB K_Cd_add) 10 = .ok (.aload_n 0, 1) := by decide +kernel
theorem d_Cd_add_11 : decode (kB K_Cd_add) 11 = .ok (.getfield 11, 3) := by decide +kernel
theorem d_Cd_add_14 : decode (kB K_Cd_add) 14 = .ok (.aload_n 0, 1) := by decide +kernel
theorem d_Cd_add_15 : decode (kB K_Cd_add) 15 = .ok (.getfield 27, 3) := by decide +kernel
theorem d_Cd_add_18 : decode (kB K_Cd_add) 18 = .ok (.aload_n 1, 1) := by decide +kernel
theorem d_Cd_add_19 : decode (kB K_Cd_add) 19 = .ok (.aastore, 1) := by decide +kernel
theorem d_Cd_add_20 : decode (kB K_Cd_add) 20 = .ok (.aload_n 0, 1) := by decide +kernel
theorem d_Cd_add_21 : decode (kB K_Cd_add) 21 = .ok (.getfield 17, 3) := by decide +kernel
theorem d_Cd_add_24 : decode (kB K_Cd_add) 24 = .ok (.aload_n 0, 1) := by decide +kernel
theorem d_Cd_add_25 : decode (kB K_Cd_add) 25 = .ok (.getfield 27, 3) := by decide +kernel
theorem d_Cd_add_28 : decode (kB K_Cd_add) 28 = .ok (.iload_n 2, 1) := by decide +kernel
theorem d_Cd_add_29 : decode (kB K_Cd_add) 29 = .ok (.iastore, 1) := by decide +kernel
theorem d_Cd_add_30 : decode (kB K_Cd_add) 30 = .ok (.aload_n 0, 1) := by decide +kernel
theorem d_Cd_add_31 : decode (kB K_Cd_add) 31 = .ok (.getfield 21, 3) := by decide +kernel
theorem d_Cd_add_34 : decode (kB K_Cd_add) 34 = .ok (.aload_n 0, 1) := by decide +kernel
theorem d_Cd_add_35 : decode (kB K_Cd_add) 35 = .ok (.getfield 27, 3) := by decide +kernel
theorem d_Cd_add_38 : decode (kB K_Cd_add) 38 = .ok (.iconst 0, 1) := by decide +kernel
theorem d_Cd_add_39 : decode (kB K_Cd_add) 39 = .ok (.iastore, 1) := by decide +kernel
theorem d_Cd_add_40 : decode (kB K_Cd_add) 40 = .ok (.aload_n 0, 1) := by decide +kernel
theorem d_Cd_add_41 : decode (kB K_Cd_add) 41 = .ok (.dup, 1) := by decide +kernel
theorem d_Cd_add_42 : decode (kB K_Cd_add) 42 = .ok (.getfield 27, 3) := by decide +kernel
theorem d_Cd_add_45 : decode (kB K_Cd_add) 45 = .ok (.iconst 1, 1) := by decide +kernel
theorem d_Cd_add_46 : decode (kB K_Cd_add) 46 = .ok (.iadd, 1) := by decide +kernel
theorem d_Cd_add_47 : decode (kB K_Cd_add) 47 = .ok (.putfield 27, 3) := by decide +kernel
theorem d_Cd_add_50 : decode (kB K_Cd_add) 50 = .ok (.return_, 1) := by decide +kernel
def K_Cd_settle : KM := (⟨"ParishBoards$Code", "settle", "(LParishBoards$Tokens;)V"⟩, prog_4_method_3_code, 4, none, "ParishBoards$Code", ([], []))
theorem d_Cd_settle_0 : decode (kB K_Cd_settle) 0 = .ok (.iconst 0, 1) := by decide +kernel
theorem d_Cd_settle_1 : decode (kB K_Cd_settle) 1 = .ok (.istore_n 2, 1) := by decide +kernel
theorem d_Cd_settle_2 : decode (kB K_Cd_settle) 2 = .ok (.iload_n 2, 1) := by decide +kernel
theorem d_Cd_settle_3 : decode (kB K_Cd_settle) 3 = .ok (.aload_n 0, 1) := by decide +kernel
theorem d_Cd_settle_4 : decode (kB K_Cd_settle) 4 = .ok (.getfield 27, 3) := by decide +kernel
theorem d_Cd_settle_7 : decode (kB K_Cd_settle) 7 = .ok (.if_icmp .ge 74, 3) := by decide +kernel
theorem d_Cd_settle_10 : decode (kB K_Cd_settle) 10 = .ok (.aload_n 0, 1) := by decide +kernel
theorem d_Cd_settle_11 : decode (kB K_Cd_settle) 11 = .ok (.getfield 17, 3) := by decide +kernel
theorem d_Cd_settle_14 : decode (kB K_Cd_settle) 14 = .ok (.iload_n 2, 1) := by decide +kernel
theorem d_Cd_settle_15 : decode (kB K_Cd_settle) 15 = .ok (.iaload, 1) := by decide +kernel
theorem d_Cd_settle_16 : decode (kB K_Cd_settle) 16 = .ok (.istore_n 3, 1) := by decide +kernel
theorem d_Cd_settle_17 : decode (kB K_Cd_settle) 17 = .ok (.aload_n 0, 1) := by decide +kernel
theorem d_Cd_settle_18 : decode (kB K_Cd_settle) 18 = .ok (.getfield 11, 3) := by decide +kernel
theorem d_Cd_settle_21 : decode (kB K_Cd_settle) 21 = .ok (.iload_n 2, 1) := by decide +kernel
theorem d_Cd_settle_22 : decode (kB K_Cd_settle) 22 = .ok (.aaload, 1) := by decide +kernel
theorem d_Cd_settle_23 : decode (kB K_Cd_settle) 23 = .ok (.getstatic 34, 3) := by decide +kernel
theorem d_Cd_settle_26 : decode (kB K_Cd_settle) 26 = .ok (.if_acmp .ne 18, 3) := by decide +kernel
theorem d_Cd_settle_29 : decode (kB K_Cd_settle) 29 = .ok (.aload_n 0, 1) := by decide +kernel
theorem d_Cd_settle_30 : decode (kB K_Cd_settle) 30 = .ok (.getfield 17, 3) := by decide +kernel
theorem d_Cd_settle_33 : decode (kB K_Cd_settle) 33 = .ok (.iload_n 2, 1) := by decide +kernel
theorem d_Cd_settle_34 : decode (kB K_Cd_settle) 34 = .ok (.aload_n 1, 1) := by decide +kernel
theorem d_Cd_settle_35 : decode (kB K_Cd_settle) 35 = .ok (.iload_n 3, 1) := by decide +kernel
theorem d_Cd_settle_36 : decode (kB K_Cd_settle) 36 = .ok (.invokevirtual 38, 3) := by decide +kernel
theorem d_Cd_settle_39 : decode (kB K_Cd_settle) 39 = .ok (.l2i, 1) := by decide +kernel
theorem d_Cd_settle_40 : decode (kB K_Cd_settle) 40 = .ok (.iastore, 1) := by decide +kernel
theorem d_Cd_settle_41 : decode (kB K_Cd_settle) 41 = .ok (.goto 34, 3) := by decide +kernel
theorem d_Cd_settle_44 : decode (kB K_Cd_settle) 44 = .ok (.iload_n 3, 1) := by decide +kernel
theorem d_Cd_settle_45 : decode (kB K_Cd_settle) 45 = .ok (.iconst (-1), 1) := by decide +kernel
theorem d_Cd_settle_46 : decode (kB K_Cd_settle) 46 = .ok (.if_icmp .eq 29, 3) := by decide +kernel
theorem d_Cd_settle_49 : decode (kB K_Cd_settle) 49 = .ok (.aload_n 0, 1) := by decide +kernel
theorem d_Cd_settle_50 : decode (kB K_Cd_settle) 50 = .ok (.getfield 17, 3) := by decide +kernel
theorem d_Cd_settle_53 : decode (kB K_Cd_settle) 53 = .ok (.iload_n 2, 1) := by decide +kernel
theorem d_Cd_settle_54 : decode (kB K_Cd_settle) 54 = .ok (.aload_n 1, 1) := by decide +kernel
theorem d_Cd_settle_55 : decode (kB K_Cd_settle) 55 = .ok (.iload_n 3, 1) := by decide +kernel
theorem d_Cd_settle_56 : decode (kB K_Cd_settle) 56 = .ok (.iconst 1, 1) := by decide +kernel
theorem d_Cd_settle_57 : decode (kB K_Cd_settle) 57 = .ok (.iadd, 1) := by decide +kernel
theorem d_Cd_settle_58 : decode (kB K_Cd_settle) 58 = .ok (.invokevirtual 44, 3) := by decide +kernel
theorem d_Cd_settle_61 : decode (kB K_Cd_settle) 61 = .ok (.iastore, 1) := by decide +kernel
theorem d_Cd_settle_62 : decode (kB K_Cd_settle) 62 = .ok (.aload_n 0, 1) := by decide +kernel
theorem d_Cd_settle_63 : decode (kB K_Cd_settle) 63 = .ok (.getfield 21, 3) := by decide +kernel
theorem d_Cd_settle_66 : decode (kB K_Cd_settle) 66 = .ok (.iload_n 2, 1) := by decide +kernel
theorem d_Cd_settle_67 : decode (kB K_Cd_settle) 67 = .ok (.aload_n 1, 1) := by decide +kernel
theorem d_Cd_settle_68 : decode (kB K_Cd_settle) 68 = .ok (.iload_n 3, 1) := by decide +kernel
theorem d_Cd_settle_69 : decode (kB K_Cd_settle) 69 = .ok (.iconst 2, 1) := by decide +kernel
theorem d_Cd_settle_70 : decode (kB K_Cd_settle) 70 = .ok (.iadd, 1) := by decide +kernel
theorem d_Cd_settle_71 : decode (kB K_Cd_settle) 71 = .ok (.invokevirtual 44, 3) := by decide +kernel
theorem d_Cd_settle_74 : decode (kB K_Cd_settle) 74 = .ok (.iastore, 1) := by decide +kernel
theorem d_Cd_settle_75 : decode (kB K_Cd_settle) 75 = .ok (.iinc 2 1, 3) := by decide +kernel
theorem d_Cd_settle_78 : decode (kB K_Cd_settle) 78 = .ok (.goto (-76), 3) := by decide +kernel
theorem d_Cd_settle_81 : decode (kB K_Cd_settle) 81 = .ok (.return_, 1) := by decide +kernel
def K_Cd_reckon : KM := (⟨"ParishBoards$Code", "reckon", "(IILParishBoards$World;)I"⟩, prog_4_method_4_code, 8, (some (.int)), "ParishBoards$Code", ([], []))
theorem d_Cd_reckon_0 : decode (kB K_Cd_reckon) 0 = .ok (.aload_n 0, 1) := by decide +kernel
theorem d_Cd_reckon_1 : decode (kB K_Cd_reckon) 1 = .ok (.iconst 0, 1) := by decide +kernel
theorem d_Cd_reckon_2 : decode (kB K_Cd_reckon) 2 = .ok (.putfield 31, 3) := by decide +kernel
theorem d_Cd_reckon_5 : decode (kB K_Cd_reckon) 5 = .ok (.iload_n 1, 1) := by decide +kernel
theorem d_Cd_reckon_6 : decode (kB K_Cd_reckon) 6 = .ok (.istore 4, 2) := by decide +kernel
theorem d_Cd_reckon_8 : decode (kB K_Cd_reckon) 8 = .ok (.iload 4, 2) := by decide +kernel
theorem d_Cd_reckon_10 : decode (kB K_Cd_reckon) 10 = .ok (.iload_n 2, 1) := by decide +kernel
theorem d_Cd_reckon_11 : decode (kB K_Cd_reckon) 11 = .ok (.if_icmp .ge 234, 3) := by decide +kernel
theorem d_Cd_reckon_14 : decode (kB K_Cd_reckon) 14 = .ok (.iload 4, 2) := by decide +kernel
theorem d_Cd_reckon_16 : decode (kB K_Cd_reckon) 16 = .ok (.aload_n 0, 1) := by decide +kernel
theorem d_Cd_reckon_17 : decode (kB K_Cd_reckon) 17 = .ok (.getfield 27, 3) := by decide +kernel
theorem d_Cd_reckon_20 : decode (kB K_Cd_reckon) 20 = .ok (.if_icmp .ge 225, 3) := by decide +kernel
theorem d_Cd_reckon_23 : decode (kB K_Cd_reckon) 23 = .ok (.aload_n 0, 1) := by decide +kernel
theorem d_Cd_reckon_24 : decode (kB K_Cd_reckon) 24 = .ok (.getfield 11, 3) := by decide +kernel
theorem d_Cd_reckon_27 : decode (kB K_Cd_reckon) 27 = .ok (.iload 4, 2) := by decide +kernel
theorem d_Cd_reckon_29 : decode (kB K_Cd_reckon) 29 = .ok (.aaload, 1) := by decide +kernel
theorem d_Cd_reckon_30 : decode (kB K_Cd_reckon) 30 = .ok (.astore 5, 2) := by decide +kernel
theorem d_Cd_reckon_32 : decode (kB K_Cd_reckon) 32 = .ok (.getstatic 48, 3) := by decide +kernel
theorem d_Cd_reckon_35 : decode (kB K_Cd_reckon) 35 = .ok (.aload 5, 2) := by decide +kernel
theorem d_Cd_reckon_37 : decode (kB K_Cd_reckon) 37 = .ok (.invokevirtual 53, 3) := by decide +kernel
theorem d_Cd_reckon_40 : decode (kB K_Cd_reckon) 40 = .ok (.iaload, 1) := by decide +kernel
theorem d_Cd_reckon_41 : decode (kB K_Cd_reckon) 41 = .ok (.tableswitch 173 8 30 #[160, 173, 121, 121, 173, 173, 173, 173, 173, 107, 121, 121, 121, 121, 121, 173, 173, 173, 173, 173, 173, 173, 148], 107) := by decide +kernel
theorem d_Cd_reckon_148 : decode (kB K_Cd_reckon) 148 = .ok (.aload_n 0, 1) := by decide +kernel
theorem d_Cd_reckon_149 : decode (kB K_Cd_reckon) 149 = .ok (.aload_n 0, 1) := by decide +kernel
theorem d_Cd_reckon_150 : decode (kB K_Cd_reckon) 150 = .ok (.getfield 17, 3) := by decide +kernel
theorem d_Cd_reckon_153 : decode (kB K_Cd_reckon) 153 = .ok (.iload 4, 2) := by decide +kernel
theorem d_Cd_reckon_155 : decode (kB K_Cd_reckon) 155 = .ok (.iaload, 1) := by decide +kernel
theorem d_Cd_reckon_156 : decode (kB K_Cd_reckon) 156 = .ok (.invokevirtual 57, 3) := by decide +kernel
theorem d_Cd_reckon_159 : decode (kB K_Cd_reckon) 159 = .ok (.goto 80, 3) := by decide +kernel
theorem d_Cd_reckon_162 : decode (kB K_Cd_reckon) 162 = .ok (.aload_n 0, 1) := by decide +kernel
theorem d_Cd_reckon_163 : decode (kB K_Cd_reckon) 163 = .ok (.aload_n 3, 1) := by decide +kernel
theorem d_Cd_reckon_164 : decode (kB K_Cd_reckon) 164 = .ok (.aload 5, 2) := by decide +kernel
theorem d_Cd_reckon_166 : decode (kB K_Cd_reckon) 166 = .ok (.aload_n 0, 1) := by decide +kernel
theorem d_Cd_reckon_167 : decode (kB K_Cd_reckon) 167 = .ok (.getfield 17, 3) := by decide +kernel
theorem d_Cd_reckon_170 : decode (kB K_Cd_reckon) 170 = .ok (.iload 4, 2) := by decide +kernel
theorem d_Cd_reckon_172 : decode (kB K_Cd_reckon) 172 = .ok (.iaload, 1) := by decide +kernel
theorem d_Cd_reckon_173 : decode (kB K_Cd_reckon) 173 = .ok (.aload_n 0, 1) := by decide +kernel
theorem d_Cd_reckon_174 : decode (kB K_Cd_reckon) 174 = .ok (.getfield 21, 3) := by decide +kernel
theorem d_Cd_reckon_177 : decode (kB K_Cd_reckon) 177 = .ok (.iload 4, 2) := by decide +kernel
theorem d_Cd_reckon_179 : decode (kB K_Cd_reckon) 179 = .ok (.iaload, 1) := by decide +kernel
theorem d_Cd_reckon_180 : decode (kB K_Cd_reckon) 180 = .ok (.invokevirtual 61, 3) := by decide +kernel
theorem d_Cd_reckon_183 : decode (kB K_Cd_reckon) 183 = .ok (.invokevirtual 57, 3) := by decide +kernel
theorem d_Cd_reckon_186 : decode (kB K_Cd_reckon) 186 = .ok (.goto 53, 3) := by decide +kernel
theorem d_Cd_reckon_189 : decode (kB K_Cd_reckon) 189 = .ok (.aload_n 0, 1) := by decide +kernel
theorem d_Cd_reckon_190 : decode (kB K_Cd_reckon) 190 = .ok (.aload_n 0, 1) := by decide +kernel
theorem d_Cd_reckon_191 : decode (kB K_Cd_reckon) 191 = .ok (.invokevirtual 67, 3) := by decide +kernel
theorem d_Cd_reckon_194 : decode (kB K_Cd_reckon) 194 = .ok (.ineg, 1) := by decide +kernel
theorem d_Cd_reckon_195 : decode (kB K_Cd_reckon) 195 = .ok (.invokevirtual 57, 3) := by decide +kernel
theorem d_Cd_reckon_198 : decode (kB K_Cd_reckon) 198 = .ok (.goto 41, 3) := by decide +kernel
theorem d_Cd_reckon_201 : decode (kB K_Cd_reckon) 201 = .ok (.aload_n 0, 1) := by decide +kernel
theorem d_Cd_reckon_202 : decode (kB K_Cd_reckon) 202 = .ok (.iconst 1, 1) := by decide +kernel
theorem d_Cd_reckon_203 : decode (kB K_Cd_reckon) 203 = .ok (.aload_n 0, 1) := by decide +kernel
theorem d_Cd_reckon_204 : decode (kB K_Cd_reckon) 204 = .ok (.invokevirtual 67, 3) := by decide +kernel
theorem d_Cd_reckon_207 : decode (kB K_Cd_reckon) 207 = .ok (.isub, 1) := by decide +kernel
theorem d_Cd_reckon_208 : decode (kB K_Cd_reckon) 208 = .ok (.invokevirtual 57, 3) := by decide +kernel
theorem d_Cd_reckon_211 : decode (kB K_Cd_reckon) 211 = .ok (.goto 28, 3) := by decide +kernel
theorem d_Cd_reckon_214 : decode (kB K_Cd_reckon) 214 = .ok (.aload_n 0, 1) := by decide +kernel
theorem d_Cd_reckon_215 : decode (kB K_Cd_reckon) 215 = .ok (.invokevirtual 67, 3) := by decide +kernel
theorem d_Cd_reckon_218 : decode (kB K_Cd_reckon) 218 = .ok (.istore 6, 2) := by decide +kernel
theorem d_Cd_reckon_220 : decode (kB K_Cd_reckon) 220 = .ok (.aload_n 0, 1) := by decide +kernel
theorem d_Cd_reckon_221 : decode (kB K_Cd_reckon) 221 = .ok (.invokevirtual 67, 3) := by decide +kernel
theorem d_Cd_reckon_224 : decode (kB K_Cd_reckon) 224 = .ok (.istore 7, 2) := by decide +kernel
theorem d_Cd_reckon_226 : decode (kB K_Cd_reckon) 226 = .ok (.aload_n 0, 1) := by decide +kernel
theorem d_Cd_reckon_227 : decode (kB K_Cd_reckon) 227 = .ok (.aload 5, 2) := by decide +kernel
theorem d_Cd_reckon_229 : decode (kB K_Cd_reckon) 229 = .ok (.iload 7, 2) := by decide +kernel
theorem d_Cd_reckon_231 : decode (kB K_Cd_reckon) 231 = .ok (.iload 6, 2) := by decide +kernel
theorem d_Cd_reckon_233 : decode (kB K_Cd_reckon) 233 = .ok (.invokestatic 70, 3) := by decide +kernel
theorem d_Cd_reckon_236 : decode (kB K_Cd_reckon) 236 = .ok (.invokevirtual 57, 3) := by decide +kernel
theorem d_Cd_reckon_239 : decode (kB K_Cd_reckon) 239 = .ok (.iinc 4 1, 3) := by decide +kernel
theorem d_Cd_reckon_242 : decode (kB K_Cd_reckon) 242 = .ok (.goto (-234), 3) := by decide +kernel
theorem d_Cd_reckon_245 : decode (kB K_Cd_reckon) 245 = .ok (.aload_n 0, 1) := by decide +kernel
theorem d_Cd_reckon_246 : decode (kB K_Cd_reckon) 246 = .ok (.invokevirtual 67, 3) := by decide +kernel
theorem d_Cd_reckon_249 : decode (kB K_Cd_reckon) 249 = .ok (.ireturn, 1) := by decide +kernel
def K_Cd_joined : KM := (⟨"ParishBoards$Code", "joined", "(LParishBoards$Kind;II)I"⟩, prog_4_method_5_code, 3, (some (.int)), "ParishBoards$Code", ([], []))
theorem d_Cd_joined_0 : decode (kB K_Cd_joined) 0 = .ok (.getstatic 48, 3) := by decide +kernel
theorem d_Cd_joined_3 : decode (kB K_Cd_joined) 3 = .ok (.aload_n 0, 1) := by decide +kernel
theorem d_Cd_joined_4 : decode (kB K_Cd_joined) 4 = .ok (.invokevirtual 53, 3) := by decide +kernel
theorem d_Cd_joined_7 : decode (kB K_Cd_joined) 7 = .ok (.iaload, 1) := by decide +kernel
theorem d_Cd_joined_8 : decode (kB K_Cd_joined) 8 = .ok (.tableswitch 112 23 35 #[72, 112, 92, 98, 112, 112, 112, 112, 68, 76, 80, 104, 108], 68) := by decide +kernel
theorem d_Cd_joined_76 : decode (kB K_Cd_joined) 76 = .ok (.iload_n 1, 1) := by decide +kernel
theorem d_Cd_joined_77 : decode (kB K_Cd_joined) 77 = .ok (.iload_n 2, 1) := by decide +kernel
theorem d_Cd_joined_78 : decode (kB K_Cd_joined) 78 = .ok (.iadd, 1) := by decide +kernel
theorem d_Cd_joined_79 : decode (kB K_Cd_joined) 79 = .ok (.ireturn, 1) := by decide +kernel
theorem d_Cd_joined_80 : decode (kB K_Cd_joined) 80 = .ok (.iload_n 1, 1) := by decide +kernel
theorem d_Cd_joined_81 : decode (kB K_Cd_joined) 81 = .ok (.iload_n 2, 1) := by decide +kernel
theorem d_Cd_joined_82 : decode (kB K_Cd_joined) 82 = .ok (.isub, 1) := by decide +kernel
theorem d_Cd_joined_83 : decode (kB K_Cd_joined) 83 = .ok (.ireturn, 1) := by decide +kernel
theorem d_Cd_joined_84 : decode (kB K_Cd_joined) 84 = .ok (.iload_n 1, 1) := by decide +kernel
theorem d_Cd_joined_85 : decode (kB K_Cd_joined) 85 = .ok (.iload_n 2, 1) := by decide +kernel
theorem d_Cd_joined_86 : decode (kB K_Cd_joined) 86 = .ok (.imul, 1) := by decide +kernel
theorem d_Cd_joined_87 : decode (kB K_Cd_joined) 87 = .ok (.ireturn, 1) := by decide +kernel
theorem d_Cd_joined_88 : decode (kB K_Cd_joined) 88 = .ok (.iload_n 2, 1) := by decide +kernel
theorem d_Cd_joined_89 : decode (kB K_Cd_joined) 89 = .ok (.ifCond .ne 7, 3) := by decide +kernel
theorem d_Cd_joined_92 : decode (kB K_Cd_joined) 92 = .ok (.iconst 0, 1) := by decide +kernel
theorem d_Cd_joined_93 : decode (kB K_Cd_joined) 93 = .ok (.goto 6, 3) := by decide +kernel
theorem d_Cd_joined_96 : decode (kB K_Cd_joined) 96 = .ok (.iload_n 1, 1) := by decide +kernel
theorem d_Cd_joined_97 : decode (kB K_Cd_joined) 97 = .ok (.iload_n 2, 1) := by decide +kernel
theorem d_Cd_joined_98 : decode (kB K_Cd_joined) 98 = .ok (.idiv, 1) := by decide +kernel
theorem d_Cd_joined_99 : decode (kB K_Cd_joined) 99 = .ok (.ireturn, 1) := by decide +kernel
theorem d_Cd_joined_100 : decode (kB K_Cd_joined) 100 = .ok (.iload_n 1, 1) := by decide +kernel
theorem d_Cd_joined_101 : decode (kB K_Cd_joined) 101 = .ok (.iload_n 2, 1) := by decide +kernel
theorem d_Cd_joined_102 : decode (kB K_Cd_joined) 102 = .ok (.invokestatic 73, 3) := by decide +kernel
theorem d_Cd_joined_105 : decode (kB K_Cd_joined) 105 = .ok (.ireturn, 1) := by decide +kernel
theorem d_Cd_joined_106 : decode (kB K_Cd_joined) 106 = .ok (.iload_n 1, 1) := by decide +kernel
theorem d_Cd_joined_107 : decode (kB K_Cd_joined) 107 = .ok (.iload_n 2, 1) := by decide +kernel
theorem d_Cd_joined_108 : decode (kB K_Cd_joined) 108 = .ok (.invokestatic 79, 3) := by decide +kernel
theorem d_Cd_joined_111 : decode (kB K_Cd_joined) 111 = .ok (.ireturn, 1) := by decide +kernel
theorem d_Cd_joined_112 : decode (kB K_Cd_joined) 112 = .ok (.iload_n 1, 1) := by decide +kernel
theorem d_Cd_joined_113 : decode (kB K_Cd_joined) 113 = .ok (.iload_n 2, 1) := by decide +kernel
theorem d_Cd_joined_114 : decode (kB K_Cd_joined) 114 = .ok (.iand, 1) := by decide +kernel
theorem d_Cd_joined_115 : decode (kB K_Cd_joined) 115 = .ok (.ireturn, 1) := by decide +kernel
theorem d_Cd_joined_116 : decode (kB K_Cd_joined) 116 = .ok (.iload_n 1, 1) := by decide +kernel
theorem d_Cd_joined_117 : decode (kB K_Cd_joined) 117 = .ok (.iload_n 2, 1) := by decide +kernel
theorem d_Cd_joined_118 : decode (kB K_Cd_joined) 118 = .ok (.ior, 1) := by decide +kernel
theorem d_Cd_joined_119 : decode (kB K_Cd_joined) 119 = .ok (.ireturn, 1) := by decide +kernel
theorem d_Cd_joined_120 : decode (kB K_Cd_joined) 120 = .ok (.aload_n 0, 1) := by decide +kernel
theorem d_Cd_joined_121 : decode (kB K_Cd_joined) 121 = .ok (.iload_n 1, 1) := by decide +kernel
theorem d_Cd_joined_122 : decode (kB K_Cd_joined) 122 = .ok (.iload_n 2, 1) := by decide +kernel
theorem d_Cd_joined_123 : decode (kB K_Cd_joined) 123 = .ok (.invokestatic 82, 3) := by decide +kernel
theorem d_Cd_joined_126 : decode (kB K_Cd_joined) 126 = .ok (.ifCond .eq 7, 3) := by decide +kernel
theorem d_Cd_joined_129 : decode (kB K_Cd_joined) 129 = .ok (.iconst 1, 1) := by decide +kernel
theorem d_Cd_joined_130 : decode (kB K_Cd_joined) 130 = .ok (.goto 4, 3) := by decide +kernel
theorem d_Cd_joined_133 : decode (kB K_Cd_joined) 133 = .ok (.iconst 0, 1) := by decide +kernel
theorem d_Cd_joined_134 : decode (kB K_Cd_joined) 134 = .ok (.ireturn, 1) := by decide +kernel
def K_Cd_compares : KM := (⟨"ParishBoards$Code", "compares", "(LParishBoards$Kind;II)Z"⟩, prog_4_method_6_code, 3, (some (.boolean)), "ParishBoards$Code", ([], []))
theorem d_Cd_compares_0 : decode (kB K_Cd_compares) 0 = .ok (.getstatic 48, 3) := by decide +kernel
theorem d_Cd_compares_3 : decode (kB K_Cd_compares) 3 = .ok (.aload_n 0, 1) := by decide +kernel
theorem d_Cd_compares_4 : decode (kB K_Cd_compares) 4 = .ok (.invokevirtual 53, 3) := by decide +kernel
theorem d_Cd_compares_7 : decode (kB K_Cd_compares) 7 = .ok (.iaload, 1) := by decide +kernel
theorem d_Cd_compares_8 : decode (kB K_Cd_compares) 8 = .ok (.tableswitch 91 12 16 #[36, 47, 58, 69, 80], 36) := by decide +kernel
theorem d_Cd_compares_44 : decode (kB K_Cd_compares) 44 = .ok (.iload_n 1, 1) := by decide +kernel
theorem d_Cd_compares_45 : decode (kB K_Cd_compares) 45 = .ok (.iload_n 2, 1) := by decide +kernel
theorem d_Cd_compares_46 : decode (kB K_Cd_compares) 46 = .ok (.if_icmp .ge 7, 3) := by decide +kernel
theorem d_Cd_compares_49 : decode (kB K_Cd_compares) 49 = .ok (.iconst 1, 1) := by decide +kernel
theorem d_Cd_compares_50 : decode (kB K_Cd_compares) 50 = .ok (.goto 4, 3) := by decide +kernel
theorem d_Cd_compares_53 : decode (kB K_Cd_compares) 53 = .ok (.iconst 0, 1) := by decide +kernel
theorem d_Cd_compares_54 : decode (kB K_Cd_compares) 54 = .ok (.ireturn, 1) := by decide +kernel
theorem d_Cd_compares_55 : decode (kB K_Cd_compares) 55 = .ok (.iload_n 1, 1) := by decide +kernel
theorem d_Cd_compares_56 : decode (kB K_Cd_compares) 56 = .ok (.iload_n 2, 1) := by decide +kernel
theorem d_Cd_compares_57 : decode (kB K_Cd_compares) 57 = .ok (.if_icmp .le 7, 3) := by decide +kernel
theorem d_Cd_compares_60 : decode (kB K_Cd_compares) 60 = .ok (.iconst 1, 1) := by decide +kernel
theorem d_Cd_compares_61 : decode (kB K_Cd_compares) 61 = .ok (.goto 4, 3) := by decide +kernel
theorem d_Cd_compares_64 : decode (kB K_Cd_compares) 64 = .ok (.iconst 0, 1) := by decide +kernel
theorem d_Cd_compares_65 : decode (kB K_Cd_compares) 65 = .ok (.ireturn, 1) := by decide +kernel
theorem d_Cd_compares_66 : decode (kB K_Cd_compares) 66 = .ok (.iload_n 1, 1) := by decide +kernel
theorem d_Cd_compares_67 : decode (kB K_Cd_compares) 67 = .ok (.iload_n 2, 1) := by decide +kernel
theorem d_Cd_compares_68 : decode (kB K_Cd_compares) 68 = .ok (.if_icmp .ne 7, 3) := by decide +kernel
theorem d_Cd_compares_71 : decode (kB K_Cd_compares) 71 = .ok (.iconst 1, 1) := by decide +kernel
theorem d_Cd_compares_72 : decode (kB K_Cd_compares) 72 = .ok (.goto 4, 3) := by decide +kernel
theorem d_Cd_compares_75 : decode (kB K_Cd_compares) 75 = .ok (.iconst 0, 1) := by decide +kernel
theorem d_Cd_compares_76 : decode (kB K_Cd_compares) 76 = .ok (.ireturn, 1) := by decide +kernel
theorem d_Cd_compares_77 : decode (kB K_Cd_compares) 77 = .ok (.iload_n 1, 1) := by decide +kernel
theorem d_Cd_compares_78 : decode (kB K_Cd_compares) 78 = .ok (.iload_n 2, 1) := by decide +kernel
theorem d_Cd_compares_79 : decode (kB K_Cd_compares) 79 = .ok (.if_icmp .gt 7, 3) := by decide +kernel
theorem d_Cd_compares_82 : decode (kB K_Cd_compares) 82 = .ok (.iconst 1, 1) := by decide +kernel
theorem d_Cd_compares_83 : decode (kB K_Cd_compares) 83 = .ok (.goto 4, 3) := by decide +kernel
theorem d_Cd_compares_86 : decode (kB K_Cd_compares) 86 = .ok (.iconst 0, 1) := by decide +kernel
theorem d_Cd_compares_87 : decode (kB K_Cd_compares) 87 = .ok (.ireturn, 1) := by decide +kernel
theorem d_Cd_compares_88 : decode (kB K_Cd_compares) 88 = .ok (.iload_n 1, 1) := by decide +kernel
theorem d_Cd_compares_89 : decode (kB K_Cd_compares) 89 = .ok (.iload_n 2, 1) := by decide +kernel
theorem d_Cd_compares_90 : decode (kB K_Cd_compares) 90 = .ok (.if_icmp .lt 7, 3) := by decide +kernel
theorem d_Cd_compares_93 : decode (kB K_Cd_compares) 93 = .ok (.iconst 1, 1) := by decide +kernel
theorem d_Cd_compares_94 : decode (kB K_Cd_compares) 94 = .ok (.goto 4, 3) := by decide +kernel
theorem d_Cd_compares_97 : decode (kB K_Cd_compares) 97 = .ok (.iconst 0, 1) := by decide +kernel
theorem d_Cd_compares_98 : decode (kB K_Cd_compares) 98 = .ok (.ireturn, 1) := by decide +kernel
theorem d_Cd_compares_99 : decode (kB K_Cd_compares) 99 = .ok (.iconst 0, 1) := by decide +kernel
theorem d_Cd_compares_100 : decode (kB K_Cd_compares) 100 = .ok (.ireturn, 1) := by decide +kernel
def K_Cd_push : KM := (⟨"ParishBoards$Code", "push", "(I)V"⟩, prog_4_method_7_code, 2, none, "ParishBoards$Code", ([], []))
theorem d_Cd_push_0 : decode (kB K_Cd_push) 0 = .ok (.aload_n 0, 1) := by decide +kernel
theorem d_Cd_push_1 : decode (kB K_Cd_push) 1 = .ok (.getfield 31, 3) := by decide +kernel
theorem d_Cd_push_4 : decode (kB K_Cd_push) 4 = .ok (.aload_n 0, 1) := by decide +kernel
theorem d_Cd_push_5 : decode (kB K_Cd_push) 5 = .ok (.getfield 24, 3) := by decide +kernel
theorem d_Cd_push_8 : decode (kB K_Cd_push) 8 = .ok (.arraylength, 1) := by decide +kernel
theorem d_Cd_push_9 : decode (kB K_Cd_push) 9 = .ok (.if_icmp .ge 23, 3) := by decide +kernel
theorem d_Cd_push_12 : decode (kB K_Cd_push) 12 = .ok (.aload_n 0, 1) := by decide +kernel
theorem d_Cd_push_13 : decode (kB K_Cd_push) 13 = .ok (.getfield 24, 3) := by decide +kernel
theorem d_Cd_push_16 : decode (kB K_Cd_push) 16 = .ok (.aload_n 0, 1) := by decide +kernel
theorem d_Cd_push_17 : decode (kB K_Cd_push) 17 = .ok (.getfield 31, 3) := by decide +kernel
theorem d_Cd_push_20 : decode (kB K_Cd_push) 20 = .ok (.iload_n 1, 1) := by decide +kernel
theorem d_Cd_push_21 : decode (kB K_Cd_push) 21 = .ok (.iastore, 1) := by decide +kernel
theorem d_Cd_push_22 : decode (kB K_Cd_push) 22 = .ok (.aload_n 0, 1) := by decide +kernel
theorem d_Cd_push_23 : decode (kB K_Cd_push) 23 = .ok (.dup, 1) := by decide +kernel
theorem d_Cd_push_24 : decode (kB K_Cd_push) 24 = .ok (.getfield 31, 3) := by decide +kernel
theorem d_Cd_push_27 : decode (kB K_Cd_push) 27 = .ok (.iconst 1, 1) := by decide +kernel
theorem d_Cd_push_28 : decode (kB K_Cd_push) 28 = .ok (.iadd, 1) := by decide +kernel
theorem d_Cd_push_29 : decode (kB K_Cd_push) 29 = .ok (.putfield 31, 3) := by decide +kernel
theorem d_Cd_push_32 : decode (kB K_Cd_push) 32 = .ok (.return_, 1) := by decide +kernel
def K_Cd_pop : KM := (⟨"ParishBoards$Code", "pop", "()I"⟩, prog_4_method_8_code, 1, (some (.int)), "ParishBoards$Code", ([], []))
theorem d_Cd_pop_0 : decode (kB K_Cd_pop) 0 = .ok (.aload_n 0, 1) := by decide +kernel
theorem d_Cd_pop_1 : decode (kB K_Cd_pop) 1 = .ok (.getfield 31, 3) := by decide +kernel
theorem d_Cd_pop_4 : decode (kB K_Cd_pop) 4 = .ok (.ifCond .gt 5, 3) := by decide +kernel
theorem d_Cd_pop_7 : decode (kB K_Cd_pop) 7 = .ok (.iconst 0, 1) := by decide +kernel
theorem d_Cd_pop_8 : decode (kB K_Cd_pop) 8 = .ok (.ireturn, 1) := by decide +kernel
theorem d_Cd_pop_9 : decode (kB K_Cd_pop) 9 = .ok (.aload_n 0, 1) := by decide +kernel
theorem d_Cd_pop_10 : decode (kB K_Cd_pop) 10 = .ok (.dup, 1) := by decide +kernel
theorem d_Cd_pop_11 : decode (kB K_Cd_pop) 11 = .ok (.getfield 31, 3) := by decide +kernel
theorem d_Cd_pop_14 : decode (kB K_Cd_pop) 14 = .ok (.iconst 1, 1) := by decide +kernel
theorem d_Cd_pop_15 : decode (kB K_Cd_pop) 15 = .ok (.isub, 1) := by decide +kernel
theorem d_Cd_pop_16 : decode (kB K_Cd_pop) 16 = .ok (.putfield 31, 3) := by decide +kernel
theorem d_Cd_pop_19 : decode (kB K_Cd_pop) 19 = .ok (.aload_n 0, 1) := by decide +kernel
theorem d_Cd_pop_20 : decode (kB K_Cd_pop) 20 = .ok (.getfield 24, 3) := by decide +kernel
theorem d_Cd_pop_23 : decode (kB K_Cd_pop) 23 = .ok (.aload_n 0, 1) := by decide +kernel
theorem d_Cd_pop_24 : decode (kB K_Cd_pop) 24 = .ok (.getfield 31, 3) := by decide +kernel
theorem d_Cd_pop_27 : decode (kB K_Cd_pop) 27 = .ok (.iaload, 1) := by decide +kernel
theorem d_Cd_pop_28 : decode (kB K_Cd_pop) 28 = .ok (.ireturn, 1) := by decide +kernel
def K_Gr_init : KM := (⟨"ParishBoards$Grammar", "<init>", "(LParishBoards$Tokens;LParishBoards$Plan;)V"⟩, prog_5_method_1_code, 3, none, "ParishBoards$Grammar", ([], []))
theorem d_Gr_init_0 : decode (kB K_Gr_init) 0 = .ok (.aload_n 0, 1) := by decide +kernel
theorem d_Gr_init_1 : decode (kB K_Gr_init) 1 = .ok (.invokespecial 3, 3) := by decide +kernel
theorem d_Gr_init_4 : decode (kB K_Gr_init) 4 = .ok (.aload_n 0, 1) := by decide +kernel
theorem d_Gr_init_5 : decode (kB K_Gr_init) 5 = .ok (.iconst 0, 1) := by decide +kernel
theorem d_Gr_init_6 : decode (kB K_Gr_init) 6 = .ok (.putfield 9, 3) := by decide +kernel
theorem d_Gr_init_9 : decode (kB K_Gr_init) 9 = .ok (.aload_n 0, 1) := by decide +kernel
theorem d_Gr_init_10 : decode (kB K_Gr_init) 10 = .ok (.getstatic 15, 3) := by decide +kernel
theorem d_Gr_init_13 : decode (kB K_Gr_init) 13 = .ok (.putfield 21, 3) := by decide +kernel
theorem d_Gr_init_16 : decode (kB K_Gr_init) 16 = .ok (.aload_n 0, 1) := by decide +kernel
theorem d_Gr_init_17 : decode (kB K_Gr_init) 17 = .ok (.aload_n 1, 1) := by decide +kernel
theorem d_Gr_init_18 : decode (kB K_Gr_init) 18 = .ok (.putfield 24, 3) := by decide +kernel
theorem d_Gr_init_21 : decode (kB K_Gr_init) 21 = .ok (.aload_n 0, 1) := by decide +kernel
theorem d_Gr_init_22 : decode (kB K_Gr_init) 22 = .ok (.aload_n 2, 1) := by decide +kernel
theorem d_Gr_init_23 : decode (kB K_Gr_init) 23 = .ok (.putfield 28, 3) := by decide +kernel
theorem d_Gr_init_26 : decode (kB K_Gr_init) 26 = .ok (.return_, 1) := by decide +kernel
def K_Gr_firstMisfit : KM := (⟨"ParishBoards$Grammar", "firstMisfit", "(LParishBoards$Plan;)I"⟩, prog_5_method_2_code, 3, (some (.int)), "ParishBoards$Grammar", ([], []))
theorem d_Gr_firstMisfit_0 : decode (kB K_Gr_firstMisfit) 0 = .ok (.aload_n 0, 1) := by decide +kernel
theorem d_Gr_firstMisfit_1 : decode (kB K_Gr_firstMisfit) 1 = .ok (.aload_n 1, 1) := by decide +kernel
theorem d_Gr_firstMisfit_2 : decode (kB K_Gr_firstMisfit) 2 = .ok (.putfield 28, 3) := by decide +kernel
theorem d_Gr_firstMisfit_5 : decode (kB K_Gr_firstMisfit) 5 = .ok (.aload_n 0, 1) := by decide +kernel
theorem d_Gr_firstMisfit_6 : decode (kB K_Gr_firstMisfit) 6 = .ok (.iconst 0, 1) := by decide +kernel
theorem d_Gr_firstMisfit_7 : decode (kB K_Gr_firstMisfit) 7 = .ok (.putfield 9, 3) := by decide +kernel
theorem d_Gr_firstMisfit_10 : decode (kB K_Gr_firstMisfit) 10 = .ok (.aload_n 0, 1) := by decide +kernel
theorem d_Gr_firstMisfit_11 : decode (kB K_Gr_firstMisfit) 11 = .ok (.aload_n 0, 1) := by decide +kernel
theorem d_Gr_firstMisfit_12 : decode (kB K_Gr_firstMisfit) 12 = .ok (.getfield 24, 3) := by decide +kernel
theorem d_Gr_firstMisfit_15 : decode (kB K_Gr_firstMisfit) 15 = .ok (.iconst 0, 1) := by decide +kernel
theorem d_Gr_firstMisfit_16 : decode (kB K_Gr_firstMisfit) 16 = .ok (.invokevirtual 32, 3) := by decide +kernel
theorem d_Gr_firstMisfit_19 : decode (kB K_Gr_firstMisfit) 19 = .ok (.putfield 21, 3) := by decide +kernel
theorem d_Gr_firstMisfit_22 : decode (kB K_Gr_firstMisfit) 22 = .ok (.iconst 0, 1) := by decide +kernel
theorem d_Gr_firstMisfit_23 : decode (kB K_Gr_firstMisfit) 23 = .ok (.istore_n 2, 1) := by decide +kernel
theorem d_Gr_firstMisfit_24 : decode (kB K_Gr_firstMisfit) 24 = .ok (.iload_n 2, 1) := by decide +kernel
theorem d_Gr_firstMisfit_25 : decode (kB K_Gr_firstMisfit) 25 = .ok (.sipush 400, 3) := by decide +kernel
theorem d_Gr_firstMisfit_28 : decode (kB K_Gr_firstMisfit) 28 = .ok (.if_icmp .ge 40, 3) := by decide +kernel
theorem d_Gr_firstMisfit_31 : decode (kB K_Gr_firstMisfit) 31 = .ok (.aload_n 0, 1) := by decide +kernel
theorem d_Gr_firstMisfit_32 : decode (kB K_Gr_firstMisfit) 32 = .ok (.getfield 21, 3) := by decide +kernel
theorem d_Gr_firstMisfit_35 : decode (kB K_Gr_firstMisfit) 35 = .ok (.getstatic 38, 3) := by decide +kernel
theorem d_Gr_firstMisfit_38 : decode (kB K_Gr_firstMisfit) 38 = .ok (.if_acmp .eq 30, 3) := by decide +kernel
theorem d_Gr_firstMisfit_41 : decode (kB K_Gr_firstMisfit) 41 = .ok (.aload_n 0, 1) := by decide +kernel
theorem d_Gr_firstMisfit_42 : decode (kB K_Gr_firstMisfit) 42 = .ok (.getfield 21, 3) := by decide +kernel
theorem d_Gr_firstMisfit_45 : decode (kB K_Gr_firstMisfit) 45 = .ok (.getstatic 15, 3) := by decide +kernel
theorem d_Gr_firstMisfit_48 : decode (kB K_Gr_firstMisfit) 48 = .ok (.if_acmp .eq 20, 3) := by decide +kernel
theorem d_Gr_firstMisfit_51 : decode (kB K_Gr_firstMisfit) 51 = .ok (.aload_n 0, 1) := by decide +kernel
theorem d_Gr_firstMisfit_52 : decode (kB K_Gr_firstMisfit) 52 = .ok (.invokevirtual 41, 3) := by decide +kernel
theorem d_Gr_firstMisfit_55 : decode (kB K_Gr_firstMisfit) 55 = .ok (.aload_n 0, 1) := by decide +kernel
theorem d_Gr_firstMisfit_56 : decode (kB K_Gr_firstMisfit) 56 = .ok (.getstatic 44, 3) := by decide +kernel
theorem d_Gr_firstMisfit_59 : decode (kB K_Gr_firstMisfit) 59 = .ok (.invokevirtual 47, 3) := by decide +kernel
theorem d_Gr_firstMisfit_62 : decode (kB K_Gr_firstMisfit) 62 = .ok (.iinc 2 1, 3) := by decide +kernel
theorem d_Gr_firstMisfit_65 : decode (kB K_Gr_firstMisfit) 65 = .ok (.goto (-41), 3) := by decide +kernel
theorem d_Gr_firstMisfit_68 : decode (kB K_Gr_firstMisfit) 68 = .ok (.aload_n 0, 1) := by decide +kernel
theorem d_Gr_firstMisfit_69 : decode (kB K_Gr_firstMisfit) 69 = .ok (.getfield 21, 3) := by decide +kernel
theorem d_Gr_firstMisfit_72 : decode (kB K_Gr_firstMisfit) 72 = .ok (.getstatic 38, 3) := by decide +kernel
theorem d_Gr_firstMisfit_75 : decode (kB K_Gr_firstMisfit) 75 = .ok (.if_acmp .ne 7, 3) := by decide +kernel
theorem d_Gr_firstMisfit_78 : decode (kB K_Gr_firstMisfit) 78 = .ok (.iconst (-1), 1) := by decide +kernel
theorem d_Gr_firstMisfit_79 : decode (kB K_Gr_firstMisfit) 79 = .ok (.goto 7, 3) := by decide +kernel
theorem d_Gr_firstMisfit_82 : decode (kB K_Gr_firstMisfit) 82 = .ok (.aload_n 0, 1) := by decide +kernel
theorem d_Gr_firstMisfit_83 : decode (kB K_Gr_firstMisfit) 83 = .ok (.getfield 9, 3) := by decide +kernel
theorem d_Gr_firstMisfit_86 : decode (kB K_Gr_firstMisfit) 86 = .ok (.ireturn, 1) := by decide +kernel
def K_Gr_line : KM := (⟨"ParishBoards$Grammar", "line", "()V"⟩, prog_5_method_3_code, 1, none, "ParishBoards$Grammar", ([], []))
theorem d_Gr_line_0 : decode (kB K_Gr_line) 0 = .ok (.getstatic 51, 3) := by decide +kernel
theorem d_Gr_line_3 : decode (kB K_Gr_line) 3 = .ok (.aload_n 0, 1) := by decide +kernel
theorem d_Gr_line_4 : decode (kB K_Gr_line) 4 = .ok (.getfield 21, 3) := by decide +kernel
theorem d_Gr_line_7 : decode (kB K_Gr_line) 7 = .ok (.invokevirtual 57, 3) := by decide +kernel
theorem d_Gr_line_10 : decode (kB K_Gr_line) 10 = .ok (.iaload, 1) := by decide +kernel
theorem d_Gr_line_11 : decode (kB K_Gr_line) 11 = .ok (.tableswitch 80 1 7 #[41, 41, 59, 66, 66, 66, 66], 41) := by decide +kernel
theorem d_Gr_line_52 : decode (kB K_Gr_line) 52 = .ok (.aload_n 0, 1) := by decide +kernel
theorem d_Gr_line_53 : decode (kB K_Gr_line) 53 = .ok (.aload_n 0, 1) := by decide +kernel
theorem d_Gr_line_54 : decode (kB K_Gr_line) 54 = .ok (.getfield 21, 3) := by decide +kernel
theorem d_Gr_line_57 : decode (kB K_Gr_line) 57 = .ok (.invokevirtual 47, 3) := by decide +kernel
theorem d_Gr_line_60 : decode (kB K_Gr_line) 60 = .ok (.aload_n 0, 1) := by decide +kernel
theorem d_Gr_line_61 : decode (kB K_Gr_line) 61 = .ok (.getstatic 61, 3) := by decide +kernel
theorem d_Gr_line_64 : decode (kB K_Gr_line) 64 = .ok (.invokevirtual 47, 3) := by decide +kernel
theorem d_Gr_line_67 : decode (kB K_Gr_line) 67 = .ok (.goto 31, 3) := by decide +kernel
theorem d_Gr_line_70 : decode (kB K_Gr_line) 70 = .ok (.aload_n 0, 1) := by decide +kernel
theorem d_Gr_line_71 : decode (kB K_Gr_line) 71 = .ok (.invokevirtual 64, 3) := by decide +kernel
theorem d_Gr_line_74 : decode (kB K_Gr_line) 74 = .ok (.goto 24, 3) := by decide +kernel
theorem d_Gr_line_77 : decode (kB K_Gr_line) 77 = .ok (.aload_n 0, 1) := by decide +kernel
theorem d_Gr_line_78 : decode (kB K_Gr_line) 78 = .ok (.aload_n 0, 1) := by decide +kernel
theorem d_Gr_line_79 : decode (kB K_Gr_line) 79 = .ok (.getfield 28, 3) := by decide +kernel
theorem d_Gr_line_82 : decode (kB K_Gr_line) 82 = .ok (.invokevirtual 67, 3) := by decide +kernel
theorem d_Gr_line_85 : decode (kB K_Gr_line) 85 = .ok (.invokevirtual 73, 3) := by decide +kernel
theorem d_Gr_line_88 : decode (kB K_Gr_line) 88 = .ok (.goto 10, 3) := by decide +kernel
theorem d_Gr_line_91 : decode (kB K_Gr_line) 91 = .ok (.aload_n 0, 1) := by decide +kernel
theorem d_Gr_line_92 : decode (kB K_Gr_line) 92 = .ok (.getstatic 15, 3) := by decide +kernel
theorem d_Gr_line_95 : decode (kB K_Gr_line) 95 = .ok (.putfield 21, 3) := by decide +kernel
theorem d_Gr_line_98 : decode (kB K_Gr_line) 98 = .ok (.return_, 1) := by decide +kernel
def K_Gr_roadLine : KM := (⟨"ParishBoards$Grammar", "roadLine", "()V"⟩, prog_5_method_4_code, 1, none, "ParishBoards$Grammar", ([], []))
theorem d_Gr_roadLine_0 : decode (kB K_Gr_roadLine) 0 = .ok (.aload_n 0, 1) := by decide +kernel
theorem d_Gr_roadLine_1 : decode (kB K_Gr_roadLine) 1 = .ok (.getstatic 77, 3) := by decide +kernel
theorem d_Gr_roadLine_4 : decode (kB K_Gr_roadLine) 4 = .ok (.invokevirtual 47, 3) := by decide +kernel
theorem d_Gr_roadLine_7 : decode (kB K_Gr_roadLine) 7 = .ok (.aload_n 0, 1) := by decide +kernel
theorem d_Gr_roadLine_8 : decode (kB K_Gr_roadLine) 8 = .ok (.getstatic 61, 3) := by decide +kernel
theorem d_Gr_roadLine_11 : decode (kB K_Gr_roadLine) 11 = .ok (.invokevirtual 47, 3) := by decide +kernel
theorem d_Gr_roadLine_14 : decode (kB K_Gr_roadLine) 14 = .ok (.aload_n 0, 1) := by decide +kernel
theorem d_Gr_roadLine_15 : decode (kB K_Gr_roadLine) 15 = .ok (.getstatic 80, 3) := by decide +kernel
theorem d_Gr_roadLine_18 : decode (kB K_Gr_roadLine) 18 = .ok (.invokevirtual 47, 3) := by decide +kernel
theorem d_Gr_roadLine_21 : decode (kB K_Gr_roadLine) 21 = .ok (.aload_n 0, 1) := by decide +kernel
theorem d_Gr_roadLine_22 : decode (kB K_Gr_roadLine) 22 = .ok (.getstatic 61, 3) := by decide +kernel
theorem d_Gr_roadLine_25 : decode (kB K_Gr_roadLine) 25 = .ok (.invokevirtual 47, 3) := by decide +kernel
theorem d_Gr_roadLine_28 : decode (kB K_Gr_roadLine) 28 = .ok (.aload_n 0, 1) := by decide +kernel
theorem d_Gr_roadLine_29 : decode (kB K_Gr_roadLine) 29 = .ok (.getstatic 83, 3) := by decide +kernel
theorem d_Gr_roadLine_32 : decode (kB K_Gr_roadLine) 32 = .ok (.invokevirtual 47, 3) := by decide +kernel
theorem d_Gr_roadLine_35 : decode (kB K_Gr_roadLine) 35 = .ok (.aload_n 0, 1) := by decide +kernel
theorem d_Gr_roadLine_36 : decode (kB K_Gr_roadLine) 36 = .ok (.getstatic 61, 3) := by decide +kernel
theorem d_Gr_roadLine_39 : decode (kB K_Gr_roadLine) 39 = .ok (.invokevirtual 47, 3) := by decide +kernel
theorem d_Gr_roadLine_42 : decode (kB K_Gr_roadLine) 42 = .ok (.aload_n 0, 1) := by decide +kernel
theorem d_Gr_roadLine_43 : decode (kB K_Gr_roadLine) 43 = .ok (.getstatic 86, 3) := by decide +kernel
theorem d_Gr_roadLine_46 : decode (kB K_Gr_roadLine) 46 = .ok (.invokevirtual 47, 3) := by decide +kernel
theorem d_Gr_roadLine_49 : decode (kB K_Gr_roadLine) 49 = .ok (.aload_n 0, 1) := by decide +kernel
theorem d_Gr_roadLine_50 : decode (kB K_Gr_roadLine) 50 = .ok (.getstatic 89, 3) := by decide +kernel
theorem d_Gr_roadLine_53 : decode (kB K_Gr_roadLine) 53 = .ok (.invokevirtual 47, 3) := by decide +kernel
theorem d_Gr_roadLine_56 : decode (kB K_Gr_roadLine) 56 = .ok (.return_, 1) := by decide +kernel
def K_Gr_orderLine : KM := (⟨"ParishBoards$Grammar", "orderLine", "(LParishBoards$Order;)V"⟩, prog_5_method_5_code, 3, none, "ParishBoards$Grammar", ([], []))
theorem d_Gr_orderLine_0 : decode (kB K_Gr_orderLine) 0 = .ok (.aload_n 0, 1) := by decide +kernel
theorem d_Gr_orderLine_1 : decode (kB K_Gr_orderLine) 1 = .ok (.getfield 21, 3) := by decide +kernel
theorem d_Gr_orderLine_4 : decode (kB K_Gr_orderLine) 4 = .ok (.astore_n 2, 1) := by decide +kernel
theorem d_Gr_orderLine_5 : decode (kB K_Gr_orderLine) 5 = .ok (.aload_n 1, 1) := by decide +kernel
theorem d_Gr_orderLine_6 : decode (kB K_Gr_orderLine) 6 = .ok (.aload_n 2, 1) := by decide +kernel
theorem d_Gr_orderLine_7 : decode (kB K_Gr_orderLine) 7 = .ok (.putfield 92, 3) := by decide +kernel
theorem d_Gr_orderLine_10 : decode (kB K_Gr_orderLine) 10 = .ok (.aload_n 1, 1) := by decide +kernel
theorem d_Gr_orderLine_11 : decode (kB K_Gr_orderLine) 11 = .ok (.aload_n 0, 1) := by decide +kernel
theorem d_Gr_orderLine_12 : decode (kB K_Gr_orderLine) 12 = .ok (.getfield 9, 3) := by decide +kernel
theorem d_Gr_orderLine_15 : decode (kB K_Gr_orderLine) 15 = .ok (.putfield 97, 3) := by decide +kernel
theorem d_Gr_orderLine_18 : decode (kB K_Gr_orderLine) 18 = .ok (.aload_n 1, 1) := by decide +kernel
theorem d_Gr_orderLine_19 : decode (kB K_Gr_orderLine) 19 = .ok (.aload_n 0, 1) := by decide +kernel
theorem d_Gr_orderLine_20 : decode (kB K_Gr_orderLine) 20 = .ok (.getfield 28, 3) := by decide +kernel
theorem d_Gr_orderLine_23 : decode (kB K_Gr_orderLine) 23 = .ok (.getfield 100, 3) := by decide +kernel
theorem d_Gr_orderLine_26 : decode (kB K_Gr_orderLine) 26 = .ok (.getfield 104, 3) := by decide +kernel
theorem d_Gr_orderLine_29 : decode (kB K_Gr_orderLine) 29 = .ok (.putfield 109, 3) := by decide +kernel
theorem d_Gr_orderLine_32 : decode (kB K_Gr_orderLine) 32 = .ok (.aload_n 0, 1) := by decide +kernel
theorem d_Gr_orderLine_33 : decode (kB K_Gr_orderLine) 33 = .ok (.aload_n 2, 1) := by decide +kernel
theorem d_Gr_orderLine_34 : decode (kB K_Gr_orderLine) 34 = .ok (.invokevirtual 47, 3) := by decide +kernel
theorem d_Gr_orderLine_37 : decode (kB K_Gr_orderLine) 37 = .ok (.aload_n 0, 1) := by decide +kernel
theorem d_Gr_orderLine_38 : decode (kB K_Gr_orderLine) 38 = .ok (.getstatic 61, 3) := by decide +kernel
theorem d_Gr_orderLine_41 : decode (kB K_Gr_orderLine) 41 = .ok (.invokevirtual 47, 3) := by decide +kernel
theorem d_Gr_orderLine_44 : decode (kB K_Gr_orderLine) 44 = .ok (.aload_n 2, 1) := by decide +kernel
theorem d_Gr_orderLine_45 : decode (kB K_Gr_orderLine) 45 = .ok (.getstatic 112, 3) := by decide +kernel
theorem d_Gr_orderLine_48 : decode (kB K_Gr_orderLine) 48 = .ok (.if_acmp .eq 10, 3) := by decide +kernel
theorem d_Gr_orderLine_51 : decode (kB K_Gr_orderLine) 51 = .ok (.aload_n 0, 1) := by decide +kernel
theorem d_Gr_orderLine_52 : decode (kB K_Gr_orderLine) 52 = .ok (.getstatic 61, 3) := by decide +kernel
theorem d_Gr_orderLine_55 : decode (kB K_Gr_orderLine) 55 = .ok (.invokevirtual 47, 3) := by decide +kernel
theorem d_Gr_orderLine_58 : decode (kB K_Gr_orderLine) 58 = .ok (.aload_n 2, 1) := by decide +kernel
theorem d_Gr_orderLine_59 : decode (kB K_Gr_orderLine) 59 = .ok (.getstatic 115, 3) := by decide +kernel
theorem d_Gr_orderLine_62 : decode (kB K_Gr_orderLine) 62 = .ok (.if_acmp .ne 18, 3) := by decide +kernel
theorem d_Gr_orderLine_65 : decode (kB K_Gr_orderLine) 65 = .ok (.aload_n 0, 1) := by decide +kernel
theorem d_Gr_orderLine_66 : decode (kB K_Gr_orderLine) 66 = .ok (.getstatic 118, 3) := by decide +kernel
theorem d_Gr_orderLine_69 : decode (kB K_Gr_orderLine) 69 = .ok (.invokevirtual 47, 3) := by decide +kernel
theorem d_Gr_orderLine_72 : decode (kB K_Gr_orderLine) 72 = .ok (.aload_n 0, 1) := by decide +kernel
theorem d_Gr_orderLine_73 : decode (kB K_Gr_orderLine) 73 = .ok (.iconst 0, 1) := by decide +kernel
theorem d_Gr_orderLine_74 : decode (kB K_Gr_orderLine) 74 = .ok (.invokevirtual 121, 3) := by decide +kernel
theorem d_Gr_orderLine_77 : decode (kB K_Gr_orderLine) 77 = .ok (.goto 47, 3) := by decide +kernel
theorem d_Gr_orderLine_80 : decode (kB K_Gr_orderLine) 80 = .ok (.aload_n 2, 1) := by decide +kernel
theorem d_Gr_orderLine_81 : decode (kB K_Gr_orderLine) 81 = .ok (.getstatic 125, 3) := by decide +kernel
theorem d_Gr_orderLine_84 : decode (kB K_Gr_orderLine) 84 = .ok (.if_acmp .ne 18, 3) := by decide +kernel
theorem d_Gr_orderLine_87 : decode (kB K_Gr_orderLine) 87 = .ok (.aload_n 0, 1) := by decide +kernel
theorem d_Gr_orderLine_88 : decode (kB K_Gr_orderLine) 88 = .ok (.getstatic 128, 3) := by decide +kernel
theorem d_Gr_orderLine_91 : decode (kB K_Gr_orderLine) 91 = .ok (.invokevirtual 47, 3) := by decide +kernel
theorem d_Gr_orderLine_94 : decode (kB K_Gr_orderLine) 94 = .ok (.aload_n 0, 1) := by decide +kernel
theorem d_Gr_orderLine_95 : decode (kB K_Gr_orderLine) 95 = .ok (.iconst 0, 1) := by decide +kernel
theorem d_Gr_orderLine_96 : decode (kB K_Gr_orderLine) 96 = .ok (.invokevirtual 121, 3) := by decide +kernel
theorem d_Gr_orderLine_99 : decode (kB K_Gr_orderLine) 99 = .ok (.goto 25, 3) := by decide +kernel
theorem d_Gr_orderLine_102 : decode (kB K_Gr_orderLine) 102 = .ok (.aload_n 2, 1) := by decide +kernel
theorem d_Gr_orderLine_103 : decode (kB K_Gr_orderLine) 103 = .ok (.getstatic 131, 3) := by decide +kernel
theorem d_Gr_orderLine_106 : decode (kB K_Gr_orderLine) 106 = .ok (.if_acmp .ne 18, 3) := by decide +kernel
theorem d_Gr_orderLine_109 : decode (kB K_Gr_orderLine) 109 = .ok (.aload_n 0, 1) := by decide +kernel
theorem d_Gr_orderLine_110 : decode (kB K_Gr_orderLine) 110 = .ok (.getstatic 134, 3) := by decide +kernel
theorem d_Gr_orderLine_113 : decode (kB K_Gr_orderLine) 113 = .ok (.invokevirtual 47, 3) := by decide +kernel
theorem d_Gr_orderLine_116 : decode (kB K_Gr_orderLine) 116 = .ok (.aload_n 1, 1) := by decide +kernel
theorem d_Gr_orderLine_117 : decode (kB K_Gr_orderLine) 117 = .ok (.aload_n 0, 1) := by decide +kernel
theorem d_Gr_orderLine_118 : decode (kB K_Gr_orderLine) 118 = .ok (.invokevirtual 137, 3) := by decide +kernel
theorem d_Gr_orderLine_121 : decode (kB K_Gr_orderLine) 121 = .ok (.putfield 140, 3) := by decide +kernel
theorem d_Gr_orderLine_124 : decode (kB K_Gr_orderLine) 124 = .ok (.aload_n 1, 1) := by decide +kernel
theorem d_Gr_orderLine_125 : decode (kB K_Gr_orderLine) 125 = .ok (.aload_n 0, 1) := by decide +kernel
theorem d_Gr_orderLine_126 : decode (kB K_Gr_orderLine) 126 = .ok (.getfield 28, 3) := by decide +kernel
theorem d_Gr_orderLine_129 : decode (kB K_Gr_orderLine) 129 = .ok (.getfield 100, 3) := by decide +kernel
theorem d_Gr_orderLine_132 : decode (kB K_Gr_orderLine) 132 = .ok (.getfield 104, 3) := by decide +kernel
theorem d_Gr_orderLine_135 : decode (kB K_Gr_orderLine) 135 = .ok (.putfield 143, 3) := by decide +kernel
theorem d_Gr_orderLine_138 : decode (kB K_Gr_orderLine) 138 = .ok (.aload_n 2, 1) := by decide +kernel
theorem d_Gr_orderLine_139 : decode (kB K_Gr_orderLine) 139 = .ok (.getstatic 115, 3) := by decide +kernel
theorem d_Gr_orderLine_142 : decode (kB K_Gr_orderLine) 142 = .ok (.if_acmp .eq 20, 3) := by decide +kernel
theorem d_Gr_orderLine_145 : decode (kB K_Gr_orderLine) 145 = .ok (.aload_n 2, 1) := by decide +kernel
theorem d_Gr_orderLine_146 : decode (kB K_Gr_orderLine) 146 = .ok (.getstatic 125, 3) := by decide +kernel
theorem d_Gr_orderLine_149 : decode (kB K_Gr_orderLine) 149 = .ok (.if_acmp .eq 13, 3) := by decide +kernel
theorem d_Gr_orderLine_152 : decode (kB K_Gr_orderLine) 152 = .ok (.aload_n 0, 1) := by decide +kernel
theorem d_Gr_orderLine_153 : decode (kB K_Gr_orderLine) 153 = .ok (.getfield 21, 3) := by decide +kernel
theorem d_Gr_orderLine_156 : decode (kB K_Gr_orderLine) 156 = .ok (.getstatic 146, 3) := by decide +kernel
theorem d_Gr_orderLine_159 : decode (kB K_Gr_orderLine) 159 = .ok (.if_acmp .ne 15, 3) := by decide +kernel
theorem d_Gr_orderLine_162 : decode (kB K_Gr_orderLine) 162 = .ok (.aload_n 0, 1) := by decide +kernel
theorem d_Gr_orderLine_163 : decode (kB K_Gr_orderLine) 163 = .ok (.getstatic 146, 3) := by decide +kernel
theorem d_Gr_orderLine_166 : decode (kB K_Gr_orderLine) 166 = .ok (.invokevirtual 47, 3) := by decide +kernel
theorem d_Gr_orderLine_169 : decode (kB K_Gr_orderLine) 169 = .ok (.aload_n 0, 1) := by decide +kernel
theorem d_Gr_orderLine_170 : decode (kB K_Gr_orderLine) 170 = .ok (.iconst 0, 1) := by decide +kernel
theorem d_Gr_orderLine_171 : decode (kB K_Gr_orderLine) 171 = .ok (.invokevirtual 149, 3) := by decide +kernel
theorem d_Gr_orderLine_174 : decode (kB K_Gr_orderLine) 174 = .ok (.aload_n 1, 1) := by decide +kernel
theorem d_Gr_orderLine_175 : decode (kB K_Gr_orderLine) 175 = .ok (.aload_n 0, 1) := by decide +kernel
theorem d_Gr_orderLine_176 : decode (kB K_Gr_orderLine) 176 = .ok (.getfield 28, 3) := by decide +kernel
theorem d_Gr_orderLine_179 : decode (kB K_Gr_orderLine) 179 = .ok (.getfield 100, 3) := by decide +kernel
theorem d_Gr_orderLine_182 : decode (kB K_Gr_orderLine) 182 = .ok (.getfield 104, 3) := by decide +kernel
theorem d_Gr_orderLine_185 : decode (kB K_Gr_orderLine) 185 = .ok (.putfield 152, 3) := by decide +kernel
theorem d_Gr_orderLine_188 : decode (kB K_Gr_orderLine) 188 = .ok (.return_, 1) := by decide +kernel
def K_Gr_wayOfMerging : KM := (⟨"ParishBoards$Grammar", "wayOfMerging", "()I"⟩, prog_5_method_6_code, 1, (some (.int)), "ParishBoards$Grammar", ([], []))
theorem d_Gr_wayOfMerging_0 : decode (kB K_Gr_wayOfMerging) 0 = .ok (.aload_n 0, 1) := by decide +kernel
theorem d_Gr_wayOfMerging_1 : decode (kB K_Gr_wayOfMerging) 1 = .ok (.getfield 21, 3) := by decide +kernel
theorem d_Gr_wayOfMerging_4 : decode (kB K_Gr_wayOfMerging) 4 = .ok (.getstatic 155, 3) := by decide +kernel
theorem d_Gr_wayOfMerging_7 : decode (kB K_Gr_wayOfMerging) 7 = .ok (.if_acmp .ne 12, 3) := by decide +kernel
theorem d_Gr_wayOfMerging_10 : decode (kB K_Gr_wayOfMerging) 10 = .ok (.aload_n 0, 1) := by decide +kernel
theorem d_Gr_wayOfMerging_11 : decode (kB K_Gr_wayOfMerging) 11 = .ok (.getstatic 155, 3) := by decide +kernel
theorem d_Gr_wayOfMerging_14 : decode (kB K_Gr_wayOfMerging) 14 = .ok (.invokevirtual 47, 3) := by decide +kernel
theorem d_Gr_wayOfMerging_17 : decode (kB K_Gr_wayOfMerging) 17 = .ok (.iconst 0, 1) := by decide +kernel
theorem d_Gr_wayOfMerging_18 : decode (kB K_Gr_wayOfMerging) 18 = .ok (.ireturn, 1) := by decide +kernel
theorem d_Gr_wayOfMerging_19 : decode (kB K_Gr_wayOfMerging) 19 = .ok (.aload_n 0, 1) := by decide +kernel
theorem d_Gr_wayOfMerging_20 : decode (kB K_Gr_wayOfMerging) 20 = .ok (.getfield 21, 3) := by decide +kernel
theorem d_Gr_wayOfMerging_23 : decode (kB K_Gr_wayOfMerging) 23 = .ok (.getstatic 158, 3) := by decide +kernel
theorem d_Gr_wayOfMerging_26 : decode (kB K_Gr_wayOfMerging) 26 = .ok (.if_acmp .ne 12, 3) := by decide +kernel
theorem d_Gr_wayOfMerging_29 : decode (kB K_Gr_wayOfMerging) 29 = .ok (.aload_n 0, 1) := by decide +kernel
theorem d_Gr_wayOfMerging_30 : decode (kB K_Gr_wayOfMerging) 30 = .ok (.getstatic 158, 3) := by decide +kernel
theorem d_Gr_wayOfMerging_33 : decode (kB K_Gr_wayOfMerging) 33 = .ok (.invokevirtual 47, 3) := by decide +kernel
theorem d_Gr_wayOfMerging_36 : decode (kB K_Gr_wayOfMerging) 36 = .ok (.iconst 1, 1) := by decide +kernel
theorem d_Gr_wayOfMerging_37 : decode (kB K_Gr_wayOfMerging) 37 = .ok (.ireturn, 1) := by decide +kernel
theorem d_Gr_wayOfMerging_38 : decode (kB K_Gr_wayOfMerging) 38 = .ok (.aload_n 0, 1) := by decide +kernel
theorem d_Gr_wayOfMerging_39 : decode (kB K_Gr_wayOfMerging) 39 = .ok (.getstatic 161, 3) := by decide +kernel
theorem d_Gr_wayOfMerging_42 : decode (kB K_Gr_wayOfMerging) 42 = .ok (.invokevirtual 47, 3) := by decide +kernel
theorem d_Gr_wayOfMerging_45 : decode (kB K_Gr_wayOfMerging) 45 = .ok (.iconst 2, 1) := by decide +kernel
theorem d_Gr_wayOfMerging_46 : decode (kB K_Gr_wayOfMerging) 46 = .ok (.ireturn, 1) := by decide +kernel
def K_Gr_test : KM := (⟨"ParishBoards$Grammar", "test", "(I)V"⟩, prog_5_method_7_code, 3, none, "ParishBoards$Grammar", ([], []))
theorem d_Gr_test_0 : decode (kB K_Gr_test) 0 = .ok (.aload_n 0, 1) := by decide +kernel
theorem d_Gr_test_1 : decode (kB K_Gr_test) 1 = .ok (.iload_n 1, 1) := by decide +kernel
theorem d_Gr_test_2 : decode (kB K_Gr_test) 2 = .ok (.invokevirtual 164, 3) := by decide +kernel
theorem d_Gr_test_5 : decode (kB K_Gr_test) 5 = .ok (.iconst 0, 1) := by decide +kernel
theorem d_Gr_test_6 : decode (kB K_Gr_test) 6 = .ok (.istore_n 2, 1) := by decide +kernel
theorem d_Gr_test_7 : decode (kB K_Gr_test) 7 = .ok (.iload_n 2, 1) := by decide +kernel
theorem d_Gr_test_8 : decode (kB K_Gr_test) 8 = .ok (.sipush 400, 3) := by decide +kernel
theorem d_Gr_test_11 : decode (kB K_Gr_test) 11 = .ok (.if_icmp .ge 45, 3) := by decide +kernel
theorem d_Gr_test_14 : decode (kB K_Gr_test) 14 = .ok (.aload_n 0, 1) := by decide +kernel
theorem d_Gr_test_15 : decode (kB K_Gr_test) 15 = .ok (.getfield 21, 3) := by decide +kernel
theorem d_Gr_test_18 : decode (kB K_Gr_test) 18 = .ok (.getstatic 167, 3) := by decide +kernel
theorem d_Gr_test_21 : decode (kB K_Gr_test) 21 = .ok (.if_acmp .ne 35, 3) := by decide +kernel
theorem d_Gr_test_24 : decode (kB K_Gr_test) 24 = .ok (.aload_n 0, 1) := by decide +kernel
theorem d_Gr_test_25 : decode (kB K_Gr_test) 25 = .ok (.getstatic 167, 3) := by decide +kernel
theorem d_Gr_test_28 : decode (kB K_Gr_test) 28 = .ok (.invokevirtual 47, 3) := by decide +kernel
theorem d_Gr_test_31 : decode (kB K_Gr_test) 31 = .ok (.aload_n 0, 1) := by decide +kernel
theorem d_Gr_test_32 : decode (kB K_Gr_test) 32 = .ok (.iload_n 1, 1) := by decide +kernel
theorem d_Gr_test_33 : decode (kB K_Gr_test) 33 = .ok (.invokevirtual 164, 3) := by decide +kernel
theorem d_Gr_test_36 : decode (kB K_Gr_test) 36 = .ok (.aload_n 0, 1) := by decide +kernel
theorem d_Gr_test_37 : decode (kB K_Gr_test) 37 = .ok (.getfield 28, 3) := by decide +kernel
theorem d_Gr_test_40 : decode (kB K_Gr_test) 40 = .ok (.getfield 100, 3) := by decide +kernel
theorem d_Gr_test_43 : decode (kB K_Gr_test) 43 = .ok (.getstatic 167, 3) := by decide +kernel
theorem d_Gr_test_46 : decode (kB K_Gr_test) 46 = .ok (.iconst (-1), 1) := by decide +kernel
theorem d_Gr_test_47 : decode (kB K_Gr_test) 47 = .ok (.invokevirtual 170, 3) := by decide +kernel
theorem d_Gr_test_50 : decode (kB K_Gr_test) 50 = .ok (.iinc 2 1, 3) := by decide +kernel
theorem d_Gr_test_53 : decode (kB K_Gr_test) 53 = .ok (.goto (-46), 3) := by decide +kernel
theorem d_Gr_test_56 : decode (kB K_Gr_test) 56 = .ok (.return_, 1) := by decide +kernel
def K_Gr_both : KM := (⟨"ParishBoards$Grammar", "both", "(I)V"⟩, prog_5_method_8_code, 3, none, "ParishBoards$Grammar", ([], []))
theorem d_Gr_both_0 : decode (kB K_Gr_both) 0 = .ok (.aload_n 0, 1) := by decide +kernel
theorem d_Gr_both_1 : decode (kB K_Gr_both) 1 = .ok (.iload_n 1, 1) := by decide +kernel
theorem d_Gr_both_2 : decode (kB K_Gr_both) 2 = .ok (.invokevirtual 174, 3) := by decide +kernel
theorem d_Gr_both_5 : decode (kB K_Gr_both) 5 = .ok (.iconst 0, 1) := by decide +kernel
theorem d_Gr_both_6 : decode (kB K_Gr_both) 6 = .ok (.istore_n 2, 1) := by decide +kernel
theorem d_Gr_both_7 : decode (kB K_Gr_both) 7 = .ok (.iload_n 2, 1) := by decide +kernel
theorem d_Gr_both_8 : decode (kB K_Gr_both) 8 = .ok (.sipush 400, 3) := by decide +kernel
theorem d_Gr_both_11 : decode (kB K_Gr_both) 11 = .ok (.if_icmp .ge 45, 3) := by decide +kernel
theorem d_Gr_both_14 : decode (kB K_Gr_both) 14 = .ok (.aload_n 0, 1) := by decide +kernel
theorem d_Gr_both_15 : decode (kB K_Gr_both) 15 = .ok (.getfield 21, 3) := by decide +kernel
theorem d_Gr_both_18 : decode (kB K_Gr_both) 18 = .ok (.getstatic 177, 3) := by decide +kernel
theorem d_Gr_both_21 : decode (kB K_Gr_both) 21 = .ok (.if_acmp .ne 35, 3) := by decide +kernel
theorem d_Gr_both_24 : decode (kB K_Gr_both) 24 = .ok (.aload_n 0, 1) := by decide +kernel
theorem d_Gr_both_25 : decode (kB K_Gr_both) 25 = .ok (.getstatic 177, 3) := by decide +kernel
theorem d_Gr_both_28 : decode (kB K_Gr_both) 28 = .ok (.invokevirtual 47, 3) := by decide +kernel
theorem d_Gr_both_31 : decode (kB K_Gr_both) 31 = .ok (.aload_n 0, 1) := by decide +kernel
theorem d_Gr_both_32 : decode (kB K_Gr_both) 32 = .ok (.iload_n 1, 1) := by decide +kernel
theorem d_Gr_both_33 : decode (kB K_Gr_both) 33 = .ok (.invokevirtual 174, 3) := by decide +kernel
theorem d_Gr_both_36 : decode (kB K_Gr_both) 36 = .ok (.aload_n 0, 1) := by decide +kernel
theorem d_Gr_both_37 : decode (kB K_Gr_both) 37 = .ok (.getfield 28, 3) := by decide +kernel
theorem d_Gr_both_40 : decode (kB K_Gr_both) 40 = .ok (.getfield 100, 3) := by decide +kernel
theorem d_Gr_both_43 : decode (kB K_Gr_both) 43 = .ok (.getstatic 177, 3) := by decide +kernel
theorem d_Gr_both_46 : decode (kB K_Gr_both) 46 = .ok (.iconst (-1), 1) := by decide +kernel
theorem d_Gr_both_47 : decode (kB K_Gr_both) 47 = .ok (.invokevirtual 170, 3) := by decide +kernel
theorem d_Gr_both_50 : decode (kB K_Gr_both) 50 = .ok (.iinc 2 1, 3) := by decide +kernel
theorem d_Gr_both_53 : decode (kB K_Gr_both) 53 = .ok (.goto (-46), 3) := by decide +kernel
theorem d_Gr_both_56 : decode (kB K_Gr_both) 56 = .ok (.return_, 1) := by decide +kernel
def K_Gr_single : KM := (⟨"ParishBoards$Grammar", "single", "(I)V"⟩, prog_5_method_9_code, 3, none, "ParishBoards$Grammar", ([], []))
theorem d_Gr_single_0 : decode (kB K_Gr_single) 0 = .ok (.getstatic 51, 3) := by decide +kernel
theorem d_Gr_single_3 : decode (kB K_Gr_single) 3 = .ok (.aload_n 0, 1) := by decide +kernel
theorem d_Gr_single_4 : decode (kB K_Gr_single) 4 = .ok (.getfield 21, 3) := by decide +kernel
theorem d_Gr_single_7 : decode (kB K_Gr_single) 7 = .ok (.invokevirtual 57, 3) := by decide +kernel
theorem d_Gr_single_10 : decode (kB K_Gr_single) 10 = .ok (.iaload, 1) := by decide +kernel
theorem d_Gr_single_11 : decode (kB K_Gr_single) 11 = .ok (.tableswitch 103 8 11 #[29, 64, 92, 92], 29) := by decide +kernel
theorem d_Gr_single_40 : decode (kB K_Gr_single) 40 = .ok (.aload_n 0, 1) := by decide +kernel
theorem d_Gr_single_41 : decode (kB K_Gr_single) 41 = .ok (.getstatic 180, 3) := by decide +kernel
theorem d_Gr_single_44 : decode (kB K_Gr_single) 44 = .ok (.iload_n 1, 1) := by decide +kernel
theorem d_Gr_single_45 : decode (kB K_Gr_single) 45 = .ok (.invokevirtual 183, 3) := by decide +kernel
theorem d_Gr_single_48 : decode (kB K_Gr_single) 48 = .ok (.ifCond .eq 97, 3) := by decide +kernel
theorem d_Gr_single_51 : decode (kB K_Gr_single) 51 = .ok (.aload_n 0, 1) := by decide +kernel
theorem d_Gr_single_52 : decode (kB K_Gr_single) 52 = .ok (.iload_n 1, 1) := by decide +kernel
theorem d_Gr_single_53 : decode (kB K_Gr_single) 53 = .ok (.iconst 1, 1) := by decide +kernel
theorem d_Gr_single_54 : decode (kB K_Gr_single) 54 = .ok (.iadd, 1) := by decide +kernel
theorem d_Gr_single_55 : decode (kB K_Gr_single) 55 = .ok (.invokevirtual 174, 3) := by decide +kernel
theorem d_Gr_single_58 : decode (kB K_Gr_single) 58 = .ok (.aload_n 0, 1) := by decide +kernel
theorem d_Gr_single_59 : decode (kB K_Gr_single) 59 = .ok (.getfield 28, 3) := by decide +kernel
theorem d_Gr_single_62 : decode (kB K_Gr_single) 62 = .ok (.getfield 100, 3) := by decide +kernel
theorem d_Gr_single_65 : decode (kB K_Gr_single) 65 = .ok (.getstatic 180, 3) := by decide +kernel
theorem d_Gr_single_68 : decode (kB K_Gr_single) 68 = .ok (.iconst (-1), 1) := by decide +kernel
theorem d_Gr_single_69 : decode (kB K_Gr_single) 69 = .ok (.invokevirtual 170, 3) := by decide +kernel
theorem d_Gr_single_72 : decode (kB K_Gr_single) 72 = .ok (.goto 73, 3) := by decide +kernel
theorem d_Gr_single_75 : decode (kB K_Gr_single) 75 = .ok (.aload_n 0, 1) := by decide +kernel
theorem d_Gr_single_76 : decode (kB K_Gr_single) 76 = .ok (.getstatic 187, 3) := by decide +kernel
theorem d_Gr_single_79 : decode (kB K_Gr_single) 79 = .ok (.iload_n 1, 1) := by decide +kernel
theorem d_Gr_single_80 : decode (kB K_Gr_single) 80 = .ok (.invokevirtual 183, 3) := by decide +kernel
theorem d_Gr_single_83 : decode (kB K_Gr_single) 83 = .ok (.ifCond .eq 62, 3) := by decide +kernel
theorem d_Gr_single_86 : decode (kB K_Gr_single) 86 = .ok (.aload_n 0, 1) := by decide +kernel
theorem d_Gr_single_87 : decode (kB K_Gr_single) 87 = .ok (.iload_n 1, 1) := by decide +kernel
theorem d_Gr_single_88 : decode (kB K_Gr_single) 88 = .ok (.iconst 1, 1) := by decide +kernel
theorem d_Gr_single_89 : decode (kB K_Gr_single) 89 = .ok (.iadd, 1) := by decide +kernel
theorem d_Gr_single_90 : decode (kB K_Gr_single) 90 = .ok (.invokevirtual 149, 3) := by decide +kernel
theorem d_Gr_single_93 : decode (kB K_Gr_single) 93 = .ok (.aload_n 0, 1) := by decide +kernel
theorem d_Gr_single_94 : decode (kB K_Gr_single) 94 = .ok (.getstatic 190, 3) := by decide +kernel
theorem d_Gr_single_97 : decode (kB K_Gr_single) 97 = .ok (.invokevirtual 47, 3) := by decide +kernel
theorem d_Gr_single_100 : decode (kB K_Gr_single) 100 = .ok (.goto 45, 3) := by decide +kernel
theorem d_Gr_single_103 : decode (kB K_Gr_single) 103 = .ok (.aload_n 0, 1) := by decide +kernel
theorem d_Gr_single_104 : decode (kB K_Gr_single) 104 = .ok (.aload_n 0, 1) := by decide +kernel
theorem d_Gr_single_105 : decode (kB K_Gr_single) 105 = .ok (.getfield 21, 3) := by decide +kernel
theorem d_Gr_single_108 : decode (kB K_Gr_single) 108 = .ok (.invokevirtual 193, 3) := by decide +kernel
theorem d_Gr_single_111 : decode (kB K_Gr_single) 111 = .ok (.goto 34, 3) := by decide +kernel
theorem d_Gr_single_114 : decode (kB K_Gr_single) 114 = .ok (.aload_n 0, 1) := by decide +kernel
theorem d_Gr_single_115 : decode (kB K_Gr_single) 115 = .ok (.iload_n 1, 1) := by decide +kernel
theorem d_Gr_single_116 : decode (kB K_Gr_single) 116 = .ok (.invokevirtual 121, 3) := by decide +kernel
theorem d_Gr_single_119 : decode (kB K_Gr_single) 119 = .ok (.aload_n 0, 1) := by decide +kernel
theorem d_Gr_single_120 : decode (kB K_Gr_single) 120 = .ok (.getfield 21, 3) := by decide +kernel
theorem d_Gr_single_123 : decode (kB K_Gr_single) 123 = .ok (.astore_n 2, 1) := by decide +kernel
theorem d_Gr_single_124 : decode (kB K_Gr_single) 124 = .ok (.aload_n 0, 1) := by decide +kernel
theorem d_Gr_single_125 : decode (kB K_Gr_single) 125 = .ok (.invokevirtual 196, 3) := by decide +kernel
theorem d_Gr_single_128 : decode (kB K_Gr_single) 128 = .ok (.aload_n 0, 1) := by decide +kernel
theorem d_Gr_single_129 : decode (kB K_Gr_single) 129 = .ok (.iload_n 1, 1) := by decide +kernel
theorem d_Gr_single_130 : decode (kB K_Gr_single) 130 = .ok (.invokevirtual 121, 3) := by decide +kernel
theorem d_Gr_single_133 : decode (kB K_Gr_single) 133 = .ok (.aload_n 0, 1) := by decide +kernel
theorem d_Gr_single_134 : decode (kB K_Gr_single) 134 = .ok (.getfield 28, 3) := by decide +kernel
theorem d_Gr_single_137 : decode (kB K_Gr_single) 137 = .ok (.getfield 100, 3) := by decide +kernel
theorem d_Gr_single_140 : decode (kB K_Gr_single) 140 = .ok (.aload_n 2, 1) := by decide +kernel
theorem d_Gr_single_141 : decode (kB K_Gr_single) 141 = .ok (.iconst (-1), 1) := by decide +kernel
theorem d_Gr_single_142 : decode (kB K_Gr_single) 142 = .ok (.invokevirtual 170, 3) := by decide +kernel
theorem d_Gr_single_145 : decode (kB K_Gr_single) 145 = .ok (.return_, 1) := by decide +kernel
def K_Gr_takeComparison : KM := (⟨"ParishBoards$Grammar", "takeComparison", "()V"⟩, prog_5_method_10_code, 1, none, "ParishBoards$Grammar", ([], []))
theorem d_Gr_takeComparison_0 : decode (kB K_Gr_takeComparison) 0 = .ok (.getstatic 51, 3) := by decide +kernel
theorem d_Gr_takeComparison_3 : decode (kB K_Gr_takeComparison) 3 = .ok (.aload_n 0, 1) := by decide +kernel
theorem d_Gr_takeComparison_4 : decode (kB K_Gr_takeComparison) 4 = .ok (.getfield 21, 3) := by decide +kernel
theorem d_Gr_takeComparison_7 : decode (kB K_Gr_takeComparison) 7 = .ok (.invokevirtual 57, 3) := by decide +kernel
theorem d_Gr_takeComparison_10 : decode (kB K_Gr_takeComparison) 10 = .ok (.iaload, 1) := by decide +kernel
theorem d_Gr_takeComparison_11 : decode (kB K_Gr_takeComparison) 11 = .ok (.tableswitch 44 12 16 #[33, 33, 33, 33, 33], 33) := by decide +kernel
theorem d_Gr_takeComparison_44 : decode (kB K_Gr_takeComparison) 44 = .ok (.aload_n 0, 1) := by decide +kernel
theorem d_Gr_takeComparison_45 : decode (kB K_Gr_takeComparison) 45 = .ok (.aload_n 0, 1) := by decide +kernel
theorem d_Gr_takeComparison_46 : decode (kB K_Gr_takeComparison) 46 = .ok (.getfield 21, 3) := by decide +kernel
theorem d_Gr_takeComparison_49 : decode (kB K_Gr_takeComparison) 49 = .ok (.invokevirtual 47, 3) := by decide +kernel
theorem d_Gr_takeComparison_52 : decode (kB K_Gr_takeComparison) 52 = .ok (.goto 10, 3) := by decide +kernel
theorem d_Gr_takeComparison_55 : decode (kB K_Gr_takeComparison) 55 = .ok (.aload_n 0, 1) := by decide +kernel
theorem d_Gr_takeComparison_56 : decode (kB K_Gr_takeComparison) 56 = .ok (.getstatic 15, 3) := by decide +kernel
theorem d_Gr_takeComparison_59 : decode (kB K_Gr_takeComparison) 59 = .ok (.putfield 21, 3) := by decide +kernel
theorem d_Gr_takeComparison_62 : decode (kB K_Gr_takeComparison) 62 = .ok (.return_, 1) := by decide +kernel
def K_Gr_sum : KM := (⟨"ParishBoards$Grammar", "sum", "(I)V"⟩, prog_5_method_11_code, 4, none, "ParishBoards$Grammar", ([], []))
theorem d_Gr_sum_0 : decode (kB K_Gr_sum) 0 = .ok (.aload_n 0, 1) := by decide +kernel
theorem d_Gr_sum_1 : decode (kB K_Gr_sum) 1 = .ok (.iload_n 1, 1) := by decide +kernel
theorem d_Gr_sum_2 : decode (kB K_Gr_sum) 2 = .ok (.invokevirtual 199, 3) := by decide +kernel
theorem d_Gr_sum_5 : decode (kB K_Gr_sum) 5 = .ok (.iconst 0, 1) := by decide +kernel
theorem d_Gr_sum_6 : decode (kB K_Gr_sum) 6 = .ok (.istore_n 2, 1) := by decide +kernel
theorem d_Gr_sum_7 : decode (kB K_Gr_sum) 7 = .ok (.iload_n 2, 1) := by decide +kernel
theorem d_Gr_sum_8 : decode (kB K_Gr_sum) 8 = .ok (.sipush 400, 3) := by decide +kernel
theorem d_Gr_sum_11 : decode (kB K_Gr_sum) 11 = .ok (.if_icmp .ge 56, 3) := by decide +kernel
theorem d_Gr_sum_14 : decode (kB K_Gr_sum) 14 = .ok (.aload_n 0, 1) := by decide +kernel
theorem d_Gr_sum_15 : decode (kB K_Gr_sum) 15 = .ok (.getfield 21, 3) := by decide +kernel
theorem d_Gr_sum_18 : decode (kB K_Gr_sum) 18 = .ok (.getstatic 202, 3) := by decide +kernel
theorem d_Gr_sum_21 : decode (kB K_Gr_sum) 21 = .ok (.if_acmp .eq 13, 3) := by decide +kernel
theorem d_Gr_sum_24 : decode (kB K_Gr_sum) 24 = .ok (.aload_n 0, 1) := by decide +kernel
theorem d_Gr_sum_25 : decode (kB K_Gr_sum) 25 = .ok (.getfield 21, 3) := by decide +kernel
theorem d_Gr_sum_28 : decode (kB K_Gr_sum) 28 = .ok (.getstatic 205, 3) := by decide +kernel
theorem d_Gr_sum_31 : decode (kB K_Gr_sum) 31 = .ok (.if_acmp .ne 36, 3) := by decide +kernel
theorem d_Gr_sum_34 : decode (kB K_Gr_sum) 34 = .ok (.aload_n 0, 1) := by decide +kernel
theorem d_Gr_sum_35 : decode (kB K_Gr_sum) 35 = .ok (.getfield 21, 3) := by decide +kernel
theorem d_Gr_sum_38 : decode (kB K_Gr_sum) 38 = .ok (.astore_n 3, 1) := by decide +kernel
theorem d_Gr_sum_39 : decode (kB K_Gr_sum) 39 = .ok (.aload_n 0, 1) := by decide +kernel
theorem d_Gr_sum_40 : decode (kB K_Gr_sum) 40 = .ok (.aload_n 3, 1) := by decide +kernel
theorem d_Gr_sum_41 : decode (kB K_Gr_sum) 41 = .ok (.invokevirtual 47, 3) := by decide +kernel
theorem d_Gr_sum_44 : decode (kB K_Gr_sum) 44 = .ok (.aload_n 0, 1) := by decide +kernel
theorem d_Gr_sum_45 : decode (kB K_Gr_sum) 45 = .ok (.iload_n 1, 1) := by decide +kernel
theorem d_Gr_sum_46 : decode (kB K_Gr_sum) 46 = .ok (.invokevirtual 199, 3) := by decide +kernel
theorem d_Gr_sum_49 : decode (kB K_Gr_sum) 49 = .ok (.aload_n 0, 1) := by decide +kernel
theorem d_Gr_sum_50 : decode (kB K_Gr_sum) 50 = .ok (.getfield 28, 3) := by decide +kernel
theorem d_Gr_sum_53 : decode (kB K_Gr_sum) 53 = .ok (.getfield 100, 3) := by decide +kernel
theorem d_Gr_sum_56 : decode (kB K_Gr_sum) 56 = .ok (.aload_n 3, 1) := by decide +kernel
theorem d_Gr_sum_57 : decode (kB K_Gr_sum) 57 = .ok (.iconst (-1), 1) := by decide +kernel
theorem d_Gr_sum_58 : decode (kB K_Gr_sum) 58 = .ok (.invokevirtual 170, 3) := by decide +kernel
theorem d_Gr_sum_61 : decode (kB K_Gr_sum) 61 = .ok (.iinc 2 1, 3) := by decide +kernel
theorem d_Gr_sum_64 : decode (kB K_Gr_sum) 64 = .ok (.goto (-57), 3) := by decide +kernel
theorem d_Gr_sum_67 : decode (kB K_Gr_sum) 67 = .ok (.return_, 1) := by decide +kernel
def K_Gr_product : KM := (⟨"ParishBoards$Grammar", "product", "(I)V"⟩, prog_5_method_12_code, 4, none, "ParishBoards$Grammar", ([], []))
theorem d_Gr_product_0 : decode (kB K_Gr_product) 0 = .ok (.aload_n 0, 1) := by decide +kernel
theorem d_Gr_product_1 : decode (kB K_Gr_product) 1 = .ok (.iload_n 1, 1) := by decide +kernel
theorem d_Gr_product_2 : decode (kB K_Gr_product) 2 = .ok (.invokevirtual 208, 3) := by decide +kernel
theorem d_Gr_product_5 : decode (kB K_Gr_product) 5 = .ok (.iconst 0, 1) := by decide +kernel
theorem d_Gr_product_6 : decode (kB K_Gr_product) 6 = .ok (.istore_n 2, 1) := by decide +kernel
theorem d_Gr_product_7 : decode (kB K_Gr_product) 7 = .ok (.iload_n 2, 1) := by decide +kernel
theorem d_Gr_product_8 : decode (kB K_Gr_product) 8 = .ok (.sipush 400, 3) := by decide +kernel
theorem d_Gr_product_11 : decode (kB K_Gr_product) 11 = .ok (.if_icmp .ge 56, 3) := by decide +kernel
theorem d_Gr_product_14 : decode (kB K_Gr_product) 14 = .ok (.aload_n 0, 1) := by decide +kernel
theorem d_Gr_product_15 : decode (kB K_Gr_product) 15 = .ok (.getfield 21, 3) := by decide +kernel
theorem d_Gr_product_18 : decode (kB K_Gr_product) 18 = .ok (.getstatic 211, 3) := by decide +kernel
theorem d_Gr_product_21 : decode (kB K_Gr_product) 21 = .ok (.if_acmp .eq 13, 3) := by decide +kernel
theorem d_Gr_product_24 : decode (kB K_Gr_product) 24 = .ok (.aload_n 0, 1) := by decide +kernel
theorem d_Gr_product_25 : decode (kB K_Gr_product) 25 = .ok (.getfield 21, 3) := by decide +kernel
theorem d_Gr_product_28 : decode (kB K_Gr_product) 28 = .ok (.getstatic 214, 3) := by decide +kernel
theorem d_Gr_product_31 : decode (kB K_Gr_product) 31 = .ok (.if_acmp .ne 36, 3) := by decide +kernel
theorem d_Gr_product_34 : decode (kB K_Gr_product) 34 = .ok (.aload_n 0, 1) := by decide +kernel
theorem d_Gr_product_35 : decode (kB K_Gr_product) 35 = .ok (.getfield 21, 3) := by decide +kernel
theorem d_Gr_product_38 : decode (kB K_Gr_product) 38 = .ok (.astore_n 3, 1) := by decide +kernel
theorem d_Gr_product_39 : decode (kB K_Gr_product) 39 = .ok (.aload_n 0, 1) := by decide +kernel
theorem d_Gr_product_40 : decode (kB K_Gr_product) 40 = .ok (.aload_n 3, 1) := by decide +kernel
theorem d_Gr_product_41 : decode (kB K_Gr_product) 41 = .ok (.invokevirtual 47, 3) := by decide +kernel
theorem d_Gr_product_44 : decode (kB K_Gr_product) 44 = .ok (.aload_n 0, 1) := by decide +kernel
theorem d_Gr_product_45 : decode (kB K_Gr_product) 45 = .ok (.iload_n 1, 1) := by decide +kernel
theorem d_Gr_product_46 : decode (kB K_Gr_product) 46 = .ok (.invokevirtual 208, 3) := by decide +kernel
theorem d_Gr_product_49 : decode (kB K_Gr_product) 49 = .ok (.aload_n 0, 1) := by decide +kernel
theorem d_Gr_product_50 : decode (kB K_Gr_product) 50 = .ok (.getfield 28, 3) := by decide +kernel
theorem d_Gr_product_53 : decode (kB K_Gr_product) 53 = .ok (.getfield 100, 3) := by decide +kernel
theorem d_Gr_product_56 : decode (kB K_Gr_product) 56 = .ok (.aload_n 3, 1) := by decide +kernel
theorem d_Gr_product_57 : decode (kB K_Gr_product) 57 = .ok (.iconst (-1), 1) := by decide +kernel
theorem d_Gr_product_58 : decode (kB K_Gr_product) 58 = .ok (.invokevirtual 170, 3) := by decide +kernel
theorem d_Gr_product_61 : decode (kB K_Gr_product) 61 = .ok (.iinc 2 1, 3) := by decide +kernel
theorem d_Gr_product_64 : decode (kB K_Gr_product) 64 = .ok (.goto (-57), 3) := by decide +kernel
theorem d_Gr_product_67 : decode (kB K_Gr_product) 67 = .ok (.return_, 1) := by decide +kernel
def K_Gr_value : KM := (⟨"ParishBoards$Grammar", "value", "(I)V"⟩, prog_5_method_13_code, 3, none, "ParishBoards$Grammar", ([], []))
theorem d_Gr_value_0 : decode (kB K_Gr_value) 0 = .ok (.aload_n 0, 1) := by decide +kernel
theorem d_Gr_value_1 : decode (kB K_Gr_value) 1 = .ok (.getfield 21, 3) := by decide +kernel
theorem d_Gr_value_4 : decode (kB K_Gr_value) 4 = .ok (.astore_n 2, 1) := by decide +kernel
theorem d_Gr_value_5 : decode (kB K_Gr_value) 5 = .ok (.getstatic 51, 3) := by decide +kernel
theorem d_Gr_value_8 : decode (kB K_Gr_value) 8 = .ok (.aload_n 2, 1) := by decide +kernel
theorem d_Gr_value_9 : decode (kB K_Gr_value) 9 = .ok (.invokevirtual 57, 3) := by decide +kernel
theorem d_Gr_value_12 : decode (kB K_Gr_value) 12 = .ok (.iaload, 1) := by decide +kernel
theorem d_Gr_value_13 : decode (kB K_Gr_value) 13 = .ok (.tableswitch 174 17 26 #[55, 55, 78, 78, 78, 78, 86, 121, 149, 149], 55) := by decide +kernel
theorem d_Gr_value_68 : decode (kB K_Gr_value) 68 = .ok (.aload_n 0, 1) := by decide +kernel
theorem d_Gr_value_69 : decode (kB K_Gr_value) 69 = .ok (.getfield 28, 3) := by decide +kernel
theorem d_Gr_value_72 : decode (kB K_Gr_value) 72 = .ok (.getfield 100, 3) := by decide +kernel
theorem d_Gr_value_75 : decode (kB K_Gr_value) 75 = .ok (.aload_n 2, 1) := by decide +kernel
theorem d_Gr_value_76 : decode (kB K_Gr_value) 76 = .ok (.aload_n 0, 1) := by decide +kernel
theorem d_Gr_value_77 : decode (kB K_Gr_value) 77 = .ok (.getfield 9, 3) := by decide +kernel
theorem d_Gr_value_80 : decode (kB K_Gr_value) 80 = .ok (.invokevirtual 170, 3) := by decide +kernel
theorem d_Gr_value_83 : decode (kB K_Gr_value) 83 = .ok (.aload_n 0, 1) := by decide +kernel
theorem d_Gr_value_84 : decode (kB K_Gr_value) 84 = .ok (.aload_n 2, 1) := by decide +kernel
theorem d_Gr_value_85 : decode (kB K_Gr_value) 85 = .ok (.invokevirtual 47, 3) := by decide +kernel
theorem d_Gr_value_88 : decode (kB K_Gr_value) 88 = .ok (.goto 106, 3) := by decide +kernel
theorem d_Gr_value_91 : decode (kB K_Gr_value) 91 = .ok (.aload_n 0, 1) := by decide +kernel
theorem d_Gr_value_92 : decode (kB K_Gr_value) 92 = .ok (.aload_n 2, 1) := by decide +kernel
theorem d_Gr_value_93 : decode (kB K_Gr_value) 93 = .ok (.invokevirtual 193, 3) := by decide +kernel
theorem d_Gr_value_96 : decode (kB K_Gr_value) 96 = .ok (.goto 98, 3) := by decide +kernel
theorem d_Gr_value_99 : decode (kB K_Gr_value) 99 = .ok (.aload_n 0, 1) := by decide +kernel
theorem d_Gr_value_100 : decode (kB K_Gr_value) 100 = .ok (.getstatic 205, 3) := by decide +kernel
theorem d_Gr_value_103 : decode (kB K_Gr_value) 103 = .ok (.iload_n 1, 1) := by decide +kernel
theorem d_Gr_value_104 : decode (kB K_Gr_value) 104 = .ok (.invokevirtual 183, 3) := by decide +kernel
theorem d_Gr_value_107 : decode (kB K_Gr_value) 107 = .ok (.ifCond .eq 87, 3) := by decide +kernel
theorem d_Gr_value_110 : decode (kB K_Gr_value) 110 = .ok (.aload_n 0, 1) := by decide +kernel
theorem d_Gr_value_111 : decode (kB K_Gr_value) 111 = .ok (.iload_n 1, 1) := by decide +kernel
theorem d_Gr_value_112 : decode (kB K_Gr_value) 112 = .ok (.iconst 1, 1) := by decide +kernel
theorem d_Gr_value_113 : decode (kB K_Gr_value) 113 = .ok (.iadd, 1) := by decide +kernel
theorem d_Gr_value_114 : decode (kB K_Gr_value) 114 = .ok (.invokevirtual 208, 3) := by decide +kernel
theorem d_Gr_value_117 : decode (kB K_Gr_value) 117 = .ok (.aload_n 0, 1) := by decide +kernel
theorem d_Gr_value_118 : decode (kB K_Gr_value) 118 = .ok (.getfield 28, 3) := by decide +kernel
theorem d_Gr_value_121 : decode (kB K_Gr_value) 121 = .ok (.getfield 100, 3) := by decide +kernel
theorem d_Gr_value_124 : decode (kB K_Gr_value) 124 = .ok (.getstatic 217, 3) := by decide +kernel
theorem d_Gr_value_127 : decode (kB K_Gr_value) 127 = .ok (.iconst (-1), 1) := by decide +kernel
theorem d_Gr_value_128 : decode (kB K_Gr_value) 128 = .ok (.invokevirtual 170, 3) := by decide +kernel
theorem d_Gr_value_131 : decode (kB K_Gr_value) 131 = .ok (.goto 63, 3) := by decide +kernel
theorem d_Gr_value_134 : decode (kB K_Gr_value) 134 = .ok (.aload_n 0, 1) := by decide +kernel
theorem d_Gr_value_135 : decode (kB K_Gr_value) 135 = .ok (.getstatic 220, 3) := by decide +kernel
theorem d_Gr_value_138 : decode (kB K_Gr_value) 138 = .ok (.iload_n 1, 1) := by decide +kernel
theorem d_Gr_value_139 : decode (kB K_Gr_value) 139 = .ok (.invokevirtual 183, 3) := by decide +kernel
theorem d_Gr_value_142 : decode (kB K_Gr_value) 142 = .ok (.ifCond .eq 52, 3) := by decide +kernel
theorem d_Gr_value_145 : decode (kB K_Gr_value) 145 = .ok (.aload_n 0, 1) := by decide +kernel
theorem d_Gr_value_146 : decode (kB K_Gr_value) 146 = .ok (.iload_n 1, 1) := by decide +kernel
theorem d_Gr_value_147 : decode (kB K_Gr_value) 147 = .ok (.iconst 1, 1) := by decide +kernel
theorem d_Gr_value_148 : decode (kB K_Gr_value) 148 = .ok (.iadd, 1) := by decide +kernel
theorem d_Gr_value_149 : decode (kB K_Gr_value) 149 = .ok (.invokevirtual 121, 3) := by decide +kernel
theorem d_Gr_value_152 : decode (kB K_Gr_value) 152 = .ok (.aload_n 0, 1) := by decide +kernel
theorem d_Gr_value_153 : decode (kB K_Gr_value) 153 = .ok (.getstatic 223, 3) := by decide +kernel
theorem d_Gr_value_156 : decode (kB K_Gr_value) 156 = .ok (.invokevirtual 47, 3) := by decide +kernel
theorem d_Gr_value_159 : decode (kB K_Gr_value) 159 = .ok (.goto 35, 3) := by decide +kernel
theorem d_Gr_value_162 : decode (kB K_Gr_value) 162 = .ok (.aload_n 0, 1) := by decide +kernel
theorem d_Gr_value_163 : decode (kB K_Gr_value) 163 = .ok (.aload_n 2, 1) := by decide +kernel
theorem d_Gr_value_164 : decode (kB K_Gr_value) 164 = .ok (.invokevirtual 47, 3) := by decide +kernel
theorem d_Gr_value_167 : decode (kB K_Gr_value) 167 = .ok (.aload_n 0, 1) := by decide +kernel
theorem d_Gr_value_168 : decode (kB K_Gr_value) 168 = .ok (.iload_n 1, 1) := by decide +kernel
theorem d_Gr_value_169 : decode (kB K_Gr_value) 169 = .ok (.invokevirtual 226, 3) := by decide +kernel
theorem d_Gr_value_172 : decode (kB K_Gr_value) 172 = .ok (.aload_n 0, 1) := by decide +kernel
theorem d_Gr_value_173 : decode (kB K_Gr_value) 173 = .ok (.getfield 28, 3) := by decide +kernel
theorem d_Gr_value_176 : decode (kB K_Gr_value) 176 = .ok (.getfield 100, 3) := by decide +kernel
theorem d_Gr_value_179 : decode (kB K_Gr_value) 179 = .ok (.aload_n 2, 1) := by decide +kernel
theorem d_Gr_value_180 : decode (kB K_Gr_value) 180 = .ok (.iconst (-1), 1) := by decide +kernel
theorem d_Gr_value_181 : decode (kB K_Gr_value) 181 = .ok (.invokevirtual 170, 3) := by decide +kernel
theorem d_Gr_value_184 : decode (kB K_Gr_value) 184 = .ok (.goto 10, 3) := by decide +kernel
theorem d_Gr_value_187 : decode (kB K_Gr_value) 187 = .ok (.aload_n 0, 1) := by decide +kernel
theorem d_Gr_value_188 : decode (kB K_Gr_value) 188 = .ok (.getstatic 15, 3) := by decide +kernel
theorem d_Gr_value_191 : decode (kB K_Gr_value) 191 = .ok (.putfield 21, 3) := by decide +kernel
theorem d_Gr_value_194 : decode (kB K_Gr_value) 194 = .ok (.return_, 1) := by decide +kernel
def K_Gr_pair : KM := (⟨"ParishBoards$Grammar", "pair", "(I)V"⟩, prog_5_method_14_code, 2, none, "ParishBoards$Grammar", ([], []))
theorem d_Gr_pair_0 : decode (kB K_Gr_pair) 0 = .ok (.aload_n 0, 1) := by decide +kernel
theorem d_Gr_pair_1 : decode (kB K_Gr_pair) 1 = .ok (.getstatic 220, 3) := by decide +kernel
theorem d_Gr_pair_4 : decode (kB K_Gr_pair) 4 = .ok (.iload_n 1, 1) := by decide +kernel
theorem d_Gr_pair_5 : decode (kB K_Gr_pair) 5 = .ok (.invokevirtual 183, 3) := by decide +kernel
theorem d_Gr_pair_8 : decode (kB K_Gr_pair) 8 = .ok (.ifCond .eq 31, 3) := by decide +kernel
theorem d_Gr_pair_11 : decode (kB K_Gr_pair) 11 = .ok (.aload_n 0, 1) := by decide +kernel
theorem d_Gr_pair_12 : decode (kB K_Gr_pair) 12 = .ok (.iload_n 1, 1) := by decide +kernel
theorem d_Gr_pair_13 : decode (kB K_Gr_pair) 13 = .ok (.iconst 1, 1) := by decide +kernel
theorem d_Gr_pair_14 : decode (kB K_Gr_pair) 14 = .ok (.iadd, 1) := by decide +kernel
theorem d_Gr_pair_15 : decode (kB K_Gr_pair) 15 = .ok (.invokevirtual 121, 3) := by decide +kernel
theorem d_Gr_pair_18 : decode (kB K_Gr_pair) 18 = .ok (.aload_n 0, 1) := by decide +kernel
theorem d_Gr_pair_19 : decode (kB K_Gr_pair) 19 = .ok (.getstatic 229, 3) := by decide +kernel
theorem d_Gr_pair_22 : decode (kB K_Gr_pair) 22 = .ok (.invokevirtual 47, 3) := by decide +kernel
theorem d_Gr_pair_25 : decode (kB K_Gr_pair) 25 = .ok (.aload_n 0, 1) := by decide +kernel
theorem d_Gr_pair_26 : decode (kB K_Gr_pair) 26 = .ok (.iload_n 1, 1) := by decide +kernel
theorem d_Gr_pair_27 : decode (kB K_Gr_pair) 27 = .ok (.iconst 1, 1) := by decide +kernel
theorem d_Gr_pair_28 : decode (kB K_Gr_pair) 28 = .ok (.iadd, 1) := by decide +kernel
theorem d_Gr_pair_29 : decode (kB K_Gr_pair) 29 = .ok (.invokevirtual 121, 3) := by decide +kernel
theorem d_Gr_pair_32 : decode (kB K_Gr_pair) 32 = .ok (.aload_n 0, 1) := by decide +kernel
theorem d_Gr_pair_33 : decode (kB K_Gr_pair) 33 = .ok (.getstatic 223, 3) := by decide +kernel
theorem d_Gr_pair_36 : decode (kB K_Gr_pair) 36 = .ok (.invokevirtual 47, 3) := by decide +kernel
theorem d_Gr_pair_39 : decode (kB K_Gr_pair) 39 = .ok (.return_, 1) := by decide +kernel
def K_Gr_board : KM := (⟨"ParishBoards$Grammar", "board", "(LParishBoards$Kind;)V"⟩, prog_5_method_15_code, 2, none, "ParishBoards$Grammar", ([], []))
theorem d_Gr_board_0 : decode (kB K_Gr_board) 0 = .ok (.aload_n 0, 1) := by decide +kernel
theorem d_Gr_board_1 : decode (kB K_Gr_board) 1 = .ok (.getfield 28, 3) := by decide +kernel
theorem d_Gr_board_4 : decode (kB K_Gr_board) 4 = .ok (.getfield 100, 3) := by decide +kernel
theorem d_Gr_board_7 : decode (kB K_Gr_board) 7 = .ok (.aload_n 1, 1) := by decide +kernel
theorem d_Gr_board_8 : decode (kB K_Gr_board) 8 = .ok (.aload_n 0, 1) := by decide +kernel
theorem d_Gr_board_9 : decode (kB K_Gr_board) 9 = .ok (.getfield 9, 3) := by decide +kernel
theorem d_Gr_board_12 : decode (kB K_Gr_board) 12 = .ok (.invokevirtual 170, 3) := by decide +kernel
theorem d_Gr_board_15 : decode (kB K_Gr_board) 15 = .ok (.aload_n 0, 1) := by decide +kernel
theorem d_Gr_board_16 : decode (kB K_Gr_board) 16 = .ok (.aload_n 1, 1) := by decide +kernel
theorem d_Gr_board_17 : decode (kB K_Gr_board) 17 = .ok (.invokevirtual 47, 3) := by decide +kernel
theorem d_Gr_board_20 : decode (kB K_Gr_board) 20 = .ok (.aload_n 0, 1) := by decide +kernel
theorem d_Gr_board_21 : decode (kB K_Gr_board) 21 = .ok (.getstatic 61, 3) := by decide +kernel
theorem d_Gr_board_24 : decode (kB K_Gr_board) 24 = .ok (.invokevirtual 47, 3) := by decide +kernel
theorem d_Gr_board_27 : decode (kB K_Gr_board) 27 = .ok (.aload_n 1, 1) := by decide +kernel
theorem d_Gr_board_28 : decode (kB K_Gr_board) 28 = .ok (.getstatic 232, 3) := by decide +kernel
theorem d_Gr_board_31 : decode (kB K_Gr_board) 31 = .ok (.if_acmp .eq 10, 3) := by decide +kernel
theorem d_Gr_board_34 : decode (kB K_Gr_board) 34 = .ok (.aload_n 0, 1) := by decide +kernel
theorem d_Gr_board_35 : decode (kB K_Gr_board) 35 = .ok (.getstatic 61, 3) := by decide +kernel
theorem d_Gr_board_38 : decode (kB K_Gr_board) 38 = .ok (.invokevirtual 47, 3) := by decide +kernel
theorem d_Gr_board_41 : decode (kB K_Gr_board) 41 = .ok (.return_, 1) := by decide +kernel
def K_Gr_goesDeeper : KM := (⟨"ParishBoards$Grammar", "goesDeeper", "(LParishBoards$Kind;I)Z"⟩, prog_5_method_16_code, 3, (some (.boolean)), "ParishBoards$Grammar", ([], []))
theorem d_Gr_goesDeeper_0 : decode (kB K_Gr_goesDeeper) 0 = .ok (.aload_n 0, 1) := by decide +kernel
theorem d_Gr_goesDeeper_1 : decode (kB K_Gr_goesDeeper) 1 = .ok (.iload_n 2, 1) := by decide +kernel
theorem d_Gr_goesDeeper_2 : decode (kB K_Gr_goesDeeper) 2 = .ok (.bipush 8, 2) := by decide +kernel
theorem d_Gr_goesDeeper_4 : decode (kB K_Gr_goesDeeper) 4 = .ok (.if_icmp .ge 7, 3) := by decide +kernel
theorem d_Gr_goesDeeper_7 : decode (kB K_Gr_goesDeeper) 7 = .ok (.aload_n 1, 1) := by decide +kernel
theorem d_Gr_goesDeeper_8 : decode (kB K_Gr_goesDeeper) 8 = .ok (.goto 6, 3) := by decide +kernel
theorem d_Gr_goesDeeper_11 : decode (kB K_Gr_goesDeeper) 11 = .ok (.getstatic 15, 3) := by decide +kernel
theorem d_Gr_goesDeeper_14 : decode (kB K_Gr_goesDeeper) 14 = .ok (.invokevirtual 47, 3) := by decide +kernel
theorem d_Gr_goesDeeper_17 : decode (kB K_Gr_goesDeeper) 17 = .ok (.aload_n 0, 1) := by decide +kernel
theorem d_Gr_goesDeeper_18 : decode (kB K_Gr_goesDeeper) 18 = .ok (.getfield 21, 3) := by decide +kernel
theorem d_Gr_goesDeeper_21 : decode (kB K_Gr_goesDeeper) 21 = .ok (.getstatic 15, 3) := by decide +kernel
theorem d_Gr_goesDeeper_24 : decode (kB K_Gr_goesDeeper) 24 = .ok (.if_acmp .eq 7, 3) := by decide +kernel
theorem d_Gr_goesDeeper_27 : decode (kB K_Gr_goesDeeper) 27 = .ok (.iconst 1, 1) := by decide +kernel
theorem d_Gr_goesDeeper_28 : decode (kB K_Gr_goesDeeper) 28 = .ok (.goto 4, 3) := by decide +kernel
theorem d_Gr_goesDeeper_31 : decode (kB K_Gr_goesDeeper) 31 = .ok (.iconst 0, 1) := by decide +kernel
theorem d_Gr_goesDeeper_32 : decode (kB K_Gr_goesDeeper) 32 = .ok (.ireturn, 1) := by decide +kernel
def K_Gr_take : KM := (⟨"ParishBoards$Grammar", "take", "(LParishBoards$Kind;)V"⟩, prog_5_method_17_code, 2, none, "ParishBoards$Grammar", ([], []))
theorem d_Gr_take_0 : decode (kB K_Gr_take) 0 = .ok (.aload_n 0, 1) := by decide +kernel
theorem d_Gr_take_1 : decode (kB K_Gr_take) 1 = .ok (.getfield 21, 3) := by decide +kernel
theorem d_Gr_take_4 : decode (kB K_Gr_take) 4 = .ok (.aload_n 1, 1) := by decide +kernel
theorem d_Gr_take_5 : decode (kB K_Gr_take) 5 = .ok (.if_acmp .ne 62, 3) := by decide +kernel
theorem d_Gr_take_8 : decode (kB K_Gr_take) 8 = .ok (.aload_n 0, 1) := by decide +kernel
theorem d_Gr_take_9 : decode (kB K_Gr_take) 9 = .ok (.getfield 21, 3) := by decide +kernel
theorem d_Gr_take_12 : decode (kB K_Gr_take) 12 = .ok (.getstatic 15, 3) := by decide +kernel
theorem d_Gr_take_15 : decode (kB K_Gr_take) 15 = .ok (.if_acmp .eq 52, 3) := by decide +kernel
theorem d_Gr_take_18 : decode (kB K_Gr_take) 18 = .ok (.aload_n 0, 1) := by decide +kernel
theorem d_Gr_take_19 : decode (kB K_Gr_take) 19 = .ok (.dup, 1) := by decide +kernel
theorem d_Gr_take_20 : decode (kB K_Gr_take) 20 = .ok (.getfield 9, 3) := by decide +kernel
theorem d_Gr_take_23 : decode (kB K_Gr_take) 23 = .ok (.iconst 1, 1) := by decide +kernel
theorem d_Gr_take_24 : decode (kB K_Gr_take) 24 = .ok (.iadd, 1) := by decide +kernel
theorem d_Gr_take_25 : decode (kB K_Gr_take) 25 = .ok (.putfield 9, 3) := by decide +kernel
theorem d_Gr_take_28 : decode (kB K_Gr_take) 28 = .ok (.aload_n 0, 1) := by decide +kernel
theorem d_Gr_take_29 : decode (kB K_Gr_take) 29 = .ok (.aload_n 0, 1) := by decide +kernel
theorem d_Gr_take_30 : decode (kB K_Gr_take) 30 = .ok (.getfield 9, 3) := by decide +kernel
theorem d_Gr_take_33 : decode (kB K_Gr_take) 33 = .ok (.aload_n 0, 1) := by decide +kernel
theorem d_Gr_take_34 : decode (kB K_Gr_take) 34 = .ok (.getfield 24, 3) := by decide +kernel
theorem d_Gr_take_37 : decode (kB K_Gr_take) 37 = .ok (.getfield 235, 3) := by decide +kernel
theorem d_Gr_take_40 : decode (kB K_Gr_take) 40 = .ok (.if_icmp .ge 18, 3) := by decide +kernel
theorem d_Gr_take_43 : decode (kB K_Gr_take) 43 = .ok (.aload_n 0, 1) := by decide +kernel
theorem d_Gr_take_44 : decode (kB K_Gr_take) 44 = .ok (.getfield 24, 3) := by decide +kernel
theorem d_Gr_take_47 : decode (kB K_Gr_take) 47 = .ok (.getfield 236, 3) := by decide +kernel
theorem d_Gr_take_50 : decode (kB K_Gr_take) 50 = .ok (.aload_n 0, 1) := by decide +kernel
theorem d_Gr_take_51 : decode (kB K_Gr_take) 51 = .ok (.getfield 9, 3) := by decide +kernel
theorem d_Gr_take_54 : decode (kB K_Gr_take) 54 = .ok (.aaload, 1) := by decide +kernel
theorem d_Gr_take_55 : decode (kB K_Gr_take) 55 = .ok (.goto 6, 3) := by decide +kernel
theorem d_Gr_take_58 : decode (kB K_Gr_take) 58 = .ok (.getstatic 15, 3) := by decide +kernel
theorem d_Gr_take_61 : decode (kB K_Gr_take) 61 = .ok (.putfield 21, 3) := by decide +kernel
theorem d_Gr_take_64 : decode (kB K_Gr_take) 64 = .ok (.goto 10, 3) := by decide +kernel
theorem d_Gr_take_67 : decode (kB K_Gr_take) 67 = .ok (.aload_n 0, 1) := by decide +kernel
theorem d_Gr_take_68 : decode (kB K_Gr_take) 68 = .ok (.getstatic 15, 3) := by decide +kernel
theorem d_Gr_take_71 : decode (kB K_Gr_take) 71 = .ok (.putfield 21, 3) := by decide +kernel
theorem d_Gr_take_74 : decode (kB K_Gr_take) 74 = .ok (.return_, 1) := by decide +kernel
def K_Nm_init : KM := (⟨"ParishBoards$Names", "<init>", "(LParishBoards$Tokens;LParishBoards$Plan;)V"⟩, prog_7_method_1_code, 3, none, "ParishBoards$Names", ([], []))
theorem d_Nm_init_0 : decode (kB K_Nm_init) 0 = .ok (.aload_n 0, 1) := by decide +kernel
theorem d_Nm_init_1 : decode (kB K_Nm_init) 1 = .ok (.invokespecial 3, 3) := by decide +kernel
theorem d_Nm_init_4 : decode (kB K_Nm_init) 4 = .ok (.aload_n 0, 1) := by decide +kernel
theorem d_Nm_init_5 : decode (kB K_Nm_init) 5 = .ok (.iconst 5, 1) := by decide +kernel
theorem d_Nm_init_6 : decode (kB K_Nm_init) 6 = .ok (.newarray .long, 2) := by decide +kernel
theorem d_Nm_init_8 : decode (kB K_Nm_init) 8 = .ok (.putfield 9, 3) := by decide +kernel
theorem d_Nm_init_11 : decode (kB K_Nm_init) 11 = .ok (.aload_n 0, 1) := by decide +kernel
theorem d_Nm_init_12 : decode (kB K_Nm_init) 12 = .ok (.bipush 6, 2) := by decide +kernel
theorem d_Nm_init_14 : decode (kB K_Nm_init) 14 = .ok (.newarray .long, 2) := by decide +kernel
theorem d_Nm_init_16 : decode (kB K_Nm_init) 16 = .ok (.putfield 15, 3) := by decide +kernel
theorem d_Nm_init_19 : decode (kB K_Nm_init) 19 = .ok (.aload_n 0, 1) := by decide +kernel
theorem d_Nm_init_20 : decode (kB K_Nm_init) 20 = .ok (.bipush 8, 2) := by decide +kernel
theorem d_Nm_init_22 : decode (kB K_Nm_init) 22 = .ok (.newarray .long, 2) := by decide +kernel
theorem d_Nm_init_24 : decode (kB K_Nm_init) 24 = .ok (.putfield 18, 3) := by decide +kernel
theorem d_Nm_init_27 : decode (kB K_Nm_init) 27 = .ok (.aload_n 0, 1) := by decide +kernel
theorem d_Nm_init_28 : decode (kB K_Nm_init) 28 = .ok (.iconst 0, 1) := by decide +kernel
theorem d_Nm_init_29 : decode (kB K_Nm_init) 29 = .ok (.putfield 21, 3) := by decide +kernel
theorem d_Nm_init_32 : decode (kB K_Nm_init) 32 = .ok (.aload_n 0, 1) := by decide +kernel
theorem d_Nm_init_33 : decode (kB K_Nm_init) 33 = .ok (.iconst 0, 1) := by decide +kernel
theorem d_Nm_init_34 : decode (kB K_Nm_init) 34 = .ok (.putfield 25, 3) := by decide +kernel
theorem d_Nm_init_37 : decode (kB K_Nm_init) 37 = .ok (.aload_n 0, 1) := by decide +kernel
theorem d_Nm_init_38 : decode (kB K_Nm_init) 38 = .ok (.iconst (-1), 1) := by decide +kernel
theorem d_Nm_init_39 : decode (kB K_Nm_init) 39 = .ok (.putfield 28, 3) := by decide +kernel
theorem d_Nm_init_42 : decode (kB K_Nm_init) 42 = .ok (.aload_n 0, 1) := by decide +kernel
theorem d_Nm_init_43 : decode (kB K_Nm_init) 43 = .ok (.aload_n 1, 1) := by decide +kernel
theorem d_Nm_init_44 : decode (kB K_Nm_init) 44 = .ok (.putfield 31, 3) := by decide +kernel
theorem d_Nm_init_47 : decode (kB K_Nm_init) 47 = .ok (.aload_n 0, 1) := by decide +kernel
theorem d_Nm_init_48 : decode (kB K_Nm_init) 48 = .ok (.aload_n 2, 1) := by decide +kernel
theorem d_Nm_init_49 : decode (kB K_Nm_init) 49 = .ok (.putfield 35, 3) := by decide +kernel
theorem d_Nm_init_52 : decode (kB K_Nm_init) 52 = .ok (.return_, 1) := by decide +kernel
def K_Nm_firstError : KM := (⟨"ParishBoards$Names", "firstError", "(LParishBoards$Plan;)I"⟩, prog_7_method_2_code, 3, (some (.int)), "ParishBoards$Names", ([], []))
theorem d_Nm_firstError_0 : decode (kB K_Nm_firstError) 0 = .ok (.aload_n 0, 1) := by decide +kernel
theorem d_Nm_firstError_1 : decode (kB K_Nm_firstError) 1 = .ok (.aload_n 1, 1) := by decide +kernel
theorem d_Nm_firstError_2 : decode (kB K_Nm_firstError) 2 = .ok (.putfield 35, 3) := by decide +kernel
theorem d_Nm_firstError_5 : decode (kB K_Nm_firstError) 5 = .ok (.aload_n 0, 1) := by decide +kernel
theorem d_Nm_firstError_6 : decode (kB K_Nm_firstError) 6 = .ok (.iconst 0, 1) := by decide +kernel
theorem d_Nm_firstError_7 : decode (kB K_Nm_firstError) 7 = .ok (.putfield 21, 3) := by decide +kernel
theorem d_Nm_firstError_10 : decode (kB K_Nm_firstError) 10 = .ok (.aload_n 0, 1) := by decide +kernel
theorem d_Nm_firstError_11 : decode (kB K_Nm_firstError) 11 = .ok (.iconst 0, 1) := by decide +kernel
theorem d_Nm_firstError_12 : decode (kB K_Nm_firstError) 12 = .ok (.putfield 25, 3) := by decide +kernel
theorem d_Nm_firstError_15 : decode (kB K_Nm_firstError) 15 = .ok (.aload_n 0, 1) := by decide +kernel
theorem d_Nm_firstError_16 : decode (kB K_Nm_firstError) 16 = .ok (.iconst (-1), 1) := by decide +kernel
theorem d_Nm_firstError_17 : decode (kB K_Nm_firstError) 17 = .ok (.putfield 28, 3) := by decide +kernel
theorem d_Nm_firstError_20 : decode (kB K_Nm_firstError) 20 = .ok (.iconst 0, 1) := by decide +kernel
theorem d_Nm_firstError_21 : decode (kB K_Nm_firstError) 21 = .ok (.istore_n 2, 1) := by decide +kernel
theorem d_Nm_firstError_22 : decode (kB K_Nm_firstError) 22 = .ok (.iload_n 2, 1) := by decide +kernel
theorem d_Nm_firstError_23 : decode (kB K_Nm_firstError) 23 = .ok (.aload_n 0, 1) := by decide +kernel
theorem d_Nm_firstError_24 : decode (kB K_Nm_firstError) 24 = .ok (.getfield 31, 3) := by decide +kernel
theorem d_Nm_firstError_27 : decode (kB K_Nm_firstError) 27 = .ok (.getfield 39, 3) := by decide +kernel
theorem d_Nm_firstError_30 : decode (kB K_Nm_firstError) 30 = .ok (.if_icmp .ge 21, 3) := by decide +kernel
theorem d_Nm_firstError_33 : decode (kB K_Nm_firstError) 33 = .ok (.aload_n 0, 1) := by decide +kernel
theorem d_Nm_firstError_34 : decode (kB K_Nm_firstError) 34 = .ok (.getfield 25, 3) := by decide +kernel
theorem d_Nm_firstError_37 : decode (kB K_Nm_firstError) 37 = .ok (.ifCond .ne 14, 3) := by decide +kernel
theorem d_Nm_firstError_40 : decode (kB K_Nm_firstError) 40 = .ok (.aload_n 0, 1) := by decide +kernel
theorem d_Nm_firstError_41 : decode (kB K_Nm_firstError) 41 = .ok (.iload_n 2, 1) := by decide +kernel
theorem d_Nm_firstError_42 : decode (kB K_Nm_firstError) 42 = .ok (.invokevirtual 44, 3) := by decide +kernel
theorem d_Nm_firstError_45 : decode (kB K_Nm_firstError) 45 = .ok (.iinc 2 1, 3) := by decide +kernel
theorem d_Nm_firstError_48 : decode (kB K_Nm_firstError) 48 = .ok (.goto (-26), 3) := by decide +kernel
theorem d_Nm_firstError_51 : decode (kB K_Nm_firstError) 51 = .ok (.aload_n 0, 1) := by decide +kernel
theorem d_Nm_firstError_52 : decode (kB K_Nm_firstError) 52 = .ok (.getfield 25, 3) := by decide +kernel
theorem d_Nm_firstError_55 : decode (kB K_Nm_firstError) 55 = .ok (.ireturn, 1) := by decide +kernel
def K_Nm_look : KM := (⟨"ParishBoards$Names", "look", "(I)V"⟩, prog_7_method_3_code, 2, none, "ParishBoards$Names", ([], []))
theorem d_Nm_look_0 : decode (kB K_Nm_look) 0 = .ok (.getstatic 48, 3) := by decide +kernel
theorem d_Nm_look_3 : decode (kB K_Nm_look) 3 = .ok (.aload_n 0, 1) := by decide +kernel
theorem d_Nm_look_4 : decode (kB K_Nm_look) 4 = .ok (.getfield 31, 3) := by decide +kernel
theorem d_Nm_look_7 : decode (kB K_Nm_look) 7 = .ok (.iload_n 1, 1) := by decide +kernel
theorem d_Nm_look_8 : decode (kB K_Nm_look) 8 = .ok (.invokevirtual 54, 3) := by decide +kernel
theorem d_Nm_look_11 : decode (kB K_Nm_look) 11 = .ok (.invokevirtual 58, 3) := by decide +kernel
theorem d_Nm_look_14 : decode (kB K_Nm_look) 14 = .ok (.iaload, 1) := by decide +kernel
theorem d_Nm_look_15 : decode (kB K_Nm_look) 15 = .ok (.tableswitch 302 1 29 #[129, 157, 185, 255, 255, 255, 268, 302, 302, 294, 294, 302, 302, 302, 302, 302, 302, 302, 294, 294, 294, 213, 302, 302, 302, 302, 213, 234, 247], 129) := by decide +kernel
theorem d_Nm_look_144 : decode (kB K_Nm_look) 144 = .ok (.aload_n 0, 1) := by decide +kernel
theorem d_Nm_look_145 : decode (kB K_Nm_look) 145 = .ok (.getfield 35, 3) := by decide +kernel
theorem d_Nm_look_148 : decode (kB K_Nm_look) 148 = .ok (.aload_n 0, 1) := by decide +kernel
theorem d_Nm_look_149 : decode (kB K_Nm_look) 149 = .ok (.iload_n 1, 1) := by decide +kernel
theorem d_Nm_look_150 : decode (kB K_Nm_look) 150 = .ok (.iconst 1, 1) := by decide +kernel
theorem d_Nm_look_151 : decode (kB K_Nm_look) 151 = .ok (.iadd, 1) := by decide +kernel
theorem d_Nm_look_152 : decode (kB K_Nm_look) 152 = .ok (.aload_n 0, 1) := by decide +kernel
theorem d_Nm_look_153 : decode (kB K_Nm_look) 153 = .ok (.getfield 9, 3) := by decide +kernel
theorem d_Nm_look_156 : decode (kB K_Nm_look) 156 = .ok (.aload_n 0, 1) := by decide +kernel
theorem d_Nm_look_157 : decode (kB K_Nm_look) 157 = .ok (.getfield 35, 3) := by decide +kernel
theorem d_Nm_look_160 : decode (kB K_Nm_look) 160 = .ok (.getfield 64, 3) := by decide +kernel
theorem d_Nm_look_163 : decode (kB K_Nm_look) 163 = .ok (.invokevirtual 68, 3) := by decide +kernel
theorem d_Nm_look_166 : decode (kB K_Nm_look) 166 = .ok (.putfield 64, 3) := by decide +kernel
theorem d_Nm_look_169 : decode (kB K_Nm_look) 169 = .ok (.goto 148, 3) := by decide +kernel
theorem d_Nm_look_172 : decode (kB K_Nm_look) 172 = .ok (.aload_n 0, 1) := by decide +kernel
theorem d_Nm_look_173 : decode (kB K_Nm_look) 173 = .ok (.getfield 35, 3) := by decide +kernel
theorem d_Nm_look_176 : decode (kB K_Nm_look) 176 = .ok (.aload_n 0, 1) := by decide +kernel
theorem d_Nm_look_177 : decode (kB K_Nm_look) 177 = .ok (.iload_n 1, 1) := by decide +kernel
theorem d_Nm_look_178 : decode (kB K_Nm_look) 178 = .ok (.iconst 1, 1) := by decide +kernel
theorem d_Nm_look_179 : decode (kB K_Nm_look) 179 = .ok (.iadd, 1) := by decide +kernel
theorem d_Nm_look_180 : decode (kB K_Nm_look) 180 = .ok (.aload_n 0, 1) := by decide +kernel
theorem d_Nm_look_181 : decode (kB K_Nm_look) 181 = .ok (.getfield 15, 3) := by decide +kernel
theorem d_Nm_look_184 : decode (kB K_Nm_look) 184 = .ok (.aload_n 0, 1) := by decide +kernel
theorem d_Nm_look_185 : decode (kB K_Nm_look) 185 = .ok (.getfield 35, 3) := by decide +kernel
theorem d_Nm_look_188 : decode (kB K_Nm_look) 188 = .ok (.getfield 72, 3) := by decide +kernel
theorem d_Nm_look_191 : decode (kB K_Nm_look) 191 = .ok (.invokevirtual 68, 3) := by decide +kernel
theorem d_Nm_look_194 : decode (kB K_Nm_look) 194 = .ok (.putfield 72, 3) := by decide +kernel
theorem d_Nm_look_197 : decode (kB K_Nm_look) 197 = .ok (.goto 120, 3) := by decide +kernel
theorem d_Nm_look_200 : decode (kB K_Nm_look) 200 = .ok (.aload_n 0, 1) := by decide +kernel
theorem d_Nm_look_201 : decode (kB K_Nm_look) 201 = .ok (.getfield 35, 3) := by decide +kernel
theorem d_Nm_look_204 : decode (kB K_Nm_look) 204 = .ok (.aload_n 0, 1) := by decide +kernel
theorem d_Nm_look_205 : decode (kB K_Nm_look) 205 = .ok (.iload_n 1, 1) := by decide +kernel
theorem d_Nm_look_206 : decode (kB K_Nm_look) 206 = .ok (.iconst 1, 1) := by decide +kernel
theorem d_Nm_look_207 : decode (kB K_Nm_look) 207 = .ok (.iadd, 1) := by decide +kernel
theorem d_Nm_look_208 : decode (kB K_Nm_look) 208 = .ok (.aload_n 0, 1) := by decide +kernel
theorem d_Nm_look_209 : decode (kB K_Nm_look) 209 = .ok (.getfield 18, 3) := by decide +kernel
theorem d_Nm_look_212 : decode (kB K_Nm_look) 212 = .ok (.aload_n 0, 1) := by decide +kernel
theorem d_Nm_look_213 : decode (kB K_Nm_look) 213 = .ok (.getfield 35, 3) := by decide +kernel
theorem d_Nm_look_216 : decode (kB K_Nm_look) 216 = .ok (.getfield 74, 3) := by decide +kernel
theorem d_Nm_look_219 : decode (kB K_Nm_look) 219 = .ok (.invokevirtual 68, 3) := by decide +kernel
theorem d_Nm_look_222 : decode (kB K_Nm_look) 222 = .ok (.putfield 74, 3) := by decide +kernel
theorem d_Nm_look_225 : decode (kB K_Nm_look) 225 = .ok (.goto 92, 3) := by decide +kernel
theorem d_Nm_look_228 : decode (kB K_Nm_look) 228 = .ok (.aload_n 0, 1) := by decide +kernel
theorem d_Nm_look_229 : decode (kB K_Nm_look) 229 = .ok (.iload_n 1, 1) := by decide +kernel
theorem d_Nm_look_230 : decode (kB K_Nm_look) 230 = .ok (.iconst 1, 1) := by decide +kernel
theorem d_Nm_look_231 : decode (kB K_Nm_look) 231 = .ok (.iadd, 1) := by decide +kernel
theorem d_Nm_look_232 : decode (kB K_Nm_look) 232 = .ok (.aload_n 0, 1) := by decide +kernel
theorem d_Nm_look_233 : decode (kB K_Nm_look) 233 = .ok (.getfield 9, 3) := by decide +kernel
theorem d_Nm_look_236 : decode (kB K_Nm_look) 236 = .ok (.aload_n 0, 1) := by decide +kernel
theorem d_Nm_look_237 : decode (kB K_Nm_look) 237 = .ok (.getfield 35, 3) := by decide +kernel
theorem d_Nm_look_240 : decode (kB K_Nm_look) 240 = .ok (.getfield 64, 3) := by decide +kernel
theorem d_Nm_look_243 : decode (kB K_Nm_look) 243 = .ok (.invokevirtual 77, 3) := by decide +kernel
theorem d_Nm_look_246 : decode (kB K_Nm_look) 246 = .ok (.goto 71, 3) := by decide +kernel
theorem d_Nm_look_249 : decode (kB K_Nm_look) 249 = .ok (.aload_n 0, 1) := by decide +kernel
theorem d_Nm_look_250 : decode (kB K_Nm_look) 250 = .ok (.iload_n 1, 1) := by decide +kernel
theorem d_Nm_look_251 : decode (kB K_Nm_look) 251 = .ok (.iconst 1, 1) := by decide +kernel
theorem d_Nm_look_252 : decode (kB K_Nm_look) 252 = .ok (.isub, 1) := by decide +kernel
theorem d_Nm_look_253 : decode (kB K_Nm_look) 253 = .ok (.iload_n 1, 1) := by decide +kernel
theorem d_Nm_look_254 : decode (kB K_Nm_look) 254 = .ok (.iconst 1, 1) := by decide +kernel
theorem d_Nm_look_255 : decode (kB K_Nm_look) 255 = .ok (.iadd, 1) := by decide +kernel
theorem d_Nm_look_256 : decode (kB K_Nm_look) 256 = .ok (.invokevirtual 81, 3) := by decide +kernel
theorem d_Nm_look_259 : decode (kB K_Nm_look) 259 = .ok (.goto 58, 3) := by decide +kernel
theorem d_Nm_look_262 : decode (kB K_Nm_look) 262 = .ok (.aload_n 0, 1) := by decide +kernel
theorem d_Nm_look_263 : decode (kB K_Nm_look) 263 = .ok (.iload_n 1, 1) := by decide +kernel
theorem d_Nm_look_264 : decode (kB K_Nm_look) 264 = .ok (.invokevirtual 85, 3) := by decide +kernel
theorem d_Nm_look_267 : decode (kB K_Nm_look) 267 = .ok (.goto 50, 3) := by decide +kernel
theorem d_Nm_look_270 : decode (kB K_Nm_look) 270 = .ok (.aload_n 0, 1) := by decide +kernel
theorem d_Nm_look_271 : decode (kB K_Nm_look) 271 = .ok (.iload_n 1, 1) := by decide +kernel
theorem d_Nm_look_272 : decode (kB K_Nm_look) 272 = .ok (.invokevirtual 88, 3) := by decide +kernel
theorem d_Nm_look_275 : decode (kB K_Nm_look) 275 = .ok (.aload_n 0, 1) := by decide +kernel
theorem d_Nm_look_276 : decode (kB K_Nm_look) 276 = .ok (.iload_n 1, 1) := by decide +kernel
theorem d_Nm_look_277 : decode (kB K_Nm_look) 277 = .ok (.invokevirtual 91, 3) := by decide +kernel
theorem d_Nm_look_280 : decode (kB K_Nm_look) 280 = .ok (.goto 37, 3) := by decide +kernel
theorem d_Nm_look_283 : decode (kB K_Nm_look) 283 = .ok (.aload_n 0, 1) := by decide +kernel
theorem d_Nm_look_284 : decode (kB K_Nm_look) 284 = .ok (.iload_n 1, 1) := by decide +kernel
theorem d_Nm_look_285 : decode (kB K_Nm_look) 285 = .ok (.invokevirtual 88, 3) := by decide +kernel
theorem d_Nm_look_288 : decode (kB K_Nm_look) 288 = .ok (.aload_n 0, 1) := by decide +kernel
theorem d_Nm_look_289 : decode (kB K_Nm_look) 289 = .ok (.iload_n 1, 1) := by decide +kernel
theorem d_Nm_look_290 : decode (kB K_Nm_look) 290 = .ok (.iconst 1, 1) := by decide +kernel
theorem d_Nm_look_291 : decode (kB K_Nm_look) 291 = .ok (.iadd, 1) := by decide +kernel
theorem d_Nm_look_292 : decode (kB K_Nm_look) 292 = .ok (.aload_n 0, 1) := by decide +kernel
theorem d_Nm_look_293 : decode (kB K_Nm_look) 293 = .ok (.getfield 18, 3) := by decide +kernel
theorem d_Nm_look_296 : decode (kB K_Nm_look) 296 = .ok (.aload_n 0, 1) := by decide +kernel
theorem d_Nm_look_297 : decode (kB K_Nm_look) 297 = .ok (.getfield 35, 3) := by decide +kernel
theorem d_Nm_look_300 : decode (kB K_Nm_look) 300 = .ok (.getfield 74, 3) := by decide +kernel
theorem d_Nm_look_303 : decode (kB K_Nm_look) 303 = .ok (.invokevirtual 77, 3) := by decide +kernel
theorem d_Nm_look_306 : decode (kB K_Nm_look) 306 = .ok (.goto 11, 3) := by decide +kernel
theorem d_Nm_look_309 : decode (kB K_Nm_look) 309 = .ok (.aload_n 0, 1) := by decide +kernel
theorem d_Nm_look_310 : decode (kB K_Nm_look) 310 = .ok (.iload_n 1, 1) := by decide +kernel
theorem d_Nm_look_311 : decode (kB K_Nm_look) 311 = .ok (.invokevirtual 91, 3) := by decide +kernel
theorem d_Nm_look_314 : decode (kB K_Nm_look) 314 = .ok (.goto 3, 3) := by decide +kernel
theorem d_Nm_look_317 : decode (kB K_Nm_look) 317 = .ok (.return_, 1) := by decide +kernel
def K_Nm_tell : KM := (⟨"ParishBoards$Names", "tell", "(I[JI)I"⟩, prog_7_method_4_code, 6, (some (.int)), "ParishBoards$Names", ([], []))
theorem d_Nm_tell_0 : decode (kB K_Nm_tell) 0 = .ok (.aload_n 0, 1) := by decide +kernel
theorem d_Nm_tell_1 : decode (kB K_Nm_tell) 1 = .ok (.getfield 31, 3) := by decide +kernel
theorem d_Nm_tell_4 : decode (kB K_Nm_tell) 4 = .ok (.iload_n 1, 1) := by decide +kernel
theorem d_Nm_tell_5 : decode (kB K_Nm_tell) 5 = .ok (.invokevirtual 94, 3) := by decide +kernel
theorem d_Nm_tell_8 : decode (kB K_Nm_tell) 8 = .ok (.lstore 4, 2) := by decide +kernel
theorem d_Nm_tell_10 : decode (kB K_Nm_tell) 10 = .ok (.lload 4, 2) := by decide +kernel
theorem d_Nm_tell_12 : decode (kB K_Nm_tell) 12 = .ok (.aload_n 2, 1) := by decide +kernel
theorem d_Nm_tell_13 : decode (kB K_Nm_tell) 13 = .ok (.iload_n 3, 1) := by decide +kernel
theorem d_Nm_tell_14 : decode (kB K_Nm_tell) 14 = .ok (.invokestatic 98, 3) := by decide +kernel
theorem d_Nm_tell_17 : decode (kB K_Nm_tell) 17 = .ok (.iconst (-1), 1) := by decide +kernel
theorem d_Nm_tell_18 : decode (kB K_Nm_tell) 18 = .ok (.if_icmp .eq 11, 3) := by decide +kernel
theorem d_Nm_tell_21 : decode (kB K_Nm_tell) 21 = .ok (.aload_n 0, 1) := by decide +kernel
theorem d_Nm_tell_22 : decode (kB K_Nm_tell) 22 = .ok (.iconst 2, 1) := by decide +kernel
theorem d_Nm_tell_23 : decode (kB K_Nm_tell) 23 = .ok (.iload_n 1, 1) := by decide +kernel
theorem d_Nm_tell_24 : decode (kB K_Nm_tell) 24 = .ok (.invokevirtual 102, 3) := by decide +kernel
theorem d_Nm_tell_27 : decode (kB K_Nm_tell) 27 = .ok (.iload_n 3, 1) := by decide +kernel
theorem d_Nm_tell_28 : decode (kB K_Nm_tell) 28 = .ok (.ireturn, 1) := by decide +kernel
theorem d_Nm_tell_29 : decode (kB K_Nm_tell) 29 = .ok (.iload_n 3, 1) := by decide +kernel
theorem d_Nm_tell_30 : decode (kB K_Nm_tell) 30 = .ok (.aload_n 2, 1) := by decide +kernel
theorem d_Nm_tell_31 : decode (kB K_Nm_tell) 31 = .ok (.arraylength, 1) := by decide +kernel
theorem d_Nm_tell_32 : decode (kB K_Nm_tell) 32 = .ok (.if_icmp .lt 11, 3) := by decide +kernel
theorem d_Nm_tell_35 : decode (kB K_Nm_tell) 35 = .ok (.aload_n 0, 1) := by decide +kernel
theorem d_Nm_tell_36 : decode (kB K_Nm_tell) 36 = .ok (.iconst 4, 1) := by decide +kernel
theorem d_Nm_tell_37 : decode (kB K_Nm_tell) 37 = .ok (.iload_n 1, 1) := by decide +kernel
theorem d_Nm_tell_38 : decode (kB K_Nm_tell) 38 = .ok (.invokevirtual 102, 3) := by decide +kernel
theorem d_Nm_tell_41 : decode (kB K_Nm_tell) 41 = .ok (.iload_n 3, 1) := by decide +kernel
theorem d_Nm_tell_42 : decode (kB K_Nm_tell) 42 = .ok (.ireturn, 1) := by decide +kernel
theorem d_Nm_tell_43 : decode (kB K_Nm_tell) 43 = .ok (.aload_n 2, 1) := by decide +kernel
theorem d_Nm_tell_44 : decode (kB K_Nm_tell) 44 = .ok (.iload_n 3, 1) := by decide +kernel
theorem d_Nm_tell_45 : decode (kB K_Nm_tell) 45 = .ok (.lload 4, 2) := by decide +kernel
theorem d_Nm_tell_47 : decode (kB K_Nm_tell) 47 = .ok (.lastore, 1) := by decide +kernel
theorem d_Nm_tell_48 : decode (kB K_Nm_tell) 48 = .ok (.iload_n 3, 1) := by decide +kernel
theorem d_Nm_tell_49 : decode (kB K_Nm_tell) 49 = .ok (.iconst 1, 1) := by decide +kernel
theorem d_Nm_tell_50 : decode (kB K_Nm_tell) 50 = .ok (.iadd, 1) := by decide +kernel
theorem d_Nm_tell_51 : decode (kB K_Nm_tell) 51 = .ok (.ireturn, 1) := by decide +kernel
