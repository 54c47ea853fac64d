/-! methods and their instructions -/
def K_PB_digest : KM := (⟨"ParishBoards", "digest", "()J"⟩, prog_1_method_26_code, 5, (some (.long)), "ParishBoards", ([], []))
theorem d_PB_digest_0 : decode (kB K_PB_digest) 0 = .ok (.ldc2_w 270, 3) := by decide +kernel
theorem d_PB_digest_3 : decode (kB K_PB_digest) 3 = .ok (.lstore_n 1, 1) := by decide +kernel
theorem d_PB_digest_4 : decode (kB K_PB_digest) 4 = .ok (.iconst 0, 1) := by decide +kernel
theorem d_PB_digest_5 : decode (kB K_PB_digest) 5 = .ok (.istore_n 3, 1) := by decide +kernel
theorem d_PB_digest_6 : decode (kB K_PB_digest) 6 = .ok (.iload_n 3, 1) := by decide +kernel
theorem d_PB_digest_7 : decode (kB K_PB_digest) 7 = .ok (.bipush 13, 2) := by decide +kernel
theorem d_PB_digest_9 : decode (kB K_PB_digest) 9 = .ok (.if_icmp .ge 19, 3) := by decide +kernel
theorem d_PB_digest_12 : decode (kB K_PB_digest) 12 = .ok (.lload_n 1, 1) := by decide +kernel
theorem d_PB_digest_13 : decode (kB K_PB_digest) 13 = .ok (.aload_n 0, 1) := by decide +kernel
theorem d_PB_digest_14 : decode (kB K_PB_digest) 14 = .ok (.iload_n 3, 1) := by decide +kernel
theorem d_PB_digest_15 : decode (kB K_PB_digest) 15 = .ok (.invokevirtual 110, 3) := by decide +kernel
theorem d_PB_digest_18 : decode (kB K_PB_digest) 18 = .ok (.invokestatic 272, 3) := by decide +kernel
theorem d_PB_digest_21 : decode (kB K_PB_digest) 21 = .ok (.lstore_n 1, 1) := by decide +kernel
theorem d_PB_digest_22 : decode (kB K_PB_digest) 22 = .ok (.iinc 3 1, 3) := by decide +kernel
theorem d_PB_digest_25 : decode (kB K_PB_digest) 25 = .ok (.goto (-19), 3) := by decide +kernel
theorem d_PB_digest_28 : decode (kB K_PB_digest) 28 = .ok (.iconst 0, 1) := by decide +kernel
theorem d_PB_digest_29 : decode (kB K_PB_digest) 29 = .ok (.istore_n 3, 1) := by decide +kernel
theorem d_PB_digest_30 : decode (kB K_PB_digest) 30 = .ok (.iload_n 3, 1) := by decide +kernel
theorem d_PB_digest_31 : decode (kB K_PB_digest) 31 = .ok (.aload_n 0, 1) := by decide +kernel
theorem d_PB_digest_32 : decode (kB K_PB_digest) 32 = .ok (.getfield 23, 3) := by decide +kernel
theorem d_PB_digest_35 : decode (kB K_PB_digest) 35 = .ok (.getfield 250, 3) := by decide +kernel
theorem d_PB_digest_38 : decode (kB K_PB_digest) 38 = .ok (.if_icmp .ge 16, 3) := by decide +kernel
theorem d_PB_digest_41 : decode (kB K_PB_digest) 41 = .ok (.aload_n 0, 1) := by decide +kernel
theorem d_PB_digest_42 : decode (kB K_PB_digest) 42 = .ok (.lload_n 1, 1) := by decide +kernel
theorem d_PB_digest_43 : decode (kB K_PB_digest) 43 = .ok (.iload_n 3, 1) := by decide +kernel
theorem d_PB_digest_44 : decode (kB K_PB_digest) 44 = .ok (.invokevirtual 276, 3) := by decide +kernel
theorem d_PB_digest_47 : decode (kB K_PB_digest) 47 = .ok (.lstore_n 1, 1) := by decide +kernel
theorem d_PB_digest_48 : decode (kB K_PB_digest) 48 = .ok (.iinc 3 1, 3) := by decide +kernel
theorem d_PB_digest_51 : decode (kB K_PB_digest) 51 = .ok (.goto (-21), 3) := by decide +kernel
theorem d_PB_digest_54 : decode (kB K_PB_digest) 54 = .ok (.iconst 0, 1) := by decide +kernel
theorem d_PB_digest_55 : decode (kB K_PB_digest) 55 = .ok (.istore_n 3, 1) := by decide +kernel
theorem d_PB_digest_56 : decode (kB K_PB_digest) 56 = .ok (.iload_n 3, 1) := by decide +kernel
theorem d_PB_digest_57 : decode (kB K_PB_digest) 57 = .ok (.aload_n 0, 1) := by decide +kernel
theorem d_PB_digest_58 : decode (kB K_PB_digest) 58 = .ok (.getfield 58, 3) := by decide +kernel
theorem d_PB_digest_61 : decode (kB K_PB_digest) 61 = .ok (.getfield 257, 3) := by decide +kernel
theorem d_PB_digest_64 : decode (kB K_PB_digest) 64 = .ok (.if_icmp .ge 16, 3) := by decide +kernel
theorem d_PB_digest_67 : decode (kB K_PB_digest) 67 = .ok (.aload_n 0, 1) := by decide +kernel
theorem d_PB_digest_68 : decode (kB K_PB_digest) 68 = .ok (.lload_n 1, 1) := by decide +kernel
theorem d_PB_digest_69 : decode (kB K_PB_digest) 69 = .ok (.iload_n 3, 1) := by decide +kernel
theorem d_PB_digest_70 : decode (kB K_PB_digest) 70 = .ok (.invokevirtual 279, 3) := by decide +kernel
theorem d_PB_digest_73 : decode (kB K_PB_digest) 73 = .ok (.lstore_n 1, 1) := by decide +kernel
theorem d_PB_digest_74 : decode (kB K_PB_digest) 74 = .ok (.iinc 3 1, 3) := by decide +kernel
theorem d_PB_digest_77 : decode (kB K_PB_digest) 77 = .ok (.goto (-21), 3) := by decide +kernel
theorem d_PB_digest_80 : decode (kB K_PB_digest) 80 = .ok (.iconst 0, 1) := by decide +kernel
theorem d_PB_digest_81 : decode (kB K_PB_digest) 81 = .ok (.istore_n 3, 1) := by decide +kernel
theorem d_PB_digest_82 : decode (kB K_PB_digest) 82 = .ok (.iload_n 3, 1) := by decide +kernel
theorem d_PB_digest_83 : decode (kB K_PB_digest) 83 = .ok (.aload_n 0, 1) := by decide +kernel
theorem d_PB_digest_84 : decode (kB K_PB_digest) 84 = .ok (.getfield 23, 3) := by decide +kernel
theorem d_PB_digest_87 : decode (kB K_PB_digest) 87 = .ok (.getfield 263, 3) := by decide +kernel
theorem d_PB_digest_90 : decode (kB K_PB_digest) 90 = .ok (.if_icmp .ge 39, 3) := by decide +kernel
theorem d_PB_digest_93 : decode (kB K_PB_digest) 93 = .ok (.iconst 0, 1) := by decide +kernel
theorem d_PB_digest_94 : decode (kB K_PB_digest) 94 = .ok (.istore 4, 2) := by decide +kernel
theorem d_PB_digest_96 : decode (kB K_PB_digest) 96 = .ok (.iload 4, 2) := by decide +kernel
theorem d_PB_digest_98 : decode (kB K_PB_digest) 98 = .ok (.iconst 5, 1) := by decide +kernel
theorem d_PB_digest_99 : decode (kB K_PB_digest) 99 = .ok (.if_icmp .ge 24, 3) := by decide +kernel
theorem d_PB_digest_102 : decode (kB K_PB_digest) 102 = .ok (.lload_n 1, 1) := by decide +kernel
theorem d_PB_digest_103 : decode (kB K_PB_digest) 103 = .ok (.aload_n 0, 1) := by decide +kernel
theorem d_PB_digest_104 : decode (kB K_PB_digest) 104 = .ok (.getfield 58, 3) := by decide +kernel
theorem d_PB_digest_107 : decode (kB K_PB_digest) 107 = .ok (.iload_n 3, 1) := by decide +kernel
theorem d_PB_digest_108 : decode (kB K_PB_digest) 108 = .ok (.iload 4, 2) := by decide +kernel
theorem d_PB_digest_110 : decode (kB K_PB_digest) 110 = .ok (.invokevirtual 176, 3) := by decide +kernel
theorem d_PB_digest_113 : decode (kB K_PB_digest) 113 = .ok (.invokestatic 272, 3) := by decide +kernel
theorem d_PB_digest_116 : decode (kB K_PB_digest) 116 = .ok (.lstore_n 1, 1) := by decide +kernel
theorem d_PB_digest_117 : decode (kB K_PB_digest) 117 = .ok (.iinc 4 1, 3) := by decide +kernel
theorem d_PB_digest_120 : decode (kB K_PB_digest) 120 = .ok (.goto (-24), 3) := by decide +kernel
theorem d_PB_digest_123 : decode (kB K_PB_digest) 123 = .ok (.iinc 3 1, 3) := by decide +kernel
theorem d_PB_digest_126 : decode (kB K_PB_digest) 126 = .ok (.goto (-44), 3) := by decide +kernel
theorem d_PB_digest_129 : decode (kB K_PB_digest) 129 = .ok (.lload_n 1, 1) := by decide +kernel
theorem d_PB_digest_130 : decode (kB K_PB_digest) 130 = .ok (.lreturn, 1) := by decide +kernel
def K_PB_append : KM := (⟨"ParishBoards", "append", "(I)V"⟩, prog_1_method_27_code, 3, none, "ParishBoards", ([], []))
theorem d_PB_append_0 : decode (kB K_PB_append) 0 = .ok (.bipush 24, 2) := by decide +kernel
theorem d_PB_append_2 : decode (kB K_PB_append) 2 = .ok (.istore_n 2, 1) := by decide +kernel
theorem d_PB_append_3 : decode (kB K_PB_append) 3 = .ok (.iload_n 2, 1) := by decide +kernel
theorem d_PB_append_4 : decode (kB K_PB_append) 4 = .ok (.ifCond .lt 42, 3) := by decide +kernel
theorem d_PB_append_7 : decode (kB K_PB_append) 7 = .ok (.aload_n 0, 1) := by decide +kernel
theorem d_PB_append_8 : decode (kB K_PB_append) 8 = .ok (.getfield 13, 3) := by decide +kernel
theorem d_PB_append_11 : decode (kB K_PB_append) 11 = .ok (.sipush 2000, 3) := by decide +kernel
theorem d_PB_append_14 : decode (kB K_PB_append) 14 = .ok (.if_icmp .ge 32, 3) := by decide +kernel
theorem d_PB_append_17 : decode (kB K_PB_append) 17 = .ok (.aload_n 0, 1) := by decide +kernel
theorem d_PB_append_18 : decode (kB K_PB_append) 18 = .ok (.getfield 9, 3) := by decide +kernel
theorem d_PB_append_21 : decode (kB K_PB_append) 21 = .ok (.aload_n 0, 1) := by decide +kernel
theorem d_PB_append_22 : decode (kB K_PB_append) 22 = .ok (.getfield 13, 3) := by decide +kernel
theorem d_PB_append_25 : decode (kB K_PB_append) 25 = .ok (.iload_n 1, 1) := by decide +kernel
theorem d_PB_append_26 : decode (kB K_PB_append) 26 = .ok (.iload_n 2, 1) := by decide +kernel
theorem d_PB_append_27 : decode (kB K_PB_append) 27 = .ok (.ishr, 1) := by decide +kernel
theorem d_PB_append_28 : decode (kB K_PB_append) 28 = .ok (.i2b, 1) := by decide +kernel
theorem d_PB_append_29 : decode (kB K_PB_append) 29 = .ok (.bastore, 1) := by decide +kernel
theorem d_PB_append_30 : decode (kB K_PB_append) 30 = .ok (.aload_n 0, 1) := by decide +kernel
theorem d_PB_append_31 : decode (kB K_PB_append) 31 = .ok (.dup, 1) := by decide +kernel
theorem d_PB_append_32 : decode (kB K_PB_append) 32 = .ok (.getfield 13, 3) := by decide +kernel
theorem d_PB_append_35 : decode (kB K_PB_append) 35 = .ok (.iconst 1, 1) := by decide +kernel
theorem d_PB_append_36 : decode (kB K_PB_append) 36 = .ok (.iadd, 1) := by decide +kernel
theorem d_PB_append_37 : decode (kB K_PB_append) 37 = .ok (.putfield 13, 3) := by decide +kernel
theorem d_PB_append_40 : decode (kB K_PB_append) 40 = .ok (.iinc 2 (-8), 3) := by decide +kernel
theorem d_PB_append_43 : decode (kB K_PB_append) 43 = .ok (.goto (-40), 3) := by decide +kernel
theorem d_PB_append_46 : decode (kB K_PB_append) 46 = .ok (.return_, 1) := by decide +kernel
def K_PB_beginAnew : KM := (⟨"ParishBoards", "beginAnew", "()V"⟩, prog_1_method_28_code, 2, none, "ParishBoards", ([], []))
theorem d_PB_beginAnew_0 : decode (kB K_PB_beginAnew) 0 = .ok (.aload_n 0, 1) := by decide +kernel
theorem d_PB_beginAnew_1 : decode (kB K_PB_beginAnew) 1 = .ok (.getfield 27, 3) := by decide +kernel
theorem d_PB_beginAnew_4 : decode (kB K_PB_beginAnew) 4 = .ok (.aload_n 0, 1) := by decide +kernel
theorem d_PB_beginAnew_5 : decode (kB K_PB_beginAnew) 5 = .ok (.getfield 33, 3) := by decide +kernel
theorem d_PB_beginAnew_8 : decode (kB K_PB_beginAnew) 8 = .ok (.invokevirtual 282, 3) := by decide +kernel
theorem d_PB_beginAnew_11 : decode (kB K_PB_beginAnew) 11 = .ok (.aload_n 0, 1) := by decide +kernel
theorem d_PB_beginAnew_12 : decode (kB K_PB_beginAnew) 12 = .ok (.getfield 23, 3) := by decide +kernel
theorem d_PB_beginAnew_15 : decode (kB K_PB_beginAnew) 15 = .ok (.astore_n 1, 1) := by decide +kernel
theorem d_PB_beginAnew_16 : decode (kB K_PB_beginAnew) 16 = .ok (.aload_n 0, 1) := by decide +kernel
theorem d_PB_beginAnew_17 : decode (kB K_PB_beginAnew) 17 = .ok (.aload_n 0, 1) := by decide +kernel
theorem d_PB_beginAnew_18 : decode (kB K_PB_beginAnew) 18 = .ok (.getfield 27, 3) := by decide +kernel
theorem d_PB_beginAnew_21 : decode (kB K_PB_beginAnew) 21 = .ok (.putfield 23, 3) := by decide +kernel
theorem d_PB_beginAnew_24 : decode (kB K_PB_beginAnew) 24 = .ok (.aload_n 0, 1) := by decide +kernel
theorem d_PB_beginAnew_25 : decode (kB K_PB_beginAnew) 25 = .ok (.aload_n 1, 1) := by decide +kernel
theorem d_PB_beginAnew_26 : decode (kB K_PB_beginAnew) 26 = .ok (.putfield 27, 3) := by decide +kernel
theorem d_PB_beginAnew_29 : decode (kB K_PB_beginAnew) 29 = .ok (.aload_n 0, 1) := by decide +kernel
theorem d_PB_beginAnew_30 : decode (kB K_PB_beginAnew) 30 = .ok (.getfield 58, 3) := by decide +kernel
theorem d_PB_beginAnew_33 : decode (kB K_PB_beginAnew) 33 = .ok (.aload_n 0, 1) := by decide +kernel
theorem d_PB_beginAnew_34 : decode (kB K_PB_beginAnew) 34 = .ok (.getfield 23, 3) := by decide +kernel
theorem d_PB_beginAnew_37 : decode (kB K_PB_beginAnew) 37 = .ok (.invokevirtual 286, 3) := by decide +kernel
theorem d_PB_beginAnew_40 : decode (kB K_PB_beginAnew) 40 = .ok (.return_, 1) := by decide +kernel
def K_PB_counted : KM := (⟨"ParishBoards", "counted", "(I)I"⟩, prog_1_method_29_code, 2, (some (.int)), "ParishBoards", ([], []))
theorem d_PB_counted_0 : decode (kB K_PB_counted) 0 = .ok (.iload_n 1, 1) := by decide +kernel
theorem d_PB_counted_1 : decode (kB K_PB_counted) 1 = .ok (.bipush 12, 2) := by decide +kernel
theorem d_PB_counted_3 : decode (kB K_PB_counted) 3 = .ok (.if_icmp .ne 10, 3) := by decide +kernel
theorem d_PB_counted_6 : decode (kB K_PB_counted) 6 = .ok (.aload_n 0, 1) := by decide +kernel
theorem d_PB_counted_7 : decode (kB K_PB_counted) 7 = .ok (.getfield 13, 3) := by decide +kernel
theorem d_PB_counted_10 : decode (kB K_PB_counted) 10 = .ok (.goto 11, 3) := by decide +kernel
theorem d_PB_counted_13 : decode (kB K_PB_counted) 13 = .ok (.aload_n 0, 1) := by decide +kernel
theorem d_PB_counted_14 : decode (kB K_PB_counted) 14 = .ok (.getfield 58, 3) := by decide +kernel
theorem d_PB_counted_17 : decode (kB K_PB_counted) 17 = .ok (.iload_n 1, 1) := by decide +kernel
theorem d_PB_counted_18 : decode (kB K_PB_counted) 18 = .ok (.invokevirtual 242, 3) := by decide +kernel
theorem d_PB_counted_21 : decode (kB K_PB_counted) 21 = .ok (.ireturn, 1) := by decide +kernel
def K_PB_isParish : KM := (⟨"ParishBoards", "isParish", "(I)Z"⟩, prog_1_method_30_code, 2, (some (.boolean)), "ParishBoards", ([], []))
theorem d_PB_isParish_0 : decode (kB K_PB_isParish) 0 = .ok (.iload_n 1, 1) := by decide +kernel
theorem d_PB_isParish_1 : decode (kB K_PB_isParish) 1 = .ok (.ifCond .lt 18, 3) := by decide +kernel
theorem d_PB_isParish_4 : decode (kB K_PB_isParish) 4 = .ok (.iload_n 1, 1) := by decide +kernel
theorem d_PB_isParish_5 : decode (kB K_PB_isParish) 5 = .ok (.aload_n 0, 1) := by decide +kernel
theorem d_PB_isParish_6 : decode (kB K_PB_isParish) 6 = .ok (.getfield 23, 3) := by decide +kernel
theorem d_PB_isParish_9 : decode (kB K_PB_isParish) 9 = .ok (.getfield 250, 3) := by decide +kernel
theorem d_PB_isParish_12 : decode (kB K_PB_isParish) 12 = .ok (.if_icmp .ge 7, 3) := by decide +kernel
theorem d_PB_isParish_15 : decode (kB K_PB_isParish) 15 = .ok (.iconst 1, 1) := by decide +kernel
theorem d_PB_isParish_16 : decode (kB K_PB_isParish) 16 = .ok (.goto 4, 3) := by decide +kernel
theorem d_PB_isParish_19 : decode (kB K_PB_isParish) 19 = .ok (.iconst 0, 1) := by decide +kernel
theorem d_PB_isParish_20 : decode (kB K_PB_isParish) 20 = .ok (.ireturn, 1) := by decide +kernel
def K_PB_isBoardOf : KM := (⟨"ParishBoards", "isBoardOf", "(II)Z"⟩, prog_1_method_31_code, 3, (some (.boolean)), "ParishBoards", ([], []))
theorem d_PB_isBoardOf_0 : decode (kB K_PB_isBoardOf) 0 = .ok (.aload_n 0, 1) := by decide +kernel
theorem d_PB_isBoardOf_1 : decode (kB K_PB_isBoardOf) 1 = .ok (.iload_n 1, 1) := by decide +kernel
theorem d_PB_isBoardOf_2 : decode (kB K_PB_isBoardOf) 2 = .ok (.invokevirtual 113, 3) := by decide +kernel
theorem d_PB_isBoardOf_5 : decode (kB K_PB_isBoardOf) 5 = .ok (.ifCond .eq 22, 3) := by decide +kernel
theorem d_PB_isBoardOf_8 : decode (kB K_PB_isBoardOf) 8 = .ok (.iload_n 2, 1) := by decide +kernel
theorem d_PB_isBoardOf_9 : decode (kB K_PB_isBoardOf) 9 = .ok (.ifCond .lt 18, 3) := by decide +kernel
theorem d_PB_isBoardOf_12 : decode (kB K_PB_isBoardOf) 12 = .ok (.iload_n 2, 1) := by decide +kernel
theorem d_PB_isBoardOf_13 : decode (kB K_PB_isBoardOf) 13 = .ok (.aload_n 0, 1) := by decide +kernel
theorem d_PB_isBoardOf_14 : decode (kB K_PB_isBoardOf) 14 = .ok (.getfield 23, 3) := by decide +kernel
theorem d_PB_isBoardOf_17 : decode (kB K_PB_isBoardOf) 17 = .ok (.getfield 289, 3) := by decide +kernel
theorem d_PB_isBoardOf_20 : decode (kB K_PB_isBoardOf) 20 = .ok (.if_icmp .ge 7, 3) := by decide +kernel
theorem d_PB_isBoardOf_23 : decode (kB K_PB_isBoardOf) 23 = .ok (.iconst 1, 1) := by decide +kernel
theorem d_PB_isBoardOf_24 : decode (kB K_PB_isBoardOf) 24 = .ok (.goto 4, 3) := by decide +kernel
theorem d_PB_isBoardOf_27 : decode (kB K_PB_isBoardOf) 27 = .ok (.iconst 0, 1) := by decide +kernel
theorem d_PB_isBoardOf_28 : decode (kB K_PB_isBoardOf) 28 = .ok (.ireturn, 1) := by decide +kernel
def K_PB_isRoad : KM := (⟨"ParishBoards", "isRoad", "(I)Z"⟩, prog_1_method_32_code, 2, (some (.boolean)), "ParishBoards", ([], []))
theorem d_PB_isRoad_0 : decode (kB K_PB_isRoad) 0 = .ok (.iload_n 1, 1) := by decide +kernel
theorem d_PB_isRoad_1 : decode (kB K_PB_isRoad) 1 = .ok (.ifCond .lt 18, 3) := by decide +kernel
theorem d_PB_isRoad_4 : decode (kB K_PB_isRoad) 4 = .ok (.iload_n 1, 1) := by decide +kernel
theorem d_PB_isRoad_5 : decode (kB K_PB_isRoad) 5 = .ok (.aload_n 0, 1) := by decide +kernel
theorem d_PB_isRoad_6 : decode (kB K_PB_isRoad) 6 = .ok (.getfield 23, 3) := by decide +kernel
theorem d_PB_isRoad_9 : decode (kB K_PB_isRoad) 9 = .ok (.getfield 263, 3) := by decide +kernel
theorem d_PB_isRoad_12 : decode (kB K_PB_isRoad) 12 = .ok (.if_icmp .ge 7, 3) := by decide +kernel
theorem d_PB_isRoad_15 : decode (kB K_PB_isRoad) 15 = .ok (.iconst 1, 1) := by decide +kernel
theorem d_PB_isRoad_16 : decode (kB K_PB_isRoad) 16 = .ok (.goto 4, 3) := by decide +kernel
theorem d_PB_isRoad_19 : decode (kB K_PB_isRoad) 19 = .ok (.iconst 0, 1) := by decide +kernel
theorem d_PB_isRoad_20 : decode (kB K_PB_isRoad) 20 = .ok (.ireturn, 1) := by decide +kernel
def K_PB_isSheet : KM := (⟨"ParishBoards", "isSheet", "(I)Z"⟩, prog_1_method_33_code, 2, (some (.boolean)), "ParishBoards", ([], []))
theorem d_PB_isSheet_0 : decode (kB K_PB_isSheet) 0 = .ok (.iload_n 1, 1) := by decide +kernel
theorem d_PB_isSheet_1 : decode (kB K_PB_isSheet) 1 = .ok (.ifCond .lt 18, 3) := by decide +kernel
theorem d_PB_isSheet_4 : decode (kB K_PB_isSheet) 4 = .ok (.iload_n 1, 1) := by decide +kernel
theorem d_PB_isSheet_5 : decode (kB K_PB_isSheet) 5 = .ok (.aload_n 0, 1) := by decide +kernel
theorem d_PB_isSheet_6 : decode (kB K_PB_isSheet) 6 = .ok (.getfield 58, 3) := by decide +kernel
theorem d_PB_isSheet_9 : decode (kB K_PB_isSheet) 9 = .ok (.getfield 257, 3) := by decide +kernel
theorem d_PB_isSheet_12 : decode (kB K_PB_isSheet) 12 = .ok (.if_icmp .ge 7, 3) := by decide +kernel
theorem d_PB_isSheet_15 : decode (kB K_PB_isSheet) 15 = .ok (.iconst 1, 1) := by decide +kernel
theorem d_PB_isSheet_16 : decode (kB K_PB_isSheet) 16 = .ok (.goto 4, 3) := by decide +kernel
theorem d_PB_isSheet_19 : decode (kB K_PB_isSheet) 19 = .ok (.iconst 0, 1) := by decide +kernel
theorem d_PB_isSheet_20 : decode (kB K_PB_isSheet) 20 = .ok (.ireturn, 1) := by decide +kernel
def K_PB_isMark : KM := (⟨"ParishBoards", "isMark", "(I)Z"⟩, prog_1_method_34_code, 1, (some (.boolean)), "ParishBoards", ([], []))
theorem d_PB_isMark_0 : decode (kB K_PB_isMark) 0 = .ok (.iload_n 0, 1) := by decide +kernel
theorem d_PB_isMark_1 : decode (kB K_PB_isMark) 1 = .ok (.ifCond .lt 13, 3) := by decide +kernel
theorem d_PB_isMark_4 : decode (kB K_PB_isMark) 4 = .ok (.iload_n 0, 1) := by decide +kernel
theorem d_PB_isMark_5 : decode (kB K_PB_isMark) 5 = .ok (.bipush 15, 2) := by decide +kernel
theorem d_PB_isMark_7 : decode (kB K_PB_isMark) 7 = .ok (.if_icmp .gt 7, 3) := by decide +kernel
theorem d_PB_isMark_10 : decode (kB K_PB_isMark) 10 = .ok (.iconst 1, 1) := by decide +kernel
theorem d_PB_isMark_11 : decode (kB K_PB_isMark) 11 = .ok (.goto 4, 3) := by decide +kernel
theorem d_PB_isMark_14 : decode (kB K_PB_isMark) 14 = .ok (.iconst 0, 1) := by decide +kernel
theorem d_PB_isMark_15 : decode (kB K_PB_isMark) 15 = .ok (.ireturn, 1) := by decide +kernel
def K_PB_mixed : KM := (⟨"ParishBoards", "mixed", "(JI)J"⟩, prog_1_method_35_code, 3, (some (.long)), "ParishBoards", ([], []))
theorem d_PB_mixed_0 : decode (kB K_PB_mixed) 0 = .ok (.lload_n 0, 1) := by decide +kernel
theorem d_PB_mixed_1 : decode (kB K_PB_mixed) 1 = .ok (.ldc2_w 292, 3) := by decide +kernel
theorem d_PB_mixed_4 : decode (kB K_PB_mixed) 4 = .ok (.lmul, 1) := by decide +kernel
theorem d_PB_mixed_5 : decode (kB K_PB_mixed) 5 = .ok (.iload_n 2, 1) := by decide +kernel
theorem d_PB_mixed_6 : decode (kB K_PB_mixed) 6 = .ok (.i2l, 1) := by decide +kernel
theorem d_PB_mixed_7 : decode (kB K_PB_mixed) 7 = .ok (.ladd, 1) := by decide +kernel
theorem d_PB_mixed_8 : decode (kB K_PB_mixed) 8 = .ok (.lreturn, 1) := by decide +kernel
def K_PB_mixedParish : KM := (⟨"ParishBoards", "mixedParish", "(JI)J"⟩, prog_1_method_36_code, 10, (some (.long)), "ParishBoards", ([], []))
theorem d_PB_mixedParish_0 : decode (kB K_PB_mixedParish) 0 = .ok (.lload_n 1, 1) := by decide +kernel
theorem d_PB_mixedParish_1 : decode (kB K_PB_mixedParish) 1 = .ok (.lstore 4, 2) := by decide +kernel
theorem d_PB_mixedParish_3 : decode (kB K_PB_mixedParish) 3 = .ok (.iconst 0, 1) := by decide +kernel
theorem d_PB_mixedParish_4 : decode (kB K_PB_mixedParish) 4 = .ok (.istore 6, 2) := by decide +kernel
theorem d_PB_mixedParish_6 : decode (kB K_PB_mixedParish) 6 = .ok (.iload 6, 2) := by decide +kernel
theorem d_PB_mixedParish_8 : decode (kB K_PB_mixedParish) 8 = .ok (.bipush 6, 2) := by decide +kernel
theorem d_PB_mixedParish_10 : decode (kB K_PB_mixedParish) 10 = .ok (.if_icmp .ge 26, 3) := by decide +kernel
theorem d_PB_mixedParish_13 : decode (kB K_PB_mixedParish) 13 = .ok (.lload 4, 2) := by decide +kernel
theorem d_PB_mixedParish_15 : decode (kB K_PB_mixedParish) 15 = .ok (.aload_n 0, 1) := by decide +kernel
theorem d_PB_mixedParish_16 : decode (kB K_PB_mixedParish) 16 = .ok (.getfield 58, 3) := by decide +kernel
theorem d_PB_mixedParish_19 : decode (kB K_PB_mixedParish) 19 = .ok (.iload_n 3, 1) := by decide +kernel
theorem d_PB_mixedParish_20 : decode (kB K_PB_mixedParish) 20 = .ok (.iload 6, 2) := by decide +kernel
theorem d_PB_mixedParish_22 : decode (kB K_PB_mixedParish) 22 = .ok (.invokevirtual 119, 3) := by decide +kernel
theorem d_PB_mixedParish_25 : decode (kB K_PB_mixedParish) 25 = .ok (.invokestatic 272, 3) := by decide +kernel
theorem d_PB_mixedParish_28 : decode (kB K_PB_mixedParish) 28 = .ok (.lstore 4, 2) := by decide +kernel
theorem d_PB_mixedParish_30 : decode (kB K_PB_mixedParish) 30 = .ok (.iinc 6 1, 3) := by decide +kernel
theorem d_PB_mixedParish_33 : decode (kB K_PB_mixedParish) 33 = .ok (.goto (-27), 3) := by decide +kernel
theorem d_PB_mixedParish_36 : decode (kB K_PB_mixedParish) 36 = .ok (.aload_n 0, 1) := by decide +kernel
theorem d_PB_mixedParish_37 : decode (kB K_PB_mixedParish) 37 = .ok (.getfield 58, 3) := by decide +kernel
theorem d_PB_mixedParish_40 : decode (kB K_PB_mixedParish) 40 = .ok (.getfield 125, 3) := by decide +kernel
theorem d_PB_mixedParish_43 : decode (kB K_PB_mixedParish) 43 = .ok (.iload_n 3, 1) := by decide +kernel
theorem d_PB_mixedParish_44 : decode (kB K_PB_mixedParish) 44 = .ok (.aaload, 1) := by decide +kernel
theorem d_PB_mixedParish_45 : decode (kB K_PB_mixedParish) 45 = .ok (.astore 6, 2) := by decide +kernel
theorem d_PB_mixedParish_47 : decode (kB K_PB_mixedParish) 47 = .ok (.iconst 0, 1) := by decide +kernel
theorem d_PB_mixedParish_48 : decode (kB K_PB_mixedParish) 48 = .ok (.istore 7, 2) := by decide +kernel
theorem d_PB_mixedParish_50 : decode (kB K_PB_mixedParish) 50 = .ok (.iload 7, 2) := by decide +kernel
theorem d_PB_mixedParish_52 : decode (kB K_PB_mixedParish) 52 = .ok (.aload_n 0, 1) := by decide +kernel
theorem d_PB_mixedParish_53 : decode (kB K_PB_mixedParish) 53 = .ok (.getfield 23, 3) := by decide +kernel
theorem d_PB_mixedParish_56 : decode (kB K_PB_mixedParish) 56 = .ok (.getfield 250, 3) := by decide +kernel
theorem d_PB_mixedParish_59 : decode (kB K_PB_mixedParish) 59 = .ok (.if_icmp .ge 24, 3) := by decide +kernel
theorem d_PB_mixedParish_62 : decode (kB K_PB_mixedParish) 62 = .ok (.lload 4, 2) := by decide +kernel
theorem d_PB_mixedParish_64 : decode (kB K_PB_mixedParish) 64 = .ok (.aload 6, 2) := by decide +kernel
theorem d_PB_mixedParish_66 : decode (kB K_PB_mixedParish) 66 = .ok (.getfield 129, 3) := by decide +kernel
theorem d_PB_mixedParish_69 : decode (kB K_PB_mixedParish) 69 = .ok (.iload 7, 2) := by decide +kernel
theorem d_PB_mixedParish_71 : decode (kB K_PB_mixedParish) 71 = .ok (.iaload, 1) := by decide +kernel
theorem d_PB_mixedParish_72 : decode (kB K_PB_mixedParish) 72 = .ok (.invokestatic 272, 3) := by decide +kernel
theorem d_PB_mixedParish_75 : decode (kB K_PB_mixedParish) 75 = .ok (.lstore 4, 2) := by decide +kernel
theorem d_PB_mixedParish_77 : decode (kB K_PB_mixedParish) 77 = .ok (.iinc 7 1, 3) := by decide +kernel
theorem d_PB_mixedParish_80 : decode (kB K_PB_mixedParish) 80 = .ok (.goto (-30), 3) := by decide +kernel
theorem d_PB_mixedParish_83 : decode (kB K_PB_mixedParish) 83 = .ok (.iconst 0, 1) := by decide +kernel
theorem d_PB_mixedParish_84 : decode (kB K_PB_mixedParish) 84 = .ok (.istore 7, 2) := by decide +kernel
theorem d_PB_mixedParish_86 : decode (kB K_PB_mixedParish) 86 = .ok (.iload 7, 2) := by decide +kernel
theorem d_PB_mixedParish_88 : decode (kB K_PB_mixedParish) 88 = .ok (.aload_n 0, 1) := by decide +kernel
theorem d_PB_mixedParish_89 : decode (kB K_PB_mixedParish) 89 = .ok (.getfield 23, 3) := by decide +kernel
theorem d_PB_mixedParish_92 : decode (kB K_PB_mixedParish) 92 = .ok (.getfield 289, 3) := by decide +kernel
theorem d_PB_mixedParish_95 : decode (kB K_PB_mixedParish) 95 = .ok (.if_icmp .ge 50, 3) := by decide +kernel
theorem d_PB_mixedParish_98 : decode (kB K_PB_mixedParish) 98 = .ok (.aload 6, 2) := by decide +kernel
theorem d_PB_mixedParish_100 : decode (kB K_PB_mixedParish) 100 = .ok (.iload 7, 2) := by decide +kernel
theorem d_PB_mixedParish_102 : decode (kB K_PB_mixedParish) 102 = .ok (.invokevirtual 294, 3) := by decide +kernel
theorem d_PB_mixedParish_105 : decode (kB K_PB_mixedParish) 105 = .ok (.istore 8, 2) := by decide +kernel
theorem d_PB_mixedParish_107 : decode (kB K_PB_mixedParish) 107 = .ok (.iconst 0, 1) := by decide +kernel
theorem d_PB_mixedParish_108 : decode (kB K_PB_mixedParish) 108 = .ok (.istore 9, 2) := by decide +kernel
theorem d_PB_mixedParish_110 : decode (kB K_PB_mixedParish) 110 = .ok (.iload 9, 2) := by decide +kernel
theorem d_PB_mixedParish_112 : decode (kB K_PB_mixedParish) 112 = .ok (.iload 8, 2) := by decide +kernel
theorem d_PB_mixedParish_114 : decode (kB K_PB_mixedParish) 114 = .ok (.if_icmp .ge 25, 3) := by decide +kernel
theorem d_PB_mixedParish_117 : decode (kB K_PB_mixedParish) 117 = .ok (.lload 4, 2) := by decide +kernel
theorem d_PB_mixedParish_119 : decode (kB K_PB_mixedParish) 119 = .ok (.aload 6, 2) := by decide +kernel
theorem d_PB_mixedParish_121 : decode (kB K_PB_mixedParish) 121 = .ok (.iload 7, 2) := by decide +kernel
theorem d_PB_mixedParish_123 : decode (kB K_PB_mixedParish) 123 = .ok (.iload 9, 2) := by decide +kernel
theorem d_PB_mixedParish_125 : decode (kB K_PB_mixedParish) 125 = .ok (.invokevirtual 160, 3) := by decide +kernel
theorem d_PB_mixedParish_128 : decode (kB K_PB_mixedParish) 128 = .ok (.invokestatic 272, 3) := by decide +kernel
theorem d_PB_mixedParish_131 : decode (kB K_PB_mixedParish) 131 = .ok (.lstore 4, 2) := by decide +kernel
theorem d_PB_mixedParish_133 : decode (kB K_PB_mixedParish) 133 = .ok (.iinc 9 1, 3) := by decide +kernel
theorem d_PB_mixedParish_136 : decode (kB K_PB_mixedParish) 136 = .ok (.goto (-26), 3) := by decide +kernel
theorem d_PB_mixedParish_139 : decode (kB K_PB_mixedParish) 139 = .ok (.iinc 7 1, 3) := by decide +kernel
theorem d_PB_mixedParish_142 : decode (kB K_PB_mixedParish) 142 = .ok (.goto (-56), 3) := by decide +kernel
theorem d_PB_mixedParish_145 : decode (kB K_PB_mixedParish) 145 = .ok (.lload 4, 2) := by decide +kernel
theorem d_PB_mixedParish_147 : decode (kB K_PB_mixedParish) 147 = .ok (.lreturn, 1) := by decide +kernel
def K_PB_mixedSheet : KM := (⟨"ParishBoards", "mixedSheet", "(JI)J"⟩, prog_1_method_37_code, 7, (some (.long)), "ParishBoards", ([], []))
theorem d_PB_mixedSheet_0 : decode (kB K_PB_mixedSheet) 0 = .ok (.lload_n 1, 1) := by decide +kernel
theorem d_PB_mixedSheet_1 : decode (kB K_PB_mixedSheet) 1 = .ok (.lstore 4, 2) := by decide +kernel
theorem d_PB_mixedSheet_3 : decode (kB K_PB_mixedSheet) 3 = .ok (.iconst 0, 1) := by decide +kernel
theorem d_PB_mixedSheet_4 : decode (kB K_PB_mixedSheet) 4 = .ok (.istore 6, 2) := by decide +kernel
theorem d_PB_mixedSheet_6 : decode (kB K_PB_mixedSheet) 6 = .ok (.iload 6, 2) := by decide +kernel
theorem d_PB_mixedSheet_8 : decode (kB K_PB_mixedSheet) 8 = .ok (.bipush 8, 2) := by decide +kernel
theorem d_PB_mixedSheet_10 : decode (kB K_PB_mixedSheet) 10 = .ok (.if_icmp .ge 26, 3) := by decide +kernel
theorem d_PB_mixedSheet_13 : decode (kB K_PB_mixedSheet) 13 = .ok (.lload 4, 2) := by decide +kernel
theorem d_PB_mixedSheet_15 : decode (kB K_PB_mixedSheet) 15 = .ok (.aload_n 0, 1) := by decide +kernel
theorem d_PB_mixedSheet_16 : decode (kB K_PB_mixedSheet) 16 = .ok (.getfield 58, 3) := by decide +kernel
theorem d_PB_mixedSheet_19 : decode (kB K_PB_mixedSheet) 19 = .ok (.iload_n 3, 1) := by decide +kernel
theorem d_PB_mixedSheet_20 : decode (kB K_PB_mixedSheet) 20 = .ok (.iload 6, 2) := by decide +kernel
theorem d_PB_mixedSheet_22 : decode (kB K_PB_mixedSheet) 22 = .ok (.invokevirtual 140, 3) := by decide +kernel
theorem d_PB_mixedSheet_25 : decode (kB K_PB_mixedSheet) 25 = .ok (.invokestatic 272, 3) := by decide +kernel
theorem d_PB_mixedSheet_28 : decode (kB K_PB_mixedSheet) 28 = .ok (.lstore 4, 2) := by decide +kernel
theorem d_PB_mixedSheet_30 : decode (kB K_PB_mixedSheet) 30 = .ok (.iinc 6 1, 3) := by decide +kernel
theorem d_PB_mixedSheet_33 : decode (kB K_PB_mixedSheet) 33 = .ok (.goto (-27), 3) := by decide +kernel
theorem d_PB_mixedSheet_36 : decode (kB K_PB_mixedSheet) 36 = .ok (.iconst 0, 1) := by decide +kernel
theorem d_PB_mixedSheet_37 : decode (kB K_PB_mixedSheet) 37 = .ok (.istore 6, 2) := by decide +kernel
theorem d_PB_mixedSheet_39 : decode (kB K_PB_mixedSheet) 39 = .ok (.iload 6, 2) := by decide +kernel
theorem d_PB_mixedSheet_41 : decode (kB K_PB_mixedSheet) 41 = .ok (.aload_n 0, 1) := by decide +kernel
theorem d_PB_mixedSheet_42 : decode (kB K_PB_mixedSheet) 42 = .ok (.getfield 23, 3) := by decide +kernel
theorem d_PB_mixedSheet_45 : decode (kB K_PB_mixedSheet) 45 = .ok (.getfield 250, 3) := by decide +kernel
theorem d_PB_mixedSheet_48 : decode (kB K_PB_mixedSheet) 48 = .ok (.if_icmp .ge 31, 3) := by decide +kernel
theorem d_PB_mixedSheet_51 : decode (kB K_PB_mixedSheet) 51 = .ok (.lload 4, 2) := by decide +kernel
theorem d_PB_mixedSheet_53 : decode (kB K_PB_mixedSheet) 53 = .ok (.aload_n 0, 1) := by decide +kernel
theorem d_PB_mixedSheet_54 : decode (kB K_PB_mixedSheet) 54 = .ok (.getfield 58, 3) := by decide +kernel
theorem d_PB_mixedSheet_57 : decode (kB K_PB_mixedSheet) 57 = .ok (.getfield 145, 3) := by decide +kernel
theorem d_PB_mixedSheet_60 : decode (kB K_PB_mixedSheet) 60 = .ok (.iload_n 3, 1) := by decide +kernel
theorem d_PB_mixedSheet_61 : decode (kB K_PB_mixedSheet) 61 = .ok (.aaload, 1) := by decide +kernel
theorem d_PB_mixedSheet_62 : decode (kB K_PB_mixedSheet) 62 = .ok (.getfield 149, 3) := by decide +kernel
theorem d_PB_mixedSheet_65 : decode (kB K_PB_mixedSheet) 65 = .ok (.iload 6, 2) := by decide +kernel
theorem d_PB_mixedSheet_67 : decode (kB K_PB_mixedSheet) 67 = .ok (.iaload, 1) := by decide +kernel
theorem d_PB_mixedSheet_68 : decode (kB K_PB_mixedSheet) 68 = .ok (.invokestatic 272, 3) := by decide +kernel
theorem d_PB_mixedSheet_71 : decode (kB K_PB_mixedSheet) 71 = .ok (.lstore 4, 2) := by decide +kernel
theorem d_PB_mixedSheet_73 : decode (kB K_PB_mixedSheet) 73 = .ok (.iinc 6 1, 3) := by decide +kernel
theorem d_PB_mixedSheet_76 : decode (kB K_PB_mixedSheet) 76 = .ok (.goto (-37), 3) := by decide +kernel
theorem d_PB_mixedSheet_79 : decode (kB K_PB_mixedSheet) 79 = .ok (.lload 4, 2) := by decide +kernel
theorem d_PB_mixedSheet_81 : decode (kB K_PB_mixedSheet) 81 = .ok (.lreturn, 1) := by decide +kernel
def K_SI_init : KM := (⟨"ParishBoardsLaw$Sim", "<init>", "()V"⟩, prog_15_method_1_code, 1, none, "ParishBoardsLaw$Sim", ([], []))
theorem d_SI_init_0 : decode (kB K_SI_init) 0 = .ok (.aload_n 0, 1) := by decide +kernel
theorem d_SI_init_1 : decode (kB K_SI_init) 1 = .ok (.invokespecial 1, 3) := by decide +kernel
theorem d_SI_init_4 : decode (kB K_SI_init) 4 = .ok (.aload_n 0, 1) := by decide +kernel
theorem d_SI_init_5 : decode (kB K_SI_init) 5 = .ok (.iconst 0, 1) := by decide +kernel
theorem d_SI_init_6 : decode (kB K_SI_init) 6 = .ok (.anewarray 7, 3) := by decide +kernel
theorem d_SI_init_9 : decode (kB K_SI_init) 9 = .ok (.putfield 9, 3) := by decide +kernel
theorem d_SI_init_12 : decode (kB K_SI_init) 12 = .ok (.aload_n 0, 1) := by decide +kernel
theorem d_SI_init_13 : decode (kB K_SI_init) 13 = .ok (.bipush 60, 2) := by decide +kernel
theorem d_SI_init_15 : decode (kB K_SI_init) 15 = .ok (.anewarray 15, 3) := by decide +kernel
theorem d_SI_init_18 : decode (kB K_SI_init) 18 = .ok (.putfield 17, 3) := by decide +kernel
theorem d_SI_init_21 : decode (kB K_SI_init) 21 = .ok (.aload_n 0, 1) := by decide +kernel
theorem d_SI_init_22 : decode (kB K_SI_init) 22 = .ok (.iconst 0, 1) := by decide +kernel
theorem d_SI_init_23 : decode (kB K_SI_init) 23 = .ok (.anewarray 7, 3) := by decide +kernel
theorem d_SI_init_26 : decode (kB K_SI_init) 26 = .ok (.putfield 21, 3) := by decide +kernel
theorem d_SI_init_29 : decode (kB K_SI_init) 29 = .ok (.aload_n 0, 1) := by decide +kernel
theorem d_SI_init_30 : decode (kB K_SI_init) 30 = .ok (.iconst 0, 1) := by decide +kernel
theorem d_SI_init_31 : decode (kB K_SI_init) 31 = .ok (.anewarray 7, 3) := by decide +kernel
theorem d_SI_init_34 : decode (kB K_SI_init) 34 = .ok (.putfield 24, 3) := by decide +kernel
theorem d_SI_init_37 : decode (kB K_SI_init) 37 = .ok (.aload_n 0, 1) := by decide +kernel
theorem d_SI_init_38 : decode (kB K_SI_init) 38 = .ok (.iconst 0, 1) := by decide +kernel
theorem d_SI_init_39 : decode (kB K_SI_init) 39 = .ok (.anewarray 7, 3) := by decide +kernel
theorem d_SI_init_42 : decode (kB K_SI_init) 42 = .ok (.putfield 27, 3) := by decide +kernel
theorem d_SI_init_45 : decode (kB K_SI_init) 45 = .ok (.return_, 1) := by decide +kernel
def K_SI_with : KM := (⟨"ParishBoardsLaw$Sim", "with", "([[I[I)[[I"⟩, prog_15_method_2_code, 4, (some (.array (.array (.int)))), "ParishBoardsLaw$Sim", ([], []))
theorem d_SI_with_0 : decode (kB K_SI_with) 0 = .ok (.aload_n 0, 1) := by decide +kernel
theorem d_SI_with_1 : decode (kB K_SI_with) 1 = .ok (.arraylength, 1) := by decide +kernel
theorem d_SI_with_2 : decode (kB K_SI_with) 2 = .ok (.iconst 1, 1) := by decide +kernel
theorem d_SI_with_3 : decode (kB K_SI_with) 3 = .ok (.iadd, 1) := by decide +kernel
theorem d_SI_with_4 : decode (kB K_SI_with) 4 = .ok (.anewarray 7, 3) := by decide +kernel
theorem d_SI_with_7 : decode (kB K_SI_with) 7 = .ok (.astore_n 2, 1) := by decide +kernel
theorem d_SI_with_8 : decode (kB K_SI_with) 8 = .ok (.iconst 0, 1) := by decide +kernel
theorem d_SI_with_9 : decode (kB K_SI_with) 9 = .ok (.istore_n 3, 1) := by decide +kernel
theorem d_SI_with_10 : decode (kB K_SI_with) 10 = .ok (.iload_n 3, 1) := by decide +kernel
theorem d_SI_with_11 : decode (kB K_SI_with) 11 = .ok (.aload_n 0, 1) := by decide +kernel
theorem d_SI_with_12 : decode (kB K_SI_with) 12 = .ok (.arraylength, 1) := by decide +kernel
theorem d_SI_with_13 : decode (kB K_SI_with) 13 = .ok (.if_icmp .ge 15, 3) := by decide +kernel
theorem d_SI_with_16 : decode (kB K_SI_with) 16 = .ok (.aload_n 2, 1) := by decide +kernel
theorem d_SI_with_17 : decode (kB K_SI_with) 17 = .ok (.iload_n 3, 1) := by decide +kernel
theorem d_SI_with_18 : decode (kB K_SI_with) 18 = .ok (.aload_n 0, 1) := by decide +kernel
theorem d_SI_with_19 : decode (kB K_SI_with) 19 = .ok (.iload_n 3, 1) := by decide +kernel
theorem d_SI_with_20 : decode (kB K_SI_with) 20 = .ok (.aaload, 1) := by decide +kernel
theorem d_SI_with_21 : decode (kB K_SI_with) 21 = .ok (.aastore, 1) := by decide +kernel
theorem d_SI_with_22 : decode (kB K_SI_with) 22 = .ok (.iinc 3 1, 3) := by decide +kernel
theorem d_SI_with_25 : decode (kB K_SI_with) 25 = .ok (.goto (-15), 3) := by decide +kernel
theorem d_SI_with_28 : decode (kB K_SI_with) 28 = .ok (.aload_n 2, 1) := by decide +kernel
theorem d_SI_with_29 : decode (kB K_SI_with) 29 = .ok (.aload_n 0, 1) := by decide +kernel
theorem d_SI_with_30 : decode (kB K_SI_with) 30 = .ok (.arraylength, 1) := by decide +kernel
theorem d_SI_with_31 : decode (kB K_SI_with) 31 = .ok (.aload_n 1, 1) := by decide +kernel
theorem d_SI_with_32 : decode (kB K_SI_with) 32 = .ok (.aastore, 1) := by decide +kernel
theorem d_SI_with_33 : decode (kB K_SI_with) 33 = .ok (.aload_n 2, 1) := by decide +kernel
theorem d_SI_with_34 : decode (kB K_SI_with) 34 = .ok (.areturn, 1) := by decide +kernel
def K_SI_begin : KM := (⟨"ParishBoardsLaw$Sim", "begin", "(II)V"⟩, prog_15_method_3_code, 3, none, "ParishBoardsLaw$Sim", ([], []))
theorem d_SI_begin_0 : decode (kB K_SI_begin) 0 = .ok (.aload_n 0, 1) := by decide +kernel
theorem d_SI_begin_1 : decode (kB K_SI_begin) 1 = .ok (.iload_n 1, 1) := by decide +kernel
theorem d_SI_begin_2 : decode (kB K_SI_begin) 2 = .ok (.putfield 30, 3) := by decide +kernel
theorem d_SI_begin_5 : decode (kB K_SI_begin) 5 = .ok (.aload_n 0, 1) := by decide +kernel
theorem d_SI_begin_6 : decode (kB K_SI_begin) 6 = .ok (.iload_n 2, 1) := by decide +kernel
theorem d_SI_begin_7 : decode (kB K_SI_begin) 7 = .ok (.putfield 34, 3) := by decide +kernel
theorem d_SI_begin_10 : decode (kB K_SI_begin) 10 = .ok (.aload_n 0, 1) := by decide +kernel
theorem d_SI_begin_11 : decode (kB K_SI_begin) 11 = .ok (.iload_n 1, 1) := by decide +kernel
theorem d_SI_begin_12 : decode (kB K_SI_begin) 12 = .ok (.bipush 60, 2) := by decide +kernel
theorem d_SI_begin_14 : decode (kB K_SI_begin) 14 = .ok (.multianewarray 37 2, 4) := by decide +kernel
theorem d_SI_begin_18 : decode (kB K_SI_begin) 18 = .ok (.putfield 38, 3) := by decide +kernel
theorem d_SI_begin_21 : decode (kB K_SI_begin) 21 = .ok (.aload_n 0, 1) := by decide +kernel
theorem d_SI_begin_22 : decode (kB K_SI_begin) 22 = .ok (.iload_n 1, 1) := by decide +kernel
theorem d_SI_begin_23 : decode (kB K_SI_begin) 23 = .ok (.bipush 60, 2) := by decide +kernel
theorem d_SI_begin_25 : decode (kB K_SI_begin) 25 = .ok (.multianewarray 37 2, 4) := by decide +kernel
theorem d_SI_begin_29 : decode (kB K_SI_begin) 29 = .ok (.putfield 41, 3) := by decide +kernel
theorem d_SI_begin_32 : decode (kB K_SI_begin) 32 = .ok (.aload_n 0, 1) := by decide +kernel
theorem d_SI_begin_33 : decode (kB K_SI_begin) 33 = .ok (.iload_n 1, 1) := by decide +kernel
theorem d_SI_begin_34 : decode (kB K_SI_begin) 34 = .ok (.bipush 60, 2) := by decide +kernel
theorem d_SI_begin_36 : decode (kB K_SI_begin) 36 = .ok (.multianewarray 37 2, 4) := by decide +kernel
theorem d_SI_begin_40 : decode (kB K_SI_begin) 40 = .ok (.putfield 44, 3) := by decide +kernel
theorem d_SI_begin_43 : decode (kB K_SI_begin) 43 = .ok (.return_, 1) := by decide +kernel
def K_SI_many : KM := (⟨"ParishBoardsLaw$Sim", "many", "([Z)I"⟩, prog_15_method_6_code, 6, (some (.int)), "ParishBoardsLaw$Sim", ([], []))
theorem d_SI_many_0 : decode (kB K_SI_many) 0 = .ok (.iconst 0, 1) := by decide +kernel
theorem d_SI_many_1 : decode (kB K_SI_many) 1 = .ok (.istore_n 1, 1) := by decide +kernel
theorem d_SI_many_2 : decode (kB K_SI_many) 2 = .ok (.aload_n 0, 1) := by decide +kernel
theorem d_SI_many_3 : decode (kB K_SI_many) 3 = .ok (.astore_n 2, 1) := by decide +kernel
theorem d_SI_many_4 : decode (kB K_SI_many) 4 = .ok (.aload_n 2, 1) := by decide +kernel
theorem d_SI_many_5 : decode (kB K_SI_many) 5 = .ok (.arraylength, 1) := by decide +kernel
theorem d_SI_many_6 : decode (kB K_SI_many) 6 = .ok (.istore_n 3, 1) := by decide +kernel
theorem d_SI_many_7 : decode (kB K_SI_many) 7 = .ok (.iconst 0, 1) := by decide +kernel
theorem d_SI_many_8 : decode (kB K_SI_many) 8 = .ok (.istore 4, 2) := by decide +kernel
theorem d_SI_many_10 : decode (kB K_SI_many) 10 = .ok (.iload 4, 2) := by decide +kernel
theorem d_SI_many_12 : decode (kB K_SI_many) 12 = .ok (.iload_n 3, 1) := by decide +kernel
theorem d_SI_many_13 : decode (kB K_SI_many) 13 = .ok (.if_icmp .ge 28, 3) := by decide +kernel
theorem d_SI_many_16 : decode (kB K_SI_many) 16 = .ok (.aload_n 2, 1) := by decide +kernel
theorem d_SI_many_17 : decode (kB K_SI_many) 17 = .ok (.iload 4, 2) := by decide +kernel
theorem d_SI_many_19 : decode (kB K_SI_many) 19 = .ok (.baload, 1) := by decide +kernel
theorem d_SI_many_20 : decode (kB K_SI_many) 20 = .ok (.istore 5, 2) := by decide +kernel
theorem d_SI_many_22 : decode (kB K_SI_many) 22 = .ok (.iload_n 1, 1) := by decide +kernel
theorem d_SI_many_23 : decode (kB K_SI_many) 23 = .ok (.iload 5, 2) := by decide +kernel
theorem d_SI_many_25 : decode (kB K_SI_many) 25 = .ok (.ifCond .eq 7, 3) := by decide +kernel
theorem d_SI_many_28 : decode (kB K_SI_many) 28 = .ok (.iconst 1, 1) := by decide +kernel
theorem d_SI_many_29 : decode (kB K_SI_many) 29 = .ok (.goto 4, 3) := by decide +kernel
theorem d_SI_many_32 : decode (kB K_SI_many) 32 = .ok (.iconst 0, 1) := by decide +kernel
theorem d_SI_many_33 : decode (kB K_SI_many) 33 = .ok (.iadd, 1) := by decide +kernel
theorem d_SI_many_34 : decode (kB K_SI_many) 34 = .ok (.istore_n 1, 1) := by decide +kernel
theorem d_SI_many_35 : decode (kB K_SI_many) 35 = .ok (.iinc 4 1, 3) := by decide +kernel
theorem d_SI_many_38 : decode (kB K_SI_many) 38 = .ok (.goto (-28), 3) := by decide +kernel
theorem d_SI_many_41 : decode (kB K_SI_many) 41 = .ok (.iload_n 1, 1) := by decide +kernel
theorem d_SI_many_42 : decode (kB K_SI_many) 42 = .ok (.ireturn, 1) := by decide +kernel
def K_SI_of : KM := (⟨"ParishBoardsLaw$Sim", "of", "([ZI)I"⟩, prog_15_method_7_code, 5, (some (.int)), "ParishBoardsLaw$Sim", ([], []))
theorem d_SI_of_0 : decode (kB K_SI_of) 0 = .ok (.iconst 0, 1) := by decide +kernel
theorem d_SI_of_1 : decode (kB K_SI_of) 1 = .ok (.istore_n 3, 1) := by decide +kernel
theorem d_SI_of_2 : decode (kB K_SI_of) 2 = .ok (.iconst 0, 1) := by decide +kernel
theorem d_SI_of_3 : decode (kB K_SI_of) 3 = .ok (.istore 4, 2) := by decide +kernel
theorem d_SI_of_5 : decode (kB K_SI_of) 5 = .ok (.iload 4, 2) := by decide +kernel
theorem d_SI_of_7 : decode (kB K_SI_of) 7 = .ok (.aload_n 0, 1) := by decide +kernel
theorem d_SI_of_8 : decode (kB K_SI_of) 8 = .ok (.getfield 9, 3) := by decide +kernel
theorem d_SI_of_11 : decode (kB K_SI_of) 11 = .ok (.arraylength, 1) := by decide +kernel
theorem d_SI_of_12 : decode (kB K_SI_of) 12 = .ok (.if_icmp .ge 37, 3) := by decide +kernel
theorem d_SI_of_15 : decode (kB K_SI_of) 15 = .ok (.iload_n 3, 1) := by decide +kernel
theorem d_SI_of_16 : decode (kB K_SI_of) 16 = .ok (.aload_n 1, 1) := by decide +kernel
theorem d_SI_of_17 : decode (kB K_SI_of) 17 = .ok (.iload 4, 2) := by decide +kernel
theorem d_SI_of_19 : decode (kB K_SI_of) 19 = .ok (.baload, 1) := by decide +kernel
theorem d_SI_of_20 : decode (kB K_SI_of) 20 = .ok (.ifCond .eq 20, 3) := by decide +kernel
theorem d_SI_of_23 : decode (kB K_SI_of) 23 = .ok (.aload_n 0, 1) := by decide +kernel
theorem d_SI_of_24 : decode (kB K_SI_of) 24 = .ok (.getfield 9, 3) := by decide +kernel
theorem d_SI_of_27 : decode (kB K_SI_of) 27 = .ok (.iload 4, 2) := by decide +kernel
theorem d_SI_of_29 : decode (kB K_SI_of) 29 = .ok (.aaload, 1) := by decide +kernel
theorem d_SI_of_30 : decode (kB K_SI_of) 30 = .ok (.iconst 0, 1) := by decide +kernel
theorem d_SI_of_31 : decode (kB K_SI_of) 31 = .ok (.iaload, 1) := by decide +kernel
theorem d_SI_of_32 : decode (kB K_SI_of) 32 = .ok (.iload_n 2, 1) := by decide +kernel
theorem d_SI_of_33 : decode (kB K_SI_of) 33 = .ok (.if_icmp .ne 7, 3) := by decide +kernel
theorem d_SI_of_36 : decode (kB K_SI_of) 36 = .ok (.iconst 1, 1) := by decide +kernel
theorem d_SI_of_37 : decode (kB K_SI_of) 37 = .ok (.goto 4, 3) := by decide +kernel
theorem d_SI_of_40 : decode (kB K_SI_of) 40 = .ok (.iconst 0, 1) := by decide +kernel
theorem d_SI_of_41 : decode (kB K_SI_of) 41 = .ok (.iadd, 1) := by decide +kernel
theorem d_SI_of_42 : decode (kB K_SI_of) 42 = .ok (.istore_n 3, 1) := by decide +kernel
theorem d_SI_of_43 : decode (kB K_SI_of) 43 = .ok (.iinc 4 1, 3) := by decide +kernel
theorem d_SI_of_46 : decode (kB K_SI_of) 46 = .ok (.goto (-41), 3) := by decide +kernel
theorem d_SI_of_49 : decode (kB K_SI_of) 49 = .ok (.iload_n 3, 1) := by decide +kernel
theorem d_SI_of_50 : decode (kB K_SI_of) 50 = .ok (.ireturn, 1) := by decide +kernel
def K_SI_shows : KM := (⟨"ParishBoardsLaw$Sim", "shows", "(II)[I"⟩, prog_15_method_8_code, 7, (some (.array (.int))), "ParishBoardsLaw$Sim", ([], []))
theorem d_SI_shows_0 : decode (kB K_SI_shows) 0 = .ok (.iconst 0, 1) := by decide +kernel
theorem d_SI_shows_1 : decode (kB K_SI_shows) 1 = .ok (.istore_n 3, 1) := by decide +kernel
theorem d_SI_shows_2 : decode (kB K_SI_shows) 2 = .ok (.bipush 60, 2) := by decide +kernel
theorem d_SI_shows_4 : decode (kB K_SI_shows) 4 = .ok (.newarray .int, 2) := by decide +kernel
theorem d_SI_shows_6 : decode (kB K_SI_shows) 6 = .ok (.astore 4, 2) := by decide +kernel
theorem d_SI_shows_8 : decode (kB K_SI_shows) 8 = .ok (.iconst 0, 1) := by decide +kernel
theorem d_SI_shows_9 : decode (kB K_SI_shows) 9 = .ok (.istore 5, 2) := by decide +kernel
theorem d_SI_shows_11 : decode (kB K_SI_shows) 11 = .ok (.iload 5, 2) := by decide +kernel
theorem d_SI_shows_13 : decode (kB K_SI_shows) 13 = .ok (.aload_n 0, 1) := by decide +kernel
theorem d_SI_shows_14 : decode (kB K_SI_shows) 14 = .ok (.getfield 30, 3) := by decide +kernel
theorem d_SI_shows_17 : decode (kB K_SI_shows) 17 = .ok (.if_icmp .ge 79, 3) := by decide +kernel
theorem d_SI_shows_20 : decode (kB K_SI_shows) 20 = .ok (.iconst 0, 1) := by decide +kernel
theorem d_SI_shows_21 : decode (kB K_SI_shows) 21 = .ok (.istore 6, 2) := by decide +kernel
theorem d_SI_shows_23 : decode (kB K_SI_shows) 23 = .ok (.iload 6, 2) := by decide +kernel
theorem d_SI_shows_25 : decode (kB K_SI_shows) 25 = .ok (.aload_n 0, 1) := by decide +kernel
theorem d_SI_shows_26 : decode (kB K_SI_shows) 26 = .ok (.getfield 9, 3) := by decide +kernel
theorem d_SI_shows_29 : decode (kB K_SI_shows) 29 = .ok (.arraylength, 1) := by decide +kernel
theorem d_SI_shows_30 : decode (kB K_SI_shows) 30 = .ok (.if_icmp .ge 60, 3) := by decide +kernel
theorem d_SI_shows_33 : decode (kB K_SI_shows) 33 = .ok (.aload_n 0, 1) := by decide +kernel
theorem d_SI_shows_34 : decode (kB K_SI_shows) 34 = .ok (.getfield 41, 3) := by decide +kernel
theorem d_SI_shows_37 : decode (kB K_SI_shows) 37 = .ok (.iload_n 1, 1) := by decide +kernel
theorem d_SI_shows_38 : decode (kB K_SI_shows) 38 = .ok (.aaload, 1) := by decide +kernel
theorem d_SI_shows_39 : decode (kB K_SI_shows) 39 = .ok (.iload 6, 2) := by decide +kernel
theorem d_SI_shows_41 : decode (kB K_SI_shows) 41 = .ok (.baload, 1) := by decide +kernel
theorem d_SI_shows_42 : decode (kB K_SI_shows) 42 = .ok (.ifCond .eq 42, 3) := by decide +kernel
theorem d_SI_shows_45 : decode (kB K_SI_shows) 45 = .ok (.aload_n 0, 1) := by decide +kernel
theorem d_SI_shows_46 : decode (kB K_SI_shows) 46 = .ok (.getfield 9, 3) := by decide +kernel
theorem d_SI_shows_49 : decode (kB K_SI_shows) 49 = .ok (.iload 6, 2) := by decide +kernel
theorem d_SI_shows_51 : decode (kB K_SI_shows) 51 = .ok (.aaload, 1) := by decide +kernel
theorem d_SI_shows_52 : decode (kB K_SI_shows) 52 = .ok (.iconst 1, 1) := by decide +kernel
theorem d_SI_shows_53 : decode (kB K_SI_shows) 53 = .ok (.iaload, 1) := by decide +kernel
theorem d_SI_shows_54 : decode (kB K_SI_shows) 54 = .ok (.iload_n 2, 1) := by decide +kernel
theorem d_SI_shows_55 : decode (kB K_SI_shows) 55 = .ok (.if_icmp .ne 29, 3) := by decide +kernel
theorem d_SI_shows_58 : decode (kB K_SI_shows) 58 = .ok (.aload_n 0, 1) := by decide +kernel
theorem d_SI_shows_59 : decode (kB K_SI_shows) 59 = .ok (.getfield 9, 3) := by decide +kernel
theorem d_SI_shows_62 : decode (kB K_SI_shows) 62 = .ok (.iload 6, 2) := by decide +kernel
theorem d_SI_shows_64 : decode (kB K_SI_shows) 64 = .ok (.aaload, 1) := by decide +kernel
theorem d_SI_shows_65 : decode (kB K_SI_shows) 65 = .ok (.iconst 0, 1) := by decide +kernel
theorem d_SI_shows_66 : decode (kB K_SI_shows) 66 = .ok (.iaload, 1) := by decide +kernel
theorem d_SI_shows_67 : decode (kB K_SI_shows) 67 = .ok (.iload 5, 2) := by decide +kernel
theorem d_SI_shows_69 : decode (kB K_SI_shows) 69 = .ok (.if_icmp .eq 6, 3) := by decide +kernel
theorem d_SI_shows_72 : decode (kB K_SI_shows) 72 = .ok (.goto 12, 3) := by decide +kernel
theorem d_SI_shows_75 : decode (kB K_SI_shows) 75 = .ok (.aload 4, 2) := by decide +kernel
theorem d_SI_shows_77 : decode (kB K_SI_shows) 77 = .ok (.iload_n 3, 1) := by decide +kernel
theorem d_SI_shows_78 : decode (kB K_SI_shows) 78 = .ok (.iload 6, 2) := by decide +kernel
theorem d_SI_shows_80 : decode (kB K_SI_shows) 80 = .ok (.iastore, 1) := by decide +kernel
theorem d_SI_shows_81 : decode (kB K_SI_shows) 81 = .ok (.iinc 3 1, 3) := by decide +kernel
theorem d_SI_shows_84 : decode (kB K_SI_shows) 84 = .ok (.iinc 6 1, 3) := by decide +kernel
theorem d_SI_shows_87 : decode (kB K_SI_shows) 87 = .ok (.goto (-64), 3) := by decide +kernel
theorem d_SI_shows_90 : decode (kB K_SI_shows) 90 = .ok (.iinc 5 1, 3) := by decide +kernel
theorem d_SI_shows_93 : decode (kB K_SI_shows) 93 = .ok (.goto (-82), 3) := by decide +kernel
theorem d_SI_shows_96 : decode (kB K_SI_shows) 96 = .ok (.iload_n 3, 1) := by decide +kernel
theorem d_SI_shows_97 : decode (kB K_SI_shows) 97 = .ok (.newarray .int, 2) := by decide +kernel
theorem d_SI_shows_99 : decode (kB K_SI_shows) 99 = .ok (.astore 5, 2) := by decide +kernel
theorem d_SI_shows_101 : decode (kB K_SI_shows) 101 = .ok (.iconst 0, 1) := by decide +kernel
theorem d_SI_shows_102 : decode (kB K_SI_shows) 102 = .ok (.istore 6, 2) := by decide +kernel
theorem d_SI_shows_104 : decode (kB K_SI_shows) 104 = .ok (.iload 6, 2) := by decide +kernel
theorem d_SI_shows_106 : decode (kB K_SI_shows) 106 = .ok (.iload_n 3, 1) := by decide +kernel
theorem d_SI_shows_107 : decode (kB K_SI_shows) 107 = .ok (.if_icmp .ge 19, 3) := by decide +kernel
theorem d_SI_shows_110 : decode (kB K_SI_shows) 110 = .ok (.aload 5, 2) := by decide +kernel
theorem d_SI_shows_112 : decode (kB K_SI_shows) 112 = .ok (.iload 6, 2) := by decide +kernel
theorem d_SI_shows_114 : decode (kB K_SI_shows) 114 = .ok (.aload 4, 2) := by decide +kernel
theorem d_SI_shows_116 : decode (kB K_SI_shows) 116 = .ok (.iload 6, 2) := by decide +kernel
theorem d_SI_shows_118 : decode (kB K_SI_shows) 118 = .ok (.iaload, 1) := by decide +kernel
theorem d_SI_shows_119 : decode (kB K_SI_shows) 119 = .ok (.iastore, 1) := by decide +kernel
theorem d_SI_shows_120 : decode (kB K_SI_shows) 120 = .ok (.iinc 6 1, 3) := by decide +kernel
theorem d_SI_shows_123 : decode (kB K_SI_shows) 123 = .ok (.goto (-19), 3) := by decide +kernel
theorem d_SI_shows_126 : decode (kB K_SI_shows) 126 = .ok (.aload 5, 2) := by decide +kernel
theorem d_SI_shows_128 : decode (kB K_SI_shows) 128 = .ok (.areturn, 1) := by decide +kernel
def K_SI_marks : KM := (⟨"ParishBoardsLaw$Sim", "marks", "(II)I"⟩, prog_15_method_9_code, 8, (some (.int)), "ParishBoardsLaw$Sim", ([], []))
theorem d_SI_marks_0 : decode (kB K_SI_marks) 0 = .ok (.iconst 0, 1) := by decide +kernel
theorem d_SI_marks_1 : decode (kB K_SI_marks) 1 = .ok (.istore_n 3, 1) := by decide +kernel
theorem d_SI_marks_2 : decode (kB K_SI_marks) 2 = .ok (.aload_n 0, 1) := by decide +kernel
theorem d_SI_marks_3 : decode (kB K_SI_marks) 3 = .ok (.iload_n 1, 1) := by decide +kernel
theorem d_SI_marks_4 : decode (kB K_SI_marks) 4 = .ok (.iload_n 2, 1) := by decide +kernel
theorem d_SI_marks_5 : decode (kB K_SI_marks) 5 = .ok (.invokevirtual 72, 3) := by decide +kernel
theorem d_SI_marks_8 : decode (kB K_SI_marks) 8 = .ok (.astore 4, 2) := by decide +kernel
theorem d_SI_marks_10 : decode (kB K_SI_marks) 10 = .ok (.aload 4, 2) := by decide +kernel
theorem d_SI_marks_12 : decode (kB K_SI_marks) 12 = .ok (.arraylength, 1) := by decide +kernel
theorem d_SI_marks_13 : decode (kB K_SI_marks) 13 = .ok (.istore 5, 2) := by decide +kernel
theorem d_SI_marks_15 : decode (kB K_SI_marks) 15 = .ok (.iconst 0, 1) := by decide +kernel
theorem d_SI_marks_16 : decode (kB K_SI_marks) 16 = .ok (.istore 6, 2) := by decide +kernel
theorem d_SI_marks_18 : decode (kB K_SI_marks) 18 = .ok (.iload 6, 2) := by decide +kernel
theorem d_SI_marks_20 : decode (kB K_SI_marks) 20 = .ok (.iload 5, 2) := by decide +kernel
theorem d_SI_marks_22 : decode (kB K_SI_marks) 22 = .ok (.if_icmp .ge 28, 3) := by decide +kernel
theorem d_SI_marks_25 : decode (kB K_SI_marks) 25 = .ok (.aload 4, 2) := by decide +kernel
theorem d_SI_marks_27 : decode (kB K_SI_marks) 27 = .ok (.iload 6, 2) := by decide +kernel
theorem d_SI_marks_29 : decode (kB K_SI_marks) 29 = .ok (.iaload, 1) := by decide +kernel
theorem d_SI_marks_30 : decode (kB K_SI_marks) 30 = .ok (.istore 7, 2) := by decide +kernel
theorem d_SI_marks_32 : decode (kB K_SI_marks) 32 = .ok (.iload_n 3, 1) := by decide +kernel
theorem d_SI_marks_33 : decode (kB K_SI_marks) 33 = .ok (.aload_n 0, 1) := by decide +kernel
theorem d_SI_marks_34 : decode (kB K_SI_marks) 34 = .ok (.getfield 9, 3) := by decide +kernel
theorem d_SI_marks_37 : decode (kB K_SI_marks) 37 = .ok (.iload 7, 2) := by decide +kernel
theorem d_SI_marks_39 : decode (kB K_SI_marks) 39 = .ok (.aaload, 1) := by decide +kernel
theorem d_SI_marks_40 : decode (kB K_SI_marks) 40 = .ok (.iconst 3, 1) := by decide +kernel
theorem d_SI_marks_41 : decode (kB K_SI_marks) 41 = .ok (.iaload, 1) := by decide +kernel
theorem d_SI_marks_42 : decode (kB K_SI_marks) 42 = .ok (.ior, 1) := by decide +kernel
theorem d_SI_marks_43 : decode (kB K_SI_marks) 43 = .ok (.istore_n 3, 1) := by decide +kernel
theorem d_SI_marks_44 : decode (kB K_SI_marks) 44 = .ok (.iinc 6 1, 3) := by decide +kernel
theorem d_SI_marks_47 : decode (kB K_SI_marks) 47 = .ok (.goto (-29), 3) := by decide +kernel
theorem d_SI_marks_50 : decode (kB K_SI_marks) 50 = .ok (.iload_n 3, 1) := by decide +kernel
theorem d_SI_marks_51 : decode (kB K_SI_marks) 51 = .ok (.ireturn, 1) := by decide +kernel
def K_SI_make : KM := (⟨"ParishBoardsLaw$Sim", "make", "(IIIII)I"⟩, prog_15_method_10_code, 11, (some (.int)), "ParishBoardsLaw$Sim", ([], []))
theorem d_SI_make_0 : decode (kB K_SI_make) 0 = .ok (.aload_n 0, 1) := by decide +kernel
theorem d_SI_make_1 : decode (kB K_SI_make) 1 = .ok (.getfield 9, 3) := by decide +kernel
theorem d_SI_make_4 : decode (kB K_SI_make) 4 = .ok (.arraylength, 1) := by decide +kernel
theorem d_SI_make_5 : decode (kB K_SI_make) 5 = .ok (.istore 6, 2) := by decide +kernel
theorem d_SI_make_7 : decode (kB K_SI_make) 7 = .ok (.aload_n 0, 1) := by decide +kernel
theorem d_SI_make_8 : decode (kB K_SI_make) 8 = .ok (.iload_n 1, 1) := by decide +kernel
theorem d_SI_make_9 : decode (kB K_SI_make) 9 = .ok (.iload_n 2, 1) := by decide +kernel
theorem d_SI_make_10 : decode (kB K_SI_make) 10 = .ok (.invokevirtual 72, 3) := by decide +kernel
theorem d_SI_make_13 : decode (kB K_SI_make) 13 = .ok (.astore 7, 2) := by decide +kernel
theorem d_SI_make_15 : decode (kB K_SI_make) 15 = .ok (.aload 7, 2) := by decide +kernel
theorem d_SI_make_17 : decode (kB K_SI_make) 17 = .ok (.arraylength, 1) := by decide +kernel
theorem d_SI_make_18 : decode (kB K_SI_make) 18 = .ok (.istore 8, 2) := by decide +kernel
theorem d_SI_make_20 : decode (kB K_SI_make) 20 = .ok (.iconst 0, 1) := by decide +kernel
theorem d_SI_make_21 : decode (kB K_SI_make) 21 = .ok (.istore 9, 2) := by decide +kernel
theorem d_SI_make_23 : decode (kB K_SI_make) 23 = .ok (.iload 9, 2) := by decide +kernel
theorem d_SI_make_25 : decode (kB K_SI_make) 25 = .ok (.iload 8, 2) := by decide +kernel
theorem d_SI_make_27 : decode (kB K_SI_make) 27 = .ok (.if_icmp .ge 26, 3) := by decide +kernel
theorem d_SI_make_30 : decode (kB K_SI_make) 30 = .ok (.aload 7, 2) := by decide +kernel
theorem d_SI_make_32 : decode (kB K_SI_make) 32 = .ok (.iload 9, 2) := by decide +kernel
theorem d_SI_make_34 : decode (kB K_SI_make) 34 = .ok (.iaload, 1) := by decide +kernel
theorem d_SI_make_35 : decode (kB K_SI_make) 35 = .ok (.istore 10, 2) := by decide +kernel
theorem d_SI_make_37 : decode (kB K_SI_make) 37 = .ok (.aload_n 0, 1) := by decide +kernel
theorem d_SI_make_38 : decode (kB K_SI_make) 38 = .ok (.getfield 41, 3) := by decide +kernel
theorem d_SI_make_41 : decode (kB K_SI_make) 41 = .ok (.iload_n 1, 1) := by decide +kernel
theorem d_SI_make_42 : decode (kB K_SI_make) 42 = .ok (.aaload, 1) := by decide +kernel
theorem d_SI_make_43 : decode (kB K_SI_make) 43 = .ok (.iload 10, 2) := by decide +kernel
theorem d_SI_make_45 : decode (kB K_SI_make) 45 = .ok (.iconst 0, 1) := by decide +kernel
theorem d_SI_make_46 : decode (kB K_SI_make) 46 = .ok (.bastore, 1) := by decide +kernel
theorem d_SI_make_47 : decode (kB K_SI_make) 47 = .ok (.iinc 9 1, 3) := by decide +kernel
theorem d_SI_make_50 : decode (kB K_SI_make) 50 = .ok (.goto (-27), 3) := by decide +kernel
theorem d_SI_make_53 : decode (kB K_SI_make) 53 = .ok (.aload_n 0, 1) := by decide +kernel
theorem d_SI_make_54 : decode (kB K_SI_make) 54 = .ok (.aload_n 0, 1) := by decide +kernel
theorem d_SI_make_55 : decode (kB K_SI_make) 55 = .ok (.getfield 9, 3) := by decide +kernel
theorem d_SI_make_58 : decode (kB K_SI_make) 58 = .ok (.bipush 6, 2) := by decide +kernel
theorem d_SI_make_60 : decode (kB K_SI_make) 60 = .ok (.newarray .int, 2) := by decide +kernel
theorem d_SI_make_62 : decode (kB K_SI_make) 62 = .ok (.dup, 1) := by decide +kernel
theorem d_SI_make_63 : decode (kB K_SI_make) 63 = .ok (.iconst 0, 1) := by decide +kernel
theorem d_SI_make_64 : decode (kB K_SI_make) 64 = .ok (.iload_n 1, 1) := by decide +kernel
theorem d_SI_make_65 : decode (kB K_SI_make) 65 = .ok (.iastore, 1) := by decide +kernel
theorem d_SI_make_66 : decode (kB K_SI_make) 66 = .ok (.dup, 1) := by decide +kernel
theorem d_SI_make_67 : decode (kB K_SI_make) 67 = .ok (.iconst 1, 1) := by decide +kernel
theorem d_SI_make_68 : decode (kB K_SI_make) 68 = .ok (.iload_n 2, 1) := by decide +kernel
theorem d_SI_make_69 : decode (kB K_SI_make) 69 = .ok (.iastore, 1) := by decide +kernel
theorem d_SI_make_70 : decode (kB K_SI_make) 70 = .ok (.dup, 1) := by decide +kernel
theorem d_SI_make_71 : decode (kB K_SI_make) 71 = .ok (.iconst 2, 1) := by decide +kernel
theorem d_SI_make_72 : decode (kB K_SI_make) 72 = .ok (.iload_n 3, 1) := by decide +kernel
theorem d_SI_make_73 : decode (kB K_SI_make) 73 = .ok (.iastore, 1) := by decide +kernel
theorem d_SI_make_74 : decode (kB K_SI_make) 74 = .ok (.dup, 1) := by decide +kernel
theorem d_SI_make_75 : decode (kB K_SI_make) 75 = .ok (.iconst 3, 1) := by decide +kernel
theorem d_SI_make_76 : decode (kB K_SI_make) 76 = .ok (.iload 4, 2) := by decide +kernel
theorem d_SI_make_78 : decode (kB K_SI_make) 78 = .ok (.iastore, 1) := by decide +kernel
theorem d_SI_make_79 : decode (kB K_SI_make) 79 = .ok (.dup, 1) := by decide +kernel
theorem d_SI_make_80 : decode (kB K_SI_make) 80 = .ok (.iconst 4, 1) := by decide +kernel
theorem d_SI_make_81 : decode (kB K_SI_make) 81 = .ok (.aload_n 0, 1) := by decide +kernel
theorem d_SI_make_82 : decode (kB K_SI_make) 82 = .ok (.getfield 52, 3) := by decide +kernel
theorem d_SI_make_85 : decode (kB K_SI_make) 85 = .ok (.iastore, 1) := by decide +kernel
theorem d_SI_make_86 : decode (kB K_SI_make) 86 = .ok (.dup, 1) := by decide +kernel
theorem d_SI_make_87 : decode (kB K_SI_make) 87 = .ok (.iconst 5, 1) := by decide +kernel
theorem d_SI_make_88 : decode (kB K_SI_make) 88 = .ok (.iload 5, 2) := by decide +kernel
theorem d_SI_make_90 : decode (kB K_SI_make) 90 = .ok (.iastore, 1) := by decide +kernel
theorem d_SI_make_91 : decode (kB K_SI_make) 91 = .ok (.invokestatic 76, 3) := by decide +kernel
theorem d_SI_make_94 : decode (kB K_SI_make) 94 = .ok (.putfield 9, 3) := by decide +kernel
theorem d_SI_make_97 : decode (kB K_SI_make) 97 = .ok (.aload_n 0, 1) := by decide +kernel
theorem d_SI_make_98 : decode (kB K_SI_make) 98 = .ok (.getfield 38, 3) := by decide +kernel
theorem d_SI_make_101 : decode (kB K_SI_make) 101 = .ok (.iload_n 1, 1) := by decide +kernel
theorem d_SI_make_102 : decode (kB K_SI_make) 102 = .ok (.aaload, 1) := by decide +kernel
theorem d_SI_make_103 : decode (kB K_SI_make) 103 = .ok (.iload 6, 2) := by decide +kernel
theorem d_SI_make_105 : decode (kB K_SI_make) 105 = .ok (.iconst 1, 1) := by decide +kernel
theorem d_SI_make_106 : decode (kB K_SI_make) 106 = .ok (.bastore, 1) := by decide +kernel
theorem d_SI_make_107 : decode (kB K_SI_make) 107 = .ok (.aload_n 0, 1) := by decide +kernel
theorem d_SI_make_108 : decode (kB K_SI_make) 108 = .ok (.getfield 41, 3) := by decide +kernel
theorem d_SI_make_111 : decode (kB K_SI_make) 111 = .ok (.iload_n 1, 1) := by decide +kernel
theorem d_SI_make_112 : decode (kB K_SI_make) 112 = .ok (.aaload, 1) := by decide +kernel
theorem d_SI_make_113 : decode (kB K_SI_make) 113 = .ok (.iload 6, 2) := by decide +kernel
theorem d_SI_make_115 : decode (kB K_SI_make) 115 = .ok (.iconst 1, 1) := by decide +kernel
theorem d_SI_make_116 : decode (kB K_SI_make) 116 = .ok (.bastore, 1) := by decide +kernel
theorem d_SI_make_117 : decode (kB K_SI_make) 117 = .ok (.aload_n 0, 1) := by decide +kernel
theorem d_SI_make_118 : decode (kB K_SI_make) 118 = .ok (.getfield 17, 3) := by decide +kernel
theorem d_SI_make_121 : decode (kB K_SI_make) 121 = .ok (.iload 6, 2) := by decide +kernel
theorem d_SI_make_123 : decode (kB K_SI_make) 123 = .ok (.aload_n 0, 1) := by decide +kernel
theorem d_SI_make_124 : decode (kB K_SI_make) 124 = .ok (.getfield 38, 3) := by decide +kernel
theorem d_SI_make_127 : decode (kB K_SI_make) 127 = .ok (.iload_n 1, 1) := by decide +kernel
theorem d_SI_make_128 : decode (kB K_SI_make) 128 = .ok (.aaload, 1) := by decide +kernel
theorem d_SI_make_129 : decode (kB K_SI_make) 129 = .ok (.invokevirtual 47, 3) := by decide +kernel
theorem d_SI_make_132 : decode (kB K_SI_make) 132 = .ok (.checkcast 15, 3) := by decide +kernel
theorem d_SI_make_135 : decode (kB K_SI_make) 135 = .ok (.aastore, 1) := by decide +kernel
theorem d_SI_make_136 : decode (kB K_SI_make) 136 = .ok (.aload_n 0, 1) := by decide +kernel
theorem d_SI_make_137 : decode (kB K_SI_make) 137 = .ok (.dup, 1) := by decide +kernel
theorem d_SI_make_138 : decode (kB K_SI_make) 138 = .ok (.getfield 58, 3) := by decide +kernel
theorem d_SI_make_141 : decode (kB K_SI_make) 141 = .ok (.iload 5, 2) := by decide +kernel
theorem d_SI_make_143 : decode (kB K_SI_make) 143 = .ok (.iconst 2, 1) := by decide +kernel
theorem d_SI_make_144 : decode (kB K_SI_make) 144 = .ok (.if_icmp .ne 7, 3) := by decide +kernel
theorem d_SI_make_147 : decode (kB K_SI_make) 147 = .ok (.iconst 1, 1) := by decide +kernel
theorem d_SI_make_148 : decode (kB K_SI_make) 148 = .ok (.goto 4, 3) := by decide +kernel
theorem d_SI_make_151 : decode (kB K_SI_make) 151 = .ok (.iconst 0, 1) := by decide +kernel
theorem d_SI_make_152 : decode (kB K_SI_make) 152 = .ok (.iadd, 1) := by decide +kernel
theorem d_SI_make_153 : decode (kB K_SI_make) 153 = .ok (.putfield 58, 3) := by decide +kernel
theorem d_SI_make_156 : decode (kB K_SI_make) 156 = .ok (.iload 6, 2) := by decide +kernel
theorem d_SI_make_158 : decode (kB K_SI_make) 158 = .ok (.ireturn, 1) := by decide +kernel
def K_SI_merge : KM := (⟨"ParishBoardsLaw$Sim", "merge", "(III)I"⟩, prog_15_method_11_code, 8, (some (.int)), "ParishBoardsLaw$Sim", ([], []))
theorem d_SI_merge_0 : decode (kB K_SI_merge) 0 = .ok (.aload_n 0, 1) := by decide +kernel
theorem d_SI_merge_1 : decode (kB K_SI_merge) 1 = .ok (.iload_n 1, 1) := by decide +kernel
theorem d_SI_merge_2 : decode (kB K_SI_merge) 2 = .ok (.iload_n 2, 1) := by decide +kernel
theorem d_SI_merge_3 : decode (kB K_SI_merge) 3 = .ok (.invokevirtual 72, 3) := by decide +kernel
theorem d_SI_merge_6 : decode (kB K_SI_merge) 6 = .ok (.astore 4, 2) := by decide +kernel
theorem d_SI_merge_8 : decode (kB K_SI_merge) 8 = .ok (.aload 4, 2) := by decide +kernel
theorem d_SI_merge_10 : decode (kB K_SI_merge) 10 = .ok (.arraylength, 1) := by decide +kernel
theorem d_SI_merge_11 : decode (kB K_SI_merge) 11 = .ok (.iconst 2, 1) := by decide +kernel
theorem d_SI_merge_12 : decode (kB K_SI_merge) 12 = .ok (.if_icmp .lt 13, 3) := by decide +kernel
theorem d_SI_merge_15 : decode (kB K_SI_merge) 15 = .ok (.aload_n 0, 1) := by decide +kernel
theorem d_SI_merge_16 : decode (kB K_SI_merge) 16 = .ok (.getfield 9, 3) := by decide +kernel
theorem d_SI_merge_19 : decode (kB K_SI_merge) 19 = .ok (.arraylength, 1) := by decide +kernel
theorem d_SI_merge_20 : decode (kB K_SI_merge) 20 = .ok (.bipush 60, 2) := by decide +kernel
theorem d_SI_merge_22 : decode (kB K_SI_merge) 22 = .ok (.if_icmp .ne 5, 3) := by decide +kernel
theorem d_SI_merge_25 : decode (kB K_SI_merge) 25 = .ok (.iconst (-1), 1) := by decide +kernel
theorem d_SI_merge_26 : decode (kB K_SI_merge) 26 = .ok (.ireturn, 1) := by decide +kernel
theorem d_SI_merge_27 : decode (kB K_SI_merge) 27 = .ok (.aload_n 0, 1) := by decide +kernel
theorem d_SI_merge_28 : decode (kB K_SI_merge) 28 = .ok (.getfield 9, 3) := by decide +kernel
theorem d_SI_merge_31 : decode (kB K_SI_merge) 31 = .ok (.aload 4, 2) := by decide +kernel
theorem d_SI_merge_33 : decode (kB K_SI_merge) 33 = .ok (.iconst 0, 1) := by decide +kernel
theorem d_SI_merge_34 : decode (kB K_SI_merge) 34 = .ok (.iaload, 1) := by decide +kernel
theorem d_SI_merge_35 : decode (kB K_SI_merge) 35 = .ok (.aaload, 1) := by decide +kernel
theorem d_SI_merge_36 : decode (kB K_SI_merge) 36 = .ok (.iconst 2, 1) := by decide +kernel
theorem d_SI_merge_37 : decode (kB K_SI_merge) 37 = .ok (.iaload, 1) := by decide +kernel
theorem d_SI_merge_38 : decode (kB K_SI_merge) 38 = .ok (.istore 5, 2) := by decide +kernel
theorem d_SI_merge_40 : decode (kB K_SI_merge) 40 = .ok (.iconst 1, 1) := by decide +kernel
theorem d_SI_merge_41 : decode (kB K_SI_merge) 41 = .ok (.istore 6, 2) := by decide +kernel
theorem d_SI_merge_43 : decode (kB K_SI_merge) 43 = .ok (.iload 6, 2) := by decide +kernel
theorem d_SI_merge_45 : decode (kB K_SI_merge) 45 = .ok (.aload 4, 2) := by decide +kernel
theorem d_SI_merge_47 : decode (kB K_SI_merge) 47 = .ok (.arraylength, 1) := by decide +kernel
theorem d_SI_merge_48 : decode (kB K_SI_merge) 48 = .ok (.if_icmp .ge 59, 3) := by decide +kernel
theorem d_SI_merge_51 : decode (kB K_SI_merge) 51 = .ok (.aload_n 0, 1) := by decide +kernel
theorem d_SI_merge_52 : decode (kB K_SI_merge) 52 = .ok (.getfield 9, 3) := by decide +kernel
theorem d_SI_merge_55 : decode (kB K_SI_merge) 55 = .ok (.aload 4, 2) := by decide +kernel
theorem d_SI_merge_57 : decode (kB K_SI_merge) 57 = .ok (.iload 6, 2) := by decide +kernel
theorem d_SI_merge_59 : decode (kB K_SI_merge) 59 = .ok (.iaload, 1) := by decide +kernel
theorem d_SI_merge_60 : decode (kB K_SI_merge) 60 = .ok (.aaload, 1) := by decide +kernel
theorem d_SI_merge_61 : decode (kB K_SI_merge) 61 = .ok (.iconst 2, 1) := by decide +kernel
theorem d_SI_merge_62 : decode (kB K_SI_merge) 62 = .ok (.iaload, 1) := by decide +kernel
theorem d_SI_merge_63 : decode (kB K_SI_merge) 63 = .ok (.istore 7, 2) := by decide +kernel
theorem d_SI_merge_65 : decode (kB K_SI_merge) 65 = .ok (.iload_n 3, 1) := by decide +kernel
theorem d_SI_merge_66 : decode (kB K_SI_merge) 66 = .ok (.ifCond .ne 13, 3) := by decide +kernel
theorem d_SI_merge_69 : decode (kB K_SI_merge) 69 = .ok (.iload 5, 2) := by decide +kernel
theorem d_SI_merge_71 : decode (kB K_SI_merge) 71 = .ok (.iload 7, 2) := by decide +kernel
theorem d_SI_merge_73 : decode (kB K_SI_merge) 73 = .ok (.invokestatic 80, 3) := by decide +kernel
theorem d_SI_merge_76 : decode (kB K_SI_merge) 76 = .ok (.goto 23, 3) := by decide +kernel
theorem d_SI_merge_79 : decode (kB K_SI_merge) 79 = .ok (.iload_n 3, 1) := by decide +kernel
theorem d_SI_merge_80 : decode (kB K_SI_merge) 80 = .ok (.iconst 1, 1) := by decide +kernel
theorem d_SI_merge_81 : decode (kB K_SI_merge) 81 = .ok (.if_icmp .ne 13, 3) := by decide +kernel
theorem d_SI_merge_84 : decode (kB K_SI_merge) 84 = .ok (.iload 5, 2) := by decide +kernel
theorem d_SI_merge_86 : decode (kB K_SI_merge) 86 = .ok (.iload 7, 2) := by decide +kernel
theorem d_SI_merge_88 : decode (kB K_SI_merge) 88 = .ok (.invokestatic 86, 3) := by decide +kernel
theorem d_SI_merge_91 : decode (kB K_SI_merge) 91 = .ok (.goto 8, 3) := by decide +kernel
theorem d_SI_merge_94 : decode (kB K_SI_merge) 94 = .ok (.iload 5, 2) := by decide +kernel
theorem d_SI_merge_96 : decode (kB K_SI_merge) 96 = .ok (.iload 7, 2) := by decide +kernel
theorem d_SI_merge_98 : decode (kB K_SI_merge) 98 = .ok (.iadd, 1) := by decide +kernel
theorem d_SI_merge_99 : decode (kB K_SI_merge) 99 = .ok (.istore 5, 2) := by decide +kernel
theorem d_SI_merge_101 : decode (kB K_SI_merge) 101 = .ok (.iinc 6 1, 3) := by decide +kernel
theorem d_SI_merge_104 : decode (kB K_SI_merge) 104 = .ok (.goto (-61), 3) := by decide +kernel
theorem d_SI_merge_107 : decode (kB K_SI_merge) 107 = .ok (.aload_n 0, 1) := by decide +kernel
theorem d_SI_merge_108 : decode (kB K_SI_merge) 108 = .ok (.iload_n 1, 1) := by decide +kernel
theorem d_SI_merge_109 : decode (kB K_SI_merge) 109 = .ok (.iload_n 2, 1) := by decide +kernel
theorem d_SI_merge_110 : decode (kB K_SI_merge) 110 = .ok (.sipush 9999, 3) := by decide +kernel
theorem d_SI_merge_113 : decode (kB K_SI_merge) 113 = .ok (.iload 5, 2) := by decide +kernel
theorem d_SI_merge_115 : decode (kB K_SI_merge) 115 = .ok (.invokestatic 80, 3) := by decide +kernel
theorem d_SI_merge_118 : decode (kB K_SI_merge) 118 = .ok (.aload_n 0, 1) := by decide +kernel
theorem d_SI_merge_119 : decode (kB K_SI_merge) 119 = .ok (.iload_n 1, 1) := by decide +kernel
theorem d_SI_merge_120 : decode (kB K_SI_merge) 120 = .ok (.iload_n 2, 1) := by decide +kernel
theorem d_SI_merge_121 : decode (kB K_SI_merge) 121 = .ok (.invokevirtual 89, 3) := by decide +kernel
theorem d_SI_merge_124 : decode (kB K_SI_merge) 124 = .ok (.iconst 2, 1) := by decide +kernel
theorem d_SI_merge_125 : decode (kB K_SI_merge) 125 = .ok (.invokevirtual 92, 3) := by decide +kernel
theorem d_SI_merge_128 : decode (kB K_SI_merge) 128 = .ok (.ireturn, 1) := by decide +kernel
def K_SI_note : KM := (⟨"ParishBoardsLaw$Sim", "note", "(III)I"⟩, prog_15_method_12_code, 5, (some (.int)), "ParishBoardsLaw$Sim", ([], []))
theorem d_SI_note_0 : decode (kB K_SI_note) 0 = .ok (.aload_n 0, 1) := by decide +kernel
theorem d_SI_note_1 : decode (kB K_SI_note) 1 = .ok (.iload_n 1, 1) := by decide +kernel
theorem d_SI_note_2 : decode (kB K_SI_note) 2 = .ok (.iload_n 2, 1) := by decide +kernel
theorem d_SI_note_3 : decode (kB K_SI_note) 3 = .ok (.invokevirtual 72, 3) := by decide +kernel
theorem d_SI_note_6 : decode (kB K_SI_note) 6 = .ok (.astore 4, 2) := by decide +kernel
theorem d_SI_note_8 : decode (kB K_SI_note) 8 = .ok (.aload 4, 2) := by decide +kernel
theorem d_SI_note_10 : decode (kB K_SI_note) 10 = .ok (.arraylength, 1) := by decide +kernel
theorem d_SI_note_11 : decode (kB K_SI_note) 11 = .ok (.iconst 1, 1) := by decide +kernel
theorem d_SI_note_12 : decode (kB K_SI_note) 12 = .ok (.if_icmp .ne 13, 3) := by decide +kernel
theorem d_SI_note_15 : decode (kB K_SI_note) 15 = .ok (.aload_n 0, 1) := by decide +kernel
theorem d_SI_note_16 : decode (kB K_SI_note) 16 = .ok (.getfield 9, 3) := by decide +kernel
theorem d_SI_note_19 : decode (kB K_SI_note) 19 = .ok (.arraylength, 1) := by decide +kernel
theorem d_SI_note_20 : decode (kB K_SI_note) 20 = .ok (.bipush 60, 2) := by decide +kernel
theorem d_SI_note_22 : decode (kB K_SI_note) 22 = .ok (.if_icmp .ne 7, 3) := by decide +kernel
theorem d_SI_note_25 : decode (kB K_SI_note) 25 = .ok (.iconst (-1), 1) := by decide +kernel
theorem d_SI_note_26 : decode (kB K_SI_note) 26 = .ok (.goto 36, 3) := by decide +kernel
theorem d_SI_note_29 : decode (kB K_SI_note) 29 = .ok (.aload_n 0, 1) := by decide +kernel
theorem d_SI_note_30 : decode (kB K_SI_note) 30 = .ok (.iload_n 1, 1) := by decide +kernel
theorem d_SI_note_31 : decode (kB K_SI_note) 31 = .ok (.iload_n 2, 1) := by decide +kernel
theorem d_SI_note_32 : decode (kB K_SI_note) 32 = .ok (.aload_n 0, 1) := by decide +kernel
theorem d_SI_note_33 : decode (kB K_SI_note) 33 = .ok (.getfield 9, 3) := by decide +kernel
theorem d_SI_note_36 : decode (kB K_SI_note) 36 = .ok (.aload 4, 2) := by decide +kernel
theorem d_SI_note_38 : decode (kB K_SI_note) 38 = .ok (.iconst 0, 1) := by decide +kernel
theorem d_SI_note_39 : decode (kB K_SI_note) 39 = .ok (.iaload, 1) := by decide +kernel
theorem d_SI_note_40 : decode (kB K_SI_note) 40 = .ok (.aaload, 1) := by decide +kernel
theorem d_SI_note_41 : decode (kB K_SI_note) 41 = .ok (.iconst 2, 1) := by decide +kernel
theorem d_SI_note_42 : decode (kB K_SI_note) 42 = .ok (.iaload, 1) := by decide +kernel
theorem d_SI_note_43 : decode (kB K_SI_note) 43 = .ok (.aload_n 0, 1) := by decide +kernel
theorem d_SI_note_44 : decode (kB K_SI_note) 44 = .ok (.getfield 9, 3) := by decide +kernel
theorem d_SI_note_47 : decode (kB K_SI_note) 47 = .ok (.aload 4, 2) := by decide +kernel
theorem d_SI_note_49 : decode (kB K_SI_note) 49 = .ok (.iconst 0, 1) := by decide +kernel
theorem d_SI_note_50 : decode (kB K_SI_note) 50 = .ok (.iaload, 1) := by decide +kernel
theorem d_SI_note_51 : decode (kB K_SI_note) 51 = .ok (.aaload, 1) := by decide +kernel
theorem d_SI_note_52 : decode (kB K_SI_note) 52 = .ok (.iconst 3, 1) := by decide +kernel
theorem d_SI_note_53 : decode (kB K_SI_note) 53 = .ok (.iaload, 1) := by decide +kernel
theorem d_SI_note_54 : decode (kB K_SI_note) 54 = .ok (.iconst 1, 1) := by decide +kernel
theorem d_SI_note_55 : decode (kB K_SI_note) 55 = .ok (.iload_n 3, 1) := by decide +kernel
theorem d_SI_note_56 : decode (kB K_SI_note) 56 = .ok (.ishl, 1) := by decide +kernel
theorem d_SI_note_57 : decode (kB K_SI_note) 57 = .ok (.ior, 1) := by decide +kernel
theorem d_SI_note_58 : decode (kB K_SI_note) 58 = .ok (.iconst 1, 1) := by decide +kernel
theorem d_SI_note_59 : decode (kB K_SI_note) 59 = .ok (.invokevirtual 92, 3) := by decide +kernel
theorem d_SI_note_62 : decode (kB K_SI_note) 62 = .ok (.ireturn, 1) := by decide +kernel
def K_SI_write : KM := (⟨"ParishBoardsLaw$Sim", "write", "(III)I"⟩, prog_15_method_13_code, 4, (some (.int)), "ParishBoardsLaw$Sim", ([], []))
theorem d_SI_write_0 : decode (kB K_SI_write) 0 = .ok (.aload_n 0, 1) := by decide +kernel
theorem d_SI_write_1 : decode (kB K_SI_write) 1 = .ok (.getfield 9, 3) := by decide +kernel
theorem d_SI_write_4 : decode (kB K_SI_write) 4 = .ok (.arraylength, 1) := by decide +kernel
theorem d_SI_write_5 : decode (kB K_SI_write) 5 = .ok (.bipush 60, 2) := by decide +kernel
theorem d_SI_write_7 : decode (kB K_SI_write) 7 = .ok (.if_icmp .ne 7, 3) := by decide +kernel
theorem d_SI_write_10 : decode (kB K_SI_write) 10 = .ok (.iconst (-1), 1) := by decide +kernel
theorem d_SI_write_11 : decode (kB K_SI_write) 11 = .ok (.goto 17, 3) := by decide +kernel
theorem d_SI_write_14 : decode (kB K_SI_write) 14 = .ok (.aload_n 0, 1) := by decide +kernel
theorem d_SI_write_15 : decode (kB K_SI_write) 15 = .ok (.iload_n 1, 1) := by decide +kernel
theorem d_SI_write_16 : decode (kB K_SI_write) 16 = .ok (.iload_n 2, 1) := by decide +kernel
theorem d_SI_write_17 : decode (kB K_SI_write) 17 = .ok (.iload_n 3, 1) := by decide +kernel
theorem d_SI_write_18 : decode (kB K_SI_write) 18 = .ok (.aload_n 0, 1) := by decide +kernel
theorem d_SI_write_19 : decode (kB K_SI_write) 19 = .ok (.iload_n 1, 1) := by decide +kernel
theorem d_SI_write_20 : decode (kB K_SI_write) 20 = .ok (.iload_n 2, 1) := by decide +kernel
theorem d_SI_write_21 : decode (kB K_SI_write) 21 = .ok (.invokevirtual 89, 3) := by decide +kernel
theorem d_SI_write_24 : decode (kB K_SI_write) 24 = .ok (.iconst 0, 1) := by decide +kernel
theorem d_SI_write_25 : decode (kB K_SI_write) 25 = .ok (.invokevirtual 92, 3) := by decide +kernel
theorem d_SI_write_28 : decode (kB K_SI_write) 28 = .ok (.ireturn, 1) := by decide +kernel
def K_SI_send : KM := (⟨"ParishBoardsLaw$Sim", "send", "(I)I"⟩, prog_15_method_14_code, 5, (some (.int)), "ParishBoardsLaw$Sim", ([], []))
theorem d_SI_send_0 : decode (kB K_SI_send) 0 = .ok (.iconst 2, 1) := by decide +kernel
theorem d_SI_send_1 : decode (kB K_SI_send) 1 = .ok (.newarray .int, 2) := by decide +kernel
theorem d_SI_send_3 : decode (kB K_SI_send) 3 = .ok (.dup, 1) := by decide +kernel
theorem d_SI_send_4 : decode (kB K_SI_send) 4 = .ok (.iconst 0, 1) := by decide +kernel
theorem d_SI_send_5 : decode (kB K_SI_send) 5 = .ok (.iload_n 1, 1) := by decide +kernel
theorem d_SI_send_6 : decode (kB K_SI_send) 6 = .ok (.iastore, 1) := by decide +kernel
theorem d_SI_send_7 : decode (kB K_SI_send) 7 = .ok (.dup, 1) := by decide +kernel
theorem d_SI_send_8 : decode (kB K_SI_send) 8 = .ok (.iconst 1, 1) := by decide +kernel
theorem d_SI_send_9 : decode (kB K_SI_send) 9 = .ok (.aload_n 0, 1) := by decide +kernel
theorem d_SI_send_10 : decode (kB K_SI_send) 10 = .ok (.getfield 52, 3) := by decide +kernel
theorem d_SI_send_13 : decode (kB K_SI_send) 13 = .ok (.aload_n 0, 1) := by decide +kernel
theorem d_SI_send_14 : decode (kB K_SI_send) 14 = .ok (.getfield 21, 3) := by decide +kernel
theorem d_SI_send_17 : decode (kB K_SI_send) 17 = .ok (.iload_n 1, 1) := by decide +kernel
theorem d_SI_send_18 : decode (kB K_SI_send) 18 = .ok (.aaload, 1) := by decide +kernel
theorem d_SI_send_19 : decode (kB K_SI_send) 19 = .ok (.iconst 2, 1) := by decide +kernel
theorem d_SI_send_20 : decode (kB K_SI_send) 20 = .ok (.iaload, 1) := by decide +kernel
theorem d_SI_send_21 : decode (kB K_SI_send) 21 = .ok (.iadd, 1) := by decide +kernel
theorem d_SI_send_22 : decode (kB K_SI_send) 22 = .ok (.iastore, 1) := by decide +kernel
theorem d_SI_send_23 : decode (kB K_SI_send) 23 = .ok (.astore_n 2, 1) := by decide +kernel
theorem d_SI_send_24 : decode (kB K_SI_send) 24 = .ok (.iconst 0, 1) := by decide +kernel
theorem d_SI_send_25 : decode (kB K_SI_send) 25 = .ok (.istore_n 3, 1) := by decide +kernel
theorem d_SI_send_26 : decode (kB K_SI_send) 26 = .ok (.iload_n 3, 1) := by decide +kernel
theorem d_SI_send_27 : decode (kB K_SI_send) 27 = .ok (.aload_n 0, 1) := by decide +kernel
theorem d_SI_send_28 : decode (kB K_SI_send) 28 = .ok (.getfield 9, 3) := by decide +kernel
theorem d_SI_send_31 : decode (kB K_SI_send) 31 = .ok (.arraylength, 1) := by decide +kernel
theorem d_SI_send_32 : decode (kB K_SI_send) 32 = .ok (.if_icmp .ge 77, 3) := by decide +kernel
theorem d_SI_send_35 : decode (kB K_SI_send) 35 = .ok (.aload_n 0, 1) := by decide +kernel
theorem d_SI_send_36 : decode (kB K_SI_send) 36 = .ok (.getfield 38, 3) := by decide +kernel
theorem d_SI_send_39 : decode (kB K_SI_send) 39 = .ok (.aload_n 0, 1) := by decide +kernel
theorem d_SI_send_40 : decode (kB K_SI_send) 40 = .ok (.getfield 21, 3) := by decide +kernel
theorem d_SI_send_43 : decode (kB K_SI_send) 43 = .ok (.iload_n 1, 1) := by decide +kernel
theorem d_SI_send_44 : decode (kB K_SI_send) 44 = .ok (.aaload, 1) := by decide +kernel
theorem d_SI_send_45 : decode (kB K_SI_send) 45 = .ok (.iconst 0, 1) := by decide +kernel
theorem d_SI_send_46 : decode (kB K_SI_send) 46 = .ok (.iaload, 1) := by decide +kernel
theorem d_SI_send_47 : decode (kB K_SI_send) 47 = .ok (.aaload, 1) := by decide +kernel
theorem d_SI_send_48 : decode (kB K_SI_send) 48 = .ok (.iload_n 3, 1) := by decide +kernel
theorem d_SI_send_49 : decode (kB K_SI_send) 49 = .ok (.baload, 1) := by decide +kernel
theorem d_SI_send_50 : decode (kB K_SI_send) 50 = .ok (.ifCond .eq 53, 3) := by decide +kernel
theorem d_SI_send_53 : decode (kB K_SI_send) 53 = .ok (.aload_n 0, 1) := by decide +kernel
theorem d_SI_send_54 : decode (kB K_SI_send) 54 = .ok (.getfield 68, 3) := by decide +kernel
theorem d_SI_send_57 : decode (kB K_SI_send) 57 = .ok (.iload_n 1, 1) := by decide +kernel
theorem d_SI_send_58 : decode (kB K_SI_send) 58 = .ok (.aaload, 1) := by decide +kernel
theorem d_SI_send_59 : decode (kB K_SI_send) 59 = .ok (.iload_n 3, 1) := by decide +kernel
theorem d_SI_send_60 : decode (kB K_SI_send) 60 = .ok (.baload, 1) := by decide +kernel
theorem d_SI_send_61 : decode (kB K_SI_send) 61 = .ok (.ifCond .eq 6, 3) := by decide +kernel
theorem d_SI_send_64 : decode (kB K_SI_send) 64 = .ok (.goto 39, 3) := by decide +kernel
theorem d_SI_send_67 : decode (kB K_SI_send) 67 = .ok (.aload_n 0, 1) := by decide +kernel
theorem d_SI_send_68 : decode (kB K_SI_send) 68 = .ok (.getfield 68, 3) := by decide +kernel
theorem d_SI_send_71 : decode (kB K_SI_send) 71 = .ok (.iload_n 1, 1) := by decide +kernel
theorem d_SI_send_72 : decode (kB K_SI_send) 72 = .ok (.aaload, 1) := by decide +kernel
theorem d_SI_send_73 : decode (kB K_SI_send) 73 = .ok (.iload_n 3, 1) := by decide +kernel
theorem d_SI_send_74 : decode (kB K_SI_send) 74 = .ok (.iconst 1, 1) := by decide +kernel
theorem d_SI_send_75 : decode (kB K_SI_send) 75 = .ok (.bastore, 1) := by decide +kernel
theorem d_SI_send_76 : decode (kB K_SI_send) 76 = .ok (.aload_n 2, 1) := by decide +kernel
theorem d_SI_send_77 : decode (kB K_SI_send) 77 = .ok (.arraylength, 1) := by decide +kernel
theorem d_SI_send_78 : decode (kB K_SI_send) 78 = .ok (.iconst 1, 1) := by decide +kernel
theorem d_SI_send_79 : decode (kB K_SI_send) 79 = .ok (.iadd, 1) := by decide +kernel
theorem d_SI_send_80 : decode (kB K_SI_send) 80 = .ok (.newarray .int, 2) := by decide +kernel
theorem d_SI_send_82 : decode (kB K_SI_send) 82 = .ok (.astore 4, 2) := by decide +kernel
theorem d_SI_send_84 : decode (kB K_SI_send) 84 = .ok (.aload_n 2, 1) := by decide +kernel
theorem d_SI_send_85 : decode (kB K_SI_send) 85 = .ok (.iconst 0, 1) := by decide +kernel
theorem d_SI_send_86 : decode (kB K_SI_send) 86 = .ok (.aload 4, 2) := by decide +kernel
theorem d_SI_send_88 : decode (kB K_SI_send) 88 = .ok (.iconst 0, 1) := by decide +kernel
theorem d_SI_send_89 : decode (kB K_SI_send) 89 = .ok (.aload_n 2, 1) := by decide +kernel
theorem d_SI_send_90 : decode (kB K_SI_send) 90 = .ok (.arraylength, 1) := by decide +kernel
theorem d_SI_send_91 : decode (kB K_SI_send) 91 = .ok (.invokestatic 96, 3) := by decide +kernel
theorem d_SI_send_94 : decode (kB K_SI_send) 94 = .ok (.aload 4, 2) := by decide +kernel
theorem d_SI_send_96 : decode (kB K_SI_send) 96 = .ok (.aload_n 2, 1) := by decide +kernel
theorem d_SI_send_97 : decode (kB K_SI_send) 97 = .ok (.arraylength, 1) := by decide +kernel
theorem d_SI_send_98 : decode (kB K_SI_send) 98 = .ok (.iload_n 3, 1) := by decide +kernel
theorem d_SI_send_99 : decode (kB K_SI_send) 99 = .ok (.iastore, 1) := by decide +kernel
theorem d_SI_send_100 : decode (kB K_SI_send) 100 = .ok (.aload 4, 2) := by decide +kernel
theorem d_SI_send_102 : decode (kB K_SI_send) 102 = .ok (.astore_n 2, 1) := by decide +kernel
theorem d_SI_send_103 : decode (kB K_SI_send) 103 = .ok (.iinc 3 1, 3) := by decide +kernel
theorem d_SI_send_106 : decode (kB K_SI_send) 106 = .ok (.goto (-80), 3) := by decide +kernel
theorem d_SI_send_109 : decode (kB K_SI_send) 109 = .ok (.aload_n 2, 1) := by decide +kernel
theorem d_SI_send_110 : decode (kB K_SI_send) 110 = .ok (.arraylength, 1) := by decide +kernel
theorem d_SI_send_111 : decode (kB K_SI_send) 111 = .ok (.iconst 2, 1) := by decide +kernel
theorem d_SI_send_112 : decode (kB K_SI_send) 112 = .ok (.if_icmp .ne 5, 3) := by decide +kernel
theorem d_SI_send_115 : decode (kB K_SI_send) 115 = .ok (.iconst 0, 1) := by decide +kernel
theorem d_SI_send_116 : decode (kB K_SI_send) 116 = .ok (.ireturn, 1) := by decide +kernel
theorem d_SI_send_117 : decode (kB K_SI_send) 117 = .ok (.aload_n 0, 1) := by decide +kernel
theorem d_SI_send_118 : decode (kB K_SI_send) 118 = .ok (.aload_n 0, 1) := by decide +kernel
theorem d_SI_send_119 : decode (kB K_SI_send) 119 = .ok (.getfield 24, 3) := by decide +kernel
theorem d_SI_send_122 : decode (kB K_SI_send) 122 = .ok (.aload_n 2, 1) := by decide +kernel
theorem d_SI_send_123 : decode (kB K_SI_send) 123 = .ok (.invokestatic 76, 3) := by decide +kernel
theorem d_SI_send_126 : decode (kB K_SI_send) 126 = .ok (.putfield 24, 3) := by decide +kernel
theorem d_SI_send_129 : decode (kB K_SI_send) 129 = .ok (.aload_n 0, 1) := by decide +kernel
theorem d_SI_send_130 : decode (kB K_SI_send) 130 = .ok (.getfield 21, 3) := by decide +kernel
theorem d_SI_send_133 : decode (kB K_SI_send) 133 = .ok (.iload_n 1, 1) := by decide +kernel
theorem d_SI_send_134 : decode (kB K_SI_send) 134 = .ok (.aaload, 1) := by decide +kernel
theorem d_SI_send_135 : decode (kB K_SI_send) 135 = .ok (.iconst 3, 1) := by decide +kernel
theorem d_SI_send_136 : decode (kB K_SI_send) 136 = .ok (.dup2, 1) := by decide +kernel
theorem d_SI_send_137 : decode (kB K_SI_send) 137 = .ok (.iaload, 1) := by decide +kernel
theorem d_SI_send_138 : decode (kB K_SI_send) 138 = .ok (.iconst 1, 1) := by decide +kernel
theorem d_SI_send_139 : decode (kB K_SI_send) 139 = .ok (.iadd, 1) := by decide +kernel
theorem d_SI_send_140 : decode (kB K_SI_send) 140 = .ok (.iastore, 1) := by decide +kernel
theorem d_SI_send_141 : decode (kB K_SI_send) 141 = .ok (.aload_n 2, 1) := by decide +kernel
theorem d_SI_send_142 : decode (kB K_SI_send) 142 = .ok (.arraylength, 1) := by decide +kernel
theorem d_SI_send_143 : decode (kB K_SI_send) 143 = .ok (.iconst 2, 1) := by decide +kernel
theorem d_SI_send_144 : decode (kB K_SI_send) 144 = .ok (.isub, 1) := by decide +kernel
theorem d_SI_send_145 : decode (kB K_SI_send) 145 = .ok (.ireturn, 1) := by decide +kernel
def K_SI_canHang : KM := (⟨"ParishBoardsLaw$Sim", "canHang", "(II)Z"⟩, prog_15_method_15_code, 4, (some (.boolean)), "ParishBoardsLaw$Sim", ([], []))
theorem d_SI_canHang_0 : decode (kB K_SI_canHang) 0 = .ok (.iconst 0, 1) := by decide +kernel
theorem d_SI_canHang_1 : decode (kB K_SI_canHang) 1 = .ok (.istore_n 3, 1) := by decide +kernel
theorem d_SI_canHang_2 : decode (kB K_SI_canHang) 2 = .ok (.iload_n 3, 1) := by decide +kernel
theorem d_SI_canHang_3 : decode (kB K_SI_canHang) 3 = .ok (.aload_n 0, 1) := by decide +kernel
theorem d_SI_canHang_4 : decode (kB K_SI_canHang) 4 = .ok (.getfield 9, 3) := by decide +kernel
theorem d_SI_canHang_7 : decode (kB K_SI_canHang) 7 = .ok (.arraylength, 1) := by decide +kernel
theorem d_SI_canHang_8 : decode (kB K_SI_canHang) 8 = .ok (.if_icmp .ge 38, 3) := by decide +kernel
theorem d_SI_canHang_11 : decode (kB K_SI_canHang) 11 = .ok (.iload_n 3, 1) := by decide +kernel
theorem d_SI_canHang_12 : decode (kB K_SI_canHang) 12 = .ok (.iload_n 2, 1) := by decide +kernel
theorem d_SI_canHang_13 : decode (kB K_SI_canHang) 13 = .ok (.if_icmp .eq 27, 3) := by decide +kernel
theorem d_SI_canHang_16 : decode (kB K_SI_canHang) 16 = .ok (.aload_n 0, 1) := by decide +kernel
theorem d_SI_canHang_17 : decode (kB K_SI_canHang) 17 = .ok (.getfield 17, 3) := by decide +kernel
theorem d_SI_canHang_20 : decode (kB K_SI_canHang) 20 = .ok (.iload_n 2, 1) := by decide +kernel
theorem d_SI_canHang_21 : decode (kB K_SI_canHang) 21 = .ok (.aaload, 1) := by decide +kernel
theorem d_SI_canHang_22 : decode (kB K_SI_canHang) 22 = .ok (.iload_n 3, 1) := by decide +kernel
theorem d_SI_canHang_23 : decode (kB K_SI_canHang) 23 = .ok (.baload, 1) := by decide +kernel
theorem d_SI_canHang_24 : decode (kB K_SI_canHang) 24 = .ok (.ifCond .eq 16, 3) := by decide +kernel
theorem d_SI_canHang_27 : decode (kB K_SI_canHang) 27 = .ok (.aload_n 0, 1) := by decide +kernel
theorem d_SI_canHang_28 : decode (kB K_SI_canHang) 28 = .ok (.getfield 38, 3) := by decide +kernel
theorem d_SI_canHang_31 : decode (kB K_SI_canHang) 31 = .ok (.iload_n 1, 1) := by decide +kernel
theorem d_SI_canHang_32 : decode (kB K_SI_canHang) 32 = .ok (.aaload, 1) := by decide +kernel
theorem d_SI_canHang_33 : decode (kB K_SI_canHang) 33 = .ok (.iload_n 3, 1) := by decide +kernel
theorem d_SI_canHang_34 : decode (kB K_SI_canHang) 34 = .ok (.baload, 1) := by decide +kernel
theorem d_SI_canHang_35 : decode (kB K_SI_canHang) 35 = .ok (.ifCond .ne 5, 3) := by decide +kernel
theorem d_SI_canHang_38 : decode (kB K_SI_canHang) 38 = .ok (.iconst 0, 1) := by decide +kernel
theorem d_SI_canHang_39 : decode (kB K_SI_canHang) 39 = .ok (.ireturn, 1) := by decide +kernel
theorem d_SI_canHang_40 : decode (kB K_SI_canHang) 40 = .ok (.iinc 3 1, 3) := by decide +kernel
theorem d_SI_canHang_43 : decode (kB K_SI_canHang) 43 = .ok (.goto (-41), 3) := by decide +kernel
theorem d_SI_canHang_46 : decode (kB K_SI_canHang) 46 = .ok (.aload_n 0, 1) := by decide +kernel
theorem d_SI_canHang_47 : decode (kB K_SI_canHang) 47 = .ok (.getfield 44, 3) := by decide +kernel
theorem d_SI_canHang_50 : decode (kB K_SI_canHang) 50 = .ok (.iload_n 1, 1) := by decide +kernel
theorem d_SI_canHang_51 : decode (kB K_SI_canHang) 51 = .ok (.aaload, 1) := by decide +kernel
theorem d_SI_canHang_52 : decode (kB K_SI_canHang) 52 = .ok (.iload_n 2, 1) := by decide +kernel
theorem d_SI_canHang_53 : decode (kB K_SI_canHang) 53 = .ok (.baload, 1) := by decide +kernel
theorem d_SI_canHang_54 : decode (kB K_SI_canHang) 54 = .ok (.ireturn, 1) := by decide +kernel
def K_SI_hang : KM := (⟨"ParishBoardsLaw$Sim", "hang", "(II)V"⟩, prog_15_method_16_code, 7, none, "ParishBoardsLaw$Sim", ([], []))
theorem d_SI_hang_0 : decode (kB K_SI_hang) 0 = .ok (.aload_n 0, 1) := by decide +kernel
theorem d_SI_hang_1 : decode (kB K_SI_hang) 1 = .ok (.iload_n 1, 1) := by decide +kernel
theorem d_SI_hang_2 : decode (kB K_SI_hang) 2 = .ok (.aload_n 0, 1) := by decide +kernel
theorem d_SI_hang_3 : decode (kB K_SI_hang) 3 = .ok (.getfield 9, 3) := by decide +kernel
theorem d_SI_hang_6 : decode (kB K_SI_hang) 6 = .ok (.iload_n 2, 1) := by decide +kernel
theorem d_SI_hang_7 : decode (kB K_SI_hang) 7 = .ok (.aaload, 1) := by decide +kernel
theorem d_SI_hang_8 : decode (kB K_SI_hang) 8 = .ok (.iconst 1, 1) := by decide +kernel
theorem d_SI_hang_9 : decode (kB K_SI_hang) 9 = .ok (.iaload, 1) := by decide +kernel
theorem d_SI_hang_10 : decode (kB K_SI_hang) 10 = .ok (.invokevirtual 72, 3) := by decide +kernel
theorem d_SI_hang_13 : decode (kB K_SI_hang) 13 = .ok (.astore_n 3, 1) := by decide +kernel
theorem d_SI_hang_14 : decode (kB K_SI_hang) 14 = .ok (.aload_n 3, 1) := by decide +kernel
theorem d_SI_hang_15 : decode (kB K_SI_hang) 15 = .ok (.arraylength, 1) := by decide +kernel
theorem d_SI_hang_16 : decode (kB K_SI_hang) 16 = .ok (.istore 4, 2) := by decide +kernel
theorem d_SI_hang_18 : decode (kB K_SI_hang) 18 = .ok (.iconst 0, 1) := by decide +kernel
theorem d_SI_hang_19 : decode (kB K_SI_hang) 19 = .ok (.istore 5, 2) := by decide +kernel
theorem d_SI_hang_21 : decode (kB K_SI_hang) 21 = .ok (.iload 5, 2) := by decide +kernel
theorem d_SI_hang_23 : decode (kB K_SI_hang) 23 = .ok (.iload 4, 2) := by decide +kernel
theorem d_SI_hang_25 : decode (kB K_SI_hang) 25 = .ok (.if_icmp .ge 37, 3) := by decide +kernel
theorem d_SI_hang_28 : decode (kB K_SI_hang) 28 = .ok (.aload_n 3, 1) := by decide +kernel
theorem d_SI_hang_29 : decode (kB K_SI_hang) 29 = .ok (.iload 5, 2) := by decide +kernel
theorem d_SI_hang_31 : decode (kB K_SI_hang) 31 = .ok (.iaload, 1) := by decide +kernel
theorem d_SI_hang_32 : decode (kB K_SI_hang) 32 = .ok (.istore 6, 2) := by decide +kernel
theorem d_SI_hang_34 : decode (kB K_SI_hang) 34 = .ok (.aload_n 0, 1) := by decide +kernel
theorem d_SI_hang_35 : decode (kB K_SI_hang) 35 = .ok (.getfield 17, 3) := by decide +kernel
theorem d_SI_hang_38 : decode (kB K_SI_hang) 38 = .ok (.iload_n 2, 1) := by decide +kernel
theorem d_SI_hang_39 : decode (kB K_SI_hang) 39 = .ok (.aaload, 1) := by decide +kernel
theorem d_SI_hang_40 : decode (kB K_SI_hang) 40 = .ok (.iload 6, 2) := by decide +kernel
theorem d_SI_hang_42 : decode (kB K_SI_hang) 42 = .ok (.baload, 1) := by decide +kernel
theorem d_SI_hang_43 : decode (kB K_SI_hang) 43 = .ok (.ifCond .eq 13, 3) := by decide +kernel
theorem d_SI_hang_46 : decode (kB K_SI_hang) 46 = .ok (.aload_n 0, 1) := by decide +kernel
theorem d_SI_hang_47 : decode (kB K_SI_hang) 47 = .ok (.getfield 41, 3) := by decide +kernel
theorem d_SI_hang_50 : decode (kB K_SI_hang) 50 = .ok (.iload_n 1, 1) := by decide +kernel
theorem d_SI_hang_51 : decode (kB K_SI_hang) 51 = .ok (.aaload, 1) := by decide +kernel
theorem d_SI_hang_52 : decode (kB K_SI_hang) 52 = .ok (.iload 6, 2) := by decide +kernel
theorem d_SI_hang_54 : decode (kB K_SI_hang) 54 = .ok (.iconst 0, 1) := by decide +kernel
theorem d_SI_hang_55 : decode (kB K_SI_hang) 55 = .ok (.bastore, 1) := by decide +kernel
theorem d_SI_hang_56 : decode (kB K_SI_hang) 56 = .ok (.iinc 5 1, 3) := by decide +kernel
theorem d_SI_hang_59 : decode (kB K_SI_hang) 59 = .ok (.goto (-38), 3) := by decide +kernel
theorem d_SI_hang_62 : decode (kB K_SI_hang) 62 = .ok (.aload_n 0, 1) := by decide +kernel
theorem d_SI_hang_63 : decode (kB K_SI_hang) 63 = .ok (.getfield 44, 3) := by decide +kernel
theorem d_SI_hang_66 : decode (kB K_SI_hang) 66 = .ok (.iload_n 1, 1) := by decide +kernel
theorem d_SI_hang_67 : decode (kB K_SI_hang) 67 = .ok (.aaload, 1) := by decide +kernel
theorem d_SI_hang_68 : decode (kB K_SI_hang) 68 = .ok (.iload_n 2, 1) := by decide +kernel
theorem d_SI_hang_69 : decode (kB K_SI_hang) 69 = .ok (.iconst 0, 1) := by decide +kernel
theorem d_SI_hang_70 : decode (kB K_SI_hang) 70 = .ok (.bastore, 1) := by decide +kernel
theorem d_SI_hang_71 : decode (kB K_SI_hang) 71 = .ok (.aload_n 0, 1) := by decide +kernel
theorem d_SI_hang_72 : decode (kB K_SI_hang) 72 = .ok (.getfield 38, 3) := by decide +kernel
theorem d_SI_hang_75 : decode (kB K_SI_hang) 75 = .ok (.iload_n 1, 1) := by decide +kernel
theorem d_SI_hang_76 : decode (kB K_SI_hang) 76 = .ok (.aaload, 1) := by decide +kernel
theorem d_SI_hang_77 : decode (kB K_SI_hang) 77 = .ok (.iload_n 2, 1) := by decide +kernel
theorem d_SI_hang_78 : decode (kB K_SI_hang) 78 = .ok (.iconst 1, 1) := by decide +kernel
theorem d_SI_hang_79 : decode (kB K_SI_hang) 79 = .ok (.bastore, 1) := by decide +kernel
theorem d_SI_hang_80 : decode (kB K_SI_hang) 80 = .ok (.aload_n 0, 1) := by decide +kernel
theorem d_SI_hang_81 : decode (kB K_SI_hang) 81 = .ok (.getfield 41, 3) := by decide +kernel
theorem d_SI_hang_84 : decode (kB K_SI_hang) 84 = .ok (.iload_n 1, 1) := by decide +kernel
theorem d_SI_hang_85 : decode (kB K_SI_hang) 85 = .ok (.aaload, 1) := by decide +kernel
theorem d_SI_hang_86 : decode (kB K_SI_hang) 86 = .ok (.iload_n 2, 1) := by decide +kernel
theorem d_SI_hang_87 : decode (kB K_SI_hang) 87 = .ok (.iconst 1, 1) := by decide +kernel
theorem d_SI_hang_88 : decode (kB K_SI_hang) 88 = .ok (.bastore, 1) := by decide +kernel
theorem d_SI_hang_89 : decode (kB K_SI_hang) 89 = .ok (.aload_n 0, 1) := by decide +kernel
theorem d_SI_hang_90 : decode (kB K_SI_hang) 90 = .ok (.dup, 1) := by decide +kernel
theorem d_SI_hang_91 : decode (kB K_SI_hang) 91 = .ok (.getfield 55, 3) := by decide +kernel
theorem d_SI_hang_94 : decode (kB K_SI_hang) 94 = .ok (.iconst 1, 1) := by decide +kernel
theorem d_SI_hang_95 : decode (kB K_SI_hang) 95 = .ok (.iadd, 1) := by decide +kernel
theorem d_SI_hang_96 : decode (kB K_SI_hang) 96 = .ok (.putfield 55, 3) := by decide +kernel
theorem d_SI_hang_99 : decode (kB K_SI_hang) 99 = .ok (.return_, 1) := by decide +kernel
def K_SI_holds : KM := (⟨"ParishBoardsLaw$Sim", "holds", "([I)Z"⟩, prog_15_method_17_code, 4, (some (.boolean)), "ParishBoardsLaw$Sim", ([], []))
theorem d_SI_holds_0 : decode (kB K_SI_holds) 0 = .ok (.aload_n 1, 1) := by decide +kernel
theorem d_SI_holds_1 : decode (kB K_SI_holds) 1 = .ok (.bipush 6, 2) := by decide +kernel
theorem d_SI_holds_3 : decode (kB K_SI_holds) 3 = .ok (.iaload, 1) := by decide +kernel
theorem d_SI_holds_4 : decode (kB K_SI_holds) 4 = .ok (.istore_n 2, 1) := by decide +kernel
theorem d_SI_holds_5 : decode (kB K_SI_holds) 5 = .ok (.aload_n 1, 1) := by decide +kernel
theorem d_SI_holds_6 : decode (kB K_SI_holds) 6 = .ok (.bipush 7, 2) := by decide +kernel
theorem d_SI_holds_8 : decode (kB K_SI_holds) 8 = .ok (.iaload, 1) := by decide +kernel
theorem d_SI_holds_9 : decode (kB K_SI_holds) 9 = .ok (.istore_n 3, 1) := by decide +kernel
theorem d_SI_holds_10 : decode (kB K_SI_holds) 10 = .ok (.aload_n 1, 1) := by decide +kernel
theorem d_SI_holds_11 : decode (kB K_SI_holds) 11 = .ok (.iconst 5, 1) := by decide +kernel
theorem d_SI_holds_12 : decode (kB K_SI_holds) 12 = .ok (.iaload, 1) := by decide +kernel
theorem d_SI_holds_13 : decode (kB K_SI_holds) 13 = .ok (.tableswitch 125 0 4 #[35, 37, 54, 79, 95], 35) := by decide +kernel
theorem d_SI_holds_48 : decode (kB K_SI_holds) 48 = .ok (.iconst 1, 1) := by decide +kernel
theorem d_SI_holds_49 : decode (kB K_SI_holds) 49 = .ok (.ireturn, 1) := by decide +kernel
theorem d_SI_holds_50 : decode (kB K_SI_holds) 50 = .ok (.aload_n 0, 1) := by decide +kernel
theorem d_SI_holds_51 : decode (kB K_SI_holds) 51 = .ok (.iload_n 2, 1) := by decide +kernel
theorem d_SI_holds_52 : decode (kB K_SI_holds) 52 = .ok (.iload_n 3, 1) := by decide +kernel
theorem d_SI_holds_53 : decode (kB K_SI_holds) 53 = .ok (.invokevirtual 72, 3) := by decide +kernel
theorem d_SI_holds_56 : decode (kB K_SI_holds) 56 = .ok (.arraylength, 1) := by decide +kernel
theorem d_SI_holds_57 : decode (kB K_SI_holds) 57 = .ok (.iconst 1, 1) := by decide +kernel
theorem d_SI_holds_58 : decode (kB K_SI_holds) 58 = .ok (.if_icmp .le 7, 3) := by decide +kernel
theorem d_SI_holds_61 : decode (kB K_SI_holds) 61 = .ok (.iconst 1, 1) := by decide +kernel
theorem d_SI_holds_62 : decode (kB K_SI_holds) 62 = .ok (.goto 4, 3) := by decide +kernel
theorem d_SI_holds_65 : decode (kB K_SI_holds) 65 = .ok (.iconst 0, 1) := by decide +kernel
theorem d_SI_holds_66 : decode (kB K_SI_holds) 66 = .ok (.ireturn, 1) := by decide +kernel
theorem d_SI_holds_67 : decode (kB K_SI_holds) 67 = .ok (.aload_n 0, 1) := by decide +kernel
theorem d_SI_holds_68 : decode (kB K_SI_holds) 68 = .ok (.iload_n 2, 1) := by decide +kernel
theorem d_SI_holds_69 : decode (kB K_SI_holds) 69 = .ok (.iload_n 3, 1) := by decide +kernel
theorem d_SI_holds_70 : decode (kB K_SI_holds) 70 = .ok (.invokevirtual 72, 3) := by decide +kernel
theorem d_SI_holds_73 : decode (kB K_SI_holds) 73 = .ok (.arraylength, 1) := by decide +kernel
theorem d_SI_holds_74 : decode (kB K_SI_holds) 74 = .ok (.ifCond .eq 12, 3) := by decide +kernel
theorem d_SI_holds_77 : decode (kB K_SI_holds) 77 = .ok (.aload_n 0, 1) := by decide +kernel
theorem d_SI_holds_78 : decode (kB K_SI_holds) 78 = .ok (.getfield 52, 3) := by decide +kernel
theorem d_SI_holds_81 : decode (kB K_SI_holds) 81 = .ok (.iconst 5, 1) := by decide +kernel
theorem d_SI_holds_82 : decode (kB K_SI_holds) 82 = .ok (.irem, 1) := by decide +kernel
theorem d_SI_holds_83 : decode (kB K_SI_holds) 83 = .ok (.ifCond .ne 7, 3) := by decide +kernel
theorem d_SI_holds_86 : decode (kB K_SI_holds) 86 = .ok (.iconst 1, 1) := by decide +kernel
theorem d_SI_holds_87 : decode (kB K_SI_holds) 87 = .ok (.goto 4, 3) := by decide +kernel
theorem d_SI_holds_90 : decode (kB K_SI_holds) 90 = .ok (.iconst 0, 1) := by decide +kernel
theorem d_SI_holds_91 : decode (kB K_SI_holds) 91 = .ok (.ireturn, 1) := by decide +kernel
theorem d_SI_holds_92 : decode (kB K_SI_holds) 92 = .ok (.aload_n 0, 1) := by decide +kernel
theorem d_SI_holds_93 : decode (kB K_SI_holds) 93 = .ok (.getfield 52, 3) := by decide +kernel
theorem d_SI_holds_96 : decode (kB K_SI_holds) 96 = .ok (.iload_n 2, 1) := by decide +kernel
theorem d_SI_holds_97 : decode (kB K_SI_holds) 97 = .ok (.irem, 1) := by decide +kernel
theorem d_SI_holds_98 : decode (kB K_SI_holds) 98 = .ok (.iload_n 3, 1) := by decide +kernel
theorem d_SI_holds_99 : decode (kB K_SI_holds) 99 = .ok (.if_icmp .ne 7, 3) := by decide +kernel
theorem d_SI_holds_102 : decode (kB K_SI_holds) 102 = .ok (.iconst 1, 1) := by decide +kernel
theorem d_SI_holds_103 : decode (kB K_SI_holds) 103 = .ok (.goto 4, 3) := by decide +kernel
theorem d_SI_holds_106 : decode (kB K_SI_holds) 106 = .ok (.iconst 0, 1) := by decide +kernel
theorem d_SI_holds_107 : decode (kB K_SI_holds) 107 = .ok (.ireturn, 1) := by decide +kernel
theorem d_SI_holds_108 : decode (kB K_SI_holds) 108 = .ok (.aload_n 0, 1) := by decide +kernel
theorem d_SI_holds_109 : decode (kB K_SI_holds) 109 = .ok (.getfield 44, 3) := by decide +kernel
theorem d_SI_holds_112 : decode (kB K_SI_holds) 112 = .ok (.iload_n 2, 1) := by decide +kernel
theorem d_SI_holds_113 : decode (kB K_SI_holds) 113 = .ok (.aaload, 1) := by decide +kernel
theorem d_SI_holds_114 : decode (kB K_SI_holds) 114 = .ok (.invokestatic 102, 3) := by decide +kernel
theorem d_SI_holds_117 : decode (kB K_SI_holds) 117 = .ok (.iload_n 3, 1) := by decide +kernel
theorem d_SI_holds_118 : decode (kB K_SI_holds) 118 = .ok (.if_icmp .gt 14, 3) := by decide +kernel
theorem d_SI_holds_121 : decode (kB K_SI_holds) 121 = .ok (.aload_n 0, 1) := by decide +kernel
theorem d_SI_holds_122 : decode (kB K_SI_holds) 122 = .ok (.iload_n 2, 1) := by decide +kernel
theorem d_SI_holds_123 : decode (kB K_SI_holds) 123 = .ok (.iconst 0, 1) := by decide +kernel
theorem d_SI_holds_124 : decode (kB K_SI_holds) 124 = .ok (.invokevirtual 72, 3) := by decide +kernel
theorem d_SI_holds_127 : decode (kB K_SI_holds) 127 = .ok (.arraylength, 1) := by decide +kernel
theorem d_SI_holds_128 : decode (kB K_SI_holds) 128 = .ok (.iconst 1, 1) := by decide +kernel
theorem d_SI_holds_129 : decode (kB K_SI_holds) 129 = .ok (.if_icmp .le 7, 3) := by decide +kernel
theorem d_SI_holds_132 : decode (kB K_SI_holds) 132 = .ok (.iconst 1, 1) := by decide +kernel
theorem d_SI_holds_133 : decode (kB K_SI_holds) 133 = .ok (.goto 4, 3) := by decide +kernel
theorem d_SI_holds_136 : decode (kB K_SI_holds) 136 = .ok (.iconst 0, 1) := by decide +kernel
theorem d_SI_holds_137 : decode (kB K_SI_holds) 137 = .ok (.ireturn, 1) := by decide +kernel
theorem d_SI_holds_138 : decode (kB K_SI_holds) 138 = .ok (.aload_n 0, 1) := by decide +kernel
theorem d_SI_holds_139 : decode (kB K_SI_holds) 139 = .ok (.iload_n 2, 1) := by decide +kernel
theorem d_SI_holds_140 : decode (kB K_SI_holds) 140 = .ok (.iload_n 3, 1) := by decide +kernel
theorem d_SI_holds_141 : decode (kB K_SI_holds) 141 = .ok (.invokevirtual 89, 3) := by decide +kernel
theorem d_SI_holds_144 : decode (kB K_SI_holds) 144 = .ok (.invokestatic 106, 3) := by decide +kernel
theorem d_SI_holds_147 : decode (kB K_SI_holds) 147 = .ok (.iconst 3, 1) := by decide +kernel
theorem d_SI_holds_148 : decode (kB K_SI_holds) 148 = .ok (.if_icmp .ge 18, 3) := by decide +kernel
theorem d_SI_holds_151 : decode (kB K_SI_holds) 151 = .ok (.aload_n 0, 1) := by decide +kernel
theorem d_SI_holds_152 : decode (kB K_SI_holds) 152 = .ok (.iload_n 2, 1) := by decide +kernel
theorem d_SI_holds_153 : decode (kB K_SI_holds) 153 = .ok (.iload_n 3, 1) := by decide +kernel
theorem d_SI_holds_154 : decode (kB K_SI_holds) 154 = .ok (.invokevirtual 72, 3) := by decide +kernel
theorem d_SI_holds_157 : decode (kB K_SI_holds) 157 = .ok (.arraylength, 1) := by decide +kernel
theorem d_SI_holds_158 : decode (kB K_SI_holds) 158 = .ok (.iconst 1, 1) := by decide +kernel
theorem d_SI_holds_159 : decode (kB K_SI_holds) 159 = .ok (.if_icmp .gt 7, 3) := by decide +kernel
theorem d_SI_holds_162 : decode (kB K_SI_holds) 162 = .ok (.iconst 1, 1) := by decide +kernel
theorem d_SI_holds_163 : decode (kB K_SI_holds) 163 = .ok (.goto 4, 3) := by decide +kernel
theorem d_SI_holds_166 : decode (kB K_SI_holds) 166 = .ok (.iconst 0, 1) := by decide +kernel
theorem d_SI_holds_167 : decode (kB K_SI_holds) 167 = .ok (.ireturn, 1) := by decide +kernel
def K_SI_does : KM := (⟨"ParishBoardsLaw$Sim", "does", "([I)Z"⟩, prog_15_method_18_code, 5, (some (.boolean)), "ParishBoardsLaw$Sim", ([], []))
theorem d_SI_does_0 : decode (kB K_SI_does) 0 = .ok (.aload_n 1, 1) := by decide +kernel
theorem d_SI_does_1 : decode (kB K_SI_does) 1 = .ok (.iconst 1, 1) := by decide +kernel
theorem d_SI_does_2 : decode (kB K_SI_does) 2 = .ok (.iaload, 1) := by decide +kernel
theorem d_SI_does_3 : decode (kB K_SI_does) 3 = .ok (.istore_n 2, 1) := by decide +kernel
theorem d_SI_does_4 : decode (kB K_SI_does) 4 = .ok (.aload_n 1, 1) := by decide +kernel
theorem d_SI_does_5 : decode (kB K_SI_does) 5 = .ok (.iconst 2, 1) := by decide +kernel
theorem d_SI_does_6 : decode (kB K_SI_does) 6 = .ok (.iaload, 1) := by decide +kernel
theorem d_SI_does_7 : decode (kB K_SI_does) 7 = .ok (.istore_n 3, 1) := by decide +kernel
theorem d_SI_does_8 : decode (kB K_SI_does) 8 = .ok (.aload_n 1, 1) := by decide +kernel
theorem d_SI_does_9 : decode (kB K_SI_does) 9 = .ok (.iconst 0, 1) := by decide +kernel
theorem d_SI_does_10 : decode (kB K_SI_does) 10 = .ok (.iaload, 1) := by decide +kernel
theorem d_SI_does_11 : decode (kB K_SI_does) 11 = .ok (.iconst 3, 1) := by decide +kernel
theorem d_SI_does_12 : decode (kB K_SI_does) 12 = .ok (.if_icmp .ne 17, 3) := by decide +kernel
theorem d_SI_does_15 : decode (kB K_SI_does) 15 = .ok (.aload_n 0, 1) := by decide +kernel
theorem d_SI_does_16 : decode (kB K_SI_does) 16 = .ok (.iload_n 2, 1) := by decide +kernel
theorem d_SI_does_17 : decode (kB K_SI_does) 17 = .ok (.invokevirtual 112, 3) := by decide +kernel
theorem d_SI_does_20 : decode (kB K_SI_does) 20 = .ok (.ifCond .le 7, 3) := by decide +kernel
theorem d_SI_does_23 : decode (kB K_SI_does) 23 = .ok (.iconst 1, 1) := by decide +kernel
theorem d_SI_does_24 : decode (kB K_SI_does) 24 = .ok (.goto 4, 3) := by decide +kernel
theorem d_SI_does_27 : decode (kB K_SI_does) 27 = .ok (.iconst 0, 1) := by decide +kernel
theorem d_SI_does_28 : decode (kB K_SI_does) 28 = .ok (.ireturn, 1) := by decide +kernel
theorem d_SI_does_29 : decode (kB K_SI_does) 29 = .ok (.aload_n 1, 1) := by decide +kernel
theorem d_SI_does_30 : decode (kB K_SI_does) 30 = .ok (.iconst 0, 1) := by decide +kernel
theorem d_SI_does_31 : decode (kB K_SI_does) 31 = .ok (.iaload, 1) := by decide +kernel
theorem d_SI_does_32 : decode (kB K_SI_does) 32 = .ok (.iconst 2, 1) := by decide +kernel
theorem d_SI_does_33 : decode (kB K_SI_does) 33 = .ok (.if_icmp .ne 21, 3) := by decide +kernel
theorem d_SI_does_36 : decode (kB K_SI_does) 36 = .ok (.aload_n 0, 1) := by decide +kernel
theorem d_SI_does_37 : decode (kB K_SI_does) 37 = .ok (.iload_n 2, 1) := by decide +kernel
theorem d_SI_does_38 : decode (kB K_SI_does) 38 = .ok (.iload_n 3, 1) := by decide +kernel
theorem d_SI_does_39 : decode (kB K_SI_does) 39 = .ok (.aload_n 1, 1) := by decide +kernel
theorem d_SI_does_40 : decode (kB K_SI_does) 40 = .ok (.iconst 4, 1) := by decide +kernel
theorem d_SI_does_41 : decode (kB K_SI_does) 41 = .ok (.iaload, 1) := by decide +kernel
theorem d_SI_does_42 : decode (kB K_SI_does) 42 = .ok (.invokevirtual 115, 3) := by decide +kernel
theorem d_SI_does_45 : decode (kB K_SI_does) 45 = .ok (.ifCond .lt 7, 3) := by decide +kernel
theorem d_SI_does_48 : decode (kB K_SI_does) 48 = .ok (.iconst 1, 1) := by decide +kernel
theorem d_SI_does_49 : decode (kB K_SI_does) 49 = .ok (.goto 4, 3) := by decide +kernel
theorem d_SI_does_52 : decode (kB K_SI_does) 52 = .ok (.iconst 0, 1) := by decide +kernel
theorem d_SI_does_53 : decode (kB K_SI_does) 53 = .ok (.ireturn, 1) := by decide +kernel
theorem d_SI_does_54 : decode (kB K_SI_does) 54 = .ok (.aload_n 1, 1) := by decide +kernel
theorem d_SI_does_55 : decode (kB K_SI_does) 55 = .ok (.iconst 3, 1) := by decide +kernel
theorem d_SI_does_56 : decode (kB K_SI_does) 56 = .ok (.iaload, 1) := by decide +kernel
theorem d_SI_does_57 : decode (kB K_SI_does) 57 = .ok (.ifCond .ne 9, 3) := by decide +kernel
theorem d_SI_does_60 : decode (kB K_SI_does) 60 = .ok (.aload_n 1, 1) := by decide +kernel
theorem d_SI_does_61 : decode (kB K_SI_does) 61 = .ok (.iconst 4, 1) := by decide +kernel
theorem d_SI_does_62 : decode (kB K_SI_does) 62 = .ok (.iaload, 1) := by decide +kernel
theorem d_SI_does_63 : decode (kB K_SI_does) 63 = .ok (.goto 42, 3) := by decide +kernel
theorem d_SI_does_66 : decode (kB K_SI_does) 66 = .ok (.aload_n 1, 1) := by decide +kernel
theorem d_SI_does_67 : decode (kB K_SI_does) 67 = .ok (.iconst 3, 1) := by decide +kernel
theorem d_SI_does_68 : decode (kB K_SI_does) 68 = .ok (.iaload, 1) := by decide +kernel
theorem d_SI_does_69 : decode (kB K_SI_does) 69 = .ok (.iconst 1, 1) := by decide +kernel
theorem d_SI_does_70 : decode (kB K_SI_does) 70 = .ok (.if_icmp .ne 17, 3) := by decide +kernel
theorem d_SI_does_73 : decode (kB K_SI_does) 73 = .ok (.aload_n 0, 1) := by decide +kernel
theorem d_SI_does_74 : decode (kB K_SI_does) 74 = .ok (.getfield 52, 3) := by decide +kernel
theorem d_SI_does_77 : decode (kB K_SI_does) 77 = .ok (.bipush 7, 2) := by decide +kernel
theorem d_SI_does_79 : decode (kB K_SI_does) 79 = .ok (.imul, 1) := by decide +kernel
theorem d_SI_does_80 : decode (kB K_SI_does) 80 = .ok (.aload_n 1, 1) := by decide +kernel
theorem d_SI_does_81 : decode (kB K_SI_does) 81 = .ok (.iconst 4, 1) := by decide +kernel
theorem d_SI_does_82 : decode (kB K_SI_does) 82 = .ok (.iaload, 1) := by decide +kernel
theorem d_SI_does_83 : decode (kB K_SI_does) 83 = .ok (.isub, 1) := by decide +kernel
theorem d_SI_does_84 : decode (kB K_SI_does) 84 = .ok (.goto 21, 3) := by decide +kernel
theorem d_SI_does_87 : decode (kB K_SI_does) 87 = .ok (.aload_n 1, 1) := by decide +kernel
theorem d_SI_does_88 : decode (kB K_SI_does) 88 = .ok (.iconst 4, 1) := by decide +kernel
theorem d_SI_does_89 : decode (kB K_SI_does) 89 = .ok (.iaload, 1) := by decide +kernel
theorem d_SI_does_90 : decode (kB K_SI_does) 90 = .ok (.iconst 3, 1) := by decide +kernel
theorem d_SI_does_91 : decode (kB K_SI_does) 91 = .ok (.imul, 1) := by decide +kernel
theorem d_SI_does_92 : decode (kB K_SI_does) 92 = .ok (.aload_n 0, 1) := by decide +kernel
theorem d_SI_does_93 : decode (kB K_SI_does) 93 = .ok (.iload_n 2, 1) := by decide +kernel
theorem d_SI_does_94 : decode (kB K_SI_does) 94 = .ok (.iload_n 3, 1) := by decide +kernel
theorem d_SI_does_95 : decode (kB K_SI_does) 95 = .ok (.invokevirtual 72, 3) := by decide +kernel
theorem d_SI_does_98 : decode (kB K_SI_does) 98 = .ok (.arraylength, 1) := by decide +kernel
theorem d_SI_does_99 : decode (kB K_SI_does) 99 = .ok (.imul, 1) := by decide +kernel
theorem d_SI_does_100 : decode (kB K_SI_does) 100 = .ok (.aload_n 0, 1) := by decide +kernel
theorem d_SI_does_101 : decode (kB K_SI_does) 101 = .ok (.getfield 52, 3) := by decide +kernel
theorem d_SI_does_104 : decode (kB K_SI_does) 104 = .ok (.isub, 1) := by decide +kernel
theorem d_SI_does_105 : decode (kB K_SI_does) 105 = .ok (.istore 4, 2) := by decide +kernel
theorem d_SI_does_107 : decode (kB K_SI_does) 107 = .ok (.aload_n 1, 1) := by decide +kernel
theorem d_SI_does_108 : decode (kB K_SI_does) 108 = .ok (.iconst 0, 1) := by decide +kernel
theorem d_SI_does_109 : decode (kB K_SI_does) 109 = .ok (.iaload, 1) := by decide +kernel
theorem d_SI_does_110 : decode (kB K_SI_does) 110 = .ok (.ifCond .ne 43, 3) := by decide +kernel
theorem d_SI_does_113 : decode (kB K_SI_does) 113 = .ok (.aload_n 0, 1) := by decide +kernel
theorem d_SI_does_114 : decode (kB K_SI_does) 114 = .ok (.iload_n 2, 1) := by decide +kernel
theorem d_SI_does_115 : decode (kB K_SI_does) 115 = .ok (.iload_n 3, 1) := by decide +kernel
theorem d_SI_does_116 : decode (kB K_SI_does) 116 = .ok (.iload 4, 2) := by decide +kernel
theorem d_SI_does_118 : decode (kB K_SI_does) 118 = .ok (.ifCond .ge 7, 3) := by decide +kernel
theorem d_SI_does_121 : decode (kB K_SI_does) 121 = .ok (.iconst 0, 1) := by decide +kernel
theorem d_SI_does_122 : decode (kB K_SI_does) 122 = .ok (.goto 19, 3) := by decide +kernel
theorem d_SI_does_125 : decode (kB K_SI_does) 125 = .ok (.iload 4, 2) := by decide +kernel
theorem d_SI_does_127 : decode (kB K_SI_does) 127 = .ok (.sipush 9999, 3) := by decide +kernel
theorem d_SI_does_130 : decode (kB K_SI_does) 130 = .ok (.if_icmp .le 9, 3) := by decide +kernel
theorem d_SI_does_133 : decode (kB K_SI_does) 133 = .ok (.sipush 9999, 3) := by decide +kernel
theorem d_SI_does_136 : decode (kB K_SI_does) 136 = .ok (.goto 5, 3) := by decide +kernel
theorem d_SI_does_139 : decode (kB K_SI_does) 139 = .ok (.iload 4, 2) := by decide +kernel
theorem d_SI_does_141 : decode (kB K_SI_does) 141 = .ok (.invokevirtual 119, 3) := by decide +kernel
theorem d_SI_does_144 : decode (kB K_SI_does) 144 = .ok (.ifCond .lt 7, 3) := by decide +kernel
theorem d_SI_does_147 : decode (kB K_SI_does) 147 = .ok (.iconst 1, 1) := by decide +kernel
theorem d_SI_does_148 : decode (kB K_SI_does) 148 = .ok (.goto 4, 3) := by decide +kernel
theorem d_SI_does_151 : decode (kB K_SI_does) 151 = .ok (.iconst 0, 1) := by decide +kernel
theorem d_SI_does_152 : decode (kB K_SI_does) 152 = .ok (.ireturn, 1) := by decide +kernel
theorem d_SI_does_153 : decode (kB K_SI_does) 153 = .ok (.iload 4, 2) := by decide +kernel
theorem d_SI_does_155 : decode (kB K_SI_does) 155 = .ok (.ifCond .lt 39, 3) := by decide +kernel
theorem d_SI_does_158 : decode (kB K_SI_does) 158 = .ok (.iload 4, 2) := by decide +kernel
theorem d_SI_does_160 : decode (kB K_SI_does) 160 = .ok (.bipush 16, 2) := by decide +kernel
theorem d_SI_does_162 : decode (kB K_SI_does) 162 = .ok (.if_icmp .ge 32, 3) := by decide +kernel
theorem d_SI_does_165 : decode (kB K_SI_does) 165 = .ok (.aload_n 0, 1) := by decide +kernel
theorem d_SI_does_166 : decode (kB K_SI_does) 166 = .ok (.iload_n 2, 1) := by decide +kernel
theorem d_SI_does_167 : decode (kB K_SI_does) 167 = .ok (.iload_n 3, 1) := by decide +kernel
theorem d_SI_does_168 : decode (kB K_SI_does) 168 = .ok (.invokevirtual 89, 3) := by decide +kernel
theorem d_SI_does_171 : decode (kB K_SI_does) 171 = .ok (.iconst 1, 1) := by decide +kernel
theorem d_SI_does_172 : decode (kB K_SI_does) 172 = .ok (.iload 4, 2) := by decide +kernel
theorem d_SI_does_174 : decode (kB K_SI_does) 174 = .ok (.ishl, 1) := by decide +kernel
theorem d_SI_does_175 : decode (kB K_SI_does) 175 = .ok (.iand, 1) := by decide +kernel
theorem d_SI_does_176 : decode (kB K_SI_does) 176 = .ok (.ifCond .ne 18, 3) := by decide +kernel
theorem d_SI_does_179 : decode (kB K_SI_does) 179 = .ok (.aload_n 0, 1) := by decide +kernel
theorem d_SI_does_180 : decode (kB K_SI_does) 180 = .ok (.iload_n 2, 1) := by decide +kernel
theorem d_SI_does_181 : decode (kB K_SI_does) 181 = .ok (.iload_n 3, 1) := by decide +kernel
theorem d_SI_does_182 : decode (kB K_SI_does) 182 = .ok (.iload 4, 2) := by decide +kernel
theorem d_SI_does_184 : decode (kB K_SI_does) 184 = .ok (.invokevirtual 122, 3) := by decide +kernel
theorem d_SI_does_187 : decode (kB K_SI_does) 187 = .ok (.ifCond .lt 7, 3) := by decide +kernel
theorem d_SI_does_190 : decode (kB K_SI_does) 190 = .ok (.iconst 1, 1) := by decide +kernel
theorem d_SI_does_191 : decode (kB K_SI_does) 191 = .ok (.goto 4, 3) := by decide +kernel
theorem d_SI_does_194 : decode (kB K_SI_does) 194 = .ok (.iconst 0, 1) := by decide +kernel
theorem d_SI_does_195 : decode (kB K_SI_does) 195 = .ok (.ireturn, 1) := by decide +kernel
def K_SI_pass : KM := (⟨"ParishBoardsLaw$Sim", "pass", "()V"⟩, prog_15_method_19_code, 8, none, "ParishBoardsLaw$Sim", ([], []))
theorem d_SI_pass_0 : decode (kB K_SI_pass) 0 = .ok (.aload_n 0, 1) := by decide +kernel
theorem d_SI_pass_1 : decode (kB K_SI_pass) 1 = .ok (.getfield 27, 3) := by decide +kernel
theorem d_SI_pass_4 : decode (kB K_SI_pass) 4 = .ok (.astore_n 1, 1) := by decide +kernel
theorem d_SI_pass_5 : decode (kB K_SI_pass) 5 = .ok (.aload_n 1, 1) := by decide +kernel
theorem d_SI_pass_6 : decode (kB K_SI_pass) 6 = .ok (.arraylength, 1) := by decide +kernel
theorem d_SI_pass_7 : decode (kB K_SI_pass) 7 = .ok (.istore_n 2, 1) := by decide +kernel
theorem d_SI_pass_8 : decode (kB K_SI_pass) 8 = .ok (.iconst 0, 1) := by decide +kernel
theorem d_SI_pass_9 : decode (kB K_SI_pass) 9 = .ok (.istore_n 3, 1) := by decide +kernel
theorem d_SI_pass_10 : decode (kB K_SI_pass) 10 = .ok (.iload_n 3, 1) := by decide +kernel
theorem d_SI_pass_11 : decode (kB K_SI_pass) 11 = .ok (.iload_n 2, 1) := by decide +kernel
theorem d_SI_pass_12 : decode (kB K_SI_pass) 12 = .ok (.if_icmp .ge 42, 3) := by decide +kernel
theorem d_SI_pass_15 : decode (kB K_SI_pass) 15 = .ok (.aload_n 1, 1) := by decide +kernel
theorem d_SI_pass_16 : decode (kB K_SI_pass) 16 = .ok (.iload_n 3, 1) := by decide +kernel
theorem d_SI_pass_17 : decode (kB K_SI_pass) 17 = .ok (.aaload, 1) := by decide +kernel
theorem d_SI_pass_18 : decode (kB K_SI_pass) 18 = .ok (.astore 4, 2) := by decide +kernel
theorem d_SI_pass_20 : decode (kB K_SI_pass) 20 = .ok (.aload_n 0, 1) := by decide +kernel
theorem d_SI_pass_21 : decode (kB K_SI_pass) 21 = .ok (.aload 4, 2) := by decide +kernel
theorem d_SI_pass_23 : decode (kB K_SI_pass) 23 = .ok (.invokevirtual 125, 3) := by decide +kernel
theorem d_SI_pass_26 : decode (kB K_SI_pass) 26 = .ok (.ifCond .eq 22, 3) := by decide +kernel
theorem d_SI_pass_29 : decode (kB K_SI_pass) 29 = .ok (.aload_n 0, 1) := by decide +kernel
theorem d_SI_pass_30 : decode (kB K_SI_pass) 30 = .ok (.aload 4, 2) := by decide +kernel
theorem d_SI_pass_32 : decode (kB K_SI_pass) 32 = .ok (.invokevirtual 129, 3) := by decide +kernel
theorem d_SI_pass_35 : decode (kB K_SI_pass) 35 = .ok (.ifCond .eq 13, 3) := by decide +kernel
theorem d_SI_pass_38 : decode (kB K_SI_pass) 38 = .ok (.aload_n 0, 1) := by decide +kernel
theorem d_SI_pass_39 : decode (kB K_SI_pass) 39 = .ok (.dup, 1) := by decide +kernel
theorem d_SI_pass_40 : decode (kB K_SI_pass) 40 = .ok (.getfield 61, 3) := by decide +kernel
theorem d_SI_pass_43 : decode (kB K_SI_pass) 43 = .ok (.iconst 1, 1) := by decide +kernel
theorem d_SI_pass_44 : decode (kB K_SI_pass) 44 = .ok (.iadd, 1) := by decide +kernel
theorem d_SI_pass_45 : decode (kB K_SI_pass) 45 = .ok (.putfield 61, 3) := by decide +kernel
theorem d_SI_pass_48 : decode (kB K_SI_pass) 48 = .ok (.iinc 3 1, 3) := by decide +kernel
theorem d_SI_pass_51 : decode (kB K_SI_pass) 51 = .ok (.goto (-41), 3) := by decide +kernel
theorem d_SI_pass_54 : decode (kB K_SI_pass) 54 = .ok (.iconst 0, 1) := by decide +kernel
theorem d_SI_pass_55 : decode (kB K_SI_pass) 55 = .ok (.anewarray 7, 3) := by decide +kernel
theorem d_SI_pass_58 : decode (kB K_SI_pass) 58 = .ok (.astore_n 1, 1) := by decide +kernel
theorem d_SI_pass_59 : decode (kB K_SI_pass) 59 = .ok (.aload_n 0, 1) := by decide +kernel
theorem d_SI_pass_60 : decode (kB K_SI_pass) 60 = .ok (.getfield 24, 3) := by decide +kernel
theorem d_SI_pass_63 : decode (kB K_SI_pass) 63 = .ok (.astore_n 2, 1) := by decide +kernel
theorem d_SI_pass_64 : decode (kB K_SI_pass) 64 = .ok (.aload_n 2, 1) := by decide +kernel
theorem d_SI_pass_65 : decode (kB K_SI_pass) 65 = .ok (.arraylength, 1) := by decide +kernel
theorem d_SI_pass_66 : decode (kB K_SI_pass) 66 = .ok (.istore_n 3, 1) := by decide +kernel
theorem d_SI_pass_67 : decode (kB K_SI_pass) 67 = .ok (.iconst 0, 1) := by decide +kernel
theorem d_SI_pass_68 : decode (kB K_SI_pass) 68 = .ok (.istore 4, 2) := by decide +kernel
theorem d_SI_pass_70 : decode (kB K_SI_pass) 70 = .ok (.iload 4, 2) := by decide +kernel
theorem d_SI_pass_72 : decode (kB K_SI_pass) 72 = .ok (.iload_n 3, 1) := by decide +kernel
theorem d_SI_pass_73 : decode (kB K_SI_pass) 73 = .ok (.if_icmp .ge 103, 3) := by decide +kernel
theorem d_SI_pass_76 : decode (kB K_SI_pass) 76 = .ok (.aload_n 2, 1) := by decide +kernel
theorem d_SI_pass_77 : decode (kB K_SI_pass) 77 = .ok (.iload 4, 2) := by decide +kernel
theorem d_SI_pass_79 : decode (kB K_SI_pass) 79 = .ok (.aaload, 1) := by decide +kernel
theorem d_SI_pass_80 : decode (kB K_SI_pass) 80 = .ok (.astore 5, 2) := by decide +kernel
theorem d_SI_pass_82 : decode (kB K_SI_pass) 82 = .ok (.aload 5, 2) := by decide +kernel
theorem d_SI_pass_84 : decode (kB K_SI_pass) 84 = .ok (.iconst 1, 1) := by decide +kernel
theorem d_SI_pass_85 : decode (kB K_SI_pass) 85 = .ok (.iaload, 1) := by decide +kernel
theorem d_SI_pass_86 : decode (kB K_SI_pass) 86 = .ok (.aload_n 0, 1) := by decide +kernel
theorem d_SI_pass_87 : decode (kB K_SI_pass) 87 = .ok (.getfield 52, 3) := by decide +kernel
theorem d_SI_pass_90 : decode (kB K_SI_pass) 90 = .ok (.if_icmp .eq 13, 3) := by decide +kernel
theorem d_SI_pass_93 : decode (kB K_SI_pass) 93 = .ok (.aload_n 1, 1) := by decide +kernel
theorem d_SI_pass_94 : decode (kB K_SI_pass) 94 = .ok (.aload 5, 2) := by decide +kernel
theorem d_SI_pass_96 : decode (kB K_SI_pass) 96 = .ok (.invokestatic 76, 3) := by decide +kernel
theorem d_SI_pass_99 : decode (kB K_SI_pass) 99 = .ok (.astore_n 1, 1) := by decide +kernel
theorem d_SI_pass_100 : decode (kB K_SI_pass) 100 = .ok (.goto 70, 3) := by decide +kernel
theorem d_SI_pass_103 : decode (kB K_SI_pass) 103 = .ok (.aload_n 0, 1) := by decide +kernel
theorem d_SI_pass_104 : decode (kB K_SI_pass) 104 = .ok (.getfield 21, 3) := by decide +kernel
theorem d_SI_pass_107 : decode (kB K_SI_pass) 107 = .ok (.aload 5, 2) := by decide +kernel
theorem d_SI_pass_109 : decode (kB K_SI_pass) 109 = .ok (.iconst 0, 1) := by decide +kernel
theorem d_SI_pass_110 : decode (kB K_SI_pass) 110 = .ok (.iaload, 1) := by decide +kernel
theorem d_SI_pass_111 : decode (kB K_SI_pass) 111 = .ok (.aaload, 1) := by decide +kernel
theorem d_SI_pass_112 : decode (kB K_SI_pass) 112 = .ok (.iconst 1, 1) := by decide +kernel
theorem d_SI_pass_113 : decode (kB K_SI_pass) 113 = .ok (.iaload, 1) := by decide +kernel
theorem d_SI_pass_114 : decode (kB K_SI_pass) 114 = .ok (.istore 6, 2) := by decide +kernel
theorem d_SI_pass_116 : decode (kB K_SI_pass) 116 = .ok (.iconst 2, 1) := by decide +kernel
theorem d_SI_pass_117 : decode (kB K_SI_pass) 117 = .ok (.istore 7, 2) := by decide +kernel
theorem d_SI_pass_119 : decode (kB K_SI_pass) 119 = .ok (.iload 7, 2) := by decide +kernel
theorem d_SI_pass_121 : decode (kB K_SI_pass) 121 = .ok (.aload 5, 2) := by decide +kernel
theorem d_SI_pass_123 : decode (kB K_SI_pass) 123 = .ok (.arraylength, 1) := by decide +kernel
theorem d_SI_pass_124 : decode (kB K_SI_pass) 124 = .ok (.if_icmp .ge 46, 3) := by decide +kernel
theorem d_SI_pass_127 : decode (kB K_SI_pass) 127 = .ok (.aload_n 0, 1) := by decide +kernel
theorem d_SI_pass_128 : decode (kB K_SI_pass) 128 = .ok (.getfield 44, 3) := by decide +kernel
theorem d_SI_pass_131 : decode (kB K_SI_pass) 131 = .ok (.iload 6, 2) := by decide +kernel
theorem d_SI_pass_133 : decode (kB K_SI_pass) 133 = .ok (.aaload, 1) := by decide +kernel
theorem d_SI_pass_134 : decode (kB K_SI_pass) 134 = .ok (.aload 5, 2) := by decide +kernel
theorem d_SI_pass_136 : decode (kB K_SI_pass) 136 = .ok (.iload 7, 2) := by decide +kernel
theorem d_SI_pass_138 : decode (kB K_SI_pass) 138 = .ok (.iaload, 1) := by decide +kernel
theorem d_SI_pass_139 : decode (kB K_SI_pass) 139 = .ok (.dup2, 1) := by decide +kernel
theorem d_SI_pass_140 : decode (kB K_SI_pass) 140 = .ok (.baload, 1) := by decide +kernel
theorem d_SI_pass_141 : decode (kB K_SI_pass) 141 = .ok (.aload_n 0, 1) := by decide +kernel
theorem d_SI_pass_142 : decode (kB K_SI_pass) 142 = .ok (.getfield 38, 3) := by decide +kernel
theorem d_SI_pass_145 : decode (kB K_SI_pass) 145 = .ok (.iload 6, 2) := by decide +kernel
theorem d_SI_pass_147 : decode (kB K_SI_pass) 147 = .ok (.aaload, 1) := by decide +kernel
theorem d_SI_pass_148 : decode (kB K_SI_pass) 148 = .ok (.aload 5, 2) := by decide +kernel
theorem d_SI_pass_150 : decode (kB K_SI_pass) 150 = .ok (.iload 7, 2) := by decide +kernel
theorem d_SI_pass_152 : decode (kB K_SI_pass) 152 = .ok (.iaload, 1) := by decide +kernel
theorem d_SI_pass_153 : decode (kB K_SI_pass) 153 = .ok (.baload, 1) := by decide +kernel
theorem d_SI_pass_154 : decode (kB K_SI_pass) 154 = .ok (.ifCond .ne 7, 3) := by decide +kernel
theorem d_SI_pass_157 : decode (kB K_SI_pass) 157 = .ok (.iconst 1, 1) := by decide +kernel
theorem d_SI_pass_158 : decode (kB K_SI_pass) 158 = .ok (.goto 4, 3) := by decide +kernel
theorem d_SI_pass_161 : decode (kB K_SI_pass) 161 = .ok (.iconst 0, 1) := by decide +kernel
theorem d_SI_pass_162 : decode (kB K_SI_pass) 162 = .ok (.ior, 1) := by decide +kernel
theorem d_SI_pass_163 : decode (kB K_SI_pass) 163 = .ok (.bastore, 1) := by decide +kernel
theorem d_SI_pass_164 : decode (kB K_SI_pass) 164 = .ok (.iinc 7 1, 3) := by decide +kernel
theorem d_SI_pass_167 : decode (kB K_SI_pass) 167 = .ok (.goto (-48), 3) := by decide +kernel
theorem d_SI_pass_170 : decode (kB K_SI_pass) 170 = .ok (.iinc 4 1, 3) := by decide +kernel
theorem d_SI_pass_173 : decode (kB K_SI_pass) 173 = .ok (.goto (-103), 3) := by decide +kernel
theorem d_SI_pass_176 : decode (kB K_SI_pass) 176 = .ok (.aload_n 0, 1) := by decide +kernel
theorem d_SI_pass_177 : decode (kB K_SI_pass) 177 = .ok (.aload_n 1, 1) := by decide +kernel
theorem d_SI_pass_178 : decode (kB K_SI_pass) 178 = .ok (.putfield 24, 3) := by decide +kernel
theorem d_SI_pass_181 : decode (kB K_SI_pass) 181 = .ok (.iconst 0, 1) := by decide +kernel
theorem d_SI_pass_182 : decode (kB K_SI_pass) 182 = .ok (.istore_n 2, 1) := by decide +kernel
theorem d_SI_pass_183 : decode (kB K_SI_pass) 183 = .ok (.iload_n 2, 1) := by decide +kernel
theorem d_SI_pass_184 : decode (kB K_SI_pass) 184 = .ok (.aload_n 0, 1) := by decide +kernel
theorem d_SI_pass_185 : decode (kB K_SI_pass) 185 = .ok (.getfield 30, 3) := by decide +kernel
theorem d_SI_pass_188 : decode (kB K_SI_pass) 188 = .ok (.if_icmp .ge 62, 3) := by decide +kernel
theorem d_SI_pass_191 : decode (kB K_SI_pass) 191 = .ok (.iconst 1, 1) := by decide +kernel
theorem d_SI_pass_192 : decode (kB K_SI_pass) 192 = .ok (.istore_n 3, 1) := by decide +kernel
theorem d_SI_pass_193 : decode (kB K_SI_pass) 193 = .ok (.iload_n 3, 1) := by decide +kernel
theorem d_SI_pass_194 : decode (kB K_SI_pass) 194 = .ok (.ifCond .eq 50, 3) := by decide +kernel
theorem d_SI_pass_197 : decode (kB K_SI_pass) 197 = .ok (.iconst 0, 1) := by decide +kernel
theorem d_SI_pass_198 : decode (kB K_SI_pass) 198 = .ok (.istore_n 3, 1) := by decide +kernel
theorem d_SI_pass_199 : decode (kB K_SI_pass) 199 = .ok (.iconst 0, 1) := by decide +kernel
theorem d_SI_pass_200 : decode (kB K_SI_pass) 200 = .ok (.istore 4, 2) := by decide +kernel
theorem d_SI_pass_202 : decode (kB K_SI_pass) 202 = .ok (.iload 4, 2) := by decide +kernel
theorem d_SI_pass_204 : decode (kB K_SI_pass) 204 = .ok (.aload_n 0, 1) := by decide +kernel
theorem d_SI_pass_205 : decode (kB K_SI_pass) 205 = .ok (.getfield 9, 3) := by decide +kernel
theorem d_SI_pass_208 : decode (kB K_SI_pass) 208 = .ok (.arraylength, 1) := by decide +kernel
theorem d_SI_pass_209 : decode (kB K_SI_pass) 209 = .ok (.if_icmp .ge 32, 3) := by decide +kernel
theorem d_SI_pass_212 : decode (kB K_SI_pass) 212 = .ok (.iload_n 3, 1) := by decide +kernel
theorem d_SI_pass_213 : decode (kB K_SI_pass) 213 = .ok (.ifCond .ne 28, 3) := by decide +kernel
theorem d_SI_pass_216 : decode (kB K_SI_pass) 216 = .ok (.aload_n 0, 1) := by decide +kernel
theorem d_SI_pass_217 : decode (kB K_SI_pass) 217 = .ok (.iload_n 2, 1) := by decide +kernel
theorem d_SI_pass_218 : decode (kB K_SI_pass) 218 = .ok (.iload 4, 2) := by decide +kernel
theorem d_SI_pass_220 : decode (kB K_SI_pass) 220 = .ok (.invokevirtual 132, 3) := by decide +kernel
theorem d_SI_pass_223 : decode (kB K_SI_pass) 223 = .ok (.istore_n 3, 1) := by decide +kernel
theorem d_SI_pass_224 : decode (kB K_SI_pass) 224 = .ok (.iload_n 3, 1) := by decide +kernel
theorem d_SI_pass_225 : decode (kB K_SI_pass) 225 = .ok (.ifCond .eq 10, 3) := by decide +kernel
theorem d_SI_pass_228 : decode (kB K_SI_pass) 228 = .ok (.aload_n 0, 1) := by decide +kernel
theorem d_SI_pass_229 : decode (kB K_SI_pass) 229 = .ok (.iload_n 2, 1) := by decide +kernel
theorem d_SI_pass_230 : decode (kB K_SI_pass) 230 = .ok (.iload 4, 2) := by decide +kernel
theorem d_SI_pass_232 : decode (kB K_SI_pass) 232 = .ok (.invokevirtual 136, 3) := by decide +kernel
theorem d_SI_pass_235 : decode (kB K_SI_pass) 235 = .ok (.iinc 4 1, 3) := by decide +kernel
theorem d_SI_pass_238 : decode (kB K_SI_pass) 238 = .ok (.goto (-36), 3) := by decide +kernel
theorem d_SI_pass_241 : decode (kB K_SI_pass) 241 = .ok (.goto (-48), 3) := by decide +kernel
theorem d_SI_pass_244 : decode (kB K_SI_pass) 244 = .ok (.iinc 2 1, 3) := by decide +kernel
theorem d_SI_pass_247 : decode (kB K_SI_pass) 247 = .ok (.goto (-64), 3) := by decide +kernel
theorem d_SI_pass_250 : decode (kB K_SI_pass) 250 = .ok (.aload_n 0, 1) := by decide +kernel
theorem d_SI_pass_251 : decode (kB K_SI_pass) 251 = .ok (.dup, 1) := by decide +kernel
theorem d_SI_pass_252 : decode (kB K_SI_pass) 252 = .ok (.getfield 52, 3) := by decide +kernel
theorem d_SI_pass_255 : decode (kB K_SI_pass) 255 = .ok (.iconst 1, 1) := by decide +kernel
theorem d_SI_pass_256 : decode (kB K_SI_pass) 256 = .ok (.iadd, 1) := by decide +kernel
theorem d_SI_pass_257 : decode (kB K_SI_pass) 257 = .ok (.putfield 52, 3) := by decide +kernel
theorem d_SI_pass_260 : decode (kB K_SI_pass) 260 = .ok (.return_, 1) := by decide +kernel
def K_SI_pass_ : KM := (⟨"ParishBoardsLaw$Sim", "pass", "(I)LParishBoardsLaw$Sim;"⟩, prog_15_method_20_code, 3, (some (.object "ParishBoardsLaw$Sim")), "ParishBoardsLaw$Sim", ([], []))
theorem d_SI_pass__0 : decode (kB K_SI_pass_) 0 = .ok (.iconst 0, 1) := by decide +kernel
theorem d_SI_pass__1 : decode (kB K_SI_pass_) 1 = .ok (.istore_n 2, 1) := by decide +kernel
theorem d_SI_pass__2 : decode (kB K_SI_pass_) 2 = .ok (.iload_n 2, 1) := by decide +kernel
theorem d_SI_pass__3 : decode (kB K_SI_pass_) 3 = .ok (.iload_n 1, 1) := by decide +kernel
theorem d_SI_pass__4 : decode (kB K_SI_pass_) 4 = .ok (.if_icmp .ge 13, 3) := by decide +kernel
theorem d_SI_pass__7 : decode (kB K_SI_pass_) 7 = .ok (.aload_n 0, 1) := by decide +kernel
theorem d_SI_pass__8 : decode (kB K_SI_pass_) 8 = .ok (.invokevirtual 140, 3) := by decide +kernel
theorem d_SI_pass__11 : decode (kB K_SI_pass_) 11 = .ok (.iinc 2 1, 3) := by decide +kernel
theorem d_SI_pass__14 : decode (kB K_SI_pass_) 14 = .ok (.goto (-12), 3) := by decide +kernel
theorem d_SI_pass__17 : decode (kB K_SI_pass_) 17 = .ok (.aload_n 0, 1) := by decide +kernel
theorem d_SI_pass__18 : decode (kB K_SI_pass_) 18 = .ok (.areturn, 1) := by decide +kernel
def K_SI_allKnown : KM := (⟨"ParishBoardsLaw$Sim", "allKnown", "()I"⟩, prog_15_method_21_code, 6, (some (.int)), "ParishBoardsLaw$Sim", ([], []))
theorem d_SI_allKnown_0 : decode (kB K_SI_allKnown) 0 = .ok (.iconst 0, 1) := by decide +kernel
theorem d_SI_allKnown_1 : decode (kB K_SI_allKnown) 1 = .ok (.istore_n 1, 1) := by decide +kernel
theorem d_SI_allKnown_2 : decode (kB K_SI_allKnown) 2 = .ok (.aload_n 0, 1) := by decide +kernel
theorem d_SI_allKnown_3 : decode (kB K_SI_allKnown) 3 = .ok (.getfield 38, 3) := by decide +kernel
theorem d_SI_allKnown_6 : decode (kB K_SI_allKnown) 6 = .ok (.astore_n 2, 1) := by decide +kernel
theorem d_SI_allKnown_7 : decode (kB K_SI_allKnown) 7 = .ok (.aload_n 2, 1) := by decide +kernel
theorem d_SI_allKnown_8 : decode (kB K_SI_allKnown) 8 = .ok (.arraylength, 1) := by decide +kernel
theorem d_SI_allKnown_9 : decode (kB K_SI_allKnown) 9 = .ok (.istore_n 3, 1) := by decide +kernel
theorem d_SI_allKnown_10 : decode (kB K_SI_allKnown) 10 = .ok (.iconst 0, 1) := by decide +kernel
theorem d_SI_allKnown_11 : decode (kB K_SI_allKnown) 11 = .ok (.istore 4, 2) := by decide +kernel
theorem d_SI_allKnown_13 : decode (kB K_SI_allKnown) 13 = .ok (.iload 4, 2) := by decide +kernel
theorem d_SI_allKnown_15 : decode (kB K_SI_allKnown) 15 = .ok (.iload_n 3, 1) := by decide +kernel
theorem d_SI_allKnown_16 : decode (kB K_SI_allKnown) 16 = .ok (.if_icmp .ge 23, 3) := by decide +kernel
theorem d_SI_allKnown_19 : decode (kB K_SI_allKnown) 19 = .ok (.aload_n 2, 1) := by decide +kernel
theorem d_SI_allKnown_20 : decode (kB K_SI_allKnown) 20 = .ok (.iload 4, 2) := by decide +kernel
theorem d_SI_allKnown_22 : decode (kB K_SI_allKnown) 22 = .ok (.aaload, 1) := by decide +kernel
theorem d_SI_allKnown_23 : decode (kB K_SI_allKnown) 23 = .ok (.astore 5, 2) := by decide +kernel
theorem d_SI_allKnown_25 : decode (kB K_SI_allKnown) 25 = .ok (.iload_n 1, 1) := by decide +kernel
theorem d_SI_allKnown_26 : decode (kB K_SI_allKnown) 26 = .ok (.aload 5, 2) := by decide +kernel
theorem d_SI_allKnown_28 : decode (kB K_SI_allKnown) 28 = .ok (.invokestatic 102, 3) := by decide +kernel
theorem d_SI_allKnown_31 : decode (kB K_SI_allKnown) 31 = .ok (.iadd, 1) := by decide +kernel
theorem d_SI_allKnown_32 : decode (kB K_SI_allKnown) 32 = .ok (.istore_n 1, 1) := by decide +kernel
theorem d_SI_allKnown_33 : decode (kB K_SI_allKnown) 33 = .ok (.iinc 4 1, 3) := by decide +kernel
theorem d_SI_allKnown_36 : decode (kB K_SI_allKnown) 36 = .ok (.goto (-23), 3) := by decide +kernel
theorem d_SI_allKnown_39 : decode (kB K_SI_allKnown) 39 = .ok (.iload_n 1, 1) := by decide +kernel
theorem d_SI_allKnown_40 : decode (kB K_SI_allKnown) 40 = .ok (.ireturn, 1) := by decide +kernel
